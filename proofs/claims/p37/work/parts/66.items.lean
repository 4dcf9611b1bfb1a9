/-! Items and traces as they lie in a state. -/
def py_Ri (S : pw_S) (j : Nat) (I : py_I) : Prop := S 51 j 4 = Int32.ofNat (pi_n I) ∧ pi_n I ≤ 14 ∧ ∀ k, k < pi_n I → S 2 j k = Int32.ofNat (pi_k I k) ∧ S 3 j k = Int32.ofNat (pi_a I k) ∧ S 4 j k = Int32.ofNat (pi_b I k) ∧ S 5 j k = Int32.ofNat (pi_c I k) ∧ pi_k I k ≤ 9 ∧ pi_a I k < 127 ∧ pi_b I k < 127 ∧ pi_c I k < 100
theorem py_Ri.cong {S S' : pw_S} {j : Nat} {I : py_I} (h : py_Ri S j I) (e1 : S' 51 j = S 51 j) (e2 : S' 2 j = S 2 j) (e3 : S' 3 j = S 3 j) (e4 : S' 4 j = S 4 j) (e5 : S' 5 j = S 5 j) : py_Ri S' j I := by
  unfold py_Ri at h ⊢
  rw [e1, e2, e3, e4, e5]
  exact h
theorem pk_kind {S : pw_S} {j : Nat} {I : py_I} (h : py_Ri S j I) {k : Nat} (hk : k < pi_n I) : m_X2_kind S j (Int32.ofNat k) = some (S, Int32.ofNat (pi_k I k)) := by
  obtain ⟨h1, h2, h3⟩ := h
  unfold m_X2_kind
  rw [h1, py_je (by omega) (by omega), if_neg (by omega), py_atI S 2 j k _ (show k < 14 by omega), (h3 k hk).1, py_b]
theorem pk_kind_over {S : pw_S} {j : Nat} {I : py_I} (h : py_Ri S j I) {k : Nat} (hk : pi_n I ≤ k) (hk2 : k < 2147483648) : m_X2_kind S j (Int32.ofNat k) = some (S, -1) := by
  obtain ⟨h1, h2, h3⟩ := h
  unfold m_X2_kind
  rw [h1, py_je (by omega) (by omega), if_pos hk]
theorem pk_a {S : pw_S} {j : Nat} {I : py_I} (h : py_Ri S j I) {k : Nat} (hk : k < pi_n I) : m_X2_a S j (Int32.ofNat k) = some (S, Int32.ofNat (pi_a I k)) := by
  obtain ⟨h1, h2, h3⟩ := h
  unfold m_X2_a
  rw [py_atI S 3 j k _ (show k < 14 by omega), (h3 k hk).2.1, py_b]
theorem pk_b {S : pw_S} {j : Nat} {I : py_I} (h : py_Ri S j I) {k : Nat} (hk : k < pi_n I) : m_X2_b S j (Int32.ofNat k) = some (S, Int32.ofNat (pi_b I k)) := by
  obtain ⟨h1, h2, h3⟩ := h
  unfold m_X2_b
  rw [py_atI S 4 j k _ (show k < 14 by omega), (h3 k hk).2.2.1, py_b]
theorem pk_c {S : pw_S} {j : Nat} {I : py_I} (h : py_Ri S j I) {k : Nat} (hk : k < pi_n I) : m_X2_c S j (Int32.ofNat k) = some (S, Int32.ofNat (pi_c I k)) := by
  obtain ⟨h1, h2, h3⟩ := h
  unfold m_X2_c
  rw [py_atI S 5 j k _ (show k < 14 by omega), (h3 k hk).2.2.2.1, py_b]
theorem pk_hs {S : pw_S} {j : Nat} {I : py_I} (h : py_Ri S j I) {k : Nat} (hk : k < pi_n I) : m_X2_hasSlot S j (Int32.ofNat k) = some (S, if pi_hs (pi_k I k) then 1 else 0) := by
  have h9 := (h.2.2 k hk).2.2.2.2.1
  unfold m_X2_hasSlot
  rw [pk_kind h hk, py_b, py_l]
  generalize pi_k I k = K at h9
  have e : K = 0 ∨ K = 1 ∨ K = 2 ∨ K = 3 ∨ K = 4 ∨ K = 5 ∨ K = 6 ∨ K = 7 ∨ K = 8 ∨ K = 9 := by omega
  rcases e with rfl | rfl | rfl | rfl | rfl | rfl | rfl | rfl | rfl | rfl <;> rfl
theorem pk_em {S : pw_S} {j : Nat} {I : py_I} (h : py_Ri S j I) {k : Nat} (hk : k < pi_n I) : m_X2_embraces S j (Int32.ofNat k) = some (S, if pi_k I k = 7 ∨ pi_k I k = 8 then 1 else 0) := by
  have h9 := (h.2.2 k hk).2.2.2.2.1
  unfold m_X2_embraces
  simp only [pk_kind h hk, py_b]
  generalize pi_k I k = K at h9
  have e : K = 0 ∨ K = 1 ∨ K = 2 ∨ K = 3 ∨ K = 4 ∨ K = 5 ∨ K = 6 ∨ K = 7 ∨ K = 8 ∨ K = 9 := by omega
  rcases e with rfl | rfl | rfl | rfl | rfl | rfl | rfl | rfl | rfl | rfl <;> rfl
theorem pk_dn {j n : Nat} (hj : j < n) (hn : n < 2147483648) : pw_dn n (Int32.ofNat j) = j := by
  unfold pw_dn
  rw [py_cl (by omega)]
  exact Nat.mod_eq_of_lt hj
/-- the number of a loop, from 1; none is -1 -/
def py_lp (l : Nat) : Int32 := if l = 0 then -1 else Int32.ofNat (l - 1)
def py_Rt (S : pw_S) (i : Nat) (T : py_T) : Prop := (∀ k, k < 24 → S 0 i k = pt_v T k) ∧ (∀ k, k < 8 → S 1 i k = pt_s T k) ∧ S 50 i 2 = Int32.ofNat (pt_it T) ∧ S 50 i 3 = py_lp (pt_lp T) ∧ S 50 i 4 = Int32.ofNat (pt_tm T) ∧ S 50 i 5 = Int32.ofNat (pt_rd T) ∧ S 50 i 6 = Int32.ofNat (pt_ln T) ∧ S 50 i 7 = Int32.ofNat (pt_dg T) ∧ S 50 i 8 = Int32.ofNat (pt_sm T)
theorem py_Rt.cong {S S' : pw_S} {i : Nat} {T : py_T} (h : py_Rt S i T) (e0 : S' 0 i = S 0 i) (e1 : S' 1 i = S 1 i) (e2 : S' 50 i = S 50 i) : py_Rt S' i T := by
  unfold py_Rt at h ⊢
  rw [e0, e1, e2]
  exact h
/-- the cells of one trace -/
def py_KT (i a b : Nat) : Bool := (Nat.beq a 50 || (Nat.beq a 0 || Nat.beq a 1)) && Nat.beq b i
theorem py_KT_n {i a b : Nat} (h : b ≠ i) : py_KT i a b = false := by
  unfold py_KT
  cases hb : Nat.beq b i with
  | false => rw [Bool.and_false]
  | true => exact absurd (Nat.eq_of_beq_eq_true hb) h
theorem py_KT_50 (i : Nat) : py_KT i 50 i = true := by
  unfold py_KT
  rw [Nat.beq_refl i]
  rfl
theorem py_KT_0 (i : Nat) : py_KT i 0 i = true := by
  unfold py_KT
  rw [Nat.beq_refl i]
  rfl
theorem py_KT_1 (i : Nat) : py_KT i 1 i = true := by
  unfold py_KT
  rw [Nat.beq_refl i]
  rfl
theorem py_fr.Ri {i j : Nat} {S S' : pw_S} {I : py_I} (h : py_fr (py_KT i) S S') (hI : py_Ri S j I) : py_Ri S' j I := hI.cong (h 51 j rfl) (h 2 j rfl) (h 3 j rfl) (h 4 j rfl) (h 5 j rfl)
theorem py_fr.Rt {i k : Nat} {S S' : pw_S} {T : py_T} (h : py_fr (py_KT i) S S') (hk : k ≠ i) (hT : py_Rt S k T) : py_Rt S' k T := hT.cong (h 0 k (py_KT_n hk)) (h 1 k (py_KT_n hk)) (h 50 k (py_KT_n hk))
theorem pk_over {S : pw_S} {i j : Nat} {I : py_I} {T : py_T} (hI : py_Ri S j I) (hT : py_Rt S i T) (hp : pt_it T ≤ 14) : m_X8_isOver S i j = some (S, if pi_n I ≤ pt_it T then 1 else 0) := by
  unfold m_X8_isOver
  rw [hT.2.2.1, hI.1, py_jl (by omega) (by have := hI.2.1; omega)]
  by_cases h : pi_n I ≤ pt_it T
  · rw [if_neg (by omega), if_pos h]
  · rw [if_pos (by omega), if_neg h]
theorem pk_restart (S : pw_S) (i : Nat) : ∃ S', m_X8_restart S i = some (S', ()) ∧ py_fr (py_KT i) S S' ∧ py_Rt S' i pt_0 := by
  unfold m_X8_restart
  rw [py_fill, py_b, py_fill, py_b, py_l]
  unfold m_X8_leaveLoop
  simp only [py_l, py_b, py_up_s, py_up_u]
  refine ⟨_, rfl, ((py_fr_r.up (py_KT_0 i)).up (py_KT_1 i)).up (py_KT_50 i), ?_⟩
  refine ⟨fun k hk => ?_, fun k hk => ?_, ?_⟩
  · rw [py_up_k _ _ rfl, py_up_k _ _ rfl, py_up_s, if_pos (show k < pw_len 0 from hk)]
    rfl
  · rw [py_up_k _ _ rfl, py_up_s, if_pos (show k < pw_len 1 from hk)]
    rfl
  · rw [py_up_s]
    exact ⟨rfl, rfl, rfl, rfl, rfl, rfl, rfl⟩
theorem pk_copy (S : pw_S) {i k : Nat} (hne : i ≠ k) {T : py_T} (hT : py_Rt S k T) : ∃ S', m_X8_copyFrom S i k = some (S', ()) ∧ py_fr (py_KT i) S S' ∧ py_Rt S' i T := by
  obtain ⟨h0, h1, h2, h3, h4, h5, h6, h7, h8⟩ := hT
  have hb : Nat.beq k i = false := by
    cases hb : Nat.beq k i with
    | false => rfl
    | true => exact absurd (Nat.eq_of_beq_eq_true hb).symm hne
  unfold m_X8_copyFrom
  rw [show (0 : Int32) = Int32.ofNat 0 from rfl, show (24 : Int32) = Int32.ofNat 24 from rfl, show (8 : Int32) = Int32.ofNat 8 from rfl]
  rw [py_cpy S 0 k 0 0 i 0 24 (by omega) (by decide) (by decide) (by rw [hb]; rfl), py_b]
  rw [py_cpy _ 1 k 0 1 i 0 8 (by omega) (by decide) (by decide) (by rw [hb]; rfl), py_b]
  have hk : ∀ (S : pw_S) (a : Nat) (d : Nat → Int32) (b : Nat), pw_up S a i d b k = S b k := fun S a d b => py_up_i S d (fun z => hne z.symm)
  simp only [py_l, py_up_s, py_up_u, hk]
  refine ⟨_, rfl, ((py_fr_r.up (py_KT_0 i)).up (py_KT_1 i)).up (py_KT_50 i), fun c hc => ?_, fun c hc => ?_, ?_⟩
  · rw [py_up_k _ _ rfl, py_up_k _ _ rfl, py_up_s, ← h0 c hc]
    unfold va_cpy
    rw [if_pos (by omega)]
    congr 1
    omega
  · rw [py_up_k _ _ rfl, py_up_s, ← h1 c hc]
    unfold va_cpy
    rw [if_pos (by omega)]
    congr 1
    omega
  · rw [py_up_s]
    exact ⟨h2, h3, h4, h5, h6, h7, h8⟩
theorem py_dig_eq (S : pw_S) (u : Int32) : m_X11_isDigit S u = some (S, if 48 ≤ u ∧ u ≤ 57 then 1 else 0) := py_btw S u 48 57
theorem pk_app {S : pw_S} {i : Nat} {T : py_T} (hT : py_Rt S i T) (hu : pt_gu T) (u : Int32) : ∃ S', m_X8_append S i u = some (S', ()) ∧ py_fr (py_KT i) S S' ∧ py_Rt S' i (pt_app T u) := by
  obtain ⟨h0, h1, h2, h3, h4, h5, h6, h7, h8⟩ := hT
  obtain ⟨u1, u2, u3, u4⟩ := hu
  unfold m_X8_append pt_app
  rw [py_l, py_dig_eq, py_b, py_up_s, h6, py_add1]
  by_cases hd : 48 ≤ u ∧ u ≤ 57
  · rw [if_pos hd, if_pos hd, if_neg (by decide), py_l, py_up_u]
    obtain ⟨d1, d2⟩ := hd
    have hn : ¬ u < 0 := by
      rw [Int32.lt_iff_toInt_lt]
      rw [Int32.le_iff_toInt_le] at d1
      have q6 : (0 : Int32).toInt = 0 := rfl
      have q3 : (48 : Int32).toInt = 48 := rfl
      omega
    obtain ⟨e1, e2⟩ := py_nn hn
    generalize u.toNatClampNeg = w at e1 e2
    subst e1
    rw [show (48 : Int32) = Int32.ofNat 48 from rfl, py_le (by omega) (by omega)] at d1
    rw [show (57 : Int32) = Int32.ofNat 57 from rfl, py_le (by omega) (by omega)] at d2
    have e7 : upd (S 50 i) 6 (Int32.ofNat (pt_ln T + 1)) 7 = Int32.ofNat (pt_dg T) := (py_u_b _ _ rfl).trans h7
    have e8 : ∀ x, upd (upd (S 50 i) 6 (Int32.ofNat (pt_ln T + 1))) 7 x 8 = Int32.ofNat (pt_sm T) := fun x => (py_u_b _ _ rfl).trans ((py_u_b _ _ rfl).trans h8)
    simp only [py_up_s, py_u_s, py_up_u, py_l, e7, e8]
    have hm : Int32.ofNat (pt_dg T + 1) - Int32.ofNat (pt_dg T + 1) / 2 * 2 = Int32.ofNat ((pt_dg T + 1) % 2) := py_mod (b := 2) (by omega) (by omega)
    have hs : Int32.ofNat w - 48 = Int32.ofNat (w - 48) := py_sub (b := 48) d1
    have h1' : (1 : Int32) * Int32.ofNat (w - 48) = Int32.ofNat (1 * (w - 48)) := py_mul 1 _
    have h3' : (3 : Int32) * Int32.ofNat (w - 48) = Int32.ofNat (3 * (w - 48)) := py_mul 3 _
    rw [py_add1, hm, hs, h1', h3', py_add, py_add, show (1 : Int32) = Int32.ofNat 1 from rfl, py_jq (by omega) (by omega)]
    have fin : ∀ x, py_Rt (pw_up S 50 i (upd (upd (upd (S 50 i) 6 (Int32.ofNat (pt_ln T + 1))) 7 (Int32.ofNat (pt_dg T + 1))) 8 (Int32.ofNat x))) i (pt_v T, pt_s T, pt_it T, pt_lp T, pt_tm T, pt_rd T, pt_ln T + 1, pt_dg T + 1, x) := fun x => by
      refine ⟨fun c hc => ?_, fun c hc => ?_, ?_⟩
      · rw [py_up_k _ _ rfl]
        exact h0 c hc
      · rw [py_up_k _ _ rfl]
        exact h1 c hc
      · rw [py_up_s]
        exact ⟨h2, h3, h4, h5, rfl, rfl, rfl⟩
    by_cases ho : (pt_dg T + 1) % 2 = 1
    · rw [if_pos ho, if_pos ho]
      exact ⟨_, rfl, py_fr_r.up (py_KT_50 i), fin _⟩
    · rw [if_neg ho, if_neg ho]
      exact ⟨_, rfl, py_fr_r.up (py_KT_50 i), fin _⟩
  · rw [if_neg hd, if_neg hd, if_pos rfl]
    refine ⟨_, rfl, py_fr_r.up (py_KT_50 i), fun c hc => ?_, fun c hc => ?_, ?_⟩
    · rw [py_up_k _ _ rfl]
      exact h0 c hc
    · rw [py_up_k _ _ rfl]
      exact h1 c hc
    · rw [py_up_s]
      exact ⟨h2, h3, h4, h5, rfl, h7, h8⟩
theorem pk_fin {S : pw_S} {i j : Nat} {I : py_I} {T : py_T} (hI : py_Ri S j I) (hT : py_Rt S i T) (hp : pt_it T < pi_n I) (hl : pt_lp T ≤ pi_n I) (htm : pt_tm T ≤ 3) (hrd : pt_rd T < 3) : ∃ S', m_X8_finish S i j = some (S', ()) ∧ py_fr (py_KT i) S S' ∧ py_Rt S' i (pt_fin I T) := by
  obtain ⟨h0, h1, h2, h3, h4, h5, h6, h7, h8⟩ := hT
  have hI14 := hI.2.1
  unfold m_X8_finish pt_fin
  have e3 : ∀ x, upd (S 50 i) 2 x 3 = py_lp (pt_lp T) := fun x => (py_u_b _ _ rfl).trans h3
  have e4 : ∀ x, upd (S 50 i) 2 x 4 = Int32.ofNat (pt_tm T) := fun x => (py_u_b _ _ rfl).trans h4
  have e5 : ∀ x, upd (S 50 i) 2 x 5 = Int32.ofNat (pt_rd T) := fun x => (py_u_b _ _ rfl).trans h5
  rw [py_l, h2, py_add1]
  simp only [py_up_s, e3]
  have keep : ∀ (d : Nat → Int32) (it lp tm rd : Nat), d 2 = Int32.ofNat it → d 3 = py_lp lp → d 4 = Int32.ofNat tm → d 5 = Int32.ofNat rd → d 6 = S 50 i 6 → d 7 = S 50 i 7 → d 8 = S 50 i 8 → py_Rt (pw_up S 50 i d) i (pt_v T, pt_s T, it, lp, tm, rd, pt_ln T, pt_dg T, pt_sm T) := fun d it lp tm rd d2 d3 d4 d5 d6 d7 d8 => by
    refine ⟨fun c hc => ?_, fun c hc => ?_, ?_⟩
    · rw [py_up_k _ _ rfl]
      exact h0 c hc
    · rw [py_up_k _ _ rfl]
      exact h1 c hc
    · rw [py_up_s]
      exact ⟨d2, d3, d4, d5, d6.trans h6, d7.trans h7, d8.trans h8⟩
  by_cases e : pt_lp T = 0
  · rw [if_pos e, if_pos (by rw [e]; decide)]
    exact ⟨_, rfl, py_fr_r.up (py_KT_50 i), keep _ _ _ _ _ rfl ((e3 _).trans (by rw [e])) (e4 _) (e5 _) rfl rfl rfl⟩
  · obtain ⟨l, hl9⟩ : ∃ l, pt_lp T = l + 1 := ⟨pt_lp T - 1, by omega⟩
    have hlp : py_lp (pt_lp T) = Int32.ofNat l := by
      rw [hl9]
      rfl
    have hI1 : py_Ri (pw_up S 50 i (upd (S 50 i) 2 (Int32.ofNat (pt_it T + 1)))) j I := hI.cong (py_up_k _ _ rfl) (py_up_k _ _ rfl) (py_up_k _ _ rfl) (py_up_k _ _ rfl) (py_up_k _ _ rfl)
    have hbl : pi_b I l < 127 := (hI.2.2 l (by omega)).2.2.2.2.2.2.1
    rw [if_neg e, hlp, py_jn (by omega), pk_b hI1 (by omega), py_b, py_add]
    simp only [py_up_s, py_u_s, e4, e5]
    rw [py_jl (by omega) (by omega), py_add1, py_je (by omega) (by omega), hl9]
    show ∃ S', _ ∧ _ ∧ py_Rt S' i (if pt_it T + 1 ≤ l + pi_b I l then _ else if pt_rd T + 1 < pt_tm T then _ else _)
    by_cases e2 : pt_it T + 1 ≤ l + pi_b I l
    · rw [if_neg (by omega), if_pos e2]
      exact ⟨_, rfl, py_fr_r.up (py_KT_50 i), keep _ _ _ _ _ rfl ((e3 _).trans (by rw [hl9])) (e4 _) (e5 _) rfl rfl rfl⟩
    · rw [if_pos (by omega), if_neg e2]
      by_cases e9 : pt_rd T + 1 < pt_tm T
      · rw [if_neg (by omega), if_pos e9, py_l, py_l, py_up_s, py_up_u, py_u_b _ _ rfl, e3, hlp, py_add1]
        simp only [py_up_u]
        exact ⟨_, rfl, py_fr_r.up (py_KT_50 i), keep _ _ _ _ _ (by rfl) (by show S 50 i 3 = _; rw [h3, hl9]) (by show S 50 i 4 = _; rw [h4]) (by rfl) (by rfl) (by rfl) (by rfl)⟩
      · rw [if_pos (by omega), if_neg e9]
        unfold m_X8_leaveLoop
        simp only [py_l, py_b, py_up_s, py_up_u]
        exact ⟨_, rfl, py_fr_r.up (py_KT_50 i), keep _ _ _ _ _ rfl rfl rfl rfl rfl rfl rfl⟩
theorem py_cp0 (S : pw_S) (k : Nat) : m_X11_cellPlace S (Int32.ofNat k) 0 = some (S, Int32.ofNat (k * 3)) := py_cp S k 0
theorem py_10 : ¬ (1 : Int32) = 0 := by decide
theorem pk_ent {S : pw_S} {i j : Nat} {I : py_I} {T : py_T} (hI : py_Ri S j I) (hT : py_Rt S i T) (hn : pt_it T < pi_n I) (ha : pi_a I (pt_it T) < 8) (h78 : pi_k I (pt_it T) = 7 ∨ pi_k I (pt_it T) = 8) : ∃ S', m_X8_enter S i j = some (S', ()) ∧ py_fr (py_KT i) S S' ∧ py_Rt S' i (pt_ent I T) := by
  obtain ⟨h0, h1, h2, h3, h4, h5, h6, h7, h8⟩ := hT
  have hI14 := hI.2.1
  have hv : S 0 i (pi_a I (pt_it T) * 3) = pt_v T (pi_a I (pt_it T) * 3) := h0 _ (by omega)
  have keep : ∀ (d : Nat → Int32) (it lp tm rd : Nat), d 2 = Int32.ofNat it → d 3 = py_lp lp → d 4 = Int32.ofNat tm → d 5 = Int32.ofNat rd → d 6 = S 50 i 6 → d 7 = S 50 i 7 → d 8 = S 50 i 8 → py_Rt (pw_up S 50 i d) i (pt_v T, pt_s T, it, lp, tm, rd, pt_ln T, pt_dg T, pt_sm T) := fun d it lp tm rd d2 d3 d4 d5 d6 d7 d8 => by
    refine ⟨fun c hc => ?_, fun c hc => ?_, ?_⟩
    · rw [py_up_k _ _ rfl]
      exact h0 c hc
    · rw [py_up_k _ _ rfl]
      exact h1 c hc
    · rw [py_up_s]
      exact ⟨d2, d3, d4, d5, d6.trans h6, d7.trans h7, d8.trans h8⟩
  have e9 : (1 : Int32) + Int32.ofNat (pi_b I (pt_it T)) = Int32.ofNat (1 + pi_b I (pt_it T)) := py_add 1 _
  unfold m_X8_enter pt_ent
  simp only [h2]
  rw [pk_a hI hn, py_b, py_cp0, py_b, py_atI _ _ _ _ _ (show pi_a I (pt_it T) * 3 < 24 by omega), py_b, py_l, hv]
  simp only [h2]
  rw [pk_kind hI hn, py_b]
  generalize hx : pt_v T (pi_a I (pt_it T) * 3) = x
  rcases h78 with hk | hk
  · rw [hk, if_pos (show Int32.ofNat 7 = 7 from rfl), if_pos rfl]
    simp only [py_l, if_neg py_10, h2]
    rw [py_btw, py_b]
    by_cases hc : 1 ≤ x ∧ x ≤ 3
    · rw [if_pos hc, if_pos hc]
      simp only [if_neg py_10, py_up_s, py_up_u]
      obtain ⟨q1, q2⟩ := hc
      have hn9 : ¬ x < 0 := by
        rw [Int32.lt_iff_toInt_lt]
        rw [Int32.le_iff_toInt_le] at q1
        have q3 : (1 : Int32).toInt = 1 := rfl
        have q4 : (0 : Int32).toInt = 0 := rfl
        omega
      refine ⟨_, rfl, py_fr_r.up (py_KT_50 i), keep _ _ _ _ _ ?_ ?_ ?_ rfl rfl rfl rfl⟩
      · show S 50 i 2 + 1 = _
        rw [h2, py_add1]
      · show S 50 i 2 = _
        rw [h2]
        rfl
      · exact (py_nn hn9).1
    · rw [if_neg hc, if_neg hc]
      simp only [if_true, h2]
      rw [pk_b hI hn, py_b]
      refine ⟨_, rfl, py_fr_r.up (py_KT_50 i), keep _ _ _ _ _ ?_ h3 h4 h5 rfl rfl rfl⟩
      show Int32.ofNat (pt_it T) + (1 + Int32.ofNat (pi_b I (pt_it T))) = _
      rw [e9, py_add]
  · rw [hk, if_neg (show ¬ Int32.ofNat 8 = 7 by decide), if_neg (by decide)]
    simp only [py_l, if_true, h2]
    rw [pk_c hI hn, py_b]
    by_cases hc : x = Int32.ofNat (pi_c I (pt_it T))
    · rw [if_pos hc, if_pos hc]
      simp only [if_neg py_10, if_true, h2]
      refine ⟨_, rfl, py_fr_r.up (py_KT_50 i), keep _ _ _ _ _ ?_ h3 h4 h5 rfl rfl rfl⟩
      show Int32.ofNat (pt_it T) + 1 = _
      rw [py_add1]
    · rw [if_neg hc, if_neg hc]
      simp only [if_true, h2]
      rw [pk_b hI hn, py_b]
      refine ⟨_, rfl, py_fr_r.up (py_KT_50 i), keep _ _ _ _ _ ?_ h3 h4 h5 rfl rfl rfl⟩
      show Int32.ofNat (pt_it T) + (1 + Int32.ofNat (pi_b I (pt_it T))) = _
      rw [e9, py_add]
theorem pk_keep {S : pw_S} {i : Nat} {T : py_T} (hT : py_Rt S i T) {s : Nat} (hs : s < 8) (hr : pt_rd T < 3) (x : Int32) : ∃ S', m_X8_keep S i (Int32.ofNat s) x = some (S', ()) ∧ py_fr (py_KT i) S S' ∧ py_Rt S' i (pt_keep T s x) := by
  obtain ⟨h0, h1, h2, h3, h4, h5, h6, h7, h8⟩ := hT
  unfold m_X8_keep pt_keep
  simp only [h5]
  rw [py_cell _ _ _ (by omega) (by omega), py_b, if_pos (show s < 8 ∧ pt_rd T < 3 from ⟨hs, hr⟩), if_neg py_10, h5, py_cp, py_b, py_putI _ _ _ _ _ (show s * 3 + pt_rd T < 24 by omega), py_b]
  refine ⟨_, rfl, py_fr_r.up (py_KT_0 i), fun c hc => ?_, fun c hc => ?_, ?_⟩
  · rw [py_up_s]
    by_cases e : c = s * 3 + pt_rd T
    · rw [e, py_u_s]
      exact (py_u_s _ _ _).symm
    · rw [py_u_n _ _ e, h0 c hc]
      exact (py_u_n _ _ e).symm
  · rw [py_up_k _ _ rfl]
    exact h1 c hc
  · rw [py_up_k _ _ rfl]
    exact ⟨h2, h3, h4, h5, h6, h7, h8⟩
theorem pk_start {S : pw_S} {i : Nat} {T : py_T} (hT : py_Rt S i T) {s : Nat} (hs : s < 8) : m_X8_startOf S i (Int32.ofNat s) = some (S, pt_s T s) := by
  unfold m_X8_startOf
  rw [py_atI _ _ _ _ _ (show s < 8 from hs), py_b, hT.2.1 s hs]
theorem pk_beg {S : pw_S} {i : Nat} {T : py_T} (hT : py_Rt S i T) {s : Nat} (hs : s < 8) : ∃ S', m_X8_begin S i (Int32.ofNat s) = some (S', ()) ∧ py_fr (py_KT i) S S' ∧ py_Rt S' i (pt_beg T s) := by
  have hst := pk_start hT hs
  have hT9 := hT
  obtain ⟨h0, h1, h2, h3, h4, h5, h6, h7, h8⟩ := hT
  unfold m_X8_begin pt_beg
  rw [hst, py_b]
  by_cases e : pt_s T s < 0
  · rw [if_pos e, if_neg (by rw [Int32.le_iff_toInt_le]; rw [Int32.lt_iff_toInt_lt] at e; omega), h6, py_putI _ _ _ _ _ (show s < 8 from hs), py_b]
    refine ⟨_, rfl, py_fr_r.up (py_KT_1 i), fun c hc => ?_, fun c hc => ?_, ?_⟩
    · rw [py_up_k _ _ rfl]
      exact h0 c hc
    · rw [py_up_s]
      by_cases e : c = s
      · rw [e, py_u_s]
        exact (py_u_s _ _ _).symm
      · rw [py_u_n _ _ e, h1 c hc]
        exact (py_u_n _ _ e).symm
    · rw [py_up_k _ _ rfl]
      exact ⟨h2, h3, h4, h5, h6, h7, h8⟩
  · rw [if_neg e, if_pos (by rw [Int32.le_iff_toInt_le]; rw [Int32.lt_iff_toInt_lt] at e; omega)]
    exact ⟨_, rfl, py_fr_r, hT9⟩
