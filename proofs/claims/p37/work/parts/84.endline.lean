/-! The end of a line, and the whole step. -/
theorem px_is.congR {S S' : pw_S} {f s rc : Nat} (h : px_is S f s rc) (hK : ∀ r, r < rc → ix_K S' f s r = ix_K S f s r) (e14 : ∀ b, b < 32 → S' 14 f (s * 32 + b) = S 14 f (s * 32 + b)) (e15 : ∀ b, b < 32 → S' 15 f (s * 32 + b) = S 15 f (s * 32 + b)) (e16 : ∀ r, r < rc → S' 16 f (s * 24 + r) = S 16 f (s * 24 + r)) : px_is S' f s rc := by
  intro b hb
  obtain ⟨h1, h2, h3⟩ := h b hb
  refine ⟨?_, ?_, fun r hr hp => ?_⟩
  · rw [e14 b hb, h1]
    exact ix_f_cong rc 0 (fun r _ h2 => (hK r (by omega)).symm)
  · rw [e15 b hb, h2]
    exact ix_l_cong rc (fun r h2 => (hK r h2).symm)
  · rw [hK r hr] at hp
    rw [e16 r hr, h3 r hr hp]
    exact ix_f_cong _ _ (fun q h1 h2 => (hK q (by omega)).symm)
theorem pb_end_52 {f rc p2 : Nat} (hrc : rc < 24) (hp2 : p2 < 1000) : ∀ (n N s : Nat) (S : pw_S), n < N → 8 = s + n → S 54 f 7 = Int32.ofNat (rc + 1) → (∀ q, q < 8 → S 12 f (rc * 24 + q * 3) = -2147483648 ∨ ∃ w, w < 134217728 ∧ S 12 f (rc * 24 + q * 3) = Int32.ofNat w) → (∀ q, q < 8 → if q < s then px_is S f q (rc + 1) else px_is S f q rc) →
    ∃ S', m_X6_endLine_52 N S f (Int32.ofNat p2) 1 (Int32.ofNat s) = some (S', 1) ∧ (∀ q, q < 8 → px_is S' f q (rc + 1)) ∧ S' 54 f = upd (S 54 f) 6 (Int32.ofNat p2) ∧ ∀ a i, (py_KI f a i || (Nat.beq a 54 && Nat.beq i f)) = false → S' a i = S a i := by
  intro n
  induction n with
  | zero =>
    intro N s S hN hs h7 hk hi
    obtain ⟨N, rfl⟩ : ∃ q, N = q + 1 := ⟨N - 1, by omega⟩
    unfold m_X6_endLine_52
    rw [py_jeL (l := 8) (by omega) (by omega), if_pos (show 8 ≤ s by omega), py_l, py_ct (by decide)]
    refine ⟨_, rfl, fun q hq => ?_, by rw [py_up_s], fun a i hai => ?_⟩
    · have := hi q hq
      rw [if_pos (show q < s by omega)] at this
      exact this.cong (py_up_k _ _ rfl) (py_up_k _ _ rfl) (py_up_k _ _ rfl) (py_up_k _ _ rfl)
    · rw [Bool.or_eq_false_iff] at hai
      rw [pw_up_n _ _ (fun z => by
        have h2 := hai.2
        rw [z.1, z.2, Nat.beq_refl, Nat.beq_refl] at h2
        cases h2)]
  | succ n ih =>
    intro N s S hN hs h7 hk hi
    obtain ⟨N, rfl⟩ : ∃ q, N = q + 1 := ⟨N - 1, by omega⟩
    have his := hi s (by omega)
    rw [if_neg (Nat.lt_irrefl _)] at his
    obtain ⟨S1, a1, a2, a3, a4⟩ := pb_add h7 hrc (show s < 8 by omega) his (hk s (by omega))
    have k12 : S1 12 f = S 12 f := a3 12 f rfl
    have k54 : S1 54 f = S 54 f := a3 54 f rfl
    obtain ⟨S2, b1, b2, b3, b4⟩ := ih N (s + 1) S1 (by omega) (by omega) (by rw [k54]; exact h7) (by rw [k12]; exact hk) (fun q hq => by
      by_cases e1 : q = s
      · subst e1
        rw [if_pos (show q < q + 1 by omega)]
        exact a2
      · obtain ⟨c1, c2⟩ := a4 q e1 hq
        have hKq : ∀ r, ix_K S1 f q r = ix_K S f q r := fun r => by
          unfold ix_K
          rw [k12]
        have := hi q hq
        by_cases e2 : q < s
        · rw [if_pos e2] at this
          rw [if_pos (show q < s + 1 by omega)]
          exact this.congR (fun r _ => hKq r) (fun b hb => (c1 b hb).1) (fun b hb => (c1 b hb).2) (fun r hr => c2 r (by omega))
        · rw [if_neg e2] at this
          rw [if_neg (show ¬ q < s + 1 by omega)]
          exact this.congR (fun r _ => hKq r) (fun b hb => (c1 b hb).1) (fun b hb => (c1 b hb).2) (fun r hr => c2 r (by omega)))
    have hrow : S 54 f 7 - 1 = Int32.ofNat rc := by
      rw [h7]
      exact py_sub (a := rc + 1) (b := 1) (by omega)
    unfold m_X6_endLine_52
    rw [py_jeL (l := 8) (by omega) (by omega), if_neg (show ¬ 8 ≤ s by omega), hrow, a1, py_b, py_l, py_add1, b1]
    refine ⟨S2, rfl, b2, by rw [b3, k54], fun a i hai => ?_⟩
    rw [b4 a i hai]
    rw [Bool.or_eq_false_iff] at hai
    exact a3 a i hai.1
def py_KE (f a i : Nat) : Bool := py_KL f a i || ((Nat.beq a 13 || (Nat.beq a 14 || (Nat.beq a 15 || Nat.beq a 16))) && Nat.beq i f)
theorem py_KE_L {f a i : Nat} (h : py_KE f a i = false) : py_KL f a i = false := by
  unfold py_KE at h
  rw [Bool.or_eq_false_iff] at h
  exact h.1
theorem py_KE_n {f a i : Nat} (h : py_KE f a i = false) : ((a ≠ 54 ∧ a ≠ 12) ∨ i ≠ f) ∧ (a ≠ 13 ∨ i ≠ f) ∧ py_KI f a i = false := by
  unfold py_KE py_KL at h
  rw [Bool.or_eq_false_iff, Bool.or_eq_false_iff] at h
  by_cases ei : i = f
  · subst ei
    rw [Nat.beq_refl, Bool.and_true, Bool.and_true] at h
    have h1 := h.1.2
    have h2 := h.2
    simp only [Bool.or_eq_false_iff] at h1 h2
    refine ⟨Or.inl ⟨Nat.ne_of_beq_eq_false h1.1, Nat.ne_of_beq_eq_false h1.2⟩, Or.inl (Nat.ne_of_beq_eq_false h2.1), ?_⟩
    unfold py_KI
    rw [h2.2.1, h2.2.2.1, h2.2.2.2]
    rfl
  · refine ⟨Or.inr ei, Or.inr ei, ?_⟩
    unfold py_KI
    cases hb : Nat.beq i f with
    | false => rw [Bool.and_false]
    | true => exact absurd (Nat.eq_of_beq_eq_true hb) ei
/-- the line has become a row -/
theorem pb_endRead {S : pw_S} {f sd p rc db sk m p2 : Nat} (h5 : S 54 f 5 = py_lp sd) (h7 : S 54 f 7 = Int32.ofNat rc) (h8 : S 54 f 8 = Int32.ofNat db) (h9 : S 54 f 9 = Int32.ofNat sk) (h10 : S 54 f 10 = Int32.ofNat m) (hm : 0 < m) (hm3 : m ≤ 3000) (hrc : rc < 24) (hdb : db ≤ rc) (hp2 : p2 < 1000) (hrows : ∀ r, r < rc + 1 → ∀ c, c < 24 → S 12 f (r * 24 + c) = -2147483648 ∨ ∃ w, w < 134217728 ∧ S 12 f (r * 24 + c) = Int32.ofNat w) (hi : ∀ s, s < 8 → px_is S f s rc) :
    ∃ S', m_X6_endLine S f 0 (Int32.ofNat p2) = some (S', 1) ∧ px_t S' f sd p2 (rc + 1) (if m ≤ 1 then db else db + 1) sk ∧ S' 12 f = S 12 f ∧ ∀ a i, (a ≠ 54 ∨ i ≠ f) → py_KI f a i = false → S' a i = S a i := by
  unfold m_X6_endLine
  rw [h10, py_jeR (l := 0) (by omega) (by omega), if_neg (show ¬ m ≤ 0 by omega), if_pos rfl, py_l, if_neg py_10, h7, py_add1, py_l, py_up_s, py_u_b _ _ rfl, h10, py_jeR (l := 1) (by omega) (by omega)]
  have run : ∀ (d : Nat → Int32) (db' : Nat), d 5 = py_lp sd → d 7 = Int32.ofNat (rc + 1) → d 8 = Int32.ofNat db' → db' ≤ rc + 1 → d 9 = Int32.ofNat sk → ∃ S', (pw_l (0 : Int32) fun z39 => m_X6_endLine_52 (pw_F 20000) (pw_up S 54 f d) f (Int32.ofNat p2) 1 z39) = some (S', 1) ∧ px_t S' f sd p2 (rc + 1) db' sk ∧ S' 12 f = S 12 f ∧ ∀ a i, (a ≠ 54 ∨ i ≠ f) → py_KI f a i = false → S' a i = S a i := fun d db' d5 d7 d8 hdb' d9 => by
    obtain ⟨S2, b1, b2, b3, b4⟩ := pb_end_52 hrc hp2 8 (pw_F 20000) 0 (pw_up S 54 f d) (by rw [py_F]; omega) (by omega) (by rw [py_up_s]; exact d7) (fun q hq => by rw [py_up_k _ _ rfl]; exact hrows rc (by omega) (q * 3) (by omega)) (fun q hq => by
      rw [if_neg (Nat.not_lt_zero q)]
      exact (hi q hq).cong (py_up_k _ _ rfl) (py_up_k _ _ rfl) (py_up_k _ _ rfl) (py_up_k _ _ rfl))
    have e12 : S2 12 f = S 12 f := by rw [b4 12 f rfl, py_up_k _ _ rfl]
    rw [py_up_s] at b3
    refine ⟨S2, b1, ⟨?_, ?_, ?_, ?_, ?_, hdb', fun r hr c hc => by rw [e12]; exact hrows r hr c hc, b2⟩, e12, fun a i hai hki => ?_⟩
    · rw [b3, py_u_b _ _ rfl]; exact d5
    · rw [b3, py_u_s]
    · rw [b3, py_u_b _ _ rfl]; exact d7
    · rw [b3, py_u_b _ _ rfl]; exact d8
    · rw [b3, py_u_b _ _ rfl]; exact d9
    · rw [b4 a i (by
        rw [hki, Bool.false_or]
        rcases hai with hai | hai
        · cases hb : Nat.beq a 54 with
          | false => rfl
          | true => exact absurd (Nat.eq_of_beq_eq_true hb) hai
        · cases hb : Nat.beq i f with
          | false => rw [Bool.and_false]
          | true => exact absurd (Nat.eq_of_beq_eq_true hb) hai)]
      exact pw_up_n _ _ (fun z => by rcases hai with hai | hai; exact hai z.1; exact hai z.2)
  by_cases e : m ≤ 1
  · rw [if_pos e, if_pos e]
    exact run _ db ((py_u_b _ _ rfl).trans h5) (py_u_s _ _ _) ((py_u_b _ _ rfl).trans h8) (by omega) ((py_u_b _ _ rfl).trans h9)
  · rw [if_neg e, if_neg e, py_u_b _ _ rfl, h8, py_add1, py_l, py_up_u]
    exact run _ (db + 1) ((py_u_b _ _ rfl).trans ((py_u_b _ _ rfl).trans h5)) ((py_u_b _ _ rfl).trans (py_u_s _ _ _)) (py_u_s _ _ _) (by omega) ((py_u_b _ _ rfl).trans ((py_u_b _ _ rfl).trans h9))
/-- the line is skipped -/
theorem pb_endSkip {S : pw_S} {f sd p rc db sk m y p2 : Nat} {x1 : Int32} (h : px_t S f sd p rc db sk) (h10 : S 54 f 10 = Int32.ofNat m) (h11 : S 54 f 11 = Int32.ofNat y) (hy : y ≤ 99) (hm3 : m ≤ 3000) (hsk : sk < 300) (hp : p ≤ 300) (hp2 : p2 ≤ 300) (hx : (x1 = 0 ∧ m = 0) ∨ x1 = 1) :
    ∃ S' y', m_X6_endLine S f x1 (Int32.ofNat p2) = some (S', 0) ∧ px_t S' f sd p2 rc db (sk + 1) ∧ y' ≤ 100 ∧ S' 13 f sk = Int32.ofNat (1000000 * y' + 1000 * p + p2) ∧ ∀ a i, (a ≠ 54 ∧ a ≠ 13) ∨ i ≠ f → S' a i = S a i := by
  obtain ⟨h5, h6, h7, h8, h9, hdb, hrows, hi⟩ := h
  have q1 : (1000000 : Int32) * Int32.ofNat y = Int32.ofNat (1000000 * y) := py_mul 1000000 y
  have q2 : (1000 : Int32) * Int32.ofNat p = Int32.ofNat (1000 * p) := py_mul 1000 p
  have q3 : (100000000 : Int32) + Int32.ofNat (1000 * p) = Int32.ofNat (100000000 + 1000 * p) := py_add 100000000 _
  have run : ∀ (v y' : Nat), y' ≤ 100 → v = 1000000 * y' + 1000 * p + p2 → ∃ S' y', (pw_b (m_X11_put S 13 f (Int32.ofNat sk) (Int32.ofNat v)) fun S12 r15 => pw_l (pw_up S12 54 f (upd (S12 54 f) 9 ((S12 54 f 9) + 1))) fun S17 => pw_l (pw_up S17 54 f (upd (S17 54 f) 6 (Int32.ofNat p2))) fun S20 => pw_c (decide ((0 : Int32) = 0) || decide ((0 : Int32) = 1)) <| some (S20, (0 : Int32))) = some (S', 0) ∧ px_t S' f sd p2 rc db (sk + 1) ∧ y' ≤ 100 ∧ S' 13 f sk = Int32.ofNat (1000000 * y' + 1000 * p + p2) ∧ ∀ a i, (a ≠ 54 ∧ a ≠ 13) ∨ i ≠ f → S' a i = S a i := fun v y' hy' hv => by
    rw [py_putI _ _ _ _ _ (show sk < 300 from hsk), py_b, py_up_k _ _ rfl, h9, py_add1, py_l, py_up_s, py_up_u, py_l, py_ct (by decide)]
    have hk : ∀ (d : Nat → Int32) (a i : Nat), (a ≠ 54 ∧ a ≠ 13) ∨ i ≠ f → pw_up (pw_up S 13 f (upd (S 13 f) sk (Int32.ofNat v))) 54 f d a i = S a i := fun d a i hai => by
      rw [pw_up_n _ _ (fun z => by rcases hai with hai | hai; exact hai.1 z.1; exact hai z.2), pw_up_n _ _ (fun z => by rcases hai with hai | hai; exact hai.2 z.1; exact hai z.2)]
    refine ⟨_, y', rfl, ⟨?_, ?_, ?_, ?_, ?_, hdb, fun r hr c hc => by rw [hk _ 12 f (Or.inl (by decide))]; exact hrows r hr c hc, fun s hs => (hi s hs).cong (hk _ 12 f (Or.inl (by decide))) (hk _ 14 f (Or.inl (by decide))) (hk _ 15 f (Or.inl (by decide))) (hk _ 16 f (Or.inl (by decide)))⟩, hy', ?_, fun a i hai => hk _ a i hai⟩
    · rw [py_up_s]; exact h5
    · rw [py_up_s]; rfl
    · rw [py_up_s]; exact h7
    · rw [py_up_s]; exact h8
    · rw [py_up_s]; rfl
    · rw [py_up_k _ _ rfl, py_up_s, py_u_s, hv]
  unfold m_X6_endLine
  rw [h10, py_jeR (l := 0) (by omega) (by omega)]
  simp only [h9, h11, h6, q1, q2, q3, py_add]
  rcases hx with ⟨rfl, hm⟩ | rfl
  · rw [if_pos (show m ≤ 0 by omega), py_l, if_pos rfl, if_pos rfl]
    exact run _ y (by omega) rfl
  · by_cases em : m ≤ 0
    · rw [if_pos em, py_l, if_pos rfl, if_neg py_10]
      exact run _ 100 (by omega) (by omega)
    · rw [if_neg em, if_neg py_10, py_l, if_pos rfl, if_neg py_10]
      exact run _ 100 (by omega) (by omega)
/-- what a step of a stream does -/
theorem pm_step {S : pw_S} {f len op sd p rc db sk dc : Nat} {Is : Nat → py_I} {nc : Nat → Nat} (hf : f < 2) (hF : px_f S f len op) (hT : px_t S f sd p rc db sk) (hD : px_D S dc Is nc) (hsd : sd ≤ dc) (hp : p ≤ len) (hrc : rc ≤ 20) (hsk : sk < 300) :
    (sd = 0 → m_X11_step S 0 (Int32.ofNat f) = some (S, .inr 2)) ∧
    (sd ≠ 0 → nl_e (S 11 f) (len - p) p = len ∧ (op = 1 ∨ p = len) → m_X11_step S 0 (Int32.ofNat f) = some (S, .inl (if op = 1 then -1 else -2))) ∧
    (sd ≠ 0 → ¬ (nl_e (S 11 f) (len - p) p = len ∧ (op = 1 ∨ p = len)) → ∃ S', py_fr (py_KE f) S S' ∧
      ((m_X11_step S 0 (Int32.ofNat f) = some (S', .inl 1) ∧ (∃ db', px_t S' f sd (min (nl_e (S 11 f) (len - p) p + 1) len) (rc + 1) db' sk ∧ (db' = db ∨ (db' = db + 1 ∧ ¬ pi_su (Is (sd - 1))))) ∧ ∃ T, pt_gd (Is (sd - 1)) T ∧ pt_rq (Is (sd - 1)) (px_ah S f len p) T ∧ pi_n (Is (sd - 1)) ≤ pt_it T ∧ p + pt_ln T = nl_e (S 11 f) (len - p) p ∧ cv_fb (pc_C S (sd - 1)) (pt_v T) (nc (sd - 1)) 0 = 0 ∧ ∀ c, c < 24 → S' 12 f (rc * 24 + c) = pt_v T c) ∨
       (m_X11_step S 0 (Int32.ofNat f) = some (S', .inl 0) ∧ px_t S' f sd (min (nl_e (S 11 f) (len - p) p + 1) len) rc db (sk + 1) ∧ ∃ y, y ≤ 100 ∧ S' 13 f sk = Int32.ofNat (1000000 * y + 1000 * p + min (nl_e (S 11 f) (len - p) p + 1) len)))) := by
  obtain ⟨hdc, hdc4, hds⟩ := hD
  have hlen := hF.2.1
  have hop := hF.2.2.2.1
  have hT0 := hT
  obtain ⟨h5, h6, h7, h8, h9, hdb, hrows, hi⟩ := hT
  have hnl := nl_e_le (S 11 f) (len - p) p
  generalize hee : nl_e (S 11 f) (len - p) p = e at *
  have heol := pm_eol hF hf hp
  rw [hee] at heol
  unfold m_X11_step
  rw [pm_file hf, py_b, py_os, pm_table hf, py_b, py_os, h5]
  refine ⟨fun z => ?_, fun hz hw => ?_, fun hz hw => ?_⟩
  · rw [z, if_pos py_lp_neg]
  · obtain ⟨d, rfl⟩ : ∃ d, sd = d + 1 := ⟨sd - 1, by omega⟩
    rw [py_lp_succ, py_jn (by omega), h6, heol, py_b, py_l, if_neg (show ¬ e < len by omega), if_neg (show ¬ (op = 0 ∧ p < len) by omega), if_neg (by decide), hF.2.2.1, py_jqR (l := 0) (by omega) (by omega)]
    by_cases e0 : op = 0
    · rw [if_pos e0, if_neg (show ¬ op = 1 by omega)]
    · rw [if_neg e0, if_pos (show op = 1 by omega)]
  · obtain ⟨d, rfl⟩ : ∃ d, sd = d + 1 := ⟨sd - 1, by omega⟩
    have hr : (if e < len then Int32.ofNat e else if op = 0 ∧ p < len then Int32.ofNat len else -1) = Int32.ofNat e := by
      by_cases e1 : e < len
      · rw [if_pos e1]
      · rw [if_neg e1, if_pos (show op = 0 ∧ p < len by omega), show e = len from by omega]
    rw [hr] at heol
    simp only [Nat.add_sub_cancel]
    obtain ⟨hRi, hI, hR, hn, hn8, hms⟩ := hds d (by omega)
    rw [py_lp_succ, py_jn (by omega), h6, heol, py_b, py_l, py_jz (by omega)]
    unfold m_X6_isFull
    rw [h7, py_jlR (l := 24) (by omega) (by omega), if_pos (show rc < 24 by omega), py_b, if_pos rfl]
    unfold m_X6_beginLine
    rw [py_l, py_l, py_up_s, py_up_u, py_b, pk_dn (show d < 6 by omega) (by omega)]
    generalize hS1 : pw_up S 54 f (upd (upd (S 54 f) 10 0) 11 0) = S1
    have k1 : ∀ a i, Nat.beq a 54 = false → S1 a i = S a i := fun a i hh => by
      rw [← hS1]
      exact py_up_k _ _ hh
    have f54 : ∀ k, k ≠ 10 → k ≠ 11 → S1 54 f k = S 54 f k := fun k h1 h2 => by rw [← hS1, py_up_s, py_u_n _ _ h2, py_u_n _ _ h1]
    have htx : pr_tx S1 f len p (px_ah S f len p) := (hF.tx hf hp).fr (k1 53 f rfl) (k1 11 f rfl)
    obtain ⟨S2, b1, b2, b3, b4, b5⟩ := pr_begin (show d < 8 by omega) (hRi.cong (k1 _ _ rfl) (k1 _ _ rfl) (k1 _ _ rfl) (k1 _ _ rfl) (k1 _ _ rfl)) htx
    have c54 : S2 54 f = S1 54 f := b2 54 f rfl
    have hln0 : pb_ln S2 f p rc e d (nc d) 0 0 (px_ah S f len p) (Is d) (pc_C S d) := by
      refine ⟨?_, ?_, by omega, fun z => absurd rfl z⟩
      · rw [c54, ← hS1, py_up_s]
        rfl
      · rw [c54, ← hS1, py_up_s]
        rfl
    obtain ⟨S3, m, y, u1, u2, u3, u4, u5, u6, u7⟩ := pb_123 hI hR hf (show d < 6 by omega) (show rc < 24 by omega) (show p ≤ 300 by omega) (show e ≤ 300 by omega) hn8 (fun S61 u54 u56 u58 u60 => (pw_b (m_X6_endLine S61 u58 (S61 59 0 10) (if (S61 53 u56 1) < (u60 + 1) then (S61 53 u56 1) else (u60 + 1))) fun S64 r67 => if r67 = 0 then (some (S64, .inl 0)) else (some (S64, .inl 1)))) (pw_F 20000) S2 [pt_0] 0 0 0 0 (by rw [py_F]; omega) (pr_go_0 hI b3 b4 b5) (Nat.le_refl _) hln0 (by rw [c54, f54 5 (by decide) (by decide), h5]; rfl) (by rw [c54, f54 6 (by decide) (by decide)]; exact h6) (by rw [c54, f54 7 (by decide) (by decide)]; exact h7) (by rw [b2 52 d rfl, k1 52 d rfl]; exact hn) (fun i hi9 => by rw [b2 10 d rfl, k1 10 d rfl]; exact hms i hi9) (pc_C_cong (by rw [b2 6 d rfl, k1 6 d rfl]) (by rw [b2 7 d rfl, k1 7 d rfl]) (by rw [b2 8 d rfl, k1 8 d rfl]) (by rw [b2 9 d rfl, k1 9 d rfl]) (by rw [b2 10 d rfl, k1 10 d rfl]))
    have g54 : ∀ k, k ≠ 10 → k ≠ 11 → S3 54 f k = S 54 f k := fun k h1 h2 => by rw [u5 k h1 h2, c54, f54 k h1 h2]
    have g12 : ∀ k, k < rc * 24 → S3 12 f k = S 12 f k := fun k hk => by rw [u6 k hk, b2 12 f rfl, k1 12 f rfl]
    have f3 : py_fr (py_KE f) S S3 := fun a i hh => by
      have hL := py_KE_L hh
      rw [u7 a i hL]
      have hR9 : py_KR a i = false := by
        unfold py_KL at hL
        rw [Bool.or_eq_false_iff] at hL
        exact hL.1
      rw [b2 a i hR9, ← hS1]
      exact pw_up_n _ _ (fun z => by rcases (py_KE_n hh).1 with q | q; exact q.1 z.1; exact q z.2)
    have hi3 : ∀ s, s < 8 → px_is S3 f s rc := fun s hs => (hi s hs).congR (fun r hr9 => by
      unfold ix_K
      exact g12 _ (by omega)) (fun b _ => by rw [u7 14 f rfl, b2 14 f rfl, k1 14 f rfl]) (fun b _ => by rw [u7 15 f rfl, b2 15 f rfl, k1 15 f rfl]) (fun r _ => by rw [u7 16 f rfl, b2 16 f rfl, k1 16 f rfl])
    have hT3 : px_t S3 f (d + 1) p rc db sk := ⟨by rw [g54 5 (by decide) (by decide)]; exact h5, by rw [g54 6 (by decide) (by decide)]; exact h6, by rw [g54 7 (by decide) (by decide)]; exact h7, by rw [g54 8 (by decide) (by decide)]; exact h8, by rw [g54 9 (by decide) (by decide)]; exact h9, hdb, fun r hr9 c hc => by rw [g12 _ (by omega)]; exact hrows r hr9 c hc, hi3⟩
    have h53 : S3 53 f 1 = Int32.ofNat len := by rw [u7 53 f rfl, b2 53 f rfl, k1 53 f rfl]; exact hF.1
    have hmin : (if S3 53 f 1 < Int32.ofNat e + 1 then S3 53 f 1 else Int32.ofNat e + 1) = Int32.ofNat (min (e + 1) len) := by
      rw [h53, py_add1, py_jl (by omega) (by omega)]
      by_cases e1 : len < e + 1
      · rw [if_pos e1, Nat.min_eq_right (by omega)]
      · rw [if_neg e1, Nat.min_eq_left (by omega)]
    rw [show S1 54 f 6 = Int32.ofNat p by rw [f54 6 (by decide) (by decide)]; exact h6, b1, py_b, py_l]
    rw [show (0 : Int32) = Int32.ofNat 0 from rfl] at u1 ⊢
    rw [u1, hmin]
    obtain ⟨v1, v2, v3, v4⟩ := u2
    have ll := (pr_all_0 (Is d) (px_ah S f len p)).1
    by_cases hread : 0 < m ∧ S3 59 0 10 = 0
    · obtain ⟨T, t1, t2, t3, t4, t5, t6⟩ := v4 (by omega)
      have hrows3 : ∀ r, r < rc + 1 → ∀ c, c < 24 → S3 12 f (r * 24 + c) = -2147483648 ∨ ∃ w, w < 134217728 ∧ S3 12 f (r * 24 + c) = Int32.ofNat w := fun r hr9 c hc => by
        by_cases er : r = rc
        · rw [er, t6 c hc]
          exact t1.1.2.2 c
        · rw [g12 _ (by omega)]
          exact hrows r (by omega) c hc
      obtain ⟨S4, w1, w2, w3, w4⟩ := pb_endRead (p := p) (p2 := min (e + 1) len) hT3.1 hT3.2.2.1 hT3.2.2.2.1 hT3.2.2.2.2.1 v1 hread.1 u4 (by omega) hdb (by omega) hrows3 hi3
      refine ⟨S4, f3.trans (fun a i hh => ?_), Or.inl ⟨?_, ⟨_, w2, ?_⟩, T, t1, t2, t3, t4, t5, fun c hc => by rw [w3]; exact t6 c hc⟩⟩
      · obtain ⟨n1, n2, n3⟩ := py_KE_n hh
        exact w4 a i (by rcases n1 with n1 | n1; exact Or.inl n1.1; exact Or.inr n1) n3
      · rw [hread.2, w1, py_b, if_neg (show ¬ (1 : Int32) = Int32.ofNat 0 from py_10)]
      · by_cases e1 : m ≤ 1
        · rw [if_pos e1]
          exact Or.inl rfl
        · rw [if_neg e1]
          refine Or.inr ⟨rfl, fun hs => ?_⟩
          have h2 := (pt_lv_sure hR hs (ah := px_ah S f len p) (13 * pi_n (Is d)) pt_0).1
          rcases u3 with ⟨_, u3⟩ | u3
          · rw [ll] at u3
            have h2 : (pt_LV (Is d) (px_ah S f len p) pt_0).length ≤ 1 := h2
            omega
          · rw [hread.2] at u3
            exact absurd u3 (by decide)
    · obtain ⟨S4, y', w1, w2, w3, w4, w5⟩ := pb_endSkip (x1 := S3 59 0 10) (p2 := min (e + 1) len) hT3 v1 v2 v3 u4 hsk (by omega) (by omega) (by
        rcases u3 with ⟨z, _⟩ | z
        · refine Or.inl ⟨z, ?_⟩
          by_cases e1 : 0 < m
          · exact absurd ⟨e1, z⟩ hread
          · omega
        · exact Or.inr z)
      refine ⟨S4, f3.trans (fun a i hh => ?_), Or.inr ⟨?_, w2, y', w3, w4⟩⟩
      · obtain ⟨n1, n2, n3⟩ := py_KE_n hh
        refine w5 a i ?_
        rcases n1 with n1 | n1
        · rcases n2 with n2 | n2
          · exact Or.inl ⟨n1.1, n2⟩
          · exact Or.inr n2
        · exact Or.inr n1
      · rw [w1, py_b, if_pos (show (0 : Int32) = Int32.ofNat 0 from rfl)]
