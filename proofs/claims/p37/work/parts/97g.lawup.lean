/-! The law's upgrades, whole. -/
theorem pl_up_308 {S : pw_S} {k : Nat} (hk : k < 8) (x v2 v8 : Int32) (k274 : pw_S → Nat → Int32 → Nat → Nat → Nat → Nat → Int32 → Int32 → pw_R Int32) (k333 : pw_S → Nat → Int32 → Nat → Nat → Nat → Nat → Int32 → pw_R Int32) : ∃ S', m_L_upgrades_j308 k274 k333 S 0 v2 39 0 36 0 v8 (Int32.ofNat k) x = k274 S' 0 v2 39 0 36 0 v8 (Int32.ofNat (k + 1)) ∧ S' 35 0 = upd (S 35 0) (k * 3) x ∧ S' 100 0 = upd (S 100 0) k x ∧ ∀ a i, Nat.beq a 35 = false → Nat.beq a 100 = false → S' a i = S a i := by
  unfold m_L_upgrades_j308
  rw [py_l, pm_set hk, py_b, py_el, py_ct (py_inb (by omega) (by omega)), py_cl (by omega), py_l, py_l, py_add1]
  refine ⟨_, rfl, ?_, ?_, fun a i h1 h2 => ?_⟩
  · rw [py_up_k _ _ rfl, py_up_s]
  · rw [py_up_s, py_up_k _ _ rfl]
  · rw [py_up_k _ _ h2, py_up_k _ _ h1]
theorem pl_up_274 {Y : Nat} (v8 : Int32) (k333 : pw_S → Nat → Int32 → Nat → Nat → Nat → Nat → Int32 → pw_R Int32) : ∀ (n N k : Nat) (S : pw_S), n < N → 8 = k + n → (∀ j, j < k → S 35 0 (j * 3) = S 100 0 j) → ∃ S', m_L_upgrades_274 k333 N S 0 (Int32.ofNat Y) 39 0 36 0 v8 (Int32.ofNat k) = k333 S' 0 (Int32.ofNat Y) 39 0 36 0 v8 ∧ (∀ j, j < 8 → S' 35 0 (j * 3) = S' 100 0 j) ∧ ∀ a i, Nat.beq a 35 = false → Nat.beq a 100 = false → S' a i = S a i := by
  intro n
  induction n with
  | zero =>
    intro N k S hN hk h
    obtain ⟨N, rfl⟩ : ∃ q, N = q + 1 := ⟨N - 1, by omega⟩
    unfold m_L_upgrades_274
    rw [py_jeL (l := 8) (by omega) (by omega), if_pos (show 8 ≤ k by omega)]
    exact ⟨S, rfl, fun j hj => h j (by omega), fun a i _ _ => rfl⟩
  | succ n ih =>
    intro N k S hN hk h
    obtain ⟨N, rfl⟩ : ∃ q, N = q + 1 := ⟨N - 1, by omega⟩
    rw [m_L_upgrades_274.eq_2, py_jeL (l := 8) (by omega) (by omega), if_neg (show ¬ 8 ≤ k by omega), py_add1, py_ct (show (!decide (Int32.ofNat (k + 1) = 0)) = true by
      rw [decide_eq_false]
      · rfl
      · intro z
        have := (py_eq (a := k + 1) (b := 0) (by omega) (by omega)).mp z
        omega)]
    have fin : ∀ x : Int32, ∃ S', m_L_upgrades_j308 (fun S62 u49 u51 u52 u53 u56 u57 u60 u61 => m_L_upgrades_274 k333 N S62 u49 u51 u52 u53 u56 u57 u60 u61) (fun S81 u69 u71 u72 u73 u76 u77 u80 => k333 S81 u69 u71 u72 u73 u76 u77 u80) S 0 (Int32.ofNat Y) 39 0 36 0 v8 (Int32.ofNat k) x = k333 S' 0 (Int32.ofNat Y) 39 0 36 0 v8 ∧ (∀ j, j < 8 → S' 35 0 (j * 3) = S' 100 0 j) ∧ ∀ a i, Nat.beq a 35 = false → Nat.beq a 100 = false → S' a i = S a i := by
      intro x
      obtain ⟨S1, a1, a2, a3, a4⟩ := pl_up_308 (S := S) (show k < 8 by omega) x (Int32.ofNat Y) v8 (fun S62 u49 u51 u52 u53 u56 u57 u60 u61 => m_L_upgrades_274 k333 N S62 u49 u51 u52 u53 u56 u57 u60 u61) (fun S81 u69 u71 u72 u73 u76 u77 u80 => k333 S81 u69 u71 u72 u73 u76 u77 u80)
      obtain ⟨S', b1, b2, b3⟩ := ih N (k + 1) S1 (by omega) (by omega) (fun j hj => by
        rw [a2, a3]
        by_cases e : j = k
        · rw [e, py_u_s, py_u_s]
        · rw [py_u_n _ _ e, py_u_n _ _ (by omega)]
          exact h j (by omega))
      exact ⟨S', a1.trans b1, b2, fun a i h1 h2 => (b3 a i h1 h2).trans (a4 a i h1 h2)⟩
    by_cases e : (Int32.ofNat Y / Int32.ofNat (k + 1)) - (Int32.ofNat Y / Int32.ofNat (k + 1)) / 5 * 5 = 0
    · rw [if_pos e]
      exact fin _
    · rw [if_neg e]
      exact fin _
def py_KG2 (a _i : Nat) : Bool := (Nat.ble 22 a && Nat.ble a 27) || (Nat.beq a 57 || (Nat.beq a 35 || (Nat.beq a 36 || (Nat.beq a 39 || (Nat.beq a 61 || (Nat.beq a 100 || Nat.beq a 101))))))
theorem py_KG2_B {u : Nat} : ∀ a i, py_KB u a i = true → py_KG2 a i = true := fun a i h => by
  unfold py_KB at h
  obtain ⟨h1, -⟩ := Bool.and_eq_true_iff.mp h
  simp only [Bool.or_eq_true_iff] at h1
  rcases h1 with h1 | h1 | h1 | h1 | h1 | h1 <;> rw [Nat.eq_of_beq_eq_true h1] <;> rfl
theorem py_KG2_G : ∀ a i, py_KG2 a i = true → py_KG a i = true := fun a i h => by
  unfold py_KG2 at h
  unfold py_KG
  rcases Bool.or_eq_true_iff.mp h with h | h
  · obtain ⟨h1, h2⟩ := Bool.and_eq_true_iff.mp h
    have h3 := Nat.le_of_ble_eq_true h1
    rw [h2, Nat.ble_eq_true_of_le (show 19 ≤ a by omega)]
    rfl
  · rw [h, Bool.or_true]
/-- what compose and reverse answer -/
def px_r (r : Int32) : Prop := r = -1 ∨ ∃ q, q < 1000 ∧ r = Int32.ofNat q
/-- what upgrades leave -/
def pg (S S' : pw_S) : Prop := (∀ j, j ≠ 13 → S' 61 0 j = S 61 0 j) ∧ (∀ j, j ≠ 2 → S' 36 0 j = S 36 0 j) ∧ py_fr py_KG2 S S'
theorem pg.trans {S S' S'' : pw_S} (h : pg S S') (h' : pg S' S'') : pg S S'' := ⟨fun j hj => (h'.1 j hj).trans (h.1 j hj), fun j hj => (h'.2.1 j hj).trans (h.2.1 j hj), h.2.2.trans h'.2.2⟩
theorem pg_of {K : Nat → Nat → Bool} {S S' : pw_S} (h : py_fr K S S') (h1 : K 61 0 = false) (h2 : K 36 0 = false) (hK : ∀ a i, K a i = true → py_KG2 a i = true) : pg S S' := ⟨fun j _ => by rw [h 61 0 h1], fun j _ => by rw [h 36 0 h2], h.mono hK⟩
theorem pg_H {b : Nat} {S S' : pw_S} (h : py_fr (py_KH b) S S') (h1 : Nat.beq 61 b = false) (h2 : Nat.beq 36 b = false) (h3 : py_KG2 b 0 = true) : pg S S' := pg_of h (by unfold py_KH; rw [h1]; rfl) (by unfold py_KH; rw [h2]; rfl) (fun a i z => by
  unfold py_KH at z
  rcases Bool.or_eq_true_iff.mp z with z | z
  · rw [Nat.eq_of_beq_eq_true z]
    rfl
  · rw [Nat.eq_of_beq_eq_true z]
    exact h3)
theorem pg_1 {b u : Nat} {S S' : pw_S} (h : py_fr (py_K1 b u) S S') (h1 : Nat.beq 61 b = false) (h2 : Nat.beq 36 b = false) (h3 : py_KG2 b 0 = true) : pg S S' := pg_of h (by unfold py_K1; rw [h1]; rfl) (by unfold py_K1; rw [h2]; rfl) (fun a i z => by
  unfold py_K1 at z
  rw [Nat.eq_of_beq_eq_true (Bool.and_eq_true_iff.mp z).1]
  exact h3)
theorem pg_c2 (S : pw_S) (x : Int32) : pg S (pw_up S 36 0 (upd (S 36 0) 2 x)) := ⟨fun j _ => by rw [py_up_k _ _ rfl], fun j hj => by rw [py_up_s, py_u_n _ _ hj], py_fr_r.up rfl⟩
theorem pl_up_fin {S : pw_S} {r12 r14 : Int32} (h12 : px_r r12) (h14 : px_r r14) : (if (1 : Int32) = 0 then (some (S, (0 : Int32)) : pw_R Int32) else (if 0 ≤ r12 then (if 0 ≤ r14 then (some (S, 1)) else (if r14 = (-1) then (some (S, 1)) else (some (S, 0)))) else (if r12 = (-1) then (if 0 ≤ r14 then (some (S, 1)) else (if r14 = (-1) then (some (S, 1)) else (some (S, 0)))) else (some (S, 0))))) = some (S, 1) := by
  rw [if_neg py_10]
  have n1 : ¬ (0 : Int32) ≤ -1 := by decide
  rcases h12 with rfl | ⟨q, hq, rfl⟩
  · rw [if_neg n1, if_pos rfl]
    rcases h14 with rfl | ⟨p, hp, rfl⟩
    · rw [if_neg n1, if_pos rfl]
    · rw [py_jz (by omega)]
  · rw [py_jz (by omega)]
    rcases h14 with rfl | ⟨p, hp, rfl⟩
    · rw [if_neg n1, if_pos rfl]
    · rw [py_jz (by omega)]
theorem pl_up_563 {S : pw_S} {nu m : Nat} {Ls : Nat → Nat → List uP} {r12 r14 : Int32} (hU : px_U S nu Ls) (h12 : px_r r12) (h36 : S 36 0 2 = Int32.ofNat m) (h14 : (r14 = -1 ∧ nu = m) ∨ (r14 = Int32.ofNat m ∧ nu = m + 1)) : ∃ S', m_L_upgrades_j563 S 0 36 0 1 r12 r14 = some (S', 1) ∧ px_U S' nu Ls ∧ S' 36 0 2 = Int32.ofNat nu ∧ pg S S' := by
  have hn8 := hU.2.1
  have h36b : (2 : Int32).toNatClampNeg = 2 := rfl
  have hb : ∀ (β : Type) (o : pw_R β), pw_c (np_inb 2 (pw_len 36)) o = o := fun β o => py_ct (show np_inb 2 (pw_len 36) = true from rfl) o
  generalize hS1 : pw_up S 36 0 (upd (S 36 0) 2 (Int32.ofNat nu)) = S1
  have k1 : ∀ a i, Nat.beq a 36 = false → S1 a i = S a i := fun a i hh => by
    rw [← hS1]
    exact py_up_k _ _ hh
  have g1 : pg S S1 := by
    rw [← hS1]
    exact pg_c2 S _
  have e1 : S1 36 0 2 = Int32.ofNat nu := by rw [← hS1, py_up_s, py_u_s]
  obtain ⟨S', a1, -, a3⟩ := pl_sets (a := 100) rfl rfl S1
  have hU1 : px_U S1 nu Ls := hU.cong (by rw [k1 61 0 rfl]) (fun u _ => ⟨k1 _ _ rfl, k1 _ _ rfl, k1 _ _ rfl, k1 _ _ rfl⟩)
  have f := pl_up_fin (S := S') h12 (show px_r r14 by
    rcases h14 with ⟨z, -⟩ | ⟨z, y⟩
    · exact Or.inl z
    · exact Or.inr ⟨m, by omega, z⟩)
  refine ⟨S', ?_, hU1.f1 a3 ⟨rfl, rfl, rfl, rfl, rfl⟩, by rw [a3 36 0 rfl, e1], g1.trans (pg_1 a3 rfl rfl rfl)⟩
  unfold m_L_upgrades_j563
  rw [hb, hb, hb, h36b, h36]
  rcases h14 with ⟨rfl, h⟩ | ⟨rfl, h⟩
  · rw [if_pos (show (-1 : Int32) < 0 by decide), show Int32.ofNat m + 0 = Int32.ofNat nu from by rw [h]; exact py_add m 0, hS1, py_l, a1, py_b]
    exact f
  · rw [py_jn (by omega), py_add1, show m + 1 = nu from h.symm, hS1, py_l, a1, py_b]
    exact f
theorem px_u.leaf {S : pw_S} {u s : Nat} {L : Nat → List uP} (h : px_u S u L) (hs : s < 8) : ∀ p, p ∈ L s → p.1 = 0 → ∃ t, t < 8 ∧ p.2 = Int32.ofNat t := fun p hp h0 => by
  rcases h.2.2.2.2 s hs with z | z
  · rw [z] at hp
    cases hp
  · exact z.2 p hp h0
theorem pl_up_460 {S : pw_S} {nu m w : Nat} {Ls : Nat → Nat → List uP} {r12 : Int32} (hU : px_U S nu Ls) (h8 : nu < 8) (hw : w < nu) (h36 : S 36 0 2 = Int32.ofNat m) (h12 : (r12 = -1 ∧ nu = m) ∨ (r12 = Int32.ofNat m ∧ nu = m + 1)) : ∃ S' nu' Ls', m_L_upgrades_j460 S 0 39 0 36 0 1 (Int32.ofNat w) r12 = some (S', 1) ∧ px_U S' nu' Ls' ∧ S' 36 0 2 = Int32.ofNat nu' ∧ pg S S' := by
  have h36b : (2 : Int32).toNatClampNeg = 2 := rfl
  have hb : ∀ (β : Type) (o : pw_R β), pw_c (np_inb 2 (pw_len 36)) o = o := fun β o => py_ct (show np_inb 2 (pw_len 36) = true from rfl) o
  generalize hS1 : pw_up S 36 0 (upd (S 36 0) 2 (Int32.ofNat nu)) = S1
  have k1 : ∀ a i, Nat.beq a 36 = false → S1 a i = S a i := fun a i hh => by
    rw [← hS1]
    exact py_up_k _ _ hh
  have g1 : pg S S1 := by
    rw [← hS1]
    exact pg_c2 S _
  have e1 : S1 36 0 2 = Int32.ofNat nu := by rw [← hS1, py_up_s, py_u_s]
  have hU1 : px_U S1 nu Ls := hU.cong (by rw [k1 61 0 rfl]) (fun u _ => ⟨k1 _ _ rfl, k1 _ _ rfl, k1 _ _ rfl, k1 _ _ rfl⟩)
  obtain ⟨S2, b1, b2, b3⟩ := pl_sets (a := 100) rfl rfl S1
  have hU2 := hU1.f1 b3 ⟨rfl, rfl, rfl, rfl, rfl⟩
  obtain ⟨S3, r, c1, c2, c3, c4⟩ := pm_reverse hU2 h8 hw
  have q : ∀ a i, Nat.beq a 61 = false → (∀ u, py_KB u a i = false) → S3 a i = S2 a i := fun a i z1 z2 => c3 a i z1 (z2 nu)
  have g3 : pg S2 S3 := ⟨c2, fun j _ => by rw [c3 36 0 rfl (by unfold py_KB; rfl)], fun a i z => c3 a i (by
    cases hk : Nat.beq a 61 with
    | false => rfl
    | true =>
      rw [Nat.eq_of_beq_eq_true hk] at z
      cases z) (by
    cases hk : py_KB nu a i with
    | false => rfl
    | true =>
      rw [py_KG2_B a i hk] at z
      cases z)⟩
  have h3 : ∃ nu3 Ls3, px_U S3 nu3 Ls3 ∧ w < nu3 ∧ Ls3 w = Ls w ∧ ((r = -1 ∧ nu3 = nu) ∨ (r = Int32.ofNat nu ∧ nu3 = nu + 1 ∧ ∀ s, s < 8 → urv (Ls w) s (Ls3 nu s))) := by
    rcases c4 with ⟨d1, d2⟩ | ⟨d1, Ls', d2, d3, d4⟩
    · exact ⟨nu, Ls, d2, hw, rfl, Or.inl ⟨d1, rfl⟩⟩
    · exact ⟨nu + 1, Ls', d2, by omega, d3 w hw, Or.inr ⟨d1, rfl, d4⟩⟩
  obtain ⟨nu3, Ls3, hU3, hw3, hLw, hr⟩ := h3
  obtain ⟨S4, d1, d2, d3⟩ := pl_tells hU3 hw3
  have hU4 := hU3.fH d3 ⟨rfl, rfl, rfl, rfl, rfl⟩
  obtain ⟨S5, f1, f2, f3⟩ := pl_sets (a := 39) rfl rfl S4
  have hU5 := hU4.f1 f3 ⟨rfl, rfl, rfl, rfl, rfl⟩
  have e5 : S5 36 0 2 = Int32.ofNat nu := by rw [f3 36 0 rfl, d3 36 0 rfl, c3 36 0 rfl (by unfold py_KB; rfl), b3 36 0 rfl, e1]
  have g5 : pg S S5 := (((g1.trans (pg_1 b3 rfl rfl rfl)).trans g3).trans (pg_H d3 rfl rfl rfl)).trans (pg_1 f3 rfl rfl rfl)
  have h12r : px_r r12 := by
    have := hU.2.1
    rcases h12 with ⟨z, -⟩ | ⟨z, y⟩
    · exact Or.inl z
    · exact Or.inr ⟨m, by omega, z⟩
  -- behind the loop
  have tail : ∃ S', (pw_l (0 : Int32) fun z648 => m_L_upgrades_506 (fun S658 u649 u651 u652 u655 u656 u657 => (m_L_upgrades_j563 S658 u649 u651 u652 u655 u656 u657)) (pw_F 9) S5 0 36 0 1 r12 r z648) = some (S', 1) ∧ px_U S' nu3 Ls3 ∧ S' 36 0 2 = Int32.ofNat nu3 ∧ pg S5 S' := by
    rw [py_l]
    rcases hr with ⟨rfl, hn⟩ | ⟨rfl, hn, hrv⟩
    · obtain ⟨S', p1, p2, p3, p4⟩ := pl_up_563 (r14 := -1) hU5 h12r e5 (Or.inl ⟨rfl, hn⟩)
      exact ⟨S', (pl_up_506n r12 _ (by rw [py_F]; omega)).trans p1, p2, p3, p4⟩
    · have h35 : ∀ t, t < 8 → ur S3 (Int32.ofNat t) = S 100 0 t := fun t ht => by
        unfold ur
        rw [py_cl (by omega), c3 35 0 rfl (by unfold py_KB; rfl), b2 t ht, k1 100 0 rfl]
      have h100 : S5 100 0 = S 100 0 := by rw [f3 100 0 rfl, d3 100 0 rfl, c3 100 0 rfl (by unfold py_KB; rfl), b3 100 0 rfl, k1 100 0 rfl]
      have hnew : nu < nu3 := by omega
      obtain ⟨S6, p1, p2⟩ := pl_up_506 hnew hU3.2.1 r12 (fun S658 u649 u651 u652 u655 u656 u657 => (m_L_upgrades_j563 S658 u649 u651 u652 u655 u656 u657)) 8 (pw_F 9) 0 S5 (by rw [py_F]; omega) rfl hU5 (fun j hj hz => by
        have hN : ur S3 (Int32.ofNat j) = -2147483648 := by
          rw [h35 j hj, ← h100]
          exact hz
        have t := uv_rev (L := Ls3 nu) (hU3.2.2 w hw3) hj (by rw [hLw]; exact hrv j hj) hN
        rw [← t]
        refine uv_cong (fun p hp h0 => ?_)
        obtain ⟨x, x1, x2⟩ := (hU3.2.2 nu hnew).leaf hj p hp h0
        show S5 35 0 (p.2.toNatClampNeg * 3) = uv (ur S3) (upf (Ls3 w) p.2)
        rw [x2, py_cl (by omega), f2 x x1, d2 x x1]
        unfold upf
        rw [py_cl (by omega)])
      have e6 : S6 36 0 2 = Int32.ofNat nu := by rw [p2 36 0 rfl, e5]
      obtain ⟨S', q1, q2, q3, q4⟩ := pl_up_563 (r14 := Int32.ofNat nu) (hU5.fH p2 ⟨rfl, rfl, rfl, rfl, rfl⟩) h12r e6 (Or.inr ⟨rfl, hn⟩)
      exact ⟨S', p1.trans q1, q2, q3, (pg_H p2 rfl rfl rfl).trans q4⟩
  obtain ⟨S', t1, t2, t3, t4⟩ := tail
  refine ⟨S', nu3, Ls3, ?_, t2, t3, g5.trans t4⟩
  unfold m_L_upgrades_j460
  rw [hb, hb, hb, h36b, h36]
  rcases h12 with ⟨rfl, h⟩ | ⟨rfl, h⟩
  · rw [if_pos (show (-1 : Int32) < 0 by decide), show Int32.ofNat m + 0 = Int32.ofNat nu from by rw [h]; exact py_add m 0, hS1, py_l, b1, py_b, c1, py_b, py_el, py_l, d1, py_b, f1, py_b]
    exact t1
  · have hn8 := hU.2.1
    rw [py_jn (by omega), py_add1, show m + 1 = nu from h.symm, hS1, py_l, b1, py_b, c1, py_b, py_el, py_l, d1, py_b, f1, py_b]
    exact t1
theorem pl_up_333 {S : pw_S} {nu Y : Nat} {Ls : Nat → Nat → List uP} (hU : px_U S nu Ls) (h8 : nu ≤ 6) (h0 : 0 < nu) (hY : Y < 1073741824) (h36 : S 36 0 2 = Int32.ofNat nu) : ∃ S' nu' Ls', m_L_upgrades_j333 S 0 (Int32.ofNat Y) 39 0 36 0 1 = some (S', 1) ∧ px_U S' nu' Ls' ∧ S' 36 0 2 = Int32.ofNat nu' ∧ pg S S' := by
  have h36b : (2 : Int32).toNatClampNeg = 2 := rfl
  have hb : ∀ (β : Type) (o : pw_R β), pw_c (np_inb 2 (pw_len 36)) o = o := fun β o => py_ct (show np_inb 2 (pw_len 36) = true from rfl) o
  have hm : Int32.ofNat Y - Int32.ofNat Y / Int32.ofNat nu * Int32.ofNat nu = Int32.ofNat (Y % nu) := py_mod (by omega) (by omega)
  have hv : Y % nu < nu := Nat.mod_lt _ h0
  have hnz : (!decide (Int32.ofNat nu = 0)) = true := by
    rw [decide_eq_false]
    · rfl
    · intro z
      have := (py_eq (a := nu) (b := 0) (by omega) (by omega)).mp z
      omega
  obtain ⟨S1, r, a1, a2, a3, a4⟩ := pm_compose hU (show nu < 8 by omega) hv (show nu - 1 < nu by omega)
  have g1 : pg S S1 := ⟨a2, fun j _ => by rw [a3 36 0 rfl (by unfold py_KB; rfl)], fun a i z => a3 a i (by
    cases hk : Nat.beq a 61 with
    | false => rfl
    | true =>
      rw [Nat.eq_of_beq_eq_true hk] at z
      cases z) (by
    cases hk : py_KB nu a i with
    | false => rfl
    | true =>
      rw [py_KG2_B a i hk] at z
      cases z)⟩
  have h1 : ∃ nu1 Ls1, px_U S1 nu1 Ls1 ∧ nu ≤ nu1 ∧ nu1 ≤ nu + 1 ∧ (∀ u, u < nu → Ls1 u = Ls u) ∧ ((r = -1 ∧ nu1 = nu) ∨ (r = Int32.ofNat nu ∧ nu1 = nu + 1 ∧ ∀ s, s < 8 → ∀ R, uv R (Ls1 nu s) = uv (fun n => uv R (upf (Ls (Y % nu)) n)) (Ls (nu - 1) s))) := by
    rcases a4 with ⟨d1, d2⟩ | ⟨d1, Ls', d2, d3, d4⟩
    · exact ⟨nu, Ls, d2, Nat.le_refl _, by omega, fun _ _ => rfl, Or.inl ⟨d1, rfl⟩⟩
    · exact ⟨nu + 1, Ls', d2, by omega, Nat.le_refl _, d3, Or.inr ⟨d1, rfl, d4⟩⟩
  obtain ⟨nu1, Ls1, hU1, hn1, hn2, hLs, hr⟩ := h1
  obtain ⟨S2, b1, b2, b3⟩ := pl_tells hU1 (show Y % nu < nu1 by omega)
  have hU2 := hU1.fH b3 ⟨rfl, rfl, rfl, rfl, rfl⟩
  generalize hS3 : pw_up S2 101 0 (fun _ => 0) = S3
  have k3 : ∀ a i, Nat.beq a 101 = false → S3 a i = S2 a i := fun a i hh => by
    rw [← hS3]
    exact py_up_k _ _ hh
  have f3 : py_fr (py_KH 101) S2 S3 := by
    rw [← hS3]
    exact py_fr_r.up (py_KH_s 101 0)
  have hU3 := hU2.fH f3 ⟨rfl, rfl, rfl, rfl, rfl⟩
  have g3 : pg S S3 := (g1.trans (pg_H b3 rfl rfl rfl)).trans (pg_H f3 rfl rfl rfl)
  have e36 : S3 36 0 2 = Int32.ofNat nu := by rw [k3 36 0 rfl, b3 36 0 rfl, a3 36 0 rfl (by unfold py_KB; rfl), h36]
  have e35 : ur S3 = ur S1 := by
    unfold ur
    rw [k3 35 0 rfl, b3 35 0 rfl]
  have e39 : S3 39 0 = S2 39 0 := k3 39 0 rfl
  -- behind the loops
  have tail : ∃ S' nu' Ls', (pw_l (0 : Int32) fun z726 => m_L_upgrades_375 (fun S740 u727 u729 u730 u733 u734 u737 u738 u739 => (pw_b (m_L_sets S740 u727 u729 u730) fun S743 r746 => pw_l (0 : Int32) fun z748 => m_L_upgrades_414 (fun S762 u749 u751 u752 u755 u756 u759 u760 u761 => (m_L_upgrades_j460 S762 u749 u751 u752 u755 u756 u759 u760 u761)) (pw_F 9) S743 u727 u729 u730 u733 u734 u737 u738 u739 z748)) (pw_F 9) S3 0 39 0 36 0 1 (Int32.ofNat (nu - 1)) r z726) = some (S', 1) ∧ px_U S' nu' Ls' ∧ S' 36 0 2 = Int32.ofNat nu' ∧ pg S3 S' := by
    rw [py_l]
    rcases hr with ⟨rfl, hn⟩ | ⟨rfl, hn, hco⟩
    · obtain ⟨S4, c1, c2, c3⟩ := pl_sets (a := 39) rfl rfl S3
      have e4 : S4 36 0 2 = Int32.ofNat nu := by rw [c3 36 0 rfl, e36]
      obtain ⟨S', nu', Ls', d1, d2, d3, d4⟩ := pl_up_460 (w := nu - 1) (r12 := -1) (hU3.f1 c3 ⟨rfl, rfl, rfl, rfl, rfl⟩) (by omega) (by omega) e4 (Or.inl ⟨rfl, hn⟩)
      refine ⟨S', nu', Ls', ?_, d2, d3, (pg_1 c3 rfl rfl rfl).trans d4⟩
      refine (pl_up_375n 1 (Int32.ofNat (nu - 1)) _ (by rw [py_F]; omega)).trans ?_
      rw [c1, py_b, py_l]
      exact (pl_up_414n (Int32.ofNat (nu - 1)) _ (by rw [py_F]; omega)).trans d1
    · obtain ⟨S4, c1, c2, c3⟩ := pl_up_375 (nu := nu1) (u := nu) (R := ur S3) (by omega) (by omega) 1 (Int32.ofNat (nu - 1)) (fun S740 u727 u729 u730 u733 u734 u737 u738 u739 => (pw_b (m_L_sets S740 u727 u729 u730) fun S743 r746 => pw_l (0 : Int32) fun z748 => m_L_upgrades_414 (fun S762 u749 u751 u752 u755 u756 u759 u760 u761 => (m_L_upgrades_j460 S762 u749 u751 u752 u755 u756 u759 u760 u761)) (pw_F 9) S743 u727 u729 u730 u733 u734 u737 u738 u739 z748)) 8 (pw_F 9) 0 S3 (by rw [py_F]; omega) rfl hU3 rfl (fun j hj => absurd hj (Nat.not_lt_zero j))
      have hU4 := hU3.fH c3 ⟨rfl, rfl, rfl, rfl, rfl⟩
      obtain ⟨S5, d1, d2, d3⟩ := pl_sets (a := 39) rfl rfl S4
      have hU5 := hU4.f1 d3 ⟨rfl, rfl, rfl, rfl, rfl⟩
      obtain ⟨S6, p1, p2⟩ := pl_up_414 (w := nu - 1) (q := nu) (show nu - 1 < nu1 by omega) (by omega) (fun S762 u749 u751 u752 u755 u756 u759 u760 u761 => (m_L_upgrades_j460 S762 u749 u751 u752 u755 u756 u759 u760 u761)) 8 (pw_F 9) 0 S5 (by rw [py_F]; omega) rfl hU5 (fun j hj => by
        rw [d3 101 0 rfl, c2 j hj, hco j hj (ur S3), hLs (nu - 1) (by omega)]
        refine uv_cong (fun p hp h0 => ?_)
        obtain ⟨x, x1, x2⟩ := (hU.2.2 (nu - 1) (by omega)).leaf hj p hp h0
        show S5 35 0 (p.2.toNatClampNeg * 3) = uv (ur S3) (upf (Ls (Y % nu)) p.2)
        rw [x2, py_cl (by omega), d2 x x1, c3 39 0 rfl, e39, b2 x x1, e35, hLs (Y % nu) hv]
        unfold upf
        rw [py_cl (by omega)])
      have e6 : S6 36 0 2 = Int32.ofNat nu := by rw [p2 36 0 rfl, d3 36 0 rfl, c3 36 0 rfl, e36]
      obtain ⟨S', nu', Ls', q1, q2, q3, q4⟩ := pl_up_460 (w := nu - 1) (r12 := Int32.ofNat nu) (hU5.fH p2 ⟨rfl, rfl, rfl, rfl, rfl⟩) (by omega) (by omega) e6 (Or.inr ⟨rfl, hn⟩)
      refine ⟨S', nu', Ls', ?_, q2, q3, (((pg_H c3 rfl rfl rfl).trans (pg_1 d3 rfl rfl rfl)).trans (pg_H p2 rfl rfl rfl)).trans q4⟩
      refine c1.trans ?_
      show (pw_b (m_L_sets S4 0 39 0) fun S743 r746 => pw_l (0 : Int32) fun z748 => m_L_upgrades_414 (fun S762 u749 u751 u752 u755 u756 u759 u760 u761 => (m_L_upgrades_j460 S762 u749 u751 u752 u755 u756 u759 u760 u761)) (pw_F 9) S743 0 39 0 36 0 1 (Int32.ofNat (nu - 1)) (Int32.ofNat nu) z748) = _
      rw [d1, py_b, py_l]
      exact p1.trans q1
  obtain ⟨S', nu', Ls', t1, t2, t3, t4⟩ := tail
  refine ⟨S', nu', Ls', ?_, t2, t3, g3.trans t4⟩
  unfold m_L_upgrades_j333
  rw [hb, h36b, h36, py_ct hnz, hm, py_l, hb, show Int32.ofNat nu - 1 = Int32.ofNat (nu - 1) from py_sub (a := nu) (b := 1) (by omega), py_l, a1, py_b, py_el, py_l, b1, py_b, hS3, py_l]
  exact t1
theorem pl_up_255 {S : pw_S} {nu Y : Nat} {Ls : Nat → Nat → List uP} (hU : px_U S (nu + 1) Ls) (h8 : nu ≤ 4) (hY : Y < 1073741824) (h36 : S 36 0 2 = Int32.ofNat nu) : ∃ S' nu' Ls', m_L_upgrades_j255 S 0 (Int32.ofNat Y) 39 0 36 0 1 = some (S', 1) ∧ px_U S' nu' Ls' ∧ S' 36 0 2 = Int32.ofNat nu' ∧ pg S S' := by
  have h36b : (2 : Int32).toNatClampNeg = 2 := rfl
  have hb : ∀ (β : Type) (o : pw_R β), pw_c (np_inb 2 (pw_len 36)) o = o := fun β o => py_ct (show np_inb 2 (pw_len 36) = true from rfl) o
  generalize hS1 : pw_up S 36 0 (upd (S 36 0) 2 (Int32.ofNat (nu + 1))) = S1
  have k1 : ∀ a i, Nat.beq a 36 = false → S1 a i = S a i := fun a i hh => by
    rw [← hS1]
    exact py_up_k _ _ hh
  have g1 : pg S S1 := by
    rw [← hS1]
    exact pg_c2 S _
  have e1 : S1 36 0 2 = Int32.ofNat (nu + 1) := by rw [← hS1, py_up_s, py_u_s]
  have hU1 : px_U S1 (nu + 1) Ls := hU.cong (by rw [k1 61 0 rfl]) (fun u _ => ⟨k1 _ _ rfl, k1 _ _ rfl, k1 _ _ rfl, k1 _ _ rfl⟩)
  generalize hS2 : pw_up S1 100 0 (fun _ => 0) = S2
  have f2 : py_fr (py_KH 100) S1 S2 := by
    rw [← hS2]
    exact py_fr_r.up (py_KH_s 100 0)
  obtain ⟨S3, a1, a2, a3⟩ := pl_up_274 (Y := Y) 1 (fun S793 u781 u783 u784 u785 u788 u789 u792 => (m_L_upgrades_j333 S793 u781 u783 u784 u785 u788 u789 u792)) 8 (pw_F 9) 0 S2 (by rw [py_F]; omega) rfl (fun j hj => absurd hj (Nat.not_lt_zero j))
  have hU3 : px_U S3 (nu + 1) Ls := (hU1.fH f2 ⟨rfl, rfl, rfl, rfl, rfl⟩).cong (by rw [a3 61 0 rfl rfl]) (fun u _ => ⟨a3 _ _ rfl rfl, a3 _ _ rfl rfl, a3 _ _ rfl rfl, a3 _ _ rfl rfl⟩)
  have e3 : S3 36 0 2 = Int32.ofNat (nu + 1) := by rw [a3 36 0 rfl rfl, f2 36 0 rfl, e1]
  have g3 : pg S2 S3 := ⟨fun j _ => by rw [a3 61 0 rfl rfl], fun j _ => by rw [a3 36 0 rfl rfl], fun a i z => a3 a i (by
    cases hk : Nat.beq a 35 with
    | false => rfl
    | true =>
      rw [Nat.eq_of_beq_eq_true hk] at z
      cases z) (by
    cases hk : Nat.beq a 100 with
    | false => rfl
    | true =>
      rw [Nat.eq_of_beq_eq_true hk] at z
      cases z)⟩
  obtain ⟨S', nu', Ls', b1, b2, b3, b4⟩ := pl_up_333 hU3 (by omega) (by omega) hY e3
  refine ⟨S', nu', Ls', ?_, b2, b3, ((g1.trans (pg_H f2 rfl rfl rfl)).trans g3).trans b4⟩
  unfold m_L_upgrades_j255
  rw [py_l, hb, hb, h36b, h36, py_add1, hS1, py_l, hS2, py_l, py_l]
  exact a1.trans b1
theorem pl_upgrades {S : pw_S} {nu X Y : Nat} {Ls : Nat → Nat → List uP} (hU : px_U S nu Ls) (h36 : S 36 0 2 = Int32.ofNat nu) (hd : ∀ j, j < 8 → S 19 0 j = -1) (hX : X < 1073741824) (hY : Y < 1073741824) : ∃ S' nu' Ls', m_L_upgrades S 0 (Int32.ofNat X) (Int32.ofNat Y) 39 0 36 0 = some (S', 1) ∧ px_U S' nu' Ls' ∧ S' 36 0 2 = Int32.ofNat nu' ∧ (∀ j, j < 8 → S' 19 0 j = -1) ∧ (∀ j, j ≠ 13 → S' 61 0 j = S 61 0 j) ∧ (∀ j, j ≠ 2 → S' 36 0 j = S 36 0 j) ∧ py_fr py_KG S S' := by
  have h36b : (2 : Int32).toNatClampNeg = 2 := rfl
  have hb : ∀ (β : Type) (o : pw_R β), pw_c (np_inb 2 (pw_len 36)) o = o := fun β o => py_ct (show np_inb 2 (pw_len 36) = true from rfl) o
  have hn8 := hU.2.1
  unfold m_L_upgrades
  rw [hb, h36b, h36, py_jeR (l := 4) (by omega) (by omega)]
  by_cases e : nu ≤ 4
  · have hw : px_w S := fun s hs => Or.inl (hd s hs)
    have k0 : kn (fun j => decide (S 19 0 j ≠ -1)) 8 = 0 := kn_none 8 (fun k hk => decide_eq_false (fun z => z (hd k hk)))
    obtain ⟨S1, a1, a2, a3⟩ := pl_up_22 (Y := Y) hY (fun S837 u825 u827 u828 u829 u832 u833 u836 => (m_L_upgrades_j211 S837 u825 u827 u828 u829 u832 u833 u836)) (1 + Y % 5) (pw_F 9) 0 S 0 X (by rw [py_F]; omega) (by omega) (by omega) hw (fun j hj => by
      rw [show py_bt 0 j = false from py_bt_0 ⟨j, by omega⟩]
      exact (decide_eq_false (fun z => z (hd j hj))).symm)
    rw [k0] at a1
    have hU1 : px_U S1 nu Ls := hU.cong (by rw [a3 61 0 rfl]) (fun u _ => ⟨a3 _ _ rfl, a3 _ _ rfl, a3 _ _ rfl, a3 _ _ rfl⟩)
    obtain ⟨S2, Ls2, b1, b2, b3, b4, b5, b6, b7, b8, b9⟩ := pm_upgrade hU1 (by omega) a2
    have e2 : S2 36 0 2 = Int32.ofNat nu := by rw [b8, a3 36 0 rfl, h36]
    obtain ⟨l1, l2⟩ := pw_d_len a2 8 (Nat.le_refl _)
    have l3 := kn_le (fun j => decide (S1 19 0 j ≠ -1)) 8
    have hp := pm_parts b2 (show nu < nu + 1 by omega)
    rw [b3] at hp
    obtain ⟨S', nu', Ls', c1, c2, c3, c4⟩ := pl_up_255 (S := S2) (nu := nu) (Y := Y) b2 e hY e2
    refine ⟨S', nu', Ls', ?_, c2, c3, fun j hj => ?_, fun j hj => ?_, fun j hj => ?_, ((a3.mono py_KG_D).trans b9).trans (c4.2.2.mono py_KG2_G)⟩
    · rw [if_pos e, py_l, py_l, py_l, py_l]
      refine a1.trans ?_
      show m_L_upgrades_j211 S1 0 (Int32.ofNat Y) 39 0 36 0 (Int32.ofNat (kn (fun j => decide (S1 19 0 j ≠ -1)) 8)) = some (S', 1)
      unfold m_L_upgrades_j211
      rw [b1, py_b, py_el, hb, h36b, e2, if_pos rfl, hb, hp, py_b, py_el, py_jl (by omega) (by omega), if_neg (show ¬ (ul (pw_d S1) 8).length < kn (fun j => decide (S1 19 0 j ≠ -1)) 8 by omega), hb, e2, hp, py_b, py_el, show (3 : Int32) * Int32.ofNat (kn (fun j => decide (S1 19 0 j ≠ -1)) 8) = Int32.ofNat (3 * kn (fun j => decide (S1 19 0 j ≠ -1)) 8) from py_mul 3 _, py_jl (by omega) (by omega), if_neg (show ¬ 3 * kn (fun j => decide (S1 19 0 j ≠ -1)) 8 < (ul (pw_d S1) 8).length by omega)]
      exact c1
    · rw [c4.2.2 19 0 rfl, b5 j hj]
    · rw [c4.1 j hj, b6 j hj, a3 61 0 rfl]
    · rw [c4.2.1 j hj, b8, a3 36 0 rfl]
  · rw [if_neg e]
    exact ⟨S, nu, Ls, rfl, hU, h36, hd, fun _ _ => rfl, fun _ _ => rfl, py_fr_r⟩
