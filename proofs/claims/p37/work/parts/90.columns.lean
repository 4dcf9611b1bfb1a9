/-! Columns: both ways tell the same, and what the law asks of them. -/
def py_KC (a _i : Nat) : Bool := Nat.beq a 17 || Nat.beq a 18
theorem py_KC_n {a i : Nat} (h : py_KC a i = false) : Nat.beq a 17 = false ∧ Nat.beq a 18 = false := by
  unfold py_KC at h
  exact Bool.or_eq_false_iff.mp h
theorem py_KC_17 {k : Nat} {S S' : pw_S} (h : py_fr (py_K1 17 k) S S') : py_fr py_KC S S' := fun a i z => h a i (by
  unfold py_K1
  rw [(py_KC_n z).1]
  rfl)
theorem py_KC_18 {k : Nat} {S S' : pw_S} (h : py_fr (py_K1 18 k) S S') : py_fr py_KC S S' := fun a i z => h a i (by
  unfold py_K1
  rw [(py_KC_n z).2]
  rfl)
theorem pz0_tail {S : pw_S} {k r : Nat} {m X : Int32} {p : Prop} [Decidable p] (hr : r < 24) (hb : py_bt m r = decide p) (h1 : p → X = -2147483648) (h2 : ¬ p → X = S 18 k r) : (pw_l (m : Int32) fun z12 => if ((z12 >>> (Int32.ofNat r &&& 31)) &&& 1) = 1 then (some (S, (-2147483648)) : pw_R Int32) else (pw_b (m_X11_at S 18 k (Int32.ofNat r) (-2147483648)) fun S13 r16 => some (S13, r16))) = some (S, X) := by
  rw [py_l, py_bt_test m (show r < 32 by omega), hb]
  by_cases e : p
  · rw [if_pos (decide_eq_true e), if_pos rfl, h1 e]
  · rw [if_neg (fun z => e (of_decide_eq_true z)), if_neg (show ¬ (0 : Int32) = 1 by decide), py_atI _ _ _ _ _ (show r < 24 by omega), py_b, h2 e]
theorem pz0_fromBatch {S : pw_S} {k f kd s w rc r : Nat} (h : px_k S k f kd s w) (h7 : S 54 f 7 = Int32.ofNat rc) (hrc : rc ≤ 24) (hr : r < 24) (hB : ∀ j, cz_B S f rc s j = -2147483648 ∨ ∃ t, t < 134217728 ∧ cz_B S f rc s j = Int32.ofNat t) : ∃ S', m_X0_fromBatch S k (Int32.ofNat r) = some (S', cz_d kd w (cz_K (cz_B S f rc s) r)) ∧ py_fr py_KC S S' := by
  obtain ⟨S1, m, a1, a2, a3, a4⟩ := pz0_gather (k := k) (f := f) (kd := kd) (s := s) (w := w) (rc := rc) (B := cz_B S f rc s) hrc 24 (pw_F 20000) 0 S 0 (by rw [py_F]; omega) rfl h h7 rfl (fun j hj => absurd hj (Nat.not_lt_zero j)) (fun r hr => by
    rw [show py_bt 0 r = false from py_bt_0 ⟨r, hr⟩, decide_eq_false (Nat.not_lt_zero r), Bool.false_and])
  generalize hBB : cz_B S f rc s = B at a2 a3 hB ⊢
  have e1 : m_X0_gatherBase S k = some (S1, m) := by
    unfold m_X0_gatherBase
    rw [py_l, py_l]
    exact a1
  have h1 : px_k S1 k f kd s w := h.cong (a4 55 k rfl)
  have hh := h1
  obtain ⟨h2, hf, h3, hkd, h4, hs, h5, hw1, hw5⟩ := hh
  have hK : ∀ r d, cz_K B r d = -2147483648 ∨ ∃ t, t < 134217728 ∧ cz_K B r d = Int32.ofNat t := fun r d => by
    unfold cz_K
    by_cases e : d ≤ r
    · rw [if_pos e]
      exact hB _
    · rw [if_neg e]
      exact Or.inl rfl
  have hm0 : ∀ r, r < 24 → py_bt (-1) r = true := fun r hr => py_bt_m1 ⟨r, hr⟩
  unfold m_X0_fromBatch
  rw [e1, py_b, py_l, h3]
  have hk4 : kd = 0 ∨ kd = 1 ∨ kd = 2 ∨ kd = 3 := by omega
  rcases hk4 with rfl | rfl | rfl | rfl
  · rw [if_pos (show (Int32.ofNat 0).toInt = 0 from rfl)]
    obtain ⟨S2, m2, b1, b2, b3, b4⟩ := pz0_shift (k := k) (f := f) (kd := 0) (s := s) (w := w) a3 24 (pw_F 20000) 0 S1 (by rw [py_F]; omega) rfl h1 a2 (fun j hj => absurd hj (Nat.not_lt_zero j))
    have e2 : m_X0_shiftBatch S1 k m = some (S2, m2) := by
      unfold m_X0_shiftBatch
      rw [py_l]
      exact b1
    rw [e2, py_b]
    refine ⟨S2, pz0_tail hr (b3 r hr) (fun z => ?_) (fun z => ?_), (py_KC_17 a4).trans (py_KC_18 b4)⟩
    · unfold cz_d
      rw [if_pos rfl, z]
    · unfold cz_d
      rw [if_pos rfl, b2 r hr]
  · rw [if_neg (show ¬ (Int32.ofNat 1).toInt = 0 by decide), if_pos (show (Int32.ofNat 1).toInt = (0 + 1) from rfl)]
    obtain ⟨S3, hS3⟩ : ∃ S3, S3 = pw_up S1 18 k (fun j => if j < pw_len 18 then 0 else S1 18 k j) := ⟨_, rfl⟩
    have c1 : ∀ j, j < 24 → S3 18 k j = 0 := fun j hj => by
      rw [hS3, py_up_s, if_pos (show j < pw_len 18 from hj)]
    have c2 : py_fr (py_K1 18 k) S1 S3 := by
      rw [hS3]
      exact py_fr_r.up (py_K1_s 18 k)
    obtain ⟨S2, m2, b1, b2, b3, b4⟩ := pz0_total_12 (k := k) (f := f) (kd := 1) (s := s) (w := w) (B := B) hK a3 w (pw_F 20000) 0 S3 (-1) (by rw [py_F]; omega) (by omega) (h1.cong (c2 55 k rfl)) (fun j hj => by rw [c2 17 k rfl, a2 j hj]) (fun j hj => by
      rw [c1 j hj]
      exact (if_pos rfl).symm) (fun r hr => by
      rw [hm0 r hr]
      exact (decide_eq_true rfl).symm)
    have e2 : m_X0_totalBatch S1 k m = some (S2, m2) := by
      unfold m_X0_totalBatch
      rw [py_fill, py_b, py_l, py_l, ← hS3]
      exact b1
    rw [e2, py_b]
    refine ⟨S2, pz0_tail hr (b3 r hr) (fun z => ?_) (fun z => ?_), ((py_KC_17 a4).trans (py_KC_18 c2)).trans (py_KC_18 b4)⟩
    · unfold cz_d
      rw [if_neg (show ¬ 1 = 0 by decide), if_neg (show ¬ 1 = 3 by decide), z]
    · unfold cz_d
      rw [if_neg (show ¬ 1 = 0 by decide), if_neg (show ¬ 1 = 3 by decide), b2 r hr, if_neg z]
  · rw [if_neg (show ¬ (Int32.ofNat 2).toInt = 0 by decide), if_neg (show ¬ (Int32.ofNat 2).toInt = (0 + 1) by decide), if_pos (show (Int32.ofNat 2).toInt = ((0 + 1) + 1) from rfl)]
    obtain ⟨S3, hS3⟩ : ∃ S3, S3 = pw_up S1 18 k (fun j => if j < pw_len 18 then -2147483648 else S1 18 k j) := ⟨_, rfl⟩
    have c1 : ∀ j, j < 24 → S3 18 k j = -2147483648 := fun j hj => by
      rw [hS3, py_up_s, if_pos (show j < pw_len 18 from hj)]
    have c2 : py_fr (py_K1 18 k) S1 S3 := by
      rw [hS3]
      exact py_fr_r.up (py_K1_s 18 k)
    obtain ⟨S2, m2, b1, b2, b3, b4⟩ := pz0_great_13 (k := k) (f := f) (kd := 2) (s := s) (w := w) (B := B) a3 w (pw_F 20000) 0 S3 (-1) (by rw [py_F]; omega) (by omega) (h1.cong (c2 55 k rfl)) (fun j hj => by rw [c2 17 k rfl, a2 j hj]) (fun j hj => c1 j hj) (fun r hr => by
      rw [hm0 r hr]
      exact (decide_eq_true rfl).symm)
    have e2 : m_X0_greatestBatch S1 k m = some (S2, m2) := by
      unfold m_X0_greatestBatch
      rw [py_fill, py_b, py_l, py_l, ← hS3]
      exact b1
    rw [e2, py_b]
    refine ⟨S2, pz0_tail hr (b3 r hr) (fun z => ?_) (fun z => ?_), ((py_KC_17 a4).trans (py_KC_18 c2)).trans (py_KC_18 b4)⟩
    · unfold cz_d
      rw [if_neg (show ¬ 2 = 0 by decide), if_neg (show ¬ 2 = 3 by decide), z]
    · unfold cz_d
      rw [if_neg (show ¬ 2 = 0 by decide), if_neg (show ¬ 2 = 3 by decide), b2 r hr]
  · rw [if_neg (show ¬ (Int32.ofNat 3).toInt = 0 by decide), if_neg (show ¬ (Int32.ofNat 3).toInt = (0 + 1) by decide), if_neg (show ¬ (Int32.ofNat 3).toInt = ((0 + 1) + 1) by decide), if_pos (show (Int32.ofNat 3).toInt = (((0 + 1) + 1) + 1) from rfl)]
    obtain ⟨S2, m2, b1, b2, b3, b4⟩ := pz0_differ (k := k) a3 24 (pw_F 20000) 0 S1 (by rw [py_F]; omega) rfl a2 (fun j hj => absurd hj (Nat.not_lt_zero j))
    have e2 : m_X0_differBatch S1 k m = some (S2, m2) := by
      unfold m_X0_differBatch
      rw [py_l]
      exact b1
    rw [e2, py_b]
    have q0 : cz_K B r 0 = B r := if_pos (Nat.zero_le r)
    refine ⟨S2, pz0_tail (p := B r = -2147483648 ∨ cz_K B r 1 = -2147483648) hr (by rw [b3 r hr, Bool.decide_or]) (fun z => ?_) (fun z => ?_), (py_KC_17 a4).trans (py_KC_18 b4)⟩
    · unfold cz_d
      rw [if_neg (show ¬ 3 = 0 by decide), if_pos rfl, q0]
      by_cases e : B r = -2147483648
      · rw [if_pos e]
      · rw [if_neg e]
        rcases z with z | z
        · exact absurd z e
        · rw [if_pos z]
    · unfold cz_d
      rw [if_neg (show ¬ 3 = 0 by decide), if_pos rfl, q0, if_neg (fun y => z (Or.inl y)), if_neg (fun y => z (Or.inr y)), b2 r hr]
      unfold cz_E
      by_cases e : 1 ≤ r
      · rw [if_pos e]
        unfold cz_K
        rw [if_pos e]
      · exfalso
        apply z
        right
        unfold cz_K
        rw [if_neg e]
theorem pz0_hasRow {S : pw_S} {k f kd s w rc : Nat} (h : px_k S k f kd s w) (h7 : S 54 f 7 = Int32.ofNat rc) (hrc : rc ≤ 24) {r : Nat} (hr : r < 1000) : m_X0_hasRow S k (Int32.ofNat r) = some (S, if r < rc then 1 else 0) := by
  obtain ⟨h2, hf, h3, hkd, h4, hs, h5, hw1, hw5⟩ := h
  unfold m_X0_hasRow
  rw [h2, py_jn (by omega), pk_dn hf (by omega), pm_hasRow h7 hrc hr, py_b]
  by_cases e : r < rc
  · rw [if_pos e, if_neg py_10]
  · rw [if_neg e, if_pos rfl]
theorem pm_columnOf {S : pw_S} {nk k : Nat} (hn : S 61 0 10 = Int32.ofNat nk) (hk : k < nk) (h6 : nk ≤ 6) : m_X11_columnOf S 0 (Int32.ofNat k) = some (S, some k) := by
  unfold m_X11_columnOf
  rw [py_jn (by omega), hn, py_je (by omega) (by omega), if_neg (show ¬ nk ≤ k by omega), py_jeL (l := 6) (by omega) (by omega), if_neg (show ¬ 6 ≤ k by omega), py_ct (py_inb (by omega) (by omega)), pk_dn (by omega) (by omega)]
theorem pm_derived {S : pw_S} {nk k f kd s w rc r : Nat} (hn : S 61 0 10 = Int32.ofNat nk) (hk : k < nk) (h6 : nk ≤ 6) (h : px_k S k f kd s w) (h7 : S 54 f 7 = Int32.ofNat rc) (hrc : rc ≤ 24) (hr : r < 1000) : m_X11_derived S 0 (Int32.ofNat k) (Int32.ofNat r) = some (S, if r < rc then .inl (cz_d kd w (cz_K (cz_B S f rc s) r)) else .inr 0) := by
  unfold m_X11_derived
  rw [pm_columnOf hn hk h6, py_b, py_os, pz0_hasRow h h7 hrc hr, py_b]
  by_cases e : r < rc
  · rw [if_pos e, if_neg py_10, pz0_fromRow h h7 hrc hr, py_b, if_pos e]
  · rw [if_neg e, if_pos rfl, if_neg e]
theorem pm_derivedByBatch {S : pw_S} {nk k f kd s w rc r : Nat} (hn : S 61 0 10 = Int32.ofNat nk) (hk : k < nk) (h6 : nk ≤ 6) (h : px_k S k f kd s w) (h7 : S 54 f 7 = Int32.ofNat rc) (hrc : rc ≤ 24) (hr : r < rc) (hB : ∀ j, cz_B S f rc s j = -2147483648 ∨ ∃ t, t < 134217728 ∧ cz_B S f rc s j = Int32.ofNat t) : ∃ S', m_X11_derivedByBatch S 0 (Int32.ofNat k) (Int32.ofNat r) = some (S', .inl (cz_d kd w (cz_K (cz_B S f rc s) r))) ∧ py_fr py_KC S S' := by
  obtain ⟨S', a1, a2⟩ := pz0_fromBatch h h7 hrc (show r < 24 by omega) hB
  refine ⟨S', ?_, a2⟩
  unfold m_X11_derivedByBatch
  rw [pm_columnOf hn hk h6, py_b, py_os, pz0_hasRow h h7 hrc (by omega), py_b, if_pos hr, if_neg py_10, a1, py_b]
