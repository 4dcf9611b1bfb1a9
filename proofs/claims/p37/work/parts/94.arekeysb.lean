/-! The law's keys, whole. -/
theorem ks_le {w : Nat → Nat} {m : Nat} (h : ∀ r, w r ≤ m) : ∀ n, ks w n ≤ n * m := by
  intro n
  induction n with
  | zero => exact Nat.zero_le _
  | succ n ih =>
    unfold ks
    have := h n
    rw [Nat.succ_mul]
    omega
theorem kw_le (S : pw_S) (s : Nat) (rc : Nat → Nat) (f r : Nat) : kw S s rc f r ≤ 10000 := by
  unfold kw
  by_cases e1 : la (ix_K S f s) (rc f) r = true
  · rw [if_pos e1]
    by_cases e2 : kl (ix_K S (1 - f) s) (ix_K S f s r) (rc (1 - f)) = -1
    · rw [if_pos e2]
      by_cases e3 : f = 0
      · rw [if_pos e3]
        omega
      · rw [if_neg e3]
        exact Nat.le_refl _
    · rw [if_neg e2]
      by_cases e4 : kx (kr S f r) (kr S (1 - f) (kl (ix_K S (1 - f) s) (ix_K S f s r) (rc (1 - f))).toNatClampNeg) 24 = true
      · rw [if_pos e4]
        by_cases e3 : f = 0
        · rw [if_pos e3]
          omega
        · rw [if_neg e3]
          omega
      · rw [if_neg e4]
        omega
  · rw [if_neg e1]
    omega
theorem pl_keys_22 {S : pw_S} {s f : Nat} {rc : Nat → Nat} (hQ : px_Q S rc) (hf : f < 2) (hs : s < 8) (k420 : pw_S → Nat → Int32 → Nat → Nat → Int32 → Int32 → Int32 → pw_R Int32) (d : Nat) : ∀ (n N i : Nat), n < N → rc f = i + n → m_L_areKeys_22 k420 N S 0 (Int32.ofNat s) 36 0 (Int32.ofNat (d + ks (kw S s rc f) i)) 1 (Int32.ofNat f) (Int32.ofNat i) = k420 S 0 (Int32.ofNat s) 36 0 (Int32.ofNat (d + ks (kw S s rc f) (rc f))) 1 (Int32.ofNat f) := by
  obtain ⟨a1, a2, a3, a4, a5⟩ := hQ f hf
  intro n
  induction n with
  | zero =>
    intro N i hN hi
    obtain ⟨N, rfl⟩ : ∃ q, N = q + 1 := ⟨N - 1, by omega⟩
    unfold m_L_areKeys_22
    rw [pz_5f, pz_b hf 5 (by decide), pz_c hf 5 (by decide), a3, py_je (by omega) (by omega), if_pos (show rc f ≤ i by omega), show rc f = i by omega]
  | succ n ih =>
    intro N i hN hi
    obtain ⟨N, rfl⟩ : ∃ q, N = q + 1 := ⟨N - 1, by omega⟩
    have ih2 := ih N (i + 1) (by omega) (by omega)
    have e0 : d + ks (kw S s rc f) (i + 1) = d + ks (kw S s rc f) i + kw S s rc f i := by
      show d + (ks (kw S s rc f) i + kw S s rc f i) = _
      omega
    rw [e0] at ih2
    unfold m_L_areKeys_22
    rw [pz_5f, pz_b hf 5 (by decide), pz_c hf 5 (by decide), a3, py_je (by omega) (by omega), if_neg (show ¬ rc f ≤ i by omega), if_neg py_10, pl_xcell hf a1 (by omega) (by omega) hs, py_b, py_el, py_l, py_l]
    have go : ∀ (b : Bool), b = kq2 (ix_K S f s) (ix_K S f s i) i 0 → m_L_areKeys_73 (fun S797 u784 u786 u787 u788 u791 u792 u793 u794 u795 u796 => (m_L_areKeys_j161 (fun S811 u800 u802 u803 u804 u807 u808 u809 u810 => m_L_areKeys_22 k420 N S811 u800 u802 u803 u804 u807 u808 u809 u810) (fun S828 u818 u820 u821 u822 u825 u826 u827 => k420 S828 u818 u820 u821 u822 u825 u826 u827) S797 u784 u786 u787 u788 u791 u792 u793 u794 u795 u796)) (pw_F 11) S 0 (Int32.ofNat s) 36 0 (Int32.ofNat (d + ks (kw S s rc f) i)) (Int32.ofNat f) (Int32.ofNat i) (ix_K S f s i) 0 (kb b) 0 = k420 S 0 (Int32.ofNat s) 36 0 (Int32.ofNat (d + ks (kw S s rc f) (rc f))) 1 (Int32.ofNat f) := by
      intro b hb
      rw [hb]
      refine (pl_keys_73 (v := ix_K S f s i) hf a1 a2 a3 (show i < rc f by omega) hs (Int32.ofNat (d + ks (kw S s rc f) i)) _ (rc f) (pw_F 11) 0 (by rw [py_F]; omega) (by omega)).trans ?_
      refine (pl_keys_j161 hQ hf (show i < rc f by omega) hs _ _ (d + ks (kw S s rc f) i)).trans ?_
      exact ih2
    by_cases e : ix_K S f s i = -2147483648
    · rw [if_pos e, py_l, py_l]
      exact go false (decide_eq_false (fun z => z e)).symm
    · rw [if_neg e, py_l, py_l]
      exact go true (decide_eq_true e).symm
theorem ks_0 {S : pw_S} {s : Nat} {rc : Nat → Nat} : ∀ n, ks (kw S s rc 0) n = 100 * kn (kP (ix_K S 0 s) (ix_K S 1 s) (rc 0) (rc 1)) n + kn (kD S 0 1 s (rc 0) (rc 1)) n := by
  intro n
  induction n with
  | zero => rfl
  | succ n ih =>
    have e1 : ks (kw S s rc 0) (n + 1) = ks (kw S s rc 0) n + kw S s rc 0 n := rfl
    have e2 : kn (kP (ix_K S 0 s) (ix_K S 1 s) (rc 0) (rc 1)) (n + 1) = kn (kP (ix_K S 0 s) (ix_K S 1 s) (rc 0) (rc 1)) n + if kP (ix_K S 0 s) (ix_K S 1 s) (rc 0) (rc 1) n = true then 1 else 0 := rfl
    have e3 : kn (kD S 0 1 s (rc 0) (rc 1)) (n + 1) = kn (kD S 0 1 s (rc 0) (rc 1)) n + if kD S 0 1 s (rc 0) (rc 1) n = true then 1 else 0 := rfl
    have e4 : kw S s rc 0 n = 100 * (if kP (ix_K S 0 s) (ix_K S 1 s) (rc 0) (rc 1) n = true then 1 else 0) + if kD S 0 1 s (rc 0) (rc 1) n = true then 1 else 0 := by
      unfold kw kP kD
      cases h1 : la (ix_K S 0 s) (rc 0) n with
      | false =>
        rw [if_neg Bool.false_ne_true, Bool.false_and, Bool.false_and, if_neg Bool.false_ne_true]
      | true =>
        rw [if_pos rfl, Bool.true_and, Bool.true_and, if_pos (show (0 : Nat) = 0 from rfl), if_pos (show (0 : Nat) = 0 from rfl)]
        show (if kl (ix_K S 1 s) (ix_K S 0 s n) (rc 1) = -1 then 100 else if kx (kr S 0 n) (kr S 1 (kl (ix_K S 1 s) (ix_K S 0 s n) (rc 1)).toNatClampNeg) 24 = true then 1 else 0) = _
        by_cases h2 : kl (ix_K S 1 s) (ix_K S 0 s n) (rc 1) = -1
        · rw [if_pos h2, decide_eq_true h2, if_pos rfl, Bool.not_true, Bool.false_and, if_neg Bool.false_ne_true]
        · rw [if_neg h2, decide_eq_false h2, if_neg Bool.false_ne_true, Bool.not_false, Bool.true_and]
          omega
    rw [e1, e2, e3, e4, ih]
    omega
theorem ks_1 {S : pw_S} {s : Nat} {rc : Nat → Nat} : ∀ n, ks (kw S s rc 1) n = 10000 * kn (kP (ix_K S 1 s) (ix_K S 0 s) (rc 1) (rc 0)) n := by
  intro n
  induction n with
  | zero => rfl
  | succ n ih =>
    have e1 : ks (kw S s rc 1) (n + 1) = ks (kw S s rc 1) n + kw S s rc 1 n := rfl
    have e2 : kn (kP (ix_K S 1 s) (ix_K S 0 s) (rc 1) (rc 0)) (n + 1) = kn (kP (ix_K S 1 s) (ix_K S 0 s) (rc 1) (rc 0)) n + if kP (ix_K S 1 s) (ix_K S 0 s) (rc 1) (rc 0) n = true then 1 else 0 := rfl
    have e4 : kw S s rc 1 n = 10000 * (if kP (ix_K S 1 s) (ix_K S 0 s) (rc 1) (rc 0) n = true then 1 else 0) := by
      unfold kw kP
      cases h1 : la (ix_K S 1 s) (rc 1) n with
      | false =>
        rw [if_neg Bool.false_ne_true, Bool.false_and, if_neg Bool.false_ne_true]
      | true =>
        rw [if_pos rfl, Bool.true_and, if_neg (show ¬ (1 : Nat) = 0 by decide), if_neg (show ¬ (1 : Nat) = 0 by decide)]
        show (if kl (ix_K S 0 s) (ix_K S 1 s n) (rc 0) = -1 then 10000 else if kx (kr S 1 n) (kr S 0 (kl (ix_K S 0 s) (ix_K S 1 s n) (rc 0)).toNatClampNeg) 24 = true then 0 else 0) = _
        by_cases h2 : kl (ix_K S 0 s) (ix_K S 1 s n) (rc 0) = -1
        · rw [if_pos h2, decide_eq_true h2, if_pos rfl]
        · rw [if_neg h2, decide_eq_false h2, if_neg Bool.false_ne_true]
          split <;> rfl
    rw [e1, e2, e4, ih]
    omega
theorem pl_keys_j426 {S : pw_S} {s : Nat} {rc : Nat → Nat} (hQ : px_Q S rc) (hs : s < 8) : m_L_areKeys_j426 S 0 (Int32.ofNat s) (Int32.ofNat (ks (kw S s rc 0) (rc 0) + ks (kw S s rc 1) (rc 1))) 1 = some (S, 1) := by
  obtain ⟨a1, a2, a3, a4, a5⟩ := hQ 0 (by omega)
  have hc := pm_compare (S := S) (s := s) (rc := rc) (fun f hf => ⟨(hQ f hf).1, by have := (hQ f hf).2.1; omega⟩) hs
  have e : 10000 * kn (kP (ix_K S 1 s) (ix_K S 0 s) (rc 1) (rc 0)) (rc 1) + 100 * kn (kP (ix_K S 0 s) (ix_K S 1 s) (rc 0) (rc 1)) (rc 0) + kn (kD S 0 1 s (rc 0) (rc 1)) (rc 0) = ks (kw S s rc 0) (rc 0) + ks (kw S s rc 1) (rc 1) := by
    rw [ks_0, ks_1]
    omega
  have n1 : ix_n (ix_K S 0 s) (-1) (rc 0) 0 0 = -1 := by
    apply ix_n_none
    rw [kn_none (0 + rc 0) (fun k hk => decide_eq_false (fun z => by
      rcases a4 k (by omega) (s * 3) (by omega) with y | ⟨w, y1, y2⟩
      · have z2 : ix_K S 0 s k = -2147483648 := y
        rw [z2] at z
        revert z
        decide
      · have z2 : ix_K S 0 s k = Int32.ofNat w := y2
        rw [z2] at z
        exact py_ne1 (by omega) z))]
    exact Nat.zero_le _
  have f1 : m_X11_find S 0 0 (Int32.ofNat s) (-1) 0 = some (S, .inl (-1)) := by
    have f0 := pm_findX (v := (-1 : Int32)) (f := 0) (by omega) hs (pb_rowByIndex (v := (-1 : Int32)) (w := 0) (b := 31) a1 (by omega) hs (by omega) (a5 s hs) (by omega) (by decide) (by decide)) (by omega)
    rw [n1] at f0
    exact f0
  unfold m_L_areKeys_j426
  rw [if_neg py_10, hc, e, py_b, py_el, if_pos rfl, f1, py_b, py_el, if_pos rfl]
theorem pl_areKeys {S : pw_S} {s : Nat} {rc : Nat → Nat} (hQ : px_Q S rc) (hs : s < 8) : m_L_areKeys S 0 (Int32.ofNat s) 36 0 = some (S, 1) := by
  have h0 := (hQ 0 (by omega)).2.1
  have h1 := (hQ 1 (by omega)).2.1
  unfold m_L_areKeys
  obtain ⟨q, hq⟩ : ∃ q, pw_F 3 = q + 1 + 1 + 1 := ⟨0, pw_F_eq 3⟩
  rw [py_l, py_l, py_l, hq]
  unfold m_L_areKeys_8
  rw [if_neg (show ¬ (2 : Int32) ≤ 0 by decide), if_neg py_10, py_l]
  refine (pl_keys_22 hQ (f := 0) (by omega) hs _ 0 (rc 0) (pw_F 11) 0 (by rw [py_F]; omega) (by omega)).trans ?_
  rw [py_l]
  unfold m_L_areKeys_8
  rw [show (Int32.ofNat 0 + 1) = Int32.ofNat 1 from rfl, if_neg (show ¬ (2 : Int32) ≤ Int32.ofNat 1 by decide), if_neg py_10, py_l]
  refine (pl_keys_22 hQ (f := 1) (by omega) hs _ (0 + ks (kw S s rc 0) (rc 0)) (rc 1) (pw_F 11) 0 (by rw [py_F]; omega) (by omega)).trans ?_
  rw [py_l]
  unfold m_L_areKeys_8
  rw [show (Int32.ofNat 1 + 1) = Int32.ofNat 2 from rfl, if_pos (show (2 : Int32) ≤ Int32.ofNat 2 by decide), Nat.zero_add]
  exact pl_keys_j426 hQ hs
