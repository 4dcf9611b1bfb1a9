/-! The law's descriptions. -/
/-- the draft on the way -/
def pd_dr (S : pw_S) (I : py_I) (k : Nat) : Prop := py_Ri S 6 I ∧ (∀ i, i < pi_n I → pd_1 (pi_k I i) (pi_a I i) (pi_b I i) (pi_c I i)) ∧ pi_n I ≤ k
theorem pd_dr.add {S S' : pw_S} {I : py_I} {k kd a b c : Nat} (h : pd_dr S I k) (hv : pd_1 kd a b c) (hR : py_Ri S' 6 (pd_add I kd a b c)) : pd_dr S' (pd_add I kd a b c) (k + 1) := by
  refine ⟨hR, fun i hi => ?_, Nat.succ_le_succ h.2.2⟩
  by_cases e : i = pi_n I
  · have c1 : pi_k (pd_add I kd a b c) i = kd := if_pos e
    have c2 : pi_a (pd_add I kd a b c) i = a := if_pos e
    have c3 : pi_b (pd_add I kd a b c) i = b := if_pos e
    have c4 : pi_c (pd_add I kd a b c) i = c := if_pos e
    rw [c1, c2, c3, c4]
    exact hv
  · have c1 : pi_k (pd_add I kd a b c) i = pi_k I i := if_neg e
    have c2 : pi_a (pd_add I kd a b c) i = pi_a I i := if_neg e
    have c3 : pi_b (pd_add I kd a b c) i = pi_b I i := if_neg e
    have c4 : pi_c (pd_add I kd a b c) i = pi_c I i := if_neg e
    have hi2 : i < pi_n I + 1 := hi
    rw [c1, c2, c3, c4]
    exact h.2.1 i (by omega)
theorem pl_d342 {S : pw_S} {Y Z k m : Nat} {v4 v5 : Int32} (hY : Y < 1073741824) (hZ : Z < 2147483648) (hk : k < 6) (hm : m < 14) (k35 : pw_S → Nat → Int32 → Nat → Nat → Int32 → Int32 → Int32 → Int32 → Int32 → pw_R Int32) (k398 : pw_S → Nat → Nat → Nat → Int32 → Int32 → pw_R Int32) :
    ∃ Z', Z' < 2147483648 ∧ m_L_describes_j342 k35 k398 S 0 (Int32.ofNat Y) 36 0 v4 v5 (Int32.ofNat m) (Int32.ofNat Z) (Int32.ofNat k) (Int32.ofNat (m + 1)) = k35 S 0 (Int32.ofNat Y) 36 0 v4 v5 (Int32.ofNat (m + 1)) (Int32.ofNat Z') (Int32.ofNat (k + 1)) ∧ m_L_describes_j342 k35 k398 S 0 (Int32.ofNat Y) 36 0 v4 v5 (Int32.ofNat m) (Int32.ofNat Z) (Int32.ofNat k) (-70009) = k35 S 0 (Int32.ofNat Y) 36 0 v4 v5 (Int32.ofNat m) (Int32.ofNat Z') (Int32.ofNat (k + 1)) := by
  have m9 : Int32.ofNat Y - Int32.ofNat Y / 1000 * 1000 = Int32.ofNat (Y % 1000) := py_mod (b := 1000) (by omega) (by omega)
  have m8 : Int32.ofNat Z >>> (3 &&& 31) = Int32.ofNat (Z / 2 ^ 3) := py_sar (i := 3) hZ (by omega)
  have m7 : ∀ x : Nat, (7919 : Int32) * Int32.ofNat x = Int32.ofNat (7919 * x) := fun x => py_mul 7919 x
  have z0 : Int32.ofNat m + 0 = Int32.ofNat m := py_add m 0
  refine ⟨Z / 2 ^ 3 + 7919 * (Y % 1000 + k), by omega, ?_, ?_⟩
  · unfold m_L_describes_j342
    rw [py_l, py_jn (by omega), py_add1, py_l, py_jn (by omega), if_pos rfl, m9, m8, py_add, m7, py_add, py_l, py_l, py_add1]
  · unfold m_L_describes_j342
    rw [py_l, if_pos (show (-70009 : Int32) < 0 by decide), z0, py_l, if_pos (show (-70009 : Int32) < 0 by decide), m9, m8, py_add, m7, py_add, py_l, py_l, py_add1]
theorem pl_it {S : pw_S} {I : py_I} {Y Z k : Nat} {v4 v5 : Int32} (hY : Y < 1073741824) (hZ : Z < 2147483648) (hk : k < 6) (h : pd_dr S I k) {kd a b c : Nat} (hv : pd_1 kd a b c) (k35 : pw_S → Nat → Int32 → Nat → Nat → Int32 → Int32 → Int32 → Int32 → Int32 → pw_R Int32) (k398 : pw_S → Nat → Nat → Nat → Int32 → Int32 → pw_R Int32) :
    ∃ S' I' Z', (pw_b (m_L_items S 0 (Int32.ofNat kd) (Int32.ofNat a) (Int32.ofNat b) (Int32.ofNat c)) fun S13 r16 => m_L_describes_j342 k35 k398 S13 0 (Int32.ofNat Y) 36 0 v4 v5 (Int32.ofNat (pi_n I)) (Int32.ofNat Z) (Int32.ofNat k) r16) = k35 S' 0 (Int32.ofNat Y) 36 0 v4 v5 (Int32.ofNat (pi_n I')) (Int32.ofNat Z') (Int32.ofNat (k + 1)) ∧ Z' < 2147483648 ∧ pd_dr S' I' (k + 1) ∧ py_fr (py_K5 6) S S' := by
  have hn := h.2.2
  obtain ⟨S1, a1, a2, a3, -⟩ := pm_item h.1 (show pi_n I < 14 by omega) hv
  obtain ⟨Z', z1, z2, -⟩ := pl_d342 (S := S1) (v4 := v4) (v5 := v5) (m := pi_n I) hY hZ hk (by omega) k35 k398
  refine ⟨S1, pd_add I kd a b c, Z', ?_, z1, h.add hv a2, a3⟩
  unfold m_L_items
  rw [a1, py_b, py_el, py_b, z2]
  rfl
theorem pl_itR {S : pw_S} {I : py_I} {Y Z k : Nat} {v4 v5 : Int32} (hY : Y < 1073741824) (hZ : Z < 2147483648) (hk : k < 6) (h : pd_dr S I k) {a b c : Nat} (ha : a < 8) (h1 : 1 ≤ b) (h2 : b ≤ 8) (h3 : c ≤ 8) (h4 : 3 ≤ c) (h5 : c % 3 = 1) (k35 : pw_S → Nat → Int32 → Nat → Nat → Int32 → Int32 → Int32 → Int32 → Int32 → pw_R Int32) (k398 : pw_S → Nat → Nat → Nat → Int32 → Int32 → pw_R Int32) :
    ∃ S' I' Z', (pw_b (m_L_items S 0 0 (Int32.ofNat a) (Int32.ofNat b) (Int32.ofNat c)) fun S13 r16 => m_L_describes_j342 k35 k398 S13 0 (Int32.ofNat Y) 36 0 v4 v5 (Int32.ofNat (pi_n I)) (Int32.ofNat Z) (Int32.ofNat k) r16) = k35 S' 0 (Int32.ofNat Y) 36 0 v4 v5 (Int32.ofNat (pi_n I')) (Int32.ofNat Z') (Int32.ofNat (k + 1)) ∧ Z' < 2147483648 ∧ pd_dr S' I' (k + 1) ∧ py_fr (py_K5 6) S S' := by
  have hn := h.2.2
  obtain ⟨Z', z1, -, z2⟩ := pl_d342 (S := S) (v4 := v4) (v5 := v5) (m := pi_n I) hY hZ hk (by omega) k35 k398
  refine ⟨S, I, Z', ?_, z1, ⟨h.1, h.2.1, by omega⟩, py_fr_r⟩
  unfold m_L_items
  rw [pm_refused ha h1 h2 h3 h4 h5, py_b, py_er]
  show (pw_b (some (S, -70009)) fun S13 r16 => m_L_describes_j342 k35 k398 S13 0 (Int32.ofNat Y) 36 0 v4 v5 (Int32.ofNat (pi_n I)) (Int32.ofNat Z) (Int32.ofNat k) r16) = _
  rw [py_b, z2]
theorem pl_d62 {S : pw_S} {I : py_I} {Y Z k n w : Nat} {v5 : Int32} (hY : Y < 1073741824) (hZ : Z < 2147483648) (hk : k < n) (hn : n ≤ 6) (hw : w < 10) (h : pd_dr S I k) (k35 : pw_S → Nat → Int32 → Nat → Nat → Int32 → Int32 → Int32 → Int32 → Int32 → pw_R Int32) (k398 : pw_S → Nat → Nat → Nat → Int32 → Int32 → pw_R Int32) :
    ∃ S' I' Z', m_L_describes_j62 k35 k398 S 0 (Int32.ofNat Y) 36 0 (Int32.ofNat n) v5 (Int32.ofNat (pi_n I)) (Int32.ofNat Z) (Int32.ofNat k) (Int32.ofNat w) = k35 S' 0 (Int32.ofNat Y) 36 0 (Int32.ofNat n) v5 (Int32.ofNat (pi_n I')) (Int32.ofNat Z') (Int32.ofNat (k + 1)) ∧ Z' < 2147483648 ∧ pd_dr S' I' (k + 1) ∧ py_fr (py_K5 6) S S' := by
  have d11 : Int32.ofNat Z / 11 = Int32.ofNat (Z / 11) := py_div (b := 11) hZ (by omega)
  have d55 : Int32.ofNat Z / 55 = Int32.ofNat (Z / 55) := py_div (b := 55) hZ (by omega)
  have d33 : Int32.ofNat Z / 33 = Int32.ofNat (Z / 33) := py_div (b := 33) hZ (by omega)
  have d88 : Int32.ofNat Z / 88 = Int32.ofNat (Z / 88) := py_div (b := 88) hZ (by omega)
  have q11 : Z / 11 < 2147483648 := by omega
  have q55 : Z / 55 < 2147483648 := by omega
  have q33 : Z / 33 < 2147483648 := by omega
  have q88 : Z / 88 < 2147483648 := by omega
  have mn : Int32.ofNat (Z / 11) - Int32.ofNat (Z / 11) / Int32.ofNat n * Int32.ofNat n = Int32.ofNat (Z / 11 % n) := py_mod q11 (by omega)
  have hzn : Z / 11 % n < n := Nat.mod_lt _ (by omega)
  have hnz : (!decide (Int32.ofNat n = 0)) = true := by
    rw [decide_eq_false]
    · rfl
    · intro z
      have := (py_eq (a := n) (b := 0) (by omega) (by omega)).mp z
      omega
  have p1 : ∀ x : Nat, (1 : Int32) + Int32.ofNat x = Int32.ofNat (1 + x) := fun x => py_add 1 x
  have p2 : ∀ x : Nat, (2 : Int32) + Int32.ofNat x = Int32.ofNat (2 + x) := fun x => py_add 2 x
  have p32 : ∀ x : Nat, (32 : Int32) + Int32.ofNat x = Int32.ofNat (32 + x) := fun x => py_add 32 x
  have p59 : ∀ x : Nat, (59 : Int32) + Int32.ofNat x = Int32.ofNat (59 + x) := fun x => py_add 59 x
  have hk6 : k < 6 := by omega
  unfold m_L_describes_j62
  rw [py_l]
  rcases (by omega : w = 0 ∨ w = 1 ∨ w = 2 ∨ w = 3 ∨ w = 4 ∨ w = 5 ∨ w = 6 ∨ w = 7 ∨ w = 8 ∨ w = 9) with rfl | rfl | rfl | rfl | rfl | rfl | rfl | rfl | rfl | rfl
  · rw [if_pos (show Int32.ofNat 0 = 0 from rfl), d11, d55, show Int32.ofNat (Z / 11) - Int32.ofNat (Z / 11) / 5 * 5 = Int32.ofNat (Z / 11 % 5) from py_mod (b := 5) q11 (by omega), show Int32.ofNat (Z / 55) - Int32.ofNat (Z / 55) / 9 * 9 = Int32.ofNat (Z / 55 % 9) from py_mod (b := 9) q55 (by omega), p2]
    by_cases e : Z / 55 % 9 < 3 ∨ Z / 55 % 9 % 3 ≠ 1
    · exact pl_it (kd := 0) (a := k) (b := 2 + Z / 11 % 5) (c := Z / 55 % 9) hY hZ hk6 h (Or.inl (⟨rfl, by omega, by omega, by omega, by omega, e⟩)) k35 k398
    · exact pl_itR (a := k) (b := 2 + Z / 11 % 5) (c := Z / 55 % 9) hY hZ hk6 h (by omega) (by omega) (by omega) (by omega) (by omega) (by omega) k35 k398
  · rw [if_neg (show ¬ Int32.ofNat 1 = 0 by decide), if_pos (show Int32.ofNat 1 = 1 from rfl), d11, d55, show Int32.ofNat (Z / 11) - Int32.ofNat (Z / 11) / 5 * 5 = Int32.ofNat (Z / 11 % 5) from py_mod (b := 5) q11 (by omega), show Int32.ofNat (Z / 55) - Int32.ofNat (Z / 55) / 3 * 3 = Int32.ofNat (Z / 55 % 3) from py_mod (b := 3) q55 (by omega), p1]
    exact pl_it (kd := 1) (a := k) (b := 1 + Z / 11 % 5) (c := Z / 55 % 3) hY hZ hk6 h (Or.inr (Or.inl (⟨rfl, by omega, by omega, by omega, by omega⟩))) k35 k398
  · rw [if_neg (show ¬ Int32.ofNat 2 = 0 by decide), if_neg (show ¬ Int32.ofNat 2 = 1 by decide), if_pos (show Int32.ofNat 2 = 2 from rfl), d11, d33, show Int32.ofNat (Z / 11) - Int32.ofNat (Z / 11) / 3 * 3 = Int32.ofNat (Z / 11 % 3) from py_mod (b := 3) q11 (by omega), show Int32.ofNat (Z / 33) - Int32.ofNat (Z / 33) / 4 * 4 = Int32.ofNat (Z / 33 % 4) from py_mod (b := 4) q33 (by omega), p59]
    by_cases e : Int32.ofNat (Z / 11 % 3) = 0
    · rw [if_pos e]
      exact pl_it (kd := 2) (a := k) (b := 98) (c := 0) hY hZ hk6 h (Or.inr (Or.inr (Or.inl (⟨rfl, by omega, by omega, by omega, rfl⟩)))) k35 k398
    · rw [if_neg e]
      exact pl_it (kd := 2) (a := k) (b := 59 + Z / 33 % 4) (c := 0) hY hZ hk6 h (Or.inr (Or.inr (Or.inl (⟨rfl, by omega, by omega, by omega, rfl⟩)))) k35 k398
  · rw [if_neg (show ¬ Int32.ofNat 3 = 0 by decide), if_neg (show ¬ Int32.ofNat 3 = 1 by decide), if_neg (show ¬ Int32.ofNat 3 = 2 by decide), if_pos (show Int32.ofNat 3 = 3 from rfl), d11, show Int32.ofNat (Z / 11) - Int32.ofNat (Z / 11) / 4 * 4 = Int32.ofNat (Z / 11 % 4) from py_mod (b := 4) q11 (by omega), p1]
    exact pl_it (kd := 3) (a := k) (b := 1 + Z / 11 % 4) (c := 0) hY hZ hk6 h (Or.inr (Or.inr (Or.inr (Or.inl (⟨rfl, by omega, by omega, by omega, rfl⟩))))) k35 k398
  · rw [if_neg (show ¬ Int32.ofNat 4 = 0 by decide), if_neg (show ¬ Int32.ofNat 4 = 1 by decide), if_neg (show ¬ Int32.ofNat 4 = 2 by decide), if_neg (show ¬ Int32.ofNat 4 = 3 by decide), if_pos (show Int32.ofNat 4 = 4 from rfl)]
    exact pl_it (kd := 4) (a := 0) (b := 0) (c := 0) hY hZ hk6 h (Or.inr (Or.inr (Or.inr (Or.inr (Or.inl (⟨rfl, rfl, rfl, rfl⟩)))))) k35 k398
  · rw [if_neg (show ¬ Int32.ofNat 5 = 0 by decide), if_neg (show ¬ Int32.ofNat 5 = 1 by decide), if_neg (show ¬ Int32.ofNat 5 = 2 by decide), if_neg (show ¬ Int32.ofNat 5 = 3 by decide), if_neg (show ¬ Int32.ofNat 5 = 4 by decide), if_pos (show Int32.ofNat 5 = 5 from rfl), d11, show Int32.ofNat (Z / 11) - Int32.ofNat (Z / 11) / 95 * 95 = Int32.ofNat (Z / 11 % 95) from py_mod (b := 95) q11 (by omega), p32]
    exact pl_it (kd := 5) (a := 32 + Z / 11 % 95) (b := 0) (c := 0) hY hZ hk6 h (Or.inr (Or.inr (Or.inr (Or.inr (Or.inr (Or.inl (⟨rfl, by omega, by omega, rfl, rfl⟩))))))) k35 k398
  · rw [if_neg (show ¬ Int32.ofNat 6 = 0 by decide), if_neg (show ¬ Int32.ofNat 6 = 1 by decide), if_neg (show ¬ Int32.ofNat 6 = 2 by decide), if_neg (show ¬ Int32.ofNat 6 = 3 by decide), if_neg (show ¬ Int32.ofNat 6 = 4 by decide), if_neg (show ¬ Int32.ofNat 6 = 5 by decide), if_pos (show Int32.ofNat 6 = 6 from rfl)]
    exact pl_it (kd := 6) (a := k) (b := 0) (c := 0) hY hZ hk6 h (Or.inr (Or.inr (Or.inr (Or.inr (Or.inr (Or.inr (Or.inl (⟨rfl, by omega, rfl, rfl⟩)))))))) k35 k398
  · rw [if_neg (show ¬ Int32.ofNat 7 = 0 by decide), if_neg (show ¬ Int32.ofNat 7 = 1 by decide), if_neg (show ¬ Int32.ofNat 7 = 2 by decide), if_neg (show ¬ Int32.ofNat 7 = 3 by decide), if_neg (show ¬ Int32.ofNat 7 = 4 by decide), if_neg (show ¬ Int32.ofNat 7 = 5 by decide), if_neg (show ¬ Int32.ofNat 7 = 6 by decide), if_pos (show Int32.ofNat 7 = 7 from rfl), py_ct hnz, d11, mn, d88, show Int32.ofNat (Z / 88) - Int32.ofNat (Z / 88) / 2 * 2 = Int32.ofNat (Z / 88 % 2) from py_mod (b := 2) q88 (by omega), p1]
    exact pl_it (kd := 7) (a := Z / 11 % n) (b := 1 + Z / 88 % 2) (c := 0) hY hZ hk6 h (Or.inr (Or.inr (Or.inr (Or.inr (Or.inr (Or.inr (Or.inr (Or.inl (⟨rfl, by omega, by omega, by omega, rfl⟩))))))))) k35 k398
  · rw [if_neg (show ¬ Int32.ofNat 8 = 0 by decide), if_neg (show ¬ Int32.ofNat 8 = 1 by decide), if_neg (show ¬ Int32.ofNat 8 = 2 by decide), if_neg (show ¬ Int32.ofNat 8 = 3 by decide), if_neg (show ¬ Int32.ofNat 8 = 4 by decide), if_neg (show ¬ Int32.ofNat 8 = 5 by decide), if_neg (show ¬ Int32.ofNat 8 = 6 by decide), if_neg (show ¬ Int32.ofNat 8 = 7 by decide), if_pos (show Int32.ofNat 8 = 8 from rfl), py_ct hnz, d11, mn, d88, show Int32.ofNat (Z / 88) - Int32.ofNat (Z / 88) / 4 * 4 = Int32.ofNat (Z / 88 % 4) from py_mod (b := 4) q88 (by omega)]
    exact pl_it (kd := 8) (a := Z / 11 % n) (b := 1) (c := Z / 88 % 4) hY hZ hk6 h (Or.inr (Or.inr (Or.inr (Or.inr (Or.inr (Or.inr (Or.inr (Or.inr (Or.inl (⟨rfl, by omega, by omega, by omega, by omega⟩)))))))))) k35 k398
  · rw [if_neg (show ¬ Int32.ofNat 9 = 0 by decide), if_neg (show ¬ Int32.ofNat 9 = 1 by decide), if_neg (show ¬ Int32.ofNat 9 = 2 by decide), if_neg (show ¬ Int32.ofNat 9 = 3 by decide), if_neg (show ¬ Int32.ofNat 9 = 4 by decide), if_neg (show ¬ Int32.ofNat 9 = 5 by decide), if_neg (show ¬ Int32.ofNat 9 = 6 by decide), if_neg (show ¬ Int32.ofNat 9 = 7 by decide), if_neg (show ¬ Int32.ofNat 9 = 8 by decide), py_ct hnz, d11, mn]
    exact pl_it (kd := 9) (a := Z / 11 % n) (b := 0) (c := 0) hY hZ hk6 h (Or.inr (Or.inr (Or.inr (Or.inr (Or.inr (Or.inr (Or.inr (Or.inr (Or.inr (⟨rfl, by omega, rfl, rfl⟩)))))))))) k35 k398
theorem pl_d35 {Y n : Nat} {v5 : Int32} (hY : Y < 1073741824) (hn : n ≤ 6) (k398 : pw_S → Nat → Nat → Nat → Int32 → Int32 → pw_R Int32) : ∀ (m N k Z : Nat) (S : pw_S) (I : py_I), m < N → n = k + m → Z < 2147483648 → pd_dr S I k →
    ∃ S' I', m_L_describes_35 k398 N S 0 (Int32.ofNat Y) 36 0 (Int32.ofNat n) v5 (Int32.ofNat (pi_n I)) (Int32.ofNat Z) (Int32.ofNat k) = k398 S' 0 36 0 v5 (Int32.ofNat (pi_n I')) ∧ pd_dr S' I' n ∧ py_fr (py_K5 6) S S' := by
  intro m
  induction m with
  | zero =>
    intro N k Z S I hN hk hZ h
    obtain ⟨N, rfl⟩ : ∃ q, N = q + 1 := ⟨N - 1, by omega⟩
    unfold m_L_describes_35
    rw [py_je (by omega) (by omega), if_pos (show n ≤ k by omega)]
    refine ⟨S, I, rfl, ?_, py_fr_r⟩
    rw [hk]
    exact h
  | succ m ih =>
    intro N k Z S I hN hk hZ h
    obtain ⟨N, rfl⟩ : ∃ q, N = q + 1 := ⟨N - 1, by omega⟩
    have m11 : Int32.ofNat Z - Int32.ofNat Z / 11 * 11 = Int32.ofNat (Z % 11) := py_mod (b := 11) hZ (by omega)
    rw [m_L_describes_35.eq_2, py_je (by omega) (by omega), if_neg (show ¬ n ≤ k by omega), m11, py_l]
    have go : ∀ w, w < 10 → ∃ S' I', m_L_describes_j62 (fun S455 u443 u445 u446 u447 u450 u451 u452 u453 u454 => m_L_describes_35 k398 N S455 u443 u445 u446 u447 u450 u451 u452 u453 u454) (fun S470 u462 u464 u465 u468 u469 => k398 S470 u462 u464 u465 u468 u469) S 0 (Int32.ofNat Y) 36 0 (Int32.ofNat n) v5 (Int32.ofNat (pi_n I)) (Int32.ofNat Z) (Int32.ofNat k) (Int32.ofNat w) = k398 S' 0 36 0 v5 (Int32.ofNat (pi_n I')) ∧ pd_dr S' I' n ∧ py_fr (py_K5 6) S S' := by
      intro w hw
      obtain ⟨S1, I1, Z1, a1, a2, a3, a4⟩ := pl_d62 (v5 := v5) hY hZ (show k < n by omega) hn hw h (fun S455 u443 u445 u446 u447 u450 u451 u452 u453 u454 => m_L_describes_35 k398 N S455 u443 u445 u446 u447 u450 u451 u452 u453 u454) (fun S470 u462 u464 u465 u468 u469 => k398 S470 u462 u464 u465 u468 u469)
      obtain ⟨S', I', b1, b2, b3⟩ := ih N (k + 1) Z1 S1 I1 (by omega) (by omega) a2 a3
      exact ⟨S', I', a1.trans b1, b2, a4.trans b3⟩
    by_cases e : Z % 11 = 10
    · rw [if_pos (show Int32.ofNat (Z % 11) = 10 by rw [e]; rfl)]
      exact go 0 (by omega)
    · rw [if_neg (show ¬ Int32.ofNat (Z % 11) = 10 from fun z => e ((py_eq (a := Z % 11) (b := 10) (by omega) (by omega)).mp z))]
      exact go (Z % 11) (by omega)
theorem py_xor {a b : Nat} (ha : a < 2147483648) (hb : b < 2147483648) : Int32.ofNat a ^^^ Int32.ofNat b = Int32.ofNat (a ^^^ b) := by
  have hx : a ^^^ b < 2 ^ 31 := Nat.xor_lt_two_pow (n := 31) ha hb
  apply Int32.toBitVec.inj
  rw [Int32.toBitVec_xor]
  apply BitVec.eq_of_toNat_eq
  rw [BitVec.toNat_xor]
  show (a % 4294967296) ^^^ (b % 4294967296) = (a ^^^ b) % 4294967296
  rw [Nat.mod_eq_of_lt (by omega), Nat.mod_eq_of_lt (by omega), Nat.mod_eq_of_lt (by omega)]
def py_KF (a i : Nat) : Bool := py_K6 a i || Nat.beq a 36
/-- the law's descriptions -/
theorem pl_describes {S : pw_S} {dc X Y : Nat} {Is : Nat → py_I} {nc : Nat → Nat} (hD : px_D S dc Is nc) (hc0 : S 36 0 0 = Int32.ofNat dc) (hz : ∀ d, dc ≤ d → d < 6 → S 52 d 6 = Int32.ofNat 0) (h6 : ∃ I6, py_Ri S 6 I6 ∧ pi_n I6 = 0) (hX : X < 1073741824) (hY : Y < 1073741824) :
    ∃ S' dc' Is' nc', m_L_describes S 0 (Int32.ofNat X) (Int32.ofNat Y) 36 0 = some (S', 1) ∧ px_D S' dc' Is' nc' ∧ dc ≤ dc' ∧ S' 36 0 0 = Int32.ofNat dc' ∧ (∃ I6, py_Ri S' 6 I6 ∧ pi_n I6 = 0) ∧ (∀ q, q ≠ 2 → S' 61 0 q = S 61 0 q) ∧ (∀ q, q ≠ 0 → S' 36 0 q = S 36 0 q) ∧ py_fr py_KF S S' := by
  have hb : ∀ (β : Type) (o : pw_R β), pw_c (np_inb 0 (pw_len 36)) o = o := fun β o => py_ct (show np_inb 0 (pw_len 36) = true from rfl) o
  have h0b : (0 : Int32).toNatClampNeg = 0 := rfl
  have bt : ∀ (β : Type) (o : pw_R β), pw_c (decide ((1 : Int32) = 0) || decide ((1 : Int32) = 1)) o = o := fun β o => py_ct (show (decide ((1 : Int32) = 0) || decide ((1 : Int32) = 1)) = true from rfl) o
  have hdc4 := hD.2.1
  obtain ⟨I6, g1, g2⟩ := h6
  unfold m_L_describes
  rw [hb, h0b, hc0]
  by_cases e : dc = 4
  · rw [if_pos (show Int32.ofNat dc = 4 by rw [e]; rfl)]
    exact ⟨S, dc, Is, nc, rfl, hD, Nat.le_refl _, hc0, ⟨I6, g1, g2⟩, fun _ _ => rfl, fun _ _ => rfl, py_fr_r⟩
  · rw [if_neg (show ¬ Int32.ofNat dc = 4 from fun z => e ((py_eq (a := dc) (b := 4) (by omega) (by omega)).mp z)), show Int32.ofNat X - Int32.ofNat X / 5 * 5 = Int32.ofNat (X % 5) from py_mod (b := 5) (by omega) (by omega), show (2 : Int32) + Int32.ofNat (X % 5) = Int32.ofNat (2 + X % 5) from py_add 2 _, py_l, pm_drop g1, py_b, py_l, py_l, show Int32.ofNat X / 5 = Int32.ofNat (X / 5) from py_div (b := 5) (by omega) (by omega), py_xor (by omega) (by omega), py_l, py_l]
    generalize hS0 : pw_up S 51 6 (upd (S 51 6) 4 0) = S0
    have f0 : py_fr (py_K5 6) S S0 := by
      rw [← hS0]
      exact py_fr_r.up (py_K5_s 6).1
    have dr0 : pd_dr S0 (0, I6.2) 0 := ⟨⟨by
      rw [← hS0, py_up_s, py_u_s]
      rfl, Nat.zero_le _, fun k hk => absurd hk (Nat.not_lt_zero k)⟩, fun i hi => absurd hi (Nat.not_lt_zero i), Nat.le_refl _⟩
    have hxz : X / 5 ^^^ Y < 2 ^ 30 := Nat.xor_lt_two_pow (n := 30) (by omega) (by omega)
    obtain ⟨S1, I1, a1, a2, a3⟩ := pl_d35 (n := 2 + X % 5) (v5 := Int32.ofNat (pi_n I6)) hY (by omega) (fun S598 u590 u592 u593 u596 u597 => (pw_b (m_X11_description S598 u590) fun S601 r604 => pw_e r604 (fun r606 => (pw_l (r606 : Int32) fun z608 => if 0 ≤ z608 then (pw_b (m_X11_sure S601 u590 z608) fun S609 r612 => pw_e r612 (fun r614 => (m_L_describes_j419 S609 u590 u592 u593 u596 u597 z608 r614)) (fun _ => none)) else (m_L_describes_j419 S601 u590 u592 u593 u596 u597 z608 (-1)))) (fun _ => none))) (2 + X % 5) (pw_F 7) 0 (X / 5 ^^^ Y) S0 (0, I6.2) (by rw [py_F]; omega) (by omega) (by omega) dr0
    have f1 : py_fr (py_K5 6) S S1 := f0.trans a3
    have fK : ∀ a i, i ≠ 6 → S1 a i = S a i := fun a i hi => f1 a i (py_K5_n hi)
    have k36 : S1 36 0 = S 36 0 := fK 36 0 (by omega)
    have k61 : S1 61 0 = S 61 0 := fK 61 0 (by omega)
    have hD1 : px_D S1 dc Is nc := hD.cong (by rw [k61]) (fun a d _ _ _ h4 => fK a d (by omega))
    have hn1 : pi_n I1 ≤ 6 := by
      have := a2.2.2
      omega
    obtain ⟨S2, r, b1, b2⟩ := pm_description hD1 (show dc < 4 by omega) a2.1 a2.2.1 hn1 (by rw [fK 52 dc (by omega)]; exact hz dc (Nat.le_refl _) (by omega))
    have kN : ∀ a i, py_KF a i = false → py_K5 6 a i = false ∧ py_K6 a i = false ∧ Nat.beq a 36 = false := fun a i z => by
      unfold py_KF at z
      obtain ⟨z1, z2⟩ := Bool.or_eq_false_iff.mp z
      refine ⟨?_, z1, z2⟩
      cases hk : py_K5 6 a i with
      | false => rfl
      | true =>
        rw [py_K6_5 a i hk] at z1
        cases z1
    have hg : Int32.ofNat (pi_n I6) = 0 := by rw [g2]; rfl
    rcases b2 with ⟨rfl, rfl⟩ | ⟨rfl, p1, p2, ⟨Is', nc', p3, p4⟩, p5, p6⟩
    · -- no description
      generalize hS3 : pw_up S2 51 6 (upd (S2 51 6) 4 0) = S3
      generalize hS4 : pw_up S3 36 0 (upd (S3 36 0) 0 (Int32.ofNat dc)) = S4
      have k3 : ∀ a i, i ≠ 6 → S3 a i = S2 a i := fun a i hi => by
        rw [← hS3]
        exact pw_up_n _ _ (by omega)
      have k4 : ∀ a i, Nat.beq a 36 = false → S4 a i = S3 a i := fun a i hh => by
        rw [← hS4]
        exact py_up_k _ _ hh
      refine ⟨S4, dc, Is, nc, ?_, hD1.cong (by rw [k4 61 0 rfl, k3 61 0 (by omega)]) (fun a d q1 q2 _ q3 => by
        rw [k4 a d (by
          cases hb9 : Nat.beq a 36 with
          | false => rfl
          | true =>
            have := Nat.eq_of_beq_eq_true hb9
            omega), k3 a d (by omega)]), Nat.le_refl _, by rw [← hS4, py_up_s, py_u_s], ⟨(0, I6.2), ⟨by
        rw [k4 51 6 rfl, ← hS3, py_up_s, py_u_s]
        rfl, Nat.zero_le _, fun k hk => absurd hk (Nat.not_lt_zero k)⟩, rfl⟩, fun q _ => by rw [k4 61 0 rfl, k3 61 0 (by omega), k61], fun q hq => by rw [← hS4, py_up_s, py_u_n _ _ hq, k3 36 0 (by omega), k36], fun a i z => ?_⟩
      · refine a1.trans ?_
        rw [b1, py_b, py_el, py_l, if_neg (show ¬ (0 : Int32) ≤ -1 by decide)]
        unfold m_L_describes_j419
        rw [py_l, hg, if_neg (show ¬ (0 : Int32) < 0 by decide), if_pos rfl]
        unfold m_L_describes_j445
        rw [if_neg (show ¬ Int32.ofNat (pi_n I1) ≤ -1 by
          rw [Int32.le_iff_toInt_le, py_ti (by omega)]
          have : (-1 : Int32).toInt = -1 := rfl
          omega), if_neg (show ¬ (-1 : Int32) < -1 by decide), pm_drop a2.1, py_b, if_neg (show ¬ (0 : Int32) ≤ -1 by decide), hS3]
        unfold m_L_describes_j473
        rw [if_pos rfl, py_l, hb, if_pos (show (-1 : Int32) < 0 by decide), hb, h0b, show S3 36 0 0 + 0 = Int32.ofNat dc from by rw [k3 36 0 (by omega), k36, hc0]; exact py_add dc 0, hS4, py_l, bt]
      · obtain ⟨z1, z2, z3⟩ := kN a i z
        rw [k4 a i z3, ← hS3, pw_up_n, f1 a i z1]
        rintro ⟨rfl, rfl⟩
        unfold py_K6 at z2
        cases z2
    · -- a new one
      obtain ⟨I7, i1, i2⟩ := p2
      have hs := pm_sure (S := S2) (d := dc) p3.1 (by omega) (by omega) (p3.2.2 dc (by omega)).1
      obtain ⟨rs, s1, s2⟩ := hs
      rw [p4] at s2
      have e36 : S2 36 0 = S 36 0 := by rw [p6 36 0 rfl, k36]
      generalize hS3 : pw_up S2 51 6 (upd (S2 51 6) 4 0) = S3
      generalize hS4 : pw_up S3 36 0 (upd (S3 36 0) 0 (Int32.ofNat (dc + 1))) = S4
      have k3 : ∀ a i, i ≠ 6 → S3 a i = S2 a i := fun a i hi => by
        rw [← hS3]
        exact pw_up_n _ _ (by omega)
      have k4 : ∀ a i, Nat.beq a 36 = false → S4 a i = S3 a i := fun a i hh => by
        rw [← hS4]
        exact py_up_k _ _ hh
      have hdrop := pm_drop i1
      rw [i2] at hdrop
      have sr : ¬ Int32.ofNat (pi_n I1) ≤ rs ∧ ¬ rs < -1 := by
        have m1 : (-1 : Int32).toInt = -1 := rfl
        rw [Int32.le_iff_toInt_le, Int32.lt_iff_toInt_lt, py_ti (by omega), m1]
        rcases s2 with ⟨rfl, -⟩ | ⟨j, j1, rfl⟩
        · rw [m1]
          omega
        · rw [py_ti (by omega)]
          omega
      refine ⟨S4, dc + 1, Is', nc', ?_, p3.cong (by rw [k4 61 0 rfl, k3 61 0 (by omega)]) (fun a d q1 q2 _ q3 => by
        rw [k4 a d (by
          cases hb9 : Nat.beq a 36 with
          | false => rfl
          | true =>
            have := Nat.eq_of_beq_eq_true hb9
            omega), k3 a d (by omega)]), Nat.le_succ _, by rw [← hS4, py_up_s, py_u_s], ⟨(0, I6.2), ⟨by
        rw [k4 51 6 rfl, ← hS3, py_up_s, py_u_s]
        rfl, Nat.zero_le _, fun k hk => absurd hk (Nat.not_lt_zero k)⟩, rfl⟩, fun q hq => by rw [k4 61 0 rfl, k3 61 0 (by omega), p5 q hq, k61], fun q hq => by rw [← hS4, py_up_s, py_u_n _ _ hq, k3 36 0 (by omega), e36], fun a i z => ?_⟩
      · refine a1.trans ?_
        rw [b1, py_b, py_el, py_l, py_jz (by omega), s1, py_b, py_el]
        unfold m_L_describes_j419
        rw [py_l, hg, if_neg (show ¬ (0 : Int32) < 0 by decide), if_neg (py_ne1 (by omega)), hb, h0b, e36, hc0, if_pos rfl, if_neg (show ¬ Int32.ofNat (pi_n I1) ≤ 0 by
          rw [Int32.le_iff_toInt_le, py_ti (by omega)]
          have : (0 : Int32).toInt = 0 := rfl
          omega)]
        unfold m_L_describes_j445
        rw [if_neg sr.1, if_neg sr.2, hdrop, py_b, py_jz (by omega), hS3]
        unfold m_L_describes_j473
        rw [if_pos (show Int32.ofNat 0 = 0 from rfl), py_l, hb, py_jn (by omega), hb, h0b, show S3 36 0 0 + 1 = Int32.ofNat (dc + 1) from by rw [k3 36 0 (by omega), e36, hc0]; exact py_add1 dc, hS4, py_l, bt]
      · obtain ⟨z1, z2, z3⟩ := kN a i z
        rw [k4 a i z3, ← hS3, pw_up_n, p6 a i z2, f1 a i z1]
        rintro ⟨rfl, rfl⟩
        unfold py_K6 at z2
        cases z2
