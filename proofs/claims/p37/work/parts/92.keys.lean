/-! Keys: the last row of a key, keys that only one file has, those whose rows differ. -/
def kn (P : Nat → Bool) : Nat → Nat
  | 0 => 0
  | n + 1 => kn P n + if P n = true then 1 else 0
theorem kn_le (P : Nat → Bool) : ∀ n, kn P n ≤ n := by
  intro n
  induction n with
  | zero => exact Nat.le_refl _
  | succ n ih =>
    unfold kn
    by_cases h : P n = true
    · rw [if_pos h]
      omega
    · rw [if_neg h]
      omega
theorem kn_mono (P : Nat → Bool) (a : Nat) : ∀ d, kn P a ≤ kn P (a + d) := by
  intro d
  induction d with
  | zero => exact Nat.le_refl _
  | succ d ih =>
    have e : kn P (a + (d + 1)) = kn P (a + d) + if P (a + d) = true then 1 else 0 := rfl
    rw [e]
    omega
theorem kn_cong {P Q : Nat → Bool} : ∀ n, (∀ k, k < n → P k = Q k) → kn P n = kn Q n := by
  intro n
  induction n with
  | zero => intro _; rfl
  | succ n ih =>
    intro h
    unfold kn
    rw [ih (fun k hk => h k (by omega)), h n (by omega)]
theorem kn_none {P : Nat → Bool} : ∀ n, (∀ k, k < n → P k = false) → kn P n = 0 := by
  intro n
  induction n with
  | zero => intro _; rfl
  | succ n ih =>
    intro h
    unfold kn
    rw [ih (fun k hk => h k (by omega)), h n (by omega)]
    rfl
theorem kn_stop {P : Nat → Bool} (a : Nat) : ∀ d, (∀ k, a ≤ k → k < a + d → P k = false) → kn P (a + d) = kn P a := by
  intro d
  induction d with
  | zero => intro _; rfl
  | succ d ih =>
    intro h
    have e : kn P (a + (d + 1)) = kn P (a + d) + if P (a + d) = true then 1 else 0 := rfl
    rw [e, ih (fun k h1 h2 => h k h1 (by omega)), h (a + d) (by omega) (by omega)]
    rfl
/-- the row that is the next one of its value -/
theorem ix_n_row {K : Nat → Int32} {v : Int32} {r : Nat} (hr : K r = v) : ∀ (n lo j : Nat), lo ≤ r → r < lo + n → j + kn (fun k => decide (K k = v)) lo = kn (fun k => decide (K k = v)) r → ix_n K v n lo j = Int32.ofNat r := by
  intro n
  induction n with
  | zero => intro lo j h1 h2; omega
  | succ n ih =>
    intro lo j h1 h2 h3
    unfold ix_n
    by_cases e : K lo = v
    · rw [if_pos e]
      have e1 : kn (fun k => decide (K k = v)) (lo + 1) = kn (fun k => decide (K k = v)) lo + 1 := by
        show kn (fun k => decide (K k = v)) lo + (if decide (K lo = v) = true then 1 else 0) = _
        rw [if_pos (decide_eq_true e)]
      by_cases el : lo = r
      · have : j = 0 := by
          rw [el] at h3
          omega
        rw [if_pos this, el]
      · have e2 := kn_mono (fun k => decide (K k = v)) (lo + 1) (r - (lo + 1))
        rw [show lo + 1 + (r - (lo + 1)) = r by omega] at e2
        rw [if_neg (show ¬ j = 0 by omega)]
        exact ih (lo + 1) (j - 1) (by omega) (by omega) (by omega)
    · rw [if_neg e]
      have el : lo ≠ r := fun z => e (by rw [z, hr])
      have e1 : kn (fun k => decide (K k = v)) (lo + 1) = kn (fun k => decide (K k = v)) lo := by
        show kn (fun k => decide (K k = v)) lo + (if decide (K lo = v) = true then 1 else 0) = _
        rw [if_neg (fun z => e (of_decide_eq_true z))]
        rfl
      exact ih (lo + 1) j (by omega) (by omega) (by omega)
theorem ix_n_none {K : Nat → Int32} {v : Int32} : ∀ (n lo j : Nat), kn (fun k => decide (K k = v)) (lo + n) ≤ j + kn (fun k => decide (K k = v)) lo → ix_n K v n lo j = -1 := by
  intro n
  induction n with
  | zero => intro lo j _; rfl
  | succ n ih =>
    intro lo j h3
    have em := kn_mono (fun k => decide (K k = v)) (lo + 1) n
    rw [show lo + (n + 1) = lo + 1 + n by omega] at h3
    unfold ix_n
    by_cases e : K lo = v
    · rw [if_pos e]
      have e1 : kn (fun k => decide (K k = v)) (lo + 1) = kn (fun k => decide (K k = v)) lo + 1 := by
        show kn (fun k => decide (K k = v)) lo + (if decide (K lo = v) = true then 1 else 0) = _
        rw [if_pos (decide_eq_true e)]
      rw [if_neg (show ¬ j = 0 by omega)]
      exact ih (lo + 1) (j - 1) (by omega)
    · rw [if_neg e]
      have e1 : kn (fun k => decide (K k = v)) (lo + 1) = kn (fun k => decide (K k = v)) lo := by
        show kn (fun k => decide (K k = v)) lo + (if decide (K lo = v) = true then 1 else 0) = _
        rw [if_neg (fun z => e (of_decide_eq_true z))]
        rfl
      exact ih (lo + 1) j (by omega)
/-- the last row of a value -/
def kl (K : Nat → Int32) (v : Int32) : Nat → Int32
  | 0 => -1
  | n + 1 => if K n = v then Int32.ofNat n else kl K v n
theorem kl_cases {K : Nat → Int32} {v : Int32} : ∀ n, (kl K v n = -1 ∧ ∀ k, k < n → K k ≠ v) ∨ ∃ q, q < n ∧ kl K v n = Int32.ofNat q ∧ K q = v ∧ ∀ k, q < k → k < n → K k ≠ v := by
  intro n
  induction n with
  | zero => exact Or.inl ⟨rfl, fun k hk => absurd hk (Nat.not_lt_zero k)⟩
  | succ n ih =>
    unfold kl
    by_cases e : K n = v
    · rw [if_pos e]
      exact Or.inr ⟨n, by omega, rfl, e, fun k h1 h2 => by omega⟩
    · rw [if_neg e]
      rcases ih with ⟨h1, h2⟩ | ⟨q, h1, h2, h3, h4⟩
      · refine Or.inl ⟨h1, fun k hk => ?_⟩
        by_cases ek : k = n
        · rw [ek]
          exact e
        · exact h2 k (by omega)
      · refine Or.inr ⟨q, by omega, h2, h3, fun k k1 k2 => ?_⟩
        by_cases ek : k = n
        · rw [ek]
          exact e
        · exact h4 k k1 (by omega)
theorem pb_keyK {S : pw_S} {f rc r s : Nat} (h : S 54 f 7 = Int32.ofNat rc) (hrc : rc ≤ 24) (hr : r < rc) (hs : s < 8) : m_X6_key S f (Int32.ofNat r) (Int32.ofNat s) = some (S, ix_K S f s r) := by
  rw [pm_key h hrc (by omega) hs]
  unfold pb_c
  rw [if_pos hr]
  rfl
theorem pb_last_7 {S : pw_S} {f rc s : Nat} {v : Int32} (h : S 54 f 7 = Int32.ofNat rc) (hrc : rc ≤ 24) (hs : s < 8) : ∀ (n N : Nat), n < N → n ≤ rc → m_X6_lastRowOf_7 N S f (Int32.ofNat s) v (py_lp n) = some (S, kl (ix_K S f s) v n) := by
  intro n
  induction n with
  | zero =>
    intro N hN _
    obtain ⟨N, rfl⟩ : ∃ q, N = q + 1 := ⟨N - 1, by omega⟩
    unfold m_X6_lastRowOf_7 kl
    rw [show py_lp 0 = -1 from rfl, if_pos (show (-1 : Int32) < 0 by decide)]
  | succ n ih =>
    intro N hN hn
    obtain ⟨N, rfl⟩ : ∃ q, N = q + 1 := ⟨N - 1, by omega⟩
    unfold m_X6_lastRowOf_7 kl
    rw [show py_lp (n + 1) = Int32.ofNat n from rfl, py_jn (by omega), pb_keyK h hrc (by omega) hs, py_b]
    by_cases e : ix_K S f s n = v
    · rw [if_pos e, if_pos e]
    · rw [if_neg e, if_neg e, py_l, py_lp_dec]
      exact ih N (by omega) (by omega)
theorem pb_lastRowOf {S : pw_S} {f rc s : Nat} {v : Int32} (h : S 54 f 7 = Int32.ofNat rc) (hrc : rc ≤ 24) (hs : s < 8) : m_X6_lastRowOf S f (Int32.ofNat s) v = some (S, kl (ix_K S f s) v rc) := by
  have e : Int32.ofNat rc - 1 = py_lp rc := by
    rw [← py_lp_dec, Int32.sub_eq_add_neg]
  unfold m_X6_lastRowOf
  rw [h, e, py_l]
  exact pb_last_7 h hrc hs rc _ (by rw [py_F]; omega) (Nat.le_refl _)
/-- whether a row is the last one of its key -/
def la (K : Nat → Int32) (rc r : Nat) : Bool := decide (K r ≠ -2147483648) && decide (kl K (K r) rc = Int32.ofNat r)
theorem pb_isLast {S : pw_S} {f rc r s : Nat} (h : S 54 f 7 = Int32.ofNat rc) (hrc : rc ≤ 24) (hr : r < rc) (hs : s < 8) : m_X6_isLastOfKey S f (Int32.ofNat r) (Int32.ofNat s) = some (S, if la (ix_K S f s) rc r = true then 1 else 0) := by
  unfold m_X6_isLastOfKey la
  rw [pb_keyK h hrc hr hs, py_b, py_l]
  by_cases e : ix_K S f s r = -2147483648
  · rw [if_pos e, decide_eq_false (fun z => z e), Bool.false_and]
    rfl
  · rw [if_neg e, decide_eq_true e, Bool.true_and, pb_lastRowOf h hrc hs, py_b]
    by_cases e2 : kl (ix_K S f s) (ix_K S f s r) rc = Int32.ofNat r
    · rw [if_pos e2, if_pos (decide_eq_true e2)]
    · rw [if_neg e2, if_neg (fun z => e2 (of_decide_eq_true z))]
def kP (K K' : Nat → Int32) (rc rc' : Nat) (r : Nat) : Bool := la K rc r && decide (kl K' (K r) rc' = -1)
theorem pb_notIn_5 {S : pw_S} {f g rc rc' s : Nat} (h : S 54 f 7 = Int32.ofNat rc) (hrc : rc ≤ 24) (h' : S 54 g 7 = Int32.ofNat rc') (hrc' : rc' ≤ 24) (hs : s < 8) : ∀ (n N i : Nat), n < N → rc = i + n → m_X6_keysNotIn_5 N S f g (Int32.ofNat s) (Int32.ofNat (kn (kP (ix_K S f s) (ix_K S g s) rc rc') i)) (Int32.ofNat i) = some (S, Int32.ofNat (kn (kP (ix_K S f s) (ix_K S g s) rc rc') rc)) := by
  intro n
  induction n with
  | zero =>
    intro N i hN hi
    obtain ⟨N, rfl⟩ : ∃ q, N = q + 1 := ⟨N - 1, by omega⟩
    unfold m_X6_keysNotIn_5
    rw [h, py_je (by omega) (by omega), if_pos (show rc ≤ i by omega), show i = rc by omega]
  | succ n ih =>
    intro N i hN hi
    obtain ⟨N, rfl⟩ : ∃ q, N = q + 1 := ⟨N - 1, by omega⟩
    unfold m_X6_keysNotIn_5
    rw [h, py_je (by omega) (by omega), if_neg (show ¬ rc ≤ i by omega), pb_isLast h hrc (by omega) hs, py_b]
    have e0 : kn (kP (ix_K S f s) (ix_K S g s) rc rc') (i + 1) = kn (kP (ix_K S f s) (ix_K S g s) rc rc') i + if kP (ix_K S f s) (ix_K S g s) rc rc' i = true then 1 else 0 := rfl
    have ih2 := ih N (i + 1) (by omega) (by omega)
    rw [e0] at ih2
    unfold kP at ih2 ⊢
    by_cases e1 : la (ix_K S f s) rc i = true
    · rw [if_pos e1, if_neg py_10, pb_keyK h hrc (by omega) hs, py_b, pb_lastRowOf h' hrc' hs, py_b]
      rw [e1, Bool.true_and] at ih2
      by_cases e2 : kl (ix_K S g s) (ix_K S f s i) rc' = -1
      · rw [if_pos e2, py_l, py_l, py_add1, py_add1]
        rw [if_pos (decide_eq_true e2)] at ih2
        exact ih2
      · rw [if_neg e2, py_l, py_add1]
        rw [if_neg (fun z => e2 (of_decide_eq_true z))] at ih2
        exact ih2
    · rw [if_neg e1, if_pos rfl, py_l, py_add1]
      rw [Bool.eq_false_iff.mpr e1, Bool.false_and] at ih2
      exact ih2
theorem pb_keysNotIn {S : pw_S} {f g rc rc' s : Nat} (h : S 54 f 7 = Int32.ofNat rc) (hrc : rc ≤ 24) (h' : S 54 g 7 = Int32.ofNat rc') (hrc' : rc' ≤ 24) (hs : s < 8) : m_X6_keysNotIn S f g (Int32.ofNat s) = some (S, Int32.ofNat (kn (kP (ix_K S f s) (ix_K S g s) rc rc') rc)) := by
  unfold m_X6_keysNotIn
  rw [py_l, py_l]
  exact pb_notIn_5 h hrc h' hrc' hs rc _ 0 (by rw [py_F]; omega) (by omega)
/-! rows that differ -/
def kx (A B : Nat → Int32) : Nat → Bool
  | 0 => false
  | n + 1 => kx A B n || decide (A n ≠ B n)
theorem kx_mono {A B : Nat → Int32} {n : Nat} (h : kx A B n = true) : ∀ d, kx A B (n + d) = true := by
  intro d
  induction d with
  | zero => exact h
  | succ d ih =>
    have e : kx A B (n + (d + 1)) = (kx A B (n + d) || decide (A (n + d) ≠ B (n + d))) := rfl
    rw [e, ih, Bool.true_or]
/-- the cells of a row -/
def kr (S : pw_S) (f r : Nat) : Nat → Int32 := fun c => S 12 f (r * 24 + c)
theorem pb_toldr {S : pw_S} {f rc r c : Nat} (h : S 54 f 7 = Int32.ofNat rc) (hrc : rc ≤ 24) (hr : r < rc) (hc : c < 24) : m_X6_told S f (Int32.ofNat r) (Int32.ofNat c) = some (S, kr S f r c) := by
  rw [pm_told h hrc (by omega) hc]
  unfold pb_c
  rw [if_pos hr]
  rfl
theorem pb_differs_3 {S : pw_S} {f g rc rc' r q : Nat} (h : S 54 f 7 = Int32.ofNat rc) (hrc : rc ≤ 24) (h' : S 54 g 7 = Int32.ofNat rc') (hrc' : rc' ≤ 24) (hr : r < rc) (hq : q < rc') : ∀ (n N i : Nat), n < N → 24 = i + n → kx (kr S f r) (kr S g q) i = false → m_X6_differs_3 N S f (Int32.ofNat r) g (Int32.ofNat q) (Int32.ofNat i) = some (S, if kx (kr S f r) (kr S g q) 24 = true then 1 else 0) := by
  intro n
  induction n with
  | zero =>
    intro N i hN hi hk
    obtain ⟨N, rfl⟩ : ∃ q, N = q + 1 := ⟨N - 1, by omega⟩
    unfold m_X6_differs_3
    rw [py_jeL (l := 24) (by omega) (by omega), if_pos (show 24 ≤ i by omega), show (24 : Nat) = i by omega, hk]
    rfl
  | succ n ih =>
    intro N i hN hi hk
    obtain ⟨N, rfl⟩ : ∃ q, N = q + 1 := ⟨N - 1, by omega⟩
    unfold m_X6_differs_3
    rw [py_jeL (l := 24) (by omega) (by omega), if_neg (show ¬ 24 ≤ i by omega), pb_toldr h hrc hr (by omega), py_b, pb_toldr h' hrc' hq (by omega), py_b]
    have e0 : kx (kr S f r) (kr S g q) (i + 1) = (kx (kr S f r) (kr S g q) i || decide (kr S f r i ≠ kr S g q i)) := rfl
    by_cases e : kr S f r i = kr S g q i
    · rw [if_pos e, py_l, py_add1]
      refine ih N (i + 1) (by omega) (by omega) ?_
      rw [e0, hk, Bool.false_or, decide_eq_false (fun z => z e)]
    · rw [if_neg e]
      have e1 : kx (kr S f r) (kr S g q) (i + 1) = true := by
        rw [e0, hk, Bool.false_or, decide_eq_true e]
      have e2 := kx_mono e1 (24 - (i + 1))
      rw [show i + 1 + (24 - (i + 1)) = 24 by omega] at e2
      rw [if_pos e2]
theorem pb_differs {S : pw_S} {f g rc rc' r q : Nat} (h : S 54 f 7 = Int32.ofNat rc) (hrc : rc ≤ 24) (h' : S 54 g 7 = Int32.ofNat rc') (hrc' : rc' ≤ 24) (hr : r < rc) (hq : q < rc') : m_X6_differs S f (Int32.ofNat r) g (Int32.ofNat q) = some (S, if kx (kr S f r) (kr S g q) 24 = true then 1 else 0) := by
  unfold m_X6_differs
  rw [py_l]
  exact pb_differs_3 h hrc h' hrc' hr hq 24 _ 0 (by rw [py_F]; omega) rfl rfl
def kD (S : pw_S) (f g s rc rc' : Nat) (r : Nat) : Bool := la (ix_K S f s) rc r && (!decide (kl (ix_K S g s) (ix_K S f s r) rc' = -1) && kx (kr S f r) (kr S g (kl (ix_K S g s) (ix_K S f s r) rc').toNatClampNeg) 24)
theorem pb_differ_5 {S : pw_S} {f g rc rc' s : Nat} (h : S 54 f 7 = Int32.ofNat rc) (hrc : rc ≤ 24) (h' : S 54 g 7 = Int32.ofNat rc') (hrc' : rc' ≤ 24) (hs : s < 8) : ∀ (n N i : Nat), n < N → rc = i + n → m_X6_keysThatDiffer_5 N S f g (Int32.ofNat s) (Int32.ofNat (kn (kD S f g s rc rc') i)) (Int32.ofNat i) = some (S, Int32.ofNat (kn (kD S f g s rc rc') rc)) := by
  intro n
  induction n with
  | zero =>
    intro N i hN hi
    obtain ⟨N, rfl⟩ : ∃ q, N = q + 1 := ⟨N - 1, by omega⟩
    unfold m_X6_keysThatDiffer_5
    rw [h, py_je (by omega) (by omega), if_pos (show rc ≤ i by omega), show i = rc by omega]
  | succ n ih =>
    intro N i hN hi
    obtain ⟨N, rfl⟩ : ∃ q, N = q + 1 := ⟨N - 1, by omega⟩
    unfold m_X6_keysThatDiffer_5
    rw [h, py_je (by omega) (by omega), if_neg (show ¬ rc ≤ i by omega), pb_isLast h hrc (by omega) hs, py_b]
    have e0 : kn (kD S f g s rc rc') (i + 1) = kn (kD S f g s rc rc') i + if kD S f g s rc rc' i = true then 1 else 0 := rfl
    have ih2 := ih N (i + 1) (by omega) (by omega)
    rw [e0] at ih2
    have eD : kD S f g s rc rc' i = (la (ix_K S f s) rc i && (!decide (kl (ix_K S g s) (ix_K S f s i) rc' = -1) && kx (kr S f i) (kr S g (kl (ix_K S g s) (ix_K S f s i) rc').toNatClampNeg) 24)) := rfl
    by_cases e1 : la (ix_K S f s) rc i = true
    · rw [if_pos e1, if_neg py_10, pb_keyK h hrc (by omega) hs, py_b, pb_lastRowOf h' hrc' hs, py_b, py_l]
      rw [e1, Bool.true_and] at eD
      rcases kl_cases (K := ix_K S g s) (v := ix_K S f s i) rc' with ⟨c1, c2⟩ | ⟨q, c1, c2, c3, c4⟩
      · rw [if_pos c1, py_l, py_add1]
        rw [decide_eq_true c1, Bool.not_true, Bool.false_and] at eD
        rw [eD] at ih2
        exact ih2
      · rw [c2, py_cl (by omega)] at eD
        rw [c2, if_neg (py_ne1 (by omega)), pb_differs h hrc h' hrc' (by omega) c1, py_b]
        rw [decide_eq_false (py_ne1 (by omega)), Bool.not_false, Bool.true_and] at eD
        by_cases e2 : kx (kr S f i) (kr S g q) 24 = true
        · rw [if_pos e2, if_neg py_10, py_l, py_l, py_add1, py_add1]
          rw [eD, if_pos e2] at ih2
          exact ih2
        · rw [if_neg e2, if_pos rfl, py_l, py_add1]
          rw [eD, if_neg e2] at ih2
          exact ih2
    · rw [if_neg e1, if_pos rfl, py_l, py_add1]
      rw [Bool.eq_false_iff.mpr e1, Bool.false_and] at eD
      rw [eD] at ih2
      exact ih2
theorem pb_keysThatDiffer {S : pw_S} {f g rc rc' s : Nat} (h : S 54 f 7 = Int32.ofNat rc) (hrc : rc ≤ 24) (h' : S 54 g 7 = Int32.ofNat rc') (hrc' : rc' ≤ 24) (hs : s < 8) : m_X6_keysThatDiffer S f g (Int32.ofNat s) = some (S, Int32.ofNat (kn (kD S f g s rc rc') rc)) := by
  unfold m_X6_keysThatDiffer
  rw [py_l, py_l]
  exact pb_differ_5 h hrc h' hrc' hs rc _ 0 (by rw [py_F]; omega) (by omega)
theorem pm_compare {S : pw_S} {s : Nat} {rc : Nat → Nat} (h : ∀ f, f < 2 → S 54 f 7 = Int32.ofNat (rc f) ∧ rc f ≤ 24) (hs : s < 8) : m_X11_compare S 0 (Int32.ofNat s) = some (S, .inl (Int32.ofNat (10000 * kn (kP (ix_K S 1 s) (ix_K S 0 s) (rc 1) (rc 0)) (rc 1) + 100 * kn (kP (ix_K S 0 s) (ix_K S 1 s) (rc 0) (rc 1)) (rc 0) + kn (kD S 0 1 s (rc 0) (rc 1)) (rc 0)))) := by
  obtain ⟨a0, b0⟩ := h 0 (by omega)
  obtain ⟨a1, b1⟩ := h 1 (by omega)
  have t0 : m_X11_tableOf S 0 0 = some (S, some 0) := pm_table (f := 0) (by omega)
  have t1 : m_X11_tableOf S 0 1 = some (S, some 1) := pm_table (f := 1) (by omega)
  unfold m_X11_compare
  rw [t0, py_b, py_os, t1, py_b, py_os, py_slot S s (by omega), py_b, if_pos hs, if_neg py_10, pb_keysNotIn a1 b1 a0 b0 hs, py_b, pb_keysNotIn a0 b0 a1 b1 hs, py_b, pb_keysThatDiffer a0 b0 a1 b1 hs, py_b, show (10000 : Int32) * Int32.ofNat (kn (kP (ix_K S 1 s) (ix_K S 0 s) (rc 1) (rc 0)) (rc 1)) = Int32.ofNat (10000 * _) from py_mul 10000 _, show (100 : Int32) * Int32.ofNat (kn (kP (ix_K S 0 s) (ix_K S 1 s) (rc 0) (rc 1)) (rc 0)) = Int32.ofNat (100 * _) from py_mul 100 _, py_add, py_add]
