/-! The law's keys. -/
def kb (b : Bool) : Int32 := if b = true then 1 else 0
theorem pl_xcell {S : pw_S} {f rc r s : Nat} (hf : f < 2) (h : S 54 f 7 = Int32.ofNat rc) (hrc : rc ≤ 24) (hr : r < rc) (hs : s < 8) : m_X11_cell S 0 (Int32.ofNat f) (Int32.ofNat r) (Int32.ofNat s) 0 = some (S, .inl (ix_K S f s r)) := by
  have h := pm_cell (S := S) (r := r) (k := s * 3) hf h hrc hr (by omega)
  rw [Nat.mul_div_cancel s (by omega), Nat.mul_mod_left] at h
  exact h
theorem pl_rcell {S : pw_S} {f rc r k : Nat} (hf : f < 2) (h : S 54 f 7 = Int32.ofNat rc) (hrc : rc ≤ 24) (hr : r < rc) (hk : k < 24) : m_X11_cell S 0 (Int32.ofNat f) (Int32.ofNat r) (Int32.ofNat k / 3) (Int32.ofNat k - Int32.ofNat k / 3 * 3) = some (S, .inl (kr S f r k)) := by
  rw [(py_d3 k (by omega)).2, (py_d3 k (by omega)).1]
  exact pm_cell hf h hrc hr hk
theorem pl_keys_j107 (k1 : pw_S → Nat → Int32 → Nat → Nat → Int32 → Int32 → Int32 → Int32 → Int32 → Int32 → Int32 → pw_R Int32) (k2 : pw_S → Nat → Int32 → Nat → Nat → Int32 → Int32 → Int32 → Int32 → Int32 → Int32 → pw_R Int32) (S : pw_S) (v0 : Nat) (v1 : Int32) (va2 vi2 : Nat) (v3 v5 v7 : Int32) {a r i : Nat} (b sm : Bool) (hr : r < 1000) (hi : i < 1000) : m_L_areKeys_j107 k1 k2 S v0 v1 va2 vi2 v3 v5 (Int32.ofNat r) v7 (Int32.ofNat a) (kb b) (Int32.ofNat i) (kb sm) = k1 S v0 v1 va2 vi2 v3 v5 (Int32.ofNat r) v7 (Int32.ofNat (a + if (sm && decide (i < r)) = true then 1 else 0)) (kb (b && !(sm && decide (r < i)))) (Int32.ofNat (i + 1)) := by
  have z0 : Int32.ofNat a + 0 = Int32.ofNat (a + 0) := py_add a 0
  have z1 : Int32.ofNat a + 1 = Int32.ofNat (a + 1) := py_add a 1
  have t1 : kb true = 1 := rfl
  have t0 : kb false = 0 := rfl
  unfold m_L_areKeys_j107
  cases sm with
  | false =>
    rw [t0, py_l, if_pos rfl, Bool.false_and, Bool.false_and, Bool.not_false, Bool.and_true]
    unfold m_L_areKeys_j128
    rw [py_l, z0]
    cases b with
    | false => rw [t0, if_pos rfl, py_l, py_l, py_add1]; rfl
    | true => rw [t1, if_neg py_10, if_pos rfl, py_l, py_l, py_add1]; rfl
  | true =>
    rw [t1, py_l, if_neg py_10, py_je (by omega) (by omega), Bool.true_and, Bool.true_and]
    by_cases e : r ≤ i
    · rw [if_pos e, decide_eq_false (show ¬ i < r by omega)]
      unfold m_L_areKeys_j128
      rw [py_l, z0]
      cases b with
      | false => rw [t0, if_pos rfl, py_l, py_l, py_add1, Bool.false_and]; rfl
      | true =>
        rw [t1, if_neg py_10, if_neg py_10, py_jl (by omega) (by omega)]
        by_cases e2 : r < i
        · rw [if_pos e2, py_l, py_l, py_add1, decide_eq_true e2]; rfl
        · rw [if_neg e2, py_l, py_l, py_add1, decide_eq_false e2]; rfl
    · rw [if_neg e, decide_eq_true (show i < r by omega)]
      unfold m_L_areKeys_j128
      rw [py_l, z1]
      cases b with
      | false => rw [t0, if_pos rfl, py_l, py_l, py_add1, Bool.false_and]; rfl
      | true => rw [t1, if_neg py_10, if_neg py_10, py_jl (by omega) (by omega), if_neg (show ¬ r < i by omega), py_l, py_l, py_add1, decide_eq_false (show ¬ r < i by omega)]; rfl
/-- the rows of the key ahead -/
def kq1 (K : Nat → Int32) (v : Int32) (r : Nat) : Nat → Bool := fun k => decide (K k = v) && decide (k < r)
/-- whether there has been none behind it -/
def kq2 (K : Nat → Int32) (v : Int32) (r : Nat) : Nat → Bool
  | 0 => decide (v ≠ -2147483648)
  | n + 1 => kq2 K v r n && !(decide (K n = v) && decide (r < n))
theorem pl_keys_73 {S : pw_S} {f rc r s : Nat} {v : Int32} (hf : f < 2) (h : S 54 f 7 = Int32.ofNat rc) (hrc : rc ≤ 10) (hc : S 36 0 (5 + 6 * f) = Int32.ofNat rc) (hr : r < rc) (hs : s < 8) (v3 : Int32) (KK : pw_S → Nat → Int32 → Nat → Nat → Int32 → Int32 → Int32 → Int32 → Int32 → Int32 → pw_R Int32) : ∀ (n N i : Nat), n < N → rc = i + n → m_L_areKeys_73 KK N S 0 (Int32.ofNat s) 36 0 v3 (Int32.ofNat f) (Int32.ofNat r) v (Int32.ofNat (kn (kq1 (ix_K S f s) v r) i)) (kb (kq2 (ix_K S f s) v r i)) (Int32.ofNat i) = KK S 0 (Int32.ofNat s) 36 0 v3 (Int32.ofNat f) (Int32.ofNat r) v (Int32.ofNat (kn (kq1 (ix_K S f s) v r) rc)) (kb (kq2 (ix_K S f s) v r rc)) := by
  intro n
  induction n with
  | zero =>
    intro N i hN hi
    obtain ⟨N, rfl⟩ : ∃ q, N = q + 1 := ⟨N - 1, by omega⟩
    unfold m_L_areKeys_73
    rw [pz_5f, pz_b hf 5 (by decide), pz_c hf 5 (by decide), hc, py_je (by omega) (by omega), if_pos (show rc ≤ i by omega), show i = rc by omega]
  | succ n ih =>
    intro N i hN hi
    obtain ⟨N, rfl⟩ : ∃ q, N = q + 1 := ⟨N - 1, by omega⟩
    have ih2 := ih N (i + 1) (by omega) (by omega)
    have e1 : kn (kq1 (ix_K S f s) v r) (i + 1) = kn (kq1 (ix_K S f s) v r) i + if (decide (ix_K S f s i = v) && decide (i < r)) = true then 1 else 0 := rfl
    have e2 : kq2 (ix_K S f s) v r (i + 1) = (kq2 (ix_K S f s) v r i && !(decide (ix_K S f s i = v) && decide (r < i))) := rfl
    rw [e1, e2] at ih2
    unfold m_L_areKeys_73
    rw [pz_5f, pz_b hf 5 (by decide), pz_c hf 5 (by decide), hc, py_je (by omega) (by omega), if_neg (show ¬ rc ≤ i by omega), pl_xcell hf h (by omega) (by omega) hs, py_b, py_el]
    by_cases e : ix_K S f s i = v
    · rw [if_pos e]
      rw [decide_eq_true e] at ih2
      exact (pl_keys_j107 _ _ S 0 (Int32.ofNat s) 36 0 v3 (Int32.ofNat f) v (kq2 (ix_K S f s) v r i) true (by omega) (by omega)).trans ih2
    · rw [if_neg e]
      rw [decide_eq_false e] at ih2
      exact (pl_keys_j107 _ _ S 0 (Int32.ofNat s) 36 0 v3 (Int32.ofNat f) v (kq2 (ix_K S f s) v r i) false (by omega) (by omega)).trans ih2
theorem kq1_row {K : Nat → Int32} {v : Int32} {r rc : Nat} (hr : r ≤ rc) : kn (kq1 K v r) rc = kn (fun k => decide (K k = v)) r := by
  have h1 := kn_stop (P := kq1 K v r) r (rc - r) (fun k h1 h2 => by
    unfold kq1
    rw [decide_eq_false (show ¬ k < r by omega), Bool.and_false])
  rw [show r + (rc - r) = rc by omega] at h1
  rw [h1]
  exact kn_cong r (fun k hk => by
    unfold kq1
    rw [decide_eq_true hk, Bool.and_true])
theorem kq2_all {K : Nat → Int32} {v : Int32} {r : Nat} : ∀ n, kq2 K v r n = true ↔ (v ≠ -2147483648 ∧ ∀ k, k < n → r < k → K k ≠ v) := by
  intro n
  induction n with
  | zero =>
    unfold kq2
    exact ⟨fun z => ⟨of_decide_eq_true z, fun k hk => absurd hk (Nat.not_lt_zero k)⟩, fun z => decide_eq_true z.1⟩
  | succ n ih =>
    unfold kq2
    rw [Bool.and_eq_true, ih, Bool.not_eq_true']
    constructor
    · rintro ⟨⟨h1, h2⟩, h3⟩
      refine ⟨h1, fun k hk hrk hv => ?_⟩
      by_cases ek : k = n
      · rw [ek] at hv hrk
        rw [decide_eq_true hv, decide_eq_true hrk] at h3
        cases h3
      · exact h2 k (by omega) hrk hv
    · rintro ⟨h1, h2⟩
      refine ⟨⟨h1, fun k hk hrk => h2 k (by omega) hrk⟩, ?_⟩
      by_cases er : r < n
      · rw [decide_eq_false (h2 n (by omega) er), Bool.false_and]
      · rw [decide_eq_false er, Bool.and_false]
theorem kq2_la {K : Nat → Int32} {r rc : Nat} (hr : r < rc) (hrc : rc ≤ 24) : kq2 K (K r) r rc = la K rc r := by
  have h1 := kq2_all (K := K) (v := K r) (r := r) rc
  have h2 : la K rc r = true ↔ (K r ≠ -2147483648 ∧ ∀ k, k < rc → r < k → K k ≠ K r) := by
    unfold la
    rw [Bool.and_eq_true, decide_eq_true_iff, decide_eq_true_iff]
    rcases kl_cases (K := K) (v := K r) rc with ⟨c1, c2⟩ | ⟨q, c1, c2, c3, c4⟩
    · exact absurd rfl (c2 r hr)
    · rw [c2, py_eq (by omega) (by omega)]
      constructor
      · rintro ⟨y1, y2⟩
        rw [y2] at c4
        exact ⟨y1, fun k k1 k2 => c4 k k2 k1⟩
      · rintro ⟨y1, y2⟩
        refine ⟨y1, ?_⟩
        by_cases e1 : q < r
        · exact absurd rfl (c4 r e1 hr)
        · by_cases e2 : r < q
          · exact absurd c3 (y2 q c1 e2)
          · omega
  cases ha : kq2 K (K r) r rc with
  | true => exact ((h2.mpr (h1.mp ha))).symm
  | false =>
    cases hb : la K rc r with
    | false => rfl
    | true => rw [h1.mpr (h2.mp hb)] at ha; cases ha
/-! the row of the other file with the same key -/
theorem pz_1f {f : Nat} (hf : f < 2) : (1 : Int32) - Int32.ofNat f = Int32.ofNat (1 - f) := py_sub (a := 1) (by omega)
theorem pl_keys_235n {S : pw_S} {f rc' r s : Nat} {v : Int32} (hf : f < 2) (hc : S 36 0 (5 + 6 * (1 - f)) = Int32.ofNat rc') (hrc : rc' ≤ 10) (v3 v4 : Int32) (KK : pw_S → Nat → Int32 → Nat → Nat → Int32 → Int32 → Int32 → Int32 → Int32 → Int32 → pw_R Int32) {N : Nat} (hN : 0 < N) : m_L_areKeys_235 KK N S 0 (Int32.ofNat s) 36 0 v3 v4 (Int32.ofNat f) (Int32.ofNat r) v 0 (-1) 0 = KK S 0 (Int32.ofNat s) 36 0 v3 v4 (Int32.ofNat f) (Int32.ofNat r) 0 (-1) := by
  obtain ⟨N, rfl⟩ : ∃ q, N = q + 1 := ⟨N - 1, by omega⟩
  unfold m_L_areKeys_235
  rw [pz_1f hf, pz_5f, pz_b (show 1 - f < 2 by omega) 5 (by decide), pz_c (show 1 - f < 2 by omega) 5 (by decide), hc, show (0 : Int32) = Int32.ofNat 0 from rfl, py_je (by omega) (by omega)]
  by_cases e : rc' ≤ 0
  · rw [if_pos e]
  · rw [if_neg e, if_pos rfl]
theorem pl_keys_235 {S : pw_S} {f rc' r s : Nat} {v : Int32} (hf : f < 2) (h : S 54 (1 - f) 7 = Int32.ofNat rc') (hc : S 36 0 (5 + 6 * (1 - f)) = Int32.ofNat rc') (hrc : rc' ≤ 10) (hs : s < 8) (v3 v4 : Int32) (KK : pw_S → Nat → Int32 → Nat → Nat → Int32 → Int32 → Int32 → Int32 → Int32 → Int32 → pw_R Int32) : ∀ (n N i : Nat), n < N → rc' = i + n → m_L_areKeys_235 KK N S 0 (Int32.ofNat s) 36 0 v3 v4 (Int32.ofNat f) (Int32.ofNat r) v 1 (kl (ix_K S (1 - f) s) v i) (Int32.ofNat i) = KK S 0 (Int32.ofNat s) 36 0 v3 v4 (Int32.ofNat f) (Int32.ofNat r) 1 (kl (ix_K S (1 - f) s) v rc') := by
  have hg : 1 - f < 2 := by omega
  intro n
  induction n with
  | zero =>
    intro N i hN hi
    obtain ⟨N, rfl⟩ : ∃ q, N = q + 1 := ⟨N - 1, by omega⟩
    unfold m_L_areKeys_235
    rw [pz_1f hf, pz_5f, pz_b hg 5 (by decide), pz_c hg 5 (by decide), hc, py_je (by omega) (by omega), if_pos (show rc' ≤ i by omega), show i = rc' by omega]
  | succ n ih =>
    intro N i hN hi
    obtain ⟨N, rfl⟩ : ∃ q, N = q + 1 := ⟨N - 1, by omega⟩
    have ih2 := ih N (i + 1) (by omega) (by omega)
    have e0 : kl (ix_K S (1 - f) s) v (i + 1) = if ix_K S (1 - f) s i = v then Int32.ofNat i else kl (ix_K S (1 - f) s) v i := rfl
    rw [e0] at ih2
    unfold m_L_areKeys_235
    rw [pz_1f hf, pz_5f, pz_b hg 5 (by decide), pz_c hg 5 (by decide), hc, py_je (by omega) (by omega), if_neg (show ¬ rc' ≤ i by omega), if_neg py_10, pl_xcell hg h (by omega) (by omega) hs, py_b, py_el]
    by_cases e : ix_K S (1 - f) s i = v
    · rw [if_pos e, py_l, py_l, py_add1]
      rw [if_pos e] at ih2
      exact ih2
    · rw [if_neg e, py_l, py_l, py_add1]
      rw [if_neg e] at ih2
      exact ih2
theorem pl_keys_294n {S : pw_S} {v1 v3 v4 v5 v6 v9 v10 v11 : Int32} (KK : pw_S → Nat → Int32 → Nat → Nat → Int32 → Int32 → Int32 → Int32 → Int32 → Int32 → Int32 → pw_R Int32) {N : Nat} (hN : 0 < N) (hz : v10 < 0 ∨ v9 = 0) : m_L_areKeys_294 KK N S 0 v1 36 0 v3 v4 v5 v6 v9 v10 v11 0 = KK S 0 v1 36 0 v3 v4 v5 v6 v9 v10 v11 := by
  obtain ⟨N, rfl⟩ : ∃ q, N = q + 1 := ⟨N - 1, by omega⟩
  unfold m_L_areKeys_294
  rw [if_neg (show ¬ (24 : Int32) ≤ 0 by decide)]
  by_cases e : v10 < 0
  · rw [if_pos e]
  · rcases hz with z | z
    · exact absurd z e
    · rw [if_neg e, if_pos z]
theorem pl_keys_294 {S : pw_S} {f rc rc' r q : Nat} (hf : f < 2) (h : S 54 f 7 = Int32.ofNat rc) (hrc : rc ≤ 24) (h' : S 54 (1 - f) 7 = Int32.ofNat rc') (hrc' : rc' ≤ 24) (hr : r < rc) (hq : q < rc') (v1 v3 v4 : Int32) (KK : pw_S → Nat → Int32 → Nat → Nat → Int32 → Int32 → Int32 → Int32 → Int32 → Int32 → Int32 → pw_R Int32) : ∀ (n N i : Nat), n < N → 24 = i + n → m_L_areKeys_294 KK N S 0 v1 36 0 v3 v4 (Int32.ofNat f) (Int32.ofNat r) 1 (Int32.ofNat q) (kb (kx (kr S f r) (kr S (1 - f) q) i)) (Int32.ofNat i) = KK S 0 v1 36 0 v3 v4 (Int32.ofNat f) (Int32.ofNat r) 1 (Int32.ofNat q) (kb (kx (kr S f r) (kr S (1 - f) q) 24)) := by
  have hg : 1 - f < 2 := by omega
  intro n
  induction n with
  | zero =>
    intro N i hN hi
    obtain ⟨N, rfl⟩ : ∃ q, N = q + 1 := ⟨N - 1, by omega⟩
    unfold m_L_areKeys_294
    rw [py_jeL (l := 24) (by omega) (by omega), if_pos (show 24 ≤ i by omega), show i = 24 by omega]
  | succ n ih =>
    intro N i hN hi
    obtain ⟨N, rfl⟩ : ∃ q, N = q + 1 := ⟨N - 1, by omega⟩
    have ih2 := ih N (i + 1) (by omega) (by omega)
    have e0 : kx (kr S f r) (kr S (1 - f) q) (i + 1) = (kx (kr S f r) (kr S (1 - f) q) i || decide (kr S f r i ≠ kr S (1 - f) q i)) := rfl
    rw [e0] at ih2
    unfold m_L_areKeys_294
    rw [py_jeL (l := 24) (by omega) (by omega), if_neg (show ¬ 24 ≤ i by omega), py_jn (by omega), if_neg py_10]
    cases hk : kx (kr S f r) (kr S (1 - f) q) i with
    | true =>
      rw [show kb true = 1 from rfl, if_neg py_10, py_l, py_l, py_add1]
      rw [hk, Bool.true_or] at ih2
      exact ih2
    | false =>
      rw [hk, Bool.false_or] at ih2
      rw [show kb false = 0 from rfl, if_pos rfl, pl_rcell hf h hrc hr (by omega), py_b, py_el, pz_1f hf, pl_rcell hg h' hrc' hq (by omega), py_b, py_el]
      by_cases e : kr S f r i = kr S (1 - f) q i
      · rw [if_pos e, py_l, py_l, py_add1]
        rw [decide_eq_false (fun z => z e)] at ih2
        exact ih2
      · rw [if_neg e, py_l, py_l, py_add1]
        rw [decide_eq_true e] at ih2
        exact ih2
/-- what a row adds -/
def kw (S : pw_S) (s : Nat) (rc : Nat → Nat) (f r : Nat) : Nat := if la (ix_K S f s) (rc f) r = true then (if kl (ix_K S (1 - f) s) (ix_K S f s r) (rc (1 - f)) = -1 then (if f = 0 then 100 else 10000) else if kx (kr S f r) (kr S (1 - f) (kl (ix_K S (1 - f) s) (ix_K S f s r) (rc (1 - f))).toNatClampNeg) 24 = true then (if f = 0 then 1 else 0) else 0) else 0
def ks (w : Nat → Nat) : Nat → Nat
  | 0 => 0
  | n + 1 => ks w n + w n
/-- what is asked of the tables -/
def px_Q (S : pw_S) (rc : Nat → Nat) : Prop := ∀ f, f < 2 → S 54 f 7 = Int32.ofNat (rc f) ∧ rc f ≤ 10 ∧ S 36 0 (5 + 6 * f) = Int32.ofNat (rc f) ∧ (∀ r, r < rc f → ∀ c, c < 24 → S 12 f (r * 24 + c) = -2147483648 ∨ ∃ w, w < 134217728 ∧ S 12 f (r * 24 + c) = Int32.ofNat w) ∧ ∀ s, s < 8 → px_is S f s (rc f)
theorem pl_keys_j366 (k22 : pw_S → Nat → Int32 → Nat → Nat → Int32 → Int32 → Int32 → Int32 → pw_R Int32) (k420 : pw_S → Nat → Int32 → Nat → Nat → Int32 → Int32 → Int32 → pw_R Int32) {S : pw_S} {s f r d : Nat} {v1 v4 : Int32} {o : Int32} {la9 df : Bool} {w : Nat} (hf : f < 2) (ho : o = -1 ∨ ∃ q, q < 1000 ∧ o = Int32.ofNat q) (hw : w = if la9 = true then (if o = -1 then (if f = 0 then 100 else 10000) else if df = true then (if f = 0 then 1 else 0) else 0) else 0) : m_L_areKeys_j366 k22 k420 S 0 v1 36 0 (Int32.ofNat d) v4 (Int32.ofNat f) (Int32.ofNat r) (kb la9) o (kb df) = k22 S 0 v1 36 0 (Int32.ofNat (d + w)) v4 (Int32.ofNat f) (Int32.ofNat (r + 1)) := by
  have z0 : Int32.ofNat d + 0 = Int32.ofNat (d + 0) := py_add d 0
  have z1 : Int32.ofNat d + 1 = Int32.ofNat (d + 1) := py_add d 1
  have z2 : Int32.ofNat d + 100 = Int32.ofNat (d + 100) := py_add d 100
  have z3 : Int32.ofNat d + 10000 = Int32.ofNat (d + 10000) := py_add d 10000
  have t1 : kb true = 1 := rfl
  have t0 : kb false = 0 := rfl
  rw [hw]
  unfold m_L_areKeys_j366
  cases la9 with
  | false => rw [t0, if_pos rfl, py_l, z0, py_l, py_add1]; rfl
  | true =>
    have hp : f = 0 → Int32.ofNat f = 0 := fun e => by
      rw [e]
      rfl
    have hn : ¬ f = 0 → ¬ Int32.ofNat f = 0 := fun e z => e ((py_eq (a := f) (b := 0) (by omega) (by omega)).mp z)
    rw [t1, if_neg py_10, if_pos rfl]
    rcases ho with rfl | ⟨q, hq, rfl⟩
    · rw [if_neg (show ¬ (0 : Int32) ≤ -1 by decide), if_pos rfl]
      by_cases e : f = 0
      · rw [if_pos (hp e), if_pos e, py_l, z2, py_l, py_add1]
      · rw [if_neg (hn e), if_neg e, py_l, z3, py_l, py_add1]
    · rw [py_jz (by omega), if_neg (py_ne1 (by omega))]
      cases df with
      | false => rw [t0, if_pos rfl, py_l, z0, py_l, py_add1]; rfl
      | true =>
        rw [t1, if_neg py_10, if_pos rfl]
        by_cases e : f = 0
        · rw [if_pos (hp e), if_pos e, py_l, z1, py_l, py_add1]
        · rw [if_neg (hn e), if_neg e, py_l, z0, py_l, py_add1]
theorem pm_findX {S : pw_S} {f s w : Nat} {v x : Int32} (hf : f < 2) (hs : s < 8) (h : m_X6_rowByIndex S f (Int32.ofNat s) v (Int32.ofNat w) = some (S, x)) (hw : w < 1000) : m_X11_find S 0 (Int32.ofNat f) (Int32.ofNat s) v (Int32.ofNat w) = some (S, .inl x) := by
  unfold m_X11_find
  rw [pm_table hf, py_b, py_os, py_slot S s (by omega), py_b, if_pos hs, if_neg py_10, py_jz (by omega), h, py_b]
theorem pm_findN {S : pw_S} {f s w : Nat} {v x : Int32} (hf : f < 2) (hs : s < 8) (h : m_X6_rowByLooking S f (Int32.ofNat s) v (Int32.ofNat w) = some (S, x)) (hw : w < 1000) : m_X11_findAnew S 0 (Int32.ofNat f) (Int32.ofNat s) v (Int32.ofNat w) = some (S, .inl x) := by
  unfold m_X11_findAnew
  rw [pm_table hf, py_b, py_os, py_slot S s (by omega), py_b, if_pos hs, if_neg py_10, py_jz (by omega), h, py_b]
theorem pl_keys_j161 {S : pw_S} {s f r : Nat} {rc : Nat → Nat} (hQ : px_Q S rc) (hf : f < 2) (hr : r < rc f) (hs : s < 8) (k22 : pw_S → Nat → Int32 → Nat → Nat → Int32 → Int32 → Int32 → Int32 → pw_R Int32) (k420 : pw_S → Nat → Int32 → Nat → Nat → Int32 → Int32 → Int32 → pw_R Int32) (d : Nat) : m_L_areKeys_j161 k22 k420 S 0 (Int32.ofNat s) 36 0 (Int32.ofNat d) (Int32.ofNat f) (Int32.ofNat r) (ix_K S f s r) (Int32.ofNat (kn (kq1 (ix_K S f s) (ix_K S f s r) r) (rc f))) (kb (kq2 (ix_K S f s) (ix_K S f s r) r (rc f))) = k22 S 0 (Int32.ofNat s) 36 0 (Int32.ofNat (d + kw S s rc f r)) 1 (Int32.ofNat f) (Int32.ofNat (r + 1)) := by
  obtain ⟨a1, a2, a3, a4, a5⟩ := hQ f hf
  obtain ⟨b1, b2, b3, b4, b5⟩ := hQ (1 - f) (by omega)
  rw [kq1_row (show r ≤ rc f by omega), kq2_la hr (by omega)]
  have cont : ∀ KK : pw_S → Nat → Int32 → Nat → Nat → Int32 → Int32 → Int32 → Int32 → Int32 → Int32 → pw_R Int32, KK = (fun S282 u269 u271 u272 u273 u276 u277 u278 u279 u280 u281 => (pw_l (0 : Int32) fun z285 => pw_l (0 : Int32) fun z286 => m_L_areKeys_294 (fun S301 u287 u289 u290 u291 u294 u295 u296 u297 u298 u299 u300 => (m_L_areKeys_j366 (fun S315 u304 u306 u307 u308 u311 u312 u313 u314 => k22 S315 u304 u306 u307 u308 u311 u312 u313 u314) (fun S332 u322 u324 u325 u326 u329 u330 u331 => k420 S332 u322 u324 u325 u326 u329 u330 u331) S301 u287 u289 u290 u291 u294 u295 u296 u297 u298 u299 u300)) (pw_F 25) S282 u269 u271 u272 u273 u276 u277 u278 u279 u280 u281 z285 z286)) → m_L_areKeys_235 KK (pw_F 11) S 0 (Int32.ofNat s) 36 0 (Int32.ofNat d) 1 (Int32.ofNat f) (Int32.ofNat r) (ix_K S f s r) (kb (la (ix_K S f s) (rc f) r)) (-1) 0 = k22 S 0 (Int32.ofNat s) 36 0 (Int32.ofNat (d + kw S s rc f r)) 1 (Int32.ofNat f) (Int32.ofNat (r + 1)) := by
    intro KK hKK
    have hkw : kw S s rc f r = if la (ix_K S f s) (rc f) r = true then (if kl (ix_K S (1 - f) s) (ix_K S f s r) (rc (1 - f)) = -1 then (if f = 0 then 100 else 10000) else if kx (kr S f r) (kr S (1 - f) (kl (ix_K S (1 - f) s) (ix_K S f s r) (rc (1 - f))).toNatClampNeg) 24 = true then (if f = 0 then 1 else 0) else 0) else 0 := rfl
    cases hla : la (ix_K S f s) (rc f) r with
    | false =>
      rw [hla] at hkw
      refine (pl_keys_235n hf b3 b2 (Int32.ofNat d) 1 KK (by rw [py_F]; omega)).trans ?_
      rw [hKK]
      dsimp only
      rw [py_l, py_l]
      refine (pl_keys_294n _ (by rw [py_F]; omega) (Or.inr rfl)).trans ?_
      exact pl_keys_j366 (s := s) (la9 := false) (df := false) k22 _ hf (Or.inl rfl) hkw
    | true =>
      rw [hla] at hkw
      refine (pl_keys_235 (r := r) (v := ix_K S f s r) hf b1 b3 b2 hs (Int32.ofNat d) 1 KK (rc (1 - f)) (pw_F 11) 0 (by rw [py_F]; omega) (by omega)).trans ?_
      rw [hKK]
      dsimp only
      rw [py_l, py_l]
      rcases kl_cases (K := ix_K S (1 - f) s) (v := ix_K S f s r) (rc (1 - f)) with ⟨c1, c2⟩ | ⟨q, c1, c2, c3, c4⟩
      · rw [c1] at hkw ⊢
        refine (pl_keys_294n _ (by rw [py_F]; omega) (Or.inl (by decide))).trans ?_
        exact pl_keys_j366 (s := s) (la9 := true) (df := false) k22 _ hf (Or.inl rfl) hkw
      · rw [c2, py_cl (by omega)] at hkw
        rw [c2]
        refine (pl_keys_294 hf a1 (by omega) b1 (by omega) hr c1 (Int32.ofNat s) (Int32.ofNat d) 1 _ 24 (pw_F 25) 0 (by rw [py_F]; omega) rfl).trans ?_
        exact pl_keys_j366 (s := s) (la9 := true) k22 _ hf (Or.inr ⟨q, by omega, rfl⟩) hkw
  unfold m_L_areKeys_j161
  by_cases e : ix_K S f s r = -2147483648
  · rw [if_pos e, py_l, py_l, py_l]
    exact cont _ rfl
  · rw [if_neg e]
    obtain ⟨w, hw1, hw2⟩ : ∃ w, w < 134217728 ∧ ix_K S f s r = Int32.ofNat w := by
      rcases a4 r hr (s * 3) (by omega) with z | z
      · exact absurd z e
      · exact z
    have hvb : ix_K S f s r &&& 31 = Int32.ofNat (w % 32) := by rw [hw2, py_and31 (by omega)]
    have hpl := kn_le (fun k => decide (ix_K S f s k = ix_K S f s r)) r
    have n1 : ix_n (ix_K S f s) (ix_K S f s r) (rc f) 0 (kn (fun k => decide (ix_K S f s k = ix_K S f s r)) r) = Int32.ofNat r := ix_n_row rfl (rc f) 0 _ (Nat.zero_le r) (by omega) (Nat.add_zero _)
    have f1 := pm_findX (v := ix_K S f s r) hf hs (pb_rowByIndex (v := ix_K S f s r) a1 (by omega) hs (show kn (fun k => decide (ix_K S f s k = ix_K S f s r)) r < 1000 by omega) (a5 s hs) (Nat.mod_lt w (by decide)) e hvb) (by omega)
    have f2 := pm_findN (v := ix_K S f s r) hf hs (pb_rowByLooking (v := ix_K S f s r) a1 (by omega) hs (show kn (fun k => decide (ix_K S f s k = ix_K S f s r)) r < 1000 by omega) e) (by omega)
    rw [n1] at f1 f2
    rw [f1, py_b, py_el, if_pos rfl, f2, py_b, py_el, if_pos rfl]
    cases hla : la (ix_K S f s) (rc f) r with
    | false =>
      rw [show kb false = 0 from rfl, if_pos rfl, py_l, py_l, py_l]
      have c := cont _ rfl
      rw [hla] at c
      exact c
    | true =>
      have hlast := ((kq2_all (K := ix_K S f s) (v := ix_K S f s r) (r := r) (rc f)).mp ((kq2_la hr (by omega)).trans hla)).2
      have n2 : ix_n (ix_K S f s) (ix_K S f s r) (rc f) 0 (kn (fun k => decide (ix_K S f s k = ix_K S f s r)) r + 1) = -1 := by
        apply ix_n_none
        have q1 := kn_stop (P := fun k => decide (ix_K S f s k = ix_K S f s r)) (r + 1) (rc f - (r + 1)) (fun k h1 h2 => decide_eq_false (hlast k (by omega) (by omega)))
        rw [show r + 1 + (rc f - (r + 1)) = 0 + rc f by omega] at q1
        have q2 : kn (fun k => decide (ix_K S f s k = ix_K S f s r)) (r + 1) = kn (fun k => decide (ix_K S f s k = ix_K S f s r)) r + 1 := by
          show kn (fun k => decide (ix_K S f s k = ix_K S f s r)) r + (if decide (ix_K S f s r = ix_K S f s r) = true then 1 else 0) = _
          rw [if_pos (decide_eq_true rfl)]
        rw [q1, q2]
        exact Nat.le_add_right _ _
      have f3 := pm_findX (v := ix_K S f s r) hf hs (pb_rowByIndex (v := ix_K S f s r) a1 (by omega) hs (show kn (fun k => decide (ix_K S f s k = ix_K S f s r)) r + 1 < 1000 by omega) (a5 s hs) (Nat.mod_lt w (by decide)) e hvb) (by omega)
      rw [n2] at f3
      rw [show kb true = 1 from rfl, if_neg py_10, py_add1, f3, py_b, py_el, if_pos rfl, py_l, py_l, py_l]
      have c := cont _ rfl
      rw [hla] at c
      exact c
