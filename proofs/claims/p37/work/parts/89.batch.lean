/-! Columns by batch. -/
theorem px_k.cong {S S' : pw_S} {k f kd s w : Nat} (h : px_k S k f kd s w) (e : S' 55 k = S 55 k) : px_k S' k f kd s w := by
  unfold px_k
  rw [e]
  exact h
theorem cz_B_cong {S S' : pw_S} {f rc s : Nat} (e : S' 12 f = S 12 f) : cz_B S' f rc s = cz_B S f rc s := by
  unfold cz_B pb_c
  rw [e]
theorem pz0_gather {k f kd s w rc : Nat} {B : Nat → Int32} (hrc : rc ≤ 24) : ∀ (n N i : Nat) (S : pw_S) (m : Int32), n < N → 24 = i + n → px_k S k f kd s w → S 54 f 7 = Int32.ofNat rc → cz_B S f rc s = B → (∀ j, j < i → S 17 k j = B j) → (∀ r, r < 24 → py_bt m r = (decide (r < i) && decide (B r = -2147483648))) →
    ∃ S' m', m_X0_gatherBase_4 N S k m (Int32.ofNat i) = some (S', m') ∧ (∀ j, j < 24 → S' 17 k j = B j) ∧ (∀ r, r < 24 → py_bt m' r = decide (B r = -2147483648)) ∧ py_fr (py_K1 17 k) S S' := by
  intro n
  induction n with
  | zero =>
    intro N i S m hN hi h h7 hB hv hm
    obtain ⟨N, rfl⟩ : ∃ q, N = q + 1 := ⟨N - 1, by omega⟩
    unfold m_X0_gatherBase_4
    rw [py_jeL (l := 24) (by omega) (by omega), if_pos (show 24 ≤ i by omega)]
    refine ⟨S, m, rfl, fun j hj => hv j (by omega), fun r hr => ?_, py_fr_r⟩
    rw [hm r hr, decide_eq_true (show r < i by omega), Bool.true_and]
  | succ n ih =>
    intro N i S m hN hi h h7 hB hv hm
    obtain ⟨N, rfl⟩ : ∃ q, N = q + 1 := ⟨N - 1, by omega⟩
    unfold m_X0_gatherBase_4
    rw [py_jeL (l := 24) (by omega) (by omega), if_neg (show ¬ 24 ≤ i by omega), pz0_told h h7 hrc (by omega), py_b, hB, py_cl (by omega), py_ct (py_inb (by omega) (by omega)), py_l, py_ct (py_inb (by omega) (by omega)), py_up_s, py_u_s]
    generalize hS1 : pw_up S 17 k (upd (S 17 k) i (B i)) = S1
    have k1 : ∀ a b, Nat.beq a 17 = false → S1 a b = S a b := fun a b hh => by
      rw [← hS1]
      exact py_up_k _ _ hh
    have s17 : S1 17 k = upd (S 17 k) i (B i) := by rw [← hS1, py_up_s]
    have hf1 : py_fr (py_K1 17 k) S S1 := by
      rw [← hS1]
      exact py_fr_r.up (py_K1_s 17 k)
    have hv1 : ∀ j, j < i + 1 → S1 17 k j = B j := fun j hj => by
      rw [s17]
      by_cases e : j = i
      · rw [e, py_u_s]
      · rw [py_u_n _ _ e]
        exact hv j (by omega)
    have hB1 : cz_B S1 f rc s = B := by rw [cz_B_cong (k1 12 f rfl), hB]
    have h71 : S1 54 f 7 = Int32.ofNat rc := by rw [k1 54 f rfl, h7]
    have hk1 : px_k S1 k f kd s w := h.cong (k1 55 k rfl)
    by_cases e : B i = -2147483648
    · rw [if_pos e, py_l, py_l, py_add1]
      obtain ⟨S', m', a1, a2, a3, a4⟩ := ih N (i + 1) S1 (m ||| 1 <<< (Int32.ofNat i &&& 31)) (by omega) (by omega) hk1 h71 hB1 hv1 (fun r hr => by
        have q : py_bt ((1 : Int32) <<< (Int32.ofNat i &&& 31)) r = decide (r = i) := py_bt_1 ⟨i, by omega⟩ ⟨r, by omega⟩
        rw [py_bt_or, hm r hr, q]
        by_cases hri : r = i
        · rw [hri, decide_eq_true e, decide_eq_false (Nat.lt_irrefl i), decide_eq_true (Nat.lt_succ_self i), decide_eq_true rfl]
          rfl
        · rw [decide_eq_false hri, Bool.or_false, show decide (r < i + 1) = decide (r < i) from decide_eq_decide.mpr (by omega)])
      exact ⟨S', m', a1, a2, a3, hf1.trans a4⟩
    · rw [if_neg e, py_l, py_add1]
      obtain ⟨S', m', a1, a2, a3, a4⟩ := ih N (i + 1) S1 m (by omega) (by omega) hk1 h71 hB1 hv1 (fun r hr => by
        rw [hm r hr]
        by_cases hri : r = i
        · rw [hri, decide_eq_false e, Bool.and_false, Bool.and_false]
        · rw [show decide (r < i + 1) = decide (r < i) from decide_eq_decide.mpr (by omega)])
      exact ⟨S', m', a1, a2, a3, hf1.trans a4⟩
theorem pz0_shifted (S : pw_S) {x : Int32} {n : Nat} {B : Nat → Int32} (hn : n ≤ 5) (hx : ∀ r, r < 24 → py_bt x r = decide (B r = -2147483648)) : ∃ y, m_X0_shifted S x (Int32.ofNat n) = some (S, y) ∧ ∀ r, r < 24 → py_bt y r = decide (cz_K B r n = -2147483648) := by
  refine ⟨_, rfl, fun r hr => ?_⟩
  have q : py_bt (((1 : Int32) <<< (Int32.ofNat n &&& 31)) - 1) r = decide (r < n) := py_bt_low ⟨n, by omega⟩ ⟨r, by omega⟩
  rw [py_bt_or, py_bt_shl x (by omega) (by omega), q]
  unfold cz_K
  by_cases h : n ≤ r
  · rw [decide_eq_true h, hx (r - n) (by omega), decide_eq_false (show ¬ r < n by omega), Bool.or_false, Bool.true_and, if_pos h]
  · rw [decide_eq_false h, decide_eq_true (show r < n by omega), Bool.false_and, Bool.false_or, if_neg h]
    rfl
theorem pz0_at {S : pw_S} {k i d : Nat} {x : Int32} (hi : i < 24) (hd : d < 1000) : m_X11_at S 17 k (Int32.ofNat i - Int32.ofNat d) x = some (S, if d ≤ i then S 17 k (i - d) else x) := by
  by_cases e : d ≤ i
  · rw [py_sub e, py_atI _ _ _ _ _ (show i - d < 24 by omega), if_pos e]
  · rw [py_at_neg _ _ _ _ _ (py_subneg (by omega) (by omega)), if_neg e]
theorem pz0_shift {k f kd s w : Nat} {B : Nat → Int32} {m : Int32} (hm : ∀ r, r < 24 → py_bt m r = decide (B r = -2147483648)) : ∀ (n N i : Nat) (S : pw_S), n < N → 24 = i + n → px_k S k f kd s w → (∀ j, j < 24 → S 17 k j = B j) → (∀ j, j < i → S 18 k j = cz_K B j w) →
    ∃ S' m', m_X0_shiftBatch_2 N S k m (Int32.ofNat i) = some (S', m') ∧ (∀ j, j < 24 → S' 18 k j = cz_K B j w) ∧ (∀ r, r < 24 → py_bt m' r = decide (cz_K B r w = -2147483648)) ∧ py_fr (py_K1 18 k) S S' := by
  intro n
  induction n with
  | zero =>
    intro N i S hN hi h hb hv
    obtain ⟨N, rfl⟩ : ∃ q, N = q + 1 := ⟨N - 1, by omega⟩
    obtain ⟨h2, hf, h3, hkd, h4, hs, h5, hw1, hw5⟩ := h
    obtain ⟨y, a1, a2⟩ := pz0_shifted S (n := w) hw5 hm
    unfold m_X0_shiftBatch_2
    rw [py_jeL (l := 24) (by omega) (by omega), if_pos (show 24 ≤ i by omega), h5, a1, py_b]
    exact ⟨S, y, rfl, fun j hj => hv j (by omega), a2, py_fr_r⟩
  | succ n ih =>
    intro N i S hN hi h hb hv
    obtain ⟨N, rfl⟩ : ∃ q, N = q + 1 := ⟨N - 1, by omega⟩
    have hh := h
    obtain ⟨h2, hf, h3, hkd, h4, hs, h5, hw1, hw5⟩ := hh
    unfold m_X0_shiftBatch_2
    rw [py_jeL (l := 24) (by omega) (by omega), if_neg (show ¬ 24 ≤ i by omega), h5, pz0_at (by omega) (by omega), py_b, py_cl (by omega), py_ct (py_inb (by omega) (by omega)), py_l, py_l, py_add1]
    have e9 : (if w ≤ i then S 17 k (i - w) else -2147483648) = cz_K B i w := by
      unfold cz_K
      by_cases e : w ≤ i
      · rw [if_pos e, if_pos e, hb _ (by omega)]
      · rw [if_neg e, if_neg e]
    rw [e9]
    generalize hS1 : pw_up S 18 k (upd (S 18 k) i (cz_K B i w)) = S1
    have k1 : ∀ a b, Nat.beq a 18 = false → S1 a b = S a b := fun a b hh => by
      rw [← hS1]
      exact py_up_k _ _ hh
    have s18 : S1 18 k = upd (S 18 k) i (cz_K B i w) := by rw [← hS1, py_up_s]
    have hf1 : py_fr (py_K1 18 k) S S1 := by
      rw [← hS1]
      exact py_fr_r.up (py_K1_s 18 k)
    obtain ⟨S', m', a1, a2, a3, a4⟩ := ih N (i + 1) S1 (by omega) (by omega) (h.cong (k1 55 k rfl)) (fun j hj => by rw [k1 17 k rfl, hb j hj]) (fun j hj => by
      rw [s18]
      by_cases e : j = i
      · rw [e, py_u_s]
      · rw [py_u_n _ _ e]
        exact hv j (by omega))
    exact ⟨S', m', a1, a2, a3, hf1.trans a4⟩
def cz_E (B : Nat → Int32) (j : Nat) : Int32 := B j - if 1 ≤ j then B (j - 1) else 0
theorem pz0_differ {k : Nat} {B : Nat → Int32} {m : Int32} (hm : ∀ r, r < 24 → py_bt m r = decide (B r = -2147483648)) : ∀ (n N i : Nat) (S : pw_S), n < N → 24 = i + n → (∀ j, j < 24 → S 17 k j = B j) → (∀ j, j < i → S 18 k j = cz_E B j) →
    ∃ S' m', m_X0_differBatch_2 N S k m (Int32.ofNat i) = some (S', m') ∧ (∀ j, j < 24 → S' 18 k j = cz_E B j) ∧ (∀ r, r < 24 → py_bt m' r = (decide (B r = -2147483648) || decide (cz_K B r 1 = -2147483648))) ∧ py_fr (py_K1 18 k) S S' := by
  intro n
  induction n with
  | zero =>
    intro N i S hN hi hb hv
    obtain ⟨N, rfl⟩ : ∃ q, N = q + 1 := ⟨N - 1, by omega⟩
    obtain ⟨y, a1, a2⟩ := pz0_shifted S (n := 1) (by omega) hm
    unfold m_X0_differBatch_2
    rw [py_jeL (l := 24) (by omega) (by omega), if_pos (show 24 ≤ i by omega), show (1 : Int32) = Int32.ofNat 1 from rfl, a1, py_b]
    refine ⟨S, _, rfl, fun j hj => hv j (by omega), fun r hr => ?_, py_fr_r⟩
    rw [py_bt_or, hm r hr, a2 r hr]
  | succ n ih =>
    intro N i S hN hi hb hv
    obtain ⟨N, rfl⟩ : ∃ q, N = q + 1 := ⟨N - 1, by omega⟩
    unfold m_X0_differBatch_2
    rw [py_jeL (l := 24) (by omega) (by omega), if_neg (show ¬ 24 ≤ i by omega), py_atI _ _ _ _ _ (show i < 24 by omega), py_b, show (Int32.ofNat i - 1) = Int32.ofNat i - Int32.ofNat 1 from rfl, pz0_at (by omega) (by omega), py_b, py_cl (by omega), py_ct (py_inb (by omega) (by omega)), py_l, py_l, py_add1]
    have e9 : S 17 k i - (if 1 ≤ i then S 17 k (i - 1) else 0) = cz_E B i := by
      unfold cz_E
      rw [hb i (by omega)]
      by_cases e : 1 ≤ i
      · rw [if_pos e, if_pos e, hb _ (by omega)]
      · rw [if_neg e, if_neg e]
    rw [e9]
    generalize hS1 : pw_up S 18 k (upd (S 18 k) i (cz_E B i)) = S1
    have k1 : ∀ a b, Nat.beq a 18 = false → S1 a b = S a b := fun a b hh => by
      rw [← hS1]
      exact py_up_k _ _ hh
    have s18 : S1 18 k = upd (S 18 k) i (cz_E B i) := by rw [← hS1, py_up_s]
    have hf1 : py_fr (py_K1 18 k) S S1 := by
      rw [← hS1]
      exact py_fr_r.up (py_K1_s 18 k)
    obtain ⟨S', m', a1, a2, a3, a4⟩ := ih N (i + 1) S1 (by omega) (by omega) (fun j hj => by rw [k1 17 k rfl, hb j hj]) (fun j hj => by
      rw [s18]
      by_cases e : j = i
      · rw [e, py_u_s]
      · rw [py_u_n _ _ e]
        exact hv j (by omega))
    exact ⟨S', m', a1, a2, a3, hf1.trans a4⟩
/-! the sum of a window -/
theorem cz_sum {K : Nat → Int32} (hK : ∀ d, K d = -2147483648 ∨ ∃ t, t < 134217728 ∧ K d = Int32.ofNat t) : ∀ n, n ≤ 5 → cz_j 1 K n = -2147483648 ∨ ∃ t, t ≤ n * 134217728 ∧ cz_j 1 K n = Int32.ofNat t := by
  intro n
  induction n with
  | zero => intro _; exact Or.inl rfl
  | succ n ih =>
    intro hn
    unfold cz_j cz_o
    by_cases e1 : K n = -2147483648
    · rw [if_pos e1]
      rcases ih (by omega) with z | ⟨t, z1, z2⟩
      · exact Or.inl z
      · exact Or.inr ⟨t, Nat.le_trans z1 (Nat.mul_le_mul_right _ (Nat.le_succ n)), z2⟩
    · rw [if_neg e1]
      rcases hK n with z | ⟨t, z1, z2⟩
      · exact absurd z e1
      · by_cases e2 : cz_j 1 K n = -2147483648
        · rw [if_pos e2, z2]
          exact Or.inr ⟨t, by omega, rfl⟩
        · rw [if_neg e2, if_pos rfl]
          rcases ih (by omega) with y | ⟨t', y1, y2⟩
          · exact absurd y e2
          · rw [y2, z2, py_add]
            exact Or.inr ⟨t' + t, by omega, rfl⟩
theorem py_nN {t : Nat} (ht : t < 2147483648) : Int32.ofNat t ≠ -2147483648 := by
  intro z
  have z2 := congrArg Int32.toInt z
  rw [py_ti ht] at z2
  have z3 : (-2147483648 : Int32).toInt = -2147483648 := rfl
  omega
theorem cz_sumS {K : Nat → Int32} (hK : ∀ d, K d = -2147483648 ∨ ∃ t, t < 134217728 ∧ K d = Int32.ofNat t) {n : Nat} (hn : n < 5) : (cz_j 1 K (n + 1) = -2147483648 ↔ cz_j 1 K n = -2147483648 ∧ K n = -2147483648) ∧ (if cz_j 1 K (n + 1) = -2147483648 then 0 else cz_j 1 K (n + 1)) = (if K n = -2147483648 then (if cz_j 1 K n = -2147483648 then 0 else cz_j 1 K n) else (if cz_j 1 K n = -2147483648 then 0 else cz_j 1 K n) + K n) := by
  have e0 : cz_j 1 K (n + 1) = cz_o 1 (cz_j 1 K n) (K n) := rfl
  rw [e0]
  unfold cz_o
  by_cases e1 : K n = -2147483648
  · rw [if_pos e1, if_pos e1]
    exact ⟨⟨fun z => ⟨z, e1⟩, fun z => z.1⟩, rfl⟩
  · rw [if_neg e1, if_neg e1]
    by_cases e2 : cz_j 1 K n = -2147483648
    · rw [if_pos e2, if_neg e1, if_pos e2, Int32.zero_add]
      exact ⟨⟨fun z => absurd z e1, fun z => absurd z.2 e1⟩, rfl⟩
    · rw [if_neg e2, if_pos rfl, if_neg e2]
      have e3 : cz_j 1 K n + K n ≠ -2147483648 := by
        rcases cz_sum hK n (by omega) with z | ⟨t, z1, z2⟩
        · exact absurd z e2
        · rcases hK n with y | ⟨t', y1, y2⟩
          · exact absurd y e1
          · rw [z2, y2, py_add]
            exact py_nN (by omega)
      rw [if_neg e3]
      exact ⟨⟨fun z => absurd z e3, fun z => absurd z.1 e2⟩, rfl⟩
theorem pz0_total_30 {k b : Nat} {B V : Nat → Int32} (hb5 : b < 1000) {gone : Int32} (hg : ∀ r, r < 24 → py_bt gone r = decide (cz_K B r b = -2147483648)) (KK : pw_S → Nat → Int32 → Int32 → Int32 → Int32 → pw_R Int32) (m mask : Int32) : ∀ (n N i : Nat) (S : pw_S), n < N → 24 = i + n → (∀ j, j < 24 → S 17 k j = B j) → (∀ j, j < i → S 18 k j = if cz_K B j b = -2147483648 then V j else V j + cz_K B j b) → (∀ j, i ≤ j → j < 24 → S 18 k j = V j) →
    ∃ S', m_X0_totalBatch_30 KK N S k m mask (Int32.ofNat b) gone (Int32.ofNat i) = KK S' k m mask (Int32.ofNat b) gone ∧ (∀ j, j < 24 → S' 18 k j = if cz_K B j b = -2147483648 then V j else V j + cz_K B j b) ∧ py_fr (py_K1 18 k) S S' := by
  intro n
  induction n with
  | zero =>
    intro N i S hN hi hb hv hu
    obtain ⟨N, rfl⟩ : ∃ q, N = q + 1 := ⟨N - 1, by omega⟩
    unfold m_X0_totalBatch_30
    rw [py_jeL (l := 24) (by omega) (by omega), if_pos (show 24 ≤ i by omega)]
    exact ⟨S, rfl, fun j hj => hv j (by omega), py_fr_r⟩
  | succ n ih =>
    intro N i S hN hi hb hv hu
    obtain ⟨N, rfl⟩ : ∃ q, N = q + 1 := ⟨N - 1, by omega⟩
    unfold m_X0_totalBatch_30
    rw [py_jeL (l := 24) (by omega) (by omega), if_neg (show ¬ 24 ≤ i by omega), py_bt_test gone (show i < 32 by omega), hg i (by omega)]
    by_cases e : cz_K B i b = -2147483648
    · rw [if_pos (decide_eq_true e), if_neg py_10, py_l, py_add1]
      obtain ⟨S', a1, a2, a3⟩ := ih N (i + 1) S (by omega) (by omega) hb (fun j hj => by
        by_cases ej : j = i
        · rw [ej, if_pos e]
          exact hu i (by omega) (by omega)
        · exact hv j (by omega)) (fun j h1 h2 => hu j (by omega) h2)
      exact ⟨S', a1, a2, a3⟩
    · rw [if_neg (fun z => e (of_decide_eq_true z)), if_pos rfl, py_ct (py_inb (by omega) (by omega)), pz0_at (by omega) hb5, py_b, py_ct (py_inb (by omega) (by omega)), py_cl (by omega), py_l, py_l, py_add1]
      have e9 : S 18 k i + (if b ≤ i then S 17 k (i - b) else 0) = V i + cz_K B i b := by
        rw [hu i (by omega) (by omega)]
        unfold cz_K at e ⊢
        by_cases eb : b ≤ i
        · rw [if_pos eb, if_pos eb, hb _ (by omega)]
        · rw [if_neg eb] at e
          exact absurd rfl e
      rw [e9]
      generalize hS1 : pw_up S 18 k (upd (S 18 k) i (V i + cz_K B i b)) = S1
      have k1 : ∀ a b, Nat.beq a 18 = false → S1 a b = S a b := fun a b hh => by
        rw [← hS1]
        exact py_up_k _ _ hh
      have s18 : S1 18 k = upd (S 18 k) i (V i + cz_K B i b) := by rw [← hS1, py_up_s]
      have hf1 : py_fr (py_K1 18 k) S S1 := by
        rw [← hS1]
        exact py_fr_r.up (py_K1_s 18 k)
      obtain ⟨S', a1, a2, a3⟩ := ih N (i + 1) S1 (by omega) (by omega) (fun j hj => by rw [k1 17 k rfl, hb j hj]) (fun j hj => by
        rw [s18]
        by_cases ej : j = i
        · rw [ej, py_u_s, if_neg e]
        · rw [py_u_n _ _ ej]
          exact hv j (by omega)) (fun j h1 h2 => by
        rw [s18, py_u_n _ _ (by omega)]
        exact hu j (by omega) h2)
      exact ⟨S', a1, a2, hf1.trans a3⟩
theorem pz0_total_12 {k f kd s w : Nat} {B : Nat → Int32} {m : Int32} (hK : ∀ r d, cz_K B r d = -2147483648 ∨ ∃ t, t < 134217728 ∧ cz_K B r d = Int32.ofNat t) (hm : ∀ r, r < 24 → py_bt m r = decide (B r = -2147483648)) : ∀ (n N i : Nat) (S : pw_S) (mask : Int32), n < N → w = i + n → px_k S k f kd s w → (∀ j, j < 24 → S 17 k j = B j) → (∀ j, j < 24 → S 18 k j = if cz_j 1 (cz_K B j) i = -2147483648 then 0 else cz_j 1 (cz_K B j) i) → (∀ r, r < 24 → py_bt mask r = decide (cz_j 1 (cz_K B r) i = -2147483648)) →
    ∃ S' m', m_X0_totalBatch_12 N S k m mask (Int32.ofNat i) = some (S', m') ∧ (∀ j, j < 24 → S' 18 k j = if cz_j 1 (cz_K B j) w = -2147483648 then 0 else cz_j 1 (cz_K B j) w) ∧ (∀ r, r < 24 → py_bt m' r = decide (cz_j 1 (cz_K B r) w = -2147483648)) ∧ py_fr (py_K1 18 k) S S' := by
  intro n
  induction n with
  | zero =>
    intro N i S mask hN hi h hb hv hk
    obtain ⟨N, rfl⟩ : ∃ q, N = q + 1 := ⟨N - 1, by omega⟩
    obtain ⟨h2, hf, h3, hkd, h4, hs, h5, hw1, hw5⟩ := h
    unfold m_X0_totalBatch_12
    rw [h5, py_je (by omega) (by omega), if_pos (show w ≤ i by omega), show w = i by omega]
    exact ⟨S, mask, rfl, hv, hk, py_fr_r⟩
  | succ n ih =>
    intro N i S mask hN hi h hb hv hk
    obtain ⟨N, rfl⟩ : ∃ q, N = q + 1 := ⟨N - 1, by omega⟩
    have hh := h
    obtain ⟨h2, hf, h3, hkd, h4, hs, h5, hw1, hw5⟩ := hh
    obtain ⟨y, a1, a2⟩ := pz0_shifted S (n := i) (by omega) hm
    unfold m_X0_totalBatch_12
    rw [h5, py_je (by omega) (by omega), if_neg (show ¬ w ≤ i by omega), a1, py_b, py_l, py_l]
    obtain ⟨S1, b1, b2, b3⟩ := pz0_total_30 (k := k) (b := i) (V := fun j => if cz_j 1 (cz_K B j) i = -2147483648 then 0 else cz_j 1 (cz_K B j) i) (by omega) a2 (fun S24 u18 u20 u21 u22 u23 => (pw_l ((u21 &&& u23) : Int32) fun z27 => pw_l (u22 + 1 : Int32) fun z28 => m_X0_totalBatch_12 N S24 u18 u20 z27 z28)) m mask 24 (pw_F 20000) 0 S (by rw [py_F]; omega) rfl hb (fun j hj => absurd hj (Nat.not_lt_zero j)) (fun j _ hj => hv j hj)
    obtain ⟨S', m', c1, c2, c3, c4⟩ := ih N (i + 1) S1 (mask &&& y) (by omega) (by omega) (h.cong (b3 55 k rfl)) (fun j hj => by rw [b3 17 k rfl, hb j hj]) (fun j hj => by
      rw [b2 j hj]
      exact (cz_sumS (hK j) (show i < 5 by omega)).2.symm) (fun r hr => by
      rw [py_bt_and, hk r hr, a2 r hr, ← Bool.decide_and]
      exact decide_eq_decide.mpr (cz_sumS (hK r) (show i < 5 by omega)).1.symm)
    refine ⟨S', m', ?_, c2, c3, b3.trans c4⟩
    rw [← c1, ← py_add1]
    exact b1
/-! the greatest of a window -/
theorem cz_max (a v : Int32) : (if a < v then v else a) = cz_o 2 a v := by
  have hN : ∀ x : Int32, (-2147483648 : Int32).toInt ≤ x.toInt := fun x => by
    have h3 : (-2147483648 : Int32).toInt = -2147483648 := rfl
    have h := Int32.le_toInt x
    omega
  unfold cz_o
  by_cases e1 : v = -2147483648
  · rw [if_pos e1, if_neg (fun z => by
      rw [Int32.lt_iff_toInt_lt, e1] at z
      have := hN a
      omega)]
  · rw [if_neg e1]
    by_cases e2 : a = -2147483648
    · rw [if_pos e2, if_pos (by
        rw [Int32.lt_iff_toInt_lt, e2]
        have := hN v
        have h3 : v.toInt ≠ (-2147483648 : Int32).toInt := fun z => e1 (Int32.toInt.inj z)
        omega)]
    · rw [if_neg e2, if_neg (show ¬ 2 = 1 by decide)]
      by_cases e4 : v ≤ a
      · rw [if_pos e4, if_neg (fun z => by rw [Int32.lt_iff_toInt_lt] at z; rw [Int32.le_iff_toInt_le] at e4; omega)]
      · rw [if_neg e4, if_pos (by rw [Int32.lt_iff_toInt_lt]; rw [Int32.le_iff_toInt_le] at e4; omega)]
theorem cz_maxN (a v : Int32) : cz_o 2 a v = -2147483648 ↔ a = -2147483648 ∧ v = -2147483648 := by
  unfold cz_o
  by_cases e1 : v = -2147483648
  · rw [if_pos e1]
    exact ⟨fun z => ⟨z, e1⟩, fun z => z.1⟩
  · rw [if_neg e1]
    by_cases e2 : a = -2147483648
    · rw [if_pos e2]
      exact ⟨fun z => absurd z e1, fun z => absurd z.2 e1⟩
    · rw [if_neg e2, if_neg (show ¬ 2 = 1 by decide)]
      by_cases e4 : v ≤ a
      · rw [if_pos e4]
        exact ⟨fun z => absurd z e2, fun z => absurd z.1 e2⟩
      · rw [if_neg e4]
        exact ⟨fun z => absurd z e1, fun z => absurd z.1 e2⟩
theorem pz0_great_24 {k b : Nat} {B V : Nat → Int32} (hb5 : b < 1000) (KK : pw_S → Nat → Int32 → Int32 → Int32 → pw_R Int32) (m mask : Int32) : ∀ (n N i : Nat) (S : pw_S), n < N → 24 = i + n → (∀ j, j < 24 → S 17 k j = B j) → (∀ j, j < i → S 18 k j = cz_o 2 (V j) (cz_K B j b)) → (∀ j, i ≤ j → j < 24 → S 18 k j = V j) →
    ∃ S', m_X0_greatestBatch_24 KK N S k m mask (Int32.ofNat b) (Int32.ofNat i) = KK S' k m mask (Int32.ofNat b) ∧ (∀ j, j < 24 → S' 18 k j = cz_o 2 (V j) (cz_K B j b)) ∧ py_fr (py_K1 18 k) S S' := by
  intro n
  induction n with
  | zero =>
    intro N i S hN hi hb hv hu
    obtain ⟨N, rfl⟩ : ∃ q, N = q + 1 := ⟨N - 1, by omega⟩
    unfold m_X0_greatestBatch_24
    rw [py_jeL (l := 24) (by omega) (by omega), if_pos (show 24 ≤ i by omega)]
    exact ⟨S, rfl, fun j hj => hv j (by omega), py_fr_r⟩
  | succ n ih =>
    intro N i S hN hi hb hv hu
    obtain ⟨N, rfl⟩ : ∃ q, N = q + 1 := ⟨N - 1, by omega⟩
    unfold m_X0_greatestBatch_24
    rw [py_jeL (l := 24) (by omega) (by omega), if_neg (show ¬ 24 ≤ i by omega), py_ct (py_inb (by omega) (by omega)), pz0_at (by omega) hb5, py_b, py_ct (py_inb (by omega) (by omega)), py_cl (by omega), py_l, py_l, py_add1]
    have e9 : (if b ≤ i then S 17 k (i - b) else -2147483648) = cz_K B i b := by
      unfold cz_K
      by_cases eb : b ≤ i
      · rw [if_pos eb, if_pos eb, hb _ (by omega)]
      · rw [if_neg eb, if_neg eb]
    rw [e9, cz_max, hu i (by omega) (by omega)]
    generalize hS1 : pw_up S 18 k (upd (S 18 k) i (cz_o 2 (V i) (cz_K B i b))) = S1
    have k1 : ∀ a b, Nat.beq a 18 = false → S1 a b = S a b := fun a b hh => by
      rw [← hS1]
      exact py_up_k _ _ hh
    have s18 : S1 18 k = upd (S 18 k) i (cz_o 2 (V i) (cz_K B i b)) := by rw [← hS1, py_up_s]
    have hf1 : py_fr (py_K1 18 k) S S1 := by
      rw [← hS1]
      exact py_fr_r.up (py_K1_s 18 k)
    obtain ⟨S', a1, a2, a3⟩ := ih N (i + 1) S1 (by omega) (by omega) (fun j hj => by rw [k1 17 k rfl, hb j hj]) (fun j hj => by
      rw [s18]
      by_cases ej : j = i
      · rw [ej, py_u_s]
      · rw [py_u_n _ _ ej]
        exact hv j (by omega)) (fun j h1 h2 => by
      rw [s18, py_u_n _ _ (by omega)]
      exact hu j (by omega) h2)
    exact ⟨S', a1, a2, hf1.trans a3⟩
theorem pz0_great_13 {k f kd s w : Nat} {B : Nat → Int32} {m : Int32} (hm : ∀ r, r < 24 → py_bt m r = decide (B r = -2147483648)) : ∀ (n N i : Nat) (S : pw_S) (mask : Int32), n < N → w = i + n → px_k S k f kd s w → (∀ j, j < 24 → S 17 k j = B j) → (∀ j, j < 24 → S 18 k j = cz_j 2 (cz_K B j) i) → (∀ r, r < 24 → py_bt mask r = decide (cz_j 2 (cz_K B r) i = -2147483648)) →
    ∃ S' m', m_X0_greatestBatch_13 N S k m mask (Int32.ofNat i) = some (S', m') ∧ (∀ j, j < 24 → S' 18 k j = cz_j 2 (cz_K B j) w) ∧ (∀ r, r < 24 → py_bt m' r = decide (cz_j 2 (cz_K B r) w = -2147483648)) ∧ py_fr (py_K1 18 k) S S' := by
  intro n
  induction n with
  | zero =>
    intro N i S mask hN hi h hb hv hk
    obtain ⟨N, rfl⟩ : ∃ q, N = q + 1 := ⟨N - 1, by omega⟩
    obtain ⟨h2, hf, h3, hkd, h4, hs, h5, hw1, hw5⟩ := h
    unfold m_X0_greatestBatch_13
    rw [h5, py_je (by omega) (by omega), if_pos (show w ≤ i by omega), show w = i by omega]
    exact ⟨S, mask, rfl, hv, hk, py_fr_r⟩
  | succ n ih =>
    intro N i S mask hN hi h hb hv hk
    obtain ⟨N, rfl⟩ : ∃ q, N = q + 1 := ⟨N - 1, by omega⟩
    have hh := h
    obtain ⟨h2, hf, h3, hkd, h4, hs, h5, hw1, hw5⟩ := hh
    unfold m_X0_greatestBatch_13
    rw [h5, py_je (by omega) (by omega), if_neg (show ¬ w ≤ i by omega), py_l]
    obtain ⟨S1, b1, b2, b3⟩ := pz0_great_24 (k := k) (b := i) (V := fun j => cz_j 2 (cz_K B j) i) (by omega) (fun S16 u11 u13 u14 u15 => (pw_b (m_X0_shifted S16 u13 u15) fun S19 r22 => pw_l ((u14 &&& r22) : Int32) fun z24 => pw_l (u15 + 1 : Int32) fun z25 => m_X0_greatestBatch_13 N S19 u11 u13 z24 z25)) m mask 24 (pw_F 20000) 0 S (by rw [py_F]; omega) rfl hb (fun j hj => absurd hj (Nat.not_lt_zero j)) (fun j _ hj => hv j hj)
    obtain ⟨y, a1, a2⟩ := pz0_shifted S1 (n := i) (by omega) hm
    obtain ⟨S', m', c1, c2, c3, c4⟩ := ih N (i + 1) S1 (mask &&& y) (by omega) (by omega) (h.cong (b3 55 k rfl)) (fun j hj => by rw [b3 17 k rfl, hb j hj]) (fun j hj => b2 j hj) (fun r hr => by
      rw [py_bt_and, hk r hr, a2 r hr, ← Bool.decide_and]
      exact decide_eq_decide.mpr (cz_maxN _ _).symm)
    refine ⟨S', m', ?_, c2, c3, b3.trans c4⟩
    rw [← c1, ← py_add1]
    refine b1.trans ?_
    show (pw_b (m_X0_shifted S1 m (Int32.ofNat i)) fun S19 r22 => pw_l ((mask &&& r22) : Int32) fun z24 => pw_l (Int32.ofNat i + 1 : Int32) fun z25 => m_X0_greatestBatch_13 N S19 k m z24 z25) = _
    rw [a1, py_b, py_l, py_l]
