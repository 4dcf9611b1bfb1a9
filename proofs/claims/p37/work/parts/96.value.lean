/-! An upgrade in a state, and what it tells. -/
def px_u (S : pw_S) (u : Nat) (L : Nat → List uP) : Prop := (ul L 8).length ≤ 60 ∧ S 57 u 6 = Int32.ofNat (ul L 8).length ∧ (∀ s, s < 8 → S 24 u s = Int32.ofNat (ul L (s + 1)).length) ∧ (∀ j, j < (ul L 8).length → S 22 u j = ((ul L 8).getD j (0, 0)).1 ∧ S 23 u j = ((ul L 8).getD j (0, 0)).2) ∧ ∀ s, s < 8 → L s = [] ∨ (uwf (L s) ∧ ∀ p, p ∈ L s → p.1 = 0 → ∃ t, t < 8 ∧ p.2 = Int32.ofNat t)
theorem px_u.cong {S S' : pw_S} {u : Nat} {L : Nat → List uP} (h : px_u S u L) (h22 : S' 22 u = S 22 u) (h23 : S' 23 u = S 23 u) (h24 : S' 24 u = S 24 u) (h57 : S' 57 u = S 57 u) : px_u S' u L := by
  unfold px_u
  rw [h22, h23, h24, h57]
  exact h
theorem pu_len {S : pw_S} {u : Nat} {L : Nat → List uP} (h : px_u S u L) {s : Nat} (hs : s ≤ 8) : (ul L s).length ≤ 60 := Nat.le_trans (ul_le hs) h.1
theorem pu_end {S : pw_S} {u : Nat} {L : Nat → List uP} (h : px_u S u L) {s : Nat} (hs : s < 8) : m_X9_end S u (Int32.ofNat s) = some (S, Int32.ofNat (ul L (s + 1)).length) := by
  unfold m_X9_end
  rw [py_atI _ _ _ _ _ (show s < 8 from hs), py_b, h.2.2.1 s hs]
theorem pu_start {S : pw_S} {u : Nat} {L : Nat → List uP} (h : px_u S u L) {s : Nat} (hs : s < 8) : m_X9_start S u (Int32.ofNat s) = some (S, Int32.ofNat (ul L s).length) := by
  unfold m_X9_start
  cases s with
  | zero =>
    rw [if_pos (show Int32.ofNat 0 = 0 from rfl)]
    rfl
  | succ s => rw [if_neg (fun z => by have := (py_eq (a := s + 1) (b := 0) (by omega) (by omega)).mp z; omega), show Int32.ofNat (s + 1) - 1 = Int32.ofNat s from py_sub (a := s + 1) (b := 1) (by omega), pu_end h (by omega), py_b]
theorem pu_kind {S : pw_S} {u : Nat} {L : Nat → List uP} (h : px_u S u L) {s i : Nat} (hs : s < 8) (hi : i < (L s).length) : m_X9_kind S u (Int32.ofNat ((ul L s).length + i)) = some (S, ((L s).getD i (0, 0)).1) := by
  obtain ⟨a1, a2⟩ := ul_get (n := 8) hs hi
  have h60 := h.1
  unfold m_X9_kind
  rw [h.2.1, py_je (by omega) (by omega), if_neg (show ¬ (ul L 8).length ≤ (ul L s).length + i by omega), py_atI _ _ _ _ _ (show (ul L s).length + i < 60 by omega), py_b, (h.2.2.2.1 _ a2).1, a1]
theorem pu_number {S : pw_S} {u : Nat} {L : Nat → List uP} (h : px_u S u L) {s i : Nat} (hs : s < 8) (hi : i < (L s).length) : m_X9_number S u (Int32.ofNat ((ul L s).length + i)) = some (S, ((L s).getD i (0, 0)).2) := by
  obtain ⟨a1, a2⟩ := ul_get (n := 8) hs hi
  have h60 := h.1
  unfold m_X9_number
  rw [py_atI _ _ _ _ _ (show (ul L s).length + i < 60 by omega), py_b, (h.2.2.2.1 _ a2).2, a1]
/-! the stack -/
def px_st (S : pw_S) (u : Nat) (st : List Int32) : Prop := ∀ i, i < st.length → S 25 u (st.length - 1 - i) = st.getD i (-2147483648)
theorem px_st.tail {S : pw_S} {u : Nat} {a : Int32} {t : List Int32} (h : px_st S u (a :: t)) : px_st S u t := fun i hi => by
  have h2 := h (i + 1) (by rw [List.length_cons]; omega)
  rw [List.length_cons, show t.length + 1 - 1 - (i + 1) = t.length - 1 - i by omega] at h2
  rw [h2]
  rfl
theorem px_st.head {S : pw_S} {u : Nat} {a : Int32} {t : List Int32} (h : px_st S u (a :: t)) : S 25 u t.length = a := by
  have h2 := h 0 (by rw [List.length_cons]; omega)
  rw [List.length_cons, show t.length + 1 - 1 - 0 = t.length by omega] at h2
  rw [h2]
  rfl
theorem px_st.push {S : pw_S} {u : Nat} {t : List Int32} (h : px_st S u t) (v : Int32) : px_st (pw_up S 25 u (upd (S 25 u) t.length v)) u (v :: t) := fun i hi => by
  rw [py_up_s, List.length_cons]
  cases i with
  | zero =>
    rw [show t.length + 1 - 1 - 0 = t.length by omega, py_u_s]
    rfl
  | succ i =>
    rw [List.length_cons] at hi
    rw [show t.length + 1 - 1 - (i + 1) = t.length - 1 - i by omega, py_u_n _ _ (by omega), h i (by omega)]
    rfl
theorem pu_fitted (S : pw_S) (x : Int64) : m_X9_fitted S x = some (S, uf x) := by
  unfold m_X9_fitted uf
  by_cases h : (lg_cmp x (-2147483648)) < 0
  · rw [if_pos h, if_pos h]
  · rw [if_neg h, if_neg h]
    by_cases h2 : (lg_cmp x 2147483647) ≤ 0
    · rw [if_pos h2, if_pos h2]
    · rw [if_neg h2, if_neg h2]
theorem pu_joined (S : pw_S) (a b : Int32) : m_X9_joined S a b = some (S, uj a b) := by
  unfold m_X9_joined uj
  by_cases h : a = -2147483648
  · rw [if_pos h, if_pos h]
  · rw [if_neg h, if_neg h]
    by_cases h2 : b = -2147483648
    · rw [if_pos h2, if_pos h2]
    · rw [if_neg h2, if_neg h2, pu_fitted, py_b]
theorem py_nz {n : Int32} (h : 1 ≤ n) : (!decide (n = 0)) = true := by
  rw [decide_eq_false]
  · rfl
  · intro z
    rw [z] at h
    revert h
    decide
theorem pu_floorDiv (S : pw_S) {a n : Int32} (h : 1 ≤ n) : m_J9_floorDiv_7cf53 S a n = some (S, ufd a n) := by
  unfold m_J9_floorDiv_7cf53 ufd
  rw [py_ct (py_nz h), py_l]
  by_cases h1 : 0 ≤ (a ^^^ n)
  · rw [if_pos h1, if_pos h1]
  · rw [if_neg h1, if_neg h1]
    by_cases h2 : a / n * n = a
    · rw [if_pos h2, if_pos h2]
    · rw [if_neg h2, if_neg h2]
theorem pu_floorMod (S : pw_S) {a n : Int32} (h : 1 ≤ n) : m_J9_floorMod_7cf53 S a n = some (S, ufm a n) := by
  unfold m_J9_floorMod_7cf53 ufm
  rw [py_ct (py_nz h), py_l]
  by_cases h1 : 0 ≤ (a ^^^ n)
  · rw [if_pos h1, if_pos h1]
  · rw [if_neg h1, if_neg h1]
    by_cases h2 : a - a / n * n = 0
    · rw [if_pos h2, if_pos h2]
    · rw [if_neg h2, if_neg h2]
theorem pu_worked (S : pw_S) (k n v : Int32) : m_X9_worked S k n v = some (S, uw k n v) := by
  unfold m_X9_worked uw
  by_cases h : v = -2147483648
  · rw [if_pos h, if_pos h]
  · rw [if_neg h, if_neg h]
    by_cases h2 : k = 2
    · rw [if_pos h2, if_pos h2, pu_fitted, py_b]
    · rw [if_neg h2, if_neg h2]
      by_cases h3 : k = 3
      · rw [if_pos h3, if_pos h3, pu_fitted, py_b]
      · rw [if_neg h3, if_neg h3]
        by_cases h1 : 1 ≤ n
        · rw [if_pos h1, if_pos h1]
          by_cases h5 : k = 5
          · rw [if_pos h5, if_pos h5, pu_floorDiv S h1, py_b]
          · rw [if_neg h5, if_neg h5, pu_floorMod S h1, py_b]
        · rw [if_neg h1, if_neg h1]
/-- the record, by a slot's number -/
def ur (S : pw_S) : Int32 → Int32 := fun n => S 35 0 (n.toNatClampNeg * 3)
theorem pu_lp_lt {a : Nat} (ha : a < 1000) : py_lp a < Int32.ofNat a := by
  cases a with
  | zero => decide
  | succ a =>
    rw [show py_lp (a + 1) = Int32.ofNat a from rfl, py_lt (by omega) (by omega)]
    omega
theorem pu_at {S : pw_S} {u k : Nat} (hk : k < 60) : m_X11_at S 25 u (Int32.ofNat k) (-2147483648) = some (S, S 25 u k) := py_atI _ _ _ _ _ hk
theorem pu_val {u s : Nat} {L : Nat → List uP} {R : Int32 → Int32} (hs : s < 8) (hw : ∃ x, ue R (L s) = some x) : ∀ (n N : Nat) (S : pw_S) (st : List Int32), n < N → n ≤ (L s).length → px_u S u L → ur S = R → ue R ((L s).drop n) = some st → px_st S u st →
    ∃ S', m_X9_valueFor_11 N S u (Int32.ofNat s) 35 0 (Int32.ofNat st.length) (py_lp ((ul L s).length + n)) = some (S', uv R (L s)) ∧ py_fr (py_K1 25 u) S S' := by
  intro n
  induction n with
  | zero =>
    intro N S st hN hn h hR hst hpx
    obtain ⟨N, rfl⟩ : ∃ q, N = q + 1 := ⟨N - 1, by omega⟩
    have hl := pu_len h (show s ≤ 8 by omega)
    rw [List.drop_zero] at hst
    have hsl := ue_len _ _ hst
    have hL := (ul_le (L := L) (show s + 1 ≤ 8 by omega))
    have hL2 : (ul L (s + 1)).length = (ul L s).length + (L s).length := by
      show (ul L s ++ L s).length = _
      rw [List.length_append]
    have h60 := h.1
    unfold m_X9_valueFor_11 uv
    rw [pu_start h hs, py_b, Nat.add_zero, if_pos (pu_lp_lt (by omega)), hst]
    cases st with
    | nil =>
      rw [if_neg (show ¬ Int32.ofNat ([] : List Int32).length = 1 by decide)]
      exact ⟨S, rfl, py_fr_r⟩
    | cons a t =>
      cases t with
      | nil =>
        have ha := hpx.head
        rw [if_pos (show Int32.ofNat [a].length = 1 from rfl), show (0 : Int32) = Int32.ofNat 0 from rfl, pu_at (by omega), py_b]
        refine ⟨S, ?_, py_fr_r⟩
        rw [show S 25 u 0 = a from ha]
        rfl
      | cons b t =>
        rw [if_neg (fun z => by
          have := (py_eq (a := (a :: b :: t).length) (b := 1) (by omega) (by omega)).mp z
          rw [List.length_cons, List.length_cons] at this
          omega)]
        exact ⟨S, rfl, py_fr_r⟩
  | succ n ih =>
    intro N S st hN hn h hR hst hpx
    obtain ⟨N, rfl⟩ : ∃ q, N = q + 1 := ⟨N - 1, by omega⟩
    have hl := pu_len h (show s ≤ 8 by omega)
    have hsl := ue_len _ _ hst
    rw [List.length_drop] at hsl
    have hL := (ul_le (L := L) (show s + 1 ≤ 8 by omega))
    have hL2 : (ul L (s + 1)).length = (ul L s).length + (L s).length := by
      show (ul L s ++ L s).length = _
      rw [List.length_append]
    have h60 := h.1
    have hd : (L s).drop n = (L s).getD n (0, 0) :: (L s).drop (n + 1) := by
      rw [List.drop_eq_getElem_cons (show n < (L s).length by omega), List.getD_eq_getElem?_getD, List.getElem?_eq_getElem (show n < (L s).length by omega)]
      rfl
    obtain ⟨x, hx⟩ := hw
    obtain ⟨st', hst'⟩ := ue_drop hx n
    have hst2 := hst'
    rw [hd] at hst2
    obtain ⟨st0, b1, b2⟩ := ue_some hst2
    rw [hst] at b1
    rw [← Option.some.inj b1] at b2
    have hmem : (L s).getD n (0, 0) ∈ L s := by
      rw [List.getD_eq_getElem?_getD, List.getElem?_eq_getElem (show n < (L s).length by omega)]
      exact List.getElem_mem _
    have fin : ∀ (v : Int32) (t : List Int32), st' = v :: t → px_st S u t → t.length < 60 → ∃ S', (pw_b (m_X11_put S 25 u (Int32.ofNat t.length) v) fun S41 r44 => pw_l (Int32.ofNat ((ul L s).length + n) + (-1) : Int32) fun z46 => m_X9_valueFor_11 N S41 u (Int32.ofNat s) 35 0 (Int32.ofNat (t.length + 1)) z46) = some (S', uv R (L s)) ∧ py_fr (py_K1 25 u) S S' := by
      intro v t e1 e2 e3
      rw [py_putI _ _ _ _ _ (show t.length < 60 from e3), py_b, py_l, py_lp_dec]
      have f1 : py_fr (py_K1 25 u) S (pw_up S 25 u (upd (S 25 u) t.length v)) := py_fr_r.up (py_K1_s 25 u)
      obtain ⟨S', c1, c2⟩ := ih N (pw_up S 25 u (upd (S 25 u) t.length v)) (v :: t) (by omega) (by omega) (h.cong (f1 22 u rfl) (f1 23 u rfl) (f1 24 u rfl) (f1 57 u rfl)) (by
        rw [← hR]
        unfold ur
        rw [f1 35 0 rfl]) (by rw [hst', e1]) (e2.push v)
      exact ⟨S', c1, f1.trans c2⟩
    have hlp : py_lp ((ul L s).length + (n + 1)) = Int32.ofNat ((ul L s).length + n) := rfl
    rw [m_X9_valueFor_11.eq_2, pu_start h hs, py_b, hlp, py_jl (by omega) (by omega), if_neg (show ¬ (ul L s).length + n < (ul L s).length by omega), pu_kind h hs (by omega), py_b, py_l]
    have z1 : ∀ m : Nat, Int32.ofNat (m + 1) - 1 = Int32.ofNat m := fun m => py_sub (a := m + 1) (b := 1) (by omega)
    rcases uo_cases b2 with ⟨h0, e⟩ | ⟨h1, e⟩ | ⟨h4, a, b, t, e1, e⟩ | ⟨h0, h1, h4, a, t, e1, e⟩
    · have hn4 : ¬ ((L s).getD n (0, 0)).1 = 4 := by rw [h0]; decide
      have hslot : ∃ t, t < 8 ∧ ((L s).getD n (0, 0)).2 = Int32.ofNat t := by
        rcases h.2.2.2.2 s hs with z | z
        · rw [z] at hmem
          cases hmem
        · exact z.2 _ hmem h0
      obtain ⟨t8, t81, t82⟩ := hslot
      rw [if_pos h0, py_l, py_add1, if_neg hn4, z1, pu_at (by omega), py_b, py_l, if_pos h0, pu_number h hs (by omega), py_b, t82, py_cp0, py_b, py_atI _ _ _ _ _ (show t8 * 3 < 24 by omega), py_b, py_l]
      refine fin _ st ?_ hpx (by omega)
      rw [e, t82, ← hR]
      unfold ur
      rw [py_cl (by omega)]
    · have hn0 : ¬ ((L s).getD n (0, 0)).1 = 0 := by rw [h1]; decide
      have hn4 : ¬ ((L s).getD n (0, 0)).1 = 4 := by rw [h1]; decide
      rw [if_neg hn0, if_pos h1, py_l, py_add1, if_neg hn4, z1, pu_at (by omega), py_b, py_l, if_neg hn0, if_pos h1, pu_number h hs (by omega), py_b, py_l]
      exact fin _ st e hpx (by omega)
    · have hn0 : ¬ ((L s).getD n (0, 0)).1 = 0 := by rw [h4]; decide
      have hn1 : ¬ ((L s).getD n (0, 0)).1 = 1 := by rw [h4]; decide
      subst e1
      have hp2 := hpx.tail
      simp only [List.length_cons] at hsl ⊢
      rw [if_neg hn0, if_neg hn1, if_pos h4, show Int32.ofNat (t.length + 1 + 1) + (-1) = Int32.ofNat (t.length + 1) from py_lp_dec _, py_l, z1, pu_at (show t.length < 60 by omega), py_b, py_l, if_neg hn0, if_neg hn1, if_pos h4, pu_at (show t.length + 1 < 60 by omega), py_b, show S 25 u (t.length + 1) = a from hpx.head, hp2.head, pu_joined, py_b, py_l]
      exact fin _ t e hp2.tail (by omega)
    · subst e1
      simp only [List.length_cons] at hsl ⊢
      rw [if_neg h0, if_neg h1, if_neg h4, z1, pu_at (show t.length < 60 by omega), py_b, py_l, if_neg h0, if_neg h1, if_neg h4, pu_number h hs (by omega), py_b, hpx.head, pu_worked, py_b, py_l]
      exact fin _ t e hpx.tail (by omega)
theorem pu_valueFor {S : pw_S} {u s : Nat} {L : Nat → List uP} (h : px_u S u L) (hs : s < 8) : ∃ S', m_X9_valueFor S u (Int32.ofNat s) 35 0 = some (S', uv (ur S) (L s)) ∧ py_fr (py_K1 25 u) S S' := by
  have hw : ∃ x, ue (ur S) (L s) = some x := by
    rcases h.2.2.2.2 s hs with z | z
    · rw [z]
      exact ⟨_, rfl⟩
    · exact ⟨_, z.1.e _⟩
  have hL2 : (ul L (s + 1)).length = (ul L s).length + (L s).length := by
    show (ul L s ++ L s).length = _
    rw [List.length_append]
  have hl := pu_len h (show s + 1 ≤ 8 by omega)
  obtain ⟨S', a1, a2⟩ := pu_val hs hw (L s).length (pw_F 20000) S [] (by rw [py_F]; omega) (Nat.le_refl _) h rfl (by
    rw [List.drop_length]
    rfl) (fun i hi => absurd hi (Nat.not_lt_zero i))
  refine ⟨S', ?_, a2⟩
  unfold m_X9_valueFor
  rw [py_l, pu_end h hs, py_b, hL2]
  have e : Int32.ofNat ((ul L s).length + (L s).length) - 1 = py_lp ((ul L s).length + (L s).length) := by
    rw [← py_lp_dec, Int32.sub_eq_add_neg]
  rw [e, py_l]
  exact a1
/-- the upgrades -/
def px_U (S : pw_S) (nu : Nat) (Ls : Nat → Nat → List uP) : Prop := S 61 0 13 = Int32.ofNat nu ∧ nu ≤ 8 ∧ ∀ u, u < nu → px_u S u (Ls u)
theorem pm_upgradeOf {S : pw_S} {nu u : Nat} (hn : S 61 0 13 = Int32.ofNat nu) (h8 : nu ≤ 8) (hu : u < nu) : m_X11_upgradeOf S 0 (Int32.ofNat u) = some (S, some u) := by
  unfold m_X11_upgradeOf
  rw [py_jn (by omega), hn, py_je (by omega) (by omega), if_neg (show ¬ nu ≤ u by omega), py_jeL (l := 8) (by omega) (by omega), if_neg (show ¬ 8 ≤ u by omega), py_ct (py_inb (by omega) (by omega)), pk_dn (by omega) (by omega)]
theorem pm_nextUpgrade {S : pw_S} {nu : Nat} (hn : S 61 0 13 = Int32.ofNat nu) (h8 : nu < 8) : m_X11_nextUpgrade S 0 = some (S, some nu) := by
  unfold m_X11_nextUpgrade
  rw [hn, py_jn (by omega), py_jeL (l := 8) (by omega) (by omega), if_neg (show ¬ 8 ≤ nu by omega), py_ct (py_inb (by omega) (by omega)), pk_dn (by omega) (by omega)]
theorem pm_upgraded {S : pw_S} {nu u s : Nat} {Ls : Nat → Nat → List uP} (hU : px_U S nu Ls) (hu : u < nu) (hs : s < 8) : ∃ S', m_X11_upgraded S 0 (Int32.ofNat u) (Int32.ofNat s) = some (S', .inl (uv (ur S) (Ls u s))) ∧ py_fr (py_K1 25 u) S S' := by
  obtain ⟨S', a1, a2⟩ := pu_valueFor (hU.2.2 u hu) hs
  refine ⟨S', ?_, a2⟩
  unfold m_X11_upgraded
  rw [pm_upgradeOf hU.1 hU.2.1 hu, py_b, py_os, py_slot S s (by omega), py_b, if_pos hs, if_neg py_10, a1, py_b]
