/-! Items and traces in the abstract: how a record is gone through. -/
abbrev py_I : Type := Nat × (Nat → Nat) × (Nat → Nat) × (Nat → Nat) × (Nat → Nat)
abbrev pi_n (I : py_I) : Nat := I.1
abbrev pi_k (I : py_I) : Nat → Nat := I.2.1
abbrev pi_a (I : py_I) : Nat → Nat := I.2.2.1
abbrev pi_b (I : py_I) : Nat → Nat := I.2.2.2.1
abbrev pi_c (I : py_I) : Nat → Nat := I.2.2.2.2
/-- a kind with a slot of its own -/
abbrev pi_hs (k : Nat) : Prop := k ≤ 3 ∨ k = 6
/-- what is asked of a description's items -/
def pi_ok (I : py_I) : Prop := (0 < pi_n I ∧ pi_n I ≤ 6 ∧ pi_k I 0 ≠ 7 ∧ pi_k I 0 ≠ 8) ∧
  (∀ k, k < pi_n I → pi_k I k ≤ 9 ∧ (pi_k I k ≠ 4 → pi_k I k ≠ 5 → pi_a I k < 8)) ∧
  (∀ k j, k < pi_n I → j < pi_n I → pi_hs (pi_k I k) → pi_hs (pi_k I j) → pi_a I k = pi_a I j → k = j) ∧
  (∀ k, k < pi_n I → pi_k I k = 7 ∨ pi_k I k = 8 → 1 ≤ pi_b I k ∧ pi_b I k ≤ 3 ∧ k + pi_b I k < pi_n I ∧ ∀ j, k < j → j ≤ k + pi_b I k → pi_k I j ≠ 7 ∧ pi_k I j ≠ 8)
/-- the loop in which an item lies, counted from 1; 0 if it lies in none -/
def pi_lo' (I : py_I) (k : Nat) : Nat → Nat
  | 0 => 0
  | m + 1 => if pi_k I m = 7 ∧ m < k ∧ k ≤ m + pi_b I m then m + 1 else pi_lo' I k m
def pi_lo (I : py_I) (k : Nat) : Nat := pi_lo' I k k
theorem pi_lo'_pos {I : py_I} {k : Nat} : ∀ {m l : Nat}, pi_lo' I k m = l + 1 → pi_k I l = 7 ∧ l < k ∧ k ≤ l + pi_b I l ∧ l < m := by
  intro m
  induction m with
  | zero => intro l h; cases h
  | succ m ih =>
    intro l h
    unfold pi_lo' at h
    split at h
    · rename_i hc
      obtain rfl : m = l := by omega
      exact ⟨hc.1, hc.2.1, hc.2.2, by omega⟩
    · obtain ⟨h1, h2, h3, h4⟩ := ih h
      exact ⟨h1, h2, h3, by omega⟩
theorem pi_lo'_none {I : py_I} {k : Nat} : ∀ {m : Nat}, pi_lo' I k m = 0 → ∀ l, l < m → pi_k I l = 7 → l < k → l + pi_b I l < k := by
  intro m
  induction m with
  | zero => intro _ l h; omega
  | succ m ih =>
    intro h l hl hk hlk
    unfold pi_lo' at h
    split at h
    · omega
    · rename_i hc
      by_cases hm : l = m
      · subst hm
        by_cases h9 : k ≤ l + pi_b I l
        · exact absurd ⟨hk, hlk, h9⟩ hc
        · omega
      · exact ih h l (by omega) hk hlk
theorem pi_lo_pos {I : py_I} {k l : Nat} (h : pi_lo I k = l + 1) : pi_k I l = 7 ∧ l < k ∧ k ≤ l + pi_b I l := by
  obtain ⟨h1, h2, h3, h4⟩ := pi_lo'_pos h
  exact ⟨h1, h2, h3⟩
theorem pi_lo_none {I : py_I} {k : Nat} (h : pi_lo I k = 0) : ∀ l, l < k → pi_k I l = 7 → l + pi_b I l < k := fun l hl hk => pi_lo'_none h l hl hk hl
theorem pi_lo_zero {I : py_I} {k : Nat} (h : ∀ l, l < k → pi_k I l = 7 → l + pi_b I l < k) : pi_lo I k = 0 := by
  cases hz : pi_lo I k with
  | zero => rfl
  | succ l =>
    obtain ⟨h1, h2, h3⟩ := pi_lo_pos hz
    have := h l h2 h1
    omega
theorem pi_lo_some {I : py_I} (hI : pi_ok I) {k l : Nat} (hl : l < pi_n I) (h7 : pi_k I l = 7) (h1 : l < k) (h2 : k ≤ l + pi_b I l) : pi_lo I k = l + 1 := by
  obtain ⟨-, -, -, hb⟩ := hI
  cases hz : pi_lo I k with
  | zero =>
    have := pi_lo_none hz l h1 h7
    omega
  | succ m =>
    obtain ⟨g1, g2, g3⟩ := pi_lo_pos hz
    obtain ⟨b1, b2, b3, b4⟩ := hb l hl (Or.inl h7)
    obtain ⟨c1, c2, c3, c4⟩ := hb m (by omega) (Or.inl g1)
    by_cases e : m = l
    · rw [e]
    · by_cases e2 : m < l
      · exact absurd h7 (c4 l e2 (by omega)).1
      · exact absurd g1 (b4 m (by omega) (by omega)).1
theorem pi_lo_em {I : py_I} (hI : pi_ok I) {k : Nat} (hk : k < pi_n I) (he : pi_k I k = 7 ∨ pi_k I k = 8) : pi_lo I k = 0 := by
  obtain ⟨-, -, -, hb⟩ := hI
  cases hz : pi_lo I k with
  | zero => rfl
  | succ m =>
    obtain ⟨g1, g2, g3⟩ := pi_lo_pos hz
    obtain ⟨c1, c2, c3, c4⟩ := hb m (by omega) (Or.inl g1)
    obtain ⟨d1, d2⟩ := c4 k g2 g3
    rcases he with h | h
    · exact absurd h d1
    · exact absurd h d2
theorem pi_lo_n {I : py_I} (hI : pi_ok I) : pi_lo I (pi_n I) = 0 := by
  obtain ⟨-, -, -, hb⟩ := hI
  exact pi_lo_zero fun l hl h7 => (hb l hl (Or.inl h7)).2.2.1
theorem pi_lo_next {I : py_I} {k : Nat} (h : pi_lo I k = 0) (h7 : pi_k I k ≠ 7) : pi_lo I (k + 1) = 0 := pi_lo_zero fun l hl hk => by
  by_cases e : l = k
  · subst e
    exact absurd hk h7
  · have := pi_lo_none h l (by omega) hk
    omega
/-- behind the items that a LOOP or a CASE has -/
theorem pi_lo_skip {I : py_I} (hI : pi_ok I) {k : Nat} (hk : k < pi_n I) (he : pi_k I k = 7 ∨ pi_k I k = 8) : pi_lo I (k + (1 + pi_b I k)) = 0 := by
  have h0 := pi_lo_em hI hk he
  obtain ⟨-, -, -, hb⟩ := hI
  obtain ⟨b1, b2, b3, b4⟩ := hb k hk he
  refine pi_lo_zero fun l hl h7 => ?_
  by_cases e1 : l < k
  · have := pi_lo_none h0 l e1 h7
    omega
  · by_cases e2 : l = k
    · subst e2
      omega
    · exact absurd h7 (b4 l (by omega) (by omega)).1
/-- where an item with its round stands in the way through a record -/
def pi_rk (I : py_I) (k r : Nat) : Nat := if pi_lo I k = 0 then 13 * k else 13 * (pi_lo I k - 1) + 4 * r + (k - (pi_lo I k - 1))
theorem pi_rk_le {I : py_I} (hI : pi_ok I) {k r : Nat} (hk : k ≤ pi_n I) (hr : r < 3) : pi_rk I k r ≤ 13 * pi_n I := by
  unfold pi_rk
  split
  · omega
  · rename_i h
    obtain ⟨l, hl⟩ : ∃ l, pi_lo I k = l + 1 := ⟨pi_lo I k - 1, by omega⟩
    obtain ⟨g1, g2, g3⟩ := pi_lo_pos hl
    obtain ⟨c1, c2, c3, c4⟩ := hI.2.2.2 l (by omega) (Or.inl g1)
    rw [hl]
    omega
/-! Traces: values, places where slots begin, item, loop (from 1), times, round, length, digits, their sum. -/
abbrev py_T : Type := (Nat → Int32) × (Nat → Int32) × Nat × Nat × Nat × Nat × Nat × Nat × Nat
abbrev pt_v (T : py_T) : Nat → Int32 := T.1
abbrev pt_s (T : py_T) : Nat → Int32 := T.2.1
abbrev pt_it (T : py_T) : Nat := T.2.2.1
abbrev pt_lp (T : py_T) : Nat := T.2.2.2.1
abbrev pt_tm (T : py_T) : Nat := T.2.2.2.2.1
abbrev pt_rd (T : py_T) : Nat := T.2.2.2.2.2.1
abbrev pt_ln (T : py_T) : Nat := T.2.2.2.2.2.2.1
abbrev pt_dg (T : py_T) : Nat := T.2.2.2.2.2.2.2.1
abbrev pt_sm (T : py_T) : Nat := T.2.2.2.2.2.2.2.2
def pt_0 : py_T := (fun _ => -2147483648, fun _ => -1, 0, 0, 0, 0, 0, 0, 0)
def pt_fin (I : py_I) (T : py_T) : py_T :=
  if pt_lp T = 0 then (pt_v T, pt_s T, pt_it T + 1, 0, pt_tm T, pt_rd T, pt_ln T, pt_dg T, pt_sm T)
  else if pt_it T + 1 ≤ pt_lp T - 1 + pi_b I (pt_lp T - 1) then (pt_v T, pt_s T, pt_it T + 1, pt_lp T, pt_tm T, pt_rd T, pt_ln T, pt_dg T, pt_sm T)
  else if pt_rd T + 1 < pt_tm T then (pt_v T, pt_s T, pt_lp T - 1 + 1, pt_lp T, pt_tm T, pt_rd T + 1, pt_ln T, pt_dg T, pt_sm T)
  else (pt_v T, pt_s T, pt_it T + 1, 0, 0, 0, pt_ln T, pt_dg T, pt_sm T)
def pt_ent (I : py_I) (T : py_T) : py_T :=
  if pi_k I (pt_it T) = 7 then
    if 1 ≤ pt_v T (pi_a I (pt_it T) * 3) ∧ pt_v T (pi_a I (pt_it T) * 3) ≤ 3 then (pt_v T, pt_s T, pt_it T + 1, pt_it T + 1, (pt_v T (pi_a I (pt_it T) * 3)).toNatClampNeg, 0, pt_ln T, pt_dg T, pt_sm T)
    else (pt_v T, pt_s T, pt_it T + (1 + pi_b I (pt_it T)), pt_lp T, pt_tm T, pt_rd T, pt_ln T, pt_dg T, pt_sm T)
  else if pt_v T (pi_a I (pt_it T) * 3) = Int32.ofNat (pi_c I (pt_it T)) then (pt_v T, pt_s T, pt_it T + 1, pt_lp T, pt_tm T, pt_rd T, pt_ln T, pt_dg T, pt_sm T)
  else (pt_v T, pt_s T, pt_it T + (1 + pi_b I (pt_it T)), pt_lp T, pt_tm T, pt_rd T, pt_ln T, pt_dg T, pt_sm T)
def py_dig (u : Int32) : Prop := 48 ≤ u ∧ u ≤ 57
def pt_app (T : py_T) (u : Int32) : py_T :=
  if 48 ≤ u ∧ u ≤ 57 then (pt_v T, pt_s T, pt_it T, pt_lp T, pt_tm T, pt_rd T, pt_ln T + 1, pt_dg T + 1, pt_sm T + (if (pt_dg T + 1) % 2 = 1 then 1 else 3) * (u.toNatClampNeg - 48))
  else (pt_v T, pt_s T, pt_it T, pt_lp T, pt_tm T, pt_rd T, pt_ln T + 1, pt_dg T, pt_sm T)
def pt_keep (T : py_T) (s : Nat) (x : Int32) : py_T := (upd (pt_v T) (s * 3 + pt_rd T) x, pt_s T, pt_it T, pt_lp T, pt_tm T, pt_rd T, pt_ln T, pt_dg T, pt_sm T)
def pt_beg (T : py_T) (s : Nat) : py_T := if pt_s T s < 0 then (pt_v T, upd (pt_s T) s (Int32.ofNat (pt_ln T)), pt_it T, pt_lp T, pt_tm T, pt_rd T, pt_ln T, pt_dg T, pt_sm T) else T
/-- where a trace stands -/
def pt_pos (I : py_I) (T : py_T) : Prop := pt_it T ≤ pi_n I ∧ pt_lp T = pi_lo I (pt_it T) ∧ (pt_lp T = 0 → pt_rd T = 0 ∧ pt_tm T = 0) ∧ (pt_lp T ≠ 0 → pt_rd T < pt_tm T ∧ pt_tm T ≤ 3)
abbrev pt_rk (I : py_I) (T : py_T) : Nat := pi_rk I (pt_it T) (pt_rd T)
theorem pt_pos.rd {I : py_I} {T : py_T} (h : pt_pos I T) : pt_rd T < 3 ∧ pt_tm T ≤ 3 := by
  obtain ⟨h1, h2, h3, h4⟩ := h
  by_cases e : pt_lp T = 0
  · have := h3 e
    omega
  · have := h4 e
    omega
theorem pt_0_pos {I : py_I} (hI : pi_ok I) : pt_pos I pt_0 := ⟨Nat.zero_le _, (pi_lo_zero (k := 0) (fun l hl => absurd hl (Nat.not_lt_zero l))).symm, fun _ => ⟨rfl, rfl⟩, fun h => absurd rfl h⟩
theorem pt_fin_pos {I : py_I} (hI : pi_ok I) {T : py_T} (h : pt_pos I T) (hn : pt_it T < pi_n I) (h7 : pi_k I (pt_it T) ≠ 7 ∧ pi_k I (pt_it T) ≠ 8) : pt_pos I (pt_fin I T) ∧ pt_rk I T < pt_rk I (pt_fin I T) := by
  obtain ⟨V, st, it, lp, tm, rd, ln, dg, sm⟩ := T
  obtain ⟨h1, h2, h3, h4⟩ := h
  dsimp only [pt_it, pt_lp, pt_tm, pt_rd] at h1 h2 h3 h4 hn h7
  unfold pt_fin
  dsimp only [pt_it, pt_lp, pt_tm, pt_rd, pt_v, pt_s, pt_ln, pt_dg, pt_sm]
  by_cases e : lp = 0
  · rw [if_pos e]
    have hl := pi_lo_next (I := I) (k := it) (by omega) h7.1
    refine ⟨⟨by show it + 1 ≤ _; omega, hl.symm, fun _ => h3 e, fun z => absurd rfl z⟩, ?_⟩
    show pi_rk I it rd < pi_rk I (it + 1) rd
    unfold pi_rk
    rw [hl, if_pos rfl, if_pos (by omega)]
    omega
  · rw [if_neg e]
    obtain ⟨l, rfl⟩ : ∃ l, lp = l + 1 := ⟨lp - 1, by omega⟩
    obtain ⟨g1, g2, g3⟩ := pi_lo_pos h2.symm
    obtain ⟨b1, b2, b3, b4⟩ := hI.2.2.2 l (by omega) (Or.inl g1)
    have hr : pi_rk I it rd = 13 * l + 4 * rd + (it - l) := by
      unfold pi_rk
      rw [← h2, if_neg (by omega)]
      rfl
    obtain ⟨r1, r2⟩ := h4 (by omega)
    simp only [Nat.add_sub_cancel]
    by_cases e2 : it + 1 ≤ l + pi_b I l
    · rw [if_pos e2]
      have hl := pi_lo_some hI (k := it + 1) (l := l) (by omega) g1 (by omega) e2
      refine ⟨⟨by show it + 1 ≤ _; omega, hl.symm, fun z => absurd z (Nat.succ_ne_zero _), fun _ => ⟨r1, r2⟩⟩, ?_⟩
      show pi_rk I it rd < pi_rk I (it + 1) rd
      rw [hr]
      unfold pi_rk
      rw [hl, if_neg (by omega)]
      omega
    · rw [if_neg e2]
      by_cases e3 : rd + 1 < tm
      · rw [if_pos e3]
        have hl := pi_lo_some hI (k := l + 1) (l := l) (by omega) g1 (by omega) (by omega)
        refine ⟨⟨by show l + 1 ≤ _; omega, hl.symm, fun z => absurd z (Nat.succ_ne_zero _), fun _ => ⟨e3, r2⟩⟩, ?_⟩
        show pi_rk I it rd < pi_rk I (l + 1) (rd + 1)
        rw [hr]
        unfold pi_rk
        rw [hl, if_neg (by omega)]
        omega
      · rw [if_neg e3]
        have hl := pi_lo_skip hI (k := l) (by omega) (Or.inl g1)
        have hi : it + 1 = l + (1 + pi_b I l) := by omega
        refine ⟨⟨by show it + 1 ≤ _; omega, by show 0 = pi_lo I (it + 1); rw [hi, hl], fun _ => ⟨rfl, rfl⟩, fun z => absurd rfl z⟩, ?_⟩
        show pi_rk I it rd < pi_rk I (it + 1) 0
        rw [hr]
        unfold pi_rk
        rw [hi, hl, if_pos rfl]
        omega
theorem pt_ent_pos {I : py_I} (hI : pi_ok I) {T : py_T} (h : pt_pos I T) (hn : pt_it T < pi_n I) (h7 : pi_k I (pt_it T) = 7 ∨ pi_k I (pt_it T) = 8) : pt_pos I (pt_ent I T) ∧ pt_rk I T < pt_rk I (pt_ent I T) := by
  obtain ⟨V, st, it, lp, tm, rd, ln, dg, sm⟩ := T
  obtain ⟨h1, h2, h3, h4⟩ := h
  dsimp only [pt_it, pt_lp, pt_tm, pt_rd] at h1 h2 h3 h4 hn h7
  have h0 := pi_lo_em hI hn h7
  have hlp : lp = 0 := by omega
  subst hlp
  obtain ⟨r1, r2⟩ := h3 rfl
  subst r1 r2
  obtain ⟨b1, b2, b3, b4⟩ := hI.2.2.2 it hn h7
  have hr : pi_rk I it 0 = 13 * it := by
    unfold pi_rk
    rw [h0, if_pos rfl]
  have hs := pi_lo_skip hI hn h7
  have skip : pt_pos I (V, st, it + (1 + pi_b I it), 0, 0, 0, ln, dg, sm) ∧ pi_rk I it 0 < pi_rk I (it + (1 + pi_b I it)) 0 := by
    refine ⟨⟨by show it + (1 + pi_b I it) ≤ _; omega, hs.symm, fun _ => ⟨rfl, rfl⟩, fun z => absurd rfl z⟩, ?_⟩
    rw [hr]
    unfold pi_rk
    rw [hs, if_pos rfl]
    omega
  unfold pt_ent
  dsimp only [pt_it, pt_lp, pt_tm, pt_rd, pt_v, pt_s, pt_ln, pt_dg, pt_sm]
  by_cases e : pi_k I it = 7
  · rw [if_pos e]
    by_cases e2 : 1 ≤ V (pi_a I it * 3) ∧ V (pi_a I it * 3) ≤ 3
    · rw [if_pos e2]
      have hl := pi_lo_some hI (k := it + 1) (l := it) hn e (by omega) (by omega)
      have ht : 1 ≤ (V (pi_a I it * 3)).toNatClampNeg ∧ (V (pi_a I it * 3)).toNatClampNeg ≤ 3 := by
        obtain ⟨q1, q2⟩ := e2
        rw [Int32.le_iff_toInt_le] at q1 q2
        have q3 : (1 : Int32).toInt = 1 := rfl
        have q4 : (3 : Int32).toInt = 3 := rfl
        have q5 : (V (pi_a I it * 3)).toNatClampNeg = (V (pi_a I it * 3)).toInt.toNat := rfl
        omega
      refine ⟨⟨by show it + 1 ≤ _; omega, hl.symm, fun z => absurd z (Nat.succ_ne_zero _), fun _ => ⟨ht.1, ht.2⟩⟩, ?_⟩
      show pi_rk I it 0 < pi_rk I (it + 1) 0
      rw [hr]
      unfold pi_rk
      rw [hl, if_neg (by omega)]
      omega
    · rw [if_neg e2]
      exact skip
  · rw [if_neg e]
    by_cases e2 : V (pi_a I it * 3) = Int32.ofNat (pi_c I it)
    · rw [if_pos e2]
      have hl := pi_lo_next (I := I) (k := it) h0 e
      refine ⟨⟨by show it + 1 ≤ _; omega, hl.symm, fun _ => ⟨rfl, rfl⟩, fun z => absurd rfl z⟩, ?_⟩
      show pi_rk I it 0 < pi_rk I (it + 1) 0
      rw [hr]
      unfold pi_rk
      rw [hl, if_pos rfl]
      omega
    · rw [if_neg e2]
      exact skip
