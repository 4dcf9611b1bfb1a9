/-! Upgrades are built: parts added, steps of a draft. -/
def pu_b (S : pw_S) (u : Nat) (P : List uP) : Prop := S 57 u 6 = Int32.ofNat P.length ∧ ∀ j, j < P.length → j < 60 → S 22 u j = (P.getD j (0, 0)).1 ∧ S 23 u j = (P.getD j (0, 0)).2
def py_KB (u a i : Nat) : Bool := (Nat.beq a 22 || (Nat.beq a 23 || (Nat.beq a 24 || (Nat.beq a 57 || (Nat.beq a 26 || Nat.beq a 27))))) && Nat.beq i u
theorem py_KB_s (u : Nat) : py_KB u 22 u = true ∧ py_KB u 23 u = true ∧ py_KB u 24 u = true ∧ py_KB u 57 u = true ∧ py_KB u 26 u = true ∧ py_KB u 27 u = true := by
  unfold py_KB
  simp only [Nat.beq_refl, Bool.and_true]
  decide
theorem py_KB_n {u a i : Nat} (h : i ≠ u) : py_KB u a i = false := by
  unfold py_KB
  rw [show Nat.beq i u = false from by
    cases hb : Nat.beq i u with
    | false => rfl
    | true => exact absurd (Nat.eq_of_beq_eq_true hb) h, Bool.and_false]
theorem pu_put {S : pw_S} {a u k : Nat} {x : Int32} (ha : pw_len a = 60) (hk : k < 2147483648) : ∃ S1, m_X11_put S a u (Int32.ofNat k) x = some (S1, ()) ∧ (∀ j, j < 60 → S1 a u j = if j = k then x else S a u j) ∧ py_fr (py_K1 a u) S S1 := by
  rw [py_put _ _ _ _ _ hk, ha]
  by_cases h : k < 60
  · rw [if_pos h]
    refine ⟨_, rfl, fun j hj => ?_, py_fr_r.up (py_K1_s a u)⟩
    rw [py_up_s]
    rfl
  · rw [if_neg h]
    refine ⟨_, rfl, fun j hj => ?_, py_fr_r⟩
    rw [if_neg (show ¬ j = k by omega)]
theorem pu_getD_new {P : List uP} {x : uP} {j : Nat} : (j < P.length → (P ++ [x]).getD j (0, 0) = P.getD j (0, 0)) ∧ (P ++ [x]).getD P.length (0, 0) = x := by
  refine ⟨fun h => ?_, ?_⟩
  · rw [List.getD_eq_getElem?_getD, List.getD_eq_getElem?_getD, List.getElem?_append_left h]
  · rw [List.getD_eq_getElem?_getD, List.getElem?_append_right (Nat.le_refl _), Nat.sub_self]
    rfl
theorem pu_add {S : pw_S} {u : Nat} {P : List uP} (h : pu_b S u P) (hl : P.length < 1000000) (k n : Int32) : ∃ S', m_X9_add S u k n = some (S', ()) ∧ pu_b S' u (P ++ [(k, n)]) ∧ py_fr (py_KB u) S S' ∧ S' 24 u = S 24 u := by
  obtain ⟨S1, a1, a2, a3⟩ := pu_put (S := S) (a := 22) (u := u) (k := P.length) (x := k) rfl (by omega)
  have e1 : S1 57 u 6 = Int32.ofNat P.length := by rw [a3 57 u rfl, h.1]
  obtain ⟨S2, b1, b2, b3⟩ := pu_put (S := S1) (a := 23) (u := u) (k := P.length) (x := n) rfl (by omega)
  have e2 : S2 57 u 6 = Int32.ofNat P.length := by rw [b3 57 u rfl, e1]
  generalize hS3 : pw_up S2 57 u (upd (S2 57 u) 6 (Int32.ofNat (P.length + 1))) = S3
  have k3 : ∀ a b, Nat.beq a 57 = false → S3 a b = S2 a b := fun a b hh => by
    rw [← hS3]
    exact py_up_k _ _ hh
  refine ⟨S3, ?_, ⟨?_, fun j hj hj60 => ?_⟩, ?_, ?_⟩
  · unfold m_X9_add
    rw [h.1, a1, py_b, e1, b1, py_b, e2, py_add1, hS3, py_l]
  · rw [← hS3, py_up_s, py_u_s, List.length_append]
    rfl
  · rw [List.length_append] at hj
    have hj2 : j < P.length + 1 := hj
    rw [k3 22 u rfl, k3 23 u rfl, b3 22 u rfl, a2 j hj60, b2 j hj60, a3 23 u rfl]
    by_cases e : j = P.length
    · rw [if_pos e, if_pos e, e, (pu_getD_new (j := j)).2]
      exact ⟨rfl, rfl⟩
    · rw [if_neg e, if_neg e, pu_getD_new.1 (show j < P.length by omega)]
      exact h.2 j (by omega) hj60
  · have f1 : py_fr (py_KB u) S S1 := fun a i z => a3 a i (by
      cases hk : py_K1 22 u a i with
      | false => rfl
      | true =>
        unfold py_K1 at hk
        obtain ⟨q1, q2⟩ := Bool.and_eq_true_iff.mp hk
        rw [Nat.eq_of_beq_eq_true q1, Nat.eq_of_beq_eq_true q2, (py_KB_s u).1] at z
        cases z)
    have f2 : py_fr (py_KB u) S1 S2 := fun a i z => b3 a i (by
      cases hk : py_K1 23 u a i with
      | false => rfl
      | true =>
        unfold py_K1 at hk
        obtain ⟨q1, q2⟩ := Bool.and_eq_true_iff.mp hk
        rw [Nat.eq_of_beq_eq_true q1, Nat.eq_of_beq_eq_true q2, (py_KB_s u).2.1] at z
        cases z)
    have f3 : py_fr (py_KB u) S2 S3 := by
      rw [← hS3]
      exact py_fr_r.up (py_KB_s u).2.2.2.1
    exact (f1.trans f2).trans f3
  · rw [k3 24 u rfl, b3 24 u rfl, a3 24 u rfl]
/-- a step's parts -/
def us (k a b : Int32) : List uP := if k = -1 then [] else if k = 2 ∨ k = 3 then [(k, b), (0, a)] else if k = 4 then [(4, 0), (0, a), (0, b)] else if k = 1 then [(1, a)] else [(0, a)]
theorem pu_addStep {S : pw_S} {u : Nat} {P : List uP} (h : pu_b S u P) (hl : P.length < 100000) {k a b : Int32} (hk : k = -1 ∨ k = 0 ∨ k = 1 ∨ k = 2 ∨ k = 3 ∨ k = 4) : ∃ S', m_X9_addStep S u k a b = some (S', ()) ∧ pu_b S' u (P ++ us k a b) ∧ py_fr (py_KB u) S S' ∧ S' 24 u = S 24 u := by
  unfold m_X9_addStep us
  rcases hk with rfl | rfl | rfl | rfl | rfl | rfl
  · rw [if_pos rfl, if_pos rfl, List.append_nil]
    exact ⟨S, rfl, h, py_fr_r, rfl⟩
  · obtain ⟨S1, a1, a2, a3, a4⟩ := pu_add h (by omega) 0 a
    rw [if_neg (show ¬ (0 : Int32) = -1 by decide), if_neg (show ¬ (0 : Int32) = 2 by decide), if_neg (show ¬ (0 : Int32) = 3 by decide), if_neg (show ¬ (0 : Int32) = 4 by decide), if_neg (show ¬ (0 : Int32) = 1 by decide), a1, py_b, if_neg (show ¬ (0 : Int32) = 4 by decide), if_neg (show ¬ (0 : Int32) = -1 by decide), if_neg (show ¬ ((0 : Int32) = 2 ∨ (0 : Int32) = 3) by decide), if_neg (show ¬ (0 : Int32) = 4 by decide), if_neg (show ¬ (0 : Int32) = 1 by decide)]
    exact ⟨S1, rfl, a2, a3, a4⟩
  · obtain ⟨S1, a1, a2, a3, a4⟩ := pu_add h (by omega) 1 a
    rw [if_neg (show ¬ (1 : Int32) = -1 by decide), if_neg (show ¬ (1 : Int32) = 2 by decide), if_neg (show ¬ (1 : Int32) = 3 by decide), if_neg (show ¬ (1 : Int32) = 4 by decide), if_pos (show (1 : Int32) = 1 from rfl), a1, py_b, if_neg (show ¬ (1 : Int32) = 4 by decide), if_neg (show ¬ (1 : Int32) = -1 by decide), if_neg (show ¬ ((1 : Int32) = 2 ∨ (1 : Int32) = 3) by decide), if_neg (show ¬ (1 : Int32) = 4 by decide), if_pos (show (1 : Int32) = 1 from rfl)]
    exact ⟨S1, rfl, a2, a3, a4⟩
  · obtain ⟨S1, a1, a2, a3, a4⟩ := pu_add h (by omega) 2 b
    obtain ⟨S2, b1, b2, b3, b4⟩ := pu_add a2 (by rw [List.length_append]; show P.length + 1 < _; omega) 0 a
    rw [if_neg (show ¬ (2 : Int32) = -1 by decide), if_pos (show (2 : Int32) = 2 from rfl), a1, py_b, if_neg (show ¬ (2 : Int32) = 4 by decide), if_neg (show ¬ (2 : Int32) = 1 by decide), b1, py_b, if_neg (show ¬ (2 : Int32) = 4 by decide), if_neg (show ¬ (2 : Int32) = -1 by decide), if_pos (show ((2 : Int32) = 2 ∨ (2 : Int32) = 3) by decide)]
    rw [List.append_assoc] at b2
    exact ⟨S2, rfl, b2, a3.trans b3, b4.trans a4⟩
  · obtain ⟨S1, a1, a2, a3, a4⟩ := pu_add h (by omega) 3 b
    obtain ⟨S2, b1, b2, b3, b4⟩ := pu_add a2 (by rw [List.length_append]; show P.length + 1 < _; omega) 0 a
    rw [if_neg (show ¬ (3 : Int32) = -1 by decide), if_neg (show ¬ (3 : Int32) = 2 by decide), if_pos (show (3 : Int32) = 3 from rfl), a1, py_b, if_neg (show ¬ (3 : Int32) = 4 by decide), if_neg (show ¬ (3 : Int32) = 1 by decide), b1, py_b, if_neg (show ¬ (3 : Int32) = 4 by decide), if_neg (show ¬ (3 : Int32) = -1 by decide), if_pos (show ((3 : Int32) = 2 ∨ (3 : Int32) = 3) by decide)]
    rw [List.append_assoc] at b2
    exact ⟨S2, rfl, b2, a3.trans b3, b4.trans a4⟩
  · obtain ⟨S1, a1, a2, a3, a4⟩ := pu_add h (by omega) 4 0
    obtain ⟨S2, b1, b2, b3, b4⟩ := pu_add a2 (by rw [List.length_append]; show P.length + 1 < _; omega) 0 a
    obtain ⟨S3, c1, c2, c3, c4⟩ := pu_add b2 (by rw [List.length_append, List.length_append]; show P.length + 1 + 1 < _; omega) 0 b
    rw [if_neg (show ¬ (4 : Int32) = -1 by decide), if_neg (show ¬ (4 : Int32) = 2 by decide), if_neg (show ¬ (4 : Int32) = 3 by decide), if_pos (show (4 : Int32) = 4 from rfl), a1, py_b, if_neg (show ¬ (4 : Int32) = 1 by decide), b1, py_b, if_pos (show (4 : Int32) = 4 from rfl), c1, py_b, if_neg (show ¬ (4 : Int32) = -1 by decide), if_neg (show ¬ ((4 : Int32) = 2 ∨ (4 : Int32) = 3) by decide), if_pos (show (4 : Int32) = 4 from rfl)]
    rw [List.append_assoc, List.append_assoc] at c2
    exact ⟨S3, rfl, c2, (a3.trans b3).trans c3, (c4.trans b4).trans a4⟩
/-- a step of the draft -/
def px_d1 (k a b : Int32) : Prop := k = -1 ∨ (k = 1) ∨ ((k = 0 ∨ k = 2 ∨ k = 3) ∧ ∃ t, t < 8 ∧ a = Int32.ofNat t) ∨ (k = 4 ∧ (∃ t, t < 8 ∧ a = Int32.ofNat t) ∧ ∃ t, t < 8 ∧ b = Int32.ofNat t)
theorem px_d1.k {k a b : Int32} (h : px_d1 k a b) : k = -1 ∨ k = 0 ∨ k = 1 ∨ k = 2 ∨ k = 3 ∨ k = 4 := by
  rcases h with h | h | ⟨h | h | h, -⟩ | ⟨h, -⟩
  · exact Or.inl h
  · exact Or.inr (Or.inr (Or.inl h))
  · exact Or.inr (Or.inl h)
  · exact Or.inr (Or.inr (Or.inr (Or.inl h)))
  · exact Or.inr (Or.inr (Or.inr (Or.inr (Or.inl h))))
  · exact Or.inr (Or.inr (Or.inr (Or.inr (Or.inr h))))
def uok (M : List uP) : Prop := M = [] ∨ (uwf M ∧ ∀ p, p ∈ M → p.1 = 0 → ∃ t, t < 8 ∧ p.2 = Int32.ofNat t)
theorem us_ok {k a b : Int32} (h : px_d1 k a b) : uok (us k a b) ∧ (us k a b).length ≤ 3 ∧ (k = -1 → (us k a b).length = 0) ∧ (k ≠ -1 → 1 ≤ (us k a b).length) := by
  have two : ∀ c : Int32, (c = 2 ∨ c = 3) → (∃ t, t < 8 ∧ a = Int32.ofNat t) → uok [(c, b), (0, a)] := fun c hc ht => by
    refine Or.inr ⟨uwf_u (uwf_0 a) ?_ ?_ ?_, fun p hp h0 => ?_⟩
    · rcases hc with rfl | rfl <;> decide
    · rcases hc with rfl | rfl <;> decide
    · rcases hc with rfl | rfl <;> decide
    · rcases List.mem_cons.mp hp with e | hp
      · rw [e] at h0
        have h0' : c = 0 := h0
        rcases hc with rfl | rfl
        · exact absurd h0' (by decide)
        · exact absurd h0' (by decide)
      · rw [List.mem_singleton.mp hp]
        exact ht
  unfold us
  rcases h with h | h | ⟨h | h | h, ht⟩ | ⟨h, ht, ht2⟩
  · subst h
    rw [if_pos rfl]
    exact ⟨Or.inl rfl, by decide, fun _ => rfl, fun z => absurd rfl z⟩
  · subst h
    rw [if_neg (show ¬ (1 : Int32) = -1 by decide), if_neg (show ¬ ((1 : Int32) = 2 ∨ (1 : Int32) = 3) by decide), if_neg (show ¬ (1 : Int32) = 4 by decide), if_pos rfl]
    refine ⟨Or.inr ⟨uwf_1 a, fun p hp h0 => ?_⟩, by simp, fun z => absurd z (by decide), fun _ => by simp⟩
    rw [List.mem_singleton.mp hp] at h0
    have h0' : (1 : Int32) = 0 := h0
    exact absurd h0' (by decide)
  · subst h
    rw [if_neg (show ¬ (0 : Int32) = -1 by decide), if_neg (show ¬ ((0 : Int32) = 2 ∨ (0 : Int32) = 3) by decide), if_neg (show ¬ (0 : Int32) = 4 by decide), if_neg (show ¬ (0 : Int32) = 1 by decide)]
    refine ⟨Or.inr ⟨uwf_0 a, fun p hp h0 => ?_⟩, by simp, fun z => absurd z (by decide), fun _ => by simp⟩
    rw [List.mem_singleton.mp hp]
    exact ht
  · subst h
    rw [if_neg (show ¬ (2 : Int32) = -1 by decide), if_pos (show ((2 : Int32) = 2 ∨ (2 : Int32) = 3) by decide)]
    exact ⟨two 2 (Or.inl rfl) ht, by simp, fun z => absurd z (by decide), fun _ => by simp⟩
  · subst h
    rw [if_neg (show ¬ (3 : Int32) = -1 by decide), if_pos (show ((3 : Int32) = 2 ∨ (3 : Int32) = 3) by decide)]
    exact ⟨two 3 (Or.inr rfl) ht, by simp, fun z => absurd z (by decide), fun _ => by simp⟩
  · subst h
    rw [if_neg (show ¬ (4 : Int32) = -1 by decide), if_neg (show ¬ ((4 : Int32) = 2 ∨ (4 : Int32) = 3) by decide), if_pos rfl]
    refine ⟨Or.inr ⟨uwf_4 0 a b, fun p hp h0 => ?_⟩, by simp, fun z => absurd z (by decide), fun _ => by simp⟩
    rcases List.mem_cons.mp hp with e | hp
    · rw [e] at h0
      have h0' : (4 : Int32) = 0 := h0
      exact absurd h0' (by decide)
    · rcases List.mem_cons.mp hp with e | hp
      · rw [e]
        exact ht
      · rw [List.mem_singleton.mp hp]
        exact ht2
/-- the ends so far -/
def pu_e (S : pw_S) (u : Nat) (L : Nat → List uP) (s : Nat) : Prop := ∀ t, t < s → S 24 u t = Int32.ofNat (ul L (t + 1)).length
theorem pu_endput {S : pw_S} {u s : Nat} {L : Nat → List uP} {Q : List uP} (hs : s < 8) (hb : pu_b S u Q) (hQ : Q = ul L (s + 1)) (he : pu_e S u L s) : ∃ S', m_X11_put S 24 u (Int32.ofNat s) (S 57 u 6) = some (S', ()) ∧ pu_b S' u (ul L (s + 1)) ∧ pu_e S' u L (s + 1) ∧ py_fr (py_KB u) S S' := by
  rw [hb.1, py_putI _ _ _ _ _ (show s < 8 from hs)]
  refine ⟨_, rfl, ?_, fun t ht => ?_, py_fr_r.up (py_KB_s u).2.2.1⟩
  · rw [← hQ]
    refine ⟨?_, fun j h1 h2 => ?_⟩
    · rw [py_up_k _ _ rfl]
      exact hb.1
    · rw [py_up_k _ _ rfl, py_up_k _ _ rfl]
      exact hb.2 j h1 h2
  · rw [py_up_s]
    by_cases e : t = s
    · rw [e, py_u_s, hQ]
    · rw [py_u_n _ _ e]
      exact he t (by omega)
theorem pu_fin {S : pw_S} {u : Nat} {L : Nat → List uP} (hb : pu_b S u (ul L 8)) (he : pu_e S u L 8) (h60 : (ul L 8).length ≤ 60) (hw : ∀ s, s < 8 → uok (L s)) : px_u S u L := ⟨h60, hb.1, fun s hs => he s hs, fun j hj => hb.2 j hj (by omega), hw⟩
def px_w (S : pw_S) : Prop := ∀ s, s < 8 → px_d1 (S 19 0 s) (S 20 0 s) (S 21 0 s)
/-- the draft's parts -/
def pw_d (S : pw_S) : Nat → List uP := fun s => us (S 19 0 s) (S 20 0 s) (S 21 0 s)
theorem pu_from_7 {u : Nat} {L : Nat → List uP} (hL3 : ∀ s, s < 8 → (ul L s).length ≤ 24) : ∀ (n N s : Nat) (S : pw_S), n < N → 8 = s + n → px_w S → pw_d S = L → pu_b S u (ul L s) → pu_e S u L s →
    ∃ S', m_X9_buildFrom_7 N S u 0 (Int32.ofNat s) = some (S', ()) ∧ pu_b S' u (ul L 8) ∧ pu_e S' u L 8 ∧ py_fr (py_KB u) S S' := by
  intro n
  induction n with
  | zero =>
    intro N s S hN hs hw hd hb he
    obtain ⟨N, rfl⟩ : ∃ q, N = q + 1 := ⟨N - 1, by omega⟩
    unfold m_X9_buildFrom_7
    have e8 : s = 8 := by omega
    subst e8
    rw [if_pos (show (8 : Int32) ≤ Int32.ofNat 8 by decide)]
    exact ⟨S, rfl, hb, he, py_fr_r⟩
  | succ n ih =>
    intro N s S hN hs hw hd hb he
    obtain ⟨N, rfl⟩ : ∃ q, N = q + 1 := ⟨N - 1, by omega⟩
    have hl := hL3 s (by omega)
    obtain ⟨S1, a1, a2, a3, a4⟩ := pu_addStep hb (by omega) (hw s (by omega)).k
    have e1 : ul L s ++ us (S 19 0 s) (S 20 0 s) (S 21 0 s) = ul L (s + 1) := by
      rw [← hd]
      rfl
    obtain ⟨S2, b1, b2, b3, b4⟩ := pu_endput (L := L) (show s < 8 by omega) a2 e1 (fun t ht => by rw [a4]; exact he t ht)
    have f := a3.trans b4
    have k19 : ∀ i, S2 19 i = S 19 i := fun i => f 19 i (by unfold py_KB; rfl)
    have k20 : ∀ i, S2 20 i = S 20 i := fun i => f 20 i (by unfold py_KB; rfl)
    have k21 : ∀ i, S2 21 i = S 21 i := fun i => f 21 i (by unfold py_KB; rfl)
    obtain ⟨S', c1, c2, c3, c4⟩ := ih N (s + 1) S2 (by omega) (by omega) (fun t ht => by
      rw [k19, k20, k21]
      exact hw t ht) (by
      rw [← hd]
      unfold pw_d
      rw [k19, k20, k21]) b2 b3
    refine ⟨S', ?_, c2, c3, f.trans c4⟩
    unfold m_X9_buildFrom_7
    rw [py_jeL (l := 8) (by omega) (by omega), if_neg (show ¬ 8 ≤ s by omega), py_atI _ _ _ _ _ (show s < 8 by omega), py_b, py_atI _ _ _ _ _ (show s < 8 by omega), py_b, py_atI _ _ _ _ _ (show s < 8 by omega), py_b, a1, py_b, b1, py_b, py_l, py_add1]
    exact c1
theorem pu_buildFrom {S : pw_S} {u : Nat} (hw : px_w S) : ∃ S', m_X9_buildFrom S u 0 = some (S', ()) ∧ px_u S' u (pw_d S) ∧ py_fr (py_KB u) S S' := by
  generalize hS0 : pw_up S 57 u (upd (S 57 u) 6 0) = S0
  have k0 : ∀ a b, Nat.beq a 57 = false → S0 a b = S a b := fun a b hh => by
    rw [← hS0]
    exact py_up_k _ _ hh
  have f0 : py_fr (py_KB u) S S0 := by
    rw [← hS0]
    exact py_fr_r.up (py_KB_s u).2.2.2.1
  have hlen : ∀ s, s ≤ 8 → (ul (pw_d S) s).length ≤ 3 * s := by
    intro s
    induction s with
    | zero => intro _; exact Nat.le_refl _
    | succ s ih =>
      intro h
      have h1 := ih (by omega)
      have h2 := (us_ok (hw s (by omega))).2.1
      show (ul (pw_d S) s ++ us (S 19 0 s) (S 20 0 s) (S 21 0 s)).length ≤ _
      rw [List.length_append]
      omega
  obtain ⟨S', a1, a2, a3, a4⟩ := pu_from_7 (u := u) (L := pw_d S) (fun s hs => by have := hlen s (by omega); omega) 8 (pw_F 20000) 0 S0 (by rw [py_F]; omega) rfl (fun t ht => by
    rw [k0 19 0 rfl, k0 20 0 rfl, k0 21 0 rfl]
    exact hw t ht) (by
    unfold pw_d
    rw [k0 19 0 rfl, k0 20 0 rfl, k0 21 0 rfl]) ⟨by
    rw [← hS0, py_up_s, py_u_s]
    rfl, fun j hj => absurd hj (Nat.not_lt_zero j)⟩ (fun t ht => absurd ht (Nat.not_lt_zero t))
  refine ⟨S', ?_, pu_fin a2 a3 (by have := hlen 8 (Nat.le_refl _); omega) (fun s hs => (us_ok (hw s hs)).1), f0.trans a4⟩
  unfold m_X9_buildFrom
  rw [hS0, py_l, py_l]
  exact a1
