/-! Upgrades reversed. -/
theorem pu_add26 {S S' : pw_S} {u l : Nat} {k n : Int32} (h : S 57 u 6 = Int32.ofNat l) (hl : l < 1000000) (he : m_X9_add S u k n = some (S', ())) : S' 26 u = S 26 u := by
  obtain ⟨S1, a1, a2, a3⟩ := pu_put (S := S) (a := 22) (u := u) (k := l) (x := k) rfl (by omega)
  have e1 : S1 57 u 6 = Int32.ofNat l := by rw [a3 57 u rfl, h]
  obtain ⟨S2, b1, b2, b3⟩ := pu_put (S := S1) (a := 23) (u := u) (k := l) (x := n) rfl (by omega)
  unfold m_X9_add at he
  rw [h, a1, py_b, e1, b1, py_b, py_l] at he
  have e := (Prod.mk.inj (Option.some.inj he)).1
  rw [← e, py_up_k _ _ rfl, b3 26 u rfl, a3 26 u rfl]
def py_KV (u a i : Nat) : Bool := (Nat.beq a 26 || Nat.beq a 27) && Nat.beq i u
theorem py_KV_s (u : Nat) : py_KV u 26 u = true ∧ py_KV u 27 u = true := by
  unfold py_KV
  simp only [Nat.beq_refl, Bool.and_true]
  decide
theorem py_KV_B {u : Nat} {S S' : pw_S} (h : py_fr (py_KV u) S S') : py_fr (py_KB u) S S' := fun a i z => h a i (by
  cases hk : py_KV u a i with
  | false => rfl
  | true =>
    unfold py_KV at hk
    obtain ⟨q1, q2⟩ := Bool.and_eq_true_iff.mp hk
    rw [Nat.eq_of_beq_eq_true q2] at z
    rcases Bool.or_eq_true_iff.mp q1 with q | q
    · rw [Nat.eq_of_beq_eq_true q, (py_KB_s u).2.2.2.2.1] at z
      cases z
    · rw [Nat.eq_of_beq_eq_true q, (py_KB_s u).2.2.2.2.2] at z
      cases z)
theorem py_KV_26 {u : Nat} {S S' : pw_S} (h : py_fr (py_K1 26 u) S S') : py_fr (py_KV u) S S' := fun a i z => h a i (by
  cases hk : py_K1 26 u a i with
  | false => rfl
  | true =>
    unfold py_K1 at hk
    obtain ⟨q1, q2⟩ := Bool.and_eq_true_iff.mp hk
    rw [Nat.eq_of_beq_eq_true q1, Nat.eq_of_beq_eq_true q2, (py_KV_s u).1] at z
    cases z)
theorem py_KV_27 {u : Nat} {S S' : pw_S} (h : py_fr (py_K1 27 u) S S') : py_fr (py_KV u) S S' := fun a i z => h a i (by
  cases hk : py_K1 27 u a i with
  | false => rfl
  | true =>
    unfold py_K1 at hk
    obtain ⟨q1, q2⟩ := Bool.and_eq_true_iff.mp hk
    rw [Nat.eq_of_beq_eq_true q1, Nat.eq_of_beq_eq_true q2, (py_KV_s u).2] at z
    cases z)
theorem px_u.frW {S S' : pw_S} {u v : Nat} {L : Nat → List uP} (h : px_u S v L) (hf : py_fr (py_KV u) S S') : px_u S' v L := h.cong (hf 22 v (by unfold py_KV; rfl)) (hf 23 v (by unfold py_KV; rfl)) (hf 24 v (by unfold py_KV; rfl)) (hf 57 v (by unfold py_KV; rfl))
/-- the kinds on the way -/
def pu_w (S : pw_S) (u d : Nat) : Prop := ∀ i, i < d → S 26 u i ≠ 0 ∧ S 26 u i ≠ 1
theorem pu_turn_4 {u : Nat} : ∀ (m N : Nat) (S : pw_S), m < N → m ≤ 60 → pu_w S u m → ∃ S' j, m_X9_turnToSecond_4 N S u (py_lp m) = some (S', Int32.ofNat j) ∧ j ≤ m ∧ pu_w S' u j ∧ py_fr (py_KV u) S S' := by
  intro m
  induction m with
  | zero =>
    intro N S hN hm hw
    obtain ⟨N, rfl⟩ : ∃ q, N = q + 1 := ⟨N - 1, by omega⟩
    unfold m_X9_turnToSecond_4
    rw [show py_lp 0 = -1 from rfl, if_pos (show (-1 : Int32) < 0 by decide)]
    exact ⟨S, 0, rfl, Nat.le_refl _, hw, py_fr_r⟩
  | succ m ih =>
    intro N S hN hm hw
    obtain ⟨N, rfl⟩ : ∃ q, N = q + 1 := ⟨N - 1, by omega⟩
    unfold m_X9_turnToSecond_4
    rw [show py_lp (m + 1) = Int32.ofNat m from rfl, py_jn (by omega), py_atI _ _ _ _ _ (show m < 60 by omega), py_b]
    by_cases e : S 26 u m = 4
    · rw [if_pos e, py_putI _ _ _ _ _ (show m < 60 by omega), py_b, py_add1]
      refine ⟨_, m + 1, rfl, Nat.le_refl _, fun i hi => ?_, py_fr_r.up (py_KV_s u).1⟩
      rw [py_up_s]
      by_cases ei : i = m
      · rw [ei, py_u_s]
        exact ⟨by decide, by decide⟩
      · rw [py_u_n _ _ ei]
        exact hw i hi
    · rw [if_neg e, py_l, py_lp_dec]
      obtain ⟨S', j, a1, a2, a3, a4⟩ := ih N S (by omega) (by omega) (fun i hi => hw i (by omega))
      exact ⟨S', j, a1, by omega, a3, a4⟩
theorem pu_turn {u m : Nat} {S : pw_S} (hm : m ≤ 60) (hw : pu_w S u m) : ∃ S' j, m_X9_turnToSecond S u (Int32.ofNat m) = some (S', Int32.ofNat j) ∧ j ≤ m ∧ pu_w S' u j ∧ py_fr (py_KV u) S S' := by
  have e : Int32.ofNat m - 1 = py_lp m := by
    rw [← py_lp_dec, Int32.sub_eq_add_neg]
  unfold m_X9_turnToSecond
  rw [e, py_l]
  exact pu_turn_4 m _ S (by rw [py_F]; omega) hm hw
theorem pu_push {S : pw_S} {u d : Nat} {k x : Int32} (hd : d < 60) (hw : pu_w S u d) (h0 : k ≠ 0) (h1 : k ≠ 1) : ∃ S1 S2, m_X11_put S 26 u (Int32.ofNat d) k = some (S1, ()) ∧ m_X11_put S1 27 u (Int32.ofNat d) x = some (S2, ()) ∧ pu_w S2 u (d + 1) ∧ py_fr (py_KV u) S S2 := by
  obtain ⟨S1, a1, a2, a3⟩ := pu_put (S := S) (a := 26) (u := u) (k := d) (x := k) rfl (by omega)
  obtain ⟨S2, b1, b2, b3⟩ := pu_put (S := S1) (a := 27) (u := u) (k := d) (x := x) rfl (by omega)
  refine ⟨S1, S2, a1, b1, fun i hi => ?_, (py_KV_26 a3).trans (py_KV_27 b3)⟩
  rw [b3 26 u rfl, a2 i (by omega)]
  by_cases e : i = d
  · rw [if_pos e]
    exact ⟨h0, h1⟩
  · rw [if_neg e]
    exact hw i (by omega)
theorem pu_path_10 {u v s o : Nat} {L : Nat → List uP} (hs : s < 8) : ∀ (n N i d : Nat) (S : pw_S), n < N → (L s).length = i + n → px_u S v L → d ≤ i → pu_w S u d →
    ∃ S' r, m_X9_findPath_10 N S u v (Int32.ofNat s) (Int32.ofNat o) (Int32.ofNat d) (Int32.ofNat ((ul L s).length + i)) = some (S', r) ∧ py_fr (py_KV u) S S' ∧ (r = -1 ∨ ∃ d', d' ≤ 60 ∧ r = Int32.ofNat d' ∧ pu_w S' u d' ∧ (0, Int32.ofNat o) ∈ L s) := by
  intro n
  induction n with
  | zero =>
    intro N i d S hN hi h hd hw
    obtain ⟨N, rfl⟩ : ∃ q, N = q + 1 := ⟨N - 1, by omega⟩
    have hl1 := pu_len h (show s + 1 ≤ 8 by omega)
    have hL2 : (ul L (s + 1)).length = (ul L s).length + (L s).length := by
      show (ul L s ++ L s).length = _
      rw [List.length_append]
    unfold m_X9_findPath_10
    rw [pu_end h hs, py_b, hL2, py_je (by omega) (by omega), if_pos (by omega)]
    exact ⟨S, -1, rfl, py_fr_r, Or.inl rfl⟩
  | succ n ih =>
    intro N i d S hN hi h hd hw
    obtain ⟨N, rfl⟩ : ∃ q, N = q + 1 := ⟨N - 1, by omega⟩
    have hl1 := pu_len h (show s + 1 ≤ 8 by omega)
    have hL2 : (ul L (s + 1)).length = (ul L s).length + (L s).length := by
      show (ul L s ++ L s).length = _
      rw [List.length_append]
    obtain ⟨d1, d2⟩ := pu_dropc (M := L s) (show i < (L s).length by omega)
    have turn : ∃ S' r, (pw_b (m_X9_turnToSecond S u (Int32.ofNat d)) fun S18 r21 => pw_l (r21 : Int32) fun z23 => pw_l (Int32.ofNat ((ul L s).length + i) + 1 : Int32) fun z24 => m_X9_findPath_10 N S18 u v (Int32.ofNat s) (Int32.ofNat o) z23 z24) = some (S', r) ∧ py_fr (py_KV u) S S' ∧ (r = -1 ∨ ∃ d', d' ≤ 60 ∧ r = Int32.ofNat d' ∧ pu_w S' u d' ∧ (0, Int32.ofNat o) ∈ L s) := by
      obtain ⟨S1, j, a1, a2, a3, a4⟩ := pu_turn (show d ≤ 60 by omega) hw
      obtain ⟨S', r, b1, b2, b3⟩ := ih N (i + 1) j S1 (by omega) (by omega) (h.frW a4) (by omega) a3
      rw [a1, py_b, py_l, py_l, py_add1]
      exact ⟨S', r, b1, a4.trans b2, b3⟩
    have push : ∀ x : Int32, ((L s).getD i (0, 0)).1 ≠ 0 → ((L s).getD i (0, 0)).1 ≠ 1 → ∃ S1, m_X11_put S 26 u (Int32.ofNat d) ((L s).getD i (0, 0)).1 = some (S1, ()) ∧ ∃ S' r, (pw_b (m_X11_put S1 27 u (Int32.ofNat d) x) fun S37 r40 => pw_l (Int32.ofNat d + 1 : Int32) fun z42 => pw_l (Int32.ofNat ((ul L s).length + i) + 1 : Int32) fun z43 => m_X9_findPath_10 N S37 u v (Int32.ofNat s) (Int32.ofNat o) z42 z43) = some (S', r) ∧ py_fr (py_KV u) S S' ∧ (r = -1 ∨ ∃ d', d' ≤ 60 ∧ r = Int32.ofNat d' ∧ pu_w S' u d' ∧ (0, Int32.ofNat o) ∈ L s) := by
      intro x h0 h1
      obtain ⟨S1, S2, a1, a2, a3, a4⟩ := pu_push (x := x) (show d < 60 by omega) hw h0 h1
      obtain ⟨S', r, b1, b2, b3⟩ := ih N (i + 1) (d + 1) S2 (by omega) (by omega) (h.frW a4) (by omega) a3
      refine ⟨S1, a1, S', r, ?_, a4.trans b2, b3⟩
      rw [a2, py_b, py_l, py_l, py_add1, py_add1]
      exact b1
    unfold m_X9_findPath_10
    rw [pu_end h hs, py_b, hL2, py_je (by omega) (by omega), if_neg (by omega), pu_kind h hs (by omega), py_b, py_l, pu_number h hs (by omega), py_b, py_l]
    by_cases h0 : ((L s).getD i (0, 0)).1 = 0
    · rw [if_pos h0]
      by_cases e : ((L s).getD i (0, 0)).2 = Int32.ofNat o
      · rw [if_pos e]
        refine ⟨S, _, rfl, py_fr_r, Or.inr ⟨d, by omega, rfl, hw, ?_⟩⟩
        have e3 : (L s).getD i (0, 0) = (0, Int32.ofNat o) := Prod.ext h0 e
        rw [← e3]
        exact d2
      · rw [if_neg e, if_pos h0]
        exact turn
    · rw [if_neg h0, if_neg h0]
      by_cases h1 : ((L s).getD i (0, 0)).1 = 1
      · rw [if_pos h1]
        exact turn
      · rw [if_neg h1]
        by_cases h2 : ((L s).getD i (0, 0)).1 = 2
        · obtain ⟨S1, a1, a2⟩ := push (-((L s).getD i (0, 0)).2) h0 h1
          rw [a1, py_b, if_pos h2]
          exact a2
        · by_cases h4 : ((L s).getD i (0, 0)).1 = 4
          · obtain ⟨S1, a1, a2⟩ := push 100 h0 h1
            rw [a1, py_b, if_neg h2, if_pos h4]
            exact a2
          · obtain ⟨S1, a1, a2⟩ := push ((L s).getD i (0, 0)).2 h0 h1
            rw [a1, py_b, if_neg h2, if_neg h4]
            exact a2
theorem pu_findPath {u v s o : Nat} {S : pw_S} {L : Nat → List uP} (hs : s < 8) (h : px_u S v L) : ∃ S' r, m_X9_findPath S u v (Int32.ofNat s) (Int32.ofNat o) = some (S', r) ∧ py_fr (py_KV u) S S' ∧ (r = -1 ∨ ∃ d', d' ≤ 60 ∧ r = Int32.ofNat d' ∧ pu_w S' u d' ∧ (0, Int32.ofNat o) ∈ L s) := by
  have hl1 := pu_len h (show s + 1 ≤ 8 by omega)
  have hL2 : (ul L (s + 1)).length = (ul L s).length + (L s).length := by
    show (ul L s ++ L s).length = _
    rw [List.length_append]
  obtain ⟨S', r, a1, a2, a3⟩ := pu_path_10 (u := u) (o := o) hs (L s).length (pw_F 20000) 0 0 S (by rw [py_F]; omega) (by omega) h (Nat.le_refl _) (fun i hi => absurd hi (Nat.not_lt_zero i))
  refine ⟨S', r, ?_, a2, a3⟩
  unfold m_X9_findPath
  rw [py_l, pu_start h hs, py_b, py_l]
  exact a1
theorem pu_rk (S : pw_S) {k : Int32} (h0 : k ≠ 0) (h1 : k ≠ 1) : ∃ k', m_X9_reversedKind S k = some (S, k') ∧ k' ≠ 0 ∧ k' ≠ 1 ∧ k' ≠ 4 := by
  unfold m_X9_reversedKind
  by_cases h3 : k = 3
  · rw [if_pos h3]
    exact ⟨5, rfl, by decide, by decide, by decide⟩
  · rw [if_neg h3]
    by_cases h4 : k = 4
    · rw [if_pos h4]
      exact ⟨5, rfl, by decide, by decide, by decide⟩
    · rw [if_neg h4]
      exact ⟨k, rfl, h0, h1, h4⟩
def uun (M : List uP) : Prop := ∀ p, p ∈ M → p.1 ≠ 0 ∧ p.1 ≠ 1 ∧ p.1 ≠ 4
theorem pu_rev_23 {u v : Nat} (k61 : pw_S → Nat → Nat → Int32 → Int32 → Int32 → pw_R Unit) (v2 v3 v4 : Int32) : ∀ (m N : Nat) (S : pw_S) (P : List uP), m < N → m ≤ 60 → pu_w S u m → pu_b S u P → P.length + m < 100000 →
    ∃ S' M, m_X9_addReversed_23 k61 N S u v v2 v3 v4 (py_lp m) = k61 S' u v v2 v3 v4 ∧ pu_b S' u (P ++ M) ∧ uun M ∧ M.length = m ∧ py_fr (py_KB u) S S' ∧ S' 24 u = S 24 u := by
  intro m
  induction m with
  | zero =>
    intro N S P hN hm hw hb hl
    obtain ⟨N, rfl⟩ : ∃ q, N = q + 1 := ⟨N - 1, by omega⟩
    unfold m_X9_addReversed_23
    rw [show py_lp 0 = -1 from rfl, if_pos (show (-1 : Int32) < 0 by decide)]
    refine ⟨S, [], rfl, ?_, (fun p hp => by cases hp), rfl, py_fr_r, rfl⟩
    rw [List.append_nil]
    exact hb
  | succ m ih =>
    intro N S P hN hm hw hb hl
    obtain ⟨N, rfl⟩ : ∃ q, N = q + 1 := ⟨N - 1, by omega⟩
    obtain ⟨k', a1, a2, a3, a4⟩ := pu_rk S (hw m (by omega)).1 (hw m (by omega)).2
    obtain ⟨S1, b1, b2, b3, b4⟩ := pu_add hb (by omega) k' (S 27 u m)
    have b5 := pu_add26 hb.1 (by omega) b1
    obtain ⟨S', M, c1, c2, c3, c4, c5, c6⟩ := ih N S1 (P ++ [(k', S 27 u m)]) (by omega) (by omega) (fun i hi => by
      rw [b5]
      exact hw i (by omega)) b2 (by rw [List.length_append]; show P.length + 1 + m < _; omega)
    refine ⟨S', (k', S 27 u m) :: M, ?_, ?_, fun p hp => ?_, by rw [List.length_cons, c4], b3.trans c5, c6.trans b4⟩
    · unfold m_X9_addReversed_23
      rw [show py_lp (m + 1) = Int32.ofNat m from rfl, py_jn (by omega), py_atI _ _ _ _ _ (show m < 60 by omega), py_b, a1, py_b, py_atI _ _ _ _ _ (show m < 60 by omega), py_b, b1, py_b, py_l, py_lp_dec]
      exact c1
    · rw [List.append_assoc] at c2
      exact c2
    · rcases List.mem_cons.mp hp with e | hp
      · rw [e]
        exact ⟨a2, a3, a4⟩
      · exact c3 p hp
theorem uun_wf {s : Int32} : ∀ (M : List uP), uun M → uwf (M ++ [(0, s)]) := by
  intro M
  induction M with
  | nil => intro _; exact uwf_0 s
  | cons p r ih =>
    intro h
    have h2 := ih (fun q hq => h q (List.mem_cons_of_mem _ hq))
    have h3 := h p List.mem_cons_self
    exact uwf_u h2 h3.1 h3.2.1 h3.2.2
/-- what a slot of a reversed upgrade is -/
def urv (L : Nat → List uP) (o : Nat) (M : List uP) : Prop := M = [] ∨ (uwf M ∧ (∀ p, p ∈ M → p.1 = 0 → ∃ t, t < 8 ∧ p.2 = Int32.ofNat t) ∧ ∃ t, t < 8 ∧ (0, Int32.ofNat t) ∈ M ∧ (0, Int32.ofNat o) ∈ L t)
theorem pu_rev_2 {u v o : Nat} {L : Nat → List uP} (hv : v ≠ u) : ∀ (n N s : Nat) (S : pw_S) (P : List uP), n < N → 8 = s + n → px_u S v L → pu_b S u P → P.length < 10000 →
    ∃ S' M, m_X9_addReversed_2 N S u v (Int32.ofNat o) (Int32.ofNat s) = some (S', ()) ∧ pu_b S' u (P ++ M) ∧ M.length ≤ 61 ∧ urv L o M ∧ py_fr (py_KB u) S S' ∧ S' 24 u = S 24 u := by
  intro n
  induction n with
  | zero =>
    intro N s S P hN hs h hb hl
    obtain ⟨N, rfl⟩ : ∃ q, N = q + 1 := ⟨N - 1, by omega⟩
    unfold m_X9_addReversed_2
    rw [py_jeL (l := 8) (by omega) (by omega), if_pos (show 8 ≤ s by omega)]
    refine ⟨S, [], rfl, ?_, Nat.zero_le _, Or.inl rfl, py_fr_r, rfl⟩
    rw [List.append_nil]
    exact hb
  | succ n ih =>
    intro N s S P hN hs h hb hl
    obtain ⟨N, rfl⟩ : ∃ q, N = q + 1 := ⟨N - 1, by omega⟩
    obtain ⟨S1, r, a1, a2, a3⟩ := pu_findPath (u := u) (o := o) (show s < 8 by omega) h
    have hb1 : pu_b S1 u P := by
      refine ⟨?_, fun j h1 h2 => ?_⟩
      · rw [a2 57 u (by unfold py_KV; rfl)]
        exact hb.1
      · rw [a2 22 u (by unfold py_KV; rfl), a2 23 u (by unfold py_KV; rfl)]
        exact hb.2 j h1 h2
    have a24 : S1 24 u = S 24 u := a2 24 u (by unfold py_KV; rfl)
    rw [m_X9_addReversed_2.eq_2, py_jeL (l := 8) (by omega) (by omega), if_neg (show ¬ 8 ≤ s by omega), a1, py_b, py_l, py_l]
    obtain ⟨q, hq⟩ : ∃ q, pw_F 20000 = q + 1 := ⟨19999, pw_F_eq 20000⟩
    rcases a3 with rfl | ⟨d, d1, rfl, d3, d4⟩
    · obtain ⟨S', M, c1, c2, c3, c4, c5, c6⟩ := ih N (s + 1) S1 P (by omega) (by omega) (h.frW a2) hb1 hl
      refine ⟨S', M, ?_, c2, c3, c4, (py_KV_B a2).trans c5, c6.trans a24⟩
      rw [hq, m_X9_addReversed_23.eq_2, if_pos (show ((-1 : Int32) - 1) < 0 by decide), if_pos (show (-1 : Int32) < 0 by decide), py_l, py_add1]
      exact c1
    · have e : Int32.ofNat d - 1 = py_lp d := by
        rw [← py_lp_dec, Int32.sub_eq_add_neg]
      obtain ⟨S2, M, b1, b2, b3, b4, b5, b6⟩ := pu_rev_23 (u := u) (v := v) (fun S36 u29 u31 u33 u34 u35 => (if u35 < 0 then (pw_l (u34 + 1 : Int32) fun z39 => m_X9_addReversed_2 N S36 u29 u31 u33 z39) else (pw_b (m_X9_add S36 u29 0 u34) fun S40 r43 => some (S40, ())))) (Int32.ofNat o) (Int32.ofNat s) (Int32.ofNat d) d (pw_F 20000) S1 P (by rw [py_F]; omega) d1 d3 hb1 (by omega)
      have hlen : (P ++ M).length = P.length + d := by rw [List.length_append, b4]
      obtain ⟨S3, c1, c2, c3, c4⟩ := pu_add b2 (by omega) 0 (Int32.ofNat s)
      refine ⟨S3, M ++ [(0, Int32.ofNat s)], ?_, ?_, ?_, Or.inr ⟨uun_wf M b3, fun p hp h0 => ?_, s, by omega, List.mem_append_right _ (List.mem_singleton.mpr rfl), d4⟩, ((py_KV_B a2).trans b5).trans c3, (c4.trans b6).trans a24⟩
      · rw [e]
        refine b1.trans ?_
        show (if Int32.ofNat d < 0 then _ else (pw_b (m_X9_add S2 u 0 (Int32.ofNat s)) fun S40 r43 => some (S40, ()))) = _
        rw [py_jn (by omega), c1, py_b]
      · rw [List.append_assoc] at c2
        exact c2
      · rw [List.length_append, b4]
        show d + 1 ≤ 61
        omega
      · rcases List.mem_append.mp hp with hp | hp
        · exact absurd h0 (b3 p hp).1
        · rw [List.mem_singleton.mp hp]
          exact ⟨s, by omega, rfl⟩
theorem pu_addReversed {u v o : Nat} {L : Nat → List uP} {S : pw_S} {P : List uP} (hv : v ≠ u) (h : px_u S v L) (hb : pu_b S u P) (hl : P.length < 10000) : ∃ S' M, m_X9_addReversed S u v (Int32.ofNat o) = some (S', ()) ∧ pu_b S' u (P ++ M) ∧ M.length ≤ 61 ∧ urv L o M ∧ py_fr (py_KB u) S S' ∧ S' 24 u = S 24 u := by
  obtain ⟨S', M, a⟩ := pu_rev_2 (o := o) hv 8 (pw_F 20000) 0 S P (by rw [py_F]; omega) rfl h hb hl
  refine ⟨S', M, ?_, a.2⟩
  unfold m_X9_addReversed
  rw [py_l]
  exact a.1
theorem pu_rev_16 {u v : Nat} {L2 : Nat → List uP} (hv : v ≠ u) : ∀ (n N s : Nat) (S : pw_S) (L : Nat → List uP), n < N → 8 = s + n → px_u S v L2 → pu_b S u (ul L s) → (ul L s).length ≤ 61 * s → pu_e S u L s → (∀ t, t < s → urv L2 t (L t)) →
    ∃ S' L', m_X9_buildReversed_16 N S u v (Int32.ofNat s) = some (S', if (ul L' 8).length ≤ 60 then 1 else 0) ∧ pu_b S' u (ul L' 8) ∧ pu_e S' u L' 8 ∧ (∀ t, t < 8 → urv L2 t (L' t)) ∧ py_fr (py_KB u) S S' := by
  intro n
  induction n with
  | zero =>
    intro N s S L hN hs h hb hl he hg
    obtain ⟨N, rfl⟩ : ∃ q, N = q + 1 := ⟨N - 1, by omega⟩
    have e8 : s = 8 := by omega
    subst e8
    unfold m_X9_buildReversed_16
    rw [if_pos (show (8 : Int32) ≤ Int32.ofNat 8 by decide), hb.1, py_jlL (l := 60) (by omega) (by omega)]
    refine ⟨S, L, ?_, hb, he, hg, py_fr_r⟩
    by_cases e : 60 < (ul L 8).length
    · rw [if_pos e, if_neg (show ¬ (ul L 8).length ≤ 60 by omega)]
    · rw [if_neg e, if_pos (show (ul L 8).length ≤ 60 by omega)]
  | succ n ih =>
    intro N s S L hN hs h hb hl he hg
    obtain ⟨N, rfl⟩ : ∃ q, N = q + 1 := ⟨N - 1, by omega⟩
    obtain ⟨S1, M, a1, a2, a3, a4, a5, a6⟩ := pu_addReversed (o := s) hv h hb (by omega)
    obtain ⟨L', hL1, hL2⟩ : ∃ L' : Nat → List uP, L' s = M ∧ ∀ t, t ≠ s → L' t = L t := ⟨fun t => if t = s then M else L t, if_pos rfl, fun t ht => if_neg ht⟩
    have e1 : ul L' s = ul L s := ul_cong s (fun t ht => hL2 t (by omega))
    have e2 : ul L s ++ M = ul L' (s + 1) := by
      show _ = ul L' s ++ L' s
      rw [e1, hL1]
    have he' : pu_e S1 u L' s := fun t ht => by
      rw [a6, he t ht, ul_cong (L := L') (L' := L) (t + 1) (fun q hq => hL2 q (by omega))]
    obtain ⟨S2, b1, b2, b3, b4⟩ := pu_endput (L := L') (show s < 8 by omega) a2 e2 he'
    have f := a5.trans b4
    obtain ⟨S', L'', c1, c2, c3, c4, c5⟩ := ih N (s + 1) S2 L' (by omega) (by omega) (h.frB f hv) b2 (by rw [← e2, List.length_append]; omega) b3 (fun t ht => by
      by_cases e : t = s
      · rw [e, hL1]
        exact a4
      · rw [hL2 t e]
        exact hg t (by omega))
    refine ⟨S', L'', ?_, c2, c3, c4, f.trans c5⟩
    unfold m_X9_buildReversed_16
    rw [py_jeL (l := 8) (by omega) (by omega), if_neg (show ¬ 8 ≤ s by omega), a1, py_b, b1, py_b, py_l, py_add1]
    exact c1
theorem pu_hasQ_2 {S : pw_S} {v : Nat} {L : Nat → List uP} (h : px_u S v L) : ∀ (n N i : Nat), n < N → (ul L 8).length = i + n → ∃ r : Int32, m_X9_hasQuotientOrRest_2 N S v (Int32.ofNat i) = some (S, r) ∧ (r = 0 ∨ r = 1) := by
  have h60 := h.1
  intro n
  induction n with
  | zero =>
    intro N i hN hi
    obtain ⟨N, rfl⟩ : ∃ q, N = q + 1 := ⟨N - 1, by omega⟩
    unfold m_X9_hasQuotientOrRest_2
    rw [h.2.1, py_je (by omega) (by omega), if_pos (by omega)]
    exact ⟨0, rfl, Or.inl rfl⟩
  | succ n ih =>
    intro N i hN hi
    obtain ⟨N, rfl⟩ : ∃ q, N = q + 1 := ⟨N - 1, by omega⟩
    obtain ⟨r, a1, a2⟩ := ih N (i + 1) (by omega) (by omega)
    have hk : m_X9_kind S v (Int32.ofNat i) = some (S, S 22 v i) := by
      unfold m_X9_kind
      rw [h.2.1, py_je (by omega) (by omega), if_neg (by omega), py_atI _ _ _ _ _ (show i < 60 by omega), py_b]
    unfold m_X9_hasQuotientOrRest_2
    rw [h.2.1, py_je (by omega) (by omega), if_neg (by omega), hk, py_b]
    by_cases e5 : S 22 v i = 5
    · rw [if_pos e5]
      exact ⟨1, rfl, Or.inr rfl⟩
    · rw [if_neg e5, hk, py_b]
      by_cases e6 : S 22 v i = 6
      · rw [if_pos e6]
        exact ⟨1, rfl, Or.inr rfl⟩
      · rw [if_neg e6, py_l, py_add1]
        exact ⟨r, a1, a2⟩
/-- an upgrade reversed, if it can be -/
theorem pu_buildReversed {S : pw_S} {u v : Nat} {L2 : Nat → List uP} (hv : v ≠ u) (h : px_u S v L2) : ∃ S' r, m_X9_buildReversed S u v = some (S', r) ∧ py_fr (py_KB u) S S' ∧ (r = 0 ∨ (r = 1 ∧ ∃ L, px_u S' u L ∧ ∀ t, t < 8 → urv L2 t (L t))) := by
  have h60 := h.1
  obtain ⟨r, a1, a2⟩ := pu_hasQ_2 h (ul L2 8).length (pw_F 20000) 0 (by rw [py_F]; omega) (by omega)
  have e1 : m_X9_hasQuotientOrRest S v = some (S, r) := by
    unfold m_X9_hasQuotientOrRest
    rw [py_l]
    exact a1
  unfold m_X9_buildReversed
  rw [e1, py_b]
  rcases a2 with rfl | rfl
  · generalize hS0 : pw_up S 57 u (upd (S 57 u) 6 0) = S0
    have f0 : py_fr (py_KB u) S S0 := by
      rw [← hS0]
      exact py_fr_r.up (py_KB_s u).2.2.2.1
    obtain ⟨S', L, b1, b2, b3, b4, b5⟩ := pu_rev_16 (u := u) hv 8 (pw_F 20000) 0 S0 (fun _ => []) (by rw [py_F]; omega) rfl (h.frB f0 hv) ⟨by
      rw [← hS0, py_up_s, py_u_s]
      rfl, fun j hj => absurd hj (Nat.not_lt_zero j)⟩ (Nat.zero_le _) (fun t ht => absurd ht (Nat.not_lt_zero t)) (fun t ht => absurd ht (Nat.not_lt_zero t))
    rw [if_pos rfl, py_l, py_l]
    refine ⟨S', _, b1, f0.trans b5, ?_⟩
    by_cases e : (ul L 8).length ≤ 60
    · rw [if_pos e]
      refine Or.inr ⟨rfl, L, pu_fin b2 b3 e (fun t ht => ?_), b4⟩
      rcases b4 t ht with z | ⟨z1, z2, -⟩
      · exact Or.inl z
      · exact Or.inr ⟨z1, z2⟩
    · rw [if_neg e]
      exact Or.inl rfl
  · rw [if_neg py_10]
    exact ⟨S, 0, rfl, py_fr_r, Or.inl rfl⟩
/-- of what was not there nothing is told -/
theorem uv_rev {L L2 : Nat → List uP} {S : pw_S} {v o : Nat} (h : px_u S v L2) (ho : o < 8) (hr : urv L2 o (L o)) {R : Int32 → Int32} (hN : R (Int32.ofNat o) = -2147483648) : uv (fun n => uv R (upf L2 n)) (L o) = -2147483648 := by
  rcases hr with z | ⟨z1, z2, t, t1, t2, t3⟩
  · rw [z, uv_nil]
  · refine uv_taint z1 t2 rfl ?_
    show uv R (upf L2 (Int32.ofNat t)) = _
    unfold upf
    rw [py_cl (by omega)]
    rcases h.2.2.2.2 t t1 with y | ⟨y1, y2⟩
    · rw [y] at t3
      cases t3
    · exact uv_taint y1 t3 rfl hN
