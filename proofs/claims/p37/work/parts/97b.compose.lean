/-! Upgrades composed. -/
theorem pu_tells {S : pw_S} {u s : Nat} {L : Nat → List uP} (h : px_u S u L) (hs : s < 8) : m_X9_tells S u (Int32.ofNat s) = some (S, if L s = [] then 0 else 1) := by
  have hl := pu_len h (show s ≤ 8 by omega)
  have hl1 := pu_len h (show s + 1 ≤ 8 by omega)
  have hL2 : (ul L (s + 1)).length = (ul L s).length + (L s).length := by
    show (ul L s ++ L s).length = _
    rw [List.length_append]
  unfold m_X9_tells
  rw [pu_end h hs, py_b, pu_start h hs, py_b, py_je (by omega) (by omega)]
  by_cases e : L s = []
  · rw [if_pos e, if_pos (by rw [hL2, e]; exact Nat.le_refl _)]
  · have h1 : 0 < (L s).length := List.length_pos_iff.mpr e
    rw [if_neg e, if_neg (show ¬ (ul L (s + 1)).length ≤ (ul L s).length by omega)]
/-- the parts of a slot from a place on -/
theorem pu_dropc {M : List uP} {i : Nat} (hi : i < M.length) : M.drop i = M.getD i (0, 0) :: M.drop (i + 1) ∧ M.getD i (0, 0) ∈ M := by
  refine ⟨?_, ?_⟩
  · rw [List.drop_eq_getElem_cons hi, List.getD_eq_getElem?_getD, List.getElem?_eq_getElem hi]
    rfl
  · rw [List.getD_eq_getElem?_getD, List.getElem?_eq_getElem hi]
    exact List.getElem_mem _
def upf (L1 : Nat → List uP) : Int32 → List uP := fun n => L1 n.toNatClampNeg
/-- all old slots are told -/
def um (L1 : Nat → List uP) (M : List uP) : Prop := ∀ p, p ∈ M → p.1 = 0 → upf L1 p.2 ≠ []
theorem pu_made_6 {S : pw_S} {u v s : Nat} {L1 L2 : Nat → List uP} (h1 : px_u S v L1) (h2 : px_u S u L2) (hs : s < 8) : ∀ (n N i : Nat), n < N → (L2 s).length = i + n → ∃ r : Int32, m_X9_isMadeOf_6 N S u v (Int32.ofNat s) (Int32.ofNat ((ul L2 s).length + i)) = some (S, r) ∧ ((r = 1 ∧ um L1 ((L2 s).drop i)) ∨ (r = 0 ∧ ¬ um L1 ((L2 s).drop i))) := by
  have hl1 := pu_len h2 (show s + 1 ≤ 8 by omega)
  have hL2 : (ul L2 (s + 1)).length = (ul L2 s).length + (L2 s).length := by
    show (ul L2 s ++ L2 s).length = _
    rw [List.length_append]
  intro n
  induction n with
  | zero =>
    intro N i hN hi
    obtain ⟨N, rfl⟩ : ∃ q, N = q + 1 := ⟨N - 1, by omega⟩
    unfold m_X9_isMadeOf_6
    rw [pu_end h2 hs, py_b, hL2, py_je (by omega) (by omega), if_pos (by omega)]
    refine ⟨1, rfl, Or.inl ⟨rfl, fun p hp => ?_⟩⟩
    rw [List.drop_eq_nil_of_le (by omega)] at hp
    cases hp
  | succ n ih =>
    intro N i hN hi
    obtain ⟨N, rfl⟩ : ∃ q, N = q + 1 := ⟨N - 1, by omega⟩
    obtain ⟨r, a1, a2⟩ := ih N (i + 1) (by omega) (by omega)
    obtain ⟨d1, d2⟩ := pu_dropc (M := L2 s) (show i < (L2 s).length by omega)
    unfold m_X9_isMadeOf_6
    rw [pu_end h2 hs, py_b, hL2, py_je (by omega) (by omega), if_neg (by omega), pu_kind h2 hs (by omega), py_b, d1]
    rw [show (ul L2 s).length + (i + 1) = (ul L2 s).length + i + 1 by omega] at a1
    by_cases h0 : ((L2 s).getD i (0, 0)).1 = 0
    · have hslot : ∃ t, t < 8 ∧ ((L2 s).getD i (0, 0)).2 = Int32.ofNat t := by
        rcases h2.2.2.2.2 s hs with z | z
        · rw [z] at d2
          cases d2
        · exact z.2 _ d2 h0
      obtain ⟨t, t1, t2⟩ := hslot
      rw [if_pos h0, pu_number h2 hs (by omega), py_b, t2, pu_tells h1 t1, py_b]
      by_cases e : L1 t = []
      · rw [if_pos e, if_pos rfl]
        refine ⟨0, rfl, Or.inr ⟨rfl, fun z => ?_⟩⟩
        have := z _ List.mem_cons_self h0
        unfold upf at this
        rw [t2, py_cl (by omega)] at this
        exact this e
      · rw [if_neg e, if_neg py_10, py_l, py_add1, a1]
        refine ⟨r, rfl, ?_⟩
        rcases a2 with ⟨b1, b2⟩ | ⟨b1, b2⟩
        · refine Or.inl ⟨b1, fun p hp hp0 => ?_⟩
          rcases List.mem_cons.mp hp with e2 | hp
          · rw [e2]
            unfold upf
            rw [t2, py_cl (by omega)]
            exact e
          · exact b2 p hp hp0
        · exact Or.inr ⟨b1, fun z => b2 (fun p hp hp0 => z p (List.mem_cons_of_mem _ hp) hp0)⟩
    · rw [if_neg h0, py_l, py_add1, a1]
      refine ⟨r, rfl, ?_⟩
      rcases a2 with ⟨b1, b2⟩ | ⟨b1, b2⟩
      · refine Or.inl ⟨b1, fun p hp hp0 => ?_⟩
        rcases List.mem_cons.mp hp with e2 | hp
        · rw [e2] at hp0
          exact absurd hp0 h0
        · exact b2 p hp hp0
      · exact Or.inr ⟨b1, fun z => b2 (fun p hp hp0 => z p (List.mem_cons_of_mem _ hp) hp0)⟩
theorem pu_isMadeOf {S : pw_S} {u v s : Nat} {L1 L2 : Nat → List uP} (h1 : px_u S v L1) (h2 : px_u S u L2) (hs : s < 8) : ∃ r : Int32, m_X9_isMadeOf S u v (Int32.ofNat s) = some (S, r) ∧ ((r = 1 ∧ um L1 (L2 s)) ∨ (r = 0 ∧ ¬ um L1 (L2 s))) := by
  have hl1 := pu_len h2 (show s + 1 ≤ 8 by omega)
  have hL2 : (ul L2 (s + 1)).length = (ul L2 s).length + (L2 s).length := by
    show (ul L2 s ++ L2 s).length = _
    rw [List.length_append]
  obtain ⟨r, a1, a2⟩ := pu_made_6 h1 h2 hs (L2 s).length (pw_F 20000) 0 (by rw [py_F]; omega) (by omega)
  refine ⟨r, ?_, a2⟩
  unfold m_X9_isMadeOf
  rw [pu_start h2 hs, py_b, py_l]
  exact a1
theorem px_u.frB {S S' : pw_S} {u v : Nat} {L : Nat → List uP} (h : px_u S v L) (hf : py_fr (py_KB u) S S') (hne : v ≠ u) : px_u S' v L := h.cong (hf 22 v (py_KB_n hne)) (hf 23 v (py_KB_n hne)) (hf 24 v (py_KB_n hne)) (hf 57 v (py_KB_n hne))
theorem pu_told_6 {u v s : Nat} {L1 : Nat → List uP} (hne : v ≠ u) (hs : s < 8) : ∀ (n N i : Nat) (S : pw_S) (P : List uP), n < N → (L1 s).length = i + n → px_u S v L1 → pu_b S u P → P.length + n < 1000000 →
    ∃ S', m_X9_addTold_6 N S u v (Int32.ofNat s) (Int32.ofNat ((ul L1 s).length + i)) = some (S', ()) ∧ pu_b S' u (P ++ (L1 s).drop i) ∧ py_fr (py_KB u) S S' ∧ S' 24 u = S 24 u := by
  intro n
  induction n with
  | zero =>
    intro N i S P hN hi h1 hb hl
    obtain ⟨N, rfl⟩ : ∃ q, N = q + 1 := ⟨N - 1, by omega⟩
    have hl1 := pu_len h1 (show s + 1 ≤ 8 by omega)
    have hL2 : (ul L1 (s + 1)).length = (ul L1 s).length + (L1 s).length := by
      show (ul L1 s ++ L1 s).length = _
      rw [List.length_append]
    unfold m_X9_addTold_6
    rw [pu_end h1 hs, py_b, hL2, py_je (by omega) (by omega), if_pos (by omega), List.drop_eq_nil_of_le (by omega), List.append_nil]
    exact ⟨S, rfl, hb, py_fr_r, rfl⟩
  | succ n ih =>
    intro N i S P hN hi h1 hb hl
    obtain ⟨N, rfl⟩ : ∃ q, N = q + 1 := ⟨N - 1, by omega⟩
    have hl1 := pu_len h1 (show s + 1 ≤ 8 by omega)
    have hL2 : (ul L1 (s + 1)).length = (ul L1 s).length + (L1 s).length := by
      show (ul L1 s ++ L1 s).length = _
      rw [List.length_append]
    obtain ⟨d1, d2⟩ := pu_dropc (M := L1 s) (show i < (L1 s).length by omega)
    obtain ⟨S1, a1, a2, a3, a4⟩ := pu_add hb (by omega) ((L1 s).getD i (0, 0)).1 ((L1 s).getD i (0, 0)).2
    obtain ⟨S', b1, b2, b3, b4⟩ := ih N (i + 1) S1 (P ++ [(L1 s).getD i (0, 0)]) (by omega) (by omega) (h1.frB a3 hne) a2 (by rw [List.length_append]; show P.length + 1 + n < _; omega)
    rw [show (ul L1 s).length + (i + 1) = (ul L1 s).length + i + 1 by omega] at b1
    refine ⟨S', ?_, ?_, a3.trans b3, b4.trans a4⟩
    · unfold m_X9_addTold_6
      rw [pu_end h1 hs, py_b, hL2, py_je (by omega) (by omega), if_neg (by omega), pu_kind h1 hs (by omega), py_b, pu_number h1 hs (by omega), py_b, a1, py_b, py_l, py_add1]
      exact b1
    · rw [d1]
      rw [List.append_assoc] at b2
      exact b2
theorem pu_addTold {u v s : Nat} {L1 : Nat → List uP} {S : pw_S} {P : List uP} (hne : v ≠ u) (hs : s < 8) (h1 : px_u S v L1) (hb : pu_b S u P) (hl : P.length + 60 < 1000000) : ∃ S', m_X9_addTold S u v (Int32.ofNat s) = some (S', ()) ∧ pu_b S' u (P ++ L1 s) ∧ py_fr (py_KB u) S S' ∧ S' 24 u = S 24 u := by
  have hl1 := pu_len h1 (show s + 1 ≤ 8 by omega)
  have hL2 : (ul L1 (s + 1)).length = (ul L1 s).length + (L1 s).length := by
    show (ul L1 s ++ L1 s).length = _
    rw [List.length_append]
  obtain ⟨S', a1, a2, a3, a4⟩ := pu_told_6 hne hs (L1 s).length (pw_F 20000) 0 S P (by rw [py_F]; omega) (by omega) h1 hb (by omega)
  refine ⟨S', ?_, a2, a3, a4⟩
  unfold m_X9_addTold
  rw [pu_start h1 hs, py_b, py_l]
  exact a1
theorem pu_comp_7 {u v w s : Nat} {L1 L2 : Nat → List uP} (hv : v ≠ u) (hw : w ≠ u) (hs : s < 8) : ∀ (n N i : Nat) (S : pw_S) (P : List uP), n < N → (L2 s).length = i + n → px_u S v L1 → px_u S w L2 → pu_b S u P → P.length + 60 * n + 60 < 1000000 →
    ∃ S', m_X9_addComposed_7 N S u v w (Int32.ofNat s) (Int32.ofNat ((ul L2 s).length + i)) = some (S', ()) ∧ pu_b S' u (P ++ ((L2 s).drop i).flatMap (usb (upf L1))) ∧ (P ++ ((L2 s).drop i).flatMap (usb (upf L1))).length ≤ P.length + 60 * n ∧ py_fr (py_KB u) S S' ∧ S' 24 u = S 24 u := by
  intro n
  induction n with
  | zero =>
    intro N i S P hN hi h1 h2 hb hl
    obtain ⟨N, rfl⟩ : ∃ q, N = q + 1 := ⟨N - 1, by omega⟩
    have hl1 := pu_len h2 (show s + 1 ≤ 8 by omega)
    have hL2 : (ul L2 (s + 1)).length = (ul L2 s).length + (L2 s).length := by
      show (ul L2 s ++ L2 s).length = _
      rw [List.length_append]
    unfold m_X9_addComposed_7
    rw [pu_end h2 hs, py_b, hL2, py_je (by omega) (by omega), if_pos (by omega), List.drop_eq_nil_of_le (by omega), List.flatMap_nil, List.append_nil]
    exact ⟨S, rfl, hb, by omega, py_fr_r, rfl⟩
  | succ n ih =>
    intro N i S P hN hi h1 h2 hb hl
    obtain ⟨N, rfl⟩ : ∃ q, N = q + 1 := ⟨N - 1, by omega⟩
    have hl1 := pu_len h2 (show s + 1 ≤ 8 by omega)
    have hL2 : (ul L2 (s + 1)).length = (ul L2 s).length + (L2 s).length := by
      show (ul L2 s ++ L2 s).length = _
      rw [List.length_append]
    obtain ⟨d1, d2⟩ := pu_dropc (M := L2 s) (show i < (L2 s).length by omega)
    unfold m_X9_addComposed_7
    rw [pu_end h2 hs, py_b, hL2, py_je (by omega) (by omega), if_neg (by omega), pu_kind h2 hs (by omega), py_b, d1, List.flatMap_cons, ← List.append_assoc]
    by_cases h0 : ((L2 s).getD i (0, 0)).1 = 0
    · have hslot : ∃ t, t < 8 ∧ ((L2 s).getD i (0, 0)).2 = Int32.ofNat t := by
        rcases h2.2.2.2.2 s hs with z | z
        · rw [z] at d2
          cases d2
        · exact z.2 _ d2 h0
      obtain ⟨t, t1, t2⟩ := hslot
      have eF : usb (upf L1) ((L2 s).getD i (0, 0)) = L1 t := by
        unfold usb upf
        rw [if_pos h0, t2, py_cl (by omega)]
      have hlt : (L1 t).length ≤ 60 := by
        have q1 := pu_len h1 (show t + 1 ≤ 8 by omega)
        have q2 : (ul L1 (t + 1)).length = (ul L1 t).length + (L1 t).length := by
          show (ul L1 t ++ L1 t).length = _
          rw [List.length_append]
        omega
      obtain ⟨S1, a1, a2, a3, a4⟩ := pu_addTold hv t1 h1 hb (by omega)
      obtain ⟨S', b1, b2, b3, b4, b5⟩ := ih N (i + 1) S1 (P ++ L1 t) (by omega) (by omega) (h1.frB a3 hv) (h2.frB a3 hw) a2 (by rw [List.length_append]; omega)
      rw [show (ul L2 s).length + (i + 1) = (ul L2 s).length + i + 1 by omega] at b1
      rw [if_pos h0, pu_number h2 hs (by omega), py_b, t2, a1, py_b, py_l, py_add1, eF]
      exact ⟨S', b1, b2, Nat.le_trans b3 (by rw [List.length_append]; omega), a3.trans b4, b5.trans a4⟩
    · have eF : usb (upf L1) ((L2 s).getD i (0, 0)) = [(L2 s).getD i (0, 0)] := if_neg h0
      obtain ⟨S1, a1, a2, a3, a4⟩ := pu_add hb (by omega) ((L2 s).getD i (0, 0)).1 ((L2 s).getD i (0, 0)).2
      have hlen : (P ++ [(L2 s).getD i (0, 0)]).length = P.length + 1 := by
        rw [List.length_append]
        rfl
      obtain ⟨S', b1, b2, b3, b4, b5⟩ := ih N (i + 1) S1 (P ++ [(L2 s).getD i (0, 0)]) (by omega) (by omega) (h1.frB a3 hv) (h2.frB a3 hw) a2 (by omega)
      rw [show (ul L2 s).length + (i + 1) = (ul L2 s).length + i + 1 by omega] at b1
      rw [if_neg h0, pu_kind h2 hs (by omega), py_b, pu_number h2 hs (by omega), py_b, a1, py_b, py_l, py_add1, eF]
      exact ⟨S', b1, b2, by omega, a3.trans b4, b5.trans a4⟩
theorem pu_addComposed {u v w s : Nat} {L1 L2 : Nat → List uP} {S : pw_S} {P : List uP} (hv : v ≠ u) (hw : w ≠ u) (hs : s < 8) (h1 : px_u S v L1) (h2 : px_u S w L2) (hb : pu_b S u P) (hl : P.length < 10000) : ∃ S', m_X9_addComposed S u v w (Int32.ofNat s) = some (S', ()) ∧ pu_b S' u (P ++ (L2 s).flatMap (usb (upf L1))) ∧ (P ++ (L2 s).flatMap (usb (upf L1))).length ≤ P.length + 60 * (L2 s).length ∧ py_fr (py_KB u) S S' ∧ S' 24 u = S 24 u := by
  have hl1 := pu_len h2 (show s + 1 ≤ 8 by omega)
  have hL2 : (ul L2 (s + 1)).length = (ul L2 s).length + (L2 s).length := by
    show (ul L2 s ++ L2 s).length = _
    rw [List.length_append]
  obtain ⟨S', a1, a2, a3, a4, a5⟩ := pu_comp_7 hv hw hs (L2 s).length (pw_F 20000) 0 S P (by rw [py_F]; omega) (by omega) h1 h2 hb (by omega)
  refine ⟨S', ?_, a2, a3, a4, a5⟩
  unfold m_X9_addComposed
  rw [pu_start h2 hs, py_b, py_l]
  exact a1
theorem pu_comps_7 {u v w : Nat} {L1 L2 L : Nat → List uP} (hv : v ≠ u) (hw : w ≠ u) (hL : ∀ s, s < 8 → (um L1 (L2 s) ∧ L s = (L2 s).flatMap (usb (upf L1))) ∨ (¬ um L1 (L2 s) ∧ L s = [])) : ∀ (n N s : Nat) (S : pw_S), n < N → 8 = s + n → px_u S v L1 → px_u S w L2 → pu_b S u (ul L s) → (ul L s).length ≤ 60 * (ul L2 s).length → pu_e S u L s →
    ∃ S', m_X9_buildComposed_7 N S u v w (Int32.ofNat s) = some (S', if (ul L 8).length ≤ 60 then 1 else 0) ∧ pu_b S' u (ul L 8) ∧ pu_e S' u L 8 ∧ py_fr (py_KB u) S S' := by
  intro n
  induction n with
  | zero =>
    intro N s S hN hs h1 h2 hb hl he
    obtain ⟨N, rfl⟩ : ∃ q, N = q + 1 := ⟨N - 1, by omega⟩
    have e8 : s = 8 := by omega
    subst e8
    have h60 := h2.1
    unfold m_X9_buildComposed_7
    rw [if_pos (show (8 : Int32) ≤ Int32.ofNat 8 by decide), hb.1, py_jlL (l := 60) (by omega) (by omega)]
    by_cases e : 60 < (ul L 8).length
    · rw [if_pos e, if_neg (show ¬ (ul L 8).length ≤ 60 by omega)]
      exact ⟨S, rfl, hb, he, py_fr_r⟩
    · rw [if_neg e, if_pos (show (ul L 8).length ≤ 60 by omega)]
      exact ⟨S, rfl, hb, he, py_fr_r⟩
  | succ n ih =>
    intro N s S hN hs h1 h2 hb hl he
    obtain ⟨N, rfl⟩ : ∃ q, N = q + 1 := ⟨N - 1, by omega⟩
    have h60 := pu_len h2 (show s + 1 ≤ 8 by omega)
    have hL2 : (ul L2 (s + 1)).length = (ul L2 s).length + (L2 s).length := by
      show (ul L2 s ++ L2 s).length = _
      rw [List.length_append]
    obtain ⟨r, a1, a2⟩ := pu_isMadeOf h1 h2 (show s < 8 by omega)
    unfold m_X9_buildComposed_7
    rw [py_jeL (l := 8) (by omega) (by omega), if_neg (show ¬ 8 ≤ s by omega), a1, py_b]
    rcases a2 with ⟨rfl, hm⟩ | ⟨rfl, hm⟩
    · have eL : L s = (L2 s).flatMap (usb (upf L1)) := by
        rcases hL s (by omega) with z | z
        · exact z.2
        · exact absurd hm z.1
      obtain ⟨S1, b1, b2, b3, b4, b5⟩ := pu_addComposed hv hw (show s < 8 by omega) h1 h2 hb (by omega)
      have eQ : ul L s ++ (L2 s).flatMap (usb (upf L1)) = ul L (s + 1) := by
        rw [← eL]
        rfl
      obtain ⟨S2, c1, c2, c3, c4⟩ := pu_endput (show s < 8 by omega) b2 eQ (fun t ht => by rw [b5]; exact he t ht)
      rw [eQ] at b3
      have f := b4.trans c4
      obtain ⟨S', d1, d2, d3, d4⟩ := ih N (s + 1) S2 (by omega) (by omega) (h1.frB f hv) (h2.frB f hw) c2 (by omega) c3
      rw [if_neg py_10, b1, py_b, c1, py_b, py_l, py_add1]
      exact ⟨S', d1, d2, d3, f.trans d4⟩
    · have eL : L s = [] := by
        rcases hL s (by omega) with z | z
        · exact absurd z.1 hm
        · exact z.2
      have eQ : ul L s = ul L (s + 1) := by
        show _ = ul L s ++ L s
        rw [eL, List.append_nil]
      obtain ⟨S2, c1, c2, c3, c4⟩ := pu_endput (show s < 8 by omega) hb eQ he
      obtain ⟨S', d1, d2, d3, d4⟩ := ih N (s + 1) S2 (by omega) (by omega) (h1.frB c4 hv) (h2.frB c4 hw) c2 (by rw [← eQ]; omega) c3
      rw [if_pos rfl, c1, py_b, py_l, py_add1]
      exact ⟨S', d1, d2, d3, c4.trans d4⟩
theorem pu_flat_ok {L1 L2 : Nat → List uP} {S : pw_S} {v w s : Nat} (h1 : px_u S v L1) (h2 : px_u S w L2) (hs : s < 8) (hm : um L1 (L2 s)) : uok ((L2 s).flatMap (usb (upf L1))) ∧ ∀ R, uv R ((L2 s).flatMap (usb (upf L1))) = uv (fun n => uv R (upf L1 n)) (L2 s) := by
  rcases h2.2.2.2.2 s hs with z | ⟨z1, z2⟩
  · rw [z]
    exact ⟨Or.inl rfl, fun R => rfl⟩
  · have hF : ∀ p, p ∈ L2 s → p.1 = 0 → uwf (upf L1 p.2) ∧ ∀ q, q ∈ upf L1 p.2 → q.1 = 0 → ∃ t, t < 8 ∧ q.2 = Int32.ofNat t := fun p hp h0 => by
      obtain ⟨t, t1, t2⟩ := z2 p hp h0
      have e := hm p hp h0
      unfold upf at e ⊢
      rw [t2, py_cl (by omega)] at e ⊢
      rcases h1.2.2.2.2 t t1 with y | y
      · exact absurd y e
      · exact y
    refine ⟨Or.inr ⟨uwf_sub z1 (fun p hp h0 => (hF p hp h0).1), fun q hq h0 => ?_⟩, uv_sub z1 (fun p hp h0 => (hF p hp h0).1)⟩
    obtain ⟨p, p1, p2⟩ := List.mem_flatMap.mp hq
    unfold usb at p2
    by_cases e : p.1 = 0
    · rw [if_pos e] at p2
      exact (hF p p1 e).2 q p2 h0
    · rw [if_neg e] at p2
      rw [List.mem_singleton.mp p2] at h0
      exact absurd h0 e
/-- what is told of two upgrades composed is what the second tells of what the first tells -/
theorem pu_buildComposed {S : pw_S} {u v w : Nat} {L1 L2 : Nat → List uP} (hv : v ≠ u) (hw : w ≠ u) (h1 : px_u S v L1) (h2 : px_u S w L2) : ∃ S' L, m_X9_buildComposed S u v w = some (S', if (ul L 8).length ≤ 60 then 1 else 0) ∧ ((ul L 8).length ≤ 60 → px_u S' u L) ∧ (∀ s, s < 8 → ∀ R, uv R (L s) = uv (fun n => uv R (upf L1 n)) (L2 s)) ∧ py_fr (py_KB u) S S' := by
  generalize hS0 : pw_up S 57 u (upd (S 57 u) 6 0) = S0
  have f0 : py_fr (py_KB u) S S0 := by
    rw [← hS0]
    exact py_fr_r.up (py_KB_s u).2.2.2.1
  obtain ⟨L, hLe⟩ : ∃ L : Nat → List uP, ∀ s, (um L1 (L2 s) ∧ L s = (L2 s).flatMap (usb (upf L1))) ∨ (¬ um L1 (L2 s) ∧ L s = []) := by
    refine ⟨fun s => @ite _ (um L1 (L2 s)) (Classical.propDecidable _) ((L2 s).flatMap (usb (upf L1))) [], fun s => ?_⟩
    by_cases e : um L1 (L2 s)
    · exact Or.inl ⟨e, if_pos e⟩
    · exact Or.inr ⟨e, if_neg e⟩
  obtain ⟨S', a1, a2, a3, a4⟩ := pu_comps_7 (u := u) (L := L) hv hw (fun s _ => hLe s) 8 (pw_F 20000) 0 S0 (by rw [py_F]; omega) rfl (h1.frB f0 hv) (h2.frB f0 hw) ⟨by
    rw [← hS0, py_up_s, py_u_s]
    rfl, fun j hj => absurd hj (Nat.not_lt_zero j)⟩ (Nat.zero_le _) (fun t ht => absurd ht (Nat.not_lt_zero t))
  refine ⟨S', L, ?_, fun h60 => pu_fin a2 a3 h60 (fun s hs => ?_), fun s hs R => ?_, f0.trans a4⟩
  · unfold m_X9_buildComposed
    rw [hS0, py_l, py_l]
    exact a1
  · rcases hLe s with ⟨z1, z2⟩ | ⟨z1, z2⟩
    · rw [z2]
      exact (pu_flat_ok h1 h2 hs z1).1
    · exact Or.inl z2
  · rcases hLe s with ⟨z1, z2⟩ | ⟨z1, z2⟩
    · rw [z2]
      exact (pu_flat_ok h1 h2 hs z1).2 R
    · rw [z2, uv_nil]
      have hex : ∃ p, p ∈ L2 s ∧ p.1 = 0 ∧ upf L1 p.2 = [] := Classical.byContradiction fun hn => z1 (fun p p1 p2 p3 => hn ⟨p, p1, p2, p3⟩)
      obtain ⟨p, p1, p2, p3⟩ := hex
      rcases h2.2.2.2.2 s hs with y | ⟨y1, y2⟩
      · rw [y] at p1
        cases p1
      · refine (uv_taint y1 p1 p2 ?_).symm
        show uv R (upf L1 p.2) = _
        rw [p3, uv_nil]
