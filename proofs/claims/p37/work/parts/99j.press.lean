/-! The contract of a press. -/
set_option maxRecDepth 100000 in
theorem C_press {Ls : Nat} {xs : Nat → Int32} (hL : Ls < 1000) : np_Cs Ls xs yL_press cL_press 18 (some .boolean) 12 334 188083 1145773 (fun vs w Q => ∃ x : Int32, vs = [.ref 0, .int x] ∧ (∃ v : Nat, v < 500 ∧ x = Int32.ofNat v) ∧ ∀ r : Int32, r = 1 → Q (some (.int r)) w) := by
  refine np_ofP (P := fun x => ∃ v : Nat, v < 500 ∧ x = Int32.ofNat v) (R := fun r => r = 1) (by decide) (by decide) (fun X x hP hX hf hR => ?_)
  obtain ⟨v, hv, rfl⟩ := hP
  have hR0 : ∀ st w ce sl, (fun (st : List Value) (_ : np_W) (ce sl : Nat) => ce ≤ 188083 ∧ sl ≤ 1145773 ∧ ∃ r, st = [.int r] ∧ narrow .boolean (.int r) = .int r ∧ r = 1) st w ce sl → X.2.2.1 st w ce sl := fun st w ce sl h => by rw [hR]; exact h
  refine np_soundF (so_L_press (Rt := fun (st : List Value) (_ : np_W) (ce sl : Nat) => ce ≤ 188083 ∧ sl ≤ 1145773 ∧ ∃ r, st = [.int r] ∧ narrow .boolean (.int r) = .int r ∧ r = 1) hX hf hR0) (heads := [34]) (Hd := np_H0 (Int32.ofNat v)) (fun pc L st w ce sl h => ?_) 60 0 _ _ _ _ _ run_press0
  obtain ⟨rfl, hLs, rfl, hce, hsl, hw, hall, h4, h5⟩ := h
  obtain ⟨n, f⟩ := w
  have hw : n = 1501 := hw
  subst hw
  rw [rk_eq] at h4 h5
  obtain ⟨f', hW, hF⟩ := pt_world (f := f) ⟨hall, h4, h5⟩
  refine np_raise (by decide) hF (np_gl ?_ hLs)
  obtain ⟨S', hS⟩ := pj_press Ls xs hL hv pS0_I
  have key := L_L_press_34 (n := 65536) (dc := 5797) (ds := 34782) hX hf hR0 (k749 := m_L_press_j749 Ls xs) (fun S g c s hc hs hW h => J_L_press_749 (dc := 0) (ds := 0) hX hf hR0 S g c s hc hs hW h) (pw_F 55) pS0 (Int32.ofNat v) (Int32.ofNat 0) f' ce sl (by rw [py_F]; omega) (by rw [py_F]; omega) hW (by rw [hS]; exact pw_si rfl)
  exact key
