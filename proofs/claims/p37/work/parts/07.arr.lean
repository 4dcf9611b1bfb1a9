/-! Arrays, new objects. -/
theorem np_s_alen {X : np_Ctx} {pc : Nat} {own : String} {cc : ByteArray} {nL RF RL RC RS : Nat} {rI : Instr} (hX : np_ok own cc nL RF RL RC RS rI X) (d : decode cc pc = .ok (.arraylength, 1)) : np_S X pc np_alen := by
  obtain ⟨⟨p, l, e, R, s, m, args, below, meth, c⟩, ⟨Q, D, cA, A, ad0, n0, nL'⟩, Rt, Th⟩ := X
  obtain ⟨hx, hb, hml, rfl, hown, hsd, hK, hA, hRF, hRL, hRC, hRS, hret, hlt, hzq, hth⟩ := hX
  intro k hk L st w ce sl hop H locs ad ls hl hp
  unfold np_alen at hop
  split at hop
  · rename_i a r
    split at hop
    · rename_i ty n x hwa
      have hty : ty ∈ np_tys := (hp.1.1 a _ hwa).2.2.2.1
      have hkk := hk _ _ _ _ _ _ hop H locs ad ls hl (hp.to hp.2.1 (np_c_cons trivial (np_c_tl hp.2.2.1)))
      have hone := hp.1.one hwa
      rcases x with f | f | f | f | f
      · exact va_alen hx hb (np_Ki hK hty) hone 0 0 rfl rfl rfl d hkk
      · exact va_alen hx hb (np_Ki hK hty) hone 0 0 rfl rfl rfl d hkk
      · exact va_alen hx hb (np_Ki hK hty) hone 0 0 rfl rfl rfl d hkk
      · exact va_alen hx hb (np_Ki hK hty) hone 0 0 rfl rfl rfl d hkk
      · exact va_alen hx hb (np_Ki hK hty) hone 0 0 rfl rfl rfl d hkk
    · exact absurd hop id
  · exact absurd hop id
theorem np_s_iald {X : np_Ctx} {pc : Nat} {own : String} {cc : ByteArray} {nL RF RL RC RS : Nat} {rI : Instr} (hX : np_ok own cc nL RF RL RC RS rI X) (d : decode cc pc = .ok (.iaload, 1)) : np_S X pc (np_ialdT .int) := by
  obtain ⟨⟨p, l, e, R, s, m, args, below, meth, c⟩, ⟨Q, D, cA, A, ad0, n0, nL'⟩, Rt, Th⟩ := X
  obtain ⟨hx, hb, hml, rfl, hown, hsd, hK, hA, hRF, hRL, hRC, hRS, hret, hlt, hzq, hth⟩ := hX
  intro k hk L st w ce sl hop H locs ad ls hl hp
  unfold np_ialdT at hop
  split at hop
  · rename_i i a r
    split at hop
    · rename_i t n f hwa
      obtain ⟨rfl, hin, hop⟩ := hop
      exact va_iald hx hb (np_Ki hK (hp.1.1 a _ hwa).2.2.2.1) (hp.1.one hwa) 0 0 rfl rfl hin d (hk _ _ _ _ _ _ hop H locs ad ls hl (hp.to hp.2.1 (np_c_cons trivial (np_c_tl (np_c_tl hp.2.2.1)))))
    · exact absurd hop id
  · exact absurd hop id
theorem np_s_cald {X : np_Ctx} {pc : Nat} {own : String} {cc : ByteArray} {nL RF RL RC RS : Nat} {rI : Instr} (hX : np_ok own cc nL RF RL RC RS rI X) (d : decode cc pc = .ok (.caload, 1)) : np_S X pc (np_ialdT .char) := by
  obtain ⟨⟨p, l, e, R, s, m, args, below, meth, c⟩, ⟨Q, D, cA, A, ad0, n0, nL'⟩, Rt, Th⟩ := X
  obtain ⟨hx, hb, hml, rfl, hown, hsd, hK, hA, hRF, hRL, hRC, hRS, hret, hlt, hzq, hth⟩ := hX
  intro k hk L st w ce sl hop H locs ad ls hl hp
  unfold np_ialdT at hop
  split at hop
  · rename_i i a r
    split at hop
    · rename_i t n f hwa
      obtain ⟨rfl, hin, hop⟩ := hop
      exact va_cald hx hb (np_Ki hK (hp.1.1 a _ hwa).2.2.2.1) (hp.1.one hwa) 0 0 rfl rfl hin d (hk _ _ _ _ _ _ hop H locs ad ls hl (hp.to hp.2.1 (np_c_cons trivial (np_c_tl (np_c_tl hp.2.2.1)))))
    · exact absurd hop id
  · exact absurd hop id
theorem np_s_zald {X : np_Ctx} {pc : Nat} {own : String} {cc : ByteArray} {nL RF RL RC RS : Nat} {rI : Instr} (hX : np_ok own cc nL RF RL RC RS rI X) (d : decode cc pc = .ok (.baload, 1)) : np_S X pc (np_ialdT .boolean) := by
  obtain ⟨⟨p, l, e, R, s, m, args, below, meth, c⟩, ⟨Q, D, cA, A, ad0, n0, nL'⟩, Rt, Th⟩ := X
  obtain ⟨hx, hb, hml, rfl, hown, hsd, hK, hA, hRF, hRL, hRC, hRS, hret, hlt, hzq, hth⟩ := hX
  intro k hk L st w ce sl hop H locs ad ls hl hp
  unfold np_ialdT at hop
  split at hop
  · rename_i i a r
    split at hop
    · rename_i t n f hwa
      obtain ⟨rfl, hin, hop⟩ := hop
      exact va_zald hx hb (np_Ki hK (hp.1.1 a _ hwa).2.2.2.1) (hp.1.one hwa) 0 0 rfl rfl hin d (hk _ _ _ _ _ _ hop H locs ad ls hl (hp.to hp.2.1 (np_c_cons trivial (np_c_tl (np_c_tl hp.2.2.1)))))
    · exact absurd hop id
  · exact absurd hop id
theorem np_s_lald {X : np_Ctx} {pc : Nat} {own : String} {cc : ByteArray} {nL RF RL RC RS : Nat} {rI : Instr} (hX : np_ok own cc nL RF RL RC RS rI X) (d : decode cc pc = .ok (.laload, 1)) : np_S X pc np_lald := by
  obtain ⟨⟨p, l, e, R, s, m, args, below, meth, c⟩, ⟨Q, D, cA, A, ad0, n0, nL'⟩, Rt, Th⟩ := X
  obtain ⟨hx, hb, hml, rfl, hown, hsd, hK, hA, hRF, hRL, hRC, hRS, hret, hlt, hzq, hth⟩ := hX
  intro k hk L st w ce sl hop H locs ad ls hl hp
  unfold np_lald at hop
  split at hop
  · rename_i i a r
    split at hop
    · rename_i t n f hwa
      obtain ⟨rfl, hin, hop⟩ := hop
      exact va_lald hx hb (np_Ki hK (hp.1.1 a _ hwa).2.2.2.1) (hp.1.one hwa) 0 0 rfl rfl hin d (hk _ _ _ _ _ _ hop H locs ad ls hl (hp.to hp.2.1 (np_c_cons trivial (np_c_tl (np_c_tl hp.2.2.1)))))
    · exact absurd hop id
  · exact absurd hop id
theorem np_s_aald {X : np_Ctx} {pc : Nat} {own : String} {cc : ByteArray} {nL RF RL RC RS : Nat} {rI : Instr} (hX : np_ok own cc nL RF RL RC RS rI X) {C : String} (d : decode cc pc = .ok (.aaload, 1)) : np_S X pc (np_aald C) := by
  obtain ⟨⟨p, l, e, R, s, m, args, below, meth, c⟩, ⟨Q, D, cA, A, ad0, n0, nL'⟩, Rt, Th⟩ := X
  obtain ⟨hx, hb, hml, rfl, hown, hsd, hK, hA, hRF, hRL, hRC, hRS, hret, hlt, hzq, hth⟩ := hX
  intro k hk L st w ce sl hop H locs ad ls hl hp
  unfold np_aald at hop
  split at hop
  · rename_i i a r
    split at hop
    · rename_i t n f hwa
      obtain ⟨rfl, hin, hop⟩ := hop
      refine va_aldq (C := C) hx hb (np_Ki hK (hp.1.1 a _ hwa).2.2.2.1) (hp.1.one hwa) 0 0 rfl rfl hin d ?_
      split at hop
      · rename_i b hb9
        show W p l e R s m args below meth c H locs ce sl Q (F0 m (pc + 1) ls (va_rf ((f i.toNatClampNeg).map ad) :: r.map (np_v ad)))
        rw [hb9]
        exact hk _ _ _ _ _ _ hop H locs ad ls hl (hp.to hp.2.1 (np_c_cons ((hp.1.1 a _ hwa).2.2.1 _ _ hb9) (np_c_tl (np_c_tl hp.2.2.1))))
      · rename_i hb9
        show W p l e R s m args below meth c H locs ce sl Q (F0 m (pc + 1) ls (va_rf ((f i.toNatClampNeg).map ad) :: r.map (np_v ad)))
        rw [hb9]
        exact hk _ _ _ _ _ _ hop H locs ad ls hl (hp.to hp.2.1 (np_c_cons trivial (np_c_tl (np_c_tl hp.2.2.1))))
    · exact absurd hop id
  · exact absurd hop id
theorem np_s_iast {X : np_Ctx} {pc : Nat} {own : String} {cc : ByteArray} {nL RF RL RC RS : Nat} {rI : Instr} (hX : np_ok own cc nL RF RL RC RS rI X) (d : decode cc pc = .ok (.iastore, 1)) : np_S X pc (np_iastT .int) := by
  obtain ⟨⟨p, l, e, R, s, m, args, below, meth, c⟩, ⟨Q, D, cA, A, ad0, n0, nL'⟩, Rt, Th⟩ := X
  obtain ⟨hx, hb, hml, rfl, hown, hsd, hK, hA, hRF, hRL, hRC, hRS, hret, hlt, hzq, hth⟩ := hX
  intro k hk L st w ce sl hop H locs ad ls hl hp
  unfold np_iastT at hop
  split at hop
  · rename_i x i a r
    split at hop
    · rename_i t n f hwa
      obtain ⟨rfl, hin, hop⟩ := hop
      refine W.iast hx hb (hp.1.1 a _ hwa).1 ((np_Kt hK (hp.1.1 a _ hwa).2.2.2.1).1 n (fun j => .int (f j))) (fun q => by cases q) (by show ¬ (i < 0 ∨ (arrV _ _ _).slots.size ≤ _); rw [arrV_size]; exact hin) rfl rfl d fun H1 e1 z oq => ?_
      refine hk _ _ _ _ _ _ hop H1 _ ad ls hl (hp.set hwa ?_ z oq trivial (hp.1.1 a _ hwa).2.2.2.1 (np_c_tl (np_c_tl (np_c_tl hp.2.2.1))))
      show H1[ad a]? = some (vp_cell _ _)
      rw [e1]
      rw [vp_cell_i, vp_cell_i, arrV_store]
      congr 2
      funext q
      by_cases hq : q = i.toNatClampNeg
      · subst hq
        simp [updV, upd, vp_nar, narrow]
      · simp [updV, upd, hq]
    · exact absurd hop id
  · exact absurd hop id
theorem np_s_cast {X : np_Ctx} {pc : Nat} {own : String} {cc : ByteArray} {nL RF RL RC RS : Nat} {rI : Instr} (hX : np_ok own cc nL RF RL RC RS rI X) (d : decode cc pc = .ok (.castore, 1)) : np_S X pc (np_iastT .char) := by
  obtain ⟨⟨p, l, e, R, s, m, args, below, meth, c⟩, ⟨Q, D, cA, A, ad0, n0, nL'⟩, Rt, Th⟩ := X
  obtain ⟨hx, hb, hml, rfl, hown, hsd, hK, hA, hRF, hRL, hRC, hRS, hret, hlt, hzq, hth⟩ := hX
  intro k hk L st w ce sl hop H locs ad ls hl hp
  unfold np_iastT at hop
  split at hop
  · rename_i x i a r
    split at hop
    · rename_i t n f hwa
      obtain ⟨rfl, hin, hop⟩ := hop
      refine W.cast hx hb (hp.1.1 a _ hwa).1 ((np_Kt hK (hp.1.1 a _ hwa).2.2.2.1).1 n (fun j => .int (f j))) (fun q => by cases q) (by show ¬ (i < 0 ∨ (arrV _ _ _).slots.size ≤ _); rw [arrV_size]; exact hin) rfl rfl d fun H1 e1 z oq => ?_
      refine hk _ _ _ _ _ _ hop H1 _ ad ls hl (hp.set hwa ?_ z oq trivial (hp.1.1 a _ hwa).2.2.2.1 (np_c_tl (np_c_tl (np_c_tl hp.2.2.1))))
      show H1[ad a]? = some (vp_cell _ _)
      rw [e1]
      rw [vp_cell_i, vp_cell_i, arrV_store]
      congr 2
      funext q
      by_cases hq : q = i.toNatClampNeg
      · subst hq
        simp [updV, upd, vp_nar, narrow]
      · simp [updV, upd, hq]
    · exact absurd hop id
  · exact absurd hop id
theorem np_s_zast {X : np_Ctx} {pc : Nat} {own : String} {cc : ByteArray} {nL RF RL RC RS : Nat} {rI : Instr} (hX : np_ok own cc nL RF RL RC RS rI X) (d : decode cc pc = .ok (.bastore, 1)) : np_S X pc (np_iastT .boolean) := by
  obtain ⟨⟨p, l, e, R, s, m, args, below, meth, c⟩, ⟨Q, D, cA, A, ad0, n0, nL'⟩, Rt, Th⟩ := X
  obtain ⟨hx, hb, hml, rfl, hown, hsd, hK, hA, hRF, hRL, hRC, hRS, hret, hlt, hzq, hth⟩ := hX
  intro k hk L st w ce sl hop H locs ad ls hl hp
  unfold np_iastT at hop
  split at hop
  · rename_i x i a r
    split at hop
    · rename_i t n f hwa
      obtain ⟨rfl, hin, hop⟩ := hop
      refine W.zast hx hb (hp.1.1 a _ hwa).1 ((np_Kt hK (hp.1.1 a _ hwa).2.2.2.1).1 n (fun j => .int (f j))) (fun q => by cases q) (by show ¬ (i < 0 ∨ (arrV _ _ _).slots.size ≤ _); rw [arrV_size]; exact hin) rfl rfl d fun H1 e1 z oq => ?_
      refine hk _ _ _ _ _ _ hop H1 _ ad ls hl (hp.set hwa ?_ z oq trivial (hp.1.1 a _ hwa).2.2.2.1 (np_c_tl (np_c_tl (np_c_tl hp.2.2.1))))
      show H1[ad a]? = some (vp_cell _ _)
      rw [e1]
      rw [vp_cell_i, vp_cell_i, arrV_store]
      congr 2
      funext q
      by_cases hq : q = i.toNatClampNeg
      · subst hq
        simp [updV, upd, vp_nar, narrow]
      · simp [updV, upd, hq]
    · exact absurd hop id
  · exact absurd hop id
theorem np_s_last {X : np_Ctx} {pc : Nat} {own : String} {cc : ByteArray} {nL RF RL RC RS : Nat} {rI : Instr} (hX : np_ok own cc nL RF RL RC RS rI X) (d : decode cc pc = .ok (.lastore, 1)) : np_S X pc np_last := by
  obtain ⟨⟨p, l, e, R, s, m, args, below, meth, c⟩, ⟨Q, D, cA, A, ad0, n0, nL'⟩, Rt, Th⟩ := X
  obtain ⟨hx, hb, hml, rfl, hown, hsd, hK, hA, hRF, hRL, hRC, hRS, hret, hlt, hzq, hth⟩ := hX
  intro k hk L st w ce sl hop H locs ad ls hl hp
  unfold np_last at hop
  split at hop
  · rename_i x i a r
    split at hop
    · rename_i t n f hwa
      obtain ⟨rfl, hin, hop⟩ := hop
      refine W.last hx hb (hp.1.1 a _ hwa).1 ((np_Kt hK (hp.1.1 a _ hwa).2.2.2.1).1 n (fun j => .long (f j))) (fun q => by cases q) (by show ¬ (i < 0 ∨ (arrV _ _ _).slots.size ≤ _); rw [arrV_size]; exact hin) rfl rfl d fun H1 e1 z oq => ?_
      refine hk _ _ _ _ _ _ hop H1 _ ad ls hl (hp.set hwa ?_ z oq trivial (hp.1.1 a _ hwa).2.2.2.1 (np_c_tl (np_c_tl (np_c_tl hp.2.2.1))))
      show H1[ad a]? = some (vp_cell _ _)
      rw [e1]
      rw [vp_cell_l, vp_cell_l, arrV_store]
      congr 2
      funext q
      by_cases hq : q = i.toNatClampNeg
      · subst hq
        simp [updV, vp_updL]
      · simp [updV, vp_updL, hq]
    · exact absurd hop id
  · exact absurd hop id
theorem np_s_aast {X : np_Ctx} {pc : Nat} {own : String} {cc : ByteArray} {nL RF RL RC RS : Nat} {rI : Instr} (hX : np_ok own cc nL RF RL RC RS rI X) {ci : Nat} {r0 : vw_C} (hc : vwCl[ci]? = some r0) (d : decode cc pc = .ok (.aastore, 1)) : np_S X pc (np_aast ci r0.1) := by
  obtain ⟨⟨p, l, e, R, s, m, args, below, meth, c⟩, ⟨Q, D, cA, A, ad0, n0, nL'⟩, Rt, Th⟩ := X
  obtain ⟨hx, hb, hml, rfl, hown, hsd, hK, hA, hRF, hRL, hRC, hRS, hret, hlt, hzq, hth⟩ := hX
  intro k hk L st w ce sl hop H locs ad ls hl hp
  unfold np_aast at hop
  split at hop
  · rename_i v i a r
    split at hop
    · rename_i t n f c9 vs hwa hwv
      obtain ⟨rfl, rfl, hin, hop⟩ := hop
      have hlt : i.toNatClampNeg < n := Nat.not_le.mp fun q => hin (Or.inr q)
      have h0 : ¬ i < 0 := fun q => hin (Or.inl q)
      obtain ⟨r', hr', cellV, g1, g2, g3, -⟩ := (hp.1.1 v _ hwv).1
      have hcls := (hK.1 _ r0 hc).2
      have hty := (hp.1.1 a _ hwa).2.2.2.1
      obtain ⟨kA, comp, k1, k2, k3, -⟩ := (np_Kt hK hty).2
      have hcomp : comp = D.1 _ := Option.some.inj (k3.symm.trans hcls.1)
      subst hcomp
      obtain ⟨kC, hkC, -⟩ := hcls.2
      refine W.aast hx hb (hp.1.1 a _ hwa).1 (fun q h => by cases h) (fun h => by cases h) k1 k2 rfl hkC ⟨h0, by show _ < (arrV _ _ _).slots.size; rw [arrV_size]; exact hlt⟩ g1 (fun q h => by rw [g3] at h; cases h) (by rw [g2]; exact hkC) (by rw [g2]; exact va_assign hcls) rfl rfl d fun H1 e1 z oq => ?_
      refine hk _ _ _ _ _ _ hop H1 _ ad ls hl (hp.set hwa ?_ z oq ?_ hty (np_c_tl (np_c_tl (np_c_tl hp.2.2.1))))
      · show H1[ad a]? = some (vp_cell _ _)
        rw [e1]
        rw [vp_cell_q, vp_cell_q, arrV_store]
        congr 2
        funext q
        by_cases hq : q = i.toNatClampNeg
        · subst hq
          simp [updV, va_up, va_rf]
        · simp [updV, va_up, hq]
      · intro j b hj
        by_cases hq : j = i.toNatClampNeg
        · subst hq
          rw [va_up_self] at hj
          cases hj
          exact np_c_hd hp.2.2.1
        · rw [va_up_ne _ _ hq] at hj
          exact (hp.1.1 a _ hwa).2.2.1 j b hj
    · exact absurd hop id
  · exact absurd hop id
theorem np_s_new {X : np_Ctx} {pc : Nat} {own : String} {cc : ByteArray} {nL RF RL RC RS : Nat} {rI : Instr} (hX : np_ok own cc nL RF RL RC RS rI X) {ci ix N : Nat} {C : String} {T : u_T} {ty0 : Nat → FieldType} {fs : List Value} (d : decode cc pc = .ok (.new ix, 3)) (hc : vwCl[ci]? = some (C, T, N)) (hu : ∀ w ∈ u_ws C T N, w ∈ np_gw) (hty : ∀ k, k < N → parseFieldDescriptor (T k).2.2.1 = some (ty0 k)) (hl1 : Cond.classLink own ix C ∈ np_gw) (hl2 : Cond.instantiable C N ∈ np_gw) (hl3 : Cond.initialized C ∈ np_gw) (hfs : ∀ j, j < N → defaultValue (ty0 j) = vp_V fs j) (hfc : ∀ v ∈ fs, ∀ ad : Nat → Nat, np_v ad v = v) : np_S X pc (np_new ci N fs RC RS) := by
  obtain ⟨⟨p, l, e, R, s, m, args, below, meth, c⟩, ⟨Q, D, cA, A, ad0, n0, nL'⟩, Rt, Th⟩ := X
  obtain ⟨hx, hb, hml, rfl, hown, hsd, hK, hA, hRF, hRL, hRC, hRS, hret, hlt, hzq, hth⟩ := hX
  intro k hk L st w ce sl hop H locs ad ls hl hp
  obtain ⟨h1, h2, hop⟩ := hop
  rw [np_force_eq] at hop
  have hKn := hK.1 ci _ hc
  have hts := np_hts hsd args
  refine W.newcK hx hb hown (hts _ hl1) (hts _ hl2) (hts _ hl3) rfl d (Nat.le_trans h1 hRC) (Nat.le_trans h2 hRS) hKn.2.1 rfl fun H1 kC hkC e1 z1 o1 => ?_
  have hmap : fs.map (np_v ad) = fs := by
    conv => rhs; rw [← List.map_id fs]
    exact List.map_congr_left fun v hv => hfc v hv ad
  have hcl : ∀ v ∈ fs, np_cv w.1 v := fun v hv => by
    have h9 := hfc v hv (fun _ => 0)
    have h8 := hfc v hv (fun _ => 1)
    cases v with
    | ref a => exact absurd (show (0 : Nat) = 1 from (Value.ref.inj h9).trans (Value.ref.inj h8).symm) (by decide)
    | _ => trivial
  obtain ⟨g1, g2, g3⟩ := hp.push (e := .inr (ci, fs)) (st' := st) (by
    show ∃ r : vw_C, vwCl[ci]? = some r ∧ t_OB H.size (D.1 ci) r.2.2 (D.2 ci) H1 (vp_V (fs.map (np_v ad)))
    rw [hmap]
    exact ⟨_, hc, (u_born ty0 hts hu hKn hkC e1 hty).to hfs⟩) z1 o1 hA hcl trivial hp.2.2.1
  have hgo := hk _ _ _ _ _ _ hop H1 locs (va_up ad w.1 H.size) ls (by rw [g2]; exact hl) g1
  rw [List.map_cons, g3] at hgo
  have hv9 : np_v (va_up ad w.1 H.size) (.ref w.1) = .ref H.size := congrArg Value.ref (va_up_self _ _ _)
  rw [hv9] at hgo
  exact hgo
theorem np_s_newa {X : np_Ctx} {pc : Nat} {own : String} {cc : ByteArray} {nL RF RL RC RS : Nat} {rI : Instr} (hX : np_ok own cc nL RF RL RC RS rI X) {atype : ArrayType} {ty : FieldType} {N : Nat} {a0 : vp_A} (d : decode cc pc = .ok (.newarray atype, 2)) (hat : newarray.typeOf atype = ty) (hw : Cond.arrayClass ty ∈ np_gw) (hty : ty ∈ np_tys) (hpr : ∀ C, ty ≠ .object C) (hN : N ≤ 60000) (ha : ∀ cX : ClassId, vp_cell cX a0 = arrV cX N (fun _ => defaultValue ty)) (hb8 : componentBytes ty ≤ 8) (ha1 : ∀ (cA : FieldType → ClassId) (ad : Nat → Nat), np_e cA ad (.inl (ty, a0)) = .inl (cA ty, a0)) (ha2 : ∀ n, np_ce n (.inl (ty, a0))) : np_S X pc (np_newa ty N a0 RC RS) := by
  obtain ⟨⟨p, l, e, R, s, m, args, below, meth, c⟩, ⟨Q, D, cA, A, ad0, n0, nL'⟩, Rt, Th⟩ := X
  obtain ⟨hx, hb, hml, rfl, hown, hsd, hK, hA, hRF, hRL, hRC, hRS, hret, hlt, hzq, hth⟩ := hX
  intro k hk L st w ce sl hop H locs ad ls hl hp
  unfold np_newa at hop
  split at hop
  · rename_i n r
    obtain ⟨rfl, h1, h2, hop⟩ := hop
    rw [np_force_eq] at hop
    subst hat
    have hn1 : ¬ (Int32.ofNat N) < 0 := nI_pos (by omega)
    have hn2 : (Int32.ofNat N).toNatClampNeg = N := nI_clamp (by omega)
    refine va_newaK hx hb (np_hts hsd args _ hw) rfl d rfl hn1 hn2 (by have := Nat.mul_le_mul hN hb8; omega) (Nat.le_trans h1 hRC) (Nat.le_trans h2 hRS) rfl fun H1 cX e1 z1 o1 hAr hNm => ?_
    have hcX : cX = cA (newarray.typeOf atype) := by
      have h9 := (np_Kt hK hty).2
      cases atype <;> exact Option.some.inj (hNm.symm.trans h9)
    obtain ⟨g1, g2, g3⟩ := hp.push (e := .inl (newarray.typeOf atype, a0)) (st' := r) (by
      rw [ha1]
      show H1[H.size]? = some (vp_cell _ _)
      rw [ha, ← hcX]
      exact e1) z1 o1 hA (ha2 _) hty (np_c_tl hp.2.2.1)
    have hgo := hk _ _ _ _ _ _ hop H1 locs (va_up ad w.1 H.size) ls (by rw [g2]; exact hl) g1
    rw [List.map_cons, g3] at hgo
    have hv9 : np_v (va_up ad w.1 H.size) (.ref w.1) = .ref H.size := congrArg Value.ref (va_up_self _ _ _)
    rw [hv9] at hgo
    exact hgo
  · exact absurd hop id
theorem np_s_anew {X : np_Ctx} {pc : Nat} {own : String} {cc : ByteArray} {nL RF RL RC RS : Nat} {rI : Instr} (hX : np_ok own cc nL RF RL RC RS rI X) {C : String} {ix N : Nat} (d : decode cc pc = .ok (.anewarray ix, 3)) (hl1 : Cond.classLink own ix C ∈ np_gw) (hao : C ∈ np_ao) (hty : FieldType.object C ∈ np_tys) (hN : N ≤ 60000) : np_S X pc (np_anew C N RC RS) := by
  obtain ⟨⟨p, l, e, R, s, m, args, below, meth, c⟩, ⟨Q, D, cA, A, ad0, n0, nL'⟩, Rt, Th⟩ := X
  obtain ⟨hx, hb, hml, rfl, hown, hsd, hK, hA, hRF, hRL, hRC, hRS, hret, hlt, hzq, hth⟩ := hX
  intro k hk L st w ce sl hop H locs ad ls hl hp
  unfold np_anew at hop
  split at hop
  · rename_i n r
    obtain ⟨rfl, h1, h2, hop⟩ := hop
    rw [np_force_eq] at hop
    have hn1 : ¬ (Int32.ofNat N) < 0 := nI_pos (by omega)
    have hn2 : (Int32.ofNat N).toNatClampNeg = N := nI_clamp (by omega)
    refine W.anew hx hb hown (np_hts hsd args _ hl1) (va_AO.use (hsd.2.2.1 C hao)) rfl d rfl hn1 (by rw [hn2]; omega) (Nat.le_trans h1 hRC) (by rw [hn2]; exact Nat.le_trans h2 hRS) fun cX kA comp f1 f2 f3 f4 => ?_
    rw [hn2]
    generalize hH1 : H.push ({ cls := cX, slots := Array.replicate N .null, vm := .none } : Cell) = H1
    have z1 : H1.size = H.size + 1 := by rw [← hH1, Array.size_push]
    have e1 : H1[H.size]? = some (arrV cX N (fun _ => .null)) := by rw [← hH1, Array.getElem?_push_size, ← arrV_new]
    have o1 : ∀ q : Nat, q < H.size → H1[q]? = H[q]? := fun q hq => by rw [← hH1, Array.getElem?_push, if_neg (Nat.ne_of_lt hq)]
    have hcX : cX = cA (.object C) := by
      obtain ⟨-, -, -, -, -, k4⟩ := (np_Kt hK hty).2
      exact Option.some.inj (f1.symm.trans k4)
    obtain ⟨g1, g2, g3⟩ := hp.push (e := .inl (.object C, N, .inr (.inr (.inr (.inr (fun _ => none)))))) (st' := r) (by
      show H1[H.size]? = some (vp_cell _ _)
      rw [vp_cell_q, ← hcX]
      exact e1) z1 o1 hA (fun i k h => by cases h) hty (np_c_tl hp.2.2.1)
    have hgo := hk _ _ _ _ _ _ hop H1 locs (va_up ad w.1 H.size) ls (by rw [g2]; exact hl) g1
    rw [List.map_cons, g3] at hgo
    have hv9 : np_v (va_up ad w.1 H.size) (.ref w.1) = .ref H.size := congrArg Value.ref (va_up_self _ _ _)
    rw [hv9] at hgo
    exact hgo
  · exact absurd hop id
theorem np_s_oinit {X : np_Ctx} {pc : Nat} {own : String} {cc : ByteArray} {nL RF RL RC RS : Nat} {rI : Instr} (hX : np_ok own cc nL RF RL RC RS rI X) {ix : Nat} (d : decode cc pc = .ok (.invokespecial ix, 3)) (hl1 : Cond.methodLink own ix objectInit ∈ np_gw) (hl2 : Cond.instanceMethod objectInit ∈ np_gw) (hl3 : Cond.code objectInit ⟨#[0xb1]⟩ 1 none ∈ np_gw) (h1 : 1 ≤ RF) (h2 : 20 ≤ RL) : np_S X pc np_oinit := by
  obtain ⟨⟨p, l, e, R, s, m, args, below, meth, c⟩, ⟨Q, D, cA, A, ad0, n0, nL'⟩, Rt, Th⟩ := X
  obtain ⟨hx, hb, hml, rfl, hown, hsd, hK, hA, hRF, hRL, hRC, hRS, hret, hlt, hzq, hth⟩ := hX
  intro k hk L st w ce sl hop H locs ad ls hl hp
  unfold np_oinit at hop
  split at hop
  · rename_i a r
    obtain ⟨hs, hop⟩ := hop
    have hts := np_hts hsd args
    have hr := lv_room (m := m) (pc := pc) (ls := ls) (rest := (Value.ref a :: r).map (np_v ad)) (st := r.map (np_v ad)) (by rw [np_cat_sum]; exact hs)
    refine W.objInit hx hb hown (hts _ hl1) (hts _ hl2) (hts _ hl3) rfl (by rw [hml]; exact hl.1) rfl d (Nat.le_trans h1 hRF) (by omega) ?_
    exact W.eq (g2 := F0 m (pc + 3) ls (r.map (np_v ad))) rfl (hk _ _ _ _ _ _ hop H locs ad ls hl (hp.to hp.2.1 (np_c_tl hp.2.2.1)))
  · exact absurd hop id
