/-! Methods that throw, and calls that catch. -/
abbrev np_SpX : Type := List Value → np_W → (Option Value → np_W → Prop) → (Nat → np_W → Prop) → Prop
def np_XC (D : va_G) (cA : FieldType → ClassId) (ad : Nat → Nat) (w : np_W) (sz : Nat) (QX : Nat → np_W → Prop) : String → State → State → Prop := fun E st t =>
  (∃ (i : Nat) (w' : np_W) (ad' : Nat → Nat), E = np_en i ∧ QX i w' ∧ np_O D cA (np_A ad w sz) ad' w' t.heap ∧ w.1 ≤ w'.1 ∧ ∀ k, k < w.1 → ad' k = ad k) ∧ va_F (np_A ad w sz) st t
def np_CX (y : MethodName) (cc : ByteArray) (maxL : Nat) (ret : Option FieldType) (fr lo mc ms : Nat) (sp : np_SpX) : Prop :=
  ∀ (l : Launch), l.stackTraces = false → ∀ (D : va_G) (cA : FieldType → ClassId) (ad : Nat → Nat) (w : np_W) (vs : List Value) (sz : Nat) (Q : Option Value → np_W → Prop) (QX : Nat → np_W → Prop), (vs.map fun v => v.category).sum ≤ maxL → sp vs w Q QX →
    vx_Met l y [Cond.code y cc maxL ret] { frames := fr, cells := mc, slots := ms, locals := lo } (np_P D cA ad w vs sz) (np_Qc D cA ad w sz Q) (np_XC D cA ad w sz QX) mc ms (np_A ad w sz)
def np_thq (mc ms : Nat) (QX : Nat → np_W → Prop) : np_Th := fun i w ce sl => ce + 1 ≤ mc ∧ sl + 6 ≤ ms ∧ QX i w
theorem np_hat {s : State} {args : Array Value} (hsd : np_sd s) {L : List Cond} (h : ∀ w ∈ L, w ∈ np_gw ∨ w ∈ np_nw) : ∀ w ∈ L, w.before args s = true := fun w hw => by
  rcases h w hw with h1 | h1
  · exact np_hts hsd args w h1
  · have h2 := hsd.2.1 w h1
    have h3 := (List.mem_filter.mp h1).2
    cases w <;> first | (simp [np_isNest] at h3; done) | exact va_Nw.use rfl h2
theorem np_ofX {y : MethodName} {cc : ByteArray} {maxL : Nat} {ret : Option FieldType} {fr lo mc ms : Nat} {sp : np_SpX} (hy : plainName y.cls = true) (hfr : 6 ≤ fr) (hlo : 100 ≤ lo)
    (body : ∀ (X : np_Ctx) (vs : List Value) (w : np_W) (Q : Option Value → np_W → Prop) (QX : Nat → np_W → Prop), sp vs w Q QX → np_ok y.cls cc maxL fr lo mc ms (np_retI ret) X → np_mn X = y.name → X.2.2.1 = np_rq ret mc ms Q → X.2.2.2 = np_thq mc ms QX → np_G X 0 (lv_args 0 vs) [] w 0 0) : np_CX y cc maxL ret fr lo mc ms sp := by
  intro l hlt D cA ad w vs sz Q QX hcat hsp
  refine vx_ofW (cc := cc) (maxL := maxL) (ret := ret) hy rfl ?_
  intro p e s m args below meth c s₁ B hml htab hv
  obtain ⟨rfl, hsz, hO, hcv, hK, hsd, hzq⟩ := hv
  subst hsz
  have hlen : (lg_sl (vs.map (np_v ad))).length ≤ maxL := by rw [np_lgsl_len, np_cat_sum]; exact hcat
  have hl := lv_entry (vs.map (np_v ad)) (n := maxL) hlen
  rw [lg_entry_eq]
  generalize (lg_sl (vs.map (np_v ad)) ++ List.replicate (maxL - (lg_sl (vs.map (np_v ad))).length) Slot.unset).toArray = ls at hl ⊢
  rw [np_args_map] at hl
  have hr := B.returns
  have hA : ∀ q, s.heap.size ≤ q → np_A ad w s.heap.size q := fun q hq => Or.inr hq
  have hlocks := B.notSynchronized
  have hown := findClass_of_methodNamed B.named
  have hG := body ((p, l, e, { frames := fr, cells := mc, slots := ms, locals := lo }, s, m, (vs.map (np_v ad)).toArray, below, meth, c), (vx_MQ below (np_Qc D cA ad w s.heap.size Q) (np_XC D cA ad w s.heap.size QX) (vs.map (np_v ad)).toArray s mc ms (np_A ad w s.heap.size), D, cA, np_A ad w s.heap.size, ad, w.1, maxL), np_rq ret mc ms Q, np_thq mc ms QX) vs w Q QX hsp
    ⟨B.exec, B.bytes, hml, rfl, hown, hsd, hK, hA, Nat.le_refl _, Nat.le_refl _, Nat.le_refl _, Nat.le_refl _, ?_, hlt, hzq, ?_⟩ (name_of_methodNamed B.named B.method).1 rfl rfl
  · exact hG s.heap [] ad ls hl ⟨hO.weaken (fun k e hk _ => Or.inl ⟨k, e, hk, rfl⟩), np_args_c vs 0 hcv, (fun _ h => nomatch h), va_S.rf, fun _ _ => rfl, Nat.le_refl _⟩
  · intro st w' ce sl hrt pc H locs ad' ls' hd hp
    obtain ⟨h1, h2, h3, h4⟩ := hrt
    have h3 := np_shp_shape h3
    refine W.widen (k := mc) (n := ms) h1 h2 (vx_ret ?_)
    have hq : ∀ t : State, t.heap = H → s.WarmedH t.vm → np_Qc D cA ad w s.heap.size Q (vs.map (np_v ad)).toArray s (.returned (st.head?.map (np_v ad'))) t := fun t ht hW =>
      ⟨⟨st.head?, w', ad', rfl, h4, by rw [ht]; exact hp.1, fun v hv => hp.2.2.1 v (by
        cases st with
        | nil => cases hv
        | cons a r =>
          have : v = a := by simpa using hv
          rw [this]
          exact List.mem_cons_self), hp.2.2.2.2.2, hp.2.2.2.2.1⟩, hp.2.2.2.1.F ht⟩
    have hf := hp.2.2.2.1.2.2
    unfold np_shape at h3
    split at h3
    · subst h3
      exact W.vret B.exec B.bytes hr hq hf hd
    · obtain ⟨x, rfl⟩ := h3
      exact W.iret B.exec B.bytes hr hq hf hd
    · obtain ⟨x, rfl, hx9⟩ := h3
      exact W.zret B.exec B.bytes hr hx9 hq hf hd
    · obtain ⟨x, rfl, hx9⟩ := h3
      exact W.zret B.exec B.bytes hr hx9 hq hf hd
    · obtain ⟨x, rfl⟩ := h3
      exact W.lret B.exec B.bytes hr hq hf hd
    · rcases h3 with rfl | ⟨k, rfl⟩
      · exact W.aret B.exec B.bytes hr (Or.inl ⟨_, rfl⟩) (Or.inl rfl) hq hf hd
      · exact W.aret B.exec B.bytes hr (Or.inl ⟨_, rfl⟩) (Or.inr ⟨_, rfl⟩) hq hf hd
    · rcases h3 with rfl | ⟨k, rfl⟩
      · exact W.aret B.exec B.bytes hr (Or.inr ⟨_, rfl⟩) (Or.inl rfl) hq hf hd
      · exact W.aret B.exec B.bytes hr (Or.inr ⟨_, rfl⟩) (Or.inr ⟨_, rfl⟩) hq hf hd
    · exact absurd h3 id
  · intro i w' ce sl hth pc st H locs ad' ls' htw hls hcs hp
    obtain ⟨h1, h2, h3⟩ := hth
    obtain ⟨ik, is, ic, text, t1, t2, t3, t4, t5, t6⟩ := htw
    obtain ⟨sa, hstr⟩ := hsd.2.2.2.2 _ _ _ t3
    have hts := np_hts hsd (vs.map (np_v ad)).toArray
    have hout : ∀ (n : Nat), ∀ x ∈ c.exceptionTable.toList, covers x n = false := fun n x hx => absurd (htab x hx) id
    have hnm : ∀ n ∈ np_ens, Bundle.fit n = true := by decide +kernel
    have hcf : Bundle.fit (np_en i) = true := by
      match i with
      | 0 => decide +kernel
      | 1 => decide +kernel
      | i + 2 => exact (by decide +kernel : Bundle.fit "java/lang/IllegalStateException" = true)
    have hsz := hp.2.2.2.1.1
    have hx : ∀ t : State, s.vm.Alike t.vm → H.size ≤ t.heap.size → (∀ q : Nat, q < H.size → t.heap[q]? = H[q]?) → np_XC D cA ad w s.heap.size QX (np_en i) s t := fun t _ g1 g2 =>
      ⟨⟨i, w', ad', rfl, h3, ⟨fun k e9 hk => ⟨(hp.1.1 k e9 hk).1.kept (g2 _ (hp.1.1 k e9 hk).1.lt), (hp.1.1 k e9 hk).2⟩, hp.1.2⟩, hp.2.2.2.2.2, hp.2.2.2.2.1⟩, Nat.le_trans hsz g1, fun q g3 g4 => by rw [g2 q (Nat.lt_of_lt_of_le g3 hsz)]; exact hp.2.2.2.1.2.1 q g3 g4⟩
    rcases t6 with ⟨d0, d3, d4, d6, d9⟩ | ⟨d0, d3, d4, d7, d10⟩
    · exact vx_throwS (names := np_ens) (A := np_A ad w s.heap.size) B.exec B.bytes hlt hown hcf hnm (hts _ t1) (hts _ t2) hstr (np_hat hsd t4) t5 hzq.1 hzq.2 hp.2.2.2.1 (hls.trans hml.symm) d0 d3 d4 d6 d9 (hout _) (by show 2 + 3 < fr; omega) (by rw [np_cat_sum]; show _ + (13 * (2 + 1) + 43) ≤ lo; omega) h1 h2 hlocks hx hp.2.2.2.1.2.2 h1 h2
    · exact vx_throwSW (names := np_ens) (A := np_A ad w s.heap.size) B.exec B.bytes hlt hown hcf hnm (hts _ t1) (hts _ t2) hstr (np_hat hsd t4) t5 hzq.1 hzq.2 hp.2.2.2.1 (hls.trans hml.symm) d0 d3 d4 d7 d10 (hout _) (by show 2 + 3 < fr; omega) (by rw [np_cat_sum]; show _ + (13 * (2 + 1) + 43) ≤ lo; omega) h1 h2 hlocks hx hp.2.2.2.1.2.2 h1 h2
def np_inX (is : np_Rt → np_Th → List (Nat × np_Op)) (ret : Option FieldType) (mc ms fuel : Nat) : np_SpX := fun vs w Q QX =>
  np_runF (is (np_rq ret mc ms Q) (np_thq mc ms QX)) [] (fun _ _ _ _ _ _ => False) fuel 0 (lv_args 0 vs) [] w 0 0
theorem np_inCX {y : MethodName} {cc : ByteArray} {maxL : Nat} {ret : Option FieldType} {fr lo mc ms : Nat} {is : np_Rt → np_Th → List (Nat × np_Op)} (fuel : Nat) (hy : plainName y.cls = true) (hfr : 6 ≤ fr) (hlo : 100 ≤ lo)
    (so : ∀ X : np_Ctx, np_ok y.cls cc maxL fr lo mc ms (np_retI ret) X → np_mn X = y.name → ∀ q ∈ is X.2.2.1 X.2.2.2, np_S X q.1 q.2) : np_CX y cc maxL ret fr lo mc ms (np_inX is ret mc ms fuel) := by
  refine np_ofX hy hfr hlo ?_
  intro X vs w Q QX hsp hX hmn hRt hTh
  have h := so X hX hmn
  rw [hRt, hTh] at h
  exact np_soundF h (heads := []) (Hd := fun _ _ _ _ _ _ => False) (fun _ _ _ _ _ _ h => h.elim) fuel 0 _ _ _ _ _ hsp
-- a method with a table of its own, that always returns
def np_tab (X : np_Ctx) : List ExceptionTableEntry := X.1.2.2.2.2.2.2.2.2.2.exceptionTable.toList
def np_CW (y : MethodName) (cc : ByteArray) (maxL : Nat) (ret : Option FieldType) (hh : List (Nat × Nat × Nat × Nat)) (fr lo mc ms : Nat) (sp : np_Sp) : Prop :=
  ∀ (l : Launch), l.stackTraces = false → ∀ (D : va_G) (cA : FieldType → ClassId) (ad : Nat → Nat) (w : np_W) (vs : List Value) (sz : Nat) (Q : Option Value → np_W → Prop), (vs.map fun v => v.category).sum ≤ maxL → sp vs w Q →
    Met l y [Cond.codeWith y cc maxL ret hh] { frames := fr, cells := mc, slots := ms, locals := lo } (np_P D cA ad w vs sz) (np_Qc D cA ad w sz Q) mc ms (np_A ad w sz)
theorem np_inCW {y : MethodName} {cc : ByteArray} {maxL : Nat} {ret : Option FieldType} {hh : List (Nat × Nat × Nat × Nat)} {fr lo mc ms : Nat} {is : np_Rt → List (Nat × np_Op)} (fuel : Nat) (hy : plainName y.cls = true)
    (so : ∀ X : np_Ctx, np_ok y.cls cc maxL fr lo mc ms (np_retI ret) X → np_tab X = tableOf hh → ∀ q ∈ is X.2.2.1, np_S X q.1 q.2) : np_CW y cc maxL ret hh fr lo mc ms (np_in is ret mc ms fuel) := by
  intro l hlt D cA ad w vs sz Q hcat hsp
  refine va_MetW (cc := cc) (maxL := maxL) (ret := ret) (hh := hh) hy rfl ?_
  intro p e s m args below meth c s₁ B hml hv
  obtain ⟨rfl, hsz, hO, hcv, hK, hsd, hzq⟩ := hv
  subst hsz
  have hlen : (lg_sl (vs.map (np_v ad))).length ≤ maxL := by rw [np_lgsl_len, np_cat_sum]; exact hcat
  have hl := lv_entry (vs.map (np_v ad)) (n := maxL) hlen
  rw [lg_entry_eq]
  generalize (lg_sl (vs.map (np_v ad)) ++ List.replicate (maxL - (lg_sl (vs.map (np_v ad))).length) Slot.unset).toArray = ls at hl ⊢
  rw [np_args_map] at hl
  have hr := B.returns
  have hA : ∀ q, s.heap.size ≤ q → np_A ad w s.heap.size q := fun q hq => Or.inr hq
  have htab : c.exceptionTable.toList = tableOf hh := vx_table (l := l) (x := y) B (atoms_spec (ws := [Cond.codeWith y cc maxL ret hh]) B.pre _ List.mem_cons_self)
  have hX : np_ok y.cls cc maxL fr lo mc ms (np_retI ret) ((p, l, e, { frames := fr, cells := mc, slots := ms, locals := lo }, s, m, (vs.map (np_v ad)).toArray, below, meth, c), (MQ below (np_Qc D cA ad w s.heap.size Q) (vs.map (np_v ad)).toArray s mc ms (np_A ad w s.heap.size), D, cA, np_A ad w s.heap.size, ad, w.1, maxL), np_rq ret mc ms Q, fun _ _ _ _ => False) := by
    refine ⟨B.exec, B.bytes, hml, rfl, findClass_of_methodNamed B.named, hsd, hK, hA, Nat.le_refl _, Nat.le_refl _, Nat.le_refl _, Nat.le_refl _, ?_, hlt, hzq, fun _ _ _ _ h => absurd h id⟩
    intro st w' ce sl hrt pc H locs ad' ls' hd hp
    obtain ⟨h1, h2, h3, h4⟩ := hrt
    have h3 := np_shp_shape h3
    refine W.widen (k := mc) (n := ms) h1 h2 ?_
    have hq : ∀ t : State, t.heap = H → s.WarmedH t.vm → np_Qc D cA ad w s.heap.size Q (vs.map (np_v ad)).toArray s (.returned (st.head?.map (np_v ad'))) t := fun t ht hW =>
      ⟨⟨st.head?, w', ad', rfl, h4, by rw [ht]; exact hp.1, fun v hv => hp.2.2.1 v (by
        cases st with
        | nil => cases hv
        | cons a r =>
          have : v = a := by simpa using hv
          rw [this]
          exact List.mem_cons_self), hp.2.2.2.2.2, hp.2.2.2.2.1⟩, hp.2.2.2.1.F ht⟩
    have hf := hp.2.2.2.1.2.2
    have hlocks := B.notSynchronized
    unfold np_shape at h3
    split at h3
    · subst h3
      exact W.vret B.exec B.bytes hr hq hf hd
    · obtain ⟨x, rfl⟩ := h3
      exact W.iret B.exec B.bytes hr hq hf hd
    · obtain ⟨x, rfl, hx9⟩ := h3
      exact W.zret B.exec B.bytes hr hx9 hq hf hd
    · obtain ⟨x, rfl, hx9⟩ := h3
      exact W.zret B.exec B.bytes hr hx9 hq hf hd
    · obtain ⟨x, rfl⟩ := h3
      exact W.lret B.exec B.bytes hr hq hf hd
    · rcases h3 with rfl | ⟨k, rfl⟩
      · exact W.aret B.exec B.bytes hr (Or.inl ⟨_, rfl⟩) (Or.inl rfl) hq hf hd
      · exact W.aret B.exec B.bytes hr (Or.inl ⟨_, rfl⟩) (Or.inr ⟨_, rfl⟩) hq hf hd
    · rcases h3 with rfl | ⟨k, rfl⟩
      · exact W.aret B.exec B.bytes hr (Or.inr ⟨_, rfl⟩) (Or.inl rfl) hq hf hd
      · exact W.aret B.exec B.bytes hr (Or.inr ⟨_, rfl⟩) (Or.inr ⟨_, rfl⟩) hq hf hd
    · exact absurd h3 id
  have hG := np_soundF (so _ hX htab) (heads := []) (Hd := fun _ _ _ _ _ _ => False) (fun _ _ _ _ _ _ h => h.elim) fuel 0 _ _ _ _ _ hsp
  exact hG s.heap [] ad ls hl ⟨hO.weaken (fun k e hk _ => Or.inl ⟨k, e, hk, rfl⟩), np_args_c vs 0 hcv, (fun _ h => nomatch h), va_S.rf, fun _ _ => rfl, Nat.le_refl _⟩
theorem np_s_callSW {X : np_Ctx} {pc : Nat} {own : String} {cc : ByteArray} {nL RF RL RC RS : Nat} {rI : Instr} (hX : np_ok own cc nL RF RL RC RS rI X) {y : MethodName} {cc' : ByteArray} {maxL : Nat} {ret : Option FieldType} {hh : List (Nat × Nat × Nat × Nat)} {fr lo mc ms n ix : Nat} {sp : np_Sp} (hC : np_CW y cc' maxL ret hh fr lo mc ms sp) (d : decode cc pc = .ok (.invokestatic ix, 3)) (hcode : Cond.codeWith y cc' maxL ret hh ∈ np_gw) (hini : Cond.initialized y.cls ∈ np_gw) (hlink : Cond.methodLink own ix y ∈ np_gw) (hst : Cond.static y ∈ np_gw)
    (hd : y.cls ≠ "java/lang/invoke/MethodHandle" ∧ y.cls ≠ "java/lang/invoke/VarHandle" ∧ (parseMethodDescriptor y.desc).map (fun d => d.parameters.length) = some n) (h1 : fr + 1 ≤ RF) (h2 : 8 + (maxL + 11) + lo ≤ RL) : np_S X pc (np_call n sp maxL mc ms RC RS) := by
  obtain ⟨⟨p, l, e, R, s, m, args, below, meth, c⟩, ⟨Q, D, cA, A, ad0, n0, nL'⟩, Rt, Th⟩ := X
  obtain ⟨hx, hb, hml, rfl, hown, hsd, hK, hA, hRF, hRL, hRC, hRS, hret, hlt, hzq, hth⟩ := hX
  intro k hk L st w ce sl hop H locs ad ls hl hp
  obtain ⟨g1, g2, g3, g4, g5, hop⟩ := hop
  have hM := hC l hlt D cA ad w (st.take n).reverse H.size _ g3 hop
  have htk := np_tk_c (k := n) hp.2.2.1
  have hts := np_hts hsd args
  have hG : GoodIn np_gw [Cond.codeWith y cc' maxL ret hh] := fun w hw => by
    rw [List.mem_singleton.mp hw]
    exact ⟨hcode, Or.inl rfl⟩
  have cw : vx_CSW R s args own ix y cc' maxL ret hh [Cond.codeWith y cc' maxL ret hh] { frames := fr, cells := mc, slots := ms, locals := lo } mc ms n := by
    refine ⟨⟨rfl, rfl, Nat.le_trans h1 hRF, Nat.le_trans h2 hRL, pay_in hts hG, List.mem_cons_self⟩, hts _ hcode, hts _ hini, ⟨hd.1, hd.2.1⟩, fun sig h => ?_, hts _ hlink, hts _ hst⟩
    have h9 := hd.2.2
    rw [h] at h9
    exact (Option.some.inj h9).symm
  refine np_goes (Rt := Rt) (Th := Th) (st := st) (vx_runSW (Ts := np_gw) (own := own) (ret := ret) (hh := hh) (n := n) (As := (st.take n).reverse.map (np_v ad)) (rest := (st.drop n).map (np_v ad)) ⟨hx, hb, hml, hown, hts⟩ hM cw ⟨np_P.blind, hp.P htk.1 hK hsd hzq hA⟩ rfl (by rw [List.length_map]; exact np_tk_len g1) hl.1 (np_stk ad st n) (lv_room (by rw [np_cat_sum]; exact g2)) d ⟨Nat.le_trans g4 hRC, Nat.le_trans g5 hRS⟩) hl hp htk.2 hA (fun r w' hq => hk _ _ _ _ _ _ hq)
/-- the handler of the exception i around pc -/
def np_hd (own : String) (tab : List ExceptionTableEntry) (pc i h : Nat) : Prop := ∃ (pre : List ExceptionTableEntry) (x : ExceptionTableEntry) (suf : List ExceptionTableEntry), tab = pre ++ x :: suf ∧
  (∀ z ∈ pre, covers z pc = false ∨ (z.catchType ≠ 0 ∧ ∃ nm : String, Cond.classLink own z.catchType nm ∈ np_gw ∧ (np_en i, nm) ∈ np_ncs)) ∧ covers x pc = true ∧ x.catchType ≠ 0 ∧ Cond.classLink own x.catchType (np_en i) ∈ np_gw ∧ Cond.castable (np_en i) (np_en i) ∈ np_nw ∧ x.handlerPc = h
def np_fd : List (Nat × Nat) → Nat → Option Nat
  | [], _ => none
  | (j, h) :: r, i => if j = i then some h else np_fd r i
def np_callVX (ci n : Nat) (sp : np_SpX) (maxL mc ms RC RS : Nat) (hs : List (Nat × Nat)) : np_Op := fun k pc L st w ce sl =>
  (match (st.take n).reverse with
    | .ref a :: _ => (match w.2 a with
      | some (.inr (c, _)) => c = ci
      | _ => False)
    | _ => False) ∧ n ≤ st.length ∧ ((st.drop n).map fun v => v.category).sum ≤ 8 ∧ ((st.take n).reverse.map fun v => v.category).sum ≤ maxL ∧ ce + mc ≤ RC ∧ sl + ms ≤ RS ∧
    sp (st.take n).reverse w (fun r w' => k (pc + 3) L (r.toList ++ st.drop n) w' (ce + mc) (sl + ms)) (fun i w' => match np_fd hs i with
      | some h => np_force w'.1 (fun n => k h L [.ref n] (n + 1, w'.2) (ce + mc) (sl + ms))
      | none => False)
theorem np_fd_mem {hs : List (Nat × Nat)} {i h : Nat} (q : np_fd hs i = some h) : (i, h) ∈ hs := by
  induction hs with
  | nil => cases q
  | cons a r ih =>
    obtain ⟨j, b⟩ := a
    unfold np_fd at q
    by_cases hj : j = i
    · rw [if_pos hj] at q
      cases q
      subst hj
      exact List.mem_cons_self
    · rw [if_neg hj] at q
      exact List.mem_cons_of_mem _ (ih q)
theorem np_s_callVX {X : np_Ctx} {pc : Nat} {own : String} {cc : ByteArray} {nL RF RL RC RS : Nat} {rI : Instr} (hX : np_ok own cc nL RF RL RC RS rI X) {y : MethodName} {cc' : ByteArray} {maxL : Nat} {ret : Option FieldType} {fr lo mc ms n ix ci : Nat} {q : vw_C} {sp : np_SpX} {hs : List (Nat × Nat)} (hC : np_CX y cc' maxL ret fr lo mc ms sp) (d : decode cc pc = .ok (.invokevirtual ix, 3)) (hc : vwCl[ci]? = some q) (hcq : q.1 = y.cls) (hcode : Cond.code y cc' maxL ret ∈ np_gw) (hini : Cond.initialized y.cls ∈ np_gw) (hlink : Cond.methodLink own ix y ∈ np_gw) (hin : Cond.instanceMethod y ∈ np_gw) (hse : Cond.selects y.cls y y ∈ np_gw)
    (hd : y.cls ≠ "java/lang/invoke/MethodHandle" ∧ y.cls ≠ "java/lang/invoke/VarHandle" ∧ (parseMethodDescriptor y.desc).map (fun d => d.parameters.length) = some n) (h1 : fr + 1 ≤ RF) (h2 : 8 + (maxL + 11) + lo ≤ RL) (hhs : ∀ z ∈ hs, np_hd own (np_tab X) pc z.1 z.2) : np_S X pc (np_callVX ci (n + 1) sp maxL mc ms RC RS hs) := by
  obtain ⟨⟨p, l, e, R, s, m, args, below, meth, c⟩, ⟨Q, D, cA, A, ad0, n0, nL'⟩, Rt, Th⟩ := X
  obtain ⟨hx, hb, hml, rfl, hown, hsd, hK, hA, hRF, hRL, hRC, hRS, hret, hlt, hzq, hth⟩ := hX
  intro k hk L st w ce sl hop H locs ad ls hl hp
  obtain ⟨g0, g1, g2, g3, g4, g5, hop⟩ := hop
  have hM := hC l hlt D cA ad w (st.take (n + 1)).reverse H.size _ _ g3 hop
  have htk := np_tk_c (k := n + 1) hp.2.2.1
  have hts := np_hts hsd args
  have hlen := np_tk_len g1
  have hstk := np_stk ad st (n + 1)
  have hP := hp.P htk.1 hK hsd hzq hA
  split at g0
  · rename_i a As hrv
    rw [hrv] at hlen hstk hP
    split at g0
    · rename_i c9 fs hwa
      subst g0
      have hrun := vx_runV (p := p) (l := l) (e := e) (below := below) (meth := meth) (locs := locs) (cells := ce) (slots := sl) (g := F0 m pc ls (st.map (np_v ad))) (Ts := np_gw) (own := own) (C := y.cls) (b := ad a) (ret := ret) (n := n) (As := As.map (np_v ad)) (rest := (st.drop (n + 1)).map (np_v ad)) ⟨hx, hb, hml, hown, hts⟩ hM ⟨np_cb hsd hcode hini hlink hd (Nat.le_trans h1 hRF) (Nat.le_trans h2 hRL), hts _ hin, hts _ hse⟩ ⟨np_P.blind, by rw [← hcq]; exact np_recv hK hp.1 hc hwa, by rw [hrv]; exact hP⟩ rfl (by rw [List.length_map]; simpa using hlen) hl.1 (by rw [hstk]; simp [np_v]) (lv_room (by rw [np_cat_sum]; exact g2)) d ⟨Nat.le_trans g4 hRC, Nat.le_trans g5 hRS⟩
      have hsub := np_A.sub hp hA
      intro T hT X
      rcases hrun T hT X with ⟨v, st₀, t, T', Lc, h0, X', hLc, e1, e2, hQ, stp⟩ | ⟨q9, st₀, t, T', Lc, E, ce9, h0, X', hLc, e1, e2, hXC, hce, hcv, hcl, stp⟩
      · exact np_goes1 (Rt := Rt) (Th := Th) h0 X' hLc e1 hQ stp hl hp htk.2 hA (fun r w' hq => hk _ _ _ _ _ _ hq)
      · obtain ⟨⟨i, w', ad', rfl, hq, hO, hn, had⟩, hz, hkk⟩ := hXC
        rw [h0] at hz hkk
        split at hq
        · rename_i h hfd
          rw [np_force_eq] at hq
          obtain ⟨pre, x, suf, t1, t2, t3, t4, t5, t6, rfl⟩ := hhs _ (np_fd_mem hfd)
          have hO' : np_O D cA A (va_up ad' w'.1 q9) (w'.1 + 1, w'.2) T'.heap := by
            rw [e1]
            have hag : ∀ k, k < w'.1 → va_up ad' w'.1 q9 k = ad' k := fun k hk => va_up_ne _ _ (Nat.ne_of_lt hk)
            refine ⟨fun k e9 hk9 => ?_, fun j k e9 e8 hj9 hk9 hjk => ?_⟩
            · obtain ⟨u1, u2, u3, u4, u5⟩ := hO.1 k e9 hk9
              rw [hag k u5, np_e.cong hag u3]
              exact ⟨u1, hsub _ u2, u3.mono (Nat.le_succ _), u4, Nat.lt_succ_of_lt u5⟩
            · rw [hag j (hO.1 j e9 hj9).2.2.2.2, hag k (hO.1 k e8 hk9).2.2.2.2] at hjk
              exact hO.2 j k e9 e8 hj9 hk9 hjk
          have hS : va_S A s.heap T'.heap (locs ++ Lc) := by
            have hS0 := hp.2.2.2.1
            refine ⟨Nat.le_trans hS0.1 (by rw [e1]; exact hz), fun q g1 g2 => ?_, fun q hq => ?_⟩
            · rw [e1, hkk q (Nat.lt_of_lt_of_le g1 hS0.1) (fun z => g2 (hsub q z))]
              exact hS0.2.1 q g1 g2
            · rcases List.mem_append.mp hq with h | h
              · exact hS0.2.2 q h
              · exact hsub _ (hLc q h)
          have had2 : ∀ k, k < w.1 → va_up ad' w'.1 q9 k = ad k := fun k hk => by
            rw [va_up_ne _ _ (Nat.ne_of_lt (Nat.lt_of_lt_of_le hk hn))]
            exact had k hk
          have hcL : np_cL (va_up ad' w'.1 q9) L = np_cL ad L := by
            unfold np_cL
            exact List.map_congr_left fun q hq => by rw [np_v.cong had2 (hp.2.1 q hq)]
          have hgo := hk _ _ _ _ _ _ hq T'.heap (locs ++ Lc) (va_up ad' w'.1 q9) ls (by rw [hcL]; exact hl) ⟨hO', fun q hq => (hp.2.1 q hq).mono (Nat.le_succ_of_le hn), np_c_cons (Nat.lt_succ_self _) (fun _ h => nomatch h), hS, fun k hk => by rw [had2 k (Nat.lt_of_lt_of_le hk hp.2.2.2.2.2)]; exact hp.2.2.2.2.1 k hk, Nat.le_succ_of_le (Nat.le_trans hp.2.2.2.2.2 hn)⟩
          have hv9 : [Value.ref w'.1].map (np_v (va_up ad' w'.1 q9)) = [.ref q9] := congrArg (fun z => [Value.ref z]) (va_up_self _ _ _)
          rw [hv9] at hgo
          have hcat := vx_catch (own := own) (name := np_en i) (E := np_en i) (rest := (st.drop (n + 1)).map (np_v ad)) hown pre x suf t1 (fun z hz => by
            rcases t2 z hz with h | ⟨h7, nm, h8, h9⟩
            · exact Or.inl h
            · exact Or.inr ⟨h7, nm, hts _ h8, hsd.2.2.2.1 _ h9⟩) t3 t4 (hts _ t5) (va_Nw.use rfl (hsd.2.1 _ t6)) (by rw [e1]; exact hce) hcv hcl hgo
          obtain ⟨t9, a1, b1⟩ := hcat T' rfl X'
          exact ⟨t9, stp.trans a1, b1⟩
        · exact absurd hq id
    · exact absurd g0 id
  · exact absurd g0 id
