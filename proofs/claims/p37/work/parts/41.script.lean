/-! Methods that are handed the script: it lies at place 0, outside the worlds. -/
def np_Ps (Ls : Nat) (xs : Nat → Int32) (D : va_G) (cA : FieldType → ClassId) (ad : Nat → Nat) (w : np_W) (vs : List Value) (sz : Nat) : Array Value → State → Prop := fun a U => np_P D cA ad w vs sz a U ∧ va_X (ad 0) Ls xs U U.heap ∧ ad 0 < sz ∧ ¬ np_A ad w sz (ad 0) ∧ 0 < w.1
theorem np_Ps.blind {Ls : Nat} {xs : Nat → Int32} {D : va_G} {cA : FieldType → ClassId} {ad : Nat → Nat} {w : np_W} {vs : List Value} {sz : Nat} : FrameBlind (np_Ps Ls xs D cA ad w vs sz) := fun a U g mk q => by
  obtain ⟨q0, q1, q2⟩ := q
  exact ⟨np_P.blind a U g mk q0, va_X.moved (u := U) (U := U.calling g mk a) (Vm.Alike.refl U.vm) q1, q2⟩
def np_Cs (Ls : Nat) (xs : Nat → Int32) (y : MethodName) (cc : ByteArray) (maxL : Nat) (ret : Option FieldType) (fr lo mc ms : Nat) (sp : np_Sp) : Prop :=
  ∀ (l : Launch), l.stackTraces = false → ∀ (D : va_G) (cA : FieldType → ClassId) (ad : Nat → Nat) (w : np_W) (vs : List Value) (sz : Nat) (Q : Option Value → np_W → Prop), (vs.map fun v => v.category).sum ≤ maxL → sp vs w Q →
    Met l y [Cond.code y cc maxL ret] { frames := fr, cells := mc, slots := ms, locals := lo } (np_Ps Ls xs D cA ad w vs sz) (np_Qc D cA ad w sz Q) mc ms (np_A ad w sz)
theorem np_s_callSs {X : np_Ctx} {pc : Nat} {own : String} {cc : ByteArray} {nL RF RL RC RS : Nat} {rI : Instr} (hX : np_ok own cc nL RF RL RC RS rI X) {Ls : Nat} {xs : Nat → Int32} (hf : np_lf Ls xs X) {y : MethodName} {cc' : ByteArray} {maxL : Nat} {ret : Option FieldType} {fr lo mc ms n ix : Nat} {sp : np_Sp} (hC : np_Cs Ls xs y cc' maxL ret fr lo mc ms sp) (d : decode cc pc = .ok (.invokestatic ix, 3)) (hcode : Cond.code y cc' maxL ret ∈ np_gw) (hini : Cond.initialized y.cls ∈ np_gw) (hlink : Cond.methodLink own ix y ∈ np_gw) (hst : Cond.static y ∈ np_gw)
    (hd : y.cls ≠ "java/lang/invoke/MethodHandle" ∧ y.cls ≠ "java/lang/invoke/VarHandle" ∧ (parseMethodDescriptor y.desc).map (fun d => d.parameters.length) = some n) (h1 : fr + 1 ≤ RF) (h2 : 8 + (maxL + 11) + lo ≤ RL) : np_S X pc (np_call n sp maxL mc ms RC RS) := by
  obtain ⟨⟨p, l, e, R, s, m, args, below, meth, c⟩, ⟨Q, D, cA, A, ad0, n0, nL'⟩, Rt, Th⟩ := X
  obtain ⟨hx, hb, hml, rfl, hown, hsd, hK, hA, hRF, hRL, hRC, hRS, hret, hlt, hzq, hth⟩ := hX
  obtain ⟨f1, f2, f3, f4⟩ := hf
  intro k hk L st w ce sl hop H locs ad ls hl hp
  obtain ⟨g1, g2, g3, g4, g5, hop⟩ := hop
  have hM := hC l hlt D cA ad w (st.take n).reverse H.size _ g3 hop
  have htk := np_tk_c (k := n) hp.2.2.1
  have hts := np_hts hsd args
  have h0 : ad 0 = ad0 0 := hp.2.2.2.2.1 0 f4
  have hS := hp.2.2.2.1
  have hsz : ad 0 < H.size := by rw [h0]; exact Nat.lt_of_lt_of_le f2 hS.1
  have hPs : ∀ U : State, U.heap = H → s.WarmedH U.vm → np_Ps Ls xs D cA ad w (st.take n).reverse H.size ((st.take n).reverse.map (np_v ad)).toArray U := fun U hU hW =>
    ⟨hp.P htk.1 hK hsd hzq hA U hU hW, by rw [hU, h0]; exact va_X.moved hW.alike (f1.kept (hS.2.1 _ f2 f3)), hsz, fun z => f3 (by rw [← h0]; exact np_A.sub hp hA _ z), Nat.lt_of_lt_of_le f4 hp.2.2.2.2.2⟩
  refine np_goes (Rt := Rt) (Th := Th) (st := st) (va_runS (Ts := np_gw) (own := own) (ret := ret) (n := n) (As := (st.take n).reverse.map (np_v ad)) (rest := (st.drop n).map (np_v ad)) ⟨hx, hb, hml, hown, hts⟩ hM ⟨np_cb hsd hcode hini hlink hd (Nat.le_trans h1 hRF) (Nat.le_trans h2 hRL), hts _ hst⟩ ⟨np_Ps.blind, hPs⟩ rfl (by rw [List.length_map]; exact np_tk_len g1) hl.1 (np_stk ad st n) (lv_room (by rw [np_cat_sum]; exact g2)) d ⟨Nat.le_trans g4 hRC, Nat.le_trans g5 hRS⟩) hl hp htk.2 hA (fun r w' hq => hk _ _ _ _ _ _ hq)
theorem np_ofS {Ls : Nat} {xs : Nat → Int32} {y : MethodName} {cc : ByteArray} {maxL : Nat} {ret : Option FieldType} {fr lo mc ms : Nat} {sp : np_Sp} (hy : plainName y.cls = true)
    (body : ∀ (X : np_Ctx) (vs : List Value) (w : np_W) (Q : Option Value → np_W → Prop), sp vs w Q → np_ok y.cls cc maxL fr lo mc ms (np_retI ret) X → np_lf Ls xs X → X.2.2.1 = np_rtN ret mc ms w.1 Q → np_G X 0 (lv_args 0 vs) [] w 0 0) : np_Cs Ls xs y cc maxL ret fr lo mc ms sp := by
  intro l hlt D cA ad w vs sz Q hcat hsp
  refine Met.ofW (cc := cc) (maxL := maxL) (ret := ret) hy rfl ?_
  intro p e s m args below meth c s₁ B hml hv
  obtain ⟨⟨rfl, hsz, hO, hcv, hK, hsd, hzq⟩, x1, x2, x3, x4⟩ := hv
  subst hsz
  have hlen : (lg_sl (vs.map (np_v ad))).length ≤ maxL := by rw [np_lgsl_len, np_cat_sum]; exact hcat
  have hl := lv_entry (vs.map (np_v ad)) (n := maxL) hlen
  rw [lg_entry_eq]
  generalize (lg_sl (vs.map (np_v ad)) ++ List.replicate (maxL - (lg_sl (vs.map (np_v ad))).length) Slot.unset).toArray = ls at hl ⊢
  rw [np_args_map] at hl
  have hlocks := B.notSynchronized
  have hA : ∀ q, s.heap.size ≤ q → np_A ad w s.heap.size q := fun q hq => Or.inr hq
  have hG := body ((p, l, e, { frames := fr, cells := mc, slots := ms, locals := lo }, s, m, (vs.map (np_v ad)).toArray, below, meth, c), (MQ below (np_Qc D cA ad w s.heap.size Q) (vs.map (np_v ad)).toArray s mc ms (np_A ad w s.heap.size), D, cA, np_A ad w s.heap.size, ad, w.1, maxL), np_rtN ret mc ms w.1 Q, fun _ _ _ _ => False) vs w Q hsp
    ⟨B.exec, B.bytes, hml, rfl, findClass_of_methodNamed B.named, hsd, hK, hA, Nat.le_refl _, Nat.le_refl _, Nat.le_refl _, Nat.le_refl _, (fun st w' ce sl hrt pc H locs ad' ls' hd hp => np_retN B.exec B.bytes B.returns hlocks hrt hd hp), hlt, hzq, fun _ _ _ _ h => absurd h id⟩ ⟨x1, x2, x3, x4⟩ rfl
  exact hG s.heap [] ad ls hl ⟨hO.weaken (fun k e hk _ => Or.inl ⟨k, e, hk, rfl⟩), np_args_c vs 0 hcv, (fun _ h => nomatch h), va_S.rf, fun _ _ => rfl, Nat.le_refl _⟩
/-- a static method that begins with no world at all but the script -/
theorem np_ofP {Ls : Nat} {xs : Nat → Int32} {y : MethodName} {cc : ByteArray} {maxL fr lo mc ms : Nat} {P R : Int32 → Prop} (hy : plainName y.cls = true) (hmx : 2 ≤ maxL)
    (body : ∀ (X : np_Ctx) (x : Int32), P x → np_ok y.cls cc maxL fr lo mc ms .ireturn X → np_lf Ls xs X → X.2.2.1 = (fun st _ ce sl => ce ≤ mc ∧ sl ≤ ms ∧ ∃ r, st = [.int r] ∧ narrow .boolean (.int r) = .int r ∧ R r) → np_G X 0 [(0, .ref 0), (1, .int x)] [] (1, fun _ => none) 0 0) :
    np_Cs Ls xs y cc maxL (some .boolean) fr lo mc ms (fun vs w Q => ∃ x : Int32, vs = [.ref 0, .int x] ∧ P x ∧ ∀ r, R r → Q (some (.int r)) w) := by
  intro l hlt D cA ad w vs sz Q hcat hsp
  refine Met.ofW (cc := cc) (maxL := maxL) (ret := some .boolean) hy rfl ?_
  intro p e s m args below meth c s₁ B hml hv
  obtain ⟨⟨rfl, hsz, hO, hcv, hK, hsd, hzq⟩, x1, x2, x3, x4⟩ := hv
  subst hsz
  obtain ⟨x, rfl, hPx, hQ⟩ := hsp
  have hl := lv_entry ([.ref (ad 0), .int x]) (n := maxL) hmx
  show W p l e _ s m _ below meth c s.heap [] 0 0 _ (entryFrame m ([Value.ref (ad 0), Value.int x] : List Value).toArray maxL)
  rw [lg_entry_eq]
  generalize (lg_sl ([.ref (ad 0), .int x]) ++ List.replicate (maxL - (lg_sl ([.ref (ad 0), .int x])).length) Slot.unset).toArray = ls at hl ⊢
  have hl : lv_has ls maxL [(0, .ref (ad 0)), (1, .int x)] := hl
  have hr := B.returns
  have hsub : ∀ q, s.heap.size ≤ q → np_A ad w s.heap.size q := fun q hq => Or.inr hq
  have hG := body ((p, l, e, { frames := fr, cells := mc, slots := ms, locals := lo }, s, m, (([Value.ref 0, Value.int x] : List Value).map (np_v ad)).toArray, below, meth, c), (MQ below (np_Qc D cA ad w s.heap.size Q) (([Value.ref 0, Value.int x] : List Value).map (np_v ad)).toArray s mc ms (np_A ad w s.heap.size), D, cA, fun q => s.heap.size ≤ q, ad, 1, maxL), (fun st _ ce sl => ce ≤ mc ∧ sl ≤ ms ∧ ∃ r, st = [.int r] ∧ narrow .boolean (.int r) = .int r ∧ R r), fun _ _ _ _ => False) x hPx
    ⟨B.exec, B.bytes, hml, rfl, findClass_of_methodNamed B.named, hsd, hK, fun q hq => hq, Nat.le_refl _, Nat.le_refl _, Nat.le_refl _, Nat.le_refl _, ?_, hlt, ⟨hzq.1.narrow hsub, hzq.2.narrow hsub⟩, fun _ _ _ _ h => absurd h id⟩ ⟨x1, x2, Nat.not_le.mpr x2, Nat.one_pos⟩ rfl
  · refine hG s.heap [] ad ls hl ⟨⟨(fun k e h => nomatch h), (fun j k e e' h => nomatch h)⟩, (fun q hq => ?_), (fun _ h => nomatch h), va_S.rf, fun _ _ => rfl, Nat.le_refl _⟩
    rcases List.mem_cons.mp hq with rfl | hq
    · exact Nat.one_pos
    · rw [List.mem_singleton.mp hq]
      trivial
  · intro st w' ce sl hrt pc H locs ad' ls' hd hp
    obtain ⟨h1, h2, r, rfl, hx9, hRr⟩ := hrt
    refine W.widen (k := mc) (n := ms) h1 h2 ?_
    have hlocks := B.notSynchronized
    have hS := hp.2.2.2.1
    have hF : ∀ q, q < s.heap.size → H[q]? = s.heap[q]? := fun q g1 => hS.2.1 q g1 (Nat.not_le.mpr g1)
    refine W.zret B.exec B.bytes hr hx9 (fun t ht hW => ?_) (fun q hq => hsub _ (hS.2.2 q hq)) hd
    refine ⟨⟨some (.int r), w, ad, rfl, hQ r hRr, ?_, (fun v hv => by rw [Option.mem_toList] at hv; cases hv; trivial), Nat.le_refl _, fun _ _ => rfl⟩, ⟨by rw [ht]; exact hS.1, fun q g1 g2 => by rw [ht]; exact hF q g1⟩⟩
    rw [ht]
    exact ⟨fun j e9 hj => by
      obtain ⟨u1, u2, u3, u4, u5⟩ := hO.1 j e9 hj
      exact ⟨u1.kept (hF _ u1.lt), Or.inl ⟨j, e9, hj, rfl⟩, u3, u4, u5⟩, hO.2⟩
def nw_sld (Ls : Nat) (xs : Nat → Int32) : np_Op := fun k pc L st w ce sl => match st with
  | .int i :: .ref a :: r => a = 0 ∧ np_chk (np_inb i Ls) (k (pc + 1) L (.int (xs i.toNatClampNeg) :: r) w ce sl)
  | _ => False
theorem nw_sld_le {Ls : Nat} {xs : Nat → Int32} : ∀ k pc L st w ce sl, nw_sld Ls xs k pc L st w ce sl → np_sld Ls xs k pc L st w ce sl := by
  intro k pc L st w ce sl h
  unfold nw_sld at h
  unfold np_sld
  split at h
  · obtain ⟨h1, h2⟩ := h
    obtain ⟨h3, h4⟩ := np_chk_e h2
    exact ⟨h1, np_inb_e h3, h4⟩
  · exact h.elim
theorem nw_callVX_le2 {ci n : Nat} {sp : np_SpX} {maxL mc ms RC RS : Nat} {hs : List (Nat × Nat)} : ∀ k pc L st w ce sl, nw_callVX ci n sp maxL mc ms RC RS hs k pc L st w ce sl → np_callVX ci n sp maxL mc ms RC RS hs k pc L st w ce sl := fun k pc L st w ce sl h => nq_callVX_le k pc L st w ce sl (nw_callVX_le k pc L st w ce sl h)
