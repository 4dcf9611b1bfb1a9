/-! Contracts and calls. -/
abbrev np_Sp : Type := List Value → np_W → (Option Value → np_W → Prop) → Prop
def np_A (ad : Nat → Nat) (w : np_W) (sz : Nat) : Nat → Prop := fun q => (∃ (k : Nat) (e : np_E), w.2 k = some e ∧ ad k = q) ∨ sz ≤ q
def np_P (D : va_G) (cA : FieldType → ClassId) (ad : Nat → Nat) (w : np_W) (vs : List Value) (sz : Nat) : Array Value → State → Prop :=
  va_Pc (vs.map (np_v ad)) (fun U => U.heap.size = sz ∧ np_O D cA (fun _ => True) ad w U.heap ∧ (∀ v ∈ vs, np_cv w.1 v) ∧ va_K D vwCl (np_tys.map fun ty => (cA ty, ty)) U ∧ np_sd U ∧ np_zq (np_A ad w sz) U)
def np_Qc (D : va_G) (cA : FieldType → ClassId) (ad : Nat → Nat) (w : np_W) (sz : Nat) (Q : Option Value → np_W → Prop) : Array Value → State → Outcome → State → Prop := fun _ st oc t =>
  (∃ (r : Option Value) (w' : np_W) (ad' : Nat → Nat), oc = .returned (r.map (np_v ad')) ∧ Q r w' ∧ np_O D cA (np_A ad w sz) ad' w' t.heap ∧ (∀ v ∈ r.toList, np_cv w'.1 v) ∧ w.1 ≤ w'.1 ∧ ∀ k, k < w.1 → ad' k = ad k) ∧ va_F (np_A ad w sz) st t
/-- the contract of a method that always returns: sp says what of the world is wanted, and what comes -/
def np_C (y : MethodName) (cc : ByteArray) (maxL : Nat) (ret : Option FieldType) (fr lo mc ms : Nat) (sp : np_Sp) : Prop :=
  ∀ (l : Launch), l.stackTraces = false → ∀ (D : va_G) (cA : FieldType → ClassId) (ad : Nat → Nat) (w : np_W) (vs : List Value) (sz : Nat) (Q : Option Value → np_W → Prop), (vs.map fun v => v.category).sum ≤ maxL → sp vs w Q →
    Met l y [Cond.code y cc maxL ret] { frames := fr, cells := mc, slots := ms, locals := lo } (np_P D cA ad w vs sz) (np_Qc D cA ad w sz Q) mc ms (np_A ad w sz)
theorem np_sd.warm {s U : State} (hW : s.WarmedH U.vm) (h : np_sd s) : np_sd U := by
  refine ⟨fun w hw => np_good hW (List.mem_filter.mp hw).2 (h.1 w hw), fun w hw => ?_, fun C hC => (h.2.2.1 C hC).moved hW.alike, fun q hq => (h.2.2.2.1 q hq).moved hW.alike, fun own k tx hq => ?_⟩
  · have h1 := h.2.1 w hw
    have h2 := (List.mem_filter.mp hw).2
    cases w <;> first | (simp [np_isNest] at h2; done) | exact va_Nw.warmF hW h1 | exact va_Nw.warmM hW h1 | exact va_Nw.warmD hW h1 | exact va_Nw.warmC hW h1
  · obtain ⟨sa, h1⟩ := h.2.2.2.2 own k tx hq
    exact ⟨sa, vk_R.warm hW h1⟩
theorem np_zq.go {A B : Nat → Prop} {s U : State} {H : Heap} {locs : List Loc} (h : np_zq A s) (hS : va_S A s.heap H locs) (hU : U.heap = H) (hvm : s.vm.Alike U.vm) (hAB : ∀ q, B q → A q) : np_zq B U := by
  refine ⟨?_, ?_⟩
  · rw [hU]
    exact ((vx_Zq.moved hvm (h.1.kept hS.2.1))).narrow hAB
  · rw [hU]
    exact ((vx_Zq.moved hvm (h.2.kept hS.2.1))).narrow hAB
theorem np_P.blind {D : va_G} {cA : FieldType → ClassId} {ad : Nat → Nat} {w : np_W} {vs : List Value} {sz : Nat} : FrameBlind (np_P D cA ad w vs sz) := fun a U g mk q => by
  obtain ⟨q0, q1, q2, q3, q4, q5, q6⟩ := q
  exact ⟨q0, q1, q2, q3, va_K.moved (u := U) (U := U.calling g mk a) (Vm.Alike.refl U.vm) q4, np_sd.warm (s := U) (U := U.calling g mk a) (State.WarmedH.refl U) q5, np_zq.go (s := U) (U := U.calling g mk a) (H := U.heap) (locs := []) q6 va_S.rf rfl (Vm.Alike.refl U.vm) (fun _ h => h)⟩
theorem np_A.sub {D : va_G} {cA : FieldType → ClassId} {A : Nat → Prop} {s : State} {ad0 : Nat → Nat} {n0 : Nat} {L : np_L} {st : List Value} {w : np_W} {H : Heap} {locs : List Loc} {ad : Nat → Nat} (h : np_pr D cA A s ad0 n0 L st w H locs ad) (hA : ∀ q, s.heap.size ≤ q → A q) : ∀ q, np_A ad w H.size q → A q := fun q hq => by
  rcases hq with ⟨k, e, h1, rfl⟩ | h1
  · exact (h.1.1 k e h1).2.1
  · exact hA q (Nat.le_trans h.2.2.2.1.1 h1)
theorem np_pr.P {D : va_G} {cA : FieldType → ClassId} {A : Nat → Prop} {s : State} {ad0 : Nat → Nat} {n0 : Nat} {L : np_L} {st vs : List Value} {w : np_W} {H : Heap} {locs : List Loc} {ad : Nat → Nat} (h : np_pr D cA A s ad0 n0 L st w H locs ad) (hvs : ∀ v ∈ vs, np_cv w.1 v) (hK : va_K D vwCl (np_tys.map fun ty => (cA ty, ty)) s) (hsd : np_sd s) (hzq : np_zq A s) (hA : ∀ q, s.heap.size ≤ q → A q) :
    ∀ U : State, U.heap = H → s.WarmedH U.vm → np_P D cA ad w vs H.size (vs.map (np_v ad)).toArray U := fun U hU hW =>
  ⟨rfl, by rw [hU], by rw [hU]; exact h.1.weaken (fun _ _ _ _ => trivial), hvs, va_K.moved hW.alike hK, hsd.warm hW, hzq.go h.2.2.2.1 hU hW.alike (np_A.sub h hA)⟩
/-- behind a call -/
theorem np_goes1 {p : Program} {l : Launch} {e : Env} {R : Room} {s : State} {m : MethodId} {args : Array Value} {below : List Frame} {meth : Method} {c : Code} {Q : State → Prop} {D : va_G} {cA : FieldType → ClassId} {A : Nat → Prop} {ad0 : Nat → Nat} {n0 nL : Nat} {Rt : np_Rt} {Th : np_Th} {H : Heap} {locs : List Loc} {ce sl mc ms pc : Nat} {ls : Array Slot} {L : np_L} {st rest stC : List Value} {w : np_W} {ad : Nat → Nat} {a : Array Value} {Q' : Option Value → np_W → Prop} {v : Option Value} {T T' st₀ t : State} {Lc : List Loc}
    (h0 : st₀.heap = H) (X' : Stand p l e R s m args below meth c T' (locs ++ Lc) (ce + mc) (sl + ms)) (hLc : ∀ q ∈ Lc, np_A ad w H.size q.base) (e1 : T'.heap = t.heap) (hQ : np_Qc D cA ad w H.size Q' a st₀ (.returned v) t) (stp : Goes p e below T (F0 m pc ls stC) T' { F0 m pc ls stC with pc := pc + 3, stack := v.toList ++ rest.map (np_v ad) })
    (hl : lv_has ls nL (np_cL ad L)) (hp : np_pr D cA A s ad0 n0 L st w H locs ad) (hrest : ∀ v ∈ rest, np_cv w.1 v) (hA : ∀ q, s.heap.size ≤ q → A q)
    (hk : ∀ r w', Q' r w' → np_G ((p, l, e, R, s, m, args, below, meth, c), (Q, D, cA, A, ad0, n0, nL), Rt, Th) (pc + 3) L (r.toList ++ rest) w' (ce + mc) (sl + ms)) :
    ∃ t, Steps p.tables e below (T.setTop (F0 m pc ls stC)) t ∧ Q t := by
  obtain ⟨⟨r, w', ad', hv, hq, hO, hcr, hn, had⟩, hz, hkk⟩ := hQ
  cases hv
  rw [h0] at hz hkk
  have hsub := np_A.sub hp hA
  have hO' : np_O D cA A ad' w' T'.heap := by rw [e1]; exact hO.weaken (fun k e _ h => hsub _ h)
  have hS : va_S A s.heap T'.heap (locs ++ Lc) := by
    have hS0 := hp.2.2.2.1
    refine ⟨Nat.le_trans hS0.1 (by rw [e1]; exact hz), fun q g1 g2 => ?_, fun q hq => ?_⟩
    · rw [e1, hkk q (Nat.lt_of_lt_of_le g1 hS0.1) (fun z => g2 (hsub q z))]
      exact hS0.2.1 q g1 g2
    · rcases List.mem_append.mp hq with h | h
      · exact hS0.2.2 q h
      · exact hsub _ (hLc q h)
  have hcL : np_cL ad' L = np_cL ad L := by
    unfold np_cL
    exact List.map_congr_left fun q hq => by rw [np_v.cong had (hp.2.1 q hq)]
  have hrm : rest.map (np_v ad') = rest.map (np_v ad) := np_vs.cong had hrest
  have hgo := hk r w' hq T'.heap (locs ++ Lc) ad' ls (by rw [hcL]; exact hl) ⟨hO', fun q hq => (hp.2.1 q hq).mono hn, fun v hv => by
    rcases List.mem_append.mp hv with h | h
    · exact hcr v h
    · exact (hrest v h).mono hn, hS, fun k hk => by rw [had k (Nat.lt_of_lt_of_le hk hp.2.2.2.2.2)]; exact hp.2.2.2.2.1 k hk, Nat.le_trans hp.2.2.2.2.2 hn⟩ T' rfl X'
  obtain ⟨t2, a1, b1⟩ := hgo
  refine ⟨t2, stp t2 ?_, b1⟩
  have he : (r.toList ++ rest).map (np_v ad') = (r.map (np_v ad')).toList ++ rest.map (np_v ad) := by
    rw [List.map_append, hrm]
    cases r <;> rfl
  rw [he] at a1
  exact a1
theorem np_goes {p : Program} {l : Launch} {e : Env} {R : Room} {s : State} {m : MethodId} {args : Array Value} {below : List Frame} {meth : Method} {c : Code} {Q : State → Prop} {D : va_G} {cA : FieldType → ClassId} {A : Nat → Prop} {ad0 : Nat → Nat} {n0 nL : Nat} {Rt : np_Rt} {Th : np_Th} {H : Heap} {locs : List Loc} {ce sl mc ms pc : Nat} {ls : Array Slot} {L : np_L} {st rest stC : List Value} {w : np_W} {ad : Nat → Nat} {a : Array Value} {Q' : Option Value → np_W → Prop}
    (hr : va_Run p l e R s m args below meth c H locs ce sl mc ms (F0 m pc ls stC) (rest.map (np_v ad)) (np_Qc D cA ad w H.size Q' a) (np_A ad w H.size)) (hl : lv_has ls nL (np_cL ad L)) (hp : np_pr D cA A s ad0 n0 L st w H locs ad) (hrest : ∀ v ∈ rest, np_cv w.1 v) (hA : ∀ q, s.heap.size ≤ q → A q)
    (hk : ∀ r w', Q' r w' → np_G ((p, l, e, R, s, m, args, below, meth, c), (Q, D, cA, A, ad0, n0, nL), Rt, Th) (pc + 3) L (r.toList ++ rest) w' (ce + mc) (sl + ms)) :
    W p l e R s m args below meth c H locs ce sl Q (F0 m pc ls stC) := by
  intro T hT X
  obtain ⟨v, st₀, t, T', Lc, h0, X', hLc, e1, e2, hQ, stp⟩ := hr T hT X
  exact np_goes1 (Rt := Rt) (Th := Th) h0 X' hLc e1 hQ stp hl hp hrest hA hk
/-- a call: n words of the stack are its arguments (the receiver among them) -/
def np_call (n : Nat) (sp : np_Sp) (maxL mc ms RC RS : Nat) : np_Op := fun k pc L st w ce sl =>
  n ≤ st.length ∧ ((st.drop n).map fun v => v.category).sum ≤ 8 ∧ ((st.take n).reverse.map fun v => v.category).sum ≤ maxL ∧ ce + mc ≤ RC ∧ sl + ms ≤ RS ∧
    sp (st.take n).reverse w (fun r w' => k (pc + 3) L (r.toList ++ st.drop n) w' (ce + mc) (sl + ms))
/-- .. of an object of class ci -/
def np_callV (ci n : Nat) (sp : np_Sp) (maxL mc ms RC RS : Nat) : np_Op := fun k pc L st w ce sl =>
  (match (st.take n).reverse with
    | .ref a :: _ => (match w.2 a with
      | some (.inr (c, _)) => c = ci
      | _ => False)
    | _ => False) ∧ np_call n sp maxL mc ms RC RS k pc L st w ce sl
theorem np_stk (ad : Nat → Nat) (st : List Value) (n : Nat) : st.map (np_v ad) = ((st.take n).reverse.map (np_v ad)).reverse ++ (st.drop n).map (np_v ad) := by
  rw [← List.map_reverse, List.reverse_reverse, ← List.map_append, List.take_append_drop]
theorem np_tk_c {n : Nat} {st : List Value} {k : Nat} (h : ∀ v ∈ st, np_cv n v) : (∀ v ∈ (st.take k).reverse, np_cv n v) ∧ ∀ v ∈ st.drop k, np_cv n v :=
  ⟨fun v hv => h v (List.mem_of_mem_take (List.mem_reverse.mp hv)), fun v hv => h v (List.mem_of_mem_drop hv)⟩
theorem np_tk_len {st : List Value} {k : Nat} (h : k ≤ st.length) : (st.take k).reverse.length = k := by
  rw [List.length_reverse, List.length_take]
  omega
/-- what the words of a call say -/
theorem np_cb {s : State} {args : Array Value} (hsd : np_sd s) {R : Room} {own : String} {ix : Nat} {y : MethodName} {cc' : ByteArray} {maxL : Nat} {ret : Option FieldType} {fr lo mc ms n : Nat} (hcode : Cond.code y cc' maxL ret ∈ np_gw) (hini : Cond.initialized y.cls ∈ np_gw) (hlink : Cond.methodLink own ix y ∈ np_gw) (hd : y.cls ≠ "java/lang/invoke/MethodHandle" ∧ y.cls ≠ "java/lang/invoke/VarHandle" ∧ (parseMethodDescriptor y.desc).map (fun d => d.parameters.length) = some n) (h1 : fr + 1 ≤ R.frames) (h2 : 8 + (maxL + 11) + lo ≤ R.locals) :
    CallB R s args own ix y cc' maxL ret [Cond.code y cc' maxL ret] { frames := fr, cells := mc, slots := ms, locals := lo } mc ms n := by
  have hts := np_hts hsd args
  refine callB_of (Ts := np_gw) (ws' := []) n hts (fun w hw => ?_) rfl rfl rfl (hts _ hini) (hts _ hlink) hd ⟨h1, h2⟩
  rw [List.mem_singleton.mp hw]
  exact ⟨hcode, Or.inl rfl⟩
theorem np_cn {s : State} {args : Array Value} (hsd : np_sd s) {R : Room} {own host : String} {ix : Nat} {y : MethodName} {cc' : ByteArray} {maxL : Nat} {ret : Option FieldType} {fr lo mc ms n : Nat} (hcode : Cond.code y cc' maxL ret ∈ np_gw) (hini : Cond.initialized y.cls ∈ np_gw) (hlink : Cond.methodLinkNest own ix y host ∈ np_nw) (hd : y.cls ≠ "java/lang/invoke/MethodHandle" ∧ y.cls ≠ "java/lang/invoke/VarHandle" ∧ (parseMethodDescriptor y.desc).map (fun d => d.parameters.length) = some n) (h1 : fr + 1 ≤ R.frames) (h2 : 8 + (maxL + 11) + lo ≤ R.locals) :
    va_CN R s args own ix y host cc' maxL ret [Cond.code y cc' maxL ret] { frames := fr, cells := mc, slots := ms, locals := lo } mc ms n := by
  have hts := np_hts hsd args
  refine va_cnB (Ts := np_gw) (ws' := []) n hts (fun w hw => ?_) rfl rfl rfl (hsd.2.1 _ hlink) (hts _ hini) hd ⟨h1, h2⟩
  rw [List.mem_singleton.mp hw]
  exact ⟨hcode, Or.inl rfl⟩
theorem np_s_callS {X : np_Ctx} {pc : Nat} {own : String} {cc : ByteArray} {nL RF RL RC RS : Nat} {rI : Instr} (hX : np_ok own cc nL RF RL RC RS rI X) {y : MethodName} {cc' : ByteArray} {maxL : Nat} {ret : Option FieldType} {fr lo mc ms n ix : Nat} {sp : np_Sp} (hC : np_C y cc' maxL ret fr lo mc ms sp) (d : decode cc pc = .ok (.invokestatic ix, 3)) (hcode : Cond.code y cc' maxL ret ∈ np_gw) (hini : Cond.initialized y.cls ∈ np_gw) (hlink : Cond.methodLink own ix y ∈ np_gw) (hst : Cond.static y ∈ np_gw)
    (hd : y.cls ≠ "java/lang/invoke/MethodHandle" ∧ y.cls ≠ "java/lang/invoke/VarHandle" ∧ (parseMethodDescriptor y.desc).map (fun d => d.parameters.length) = some n) (h1 : fr + 1 ≤ RF) (h2 : 8 + (maxL + 11) + lo ≤ RL) : np_S X pc (np_call n sp maxL mc ms RC RS) := by
  obtain ⟨⟨p, l, e, R, s, m, args, below, meth, c⟩, ⟨Q, D, cA, A, ad0, n0, nL'⟩, Rt, Th⟩ := X
  obtain ⟨hx, hb, hml, rfl, hown, hsd, hK, hA, hRF, hRL, hRC, hRS, hret, hlt, hzq, hth⟩ := hX
  intro k hk L st w ce sl hop H locs ad ls hl hp
  obtain ⟨g1, g2, g3, g4, g5, hop⟩ := hop
  have hM := hC l hlt D cA ad w (st.take n).reverse H.size _ g3 hop
  have htk := np_tk_c (k := n) hp.2.2.1
  have hts := np_hts hsd args
  refine np_goes (Rt := Rt) (Th := Th) (st := st) (va_runS (Ts := np_gw) (own := own) (ret := ret) (n := n) (As := (st.take n).reverse.map (np_v ad)) (rest := (st.drop n).map (np_v ad)) ⟨hx, hb, hml, hown, hts⟩ hM ⟨np_cb hsd hcode hini hlink hd (Nat.le_trans h1 hRF) (Nat.le_trans h2 hRL), hts _ hst⟩ ⟨np_P.blind, hp.P htk.1 hK hsd hzq hA⟩ rfl (by rw [List.length_map]; exact np_tk_len g1) hl.1 (np_stk ad st n) (lv_room (by rw [np_cat_sum]; exact g2)) d ⟨Nat.le_trans g4 hRC, Nat.le_trans g5 hRS⟩) hl hp htk.2 hA (fun r w' hq => hk _ _ _ _ _ _ hq)
theorem np_s_callSN {X : np_Ctx} {pc : Nat} {own : String} {cc : ByteArray} {nL RF RL RC RS : Nat} {rI : Instr} (hX : np_ok own cc nL RF RL RC RS rI X) {y : MethodName} {cc' : ByteArray} {maxL : Nat} {ret : Option FieldType} {fr lo mc ms n ix : Nat} {sp : np_Sp} {host : String} (hC : np_C y cc' maxL ret fr lo mc ms sp) (d : decode cc pc = .ok (.invokestatic ix, 3)) (hcode : Cond.code y cc' maxL ret ∈ np_gw) (hini : Cond.initialized y.cls ∈ np_gw) (hlink : Cond.methodLinkNest own ix y host ∈ np_nw) (hst : Cond.static y ∈ np_gw)
    (hd : y.cls ≠ "java/lang/invoke/MethodHandle" ∧ y.cls ≠ "java/lang/invoke/VarHandle" ∧ (parseMethodDescriptor y.desc).map (fun d => d.parameters.length) = some n) (h1 : fr + 1 ≤ RF) (h2 : 8 + (maxL + 11) + lo ≤ RL) : np_S X pc (np_call n sp maxL mc ms RC RS) := by
  obtain ⟨⟨p, l, e, R, s, m, args, below, meth, c⟩, ⟨Q, D, cA, A, ad0, n0, nL'⟩, Rt, Th⟩ := X
  obtain ⟨hx, hb, hml, rfl, hown, hsd, hK, hA, hRF, hRL, hRC, hRS, hret, hlt, hzq, hth⟩ := hX
  intro k hk L st w ce sl hop H locs ad ls hl hp
  obtain ⟨g1, g2, g3, g4, g5, hop⟩ := hop
  have hM := hC l hlt D cA ad w (st.take n).reverse H.size _ g3 hop
  have htk := np_tk_c (k := n) hp.2.2.1
  have hts := np_hts hsd args
  refine np_goes (Rt := Rt) (Th := Th) (st := st) (va_runSN (Ts := np_gw) (own := own) (host := host) (ret := ret) (n := n) (As := (st.take n).reverse.map (np_v ad)) (rest := (st.drop n).map (np_v ad)) ⟨hx, hb, hml, hown, hts⟩ hM ⟨np_cn hsd hcode hini hlink hd (Nat.le_trans h1 hRF) (Nat.le_trans h2 hRL), hts _ hst, trivial⟩ ⟨np_P.blind, hp.P htk.1 hK hsd hzq hA⟩ rfl (by rw [List.length_map]; exact np_tk_len g1) hl.1 (np_stk ad st n) (lv_room (by rw [np_cat_sum]; exact g2)) d ⟨Nat.le_trans g4 hRC, Nat.le_trans g5 hRS⟩) hl hp htk.2 hA (fun r w' hq => hk _ _ _ _ _ _ hq)
/-- the arguments of a call of an object: the receiver, then the others -/
theorem np_recv {D : va_G} {cA : FieldType → ClassId} {A : Nat → Prop} {s : State} {ad : Nat → Nat} {w : np_W} {H : Heap} {ci : Nat} {q : vw_C} (hK : va_K D vwCl (np_tys.map fun ty => (cA ty, ty)) s) (hO : np_O D cA A ad w H) (hc : vwCl[ci]? = some q) {a : Nat} {fs : List Value} (hwa : w.2 a = some (.inr (ci, fs))) : ∃ cell : Cell, H[ad a]? = some cell ∧ cell.vm.isStatics = false ∧ s.vm.findClass q.1 = some cell.cls :=
  va_recv hK (hO.one hwa) hc (q0 := 0) rfl
theorem np_s_callV {X : np_Ctx} {pc : Nat} {own : String} {cc : ByteArray} {nL RF RL RC RS : Nat} {rI : Instr} (hX : np_ok own cc nL RF RL RC RS rI X) {y : MethodName} {cc' : ByteArray} {maxL : Nat} {ret : Option FieldType} {fr lo mc ms n ix ci : Nat} {q : vw_C} {sp : np_Sp} (hC : np_C y cc' maxL ret fr lo mc ms sp) (d : decode cc pc = .ok (.invokevirtual ix, 3)) (hc : vwCl[ci]? = some q) (hcq : q.1 = y.cls) (hcode : Cond.code y cc' maxL ret ∈ np_gw) (hini : Cond.initialized y.cls ∈ np_gw) (hlink : Cond.methodLink own ix y ∈ np_gw) (hin : Cond.instanceMethod y ∈ np_gw) (hse : Cond.selects y.cls y y ∈ np_gw)
    (hd : y.cls ≠ "java/lang/invoke/MethodHandle" ∧ y.cls ≠ "java/lang/invoke/VarHandle" ∧ (parseMethodDescriptor y.desc).map (fun d => d.parameters.length) = some n) (h1 : fr + 1 ≤ RF) (h2 : 8 + (maxL + 11) + lo ≤ RL) : np_S X pc (np_callV ci (n + 1) sp maxL mc ms RC RS) := by
  obtain ⟨⟨p, l, e, R, s, m, args, below, meth, c⟩, ⟨Q, D, cA, A, ad0, n0, nL'⟩, Rt, Th⟩ := X
  obtain ⟨hx, hb, hml, rfl, hown, hsd, hK, hA, hRF, hRL, hRC, hRS, hret, hlt, hzq, hth⟩ := hX
  intro k hk L st w ce sl hop H locs ad ls hl hp
  obtain ⟨g0, g1, g2, g3, g4, g5, hop⟩ := hop
  have hM := hC l hlt D cA ad w (st.take (n + 1)).reverse H.size _ g3 hop
  have htk := np_tk_c (k := n + 1) hp.2.2.1
  have hts := np_hts hsd args
  have hlen := np_tk_len g1
  have hstk := np_stk ad st (n + 1)
  have hP := hp.P htk.1 hK hsd hzq hA
  split at g0
  · rename_i a As hrv
    rw [hrv] at hlen hstk hP
    split at g0
    · rename_i c9 fs hwa
      subst g0
      refine np_goes (Rt := Rt) (Th := Th) (st := st) (va_runV (Ts := np_gw) (own := own) (C := y.cls) (b := ad a) (ret := ret) (n := n) (As := As.map (np_v ad)) (rest := (st.drop (n + 1)).map (np_v ad)) ⟨hx, hb, hml, hown, hts⟩ hM ⟨np_cb hsd hcode hini hlink hd (Nat.le_trans h1 hRF) (Nat.le_trans h2 hRL), hts _ hin, hts _ hse⟩ ⟨np_P.blind, by rw [← hcq]; exact np_recv hK hp.1 hc hwa, by rw [hrv]; exact hP⟩ rfl (by rw [List.length_map]; simpa using hlen) hl.1 (by rw [hstk]; simp [np_v]) (lv_room (by rw [np_cat_sum]; exact g2)) d ⟨Nat.le_trans g4 hRC, Nat.le_trans g5 hRS⟩) hl hp htk.2 hA (fun r w' hq => hk _ _ _ _ _ _ hq)
    · exact absurd g0 id
  · exact absurd g0 id
theorem np_s_callVN {X : np_Ctx} {pc : Nat} {own : String} {cc : ByteArray} {nL RF RL RC RS : Nat} {rI : Instr} (hX : np_ok own cc nL RF RL RC RS rI X) {y : MethodName} {cc' : ByteArray} {maxL : Nat} {ret : Option FieldType} {fr lo mc ms n ix ci : Nat} {q : vw_C} {sp : np_Sp} {host : String} (hC : np_C y cc' maxL ret fr lo mc ms sp) (d : decode cc pc = .ok (.invokevirtual ix, 3)) (hc : vwCl[ci]? = some q) (hcq : q.1 = y.cls) (hcode : Cond.code y cc' maxL ret ∈ np_gw) (hini : Cond.initialized y.cls ∈ np_gw) (hlink : Cond.methodLinkNest own ix y host ∈ np_nw) (hin : Cond.instanceMethod y ∈ np_gw) (hse : Cond.selects y.cls y y ∈ np_gw)
    (hd : y.cls ≠ "java/lang/invoke/MethodHandle" ∧ y.cls ≠ "java/lang/invoke/VarHandle" ∧ (parseMethodDescriptor y.desc).map (fun d => d.parameters.length) = some n) (h1 : fr + 1 ≤ RF) (h2 : 8 + (maxL + 11) + lo ≤ RL) : np_S X pc (np_callV ci (n + 1) sp maxL mc ms RC RS) := by
  obtain ⟨⟨p, l, e, R, s, m, args, below, meth, c⟩, ⟨Q, D, cA, A, ad0, n0, nL'⟩, Rt, Th⟩ := X
  obtain ⟨hx, hb, hml, rfl, hown, hsd, hK, hA, hRF, hRL, hRC, hRS, hret, hlt, hzq, hth⟩ := hX
  intro k hk L st w ce sl hop H locs ad ls hl hp
  obtain ⟨g0, g1, g2, g3, g4, g5, hop⟩ := hop
  have hM := hC l hlt D cA ad w (st.take (n + 1)).reverse H.size _ g3 hop
  have htk := np_tk_c (k := n + 1) hp.2.2.1
  have hts := np_hts hsd args
  have hlen := np_tk_len g1
  have hstk := np_stk ad st (n + 1)
  have hP := hp.P htk.1 hK hsd hzq hA
  split at g0
  · rename_i a As hrv
    rw [hrv] at hlen hstk hP
    split at g0
    · rename_i c9 fs hwa
      subst g0
      refine np_goes (Rt := Rt) (Th := Th) (st := st) (va_runVN (Ts := np_gw) (own := own) (host := host) (C := y.cls) (b := ad a) (ret := ret) (n := n) (As := As.map (np_v ad)) (rest := (st.drop (n + 1)).map (np_v ad)) ⟨hx, hb, hml, hown, hts⟩ hM ⟨np_cn hsd hcode hini hlink hd (Nat.le_trans h1 hRF) (Nat.le_trans h2 hRL), hts _ hin, hts _ hse⟩ ⟨np_P.blind, by rw [← hcq]; exact np_recv hK hp.1 hc hwa, by rw [hrv]; exact hP⟩ rfl (by rw [List.length_map]; simpa using hlen) hl.1 (by rw [hstk]; simp [np_v]) (lv_room (by rw [np_cat_sum]; exact g2)) d ⟨Nat.le_trans g4 hRC, Nat.le_trans g5 hRS⟩) hl hp htk.2 hA (fun r w' hq => hk _ _ _ _ _ _ hq)
    · exact absurd g0 id
  · exact absurd g0 id
/-- a constructor's call: the receiver is new -/
def np_callI (n : Nat) (sp : np_Sp) (maxL mc ms RC RS : Nat) : np_Op := fun k pc L st w ce sl =>
  (match (st.take n).reverse with
    | .ref _ :: _ => True
    | _ => False) ∧ np_call n sp maxL mc ms RC RS k pc L st w ce sl
theorem np_s_callI {X : np_Ctx} {pc : Nat} {own : String} {cc : ByteArray} {nL RF RL RC RS : Nat} {rI : Instr} (hX : np_ok own cc nL RF RL RC RS rI X) {y : MethodName} {cc' : ByteArray} {maxL : Nat} {fr lo mc ms n ix : Nat} {sp : np_Sp} (hC : np_C y cc' maxL none fr lo mc ms sp) (d : decode cc pc = .ok (.invokespecial ix, 3)) (hyn : y.name = "<init>") (hcode : Cond.code y cc' maxL none ∈ np_gw) (hini : Cond.initialized y.cls ∈ np_gw) (hlink : Cond.methodLink own ix y ∈ np_gw) (hin : Cond.instanceMethod y ∈ np_gw)
    (hd : y.cls ≠ "java/lang/invoke/MethodHandle" ∧ y.cls ≠ "java/lang/invoke/VarHandle" ∧ (parseMethodDescriptor y.desc).map (fun d => d.parameters.length) = some n) (h1 : fr + 1 ≤ RF) (h2 : 8 + (maxL + 11) + lo ≤ RL) : np_S X pc (np_callI (n + 1) sp maxL mc ms RC RS) := by
  obtain ⟨⟨p, l, e, R, s, m, args, below, meth, c⟩, ⟨Q, D, cA, A, ad0, n0, nL'⟩, Rt, Th⟩ := X
  obtain ⟨hx, hb, hml, rfl, hown, hsd, hK, hA, hRF, hRL, hRC, hRS, hret, hlt, hzq, hth⟩ := hX
  intro k hk L st w ce sl hop H locs ad ls hl hp
  obtain ⟨g0, g1, g2, g3, g4, g5, hop⟩ := hop
  have hM := hC l hlt D cA ad w (st.take (n + 1)).reverse H.size _ g3 hop
  have htk := np_tk_c (k := n + 1) hp.2.2.1
  have hts := np_hts hsd args
  have hlen := np_tk_len g1
  have hstk := np_stk ad st (n + 1)
  have hP := hp.P htk.1 hK hsd hzq hA
  split at g0
  · rename_i a As hrv
    rw [hrv] at hlen hstk hP
    refine np_goes (Rt := Rt) (Th := Th) (st := st) (va_runI (Ts := np_gw) (own := own) (b := ad a) (n := n) (As := As.map (np_v ad)) (rest := (st.drop (n + 1)).map (np_v ad)) ⟨hx, hb, hml, hown, hts⟩ hM ⟨np_cb hsd hcode hini hlink hd (Nat.le_trans h1 hRF) (Nat.le_trans h2 hRL), hyn, hts _ hin⟩ ⟨np_P.blind, by rw [hrv]; exact hP⟩ rfl (by rw [List.length_map]; simpa using hlen) hl.1 (by rw [hstk]; simp [np_v]) (lv_room (by rw [np_cat_sum]; exact g2)) d ⟨Nat.le_trans g4 hRC, Nat.le_trans g5 hRS⟩) hl hp htk.2 hA (fun r w' hq => hk _ _ _ _ _ _ hq)
  · exact absurd g0 id
theorem np_s_callIN {X : np_Ctx} {pc : Nat} {own : String} {cc : ByteArray} {nL RF RL RC RS : Nat} {rI : Instr} (hX : np_ok own cc nL RF RL RC RS rI X) {y : MethodName} {cc' : ByteArray} {maxL : Nat} {fr lo mc ms n ix : Nat} {sp : np_Sp} {host : String} (hC : np_C y cc' maxL none fr lo mc ms sp) (d : decode cc pc = .ok (.invokespecial ix, 3)) (hyn : y.name = "<init>") (hcode : Cond.code y cc' maxL none ∈ np_gw) (hini : Cond.initialized y.cls ∈ np_gw) (hlink : Cond.methodLinkNest own ix y host ∈ np_nw) (hin : Cond.instanceMethod y ∈ np_gw)
    (hd : y.cls ≠ "java/lang/invoke/MethodHandle" ∧ y.cls ≠ "java/lang/invoke/VarHandle" ∧ (parseMethodDescriptor y.desc).map (fun d => d.parameters.length) = some n) (h1 : fr + 1 ≤ RF) (h2 : 8 + (maxL + 11) + lo ≤ RL) : np_S X pc (np_callI (n + 1) sp maxL mc ms RC RS) := by
  obtain ⟨⟨p, l, e, R, s, m, args, below, meth, c⟩, ⟨Q, D, cA, A, ad0, n0, nL'⟩, Rt, Th⟩ := X
  obtain ⟨hx, hb, hml, rfl, hown, hsd, hK, hA, hRF, hRL, hRC, hRS, hret, hlt, hzq, hth⟩ := hX
  intro k hk L st w ce sl hop H locs ad ls hl hp
  obtain ⟨g0, g1, g2, g3, g4, g5, hop⟩ := hop
  have hM := hC l hlt D cA ad w (st.take (n + 1)).reverse H.size _ g3 hop
  have htk := np_tk_c (k := n + 1) hp.2.2.1
  have hts := np_hts hsd args
  have hlen := np_tk_len g1
  have hstk := np_stk ad st (n + 1)
  have hP := hp.P htk.1 hK hsd hzq hA
  split at g0
  · rename_i a As hrv
    rw [hrv] at hlen hstk hP
    refine np_goes (Rt := Rt) (Th := Th) (st := st) (va_runIN (Ts := np_gw) (own := own) (host := host) (b := ad a) (n := n) (As := As.map (np_v ad)) (rest := (st.drop (n + 1)).map (np_v ad)) ⟨hx, hb, hml, hown, hts⟩ hM ⟨np_cn hsd hcode hini hlink hd (Nat.le_trans h1 hRF) (Nat.le_trans h2 hRL), hyn, hts _ hin⟩ ⟨np_P.blind, by rw [hrv]; exact hP⟩ rfl (by rw [List.length_map]; simpa using hlen) hl.1 (by rw [hstk]; simp [np_v]) (lv_room (by rw [np_cat_sum]; exact g2)) d ⟨Nat.le_trans g4 hRC, Nat.le_trans g5 hRS⟩) hl hp htk.2 hA (fun r w' hq => hk _ _ _ _ _ _ hq)
  · exact absurd g0 id
/-! A method's contract from its run. -/
def np_shape (ret : Option FieldType) (st : List Value) : Prop := match ret with
  | none => st = []
  | some .int => ∃ x, st = [.int x]
  | some .boolean => ∃ x, st = [.int x] ∧ narrow .boolean (.int x) = .int x
  | some .char => ∃ x, st = [.int x] ∧ narrow .char (.int x) = .int x
  | some .long => ∃ x, st = [.long x]
  | some (.object _) => st = [.null] ∨ ∃ k, st = [.ref k]
  | some (.array _) => st = [.null] ∨ ∃ k, st = [.ref k]
  | _ => False
def np_rt (ret : Option FieldType) (mc ms : Nat) (Q : Option Value → np_W → Prop) : np_Rt := fun st w ce sl => ce ≤ mc ∧ sl ≤ ms ∧ np_shape ret st ∧ ∃ f : Nat → Option np_E, (∀ k e, f k = some e → w.2 k = some e) ∧ Q st.head? (w.1, f)
def np_retI (ret : Option FieldType) : Instr := match ret with
  | none => .return_
  | some .long => .lreturn
  | some (.object _) => .areturn
  | some (.array _) => .areturn
  | _ => .ireturn
theorem np_lgsl_len (vs : List Value) : (lg_sl vs).length = (vs.map fun v => v.category).sum := by
  induction vs with
  | nil => rfl
  | cons v r ih =>
    unfold lg_sl at ih ⊢
    rw [List.flatMap_cons, List.length_append, ih, List.map_cons, List.sum_cons]
    rcases lv_cat v with h | h
    · rw [if_neg (by omega), h]; rfl
    · rw [if_pos h, h]; rfl
theorem np_args_map (ad : Nat → Nat) : ∀ (vs : List Value) (i : Nat), lv_args i (vs.map (np_v ad)) = np_cL ad (lv_args i vs) := by
  intro vs
  induction vs with
  | nil => intro i; rfl
  | cons v r ih =>
    intro i
    show (i, np_v ad v) :: lv_args (if (np_v ad v).category = 2 then i + 2 else i + 1) (r.map (np_v ad)) = (i, np_v ad v) :: np_cL ad (lv_args (if v.category = 2 then i + 2 else i + 1) r)
    rw [ih, np_v_cat]
theorem np_args_c {n : Nat} : ∀ (vs : List Value) (i : Nat), (∀ v ∈ vs, np_cv n v) → ∀ q ∈ lv_args i vs, np_cv n q.2 := by
  intro vs
  induction vs with
  | nil => intro i _ q hq; cases hq
  | cons v r ih =>
    intro i h q hq
    rcases List.mem_cons.mp (show q ∈ (i, v) :: lv_args (if v.category = 2 then i + 2 else i + 1) r from hq) with rfl | hq
    · exact np_c_hd h
    · exact ih _ (np_c_tl h) q hq
theorem np_of {y : MethodName} {cc : ByteArray} {maxL : Nat} {ret : Option FieldType} {fr lo mc ms : Nat} {sp : np_Sp} (hy : plainName y.cls = true)
    (body : ∀ (X : np_Ctx) (vs : List Value) (w : np_W) (Q : Option Value → np_W → Prop), sp vs w Q → np_ok y.cls cc maxL fr lo mc ms (np_retI ret) X → np_mn X = y.name → X.2.2.1 = np_rt ret mc ms Q → (∀ j e, w.2 j = some e → j < w.1) → np_G X 0 (lv_args 0 vs) [] w 0 0) : np_C y cc maxL ret fr lo mc ms sp := by
  intro l hlt D cA ad w vs sz Q hcat hsp
  refine Met.ofW (cc := cc) (maxL := maxL) (ret := ret) hy rfl ?_
  intro p e s m args below meth c s₁ B hml hv
  obtain ⟨rfl, hsz, hO, hcv, hK, hsd, hzq⟩ := hv
  subst hsz
  have hlen : (lg_sl (vs.map (np_v ad))).length ≤ maxL := by rw [np_lgsl_len, np_cat_sum]; exact hcat
  have hl := lv_entry (vs.map (np_v ad)) (n := maxL) hlen
  rw [lg_entry_eq]
  generalize (lg_sl (vs.map (np_v ad)) ++ List.replicate (maxL - (lg_sl (vs.map (np_v ad))).length) Slot.unset).toArray = ls at hl ⊢
  rw [np_args_map] at hl
  have hr := B.returns
  have hA : ∀ q, s.heap.size ≤ q → np_A ad w s.heap.size q := fun q hq => Or.inr hq
  have hG := body ((p, l, e, { frames := fr, cells := mc, slots := ms, locals := lo }, s, m, (vs.map (np_v ad)).toArray, below, meth, c), (MQ below (np_Qc D cA ad w s.heap.size Q) (vs.map (np_v ad)).toArray s mc ms (np_A ad w s.heap.size), D, cA, np_A ad w s.heap.size, ad, w.1, maxL), np_rt ret mc ms Q, fun _ _ _ _ => False) vs w Q hsp
    ⟨B.exec, B.bytes, hml, rfl, findClass_of_methodNamed B.named, hsd, hK, hA, Nat.le_refl _, Nat.le_refl _, Nat.le_refl _, Nat.le_refl _, ?_, hlt, hzq, fun _ _ _ _ h => absurd h id⟩ (name_of_methodNamed B.named B.method).1 rfl (fun j e9 h9 => (hO.1 j e9 h9).2.2.2.2)
  · exact hG s.heap [] ad ls hl ⟨hO.weaken (fun k e hk _ => Or.inl ⟨k, e, hk, rfl⟩), np_args_c vs 0 hcv, (fun _ h => nomatch h), va_S.rf, fun _ _ => rfl, Nat.le_refl _⟩
  · intro st w' ce sl hrt pc H locs ad' ls' hd hp
    obtain ⟨h1, h2, h3, f, hf9, h4⟩ := hrt
    refine W.widen (k := mc) (n := ms) h1 h2 ?_
    have hq : ∀ t : State, t.heap = H → s.WarmedH t.vm → np_Qc D cA ad w s.heap.size Q (vs.map (np_v ad)).toArray s (.returned (st.head?.map (np_v ad'))) t := fun t ht hW =>
      ⟨⟨st.head?, (w'.1, f), ad', rfl, h4, by rw [ht]; exact ⟨fun k e9 hk => hp.1.1 k e9 (hf9 k e9 hk), fun j k e9 e8 hj hk => hp.1.2 j k e9 e8 (hf9 j e9 hj) (hf9 k e8 hk)⟩, fun v hv => hp.2.2.1 v (by
        cases st with
        | nil => cases hv
        | cons a r =>
          have : v = a := by simpa using hv
          rw [this]
          exact List.mem_cons_self), hp.2.2.2.2.2, hp.2.2.2.2.1⟩, hp.2.2.2.1.F ht⟩
    have hf := hp.2.2.2.1.2.2
    have hlocks := B.notSynchronized
    unfold np_shape at h3
    split at h3
    · subst h3
      exact W.vret B.exec B.bytes hr hq hf hd
    · obtain ⟨x, rfl⟩ := h3
      exact W.iret B.exec B.bytes hr hq hf hd
    · obtain ⟨x, rfl, hx9⟩ := h3
      exact W.zret B.exec B.bytes hr hx9 hq hf hd
    · obtain ⟨x, rfl, hx9⟩ := h3
      exact W.zret B.exec B.bytes hr hx9 hq hf hd
    · obtain ⟨x, rfl⟩ := h3
      exact W.lret B.exec B.bytes hr hq hf hd
    · rcases h3 with rfl | ⟨k, rfl⟩
      · exact W.aret B.exec B.bytes hr (Or.inl ⟨_, rfl⟩) (Or.inl rfl) hq hf hd
      · exact W.aret B.exec B.bytes hr (Or.inl ⟨_, rfl⟩) (Or.inr ⟨_, rfl⟩) hq hf hd
    · rcases h3 with rfl | ⟨k, rfl⟩
      · exact W.aret B.exec B.bytes hr (Or.inr ⟨_, rfl⟩) (Or.inl rfl) hq hf hd
      · exact W.aret B.exec B.bytes hr (Or.inr ⟨_, rfl⟩) (Or.inr ⟨_, rfl⟩) hq hf hd
    · exact absurd h3 id
