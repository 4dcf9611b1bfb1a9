/-! methods of a class of the JDK that has native ones beside them -/
theorem np_MetF {l : Launch} {y : MethodName} {ws ws' : List Cond} {rm : Room} {Pc : Array Value → State → Prop} {Qc : Array Value → State → Outcome → State → Prop} {mc ms : Nat} {free : Addr → Prop} {cc : ByteArray} {maxL : Nat} {ret : Option FieldType} (hy : plainFor y = true) (hw : ws = Cond.code y cc maxL ret :: ws')
    (body : ∀ p e s m args below meth c s₁, BodyLoose p l y (headSpec ws rm) cc maxL ret e s m args below meth c s₁ → c.maxLocals = maxL → Pc args s → W p l e (headSpec ws rm).room s m args below meth c s.heap [] 0 0 (MQ below Qc args s mc ms free) (entryFrame m args maxL)) : Met l y ws rm Pc Qc mc ms free := by
  refine MetFree.of_bodySF (code := cc) (maxLocals := maxL) (ret := ret) hy (fun args s m h hn => ?_) (fun p e s m args below meth c s₁ B hml hP _ => ?_)
  · obtain ⟨meth, c, h1, h2, h3, h4, h5, h6, -⟩ := Cond.code_spec hn (atoms_spec (ws := ws) h _ (hw ▸ List.mem_cons_self))
    exact ⟨meth, c, h1, h2, h3, h4, h5, h6⟩
  · have hh : s₁.heap = s.heap := by rw [B.state]; rfl
    obtain ⟨t, a1, o, b1, b2, b3⟩ := body p e s m args below meth c s₁ B hml hP s₁ hh (Stand.of_body B)
    exact ⟨t, o, a1, b1, b2, b3.1, b3.2⟩
theorem np_ofJdk {y : MethodName} {cc : ByteArray} {maxL : Nat} {ret : Option FieldType} {fr lo mc ms : Nat} {sp : np_Sp} (hy : plainFor y = true)
    (body : ∀ (X : np_Ctx) (vs : List Value) (w : np_W) (Q : Option Value → np_W → Prop), sp vs w Q → np_ok y.cls cc maxL fr lo mc ms (np_retI ret) X → np_mn X = y.name → X.2.2.1 = np_rt ret mc ms Q → (∀ j e, w.2 j = some e → j < w.1) → np_G X 0 (lv_args 0 vs) [] w 0 0) : np_C y cc maxL ret fr lo mc ms sp := by
  intro l hlt D cA ad w vs sz Q hcat hsp
  refine np_MetF (cc := cc) (maxL := maxL) (ret := ret) hy rfl ?_
  intro p e s m args below meth c s₁ B hml hv
  obtain ⟨rfl, hsz, hO, hcv, hK, hsd, hzq⟩ := hv
  subst hsz
  have hlen : (lg_sl (vs.map (np_v ad))).length ≤ maxL := by rw [np_lgsl_len, np_cat_sum]; exact hcat
  have hl := lv_entry (vs.map (np_v ad)) (n := maxL) hlen
  rw [lg_entry_eq]
  generalize (lg_sl (vs.map (np_v ad)) ++ List.replicate (maxL - (lg_sl (vs.map (np_v ad))).length) Slot.unset).toArray = ls at hl ⊢
  rw [np_args_map] at hl
  have hr := B.returns
  have hA : ∀ q, s.heap.size ≤ q → np_A ad w s.heap.size q := fun q hq => Or.inr hq
  have hG := body ((p, l, e, { frames := fr, cells := mc, slots := ms, locals := lo }, s, m, (vs.map (np_v ad)).toArray, below, meth, c), (MQ below (np_Qc D cA ad w s.heap.size Q) (vs.map (np_v ad)).toArray s mc ms (np_A ad w s.heap.size), D, cA, np_A ad w s.heap.size, ad, w.1, maxL), np_rt ret mc ms Q, fun _ _ _ _ => False) vs w Q hsp
    ⟨B.exec, B.bytes, hml, rfl, findClass_of_methodNamed B.named, hsd, hK, hA, Nat.le_refl _, Nat.le_refl _, Nat.le_refl _, Nat.le_refl _, ?_, hlt, hzq, fun _ _ _ _ h => absurd h id⟩ (name_of_methodNamed B.named B.method).1 rfl (fun j e9 h9 => (hO.1 j e9 h9).2.2.2.2)
  · exact hG s.heap [] ad ls hl ⟨hO.weaken (fun k e hk _ => Or.inl ⟨k, e, hk, rfl⟩), np_args_c vs 0 hcv, (fun _ h => nomatch h), va_S.rf, fun _ _ => rfl, Nat.le_refl _⟩
  · intro st w' ce sl hrt pc H locs ad' ls' hd hp
    obtain ⟨h1, h2, h3, f, hf9, h4⟩ := hrt
    refine W.widen (k := mc) (n := ms) h1 h2 ?_
    have hq : ∀ t : State, t.heap = H → s.WarmedH t.vm → np_Qc D cA ad w s.heap.size Q (vs.map (np_v ad)).toArray s (.returned (st.head?.map (np_v ad'))) t := fun t ht hW =>
      ⟨⟨st.head?, (w'.1, f), ad', rfl, h4, by rw [ht]; exact ⟨fun k e9 hk => hp.1.1 k e9 (hf9 k e9 hk), fun j k e9 e8 hj hk => hp.1.2 j k e9 e8 (hf9 j e9 hj) (hf9 k e8 hk)⟩, fun v hv => hp.2.2.1 v (by
        cases st with
        | nil => cases hv
        | cons a r =>
          have : v = a := by simpa using hv
          rw [this]
          exact List.mem_cons_self), hp.2.2.2.2.2, hp.2.2.2.2.1⟩, hp.2.2.2.1.F ht⟩
    have hf := hp.2.2.2.1.2.2
    have hlocks := B.notSynchronized
    unfold np_shape at h3
    split at h3
    · subst h3
      exact W.vret B.exec B.bytes hr hq hf hd
    · obtain ⟨x, rfl⟩ := h3
      exact W.iret B.exec B.bytes hr hq hf hd
    · obtain ⟨x, rfl, hx9⟩ := h3
      exact W.zret B.exec B.bytes hr hx9 hq hf hd
    · obtain ⟨x, rfl, hx9⟩ := h3
      exact W.zret B.exec B.bytes hr hx9 hq hf hd
    · obtain ⟨x, rfl⟩ := h3
      exact W.lret B.exec B.bytes hr hq hf hd
    · rcases h3 with rfl | ⟨k, rfl⟩
      · exact W.aret B.exec B.bytes hr (Or.inl ⟨_, rfl⟩) (Or.inl rfl) hq hf hd
      · exact W.aret B.exec B.bytes hr (Or.inl ⟨_, rfl⟩) (Or.inr ⟨_, rfl⟩) hq hf hd
    · rcases h3 with rfl | ⟨k, rfl⟩
      · exact W.aret B.exec B.bytes hr (Or.inr ⟨_, rfl⟩) (Or.inl rfl) hq hf hd
      · exact W.aret B.exec B.bytes hr (Or.inr ⟨_, rfl⟩) (Or.inr ⟨_, rfl⟩) hq hf hd
    · exact absurd h3 id
