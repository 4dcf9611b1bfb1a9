/-! Contracts whose end forgets what was made on the way: the next place is as it was. -/
def np_rtN (ret : Option FieldType) (mc ms n : Nat) (Q : Option Value → np_W → Prop) : np_Rt := fun st w ce sl => ce ≤ mc ∧ sl ≤ ms ∧ np_shape ret st ∧ (∀ v ∈ st.head?.toList, np_cv n v) ∧ ∃ f : Nat → Option np_E, (∀ k e, f k = some e → w.2 k = some e ∧ np_ce n e ∧ k < n) ∧ Q st.head? (n, f)
theorem np_retN {p : Program} {l : Launch} {e : Env} {R : Room} {s : State} {m : MethodId} {args : Array Value} {below : List Frame} {meth : Method} {c : Code} {D : va_G} {cA : FieldType → ClassId} {ad : Nat → Nat} {w : np_W} {cc : ByteArray} {ret : Option FieldType} {mc ms : Nat} {Q : Option Value → np_W → Prop}
    (hexec : p.tables.exec = Jvm.exec) (hbytes : c.code = cc) (hr : meth.sig.returnType = ret) (hlocks : meth.locks = false) {st : List Value} {w' : np_W} {ce sl : Nat} (hrt : np_rtN ret mc ms w.1 Q st w' ce sl) {pc : Nat} {H : Heap} {locs : List Loc} {ad' : Nat → Nat} {ls' : Array Slot} (hd : decode cc pc = .ok (np_retI ret, 1)) (hp : np_pr D cA (np_A ad w s.heap.size) s ad w.1 [] st w' H locs ad') : W p l e R s m args below meth c H locs ce sl (MQ below (np_Qc D cA ad w s.heap.size Q) args s mc ms (np_A ad w s.heap.size)) (F0 m pc ls' (st.map (np_v ad'))) := by
  obtain ⟨h1, h2, h3, hcv, f, hf9, h4⟩ := hrt
  refine W.widen (k := mc) (n := ms) h1 h2 ?_
  have hq : ∀ t : State, t.heap = H → s.WarmedH t.vm → np_Qc D cA ad w s.heap.size Q args s (.returned (st.head?.map (np_v ad'))) t := fun t ht hW =>
    ⟨⟨st.head?, (w.1, f), ad', rfl, h4, by rw [ht]; exact hp.1.less (n := w.1) (f := f) hf9, hcv, Nat.le_refl _, hp.2.2.2.2.1⟩, hp.2.2.2.1.F ht⟩
  have hf := hp.2.2.2.1.2.2
  unfold np_shape at h3
  split at h3
  · subst h3
    exact W.vret hexec hbytes hr hq hf hd
  · obtain ⟨x, rfl⟩ := h3
    exact W.iret hexec hbytes hr hq hf hd
  · obtain ⟨x, rfl, hx9⟩ := h3
    exact W.zret hexec hbytes hr hx9 hq hf hd
  · obtain ⟨x, rfl, hx9⟩ := h3
    exact W.zret hexec hbytes hr hx9 hq hf hd
  · obtain ⟨x, rfl⟩ := h3
    exact W.lret hexec hbytes hr hq hf hd
  · rcases h3 with rfl | ⟨k, rfl⟩
    · exact W.aret hexec hbytes hr (Or.inl ⟨_, rfl⟩) (Or.inl rfl) hq hf hd
    · exact W.aret hexec hbytes hr (Or.inl ⟨_, rfl⟩) (Or.inr ⟨_, rfl⟩) hq hf hd
  · rcases h3 with rfl | ⟨k, rfl⟩
    · exact W.aret hexec hbytes hr (Or.inr ⟨_, rfl⟩) (Or.inl rfl) hq hf hd
    · exact W.aret hexec hbytes hr (Or.inr ⟨_, rfl⟩) (Or.inr ⟨_, rfl⟩) hq hf hd
  · exact absurd h3 id
theorem np_ofN {y : MethodName} {cc : ByteArray} {maxL : Nat} {ret : Option FieldType} {fr lo mc ms : Nat} {sp : np_Sp} (hy : plainName y.cls = true)
    (body : ∀ (X : np_Ctx) (vs : List Value) (w : np_W) (Q : Option Value → np_W → Prop), sp vs w Q → np_ok y.cls cc maxL fr lo mc ms (np_retI ret) X → X.2.2.1 = np_rtN ret mc ms w.1 Q → np_G X 0 (lv_args 0 vs) [] w 0 0) : np_C y cc maxL ret fr lo mc ms sp := by
  intro l hlt D cA ad w vs sz Q hcat hsp
  refine Met.ofW (cc := cc) (maxL := maxL) (ret := ret) hy rfl ?_
  intro p e s m args below meth c s₁ B hml hv
  obtain ⟨rfl, hsz, hO, hcv, hK, hsd, hzq⟩ := hv
  subst hsz
  have hlen : (lg_sl (vs.map (np_v ad))).length ≤ maxL := by rw [np_lgsl_len, np_cat_sum]; exact hcat
  have hl := lv_entry (vs.map (np_v ad)) (n := maxL) hlen
  rw [lg_entry_eq]
  generalize (lg_sl (vs.map (np_v ad)) ++ List.replicate (maxL - (lg_sl (vs.map (np_v ad))).length) Slot.unset).toArray = ls at hl ⊢
  rw [np_args_map] at hl
  have hlocks := B.notSynchronized
  have hA : ∀ q, s.heap.size ≤ q → np_A ad w s.heap.size q := fun q hq => Or.inr hq
  have hG := body ((p, l, e, { frames := fr, cells := mc, slots := ms, locals := lo }, s, m, (vs.map (np_v ad)).toArray, below, meth, c), (MQ below (np_Qc D cA ad w s.heap.size Q) (vs.map (np_v ad)).toArray s mc ms (np_A ad w s.heap.size), D, cA, np_A ad w s.heap.size, ad, w.1, maxL), np_rtN ret mc ms w.1 Q, fun _ _ _ _ => False) vs w Q hsp
    ⟨B.exec, B.bytes, hml, rfl, findClass_of_methodNamed B.named, hsd, hK, hA, Nat.le_refl _, Nat.le_refl _, Nat.le_refl _, Nat.le_refl _, (fun st w' ce sl hrt pc H locs ad' ls' hd hp => np_retN B.exec B.bytes B.returns hlocks hrt hd hp), hlt, hzq, fun _ _ _ _ h => absurd h id⟩ rfl
  exact hG s.heap [] ad ls hl ⟨hO.weaken (fun k e hk _ => Or.inl ⟨k, e, hk, rfl⟩), np_args_c vs 0 hcv, (fun _ h => nomatch h), va_S.rf, fun _ _ => rfl, Nat.le_refl _⟩
theorem np_ofW {y : MethodName} {cc : ByteArray} {maxL : Nat} {ret : Option FieldType} {hh : List (Nat × Nat × Nat × Nat)} {fr lo mc ms : Nat} {sp : np_Sp} (hy : plainName y.cls = true)
    (body : ∀ (X : np_Ctx) (vs : List Value) (w : np_W) (Q : Option Value → np_W → Prop), sp vs w Q → np_ok y.cls cc maxL fr lo mc ms (np_retI ret) X → np_tab X = tableOf hh → X.2.2.1 = np_rtN ret mc ms w.1 Q → np_G X 0 (lv_args 0 vs) [] w 0 0) : np_CW y cc maxL ret hh fr lo mc ms sp := by
  intro l hlt D cA ad w vs sz Q hcat hsp
  refine va_MetW (cc := cc) (maxL := maxL) (ret := ret) (hh := hh) hy rfl ?_
  intro p e s m args below meth c s₁ B hml hv
  obtain ⟨rfl, hsz, hO, hcv, hK, hsd, hzq⟩ := hv
  subst hsz
  have hlen : (lg_sl (vs.map (np_v ad))).length ≤ maxL := by rw [np_lgsl_len, np_cat_sum]; exact hcat
  have hl := lv_entry (vs.map (np_v ad)) (n := maxL) hlen
  rw [lg_entry_eq]
  generalize (lg_sl (vs.map (np_v ad)) ++ List.replicate (maxL - (lg_sl (vs.map (np_v ad))).length) Slot.unset).toArray = ls at hl ⊢
  rw [np_args_map] at hl
  have hlocks := B.notSynchronized
  have hA : ∀ q, s.heap.size ≤ q → np_A ad w s.heap.size q := fun q hq => Or.inr hq
  have htab : c.exceptionTable.toList = tableOf hh := vx_table (l := l) (x := y) B (atoms_spec (ws := [Cond.codeWith y cc maxL ret hh]) B.pre _ List.mem_cons_self)
  have hG := body ((p, l, e, { frames := fr, cells := mc, slots := ms, locals := lo }, s, m, (vs.map (np_v ad)).toArray, below, meth, c), (MQ below (np_Qc D cA ad w s.heap.size Q) (vs.map (np_v ad)).toArray s mc ms (np_A ad w s.heap.size), D, cA, np_A ad w s.heap.size, ad, w.1, maxL), np_rtN ret mc ms w.1 Q, fun _ _ _ _ => False) vs w Q hsp
    ⟨B.exec, B.bytes, hml, rfl, findClass_of_methodNamed B.named, hsd, hK, hA, Nat.le_refl _, Nat.le_refl _, Nat.le_refl _, Nat.le_refl _, (fun st w' ce sl hrt pc H locs ad' ls' hd hp => np_retN B.exec B.bytes B.returns hlocks hrt hd hp), hlt, hzq, fun _ _ _ _ h => absurd h id⟩ htab rfl
  exact hG s.heap [] ad ls hl ⟨hO.weaken (fun k e hk _ => Or.inl ⟨k, e, hk, rfl⟩), np_args_c vs 0 hcv, (fun _ h => nomatch h), va_S.rf, fun _ _ => rfl, Nat.le_refl _⟩
/-! the typed part of a world -/
theorem pw_okz0 {q a n z : Nat} (h1 : Nat.blt a 62 = true) (h0 : Nat.blt 0 n = true) (h : Nat.ble n (pw_cnt 0 a) = true) : pw_ok q a (z % n) = true := by
  refine Nat.ble_eq_true_of_le ?_
  have h2 := Nat.le_of_ble_eq_true h
  unfold pw_cnt at h2 ⊢
  rw [h1] at h2 ⊢
  exact Nat.lt_of_lt_of_le (Nat.mod_lt _ (pw_blt h0)) h2
theorem pw_okz {q a b n z : Nat} (h1 : Nat.blt a 62 = true) (h0 : Nat.blt 0 n = true) (h : Nat.ble (b + n) (pw_cnt 0 a) = true) : pw_ok q a (b + z % n) = true := by
  refine Nat.ble_eq_true_of_le ?_
  have h2 := Nat.le_of_ble_eq_true h
  have h3 : z % n < n := Nat.mod_lt _ (pw_blt h0)
  unfold pw_cnt at h2 ⊢
  rw [h1] at h2 ⊢
  dsimp only at h2 ⊢
  show b + z % n < _
  omega
theorem pw_ent_ce {q a i : Nat} {d : Nat → Int32} (hok : pw_ok q a i = true) : np_ce (65536 + q) (pw_ent a i d) := by
  have hr : ∀ b j, pw_ok q b j = true → pw_pl b j < 65536 + q := fun b j h => (pw_pl_lt h).2
  have hn : ∀ b n x, pw_ok q b (pw_dn n x) = true → np_cv (65536 + q) (pw_nr b n x) := fun b n x h => by
    unfold pw_nr
    split
    · trivial
    · exact hr _ _ h
  unfold pw_ent
  split
  · rename_i h
    have ha := Nat.eq_of_beq_eq_true h
    subst ha
    intro v hv
    simp only [List.mem_cons, List.not_mem_nil, or_false] at hv
    rcases hv with rfl | rfl | rfl | rfl | rfl | rfl | rfl | rfl | rfl
    · exact hr _ _ (pw_okl (a := 50) (b := 0) rfl rfl rfl hok)
    · exact hr _ _ (pw_okl (a := 50) (b := 1) rfl rfl rfl hok)
    · trivial
    · trivial
    · trivial
    · trivial
    · trivial
    · trivial
    · trivial
  split
  · rename_i h
    have ha := Nat.eq_of_beq_eq_true h
    subst ha
    intro v hv
    simp only [List.mem_cons, List.not_mem_nil, or_false] at hv
    rcases hv with rfl | rfl | rfl | rfl | rfl
    · exact hr _ _ (pw_okl (a := 51) (b := 2) rfl rfl rfl hok)
    · exact hr _ _ (pw_okl (a := 51) (b := 3) rfl rfl rfl hok)
    · exact hr _ _ (pw_okl (a := 51) (b := 4) rfl rfl rfl hok)
    · exact hr _ _ (pw_okl (a := 51) (b := 5) rfl rfl rfl hok)
    · trivial
  split
  · rename_i h
    have ha := Nat.eq_of_beq_eq_true h
    subst ha
    intro v hv
    simp only [List.mem_cons, List.not_mem_nil, or_false] at hv
    rcases hv with rfl | rfl | rfl | rfl | rfl | rfl | rfl
    · exact hr _ _ (pw_okl (a := 52) (b := 51) rfl rfl rfl hok)
    · exact hr _ _ (pw_okl (a := 52) (b := 6) rfl rfl rfl hok)
    · exact hr _ _ (pw_okl (a := 52) (b := 7) rfl rfl rfl hok)
    · exact hr _ _ (pw_okl (a := 52) (b := 8) rfl rfl rfl hok)
    · exact hr _ _ (pw_okl (a := 52) (b := 9) rfl rfl rfl hok)
    · exact hr _ _ (pw_okl (a := 52) (b := 10) rfl rfl rfl hok)
    · trivial
  split
  · rename_i h
    have ha := Nat.eq_of_beq_eq_true h
    subst ha
    intro v hv
    simp only [List.mem_cons, List.not_mem_nil, or_false] at hv
    rcases hv with rfl | rfl | rfl
    · exact hr _ _ (pw_okl (a := 53) (b := 11) rfl rfl rfl hok)
    · trivial
    · trivial
  split
  · rename_i h
    have ha := Nat.eq_of_beq_eq_true h
    subst ha
    intro v hv
    simp only [List.mem_cons, List.not_mem_nil, or_false] at hv
    rcases hv with rfl | rfl | rfl | rfl | rfl | rfl | rfl | rfl | rfl | rfl | rfl | rfl
    · exact hr _ _ (pw_okl (a := 54) (b := 12) rfl rfl rfl hok)
    · exact hr _ _ (pw_okl (a := 54) (b := 13) rfl rfl rfl hok)
    · exact hr _ _ (pw_okl (a := 54) (b := 14) rfl rfl rfl hok)
    · exact hr _ _ (pw_okl (a := 54) (b := 15) rfl rfl rfl hok)
    · exact hr _ _ (pw_okl (a := 54) (b := 16) rfl rfl rfl hok)
    · exact hn _ _ _ (pw_okd (a := 52) (n := 6) rfl rfl rfl)
    · trivial
    · trivial
    · trivial
    · trivial
    · trivial
    · trivial
  split
  · rename_i h
    have ha := Nat.eq_of_beq_eq_true h
    subst ha
    intro v hv
    simp only [List.mem_cons, List.not_mem_nil, or_false] at hv
    rcases hv with rfl | rfl | rfl | rfl | rfl | rfl
    · exact hr _ _ (pw_okl (a := 55) (b := 17) rfl rfl rfl hok)
    · exact hr _ _ (pw_okl (a := 55) (b := 18) rfl rfl rfl hok)
    · exact hn _ _ _ (pw_okd (a := 54) (n := 2) rfl rfl rfl)
    · trivial
    · trivial
    · trivial
  split
  · rename_i h
    have ha := Nat.eq_of_beq_eq_true h
    subst ha
    intro v hv
    simp only [List.mem_cons, List.not_mem_nil, or_false] at hv
    rcases hv with rfl | rfl | rfl
    · exact hr _ _ rfl
    · exact hr _ _ rfl
    · exact hr _ _ rfl
  split
  · rename_i h
    have ha := Nat.eq_of_beq_eq_true h
    subst ha
    intro v hv
    simp only [List.mem_cons, List.not_mem_nil, or_false] at hv
    rcases hv with rfl | rfl | rfl | rfl | rfl | rfl | rfl
    · exact hr _ _ (pw_okl (a := 57) (b := 22) rfl rfl rfl hok)
    · exact hr _ _ (pw_okl (a := 57) (b := 23) rfl rfl rfl hok)
    · exact hr _ _ (pw_okl (a := 57) (b := 24) rfl rfl rfl hok)
    · exact hr _ _ (pw_okl (a := 57) (b := 25) rfl rfl rfl hok)
    · exact hr _ _ (pw_okl (a := 57) (b := 26) rfl rfl rfl hok)
    · exact hr _ _ (pw_okl (a := 57) (b := 27) rfl rfl rfl hok)
    · trivial
  split
  · rename_i h
    have ha := Nat.eq_of_beq_eq_true h
    subst ha
    intro v hv
    simp only [List.mem_cons, List.not_mem_nil, or_false] at hv
    rcases hv with rfl | rfl | rfl
    · exact hr _ _ rfl
    · exact hr _ _ rfl
    · exact hr _ _ rfl
  split
  · rename_i h
    have ha := Nat.eq_of_beq_eq_true h
    subst ha
    intro v hv
    simp only [List.mem_cons, List.not_mem_nil, or_false] at hv
    rcases hv with rfl | rfl | rfl | rfl | rfl | rfl | rfl | rfl | rfl | rfl | rfl
    · exact hr _ _ rfl
    · exact hr _ _ rfl
    · exact hr _ _ rfl
    · exact hr _ _ rfl
    · exact hr _ _ rfl
    · exact hr _ _ (pw_okd (a := 51) (n := 8) rfl rfl rfl)
    · exact hr _ _ (pw_okd (a := 53) (n := 3) rfl rfl rfl)
    · trivial
    · trivial
    · trivial
    · trivial
  split
  · rename_i h
    have ha := Nat.eq_of_beq_eq_true h
    subst ha
    intro v hv
    simp only [List.mem_cons, List.not_mem_nil, or_false] at hv
    rcases hv with rfl | rfl | rfl | rfl | rfl
    · exact hr _ _ rfl
    · exact hr _ _ rfl
    · exact hr _ _ rfl
    · trivial
    · trivial
  split
  · rename_i h
    have ha := Nat.eq_of_beq_eq_true h
    subst ha
    intro v hv
    simp only [List.mem_cons, List.not_mem_nil, or_false] at hv
    rcases hv with rfl | rfl | rfl | rfl | rfl | rfl | rfl | rfl | rfl | rfl | rfl | rfl | rfl | rfl
    · exact hr _ _ rfl
    · exact hr _ _ rfl
    · trivial
    · exact hr _ _ rfl
    · exact hr _ _ rfl
    · exact hr _ _ rfl
    · exact hr _ _ rfl
    · exact hr _ _ rfl
    · exact hr _ _ rfl
    · exact hr _ _ rfl
    · trivial
    · exact hr _ _ rfl
    · exact hr _ _ rfl
    · trivial
  split
  · intro z k hk
    cases hk
    exact hr _ _ (pw_okz0 (a := 50) (n := 407) rfl rfl rfl)
  split
  · intro z k hk
    cases hk
    exact hr _ _ (pw_okz (a := 50) (b := 409) (n := 26) rfl rfl rfl)
  split
  · intro z k hk
    cases hk
    exact hr _ _ (pw_okz0 (a := 52) (n := 6) rfl rfl rfl)
  split
  · intro z k hk
    cases hk
    exact hr _ _ (pw_okz0 (a := 53) (n := 2) rfl rfl rfl)
  split
  · intro z k hk
    cases hk
    exact hr _ _ (pw_okz0 (a := 54) (n := 2) rfl rfl rfl)
  split
  · intro z k hk
    cases hk
    exact hr _ _ (pw_okz0 (a := 55) (n := 6) rfl rfl rfl)
  split
  · intro z k hk
    cases hk
    exact hr _ _ (pw_okz0 (a := 57) (n := 8) rfl rfl rfl)
  split
  · trivial
  trivial
theorem pw_reset {q q' n : Nat} {f : Nat → Option np_E} {S : pw_S} (hW : pw_W q' (n, f) S) (hq : q ≤ q') : ∃ f0, pw_W q (65536 + q, f0) S ∧ ∀ k e, f0 k = some e → f k = some e ∧ np_ce (65536 + q) e ∧ k < 65536 + q := by
  have hup : ∀ a i, pw_ok q a i = true → pw_ok q' a i = true := by
    intro a i h
    have h1 := pw_blt h
    refine Nat.ble_eq_true_of_le ?_
    unfold pw_cnt at h1 ⊢
    split at h1
    · exact h1
    · split at h1
      · show i < min q' 1
        omega
      · split at h1
        · show i < min (q' - 1) 1
          omega
        · exact h1
  classical
  refine ⟨fun k => if ∃ a i, pw_ok q a i = true ∧ pw_pl a i = k then f k else none, ⟨rfl, fun a i h => ?_⟩, fun k e hk => ?_⟩
  · show (if ∃ b j, pw_ok q b j = true ∧ pw_pl b j = pw_pl a i then f (pw_pl a i) else none) = _
    rw [if_pos ⟨a, i, h, rfl⟩]
    exact hW.2 a i (hup a i h)
  · dsimp only at hk
    split at hk
    · rename_i hex
      obtain ⟨a, i, h, rfl⟩ := hex
      have h2 := hW.2 a i (hup a i h)
      have h3 : f (pw_pl a i) = some (pw_ent a i (S a i)) := h2
      rw [h3] at hk
      cases hk
      exact ⟨h3, pw_ent_ce h, (pw_pl_lt h).2⟩
    · cases hk
theorem pw_cvi {n : Nat} (x : Int32) : ∀ v ∈ (some (Value.int x)).toList, np_cv n v := fun v hv => by
  rw [Option.mem_toList] at hv
  cases hv
  trivial
theorem pw_cvn {n : Nat} : ∀ v ∈ (none : Option Value).toList, np_cv n v := fun v hv => by cases hv
theorem pw_and {a b : Bool} (ha : a = true) (hb : b = true) : (a && b) = true := by rw [ha, hb]; rfl
theorem pw_le {a b : Nat} (h : a ≤ b) : Nat.ble a b = true := Nat.ble_eq_true_of_le h
/-! new rows in the law's own methods -/
def nw_newa (ty : FieldType) (N : Nat) (a0 : vp_A) (RC RS : Nat) : np_Op := fun k pc L st w ce sl => match st with
  | .int n :: r => np_chk (decide (n = Int32.ofNat N) && (Nat.ble (ce + 1) RC && Nat.ble (sl + N) RS)) (∀ b f', b = w.1 → f' = np_up w.2 w.1 (.inl (ty, a0)) → k (pc + 2) L (.ref b :: r) (w.1 + 1, f') (ce + 1) (sl + N))
  | _ => False
theorem nw_newa_le {ty : FieldType} {N : Nat} {a0 : vp_A} {RC RS : Nat} : ∀ k pc L st w ce sl, nw_newa ty N a0 RC RS k pc L st w ce sl → nq_newa ty N a0 RC RS k pc L st w ce sl := by
  intro k pc L st w ce sl h
  unfold nw_newa at h
  unfold nq_newa
  split at h
  · obtain ⟨h1, h2⟩ := np_chk_e h
    refine np_chk_i h1 ?_
    rw [np_force_eq]
    exact h2 _ _ rfl rfl
  · exact h.elim
theorem pw_new {q n : Nat} {f : Nat → Option np_E} {S : pw_S} {a : Nat} (ha : a = 100 + q) (hq : q < 2) (hW : pw_W q (n, f) S) {α : Type} {k : pw_S → pw_R α} {P : pw_S → α → Prop} {K : Nat → (Nat → Option np_E) → Prop} (h : pw_p (pw_l (pw_up S a 0 (fun _ => 0)) k) P) (H : ∀ S' f', pw_W (q + 1) (n + 1, f') S' → pw_p (k S') P → K (pw_pl a 0) f') : ∀ b f', b = n → f' = np_up f n (.inl (.int, 8, .inl (fun _ => 0))) → K b f' := by
  intro b0 f' hb0 hf
  subst ha
  have hn : n = 65536 + q := hW.1
  have hpl : pw_pl (100 + q) 0 = n := by rw [pw_pl_hi (by omega), hn]; omega
  rw [hb0, ← hpl]
  refine H (pw_up S (100 + q) 0 (fun _ => 0)) f' ⟨by show n + 1 = _; omega, fun b j hb => ?_⟩ h
  rw [hf]
  show np_up f n _ (pw_pl b j) = _
  by_cases hbj : b = 100 + q ∧ j = 0
  · obtain ⟨rfl, rfl⟩ := hbj
    rw [hpl, np_up_s, pw_up_s, pw_ent_arr (by
      unfold pw_arr
      rw [show Nat.ble 100 (100 + q) = true from Nat.ble_eq_true_of_le (by omega), Bool.or_true])]
    unfold pw_len
    rw [show Nat.blt (100 + q) 62 = false from by
      cases hb2 : Nat.blt (100 + q) 62 with
      | false => rfl
      | true => exact absurd (pw_blt hb2) (by omega)]
  · have hb' : pw_ok q b j = true := by
      rcases pw_ok_lt hb with h1 | ⟨rfl, rfl, h1⟩ | ⟨rfl, rfl, h1⟩
      · have h2 := pw_blt hb
        refine Nat.ble_eq_true_of_le ?_
        unfold pw_cnt at h2 ⊢
        rw [show Nat.blt b 62 = true from Nat.ble_eq_true_of_le h1.1] at h2 ⊢
        exact h2
      · have h3 : 1 ≤ q := by
          by_cases h4 : q = 0
          · subst h4
            exact absurd ⟨rfl, rfl⟩ hbj
          · omega
        refine Nat.ble_eq_true_of_le ?_
        show 0 < min q 1
        omega
      · exfalso
        have h4 : q = 1 := by omega
        subst h4
        exact hbj ⟨rfl, rfl⟩
    rw [np_up_n _ _ (fun z => by
      have h5 := (pw_pl_lt hb').2
      rw [z, hn] at h5
      omega), pw_up_n _ _ hbj]
    exact hW.2 b j hb'
