/-! A method's run as its own contract. -/
def np_shp (ret : Option FieldType) (st : List Value) : Prop := match ret, st with
  | none, [] => True
  | some .int, [.int _] => True
  | some .boolean, [.int x] => narrow .boolean (.int x) = .int x
  | some .char, [.int x] => narrow .char (.int x) = .int x
  | some .long, [.long _] => True
  | some (.object _), [.null] => True
  | some (.object _), [.ref _] => True
  | some (.array _), [.null] => True
  | some (.array _), [.ref _] => True
  | _, _ => False
theorem np_shp_shape {ret : Option FieldType} {st : List Value} (h : np_shp ret st) : np_shape ret st := by
  unfold np_shp at h
  split at h
  · rfl
  · exact ⟨_, rfl⟩
  · exact ⟨_, rfl, h⟩
  · exact ⟨_, rfl, h⟩
  · exact ⟨_, rfl⟩
  · exact Or.inl rfl
  · exact Or.inr ⟨_, rfl⟩
  · exact Or.inl rfl
  · exact Or.inr ⟨_, rfl⟩
  · exact absurd h id
def np_rq (ret : Option FieldType) (mc ms : Nat) (Q : Option Value → np_W → Prop) : np_Rt := fun st w ce sl => ce ≤ mc ∧ sl ≤ ms ∧ np_shp ret st ∧ Q st.head? w
def np_in (is : np_Rt → List (Nat × np_Op)) (ret : Option FieldType) (mc ms fuel : Nat) : np_Sp := fun vs w Q =>
  np_runF (is (np_rq ret mc ms Q)) [] (fun _ _ _ _ _ _ => False) fuel 0 (lv_args 0 vs) [] w 0 0
theorem np_ok.rt {own : String} {cc : ByteArray} {nL RF RL RC RS : Nat} {rI : Instr} {c1 : Program × Launch × Env × Room × State × MethodId × Array Value × List Frame × Method × Code} {c2 : (State → Prop) × va_G × (FieldType → ClassId) × (Nat → Prop) × (Nat → Nat) × Nat × Nat} {Rt Rt' : np_Rt} {Th : np_Th} (h : np_ok own cc nL RF RL RC RS rI (c1, c2, Rt, Th)) (hr : ∀ st w ce sl, Rt' st w ce sl → Rt st w ce sl) : np_ok own cc nL RF RL RC RS rI (c1, c2, Rt', Th) := by
  obtain ⟨p, l, e, R, s, m, args, below, meth, c⟩ := c1
  obtain ⟨Q, D, cA, A, ad0, n0, nL'⟩ := c2
  obtain ⟨h1, h2, h3, h4, h5, h6, h7, h8, h9, h10, h11, h12, hret, h13, h14, hth⟩ := h
  exact ⟨h1, h2, h3, h4, h5, h6, h7, h8, h9, h10, h11, h12, fun st w ce sl q => hret st w ce sl (hr _ _ _ _ q), h13, h14, hth⟩
theorem np_inC {y : MethodName} {cc : ByteArray} {maxL : Nat} {ret : Option FieldType} {fr lo mc ms : Nat} {is : np_Rt → List (Nat × np_Op)} (fuel : Nat) (hy : plainName y.cls = true)
    (so : ∀ X : np_Ctx, np_ok y.cls cc maxL fr lo mc ms (np_retI ret) X → np_mn X = y.name → ∀ q ∈ is X.2.2.1, np_S X q.1 q.2) : np_C y cc maxL ret fr lo mc ms (np_in is ret mc ms fuel) := by
  refine np_of hy ?_
  intro X vs w Q hsp hX hmn hRt _
  obtain ⟨c1, c2, Rt, Th⟩ := X
  have hRt : Rt = np_rt ret mc ms Q := hRt
  subst hRt
  have hX' := hX.rt (Rt' := np_rq ret mc ms Q) (fun st w ce sl h => ⟨h.1, h.2.1, np_shp_shape h.2.2.1, w.2, fun _ _ h9 => h9, h.2.2.2⟩)
  have hg := np_soundF (so _ hX' hmn) (heads := []) (Hd := fun _ _ _ _ _ _ => False) (fun _ _ _ _ _ _ h => h.elim) fuel 0 _ _ _ _ _ hsp
  obtain ⟨p, l, e, R, s, m, args, below, meth, c⟩ := c1
  obtain ⟨Q0, D, cA, A, ad0, n0, nL'⟩ := c2
  exact hg
