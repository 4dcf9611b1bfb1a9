/-! The abstract machine: refs are places; a world maps places to entries; a continuation speaks of a state (pc, locals, stack, world, cells, slots). -/
abbrev np_E : Type := (FieldType × vp_A) ⊕ (Nat × List Value)
abbrev np_W : Type := Nat × (Nat → Option np_E)
abbrev np_L : Type := List (Nat × Value)
abbrev np_K : Type := Nat → np_L → List Value → np_W → Nat → Nat → Prop
abbrev np_Op : Type := np_K → np_K
abbrev np_Rt : Type := List Value → np_W → Nat → Nat → Prop
abbrev np_Th : Type := Nat → np_W → Nat → Nat → Prop
theorem np_beq {a b : Nat} (h : a = b) : Nat.beq a b = true := by rw [h]; exact Nat.beq_refl b
theorem np_bne {a b : Nat} (h : a ≠ b) : Nat.beq a b = false := by
  cases hb : Nat.beq a b with
  | false => rfl
  | true => exact absurd (Nat.eq_of_beq_eq_true hb) h
def np_up {α : Type} (f : Nat → Option α) (k : Nat) (x : α) : Nat → Option α := fun j => match Nat.beq j k with
  | true => some x
  | false => f j
theorem np_up_s {α : Type} (f : Nat → Option α) (k : Nat) (x : α) : np_up f k x k = some x := by unfold np_up; rw [np_beq rfl]
theorem np_up_n {α : Type} (f : Nat → Option α) {k j : Nat} (x : α) (h : j ≠ k) : np_up f k x j = f j := by unfold np_up; rw [np_bne h]
/-- a value, its places read as addresses -/
def np_v (ad : Nat → Nat) : Value → Value
  | .ref k => .ref (ad k)
  | v => v
def np_e (cA : FieldType → ClassId) (ad : Nat → Nat) : np_E → va_E
  | .inl (ty, n, .inl f) => .inl (cA ty, n, .inl f)
  | .inl (ty, n, .inr (.inl f)) => .inl (cA ty, n, .inr (.inl f))
  | .inl (ty, n, .inr (.inr (.inl f))) => .inl (cA ty, n, .inr (.inr (.inl f)))
  | .inl (ty, n, .inr (.inr (.inr (.inl f)))) => .inl (cA ty, n, .inr (.inr (.inr (.inl f))))
  | .inl (ty, n, .inr (.inr (.inr (.inr f)))) => .inl (cA ty, n, .inr (.inr (.inr (.inr (fun i => (f i).map ad)))))
  | .inr (ci, fs) => .inr (ci, fs.map (np_v ad))
def np_cv (n : Nat) : Value → Prop
  | .ref k => k < n
  | _ => True
def np_ce (n : Nat) : np_E → Prop
  | .inl (_, _, .inr (.inr (.inr (.inr f)))) => ∀ i k, f i = some k → k < n
  | .inr (_, fs) => ∀ v ∈ fs, np_cv n v
  | _ => True
def np_tys : List FieldType := [.int, .char, .object "NotationPress$Description", .object "NotationPress$Text", .object "NotationPress$Table", .object "NotationPress$Column", .object "NotationPress$Upgrade", .object "NotationPress$Trace"]
def np_te : np_E → Prop
  | .inl (ty, _) => ty ∈ np_tys
  | _ => True
theorem np_v_cat (ad : Nat → Nat) (v : Value) : (np_v ad v).category = v.category := by cases v <;> rfl
theorem np_cv.mono {n n' : Nat} (h : n ≤ n') {v : Value} (hv : np_cv n v) : np_cv n' v := by
  cases v <;> first | trivial | exact Nat.lt_of_lt_of_le hv h
theorem np_ce.mono {n n' : Nat} (h : n ≤ n') {e : np_E} (he : np_ce n e) : np_ce n' e := by
  rcases e with ⟨ty, k, f | f | f | f | f⟩ | ⟨ci, fs⟩
  · trivial
  · trivial
  · trivial
  · trivial
  · exact fun i k hk => Nat.lt_of_lt_of_le (he i k hk) h
  · exact fun v hv => (he v hv).mono h
theorem np_v.cong {n : Nat} {ad ad' : Nat → Nat} (h : ∀ k, k < n → ad' k = ad k) {v : Value} (hv : np_cv n v) : np_v ad' v = np_v ad v := by
  cases v <;> first | rfl | exact congrArg Value.ref (h _ hv)
theorem np_vs.cong {n : Nat} {ad ad' : Nat → Nat} (h : ∀ k, k < n → ad' k = ad k) {vs : List Value} (hv : ∀ v ∈ vs, np_cv n v) : vs.map (np_v ad') = vs.map (np_v ad) := List.map_congr_left fun v q => np_v.cong h (hv v q)
theorem np_e.cong {n : Nat} {cA : FieldType → ClassId} {ad ad' : Nat → Nat} (h : ∀ k, k < n → ad' k = ad k) {e : np_E} (he : np_ce n e) : np_e cA ad' e = np_e cA ad e := by
  rcases e with ⟨ty, k, f | f | f | f | f⟩ | ⟨ci, fs⟩
  · rfl
  · rfl
  · rfl
  · rfl
  · show Sum.inl (cA ty, k, Sum.inr (Sum.inr (Sum.inr (Sum.inr (fun i => (f i).map ad'))))) = Sum.inl (cA ty, k, Sum.inr (Sum.inr (Sum.inr (Sum.inr (fun i => (f i).map ad)))))
    have hf : (fun i => (f i).map ad') = fun i => (f i).map ad := by
      funext i
      cases hi : f i with
      | none => rfl
      | some z => exact congrArg some (h z (he i z hi))
    rw [hf]
  · exact congrArg (fun z => Sum.inr (ci, z)) (np_vs.cong h he)
/-- the world w lies in the heap H, its places at the addresses ad -/
def np_O (D : va_G) (cA : FieldType → ClassId) (A : Nat → Prop) (ad : Nat → Nat) (w : np_W) (H : Heap) : Prop :=
  (∀ (k : Nat) (e : np_E), w.2 k = some e → va_at D vwCl (ad k, np_e cA ad e) H ∧ A (ad k) ∧ np_ce w.1 e ∧ np_te e ∧ k < w.1) ∧
  (∀ (j k : Nat) (e e' : np_E), w.2 j = some e → w.2 k = some e' → ad j = ad k → j = k)
def np_cL (ad : Nat → Nat) (L : np_L) : List (Nat × Value) := L.map (fun q => (q.1, np_v ad q.2))
/-- what holds beside the locals: the world, all places are below the next one, the frame -/
def np_pr (D : va_G) (cA : FieldType → ClassId) (A : Nat → Prop) (s : State) (ad0 : Nat → Nat) (n0 : Nat) (L : np_L) (st : List Value) (w : np_W) (H : Heap) (locs : List Loc) (ad : Nat → Nat) : Prop :=
  np_O D cA A ad w H ∧ (∀ q ∈ L, np_cv w.1 q.2) ∧ (∀ v ∈ st, np_cv w.1 v) ∧ va_S A s.heap H locs ∧ (∀ k, k < n0 → ad k = ad0 k) ∧ n0 ≤ w.1
def np_isCode : Cond → Bool
  | .code .. => true
  | .codeWith .. => true
  | _ => false
def np_gw : List Cond := lw_tbl.filter goodWord
def np_isNest : Cond → Bool
  | .methodLinkNest .. => true
  | .fieldLinkNest .. => true
  | .declares _ => true
  | .castable .. => true
  | _ => false
def np_nw : List Cond := lw_tbl.filter np_isNest
def np_ao : List String := ["NotationPress$Description", "NotationPress$Text", "NotationPress$Table", "NotationPress$Column", "NotationPress$Upgrade", "NotationPress$Trace"]
/-- the exceptions, by number -/
def np_en : Nat → String
  | 0 => "java/lang/IndexOutOfBoundsException"
  | 1 => "java/lang/IllegalArgumentException"
  | _ => "java/lang/IllegalStateException"
def np_ens : List String := ["java/lang/RuntimeException", "java/lang/Exception"]
def np_ncs : List (String × String) := [(np_en 1, np_en 0), (np_en 2, np_en 0), (np_en 2, np_en 1)]
def np_isStr : Cond → Bool
  | .stringRef .. => true
  | _ => false
/-- what the tables say, at any state of the run -/
def np_sd (s : State) : Prop := (∀ w ∈ np_gw, w.before #[] s = true) ∧ (∀ w ∈ np_nw, va_Nw w s) ∧ (∀ C ∈ np_ao, va_AO C s) ∧ (∀ q ∈ np_ncs, va_Nc q.1 q.2 s) ∧ (∀ own k tx, Cond.stringRef own k tx ∈ lw_tbl → ∃ sa, vk_R own k tx sa s)
/-- the statics that a new Throwable reads -/
def np_zq (A : Nat → Prop) (s : State) : Prop := vx_Zq Bundle.tN "UNASSIGNED_STACK" Bundle.steD A s s.heap ∧ vx_Zq Bundle.tN "SUPPRESSED_SENTINEL" Bundle.listD A s s.heap
/-- at pc stands 'throw new E("text")' of the exception i -/
def np_tw (own : String) (cc : ByteArray) (i pc : Nat) : Prop := ∃ (ik is ic : Nat) (text : String), Cond.classLink own ik (np_en i) ∈ np_gw ∧ Cond.initialized (np_en i) ∈ np_gw ∧ Cond.stringRef own is text ∈ lw_tbl ∧ (∀ w ∈ vx_atS own ic (np_en i) np_ens, w ∈ np_gw ∨ w ∈ np_nw) ∧
  (∀ w ∈ Cond.classLink own ik (np_en i) :: Cond.initialized (np_en i) :: vx_atS own ic (np_en i) np_ens, vx_ot w = true) ∧
  ((decode cc pc = .ok (.new ik, 3) ∧ decode cc (pc + 3) = .ok (.dup, 1) ∧ decode cc (pc + 4) = .ok (.ldc is, 2) ∧ decode cc (pc + 6) = .ok (.invokespecial ic, 3) ∧ decode cc (pc + 9) = .ok (.athrow, 1)) ∨
   (decode cc pc = .ok (.new ik, 3) ∧ decode cc (pc + 3) = .ok (.dup, 1) ∧ decode cc (pc + 4) = .ok (.ldc_w is, 3) ∧ decode cc (pc + 7) = .ok (.invokespecial ic, 3) ∧ decode cc (pc + 10) = .ok (.athrow, 1)))
abbrev np_Ctx : Type := (Program × Launch × Env × Room × State × MethodId × Array Value × List Frame × Method × Code) × ((State → Prop) × va_G × (FieldType → ClassId) × (Nat → Prop) × (Nat → Nat) × Nat × Nat) × np_Rt × np_Th
def np_G : np_Ctx → np_K
  | ((p, l, e, R, s, m, args, below, meth, c), (Q, D, cA, A, ad0, n0, nL), _, _) => fun pc L st w ce sl =>
    ∀ (H : Heap) (locs : List Loc) (ad : Nat → Nat) (ls : Array Slot), lv_has ls nL (np_cL ad L) → np_pr D cA A s ad0 n0 L st w H locs ad →
      W p l e R s m args below meth c H locs ce sl Q (F0 m pc ls (st.map (np_v ad)))
def np_ok (own : String) (cc : ByteArray) (nL RF RL RC RS : Nat) (rI : Instr) : np_Ctx → Prop
  | ((p, l, e, R, s, m, args, below, meth, c), (Q, D, cA, A, ad0, n0, nL'), Rt, Th) =>
    p.tables.exec = Jvm.exec ∧ c.code = cc ∧ c.maxLocals = nL ∧ nL' = nL ∧ s.vm.findClass own = some m.cls ∧ np_sd s ∧ va_K D vwCl (np_tys.map fun ty => (cA ty, ty)) s ∧ (∀ q, s.heap.size ≤ q → A q) ∧ RF ≤ R.frames ∧ RL ≤ R.locals ∧ RC ≤ R.cells ∧ RS ≤ R.slots ∧
    (∀ st w ce sl, Rt st w ce sl → ∀ (pc : Nat) (H : Heap) (locs : List Loc) (ad : Nat → Nat) (ls : Array Slot), decode cc pc = .ok (rI, 1) → np_pr D cA A s ad0 n0 [] st w H locs ad → W p l e R s m args below meth c H locs ce sl Q (F0 m pc ls (st.map (np_v ad)))) ∧
    l.stackTraces = false ∧ np_zq A s ∧
    (∀ i w ce sl, Th i w ce sl → ∀ (pc : Nat) (st : List Value) (H : Heap) (locs : List Loc) (ad : Nat → Nat) (ls : Array Slot), np_tw own cc i pc → ls.size = nL → (st.map fun v => v.category).sum ≤ 8 → np_pr D cA A s ad0 n0 [] [] w H locs ad → W p l e R s m args below meth c H locs ce sl Q (F0 m pc ls (st.map (np_v ad))))
def np_mn (X : np_Ctx) : String := X.1.2.2.2.2.2.2.2.2.1.name
def np_S (X : np_Ctx) (pc : Nat) (op : np_Op) : Prop := ∀ k : np_K, (∀ pc L st w ce sl, k pc L st w ce sl → np_G X pc L st w ce sl) → ∀ L st w ce sl, op k pc L st w ce sl → np_G X pc L st w ce sl
/-- the runner: operations by pc, loop heads at which it stops -/
def np_get : List (Nat × np_Op) → Nat → Option (Nat × np_Op)
  | [], _ => none
  | (j, o) :: r, pc => match Nat.beq j pc with
    | true => some (j, o)
    | false => np_get r pc
def np_isin : List Nat → Nat → Bool
  | [], _ => false
  | j :: r, pc => match Nat.beq j pc with
    | true => true
    | false => np_isin r pc
def np_run (is : List (Nat × np_Op)) (heads : List Nat) (Hd : np_K) : Nat → np_K
  | 0 => fun _ _ _ _ _ _ => False
  | n + 1 => fun pc L st w ce sl => match np_get is pc with
    | none => False
    | some (j, op) => op (fun pc L st w ce sl => match np_isin heads pc with
      | true => Hd pc L st w ce sl
      | false => np_run is heads Hd n pc L st w ce sl) j L st w ce sl
theorem np_get_mem {is : List (Nat × np_Op)} {pc : Nat} {q : Nat × np_Op} (h : np_get is pc = some q) : q ∈ is ∧ q.1 = pc := by
  induction is with
  | nil => cases h
  | cons a r ih =>
    obtain ⟨j, o⟩ := a
    unfold np_get at h
    by_cases hj : j = pc
    · rw [np_beq hj] at h
      cases h
      exact ⟨List.mem_cons_self, hj⟩
    · rw [np_bne hj] at h
      exact ⟨List.mem_cons_of_mem _ (ih h).1, (ih h).2⟩
theorem np_sound {X : np_Ctx} {is : List (Nat × np_Op)} (his : ∀ q ∈ is, np_S X q.1 q.2) {heads : List Nat} {Hd : np_K} (hH : ∀ pc L st w ce sl, Hd pc L st w ce sl → np_G X pc L st w ce sl) :
    ∀ (n pc : Nat) (L : np_L) (st : List Value) (w : np_W) (ce sl : Nat), np_run is heads Hd n pc L st w ce sl → np_G X pc L st w ce sl := by
  intro n
  induction n with
  | zero => intro pc L st w ce sl h; exact absurd h id
  | succ n ih =>
    intro pc L st w ce sl h
    unfold np_run at h
    cases hg : np_get is pc with
    | none => rw [hg] at h; exact absurd h id
    | some q =>
      obtain ⟨j, op⟩ := q
      rw [hg] at h
      obtain ⟨hm, rfl⟩ := np_get_mem hg
      refine his _ hm _ (fun pc L st w ce sl hq => ?_) L st w ce sl h
      split at hq
      · exact hH _ _ _ _ _ _ hq
      · exact ih _ _ _ _ _ _ hq
/-! The same with all that is literal worked out at each step. -/
def np_force (n : Nat) (k : Nat → Prop) : Prop := match n with
  | 0 => k 0
  | m + 1 => k (m + 1)
theorem np_force_eq (n : Nat) (k : Nat → Prop) : np_force n k = k n := by cases n <;> rfl
def np_fl {α : Type} : List α → (List α → Prop) → Prop
  | [], k => k []
  | a :: r, k => np_fl r (fun r' => k (a :: r'))
theorem np_fl_eq {α : Type} (l : List α) : ∀ k : List α → Prop, np_fl l k = k l := by
  induction l with
  | nil => intro k; rfl
  | cons a r ih => intro k; exact ih _
def np_fk (k : np_K) : np_K := fun pc L st w ce sl => np_force pc fun pc => np_fl L fun L => np_fl st fun st => match w with
  | (n, f) => np_force n fun n => np_force ce fun ce => np_force sl fun sl => k pc L st (n, f) ce sl
theorem np_fk_eq (k : np_K) (pc : Nat) (L : np_L) (st : List Value) (w : np_W) (ce sl : Nat) : np_fk k pc L st w ce sl = k pc L st w ce sl := by
  obtain ⟨n, f⟩ := w
  unfold np_fk
  rw [np_force_eq, np_fl_eq, np_fl_eq]
  dsimp only
  rw [np_force_eq, np_force_eq, np_force_eq]
def np_runF (is : List (Nat × np_Op)) (heads : List Nat) (Hd : np_K) : Nat → np_K
  | 0 => fun _ _ _ _ _ _ => False
  | n + 1 => fun pc L st w ce sl => match np_get is pc with
    | none => False
    | some (j, op) => op (fun pc L st w ce sl => np_fk (fun pc L st w ce sl => match np_isin heads pc with
      | true => Hd pc L st w ce sl
      | false => np_runF is heads Hd n pc L st w ce sl) pc L st w ce sl) j L st w ce sl
theorem np_soundF {X : np_Ctx} {is : List (Nat × np_Op)} (his : ∀ q ∈ is, np_S X q.1 q.2) {heads : List Nat} {Hd : np_K} (hH : ∀ pc L st w ce sl, Hd pc L st w ce sl → np_G X pc L st w ce sl) :
    ∀ (n pc : Nat) (L : np_L) (st : List Value) (w : np_W) (ce sl : Nat), np_runF is heads Hd n pc L st w ce sl → np_G X pc L st w ce sl := by
  intro n
  induction n with
  | zero => intro pc L st w ce sl h; exact absurd h id
  | succ n ih =>
    intro pc L st w ce sl h
    unfold np_runF at h
    cases hg : np_get is pc with
    | none => rw [hg] at h; exact absurd h id
    | some q =>
      obtain ⟨j, op⟩ := q
      rw [hg] at h
      obtain ⟨hm, rfl⟩ := np_get_mem hg
      refine his _ hm _ (fun pc L st w ce sl hq => ?_) L st w ce sl h
      rw [np_fk_eq] at hq
      split at hq
      · exact hH _ _ _ _ _ _ hq
      · exact ih _ _ _ _ _ _ hq
