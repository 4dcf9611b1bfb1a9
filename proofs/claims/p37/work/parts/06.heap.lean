/-! Heap rows: reads, writes, new cells. -/
theorem np_O.weaken {D : va_G} {cA : FieldType → ClassId} {A B : Nat → Prop} {ad : Nat → Nat} {w : np_W} {H : Heap} (h : np_O D cA A ad w H) (hAB : ∀ k e, w.2 k = some e → A (ad k) → B (ad k)) : np_O D cA B ad w H :=
  ⟨fun k e hk => ⟨(h.1 k e hk).1, hAB k e hk (h.1 k e hk).2.1, (h.1 k e hk).2.2⟩, h.2⟩
theorem np_O.one {D : va_G} {cA : FieldType → ClassId} {A : Nat → Prop} {ad : Nat → Nat} {w : np_W} {H : Heap} (h : np_O D cA A ad w H) {k : Nat} {e : np_E} (hk : w.2 k = some e) : va_P D vwCl [(ad k, np_e cA ad e)] H := fun i q hi => by
  have hz : i < 1 := (List.getElem?_eq_some_iff.mp hi).1
  rw [show i = 0 by omega] at hi
  cases hi
  exact (h.1 k e hk).1
theorem np_O.set {D : va_G} {cA : FieldType → ClassId} {A : Nat → Prop} {ad : Nat → Nat} {w : np_W} {H H1 : Heap} (h : np_O D cA A ad w H) {k : Nat} {e e' : np_E} (hk : w.2 k = some e) (he : va_at D vwCl (ad k, np_e cA ad e') H1) (oq : ∀ q : Nat, q ≠ ad k → H1[q]? = H[q]?) (hc : np_ce w.1 e') (ht : np_te e') : np_O D cA A ad (w.1, np_up w.2 k e') H1 := by
  have key : ∀ (j : Nat) (x : np_E), np_up w.2 k e' j = some x → (j = k ∧ x = e') ∨ (j ≠ k ∧ w.2 j = some x) := by
    intro j x hj
    by_cases hjk : j = k
    · subst hjk
      rw [np_up_s] at hj
      cases hj
      exact Or.inl ⟨rfl, rfl⟩
    · rw [np_up_n _ _ hjk] at hj
      exact Or.inr ⟨hjk, hj⟩
  have key2 : ∀ (j : Nat) (x : np_E), np_up w.2 k e' j = some x → ∃ y, w.2 j = some y := by
    intro j x hj
    rcases key j x hj with ⟨rfl, rfl⟩ | ⟨-, h2⟩
    · exact ⟨e, hk⟩
    · exact ⟨x, h2⟩
  refine ⟨fun j x hj => ?_, fun i j x y hi hj hij => ?_⟩
  · rcases key j x hj with ⟨rfl, rfl⟩ | ⟨h1, h2⟩
    · exact ⟨he, (h.1 _ e hk).2.1, hc, ht, (h.1 _ e hk).2.2.2.2⟩
    · exact ⟨(h.1 j x h2).1.kept (oq _ (fun z => h1 (h.2 j k x e h2 hk z))), (h.1 j x h2).2⟩
  · obtain ⟨x', hx'⟩ := key2 i x hi
    obtain ⟨y', hy'⟩ := key2 j y hj
    exact h.2 i j x' y' hx' hy' hij
theorem np_O.push {D : va_G} {cA : FieldType → ClassId} {A : Nat → Prop} {ad : Nat → Nat} {w : np_W} {H H1 : Heap} (h : np_O D cA A ad w H) {e : np_E} (he : va_at D vwCl (H.size, np_e cA ad e) H1) (oq : ∀ q : Nat, q < H.size → H1[q]? = H[q]?) (hA : A H.size) (hc : np_ce w.1 e) (ht : np_te e) : np_O D cA A (va_up ad w.1 H.size) (w.1 + 1, np_up w.2 w.1 e) H1 := by
  have hag : ∀ k, k < w.1 → va_up ad w.1 H.size k = ad k := fun k hk => va_up_ne _ _ (Nat.ne_of_lt hk)
  have key : ∀ (j : Nat) (x : np_E), np_up w.2 w.1 e j = some x → (j = w.1 ∧ x = e) ∨ (j < w.1 ∧ w.2 j = some x) := by
    intro j x hj
    by_cases hjk : j = w.1
    · subst hjk
      rw [np_up_s] at hj
      cases hj
      exact Or.inl ⟨rfl, rfl⟩
    · rw [np_up_n _ _ hjk] at hj
      exact Or.inr ⟨(h.1 j x hj).2.2.2.2, hj⟩
  refine ⟨fun j x hj => ?_, fun i j x y hi hj hij => ?_⟩
  · rcases key j x hj with ⟨rfl, rfl⟩ | ⟨h1, h2⟩
    · refine ⟨?_, ?_, hc.mono (Nat.le_succ _), ht, Nat.lt_succ_self _⟩
      · rw [va_up_self, np_e.cong hag hc]
        exact he
      · rw [va_up_self]
        exact hA
    · obtain ⟨g1, g2, g3, g4, g5⟩ := h.1 j x h2
      refine ⟨?_, ?_, g3.mono (Nat.le_succ _), g4, Nat.lt_succ_of_lt g5⟩
      · rw [hag j h1, np_e.cong hag g3]
        exact g1.kept (oq _ g1.lt)
      · rw [hag j h1]
        exact g2
  · rcases key i x hi with ⟨rfl, rfl⟩ | ⟨h1, h2⟩ <;> rcases key j y hj with ⟨rfl, rfl⟩ | ⟨h3, h4⟩
    · rfl
    · rw [va_up_self, hag j h3] at hij
      have := ((h.1 j y h4).1).lt
      exact absurd hij (Nat.ne_of_gt this)
    · rw [va_up_self, hag i h1] at hij
      have := ((h.1 i x h2).1).lt
      exact absurd hij (Nat.ne_of_lt this)
    · rw [hag i h1, hag j h3] at hij
      exact h.2 i j x y h2 h4 hij
theorem np_Kt {D : va_G} {cA : FieldType → ClassId} {s : State} (hK : va_K D vwCl (np_tys.map fun ty => (cA ty, ty)) s) {ty : FieldType} (h : ty ∈ np_tys) : ArrOfT s (cA ty) ty ∧ va_RA s (cA ty) ty := by
  obtain ⟨i, hi⟩ := List.getElem?_of_mem (List.mem_map.mpr ⟨ty, h, rfl⟩ : (cA ty, ty) ∈ np_tys.map fun ty => (cA ty, ty))
  exact hK.2 i _ hi
theorem np_Ki {D : va_G} {cA : FieldType → ClassId} {s : State} (hK : va_K D vwCl (np_tys.map fun ty => (cA ty, ty)) s) {ty : FieldType} (h : ty ∈ np_tys) : va_K D vwCl [(cA ty, ty)] s := ⟨hK.1, fun k q hk => by
  have hz : k < 1 := (List.getElem?_eq_some_iff.mp hk).1
  rw [show k = 0 by omega] at hk
  cases hk
  exact np_Kt hK h⟩
theorem np_pr.set {D : va_G} {cA : FieldType → ClassId} {A : Nat → Prop} {s : State} {ad0 : Nat → Nat} {n0 : Nat} {L : np_L} {st st' : List Value} {w : np_W} {H H1 : Heap} {locs : List Loc} {ad : Nat → Nat} (h : np_pr D cA A s ad0 n0 L st w H locs ad) {k j : Nat} {e e' : np_E} (hk : w.2 k = some e) (he : va_at D vwCl (ad k, np_e cA ad e') H1) (z : H1.size = H.size) (oq : ∀ q : Nat, q ≠ ad k → H1[q]? = H[q]?) (hc : np_ce w.1 e') (ht : np_te e') (h2 : ∀ v ∈ st', np_cv w.1 v) : np_pr D cA A s ad0 n0 L st' (w.1, np_up w.2 k e') H1 (locs ++ [⟨ad k, j⟩]) ad :=
  ⟨h.1.set hk he oq hc ht, h.2.1, h2, h.2.2.2.1.put z oq (h.1.1 k e hk).2.1, h.2.2.2.2.1, h.2.2.2.2.2⟩
theorem np_pr.push {D : va_G} {cA : FieldType → ClassId} {A : Nat → Prop} {s : State} {ad0 : Nat → Nat} {n0 : Nat} {L : np_L} {st st' : List Value} {w : np_W} {H H1 : Heap} {locs : List Loc} {ad : Nat → Nat} (h : np_pr D cA A s ad0 n0 L st w H locs ad) {e : np_E} (he : va_at D vwCl (H.size, np_e cA ad e) H1) (z : H1.size = H.size + 1) (oq : ∀ q : Nat, q < H.size → H1[q]? = H[q]?) (hA : ∀ q, s.heap.size ≤ q → A q) (hc : np_ce w.1 e) (ht : np_te e) (h2 : ∀ v ∈ st', np_cv w.1 v) : np_pr D cA A s ad0 n0 L (.ref w.1 :: st') (w.1 + 1, np_up w.2 w.1 e) H1 locs (va_up ad w.1 H.size) ∧ np_cL (va_up ad w.1 H.size) L = np_cL ad L ∧ st'.map (np_v (va_up ad w.1 H.size)) = st'.map (np_v ad) := by
  have hag : ∀ k, k < w.1 → va_up ad w.1 H.size k = ad k := fun k hk => va_up_ne _ _ (Nat.ne_of_lt hk)
  refine ⟨⟨h.1.push he oq (hA _ h.2.2.2.1.1) hc ht, fun q hq => (h.2.1 q hq).mono (Nat.le_succ _), np_c_cons (Nat.lt_succ_self _) (fun v hv => (h2 v hv).mono (Nat.le_succ _)), ⟨Nat.le_trans h.2.2.2.1.1 (by omega), fun q g1 g2 => (oq q (Nat.lt_of_lt_of_le g1 h.2.2.2.1.1)).trans (h.2.2.2.1.2.1 q g1 g2), h.2.2.2.1.2.2⟩, fun k hk => ?_, Nat.le_succ_of_le h.2.2.2.2.2⟩, ?_, np_vs.cong hag h2⟩
  · rw [hag k (Nat.lt_of_lt_of_le hk h.2.2.2.2.2)]
    exact h.2.2.2.2.1 k hk
  · unfold np_cL
    exact List.map_congr_left fun q hq => by rw [np_v.cong hag (h.2.1 q hq)]
-- the operations
def np_getf (ci j : Nat) : np_Op := fun k pc L st w ce sl => match st with
  | .ref a :: r => match w.2 a with
    | some (.inr (c, fs)) => c = ci ∧ (match fs[j]? with
      | some v => k (pc + 3) L (v :: r) w ce sl
      | none => False)
    | _ => False
  | _ => False
def np_putf (ci j : Nat) (ty : FieldType) : np_Op := fun k pc L st w ce sl => match st with
  | v :: .ref a :: r => match w.2 a with
    | some (.inr (c, fs)) => c = ci ∧ narrow ty v = v ∧ fits ty v = true ∧ j < fs.length ∧ np_fl (fs.set j v) (fun fs' => k (pc + 3) L r (w.1, np_up w.2 a (.inr (ci, fs'))) ce sl)
    | _ => False
  | _ => False
def np_alen : np_Op := fun k pc L st w ce sl => match st with
  | .ref a :: r => match w.2 a with
    | some (.inl (_, n, _)) => k (pc + 1) L (.int (Int32.ofNat n) :: r) w ce sl
    | _ => False
  | _ => False
def np_ialdT (ty : FieldType) : np_Op := fun k pc L st w ce sl => match st with
  | .int i :: .ref a :: r => match w.2 a with
    | some (.inl (t, n, .inl f)) => t = ty ∧ vp_in i n ∧ k (pc + 1) L (.int (f i.toNatClampNeg) :: r) w ce sl
    | _ => False
  | _ => False
def np_lald : np_Op := fun k pc L st w ce sl => match st with
  | .int i :: .ref a :: r => match w.2 a with
    | some (.inl (t, n, .inr (.inl f))) => t = .long ∧ vp_in i n ∧ k (pc + 1) L (.long (f i.toNatClampNeg) :: r) w ce sl
    | _ => False
  | _ => False
def np_aald (C : String) : np_Op := fun k pc L st w ce sl => match st with
  | .int i :: .ref a :: r => match w.2 a with
    | some (.inl (t, n, .inr (.inr (.inr (.inr f))))) => t = .object C ∧ vp_in i n ∧ (match f i.toNatClampNeg with
      | some b => k (pc + 1) L (.ref b :: r) w ce sl
      | none => k (pc + 1) L (.null :: r) w ce sl)
    | _ => False
  | _ => False
def np_iastT (ty : FieldType) : np_Op := fun k pc L st w ce sl => match st with
  | .int x :: .int i :: .ref a :: r => match w.2 a with
    | some (.inl (t, n, .inl f)) => t = ty ∧ vp_in i n ∧ k (pc + 1) L r (w.1, np_up w.2 a (.inl (ty, n, .inl (upd f i.toNatClampNeg (vp_nar ty x))))) ce sl
    | _ => False
  | _ => False
def np_last : np_Op := fun k pc L st w ce sl => match st with
  | .long x :: .int i :: .ref a :: r => match w.2 a with
    | some (.inl (t, n, .inr (.inl f))) => t = .long ∧ vp_in i n ∧ k (pc + 1) L r (w.1, np_up w.2 a (.inl (.long, n, .inr (.inl (vp_updL f i.toNatClampNeg x))))) ce sl
    | _ => False
  | _ => False
def np_aast (ci : Nat) (C : String) : np_Op := fun k pc L st w ce sl => match st with
  | .ref v :: .int i :: .ref a :: r => match w.2 a, w.2 v with
    | some (.inl (t, n, .inr (.inr (.inr (.inr f))))), some (.inr (c, _)) => t = .object C ∧ c = ci ∧ vp_in i n ∧ k (pc + 1) L r (w.1, np_up w.2 a (.inl (.object C, n, .inr (.inr (.inr (.inr (va_up f i.toNatClampNeg (some v)))))))) ce sl
    | _, _ => False
  | _ => False
def np_new (ci N : Nat) (fs : List Value) (RC RS : Nat) : np_Op := fun k pc L st w ce sl => ce + 1 ≤ RC ∧ sl + N ≤ RS ∧ np_force w.1 (fun n => k (pc + 3) L (.ref n :: st) (n + 1, np_up w.2 n (.inr (ci, fs))) (ce + 1) (sl + N))
def np_newa (ty : FieldType) (N : Nat) (a0 : vp_A) (RC RS : Nat) : np_Op := fun k pc L st w ce sl => match st with
  | .int n :: r => n = Int32.ofNat N ∧ ce + 1 ≤ RC ∧ sl + N ≤ RS ∧ np_force w.1 (fun n => k (pc + 2) L (.ref n :: r) (n + 1, np_up w.2 n (.inl (ty, a0))) (ce + 1) (sl + N))
  | _ => False
def np_anew (C : String) (N : Nat) (RC RS : Nat) : np_Op := fun k pc L st w ce sl => match st with
  | .int n :: r => n = Int32.ofNat N ∧ ce + 1 ≤ RC ∧ sl + N ≤ RS ∧ np_force w.1 (fun n => k (pc + 3) L (.ref n :: r) (n + 1, np_up w.2 n (.inl (.object C, N, .inr (.inr (.inr (.inr (fun _ => none))))))) (ce + 1) (sl + N))
  | _ => False
def np_oinit : np_Op := fun k pc L st w ce sl => match st with
  | .ref _ :: r => (r.map fun v => v.category).sum ≤ 8 ∧ k (pc + 3) L r w ce sl
  | _ => False
theorem np_cat_sum (ad : Nat → Nat) (r : List Value) : ((r.map (np_v ad)).map fun v => v.category).sum = (r.map fun v => v.category).sum := by
  rw [List.map_map]
  congr 1
  exact List.map_congr_left fun v _ => np_v_cat ad v
theorem np_f_at {ad : Nat → Nat} {fs : List Value} {j : Nat} {v : Value} (h : fs[j]? = some v) : (fs.map (np_v ad))[j]? = some (np_v ad v) := by rw [List.getElem?_map, h]; rfl
theorem np_s_getf {X : np_Ctx} {pc : Nat} {own : String} {cc : ByteArray} {nL RF RL RC RS : Nat} {rI : Instr} (hX : np_ok own cc nL RF RL RC RS rI X) {ci j ix N : Nat} {C : String} {T : u_T} (d : decode cc pc = .ok (.getfield ix, 3)) (hc : vwCl[ci]? = some (C, T, N)) (hu : ∀ w ∈ u_ws C T N, w ∈ np_gw) (hj : j < N) (hw : Cond.fieldLink own ix (T j).1 (T j).2.1 (T j).2.2.1 ∈ np_gw) : np_S X pc (np_getf ci j) := by
  obtain ⟨⟨p, l, e, R, s, m, args, below, meth, c⟩, ⟨Q, D, cA, A, ad0, n0, nL'⟩, Rt, Th⟩ := X
  obtain ⟨hx, hb, hml, rfl, hown, hsd, hK, hA, hRF, hRL, hRC, hRS, hret, hlt, hzq, hth⟩ := hX
  intro k hk L st w ce sl hop H locs ad ls hl hp
  unfold np_getf at hop
  split at hop
  · rename_i a r
    split at hop
    · rename_i c9 fs hwa
      obtain ⟨rfl, hop⟩ := hop
      split at hop
      · rename_i v hv
        exact va_get (D := D) (ci := c9) (C := C) (T := T) (N := N) hx hb (np_hts hsd args) hu hown hK (hp.1.one hwa) 0 rfl hc j hj (np_hts hsd args _ hw) (fun _ h9 => h9) (np_f_at hv) d
          (hk _ _ _ _ _ _ hop H locs ad ls hl (hp.to hp.2.1 (np_c_cons ((hp.1.1 a _ hwa).2.2.1 v (List.mem_of_getElem? hv)) (np_c_tl hp.2.2.1))))
      · exact absurd hop id
    · exact absurd hop id
  · exact absurd hop id
theorem np_s_getN {X : np_Ctx} {pc : Nat} {own : String} {cc : ByteArray} {nL RF RL RC RS : Nat} {rI : Instr} (hX : np_ok own cc nL RF RL RC RS rI X) {ci j ix N : Nat} {C host : String} {T : u_T} (d : decode cc pc = .ok (.getfield ix, 3)) (hc : vwCl[ci]? = some (C, T, N)) (hu : ∀ w ∈ u_ws C T N, w ∈ np_gw) (hj : j < N) (hw : Cond.fieldLinkNest own ix (T j).1 (T j).2.1 (T j).2.2.1 host ∈ np_nw) : np_S X pc (np_getf ci j) := by
  obtain ⟨⟨p, l, e, R, s, m, args, below, meth, c⟩, ⟨Q, D, cA, A, ad0, n0, nL'⟩, Rt, Th⟩ := X
  obtain ⟨hx, hb, hml, rfl, hown, hsd, hK, hA, hRF, hRL, hRC, hRS, hret, hlt, hzq, hth⟩ := hX
  intro k hk L st w ce sl hop H locs ad ls hl hp
  unfold np_getf at hop
  split at hop
  · rename_i a r
    split at hop
    · rename_i c9 fs hwa
      obtain ⟨rfl, hop⟩ := hop
      split at hop
      · rename_i v hv
        exact va_getN (D := D) (ci := c9) (C := C) (T := T) (N := N) hx hb (np_hts hsd args) hu hown hK (hp.1.one hwa) 0 rfl hc j hj (va_Nw.use rfl (hsd.2.1 _ hw)) (fun _ h9 => h9) (np_f_at hv) d
          (hk _ _ _ _ _ _ hop H locs ad ls hl (hp.to hp.2.1 (np_c_cons ((hp.1.1 a _ hwa).2.2.1 v (List.mem_of_getElem? hv)) (np_c_tl hp.2.2.1))))
      · exact absurd hop id
    · exact absurd hop id
  · exact absurd hop id
theorem np_narrow {ad : Nat → Nat} {ty : FieldType} {v : Value} (h : narrow ty v = v) : narrow ty (np_v ad v) = np_v ad v := by
  cases v <;> first | exact h | (cases ty <;> rfl)
theorem np_fits {ad : Nat → Nat} {ty : FieldType} {v : Value} (h : fits ty v = true) : fits ty (np_v ad v) = true := by
  cases v <;> first | exact h | (cases ty <;> first | exact h | rfl)
theorem np_set_c {n j : Nat} {fs : List Value} {v : Value} (hf : ∀ u ∈ fs, np_cv n u) (hv : np_cv n v) : ∀ u ∈ fs.set j v, np_cv n u := fun u hu => by
  rcases List.mem_or_eq_of_mem_set hu with h | rfl
  · exact hf u h
  · exact hv
theorem np_put_at {D : va_G} {cA : FieldType → ClassId} {ad : Nat → Nat} {ci j N a : Nat} {C : String} {T : u_T} {fs : List Value} {v : Value} {H1 : Heap} {cell : Cell} (hc : vwCl[ci]? = some (C, T, N)) (e1 : H1[a]? = some (cell.setSlot (D.2 ci j) (np_v ad v))) (q2 : cell.cls = D.1 ci) (q3 : cell.vm = .none)
    (q4 : ∀ k, k < N → cell.slots[D.2 ci k]? = some (vp_V (fs.map (np_v ad)) k)) (hap : ∀ x y, x < N → y < N → x ≠ y → D.2 ci x ≠ D.2 ci y) (hj : j < N) (hl : j < fs.length) : va_at D vwCl (a, np_e cA ad (.inr (ci, fs.set j v))) H1 := by
  show ∃ r : vw_C, vwCl[ci]? = some r ∧ t_OB a (D.1 ci) r.2.2 (D.2 ci) H1 (vp_V ((fs.set j v).map (np_v ad)))
  refine ⟨_, hc, t_OB.to (V := updV (vp_V (fs.map (np_v ad))) j (np_v ad v)) ⟨_, e1, q2, q3, t_set q4 hap hj _⟩ (fun i _ => ?_)⟩
  rw [List.map_set]
  exact vp_updV_set (by rw [List.length_map]; exact hl) _ i
theorem np_s_putf {X : np_Ctx} {pc : Nat} {own : String} {cc : ByteArray} {nL RF RL RC RS : Nat} {rI : Instr} (hX : np_ok own cc nL RF RL RC RS rI X) {ci j ix N : Nat} {C : String} {T : u_T} {ty : FieldType} {ty0 : Nat → FieldType} (d : decode cc pc = .ok (.putfield ix, 3)) (hc : vwCl[ci]? = some (C, T, N)) (hu : ∀ w ∈ u_ws C T N, w ∈ np_gw) (hty : ∀ k, k < N → parseFieldDescriptor (T k).2.2.1 = some (ty0 k)) (hnm : ∀ a, a < N → ∀ b, b < N → a ≠ b → (T a).2.1 ≠ (T b).2.1) (hj : j < N) (hw : Cond.fieldLink own ix (T j).1 (T j).2.1 (T j).2.2.1 ∈ np_gw) (hfin : (T j).2.2.2 = false) (hd : ty0 j = ty) : np_S X pc (np_putf ci j ty) := by
  obtain ⟨⟨p, l, e, R, s, m, args, below, meth, c⟩, ⟨Q, D, cA, A, ad0, n0, nL'⟩, Rt, Th⟩ := X
  obtain ⟨hx, hb, hml, rfl, hown, hsd, hK, hA, hRF, hRL, hRC, hRS, hret, hlt, hzq, hth⟩ := hX
  intro k hk L st w ce sl hop H locs ad ls hl hp
  unfold np_putf at hop
  split at hop
  · rename_i v a r
    split at hop
    · rename_i c9 fs hwa
      obtain ⟨rfl, hn, hf, hlen, hop⟩ := hop
      rw [np_fl_eq] at hop
      have hts := np_hts hsd args
      have hap := va_apart (own := own) hts hu ty0 hty hnm hK hc
      obtain ⟨r9, h1, cell, q1, q2, q3, q4⟩ := (hp.1.1 a _ hwa).1
      have hr : r9 = (C, T, N) := Option.some.inj (h1.symm.trans hc)
      subst hr
      obtain ⟨hS, hfc, kC, hkC, hkind⟩ := hK.1 _ _ hc
      obtain ⟨cf, kf, fi, f, hi, hsl⟩ := hS j hj
      have hlay := hts _ (hu _ (u_in_lay hj))
      unfold u_lay at hlay
      rw [if_neg (by rw [hfin]; decide)] at hlay
      have hst := (u_facts hfc hkC (u_lays hts hu hj) hi).1
      have h6 := u_store hfc hkC hkind hlay hi (by rw [hty j hj, hd]) (np_narrow (ad := ad) hn) (np_fits (ad := ad) hf)
      refine W.putK hx hb (f := f) ⟨hown, hts _ hw, ⟨_, _, _, hi⟩, hst⟩ (by rw [q2]; exact h6) q1 q3 (by rw [hsl]; exact k2_hasslot (q4 j hj)) rfl rfl d fun H' e1 e2 e3 => ?_
      rw [hsl] at e1 ⊢
      exact hk _ _ _ _ _ _ hop H' _ ad ls hl (hp.set hwa (np_put_at hc e1 q2 q3 q4 hap hj hlen) e2 e3 (np_set_c (hp.1.1 a _ hwa).2.2.1 (np_c_hd hp.2.2.1)) trivial (np_c_tl (np_c_tl hp.2.2.1)))
    · exact absurd hop id
  · exact absurd hop id
theorem np_s_putN {X : np_Ctx} {pc : Nat} {own : String} {cc : ByteArray} {nL RF RL RC RS : Nat} {rI : Instr} (hX : np_ok own cc nL RF RL RC RS rI X) {ci j ix N : Nat} {C host : String} {T : u_T} {ty : FieldType} {ty0 : Nat → FieldType} (d : decode cc pc = .ok (.putfield ix, 3)) (hc : vwCl[ci]? = some (C, T, N)) (hu : ∀ w ∈ u_ws C T N, w ∈ np_gw) (hty : ∀ k, k < N → parseFieldDescriptor (T k).2.2.1 = some (ty0 k)) (hnm : ∀ a, a < N → ∀ b, b < N → a ≠ b → (T a).2.1 ≠ (T b).2.1) (hj : j < N) (hw : Cond.fieldLinkNest own ix (T j).1 (T j).2.1 (T j).2.2.1 host ∈ np_nw) (hfin : (T j).2.2.2 = false) (hd : ty0 j = ty) : np_S X pc (np_putf ci j ty) := by
  obtain ⟨⟨p, l, e, R, s, m, args, below, meth, c⟩, ⟨Q, D, cA, A, ad0, n0, nL'⟩, Rt, Th⟩ := X
  obtain ⟨hx, hb, hml, rfl, hown, hsd, hK, hA, hRF, hRL, hRC, hRS, hret, hlt, hzq, hth⟩ := hX
  intro k hk L st w ce sl hop H locs ad ls hl hp
  unfold np_putf at hop
  split at hop
  · rename_i v a r
    split at hop
    · rename_i c9 fs hwa
      obtain ⟨rfl, hn, hf, hlen, hop⟩ := hop
      rw [np_fl_eq] at hop
      have hts := np_hts hsd args
      have hap := va_apart (own := own) hts hu ty0 hty hnm hK hc
      obtain ⟨r9, h1, cell, q1, q2, q3, q4⟩ := (hp.1.1 a _ hwa).1
      have hr : r9 = (C, T, N) := Option.some.inj (h1.symm.trans hc)
      subst hr
      obtain ⟨hS, hfc, kC, hkC, hkind⟩ := hK.1 _ _ hc
      obtain ⟨cf, kf, fi, f, hi, hsl⟩ := hS j hj
      have hlay := hts _ (hu _ (u_in_lay hj))
      unfold u_lay at hlay
      rw [if_neg (by rw [hfin]; decide)] at hlay
      have hst := (u_facts hfc hkC (u_lays hts hu hj) hi).1
      have h6 := u_store hfc hkC hkind hlay hi (by rw [hty j hj, hd]) (np_narrow (ad := ad) hn) (np_fits (ad := ad) hf)
      refine va_WputK hx hb (f := f) hown (va_Nw.use rfl (hsd.2.1 _ hw)) hi hst (by rw [q2]; exact h6) q1 q3 (by rw [hsl]; exact k2_hasslot (q4 j hj)) rfl rfl d fun H' e1 e2 e3 => ?_
      rw [hsl] at e1 ⊢
      exact hk _ _ _ _ _ _ hop H' _ ad ls hl (hp.set hwa (np_put_at hc e1 q2 q3 q4 hap hj hlen) e2 e3 (np_set_c (hp.1.1 a _ hwa).2.2.1 (np_c_hd hp.2.2.1)) trivial (np_c_tl (np_c_tl hp.2.2.1)))
    · exact absurd hop id
  · exact absurd hop id
theorem np_s_putF {X : np_Ctx} {pc : Nat} {own : String} {cc : ByteArray} {nL RF RL RC RS : Nat} {rI : Instr} (hX : np_ok own cc nL RF RL RC RS rI X) {ci j ix N : Nat} {C : String} {T : u_T} {ty : FieldType} {ty0 : Nat → FieldType} (d : decode cc pc = .ok (.putfield ix, 3)) (hmn : np_mn X = "<init>") (hc : vwCl[ci]? = some (C, T, N)) (hu : ∀ w ∈ u_ws C T N, w ∈ np_gw) (hty : ∀ k, k < N → parseFieldDescriptor (T k).2.2.1 = some (ty0 k)) (hnm : ∀ a, a < N → ∀ b, b < N → a ≠ b → (T a).2.1 ≠ (T b).2.1) (hj : j < N) (hw : Cond.fieldLink own ix (T j).1 (T j).2.1 (T j).2.2.1 ∈ np_gw) (hfin : (T j).2.2.2 = true) (hdecl : (T j).1 = own) (hd : ty0 j = ty) : np_S X pc (np_putf ci j ty) := by
  obtain ⟨⟨p, l, e, R, s, m, args, below, meth, c⟩, ⟨Q, D, cA, A, ad0, n0, nL'⟩, Rt, Th⟩ := X
  obtain ⟨hx, hb, hml, rfl, hown, hsd, hK, hA, hRF, hRL, hRC, hRS, hret, hlt, hzq, hth⟩ := hX
  intro k hk L st w ce sl hop H locs ad ls hl hp
  unfold np_putf at hop
  split at hop
  · rename_i v a r
    split at hop
    · rename_i c9 fs hwa
      obtain ⟨rfl, hn, hf, hlen, hop⟩ := hop
      rw [np_fl_eq] at hop
      have hts := np_hts hsd args
      have hap := va_apart (own := own) hts hu ty0 hty hnm hK hc
      obtain ⟨r9, h1, cell, q1, q2, q3, q4⟩ := (hp.1.1 a _ hwa).1
      have hr : r9 = (C, T, N) := Option.some.inj (h1.symm.trans hc)
      subst hr
      obtain ⟨hS, hfc, kC, hkC, hkind⟩ := hK.1 _ _ hc
      obtain ⟨cf, kf, fi, f, hi, hsl⟩ := hS j hj
      have hlay := hts _ (hu _ (u_in_lay hj))
      unfold u_lay at hlay
      rw [if_pos hfin] at hlay
      have hst := (u_facts hfc hkC (u_lays hts hu hj) hi).1
      have hcf : m.cls = cf := by
        obtain ⟨_, _, c', _, _, _, -, -, hf', -, -, -, hown2, -⟩ := Cond.laysFinal_spec hlay
        have e1 : c' = cf := by have := hi.symm.trans hf'; simp at this; exact this.1.symm
        rw [hdecl] at hown2
        rw [← e1]; exact Option.some.inj (hown.symm.trans hown2)
      have h6 := u_fits hfc hkC hkind (Or.inr hlay) hi (by rw [hty j hj, hd]) (np_narrow (ad := ad) hn) (np_fits (ad := ad) hf)
      refine W.putFinK hx hb hown (hts _ hw) hi hst hcf hmn (by rw [q2]; exact h6) q1 q3 (by rw [hsl]; exact k2_hasslot (q4 j hj)) rfl rfl d fun H' e1 e2 e3 => ?_
      rw [hsl] at e1 ⊢
      exact hk _ _ _ _ _ _ hop H' _ ad ls hl (hp.set hwa (np_put_at hc e1 q2 q3 q4 hap hj hlen) e2 e3 (np_set_c (hp.1.1 a _ hwa).2.2.1 (np_c_hd hp.2.2.1)) trivial (np_c_tl (np_c_tl hp.2.2.1)))
    · exact absurd hop id
  · exact absurd hop id
