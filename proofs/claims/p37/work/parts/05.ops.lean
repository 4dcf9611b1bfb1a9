theorem np_pr.to {D : va_G} {cA : FieldType → ClassId} {A : Nat → Prop} {s : State} {ad0 : Nat → Nat} {n0 : Nat} {L L' : np_L} {st st' : List Value} {w : np_W} {H : Heap} {locs : List Loc} {ad : Nat → Nat} (h : np_pr D cA A s ad0 n0 L st w H locs ad) (h1 : ∀ q ∈ L', np_cv w.1 q.2) (h2 : ∀ v ∈ st', np_cv w.1 v) : np_pr D cA A s ad0 n0 L' st' w H locs ad := ⟨h.1, h1, h2, h.2.2.2.1, h.2.2.2.2.1, h.2.2.2.2.2⟩
theorem np_c_cons {n : Nat} {v : Value} {r : List Value} (h : np_cv n v) (hr : ∀ v ∈ r, np_cv n v) : ∀ u ∈ v :: r, np_cv n u := fun u hu => by
  rcases List.mem_cons.mp hu with rfl | hu
  · exact h
  · exact hr u hu
theorem np_c_tl {n : Nat} {v : Value} {r : List Value} (h : ∀ u ∈ v :: r, np_cv n u) : ∀ u ∈ r, np_cv n u := fun u hu => h u (List.mem_cons_of_mem _ hu)
theorem np_c_hd {n : Nat} {v : Value} {r : List Value} (h : ∀ u ∈ v :: r, np_cv n u) : np_cv n v := h v List.mem_cons_self
def np_lk : np_L → Nat → Option Value
  | [], _ => none
  | (j, v) :: r, i => match Nat.beq j i with
    | true => some v
    | false => np_lk r i
theorem np_lk_mem {L : np_L} {i : Nat} {v : Value} (h : np_lk L i = some v) : (i, v) ∈ L := by
  induction L with
  | nil => cases h
  | cons q r ih =>
    obtain ⟨j, u⟩ := q
    unfold np_lk at h
    by_cases hj : j = i
    · rw [np_beq hj] at h
      cases h
      subst hj
      exact List.mem_cons_self
    · rw [np_bne hj] at h
      exact List.mem_cons_of_mem _ (ih h)
theorem np_lk_has {L : np_L} {i nL : Nat} {v : Value} {ad : Nat → Nat} {ls : Array Slot} (hl : lv_has ls nL (np_cL ad L)) (h : np_lk L i = some v) : ls[i]? = some (.val (np_v ad v)) :=
  hl.2.2 (i, np_v ad v) (List.mem_map.mpr ⟨(i, v), np_lk_mem h, rfl⟩)
def np_st1 (L : np_L) (i : Nat) (v : Value) : np_L := (i, v) :: L.filter (fun q => !(q.1 == i) && !(q.1 + 1 == i && q.2.category == 2))
def np_st2 (L : np_L) (i : Nat) (v : Value) : np_L := (i, v) :: L.filter (fun q => !(q.1 == i) && (!(q.1 == i + 1) && !(q.1 + 1 == i && q.2.category == 2)))
theorem np_cL_st1 (ad : Nat → Nat) (L : np_L) (i : Nat) (v : Value) : (i, np_v ad v) :: (np_cL ad L).filter (fun q => !(q.1 == i) && !(q.1 + 1 == i && q.2.category == 2)) = np_cL ad (np_st1 L i v) := by
  unfold np_cL np_st1
  rw [List.map_cons, List.filter_map]
  congr 2
  apply List.filter_congr
  intro q _
  simp [np_v_cat]
theorem np_cL_st2 (ad : Nat → Nat) (L : np_L) (i : Nat) (v : Value) : (i, np_v ad v) :: (np_cL ad L).filter (fun q => !(q.1 == i) && (!(q.1 == i + 1) && !(q.1 + 1 == i && q.2.category == 2))) = np_cL ad (np_st2 L i v) := by
  unfold np_cL np_st2
  rw [List.map_cons, List.filter_map]
  congr 2
  apply List.filter_congr
  intro q _
  simp [np_v_cat]
theorem np_st1_c {n : Nat} {L : np_L} {i : Nat} {v : Value} (hL : ∀ q ∈ L, np_cv n q.2) (hv : np_cv n v) : ∀ q ∈ np_st1 L i v, np_cv n q.2 := fun q hq => by
  rcases List.mem_cons.mp hq with rfl | hq
  · exact hv
  · exact hL q (List.mem_filter.mp hq).1
theorem np_st2_c {n : Nat} {L : np_L} {i : Nat} {v : Value} (hL : ∀ q ∈ L, np_cv n q.2) (hv : np_cv n v) : ∀ q ∈ np_st2 L i v, np_cv n q.2 := fun q hq => by
  rcases List.mem_cons.mp hq with rfl | hq
  · exact hv
  · exact hL q (List.mem_filter.mp hq).1
theorem np_good {ws : Cond} {s U : State} (hW : s.WarmedH U.vm) {a a' : Array Value} (hg : goodWord ws = true) (h : ws.before a s = true) : ws.before a' U = true := word_at hW (good_of_word hg) h
theorem np_hts {s : State} (h : np_sd s) (args : Array Value) : ∀ w ∈ np_gw, w.before args s = true := fun w hw => np_good (State.WarmedH.refl s) (List.mem_filter.mp hw).2 (h.1 w hw)
theorem np_gwi {w : Cond} (i : Nat) (h : lw_tbl[i]? = some w) (hg : goodWord w = true) : w ∈ np_gw := List.mem_filter.mpr ⟨List.mem_of_getElem? h, hg⟩
theorem np_nwi {w : Cond} (i : Nat) (h : lw_tbl[i]? = some w) (hg : np_isNest w = true) : w ∈ np_nw := List.mem_filter.mpr ⟨List.mem_of_getElem? h, hg⟩

def np_push (len : Nat) (v : Value) : np_Op := fun k pc L st w ce sl => k (pc + len) L (v :: st) w ce sl
def np_ild (len i : Nat) : np_Op := fun k pc L st w ce sl => match np_lk L i with
  | some (.int x) => k (pc + len) L (.int x :: st) w ce sl
  | _ => False
def np_lld (len i : Nat) : np_Op := fun k pc L st w ce sl => match np_lk L i with
  | some (.long x) => k (pc + len) L (.long x :: st) w ce sl
  | _ => False
def np_ald (len i : Nat) : np_Op := fun k pc L st w ce sl => match np_lk L i with
  | some (.ref x) => k (pc + len) L (.ref x :: st) w ce sl
  | some .null => k (pc + len) L (.null :: st) w ce sl
  | _ => False
def np_ist (len i : Nat) : np_Op := fun k pc L st w ce sl => match st with
  | .int x :: r => k (pc + len) (np_st1 L i (.int x)) r w ce sl
  | _ => False
def np_lst (len i : Nat) : np_Op := fun k pc L st w ce sl => match st with
  | .long x :: r => k (pc + len) (np_st2 L i (.long x)) r w ce sl
  | _ => False
def np_ast (len i : Nat) : np_Op := fun k pc L st w ce sl => match st with
  | .ref x :: r => k (pc + len) (np_st1 L i (.ref x)) r w ce sl
  | .null :: r => k (pc + len) (np_st1 L i .null) r w ce sl
  | _ => False
def np_iinc (i : Nat) (n : Int) : np_Op := fun k pc L st w ce sl => match np_lk L i with
  | some (.int x) => k (pc + 3) (np_st1 L i (.int (x + Int32.ofInt n))) st w ce sl
  | _ => False
def np_ib (f : Int32 → Int32 → Int32) : np_Op := fun k pc L st w ce sl => match st with
  | .int y :: .int x :: r => k (pc + 1) L (.int (f x y) :: r) w ce sl
  | _ => False
def np_ibn (f : Int32 → Int32 → Int32) : np_Op := fun k pc L st w ce sl => match st with
  | .int y :: .int x :: r => ¬ y = 0 ∧ k (pc + 1) L (.int (f x y) :: r) w ce sl
  | _ => False
def np_iu (f : Int32 → Int32) : np_Op := fun k pc L st w ce sl => match st with
  | .int x :: r => k (pc + 1) L (.int (f x) :: r) w ce sl
  | _ => False
def np_lb (f : Int64 → Int64 → Int64) : np_Op := fun k pc L st w ce sl => match st with
  | .long y :: .long x :: r => k (pc + 1) L (.long (f x y) :: r) w ce sl
  | _ => False
def np_lbn (f : Int64 → Int64 → Int64) : np_Op := fun k pc L st w ce sl => match st with
  | .long y :: .long x :: r => ¬ y = 0 ∧ k (pc + 1) L (.long (f x y) :: r) w ce sl
  | _ => False
def np_i2l : np_Op := fun k pc L st w ce sl => match st with
  | .int x :: r => k (pc + 1) L (.long x.toInt64 :: r) w ce sl
  | _ => False
def np_l2i : np_Op := fun k pc L st w ce sl => match st with
  | .long x :: r => k (pc + 1) L (.int x.toInt32 :: r) w ce sl
  | _ => False
def np_lcmp : np_Op := fun k pc L st w ce sl => match st with
  | .long y :: .long x :: r => k (pc + 1) L (.int (lg_cmp x y) :: r) w ce sl
  | _ => False
def np_dup : np_Op := fun k pc L st w ce sl => match st with
  | v :: r => v.category = 1 ∧ k (pc + 1) L (v :: v :: r) w ce sl
  | _ => False
def np_dup2 : np_Op := fun k pc L st w ce sl => match st with
  | v :: u :: r => v.category = 1 ∧ u.category = 1 ∧ k (pc + 1) L (v :: u :: v :: u :: r) w ce sl
  | _ => False
def np_pop : np_Op := fun k pc L st w ce sl => match st with
  | v :: r => v.category = 1 ∧ k (pc + 1) L r w ce sl
  | _ => False
def np_if (f : Int32 → Prop) (tgt : Nat) : np_Op := fun k pc L st w ce sl => match st with
  | .int x :: r => (f x → k tgt L r w ce sl) ∧ (¬ f x → k (pc + 3) L r w ce sl)
  | _ => False
def np_ic (f : Int32 → Int32 → Prop) (tgt : Nat) : np_Op := fun k pc L st w ce sl => match st with
  | .int y :: .int x :: r => (f x y → k tgt L r w ce sl) ∧ (¬ f x y → k (pc + 3) L r w ce sl)
  | _ => False
def np_ifne (tgt : Nat) : np_Op := fun k pc L st w ce sl => match st with
  | .int x :: r => (x = 0 → k (pc + 3) L r w ce sl) ∧ (¬ x = 0 → k tgt L r w ce sl)
  | _ => False
def np_icne (tgt : Nat) : np_Op := fun k pc L st w ce sl => match st with
  | .int y :: .int x :: r => (x = y → k (pc + 3) L r w ce sl) ∧ (¬ x = y → k tgt L r w ce sl)
  | _ => False
def np_goto (tgt : Nat) : np_Op := fun k _ L st w ce sl => k tgt L st w ce sl
def np_ifnull (tgt : Nat) : np_Op := fun k pc L st w ce sl => match st with
  | .ref _ :: r => k (pc + 3) L r w ce sl
  | .null :: r => k tgt L r w ce sl
  | _ => False
def np_ifnonnull (tgt : Nat) : np_Op := fun k pc L st w ce sl => match st with
  | .ref _ :: r => k tgt L r w ce sl
  | .null :: r => k (pc + 3) L r w ce sl
  | _ => False
def np_swg (k : Nat → Prop) : List Nat → Int → Int32 → Prop
  | [], _, _ => True
  | t :: ts, lo, x => (x.toInt = lo → k t) ∧ np_swg k ts (lo + 1) x
def np_tsw (lo hi : Int) (tgts : List Nat) (dflt : Nat) : np_Op := fun k _ L st w ce sl => match st with
  | .int x :: r => ((x.toInt < lo ∨ hi < x.toInt) → k dflt L r w ce sl) ∧ np_swg (fun t => k t L r w ce sl) tgts lo x
  | _ => False
def np_ret (Rt : np_Rt) : np_Op := fun _ _ _ st w ce sl => Rt st w ce sl

theorem np_s_iconst {X : np_Ctx} {pc : Nat} {own : String} {cc : ByteArray} {nL RF RL RC RS : Nat} {rI : Instr} (hX : np_ok own cc nL RF RL RC RS rI X) {n : Int} {v : Int32} (d : decode cc pc = .ok (.iconst n, 1)) (hv : Int32.ofInt n = v) : np_S X pc (np_push 1 (.int v)) := by
  obtain ⟨⟨p, l, e, R, s, m, args, below, meth, c⟩, ⟨Q, D, cA, A, ad0, n0, nL'⟩, Rt, Th⟩ := X
  obtain ⟨hx, hb, hml, rfl, hown, hsd, hK, hA, hRF, hRL, hRC, hRS, hret, hlt, hzq, hth⟩ := hX
  intro k hk L st w ce sl hop H locs ad ls hl hp
  exact lv_iconst hx hb d hv (hk _ _ _ _ _ _ hop H locs ad ls hl (hp.to hp.2.1 (np_c_cons trivial hp.2.2.1)))

theorem np_s_bipush {X : np_Ctx} {pc : Nat} {own : String} {cc : ByteArray} {nL RF RL RC RS : Nat} {rI : Instr} (hX : np_ok own cc nL RF RL RC RS rI X) {n : Int} {v : Int32} (d : decode cc pc = .ok (.bipush n, 2)) (hv : (Int8.ofInt n).toInt32 = v) : np_S X pc (np_push 2 (.int v)) := by
  obtain ⟨⟨p, l, e, R, s, m, args, below, meth, c⟩, ⟨Q, D, cA, A, ad0, n0, nL'⟩, Rt, Th⟩ := X
  obtain ⟨hx, hb, hml, rfl, hown, hsd, hK, hA, hRF, hRL, hRC, hRS, hret, hlt, hzq, hth⟩ := hX
  intro k hk L st w ce sl hop H locs ad ls hl hp
  exact lv_bipush hx hb d hv (hk _ _ _ _ _ _ hop H locs ad ls hl (hp.to hp.2.1 (np_c_cons trivial hp.2.2.1)))

theorem np_s_sipush {X : np_Ctx} {pc : Nat} {own : String} {cc : ByteArray} {nL RF RL RC RS : Nat} {rI : Instr} (hX : np_ok own cc nL RF RL RC RS rI X) {n : Int} {v : Int32} (d : decode cc pc = .ok (.sipush n, 3)) (hv : (Int16.ofInt n).toInt32 = v) : np_S X pc (np_push 3 (.int v)) := by
  obtain ⟨⟨p, l, e, R, s, m, args, below, meth, c⟩, ⟨Q, D, cA, A, ad0, n0, nL'⟩, Rt, Th⟩ := X
  obtain ⟨hx, hb, hml, rfl, hown, hsd, hK, hA, hRF, hRL, hRC, hRS, hret, hlt, hzq, hth⟩ := hX
  intro k hk L st w ce sl hop H locs ad ls hl hp
  exact lv_sipush hx hb d hv (hk _ _ _ _ _ _ hop H locs ad ls hl (hp.to hp.2.1 (np_c_cons trivial hp.2.2.1)))

theorem np_s_lconst {X : np_Ctx} {pc : Nat} {own : String} {cc : ByteArray} {nL RF RL RC RS : Nat} {rI : Instr} (hX : np_ok own cc nL RF RL RC RS rI X) {n : Fin 2} {v : Int64} (d : decode cc pc = .ok (.lconst n, 1)) (hv : Int64.ofNat (n : Nat) = v) : np_S X pc (np_push 1 (.long v)) := by
  obtain ⟨⟨p, l, e, R, s, m, args, below, meth, c⟩, ⟨Q, D, cA, A, ad0, n0, nL'⟩, Rt, Th⟩ := X
  obtain ⟨hx, hb, hml, rfl, hown, hsd, hK, hA, hRF, hRL, hRC, hRS, hret, hlt, hzq, hth⟩ := hX
  intro k hk L st w ce sl hop H locs ad ls hl hp
  exact lv_lconst hx hb d hv (hk _ _ _ _ _ _ hop H locs ad ls hl (hp.to hp.2.1 (np_c_cons trivial hp.2.2.1)))

theorem np_s_null {X : np_Ctx} {pc : Nat} {own : String} {cc : ByteArray} {nL RF RL RC RS : Nat} {rI : Instr} (hX : np_ok own cc nL RF RL RC RS rI X) (d : decode cc pc = .ok (.aconst_null, 1)) : np_S X pc (np_push 1 .null) := by
  obtain ⟨⟨p, l, e, R, s, m, args, below, meth, c⟩, ⟨Q, D, cA, A, ad0, n0, nL'⟩, Rt, Th⟩ := X
  obtain ⟨hx, hb, hml, rfl, hown, hsd, hK, hA, hRF, hRL, hRC, hRS, hret, hlt, hzq, hth⟩ := hX
  intro k hk L st w ce sl hop H locs ad ls hl hp
  exact lv_null hx hb d (hk _ _ _ _ _ _ hop H locs ad ls hl (hp.to hp.2.1 (np_c_cons trivial hp.2.2.1)))

theorem np_s_ldc {X : np_Ctx} {pc : Nat} {own : String} {cc : ByteArray} {nL RF RL RC RS : Nat} {rI : Instr} (hX : np_ok own cc nL RF RL RC RS rI X) {ix : Nat} {v : Int32} (d : decode cc pc = .ok (.ldc ix, 2)) (hw : Cond.constant (own) ix v ∈ np_gw) : np_S X pc (np_push 2 (.int v)) := by
  obtain ⟨⟨p, l, e, R, s, m, args, below, meth, c⟩, ⟨Q, D, cA, A, ad0, n0, nL'⟩, Rt, Th⟩ := X
  obtain ⟨hx, hb, hml, rfl, hown, hsd, hK, hA, hRF, hRL, hRC, hRS, hret, hlt, hzq, hth⟩ := hX
  intro k hk L st w ce sl hop H locs ad ls hl hp
  exact lv_ldc hx hb hown (np_hts hsd args _ hw) d (hk _ _ _ _ _ _ hop H locs ad ls hl (hp.to hp.2.1 (np_c_cons trivial hp.2.2.1)))

theorem np_s_ldcw {X : np_Ctx} {pc : Nat} {own : String} {cc : ByteArray} {nL RF RL RC RS : Nat} {rI : Instr} (hX : np_ok own cc nL RF RL RC RS rI X) {ix : Nat} {v : Int32} (d : decode cc pc = .ok (.ldc_w ix, 3)) (hw : Cond.constant (own) ix v ∈ np_gw) : np_S X pc (np_push 3 (.int v)) := by
  obtain ⟨⟨p, l, e, R, s, m, args, below, meth, c⟩, ⟨Q, D, cA, A, ad0, n0, nL'⟩, Rt, Th⟩ := X
  obtain ⟨hx, hb, hml, rfl, hown, hsd, hK, hA, hRF, hRL, hRC, hRS, hret, hlt, hzq, hth⟩ := hX
  intro k hk L st w ce sl hop H locs ad ls hl hp
  exact lv_ldcw hx hb hown (np_hts hsd args _ hw) d (hk _ _ _ _ _ _ hop H locs ad ls hl (hp.to hp.2.1 (np_c_cons trivial hp.2.2.1)))

theorem np_s_ldc2 {X : np_Ctx} {pc : Nat} {own : String} {cc : ByteArray} {nL RF RL RC RS : Nat} {rI : Instr} (hX : np_ok own cc nL RF RL RC RS rI X) {ix : Nat} {v : Int64} (d : decode cc pc = .ok (.ldc2_w ix, 3)) (hw : Cond.constantLong (own) ix v ∈ np_gw) : np_S X pc (np_push 3 (.long v)) := by
  obtain ⟨⟨p, l, e, R, s, m, args, below, meth, c⟩, ⟨Q, D, cA, A, ad0, n0, nL'⟩, Rt, Th⟩ := X
  obtain ⟨hx, hb, hml, rfl, hown, hsd, hK, hA, hRF, hRL, hRC, hRS, hret, hlt, hzq, hth⟩ := hX
  intro k hk L st w ce sl hop H locs ad ls hl hp
  exact lv_ldc2 hx hb hown (np_hts hsd args _ hw) d (hk _ _ _ _ _ _ hop H locs ad ls hl (hp.to hp.2.1 (np_c_cons trivial hp.2.2.1)))

theorem np_s_iload_n {X : np_Ctx} {pc : Nat} {own : String} {cc : ByteArray} {nL RF RL RC RS : Nat} {rI : Instr} (hX : np_ok own cc nL RF RL RC RS rI X) {i : Nat} {j : Fin 4} (d : decode cc pc = .ok (.iload_n j, 1)) (hi : (j : Nat) = i) : np_S X pc (np_ild 1 i) := by
  obtain ⟨⟨p, l, e, R, s, m, args, below, meth, c⟩, ⟨Q, D, cA, A, ad0, n0, nL'⟩, Rt, Th⟩ := X
  obtain ⟨hx, hb, hml, rfl, hown, hsd, hK, hA, hRF, hRL, hRC, hRS, hret, hlt, hzq, hth⟩ := hX
  intro k hk L st w ce sl hop H locs ad ls hl hp
  unfold np_ild at hop
  split at hop
  · rename_i x hx9
    exact lv_iload_n hx hb d hi (np_lk_has hl hx9) (hk _ _ _ _ _ _ hop H locs ad ls hl (hp.to hp.2.1 (np_c_cons trivial hp.2.2.1)))
  · exact absurd hop id

theorem np_s_iload {X : np_Ctx} {pc : Nat} {own : String} {cc : ByteArray} {nL RF RL RC RS : Nat} {rI : Instr} (hX : np_ok own cc nL RF RL RC RS rI X) {i : Nat} (d : decode cc pc = .ok (.iload i, 2)) : np_S X pc (np_ild 2 i) := by
  obtain ⟨⟨p, l, e, R, s, m, args, below, meth, c⟩, ⟨Q, D, cA, A, ad0, n0, nL'⟩, Rt, Th⟩ := X
  obtain ⟨hx, hb, hml, rfl, hown, hsd, hK, hA, hRF, hRL, hRC, hRS, hret, hlt, hzq, hth⟩ := hX
  intro k hk L st w ce sl hop H locs ad ls hl hp
  unfold np_ild at hop
  split at hop
  · rename_i x hx9
    exact lv_iload hx hb d (np_lk_has hl hx9) (hk _ _ _ _ _ _ hop H locs ad ls hl (hp.to hp.2.1 (np_c_cons trivial hp.2.2.1)))
  · exact absurd hop id

theorem np_s_lload_n {X : np_Ctx} {pc : Nat} {own : String} {cc : ByteArray} {nL RF RL RC RS : Nat} {rI : Instr} (hX : np_ok own cc nL RF RL RC RS rI X) {i : Nat} {j : Fin 4} (d : decode cc pc = .ok (.lload_n j, 1)) (hi : (j : Nat) = i) : np_S X pc (np_lld 1 i) := by
  obtain ⟨⟨p, l, e, R, s, m, args, below, meth, c⟩, ⟨Q, D, cA, A, ad0, n0, nL'⟩, Rt, Th⟩ := X
  obtain ⟨hx, hb, hml, rfl, hown, hsd, hK, hA, hRF, hRL, hRC, hRS, hret, hlt, hzq, hth⟩ := hX
  intro k hk L st w ce sl hop H locs ad ls hl hp
  unfold np_lld at hop
  split at hop
  · rename_i x hx9
    exact lv_lload_n hx hb d hi (np_lk_has hl hx9) (hk _ _ _ _ _ _ hop H locs ad ls hl (hp.to hp.2.1 (np_c_cons trivial hp.2.2.1)))
  · exact absurd hop id

theorem np_s_lload {X : np_Ctx} {pc : Nat} {own : String} {cc : ByteArray} {nL RF RL RC RS : Nat} {rI : Instr} (hX : np_ok own cc nL RF RL RC RS rI X) {i : Nat} (d : decode cc pc = .ok (.lload i, 2)) : np_S X pc (np_lld 2 i) := by
  obtain ⟨⟨p, l, e, R, s, m, args, below, meth, c⟩, ⟨Q, D, cA, A, ad0, n0, nL'⟩, Rt, Th⟩ := X
  obtain ⟨hx, hb, hml, rfl, hown, hsd, hK, hA, hRF, hRL, hRC, hRS, hret, hlt, hzq, hth⟩ := hX
  intro k hk L st w ce sl hop H locs ad ls hl hp
  unfold np_lld at hop
  split at hop
  · rename_i x hx9
    exact lv_lload hx hb d (np_lk_has hl hx9) (hk _ _ _ _ _ _ hop H locs ad ls hl (hp.to hp.2.1 (np_c_cons trivial hp.2.2.1)))
  · exact absurd hop id

theorem np_s_aload_n {X : np_Ctx} {pc : Nat} {own : String} {cc : ByteArray} {nL RF RL RC RS : Nat} {rI : Instr} (hX : np_ok own cc nL RF RL RC RS rI X) {i : Nat} {j : Fin 4} (d : decode cc pc = .ok (.aload_n j, 1)) (hi : (j : Nat) = i) : np_S X pc (np_ald 1 i) := by
  obtain ⟨⟨p, l, e, R, s, m, args, below, meth, c⟩, ⟨Q, D, cA, A, ad0, n0, nL'⟩, Rt, Th⟩ := X
  obtain ⟨hx, hb, hml, rfl, hown, hsd, hK, hA, hRF, hRL, hRC, hRS, hret, hlt, hzq, hth⟩ := hX
  intro k hk L st w ce sl hop H locs ad ls hl hp
  unfold np_ald at hop
  split at hop
  · rename_i x hx9
    exact lv_aload_n hx hb d hi (np_lk_has hl hx9) (hk _ _ _ _ _ _ hop H locs ad ls hl (hp.to hp.2.1 (np_c_cons (hp.2.1 _ (np_lk_mem hx9)) hp.2.2.1)))
  · rename_i hx9
    exact lv_aload_nN hx hb d hi (np_lk_has hl hx9) (hk _ _ _ _ _ _ hop H locs ad ls hl (hp.to hp.2.1 (np_c_cons trivial hp.2.2.1)))
  · exact absurd hop id

theorem np_s_aload {X : np_Ctx} {pc : Nat} {own : String} {cc : ByteArray} {nL RF RL RC RS : Nat} {rI : Instr} (hX : np_ok own cc nL RF RL RC RS rI X) {i : Nat} (d : decode cc pc = .ok (.aload i, 2)) : np_S X pc (np_ald 2 i) := by
  obtain ⟨⟨p, l, e, R, s, m, args, below, meth, c⟩, ⟨Q, D, cA, A, ad0, n0, nL'⟩, Rt, Th⟩ := X
  obtain ⟨hx, hb, hml, rfl, hown, hsd, hK, hA, hRF, hRL, hRC, hRS, hret, hlt, hzq, hth⟩ := hX
  intro k hk L st w ce sl hop H locs ad ls hl hp
  unfold np_ald at hop
  split at hop
  · rename_i x hx9
    exact lv_aload hx hb d (np_lk_has hl hx9) (hk _ _ _ _ _ _ hop H locs ad ls hl (hp.to hp.2.1 (np_c_cons (hp.2.1 _ (np_lk_mem hx9)) hp.2.2.1)))
  · rename_i hx9
    exact lv_aloadN hx hb d (np_lk_has hl hx9) (hk _ _ _ _ _ _ hop H locs ad ls hl (hp.to hp.2.1 (np_c_cons trivial hp.2.2.1)))
  · exact absurd hop id

theorem np_s_istore_n {X : np_Ctx} {pc : Nat} {own : String} {cc : ByteArray} {nL RF RL RC RS : Nat} {rI : Instr} (hX : np_ok own cc nL RF RL RC RS rI X) {i : Nat} {j : Fin 4} (d : decode cc pc = .ok (.istore_n j, 1)) (hi : (j : Nat) = i) (hn : i < nL) : np_S X pc (np_ist 1 i) := by
  obtain ⟨⟨p, l, e, R, s, m, args, below, meth, c⟩, ⟨Q, D, cA, A, ad0, n0, nL'⟩, Rt, Th⟩ := X
  obtain ⟨hx, hb, hml, rfl, hown, hsd, hK, hA, hRF, hRL, hRC, hRS, hret, hlt, hzq, hth⟩ := hX
  intro k hk L st w ce sl hop H locs ad ls hl hp
  unfold np_ist at hop
  split at hop
  · rename_i x r
    exact lv_istore_n hx hb d hi hl hn (np_cL_st1 ad L i (.int x)) (fun ls' hl' => hk _ _ _ _ _ _ hop H locs ad ls' hl' (hp.to (np_st1_c hp.2.1 trivial) (np_c_tl hp.2.2.1)))
  · exact absurd hop id

theorem np_s_istore {X : np_Ctx} {pc : Nat} {own : String} {cc : ByteArray} {nL RF RL RC RS : Nat} {rI : Instr} (hX : np_ok own cc nL RF RL RC RS rI X) {i : Nat} (d : decode cc pc = .ok (.istore i, 2)) (hn : i < nL) : np_S X pc (np_ist 2 i) := by
  obtain ⟨⟨p, l, e, R, s, m, args, below, meth, c⟩, ⟨Q, D, cA, A, ad0, n0, nL'⟩, Rt, Th⟩ := X
  obtain ⟨hx, hb, hml, rfl, hown, hsd, hK, hA, hRF, hRL, hRC, hRS, hret, hlt, hzq, hth⟩ := hX
  intro k hk L st w ce sl hop H locs ad ls hl hp
  unfold np_ist at hop
  split at hop
  · rename_i x r
    exact lv_istore hx hb d hl hn (np_cL_st1 ad L i (.int x)) (fun ls' hl' => hk _ _ _ _ _ _ hop H locs ad ls' hl' (hp.to (np_st1_c hp.2.1 trivial) (np_c_tl hp.2.2.1)))
  · exact absurd hop id

theorem np_s_lstore_n {X : np_Ctx} {pc : Nat} {own : String} {cc : ByteArray} {nL RF RL RC RS : Nat} {rI : Instr} (hX : np_ok own cc nL RF RL RC RS rI X) {i : Nat} {j : Fin 4} (d : decode cc pc = .ok (.lstore_n j, 1)) (hi : (j : Nat) = i) (hn : i + 1 < nL) : np_S X pc (np_lst 1 i) := by
  obtain ⟨⟨p, l, e, R, s, m, args, below, meth, c⟩, ⟨Q, D, cA, A, ad0, n0, nL'⟩, Rt, Th⟩ := X
  obtain ⟨hx, hb, hml, rfl, hown, hsd, hK, hA, hRF, hRL, hRC, hRS, hret, hlt, hzq, hth⟩ := hX
  intro k hk L st w ce sl hop H locs ad ls hl hp
  unfold np_lst at hop
  split at hop
  · rename_i x r
    exact lv_lstore_n hx hb d hi hl hn (np_cL_st2 ad L i (.long x)) (fun ls' hl' => hk _ _ _ _ _ _ hop H locs ad ls' hl' (hp.to (np_st2_c hp.2.1 trivial) (np_c_tl hp.2.2.1)))
  · exact absurd hop id

theorem np_s_lstore {X : np_Ctx} {pc : Nat} {own : String} {cc : ByteArray} {nL RF RL RC RS : Nat} {rI : Instr} (hX : np_ok own cc nL RF RL RC RS rI X) {i : Nat} (d : decode cc pc = .ok (.lstore i, 2)) (hn : i + 1 < nL) : np_S X pc (np_lst 2 i) := by
  obtain ⟨⟨p, l, e, R, s, m, args, below, meth, c⟩, ⟨Q, D, cA, A, ad0, n0, nL'⟩, Rt, Th⟩ := X
  obtain ⟨hx, hb, hml, rfl, hown, hsd, hK, hA, hRF, hRL, hRC, hRS, hret, hlt, hzq, hth⟩ := hX
  intro k hk L st w ce sl hop H locs ad ls hl hp
  unfold np_lst at hop
  split at hop
  · rename_i x r
    exact lv_lstore hx hb d hl hn (np_cL_st2 ad L i (.long x)) (fun ls' hl' => hk _ _ _ _ _ _ hop H locs ad ls' hl' (hp.to (np_st2_c hp.2.1 trivial) (np_c_tl hp.2.2.1)))
  · exact absurd hop id

theorem np_s_astore_n {X : np_Ctx} {pc : Nat} {own : String} {cc : ByteArray} {nL RF RL RC RS : Nat} {rI : Instr} (hX : np_ok own cc nL RF RL RC RS rI X) {i : Nat} {j : Fin 4} (d : decode cc pc = .ok (.astore_n j, 1)) (hi : (j : Nat) = i) (hn : i < nL) : np_S X pc (np_ast 1 i) := by
  obtain ⟨⟨p, l, e, R, s, m, args, below, meth, c⟩, ⟨Q, D, cA, A, ad0, n0, nL'⟩, Rt, Th⟩ := X
  obtain ⟨hx, hb, hml, rfl, hown, hsd, hK, hA, hRF, hRL, hRC, hRS, hret, hlt, hzq, hth⟩ := hX
  intro k hk L st w ce sl hop H locs ad ls hl hp
  unfold np_ast at hop
  split at hop
  · rename_i x r
    exact lv_astore_n hx hb d hi hl hn (np_cL_st1 ad L i (.ref x)) (fun ls' hl' => hk _ _ _ _ _ _ hop H locs ad ls' hl' (hp.to (np_st1_c hp.2.1 (np_c_hd hp.2.2.1)) (np_c_tl hp.2.2.1)))
  · rename_i r
    exact lv_astore_nN hx hb d hi hl hn (np_cL_st1 ad L i .null) (fun ls' hl' => hk _ _ _ _ _ _ hop H locs ad ls' hl' (hp.to (np_st1_c hp.2.1 trivial) (np_c_tl hp.2.2.1)))
  · exact absurd hop id

theorem np_s_astore {X : np_Ctx} {pc : Nat} {own : String} {cc : ByteArray} {nL RF RL RC RS : Nat} {rI : Instr} (hX : np_ok own cc nL RF RL RC RS rI X) {i : Nat} (d : decode cc pc = .ok (.astore i, 2)) (hn : i < nL) : np_S X pc (np_ast 2 i) := by
  obtain ⟨⟨p, l, e, R, s, m, args, below, meth, c⟩, ⟨Q, D, cA, A, ad0, n0, nL'⟩, Rt, Th⟩ := X
  obtain ⟨hx, hb, hml, rfl, hown, hsd, hK, hA, hRF, hRL, hRC, hRS, hret, hlt, hzq, hth⟩ := hX
  intro k hk L st w ce sl hop H locs ad ls hl hp
  unfold np_ast at hop
  split at hop
  · rename_i x r
    exact lv_astore hx hb d hl hn (np_cL_st1 ad L i (.ref x)) (fun ls' hl' => hk _ _ _ _ _ _ hop H locs ad ls' hl' (hp.to (np_st1_c hp.2.1 (np_c_hd hp.2.2.1)) (np_c_tl hp.2.2.1)))
  · rename_i r
    exact lv_astoreN hx hb d hl hn (np_cL_st1 ad L i .null) (fun ls' hl' => hk _ _ _ _ _ _ hop H locs ad ls' hl' (hp.to (np_st1_c hp.2.1 trivial) (np_c_tl hp.2.2.1)))
  · exact absurd hop id

theorem np_s_iinc {X : np_Ctx} {pc : Nat} {own : String} {cc : ByteArray} {nL RF RL RC RS : Nat} {rI : Instr} (hX : np_ok own cc nL RF RL RC RS rI X) {i : Nat} {n : Int} (d : decode cc pc = .ok (.iinc i n, 3)) (hn : i < nL) : np_S X pc (np_iinc i n) := by
  obtain ⟨⟨p, l, e, R, s, m, args, below, meth, c⟩, ⟨Q, D, cA, A, ad0, n0, nL'⟩, Rt, Th⟩ := X
  obtain ⟨hx, hb, hml, rfl, hown, hsd, hK, hA, hRF, hRL, hRC, hRS, hret, hlt, hzq, hth⟩ := hX
  intro k hk L st w ce sl hop H locs ad ls hl hp
  unfold np_iinc at hop
  split at hop
  · rename_i x hx9
    obtain ⟨k9, hk9⟩ := List.getElem?_of_mem (show (i, Value.int x) ∈ np_cL ad L from List.mem_map.mpr ⟨(i, .int x), np_lk_mem hx9, rfl⟩)
    exact lv_iinc hx hb d hl hk9 rfl hn (np_cL_st1 ad L i (.int (x + Int32.ofInt n))) (fun ls' hl' => hk _ _ _ _ _ _ hop H locs ad ls' hl' (hp.to (np_st1_c hp.2.1 trivial) hp.2.2.1))
  · exact absurd hop id

theorem np_s_iadd {X : np_Ctx} {pc : Nat} {own : String} {cc : ByteArray} {nL RF RL RC RS : Nat} {rI : Instr} (hX : np_ok own cc nL RF RL RC RS rI X) (d : decode cc pc = .ok (.iadd, 1)) : np_S X pc (np_ib (fun x y => x + y)) := by
  obtain ⟨⟨p, l, e, R, s, m, args, below, meth, c⟩, ⟨Q, D, cA, A, ad0, n0, nL'⟩, Rt, Th⟩ := X
  obtain ⟨hx, hb, hml, rfl, hown, hsd, hK, hA, hRF, hRL, hRC, hRS, hret, hlt, hzq, hth⟩ := hX
  intro k hk L st w ce sl hop H locs ad ls hl hp
  unfold np_ib at hop
  split at hop
  · rename_i y x r
    exact lv_iadd hx hb d (hk _ _ _ _ _ _ hop H locs ad ls hl (hp.to hp.2.1 (np_c_cons trivial (np_c_tl (np_c_tl hp.2.2.1)))))
  · exact absurd hop id

theorem np_s_isub {X : np_Ctx} {pc : Nat} {own : String} {cc : ByteArray} {nL RF RL RC RS : Nat} {rI : Instr} (hX : np_ok own cc nL RF RL RC RS rI X) (d : decode cc pc = .ok (.isub, 1)) : np_S X pc (np_ib (fun x y => x - y)) := by
  obtain ⟨⟨p, l, e, R, s, m, args, below, meth, c⟩, ⟨Q, D, cA, A, ad0, n0, nL'⟩, Rt, Th⟩ := X
  obtain ⟨hx, hb, hml, rfl, hown, hsd, hK, hA, hRF, hRL, hRC, hRS, hret, hlt, hzq, hth⟩ := hX
  intro k hk L st w ce sl hop H locs ad ls hl hp
  unfold np_ib at hop
  split at hop
  · rename_i y x r
    exact lv_isub hx hb d (hk _ _ _ _ _ _ hop H locs ad ls hl (hp.to hp.2.1 (np_c_cons trivial (np_c_tl (np_c_tl hp.2.2.1)))))
  · exact absurd hop id

theorem np_s_imul {X : np_Ctx} {pc : Nat} {own : String} {cc : ByteArray} {nL RF RL RC RS : Nat} {rI : Instr} (hX : np_ok own cc nL RF RL RC RS rI X) (d : decode cc pc = .ok (.imul, 1)) : np_S X pc (np_ib (fun x y => x * y)) := by
  obtain ⟨⟨p, l, e, R, s, m, args, below, meth, c⟩, ⟨Q, D, cA, A, ad0, n0, nL'⟩, Rt, Th⟩ := X
  obtain ⟨hx, hb, hml, rfl, hown, hsd, hK, hA, hRF, hRL, hRC, hRS, hret, hlt, hzq, hth⟩ := hX
  intro k hk L st w ce sl hop H locs ad ls hl hp
  unfold np_ib at hop
  split at hop
  · rename_i y x r
    exact lv_imul hx hb d (hk _ _ _ _ _ _ hop H locs ad ls hl (hp.to hp.2.1 (np_c_cons trivial (np_c_tl (np_c_tl hp.2.2.1)))))
  · exact absurd hop id

theorem np_s_iand {X : np_Ctx} {pc : Nat} {own : String} {cc : ByteArray} {nL RF RL RC RS : Nat} {rI : Instr} (hX : np_ok own cc nL RF RL RC RS rI X) (d : decode cc pc = .ok (.iand, 1)) : np_S X pc (np_ib (fun x y => x &&& y)) := by
  obtain ⟨⟨p, l, e, R, s, m, args, below, meth, c⟩, ⟨Q, D, cA, A, ad0, n0, nL'⟩, Rt, Th⟩ := X
  obtain ⟨hx, hb, hml, rfl, hown, hsd, hK, hA, hRF, hRL, hRC, hRS, hret, hlt, hzq, hth⟩ := hX
  intro k hk L st w ce sl hop H locs ad ls hl hp
  unfold np_ib at hop
  split at hop
  · rename_i y x r
    exact lv_iand hx hb d (hk _ _ _ _ _ _ hop H locs ad ls hl (hp.to hp.2.1 (np_c_cons trivial (np_c_tl (np_c_tl hp.2.2.1)))))
  · exact absurd hop id

theorem np_s_ior {X : np_Ctx} {pc : Nat} {own : String} {cc : ByteArray} {nL RF RL RC RS : Nat} {rI : Instr} (hX : np_ok own cc nL RF RL RC RS rI X) (d : decode cc pc = .ok (.ior, 1)) : np_S X pc (np_ib (fun x y => x ||| y)) := by
  obtain ⟨⟨p, l, e, R, s, m, args, below, meth, c⟩, ⟨Q, D, cA, A, ad0, n0, nL'⟩, Rt, Th⟩ := X
  obtain ⟨hx, hb, hml, rfl, hown, hsd, hK, hA, hRF, hRL, hRC, hRS, hret, hlt, hzq, hth⟩ := hX
  intro k hk L st w ce sl hop H locs ad ls hl hp
  unfold np_ib at hop
  split at hop
  · rename_i y x r
    exact lv_ior hx hb d (hk _ _ _ _ _ _ hop H locs ad ls hl (hp.to hp.2.1 (np_c_cons trivial (np_c_tl (np_c_tl hp.2.2.1)))))
  · exact absurd hop id

theorem np_s_ixor {X : np_Ctx} {pc : Nat} {own : String} {cc : ByteArray} {nL RF RL RC RS : Nat} {rI : Instr} (hX : np_ok own cc nL RF RL RC RS rI X) (d : decode cc pc = .ok (.ixor, 1)) : np_S X pc (np_ib (fun x y => x ^^^ y)) := by
  obtain ⟨⟨p, l, e, R, s, m, args, below, meth, c⟩, ⟨Q, D, cA, A, ad0, n0, nL'⟩, Rt, Th⟩ := X
  obtain ⟨hx, hb, hml, rfl, hown, hsd, hK, hA, hRF, hRL, hRC, hRS, hret, hlt, hzq, hth⟩ := hX
  intro k hk L st w ce sl hop H locs ad ls hl hp
  unfold np_ib at hop
  split at hop
  · rename_i y x r
    exact lv_ixor hx hb d (hk _ _ _ _ _ _ hop H locs ad ls hl (hp.to hp.2.1 (np_c_cons trivial (np_c_tl (np_c_tl hp.2.2.1)))))
  · exact absurd hop id

theorem np_s_ishl {X : np_Ctx} {pc : Nat} {own : String} {cc : ByteArray} {nL RF RL RC RS : Nat} {rI : Instr} (hX : np_ok own cc nL RF RL RC RS rI X) (d : decode cc pc = .ok (.ishl, 1)) : np_S X pc (np_ib (fun x y => x <<< (y &&& 31))) := by
  obtain ⟨⟨p, l, e, R, s, m, args, below, meth, c⟩, ⟨Q, D, cA, A, ad0, n0, nL'⟩, Rt, Th⟩ := X
  obtain ⟨hx, hb, hml, rfl, hown, hsd, hK, hA, hRF, hRL, hRC, hRS, hret, hlt, hzq, hth⟩ := hX
  intro k hk L st w ce sl hop H locs ad ls hl hp
  unfold np_ib at hop
  split at hop
  · rename_i y x r
    exact lv_ishl hx hb d (hk _ _ _ _ _ _ hop H locs ad ls hl (hp.to hp.2.1 (np_c_cons trivial (np_c_tl (np_c_tl hp.2.2.1)))))
  · exact absurd hop id

theorem np_s_ishr {X : np_Ctx} {pc : Nat} {own : String} {cc : ByteArray} {nL RF RL RC RS : Nat} {rI : Instr} (hX : np_ok own cc nL RF RL RC RS rI X) (d : decode cc pc = .ok (.ishr, 1)) : np_S X pc (np_ib (fun x y => x >>> (y &&& 31))) := by
  obtain ⟨⟨p, l, e, R, s, m, args, below, meth, c⟩, ⟨Q, D, cA, A, ad0, n0, nL'⟩, Rt, Th⟩ := X
  obtain ⟨hx, hb, hml, rfl, hown, hsd, hK, hA, hRF, hRL, hRC, hRS, hret, hlt, hzq, hth⟩ := hX
  intro k hk L st w ce sl hop H locs ad ls hl hp
  unfold np_ib at hop
  split at hop
  · rename_i y x r
    exact lv_ishr hx hb d (hk _ _ _ _ _ _ hop H locs ad ls hl (hp.to hp.2.1 (np_c_cons trivial (np_c_tl (np_c_tl hp.2.2.1)))))
  · exact absurd hop id

theorem np_s_iushr {X : np_Ctx} {pc : Nat} {own : String} {cc : ByteArray} {nL RF RL RC RS : Nat} {rI : Instr} (hX : np_ok own cc nL RF RL RC RS rI X) (d : decode cc pc = .ok (.iushr, 1)) : np_S X pc (np_ib (fun x y => (x.toUInt32 >>> (y.toUInt32 &&& Int32.toUInt32 31)).toInt32)) := by
  obtain ⟨⟨p, l, e, R, s, m, args, below, meth, c⟩, ⟨Q, D, cA, A, ad0, n0, nL'⟩, Rt, Th⟩ := X
  obtain ⟨hx, hb, hml, rfl, hown, hsd, hK, hA, hRF, hRL, hRC, hRS, hret, hlt, hzq, hth⟩ := hX
  intro k hk L st w ce sl hop H locs ad ls hl hp
  unfold np_ib at hop
  split at hop
  · rename_i y x r
    exact lv_iushr hx hb d rfl (hk _ _ _ _ _ _ hop H locs ad ls hl (hp.to hp.2.1 (np_c_cons trivial (np_c_tl (np_c_tl hp.2.2.1)))))
  · exact absurd hop id

theorem np_s_idiv {X : np_Ctx} {pc : Nat} {own : String} {cc : ByteArray} {nL RF RL RC RS : Nat} {rI : Instr} (hX : np_ok own cc nL RF RL RC RS rI X) (d : decode cc pc = .ok (.idiv, 1)) : np_S X pc (np_ibn (fun x y => x / y)) := by
  obtain ⟨⟨p, l, e, R, s, m, args, below, meth, c⟩, ⟨Q, D, cA, A, ad0, n0, nL'⟩, Rt, Th⟩ := X
  obtain ⟨hx, hb, hml, rfl, hown, hsd, hK, hA, hRF, hRL, hRC, hRS, hret, hlt, hzq, hth⟩ := hX
  intro k hk L st w ce sl hop H locs ad ls hl hp
  unfold np_ibn at hop
  split at hop
  · rename_i y x r
    exact lv_idiv hx hb d hop.1 (hk _ _ _ _ _ _ hop.2 H locs ad ls hl (hp.to hp.2.1 (np_c_cons trivial (np_c_tl (np_c_tl hp.2.2.1)))))
  · exact absurd hop id

theorem np_s_irem {X : np_Ctx} {pc : Nat} {own : String} {cc : ByteArray} {nL RF RL RC RS : Nat} {rI : Instr} (hX : np_ok own cc nL RF RL RC RS rI X) (d : decode cc pc = .ok (.irem, 1)) : np_S X pc (np_ibn (fun x y => x - x / y * y)) := by
  obtain ⟨⟨p, l, e, R, s, m, args, below, meth, c⟩, ⟨Q, D, cA, A, ad0, n0, nL'⟩, Rt, Th⟩ := X
  obtain ⟨hx, hb, hml, rfl, hown, hsd, hK, hA, hRF, hRL, hRC, hRS, hret, hlt, hzq, hth⟩ := hX
  intro k hk L st w ce sl hop H locs ad ls hl hp
  unfold np_ibn at hop
  split at hop
  · rename_i y x r
    exact lv_irem hx hb d hop.1 (hk _ _ _ _ _ _ hop.2 H locs ad ls hl (hp.to hp.2.1 (np_c_cons trivial (np_c_tl (np_c_tl hp.2.2.1)))))
  · exact absurd hop id

theorem np_s_ladd {X : np_Ctx} {pc : Nat} {own : String} {cc : ByteArray} {nL RF RL RC RS : Nat} {rI : Instr} (hX : np_ok own cc nL RF RL RC RS rI X) (d : decode cc pc = .ok (.ladd, 1)) : np_S X pc (np_lb (fun x y => x + y)) := by
  obtain ⟨⟨p, l, e, R, s, m, args, below, meth, c⟩, ⟨Q, D, cA, A, ad0, n0, nL'⟩, Rt, Th⟩ := X
  obtain ⟨hx, hb, hml, rfl, hown, hsd, hK, hA, hRF, hRL, hRC, hRS, hret, hlt, hzq, hth⟩ := hX
  intro k hk L st w ce sl hop H locs ad ls hl hp
  unfold np_lb at hop
  split at hop
  · rename_i y x r
    exact lv_ladd hx hb d (hk _ _ _ _ _ _ hop H locs ad ls hl (hp.to hp.2.1 (np_c_cons trivial (np_c_tl (np_c_tl hp.2.2.1)))))
  · exact absurd hop id

theorem np_s_lsub {X : np_Ctx} {pc : Nat} {own : String} {cc : ByteArray} {nL RF RL RC RS : Nat} {rI : Instr} (hX : np_ok own cc nL RF RL RC RS rI X) (d : decode cc pc = .ok (.lsub, 1)) : np_S X pc (np_lb (fun x y => x - y)) := by
  obtain ⟨⟨p, l, e, R, s, m, args, below, meth, c⟩, ⟨Q, D, cA, A, ad0, n0, nL'⟩, Rt, Th⟩ := X
  obtain ⟨hx, hb, hml, rfl, hown, hsd, hK, hA, hRF, hRL, hRC, hRS, hret, hlt, hzq, hth⟩ := hX
  intro k hk L st w ce sl hop H locs ad ls hl hp
  unfold np_lb at hop
  split at hop
  · rename_i y x r
    exact lv_lsub hx hb d (hk _ _ _ _ _ _ hop H locs ad ls hl (hp.to hp.2.1 (np_c_cons trivial (np_c_tl (np_c_tl hp.2.2.1)))))
  · exact absurd hop id

theorem np_s_lmul {X : np_Ctx} {pc : Nat} {own : String} {cc : ByteArray} {nL RF RL RC RS : Nat} {rI : Instr} (hX : np_ok own cc nL RF RL RC RS rI X) (d : decode cc pc = .ok (.lmul, 1)) : np_S X pc (np_lb (fun x y => x * y)) := by
  obtain ⟨⟨p, l, e, R, s, m, args, below, meth, c⟩, ⟨Q, D, cA, A, ad0, n0, nL'⟩, Rt, Th⟩ := X
  obtain ⟨hx, hb, hml, rfl, hown, hsd, hK, hA, hRF, hRL, hRC, hRS, hret, hlt, hzq, hth⟩ := hX
  intro k hk L st w ce sl hop H locs ad ls hl hp
  unfold np_lb at hop
  split at hop
  · rename_i y x r
    exact lv_lmul hx hb d (hk _ _ _ _ _ _ hop H locs ad ls hl (hp.to hp.2.1 (np_c_cons trivial (np_c_tl (np_c_tl hp.2.2.1)))))
  · exact absurd hop id

theorem np_s_land {X : np_Ctx} {pc : Nat} {own : String} {cc : ByteArray} {nL RF RL RC RS : Nat} {rI : Instr} (hX : np_ok own cc nL RF RL RC RS rI X) (d : decode cc pc = .ok (.land, 1)) : np_S X pc (np_lb (fun x y => x &&& y)) := by
  obtain ⟨⟨p, l, e, R, s, m, args, below, meth, c⟩, ⟨Q, D, cA, A, ad0, n0, nL'⟩, Rt, Th⟩ := X
  obtain ⟨hx, hb, hml, rfl, hown, hsd, hK, hA, hRF, hRL, hRC, hRS, hret, hlt, hzq, hth⟩ := hX
  intro k hk L st w ce sl hop H locs ad ls hl hp
  unfold np_lb at hop
  split at hop
  · rename_i y x r
    exact lv_land hx hb d (hk _ _ _ _ _ _ hop H locs ad ls hl (hp.to hp.2.1 (np_c_cons trivial (np_c_tl (np_c_tl hp.2.2.1)))))
  · exact absurd hop id

theorem np_s_ldiv {X : np_Ctx} {pc : Nat} {own : String} {cc : ByteArray} {nL RF RL RC RS : Nat} {rI : Instr} (hX : np_ok own cc nL RF RL RC RS rI X) (d : decode cc pc = .ok (.ldiv, 1)) : np_S X pc (np_lbn (fun x y => x / y)) := by
  obtain ⟨⟨p, l, e, R, s, m, args, below, meth, c⟩, ⟨Q, D, cA, A, ad0, n0, nL'⟩, Rt, Th⟩ := X
  obtain ⟨hx, hb, hml, rfl, hown, hsd, hK, hA, hRF, hRL, hRC, hRS, hret, hlt, hzq, hth⟩ := hX
  intro k hk L st w ce sl hop H locs ad ls hl hp
  unfold np_lbn at hop
  split at hop
  · rename_i y x r
    exact lv_ldiv hx hb d hop.1 (hk _ _ _ _ _ _ hop.2 H locs ad ls hl (hp.to hp.2.1 (np_c_cons trivial (np_c_tl (np_c_tl hp.2.2.1)))))
  · exact absurd hop id

theorem np_s_lrem {X : np_Ctx} {pc : Nat} {own : String} {cc : ByteArray} {nL RF RL RC RS : Nat} {rI : Instr} (hX : np_ok own cc nL RF RL RC RS rI X) (d : decode cc pc = .ok (.lrem, 1)) : np_S X pc (np_lbn (fun x y => x - x / y * y)) := by
  obtain ⟨⟨p, l, e, R, s, m, args, below, meth, c⟩, ⟨Q, D, cA, A, ad0, n0, nL'⟩, Rt, Th⟩ := X
  obtain ⟨hx, hb, hml, rfl, hown, hsd, hK, hA, hRF, hRL, hRC, hRS, hret, hlt, hzq, hth⟩ := hX
  intro k hk L st w ce sl hop H locs ad ls hl hp
  unfold np_lbn at hop
  split at hop
  · rename_i y x r
    exact lv_lrem hx hb d hop.1 (hk _ _ _ _ _ _ hop.2 H locs ad ls hl (hp.to hp.2.1 (np_c_cons trivial (np_c_tl (np_c_tl hp.2.2.1)))))
  · exact absurd hop id

theorem np_s_ineg {X : np_Ctx} {pc : Nat} {own : String} {cc : ByteArray} {nL RF RL RC RS : Nat} {rI : Instr} (hX : np_ok own cc nL RF RL RC RS rI X) (d : decode cc pc = .ok (.ineg, 1)) : np_S X pc (np_iu (fun x => -x)) := by
  obtain ⟨⟨p, l, e, R, s, m, args, below, meth, c⟩, ⟨Q, D, cA, A, ad0, n0, nL'⟩, Rt, Th⟩ := X
  obtain ⟨hx, hb, hml, rfl, hown, hsd, hK, hA, hRF, hRL, hRC, hRS, hret, hlt, hzq, hth⟩ := hX
  intro k hk L st w ce sl hop H locs ad ls hl hp
  unfold np_iu at hop
  split at hop
  · rename_i x r
    exact lv_ineg hx hb d (hk _ _ _ _ _ _ hop H locs ad ls hl (hp.to hp.2.1 (np_c_cons trivial (np_c_tl hp.2.2.1))))
  · exact absurd hop id

theorem np_s_i2c {X : np_Ctx} {pc : Nat} {own : String} {cc : ByteArray} {nL RF RL RC RS : Nat} {rI : Instr} (hX : np_ok own cc nL RF RL RC RS rI X) (d : decode cc pc = .ok (.i2c, 1)) : np_S X pc (np_iu (fun x => (x.toUInt32 % 65536).toInt32)) := by
  obtain ⟨⟨p, l, e, R, s, m, args, below, meth, c⟩, ⟨Q, D, cA, A, ad0, n0, nL'⟩, Rt, Th⟩ := X
  obtain ⟨hx, hb, hml, rfl, hown, hsd, hK, hA, hRF, hRL, hRC, hRS, hret, hlt, hzq, hth⟩ := hX
  intro k hk L st w ce sl hop H locs ad ls hl hp
  unfold np_iu at hop
  split at hop
  · rename_i x r
    exact lv_i2c hx hb d rfl (hk _ _ _ _ _ _ hop H locs ad ls hl (hp.to hp.2.1 (np_c_cons trivial (np_c_tl hp.2.2.1))))
  · exact absurd hop id

theorem np_s_i2l {X : np_Ctx} {pc : Nat} {own : String} {cc : ByteArray} {nL RF RL RC RS : Nat} {rI : Instr} (hX : np_ok own cc nL RF RL RC RS rI X) (d : decode cc pc = .ok (.i2l, 1)) : np_S X pc (np_i2l) := by
  obtain ⟨⟨p, l, e, R, s, m, args, below, meth, c⟩, ⟨Q, D, cA, A, ad0, n0, nL'⟩, Rt, Th⟩ := X
  obtain ⟨hx, hb, hml, rfl, hown, hsd, hK, hA, hRF, hRL, hRC, hRS, hret, hlt, hzq, hth⟩ := hX
  intro k hk L st w ce sl hop H locs ad ls hl hp
  unfold np_i2l at hop
  split at hop
  · rename_i x r
    exact lv_i2l hx hb d rfl (hk _ _ _ _ _ _ hop H locs ad ls hl (hp.to hp.2.1 (np_c_cons trivial (np_c_tl hp.2.2.1))))
  · exact absurd hop id

theorem np_s_l2i {X : np_Ctx} {pc : Nat} {own : String} {cc : ByteArray} {nL RF RL RC RS : Nat} {rI : Instr} (hX : np_ok own cc nL RF RL RC RS rI X) (d : decode cc pc = .ok (.l2i, 1)) : np_S X pc (np_l2i) := by
  obtain ⟨⟨p, l, e, R, s, m, args, below, meth, c⟩, ⟨Q, D, cA, A, ad0, n0, nL'⟩, Rt, Th⟩ := X
  obtain ⟨hx, hb, hml, rfl, hown, hsd, hK, hA, hRF, hRL, hRC, hRS, hret, hlt, hzq, hth⟩ := hX
  intro k hk L st w ce sl hop H locs ad ls hl hp
  unfold np_l2i at hop
  split at hop
  · rename_i x r
    exact lv_l2i hx hb d rfl (hk _ _ _ _ _ _ hop H locs ad ls hl (hp.to hp.2.1 (np_c_cons trivial (np_c_tl hp.2.2.1))))
  · exact absurd hop id

theorem np_s_lcmp {X : np_Ctx} {pc : Nat} {own : String} {cc : ByteArray} {nL RF RL RC RS : Nat} {rI : Instr} (hX : np_ok own cc nL RF RL RC RS rI X) (d : decode cc pc = .ok (.lcmp, 1)) : np_S X pc (np_lcmp) := by
  obtain ⟨⟨p, l, e, R, s, m, args, below, meth, c⟩, ⟨Q, D, cA, A, ad0, n0, nL'⟩, Rt, Th⟩ := X
  obtain ⟨hx, hb, hml, rfl, hown, hsd, hK, hA, hRF, hRL, hRC, hRS, hret, hlt, hzq, hth⟩ := hX
  intro k hk L st w ce sl hop H locs ad ls hl hp
  unfold np_lcmp at hop
  split at hop
  · rename_i y x r
    exact W.lcmp hx hb d (hk _ _ _ _ _ _ hop H locs ad ls hl (hp.to hp.2.1 (np_c_cons trivial (np_c_tl (np_c_tl hp.2.2.1)))))
  · exact absurd hop id

theorem np_s_dup {X : np_Ctx} {pc : Nat} {own : String} {cc : ByteArray} {nL RF RL RC RS : Nat} {rI : Instr} (hX : np_ok own cc nL RF RL RC RS rI X) (d : decode cc pc = .ok (.dup, 1)) : np_S X pc (np_dup) := by
  obtain ⟨⟨p, l, e, R, s, m, args, below, meth, c⟩, ⟨Q, D, cA, A, ad0, n0, nL'⟩, Rt, Th⟩ := X
  obtain ⟨hx, hb, hml, rfl, hown, hsd, hK, hA, hRF, hRL, hRC, hRS, hret, hlt, hzq, hth⟩ := hX
  intro k hk L st w ce sl hop H locs ad ls hl hp
  unfold np_dup at hop
  split at hop
  · rename_i v r
    exact lv_dup hx hb d (by rw [np_v_cat]; exact hop.1) (hk _ _ _ _ _ _ hop.2 H locs ad ls hl (hp.to hp.2.1 (np_c_cons (np_c_hd hp.2.2.1) hp.2.2.1)))
  · exact absurd hop id

theorem np_s_dup2 {X : np_Ctx} {pc : Nat} {own : String} {cc : ByteArray} {nL RF RL RC RS : Nat} {rI : Instr} (hX : np_ok own cc nL RF RL RC RS rI X) (d : decode cc pc = .ok (.dup2, 1)) : np_S X pc (np_dup2) := by
  obtain ⟨⟨p, l, e, R, s, m, args, below, meth, c⟩, ⟨Q, D, cA, A, ad0, n0, nL'⟩, Rt, Th⟩ := X
  obtain ⟨hx, hb, hml, rfl, hown, hsd, hK, hA, hRF, hRL, hRC, hRS, hret, hlt, hzq, hth⟩ := hX
  intro k hk L st w ce sl hop H locs ad ls hl hp
  unfold np_dup2 at hop
  split at hop
  · rename_i v u r
    exact lv_dup2_11 hx hb d (by rw [np_v_cat]; exact hop.1) (by rw [np_v_cat]; exact hop.2.1) (hk _ _ _ _ _ _ hop.2.2 H locs ad ls hl (hp.to hp.2.1 (np_c_cons (np_c_hd hp.2.2.1) (np_c_cons (np_c_hd (np_c_tl hp.2.2.1)) hp.2.2.1))))
  · exact absurd hop id

theorem np_s_pop {X : np_Ctx} {pc : Nat} {own : String} {cc : ByteArray} {nL RF RL RC RS : Nat} {rI : Instr} (hX : np_ok own cc nL RF RL RC RS rI X) (d : decode cc pc = .ok (.pop, 1)) : np_S X pc (np_pop) := by
  obtain ⟨⟨p, l, e, R, s, m, args, below, meth, c⟩, ⟨Q, D, cA, A, ad0, n0, nL'⟩, Rt, Th⟩ := X
  obtain ⟨hx, hb, hml, rfl, hown, hsd, hK, hA, hRF, hRL, hRC, hRS, hret, hlt, hzq, hth⟩ := hX
  intro k hk L st w ce sl hop H locs ad ls hl hp
  unfold np_pop at hop
  split at hop
  · rename_i v r
    exact lv_pop hx hb d (by rw [np_v_cat]; exact hop.1) (hk _ _ _ _ _ _ hop.2 H locs ad ls hl (hp.to hp.2.1 (np_c_tl hp.2.2.1)))
  · exact absurd hop id

theorem np_s_if_eq {X : np_Ctx} {pc : Nat} {own : String} {cc : ByteArray} {nL RF RL RC RS : Nat} {rI : Instr} (hX : np_ok own cc nL RF RL RC RS rI X) {off : Int} {tgt : Nat} (d : decode cc pc = .ok (.ifCond .eq off, 3)) (ht : (pc : Int) + off = (tgt : Int)) : np_S X pc (np_if (fun x => x = 0) tgt) := by
  obtain ⟨⟨p, l, e, R, s, m, args, below, meth, c⟩, ⟨Q, D, cA, A, ad0, n0, nL'⟩, Rt, Th⟩ := X
  obtain ⟨hx, hb, hml, rfl, hown, hsd, hK, hA, hRF, hRL, hRC, hRS, hret, hlt, hzq, hth⟩ := hX
  intro k hk L st w ce sl hop H locs ad ls hl hp
  unfold np_if at hop
  split at hop
  · rename_i x r
    exact lv_if_eq hx hb d ht (fun q => hk _ _ _ _ _ _ (hop.1 q) H locs ad ls hl (hp.to hp.2.1 (np_c_tl hp.2.2.1))) (fun q => hk _ _ _ _ _ _ (hop.2 q) H locs ad ls hl (hp.to hp.2.1 (np_c_tl hp.2.2.1)))
  · exact absurd hop id

theorem np_s_if_lt {X : np_Ctx} {pc : Nat} {own : String} {cc : ByteArray} {nL RF RL RC RS : Nat} {rI : Instr} (hX : np_ok own cc nL RF RL RC RS rI X) {off : Int} {tgt : Nat} (d : decode cc pc = .ok (.ifCond .lt off, 3)) (ht : (pc : Int) + off = (tgt : Int)) : np_S X pc (np_if (fun x => x < 0) tgt) := by
  obtain ⟨⟨p, l, e, R, s, m, args, below, meth, c⟩, ⟨Q, D, cA, A, ad0, n0, nL'⟩, Rt, Th⟩ := X
  obtain ⟨hx, hb, hml, rfl, hown, hsd, hK, hA, hRF, hRL, hRC, hRS, hret, hlt, hzq, hth⟩ := hX
  intro k hk L st w ce sl hop H locs ad ls hl hp
  unfold np_if at hop
  split at hop
  · rename_i x r
    exact lv_if_lt hx hb d ht (fun q => hk _ _ _ _ _ _ (hop.1 q) H locs ad ls hl (hp.to hp.2.1 (np_c_tl hp.2.2.1))) (fun q => hk _ _ _ _ _ _ (hop.2 q) H locs ad ls hl (hp.to hp.2.1 (np_c_tl hp.2.2.1)))
  · exact absurd hop id

theorem np_s_if_ge {X : np_Ctx} {pc : Nat} {own : String} {cc : ByteArray} {nL RF RL RC RS : Nat} {rI : Instr} (hX : np_ok own cc nL RF RL RC RS rI X) {off : Int} {tgt : Nat} (d : decode cc pc = .ok (.ifCond .ge off, 3)) (ht : (pc : Int) + off = (tgt : Int)) : np_S X pc (np_if (fun x => 0 ≤ x) tgt) := by
  obtain ⟨⟨p, l, e, R, s, m, args, below, meth, c⟩, ⟨Q, D, cA, A, ad0, n0, nL'⟩, Rt, Th⟩ := X
  obtain ⟨hx, hb, hml, rfl, hown, hsd, hK, hA, hRF, hRL, hRC, hRS, hret, hlt, hzq, hth⟩ := hX
  intro k hk L st w ce sl hop H locs ad ls hl hp
  unfold np_if at hop
  split at hop
  · rename_i x r
    exact lv_if_ge hx hb d ht (fun q => hk _ _ _ _ _ _ (hop.1 q) H locs ad ls hl (hp.to hp.2.1 (np_c_tl hp.2.2.1))) (fun q => hk _ _ _ _ _ _ (hop.2 q) H locs ad ls hl (hp.to hp.2.1 (np_c_tl hp.2.2.1)))
  · exact absurd hop id

theorem np_s_if_gt {X : np_Ctx} {pc : Nat} {own : String} {cc : ByteArray} {nL RF RL RC RS : Nat} {rI : Instr} (hX : np_ok own cc nL RF RL RC RS rI X) {off : Int} {tgt : Nat} (d : decode cc pc = .ok (.ifCond .gt off, 3)) (ht : (pc : Int) + off = (tgt : Int)) : np_S X pc (np_if (fun x => 0 < x) tgt) := by
  obtain ⟨⟨p, l, e, R, s, m, args, below, meth, c⟩, ⟨Q, D, cA, A, ad0, n0, nL'⟩, Rt, Th⟩ := X
  obtain ⟨hx, hb, hml, rfl, hown, hsd, hK, hA, hRF, hRL, hRC, hRS, hret, hlt, hzq, hth⟩ := hX
  intro k hk L st w ce sl hop H locs ad ls hl hp
  unfold np_if at hop
  split at hop
  · rename_i x r
    exact lv_if_gt hx hb d ht (fun q => hk _ _ _ _ _ _ (hop.1 q) H locs ad ls hl (hp.to hp.2.1 (np_c_tl hp.2.2.1))) (fun q => hk _ _ _ _ _ _ (hop.2 q) H locs ad ls hl (hp.to hp.2.1 (np_c_tl hp.2.2.1)))
  · exact absurd hop id

theorem np_s_if_le {X : np_Ctx} {pc : Nat} {own : String} {cc : ByteArray} {nL RF RL RC RS : Nat} {rI : Instr} (hX : np_ok own cc nL RF RL RC RS rI X) {off : Int} {tgt : Nat} (d : decode cc pc = .ok (.ifCond .le off, 3)) (ht : (pc : Int) + off = (tgt : Int)) : np_S X pc (np_if (fun x => x ≤ 0) tgt) := by
  obtain ⟨⟨p, l, e, R, s, m, args, below, meth, c⟩, ⟨Q, D, cA, A, ad0, n0, nL'⟩, Rt, Th⟩ := X
  obtain ⟨hx, hb, hml, rfl, hown, hsd, hK, hA, hRF, hRL, hRC, hRS, hret, hlt, hzq, hth⟩ := hX
  intro k hk L st w ce sl hop H locs ad ls hl hp
  unfold np_if at hop
  split at hop
  · rename_i x r
    exact lv_if_le hx hb d ht (fun q => hk _ _ _ _ _ _ (hop.1 q) H locs ad ls hl (hp.to hp.2.1 (np_c_tl hp.2.2.1))) (fun q => hk _ _ _ _ _ _ (hop.2 q) H locs ad ls hl (hp.to hp.2.1 (np_c_tl hp.2.2.1)))
  · exact absurd hop id

theorem np_s_if_ne {X : np_Ctx} {pc : Nat} {own : String} {cc : ByteArray} {nL RF RL RC RS : Nat} {rI : Instr} (hX : np_ok own cc nL RF RL RC RS rI X) {off : Int} {tgt : Nat} (d : decode cc pc = .ok (.ifCond .ne off, 3)) (ht : (pc : Int) + off = (tgt : Int)) : np_S X pc (np_ifne tgt) := by
  obtain ⟨⟨p, l, e, R, s, m, args, below, meth, c⟩, ⟨Q, D, cA, A, ad0, n0, nL'⟩, Rt, Th⟩ := X
  obtain ⟨hx, hb, hml, rfl, hown, hsd, hK, hA, hRF, hRL, hRC, hRS, hret, hlt, hzq, hth⟩ := hX
  intro k hk L st w ce sl hop H locs ad ls hl hp
  unfold np_ifne at hop
  split at hop
  · rename_i x r
    exact lv_if_ne hx hb d ht (fun q => hk _ _ _ _ _ _ (hop.2 q) H locs ad ls hl (hp.to hp.2.1 (np_c_tl hp.2.2.1))) (fun q => hk _ _ _ _ _ _ (hop.1 q) H locs ad ls hl (hp.to hp.2.1 (np_c_tl hp.2.2.1)))
  · exact absurd hop id

theorem np_s_icmp_eq {X : np_Ctx} {pc : Nat} {own : String} {cc : ByteArray} {nL RF RL RC RS : Nat} {rI : Instr} (hX : np_ok own cc nL RF RL RC RS rI X) {off : Int} {tgt : Nat} (d : decode cc pc = .ok (.if_icmp .eq off, 3)) (ht : (pc : Int) + off = (tgt : Int)) : np_S X pc (np_ic (fun x y => x = y) tgt) := by
  obtain ⟨⟨p, l, e, R, s, m, args, below, meth, c⟩, ⟨Q, D, cA, A, ad0, n0, nL'⟩, Rt, Th⟩ := X
  obtain ⟨hx, hb, hml, rfl, hown, hsd, hK, hA, hRF, hRL, hRC, hRS, hret, hlt, hzq, hth⟩ := hX
  intro k hk L st w ce sl hop H locs ad ls hl hp
  unfold np_ic at hop
  split at hop
  · rename_i y x r
    exact lv_icmp_eq hx hb d ht (fun q => hk _ _ _ _ _ _ (hop.1 q) H locs ad ls hl (hp.to hp.2.1 (np_c_tl (np_c_tl hp.2.2.1)))) (fun q => hk _ _ _ _ _ _ (hop.2 q) H locs ad ls hl (hp.to hp.2.1 (np_c_tl (np_c_tl hp.2.2.1))))
  · exact absurd hop id

theorem np_s_icmp_lt {X : np_Ctx} {pc : Nat} {own : String} {cc : ByteArray} {nL RF RL RC RS : Nat} {rI : Instr} (hX : np_ok own cc nL RF RL RC RS rI X) {off : Int} {tgt : Nat} (d : decode cc pc = .ok (.if_icmp .lt off, 3)) (ht : (pc : Int) + off = (tgt : Int)) : np_S X pc (np_ic (fun x y => x < y) tgt) := by
  obtain ⟨⟨p, l, e, R, s, m, args, below, meth, c⟩, ⟨Q, D, cA, A, ad0, n0, nL'⟩, Rt, Th⟩ := X
  obtain ⟨hx, hb, hml, rfl, hown, hsd, hK, hA, hRF, hRL, hRC, hRS, hret, hlt, hzq, hth⟩ := hX
  intro k hk L st w ce sl hop H locs ad ls hl hp
  unfold np_ic at hop
  split at hop
  · rename_i y x r
    exact lv_icmp_lt hx hb d ht (fun q => hk _ _ _ _ _ _ (hop.1 q) H locs ad ls hl (hp.to hp.2.1 (np_c_tl (np_c_tl hp.2.2.1)))) (fun q => hk _ _ _ _ _ _ (hop.2 q) H locs ad ls hl (hp.to hp.2.1 (np_c_tl (np_c_tl hp.2.2.1))))
  · exact absurd hop id

theorem np_s_icmp_ge {X : np_Ctx} {pc : Nat} {own : String} {cc : ByteArray} {nL RF RL RC RS : Nat} {rI : Instr} (hX : np_ok own cc nL RF RL RC RS rI X) {off : Int} {tgt : Nat} (d : decode cc pc = .ok (.if_icmp .ge off, 3)) (ht : (pc : Int) + off = (tgt : Int)) : np_S X pc (np_ic (fun x y => y ≤ x) tgt) := by
  obtain ⟨⟨p, l, e, R, s, m, args, below, meth, c⟩, ⟨Q, D, cA, A, ad0, n0, nL'⟩, Rt, Th⟩ := X
  obtain ⟨hx, hb, hml, rfl, hown, hsd, hK, hA, hRF, hRL, hRC, hRS, hret, hlt, hzq, hth⟩ := hX
  intro k hk L st w ce sl hop H locs ad ls hl hp
  unfold np_ic at hop
  split at hop
  · rename_i y x r
    exact lv_icmp_ge hx hb d ht (fun q => hk _ _ _ _ _ _ (hop.1 q) H locs ad ls hl (hp.to hp.2.1 (np_c_tl (np_c_tl hp.2.2.1)))) (fun q => hk _ _ _ _ _ _ (hop.2 q) H locs ad ls hl (hp.to hp.2.1 (np_c_tl (np_c_tl hp.2.2.1))))
  · exact absurd hop id

theorem np_s_icmp_gt {X : np_Ctx} {pc : Nat} {own : String} {cc : ByteArray} {nL RF RL RC RS : Nat} {rI : Instr} (hX : np_ok own cc nL RF RL RC RS rI X) {off : Int} {tgt : Nat} (d : decode cc pc = .ok (.if_icmp .gt off, 3)) (ht : (pc : Int) + off = (tgt : Int)) : np_S X pc (np_ic (fun x y => y < x) tgt) := by
  obtain ⟨⟨p, l, e, R, s, m, args, below, meth, c⟩, ⟨Q, D, cA, A, ad0, n0, nL'⟩, Rt, Th⟩ := X
  obtain ⟨hx, hb, hml, rfl, hown, hsd, hK, hA, hRF, hRL, hRC, hRS, hret, hlt, hzq, hth⟩ := hX
  intro k hk L st w ce sl hop H locs ad ls hl hp
  unfold np_ic at hop
  split at hop
  · rename_i y x r
    exact lv_icmp_gt hx hb d ht (fun q => hk _ _ _ _ _ _ (hop.1 q) H locs ad ls hl (hp.to hp.2.1 (np_c_tl (np_c_tl hp.2.2.1)))) (fun q => hk _ _ _ _ _ _ (hop.2 q) H locs ad ls hl (hp.to hp.2.1 (np_c_tl (np_c_tl hp.2.2.1))))
  · exact absurd hop id

theorem np_s_icmp_le {X : np_Ctx} {pc : Nat} {own : String} {cc : ByteArray} {nL RF RL RC RS : Nat} {rI : Instr} (hX : np_ok own cc nL RF RL RC RS rI X) {off : Int} {tgt : Nat} (d : decode cc pc = .ok (.if_icmp .le off, 3)) (ht : (pc : Int) + off = (tgt : Int)) : np_S X pc (np_ic (fun x y => x ≤ y) tgt) := by
  obtain ⟨⟨p, l, e, R, s, m, args, below, meth, c⟩, ⟨Q, D, cA, A, ad0, n0, nL'⟩, Rt, Th⟩ := X
  obtain ⟨hx, hb, hml, rfl, hown, hsd, hK, hA, hRF, hRL, hRC, hRS, hret, hlt, hzq, hth⟩ := hX
  intro k hk L st w ce sl hop H locs ad ls hl hp
  unfold np_ic at hop
  split at hop
  · rename_i y x r
    exact lv_icmp_le hx hb d ht (fun q => hk _ _ _ _ _ _ (hop.1 q) H locs ad ls hl (hp.to hp.2.1 (np_c_tl (np_c_tl hp.2.2.1)))) (fun q => hk _ _ _ _ _ _ (hop.2 q) H locs ad ls hl (hp.to hp.2.1 (np_c_tl (np_c_tl hp.2.2.1))))
  · exact absurd hop id

theorem np_s_icmp_ne {X : np_Ctx} {pc : Nat} {own : String} {cc : ByteArray} {nL RF RL RC RS : Nat} {rI : Instr} (hX : np_ok own cc nL RF RL RC RS rI X) {off : Int} {tgt : Nat} (d : decode cc pc = .ok (.if_icmp .ne off, 3)) (ht : (pc : Int) + off = (tgt : Int)) : np_S X pc (np_icne tgt) := by
  obtain ⟨⟨p, l, e, R, s, m, args, below, meth, c⟩, ⟨Q, D, cA, A, ad0, n0, nL'⟩, Rt, Th⟩ := X
  obtain ⟨hx, hb, hml, rfl, hown, hsd, hK, hA, hRF, hRL, hRC, hRS, hret, hlt, hzq, hth⟩ := hX
  intro k hk L st w ce sl hop H locs ad ls hl hp
  unfold np_icne at hop
  split at hop
  · rename_i y x r
    exact lv_icmp_ne hx hb d ht (fun q => hk _ _ _ _ _ _ (hop.2 q) H locs ad ls hl (hp.to hp.2.1 (np_c_tl (np_c_tl hp.2.2.1)))) (fun q => hk _ _ _ _ _ _ (hop.1 q) H locs ad ls hl (hp.to hp.2.1 (np_c_tl (np_c_tl hp.2.2.1))))
  · exact absurd hop id

theorem np_s_goto {X : np_Ctx} {pc : Nat} {own : String} {cc : ByteArray} {nL RF RL RC RS : Nat} {rI : Instr} (hX : np_ok own cc nL RF RL RC RS rI X) {off : Int} {tgt : Nat} (d : decode cc pc = .ok (.goto off, 3)) (ht : (pc : Int) + off = (tgt : Int)) : np_S X pc (np_goto tgt) := by
  obtain ⟨⟨p, l, e, R, s, m, args, below, meth, c⟩, ⟨Q, D, cA, A, ad0, n0, nL'⟩, Rt, Th⟩ := X
  obtain ⟨hx, hb, hml, rfl, hown, hsd, hK, hA, hRF, hRL, hRC, hRS, hret, hlt, hzq, hth⟩ := hX
  intro k hk L st w ce sl hop H locs ad ls hl hp
  exact lv_goto hx hb d ht (hk _ _ _ _ _ _ hop H locs ad ls hl hp)

theorem np_s_ifnull {X : np_Ctx} {pc : Nat} {own : String} {cc : ByteArray} {nL RF RL RC RS : Nat} {rI : Instr} (hX : np_ok own cc nL RF RL RC RS rI X) {off : Int} {tgt : Nat} (d : decode cc pc = .ok (.ifnull off, 3)) (ht : (pc : Int) + off = (tgt : Int)) : np_S X pc (np_ifnull tgt) := by
  obtain ⟨⟨p, l, e, R, s, m, args, below, meth, c⟩, ⟨Q, D, cA, A, ad0, n0, nL'⟩, Rt, Th⟩ := X
  obtain ⟨hx, hb, hml, rfl, hown, hsd, hK, hA, hRF, hRL, hRC, hRS, hret, hlt, hzq, hth⟩ := hX
  intro k hk L st w ce sl hop H locs ad ls hl hp
  unfold np_ifnull at hop
  split at hop
  · exact lv_ifnull hx hb d (hk _ _ _ _ _ _ hop H locs ad ls hl (hp.to hp.2.1 (np_c_tl hp.2.2.1)))
  · exact lv_ifnullN hx hb d ht (hk _ _ _ _ _ _ hop H locs ad ls hl (hp.to hp.2.1 (np_c_tl hp.2.2.1)))
  · exact absurd hop id

theorem np_s_ifnonnull {X : np_Ctx} {pc : Nat} {own : String} {cc : ByteArray} {nL RF RL RC RS : Nat} {rI : Instr} (hX : np_ok own cc nL RF RL RC RS rI X) {off : Int} {tgt : Nat} (d : decode cc pc = .ok (.ifnonnull off, 3)) (ht : (pc : Int) + off = (tgt : Int)) : np_S X pc (np_ifnonnull tgt) := by
  obtain ⟨⟨p, l, e, R, s, m, args, below, meth, c⟩, ⟨Q, D, cA, A, ad0, n0, nL'⟩, Rt, Th⟩ := X
  obtain ⟨hx, hb, hml, rfl, hown, hsd, hK, hA, hRF, hRL, hRC, hRS, hret, hlt, hzq, hth⟩ := hX
  intro k hk L st w ce sl hop H locs ad ls hl hp
  unfold np_ifnonnull at hop
  split at hop
  · exact lv_ifnonnull hx hb d ht (hk _ _ _ _ _ _ hop H locs ad ls hl (hp.to hp.2.1 (np_c_tl hp.2.2.1)))
  · exact lv_ifnonnullN hx hb d (hk _ _ _ _ _ _ hop H locs ad ls hl (hp.to hp.2.1 (np_c_tl hp.2.2.1)))
  · exact absurd hop id

theorem np_swg_at {k : Nat → Prop} {x : Int32} : ∀ {tgts : List Nat} {lo : Int} (_ : np_swg k tgts lo x) (j : Nat) (t : Nat), tgts[j]? = some t → x.toInt = lo + j → k t := by
  intro tgts
  induction tgts with
  | nil => intro lo h j t hj; simp at hj
  | cons a r ih =>
    intro lo h j t hj hx
    obtain ⟨h1, h2⟩ := h
    cases j with
    | zero =>
      rw [List.getElem?_cons_zero] at hj
      cases hj
      exact h1 (by simpa using hx)
    | succ j =>
      rw [List.getElem?_cons_succ] at hj
      exact ih h2 j t hj (by rw [hx]; omega)

theorem np_s_tsw {X : np_Ctx} {pc : Nat} {own : String} {cc : ByteArray} {nL RF RL RC RS : Nat} {rI : Instr} (hX : np_ok own cc nL RF RL RC RS rI X) {dflt lo hi : Int} {offs : Array Int} {len : Nat} {tgts : List Nat} {td : Nat} (d : decode cc pc = .ok (.tableswitch dflt lo hi offs, len)) (hd : (pc : Int) + dflt = (td : Int)) (ho : offs.toList.map (fun o => (pc : Int) + o) = tgts.map (fun (t : Nat) => (t : Int))) (hh : hi = lo + ((tgts.length : Nat) : Int) - 1) : np_S X pc (np_tsw lo hi tgts td) := by
  obtain ⟨⟨p, l, e, R, s, m, args, below, meth, c⟩, ⟨Q, D, cA, A, ad0, n0, nL'⟩, Rt, Th⟩ := X
  obtain ⟨hx, hb, hml, rfl, hown, hsd, hK, hA, hRF, hRL, hRC, hRS, hret, hlt, hzq, hth⟩ := hX
  intro k hk L st w ce sl hop H locs ad ls hl hp
  unfold np_tsw at hop
  split at hop
  · rename_i x r
    by_cases hq : x.toInt < lo ∨ hi < x.toInt
    · exact lv_tableOut hx hb d hq hd (hk _ _ _ _ _ _ (hop.1 hq) H locs ad ls hl (hp.to hp.2.1 (np_c_tl hp.2.2.1)))
    · have h1 : ¬ x.toInt < lo := fun z => hq (Or.inl z)
      have h2 : ¬ hi < x.toInt := fun z => hq (Or.inr z)
      have hlen : offs.toList.length = tgts.length := by
        have := congrArg List.length ho
        simpa using this
      have hj : (x.toInt - lo).toNat < tgts.length := by omega
      have ht : tgts[(x.toInt - lo).toNat]? = some tgts[(x.toInt - lo).toNat] := List.getElem?_eq_getElem hj
      have hj2 : (x.toInt - lo).toNat < offs.toList.length := by rw [hlen]; exact hj
      have hof : offs.toList[(x.toInt - lo).toNat]? = some offs.toList[(x.toInt - lo).toNat] := List.getElem?_eq_getElem hj2
      have he : (pc : Int) + offs.toList[(x.toInt - lo).toNat] = ((tgts[(x.toInt - lo).toNat] : Nat) : Int) := by
        have h9 := congrArg (fun z => z[(x.toInt - lo).toNat]?) ho
        simp only [List.getElem?_map, hof, ht, Option.map_some] at h9
        exact Option.some.inj h9
      exact lv_tableIn hx hb d h1 h2 (by rw [← Array.getElem?_toList]; exact hof) he (hk _ _ _ _ _ _ (np_swg_at hop.2 _ _ ht (by omega)) H locs ad ls hl (hp.to hp.2.1 (np_c_tl hp.2.2.1)))
  · exact absurd hop id

theorem np_s_ret {X : np_Ctx} {pc : Nat} {own : String} {cc : ByteArray} {nL RF RL RC RS : Nat} {rI : Instr} (hX : np_ok own cc nL RF RL RC RS rI X) (d : decode cc pc = .ok (rI, 1)) : np_S X pc (np_ret X.2.2.1) := by
  obtain ⟨⟨p, l, e, R, s, m, args, below, meth, c⟩, ⟨Q, D, cA, A, ad0, n0, nL'⟩, Rt, Th⟩ := X
  obtain ⟨hx, hb, hml, rfl, hown, hsd, hK, hA, hRF, hRL, hRC, hRS, hret, hlt, hzq, hth⟩ := hX
  intro k hk L st w ce sl hop H locs ad ls hl hp
  exact hret st w ce sl hop pc H locs ad ls d (hp.to (fun _ h => nomatch h) hp.2.2.1)

def np_throw (Th : np_Th) (i : Nat) : np_Op := fun _ _ _ st w ce sl => (st.map fun v => v.category).sum ≤ 8 ∧ Th i w ce sl
theorem np_s_throw {X : np_Ctx} {pc : Nat} {own : String} {cc : ByteArray} {nL RF RL RC RS : Nat} {rI : Instr} (hX : np_ok own cc nL RF RL RC RS rI X) {i : Nat} (d : np_tw own cc i pc) : np_S X pc (np_throw X.2.2.2 i) := by
  obtain ⟨⟨p, l, e, R, s, m, args, below, meth, c⟩, ⟨Q, D, cA, A, ad0, n0, nL'⟩, Rt, Th⟩ := X
  obtain ⟨hx, hb, hml, rfl, hown, hsd, hK, hA, hRF, hRL, hRC, hRS, hret, hlt, hzq, hth⟩ := hX
  intro k hk L st w ce sl hop H locs ad ls hl hp
  exact hth i w ce sl hop.2 pc st H locs ad ls d hl.1 hop.1 (hp.to (fun _ h => nomatch h) (fun _ h => nomatch h))
