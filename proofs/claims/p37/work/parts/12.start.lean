/-! From the law's entry: what stands there in the words of the abstract machine. -/
def np_cA (s : State) : FieldType → ClassId := fun ty => (s.vm.findClass ("[" ++ ty.toString)).getD 0
theorem np_cA_prim {s : State} {args : Array Value} {ty : FieldType} (h : (Cond.arrayClass ty).before args s = true) (hr : ∀ C, ty ≠ .object C) : ArrOfT s (np_cA s ty) ty ∧ va_RA s (np_cA s ty) ty := by
  obtain ⟨c, k, comp, h1, h2, h3⟩ := Cond.arrayClass_spec h
  have hc : np_cA s ty = c := by unfold np_cA; rw [h1]; rfl
  rw [hc]
  refine ⟨fun n z => ⟨(fun k h => by cases h), k, h2, comp, h3⟩, ?_⟩
  cases ty <;> first | exact h1 | exact absurd rfl (hr _)
theorem np_cA_obj {s : State} {args : Array Value} {C : String} (h : (Cond.arrayOver (.object C)).before args s = true) : ArrOfT s (np_cA s (.object C)) (.object C) ∧ va_RA s (np_cA s (.object C)) (.object C) := by
  obtain ⟨comp, c, k, h1, h2, h3, h4, h5⟩ := Cond.arrayOver_spec h
  have hc : np_cA s (.object C) = c := by unfold np_cA; rw [h5]; rfl
  rw [hc]
  exact ⟨fun n z => ⟨(fun k h => by cases h), k, h3, comp, h4⟩, k, comp, h3, h4, h1, h5⟩
/-- the words of the tables at any state: from their truth at the law's start -/
theorem np_sd_of {args : Array Value} {s : State} (hts : ∀ w ∈ lw_tbl, w.before args s = true) (hao : ∀ C ∈ np_ao, Cond.arrayOver (.object C) ∈ lw_tbl) (hnc : ∀ q ∈ np_ncs, (Cond.not (.castable q.1 q.2)).before args s = true) (hst : ∀ own k tx, Cond.stringRef own k tx ∈ lw_tbl → (Cond.exactly (.string own k) "java/lang/String").before args s = true) : np_sd s := by
  refine ⟨fun w hw => np_good (State.WarmedH.refl s) (List.mem_filter.mp hw).2 (hts w (List.mem_filter.mp hw).1), fun w hw => ?_, fun C hC => va_AO.of (hts _ (hao C hC)), fun q hq => va_Nc.of (hnc q hq), fun own k tx hq => ?_⟩
  · have h1 := hts w (List.mem_filter.mp hw).1
    have h2 := (List.mem_filter.mp hw).2
    cases w <;> first | (simp [np_isNest] at h2; done) | exact va_Nw.of rfl h1
  · obtain ⟨a, c, cell, k9, h1, -⟩ := Cond.exactly_spec (hst own k tx hq)
    exact ⟨a, vk_R.of (hts _ hq) (by rw [← h1])⟩
def np_sld (Ls : Nat) (xs : Nat → Int32) : np_Op := fun k pc L st w ce sl => match st with
  | .int i :: .ref a :: r => a = 0 ∧ vp_in i Ls ∧ k (pc + 1) L (.int (xs i.toNatClampNeg) :: r) w ce sl
  | _ => False
def np_slen (Ls : Nat) : np_Op := fun k pc L st w ce sl => match st with
  | .ref a :: r => a = 0 ∧ k (pc + 1) L (.int (Int32.ofNat Ls) :: r) w ce sl
  | _ => False
/-- the script lies at place 0, outside the worlds -/
def np_lf (Ls : Nat) (xs : Nat → Int32) : np_Ctx → Prop
  | ((_, _, _, _, s, _, _, _, _, _), (_, _, _, A, ad0, n0, _), _, _) => va_X (ad0 0) Ls xs s s.heap ∧ ad0 0 < s.heap.size ∧ ¬ A (ad0 0) ∧ 0 < n0
theorem np_s_sld {X : np_Ctx} {pc : Nat} {own : String} {cc : ByteArray} {nL RF RL RC RS : Nat} {rI : Instr} (hX : np_ok own cc nL RF RL RC RS rI X) {Ls : Nat} {xs : Nat → Int32} (hf : np_lf Ls xs X) (d : decode cc pc = .ok (.iaload, 1)) : np_S X pc (np_sld Ls xs) := by
  obtain ⟨⟨p, l, e, R, s, m, args, below, meth, c⟩, ⟨Q, D, cA, A, ad0, n0, nL'⟩, Rt, Th⟩ := X
  obtain ⟨hx, hb, hml, rfl, hown, hsd, hK, hA, hRF, hRL, hRC, hRS, hret, hlt, hzq, hth⟩ := hX
  obtain ⟨f1, f2, f3, f4⟩ := hf
  intro k hk L st w ce sl hop H locs ad ls hl hp
  unfold np_sld at hop
  split at hop
  · rename_i i a r
    obtain ⟨rfl, hin, hop⟩ := hop
    have h0 : ad 0 = ad0 0 := hp.2.2.2.2.1 0 f4
    show W p l e R s m args below meth c H locs ce sl Q (F0 m pc ls (.int i :: .ref (ad 0) :: r.map (np_v ad)))
    rw [h0]
    exact va_sld hx hb f1 f2 f3 hp.2.2.2.1 hin d (hk _ _ _ _ _ _ hop H locs ad ls hl (hp.to hp.2.1 (np_c_cons trivial (np_c_tl (np_c_tl hp.2.2.1)))))
  · exact absurd hop id
theorem np_s_slen {X : np_Ctx} {pc : Nat} {own : String} {cc : ByteArray} {nL RF RL RC RS : Nat} {rI : Instr} (hX : np_ok own cc nL RF RL RC RS rI X) {Ls : Nat} {xs : Nat → Int32} (hf : np_lf Ls xs X) (d : decode cc pc = .ok (.arraylength, 1)) : np_S X pc (np_slen Ls) := by
  obtain ⟨⟨p, l, e, R, s, m, args, below, meth, c⟩, ⟨Q, D, cA, A, ad0, n0, nL'⟩, Rt, Th⟩ := X
  obtain ⟨hx, hb, hml, rfl, hown, hsd, hK, hA, hRF, hRL, hRC, hRS, hret, hlt, hzq, hth⟩ := hX
  obtain ⟨f1, f2, f3, f4⟩ := hf
  intro k hk L st w ce sl hop H locs ad ls hl hp
  unfold np_slen at hop
  split at hop
  · rename_i a r
    obtain ⟨rfl, hop⟩ := hop
    have h0 : ad 0 = ad0 0 := hp.2.2.2.2.1 0 f4
    show W p l e R s m args below meth c H locs ce sl Q (F0 m pc ls (.ref (ad 0) :: r.map (np_v ad)))
    rw [h0]
    exact va_slen hx hb f1 f2 f3 hp.2.2.2.1 d (hk _ _ _ _ _ _ hop H locs ad ls hl (hp.to hp.2.1 (np_c_cons trivial (np_c_tl hp.2.2.1))))
  · exact absurd hop id
/-- fewer things known of the world -/
theorem np_weak {X : np_Ctx} {pc : Nat} {L : np_L} {st : List Value} {w : np_W} {f : Nat → Option np_E} {ce sl : Nat} (hf : ∀ k e, f k = some e → w.2 k = some e) (h : np_G X pc L st (w.1, f) ce sl) : np_G X pc L st w ce sl := by
  obtain ⟨⟨p, l, e, R, s, m, args, below, meth, c⟩, ⟨Q, D, cA, A, ad0, n0, nL'⟩, Rt, Th⟩ := X
  intro H locs ad ls hl hp
  exact h H locs ad ls hl ⟨⟨fun k e hk => hp.1.1 k e (hf k e hk), fun j k e e' hj hk => hp.1.2 j k e e' (hf j e hj) (hf k e' hk)⟩, hp.2⟩
/-- the law's walk, from its entry -/
theorem np_start {p : Program} {e : Env} {s : State} {m : MethodId} {below : List Frame} {meth : Method} {c : Code} {l : Launch} (hlt : l.stackTraces = false) {b L : Nat} {xs : Nat → Int32} (C0 : lw_At p s m meth c b L xs) {D : va_G}
    (hsd : np_sd s) (hK : va_K D vwCl (np_tys.map fun ty => (np_cA s ty, ty)) s) (hzq : np_zq (fun q : Nat => s.heap.size ≤ q) s)
    (body : ∀ X : np_Ctx, np_ok R_law code 1 15 670 600074 7301550 .ireturn X → np_lf L xs X → X.2.2.1 = (fun st _ ce sl => st = [.int 1] ∧ ce ≤ 600074 ∧ sl ≤ 7301550) → np_G X 0 [(0, .ref 0)] [] (1, fun _ => none) 0 0) :
    W p l e room_1 s m #[Value.ref b] below meth c s.heap [] 0 0 (lw_Z below #[Value.ref b] s) (entryFrame m ([Value.ref b] : List Value).toArray 1) := by
  obtain ⟨hx, hb, hr, hml, hown, hts, hX, hbl, hlocks, hgv⟩ := id C0
  have hbA : ¬ (fun q : Nat => s.heap.size ≤ q) b := Nat.not_le.mpr hbl
  have hl := lv_entry ([.ref b]) (n := 1) (Nat.le_of_ble_eq_true rfl)
  rw [lg_entry_eq]
  generalize (lg_sl ([.ref b]) ++ List.replicate (1 - (lg_sl ([.ref b])).length) Slot.unset).toArray = ls at hl ⊢
  have hl : lv_has ls 1 [(0, .ref b)] := hl
  have hG := body ((p, l, e, room_1, s, m, #[Value.ref b], below, meth, c), (lw_Z below #[Value.ref b] s, D, np_cA s, fun q : Nat => s.heap.size ≤ q, fun _ => b, 1, 1), (fun st _ ce sl => st = [.int 1] ∧ ce ≤ 600074 ∧ sl ≤ 7301550), fun _ _ _ _ => False)
    ⟨hx, hb, hml, rfl, hown, hsd, hK, fun _ h => h, Nat.le_refl _, Nat.le_refl _, Nat.le_refl _, Nat.le_refl _, ?_, hlt, hzq, fun _ _ _ _ h => absurd h id⟩ ⟨hX, hbl, hbA, Nat.one_pos⟩ rfl
  · exact hG s.heap [] (fun _ => b) ls hl ⟨⟨(fun k e h => nomatch h), (fun j k e e' h => nomatch h)⟩, (fun q hq => by
      rw [List.mem_singleton.mp hq]
      exact Nat.one_pos), (fun _ h => nomatch h), va_S.rf, fun _ _ => rfl, Nat.le_refl _⟩
  · intro st w ce sl h pc H locs ad ls' hd hp
    obtain ⟨rfl, h2, h3⟩ := h
    refine va_forget (fun q hq => hp.2.2.2.1.2.2 q hq) ?_
    refine W.widen (k := 600074) (n := 7301550) h2 h3 ?_
    exact lw_ret hx hb hr hlocks hd
