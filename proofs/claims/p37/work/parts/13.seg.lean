/-! Worlds as lists; runs from point to point; forgetting. -/
def np_wl : List (Nat × np_E) → Nat → Option np_E
  | [], _ => none
  | (j, e) :: r, k => match Nat.beq j k with
    | true => some e
    | false => np_wl r k
def np_all (f : Nat → Option np_E) : List (Nat × np_E) → Prop
  | [] => True
  | (k, e) :: r => f k = some e ∧ np_all f r
theorem np_all_sub {f : Nat → Option np_E} {l : List (Nat × np_E)} (h : np_all f l) : ∀ k e, np_wl l k = some e → f k = some e := by
  induction l with
  | nil => intro k e hk; cases hk
  | cons q r ih =>
    obtain ⟨j, x⟩ := q
    intro k e hk
    unfold np_wl at hk
    by_cases hj : j = k
    · rw [np_beq hj] at hk
      cases hk
      subst hj
      exact h.1
    · rw [np_bne hj] at hk
      exact ih h.2 k e hk
/-- the state at a point of a run -/
def np_at (L : np_L) (st : List Value) (n : Nat) (l : List (Nat × np_E)) (ce sl : Nat) : np_K := fun _ L' st' w' ce' sl' => L' = L ∧ st' = st ∧ w'.1 = n ∧ ce' = ce ∧ sl' = sl ∧ np_all w'.2 l
/-- a run from a point to the next one -/
theorem np_seg {X : np_Ctx} {is : List (Nat × np_Op)} (his : ∀ q ∈ is, np_S X q.1 q.2) {h pc fuel : Nat} {L L1 : np_L} {st st1 : List Value} {w : np_W} {n1 : Nat} {l1 : List (Nat × np_E)} {ce sl ce1 sl1 : Nat} (hk : np_G X h L1 st1 (n1, np_wl l1) ce1 sl1)
    (hr : np_runF is [h] (fun pc L st w ce sl => pc = h ∧ np_at L1 st1 n1 l1 ce1 sl1 pc L st w ce sl) fuel pc L st w ce sl) : np_G X pc L st w ce sl :=
  np_soundF his (heads := [h]) (Hd := fun pc L st w ce sl => pc = h ∧ np_at L1 st1 n1 l1 ce1 sl1 pc L st w ce sl) (fun pc L st w ce sl hq => by
    obtain ⟨n, f⟩ := w
    obtain ⟨rfl, rfl, rfl, h3, rfl, rfl, h6⟩ := hq
    have h3 : n = n1 := h3
    subst h3
    exact np_weak (np_all_sub h6) hk) fuel pc L st w ce sl hr
/-- .. to its end -/
theorem np_fin {X : np_Ctx} {is : List (Nat × np_Op)} (his : ∀ q ∈ is, np_S X q.1 q.2) (fuel : Nat) {pc : Nat} {L : np_L} {st : List Value} {w : np_W} {ce sl : Nat} (hr : np_run is [] (fun _ _ _ _ _ _ => False) fuel pc L st w ce sl) : np_G X pc L st w ce sl :=
  np_sound his (heads := []) (Hd := fun _ _ _ _ _ _ => False) (fun _ _ _ _ _ _ h => h.elim) fuel pc L st w ce sl hr
theorem np_O.less {D : va_G} {cA : FieldType → ClassId} {A : Nat → Prop} {ad : Nat → Nat} {w : np_W} {H : Heap} (h : np_O D cA A ad w H) {n : Nat} {f : Nat → Option np_E} (hf : ∀ k e, f k = some e → w.2 k = some e ∧ np_ce n e ∧ k < n) : np_O D cA A ad (n, f) H :=
  ⟨fun k e hk => ⟨(h.1 k e (hf k e hk).1).1, (h.1 k e (hf k e hk).1).2.1, (hf k e hk).2.1, (h.1 k e (hf k e hk).1).2.2.2.1, (hf k e hk).2.2⟩, fun j k e e' hj hk => h.2 j k e e' (hf j e hj).1 (hf k e' hk).1⟩
/-- a constructor whose own cells nobody looks at: the place of its object is forgotten, and all that it made -/
def np_drop (f : Nat → Option np_E) (k : Nat) : Nat → Option np_E := fun j => if j = k then none else f j
def np_spF (e0 : np_E) : np_Sp := fun vs w Q => match vs with
  | [.ref k] => w.2 k = some e0 ∧ Q none (w.1, np_drop w.2 k)
  | _ => False
theorem np_finF {X : np_Ctx} {is : List (Nat × np_Op)} (his : ∀ q ∈ is, np_S X q.1 q.2) (fuel : Nat) {pc : Nat} {L : np_L} {st : List Value} {w : np_W} {ce sl : Nat} (hr : np_runF is [] (fun _ _ _ _ _ _ => False) fuel pc L st w ce sl) : np_G X pc L st w ce sl :=
  np_soundF his (heads := []) (Hd := fun _ _ _ _ _ _ => False) (fun _ _ _ _ _ _ h => h.elim) fuel pc L st w ce sl hr
/-- the contract of such a constructor, from its run: the world at its end still holds the other cells -/
theorem np_ofF {y : MethodName} {cc : ByteArray} {maxL fr lo mc ms : Nat} {e0 : np_E} (hy : plainName y.cls = true)
    (body : ∀ (X : np_Ctx) (k : Nat) (w : np_W), w.2 k = some e0 → k < w.1 → (∀ j e, w.2 j = some e → j < w.1) → np_ok y.cls cc maxL fr lo mc ms .return_ X → np_mn X = y.name → X.2.2.1 = (fun st w' ce sl => ce ≤ mc ∧ sl ≤ ms ∧ st = [] ∧ ∀ j e, j ≠ k → w.2 j = some e → w'.2 j = some e) → np_G X 0 [(0, .ref k)] [] w 0 0) : np_C y cc maxL none fr lo mc ms (np_spF e0) := by
  intro l hlt D cA ad w vs sz Q hcat hsp
  refine Met.ofW (cc := cc) (maxL := maxL) (ret := none) hy rfl ?_
  intro p e s m args below meth c s₁ B hml hv
  obtain ⟨rfl, hsz, hO, hcv, hK, hsd, hzq⟩ := hv
  subst hsz
  unfold np_spF at hsp
  split at hsp
  · rename_i k
    obtain ⟨hk0, hsp⟩ := hsp
    have hlen : (lg_sl (([Value.ref k] : List Value).map (np_v ad))).length ≤ maxL := by rw [np_lgsl_len, np_cat_sum]; exact hcat
    have hl := lv_entry (([Value.ref k] : List Value).map (np_v ad)) (n := maxL) hlen
    rw [lg_entry_eq]
    generalize (lg_sl (([Value.ref k] : List Value).map (np_v ad)) ++ List.replicate (maxL - (lg_sl (([Value.ref k] : List Value).map (np_v ad))).length) Slot.unset).toArray = ls at hl ⊢
    rw [np_args_map] at hl
    have hr := B.returns
    have hA : ∀ q, s.heap.size ≤ q → np_A ad w s.heap.size q := fun q hq => Or.inr hq
    have hG := body ((p, l, e, { frames := fr, cells := mc, slots := ms, locals := lo }, s, m, (([Value.ref k] : List Value).map (np_v ad)).toArray, below, meth, c), (MQ below (np_Qc D cA ad w s.heap.size Q) (([Value.ref k] : List Value).map (np_v ad)).toArray s mc ms (np_A ad w s.heap.size), D, cA, np_A ad w s.heap.size, ad, w.1, maxL), (fun st w' ce sl => ce ≤ mc ∧ sl ≤ ms ∧ st = [] ∧ ∀ j e, j ≠ k → w.2 j = some e → w'.2 j = some e), fun _ _ _ _ => False) k w hk0 (hcv _ List.mem_cons_self) (fun j e h => (hO.1 j e h).2.2.2.2)
      ⟨B.exec, B.bytes, hml, rfl, findClass_of_methodNamed B.named, hsd, hK, hA, Nat.le_refl _, Nat.le_refl _, Nat.le_refl _, Nat.le_refl _, ?_, hlt, hzq, fun _ _ _ _ h => absurd h id⟩ (name_of_methodNamed B.named B.method).1 rfl
    · exact hG s.heap [] ad ls hl ⟨hO.weaken (fun k e hk _ => Or.inl ⟨k, e, hk, rfl⟩), np_args_c [Value.ref k] 0 hcv, (fun _ h => nomatch h), va_S.rf, fun _ _ => rfl, Nat.le_refl _⟩
    · intro st w' ce sl hrt pc H locs ad' ls' hd hp
      obtain ⟨h1, h2, rfl, h4⟩ := hrt
      refine W.widen (k := mc) (n := ms) h1 h2 ?_
      have hlocks := B.notSynchronized
      refine W.vret B.exec B.bytes hr (fun t ht hW => ?_) hp.2.2.2.1.2.2 hd
      refine ⟨⟨none, (w.1, np_drop w.2 k), ad', rfl, hsp, ?_, (fun _ h => nomatch h), Nat.le_refl _, hp.2.2.2.2.1⟩, hp.2.2.2.1.F ht⟩
      rw [ht]
      refine hp.1.less (fun j e9 hj => ?_)
      have hj' : j ≠ k ∧ w.2 j = some e9 := by
        unfold np_drop at hj
        by_cases hjk : j = k
        · rw [if_pos hjk] at hj; cases hj
        · rw [if_neg hjk] at hj; exact ⟨hjk, hj⟩
      exact ⟨h4 j e9 hj'.1 hj'.2, (hO.1 j e9 hj'.2).2.2.1, (hO.1 j e9 hj'.2).2.2.2.2⟩
  · exact absurd hsp id
def np_mm (RC RS : Nat) : np_Op := fun k pc L st w ce sl => match st with
  | .int y :: .int x :: r => (r.map fun v => v.category).sum ≤ 7 ∧ ce ≤ RC ∧ sl ≤ RS ∧ k (pc + 3) L (.int (if y < x then y else x) :: r) w ce sl
  | _ => False
theorem np_s_mmin {X : np_Ctx} {pc : Nat} {own : String} {cc : ByteArray} {nL RF RL RC RS : Nat} {rI : Instr} (hX : np_ok own cc nL RF RL RC RS rI X) {ix : Nat} (d : decode cc pc = .ok (.invokestatic ix, 3)) (w1 : Cond.methodLink own ix Lib.Math.min.name ∈ np_gw) (w2 : Cond.static Lib.Math.min.name ∈ np_gw) (w3 : Cond.initialized "java/lang/Math" ∈ np_gw) (w4 : Cond.code Lib.Math.min.name Lib.Math.min.code 2 (some .int) ∈ np_gw) (h1 : 1 ≤ RF) (h2 : 20 ≤ RL) : np_S X pc (np_mm RC RS) := by
  obtain ⟨⟨p, l, e, R, s, m, args, below, meth, c⟩, ⟨Q, D, cA, A, ad0, n0, nL'⟩, Rt, Th⟩ := X
  obtain ⟨hx, hb, hml, rfl, hown, hsd, hK, hA, hRF, hRL, hRC, hRS, hret, hlt, hzq, hth⟩ := hX
  intro k hk L st w ce sl hop H locs ad ls hl hp
  unfold np_mm at hop
  split at hop
  · rename_i y x r
    obtain ⟨g1, g2, g3, hop⟩ := hop
    have hts := np_hts hsd args
    exact va_mmin hx hb (hml.trans hl.1.symm) hown (hts _ w1) (hts _ w2) (hts _ w3) (hts _ w4) (Nat.le_trans h1 hRF) (by rw [np_cat_sum]; omega) (Nat.le_trans g2 hRC) (Nat.le_trans g3 hRS) d (hk _ _ _ _ _ _ hop H locs ad ls hl (hp.to hp.2.1 (np_c_cons trivial (np_c_tl (np_c_tl hp.2.2.1)))))
  · exact absurd hop id
theorem np_up_up {α : Type} (f : Nat → Option α) (k : Nat) (x y : α) : np_up (np_up f k x) k y = np_up f k y := by
  funext j
  by_cases h : j = k
  · subst h; rw [np_up_s, np_up_s]
  · rw [np_up_n _ _ h, np_up_n _ _ h, np_up_n _ _ h]
theorem np_up_get {α : Type} {f : Nat → Option α} {k : Nat} {x : α} (h : f k = some x) : np_up f k x = f := by
  funext j
  by_cases hj : j = k
  · subst hj; rw [np_up_s, h]
  · rw [np_up_n _ _ hj]
/-! Steps at cells that are known by a hypothesis. -/
section
variable {k : np_K} {pc : Nat} {L : np_L} {r : List Value} {w : np_W} {ce sl a : Nat}
theorem np_alen_i {t : FieldType} {n : Nat} {x} (h : w.2 a = some (.inl (t, n, x))) (kk : k (pc + 1) L (.int (Int32.ofNat n) :: r) w ce sl) : np_alen k pc L (.ref a :: r) w ce sl := by
  unfold np_alen
  dsimp only
  rw [h]
  exact kk
theorem np_ialdT_i {ty : FieldType} {n : Nat} {f : Nat → Int32} {i : Int32} (h : w.2 a = some (.inl (ty, n, .inl f))) (hi : vp_in i n) (kk : k (pc + 1) L (.int (f i.toNatClampNeg) :: r) w ce sl) : np_ialdT ty k pc L (.int i :: .ref a :: r) w ce sl := by
  unfold np_ialdT
  dsimp only
  rw [h]
  exact ⟨rfl, hi, kk⟩
theorem np_iastT_i {ty : FieldType} {n : Nat} {f : Nat → Int32} {i x : Int32} (h : w.2 a = some (.inl (ty, n, .inl f))) (hi : vp_in i n) (kk : k (pc + 1) L r (w.1, np_up w.2 a (.inl (ty, n, .inl (upd f i.toNatClampNeg (vp_nar ty x))))) ce sl) : np_iastT ty k pc L (.int x :: .int i :: .ref a :: r) w ce sl := by
  unfold np_iastT
  dsimp only
  rw [h]
  exact ⟨rfl, hi, kk⟩
theorem np_getf_i {ci j : Nat} {fs : List Value} {v : Value} (h : w.2 a = some (.inr (ci, fs))) (hj : fs[j]? = some v) (kk : k (pc + 3) L (v :: r) w ce sl) : np_getf ci j k pc L (.ref a :: r) w ce sl := by
  unfold np_getf
  dsimp only
  rw [h]
  dsimp only
  rw [hj]
  exact ⟨rfl, kk⟩
theorem np_putf_i {ci j : Nat} {ty : FieldType} {fs : List Value} {v : Value} (h : w.2 a = some (.inr (ci, fs))) (hn : narrow ty v = v) (hf : fits ty v = true) (hj : j < fs.length) (kk : k (pc + 3) L r (w.1, np_up w.2 a (.inr (ci, fs.set j v))) ce sl) : np_putf ci j ty k pc L (v :: .ref a :: r) w ce sl := by
  unfold np_putf
  dsimp only
  rw [h]
  exact ⟨rfl, hn, hf, hj, by rw [np_fl_eq]; exact kk⟩
end
/-- the same from a run over the object alone: all other cells are the frame -/
theorem np_ofFrame {y : MethodName} {cc : ByteArray} {maxL fr lo mc ms : Nat} {e0 : np_E} (hy : plainName y.cls = true) (hc0 : ∀ (ad ad' : Nat → Nat) (cA : FieldType → ClassId), np_e cA ad e0 = np_e cA ad' e0) (hc1 : ∀ n, np_ce n e0) (hmx : 1 ≤ maxL)
    (body : ∀ (X : np_Ctx), np_ok y.cls cc maxL fr lo mc ms .return_ X → np_mn X = y.name → X.2.2.1 = (fun st _ ce sl => ce ≤ mc ∧ sl ≤ ms ∧ st = []) → np_G X 0 [(0, .ref 0)] [] (1, np_wl [(0, e0)]) 0 0) : np_C y cc maxL none fr lo mc ms (np_spF e0) := by
  intro l hlt D cA ad w vs sz Q hcat hsp
  refine Met.ofW (cc := cc) (maxL := maxL) (ret := none) hy rfl ?_
  intro p e s m args below meth c s₁ B hml hv
  obtain ⟨rfl, hsz, hO, hcv, hK, hsd, hzq⟩ := hv
  subst hsz
  unfold np_spF at hsp
  split at hsp
  · rename_i k
    obtain ⟨hk0, hsp⟩ := hsp
    have hl := lv_entry ([.ref (ad k)]) (n := maxL) hmx
    show W p l e _ s m _ below meth c s.heap [] 0 0 _ (entryFrame m ([Value.ref (ad k)] : List Value).toArray maxL)
    rw [lg_entry_eq]
    generalize (lg_sl ([.ref (ad k)]) ++ List.replicate (maxL - (lg_sl ([.ref (ad k)])).length) Slot.unset).toArray = ls at hl ⊢
    have hl : lv_has ls maxL [(0, .ref (ad k))] := hl
    have hr := B.returns
    obtain ⟨hk1, hk2⟩ := hO.1 k e0 hk0
    have hsub : ∀ q, (q = ad k ∨ s.heap.size ≤ q) → np_A ad w s.heap.size q := fun q hq => by
      rcases hq with rfl | hq
      · exact Or.inl ⟨k, e0, hk0, rfl⟩
      · exact Or.inr hq
    have hG := body ((p, l, e, { frames := fr, cells := mc, slots := ms, locals := lo }, s, m, (([Value.ref k] : List Value).map (np_v ad)).toArray, below, meth, c), (MQ below (np_Qc D cA ad w s.heap.size Q) (([Value.ref k] : List Value).map (np_v ad)).toArray s mc ms (np_A ad w s.heap.size), D, cA, fun q => q = ad k ∨ s.heap.size ≤ q, fun _ => ad k, 1, maxL), (fun st _ ce sl => ce ≤ mc ∧ sl ≤ ms ∧ st = []), fun _ _ _ _ => False)
      ⟨B.exec, B.bytes, hml, rfl, findClass_of_methodNamed B.named, hsd, hK, fun q hq => Or.inr hq, Nat.le_refl _, Nat.le_refl _, Nat.le_refl _, Nat.le_refl _, ?_, hlt, ⟨hzq.1.narrow hsub, hzq.2.narrow hsub⟩, fun _ _ _ _ h => absurd h id⟩ (name_of_methodNamed B.named B.method).1 rfl
    · have hw : ∀ j e9, np_wl [(0, e0)] j = some e9 → j = 0 ∧ e9 = e0 := fun j e9 hj => by
        unfold np_wl at hj
        by_cases h0 : 0 = j
        · rw [np_beq h0] at hj; cases hj; exact ⟨h0.symm, rfl⟩
        · rw [np_bne h0] at hj; cases hj
      refine hG s.heap [] (fun _ => ad k) ls hl ⟨⟨fun j e9 hj => ?_, fun i j e9 e8 hi hj _ => ?_⟩, fun q hq => ?_, (fun _ h => nomatch h), va_S.rf, fun _ _ => rfl, Nat.le_refl _⟩
      · obtain ⟨rfl, rfl⟩ := hw j e9 hj
        exact ⟨by rw [hc0 (fun _ => ad k) ad cA]; exact hk1, Or.inl rfl, hc1 _, hk2.2.2.1, Nat.one_pos⟩
      · rw [(hw i e9 hi).1, (hw j e8 hj).1]
      · rw [List.mem_singleton.mp hq]
        exact Nat.one_pos
    · intro st w' ce sl hrt pc H locs ad' ls' hd hp
      obtain ⟨h1, h2, rfl⟩ := hrt
      refine W.widen (k := mc) (n := ms) h1 h2 ?_
      have hlocks := B.notSynchronized
      have hS := hp.2.2.2.1
      refine W.vret B.exec B.bytes hr (fun t ht hW => ?_) (fun q hq => hsub _ (hS.2.2 q hq)) hd
      have hF : ∀ q, q < s.heap.size → q ≠ ad k → H[q]? = s.heap[q]? := fun q g1 g2 => hS.2.1 q g1 (fun h => h.elim g2 (fun z => absurd z (Nat.not_le.mpr g1)))
      refine ⟨⟨none, (w.1, np_drop w.2 k), ad, rfl, hsp, ?_, (fun _ h => nomatch h), Nat.le_refl _, fun _ _ => rfl⟩, ⟨by rw [ht]; exact hS.1, fun q g1 g2 => by rw [ht]; exact hF q g1 (fun z => g2 (hsub q (Or.inl z)))⟩⟩
      rw [ht]
      have hj' : ∀ j e9, np_drop w.2 k j = some e9 → j ≠ k ∧ w.2 j = some e9 := fun j e9 hj => by
        unfold np_drop at hj
        by_cases hjk : j = k
        · rw [if_pos hjk] at hj; cases hj
        · rw [if_neg hjk] at hj; exact ⟨hjk, hj⟩
      refine ⟨fun j e9 hj => ?_, fun i j e9 e8 hi hj => hO.2 i j e9 e8 (hj' i e9 hi).2 (hj' j e8 hj).2⟩
      obtain ⟨g1, g2⟩ := hj' j e9 hj
      obtain ⟨u1, u2, u3, u4, u5⟩ := hO.1 j e9 g2
      exact ⟨u1.kept (hF _ u1.lt (fun z => g1 (hO.2 j k e9 e0 g2 hk0 z))), Or.inl ⟨j, e9, g2, rfl⟩, u3, u4, u5⟩
  · exact absurd hsp id
theorem np_weak2 {X : np_Ctx} {pc : Nat} {L : np_L} {st : List Value} {n : Nat} {u f : Nat → Option np_E} {ce sl : Nat} (hf : ∀ k e, f k = some e → u k = some e) (h : np_G X pc L st (n, f) ce sl) : np_G X pc L st (n, u) ce sl := np_weak (w := (n, u)) hf h
