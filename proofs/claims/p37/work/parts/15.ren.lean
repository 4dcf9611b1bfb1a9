/-! A constructor's contract from a run over the object alone, with all that it made: the places of that run are read as the object's own and those behind the next one. -/
def np_rh (k n : Nat) : Nat → Nat
  | 0 => k
  | i + 1 => n + i
def np_rn (r : Nat → Nat) : np_E → np_E
  | .inl (ty, n, .inl f) => .inl (ty, n, .inl f)
  | .inl (ty, n, .inr (.inl f)) => .inl (ty, n, .inr (.inl f))
  | .inl (ty, n, .inr (.inr (.inl f))) => .inl (ty, n, .inr (.inr (.inl f)))
  | .inl (ty, n, .inr (.inr (.inr (.inl f)))) => .inl (ty, n, .inr (.inr (.inr (.inl f))))
  | .inl (ty, n, .inr (.inr (.inr (.inr f)))) => .inl (ty, n, .inr (.inr (.inr (.inr (fun i => (f i).map r)))))
  | .inr (ci, fs) => .inr (ci, fs.map (np_v r))
theorem np_v_v (a r : Nat → Nat) (v : Value) : np_v a (np_v r v) = np_v (fun i => a (r i)) v := by cases v <;> rfl
theorem np_e_rn (cA : FieldType → ClassId) (a r : Nat → Nat) (e : np_E) : np_e cA a (np_rn r e) = np_e cA (fun i => a (r i)) e := by
  rcases e with ⟨ty, k, f | f | f | f | f⟩ | ⟨ci, fs⟩
  · rfl
  · rfl
  · rfl
  · rfl
  · show Sum.inl (cA ty, k, Sum.inr (Sum.inr (Sum.inr (Sum.inr (fun i => ((f i).map r).map a))))) = Sum.inl (cA ty, k, Sum.inr (Sum.inr (Sum.inr (Sum.inr (fun i => (f i).map (fun i => a (r i)))))))
    have hf : (fun i => ((f i).map r).map a) = fun i => (f i).map (fun i => a (r i)) := by
      funext i
      cases f i <;> rfl
    rw [hf]
  · show Sum.inr (ci, (fs.map (np_v r)).map (np_v a)) = Sum.inr (ci, fs.map (np_v (fun i => a (r i))))
    rw [List.map_map]
    congr 2
    apply List.map_congr_left
    intro v _
    exact np_v_v a r v
theorem np_ce_rn {n m : Nat} {r : Nat → Nat} (h : ∀ i, i < n → r i < m) {e : np_E} (he : np_ce n e) : np_ce m (np_rn r e) := by
  rcases e with ⟨ty, k, f | f | f | f | f⟩ | ⟨ci, fs⟩
  · trivial
  · trivial
  · trivial
  · trivial
  · intro i k hk
    cases hi : f i with
    | none => simp only [hi] at hk; cases hk
    | some z =>
      simp only [hi] at hk
      cases hk
      exact h z (he i z hi)
  · intro v hv
    obtain ⟨u, hu, rfl⟩ := List.mem_map.mp hv
    have h9 := he u hu
    cases u <;> first | trivial | exact h _ h9
theorem np_te_rn {r : Nat → Nat} {e : np_E} (he : np_te e) : np_te (np_rn r e) := by
  rcases e with ⟨ty, k, f | f | f | f | f⟩ | ⟨ci, fs⟩ <;> exact he
def np_ren (k n : Nat) (g f : Nat → Option np_E) : Nat → Option np_E := fun j => match Nat.beq j k with
  | true => (g 0).map (np_rn (np_rh k n))
  | false => match Nat.blt j n with
    | true => f j
    | false => (g (j - n + 1)).map (np_rn (np_rh k n))
def np_spR (e0 : np_E) (M : Nat) (g : Nat → Option np_E) : np_Sp := fun vs w Q => match vs with
  | [.ref k] => w.2 k = some e0 ∧ np_force w.1 (fun n => Q none (n + M, np_ren k n g w.2))
  | _ => False
theorem np_ofRen {y : MethodName} {cc : ByteArray} {maxL fr lo mc ms M : Nat} {e0 : np_E} {g : Nat → Option np_E} (hy : plainName y.cls = true) (hc0 : ∀ (ad ad' : Nat → Nat) (cA : FieldType → ClassId), np_e cA ad e0 = np_e cA ad' e0) (hc1 : ∀ n, np_ce n e0) (hmx : 1 ≤ maxL) (hg0 : ∃ e, g 0 = some e)
    (body : ∀ (X : np_Ctx), np_ok y.cls cc maxL fr lo mc ms .return_ X → np_mn X = y.name → X.2.2.1 = (fun st w ce sl => ce ≤ mc ∧ sl ≤ ms ∧ st = [] ∧ w.1 = M + 1 ∧ ∀ k e, g k = some e → w.2 k = some e) → np_G X 0 [(0, .ref 0)] [] (1, np_wl [(0, e0)]) 0 0) : np_C y cc maxL none fr lo mc ms (np_spR e0 M g) := by
  intro l hlt D cA ad w vs sz Q hcat hsp
  refine Met.ofW (cc := cc) (maxL := maxL) (ret := none) hy rfl ?_
  intro p e s m args below meth c s₁ B hml hv
  obtain ⟨rfl, hsz, hO, hcv, hK, hsd, hzq⟩ := hv
  subst hsz
  unfold np_spR at hsp
  split at hsp
  · rename_i k
    obtain ⟨hk0, hsp⟩ := hsp
    rw [np_force_eq] at hsp
    have hl := lv_entry ([.ref (ad k)]) (n := maxL) hmx
    show W p l e _ s m _ below meth c s.heap [] 0 0 _ (entryFrame m ([Value.ref (ad k)] : List Value).toArray maxL)
    rw [lg_entry_eq]
    generalize (lg_sl ([.ref (ad k)]) ++ List.replicate (maxL - (lg_sl ([.ref (ad k)])).length) Slot.unset).toArray = ls at hl ⊢
    have hl : lv_has ls maxL [(0, .ref (ad k))] := hl
    have hr := B.returns
    obtain ⟨hk1, hk2⟩ := hO.1 k e0 hk0
    have hkn : k < w.1 := hk2.2.2.2
    have hsub : ∀ q, (q = ad k ∨ s.heap.size ≤ q) → np_A ad w s.heap.size q := fun q hq => by
      rcases hq with rfl | hq
      · exact Or.inl ⟨k, e0, hk0, rfl⟩
      · exact Or.inr hq
    have hG := body ((p, l, e, { frames := fr, cells := mc, slots := ms, locals := lo }, s, m, (([Value.ref k] : List Value).map (np_v ad)).toArray, below, meth, c), (MQ below (np_Qc D cA ad w s.heap.size Q) (([Value.ref k] : List Value).map (np_v ad)).toArray s mc ms (np_A ad w s.heap.size), D, cA, fun q => q = ad k ∨ s.heap.size ≤ q, fun _ => ad k, 1, maxL), (fun st w ce sl => ce ≤ mc ∧ sl ≤ ms ∧ st = [] ∧ w.1 = M + 1 ∧ ∀ k e, g k = some e → w.2 k = some e), fun _ _ _ _ => False)
      ⟨B.exec, B.bytes, hml, rfl, findClass_of_methodNamed B.named, hsd, hK, fun q hq => Or.inr hq, Nat.le_refl _, Nat.le_refl _, Nat.le_refl _, Nat.le_refl _, ?_, hlt, ⟨hzq.1.narrow hsub, hzq.2.narrow hsub⟩, fun _ _ _ _ h => absurd h id⟩ (name_of_methodNamed B.named B.method).1 rfl
    · have hw : ∀ j e9, np_wl [(0, e0)] j = some e9 → j = 0 ∧ e9 = e0 := fun j e9 hj => by
        unfold np_wl at hj
        by_cases h0 : 0 = j
        · rw [np_beq h0] at hj; cases hj; exact ⟨h0.symm, rfl⟩
        · rw [np_bne h0] at hj; cases hj
      refine hG s.heap [] (fun _ => ad k) ls hl ⟨⟨fun j e9 hj => ?_, fun i j e9 e8 hi hj _ => ?_⟩, fun q hq => ?_, (fun _ h => nomatch h), va_S.rf, fun _ _ => rfl, Nat.le_refl _⟩
      · obtain ⟨rfl, rfl⟩ := hw j e9 hj
        exact ⟨by rw [hc0 (fun _ => ad k) ad cA]; exact hk1, Or.inl rfl, hc1 _, hk2.2.2.1, Nat.one_pos⟩
      · rw [(hw i e9 hi).1, (hw j e8 hj).1]
      · rw [List.mem_singleton.mp hq]
        exact Nat.one_pos
    · intro st w' ce sl hrt pc H locs ad' ls' hd hp
      obtain ⟨h1, h2, rfl, hM, hg⟩ := hrt
      refine W.widen (k := mc) (n := ms) h1 h2 ?_
      have hlocks := B.notSynchronized
      have hS := hp.2.2.2.1
      refine W.vret B.exec B.bytes hr (fun t ht hW => ?_) (fun q hq => hsub _ (hS.2.2 q hq)) hd
      have hF : ∀ q, q < s.heap.size → q ≠ ad k → H[q]? = s.heap[q]? := fun q g1 g2 => hS.2.1 q g1 (fun h => h.elim g2 (fun z => absurd z (Nat.not_le.mpr g1)))
      have hO' := hp.1
      have ha0 : ad' 0 = ad k := hp.2.2.2.2.1 0 Nat.one_pos
      -- the addresses of the renamed places
      let ad2 : Nat → Nat := fun j => if j < w.1 then ad j else ad' (j - w.1 + 1)
      have hrh : ∀ i, ad2 (np_rh k w.1 i) = ad' i := by
        intro i
        cases i with
        | zero =>
          show (if k < w.1 then ad k else _) = _
          rw [if_pos hkn, ha0]
        | succ i =>
          show (if w.1 + i < w.1 then _ else ad' (w.1 + i - w.1 + 1)) = _
          rw [if_neg (by omega), Nat.add_sub_cancel_left]
      have hbd : ∀ i, i < M + 1 → np_rh k w.1 i < w.1 + M := by
        intro i hi
        cases i with
        | zero => exact Nat.lt_of_lt_of_le hkn (Nat.le_add_right _ _)
        | succ i => exact Nat.add_lt_add_left (Nat.lt_of_succ_lt_succ hi) _
      have hent : ∀ (i : Nat) (e9 : np_E), g i = some e9 → va_at D vwCl (ad' i, np_e cA ad2 (np_rn (np_rh k w.1) e9)) H ∧ (ad' i = ad k ∨ s.heap.size ≤ ad' i) ∧ np_ce (w.1 + M) (np_rn (np_rh k w.1) e9) ∧ np_te (np_rn (np_rh k w.1) e9) ∧ i < M + 1 := by
        intro i e9 hi
        obtain ⟨u1, u2, u3, u4, u5⟩ := hO'.1 i e9 (hg i e9 hi)
        rw [hM] at u3 u5
        refine ⟨?_, u2, np_ce_rn hbd u3, np_te_rn u4, u5⟩
        rw [np_e_rn, show (fun i => ad2 (np_rh k w.1 i)) = ad' from funext hrh]
        exact u1
      have key : ∀ (j : Nat) (e9 : np_E), np_ren k w.1 g w.2 j = some e9 → (∃ i e8, j = np_rh k w.1 i ∧ g i = some e8 ∧ e9 = np_rn (np_rh k w.1) e8) ∨ (j < w.1 ∧ j ≠ k ∧ w.2 j = some e9) := by
        intro j e9 hj
        unfold np_ren at hj
        by_cases hjk : j = k
        · rw [np_beq hjk] at hj
          dsimp only at hj
          obtain ⟨e8, h8, rfl⟩ := Option.map_eq_some_iff.mp hj
          exact Or.inl ⟨0, e8, hjk, h8, rfl⟩
        · rw [np_bne hjk] at hj
          dsimp only at hj
          by_cases hjn : j < w.1
          · rw [show Nat.blt j w.1 = true from Nat.ble_eq_true_of_le hjn] at hj
            exact Or.inr ⟨hjn, hjk, hj⟩
          · have hb : Nat.blt j w.1 = false := by
              cases hb : Nat.blt j w.1 with
              | false => rfl
              | true => exact absurd (Nat.le_of_ble_eq_true hb) hjn
            rw [hb] at hj
            dsimp only at hj
            obtain ⟨e8, h8, rfl⟩ := Option.map_eq_some_iff.mp hj
            refine Or.inl ⟨j - w.1 + 1, e8, ?_, h8, rfl⟩
            show j = w.1 + (j - w.1)
            omega
      obtain ⟨eg, hg0⟩ := hg0
      refine ⟨⟨none, (w.1 + M, np_ren k w.1 g w.2), ad2, rfl, hsp, ?_, (fun _ h => nomatch h), Nat.le_add_right _ _, fun j hj => if_pos hj⟩, ⟨by rw [ht]; exact hS.1, fun q g1 g2 => by rw [ht]; exact hF q g1 (fun z => g2 (hsub q (Or.inl z)))⟩⟩
      rw [ht]
      have hold : ∀ (j : Nat) (e9 : np_E), j < w.1 → j ≠ k → w.2 j = some e9 → va_at D vwCl (ad j, np_e cA ad2 e9) H ∧ ad j ≠ ad k ∧ ad j < s.heap.size := by
        intro j e9 g0 g1 g2
        obtain ⟨u1, u2, u3, u4, u5⟩ := hO.1 j e9 g2
        have hne : ad j ≠ ad k := fun z => g1 (hO.2 j k e9 e0 g2 hk0 z)
        refine ⟨?_, hne, u1.lt⟩
        rw [np_e.cong (n := w.1) (ad := ad) (fun i hi => if_pos hi) u3]
        exact u1.kept (hF _ u1.lt hne)
      have hinj : ∀ (i : Nat) (e9 : np_E), g i = some e9 → (i = 0 ∧ ad' i = ad k) ∨ s.heap.size ≤ ad' i := by
        intro i e9 hi
        by_cases h0 : i = 0
        · subst h0
          exact Or.inl ⟨rfl, ha0⟩
        · rcases (hent i e9 hi).2.1 with h | h
          · exact absurd (hO'.2 i 0 e9 eg (hg i e9 hi) (hg 0 eg hg0) (by rw [h, ha0])) h0
          · exact Or.inr h
      refine ⟨fun j e9 hj => ?_, fun i j e9 e8 hi hj hij => ?_⟩
      · rcases key j e9 hj with ⟨i, e8, rfl, h8, rfl⟩ | ⟨g0, g1, g2⟩
        · obtain ⟨u1, u2, u3, u4, u5⟩ := hent i e8 h8
          rw [hrh]
          exact ⟨u1, hsub _ u2, u3, u4, hbd i u5⟩
        · obtain ⟨u1, u2, u3, u4, u5⟩ := hO.1 j e9 g2
          have ea : ad2 j = ad j := if_pos g0
          rw [ea]
          exact ⟨(hold j e9 g0 g1 g2).1, Or.inl ⟨j, e9, g2, rfl⟩, u3.mono (Nat.le_add_right _ _), u4, Nat.lt_of_lt_of_le g0 (Nat.le_add_right _ _)⟩
      · rcases key i e9 hi with ⟨a, x, rfl, h8, rfl⟩ | ⟨g0, g1, g2⟩ <;> rcases key j e8 hj with ⟨b, z, rfl, h9, rfl⟩ | ⟨g3, g4, g5⟩
        · rw [hrh, hrh] at hij
          rw [hO'.2 a b x z (hg a x h8) (hg b z h9) hij]
        · have ea : ad2 j = ad j := if_pos g3
          rw [hrh, ea] at hij
          obtain ⟨v1, v2, v3⟩ := hold j e8 g3 g4 g5
          rcases hinj a x h8 with ⟨-, h⟩ | h
          · exact absurd (hij.symm.trans h) v2
          · omega
        · have ea : ad2 i = ad i := if_pos g0
          rw [hrh, ea] at hij
          obtain ⟨v1, v2, v3⟩ := hold i e9 g0 g1 g2
          rcases hinj b z h9 with ⟨-, h⟩ | h
          · exact absurd (hij.trans h) v2
          · omega
        · have ea : ad2 i = ad i := if_pos g0
          have eb : ad2 j = ad j := if_pos g3
          rw [ea, eb] at hij
          exact hO.2 i j e9 e8 g2 g5 hij
  · exact absurd hsp id
