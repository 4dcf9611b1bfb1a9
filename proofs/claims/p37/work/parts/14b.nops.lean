def nw_getf (ci j : Nat) : np_Op := fun k pc L st w ce sl => match st with
  | .ref a :: r => np_rd (w.2 a) fun e => match e with
    | .inr (c, fs) => np_chk (Nat.beq c ci) (match fs[j]? with
      | some v => k (pc + 3) L (v :: r) w ce sl
      | none => False)
    | _ => False
  | _ => False
theorem nw_getf_le {ci j : Nat} : ∀ k pc L st w ce sl, nw_getf ci j k pc L st w ce sl → np_getf ci j k pc L st w ce sl := by
  intro k pc L st w ce sl h
  unfold nw_getf at h
  split at h
  · obtain ⟨e, he, h⟩ := np_rd_e h
    split at h
    · obtain ⟨h1, h2⟩ := np_chk_e h
      unfold np_getf
      simp only [he]
      exact ⟨np_beqe h1, h2⟩
    · exact h.elim
  · exact h.elim
/-- a field that may be null, told apart at once -/
def nw_getn (ci j : Nat) : np_Op := fun k pc L st w ce sl => match st with
  | .ref a :: r => np_rd (w.2 a) fun e => match e with
    | .inr (c, fs) => np_chk (Nat.beq c ci) (match fs[j]? with
      | some v => ∃ (t n : Nat) (x : Int32), v = pw_nr t n x ∧ np_br (decide (x < 0)) (k (pc + 3) L (.null :: r) w ce sl) (k (pc + 3) L (.ref (pw_pl t (pw_dn n x)) :: r) w ce sl)
      | none => False)
    | _ => False
  | _ => False
theorem nw_getn_le {ci j : Nat} : ∀ k pc L st w ce sl, nw_getn ci j k pc L st w ce sl → np_getf ci j k pc L st w ce sl := by
  intro k pc L st w ce sl h
  unfold nw_getn at h
  split at h
  · obtain ⟨e, he, h⟩ := np_rd_e h
    split at h
    · obtain ⟨h1, h2⟩ := np_chk_e h
      unfold np_getf
      simp only [he]
      refine ⟨np_beqe h1, ?_⟩
      split at h2
      · rename_i v hv
        obtain ⟨t, n, x, rfl, h3⟩ := h2
        simp only [hv]
        unfold pw_nr
        cases hd : decide (x < 0) with
        | true => rw [hd] at h3; exact h3
        | false => rw [hd] at h3; exact h3
      · exact h2.elim
    · exact h.elim
  · exact h.elim
def nw_putf (ci j : Nat) (ty : FieldType) : np_Op := fun k pc L st w ce sl => match st with
  | v :: .ref a :: r => np_rd (w.2 a) fun e => match e with
    | .inr (c, fs) => np_chk (Nat.beq c ci && Nat.ble (j + 1) fs.length) (np_chk (np_fitb ty v) (np_fl (fs.set j v) (fun fs' => ∀ f', f' = np_up w.2 a (.inr (ci, fs')) → k (pc + 3) L r (w.1, f') ce sl)))
    | _ => False
  | _ => False
theorem nw_putf_le {ci j : Nat} {ty : FieldType} : ∀ k pc L st w ce sl, nw_putf ci j ty k pc L st w ce sl → np_putf ci j ty k pc L st w ce sl := by
  intro k pc L st w ce sl h
  unfold nw_putf at h
  split at h
  · obtain ⟨e, he, h⟩ := np_rd_e h
    split at h
    · obtain ⟨h1, h2⟩ := np_chk_e h
      obtain ⟨h3, h4⟩ := np_and h1
      obtain ⟨h5, h6⟩ := np_chk_e h2
      unfold np_putf
      simp only [he]
      refine ⟨np_beqe h3, (np_fitb_e h5).1, (np_fitb_e h5).2, np_ble h4, ?_⟩
      rw [np_fl_eq] at h6 ⊢
      exact h6 _ rfl
    · exact h.elim
  · exact h.elim
def nw_alen : np_Op := fun k pc L st w ce sl => match st with
  | .ref a :: r => np_rd (w.2 a) fun e => match e with
    | .inl (_, n, _) => k (pc + 1) L (.int (Int32.ofNat n) :: r) w ce sl
    | _ => False
  | _ => False
theorem nw_alen_le : ∀ k pc L st w ce sl, nw_alen k pc L st w ce sl → np_alen k pc L st w ce sl := by
  intro k pc L st w ce sl h
  unfold nw_alen at h
  split at h
  · obtain ⟨e, he, h⟩ := np_rd_e h
    split at h
    · unfold np_alen
      simp only [he]
      exact h
    · exact h.elim
  · exact h.elim
def nw_ialdT (ty : FieldType) : np_Op := fun k pc L st w ce sl => match st with
  | .int i :: .ref a :: r => np_rd (w.2 a) fun e => match e with
    | .inl (t, n, .inl f) => np_chk (np_tyb t ty) (np_chk (np_inb i n) (k (pc + 1) L (.int (f i.toNatClampNeg) :: r) w ce sl))
    | _ => False
  | _ => False
theorem nw_ialdT_le {ty : FieldType} : ∀ k pc L st w ce sl, nw_ialdT ty k pc L st w ce sl → np_ialdT ty k pc L st w ce sl := by
  intro k pc L st w ce sl h
  unfold nw_ialdT at h
  split at h
  · obtain ⟨e, he, h⟩ := np_rd_e h
    split at h
    · obtain ⟨h1, h2⟩ := np_chk_e h
      obtain ⟨h3, h4⟩ := np_chk_e h2
      unfold np_ialdT
      simp only [he]
      exact ⟨np_tyb_e h1, np_inb_e h3, h4⟩
    · exact h.elim
  · exact h.elim
def nw_aald (C : String) : np_Op := fun k pc L st w ce sl => match st with
  | .int i :: .ref a :: r => np_rd (w.2 a) fun e => match e with
    | .inl (t, n, .inr (.inr (.inr (.inr f)))) => t = .object C ∧ np_chk (np_inb i n) (match f i.toNatClampNeg with
      | some b => k (pc + 1) L (.ref b :: r) w ce sl
      | none => k (pc + 1) L (.null :: r) w ce sl)
    | _ => False
  | _ => False
theorem nw_aald_le {C : String} : ∀ k pc L st w ce sl, nw_aald C k pc L st w ce sl → np_aald C k pc L st w ce sl := by
  intro k pc L st w ce sl h
  unfold nw_aald at h
  split at h
  · obtain ⟨e, he, h⟩ := np_rd_e h
    split at h
    · obtain ⟨h1, h2⟩ := h
      obtain ⟨h3, h4⟩ := np_chk_e h2
      unfold np_aald
      simp only [he]
      exact ⟨h1, np_inb_e h3, h4⟩
    · exact h.elim
  · exact h.elim
def nw_iastT (ty : FieldType) : np_Op := fun k pc L st w ce sl => match st with
  | .int x :: .int i :: .ref a :: r => np_rd (w.2 a) fun e => match e with
    | .inl (t, n, .inl f) => np_chk (np_tyb t ty) (np_chk (np_inb i n) (∀ f', f' = np_up w.2 a (.inl (ty, n, .inl (upd f i.toNatClampNeg (vp_nar ty x)))) → k (pc + 1) L r (w.1, f') ce sl))
    | _ => False
  | _ => False
theorem nw_iastT_le {ty : FieldType} : ∀ k pc L st w ce sl, nw_iastT ty k pc L st w ce sl → np_iastT ty k pc L st w ce sl := by
  intro k pc L st w ce sl h
  unfold nw_iastT at h
  split at h
  · obtain ⟨e, he, h⟩ := np_rd_e h
    split at h
    · obtain ⟨h1, h2⟩ := np_chk_e h
      obtain ⟨h3, h4⟩ := np_chk_e h2
      unfold np_iastT
      simp only [he]
      exact ⟨np_tyb_e h1, np_inb_e h3, h4 _ rfl⟩
    · exact h.elim
  · exact h.elim
def nw_callV (ci n : Nat) (sp : np_Sp) (maxL mc ms RC RS : Nat) : np_Op := fun k pc L st w ce sl => match (st.take n).reverse with
  | .ref a :: _ => np_rd (w.2 a) fun e => match e with
    | .inr (c, _) => np_chk (Nat.beq c ci) (nq_call n sp maxL mc ms RC RS k pc L st w ce sl)
    | _ => False
  | _ => False
theorem nw_callV_le {ci n : Nat} {sp : np_Sp} {maxL mc ms RC RS : Nat} : ∀ k pc L st w ce sl, nw_callV ci n sp maxL mc ms RC RS k pc L st w ce sl → np_callV ci n sp maxL mc ms RC RS k pc L st w ce sl := by
  intro k pc L st w ce sl h
  unfold nw_callV at h
  split at h
  · rename_i e1
    obtain ⟨e, he, h⟩ := np_rd_e h
    split at h
    · obtain ⟨h1, h2⟩ := np_chk_e h
      unfold np_callV
      simp only [e1, he]
      exact ⟨np_beqe h1, nq_call_le _ _ _ _ _ _ _ h2⟩
    · exact h.elim
  · exact h.elim
def nw_callVX (ci n : Nat) (sp : np_SpX) (maxL mc ms RC RS : Nat) (hs : List (Nat × Nat)) : np_Op := fun k pc L st w ce sl => match (st.take n).reverse with
  | .ref a :: _ => np_rd (w.2 a) fun e => match e with
    | .inr (c, _) => np_chk (Nat.beq c ci && (Nat.ble n st.length && (Nat.ble ((st.drop n).map fun v => v.category).sum 8 && (Nat.ble ((st.take n).reverse.map fun v => v.category).sum maxL && (Nat.ble (ce + mc) RC && Nat.ble (sl + ms) RS)))))
        (np_fl (st.take n).reverse fun vs => sp vs w (fun r w' => k (pc + 3) L (r.toList ++ st.drop n) w' (ce + mc) (sl + ms)) (fun i w' => match np_fd hs i with
          | some h => k h L [.ref w'.1] (w'.1 + 1, w'.2) (ce + mc) (sl + ms)
          | none => False))
    | _ => False
  | _ => False
theorem nw_callVX_le {ci n : Nat} {sp : np_SpX} {maxL mc ms RC RS : Nat} {hs : List (Nat × Nat)} : ∀ k pc L st w ce sl, nw_callVX ci n sp maxL mc ms RC RS hs k pc L st w ce sl → nq_callVX ci n sp maxL mc ms RC RS hs k pc L st w ce sl := by
  intro k pc L st w ce sl h
  unfold nw_callVX at h
  split at h
  · rename_i e1
    obtain ⟨e, he, h⟩ := np_rd_e h
    split at h
    · unfold nq_callVX
      simp only [e1, he, np_force_eq]
      simp only [e1] at h
      exact h
    · exact h.elim
  · exact h.elim
/-! System.arraycopy between two rows of numbers -/
def np_copy : np_Op := fun k pc L st w ce sl => match st with
  | .int n :: .int dp :: .ref b :: .int sp :: .ref a :: r => match w.2 a, w.2 b with
    | some (.inl (ta, na, .inl f)), some (.inl (tb, nb, .inl g)) => ta = .int ∧ tb = .int ∧ a ≠ b ∧ ¬ sp < 0 ∧ ¬ dp < 0 ∧ ¬ n < 0 ∧ sp.toNatClampNeg + n.toNatClampNeg ≤ na ∧ dp.toNatClampNeg + n.toNatClampNeg ≤ nb ∧ (r.map fun v => v.category).sum ≤ 8 ∧
        k (pc + 3) L r (w.1, np_up w.2 b (.inl (.int, nb, .inl (va_cpy f g sp.toNatClampNeg dp.toNatClampNeg n.toNatClampNeg)))) ce sl
    | _, _ => False
  | _ => False
theorem np_s_copy {X : np_Ctx} {pc : Nat} {own : String} {cc : ByteArray} {nL RF RL RC RS : Nat} {rI : Instr} (hX : np_ok own cc nL RF RL RC RS rI X) {ix : Nat} (d : decode cc pc = .ok (.invokestatic ix, 3)) (w1 : Cond.methodLink own ix arraycopyName ∈ np_gw) (w2 : Cond.native arraycopyName ∈ np_gw) (w3 : Cond.static arraycopyName ∈ np_gw) (w4 : Cond.initialized "java/lang/System" ∈ np_gw) (h1 : 1 ≤ RF) (h2 : 8 + (nativeFrameWords "java/lang/System" "arraycopy" 5 + 11) ≤ RL) : np_S X pc np_copy := by
  obtain ⟨⟨p, l, e, R, s, m, args, below, meth, c⟩, ⟨Q, D, cA, A, ad0, n0, nL'⟩, Rt, Th⟩ := X
  obtain ⟨hx, hb, hml, rfl, hown, hsd, hK, hA, hRF, hRL, hRC, hRS, hret, hlt, hzq, hth⟩ := hX
  intro k hk L st w ce sl hop H locs ad ls hl hp
  unfold np_copy at hop
  split at hop
  · rename_i n dp b sp a r
    split at hop
    · rename_i ta na f tb nb g ha hb2
      obtain ⟨rfl, rfl, hab, g1, g2, g3, g4, g5, g6, hop⟩ := hop
      have hts := np_hts hsd args
      obtain ⟨a1, a2, -, -, -⟩ := hp.1.1 a _ ha
      obtain ⟨b1, b2, b3, b4, b5⟩ := hp.1.1 b _ hb2
      have hne : ad a ≠ ad b := fun z => hab (hp.1.2 a b _ _ ha hb2 z)
      obtain ⟨-, k0, hk0, cm0, hkk0⟩ := (np_Kt hK (show FieldType.int ∈ np_tys by decide)).1 na (fun j => .int (f j))
      obtain ⟨-, k1, hk1, cm1, hkk1⟩ := (np_Kt hK (show FieldType.int ∈ np_tys by decide)).1 nb (fun j => .int (g j))
      have e2 : Sum.inl (cA .int, nb, Sum.inl (va_cpy f g sp.toNatClampNeg dp.toNatClampNeg n.toNatClampNeg)) = np_e cA ad (.inl (.int, nb, .inl (va_cpy f g sp.toNatClampNeg dp.toNatClampNeg n.toNatClampNeg))) := rfl
      have nn : ∀ z : Int32, ¬ z < 0 → z.toInt = (z.toNatClampNeg : Int) := by
        intro z hz
        rw [Int32.lt_iff_toInt_lt] at hz
        show z.toInt = ((z.toInt.toNat : Nat) : Int)
        have : (0 : Int32).toInt = 0 := rfl
        omega
      have a1 : H[ad a]? = some (vp_cell (cA .int) (na, .inl f)) := a1
      have b1 : H[ad b]? = some (vp_cell (cA .int) (nb, .inl g)) := b1
      intro T hT Y
      obtain ⟨vm', Y', step⟩ := Y.arraycopy hx hown (hts _ w1) (hts _ w2) (hts _ w3) (hts _ w4) (src := ad a) (dst := ad b) (cs := vp_cell (cA .int) (na, .inl f)) (cd := vp_cell (cA .int) (nb, .inl g)) (srcPos := sp) (destPos := dp) (n := n) (by rw [hT]; exact a1) (by rw [hT]; exact b1)
        (fun _ h => by cases h) (fun _ h => by cases h) (fun h => by cases h) (fun h => by cases h) hk0 hk1 hkk0 hkk1 (by decide) g1 g2 g3
        (by rw [nn sp g1, nn n g3]; show ¬ _ > ((arrV _ na (fun j => .int (f j))).slots.size : Int); rw [arrV_size]; omega)
        (by rw [nn dp g2, nn n g3]; show ¬ _ > ((arrV _ nb (fun j => .int (g j))).slots.size : Int); rw [arrV_size]; omega)
        (fun vm₁ _ i hi => by
          have e9 : (vp_cell (cA .int) (na, .inl f)).slots.getD (sp.toNatClampNeg + i) .null = .int (f (sp.toNatClampNeg + i)) := by
            show (arrV _ na (fun j => .int (f j))).slots.getD _ _ = _
            rw [Array.getD_eq_getD_getElem?, arrV_read _ _ (by omega)]
            rfl
          rw [e9]
          exact ⟨rfl, trivial⟩)
        (g := F0 m pc ls (.int n :: .int dp :: .ref (ad b) :: .int sp :: .ref (ad a) :: r.map (np_v ad))) rfl (hl.1.trans hml.symm) (rest := r.map (np_v ad)) rfl (by rw [hb]; exact d) (Nat.le_trans h1 hRF) (by show 2 * 0 + _ + _ ≤ _; rw [np_cat_sum]; have h3 := Nat.le_trans h2 hRL; omega)
      have e1 : copied (vp_cell (cA .int) (na, .inl f)) (vp_cell (cA .int) (nb, .inl g)) sp dp n = vp_cell (cA .int) (nb, .inl (va_cpy f g sp.toNatClampNeg dp.toNatClampNeg n.toNatClampNeg)) := va_copied (fun z => .int z) _ _ f g g4
      rw [e1] at Y' step
      have hlt9 : ad b < H.size := (Array.getElem?_eq_some_iff.mp b1).1
      have hheap : ((T.setVm vm').setCell (ad b) (vp_cell (cA .int) (nb, .inl (va_cpy f g sp.toNatClampNeg dp.toNatClampNeg n.toNatClampNeg)))).heap = H.setIfInBounds (ad b) (vp_cell (cA .int) (nb, .inl (va_cpy f g sp.toNatClampNeg dp.toNatClampNeg n.toNatClampNeg))) := by rw [← hT]; rfl
      have oq : ∀ q : Nat, q ≠ ad b → (H.setIfInBounds (ad b) (vp_cell (cA .int) (nb, .inl (va_cpy f g sp.toNatClampNeg dp.toNatClampNeg n.toNatClampNeg))))[q]? = H[q]? := fun q hq => by simp [Array.getElem?_setIfInBounds, Ne.symm hq]
      have hset := hp.set (j := 0) (st' := r) hb2 (e' := .inl (.int, nb, .inl (va_cpy f g sp.toNatClampNeg dp.toNatClampNeg n.toNatClampNeg))) (show (H.setIfInBounds (ad b) _)[ad b]? = some _ by simp [Array.getElem?_setIfInBounds, hlt9, np_e]) (by simp) oq trivial b4 (np_c_tl (np_c_tl (np_c_tl (np_c_tl (np_c_tl hp.2.2.1)))))
      obtain ⟨t, c1, c2⟩ := hk _ _ _ _ _ _ hop _ _ ad ls hl ⟨hset.1, hset.2.1, hset.2.2.1, ⟨hset.2.2.2.1.1, hset.2.2.2.1.2.1, fun q hq => by
        rcases List.mem_append.mp hq with h | h
        · exact hp.2.2.2.1.2.2 q h
        · obtain ⟨z, -, hz⟩ := List.mem_map.mp h
          rw [← hz]
          exact b2⟩, hset.2.2.2.2⟩ _ hheap Y'
      exact ⟨t, step t c1, c2⟩
    · exact absurd hop id
  · exact absurd hop id
def nw_copy : np_Op := fun k pc L st w ce sl => match st with
  | .int n :: .int dp :: .ref b :: .int sp :: .ref a :: r => np_rd (w.2 a) fun e => match e with
    | .inl (ta, na, .inl f) => np_rd (w.2 b) fun e' => match e' with
      | .inl (tb, nb, .inl g) => np_chk (np_tyb ta .int && (np_tyb tb .int && Nat.ble (r.map fun v => v.category).sum 8)) (a ≠ b ∧ np_chk (!decide (sp < 0) && (!decide (dp < 0) && (!decide (n < 0) && (Nat.ble (sp.toNatClampNeg + n.toNatClampNeg) na && Nat.ble (dp.toNatClampNeg + n.toNatClampNeg) nb)))) (∀ f', f' = np_up w.2 b (.inl (.int, nb, .inl (va_cpy f g sp.toNatClampNeg dp.toNatClampNeg n.toNatClampNeg))) → k (pc + 3) L r (w.1, f') ce sl))
      | _ => False
    | _ => False
  | _ => False
theorem nw_copy_le : ∀ k pc L st w ce sl, nw_copy k pc L st w ce sl → np_copy k pc L st w ce sl := by
  intro k pc L st w ce sl h
  unfold nw_copy at h
  split at h
  · obtain ⟨e, he, h⟩ := np_rd_e h
    split at h
    · obtain ⟨e', he', h⟩ := np_rd_e h
      split at h
      · obtain ⟨h1, h2, h3⟩ := np_chk_e h
        obtain ⟨h1a, h1⟩ := np_and h1
        obtain ⟨h1b, h1c⟩ := np_and h1
        obtain ⟨h4, h5⟩ := np_chk_e h3
        obtain ⟨g1, h4⟩ := np_and h4
        obtain ⟨g2, h4⟩ := np_and h4
        obtain ⟨g3, h4⟩ := np_and h4
        obtain ⟨g4, g5⟩ := np_and h4
        have hn : ∀ z : Int32, (!decide (z < 0)) = true → ¬ z < 0 := fun z hz hh => by
          rw [decide_eq_true hh] at hz
          cases hz
        unfold np_copy
        simp only [he, he']
        exact ⟨np_tyb_e h1a, np_tyb_e h1b, h2, hn _ g1, hn _ g2, hn _ g3, np_ble g4, np_ble g5, np_ble h1c, h5 _ rfl⟩
      · exact h.elim
    · exact h.elim
  · exact h.elim
/-! the runner that forces only what is literal -/
def np_fk2 (k : np_K) : np_K := fun pc L st w ce sl => np_force pc fun pc => np_fl L fun L => np_fl st fun st => k pc L st w ce sl
theorem np_fk2_eq (k : np_K) (pc : Nat) (L : np_L) (st : List Value) (w : np_W) (ce sl : Nat) : np_fk2 k pc L st w ce sl = k pc L st w ce sl := by
  unfold np_fk2
  rw [np_force_eq, np_fl_eq, np_fl_eq]
def np_runW (is : List (Nat × np_Op)) (heads : List Nat) (Hd : np_K) : Nat → np_K
  | 0 => fun _ _ _ _ _ _ => False
  | n + 1 => fun pc L st w ce sl => match np_get is pc with
    | none => False
    | some (j, op) => op (fun pc L st w ce sl => np_fk2 (fun pc L st w ce sl => match np_isin heads pc with
      | true => Hd pc L st w ce sl
      | false => np_runW is heads Hd n pc L st w ce sl) pc L st w ce sl) j L st w ce sl
theorem np_soundW {X : np_Ctx} {is : List (Nat × np_Op)} (his : ∀ q ∈ is, np_S X q.1 q.2) (heads : List Nat) :
    ∀ (n pc : Nat) (L : np_L) (st : List Value) (w : np_W) (ce sl : Nat), np_runW is heads (np_G X) n pc L st w ce sl → np_G X pc L st w ce sl := by
  intro n
  induction n with
  | zero => intro pc L st w ce sl h; exact absurd h id
  | succ n ih =>
    intro pc L st w ce sl h
    unfold np_runW at h
    cases hg : np_get is pc with
    | none => rw [hg] at h; exact absurd h id
    | some q =>
      obtain ⟨j, op⟩ := q
      rw [hg] at h
      obtain ⟨hm, rfl⟩ := np_get_mem hg
      refine his _ hm _ (fun pc L st w ce sl hq => ?_) L st w ce sl h
      rw [np_fk2_eq] at hq
      split at hq
      · exact hq
      · exact ih _ _ _ _ _ _ hq
/-- fewer locals known, in another order -/
def np_sub (L : np_L) : np_L → Prop
  | [] => True
  | (i, v) :: r => np_lk L i = some v ∧ np_sub L r
theorem np_sub_mem {L : np_L} : ∀ {Lc : np_L}, np_sub L Lc → ∀ q ∈ Lc, q ∈ L := by
  intro Lc
  induction Lc with
  | nil => intro _ q hq; cases hq
  | cons a r ih =>
    obtain ⟨i, v⟩ := a
    intro h q hq
    rcases List.mem_cons.mp hq with rfl | hq
    · exact np_lk_mem h.1
    · exact ih h.2 q hq
theorem np_gl {X : np_Ctx} {pc : Nat} {L Lc : np_L} {st : List Value} {w : np_W} {ce sl : Nat} (h : np_G X pc Lc st w ce sl) (hs : np_sub L Lc) : np_G X pc L st w ce sl := by
  obtain ⟨⟨p, l, e, R, s, m, args, below, meth, c⟩, ⟨Q, D, cA, A, ad0, n0, nL'⟩, Rt, Th⟩ := X
  intro H locs ad ls hl hp
  refine h H locs ad ls ⟨hl.1, hl.2.1, fun q hq => ?_⟩ ⟨hp.1, fun q hq => hp.2.1 q (np_sub_mem hs q hq), hp.2.2⟩
  obtain ⟨z, hz, rfl⟩ := List.mem_map.mp hq
  exact hl.2.2 _ (List.mem_map.mpr ⟨z, np_sub_mem hs z hz, rfl⟩)
theorem pw_pl_ne {q a i b j : Nat} (h : pw_ok q a i = true) (h' : pw_ok q b j = true) (hb : (!(Nat.beq a b && Nat.beq i j)) = true) : pw_pl a i ≠ pw_pl b j := fun e => by
  obtain ⟨rfl, rfl⟩ := pw_pl_inj h h' e
  rw [Nat.beq_refl, Nat.beq_refl] at hb
  cases hb
theorem pw_dr_of {q a n i : Nat} (h1 : Nat.blt a 62 = true) (h : Nat.beq n (pw_cnt 0 a) = true) (hok : pw_ok q a i = true) : Value.ref (pw_pl a (pw_dn n (Int32.ofNat i))) = .ref (pw_pl a i) := by
  rw [(pw_dn_of h1 h hok).1]
theorem pw_nr_of {q a n i : Nat} (h1 : Nat.blt a 62 = true) (h : Nat.beq n (pw_cnt 0 a) = true) (hok : pw_ok q a i = true) : pw_nr a n (Int32.ofNat i) = .ref (pw_pl a i) := by
  unfold pw_nr
  rw [decide_eq_false (pw_dn_of h1 h hok).2]
  show Value.ref _ = _
  rw [(pw_dn_of h1 h hok).1]
def pw_x {β : Type} (e : Nat) (a b c : pw_R β) : pw_R β := match e with
  | 0 => a
  | 1 => b
  | 2 => c
  | _ => none
theorem pw_x0 {β : Type} {a b c : pw_R β} {P : pw_S → β → Prop} (h : pw_p (pw_x 0 a b c) P) : pw_p a P := h
theorem pw_x1 {β : Type} {a b c : pw_R β} {P : pw_S → β → Prop} (h : pw_p (pw_x 1 a b c) P) : pw_p b P := h
theorem pw_x2 {β : Type} {a b c : pw_R β} {P : pw_S → β → Prop} (h : pw_p (pw_x 2 a b c) P) : pw_p c P := h
theorem pw_nz {x : Int32} (h : (decide (x = 0) || decide (x = 1)) = true) : narrow .boolean (.int x) = .int x := by
  rcases Bool.or_eq_true_iff.mp h with h | h
  · rw [of_decide_eq_true h]; rfl
  · rw [of_decide_eq_true h]; rfl
theorem pw_nc (x : Int32) : narrow .char (.int ((x.toUInt32 % 65536).toInt32)) = .int ((x.toUInt32 % 65536).toInt32) := by
  have h : (x.toUInt32 % 65536).toUInt16.toUInt32 = x.toUInt32 % 65536 := by
    apply UInt32.toNat_inj.mp
    rw [UInt16.toNat_toUInt32, UInt32.toNat_toUInt16, UInt32.toNat_mod]
    have h1 : x.toUInt32.toNat % 65536 < 65536 := Nat.mod_lt _ (by decide)
    show x.toUInt32.toNat % 65536 % 65536 = x.toUInt32.toNat % 65536
    exact Nat.mod_eq_of_lt h1
  have h2 : (x.toUInt32 % 65536).toInt32.toUInt32.toUInt16.toUInt32.toInt32 = (x.toUInt32 % 65536).toInt32 := by
    show (x.toUInt32 % 65536).toUInt16.toUInt32.toInt32 = _
    rw [h]
  exact congrArg Value.int h2
theorem pw_brn {c : Prop} {i1 : Decidable c} {A B : Prop} (hn : ¬ c) (hB : B) : np_br (@decide c i1) A B := by
  rw [@decide_eq_false c i1 hn]
  exact hB
def nw_lsg (k : Nat → Prop) (d : Prop) : List (Int × Nat) → Int32 → Prop
  | [], _ => d
  | (v, t) :: ps, x => np_br (decide (x.toInt = v)) (k t) (nw_lsg k d ps x)
def nw_lsw (ps : List (Int × Nat)) (td : Nat) : np_Op := fun k _ L st w ce sl => match st with
  | .int x :: r => nw_lsg (fun t => k t L r w ce sl) (k td L r w ce sl) ps x
  | _ => False
theorem nw_lsg_e {k : Nat → Prop} {pc td : Nat} {dflt : Int} (hd : (pc : Int) + dflt = (td : Int)) (x : Int32) : ∀ (prs : List (Int × Int)) (ps : List (Int × Nat)), prs.map (fun q => (q.1, (pc : Int) + q.2)) = ps.map (fun q => (q.1, ((q.2 : Nat) : Int))) → nw_lsg k (k td) ps x → ∃ t : Nat, (pc : Int) + Op.lookupswitch.offset prs dflt x.toInt = (t : Int) ∧ k t := by
  intro prs
  induction prs with
  | nil =>
    intro ps he h
    cases ps with
    | nil => exact ⟨td, hd, h⟩
    | cons a r => cases he
  | cons a r ih =>
    obtain ⟨v, o⟩ := a
    intro ps he h
    cases ps with
    | nil => cases he
    | cons b s =>
      obtain ⟨v', t⟩ := b
      rw [List.map_cons, List.map_cons] at he
      obtain ⟨h1, h2⟩ := List.cons.inj he
      obtain ⟨h3, h4⟩ := Prod.mk.inj h1
      dsimp only at h3 h4
      subst h3
      obtain ⟨h5, h6⟩ := np_br_e h
      rw [Op.lookupswitch.offset_cons]
      by_cases hx : v = x.toInt
      · rw [if_pos hx]
        exact ⟨t, h4, h5 hx.symm⟩
      · rw [if_neg hx]
        exact ih s h2 (h6 (fun z => hx z.symm))
theorem np_s_lsw {X : np_Ctx} {pc : Nat} {own : String} {cc : ByteArray} {nL RF RL RC RS : Nat} {rI : Instr} (hX : np_ok own cc nL RF RL RC RS rI X) {dflt : Int} {prs : Array (Int × Int)} {len td : Nat} {ps : List (Int × Nat)} (d : decode cc pc = .ok (.lookupswitch dflt prs, len)) (hd : (pc : Int) + dflt = (td : Int)) (hp : (prs.toList.zip (prs.toList.drop 1)).all (fun (a, next) => a.1 < next.1) = true) (he : prs.toList.map (fun q => (q.1, (pc : Int) + q.2)) = ps.map (fun q => (q.1, ((q.2 : Nat) : Int)))) : np_S X pc (nw_lsw ps td) := by
  obtain ⟨⟨p, l, e, R, s, m, args, below, meth, c⟩, ⟨Q, D, cA, A, ad0, n0, nL'⟩, Rt, Th⟩ := X
  obtain ⟨hx, hb, hml, rfl, hown, hsd, hK, hA, hRF, hRL, hRC, hRS, hret, hlt, hzq, hth⟩ := hX
  intro k hk L st w ce sl hop H locs ad ls hl hp9
  unfold nw_lsw at hop
  split at hop
  · rename_i x r
    obtain ⟨t, h1, h2⟩ := nw_lsg_e (k := fun t => k t L r w ce sl) hd x _ _ he hop
    exact lv_lookup hx hb d hp rfl h1 (hk _ _ _ _ _ _ h2 H locs ad ls hl (hp9.to hp9.2.1 (np_c_tl hp9.2.2.1)))
  · exact absurd hop id
def np_mx (RC RS : Nat) : np_Op := fun k pc L st w ce sl => match st with
  | .int y :: .int x :: r => (r.map fun v => v.category).sum ≤ 7 ∧ ce ≤ RC ∧ sl ≤ RS ∧ k (pc + 3) L (.int (if x < y then y else x) :: r) w ce sl
  | _ => False
theorem np_s_mmax {X : np_Ctx} {pc : Nat} {own : String} {cc : ByteArray} {nL RF RL RC RS : Nat} {rI : Instr} (hX : np_ok own cc nL RF RL RC RS rI X) {ix : Nat} (d : decode cc pc = .ok (.invokestatic ix, 3)) (w1 : Cond.methodLink own ix Lib.Math.max.name ∈ np_gw) (w2 : Cond.static Lib.Math.max.name ∈ np_gw) (w3 : Cond.initialized "java/lang/Math" ∈ np_gw) (w4 : Cond.code Lib.Math.max.name Lib.Math.max.code 2 (some .int) ∈ np_gw) (h1 : 1 ≤ RF) (h2 : 20 ≤ RL) : np_S X pc (np_mx RC RS) := by
  obtain ⟨⟨p, l, e, R, s, m, args, below, meth, c⟩, ⟨Q, D, cA, A, ad0, n0, nL'⟩, Rt, Th⟩ := X
  obtain ⟨hx, hb, hml, rfl, hown, hsd, hK, hA, hRF, hRL, hRC, hRS, hret, hlt, hzq, hth⟩ := hX
  intro k hk L st w ce sl hop H locs ad ls hl hp
  unfold np_mx at hop
  split at hop
  · rename_i y x r
    obtain ⟨g1, g2, g3, hop⟩ := hop
    have hts := np_hts hsd args
    exact va_mmax hx hb (hml.trans hl.1.symm) hown (hts _ w1) (hts _ w2) (hts _ w3) (hts _ w4) (Nat.le_trans h1 hRF) (by rw [np_cat_sum]; omega) (Nat.le_trans g2 hRC) (Nat.le_trans g3 hRS) d (hk _ _ _ _ _ _ hop H locs ad ls hl (hp.to hp.2.1 (np_c_cons trivial (np_c_tl (np_c_tl hp.2.2.1)))))
  · exact absurd hop id
def nw_mx (RC RS : Nat) : np_Op := fun k pc L st w ce sl => match st with
  | .int y :: .int x :: r => np_chk (Nat.ble (r.map fun v => v.category).sum 7 && (Nat.ble ce RC && Nat.ble sl RS)) (k (pc + 3) L (.int (if x < y then y else x) :: r) w ce sl)
  | _ => False
theorem nw_mx_le {RC RS : Nat} : ∀ k pc L st w ce sl, nw_mx RC RS k pc L st w ce sl → np_mx RC RS k pc L st w ce sl := by
  intro k pc L st w ce sl h
  unfold nw_mx at h
  split at h
  · obtain ⟨h1, h2⟩ := np_chk_e h
    obtain ⟨h3, h4⟩ := np_and h1
    obtain ⟨h5, h6⟩ := np_and h4
    exact ⟨np_ble h3, np_ble h5, np_ble h6, h2⟩
  · exact h.elim
