/-! The same operations with all that is ground worked out on the way. -/
def np_chk (b : Bool) (P : Prop) : Prop := match b with
  | true => P
  | false => False
theorem np_chk_e {b : Bool} {P : Prop} (h : np_chk b P) : b = true ∧ P := by
  cases b
  · exact h.elim
  · exact ⟨rfl, h⟩
theorem np_chk_i {b : Bool} {P : Prop} (h : b = true) (hp : P) : np_chk b P := by
  subst h
  exact hp
def np_br (b : Bool) (A B : Prop) : Prop := match b with
  | true => A
  | false => B
theorem np_br_e {c : Prop} [Decidable c] {A B : Prop} (h : np_br (decide c) A B) : (c → A) ∧ (¬ c → B) := by
  by_cases hc : c
  · rw [decide_eq_true hc] at h
    exact ⟨fun _ => h, fun n => absurd hc n⟩
  · rw [decide_eq_false hc] at h
    exact ⟨fun y => absurd y hc, fun _ => h⟩
theorem np_br_i {c : Prop} [Decidable c] {A B : Prop} (h1 : c → A) (h2 : ¬ c → B) : np_br (decide c) A B := by
  by_cases hc : c
  · rw [decide_eq_true hc]
    exact h1 hc
  · rw [decide_eq_false hc]
    exact h2 hc
theorem np_and {a b : Bool} (h : (a && b) = true) : a = true ∧ b = true := Bool.and_eq_true_iff.mp h
theorem np_ble {a b : Nat} (h : Nat.ble a b = true) : a ≤ b := Nat.le_of_ble_eq_true h
theorem np_beqe {a b : Nat} (h : Nat.beq a b = true) : a = b := Nat.eq_of_beq_eq_true h
theorem np_S.mono {X : np_Ctx} {pc : Nat} {op op' : np_Op} (h : np_S X pc op) (hm : ∀ k pc L st w ce sl, op' k pc L st w ce sl → op k pc L st w ce sl) : np_S X pc op' := fun k hk L st w ce sl hq => h k hk L st w ce sl (hm k pc L st w ce sl hq)
def np_tyb : FieldType → FieldType → Bool
  | .int, .int => true
  | .char, .char => true
  | .boolean, .boolean => true
  | .long, .long => true
  | _, _ => false
theorem np_tyb_e {a b : FieldType} (h : np_tyb a b = true) : a = b := by
  unfold np_tyb at h
  split at h <;> first | rfl | cases h
def np_inb (i : Int32) (n : Nat) : Bool := !decide (i < 0) && Nat.blt i.toNatClampNeg n
theorem np_inb_e {i : Int32} {n : Nat} (h : np_inb i n = true) : vp_in i n := by
  obtain ⟨h1, h2⟩ := np_and h
  intro hh
  rcases hh with hh | hh
  · rw [decide_eq_true hh] at h1
    cases h1
  · exact absurd (np_ble h2) (Nat.not_le.mpr (Nat.lt_succ_of_le hh))
theorem np_inb_i {i : Int32} {n : Nat} (h : vp_in i n) : np_inb i n = true := by
  unfold np_inb
  rw [decide_eq_false (fun z => h (Or.inl z))]
  exact Nat.ble_eq_true_of_le (Nat.lt_of_not_le fun z => h (Or.inr z))
def np_fitb : FieldType → Value → Bool
  | .int, .int _ => true
  | .long, .long _ => true
  | .boolean, .int x => decide (x = 0) || decide (x = 1)
  | .object _, .null => true
  | .object _, .ref _ => true
  | .array _, .null => true
  | .array _, .ref _ => true
  | _, _ => false
theorem np_fitb_e {ty : FieldType} {v : Value} (h : np_fitb ty v = true) : narrow ty v = v ∧ fits ty v = true := by
  unfold np_fitb at h
  split at h
  · exact ⟨rfl, rfl⟩
  · exact ⟨rfl, rfl⟩
  · rename_i x
    rcases Bool.or_eq_true_iff.mp h with h | h
    · have h := of_decide_eq_true h
      subst h
      exact ⟨by decide, by decide⟩
    · have h := of_decide_eq_true h
      subst h
      exact ⟨by decide, by decide⟩
  · exact ⟨rfl, rfl⟩
  · exact ⟨rfl, rfl⟩
  · exact ⟨rfl, rfl⟩
  · exact ⟨rfl, rfl⟩
  · cases h
def nq_ibn (f : Int32 → Int32 → Int32) : np_Op := fun k pc L st w ce sl => match st with
  | .int y :: .int x :: r => np_chk (!decide (y = 0)) (k (pc + 1) L (.int (f x y) :: r) w ce sl)
  | _ => False
theorem nq_ibn_le {f : Int32 → Int32 → Int32} : ∀ k pc L st w ce sl, nq_ibn f k pc L st w ce sl → np_ibn f k pc L st w ce sl := by
  intro k pc L st w ce sl h
  unfold nq_ibn at h
  split at h
  · obtain ⟨h1, h2⟩ := np_chk_e h
    refine ⟨fun hy => ?_, h2⟩
    rw [decide_eq_true hy] at h1
    cases h1
  · exact h.elim
def nq_lbn (f : Int64 → Int64 → Int64) : np_Op := fun k pc L st w ce sl => match st with
  | .long y :: .long x :: r => np_chk (!decide (y = 0)) (k (pc + 1) L (.long (f x y) :: r) w ce sl)
  | _ => False
theorem nq_lbn_le {f : Int64 → Int64 → Int64} : ∀ k pc L st w ce sl, nq_lbn f k pc L st w ce sl → np_lbn f k pc L st w ce sl := by
  intro k pc L st w ce sl h
  unfold nq_lbn at h
  split at h
  · obtain ⟨h1, h2⟩ := np_chk_e h
    refine ⟨fun hy => ?_, h2⟩
    rw [decide_eq_true hy] at h1
    cases h1
  · exact h.elim
def nq_dup : np_Op := fun k pc L st w ce sl => match st with
  | v :: r => np_chk (Nat.beq v.category 1) (k (pc + 1) L (v :: v :: r) w ce sl)
  | _ => False
theorem nq_dup_le : ∀ k pc L st w ce sl, nq_dup k pc L st w ce sl → np_dup k pc L st w ce sl := by
  intro k pc L st w ce sl h
  unfold nq_dup at h
  split at h
  · obtain ⟨h1, h2⟩ := np_chk_e h
    exact ⟨np_beqe h1, h2⟩
  · exact h.elim
def nq_dup2 : np_Op := fun k pc L st w ce sl => match st with
  | v :: u :: r => np_chk (Nat.beq v.category 1 && Nat.beq u.category 1) (k (pc + 1) L (v :: u :: v :: u :: r) w ce sl)
  | _ => False
theorem nq_dup2_le : ∀ k pc L st w ce sl, nq_dup2 k pc L st w ce sl → np_dup2 k pc L st w ce sl := by
  intro k pc L st w ce sl h
  unfold nq_dup2 at h
  split at h
  · obtain ⟨h1, h2⟩ := np_chk_e h
    obtain ⟨h3, h4⟩ := np_and h1
    exact ⟨np_beqe h3, np_beqe h4, h2⟩
  · exact h.elim
def nq_pop : np_Op := fun k pc L st w ce sl => match st with
  | v :: r => np_chk (Nat.beq v.category 1) (k (pc + 1) L r w ce sl)
  | _ => False
theorem nq_pop_le : ∀ k pc L st w ce sl, nq_pop k pc L st w ce sl → np_pop k pc L st w ce sl := by
  intro k pc L st w ce sl h
  unfold nq_pop at h
  split at h
  · obtain ⟨h1, h2⟩ := np_chk_e h
    exact ⟨np_beqe h1, h2⟩
  · exact h.elim
def nq_if (f : Int32 → Prop) [DecidablePred f] (tgt : Nat) : np_Op := fun k pc L st w ce sl => match st with
  | .int x :: r => np_br (decide (f x)) (k tgt L r w ce sl) (k (pc + 3) L r w ce sl)
  | _ => False
theorem nq_if_le {f : Int32 → Prop} [DecidablePred f] {tgt : Nat} : ∀ k pc L st w ce sl, nq_if f tgt k pc L st w ce sl → np_if f tgt k pc L st w ce sl := by
  intro k pc L st w ce sl h
  unfold nq_if at h
  split at h
  · exact np_br_e h
  · exact h.elim
def nq_ic (f : Int32 → Int32 → Prop) [DecidableRel f] (tgt : Nat) : np_Op := fun k pc L st w ce sl => match st with
  | .int y :: .int x :: r => np_br (decide (f x y)) (k tgt L r w ce sl) (k (pc + 3) L r w ce sl)
  | _ => False
theorem nq_ic_le {f : Int32 → Int32 → Prop} [DecidableRel f] {tgt : Nat} : ∀ k pc L st w ce sl, nq_ic f tgt k pc L st w ce sl → np_ic f tgt k pc L st w ce sl := by
  intro k pc L st w ce sl h
  unfold nq_ic at h
  split at h
  · exact np_br_e h
  · exact h.elim
def nq_ifne (tgt : Nat) : np_Op := fun k pc L st w ce sl => match st with
  | .int x :: r => np_br (decide (x = 0)) (k (pc + 3) L r w ce sl) (k tgt L r w ce sl)
  | _ => False
theorem nq_ifne_le {tgt : Nat} : ∀ k pc L st w ce sl, nq_ifne tgt k pc L st w ce sl → np_ifne tgt k pc L st w ce sl := by
  intro k pc L st w ce sl h
  unfold nq_ifne at h
  split at h
  · exact np_br_e h
  · exact h.elim
def nq_icne (tgt : Nat) : np_Op := fun k pc L st w ce sl => match st with
  | .int y :: .int x :: r => np_br (decide (x = y)) (k (pc + 3) L r w ce sl) (k tgt L r w ce sl)
  | _ => False
theorem nq_icne_le {tgt : Nat} : ∀ k pc L st w ce sl, nq_icne tgt k pc L st w ce sl → np_icne tgt k pc L st w ce sl := by
  intro k pc L st w ce sl h
  unfold nq_icne at h
  split at h
  · exact np_br_e h
  · exact h.elim
def nq_swg (k : Nat → Prop) (d : Prop) : List Nat → Int → Int32 → Prop
  | [], _, _ => d
  | t :: ts, lo, x => np_br (decide (x.toInt = lo)) (k t) (nq_swg k d ts (lo + 1) x)
theorem nq_swg_e {k : Nat → Prop} {d : Prop} : ∀ (ts : List Nat) (lo : Int) (x : Int32), nq_swg k d ts lo x → np_swg k ts lo x ∧ ((x.toInt < lo ∨ lo + (ts.length : Nat) - 1 < x.toInt) → d) := by
  intro ts
  induction ts with
  | nil => intro lo x h; exact ⟨trivial, fun _ => h⟩
  | cons t ts ih =>
    intro lo x h
    obtain ⟨h1, h2⟩ := np_br_e h
    by_cases hx : x.toInt = lo
    · refine ⟨⟨h1, ?_⟩, fun hh => ?_⟩
      · clear ih h h1 h2
        have : ∀ (ts : List Nat) (l : Int), lo < l → np_swg k ts l x := by
          intro ts
          induction ts with
          | nil => intro l _; trivial
          | cons t ts ih => intro l hl; exact ⟨fun h => by omega, ih (l + 1) (by omega)⟩
        exact this ts (lo + 1) (by omega)
      · simp only [List.length_cons] at hh
        omega
    · obtain ⟨h3, h4⟩ := ih (lo + 1) x (h2 hx)
      refine ⟨⟨fun h => absurd h hx, h3⟩, fun hh => h4 ?_⟩
      simp only [List.length_cons] at hh
      omega
def nq_tsw (lo : Int) (tgts : List Nat) (dflt : Nat) : np_Op := fun k _ L st w ce sl => match st with
  | .int x :: r => nq_swg (fun t => k t L r w ce sl) (k dflt L r w ce sl) tgts lo x
  | _ => False
theorem nq_tsw_le {lo hi : Int} {tgts : List Nat} {dflt : Nat} (hh : hi = lo + ((tgts.length : Nat) : Int) - 1) : ∀ k pc L st w ce sl, nq_tsw lo tgts dflt k pc L st w ce sl → np_tsw lo hi tgts dflt k pc L st w ce sl := by
  intro k pc L st w ce sl h
  subst hh
  unfold nq_tsw at h
  split at h
  · obtain ⟨h1, h2⟩ := nq_swg_e _ _ _ h
    exact ⟨h2, h1⟩
  · exact h.elim
def nq_getf (ci j : Nat) : np_Op := fun k pc L st w ce sl => match st with
  | .ref a :: r => match w.2 a with
    | some (.inr (c, fs)) => np_chk (Nat.beq c ci) (match fs[j]? with
      | some v => k (pc + 3) L (v :: r) w ce sl
      | none => False)
    | _ => False
  | _ => False
theorem nq_getf_le {ci j : Nat} : ∀ k pc L st w ce sl, nq_getf ci j k pc L st w ce sl → np_getf ci j k pc L st w ce sl := by
  intro k pc L st w ce sl h
  unfold nq_getf at h
  split at h
  · split at h
    · rename_i c fs he
      obtain ⟨h1, h2⟩ := np_chk_e h
      unfold np_getf
      simp only [he]
      exact ⟨np_beqe h1, h2⟩
    · exact h.elim
  · exact h.elim
def nq_putf (ci j : Nat) (ty : FieldType) : np_Op := fun k pc L st w ce sl => match st with
  | v :: .ref a :: r => match w.2 a with
    | some (.inr (c, fs)) => np_chk (Nat.beq c ci && Nat.ble (j + 1) fs.length) (np_chk (np_fitb ty v) (np_fl (fs.set j v) (fun fs' => k (pc + 3) L r (w.1, np_up w.2 a (.inr (ci, fs'))) ce sl)))
    | _ => False
  | _ => False
theorem nq_putf_le {ci j : Nat} {ty : FieldType} : ∀ k pc L st w ce sl, nq_putf ci j ty k pc L st w ce sl → np_putf ci j ty k pc L st w ce sl := by
  intro k pc L st w ce sl h
  unfold nq_putf at h
  split at h
  · split at h
    · rename_i c fs he
      obtain ⟨h1, h2⟩ := np_chk_e h
      obtain ⟨h3, h4⟩ := np_and h1
      obtain ⟨h5, h6⟩ := np_chk_e h2
      unfold np_putf
      simp only [he]
      exact ⟨np_beqe h3, (np_fitb_e h5).1, (np_fitb_e h5).2, np_ble h4, h6⟩
    · exact h.elim
  · exact h.elim
def nq_ialdT (ty : FieldType) : np_Op := fun k pc L st w ce sl => match st with
  | .int i :: .ref a :: r => match w.2 a with
    | some (.inl (t, n, .inl f)) => np_chk (np_tyb t ty) (np_chk (np_inb i n) (k (pc + 1) L (.int (f i.toNatClampNeg) :: r) w ce sl))
    | _ => False
  | _ => False
theorem nq_ialdT_le {ty : FieldType} : ∀ k pc L st w ce sl, nq_ialdT ty k pc L st w ce sl → np_ialdT ty k pc L st w ce sl := by
  intro k pc L st w ce sl h
  unfold nq_ialdT at h
  split at h
  · split at h
    · rename_i he
      obtain ⟨h1, h2⟩ := np_chk_e h
      obtain ⟨h3, h4⟩ := np_chk_e h2
      unfold np_ialdT
      simp only [he]
      exact ⟨np_tyb_e h1, np_inb_e h3, h4⟩
    · exact h.elim
  · exact h.elim
def nq_lald : np_Op := fun k pc L st w ce sl => match st with
  | .int i :: .ref a :: r => match w.2 a with
    | some (.inl (t, n, .inr (.inl f))) => np_chk (np_tyb t .long) (np_chk (np_inb i n) (k (pc + 1) L (.long (f i.toNatClampNeg) :: r) w ce sl))
    | _ => False
  | _ => False
theorem nq_lald_le : ∀ k pc L st w ce sl, nq_lald k pc L st w ce sl → np_lald k pc L st w ce sl := by
  intro k pc L st w ce sl h
  unfold nq_lald at h
  split at h
  · split at h
    · rename_i he
      obtain ⟨h1, h2⟩ := np_chk_e h
      obtain ⟨h3, h4⟩ := np_chk_e h2
      unfold np_lald
      simp only [he]
      exact ⟨np_tyb_e h1, np_inb_e h3, h4⟩
    · exact h.elim
  · exact h.elim
def nq_aald (C : String) : np_Op := fun k pc L st w ce sl => match st with
  | .int i :: .ref a :: r => match w.2 a with
    | some (.inl (t, n, .inr (.inr (.inr (.inr f))))) => t = .object C ∧ np_chk (np_inb i n) (match f i.toNatClampNeg with
      | some b => k (pc + 1) L (.ref b :: r) w ce sl
      | none => k (pc + 1) L (.null :: r) w ce sl)
    | _ => False
  | _ => False
theorem nq_aald_le {C : String} : ∀ k pc L st w ce sl, nq_aald C k pc L st w ce sl → np_aald C k pc L st w ce sl := by
  intro k pc L st w ce sl h
  unfold nq_aald at h
  split at h
  · split at h
    · rename_i he
      obtain ⟨h1, h2⟩ := h
      obtain ⟨h3, h4⟩ := np_chk_e h2
      unfold np_aald
      simp only [he]
      exact ⟨h1, np_inb_e h3, h4⟩
    · exact h.elim
  · exact h.elim
def nq_iastT (ty : FieldType) : np_Op := fun k pc L st w ce sl => match st with
  | .int x :: .int i :: .ref a :: r => match w.2 a with
    | some (.inl (t, n, .inl f)) => np_chk (np_tyb t ty) (np_chk (np_inb i n) (k (pc + 1) L r (w.1, np_up w.2 a (.inl (ty, n, .inl (upd f i.toNatClampNeg (vp_nar ty x))))) ce sl))
    | _ => False
  | _ => False
theorem nq_iastT_le {ty : FieldType} : ∀ k pc L st w ce sl, nq_iastT ty k pc L st w ce sl → np_iastT ty k pc L st w ce sl := by
  intro k pc L st w ce sl h
  unfold nq_iastT at h
  split at h
  · split at h
    · rename_i he
      obtain ⟨h1, h2⟩ := np_chk_e h
      obtain ⟨h3, h4⟩ := np_chk_e h2
      unfold np_iastT
      simp only [he]
      exact ⟨np_tyb_e h1, np_inb_e h3, h4⟩
    · exact h.elim
  · exact h.elim
def nq_last : np_Op := fun k pc L st w ce sl => match st with
  | .long x :: .int i :: .ref a :: r => match w.2 a with
    | some (.inl (t, n, .inr (.inl f))) => np_chk (np_tyb t .long) (np_chk (np_inb i n) (k (pc + 1) L r (w.1, np_up w.2 a (.inl (.long, n, .inr (.inl (vp_updL f i.toNatClampNeg x))))) ce sl))
    | _ => False
  | _ => False
theorem nq_last_le : ∀ k pc L st w ce sl, nq_last k pc L st w ce sl → np_last k pc L st w ce sl := by
  intro k pc L st w ce sl h
  unfold nq_last at h
  split at h
  · split at h
    · rename_i he
      obtain ⟨h1, h2⟩ := np_chk_e h
      obtain ⟨h3, h4⟩ := np_chk_e h2
      unfold np_last
      simp only [he]
      exact ⟨np_tyb_e h1, np_inb_e h3, h4⟩
    · exact h.elim
  · exact h.elim
def nq_new (ci N : Nat) (fs : List Value) (RC RS : Nat) : np_Op := fun k pc L st w ce sl => np_chk (Nat.ble (ce + 1) RC && Nat.ble (sl + N) RS) (np_force w.1 (fun n => k (pc + 3) L (.ref n :: st) (n + 1, np_up w.2 n (.inr (ci, fs))) (ce + 1) (sl + N)))
theorem nq_new_le {ci N : Nat} {fs : List Value} {RC RS : Nat} : ∀ k pc L st w ce sl, nq_new ci N fs RC RS k pc L st w ce sl → np_new ci N fs RC RS k pc L st w ce sl := by
  intro k pc L st w ce sl h
  obtain ⟨h1, h2⟩ := np_chk_e h
  obtain ⟨h3, h4⟩ := np_and h1
  exact ⟨np_ble h3, np_ble h4, h2⟩
def nq_newa (ty : FieldType) (N : Nat) (a0 : vp_A) (RC RS : Nat) : np_Op := fun k pc L st w ce sl => match st with
  | .int n :: r => np_chk (decide (n = Int32.ofNat N) && (Nat.ble (ce + 1) RC && Nat.ble (sl + N) RS)) (np_force w.1 (fun n => k (pc + 2) L (.ref n :: r) (n + 1, np_up w.2 n (.inl (ty, a0))) (ce + 1) (sl + N)))
  | _ => False
theorem nq_newa_le {ty : FieldType} {N : Nat} {a0 : vp_A} {RC RS : Nat} : ∀ k pc L st w ce sl, nq_newa ty N a0 RC RS k pc L st w ce sl → np_newa ty N a0 RC RS k pc L st w ce sl := by
  intro k pc L st w ce sl h
  unfold nq_newa at h
  split at h
  · obtain ⟨h1, h2⟩ := np_chk_e h
    obtain ⟨h3, h4⟩ := np_and h1
    obtain ⟨h5, h6⟩ := np_and h4
    exact ⟨of_decide_eq_true h3, np_ble h5, np_ble h6, h2⟩
  · exact h.elim
def nq_oinit : np_Op := fun k pc L st w ce sl => match st with
  | .ref _ :: r => np_chk (Nat.ble (r.map fun v => v.category).sum 8) (k (pc + 3) L r w ce sl)
  | _ => False
def nq_call (n : Nat) (sp : np_Sp) (maxL mc ms RC RS : Nat) : np_Op := fun k pc L st w ce sl =>
  np_chk (Nat.ble n st.length && (Nat.ble ((st.drop n).map fun v => v.category).sum 8 && (Nat.ble ((st.take n).reverse.map fun v => v.category).sum maxL && (Nat.ble (ce + mc) RC && Nat.ble (sl + ms) RS))))
    (np_fl (st.take n).reverse fun vs => sp vs w (fun r w' => k (pc + 3) L (r.toList ++ st.drop n) w' (ce + mc) (sl + ms)))
theorem nq_call_le {n : Nat} {sp : np_Sp} {maxL mc ms RC RS : Nat} : ∀ k pc L st w ce sl, nq_call n sp maxL mc ms RC RS k pc L st w ce sl → np_call n sp maxL mc ms RC RS k pc L st w ce sl := by
  intro k pc L st w ce sl h
  obtain ⟨h1, h2⟩ := np_chk_e h
  obtain ⟨h3, h4⟩ := np_and h1
  obtain ⟨h5, h6⟩ := np_and h4
  obtain ⟨h7, h8⟩ := np_and h6
  obtain ⟨h9, h10⟩ := np_and h8
  rw [np_fl_eq] at h2
  exact ⟨np_ble h3, np_ble h5, np_ble h7, np_ble h9, np_ble h10, h2⟩
def nq_callV (ci n : Nat) (sp : np_Sp) (maxL mc ms RC RS : Nat) : np_Op := fun k pc L st w ce sl => match (st.take n).reverse with
  | .ref a :: _ => match w.2 a with
    | some (.inr (c, _)) => np_chk (Nat.beq c ci) (nq_call n sp maxL mc ms RC RS k pc L st w ce sl)
    | _ => False
  | _ => False
theorem nq_callV_le {ci n : Nat} {sp : np_Sp} {maxL mc ms RC RS : Nat} : ∀ k pc L st w ce sl, nq_callV ci n sp maxL mc ms RC RS k pc L st w ce sl → np_callV ci n sp maxL mc ms RC RS k pc L st w ce sl := by
  intro k pc L st w ce sl h
  unfold nq_callV at h
  split at h
  · rename_i e1
    split at h
    · rename_i e2
      obtain ⟨h1, h2⟩ := np_chk_e h
      unfold np_callV
      simp only [e1, e2]
      exact ⟨np_beqe h1, nq_call_le _ _ _ _ _ _ _ h2⟩
    · exact h.elim
  · exact h.elim
def nq_callI (n : Nat) (sp : np_Sp) (maxL mc ms RC RS : Nat) : np_Op := fun k pc L st w ce sl => match (st.take n).reverse with
  | .ref _ :: _ => nq_call n sp maxL mc ms RC RS k pc L st w ce sl
  | _ => False
theorem nq_callI_le {n : Nat} {sp : np_Sp} {maxL mc ms RC RS : Nat} : ∀ k pc L st w ce sl, nq_callI n sp maxL mc ms RC RS k pc L st w ce sl → np_callI n sp maxL mc ms RC RS k pc L st w ce sl := by
  intro k pc L st w ce sl h
  unfold nq_callI at h
  split at h
  · rename_i e1
    unfold np_callI
    simp only [e1]
    exact ⟨trivial, nq_call_le _ _ _ _ _ _ _ h⟩
  · exact h.elim
def nq_callVX (ci n : Nat) (sp : np_SpX) (maxL mc ms RC RS : Nat) (hs : List (Nat × Nat)) : np_Op := fun k pc L st w ce sl => match (st.take n).reverse with
  | .ref a :: _ => match w.2 a with
    | some (.inr (c, _)) => np_chk (Nat.beq c ci && (Nat.ble n st.length && (Nat.ble ((st.drop n).map fun v => v.category).sum 8 && (Nat.ble ((st.take n).reverse.map fun v => v.category).sum maxL && (Nat.ble (ce + mc) RC && Nat.ble (sl + ms) RS)))))
        (np_fl (st.take n).reverse fun vs => sp vs w (fun r w' => k (pc + 3) L (r.toList ++ st.drop n) w' (ce + mc) (sl + ms)) (fun i w' => match np_fd hs i with
          | some h => np_force w'.1 (fun n => k h L [.ref n] (n + 1, w'.2) (ce + mc) (sl + ms))
          | none => False))
    | _ => False
  | _ => False
theorem nq_callVX_le {ci n : Nat} {sp : np_SpX} {maxL mc ms RC RS : Nat} {hs : List (Nat × Nat)} : ∀ k pc L st w ce sl, nq_callVX ci n sp maxL mc ms RC RS hs k pc L st w ce sl → np_callVX ci n sp maxL mc ms RC RS hs k pc L st w ce sl := by
  intro k pc L st w ce sl h
  unfold nq_callVX at h
  split at h
  · rename_i e1
    split at h
    · rename_i e2
      obtain ⟨h0, h2⟩ := np_chk_e h
      obtain ⟨h, h1⟩ := np_and h0
      obtain ⟨h3, h4⟩ := np_and h1
      obtain ⟨h5, h6⟩ := np_and h4
      obtain ⟨h7, h8⟩ := np_and h6
      obtain ⟨h9, h10⟩ := np_and h8
      rw [np_fl_eq] at h2
      unfold np_callVX
      refine ⟨?_, np_ble h3, np_ble h5, np_ble h7, np_ble h9, np_ble h10, h2⟩
      simp only [e1, e2]
      exact np_beqe h
    · exact h.elim
  · exact h.elim
def nq_mm (RC RS : Nat) : np_Op := fun k pc L st w ce sl => match st with
  | .int y :: .int x :: r => np_chk (Nat.ble (r.map fun v => v.category).sum 7 && (Nat.ble ce RC && Nat.ble sl RS)) (k (pc + 3) L (.int (if y < x then y else x) :: r) w ce sl)
  | _ => False
theorem nq_mm_le {RC RS : Nat} : ∀ k pc L st w ce sl, nq_mm RC RS k pc L st w ce sl → np_mm RC RS k pc L st w ce sl := by
  intro k pc L st w ce sl h
  unfold nq_mm at h
  split at h
  · obtain ⟨h1, h2⟩ := np_chk_e h
    obtain ⟨h3, h4⟩ := np_and h1
    obtain ⟨h5, h6⟩ := np_and h4
    exact ⟨np_ble h3, np_ble h5, np_ble h6, h2⟩
  · exact h.elim
def nq_throw (Th : np_Th) (i : Nat) : np_Op := fun _ _ _ st w ce sl => np_chk (Nat.ble (st.map fun v => v.category).sum 8) (Th i w ce sl)
theorem nq_throw_le {Th Th' : np_Th} {i : Nat} (hT : ∀ i w ce sl, Th' i w ce sl → Th i w ce sl) : ∀ k pc L st w ce sl, nq_throw Th' i k pc L st w ce sl → np_throw Th i k pc L st w ce sl := by
  intro k pc L st w ce sl h
  obtain ⟨h1, h2⟩ := np_chk_e h
  exact ⟨np_ble h1, hT _ _ _ _ h2⟩
theorem nq_ret_le {Rt Rt' : np_Rt} (hR : ∀ st w ce sl, Rt' st w ce sl → Rt st w ce sl) : ∀ k pc L st w ce sl, np_ret Rt' k pc L st w ce sl → np_ret Rt k pc L st w ce sl := fun _ _ _ _ _ _ _ h => hR _ _ _ _ h
def np_shpb : Option FieldType → List Value → Bool
  | none, [] => true
  | some .int, [.int _] => true
  | some .boolean, [.int x] => decide (x = 0) || decide (x = 1)
  | some .char, [.int x] => decide (x.toUInt32.toUInt16.toUInt32.toInt32 = x)
  | some .long, [.long _] => true
  | some (.object _), [.null] => true
  | some (.object _), [.ref _] => true
  | some (.array _), [.null] => true
  | some (.array _), [.ref _] => true
  | _, _ => false
theorem np_shpb_e {ret : Option FieldType} {st : List Value} (h : np_shpb ret st = true) : np_shp ret st := by
  unfold np_shpb at h
  split at h
  · trivial
  · trivial
  · rcases Bool.or_eq_true_iff.mp h with h | h
    · have h := of_decide_eq_true h
      subst h
      show narrow .boolean (.int 0) = .int 0
      decide
    · have h := of_decide_eq_true h
      subst h
      show narrow .boolean (.int 1) = .int 1
      decide
  · exact congrArg Value.int (of_decide_eq_true h)
  · trivial
  · trivial
  · trivial
  · trivial
  · trivial
  · cases h
def nq_rq (ret : Option FieldType) (mc ms : Nat) (Q : Option Value → np_W → Prop) : np_Rt := fun st w ce sl => np_chk (Nat.ble ce mc && Nat.ble sl ms) (np_chk (np_shpb ret st) (Q st.head? w))
theorem nq_rq_e {ret : Option FieldType} {mc ms : Nat} {Q : Option Value → np_W → Prop} {st : List Value} {w : np_W} {ce sl : Nat} (h : nq_rq ret mc ms Q st w ce sl) : np_rq ret mc ms Q st w ce sl := by
  obtain ⟨h1, h2⟩ := np_chk_e h
  obtain ⟨h3, h4⟩ := np_chk_e h2
  obtain ⟨h5, h6⟩ := np_and h1
  exact ⟨np_ble h5, np_ble h6, np_shpb_e h3, h4⟩
def nq_thq (mc ms : Nat) (QX : Nat → np_W → Prop) : np_Th := fun i w ce sl => np_chk (Nat.ble (ce + 1) mc && Nat.ble (sl + 6) ms) (QX i w)
theorem nq_thq_e {mc ms : Nat} {QX : Nat → np_W → Prop} {i : Nat} {w : np_W} {ce sl : Nat} (h : nq_thq mc ms QX i w ce sl) : np_thq mc ms QX i w ce sl := by
  obtain ⟨h1, h2⟩ := np_chk_e h
  obtain ⟨h5, h6⟩ := np_and h1
  exact ⟨np_ble h5, np_ble h6, h2⟩
def nq_in (is : np_Rt → List (Nat × np_Op)) (ret : Option FieldType) (mc ms fuel : Nat) : np_Sp := fun vs w Q =>
  np_runF (is (nq_rq ret mc ms Q)) [] (fun _ _ _ _ _ _ => False) fuel 0 (lv_args 0 vs) [] w 0 0
theorem nq_inC {y : MethodName} {cc : ByteArray} {maxL : Nat} {ret : Option FieldType} {fr lo mc ms : Nat} {is : np_Rt → List (Nat × np_Op)} (fuel : Nat) (hy : plainName y.cls = true)
    (so : ∀ (X : np_Ctx) (Rt : np_Rt), np_ok y.cls cc maxL fr lo mc ms (np_retI ret) X → np_mn X = y.name → (∀ st w ce sl, Rt st w ce sl → X.2.2.1 st w ce sl) → ∀ q ∈ is Rt, np_S X q.1 q.2) : np_C y cc maxL ret fr lo mc ms (nq_in is ret mc ms fuel) := by
  refine np_of hy ?_
  intro X vs w Q hsp hX hmn hRt _
  refine np_soundF (so X _ hX hmn (fun st w' ce sl h => ?_)) (heads := []) (Hd := fun _ _ _ _ _ _ => False) (fun _ _ _ _ _ _ h => h.elim) fuel 0 _ _ _ _ _ hsp
  rw [hRt]
  have h := nq_rq_e h
  exact ⟨h.1, h.2.1, np_shp_shape h.2.2.1, w'.2, fun _ _ h9 => h9, h.2.2.2⟩
def nq_inX (is : np_Rt → np_Th → List (Nat × np_Op)) (ret : Option FieldType) (mc ms fuel : Nat) : np_SpX := fun vs w Q QX =>
  np_runF (is (nq_rq ret mc ms Q) (nq_thq mc ms QX)) [] (fun _ _ _ _ _ _ => False) fuel 0 (lv_args 0 vs) [] w 0 0
theorem nq_inCX {y : MethodName} {cc : ByteArray} {maxL : Nat} {ret : Option FieldType} {fr lo mc ms : Nat} {is : np_Rt → np_Th → List (Nat × np_Op)} (fuel : Nat) (hy : plainName y.cls = true) (hfr : 6 ≤ fr) (hlo : 100 ≤ lo)
    (so : ∀ (X : np_Ctx) (Rt : np_Rt) (Th : np_Th), np_ok y.cls cc maxL fr lo mc ms (np_retI ret) X → np_mn X = y.name → (∀ st w ce sl, Rt st w ce sl → X.2.2.1 st w ce sl) → (∀ i w ce sl, Th i w ce sl → X.2.2.2 i w ce sl) → ∀ q ∈ is Rt Th, np_S X q.1 q.2) : np_CX y cc maxL ret fr lo mc ms (nq_inX is ret mc ms fuel) := by
  refine np_ofX hy hfr hlo ?_
  intro X vs w Q QX hsp hX hmn hRt hTh
  exact np_soundF (so X _ _ hX hmn (fun st w' ce sl h => by rw [hRt]; exact nq_rq_e h) (fun i w' ce sl h => by rw [hTh]; exact nq_thq_e h)) (heads := []) (Hd := fun _ _ _ _ _ _ => False) (fun _ _ _ _ _ _ h => h.elim) fuel 0 _ _ _ _ _ hsp
theorem nq_inCW {y : MethodName} {cc : ByteArray} {maxL : Nat} {ret : Option FieldType} {hh : List (Nat × Nat × Nat × Nat)} {fr lo mc ms : Nat} {is : np_Rt → List (Nat × np_Op)} (fuel : Nat) (hy : plainName y.cls = true)
    (so : ∀ (X : np_Ctx) (Rt : np_Rt), np_ok y.cls cc maxL fr lo mc ms (np_retI ret) X → np_tab X = tableOf hh → (∀ st w ce sl, Rt st w ce sl → X.2.2.1 st w ce sl) → ∀ q ∈ is Rt, np_S X q.1 q.2) : np_CW y cc maxL ret hh fr lo mc ms (nq_in is ret mc ms fuel) := by
  intro l hlt D cA ad w vs sz Q hcat hsp
  refine va_MetW (cc := cc) (maxL := maxL) (ret := ret) (hh := hh) hy rfl ?_
  intro p e s m args below meth c s₁ B hml hv
  obtain ⟨rfl, hsz, hO, hcv, hK, hsd, hzq⟩ := hv
  subst hsz
  have hlen : (lg_sl (vs.map (np_v ad))).length ≤ maxL := by rw [np_lgsl_len, np_cat_sum]; exact hcat
  have hl := lv_entry (vs.map (np_v ad)) (n := maxL) hlen
  rw [lg_entry_eq]
  generalize (lg_sl (vs.map (np_v ad)) ++ List.replicate (maxL - (lg_sl (vs.map (np_v ad))).length) Slot.unset).toArray = ls at hl ⊢
  rw [np_args_map] at hl
  have hr := B.returns
  have hA : ∀ q, s.heap.size ≤ q → np_A ad w s.heap.size q := fun q hq => Or.inr hq
  have htab : c.exceptionTable.toList = tableOf hh := vx_table (l := l) (x := y) B (atoms_spec (ws := [Cond.codeWith y cc maxL ret hh]) B.pre _ List.mem_cons_self)
  have hX : np_ok y.cls cc maxL fr lo mc ms (np_retI ret) ((p, l, e, { frames := fr, cells := mc, slots := ms, locals := lo }, s, m, (vs.map (np_v ad)).toArray, below, meth, c), (MQ below (np_Qc D cA ad w s.heap.size Q) (vs.map (np_v ad)).toArray s mc ms (np_A ad w s.heap.size), D, cA, np_A ad w s.heap.size, ad, w.1, maxL), np_rq ret mc ms Q, fun _ _ _ _ => False) := by
    refine ⟨B.exec, B.bytes, hml, rfl, findClass_of_methodNamed B.named, hsd, hK, hA, Nat.le_refl _, Nat.le_refl _, Nat.le_refl _, Nat.le_refl _, ?_, hlt, hzq, fun _ _ _ _ h => absurd h id⟩
    intro st w' ce sl hrt pc H locs ad' ls' hd hp
    obtain ⟨h1, h2, h3, h4⟩ := hrt
    have h3 := np_shp_shape h3
    refine W.widen (k := mc) (n := ms) h1 h2 ?_
    have hq : ∀ t : State, t.heap = H → s.WarmedH t.vm → np_Qc D cA ad w s.heap.size Q (vs.map (np_v ad)).toArray s (.returned (st.head?.map (np_v ad'))) t := fun t ht hW =>
      ⟨⟨st.head?, w', ad', rfl, h4, by rw [ht]; exact hp.1, fun v hv => hp.2.2.1 v (by
        cases st with
        | nil => cases hv
        | cons a r =>
          have : v = a := by simpa using hv
          rw [this]
          exact List.mem_cons_self), hp.2.2.2.2.2, hp.2.2.2.2.1⟩, hp.2.2.2.1.F ht⟩
    have hf := hp.2.2.2.1.2.2
    have hlocks := B.notSynchronized
    unfold np_shape at h3
    split at h3
    · subst h3
      exact W.vret B.exec B.bytes hr hq hf hd
    · obtain ⟨x, rfl⟩ := h3
      exact W.iret B.exec B.bytes hr hq hf hd
    · obtain ⟨x, rfl, hx9⟩ := h3
      exact W.zret B.exec B.bytes hr hx9 hq hf hd
    · obtain ⟨x, rfl, hx9⟩ := h3
      exact W.zret B.exec B.bytes hr hx9 hq hf hd
    · obtain ⟨x, rfl⟩ := h3
      exact W.lret B.exec B.bytes hr hq hf hd
    · rcases h3 with rfl | ⟨k, rfl⟩
      · exact W.aret B.exec B.bytes hr (Or.inl ⟨_, rfl⟩) (Or.inl rfl) hq hf hd
      · exact W.aret B.exec B.bytes hr (Or.inl ⟨_, rfl⟩) (Or.inr ⟨_, rfl⟩) hq hf hd
    · rcases h3 with rfl | ⟨k, rfl⟩
      · exact W.aret B.exec B.bytes hr (Or.inr ⟨_, rfl⟩) (Or.inl rfl) hq hf hd
      · exact W.aret B.exec B.bytes hr (Or.inr ⟨_, rfl⟩) (Or.inr ⟨_, rfl⟩) hq hf hd
    · exact absurd h3 id
  have hG := np_soundF (so _ _ hX htab (fun _ _ _ _ h => nq_rq_e h)) (heads := []) (Hd := fun _ _ _ _ _ _ => False) (fun _ _ _ _ _ _ h => h.elim) fuel 0 _ _ _ _ _ hsp
  exact hG s.heap [] ad ls hl ⟨hO.weaken (fun k e hk _ => Or.inl ⟨k, e, hk, rfl⟩), np_args_c vs 0 hcv, (fun _ h => nomatch h), va_S.rf, fun _ _ => rfl, Nat.le_refl _⟩
