/-! The start of a press: a world is read as another one that tells the same. -/
def np_eqv : np_E → np_E → Prop
  | .inl (t, n, .inl f), .inl (t', n', .inl f') => t = t' ∧ n = n' ∧ ∀ j, j < n → f j = f' j
  | .inl (t, n, .inr (.inr (.inr (.inr f)))), .inl (t', n', .inr (.inr (.inr (.inr f')))) => t = t' ∧ n = n' ∧ ∀ j, j < n → f j = f' j
  | e, e' => e = e'
theorem np_arr_eq {c : ClassId} {n : Nat} {f g : Nat → Value} (h : ∀ j, j < n → f j = g j) : arrV c n f = arrV c n g := by
  unfold arrV
  have e : (fun j : Fin n => f j.val) = fun j : Fin n => g j.val := funext fun j => h j.val j.isLt
  rw [e]
theorem np_eqv.at {e e' : np_E} (h : np_eqv e e') {D : va_G} {cA : FieldType → ClassId} {ad : Nat → Nat} {p : Nat} {H : Heap} (ha : va_at D vwCl (p, np_e cA ad e) H) : va_at D vwCl (p, np_e cA ad e') H := by
  unfold np_eqv at h
  split at h
  · rename_i t n f t' n' f'
    obtain ⟨rfl, rfl, h3⟩ := h
    have ha : H[p]? = some (arrV (cA t) n (fun j => .int (f j))) := ha
    show H[p]? = some (arrV (cA t) n (fun j => .int (f' j)))
    rw [ha, np_arr_eq (fun j hj => by rw [h3 j hj])]
  · rename_i t n f t' n' f'
    obtain ⟨rfl, rfl, h3⟩ := h
    have ha : H[p]? = some (arrV (cA t) n (fun j => va_rf ((f j).map ad))) := ha
    show H[p]? = some (arrV (cA t) n (fun j => va_rf ((f' j).map ad)))
    rw [ha, np_arr_eq (fun j hj => by rw [h3 j hj])]
  · rw [← h]
    exact ha
theorem np_raise {X : np_Ctx} {pc : Nat} {L : np_L} {st : List Value} {n N : Nat} {f f' : Nat → Option np_E} {ce sl : Nat} (hn : n ≤ N) (hf : ∀ k e', f' k = some e' → np_ce N e' ∧ ∃ e, f k = some e ∧ np_eqv e e' ∧ (np_te e → np_te e')) (h : np_G X pc L st (N, f') ce sl) : np_G X pc L st (n, f) ce sl := by
  obtain ⟨⟨p, l, e, R, s, m, args, below, meth, c⟩, ⟨Q, D, cA, A, ad0, n0, nL'⟩, Rt, Th⟩ := X
  intro H locs ad ls hl hp
  refine h H locs ad ls hl ⟨⟨fun k e' hk => ?_, fun j k e1 e2 hj hk z => ?_⟩, fun q hq => (hp.2.1 q hq).mono hn, fun v hv => (hp.2.2.1 v hv).mono hn, hp.2.2.2.1, hp.2.2.2.2.1, Nat.le_trans hp.2.2.2.2.2 hn⟩
  · obtain ⟨h1, e0, h2, h3, h4⟩ := hf k e' hk
    obtain ⟨u1, u2, u3, u4, u5⟩ := hp.1.1 k e0 h2
    exact ⟨h3.at u1, u2, h1, h4 u4, Nat.lt_of_lt_of_le u5 hn⟩
  · obtain ⟨-, x1, h1, -⟩ := hf j e1 hj
    obtain ⟨-, x2, h2, -⟩ := hf k e2 hk
    exact hp.1.2 j k x1 x2 h1 h2 z
/-- what lies in a range of places, as a constructor left it (not to be worked out on the way) -/
def rkD (lo hi k n : Nat) (g f : Nat → Option np_E) : Prop := ∀ j, lo ≤ j → j < hi → f j = (g (j - n + 1)).map (np_rn (np_rh k n))
theorem rk_x : ∃ F : Nat → Nat → Nat → Nat → (Nat → Option np_E) → (Nat → Option np_E) → Prop, ∀ lo hi k n g f, F lo hi k n g f = rkD lo hi k n g f := ⟨rkD, fun _ _ _ _ _ _ => rfl⟩
noncomputable def rk (lo hi k n : Nat) (g f : Nat → Option np_E) : Prop := Classical.choose rk_x lo hi k n g f
theorem rk_eq (lo hi k n : Nat) (g f : Nat → Option np_E) : rk lo hi k n g f = rkD lo hi k n g f := Classical.choose_spec rk_x lo hi k n g f
theorem rk_base {lo hi k n : Nat} {g f : Nat → Option np_E} (h1 : Nat.blt k lo = true) (h2 : Nat.ble n lo = true) : rk lo hi k n g (np_ren k n g f) := by
  rw [rk_eq]
  intro j h3 h4
  have h1 := pw_blt h1
  have h2 := Nat.le_of_ble_eq_true h2
  unfold np_ren
  rw [np_bne (show j ≠ k by omega), show Nat.blt j n = false from by
    cases hb : Nat.blt j n with
    | false => rfl
    | true => exact absurd (pw_blt hb) (by omega)]
theorem rk_out {q lo hi j : Nat} (hq : (Nat.blt q lo || Nat.ble hi q) = true) (h1 : lo ≤ j) (h2 : j < hi) : j ≠ q := by
  rcases Bool.or_eq_true_iff.mp hq with h | h
  · have := pw_blt h
    omega
  · have := Nat.le_of_ble_eq_true h
    omega
theorem rk_up {lo hi k n q : Nat} {g f : Nat → Option np_E} {e : np_E} (hq : (Nat.blt q lo || Nat.ble hi q) = true) (h : rk lo hi k n g f) : rk lo hi k n g (np_up f q e) := by
  rw [rk_eq] at h ⊢
  intro j h1 h2
  rw [np_up_n _ _ (rk_out hq h1 h2)]
  exact h j h1 h2
theorem rk_ren {lo hi k n k' n' : Nat} {g g' f : Nat → Option np_E} (hq : (Nat.blt k' lo || Nat.ble hi k') = true) (h2 : Nat.ble hi n' = true) (h : rk lo hi k n g f) : rk lo hi k n g (np_ren k' n' g' f) := by
  rw [rk_eq] at h ⊢
  intro j h3 h4
  have h2 := Nat.le_of_ble_eq_true h2
  unfold np_ren
  rw [np_bne (rk_out hq h3 h4), show Nat.blt j n' = true from Nat.ble_eq_true_of_le (by omega)]
  exact h j h3 h4
/-- the state at the start -/
def pS0 : pw_S := fun a _ => match Nat.beq a 0 with
  | true => np_fa 24 (-2147483648) (fun _ => 0)
  | false => match Nat.beq a 14 with
  | true => np_fa 256 (-1) (fun _ => 0)
  | false => match Nat.beq a 15 with
  | true => np_fa 256 (-1) (fun _ => 0)
  | false => match Nat.beq a 19 with
  | true => np_fa 8 (-1) (fun _ => 0)
  | false => match Nat.beq a 35 with
  | true => np_fa 24 (-2147483648) (fun _ => 0)
  | false => match Nat.beq a 53 with
  | true => fun j => match Nat.beq j 2 with
    | true => 1
    | false => 0
  | false => match Nat.beq a 54 with
  | true => fun j => match Nat.beq j 5 with
    | true => -1
    | false => 0
  | false => match Nat.beq a 55 with
  | true => fun j => match Nat.beq j 2 with
    | true => -1
    | false => 0
  | false => match Nat.beq a 59 with
  | true => fun j => match Nat.beq j 5 with
    | true => 7
    | false => match Nat.beq j 6 with
      | true => 2
      | false => 0
  | false => fun _ => 0
theorem pS0_I : px_I pS0 0 := by
  refine ⟨0, 0, 0, 0, 0, 0, ⟨⟨fun _ => (0, fun _ => 0, fun _ => 0, fun _ => 0, fun _ => 0), fun _ => 0, ⟨rfl, Nat.zero_le _, fun d hd => absurd hd (Nat.not_lt_zero d)⟩, rfl, fun d _ _ => rfl, (0, fun _ => 0, fun _ => 0, fun _ => 0, fun _ => 0), ⟨rfl, Nat.zero_le _, fun k hk => absurd hk (Nat.not_lt_zero k)⟩, rfl⟩, fun f hf => ⟨0, 1, 0, 0, 0, 0, 0, ⟨rfl, Nat.zero_le _, rfl, Nat.le_refl _, fun k hk => absurd hk (Nat.not_lt_zero k)⟩, ⟨rfl, rfl, rfl, rfl, rfl, Nat.le_refl _, fun r hr => absurd hr (Nat.not_lt_zero r), fun s hs b hb => ⟨?_, ?_, fun r hr => absurd hr (Nat.not_lt_zero r)⟩⟩, ⟨rfl, rfl, rfl, rfl, rfl, rfl⟩, Nat.le_refl _, Nat.le_refl _, Nat.zero_le _, fun _ => ⟨rfl, rfl, rfl⟩⟩, ⟨rfl, rfl, Nat.zero_le _, fun k hk => absurd hk (Nat.not_lt_zero k)⟩, ⟨fun _ _ => [], ⟨rfl, Nat.zero_le _, fun u hu => absurd hu (Nat.not_lt_zero u)⟩, rfl, fun j hj => ?_⟩, rfl, Nat.zero_le _, rfl, Nat.le_refl _, rfl⟩, Nat.le_refl _⟩
  · show (if s * 32 + b < 256 then (-1 : Int32) else 0) = -1
    rw [if_pos (by omega)]
  · show (if s * 32 + b < 256 then (-1 : Int32) else 0) = -1
    rw [if_pos (by omega)]
  · show (if j < 8 then (-1 : Int32) else 0) = -1
    rw [if_pos hj]
