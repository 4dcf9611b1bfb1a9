/-! Upgrades: lists of parts, and what they tell. -/
abbrev uP : Type := Int32 × Int32
def uf (x : Int64) : Int32 := if (lg_cmp x (-2147483648)) < 0 then -2147483648 else if (lg_cmp x 2147483647) ≤ 0 then x.toInt32 else -2147483648
def uj (a b : Int32) : Int32 := if a = -2147483648 then -2147483648 else if b = -2147483648 then -2147483648 else uf ((100 * a.toInt64) + b.toInt64)
def ufd (a b : Int32) : Int32 := if 0 ≤ (a ^^^ b) then a / b else if a / b * b = a then a / b else a / b - 1
def ufm (a b : Int32) : Int32 := if 0 ≤ (a ^^^ b) then a - a / b * b else if a - a / b * b = 0 then a - a / b * b else a - a / b * b + b
def uw (k n v : Int32) : Int32 := if v = -2147483648 then -2147483648 else if k = 2 then uf (v.toInt64 + n.toInt64) else if k = 3 then uf (v.toInt64 * n.toInt64) else if 1 ≤ n then (if k = 5 then ufd v n else ufm v n) else -2147483648
def uo2 : List Int32 → Option (List Int32)
  | a :: b :: t => some (uj a b :: t)
  | _ => none
def uo1 (k n : Int32) : List Int32 → Option (List Int32)
  | a :: t => some (uw k n a :: t)
  | [] => none
def uo (R : Int32 → Int32) (p : uP) (st : List Int32) : Option (List Int32) := if p.1 = 0 then some (R p.2 :: st) else if p.1 = 1 then some (p.2 :: st) else if p.1 = 4 then uo2 st else uo1 p.1 p.2 st
def uob (R : Int32 → Int32) (p : uP) : Option (List Int32) → Option (List Int32)
  | none => none
  | some st => uo R p st
def ue (R : Int32 → Int32) : List uP → Option (List Int32)
  | [] => some []
  | p :: r => uob R p (ue R r)
theorem uj_1 (b : Int32) : uj (-2147483648) b = -2147483648 := if_pos rfl
theorem uj_2 (a : Int32) : uj a (-2147483648) = -2147483648 := by
  unfold uj
  by_cases h : a = -2147483648
  · rw [if_pos h]
  · rw [if_neg h, if_pos rfl]
theorem uw_N (k n : Int32) : uw k n (-2147483648) = -2147483648 := if_pos rfl
/-- the ways of a part -/
theorem uo_cases {R : Int32 → Int32} {p : uP} {st st' : List Int32} (h : uo R p st = some st') : (p.1 = 0 ∧ st' = R p.2 :: st) ∨ (p.1 = 1 ∧ st' = p.2 :: st) ∨ (p.1 = 4 ∧ ∃ a b t, st = a :: b :: t ∧ st' = uj a b :: t) ∨ (p.1 ≠ 0 ∧ p.1 ≠ 1 ∧ p.1 ≠ 4 ∧ ∃ a t, st = a :: t ∧ st' = uw p.1 p.2 a :: t) := by
  unfold uo at h
  by_cases h0 : p.1 = 0
  · rw [if_pos h0] at h
    exact Or.inl ⟨h0, (Option.some.inj h).symm⟩
  · rw [if_neg h0] at h
    by_cases h1 : p.1 = 1
    · rw [if_pos h1] at h
      exact Or.inr (Or.inl ⟨h1, (Option.some.inj h).symm⟩)
    · rw [if_neg h1] at h
      by_cases h4 : p.1 = 4
      · rw [if_pos h4] at h
        cases st with
        | nil => cases h
        | cons a t =>
          cases t with
          | nil => cases h
          | cons b t => exact Or.inr (Or.inr (Or.inl ⟨h4, a, b, t, rfl, (Option.some.inj h).symm⟩))
      · rw [if_neg h4] at h
        cases st with
        | nil => cases h
        | cons a t => exact Or.inr (Or.inr (Or.inr ⟨h0, h1, h4, a, t, rfl, (Option.some.inj h).symm⟩))
theorem uo_0 {R : Int32 → Int32} {p : uP} (st : List Int32) (h : p.1 = 0) : uo R p st = some (R p.2 :: st) := if_pos h
theorem uo_1 {R : Int32 → Int32} {p : uP} (st : List Int32) (h : p.1 = 1) : uo R p st = some (p.2 :: st) := by
  unfold uo
  rw [if_neg (by rw [h]; decide), if_pos h]
theorem uo_4 {R : Int32 → Int32} {p : uP} (a b : Int32) (t : List Int32) (h : p.1 = 4) : uo R p (a :: b :: t) = some (uj a b :: t) := by
  unfold uo
  rw [if_neg (by rw [h]; decide), if_neg (by rw [h]; decide), if_pos h]
  rfl
theorem uo_u {R : Int32 → Int32} {p : uP} (a : Int32) (t : List Int32) (h0 : p.1 ≠ 0) (h1 : p.1 ≠ 1) (h4 : p.1 ≠ 4) : uo R p (a :: t) = some (uw p.1 p.2 a :: t) := by
  unfold uo
  rw [if_neg h0, if_neg h1, if_neg h4]
  rfl
theorem ue_some {R : Int32 → Int32} {p : uP} {r : List uP} {st : List Int32} (h : ue R (p :: r) = some st) : ∃ s, ue R r = some s ∧ uo R p s = some st := by
  cases hr : ue R r with
  | none =>
    have e : ue R (p :: r) = uob R p (ue R r) := rfl
    rw [e, hr] at h
    cases h
  | some s =>
    have e : ue R (p :: r) = uob R p (ue R r) := rfl
    rw [e, hr] at h
    exact ⟨s, rfl, h⟩
theorem ue_cons {R : Int32 → Int32} {p : uP} {r : List uP} {s st : List Int32} (h : ue R r = some s) (h2 : uo R p s = some st) : ue R (p :: r) = some st := by
  have e : ue R (p :: r) = uob R p (ue R r) := rfl
  rw [e, h]
  exact h2
theorem ue_len {R : Int32 → Int32} : ∀ (L : List uP) (st : List Int32), ue R L = some st → st.length ≤ L.length := by
  intro L
  induction L with
  | nil =>
    intro st h
    rw [← Option.some.inj h]
    exact Nat.le_refl _
  | cons p r ih =>
    intro st h
    obtain ⟨s, h1, h2⟩ := ue_some h
    have h3 := ih s h1
    rcases uo_cases h2 with ⟨-, rfl⟩ | ⟨-, rfl⟩ | ⟨-, a, b, t, rfl, rfl⟩ | ⟨-, -, -, a, t, rfl, rfl⟩
    · simp only [List.length_cons] at h3 ⊢
      omega
    · simp only [List.length_cons] at h3 ⊢
      omega
    · simp only [List.length_cons] at h3 ⊢
      omega
    · simp only [List.length_cons] at h3 ⊢
      omega
theorem ue_drop {R : Int32 → Int32} {L : List uP} {st : List Int32} (h : ue R L = some st) : ∀ n, ∃ s, ue R (L.drop n) = some s := by
  induction L generalizing st with
  | nil =>
    intro n
    rw [List.drop_nil]
    exact ⟨[], rfl⟩
  | cons p r ih =>
    intro n
    cases n with
    | zero => exact ⟨st, h⟩
    | succ n =>
      obtain ⟨s, h1, -⟩ := ue_some h
      exact ih h1 n
theorem uo_app {R : Int32 → Int32} {p : uP} {st st' : List Int32} (h : uo R p st = some st') (s2 : List Int32) : uo R p (st ++ s2) = some (st' ++ s2) := by
  rcases uo_cases h with ⟨h0, rfl⟩ | ⟨h1, rfl⟩ | ⟨h4, a, b, t, rfl, rfl⟩ | ⟨h0, h1, h4, a, t, rfl, rfl⟩
  · exact uo_0 _ h0
  · exact uo_1 _ h1
  · exact uo_4 _ _ _ h4
  · exact uo_u _ _ h0 h1 h4
theorem ue_app {R : Int32 → Int32} {M : List uP} {s2 : List Int32} (h2 : ue R M = some s2) : ∀ (L : List uP) (s1 : List Int32), ue R L = some s1 → ue R (L ++ M) = some (s1 ++ s2) := by
  intro L
  induction L with
  | nil =>
    intro s1 h
    rw [← Option.some.inj h]
    exact h2
  | cons p r ih =>
    intro s1 h
    obtain ⟨s, a1, a2⟩ := ue_some h
    exact ue_cons (ih s a1) (uo_app a2 s2)
/-- parts of an old slot are put in its place -/
def usb (F : Int32 → List uP) (p : uP) : List uP := if p.1 = 0 then F p.2 else [p]
theorem ue_sub {R R' : Int32 → Int32} {F : Int32 → List uP} : ∀ (L : List uP) (st : List Int32), (∀ p, p ∈ L → p.1 = 0 → ue R (F p.2) = some [R' p.2]) → ue R' L = some st → ue R (L.flatMap (usb F)) = some st := by
  intro L
  induction L with
  | nil => intro st _ h; exact h
  | cons p r ih =>
    intro st hF h
    obtain ⟨s, a1, a2⟩ := ue_some h
    have b := ih s (fun q hq => hF q (List.mem_cons_of_mem _ hq)) a1
    rw [List.flatMap_cons]
    by_cases h0 : p.1 = 0
    · have c := ue_app b _ _ (hF p List.mem_cons_self h0)
      rw [uo_0 s h0] at a2
      unfold usb
      rw [if_pos h0, ← Option.some.inj a2]
      exact c
    · unfold usb
      rw [if_neg h0]
      refine ue_cons b ?_
      rw [← a2]
      unfold uo
      rw [if_neg h0, if_neg h0]
theorem ue_taint {R : Int32 → Int32} {p : uP} (h0 : p.1 = 0) (hN : R p.2 = -2147483648) : ∀ (L : List uP) (st : List Int32), p ∈ L → ue R L = some st → -2147483648 ∈ st := by
  intro L
  induction L with
  | nil => intro st h; cases h
  | cons q r ih =>
    intro st hm h
    obtain ⟨s, a1, a2⟩ := ue_some h
    by_cases hq : p ∈ r
    · have b := ih s hq a1
      rcases uo_cases a2 with ⟨-, rfl⟩ | ⟨-, rfl⟩ | ⟨-, a, b2, t, rfl, rfl⟩ | ⟨-, -, -, a, t, rfl, rfl⟩
      · exact List.mem_cons_of_mem _ b
      · exact List.mem_cons_of_mem _ b
      · rcases List.mem_cons.mp b with e | b
        · rw [← e, uj_1]
          exact List.mem_cons_self
        · rcases List.mem_cons.mp b with e | b
          · rw [← e, uj_2]
            exact List.mem_cons_self
          · exact List.mem_cons_of_mem _ b
      · rcases List.mem_cons.mp b with e | b
        · rw [← e, uw_N]
          exact List.mem_cons_self
        · exact List.mem_cons_of_mem _ b
    · rcases List.mem_cons.mp hm with e | e
      · subst e
        rw [uo_0 s h0, hN] at a2
        rw [← Option.some.inj a2]
        exact List.mem_cons_self
      · exact absurd e hq
/-! whole ones -/
def uwf (L : List uP) : Prop := ∀ R : Int32 → Int32, ∃ v, ue R L = some [v]
def uvo : Option (List Int32) → Int32
  | some [v] => v
  | _ => -2147483648
def uv (R : Int32 → Int32) (L : List uP) : Int32 := uvo (ue R L)
theorem uwf.e {L : List uP} (h : uwf L) (R : Int32 → Int32) : ue R L = some [uv R L] := by
  obtain ⟨v, hv⟩ := h R
  unfold uv
  rw [hv]
  rfl
theorem uv_nil (R : Int32 → Int32) : uv R [] = -2147483648 := rfl
theorem uv_taint {L : List uP} (h : uwf L) {R : Int32 → Int32} {p : uP} (hp : p ∈ L) (h0 : p.1 = 0) (hN : R p.2 = -2147483648) : uv R L = -2147483648 := by
  have b := ue_taint h0 hN L _ hp (h.e R)
  rcases List.mem_cons.mp b with e | b
  · exact e.symm
  · cases b
theorem uwf_0 (n : Int32) : uwf [(0, n)] := fun R => ⟨R n, rfl⟩
theorem uwf_1 (n : Int32) : uwf [(1, n)] := fun R => ⟨n, rfl⟩
theorem uwf_u {L : List uP} (h : uwf L) {k n : Int32} (h0 : k ≠ 0) (h1 : k ≠ 1) (h4 : k ≠ 4) : uwf ((k, n) :: L) := fun R => by
  obtain ⟨v, hv⟩ := h R
  exact ⟨uw k n v, ue_cons hv (uo_u (p := (k, n)) v [] h0 h1 h4)⟩
theorem uwf_4 (n a b : Int32) : uwf [(4, n), (0, a), (0, b)] := fun R => ⟨uj (R a) (R b), ue_cons (s := [R a, R b]) rfl (uo_4 (p := (4, n)) _ _ _ rfl)⟩
theorem uwf_sub {L : List uP} (h : uwf L) {F : Int32 → List uP} (hF : ∀ p, p ∈ L → p.1 = 0 → uwf (F p.2)) : uwf (L.flatMap (usb F)) := fun R => ⟨uv (fun n => uv R (F n)) L, ue_sub (R' := fun n => uv R (F n)) L _ (fun p h1 h2 => (hF p h1 h2).e R) (h.e _)⟩
theorem uv_sub {L : List uP} (h : uwf L) {F : Int32 → List uP} (hF : ∀ p, p ∈ L → p.1 = 0 → uwf (F p.2)) (R : Int32 → Int32) : uv R (L.flatMap (usb F)) = uv (fun n => uv R (F n)) L := by
  have e := ue_sub (R := R) (R' := fun n => uv R (F n)) L _ (fun p h1 h2 => (hF p h1 h2).e R) (h.e _)
  have e2 : uv R (L.flatMap (usb F)) = uvo (ue R (L.flatMap (usb F))) := rfl
  rw [e2, e]
  rfl
theorem uwf_ne {L : List uP} (h : uwf L) : L ≠ [] := fun z => by
  obtain ⟨v, hv⟩ := h (fun _ => 0)
  rw [z] at hv
  cases hv
/-! the parts of all slots, one behind the other -/
def ul (L : Nat → List uP) : Nat → List uP
  | 0 => []
  | n + 1 => ul L n ++ L n
theorem ul_split (L : Nat → List uP) (s : Nat) : ∀ n, s < n → ∃ M, ul L n = ul L s ++ (L s ++ M) := by
  intro n
  induction n with
  | zero => intro h; exact absurd h (Nat.not_lt_zero s)
  | succ n ih =>
    intro h
    by_cases e : s = n
    · refine ⟨[], ?_⟩
      rw [e, List.append_nil]
      rfl
    · obtain ⟨M, hM⟩ := ih (by omega)
      refine ⟨M ++ L n, ?_⟩
      show ul L n ++ L n = _
      rw [hM, List.append_assoc, List.append_assoc]
theorem ul_cong {L L' : Nat → List uP} : ∀ n, (∀ s, s < n → L s = L' s) → ul L n = ul L' n := by
  intro n
  induction n with
  | zero => intro _; rfl
  | succ n ih =>
    intro h
    show ul L n ++ L n = ul L' n ++ L' n
    rw [ih (fun s hs => h s (by omega)), h n (by omega)]
theorem ul_get {L : Nat → List uP} {s n i : Nat} (hs : s < n) (hi : i < (L s).length) : (ul L n).getD ((ul L s).length + i) (0, 0) = (L s).getD i (0, 0) ∧ (ul L s).length + i < (ul L n).length := by
  obtain ⟨M, hM⟩ := ul_split L s n hs
  rw [hM]
  refine ⟨?_, ?_⟩
  · rw [List.getD_eq_getElem?_getD, List.getD_eq_getElem?_getD, List.getElem?_append_right (Nat.le_add_right _ _), Nat.add_sub_cancel_left, List.getElem?_append_left hi]
  · rw [List.length_append, List.length_append]
    omega
theorem ul_le {L : Nat → List uP} {s n : Nat} (hs : s ≤ n) : (ul L s).length ≤ (ul L n).length := by
  by_cases e : s = n
  · rw [e]
    exact Nat.le_refl _
  · obtain ⟨M, hM⟩ := ul_split L s n (by omega)
    rw [hM, List.length_append]
    exact Nat.le_add_right _ _
