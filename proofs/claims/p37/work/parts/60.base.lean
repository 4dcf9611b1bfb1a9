/-! Part 2 begins here: the mirrored programs worked out. First numbers and states. -/
theorem py_l {σ β : Type} (x : σ) (k : σ → β) : pw_l x k = k x := rfl
theorem py_b {α β : Type} (S : pw_S) (r : α) (k : pw_S → α → pw_R β) : pw_b (some (S, r)) k = k S r := rfl
theorem py_c {β : Type} (o : pw_R β) : pw_c true o = o := rfl
theorem py_ct {β : Type} {b : Bool} (h : b = true) (o : pw_R β) : pw_c b o = o := by rw [h]; rfl
theorem py_on {β : Type} (a : pw_R β) (b : Nat → pw_R β) : pw_o none a b = a := rfl
theorem py_os {β : Type} (i : Nat) (a : pw_R β) (b : Nat → pw_R β) : pw_o (some i) a b = b i := rfl
theorem py_el {α β : Type} (v : α) (a : α → pw_R β) (b : Nat → pw_R β) : pw_e (.inl v) a b = a v := rfl
theorem py_er {α β : Type} (v : Nat) (a : α → pw_R β) (b : Nat → pw_R β) : pw_e (.inr v) a b = b v := rfl
theorem py_F (k : Nat) : pw_F k = k := pw_F_eq k
theorem py_ti {n : Nat} (h : n < 2147483648) : (Int32.ofNat n).toInt = (n : Int) := Int32.toInt_ofNat_of_lt h
theorem py_lt {a b : Nat} (ha : a < 2147483648) (hb : b < 2147483648) : (Int32.ofNat a < Int32.ofNat b) = (a < b) := by
  rw [Int32.lt_iff_toInt_lt, py_ti ha, py_ti hb]
  exact propext Int.ofNat_lt
theorem py_le {a b : Nat} (ha : a < 2147483648) (hb : b < 2147483648) : (Int32.ofNat a ≤ Int32.ofNat b) = (a ≤ b) := by
  rw [Int32.le_iff_toInt_le, py_ti ha, py_ti hb]
  exact propext Int.ofNat_le
theorem py_eq {a b : Nat} (ha : a < 2147483648) (hb : b < 2147483648) : (Int32.ofNat a = Int32.ofNat b) = (a = b) := by
  apply propext
  constructor
  · intro h
    have h2 := congrArg Int32.toInt h
    rw [py_ti ha, py_ti hb] at h2
    exact Int.ofNat.inj h2
  · intro h
    rw [h]
theorem py_cl {a : Nat} (ha : a < 2147483648) : (Int32.ofNat a).toNatClampNeg = a := by
  show (Int32.ofNat a).toInt.toNat = a
  rw [py_ti ha]
  rfl
theorem py_add (a b : Nat) : Int32.ofNat a + Int32.ofNat b = Int32.ofNat (a + b) := (Int32.ofNat_add a b).symm
theorem py_mul (a b : Nat) : Int32.ofNat a * Int32.ofNat b = Int32.ofNat (a * b) := (Int32.ofNat_mul a b).symm
theorem py_add1 (a : Nat) : Int32.ofNat a + 1 = Int32.ofNat (a + 1) := (Int32.ofNat_add a 1).symm
theorem py_sub {a b : Nat} (h : b ≤ a) : Int32.ofNat a - Int32.ofNat b = Int32.ofNat (a - b) := by
  have h2 : Int32.ofNat a = Int32.ofNat (a - b) + Int32.ofNat b := by rw [py_add, Nat.sub_add_cancel h]
  rw [h2]
  exact Int32.add_sub_cancel _ _
theorem py_ne1 {b : Nat} (hb : b < 2147483648) : Int32.ofNat b ≠ -1 := by
  intro z
  have z2 := congrArg Int32.toInt z
  rw [py_ti hb] at z2
  have z3 : (-1 : Int32).toInt = -1 := rfl
  omega
theorem py_div {a b : Nat} (ha : a < 2147483648) (hb : b < 2147483648) : Int32.ofNat a / Int32.ofNat b = Int32.ofNat (a / b) := by
  apply Int32.toInt.inj
  have h1 : a / b ≤ a := Nat.div_le_self a b
  rw [Int32.toInt_div_of_ne_right _ _ (py_ne1 hb), py_ti ha, py_ti hb, py_ti (by omega), Int.ofNat_tdiv]
theorem py_mod {a b : Nat} (ha : a < 2147483648) (hb : b < 2147483648) : Int32.ofNat a - Int32.ofNat a / Int32.ofNat b * Int32.ofNat b = Int32.ofNat (a % b) := by
  rw [py_div ha hb, py_mul, py_sub (Nat.div_mul_le_self a b)]
  congr 1
  have := Nat.div_add_mod a b
  rw [Nat.mul_comm] at this
  omega
theorem py_nn {x : Int32} (h : ¬ x < 0) : x = Int32.ofNat x.toNatClampNeg ∧ x.toNatClampNeg < 2147483648 := by
  have h1 : 0 ≤ x.toInt := by
    rw [Int32.lt_iff_toInt_lt] at h
    have h3 : (0 : Int32).toInt = 0 := rfl
    omega
  have h2 : x.toInt < 2147483648 := Int32.toInt_lt x
  have h4 : x.toNatClampNeg = x.toInt.toNat := rfl
  refine ⟨Int32.toInt.inj ?_, by omega⟩
  rw [py_ti (by omega), h4]
  omega
theorem py_n0 {a : Nat} (ha : a < 2147483648) : (Int32.ofNat a < 0) = False := by
  have h := py_lt (a := a) (b := 0) ha (by omega)
  rw [show (0 : Int32) = Int32.ofNat 0 from rfl, h]
  exact eq_false (Nat.not_lt_zero a)
theorem py_z0 {a : Nat} (ha : a < 2147483648) : ((0 : Int32) ≤ Int32.ofNat a) = True := by
  rw [show (0 : Int32) = Int32.ofNat 0 from rfl, py_le (by omega) ha]
  exact eq_true (Nat.zero_le a)
theorem py_ic {α : Type} {p q : Prop} [Decidable p] [Decidable q] (h : p = q) (x y : α) : (if p then x else y) = if q then x else y := by
  subst h
  by_cases hp : p
  · rw [if_pos hp, if_pos hp]
  · rw [if_neg hp, if_neg hp]
theorem py_jn {α : Type} {a : Nat} (ha : a < 2147483648) (x y : α) : (if Int32.ofNat a < 0 then x else y) = y := if_neg fun z => by
  rw [py_n0 ha] at z
  exact z
theorem py_jz {α : Type} {a : Nat} (ha : a < 2147483648) (x y : α) : (if (0 : Int32) ≤ Int32.ofNat a then x else y) = x := if_pos (by
  rw [py_z0 ha]
  trivial)
theorem py_jl {α : Type} {a b : Nat} (ha : a < 2147483648) (hb : b < 2147483648) (x y : α) : (if Int32.ofNat a < Int32.ofNat b then x else y) = if a < b then x else y := py_ic (py_lt ha hb) x y
theorem py_je {α : Type} {a b : Nat} (ha : a < 2147483648) (hb : b < 2147483648) (x y : α) : (if Int32.ofNat a ≤ Int32.ofNat b then x else y) = if a ≤ b then x else y := py_ic (py_le ha hb) x y
theorem py_jq {α : Type} {a b : Nat} (ha : a < 2147483648) (hb : b < 2147483648) (x y : α) : (if Int32.ofNat a = Int32.ofNat b then x else y) = if a = b then x else y := py_ic (py_eq ha hb) x y
theorem py_jlL {α : Type} {l a : Nat} (hl : l < 2147483648) (ha : a < 2147483648) (x y : α) : (if (OfNat.ofNat l : Int32) < Int32.ofNat a then x else y) = if l < a then x else y := py_jl hl ha x y
theorem py_jlR {α : Type} {l a : Nat} (hl : l < 2147483648) (ha : a < 2147483648) (x y : α) : (if Int32.ofNat a < (OfNat.ofNat l : Int32) then x else y) = if a < l then x else y := py_jl ha hl x y
theorem py_jeL {α : Type} {l a : Nat} (hl : l < 2147483648) (ha : a < 2147483648) (x y : α) : (if (OfNat.ofNat l : Int32) ≤ Int32.ofNat a then x else y) = if l ≤ a then x else y := py_je hl ha x y
theorem py_jeR {α : Type} {l a : Nat} (hl : l < 2147483648) (ha : a < 2147483648) (x y : α) : (if Int32.ofNat a ≤ (OfNat.ofNat l : Int32) then x else y) = if a ≤ l then x else y := py_je ha hl x y
theorem py_jqR {α : Type} {l a : Nat} (hl : l < 2147483648) (ha : a < 2147483648) (x y : α) : (if Int32.ofNat a = (OfNat.ofNat l : Int32) then x else y) = if a = l then x else y := py_jq ha hl x y
theorem py_in {l a h : Nat} (hl : l ≤ a) (hh : a ≤ h) (h31 : h < 2147483648) : Int32.ofNat l ≤ Int32.ofNat a ∧ Int32.ofNat a ≤ Int32.ofNat h := ⟨(py_le (by omega) (by omega)).mpr hl, (py_le (by omega) (by omega)).mpr hh⟩
theorem py_up_s (S : pw_S) (a i : Nat) (d : Nat → Int32) : pw_up S a i d a i = d := if_pos ⟨rfl, rfl⟩
theorem py_up_k (S : pw_S) {a i b j : Nat} (d : Nat → Int32) (h : Nat.beq b a = false) : pw_up S a i d b j = S b j := if_neg fun z => by
  rw [z.1, Nat.beq_refl] at h
  cases h
theorem py_up_i (S : pw_S) {a i b j : Nat} (d : Nat → Int32) (h : j ≠ i) : pw_up S a i d b j = S b j := if_neg fun z => h z.2
theorem py_up_u (S : pw_S) (a i : Nat) (d e : Nat → Int32) : pw_up (pw_up S a i d) a i e = pw_up S a i e := by
  funext b j
  unfold pw_up
  by_cases h : b = a ∧ j = i
  · rw [if_pos h, if_pos h]
  · rw [if_neg h, if_neg h, if_neg h]
theorem py_u_s (f : Nat → Int32) (k : Nat) (x : Int32) : upd f k x k = x := if_pos rfl
theorem py_u_n (f : Nat → Int32) {k j : Nat} (x : Int32) (h : j ≠ k) : upd f k x j = f j := if_neg h
theorem py_u_b (f : Nat → Int32) {k j : Nat} (x : Int32) (h : Nat.beq j k = false) : upd f k x j = f j := if_neg fun z => by
  rw [z, Nat.beq_refl] at h
  cases h
theorem py_u_self (f : Nat → Int32) (k : Nat) : upd f k (f k) = f := by
  funext j
  unfold upd
  by_cases h : j = k
  · rw [if_pos h, h]
  · rw [if_neg h]
/-! what a program leaves as it was -/
def py_fr (K : Nat → Nat → Bool) (S S' : pw_S) : Prop := ∀ a i, K a i = false → S' a i = S a i
theorem py_fr_r {K : Nat → Nat → Bool} {S : pw_S} : py_fr K S S := fun _ _ _ => Eq.refl _
theorem py_fr.trans {K : Nat → Nat → Bool} {S S' S'' : pw_S} (h : py_fr K S S') (h' : py_fr K S' S'') : py_fr K S S'' := fun a i z => (h' a i z).trans (h a i z)
theorem py_fr.up {K : Nat → Nat → Bool} {S S' : pw_S} (h : py_fr K S S') {a i : Nat} {d : Nat → Int32} (hK : K a i = true) : py_fr K S (pw_up S' a i d) := fun b j z => by
  rw [pw_up_n]
  · exact h b j z
  · rintro ⟨rfl, rfl⟩
    rw [hK] at z
    cases z
theorem py_fr.mono {K K' : Nat → Nat → Bool} {S S' : pw_S} (h : py_fr K S S') (hK : ∀ a i, K a i = true → K' a i = true) : py_fr K' S S' := fun a i z => h a i (by
  cases hk : K a i with
  | false => exact Eq.refl _
  | true => rw [hK a i hk] at z; cases z)
/-! helpers of rows of numbers -/
theorem py_inb {k n : Nat} (hk : k < 2147483648) (h : k < n) : np_inb (Int32.ofNat k) n = true := by
  unfold np_inb
  simp only [py_n0 hk, py_cl hk, decide_false, Bool.not_false, Bool.true_and]
  exact Nat.ble_eq_true_of_le h
theorem py_len_lt (a : Nat) : pw_len a < 1000 := by
  unfold pw_len
  split
  · rename_i h
    exact (by decide +kernel : ∀ a : Fin 62, pw_lens.getD a 0 < 1000) ⟨a, pw_blt h⟩
  · decide
theorem py_at (S : pw_S) (a i k : Nat) (d : Int32) (hk : k < 2147483648) : m_X11_at S a i (Int32.ofNat k) d = some (S, if k < pw_len a then S a i k else d) := by
  unfold m_X11_at
  have hl := py_len_lt a
  rw [py_jn hk, py_je (by omega) hk]
  by_cases h : k < pw_len a
  · rw [if_neg (by omega), if_pos h, py_ct (py_inb hk h), py_cl hk]
  · rw [if_pos (by omega), if_neg h]
theorem py_at_neg (S : pw_S) (a i : Nat) (x d : Int32) (hx : x < 0) : m_X11_at S a i x d = some (S, d) := by
  unfold m_X11_at
  rw [if_pos hx]
theorem py_put (S : pw_S) (a i k : Nat) (x : Int32) (hk : k < 2147483648) : m_X11_put S a i (Int32.ofNat k) x = some (if k < pw_len a then pw_up S a i (upd (S a i) k x) else S, ()) := by
  unfold m_X11_put
  have hl := py_len_lt a
  rw [py_jn hk, py_je (by omega) hk]
  by_cases h : k < pw_len a
  · rw [if_neg (by omega), if_pos h, py_ct (py_inb hk h), py_cl hk, py_l]
  · rw [if_pos (by omega), if_neg h]
theorem py_atI (S : pw_S) (a i k : Nat) (d : Int32) (h : k < pw_len a) : m_X11_at S a i (Int32.ofNat k) d = some (S, S a i k) := by
  have hl := py_len_lt a
  rw [py_at S a i k d (by omega), if_pos h]
theorem py_putI (S : pw_S) (a i k : Nat) (x : Int32) (h : k < pw_len a) : m_X11_put S a i (Int32.ofNat k) x = some (pw_up S a i (upd (S a i) k x), ()) := by
  have hl := py_len_lt a
  rw [py_put S a i k x (by omega), if_pos h]
theorem py_fill_2 (a i : Nat) (x : Int32) : ∀ (N : Nat) (S : pw_S) (k : Nat), k ≤ pw_len a → pw_len a - k < N → m_X11_fillAll_2 N S a i x (Int32.ofNat k) = some (pw_up S a i (fun j => if k ≤ j ∧ j < pw_len a then x else S a i j), ()) := by
  intro N
  induction N with
  | zero => intro S k _ h; omega
  | succ N ih =>
    intro S k hk hN
    have hl := py_len_lt a
    unfold m_X11_fillAll_2
    rw [py_je (by omega) (by omega)]
    by_cases h : pw_len a ≤ k
    · rw [if_pos h]
      have e : (fun j => if k ≤ j ∧ j < pw_len a then x else S a i j) = S a i := by
        funext j
        rw [if_neg (by omega)]
      rw [e]
      congr 2
      funext b j
      unfold pw_up
      by_cases hb : b = a ∧ j = i
      · rw [if_pos hb, hb.1, hb.2]
      · rw [if_neg hb]
    · rw [if_neg h, py_ct (py_inb (by omega) (by omega)), py_l, py_l, py_cl (by omega), py_add1, ih _ _ (by omega) (by omega), py_up_u, py_up_s]
      congr 3
      funext j
      unfold upd
      by_cases h1 : j = k
      · subst h1
        rw [if_neg (by omega), if_pos rfl, if_pos (by omega)]
      · rw [if_neg h1]
        by_cases h2 : k + 1 ≤ j ∧ j < pw_len a
        · rw [if_pos h2, if_pos (by omega)]
        · rw [if_neg h2, if_neg (by omega)]
theorem py_fill (S : pw_S) (a i : Nat) (x : Int32) : m_X11_fillAll S a i x = some (pw_up S a i (fun j => if j < pw_len a then x else S a i j), ()) := by
  unfold m_X11_fillAll
  have hl := py_len_lt a
  rw [py_l, show (0 : Int32) = Int32.ofNat 0 from rfl, py_F, py_fill_2 a i x _ _ _ (by omega) (by omega)]
  congr 3
  funext j
  by_cases h : j < pw_len a
  · rw [if_pos h, if_pos (by omega)]
  · rw [if_neg h, if_neg (by omega)]
theorem py_slot (S : pw_S) (k : Nat) (hk : k < 2147483648) : m_X11_isSlot S (Int32.ofNat k) = some (S, if k < 8 then 1 else 0) := by
  unfold m_X11_isSlot
  rw [py_jn hk, show (8 : Int32) = Int32.ofNat 8 from rfl, py_je (by omega) hk]
  by_cases h : k < 8
  · rw [if_neg (by omega), if_pos h]
  · rw [if_pos (by omega), if_neg h]
theorem py_cp (S : pw_S) (k r : Nat) : m_X11_cellPlace S (Int32.ofNat k) (Int32.ofNat r) = some (S, Int32.ofNat (k * 3 + r)) := by
  unfold m_X11_cellPlace
  rw [show (3 : Int32) = Int32.ofNat 3 from rfl, py_mul, py_add]
theorem py_cell (S : pw_S) (k r : Nat) (hk : k < 2147483648) (hr : r < 2147483648) : m_X11_isCell S (Int32.ofNat k) (Int32.ofNat r) = some (S, if k < 8 ∧ r < 3 then 1 else 0) := by
  unfold m_X11_isCell
  rw [py_slot S k hk, py_b]
  by_cases h : k < 8
  · rw [if_pos h, if_neg (by decide), py_jn hr, show (3 : Int32) = Int32.ofNat 3 from rfl, py_je (by omega) hr]
    by_cases h2 : r < 3
    · rw [if_neg (by omega), if_pos ⟨h, h2⟩]
    · rw [if_pos (by omega), if_neg (by omega)]
  · rw [if_neg h, if_pos rfl, if_neg (by omega)]
theorem py_btw (S : pw_S) (x a b : Int32) : m_X11_isBetween S x a b = some (S, if a ≤ x ∧ x ≤ b then 1 else 0) := by
  unfold m_X11_isBetween
  by_cases h : x < a
  · rw [if_pos h, if_neg (fun z => by rw [Int32.le_iff_toInt_le, Int32.le_iff_toInt_le] at z; rw [Int32.lt_iff_toInt_lt] at h; omega)]
  · rw [if_neg h]
    by_cases h2 : b < x
    · rw [if_pos h2, if_neg (fun z => by rw [Int32.le_iff_toInt_le, Int32.le_iff_toInt_le] at z; rw [Int32.lt_iff_toInt_lt] at h2; omega)]
    · rw [if_neg h2, if_pos (by rw [Int32.le_iff_toInt_le, Int32.le_iff_toInt_le]; rw [Int32.lt_iff_toInt_lt] at h h2; omega)]
theorem py_cpy (S : pw_S) (a i p b j q c : Nat) (hc : c < 2147483648) (hp : p + c ≤ pw_len a) (hq : q + c ≤ pw_len b) (hne : (Nat.beq a b && Nat.beq i j) = false) : m_X11_copyCells S a i (Int32.ofNat p) b j (Int32.ofNat q) (Int32.ofNat c) = some (pw_up S b j (va_cpy (S a i) (S b j) p q c), ()) := by
  unfold m_X11_copyCells
  have hl := py_len_lt a
  have hl2 := py_len_lt b
  rw [py_jn hc, py_jn (show p < 2147483648 by omega), py_jz (show q < 2147483648 by omega), py_sub (by omega), py_sub (by omega), py_jl (by omega) (by omega), py_je (by omega) (by omega), if_neg (by omega), if_pos (by omega), hne, Bool.not_false, py_c, py_cl (by omega), py_cl (by omega), py_cl (by omega)]
  simp only [py_n0 hc, py_n0 (show p < 2147483648 by omega), py_n0 (show q < 2147483648 by omega), decide_false, Bool.not_false, Bool.true_and]
  rw [Nat.ble_eq_true_of_le hp, Nat.ble_eq_true_of_le hq]
  rfl
