/-! What an item prints, and in what ways it is read. -/
def pe_let (l : Nat) : List Int32 := if l = 27 then [55357, 56832] else [Int32.ofNat (96 + l)]
def pe_word (ls : List Nat) : List Int32 := ls.flatMap pe_let
def pe_lets : Nat → Nat → Option (List Nat)
  | 0, v => if v = 0 then some [] else none
  | m + 1, v => if v = 0 then some [] else if 1 ≤ v % 32 ∧ v % 32 ≤ 27 then (pe_lets m (v / 32)).map (fun r => v % 32 :: r) else none
def pe_code : List Nat → Nat
  | [] => 0
  | l :: r => l + 32 * pe_code r
def pe_wf (c : Nat) : Int32 := if c = 0 then 32 else if c = 1 then 46 else 97
def pe_nf (c : Nat) : Int32 := if c % 3 = 0 then 32 else if c % 3 = 1 then 48 else 42
def pe_mk (c : Nat) : Int32 := if c / 3 = 1 then 44 else 46
/-- a number laid out over so many units from the right, ahead of those that are there -/
def pe_lay (c : Nat) : Nat → Nat → Nat → List Int32 → Option (List Int32)
  | 0, r, _, acc => if r = 0 then some acc else none
  | p + 1, r, dg, acc =>
    if dg ≠ 0 ∧ r = 0 then some (List.replicate (p + 1) (pe_nf c) ++ acc)
    else if 3 ≤ c ∧ 0 < dg ∧ dg % 3 = 0 then
      match p with
      | 0 => none
      | q + 1 => pe_lay c q (r / 10) (dg + 1) (Int32.ofNat (48 + r % 10) :: pe_mk c :: acc)
    else pe_lay c p (r / 10) (dg + 1) (Int32.ofNat (48 + r % 10) :: acc)
def pe_bits (b w : Nat) : List Int32 := (List.range b).map (fun i => if w / 2 ^ i % 2 = 1 then 120 else 45)
/-- what is printed for an item, with a value for its slot -/
def pe_enc (I : py_I) (T : py_T) (v : Int32) : Option (List Int32) :=
  if pi_k I (pt_it T) = 0 then (if v < 0 then none else pe_lay (pi_c I (pt_it T)) (pi_b I (pt_it T)) v.toNatClampNeg 0 [])
  else if pi_k I (pt_it T) = 1 then (if v < 0 then none else match pe_lets 5 v.toNatClampNeg with
    | none => none
    | some ls => if (pe_word ls).length ≤ pi_b I (pt_it T) then some (pe_word ls ++ List.replicate (pi_b I (pt_it T) - (pe_word ls).length) (pe_wf (pi_c I (pt_it T)))) else none)
  else if pi_k I (pt_it T) = 2 then (if v < 0 then none else match pe_lets 5 v.toNatClampNeg with
    | none => none
    | some ls => some (pe_word ls ++ [Int32.ofNat (pi_b I (pt_it T))]))
  else if pi_k I (pt_it T) = 3 then (if v < 0 then none else if v.toNatClampNeg < 2 ^ pi_b I (pt_it T) then some (pe_bits (pi_b I (pt_it T)) v.toNatClampNeg) else none)
  else if pi_k I (pt_it T) = 6 then (if v < 0 then none else if v.toNatClampNeg ≤ 3 then some [Int32.ofNat (48 + v.toNatClampNeg)] else none)
  else if pi_k I (pt_it T) = 4 then some [Int32.ofNat (48 + pt_sm T % 10)]
  else if pi_k I (pt_it T) = 5 then some [Int32.ofNat (pi_a I (pt_it T))]
  else if pi_k I (pt_it T) = 9 then (if pt_s T (pi_a I (pt_it T)) < 0 then none else if (pt_s T (pi_a I (pt_it T))).toNatClampNeg ≤ 99 then some [Int32.ofNat (48 + (pt_s T (pi_a I (pt_it T))).toNatClampNeg / 10), Int32.ofNat (48 + (pt_s T (pi_a I (pt_it T))).toNatClampNeg % 10)] else none)
  else none
/-- so many units of a text from a place -/
def pe_tk (ah : Nat → Int32) (p m : Nat) : List Int32 := (List.range m).map (fun i => ah (p + i))
def pe_num : List Int32 → Nat → Nat
  | [], a => a
  | u :: r, a => pe_num r (if 48 ≤ u ∧ u ≤ 57 then 10 * a + (u.toNatClampNeg - 48) else a)
/-- the letter at a place, 0 if there is none -/
def pe_la (ah : Nat → Int32) (p : Nat) : Nat := if 97 ≤ ah p ∧ ah p ≤ 122 then (ah p).toNatClampNeg - 96 else if ah p = 55357 ∧ ah (p + 1) = 56832 then 27 else 0
def pe_ul (l : Nat) : Nat := if l = 27 then 2 else 1
def pe_us (ls : List Nat) : Nat := (ls.map pe_ul).sum
/-- the letters from a place, at most so many, in at most so many units -/
def pe_gath (ah : Nat → Int32) : Nat → Nat → Nat → List Nat
  | 0, _, _ => []
  | m + 1, p, w => if pe_la ah p = 0 ∨ w < pe_ul (pe_la ah p) then [] else pe_la ah p :: pe_gath ah m (p + pe_ul (pe_la ah p)) (w - pe_ul (pe_la ah p))
def pe_bv (ah : Nat → Int32) (p : Nat) : Nat → Option Nat
  | 0 => some 0
  | b + 1 => match pe_bv ah p b with
    | none => none
    | some w => if ah (p + b) = 120 then some (w + 2 ^ b) else if ah (p + b) = 45 then some w else none
/-- the ways to read an item, as they are kept: value and number of units -/
def pe_dec (I : py_I) (ah : Nat → Int32) (T : py_T) : List (Int32 × Nat) :=
  if pi_k I (pt_it T) = 0 then
    (if pe_lay (pi_c I (pt_it T)) (pi_b I (pt_it T)) (pe_num (pe_tk ah (pt_ln T) (pi_b I (pt_it T))) 0) 0 [] = some (pe_tk ah (pt_ln T) (pi_b I (pt_it T))) then [(Int32.ofNat (pe_num (pe_tk ah (pt_ln T) (pi_b I (pt_it T))) 0), pi_b I (pt_it T))] else [])
  else if pi_k I (pt_it T) = 1 then
    (List.range ((pe_gath ah 5 (pt_ln T) (pi_b I (pt_it T))).length + 1)).filterMap (fun i =>
      if pe_tk ah (pt_ln T + pe_us ((pe_gath ah 5 (pt_ln T) (pi_b I (pt_it T))).take i)) (pi_b I (pt_it T) - pe_us ((pe_gath ah 5 (pt_ln T) (pi_b I (pt_it T))).take i)) = List.replicate (pi_b I (pt_it T) - pe_us ((pe_gath ah 5 (pt_ln T) (pi_b I (pt_it T))).take i)) (pe_wf (pi_c I (pt_it T)))
      then some (Int32.ofNat (pe_code ((pe_gath ah 5 (pt_ln T) (pi_b I (pt_it T))).take i)), pi_b I (pt_it T)) else none)
  else if pi_k I (pt_it T) = 2 then
    (List.range ((pe_gath ah 5 (pt_ln T) 60).length + 1)).reverse.filterMap (fun i =>
      if ah (pt_ln T + pe_us ((pe_gath ah 5 (pt_ln T) 60).take i)) = Int32.ofNat (pi_b I (pt_it T))
      then some (Int32.ofNat (pe_code ((pe_gath ah 5 (pt_ln T) 60).take i)), pe_us ((pe_gath ah 5 (pt_ln T) 60).take i) + 1) else none)
  else if pi_k I (pt_it T) = 3 then
    (match pe_bv ah (pt_ln T) (pi_b I (pt_it T)) with
    | none => []
    | some w => [(Int32.ofNat w, pi_b I (pt_it T))])
  else if pi_k I (pt_it T) = 6 then (if 48 ≤ ah (pt_ln T) ∧ ah (pt_ln T) ≤ 51 then [(Int32.ofNat ((ah (pt_ln T)).toNatClampNeg - 48), 1)] else [])
  else if pi_k I (pt_it T) = 4 then (if ah (pt_ln T) = Int32.ofNat (48 + pt_sm T % 10) then [(0, 1)] else [])
  else if pi_k I (pt_it T) = 5 then (if ah (pt_ln T) = Int32.ofNat (pi_a I (pt_it T)) then [(0, 1)] else [])
  else if pi_k I (pt_it T) = 9 then (if pt_s T (pi_a I (pt_it T)) < 0 then [] else if (pt_s T (pi_a I (pt_it T))).toNatClampNeg ≤ 99 then (if ah (pt_ln T) = Int32.ofNat (48 + (pt_s T (pi_a I (pt_it T))).toNatClampNeg / 10) ∧ ah (pt_ln T + 1) = Int32.ofNat (48 + (pt_s T (pi_a I (pt_it T))).toNatClampNeg % 10) then [(0, 2)] else []) else [])
  else []
/-- what is asked of the numbers of an item -/
def pi_rg (I : py_I) : Prop := ∀ k, k < pi_n I →
  (pi_k I k = 0 → 1 ≤ pi_b I k ∧ pi_b I k ≤ 8 ∧ pi_c I k ≤ 8) ∧ (pi_k I k = 1 → 1 ≤ pi_b I k ∧ pi_b I k ≤ 9 ∧ pi_c I k ≤ 2) ∧
  (pi_k I k = 2 → 33 ≤ pi_b I k ∧ pi_b I k ≤ 126) ∧ (pi_k I k = 3 → 1 ≤ pi_b I k ∧ pi_b I k ≤ 8) ∧ (pi_k I k = 5 → 32 ≤ pi_a I k ∧ pi_a I k ≤ 126) ∧ (pi_k I k = 8 → pi_c I k ≤ 99)
theorem pe_tk_len (ah : Nat → Int32) (p m : Nat) : (pe_tk ah p m).length = m := by
  unfold pe_tk
  rw [List.length_map, List.length_range]
theorem pe_tk_zero (ah : Nat → Int32) (p : Nat) : pe_tk ah p 0 = [] := rfl
theorem pe_tk_succ (ah : Nat → Int32) (p m : Nat) : pe_tk ah p (m + 1) = ah p :: pe_tk ah (p + 1) m := by
  unfold pe_tk
  rw [List.range_succ_eq_map, List.map_cons, List.map_map]
  refine congrArg (List.cons _) (List.map_congr_left fun i _ => ?_)
  show ah (p + (i + 1)) = ah (p + 1 + i)
  rw [Nat.add_assoc, Nat.add_comm 1 i]
theorem pe_tk_add (ah : Nat → Int32) : ∀ (m p k : Nat), pe_tk ah p (m + k) = pe_tk ah p m ++ pe_tk ah (p + m) k := by
  intro m
  induction m with
  | zero => intro p k; rw [Nat.zero_add]; rfl
  | succ m ih =>
    intro p k
    rw [show m + 1 + k = (m + k) + 1 from by omega, pe_tk_succ, pe_tk_succ, ih, List.cons_append, show p + 1 + m = p + (m + 1) from by omega]
theorem pe_us_cons (l : Nat) (r : List Nat) : pe_us (l :: r) = pe_ul l + pe_us r := by
  unfold pe_us
  rw [List.map_cons, List.sum_cons]
theorem pe_let_len (l : Nat) : (pe_let l).length = pe_ul l := by
  unfold pe_let pe_ul
  split <;> rfl
theorem pe_word_cons (l : Nat) (r : List Nat) : pe_word (l :: r) = pe_let l ++ pe_word r := rfl
theorem pe_word_len : ∀ ls : List Nat, (pe_word ls).length = pe_us ls := by
  intro ls
  induction ls with
  | nil => rfl
  | cons l r ih => rw [pe_word_cons, List.length_append, pe_let_len, ih, pe_us_cons]
theorem pe_la_le (ah : Nat → Int32) (p : Nat) : pe_la ah p ≤ 27 := by
  unfold pe_la
  split
  · rename_i h
    obtain ⟨h1, h2⟩ := h
    rw [Int32.le_iff_toInt_le] at h1 h2
    have q3 : (97 : Int32).toInt = 97 := rfl
    have q4 : (122 : Int32).toInt = 122 := rfl
    have q5 : (ah p).toNatClampNeg = (ah p).toInt.toNat := rfl
    omega
  · split <;> omega
/-- a letter that is read stands there -/
theorem pe_la_tk {ah : Nat → Int32} {p : Nat} (h : pe_la ah p ≠ 0) : pe_tk ah p (pe_ul (pe_la ah p)) = pe_let (pe_la ah p) ∧ 1 ≤ pe_la ah p := by
  refine ⟨?_, by omega⟩
  unfold pe_la at h ⊢
  by_cases hc : 97 ≤ ah p ∧ ah p ≤ 122
  · rw [if_pos hc]
    obtain ⟨h1, h2⟩ := hc
    have h1' := h1
    have h2' := h2
    rw [Int32.le_iff_toInt_le] at h1 h2
    have q3 : (97 : Int32).toInt = 97 := rfl
    have q4 : (122 : Int32).toInt = 122 := rfl
    have q5 : (ah p).toNatClampNeg = (ah p).toInt.toNat := rfl
    have hn : ¬ ah p < 0 := by
      rw [Int32.lt_iff_toInt_lt]
      have q6 : (0 : Int32).toInt = 0 := rfl
      omega
    unfold pe_ul pe_let
    rw [if_neg (by omega), if_neg (by omega), pe_tk_succ, pe_tk_zero, show 96 + ((ah p).toNatClampNeg - 96) = (ah p).toNatClampNeg from by omega, ← (py_nn hn).1]
  · rw [if_neg hc] at h ⊢
    by_cases hf : ah p = 55357 ∧ ah (p + 1) = 56832
    · rw [if_pos hf]
      show pe_tk ah p 2 = [55357, 56832]
      rw [pe_tk_succ, pe_tk_succ, pe_tk_zero, hf.1, hf.2]
    · rw [if_neg hf] at h
      exact absurd rfl h
theorem pe_gath_tk {ah : Nat → Int32} : ∀ (m p w i : Nat), pe_tk ah p (pe_us ((pe_gath ah m p w).take i)) = pe_word ((pe_gath ah m p w).take i) ∧ pe_us ((pe_gath ah m p w).take i) ≤ w ∧ ((pe_gath ah m p w).take i).length ≤ m ∧ ∀ l ∈ (pe_gath ah m p w).take i, 1 ≤ l ∧ l ≤ 27 := by
  intro m
  induction m with
  | zero =>
    intro p w i
    unfold pe_gath
    rw [List.take_nil]
    exact ⟨rfl, Nat.zero_le _, Nat.zero_le _, fun l hl => absurd hl (List.not_mem_nil)⟩
  | succ m ih =>
    intro p w i
    unfold pe_gath
    by_cases h : pe_la ah p = 0 ∨ w < pe_ul (pe_la ah p)
    · rw [if_pos h, List.take_nil]
      exact ⟨rfl, Nat.zero_le _, Nat.zero_le _, fun l hl => absurd hl (List.not_mem_nil)⟩
    · rw [if_neg h]
      cases i with
      | zero => exact ⟨rfl, Nat.zero_le _, Nat.zero_le _, fun l hl => absurd hl (List.not_mem_nil)⟩
      | succ i =>
        obtain ⟨h1, h2, h3, h4⟩ := ih (p + pe_ul (pe_la ah p)) (w - pe_ul (pe_la ah p)) i
        obtain ⟨g1, g2⟩ := pe_la_tk (ah := ah) (p := p) (fun z => h (Or.inl z))
        rw [List.take_succ_cons, pe_us_cons, pe_tk_add, pe_word_cons, g1, h1]
        refine ⟨rfl, by omega, by rw [List.length_cons]; omega, fun l hl => ?_⟩
        rcases List.mem_cons.mp hl with rfl | hl
        · exact ⟨g2, pe_la_le ah p⟩
        · exact h4 l hl
theorem pe_code_lt : ∀ (ls : List Nat), (∀ l ∈ ls, 1 ≤ l ∧ l ≤ 27) → pe_code ls < 32 ^ ls.length := by
  intro ls
  induction ls with
  | nil => intro _; exact Nat.one_pos
  | cons l r ih =>
    intro h
    have h1 := ih (fun x hx => h x (List.mem_cons_of_mem _ hx))
    have h2 := h l List.mem_cons_self
    rw [List.length_cons, Nat.pow_succ]
    unfold pe_code
    omega
theorem pe_code_lets : ∀ (ls : List Nat) (m : Nat), ls.length ≤ m → (∀ l ∈ ls, 1 ≤ l ∧ l ≤ 27) → pe_lets m (pe_code ls) = some ls := by
  intro ls
  induction ls with
  | nil => intro m _ _; cases m <;> rfl
  | cons l r ih =>
    intro m hm h
    obtain ⟨m, rfl⟩ : ∃ k, m = k + 1 := ⟨m - 1, by rw [List.length_cons] at hm; omega⟩
    have h1 := ih m (by rw [List.length_cons] at hm; omega) (fun x hx => h x (List.mem_cons_of_mem _ hx))
    have h2 := h l List.mem_cons_self
    unfold pe_lets pe_code
    rw [if_neg (by omega), show (l + 32 * pe_code r) % 32 = l from by omega, if_pos h2, show (l + 32 * pe_code r) / 32 = pe_code r from by omega, h1]
    rfl
theorem pe_num_lt : ∀ (us : List Int32) (a : Nat), pe_num us a < (a + 1) * 10 ^ us.length := by
  intro us
  induction us with
  | nil => intro a; unfold pe_num; simp
  | cons u r ih =>
    intro a
    unfold pe_num
    rw [List.length_cons, Nat.pow_succ]
    split
    · rename_i h
      obtain ⟨h1, h2⟩ := h
      rw [Int32.le_iff_toInt_le] at h1 h2
      have q3 : (48 : Int32).toInt = 48 := rfl
      have q4 : (57 : Int32).toInt = 57 := rfl
      have q5 : u.toNatClampNeg = u.toInt.toNat := rfl
      refine Nat.lt_of_lt_of_le (ih _) ?_
      calc (10 * a + (u.toNatClampNeg - 48) + 1) * 10 ^ r.length ≤ ((a + 1) * 10) * 10 ^ r.length := Nat.mul_le_mul_right _ (by omega)
        _ = (a + 1) * (10 ^ r.length * 10) := by rw [Nat.mul_assoc, Nat.mul_comm 10]
    · refine Nat.lt_of_lt_of_le (ih a) ?_
      exact Nat.mul_le_mul_left _ (Nat.le_mul_of_pos_right _ (by omega))
theorem pe_bv_sound {ah : Nat → Int32} {p : Nat} : ∀ {b w : Nat}, pe_bv ah p b = some w → w < 2 ^ b ∧ pe_tk ah p b = pe_bits b w := by
  intro b
  induction b with
  | zero =>
    intro w h
    cases h
    exact ⟨Nat.one_pos, rfl⟩
  | succ b ih =>
    intro w h
    unfold pe_bv at h
    cases h0 : pe_bv ah p b with
    | none => rw [h0] at h; cases h
    | some w0 =>
      rw [h0] at h
      obtain ⟨h1, h2⟩ := ih h0
      have hb : ∀ x : Nat, x < 2 → pe_bits (b + 1) (w0 + x * 2 ^ b) = pe_bits b w0 ++ [if x = 1 then 120 else 45] := by
        intro x hx
        unfold pe_bits
        rw [List.range_succ, List.map_append, List.map_singleton]
        have h5 : (w0 + x * 2 ^ b) / 2 ^ b % 2 = x := by
          rw [Nat.add_mul_div_right _ _ (Nat.two_pow_pos b), Nat.div_eq_of_lt h1, Nat.zero_add, Nat.mod_eq_of_lt hx]
        rw [h5]
        refine congrArg (fun z => z ++ _) (List.map_congr_left fun i hi => ?_)
        have hi := List.mem_range.mp hi
        have h6 : (w0 + x * 2 ^ b) / 2 ^ i % 2 = w0 / 2 ^ i % 2 := by
          rw [show x * 2 ^ b = (x * 2 ^ (b - i - 1) * 2) * 2 ^ i from by
            rw [Nat.mul_assoc, Nat.mul_assoc, ← Nat.pow_succ', ← Nat.pow_add, show b - i - 1 + (i + 1) = b from by omega], Nat.add_mul_div_right _ _ (Nat.two_pow_pos i), Nat.add_mul_mod_self_right]
        rw [h6]
      have ht : pe_tk ah p (b + 1) = pe_bits b w0 ++ [ah (p + b)] := by
        rw [pe_tk_add, h2, pe_tk_succ, pe_tk_zero]
      have hp : 2 ^ (b + 1) = 2 ^ b + 2 ^ b := by rw [Nat.pow_succ]; omega
      by_cases c1 : ah (p + b) = 120
      · simp only [if_pos c1] at h
        cases h
        refine ⟨by omega, ?_⟩
        have := hb 1 (by omega)
        rw [Nat.one_mul, if_pos rfl] at this
        rw [ht, c1, this]
      · simp only [if_neg c1] at h
        by_cases c2 : ah (p + b) = 45
        · simp only [if_pos c2] at h
          cases h
          refine ⟨by omega, ?_⟩
          have hb0 := hb 0 (by omega)
          rw [Nat.zero_mul, if_neg (by omega)] at hb0
          have hb0 : pe_bits (b + 1) w = pe_bits b w ++ [45] := hb0
          rw [ht, c2, hb0]
        · simp only [if_neg c2] at h
          cases h
theorem pe_us_le : ∀ ls : List Nat, pe_us ls ≤ 2 * ls.length := by
  intro ls
  induction ls with
  | nil => exact Nat.le_refl _
  | cons l r ih =>
    rw [pe_us_cons, List.length_cons]
    have : pe_ul l ≤ 2 := by unfold pe_ul; split <;> omega
    omega
/-- what is read was printed so -/
theorem pe_sound {I : py_I} (hI : pi_ok I) (hR : pi_rg I) {ah : Nat → Int32} {T : py_T} (hn : pt_it T < pi_n I) {v : Int32} {m : Nat} (h : (v, m) ∈ pe_dec I ah T) : pe_enc I T v = some (pe_tk ah (pt_ln T) m) ∧ 1 ≤ m ∧ m ≤ 60 ∧ ∃ w, w < 134217728 ∧ v = Int32.ofNat w := by
  obtain ⟨r0, r1, r2, r3, r5, r8⟩ := hR _ hn
  unfold pe_dec at h
  unfold pe_enc
  by_cases k0 : pi_k I (pt_it T) = 0
  · rw [if_pos k0] at h ⊢
    obtain ⟨a1, a2, a3⟩ := r0 k0
    split at h
    · rename_i hl
      obtain ⟨rfl, rfl⟩ := Prod.mk.inj (List.mem_singleton.mp h)
      have hb := pe_num_lt (pe_tk ah (pt_ln T) (pi_b I (pt_it T))) 0
      rw [pe_tk_len] at hb
      have h10 : 10 ^ pi_b I (pt_it T) ≤ 10 ^ 8 := Nat.pow_le_pow_right (by omega) a2
      have hlt : pe_num (pe_tk ah (pt_ln T) (pi_b I (pt_it T))) 0 < 134217728 := by omega
      rw [py_jn (by omega), py_cl (by omega)]
      exact ⟨hl, a1, by omega, _, hlt, rfl⟩
    · cases h
  rw [if_neg k0] at h ⊢
  by_cases k1 : pi_k I (pt_it T) = 1
  · rw [if_pos k1] at h ⊢
    obtain ⟨a1, a2, a3⟩ := r1 k1
    obtain ⟨i, hi, hh⟩ := List.mem_filterMap.mp h
    split at hh
    · rename_i hf
      obtain ⟨rfl, rfl⟩ := Prod.mk.inj (Option.some.inj hh)
      obtain ⟨g1, g2, g3, g4⟩ := pe_gath_tk (ah := ah) 5 (pt_ln T) (pi_b I (pt_it T)) i
      generalize (pe_gath ah 5 (pt_ln T) (pi_b I (pt_it T))).take i = ls at *
      have hc := pe_code_lt ls g4
      have h32 : 32 ^ ls.length ≤ 32 ^ 5 := Nat.pow_le_pow_right (by omega) g3
      rw [py_jn (by omega), py_cl (by omega), pe_code_lets ls 5 g3 g4]
      dsimp only
      rw [pe_word_len, if_pos g2, ← hf, ← g1, ← pe_tk_add, show pe_us ls + (pi_b I (pt_it T) - pe_us ls) = pi_b I (pt_it T) from by omega]
      exact ⟨rfl, a1, by omega, _, by omega, rfl⟩
    · cases hh
  rw [if_neg k1] at h ⊢
  by_cases k2 : pi_k I (pt_it T) = 2
  · rw [if_pos k2] at h ⊢
    obtain ⟨i, hi, hh⟩ := List.mem_filterMap.mp h
    split at hh
    · rename_i hf
      obtain ⟨rfl, rfl⟩ := Prod.mk.inj (Option.some.inj hh)
      obtain ⟨g1, g2, g3, g4⟩ := pe_gath_tk (ah := ah) 5 (pt_ln T) 60 i
      generalize (pe_gath ah 5 (pt_ln T) 60).take i = ls at *
      have hc := pe_code_lt ls g4
      have h32 : 32 ^ ls.length ≤ 32 ^ 5 := Nat.pow_le_pow_right (by omega) g3
      have hu := pe_us_le ls
      rw [py_jn (by omega), py_cl (by omega), pe_code_lets ls 5 g3 g4]
      dsimp only
      rw [pe_tk_add, g1, pe_tk_succ, pe_tk_zero, hf]
      exact ⟨rfl, by omega, by omega, _, by omega, rfl⟩
    · cases hh
  rw [if_neg k2] at h ⊢
  by_cases k3 : pi_k I (pt_it T) = 3
  · rw [if_pos k3] at h ⊢
    obtain ⟨a1, a2⟩ := r3 k3
    cases hw : pe_bv ah (pt_ln T) (pi_b I (pt_it T)) with
    | none => rw [hw] at h; cases h
    | some w =>
      rw [hw] at h
      obtain ⟨rfl, rfl⟩ := Prod.mk.inj (List.mem_singleton.mp h)
      obtain ⟨g1, g2⟩ := pe_bv_sound hw
      have h28 : 2 ^ pi_b I (pt_it T) ≤ 2 ^ 8 := Nat.pow_le_pow_right (by omega) a2
      rw [py_jn (by omega), py_cl (by omega), if_pos g1, g2]
      exact ⟨rfl, a1, by omega, _, by omega, rfl⟩
  rw [if_neg k3] at h ⊢
  by_cases k6 : pi_k I (pt_it T) = 6
  · rw [if_pos k6] at h ⊢
    split at h
    · rename_i hc
      obtain ⟨h1, h2⟩ := hc
      obtain ⟨rfl, rfl⟩ := Prod.mk.inj (List.mem_singleton.mp h)
      have hn9 : ¬ ah (pt_ln T) < 0 := by
        rw [Int32.lt_iff_toInt_lt]
        rw [Int32.le_iff_toInt_le] at h1
        have q6 : (0 : Int32).toInt = 0 := rfl
        have q3 : (48 : Int32).toInt = 48 := rfl
        omega
      obtain ⟨e1, e2⟩ := py_nn hn9
      rw [Int32.le_iff_toInt_le] at h1 h2
      have q3 : (48 : Int32).toInt = 48 := rfl
      have q4 : (51 : Int32).toInt = 51 := rfl
      have q5 : (ah (pt_ln T)).toNatClampNeg = (ah (pt_ln T)).toInt.toNat := rfl
      rw [py_jn (by omega), py_cl (by omega), if_pos (by omega), pe_tk_succ, pe_tk_zero, show 48 + ((ah (pt_ln T)).toNatClampNeg - 48) = (ah (pt_ln T)).toNatClampNeg from by omega, ← e1]
      exact ⟨rfl, by omega, by omega, _, by omega, rfl⟩
    · cases h
  rw [if_neg k6] at h ⊢
  by_cases k4 : pi_k I (pt_it T) = 4
  · rw [if_pos k4] at h ⊢
    split at h
    · rename_i hc
      obtain ⟨rfl, rfl⟩ := Prod.mk.inj (List.mem_singleton.mp h)
      rw [pe_tk_succ, pe_tk_zero, hc]
      exact ⟨rfl, by omega, by omega, 0, by omega, rfl⟩
    · cases h
  rw [if_neg k4] at h ⊢
  by_cases k5 : pi_k I (pt_it T) = 5
  · rw [if_pos k5] at h ⊢
    split at h
    · rename_i hc
      obtain ⟨rfl, rfl⟩ := Prod.mk.inj (List.mem_singleton.mp h)
      rw [pe_tk_succ, pe_tk_zero, hc]
      exact ⟨rfl, by omega, by omega, 0, by omega, rfl⟩
    · cases h
  rw [if_neg k5] at h ⊢
  by_cases k9 : pi_k I (pt_it T) = 9
  · rw [if_pos k9] at h ⊢
    by_cases hs : pt_s T (pi_a I (pt_it T)) < 0
    · rw [if_pos hs] at h
      cases h
    rw [if_neg hs] at h ⊢
    by_cases h99 : (pt_s T (pi_a I (pt_it T))).toNatClampNeg ≤ 99
    · rw [if_pos h99] at h ⊢
      split at h
      · rename_i hc
        obtain ⟨rfl, rfl⟩ := Prod.mk.inj (List.mem_singleton.mp h)
        rw [pe_tk_succ, pe_tk_succ, pe_tk_zero, hc.1, hc.2]
        exact ⟨rfl, by omega, by omega, 0, by omega, rfl⟩
      · cases h
    · rw [if_neg h99] at h
      cases h
  rw [if_neg k9] at h
  cases h
