/-! Columns: found from a row, and by batch. First single bits. -/
def py_bt (x : Int32) (r : Nat) : Bool := x.toBitVec.getLsbD r
theorem py_bt_or (x y : Int32) (r : Nat) : py_bt (x ||| y) r = (py_bt x r || py_bt y r) := by
  unfold py_bt
  rw [Int32.toBitVec_or, BitVec.getLsbD_or]
theorem py_bt_and (x y : Int32) (r : Nat) : py_bt (x &&& y) r = (py_bt x r && py_bt y r) := by
  unfold py_bt
  rw [Int32.toBitVec_and, BitVec.getLsbD_and]
theorem py_bt_shl (x : Int32) {n r : Nat} (hn : n < 32) (hr : r < 32) : py_bt (x <<< (Int32.ofNat n &&& 31)) r = (decide (n ≤ r) && py_bt x (r - n)) := by
  have e : ((Int32.ofNat n &&& 31).toBitVec.smod 32).toNat = n := py_s31 ⟨n, hn⟩
  unfold py_bt
  show (x.toBitVec <<< ((Int32.ofNat n &&& 31).toBitVec.smod 32).toNat).getLsbD r = _
  rw [e, BitVec.getLsbD_shiftLeft, decide_eq_true hr]
  by_cases h : n ≤ r
  · rw [decide_eq_false (show ¬ r < n by omega), decide_eq_true h]
    rfl
  · rw [decide_eq_true (show r < n by omega), decide_eq_false h]
    rfl
theorem py_bt_1 : ∀ (n r : Fin 32), py_bt ((1 : Int32) <<< (Int32.ofNat n.val &&& 31)) r.val = decide (r.val = n.val) := by decide +kernel
theorem py_bt_low : ∀ (n : Fin 6) (r : Fin 24), py_bt (((1 : Int32) <<< (Int32.ofNat n.val &&& 31)) - 1) r.val = decide (r.val < n.val) := by decide +kernel
theorem py_bt_m1 : ∀ r : Fin 24, py_bt (-1) r.val = true := by decide +kernel
theorem py_bt_0 : ∀ r : Fin 24, py_bt 0 r.val = false := by decide +kernel
theorem py_bt_test (x : Int32) {r : Nat} (hr : r < 32) : (x >>> (Int32.ofNat r &&& 31)) &&& 1 = if py_bt x r = true then 1 else 0 := by
  have e : ((Int32.ofNat r &&& 31).toBitVec.smod 32).toNat = r := py_s31 ⟨r, hr⟩
  have e1 : (x >>> (Int32.ofNat r &&& 31)).toBitVec.getLsbD 0 = py_bt x r := by
    show (x.toBitVec.sshiftRight ((Int32.ofNat r &&& 31).toBitVec.smod 32).toNat).getLsbD 0 = _
    rw [e, BitVec.getLsbD_sshiftRight, if_pos (show r + 0 < 32 by omega)]
    rfl
  have e2 : ∀ y : Int32, y &&& 1 = if y.toBitVec.getLsbD 0 = true then 1 else 0 := by
    intro y
    apply Int32.toBitVec.inj
    rw [Int32.toBitVec_and]
    show y.toBitVec &&& 1#32 = _
    rw [BitVec.and_one_eq_setWidth_ofBool_getLsbD]
    cases y.toBitVec.getLsbD 0 <;> rfl
  rw [e2, e1]
theorem py_subneg {a b : Nat} (h : a < b) (hb : b < 2147483648) : Int32.ofNat a - Int32.ofNat b < 0 := by
  have h0 : (0 : Int32).toInt = 0 := rfl
  rw [Int32.lt_iff_toInt_lt, Int32.toInt_sub, py_ti (by omega), py_ti hb, Int.bmod_eq_of_le (by omega) (by omega), h0]
  omega
/-! what a column has -/
/-- the value so many rows ahead -/
def cz_K (B : Nat → Int32) (r d : Nat) : Int32 := if d ≤ r then B (r - d) else -2147483648
def cz_o (kd : Nat) (a v : Int32) : Int32 := if v = -2147483648 then a else if a = -2147483648 then v else if kd = 1 then a + v else if v ≤ a then a else v
def cz_j (kd : Nat) (K : Nat → Int32) : Nat → Int32
  | 0 => -2147483648
  | n + 1 => cz_o kd (cz_j kd K n) (K n)
def cz_d (kd w : Nat) (K : Nat → Int32) : Int32 := if kd = 0 then K w else if kd = 3 then (if K 0 = -2147483648 then -2147483648 else if K 1 = -2147483648 then -2147483648 else K 0 - K 1) else cz_j kd K w
/-- the values of a slot -/
def cz_B (S : pw_S) (f rc s : Nat) : Nat → Int32 := fun r => pb_c S f rc r (s * 3)
def px_k (S : pw_S) (k f kd s w : Nat) : Prop := S 55 k 2 = Int32.ofNat f ∧ f < 2 ∧ S 55 k 3 = Int32.ofNat kd ∧ kd ≤ 3 ∧ S 55 k 4 = Int32.ofNat s ∧ s < 8 ∧ S 55 k 5 = Int32.ofNat w ∧ 1 ≤ w ∧ w ≤ 5
theorem pz0_told {S : pw_S} {k f kd s w rc : Nat} (h : px_k S k f kd s w) (h7 : S 54 f 7 = Int32.ofNat rc) (hrc : rc ≤ 24) {r : Nat} (hr : r < 1000) : m_X0_told S k (Int32.ofNat r) = some (S, cz_B S f rc s r) := by
  obtain ⟨h2, hf, h3, hkd, h4, hs, h5, hw1, hw5⟩ := h
  unfold m_X0_told
  rw [h2, py_jn (by omega), pk_dn hf (by omega), h4, pm_key h7 hrc hr hs, py_b]
  rfl
theorem pz0_toldd {S : pw_S} {k f kd s w rc : Nat} (h : px_k S k f kd s w) (h7 : S 54 f 7 = Int32.ofNat rc) (hrc : rc ≤ 24) {r d : Nat} (hr : r < 1000) (hd : d < 1000) : m_X0_told S k (Int32.ofNat r - Int32.ofNat d) = some (S, cz_K (cz_B S f rc s) r d) := by
  unfold cz_K
  by_cases e : d ≤ r
  · rw [py_sub e, pz0_told h h7 hrc (by omega), if_pos e]
  · rw [if_neg e]
    have e2 : Int32.ofNat r - Int32.ofNat d < 0 := py_subneg (by omega) (by omega)
    obtain ⟨h2, hf, h3, hkd, h4, hs, h5, hw1, hw5⟩ := h
    unfold m_X0_told
    rw [h2, py_jn (by omega), pk_dn hf (by omega), h4, pm_key_neg e2, py_b]
theorem pz0_join {S : pw_S} {k f kd s w : Nat} (h : px_k S k f kd s w) (a v : Int32) : m_X0_join S k a v = some (S, cz_o kd a v) := by
  obtain ⟨h2, hf, h3, hkd, h4, hs, h5, hw1, hw5⟩ := h
  unfold m_X0_join cz_o
  rw [h3, py_jqR (l := 1) (by omega) (by omega)]
  by_cases e2 : a = -2147483648
  · rw [if_pos e2]
    by_cases e1 : v = -2147483648
    · rw [if_pos e1, e1, e2]
    · rw [if_neg e1, if_pos e2]
  · rw [if_neg e2]
    by_cases e1 : v = -2147483648
    · rw [if_pos e1, if_pos e1]
    · rw [if_neg e1, if_neg e1, if_neg e2]
      by_cases e3 : kd = 1
      · rw [if_pos e3, if_pos e3]
      · rw [if_neg e3, if_neg e3]
        by_cases e4 : v ≤ a
        · rw [if_pos e4, if_neg (fun z => by rw [Int32.lt_iff_toInt_lt] at z; rw [Int32.le_iff_toInt_le] at e4; omega)]
        · rw [if_neg e4, if_pos (by rw [Int32.lt_iff_toInt_lt]; rw [Int32.le_iff_toInt_le] at e4; omega)]
theorem pz0_fromRow_47 {S : pw_S} {k f kd s w rc : Nat} (h : px_k S k f kd s w) (h7 : S 54 f 7 = Int32.ofNat rc) (hrc : rc ≤ 24) {r : Nat} (hr : r < 1000) : ∀ (n N i : Nat), n < N → w = i + n → m_X0_fromRow_47 N S k (Int32.ofNat r) (cz_j kd (cz_K (cz_B S f rc s) r) i) (Int32.ofNat i) = some (S, cz_j kd (cz_K (cz_B S f rc s) r) w) := by
  have hh := h
  obtain ⟨h2, hf, h3, hkd, h4, hs, h5, hw1, hw5⟩ := hh
  intro n
  induction n with
  | zero =>
    intro N i hN hi
    obtain ⟨N, rfl⟩ : ∃ q, N = q + 1 := ⟨N - 1, by omega⟩
    unfold m_X0_fromRow_47
    rw [h5, py_je (by omega) (by omega), if_pos (show w ≤ i by omega), show i = w by omega]
  | succ n ih =>
    intro N i hN hi
    obtain ⟨N, rfl⟩ : ∃ q, N = q + 1 := ⟨N - 1, by omega⟩
    unfold m_X0_fromRow_47
    rw [h5, py_je (by omega) (by omega), if_neg (show ¬ w ≤ i by omega), pz0_toldd h h7 hrc hr (by omega), py_b, pz0_join h, py_b, py_l, py_l, py_add1]
    exact ih N (i + 1) (by omega) (by omega)
theorem pz0_fromRow {S : pw_S} {k f kd s w rc : Nat} (h : px_k S k f kd s w) (h7 : S 54 f 7 = Int32.ofNat rc) (hrc : rc ≤ 24) {r : Nat} (hr : r < 1000) : m_X0_fromRow S k (Int32.ofNat r) = some (S, cz_d kd w (cz_K (cz_B S f rc s) r)) := by
  have hh := h
  obtain ⟨h2, hf, h3, hkd, h4, hs, h5, hw1, hw5⟩ := hh
  unfold m_X0_fromRow cz_d
  rw [h3, py_jqR (l := 0) (by omega) (by omega), py_jqR (l := 3) (by omega) (by omega), h5]
  by_cases e0 : kd = 0
  · rw [if_pos e0, if_pos e0, pz0_toldd h h7 hrc hr (by omega), py_b]
  · rw [if_neg e0, if_neg e0]
    by_cases e3 : kd = 3
    · rw [if_pos e3, if_pos e3]
      have q0 : cz_B S f rc s r = cz_K (cz_B S f rc s) r 0 := by
        unfold cz_K
        rw [if_pos (Nat.zero_le _)]
        rfl
      rw [pz0_told h h7 hrc hr, py_b, q0, show (Int32.ofNat r - 1) = Int32.ofNat r - Int32.ofNat 1 from rfl, pz0_toldd h h7 hrc hr (by omega), py_b]
      unfold m_X0_difference
      by_cases z0 : cz_K (cz_B S f rc s) r 0 = -2147483648
      · rw [if_pos z0, if_pos z0, py_b]
      · rw [if_neg z0, if_neg z0]
        by_cases z1 : cz_K (cz_B S f rc s) r 1 = -2147483648
        · rw [if_pos z1, if_pos z1, py_b]
        · rw [if_neg z1, if_neg z1, py_b]
    · rw [if_neg e3, if_neg e3, py_l, py_l]
      exact pz0_fromRow_47 h h7 hrc hr w _ 0 (by rw [py_F]; omega) (by omega)
