/-! Constraints. -/
def cv_v (V : Nat → Int32) (x : Int32) : Int32 := if 0 ≤ x ∧ x ≤ 7 then V (x.toNatClampNeg * 3) else -2147483648
def cv_h (C : Nat → Nat → Int32) (V : Nat → Int32) (k : Nat) : Int32 :=
  if cv_v V (C 1 k) = -2147483648 then 1
  else if (C 0 k).toInt = 0 then (if cv_v V (C 2 k) = -2147483648 then 1 else if cv_v V (C 2 k) ≤ cv_v V (C 1 k) then 0 else 1)
  else if (C 0 k).toInt = (0 + 1) then (if cv_v V (C 1 k) = C 2 k then 1 else 0)
  else if (C 0 k).toInt = ((0 + 1) + 1) then (if cv_v V (C 2 k) = -2147483648 then 1 else if cv_v V (C 3 k) = -2147483648 then 1 else if (lg_cmp ((cv_v V (C 1 k)).toInt64 + (cv_v V (C 2 k)).toInt64) (cv_v V (C 3 k)).toInt64) = 0 then 1 else 0)
  else if (C 0 k).toInt = (((0 + 1) + 1) + 1) then (if C 2 k = 0 then 1 else if (cv_v V (C 1 k) - cv_v V (C 1 k) / C 2 k * C 2 k) = 0 then 1 else 0)
  else 1
def cv_fb (C : Nat → Nat → Int32) (V : Nat → Int32) : Nat → Nat → Int32
  | 0, _ => 0
  | n + 1, k => if cv_h C V k = 0 then C 4 k else cv_fb C V n (k + 1)
theorem cv_v_cong {V V' : Nat → Int32} (h : ∀ c, c < 24 → V c = V' c) (x : Int32) : cv_v V x = cv_v V' x := by
  unfold cv_v
  by_cases e : 0 ≤ x ∧ x ≤ 7
  · rw [if_pos e, if_pos e]
    refine h _ ?_
    obtain ⟨e1, e2⟩ := e
    rw [Int32.le_iff_toInt_le] at e2
    have q7 : (7 : Int32).toInt = 7 := rfl
    have q5 : x.toNatClampNeg = x.toInt.toNat := rfl
    omega
  · rw [if_neg e, if_neg e]
theorem cv_h_cong {C : Nat → Nat → Int32} {V V' : Nat → Int32} (h : ∀ c, c < 24 → V c = V' c) (k : Nat) : cv_h C V k = cv_h C V' k := by
  unfold cv_h
  rw [cv_v_cong h (C 1 k), cv_v_cong h (C 2 k), cv_v_cong h (C 3 k)]
theorem cv_fb_cong {C : Nat → Nat → Int32} {V V' : Nat → Int32} (h : ∀ c, c < 24 → V c = V' c) : ∀ n k, cv_fb C V n k = cv_fb C V' n k := by
  intro n
  induction n with
  | zero => intro k; rfl
  | succ n ih =>
    intro k
    unfold cv_fb
    rw [cv_h_cong h, ih]
theorem cv_fb_none {C : Nat → Nat → Int32} {V : Nat → Int32} (h : ∀ c, V c = -2147483648) : ∀ n k, cv_fb C V n k = 0 := by
  intro n
  induction n with
  | zero => intro k; rfl
  | succ n ih =>
    intro k
    unfold cv_fb
    have hv : cv_v V (C 1 k) = -2147483648 := by
      unfold cv_v
      split
      · exact h _
      · rfl
    have hh : cv_h C V k = 1 := by
      unfold cv_h
      rw [if_pos hv]
    rw [hh, if_neg py_10]
    exact ih _
theorem cv_fb_range {C : Nat → Nat → Int32} {V : Nat → Int32} : ∀ n k, (∀ i, i < k + n → ∃ m, 1 ≤ m ∧ m ≤ 99 ∧ C 4 i = Int32.ofNat m) → cv_fb C V n k = 0 ∨ ∃ m, 1 ≤ m ∧ m ≤ 99 ∧ cv_fb C V n k = Int32.ofNat m := by
  intro n
  induction n with
  | zero => intro k _; exact Or.inl rfl
  | succ n ih =>
    intro k h
    unfold cv_fb
    split
    · exact Or.inr (h k (by omega))
    · exact ih (k + 1) (fun i hi => h i (by omega))
theorem pc_slot (S : pw_S) (x : Int32) : m_X11_isSlot S x = some (S, if 0 ≤ x ∧ x ≤ 7 then 1 else 0) := by
  unfold m_X11_isSlot
  by_cases e : x < 0
  · rw [if_pos e, if_neg (fun z => by
      have z1 := z.1
      rw [Int32.le_iff_toInt_le] at z1
      rw [Int32.lt_iff_toInt_lt] at e
      omega)]
  · obtain ⟨e1, e2⟩ := py_nn e
    generalize x.toNatClampNeg = w at e1 e2
    subst e1
    rw [if_neg e, py_jeL (l := 8) (by omega) e2]
    by_cases e8 : 8 ≤ w
    · rw [if_pos e8, if_neg (fun z => by
        have z1 := z.2
        rw [show (7 : Int32) = Int32.ofNat 7 from rfl, py_le e2 (by omega)] at z1
        omega)]
    · rw [if_neg e8, if_pos (show (0 : Int32) ≤ Int32.ofNat w ∧ Int32.ofNat w ≤ 7 from py_in (l := 0) (h := 7) (by omega) (by omega) (by omega))]
theorem pc_valueOf {S : pw_S} {a i : Nat} {V : Nat → Int32} (h24 : pw_len a = 24) (hV : ∀ c, c < 24 → S a i c = V c) (x : Int32) : m_X1_valueOf S x a i = some (S, cv_v V x) := by
  unfold m_X1_valueOf cv_v
  rw [pc_slot, py_b]
  by_cases e : 0 ≤ x ∧ x ≤ 7
  · rw [if_pos e, if_pos e, if_neg py_10]
    have hn : ¬ x < 0 := fun z => by
      have z1 := e.1
      rw [Int32.le_iff_toInt_le] at z1
      rw [Int32.lt_iff_toInt_lt] at z
      omega
    obtain ⟨e1, e2⟩ := py_nn hn
    have h7 : x.toNatClampNeg ≤ 7 := by
      have z1 := e.2
      rw [e1, show (7 : Int32) = Int32.ofNat 7 from rfl, py_le e2 (by omega)] at z1
      exact z1
    generalize x.toNatClampNeg = w at *
    subst e1
    rw [py_cp0, py_b, py_atI _ _ _ _ _ (show w * 3 < pw_len a by rw [h24]; omega), py_b, hV _ (by omega)]
  · rw [if_neg e, if_neg e, if_pos rfl]
def pc_C (S : pw_S) (d : Nat) : Nat → Nat → Int32
  | 0 => S 6 d
  | 1 => S 7 d
  | 2 => S 8 d
  | 3 => S 9 d
  | _ => S 10 d
theorem pc_C_cong {S S' : pw_S} {d : Nat} (h6 : S' 6 d = S 6 d) (h7 : S' 7 d = S 7 d) (h8 : S' 8 d = S 8 d) (h9 : S' 9 d = S 9 d) (h10 : S' 10 d = S 10 d) : pc_C S' d = pc_C S d := by
  funext q
  match q with
  | 0 => exact h6
  | 1 => exact h7
  | 2 => exact h8
  | 3 => exact h9
  | _ + 4 => exact h10
theorem pc_holds {S : pw_S} {d a i k : Nat} {V : Nat → Int32} (h24 : pw_len a = 24) (hV : ∀ c, c < 24 → S a i c = V c) (hk : k < 8) : m_X1_holds S d (Int32.ofNat k) a i = some (S, cv_h (pc_C S d) V k) := by
  unfold m_X1_holds cv_h
  rw [py_atI _ _ _ _ _ (show k < 8 from hk), py_b, py_l, py_atI _ _ _ _ _ (show k < 8 from hk), py_b, pc_valueOf h24 hV, py_b, py_l]
  show (if cv_v V (S 7 d k) = -2147483648 then some (S, 1) else _) = some (S, if cv_v V (S 7 d k) = -2147483648 then 1 else _)
  by_cases e0 : cv_v V (S 7 d k) = -2147483648
  · rw [if_pos e0, if_pos e0]
  rw [if_neg e0, if_neg e0, py_atI _ _ _ _ _ (show k < 8 from hk), py_b]
  show (if (S 6 d k).toInt = 0 then _ else if (S 6 d k).toInt = (0 + 1) then _ else if (S 6 d k).toInt = ((0 + 1) + 1) then _ else if (S 6 d k).toInt = (((0 + 1) + 1) + 1) then _ else _) = some (S, if (S 6 d k).toInt = 0 then _ else if (S 6 d k).toInt = (0 + 1) then _ else if (S 6 d k).toInt = ((0 + 1) + 1) then _ else if (S 6 d k).toInt = (((0 + 1) + 1) + 1) then _ else _)
  by_cases k0 : (S 6 d k).toInt = 0
  · rw [if_pos k0, if_pos k0, pc_valueOf h24 hV, py_b]
    show (if cv_v V (S 8 d k) = -2147483648 then _ else _) = some (S, if cv_v V (S 8 d k) = -2147483648 then 1 else if cv_v V (S 8 d k) ≤ cv_v V (S 7 d k) then 0 else 1)
    by_cases c : cv_v V (S 8 d k) = -2147483648
    · rw [if_pos c, if_pos c]
    · rw [if_neg c, if_neg c, pc_valueOf h24 hV, py_b]
      by_cases c2 : cv_v V (S 8 d k) ≤ cv_v V (S 7 d k)
      · rw [if_pos c2, if_pos c2]
      · rw [if_neg c2, if_neg c2]
  rw [if_neg k0, if_neg k0]
  by_cases k1 : (S 6 d k).toInt = (0 + 1)
  · rw [if_pos k1, if_pos k1]
    show (if cv_v V (S 7 d k) = S 8 d k then _ else _) = some (S, if cv_v V (S 7 d k) = S 8 d k then 1 else 0)
    by_cases c : cv_v V (S 7 d k) = S 8 d k
    · rw [if_pos c, if_pos c]
    · rw [if_neg c, if_neg c]
  rw [if_neg k1, if_neg k1]
  by_cases k2 : (S 6 d k).toInt = ((0 + 1) + 1)
  · rw [if_pos k2, if_pos k2, pc_valueOf h24 hV, py_b, py_atI _ _ _ _ _ (show k < 8 from hk), py_b, pc_valueOf h24 hV, py_b]
    unfold m_X1_isSum
    show _ = some (S, if cv_v V (S 8 d k) = -2147483648 then 1 else if cv_v V (S 9 d k) = -2147483648 then 1 else if (lg_cmp ((cv_v V (S 7 d k)).toInt64 + (cv_v V (S 8 d k)).toInt64) (cv_v V (S 9 d k)).toInt64) = 0 then 1 else 0)
    by_cases c : cv_v V (S 8 d k) = -2147483648
    · rw [if_pos c, if_pos c]
      rfl
    · rw [if_neg c, if_neg c]
      by_cases c2 : cv_v V (S 9 d k) = -2147483648
      · rw [if_pos c2, if_pos c2]
        rfl
      · rw [if_neg c2, if_neg c2]
        by_cases c3 : (lg_cmp ((cv_v V (S 7 d k)).toInt64 + (cv_v V (S 8 d k)).toInt64) (cv_v V (S 9 d k)).toInt64) = 0
        · rw [if_pos c3, if_pos c3]
          rfl
        · rw [if_neg c3, if_neg c3]
          rfl
  rw [if_neg k2, if_neg k2]
  by_cases k3 : (S 6 d k).toInt = (((0 + 1) + 1) + 1)
  · rw [if_pos k3, if_pos k3]
    show (if S 8 d k = 0 then _ else _) = some (S, if S 8 d k = 0 then 1 else if (cv_v V (S 7 d k) - cv_v V (S 7 d k) / S 8 d k * S 8 d k) = 0 then 1 else 0)
    by_cases c : S 8 d k = 0
    · rw [if_pos c, if_pos c]
    · rw [if_neg c, if_neg c, py_ct (by rw [decide_eq_false c]; rfl)]
      by_cases c2 : (cv_v V (S 7 d k) - cv_v V (S 7 d k) / S 8 d k * S 8 d k) = 0
      · rw [if_pos c2, if_pos c2]
      · rw [if_neg c2, if_neg c2]
  rw [if_neg k3, if_neg k3]
theorem pc_fb_2 {S : pw_S} {d a i cnt : Nat} {V : Nat → Int32} (h24 : pw_len a = 24) (hV : ∀ c, c < 24 → S a i c = V c) (hc : S 52 d 6 = Int32.ofNat cnt) (hc8 : cnt ≤ 8) : ∀ (n N k : Nat), n < N → cnt = k + n → m_X1_firstBroken_2 N S d a i (Int32.ofNat k) = some (S, cv_fb (pc_C S d) V n k) := by
  intro n
  induction n with
  | zero =>
    intro N k hN hk
    obtain ⟨N, rfl⟩ : ∃ m, N = m + 1 := ⟨N - 1, by omega⟩
    unfold m_X1_firstBroken_2
    rw [hc, py_je (by omega) (by omega), if_pos (show cnt ≤ k by omega)]
    rfl
  | succ n ih =>
    intro N k hN hk
    obtain ⟨N, rfl⟩ : ∃ m, N = m + 1 := ⟨N - 1, by omega⟩
    unfold m_X1_firstBroken_2 cv_fb
    rw [hc, py_je (by omega) (by omega), if_neg (show ¬ cnt ≤ k by omega), pc_holds h24 hV (by omega), py_b]
    by_cases e : cv_h (pc_C S d) V k = 0
    · rw [if_pos e, if_pos e, py_atI _ _ _ _ _ (show k < 8 by omega), py_b]
      rfl
    · rw [if_neg e, if_neg e, py_l, py_add1]
      exact ih N (k + 1) (by omega) (by omega)
theorem pc_fb {S : pw_S} {d a i cnt : Nat} {V : Nat → Int32} (h24 : pw_len a = 24) (hV : ∀ c, c < 24 → S a i c = V c) (hc : S 52 d 6 = Int32.ofNat cnt) (hc8 : cnt ≤ 8) : m_X1_firstBroken S d a i = some (S, cv_fb (pc_C S d) V cnt 0) := by
  unfold m_X1_firstBroken
  rw [py_l]
  exact pc_fb_2 h24 hV hc hc8 cnt (pw_F 20000) 0 (by rw [py_F]; omega) (by omega)
