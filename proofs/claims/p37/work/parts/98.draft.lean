/-! Drafts of descriptions. -/
theorem pd_kindX {S : pw_S} {j : Nat} {I : py_I} (h : py_Ri S j I) {k : Nat} (hk : k ≤ pi_n I) : ∃ r, m_X2_kind S j (Int32.ofNat k) = some (S, r) ∧ (k < pi_n I → r = Int32.ofNat (pi_k I k)) := by
  by_cases e : k < pi_n I
  · exact ⟨_, pk_kind h e, fun _ => rfl⟩
  · have h14 := h.2.1
    exact ⟨_, pk_kind_over h (by omega) (by omega), fun z => absurd z e⟩
theorem pd_itemOf_2 {S : pw_S} {j x : Nat} {I : py_I} (h : py_Ri S j I) (hx : x < 127) : ∀ (n N i : Nat), n < N → pi_n I = i + n → (∀ m, m < i → ¬ (pi_hs (pi_k I m) ∧ pi_a I m = x)) → ∃ r, m_X2_itemOf_2 N S j (Int32.ofNat x) (Int32.ofNat i) = some (S, Int32.ofNat r) ∧ r ≤ pi_n I ∧ (∀ m, m < r → ¬ (pi_hs (pi_k I m) ∧ pi_a I m = x)) ∧ (r < pi_n I → pi_hs (pi_k I r) ∧ pi_a I r = x) := by
  have h14 := h.2.1
  intro n
  induction n with
  | zero =>
    intro N i hN hi hp
    obtain ⟨N, rfl⟩ : ∃ q, N = q + 1 := ⟨N - 1, by omega⟩
    unfold m_X2_itemOf_2
    rw [h.1, py_je (by omega) (by omega), if_pos (show pi_n I ≤ i by omega)]
    exact ⟨pi_n I, rfl, Nat.le_refl _, fun m hm => hp m (by omega), fun z => absurd z (Nat.lt_irrefl _)⟩
  | succ n ih =>
    intro N i hN hi hp
    obtain ⟨N, rfl⟩ : ∃ q, N = q + 1 := ⟨N - 1, by omega⟩
    have hr := (h.2.2 i (by omega)).2.2.2.2.2.1
    unfold m_X2_itemOf_2
    rw [h.1, py_je (by omega) (by omega), if_neg (show ¬ pi_n I ≤ i by omega), pk_hs h (by omega), py_b]
    by_cases e : pi_hs (pi_k I i)
    · rw [if_pos e, if_neg py_10, pk_a h (by omega), py_b, py_jq (by omega) (by omega)]
      by_cases e2 : pi_a I i = x
      · rw [if_pos e2]
        exact ⟨i, rfl, by omega, hp, fun _ => ⟨e, e2⟩⟩
      · rw [if_neg e2, py_l, py_add1]
        exact ih N (i + 1) (by omega) (by omega) (fun m hm => by
          by_cases em : m = i
          · rw [em]
            exact fun z => e2 z.2
          · exact hp m (by omega))
    · rw [if_neg e, if_pos rfl, py_l, py_add1]
      exact ih N (i + 1) (by omega) (by omega) (fun m hm => by
        by_cases em : m = i
        · rw [em]
          exact fun z => e z.1
        · exact hp m (by omega))
theorem pd_itemOf {S : pw_S} {j x : Nat} {I : py_I} (h : py_Ri S j I) (hx : x < 127) : ∃ r, m_X2_itemOf S j (Int32.ofNat x) = some (S, Int32.ofNat r) ∧ r ≤ pi_n I ∧ (∀ m, m < r → ¬ (pi_hs (pi_k I m) ∧ pi_a I m = x)) ∧ (r < pi_n I → pi_hs (pi_k I r) ∧ pi_a I r = x) := by
  have h14 := h.2.1
  unfold m_X2_itemOf
  rw [py_l]
  exact pd_itemOf_2 h hx (pi_n I) _ 0 (by rw [py_F]; omega) (by omega) (fun m hm => absurd hm (Nat.not_lt_zero m))
theorem pd_inLoop_2 {S : pw_S} {j t : Nat} {I : py_I} (h : py_Ri S j I) (ht : t ≤ pi_n I) : ∀ (n N i : Nat), n < N → t = i + n → ∃ r : Int32, m_X2_isInLoop_2 N S j (Int32.ofNat t) (Int32.ofNat i) = some (S, r) := by
  have h14 := h.2.1
  intro n
  induction n with
  | zero =>
    intro N i hN hi
    obtain ⟨N, rfl⟩ : ∃ q, N = q + 1 := ⟨N - 1, by omega⟩
    unfold m_X2_isInLoop_2
    rw [py_je (by omega) (by omega), if_pos (show t ≤ i by omega)]
    exact ⟨0, rfl⟩
  | succ n ih =>
    intro N i hN hi
    obtain ⟨N, rfl⟩ : ∃ q, N = q + 1 := ⟨N - 1, by omega⟩
    have hb := (h.2.2 i (by omega)).2.2.2.2.2.2.1
    unfold m_X2_isInLoop_2
    rw [py_je (by omega) (by omega), if_neg (show ¬ t ≤ i by omega), h.1, py_je (by omega) (by omega), if_neg (show ¬ pi_n I ≤ i by omega), pk_kind h (by omega), py_b]
    by_cases e : Int32.ofNat (pi_k I i) = 7
    · rw [if_pos e, pk_b h (by omega), py_b, py_add, py_jl (by omega) (by omega)]
      by_cases e2 : i + pi_b I i < t
      · rw [if_pos e2, py_l, py_add1]
        exact ih N (i + 1) (by omega) (by omega)
      · rw [if_neg e2]
        exact ⟨1, rfl⟩
    · rw [if_neg e, py_l, py_add1]
      exact ih N (i + 1) (by omega) (by omega)
theorem pd_inLoop {S : pw_S} {j t : Nat} {I : py_I} (h : py_Ri S j I) (ht : t ≤ pi_n I) : ∃ r : Int32, m_X2_isInLoop S j (Int32.ofNat t) = some (S, r) := by
  have h14 := h.2.1
  unfold m_X2_isInLoop
  rw [py_l]
  exact pd_inLoop_2 h ht t _ 0 (by rw [py_F]; omega) (by omega)
theorem pd_teller {S : pw_S} {j i : Nat} {I : py_I} (h : py_Ri S j I) (hi : i < pi_n I) : ∃ r : Int32, m_X2_isTellerSound S j (Int32.ofNat i) = some (S, r) ∧ (r ≠ 0 → 0 < i) := by
  have h14 := h.2.1
  have ha := (h.2.2 i hi).2.2.2.2.2.1
  obtain ⟨t, a1, a2, a3, a4⟩ := pd_itemOf h (x := pi_a I i) ha
  unfold m_X2_isTellerSound
  rw [pk_a h hi, py_b, a1, py_b, py_l, py_je (by omega) (by omega)]
  by_cases e : i ≤ t
  · rw [if_pos e]
    exact ⟨0, rfl, fun z => absurd rfl z⟩
  · rw [if_neg e]
    obtain ⟨r, b1⟩ := pd_inLoop h a2
    rw [b1, py_b]
    have hpos : 0 < i := by omega
    by_cases e2 : r = 0
    · rw [if_pos e2, pk_kind h (show t < pi_n I by omega), py_b, py_l]
      by_cases e3 : Int32.ofNat (pi_k I t) = 6
      · rw [if_pos e3]
        exact ⟨1, rfl, fun _ => hpos⟩
      · rw [if_neg e3, pk_kind h hi, py_b]
        by_cases e4 : Int32.ofNat (pi_k I i) = 8
        · rw [if_pos e4]
          by_cases e5 : Int32.ofNat (pi_k I t) = 0
          · rw [if_pos e5]
            exact ⟨1, rfl, fun _ => hpos⟩
          · rw [if_neg e5]
            by_cases e6 : Int32.ofNat (pi_k I t) = 3
            · rw [if_pos e6]
              exact ⟨1, rfl, fun _ => hpos⟩
            · rw [if_neg e6]
              exact ⟨0, rfl, fun _ => hpos⟩
        · rw [if_neg e4]
          exact ⟨0, rfl, fun _ => hpos⟩
    · rw [if_neg e2]
      exact ⟨0, rfl, fun _ => hpos⟩
theorem pd_body_22 {S : pw_S} {j l : Nat} {I : py_I} (h : py_Ri S j I) (hl : l < pi_n I) : ∀ (n N i : Nat), n < N → l + 1 = i + n → ∃ r : Int32, m_X2_isBodySound_22 N S j (Int32.ofNat l) (Int32.ofNat i) = some (S, r) ∧ (r ≠ 0 → ∀ m, i ≤ m → m ≤ l → pi_k I m ≠ 7 ∧ pi_k I m ≠ 8) := by
  have h14 := h.2.1
  intro n
  induction n with
  | zero =>
    intro N i hN hi
    obtain ⟨N, rfl⟩ : ∃ q, N = q + 1 := ⟨N - 1, by omega⟩
    unfold m_X2_isBodySound_22
    rw [py_jl (by omega) (by omega), if_pos (show l < i by omega)]
    exact ⟨1, rfl, fun _ m h1 h2 => by omega⟩
  | succ n ih =>
    intro N i hN hi
    obtain ⟨N, rfl⟩ : ∃ q, N = q + 1 := ⟨N - 1, by omega⟩
    unfold m_X2_isBodySound_22
    rw [py_jl (by omega) (by omega), if_neg (show ¬ l < i by omega), h.1, py_je (by omega) (by omega), if_neg (show ¬ pi_n I ≤ i by omega), pk_em h (by omega), py_b]
    by_cases e : pi_k I i = 7 ∨ pi_k I i = 8
    · rw [if_pos e, if_neg py_10]
      exact ⟨0, rfl, fun z => absurd rfl z⟩
    · rw [if_neg e, if_pos rfl, py_l, py_add1]
      obtain ⟨r, a1, a2⟩ := ih N (i + 1) (by omega) (by omega)
      refine ⟨r, a1, fun z m h1 h2 => ?_⟩
      by_cases em : m = i
      · rw [em]
        exact ⟨fun y => e (Or.inl y), fun y => e (Or.inr y)⟩
      · exact a2 z m (by omega) h2
theorem pd_body {S : pw_S} {j i : Nat} {I : py_I} (h : py_Ri S j I) (hi : i < pi_n I) : ∃ r : Int32, m_X2_isBodySound S j (Int32.ofNat i) = some (S, r) ∧ (r ≠ 0 → i + pi_b I i < pi_n I ∧ ∀ m, i < m → m ≤ i + pi_b I i → pi_k I m ≠ 7 ∧ pi_k I m ≠ 8) := by
  have h14 := h.2.1
  have hb := (h.2.2 i hi).2.2.2.2.2.2.1
  unfold m_X2_isBodySound
  rw [pk_b h hi, py_b, py_add, py_l, h.1, py_jl (by omega) (by omega)]
  by_cases e : i + pi_b I i < pi_n I
  · rw [if_pos e, py_add1, py_l]
    obtain ⟨r, a1, a2⟩ := pd_body_22 h e (pi_b I i) (pw_F 20000) (i + 1) (by rw [py_F]; omega) (by omega)
    exact ⟨r, a1, fun z => ⟨e, fun m h1 h2 => a2 z m (by omega) h2⟩⟩
  · rw [if_neg e]
    exact ⟨0, rfl, fun z => absurd rfl z⟩
/-- what has been looked at of an item -/
def pd_P (I : py_I) (i : Nat) : Prop := (pi_hs (pi_k I i) → ∀ m, m < i → ¬ (pi_hs (pi_k I m) ∧ pi_a I m = pi_a I i)) ∧ (pi_k I i = 7 ∨ pi_k I i = 8 → 0 < i ∧ i + pi_b I i < pi_n I ∧ ∀ m, i < m → m ≤ i + pi_b I i → pi_k I m ≠ 7 ∧ pi_k I m ≠ 8)
theorem pd_em {S : pw_S} {j i N : Nat} {I : py_I} (h : py_Ri S j I) (hi : i < pi_n I) (h1 : pi_hs (pi_k I i) → ∀ m, m < i → ¬ (pi_hs (pi_k I m) ∧ pi_a I m = pi_a I i)) {K1 : pw_S → pw_R Int32} (hK : pd_P I i → ∃ r : Int32, K1 S = some (S, r) ∧ (r ≠ 0 → 0 < pi_n I ∧ ∀ m, m < pi_n I → pd_P I m)) :
    ∃ r : Int32, (pw_b (m_X2_embraces S j (Int32.ofNat i)) fun S6 r9 => if r9 = 0 then K1 S6 else (pw_b (m_X2_isBodySound S6 j (Int32.ofNat i)) fun S12 r15 => if r15 = 0 then (some (S12, 0)) else (pw_b (m_X2_isTellerSound S12 j (Int32.ofNat i)) fun S17 r20 => if r20 = 0 then (some (S17, 0)) else K1 S17))) = some (S, r) ∧ (r ≠ 0 → 0 < pi_n I ∧ ∀ m, m < pi_n I → pd_P I m) := by
  rw [pk_em h hi, py_b]
  by_cases e : pi_k I i = 7 ∨ pi_k I i = 8
  · rw [if_pos e, if_neg py_10]
    obtain ⟨r1, b1, b2⟩ := pd_body h hi
    obtain ⟨r2, c1, c2⟩ := pd_teller h hi
    rw [b1, py_b]
    by_cases e1 : r1 = 0
    · rw [if_pos e1]
      exact ⟨0, rfl, fun z => absurd rfl z⟩
    · rw [if_neg e1, c1, py_b]
      by_cases e2 : r2 = 0
      · rw [if_pos e2]
        exact ⟨0, rfl, fun z => absurd rfl z⟩
      · rw [if_neg e2]
        exact hK ⟨h1, fun _ => ⟨c2 e2, b2 e1⟩⟩
  · rw [if_neg e, if_pos rfl]
    exact hK ⟨h1, fun z => absurd z e⟩
theorem pd_isD_2 {S : pw_S} {j : Nat} {I : py_I} (h : py_Ri S j I) : ∀ (n N i : Nat), n < N → pi_n I = i + n → (∀ m, m < i → pd_P I m) → ∃ r : Int32, m_X2_isDescription_2 N S j (Int32.ofNat i) = some (S, r) ∧ (r ≠ 0 → 0 < pi_n I ∧ ∀ m, m < pi_n I → pd_P I m) := by
  have h14 := h.2.1
  intro n
  induction n with
  | zero =>
    intro N i hN hi hp
    obtain ⟨N, rfl⟩ : ∃ q, N = q + 1 := ⟨N - 1, by omega⟩
    unfold m_X2_isDescription_2
    rw [h.1, py_je (by omega) (by omega), if_pos (show pi_n I ≤ i by omega), py_jeR (l := 0) (by omega) (by omega)]
    by_cases e : pi_n I ≤ 0
    · rw [if_pos e]
      exact ⟨0, rfl, fun z => absurd rfl z⟩
    · rw [if_neg e]
      exact ⟨1, rfl, fun _ => ⟨by omega, fun m hm => hp m (by omega)⟩⟩
  | succ n ih =>
    intro N i hN hi hp
    obtain ⟨N, rfl⟩ : ∃ q, N = q + 1 := ⟨N - 1, by omega⟩
    have hii : i < pi_n I := by omega
    have ha := (h.2.2 i hii).2.2.2.2.2.1
    unfold m_X2_isDescription_2
    rw [h.1, py_je (by omega) (by omega), if_neg (show ¬ pi_n I ≤ i by omega), pk_hs h hii, py_b]
    have next : pd_P I i → ∃ r : Int32, (pw_l (Int32.ofNat i + 1 : Int32) fun z11 => m_X2_isDescription_2 N S j z11) = some (S, r) ∧ (r ≠ 0 → 0 < pi_n I ∧ ∀ m, m < pi_n I → pd_P I m) := fun hP => by
      rw [py_l, py_add1]
      exact ih N (i + 1) (by omega) (by omega) (fun m hm => by
        by_cases em : m = i
        · rw [em]
          exact hP
        · exact hp m (by omega))
    by_cases e : pi_hs (pi_k I i)
    · rw [if_pos e, if_neg py_10, pk_a h hii, py_b]
      obtain ⟨t, a1, a2, a3, a4⟩ := pd_itemOf h (x := pi_a I i) ha
      rw [a1, py_b, py_jq (by omega) (by omega)]
      by_cases e2 : t = i
      · rw [if_pos e2]
        rw [e2] at a3
        exact pd_em h hii (N := N) (K1 := fun T => pw_l (Int32.ofNat i + 1 : Int32) fun z11 => m_X2_isDescription_2 N T j z11) (fun _ => a3) next
      · rw [if_neg e2]
        exact ⟨0, rfl, fun z => absurd rfl z⟩
    · rw [if_neg e, if_pos rfl]
      exact pd_em h hii (N := N) (K1 := fun T => pw_l (Int32.ofNat i + 1 : Int32) fun z11 => m_X2_isDescription_2 N T j z11) (fun z => absurd z e) next
theorem pd_isDescription {S : pw_S} {j : Nat} {I : py_I} (h : py_Ri S j I) : ∃ r : Int32, m_X2_isDescription S j = some (S, r) ∧ (r ≠ 0 → 0 < pi_n I ∧ ∀ m, m < pi_n I → pd_P I m) := by
  have h14 := h.2.1
  unfold m_X2_isDescription
  rw [py_l]
  exact pd_isD_2 h (pi_n I) _ 0 (by rw [py_F]; omega) (by omega) (fun m hm => absurd hm (Nat.not_lt_zero m))
/-- items as they may be put -/
def pd_1 (k a b c : Nat) : Prop := (k = 0 ∧ a < 8 ∧ 1 ≤ b ∧ b ≤ 8 ∧ c ≤ 8 ∧ (c < 3 ∨ c % 3 ≠ 1)) ∨ (k = 1 ∧ a < 8 ∧ 1 ≤ b ∧ b ≤ 9 ∧ c ≤ 2) ∨ (k = 2 ∧ a < 8 ∧ 33 ≤ b ∧ b ≤ 126 ∧ c = 0) ∨ (k = 3 ∧ a < 8 ∧ 1 ≤ b ∧ b ≤ 8 ∧ c = 0) ∨ (k = 4 ∧ a = 0 ∧ b = 0 ∧ c = 0) ∨ (k = 5 ∧ 32 ≤ a ∧ a ≤ 126 ∧ b = 0 ∧ c = 0) ∨ (k = 6 ∧ a < 8 ∧ b = 0 ∧ c = 0) ∨ (k = 7 ∧ a < 8 ∧ 1 ≤ b ∧ b ≤ 3 ∧ c = 0) ∨ (k = 8 ∧ a < 8 ∧ 1 ≤ b ∧ b ≤ 3 ∧ c ≤ 99) ∨ (k = 9 ∧ a < 8 ∧ b = 0 ∧ c = 0)
theorem pd_1.sz {k a b c : Nat} (h : pd_1 k a b c) : k ≤ 9 ∧ a < 127 ∧ b < 127 ∧ c < 100 ∧ (k ≠ 4 → k ≠ 5 → a < 8) ∧ (k = 7 ∨ k = 8 → 1 ≤ b ∧ b ≤ 3) := by
  rcases h with h | h | h | h | h | h | h | h | h | h <;> omega
theorem pd_ok {I : py_I} (hv : ∀ i, i < pi_n I → pd_1 (pi_k I i) (pi_a I i) (pi_b I i) (pi_c I i)) (h6 : pi_n I ≤ 6) (h0 : 0 < pi_n I) (hP : ∀ m, m < pi_n I → pd_P I m) : pi_ok I ∧ pi_rg I := by
  have h00 := (hP 0 h0).2
  refine ⟨⟨⟨h0, h6, fun z => ?_, fun z => ?_⟩, fun k hk => ?_, fun k j hk hj h1 h2 e => ?_, fun k hk he => ?_⟩, fun k hk => ?_⟩
  · exact absurd (h00 (Or.inl z)).1 (Nat.lt_irrefl 0)
  · exact absurd (h00 (Or.inr z)).1 (Nat.lt_irrefl 0)
  · have s := (hv k hk).sz
    exact ⟨s.1, s.2.2.2.2.1⟩
  · by_cases e1 : k < j
    · exact absurd ⟨h1, e⟩ ((hP j hj).1 h2 k e1)
    · by_cases e2 : j < k
      · exact absurd ⟨h2, e.symm⟩ ((hP k hk).1 h1 j e2)
      · omega
  · have s := (hv k hk).sz
    have p := (hP k hk).2 he
    exact ⟨(s.2.2.2.2.2 he).1, (s.2.2.2.2.2 he).2, p.2⟩
  · have v := hv k hk
    rcases v with h | h | h | h | h | h | h | h | h | h <;> omega
/-- an item more -/
def pd_add (I : py_I) (k a b c : Nat) : py_I := (pi_n I + 1, fun i => if i = pi_n I then k else pi_k I i, fun i => if i = pi_n I then a else pi_a I i, fun i => if i = pi_n I then b else pi_b I i, fun i => if i = pi_n I then c else pi_c I i)
def py_K5 (j a i : Nat) : Bool := (Nat.beq a 51 || (Nat.beq a 2 || (Nat.beq a 3 || (Nat.beq a 4 || Nat.beq a 5)))) && Nat.beq i j
theorem py_K5_s (j : Nat) : py_K5 j 51 j = true ∧ py_K5 j 2 j = true ∧ py_K5 j 3 j = true ∧ py_K5 j 4 j = true ∧ py_K5 j 5 j = true := by
  unfold py_K5
  simp only [Nat.beq_refl, Bool.and_true]
  decide
theorem py_K5_n {j a i : Nat} (h : i ≠ j) : py_K5 j a i = false := by
  unfold py_K5
  rw [show Nat.beq i j = false from by
    cases hb : Nat.beq i j with
    | false => rfl
    | true => exact absurd (Nat.eq_of_beq_eq_true hb) h, Bool.and_false]
theorem pd_xadd {S : pw_S} {j : Nat} {I : py_I} (h : py_Ri S j I) (hn : pi_n I < 14) {k a b c : Nat} (hk : k ≤ 9) (ha : a < 127) (hb : b < 127) (hc : c < 100) : ∃ S', m_X2_add S j (Int32.ofNat k) (Int32.ofNat a) (Int32.ofNat b) (Int32.ofNat c) = some (S', ()) ∧ py_Ri S' j (pd_add I k a b c) ∧ py_fr (py_K5 j) S S' ∧ ∀ q, q ≠ 4 → S' 51 j q = S 51 j q := by
  unfold m_X2_add
  rw [h.1, py_putI _ _ _ _ _ (show pi_n I < 14 from hn), py_b]
  generalize hS1 : pw_up S 2 j (upd (S 2 j) (pi_n I) (Int32.ofNat k)) = S1
  have k1 : ∀ a i, Nat.beq a 2 = false → S1 a i = S a i := fun a i hh => by
    rw [← hS1]
    exact py_up_k _ _ hh
  rw [k1 51 j rfl, h.1, py_putI _ _ _ _ _ (show pi_n I < 14 from hn), py_b]
  generalize hS2 : pw_up S1 3 j (upd (S1 3 j) (pi_n I) (Int32.ofNat a)) = S2
  have k2 : ∀ a i, Nat.beq a 3 = false → S2 a i = S1 a i := fun a i hh => by
    rw [← hS2]
    exact py_up_k _ _ hh
  rw [k2 51 j rfl, k1 51 j rfl, h.1, py_putI _ _ _ _ _ (show pi_n I < 14 from hn), py_b]
  generalize hS3 : pw_up S2 4 j (upd (S2 4 j) (pi_n I) (Int32.ofNat b)) = S3
  have k3 : ∀ a i, Nat.beq a 4 = false → S3 a i = S2 a i := fun a i hh => by
    rw [← hS3]
    exact py_up_k _ _ hh
  rw [k3 51 j rfl, k2 51 j rfl, k1 51 j rfl, h.1, py_putI _ _ _ _ _ (show pi_n I < 14 from hn), py_b]
  generalize hS4 : pw_up S3 5 j (upd (S3 5 j) (pi_n I) (Int32.ofNat c)) = S4
  have k4 : ∀ a i, Nat.beq a 5 = false → S4 a i = S3 a i := fun a i hh => by
    rw [← hS4]
    exact py_up_k _ _ hh
  rw [k4 51 j rfl, k3 51 j rfl, k2 51 j rfl, k1 51 j rfl, h.1, py_add1, py_l]
  generalize hS5 : pw_up S4 51 j (upd (S 51 j) 4 (Int32.ofNat (pi_n I + 1))) = S5
  have k5 : ∀ a i, Nat.beq a 51 = false → S5 a i = S4 a i := fun a i hh => by
    rw [← hS5]
    exact py_up_k _ _ hh
  have e2 : S5 2 j = upd (S 2 j) (pi_n I) (Int32.ofNat k) := by rw [k5 2 j rfl, k4 2 j rfl, k3 2 j rfl, k2 2 j rfl, ← hS1, py_up_s]
  have e3 : S5 3 j = upd (S 3 j) (pi_n I) (Int32.ofNat a) := by rw [k5 3 j rfl, k4 3 j rfl, k3 3 j rfl, ← hS2, py_up_s, k1 3 j rfl]
  have e4 : S5 4 j = upd (S 4 j) (pi_n I) (Int32.ofNat b) := by rw [k5 4 j rfl, k4 4 j rfl, ← hS3, py_up_s, k2 4 j rfl, k1 4 j rfl]
  have e5 : S5 5 j = upd (S 5 j) (pi_n I) (Int32.ofNat c) := by rw [k5 5 j rfl, ← hS4, py_up_s, k3 5 j rfl, k2 5 j rfl, k1 5 j rfl]
  have e51 : S5 51 j = upd (S 51 j) 4 (Int32.ofNat (pi_n I + 1)) := by rw [← hS5, py_up_s]
  refine ⟨S5, rfl, ⟨by rw [e51, py_u_s]; rfl, hn, fun i hi => ?_⟩, ?_, fun q hq => by rw [e51, py_u_n _ _ hq]⟩
  · rw [e2, e3, e4, e5]
    by_cases e : i = pi_n I
    · have c1 : pi_k (pd_add I k a b c) i = k := if_pos e
      have c2 : pi_a (pd_add I k a b c) i = a := if_pos e
      have c3 : pi_b (pd_add I k a b c) i = b := if_pos e
      have c4 : pi_c (pd_add I k a b c) i = c := if_pos e
      rw [c1, c2, c3, c4, e, py_u_s, py_u_s, py_u_s, py_u_s]
      exact ⟨rfl, rfl, rfl, rfl, hk, ha, hb, hc⟩
    · have c1 : pi_k (pd_add I k a b c) i = pi_k I i := if_neg e
      have c2 : pi_a (pd_add I k a b c) i = pi_a I i := if_neg e
      have c3 : pi_b (pd_add I k a b c) i = pi_b I i := if_neg e
      have c4 : pi_c (pd_add I k a b c) i = pi_c I i := if_neg e
      have hi2 : i < pi_n I + 1 := hi
      rw [c1, c2, c3, c4, py_u_n _ _ e, py_u_n _ _ e, py_u_n _ _ e, py_u_n _ _ e]
      exact h.2.2 i (by omega)
  · have s := py_K5_s j
    have f1 : py_fr (py_K5 j) S S1 := by
      rw [← hS1]
      exact py_fr_r.up s.2.1
    have f2 : py_fr (py_K5 j) S1 S2 := by
      rw [← hS2]
      exact py_fr_r.up s.2.2.1
    have f3 : py_fr (py_K5 j) S2 S3 := by
      rw [← hS3]
      exact py_fr_r.up s.2.2.2.1
    have f4 : py_fr (py_K5 j) S3 S4 := by
      rw [← hS4]
      exact py_fr_r.up s.2.2.2.2
    have f5 : py_fr (py_K5 j) S4 S5 := by
      rw [← hS5]
      exact py_fr_r.up s.1
    exact (((f1.trans f2).trans f3).trans f4).trans f5
