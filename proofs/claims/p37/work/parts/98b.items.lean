/-! Items put, and descriptions made. -/
theorem pd_range (S : pw_S) {k a b c : Nat} (h : pd_1 k a b c) : m_X2_inRange S (Int32.ofNat k) (Int32.ofNat a) (Int32.ofNat b) (Int32.ofNat c) = some (S, 1) := by
  have bt : ∀ (x l u : Nat), l ≤ x → x ≤ u → u < 2147483648 → m_X11_isBetween S (Int32.ofNat x) (Int32.ofNat l) (Int32.ofNat u) = some (S, 1) := fun x l u h1 h2 h3 => by
    rw [py_btw, if_pos (py_in h1 h2 h3)]
  unfold m_X2_inRange
  rcases h with ⟨rfl, h⟩ | ⟨rfl, h⟩ | ⟨rfl, h⟩ | ⟨rfl, h⟩ | ⟨rfl, h⟩ | ⟨rfl, h⟩ | ⟨rfl, h⟩ | ⟨rfl, h⟩ | ⟨rfl, h⟩ | ⟨rfl, h⟩
  · obtain ⟨-, h1, h2, h3, h4⟩ := h
    rw [if_pos (show (Int32.ofNat 0).toInt = 0 from rfl), show m_X11_isBetween S (Int32.ofNat b) 1 8 = some (S, 1) from bt b 1 8 h1 h2 (by omega), py_b, if_neg py_10, show m_X11_isBetween S (Int32.ofNat c) 0 8 = some (S, 1) from bt c 0 8 (by omega) h3 (by omega), py_b, if_neg py_10, py_jlR (l := 3) (by omega) (by omega)]
    by_cases e : c < 3
    · rw [if_pos e]
    · rw [if_neg e, show Int32.ofNat c - Int32.ofNat c / 3 * 3 = Int32.ofNat (c % 3) from py_mod (b := 3) (by omega) (by omega), if_neg (show ¬ Int32.ofNat (c % 3) = 1 from fun z => (h4.resolve_left e) ((py_eq (a := c % 3) (b := 1) (by omega) (by omega)).mp z))]
  · obtain ⟨-, h1, h2, h3⟩ := h
    rw [if_neg (show ¬ (Int32.ofNat 1).toInt = 0 by decide), if_pos (show (Int32.ofNat 1).toInt = (0 + 1) from rfl), show m_X11_isBetween S (Int32.ofNat b) 1 9 = some (S, 1) from bt b 1 9 h1 h2 (by omega), py_b, if_neg py_10, show m_X11_isBetween S (Int32.ofNat c) 0 2 = some (S, 1) from bt c 0 2 (by omega) h3 (by omega), py_b, if_neg py_10]
  · obtain ⟨-, h1, h2, rfl⟩ := h
    rw [if_neg (show ¬ (Int32.ofNat 2).toInt = 0 by decide), if_neg (show ¬ (Int32.ofNat 2).toInt = (0 + 1) by decide), if_pos (show (Int32.ofNat 2).toInt = ((0 + 1) + 1) from rfl), show m_X11_isBetween S (Int32.ofNat b) 33 126 = some (S, 1) from bt b 33 126 h1 h2 (by omega), py_b, if_neg py_10, if_pos (show Int32.ofNat 0 = 0 from rfl)]
  · obtain ⟨-, h1, h2, rfl⟩ := h
    rw [if_neg (show ¬ (Int32.ofNat 3).toInt = 0 by decide), if_neg (show ¬ (Int32.ofNat 3).toInt = (0 + 1) by decide), if_neg (show ¬ (Int32.ofNat 3).toInt = ((0 + 1) + 1) by decide), if_pos (show (Int32.ofNat 3).toInt = (((0 + 1) + 1) + 1) from rfl), show m_X11_isBetween S (Int32.ofNat b) 1 8 = some (S, 1) from bt b 1 8 h1 h2 (by omega), py_b, if_neg py_10, if_pos (show Int32.ofNat 0 = 0 from rfl)]
  · obtain ⟨rfl, rfl, rfl⟩ := h
    rw [if_neg (show ¬ (Int32.ofNat 4).toInt = 0 by decide), if_neg (show ¬ (Int32.ofNat 4).toInt = (0 + 1) by decide), if_neg (show ¬ (Int32.ofNat 4).toInt = ((0 + 1) + 1) by decide), if_neg (show ¬ (Int32.ofNat 4).toInt = (((0 + 1) + 1) + 1) by decide), if_pos (show (Int32.ofNat 4).toInt = ((((0 + 1) + 1) + 1) + 1) from rfl), if_pos (show Int32.ofNat 0 = 0 from rfl), if_pos (show Int32.ofNat 0 = 0 from rfl), if_pos (show Int32.ofNat 0 = 0 from rfl)]
  · obtain ⟨h1, h2, rfl, rfl⟩ := h
    rw [if_neg (show ¬ (Int32.ofNat 5).toInt = 0 by decide), if_neg (show ¬ (Int32.ofNat 5).toInt = (0 + 1) by decide), if_neg (show ¬ (Int32.ofNat 5).toInt = ((0 + 1) + 1) by decide), if_neg (show ¬ (Int32.ofNat 5).toInt = (((0 + 1) + 1) + 1) by decide), if_neg (show ¬ (Int32.ofNat 5).toInt = ((((0 + 1) + 1) + 1) + 1) by decide), if_pos (show (Int32.ofNat 5).toInt = (((((0 + 1) + 1) + 1) + 1) + 1) from rfl), show m_X11_isBetween S (Int32.ofNat a) 32 126 = some (S, 1) from bt a 32 126 h1 h2 (by omega), py_b, if_neg py_10, if_pos (show Int32.ofNat 0 = 0 from rfl), if_pos (show Int32.ofNat 0 = 0 from rfl)]
  · obtain ⟨-, rfl, rfl⟩ := h
    rw [if_neg (show ¬ (Int32.ofNat 6).toInt = 0 by decide), if_neg (show ¬ (Int32.ofNat 6).toInt = (0 + 1) by decide), if_neg (show ¬ (Int32.ofNat 6).toInt = ((0 + 1) + 1) by decide), if_neg (show ¬ (Int32.ofNat 6).toInt = (((0 + 1) + 1) + 1) by decide), if_neg (show ¬ (Int32.ofNat 6).toInt = ((((0 + 1) + 1) + 1) + 1) by decide), if_neg (show ¬ (Int32.ofNat 6).toInt = (((((0 + 1) + 1) + 1) + 1) + 1) by decide), if_pos (show (Int32.ofNat 6).toInt = ((((((0 + 1) + 1) + 1) + 1) + 1) + 1) from rfl), if_pos (show Int32.ofNat 0 = 0 from rfl), if_pos (show Int32.ofNat 0 = 0 from rfl)]
  · obtain ⟨-, h1, h2, rfl⟩ := h
    rw [if_neg (show ¬ (Int32.ofNat 7).toInt = 0 by decide), if_neg (show ¬ (Int32.ofNat 7).toInt = (0 + 1) by decide), if_neg (show ¬ (Int32.ofNat 7).toInt = ((0 + 1) + 1) by decide), if_neg (show ¬ (Int32.ofNat 7).toInt = (((0 + 1) + 1) + 1) by decide), if_neg (show ¬ (Int32.ofNat 7).toInt = ((((0 + 1) + 1) + 1) + 1) by decide), if_neg (show ¬ (Int32.ofNat 7).toInt = (((((0 + 1) + 1) + 1) + 1) + 1) by decide), if_neg (show ¬ (Int32.ofNat 7).toInt = ((((((0 + 1) + 1) + 1) + 1) + 1) + 1) by decide), if_pos (show (Int32.ofNat 7).toInt = (((((((0 + 1) + 1) + 1) + 1) + 1) + 1) + 1) from rfl), show m_X11_isBetween S (Int32.ofNat b) 1 3 = some (S, 1) from bt b 1 3 h1 h2 (by omega), py_b, if_neg py_10, if_pos (show Int32.ofNat 0 = 0 from rfl)]
  · obtain ⟨-, h1, h2, h3⟩ := h
    rw [if_neg (show ¬ (Int32.ofNat 8).toInt = 0 by decide), if_neg (show ¬ (Int32.ofNat 8).toInt = (0 + 1) by decide), if_neg (show ¬ (Int32.ofNat 8).toInt = ((0 + 1) + 1) by decide), if_neg (show ¬ (Int32.ofNat 8).toInt = (((0 + 1) + 1) + 1) by decide), if_neg (show ¬ (Int32.ofNat 8).toInt = ((((0 + 1) + 1) + 1) + 1) by decide), if_neg (show ¬ (Int32.ofNat 8).toInt = (((((0 + 1) + 1) + 1) + 1) + 1) by decide), if_neg (show ¬ (Int32.ofNat 8).toInt = ((((((0 + 1) + 1) + 1) + 1) + 1) + 1) by decide), if_neg (show ¬ (Int32.ofNat 8).toInt = (((((((0 + 1) + 1) + 1) + 1) + 1) + 1) + 1) by decide), if_pos (show (Int32.ofNat 8).toInt = ((((((((0 + 1) + 1) + 1) + 1) + 1) + 1) + 1) + 1) from rfl), show m_X11_isBetween S (Int32.ofNat b) 1 3 = some (S, 1) from bt b 1 3 h1 h2 (by omega), py_b, if_neg py_10, show m_X11_isBetween S (Int32.ofNat c) 0 99 = some (S, 1) from bt c 0 99 (by omega) h3 (by omega), py_b, if_neg py_10]
  · obtain ⟨-, rfl, rfl⟩ := h
    rw [if_neg (show ¬ (Int32.ofNat 9).toInt = 0 by decide), if_neg (show ¬ (Int32.ofNat 9).toInt = (0 + 1) by decide), if_neg (show ¬ (Int32.ofNat 9).toInt = ((0 + 1) + 1) by decide), if_neg (show ¬ (Int32.ofNat 9).toInt = (((0 + 1) + 1) + 1) by decide), if_neg (show ¬ (Int32.ofNat 9).toInt = ((((0 + 1) + 1) + 1) + 1) by decide), if_neg (show ¬ (Int32.ofNat 9).toInt = (((((0 + 1) + 1) + 1) + 1) + 1) by decide), if_neg (show ¬ (Int32.ofNat 9).toInt = ((((((0 + 1) + 1) + 1) + 1) + 1) + 1) by decide), if_neg (show ¬ (Int32.ofNat 9).toInt = (((((((0 + 1) + 1) + 1) + 1) + 1) + 1) + 1) by decide), if_neg (show ¬ (Int32.ofNat 9).toInt = ((((((((0 + 1) + 1) + 1) + 1) + 1) + 1) + 1) + 1) by decide), if_pos (show (Int32.ofNat 9).toInt = (((((((((0 + 1) + 1) + 1) + 1) + 1) + 1) + 1) + 1) + 1) from rfl), if_pos (show Int32.ofNat 0 = 0 from rfl), if_pos (show Int32.ofNat 0 = 0 from rfl)]
theorem pd_refused (S : pw_S) {a b c : Nat} (h1 : 1 ≤ b) (h2 : b ≤ 8) (h3 : c ≤ 8) (h4 : 3 ≤ c) (h5 : c % 3 = 1) : m_X2_inRange S 0 (Int32.ofNat a) (Int32.ofNat b) (Int32.ofNat c) = some (S, 0) := by
  have bt : ∀ (x l u : Nat), l ≤ x → x ≤ u → u < 2147483648 → m_X11_isBetween S (Int32.ofNat x) (Int32.ofNat l) (Int32.ofNat u) = some (S, 1) := fun x l u h1 h2 h3 => by
    rw [py_btw, if_pos (py_in h1 h2 h3)]
  unfold m_X2_inRange
  rw [if_pos (show (0 : Int32).toInt = 0 from rfl), show m_X11_isBetween S (Int32.ofNat b) 1 8 = some (S, 1) from bt b 1 8 h1 h2 (by omega), py_b, if_neg py_10, show m_X11_isBetween S (Int32.ofNat c) 0 8 = some (S, 1) from bt c 0 8 (by omega) h3 (by omega), py_b, if_neg py_10, py_jlR (l := 3) (by omega) (by omega), if_neg (show ¬ c < 3 by omega), show Int32.ofNat c - Int32.ofNat c / 3 * 3 = Int32.ofNat (c % 3) from py_mod (b := 3) (by omega) (by omega), if_pos (show Int32.ofNat (c % 3) = 1 by rw [h5]; rfl)]
theorem pd_tells (S : pw_S) {k : Nat} (hk : k ≤ 9) : m_X2_tellsSlot S (Int32.ofNat k) = some (S, if k = 4 ∨ k = 5 then 0 else 1) := by
  unfold m_X2_tellsSlot
  rw [py_jn (by omega), py_jlL (l := 9) (by omega) (by omega), if_neg (show ¬ 9 < k by omega)]
  by_cases e4 : k = 4
  · rw [if_pos (Or.inl e4), if_pos (show Int32.ofNat k = 4 by rw [e4]; rfl)]
  · rw [if_neg (show ¬ Int32.ofNat k = 4 from fun z => e4 ((py_eq (a := k) (b := 4) (by omega) (by omega)).mp z))]
    by_cases e5 : k = 5
    · rw [if_pos (Or.inr e5), if_pos (show Int32.ofNat k = 5 by rw [e5]; rfl)]
    · rw [if_neg (show ¬ Int32.ofNat k = 5 from fun z => e5 ((py_eq (a := k) (b := 5) (by omega) (by omega)).mp z)), if_neg (fun z => z.elim e4 e5)]
theorem pm_item {S : pw_S} {I : py_I} (h : py_Ri S 6 I) (hn : pi_n I < 14) {k a b c : Nat} (hv : pd_1 k a b c) : ∃ S', m_X11_item S 0 (Int32.ofNat k) (Int32.ofNat a) (Int32.ofNat b) (Int32.ofNat c) = some (S', .inl (Int32.ofNat (pi_n I + 1))) ∧ py_Ri S' 6 (pd_add I k a b c) ∧ py_fr (py_K5 6) S S' ∧ ∀ q, q ≠ 4 → S' 51 6 q = S 51 6 q := by
  have s := hv.sz
  obtain ⟨S', a1, a2, a3, a4⟩ := pd_xadd h hn s.1 s.2.1 s.2.2.1 s.2.2.2.1
  have hf : m_X2_isFull S 6 = some (S, 0) := by
    unfold m_X2_isFull
    rw [h.1, py_jlR (l := 14) (by omega) (by omega), if_pos hn]
  refine ⟨S', ?_, a2, a3, a4⟩
  unfold m_X11_item
  rw [pd_tells S s.1, py_b]
  by_cases e : k = 4 ∨ k = 5
  · rw [if_pos e, if_pos rfl, pd_range S hv, py_b, if_neg py_10, hf, py_b, if_pos rfl, a1, py_b, a2.1]
    rfl
  · rw [if_neg e, if_neg py_10, py_slot S a (by omega), py_b, if_pos (s.2.2.2.2.1 (fun z => e (Or.inl z)) (fun z => e (Or.inr z))), if_neg py_10, pd_range S hv, py_b, if_neg py_10, hf, py_b, if_pos rfl, a1, py_b, a2.1]
    rfl
theorem pm_refused {S : pw_S} {a b c : Nat} (ha : a < 8) (h1 : 1 ≤ b) (h2 : b ≤ 8) (h3 : c ≤ 8) (h4 : 3 ≤ c) (h5 : c % 3 = 1) : m_X11_item S 0 0 (Int32.ofNat a) (Int32.ofNat b) (Int32.ofNat c) = some (S, .inr 1) := by
  unfold m_X11_item
  rw [show m_X2_tellsSlot S 0 = some (S, 1) from pd_tells S (k := 0) (by omega), py_b, if_neg py_10, py_slot S a (by omega), py_b, if_pos ha, if_neg py_10, pd_refused S h1 h2 h3 h4 h5, py_b, if_pos rfl]
theorem pm_drop {S : pw_S} {I : py_I} (h : py_Ri S 6 I) : m_X11_dropItems S 0 = some (pw_up S 51 6 (upd (S 51 6) 4 0), Int32.ofNat (pi_n I)) := by
  unfold m_X11_dropItems m_X2_clear
  rw [h.1, py_l, py_l, py_b]
def py_K6 (a _i : Nat) : Bool := Nat.beq a 51 || (Nat.beq a 2 || (Nat.beq a 3 || (Nat.beq a 4 || (Nat.beq a 5 || Nat.beq a 61))))
theorem py_K6_5 {j : Nat} : ∀ a i, py_K5 j a i = true → py_K6 a i = true := fun a i h => by
  unfold py_K5 at h
  obtain ⟨h1, -⟩ := Bool.and_eq_true_iff.mp h
  simp only [Bool.or_eq_true_iff] at h1
  rcases h1 with h1 | h1 | h1 | h1 | h1 <;> rw [Nat.eq_of_beq_eq_true h1] <;> rfl
theorem pd_copy_6 {d : Nat} {I : py_I} (hd : d < 6) : ∀ (n N i : Nat) (S : pw_S), n < N → pi_n I = i + n → py_Ri S 6 I → py_Ri S d (i, I.2) → ∃ S', m_X2_copyFrom_6 N S d 6 (Int32.ofNat i) = some (S', ()) ∧ py_Ri S' d I ∧ py_fr (py_K5 d) S S' := by
  intro n
  induction n with
  | zero =>
    intro N i S hN hi h hd2
    obtain ⟨N, rfl⟩ : ∃ q, N = q + 1 := ⟨N - 1, by omega⟩
    have h14 := h.2.1
    unfold m_X2_copyFrom_6
    rw [h.1, py_je (by omega) (by omega), if_pos (show pi_n I ≤ i by omega)]
    refine ⟨S, rfl, ?_, py_fr_r⟩
    have e : I = (i, I.2) := Prod.ext hi rfl
    rw [e]
    exact hd2
  | succ n ih =>
    intro N i S hN hi h hd2
    obtain ⟨N, rfl⟩ : ∃ q, N = q + 1 := ⟨N - 1, by omega⟩
    have h14 := h.2.1
    have hii : i < pi_n I := by omega
    obtain ⟨-, -, -, -, b1, b2, b3, b4⟩ := h.2.2 i hii
    obtain ⟨S1, a1, a2, a3, a4⟩ := pd_xadd hd2 (show i < 14 by omega) b1 b2 b3 b4
    have e : pd_add (i, I.2) (pi_k I i) (pi_a I i) (pi_b I i) (pi_c I i) = (i + 1, I.2) := by
      have fx : ∀ g : Nat → Nat, (fun x => if x = i then g i else g x) = g := fun g => by
        funext x
        by_cases ex : x = i
        · rw [if_pos ex, ex]
        · rw [if_neg ex]
      show (i + 1, (fun x => if x = i then pi_k I i else pi_k I x), (fun x => if x = i then pi_a I i else pi_a I x), (fun x => if x = i then pi_b I i else pi_b I x), (fun x => if x = i then pi_c I i else pi_c I x)) = (i + 1, I.2)
      rw [fx, fx, fx, fx]
    rw [e] at a2
    have h6 : py_Ri S1 6 I := h.cong (a3 51 6 (py_K5_n (by omega))) (a3 2 6 (py_K5_n (by omega))) (a3 3 6 (py_K5_n (by omega))) (a3 4 6 (py_K5_n (by omega))) (a3 5 6 (py_K5_n (by omega)))
    obtain ⟨S', c1, c2, c3⟩ := ih N (i + 1) S1 (by omega) (by omega) h6 a2
    refine ⟨S', ?_, c2, a3.trans c3⟩
    unfold m_X2_copyFrom_6
    rw [h.1, py_je (by omega) (by omega), if_neg (show ¬ pi_n I ≤ i by omega), pk_kind h hii, py_b, pk_a h hii, py_b, pk_b h hii, py_b, pk_c h hii, py_b, a1, py_b, py_l, py_add1]
    exact c1
theorem pd_copyFrom {S : pw_S} {d : Nat} {I : py_I} (hd : d < 6) (h : py_Ri S 6 I) : ∃ S', m_X2_copyFrom S d 6 = some (S', ()) ∧ py_Ri S' d I ∧ py_fr (py_K5 d) S S' := by
  generalize hS0 : pw_up S 51 d (upd (S 51 d) 4 0) = S0
  have f0 : py_fr (py_K5 d) S S0 := by
    rw [← hS0]
    exact py_fr_r.up (py_K5_s d).1
  have h6 : py_Ri S0 6 I := h.cong (f0 51 6 (py_K5_n (by omega))) (f0 2 6 (py_K5_n (by omega))) (f0 3 6 (py_K5_n (by omega))) (f0 4 6 (py_K5_n (by omega))) (f0 5 6 (py_K5_n (by omega)))
  have h14 := h.2.1
  obtain ⟨S', a1, a2, a3⟩ := pd_copy_6 (I := I) hd (pi_n I) (pw_F 20000) 0 S0 (by rw [py_F]; omega) (by omega) h6 ⟨by
    rw [← hS0, py_up_s, py_u_s]
    rfl, Nat.zero_le _, fun k hk => absurd hk (Nat.not_lt_zero k)⟩
  refine ⟨S', ?_, a2, f0.trans a3⟩
  unfold m_X2_copyFrom m_X2_clear
  rw [hS0, py_l, py_b, py_l]
  exact a1
/-- a description is made of the draft, or not -/
theorem pm_description {S : pw_S} {dc : Nat} {Is : Nat → py_I} {nc : Nat → Nat} {I : py_I} (hD : px_D S dc Is nc) (hdc : dc < 4) (h : py_Ri S 6 I) (hv : ∀ i, i < pi_n I → pd_1 (pi_k I i) (pi_a I i) (pi_b I i) (pi_c I i)) (h6 : pi_n I ≤ 6) (hz : S 52 dc 6 = Int32.ofNat 0) : ∃ S' r, m_X11_description S 0 = some (S', .inl r) ∧ ((r = -1 ∧ S' = S) ∨ (r = Int32.ofNat dc ∧ 0 < pi_n I ∧ (∃ I6, py_Ri S' 6 I6 ∧ pi_n I6 = 0) ∧ (∃ Is' nc', px_D S' (dc + 1) Is' nc' ∧ pi_n (Is' dc) = pi_n I) ∧ (∀ q, q ≠ 2 → S' 61 0 q = S 61 0 q) ∧ py_fr py_K6 S S')) := by
  obtain ⟨r, a1, a2⟩ := pd_isDescription h
  unfold m_X11_description
  rw [hD.1, py_jlR (l := 6) (by omega) (by omega), if_pos (show dc < 6 by omega), py_ct (py_inb (by omega) (by omega)), a1, py_b, pk_dn (show dc < 6 by omega) (by omega)]
  by_cases e : r = 0
  · rw [if_pos e]
    exact ⟨S, -1, rfl, Or.inl ⟨rfl, rfl⟩⟩
  · obtain ⟨p1, p2⟩ := a2 e
    obtain ⟨S1, b1, b2, b3⟩ := pd_copyFrom (d := dc) (by omega) h
    generalize hS2 : pw_up S1 51 6 (upd (S1 51 6) 4 0) = S2
    have k2 : ∀ a i, ¬ (a = 51 ∧ i = 6) → S2 a i = S1 a i := fun a i hh => by
      rw [← hS2]
      exact pw_up_n _ _ hh
    have e61 : S2 61 0 2 = Int32.ofNat dc := by rw [k2 61 0 (by omega), b3 61 0 (by unfold py_K5; rfl), hD.1]
    generalize hS3 : pw_up S2 61 0 (upd (S2 61 0) 2 (Int32.ofNat (dc + 1))) = S3
    have k3 : ∀ a i, Nat.beq a 61 = false → S3 a i = S2 a i := fun a i hh => by
      rw [← hS3]
      exact py_up_k _ _ hh
    have e3 : S3 61 0 2 = Int32.ofNat (dc + 1) := by rw [← hS3, py_up_s, py_u_s]
    refine ⟨S3, Int32.ofNat dc, ?_, Or.inr ⟨rfl, p1, ⟨(0, I.2), ⟨?_, Nat.zero_le _, fun k hk => absurd hk (Nat.not_lt_zero k)⟩, rfl⟩, ⟨fun d => if d = dc then I else Is d, fun d => if d = dc then 0 else nc d, ⟨e3, by omega, fun d hd => ?_⟩, congrArg pi_n (if_pos rfl)⟩, fun q hq => ?_, ?_⟩⟩
    · rw [if_neg e, b1, py_b]
      unfold m_X2_clear
      rw [hS2, py_l, py_b, e61, py_add1, hS3, py_l, e3, show Int32.ofNat (dc + 1) - 1 = Int32.ofNat dc from py_sub (a := dc + 1) (b := 1) (by omega)]
    · rw [k3 51 6 rfl, ← hS2, py_up_s, py_u_s]
      rfl
    · dsimp only
      have q2 : ∀ a, S3 a d = S1 a d ∨ a = 61 := fun a => by
        by_cases ea : a = 61
        · exact Or.inr ea
        · refine Or.inl ?_
          rw [k3 a d (by
            cases hb : Nat.beq a 61 with
            | false => rfl
            | true => exact absurd (Nat.eq_of_beq_eq_true hb) ea), k2 a d (by omega)]
      have q3 : ∀ a, a ≠ 61 → S3 a d = S1 a d := fun a ha => (q2 a).resolve_right ha
      by_cases ed : d = dc
      · rw [if_pos ed, if_pos ed]
        subst ed
        obtain ⟨o1, o2⟩ := pd_ok hv h6 p1 p2
        refine ⟨b2.cong (q3 51 (by omega)) (q3 2 (by omega)) (q3 3 (by omega)) (q3 4 (by omega)) (q3 5 (by omega)), o1, o2, ?_, Nat.zero_le _, fun i hi => absurd hi (Nat.not_lt_zero i)⟩
        rw [q3 52 (by omega), b3 52 d (by unfold py_K5; rfl), hz]
      · rw [if_neg ed, if_neg ed]
        obtain ⟨d1, d2, d3, d4, d5, d6⟩ := hD.2.2 d (by omega)
        refine ⟨d1.cong ?_ ?_ ?_ ?_ ?_, d2, d3, ?_, d5, fun i hi => ?_⟩
        · rw [q3 51 (by omega), b3 51 d (py_K5_n ed)]
        · rw [q3 2 (by omega), b3 2 d (py_K5_n ed)]
        · rw [q3 3 (by omega), b3 3 d (py_K5_n ed)]
        · rw [q3 4 (by omega), b3 4 d (py_K5_n ed)]
        · rw [q3 5 (by omega), b3 5 d (py_K5_n ed)]
        · rw [q3 52 (by omega), b3 52 d (py_K5_n ed), d4]
        · rw [q3 10 (by omega), b3 10 d (py_K5_n ed)]
          exact d6 i hi
    · rw [← hS3, py_up_s, py_u_n _ _ hq, k2 61 0 (by omega), b3 61 0 (by unfold py_K5; rfl)]
    · have f2 : py_fr py_K6 S1 S2 := by
        rw [← hS2]
        exact py_fr_r.up rfl
      have f3 : py_fr py_K6 S2 S3 := by
        rw [← hS3]
        exact py_fr_r.up rfl
      exact ((b3.mono py_K6_5).trans f2).trans f3
