/-! The law's upgrades: the draft. -/
theorem py_subi {m c : Nat} (hm : m < 1000) (hc : c < 1000) : (Int32.ofNat m - Int32.ofNat c).toInt = (m : Int) - c := by
  rw [Int32.toInt_sub, py_ti (by omega), py_ti (by omega), Int.bmod_eq_of_le (by omega) (by omega)]
theorem py_rng {m c : Nat} (hm : m < 900) (hc : c < 900) : -999 ≤ Int32.ofNat m - Int32.ofNat c ∧ Int32.ofNat m - Int32.ofNat c ≤ 999 := by
  have h1 : (-999 : Int32).toInt = -999 := rfl
  have h2 : (999 : Int32).toInt = 999 := rfl
  rw [Int32.le_iff_toInt_le, Int32.le_iff_toInt_le, py_subi (by omega) (by omega), h1, h2]
  omega
theorem pl_up_j156 {S : pw_S} {Y Z k t : Nat} {v6 kind a b : Int32} (hY : Y < 1073741824) (hZ : Z < 2147483648) (hk : k < 5) (ht : t < 8) (hw : px_w S) (hv : ∀ j, j < 8 → py_bt v6 j = decide (S 19 0 j ≠ -1)) (h : px_ar kind a b) (k22 : pw_S → Nat → Int32 → Nat → Nat → Nat → Nat → Int32 → Int32 → Int32 → Int32 → pw_R Int32) (k211 : pw_S → Nat → Int32 → Nat → Nat → Nat → Nat → Int32 → pw_R Int32) :
    ∃ S' v6' Z', (if ((v6 >>> (Int32.ofNat t &&& 31)) &&& 1) = 0 then m_L_upgrades_j156 k22 k211 S 0 (Int32.ofNat Y) 39 0 36 0 v6 (Int32.ofNat Z) (Int32.ofNat k) kind (Int32.ofNat t) a b (Int32.ofNat (kn (fun j => decide (S 19 0 j ≠ -1)) 8)) 1 else m_L_upgrades_j156 k22 k211 S 0 (Int32.ofNat Y) 39 0 36 0 v6 (Int32.ofNat Z) (Int32.ofNat k) kind (Int32.ofNat t) a b (Int32.ofNat (kn (fun j => decide (S 19 0 j ≠ -1)) 8)) 0) = k22 S' 0 (Int32.ofNat Y) 39 0 36 0 (Int32.ofNat (kn (fun j => decide (S' 19 0 j ≠ -1)) 8)) v6' (Int32.ofNat Z') (Int32.ofNat (k + 1)) ∧ Z' < 2147483648 ∧ px_w S' ∧ (∀ j, j < 8 → py_bt v6' j = decide (S' 19 0 j ≠ -1)) ∧ py_fr py_KD S S' := by
  obtain ⟨S', a1, a2, a3, a4⟩ := pm_change ht hw h
  have hne := h.d1.2
  have hcnt : kn (fun j => decide (S' 19 0 j ≠ -1)) 8 = kn (fun j => decide (S 19 0 j ≠ -1)) 8 + if decide (S 19 0 t ≠ -1) = true then 0 else 1 := kn_set (t := t) (fun j hj => by
    rw [a3, py_u_n _ _ hj]) (by
    rw [a3, py_u_s]
    exact decide_eq_true hne) 8 ht
  have hbits : ∀ j, j < 8 → py_bt (v6 ||| 1 <<< (Int32.ofNat t &&& 31)) j = decide (S' 19 0 j ≠ -1) := fun j hj => by
    have q : py_bt ((1 : Int32) <<< (Int32.ofNat t &&& 31)) j = decide (j = t) := py_bt_1 ⟨t, by omega⟩ ⟨j, by omega⟩
    rw [py_bt_or, hv j hj, q, a3]
    by_cases e : j = t
    · rw [e, py_u_s, decide_eq_true rfl, Bool.or_true]
      exact (decide_eq_true hne).symm
    · rw [py_u_n _ _ e, decide_eq_false e, Bool.or_false]
  have m9 : Int32.ofNat Y - Int32.ofNat Y / 900 * 900 = Int32.ofNat (Y % 900) := py_mod (b := 900) (by omega) (by omega)
  have m8 : Int32.ofNat Z >>> (4 &&& 31) = Int32.ofNat (Z / 2 ^ 4) := py_sar (i := 4) hZ (by omega)
  have m7 : ∀ x : Nat, (104729 : Int32) * Int32.ofNat x = Int32.ofNat (104729 * x) := fun x => py_mul 104729 x
  have hZ' : Z / 2 ^ 4 + 104729 * (Y % 900 + k) < 2147483648 := by omega
  refine ⟨S', _, _, ?_, hZ', a2, hbits, a4⟩
  have go : ∀ s1 : Nat, kn (fun j => decide (S' 19 0 j ≠ -1)) 8 = kn (fun j => decide (S 19 0 j ≠ -1)) 8 + s1 → m_L_upgrades_j156 k22 k211 S 0 (Int32.ofNat Y) 39 0 36 0 v6 (Int32.ofNat Z) (Int32.ofNat k) kind (Int32.ofNat t) a b (Int32.ofNat (kn (fun j => decide (S 19 0 j ≠ -1)) 8)) (Int32.ofNat s1) = k22 S' 0 (Int32.ofNat Y) 39 0 36 0 (Int32.ofNat (kn (fun j => decide (S' 19 0 j ≠ -1)) 8)) (v6 ||| 1 <<< (Int32.ofNat t &&& 31)) (Int32.ofNat (Z / 2 ^ 4 + 104729 * (Y % 900 + k))) (Int32.ofNat (k + 1)) := by
    intro s1 hs1
    unfold m_L_upgrades_j156
    rw [py_add, ← hs1, py_l, py_l, a1, py_b, py_el, if_pos rfl, m9, m8, py_add, m7, py_add, py_l, py_l, py_add1]
  rw [py_bt_test v6 (show t < 32 by omega), hv t ht]
  by_cases e : decide (S 19 0 t ≠ -1) = true
  · rw [if_pos e, if_neg py_10]
    rw [if_pos e] at hcnt
    exact go 0 hcnt
  · rw [if_neg e, if_pos rfl]
    rw [if_neg e] at hcnt
    exact go 1 hcnt
theorem pl_up_j75 {S : pw_S} {Y Z k t kd : Nat} {v6 a : Int32} (hY : Y < 1073741824) (hZ : Z < 2147483648) (hk : k < 5) (ht : t < 8) (hkd : kd < 5) (hw : px_w S) (hv : ∀ j, j < 8 → py_bt v6 j = decide (S 19 0 j ≠ -1)) (ha : (kd = 1 ∧ -999 ≤ a ∧ a ≤ 999) ∨ (kd ≠ 1 ∧ ∃ t, t < 8 ∧ a = Int32.ofNat t)) (k22 : pw_S → Nat → Int32 → Nat → Nat → Nat → Nat → Int32 → Int32 → Int32 → Int32 → pw_R Int32) (k211 : pw_S → Nat → Int32 → Nat → Nat → Nat → Nat → Int32 → pw_R Int32) :
    ∃ S' v6' Z', m_L_upgrades_j75 k22 k211 S 0 (Int32.ofNat Y) 39 0 36 0 (Int32.ofNat (kn (fun j => decide (S 19 0 j ≠ -1)) 8)) v6 (Int32.ofNat Z) (Int32.ofNat k) (Int32.ofNat kd) (Int32.ofNat t) a = k22 S' 0 (Int32.ofNat Y) 39 0 36 0 (Int32.ofNat (kn (fun j => decide (S' 19 0 j ≠ -1)) 8)) v6' (Int32.ofNat Z') (Int32.ofNat (k + 1)) ∧ Z' < 2147483648 ∧ px_w S' ∧ (∀ j, j < 8 → py_bt v6' j = decide (S' 19 0 j ≠ -1)) ∧ py_fr py_KD S S' := by
  have d3 : Int32.ofNat Z / 320 = Int32.ofNat (Z / 320) := py_div (b := 320) hZ (by omega)
  have q0 : Z / 320 < 2147483648 := by omega
  have m1 : Int32.ofNat (Z / 320) - Int32.ofNat (Z / 320) / 99 * 99 = Int32.ofNat (Z / 320 % 99) := py_mod (b := 99) q0 (by omega)
  have m2 : Int32.ofNat (Z / 320) - Int32.ofNat (Z / 320) / 8 * 8 = Int32.ofNat (Z / 320 % 8) := py_mod (b := 8) q0 (by omega)
  have m3 : ∀ x : Nat, (2 : Int32) + Int32.ofNat x = Int32.ofNat (2 + x) := fun x => py_add 2 x
  have hk5 : kd = 0 ∨ kd = 1 ∨ kd = 2 ∨ kd = 3 ∨ kd = 4 := by omega
  unfold m_L_upgrades_j75
  rw [py_l, d3, m1, m2, m3]
  rcases hk5 with rfl | rfl | rfl | rfl | rfl
  · rw [if_neg (show ¬ Int32.ofNat 0 = 2 by decide), if_neg (show ¬ Int32.ofNat 0 = 3 by decide), if_neg (show ¬ Int32.ofNat 0 = 4 by decide), py_l]
    have har : px_ar (Int32.ofNat 0) a 0 := Or.inl ⟨rfl, by
      rcases ha with z | z
      · exact absurd z.1 (by decide)
      · exact z.2, rfl⟩
    exact pl_up_j156 hY hZ hk ht hw hv har k22 k211
  · rw [if_neg (show ¬ Int32.ofNat 1 = 2 by decide), if_neg (show ¬ Int32.ofNat 1 = 3 by decide), if_neg (show ¬ Int32.ofNat 1 = 4 by decide), py_l]
    have har : px_ar (Int32.ofNat 1) a 0 := Or.inr (Or.inl ⟨rfl, by
      rcases ha with z | z
      · exact z.2
      · exact absurd rfl z.1, rfl⟩)
    exact pl_up_j156 hY hZ hk ht hw hv har k22 k211
  · rw [if_pos (show Int32.ofNat 2 = 2 from rfl), py_l]
    have har : px_ar (Int32.ofNat 2) a (Int32.ofNat (Z / 320 % 99) - 40) := Or.inr (Or.inr (Or.inl ⟨rfl, by
      rcases ha with z | z
      · exact absurd z.1 (by decide)
      · exact z.2, py_rng (c := 40) (by omega) (by omega)⟩))
    exact pl_up_j156 hY hZ hk ht hw hv har k22 k211
  · rw [if_neg (show ¬ Int32.ofNat 3 = 2 by decide), if_pos (show Int32.ofNat 3 = 3 from rfl), py_l]
    have har : px_ar (Int32.ofNat 3) a (Int32.ofNat (2 + Z / 320 % 8)) := Or.inr (Or.inr (Or.inr (Or.inl ⟨rfl, by
      rcases ha with z | z
      · exact absurd z.1 (by decide)
      · exact z.2, py_in (l := 2) (h := 9) (by omega) (by omega) (by omega)⟩)))
    exact pl_up_j156 hY hZ hk ht hw hv har k22 k211
  · rw [if_neg (show ¬ Int32.ofNat 4 = 2 by decide), if_neg (show ¬ Int32.ofNat 4 = 3 by decide), if_pos (show Int32.ofNat 4 = 4 from rfl), py_l]
    have har : px_ar (Int32.ofNat 4) a (Int32.ofNat (Z / 320 % 8)) := Or.inr (Or.inr (Or.inr (Or.inr ⟨rfl, by
      rcases ha with z | z
      · exact absurd z.1 (by decide)
      · exact z.2, ⟨Z / 320 % 8, by omega, rfl⟩⟩)))
    exact pl_up_j156 hY hZ hk ht hw hv har k22 k211
theorem pl_up_22 {Y : Nat} (hY : Y < 1073741824) (k211 : pw_S → Nat → Int32 → Nat → Nat → Nat → Nat → Int32 → pw_R Int32) : ∀ (n N k : Nat) (S : pw_S) (v6 : Int32) (Z : Nat), n < N → 1 + Y % 5 = k + n → Z < 2147483648 → px_w S → (∀ j, j < 8 → py_bt v6 j = decide (S 19 0 j ≠ -1)) →
    ∃ S', m_L_upgrades_22 k211 N S 0 (Int32.ofNat Y) 39 0 36 0 (Int32.ofNat (kn (fun j => decide (S 19 0 j ≠ -1)) 8)) v6 (Int32.ofNat Z) (Int32.ofNat k) = k211 S' 0 (Int32.ofNat Y) 39 0 36 0 (Int32.ofNat (kn (fun j => decide (S' 19 0 j ≠ -1)) 8)) ∧ px_w S' ∧ py_fr py_KD S S' := by
  have m5 : Int32.ofNat Y - Int32.ofNat Y / 5 * 5 = Int32.ofNat (Y % 5) := py_mod (b := 5) (by omega) (by omega)
  have p1 : (1 : Int32) + Int32.ofNat (Y % 5) = Int32.ofNat (1 + Y % 5) := py_add 1 _
  intro n
  induction n with
  | zero =>
    intro N k S v6 Z hN hk hZ hw hv
    obtain ⟨N, rfl⟩ : ∃ q, N = q + 1 := ⟨N - 1, by omega⟩
    unfold m_L_upgrades_22
    rw [m5, p1, py_je (by omega) (by omega), if_pos (show 1 + Y % 5 ≤ k by omega)]
    exact ⟨S, rfl, hw, py_fr_r⟩
  | succ n ih =>
    intro N k S v6 Z hN hk hZ hw hv
    obtain ⟨N, rfl⟩ : ∃ q, N = q + 1 := ⟨N - 1, by omega⟩
    have z1 : Int32.ofNat Z - Int32.ofNat Z / 5 * 5 = Int32.ofNat (Z % 5) := py_mod (b := 5) (by omega) (by omega)
    have z2 : Int32.ofNat Z / 5 = Int32.ofNat (Z / 5) := py_div (b := 5) hZ (by omega)
    have z3 : Int32.ofNat (Z / 5) - Int32.ofNat (Z / 5) / 8 * 8 = Int32.ofNat (Z / 5 % 8) := py_mod (b := 8) (by omega) (by omega)
    have z4 : Int32.ofNat Z / 40 = Int32.ofNat (Z / 40) := py_div (b := 40) hZ (by omega)
    have z5 : Int32.ofNat (Z / 40) - Int32.ofNat (Z / 40) / 8 * 8 = Int32.ofNat (Z / 40 % 8) := py_mod (b := 8) (by omega) (by omega)
    have z6 : Int32.ofNat (Z / 40) - Int32.ofNat (Z / 40) / 100 * 100 = Int32.ofNat (Z / 40 % 100) := py_mod (b := 100) (by omega) (by omega)
    rw [m_L_upgrades_22.eq_2, m5, p1, py_je (by omega) (by omega), if_neg (show ¬ 1 + Y % 5 ≤ k by omega), z1, z2, z3, z4, z5, z6, py_l, py_l]
    have fin : ∀ a : Int32, ((Z % 5 = 1 ∧ -999 ≤ a ∧ a ≤ 999) ∨ (Z % 5 ≠ 1 ∧ ∃ t, t < 8 ∧ a = Int32.ofNat t)) → ∃ S', m_L_upgrades_j75 (fun S491 u476 u478 u479 u480 u483 u484 u487 u488 u489 u490 => m_L_upgrades_22 k211 N S491 u476 u478 u479 u480 u483 u484 u487 u488 u489 u490) (fun S510 u498 u500 u501 u502 u505 u506 u509 => k211 S510 u498 u500 u501 u502 u505 u506 u509) S 0 (Int32.ofNat Y) 39 0 36 0 (Int32.ofNat (kn (fun j => decide (S 19 0 j ≠ -1)) 8)) v6 (Int32.ofNat Z) (Int32.ofNat k) (Int32.ofNat (Z % 5)) (Int32.ofNat (Z / 5 % 8)) a = k211 S' 0 (Int32.ofNat Y) 39 0 36 0 (Int32.ofNat (kn (fun j => decide (S' 19 0 j ≠ -1)) 8)) ∧ px_w S' ∧ py_fr py_KD S S' := by
      intro a ha
      obtain ⟨S1, v6', Z', b1, b2, b3, b4, b5⟩ := pl_up_j75 hY hZ (show k < 5 by omega) (show Z / 5 % 8 < 8 by omega) (show Z % 5 < 5 by omega) hw hv ha (fun S491 u476 u478 u479 u480 u483 u484 u487 u488 u489 u490 => m_L_upgrades_22 k211 N S491 u476 u478 u479 u480 u483 u484 u487 u488 u489 u490) (fun S510 u498 u500 u501 u502 u505 u506 u509 => k211 S510 u498 u500 u501 u502 u505 u506 u509)
      obtain ⟨S', c1, c2, c3⟩ := ih N (k + 1) S1 v6' Z' (by omega) (by omega) b2 b3 b4
      exact ⟨S', b1.trans c1, c2, b5.trans c3⟩
    by_cases e : Z % 5 = 1
    · rw [if_pos (show Int32.ofNat (Z % 5) = 1 by rw [e]; rfl)]
      exact fin _ (Or.inl ⟨e, py_rng (c := 50) (by omega) (by omega)⟩)
    · rw [if_neg (show ¬ Int32.ofNat (Z % 5) = 1 from fun z => e ((py_eq (a := Z % 5) (b := 1) (by omega) (by omega)).mp z))]
      exact fin _ (Or.inr ⟨e, Z / 40 % 8, by omega, rfl⟩)
theorem pw_d_len {S : pw_S} (hw : px_w S) : ∀ s, s ≤ 8 → kn (fun j => decide (S 19 0 j ≠ -1)) s ≤ (ul (pw_d S) s).length ∧ (ul (pw_d S) s).length ≤ 3 * kn (fun j => decide (S 19 0 j ≠ -1)) s := by
  intro s
  induction s with
  | zero => intro _; exact ⟨Nat.le_refl _, Nat.le_refl _⟩
  | succ s ih =>
    intro h
    obtain ⟨h1, h2⟩ := ih (by omega)
    obtain ⟨-, a1, a2, a3⟩ := us_ok (hw s (by omega))
    have e1 : (ul (pw_d S) (s + 1)).length = (ul (pw_d S) s).length + (us (S 19 0 s) (S 20 0 s) (S 21 0 s)).length := by
      show (ul (pw_d S) s ++ us (S 19 0 s) (S 20 0 s) (S 21 0 s)).length = _
      rw [List.length_append]
    have e2 : kn (fun j => decide (S 19 0 j ≠ -1)) (s + 1) = kn (fun j => decide (S 19 0 j ≠ -1)) s + if decide (S 19 0 s ≠ -1) = true then 1 else 0 := rfl
    rw [e1, e2]
    by_cases e : S 19 0 s = -1
    · rw [if_neg (fun z => (of_decide_eq_true z) e), a2 e]
      omega
    · have := a3 e
      rw [if_pos (decide_eq_true e)]
      omega
