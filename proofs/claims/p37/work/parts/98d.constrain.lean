/-! Constraints are put. -/
theorem pd_can {S : pw_S} {j x : Nat} {I : py_I} (h : py_Ri S j I) (hx : x < 127) : ∃ r : Int32, m_X2_canBeConstrained S j (Int32.ofNat x) = some (S, r) := by
  have h14 := h.2.1
  obtain ⟨t, a1, a2, -, -⟩ := pd_itemOf h hx
  obtain ⟨kk, b1, -⟩ := pd_kindX h a2
  unfold m_X2_canBeConstrained
  rw [a1, py_b, py_l, b1, py_b, py_l]
  by_cases e1 : kk = 1
  · rw [if_pos e1]
    exact ⟨0, rfl⟩
  · rw [if_neg e1]
    by_cases e2 : kk = 2
    · rw [if_pos e2]
      exact ⟨0, rfl⟩
    · rw [if_neg e2, h.1, py_je (by omega) (by omega)]
      by_cases e3 : pi_n I ≤ t
      · rw [if_pos e3]
        exact ⟨1, rfl⟩
      · rw [if_neg e3]
        obtain ⟨r, c1⟩ := pd_inLoop h a2
        rw [c1, py_b]
        by_cases e4 : r = 0
        · rw [if_pos e4]
          exact ⟨1, rfl⟩
        · rw [if_neg e4]
          exact ⟨0, rfl⟩
theorem pd_btx (S : pw_S) (x a b : Int32) : ∃ r : Int32, m_X11_isBetween S x a b = some (S, r) := ⟨_, py_btw S x a b⟩
theorem pd_allows {S : pw_S} {d kd a b c : Nat} {I : py_I} (h : py_Ri S d I) (ha : a < 127) (hb : b < 127) (hc : c < 127) (hk : kd < 4) : ∃ r : Int32, m_X1_allows S d (Int32.ofNat kd) (Int32.ofNat a) (Int32.ofNat b) (Int32.ofNat c) = some (S, r) := by
  obtain ⟨r1, a1⟩ := pd_can h ha
  obtain ⟨r2, a2⟩ := pd_can h hb
  obtain ⟨r3, a3⟩ := pd_can h hc
  unfold m_X1_allows
  rw [a1, py_b]
  by_cases e1 : r1 = 0
  · rw [if_pos e1]
    exact ⟨0, rfl⟩
  · rw [if_neg e1]
    rcases (by omega : kd = 0 ∨ kd = 1 ∨ kd = 2 ∨ kd = 3) with rfl | rfl | rfl | rfl
    · rw [if_pos (show (Int32.ofNat 0).toInt = 0 from rfl), a2, py_b]
      by_cases e2 : r2 = 0
      · rw [if_pos e2]
        exact ⟨0, rfl⟩
      · rw [if_neg e2]
        by_cases e3 : Int32.ofNat c = 0
        · rw [if_pos e3]
          exact ⟨1, rfl⟩
        · rw [if_neg e3]
          exact ⟨0, rfl⟩
    · obtain ⟨r4, a4⟩ := pd_btx S (Int32.ofNat b) 0 999
      rw [if_neg (show ¬ (Int32.ofNat 1).toInt = 0 by decide), if_pos (show (Int32.ofNat 1).toInt = (0 + 1) from rfl), a4, py_b]
      by_cases e2 : r4 = 0
      · rw [if_pos e2]
        exact ⟨0, rfl⟩
      · rw [if_neg e2]
        by_cases e3 : Int32.ofNat c = 0
        · rw [if_pos e3]
          exact ⟨1, rfl⟩
        · rw [if_neg e3]
          exact ⟨0, rfl⟩
    · rw [if_neg (show ¬ (Int32.ofNat 2).toInt = 0 by decide), if_neg (show ¬ (Int32.ofNat 2).toInt = (0 + 1) by decide), if_pos (show (Int32.ofNat 2).toInt = ((0 + 1) + 1) from rfl), a2, py_b]
      by_cases e2 : r2 = 0
      · rw [if_pos e2]
        exact ⟨0, rfl⟩
      · rw [if_neg e2, a3, py_b]
        by_cases e3 : r3 = 0
        · rw [if_pos e3]
          exact ⟨0, rfl⟩
        · rw [if_neg e3]
          exact ⟨1, rfl⟩
    · obtain ⟨r4, a4⟩ := pd_btx S (Int32.ofNat b) 1 99
      rw [if_neg (show ¬ (Int32.ofNat 3).toInt = 0 by decide), if_neg (show ¬ (Int32.ofNat 3).toInt = (0 + 1) by decide), if_neg (show ¬ (Int32.ofNat 3).toInt = ((0 + 1) + 1) by decide), if_pos (show (Int32.ofNat 3).toInt = (((0 + 1) + 1) + 1) from rfl), a4, py_b]
      by_cases e2 : r4 = 0
      · rw [if_pos e2]
        exact ⟨0, rfl⟩
      · rw [if_neg e2]
        by_cases e3 : Int32.ofNat c = 0
        · rw [if_pos e3]
          exact ⟨1, rfl⟩
        · rw [if_neg e3]
          exact ⟨0, rfl⟩
theorem pd_tellsSlots (S : pw_S) {kd a b c : Nat} (hk : kd < 4) (ha : a < 8) (hb : kd = 0 ∨ kd = 2 → b < 8) (hc : kd = 2 → c < 8) : m_X1_tellsSlots S (Int32.ofNat kd) (Int32.ofNat a) (Int32.ofNat b) (Int32.ofNat c) = some (S, 1) := by
  have sl : ∀ x : Nat, x < 8 → m_X11_isSlot S (Int32.ofNat x) = some (S, 1) := fun x hx => by
    rw [py_slot S x (by omega), if_pos hx]
  unfold m_X1_tellsSlots
  rcases (by omega : kd = 0 ∨ kd = 1 ∨ kd = 2 ∨ kd = 3) with rfl | rfl | rfl | rfl
  · rw [if_pos (show Int32.ofNat 0 = 0 from rfl), py_l, sl a ha, py_b, if_neg py_10, if_neg py_10, sl b (hb (Or.inl rfl)), py_b, if_neg py_10, if_neg (show ¬ Int32.ofNat 0 = 2 by decide)]
  · rw [if_neg (show ¬ Int32.ofNat 1 = 0 by decide), if_neg (show ¬ Int32.ofNat 1 = 2 by decide), py_l, sl a ha, py_b, if_neg py_10, if_pos rfl, if_neg (show ¬ Int32.ofNat 1 = 2 by decide)]
  · rw [if_neg (show ¬ Int32.ofNat 2 = 0 by decide), if_pos (show Int32.ofNat 2 = 2 from rfl), py_l, sl a ha, py_b, if_neg py_10, if_neg py_10, sl b (hb (Or.inr rfl)), py_b, if_neg py_10, if_pos (show Int32.ofNat 2 = 2 from rfl), sl c (hc rfl), py_b, if_neg py_10]
  · rw [if_neg (show ¬ Int32.ofNat 3 = 0 by decide), if_neg (show ¬ Int32.ofNat 3 = 2 by decide), py_l, sl a ha, py_b, if_neg py_10, if_pos rfl, if_neg (show ¬ Int32.ofNat 3 = 2 by decide)]
def py_K7 (a _i : Nat) : Bool := (Nat.ble 6 a && Nat.ble a 10) || Nat.beq a 52
theorem pd_cadd {S : pw_S} {d n : Nat} (h : S 52 d 6 = Int32.ofNat n) (hn : n < 8) (x1 x2 x3 x4 x5 : Int32) : ∃ S', m_X1_add S d x1 x2 x3 x4 x5 = some (S', ()) ∧ S' 52 d 6 = Int32.ofNat (n + 1) ∧ S' 10 d = upd (S 10 d) n x5 ∧ py_fr py_K7 S S' ∧ ∀ a i, i ≠ d → S' a i = S a i := by
  have step : ∀ (S : pw_S) (a : Nat) (x : Int32), pw_len a = 8 → a ≠ 52 → (Nat.ble 6 a && Nat.ble a 10) = true → S 52 d 6 = Int32.ofNat n → ∃ S1, m_X11_put S a d (S 52 d 6) x = some (S1, ()) ∧ S1 a d = upd (S a d) n x ∧ S1 52 d 6 = Int32.ofNat n ∧ py_fr (py_K1 a d) S S1 ∧ py_fr py_K7 S S1 := by
    intro S a x hl hne hK hc
    rw [hc, py_putI _ _ _ _ _ (show n < pw_len a by rw [hl]; exact hn)]
    refine ⟨_, rfl, py_up_s _ _ _ _, ?_, py_fr_r.up (py_K1_s a d), py_fr_r.up (by unfold py_K7; rw [hK]; rfl)⟩
    rw [pw_up_n _ _ (fun z => hne z.1.symm)]
    exact hc
  obtain ⟨S1, a1, a2, a3, a4, a5⟩ := step S 6 x1 rfl (by omega) rfl h
  obtain ⟨S2, b1, b2, b3, b4, b5⟩ := step S1 7 x2 rfl (by omega) rfl a3
  obtain ⟨S3, c1, c2, c3, c4, c5⟩ := step S2 8 x3 rfl (by omega) rfl b3
  obtain ⟨S4, d1, d2, d3, d4, d5⟩ := step S3 9 x4 rfl (by omega) rfl c3
  obtain ⟨S5, e1, e2, e3, e4, e5⟩ := step S4 10 x5 rfl (by omega) rfl d3
  generalize hS6 : pw_up S5 52 d (upd (S5 52 d) 6 (Int32.ofNat (n + 1))) = S6
  have k6 : ∀ a i, Nat.beq a 52 = false → S6 a i = S5 a i := fun a i hh => by
    rw [← hS6]
    exact py_up_k _ _ hh
  have f6 : py_fr py_K7 S5 S6 := by
    rw [← hS6]
    exact py_fr_r.up rfl
  refine ⟨S6, ?_, by rw [← hS6, py_up_s, py_u_s], ?_, ((((a5.trans b5).trans c5).trans d5).trans e5).trans f6, fun a i hi => ?_⟩
  · unfold m_X1_add
    rw [a1, py_b, b1, py_b, c1, py_b, d1, py_b, e1, py_b, e3, py_add1, hS6, py_l]
  · rw [k6 10 d rfl, e2, d4 10 d rfl, c4 10 d rfl, b4 10 d rfl, a4 10 d rfl]
  · have hK : ∀ b, py_K1 b d a i = false := fun b => by
      unfold py_K1
      rw [show Nat.beq i d = false from by
        cases hb : Nat.beq i d with
        | false => rfl
        | true => exact absurd (Nat.eq_of_beq_eq_true hb) hi, Bool.and_false]
    rw [← hS6, pw_up_n _ _ (fun z => hi z.2), e4 a i (hK 10), d4 a i (hK 9), c4 a i (hK 8), b4 a i (hK 7), a4 a i (hK 6)]
theorem pm_constrain {S : pw_S} {dc d kd a b c m : Nat} {Is : Nat → py_I} {nc : Nat → Nat} (hD : px_D S dc Is nc) (hd : d < dc) (hk : kd < 4) (ha : a < 8) (hb : kd = 0 ∨ kd = 2 → b < 8) (hb2 : b < 127) (hc : c < 8) (hm1 : 1 ≤ m) (hm2 : m ≤ 99) :
    ∃ S' r, m_X11_constrain S 0 (Int32.ofNat d) (Int32.ofNat kd) (Int32.ofNat a) (Int32.ofNat b) (Int32.ofNat c) (Int32.ofNat m) = some (S', r) ∧ (r = .inr 1 ∨ r = .inr 2 ∨ ∃ n, 1 ≤ n ∧ n ≤ 8 ∧ r = .inl (Int32.ofNat n)) ∧ (∃ nc', px_D S' dc Is nc') ∧ (∀ q, q ≠ d → S' 52 q = S 52 q) ∧ py_fr py_K7 S S' := by
  have hdc4 := hD.2.1
  obtain ⟨d1, d2, d3, d4, d5, d6⟩ := hD.2.2 d hd
  obtain ⟨r, a1⟩ := pd_allows d1 (show a < 127 by omega) hb2 (show c < 127 by omega) hk
  unfold m_X11_constrain
  rw [pm_desc hD.1 hd (by omega), py_b, py_os, pd_tellsSlots S hk ha hb (fun _ => hc), py_b, if_neg py_10, a1, py_b]
  by_cases e : r = 0
  · rw [if_pos e]
    exact ⟨S, _, rfl, Or.inl rfl, ⟨nc, hD⟩, fun _ _ => rfl, py_fr_r⟩
  · rw [if_neg e, py_jlR (l := 1) (by omega) (by omega), if_neg (show ¬ m < 1 by omega), py_jeR (l := 99) (by omega) (by omega), if_pos hm2]
    unfold m_X1_isFull
    rw [d4, py_jlR (l := 8) (by omega) (by omega)]
    by_cases e8 : nc d < 8
    · obtain ⟨S', b1, b2, b3, b4, b5⟩ := pd_cadd d4 e8 (Int32.ofNat kd) (Int32.ofNat a) (Int32.ofNat b) (Int32.ofNat c) (Int32.ofNat m)
      rw [if_pos e8, py_b, if_pos rfl, b1, py_b, b2]
      refine ⟨S', _, rfl, Or.inr (Or.inr ⟨nc d + 1, by omega, by omega, rfl⟩), ⟨fun q => if q = d then nc d + 1 else nc q, ⟨by rw [b4 61 0 rfl, hD.1], hdc4, fun q hq => ?_⟩⟩, fun q hq => b5 52 q hq, b4⟩
      dsimp only
      obtain ⟨e1, e2, e3, e4, e5, e6⟩ := hD.2.2 q hq
      have hRi : py_Ri S' q (Is q) := e1.cong (b4 51 q rfl) (b4 2 q rfl) (b4 3 q rfl) (b4 4 q rfl) (b4 5 q rfl)
      by_cases eq : q = d
      · rw [if_pos eq]
        subst eq
        refine ⟨hRi, e2, e3, b2, by omega, fun i hi => ?_⟩
        rw [b3]
        by_cases ei : i = nc q
        · rw [ei, py_u_s]
          exact ⟨m, hm1, hm2, rfl⟩
        · rw [py_u_n _ _ ei]
          exact e6 i (by omega)
      · rw [if_neg eq]
        refine ⟨hRi, e2, e3, by rw [b5 52 q eq]; exact e4, e5, fun i hi => ?_⟩
        rw [b5 10 q eq]
        exact e6 i hi
    · rw [if_neg e8, py_b, if_neg py_10]
      exact ⟨S, _, rfl, Or.inr (Or.inl rfl), ⟨nc, hD⟩, fun _ _ => rfl, py_fr_r⟩
theorem pl_c58 {S : pw_S} {dc X Y kd a b : Nat} {Is : Nat → py_I} {nc : Nat → Nat} (hD : px_D S dc Is nc) (h0 : 0 < dc) (hc0 : S 36 0 0 = Int32.ofNat dc) (hX : X < 1073741824) (hY : Y < 1073741824) (hk : kd < 4) (ha : a < 8) (hb : kd = 0 ∨ kd = 2 → b < 8) (hb2 : b < 127) :
    ∃ S', m_L_constrains_j58 S 0 (Int32.ofNat X) (Int32.ofNat Y) 36 0 (Int32.ofNat kd) (Int32.ofNat a) (Int32.ofNat b) = some (S', 1) ∧ (∃ nc', px_D S' dc Is nc') ∧ (∀ q, dc ≤ q → S' 52 q = S 52 q) ∧ py_fr py_K7 S S' := by
  have hdc4 := hD.2.1
  have hbb : ∀ (β : Type) (o : pw_R β), pw_c (np_inb 0 (pw_len 36)) o = o := fun β o => py_ct (show np_inb 0 (pw_len 36) = true from rfl) o
  have h0b : (0 : Int32).toNatClampNeg = 0 := rfl
  have hm : Int32.ofNat X - Int32.ofNat X / Int32.ofNat dc * Int32.ofNat dc = Int32.ofNat (X % dc) := py_mod (by omega) (by omega)
  have hv : X % dc < dc := Nat.mod_lt _ h0
  have hnz : (!decide (Int32.ofNat dc = 0)) = true := by
    rw [decide_eq_false]
    · rfl
    · intro z
      have := (py_eq (a := dc) (b := 0) (by omega) (by omega)).mp z
      omega
  have d24 : Int32.ofNat X / 24 = Int32.ofNat (X / 24) := py_div (b := 24) (by omega) (by omega)
  have m99 : Int32.ofNat (X / 24) - Int32.ofNat (X / 24) / 99 * 99 = Int32.ofNat (X / 24 % 99) := py_mod (b := 99) (by omega) (by omega)
  have p1 : ∀ x : Nat, (1 : Int32) + Int32.ofNat x = Int32.ofNat (1 + x) := fun x => py_add 1 x
  have d40 : Int32.ofNat Y / 40 = Int32.ofNat (Y / 40) := py_div (b := 40) (by omega) (by omega)
  have m6 : Int32.ofNat (Y / 40) - Int32.ofNat (Y / 40) / 6 * 6 = Int32.ofNat (Y / 40 % 6) := py_mod (b := 6) (by omega) (by omega)
  have tail : ∀ c : Nat, c < 8 → ∃ S', (pw_b (m_L_rules S 0 (Int32.ofNat (X % dc)) (Int32.ofNat kd) (Int32.ofNat a) (Int32.ofNat b) (Int32.ofNat c) (Int32.ofNat (1 + X / 24 % 99))) fun S2 r5 => pw_l (r5 : Int32) fun z7 => if z7 ≤ 0 then (if z7 = (-70008) then (some (S2, (1 : Int32)) : pw_R Int32) else (if z7 = (-70009) then (some (S2, 1)) else (some (S2, 0)))) else (if z7 < 9 then (some (S2, 1)) else (if z7 = (-70008) then (some (S2, 1)) else (if z7 = (-70009) then (some (S2, 1)) else (some (S2, 0)))))) = some (S', 1) ∧ (∃ nc', px_D S' dc Is nc') ∧ (∀ q, dc ≤ q → S' 52 q = S 52 q) ∧ py_fr py_K7 S S' := by
    intro c hc
    obtain ⟨S', r, a1, a2, a3, a4, a5⟩ := pm_constrain hD hv hk ha hb hb2 hc (show 1 ≤ 1 + X / 24 % 99 by omega) (show 1 + X / 24 % 99 ≤ 99 by omega)
    refine ⟨S', ?_, a3, fun q hq => a4 q (by omega), a5⟩
    unfold m_L_rules
    rw [a1, py_b]
    rcases a2 with rfl | rfl | ⟨n, n1, n2, rfl⟩
    · rw [py_er]
      show (pw_b (some (S', -70009)) fun S2 r5 => _) = _
      rw [py_b, py_l, if_pos (show (-70009 : Int32) ≤ 0 by decide), if_neg (show ¬ (-70009 : Int32) = -70008 by decide), if_pos rfl]
    · rw [py_er]
      show (pw_b (some (S', -70008)) fun S2 r5 => _) = _
      rw [py_b, py_l, if_pos (show (-70008 : Int32) ≤ 0 by decide), if_pos rfl]
    · rw [py_el, py_b, py_l, py_jeR (l := 0) (by omega) (by omega), if_neg (show ¬ n ≤ 0 by omega), py_jlR (l := 9) (by omega) (by omega), if_pos (show n < 9 by omega)]
  unfold m_L_constrains_j58
  rw [py_l, hbb, h0b, hc0, py_ct hnz, hm, d24, m99, p1, d40, m6]
  by_cases e : kd = 2
  · rw [if_pos (show Int32.ofNat kd = 2 by rw [e]; rfl)]
    exact tail (Y / 40 % 6) (by omega)
  · rw [if_neg (show ¬ Int32.ofNat kd = 2 from fun z => e ((py_eq (a := kd) (b := 2) (by omega) (by omega)).mp z))]
    exact tail 0 (by omega)
/-- the law's constraints -/
theorem pl_constrains {S : pw_S} {dc X Y : Nat} {Is : Nat → py_I} {nc : Nat → Nat} (hD : px_D S dc Is nc) (hc0 : S 36 0 0 = Int32.ofNat dc) (hX : X < 1073741824) (hY : Y < 1073741824) :
    ∃ S', m_L_constrains S 0 (Int32.ofNat X) (Int32.ofNat Y) 36 0 = some (S', 1) ∧ (∃ nc', px_D S' dc Is nc') ∧ (∀ q, dc ≤ q → S' 52 q = S 52 q) ∧ py_fr py_K7 S S' := by
  have hdc4 := hD.2.1
  have hbb : ∀ (β : Type) (o : pw_R β), pw_c (np_inb 0 (pw_len 36)) o = o := fun β o => py_ct (show np_inb 0 (pw_len 36) = true from rfl) o
  have h0b : (0 : Int32).toNatClampNeg = 0 := rfl
  have m4 : Int32.ofNat Y - Int32.ofNat Y / 4 * 4 = Int32.ofNat (Y % 4) := py_mod (b := 4) (by omega) (by omega)
  have dx : Int32.ofNat X / 4 = Int32.ofNat (X / 4) := py_div (b := 4) (by omega) (by omega)
  have dy : Int32.ofNat Y / 4 = Int32.ofNat (Y / 4) := py_div (b := 4) (by omega) (by omega)
  have mx : Int32.ofNat (X / 4) - Int32.ofNat (X / 4) / 6 * 6 = Int32.ofNat (X / 4 % 6) := py_mod (b := 6) (by omega) (by omega)
  have my10 : Int32.ofNat (Y / 4) - Int32.ofNat (Y / 4) / 10 * 10 = Int32.ofNat (Y / 4 % 10) := py_mod (b := 10) (by omega) (by omega)
  have my4 : Int32.ofNat (Y / 4) - Int32.ofNat (Y / 4) / 4 * 4 = Int32.ofNat (Y / 4 % 4) := py_mod (b := 4) (by omega) (by omega)
  have my6 : Int32.ofNat (Y / 4) - Int32.ofNat (Y / 4) / 6 * 6 = Int32.ofNat (Y / 4 % 6) := py_mod (b := 6) (by omega) (by omega)
  have p1 : ∀ x : Nat, (1 : Int32) + Int32.ofNat x = Int32.ofNat (1 + x) := fun x => py_add 1 x
  unfold m_L_constrains
  rw [hbb, h0b, hc0]
  by_cases e : dc = 0
  · rw [if_pos (show Int32.ofNat dc = 0 by rw [e]; rfl)]
    exact ⟨S, rfl, ⟨nc, hD⟩, fun _ _ => rfl, py_fr_r⟩
  · rw [if_neg (show ¬ Int32.ofNat dc = 0 from fun z => e ((py_eq (a := dc) (b := 0) (by omega) (by omega)).mp z)), m4, py_l, dx, mx, py_l, dy, my10, my4, my6, p1]
    by_cases e1 : Y % 4 = 1
    · rw [if_pos (show Int32.ofNat (Y % 4) = 1 by rw [e1]; rfl)]
      exact pl_c58 hD (by omega) hc0 hX hY (by omega) (by omega) (fun z => by omega) (by omega)
    · rw [if_neg (show ¬ Int32.ofNat (Y % 4) = 1 from fun z => e1 ((py_eq (a := Y % 4) (b := 1) (by omega) (by omega)).mp z))]
      by_cases e3 : Y % 4 = 3
      · rw [if_pos (show Int32.ofNat (Y % 4) = 3 by rw [e3]; rfl)]
        exact pl_c58 hD (by omega) hc0 hX hY (by omega) (by omega) (fun z => by omega) (by omega)
      · rw [if_neg (show ¬ Int32.ofNat (Y % 4) = 3 from fun z => e3 ((py_eq (a := Y % 4) (b := 3) (by omega) (by omega)).mp z))]
        exact pl_c58 hD (by omega) hc0 hX hY (by omega) (by omega) (fun z => by omega) (by omega)
