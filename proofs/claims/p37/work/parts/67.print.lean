/-! The printer. -/
theorem py_lp_dec (p : Nat) : Int32.ofNat p + (-1) = py_lp p := by
  cases p with
  | zero => rfl
  | succ p =>
    show Int32.ofNat (p + 1) + (-1) = Int32.ofNat p
    rw [← py_add1, Int32.add_assoc, show (1 : Int32) + -1 = 0 from by decide, Int32.add_zero]
theorem py_lp_succ (p : Nat) : py_lp (p + 1) = Int32.ofNat p := rfl
theorem py_lp_neg : py_lp 0 < 0 := by decide
theorem py_getD_cons (x : Int32) (l : List Int32) (k : Nat) : (x :: l).getD (k + 1) 0 = l.getD k 0 := rfl
/-- a row of units lies in a row of numbers from a place -/
def py_li (f : Nat → Int32) (p : Nat) (us : List Int32) : Prop := ∀ k, k < us.length → f (p + k) = us.getD k 0
theorem py_li.cons {f : Nat → Int32} {p : Nat} {us : List Int32} (h : py_li f (p + 1) us) (x : Int32) : py_li (upd f p x) p (x :: us) := by
  intro k hk
  cases k with
  | zero => rw [Nat.add_zero, py_u_s]; rfl
  | succ k =>
    rw [py_u_n _ _ (by omega), py_getD_cons, ← h k (by rw [List.length_cons] at hk; omega)]
    congr 1
    omega
theorem py_li.cong {f g : Nat → Int32} {p : Nat} {us : List Int32} (h : py_li f p us) (e : ∀ k, p ≤ k → k < p + us.length → g k = f k) : py_li g p us := fun k hk => by rw [e _ (by omega) (by omega)]; exact h k hk
def py_K1 (a i b j : Nat) : Bool := Nat.beq b a && Nat.beq j i
theorem py_K1_s (a i : Nat) : py_K1 a i a i = true := by
  unfold py_K1
  rw [Nat.beq_refl, Nat.beq_refl]
  rfl
theorem pk_nf (S : pw_S) (c : Nat) (hc : c ≤ 8) : m_X11_fillOfNumber S (Int32.ofNat c) = some (S, pe_nf c) := by
  unfold m_X11_fillOfNumber pe_nf
  have hm : Int32.ofNat c - Int32.ofNat c / 3 * 3 = Int32.ofNat (c % 3) := py_mod (b := 3) (by omega) (by omega)
  rw [hm, show (0 : Int32) = Int32.ofNat 0 from rfl, show (1 : Int32) = Int32.ofNat 1 from rfl, py_jq (by omega) (by omega), py_jq (by omega) (by omega)]
  by_cases h0 : c % 3 = 0
  · rw [if_pos h0, if_pos h0]
  · rw [if_neg h0, if_neg h0]
    by_cases h1 : c % 3 = 1
    · rw [if_pos h1, if_pos h1]
    · rw [if_neg h1, if_neg h1]
theorem pk_lay120 (c a i : Nat) (hc : c ≤ 8) (ha : pw_len a = 8) (r : Nat) (hr : r < 2147483648) : ∀ (N p : Nat) (S : pw_S) (acc : List Int32), p < N → p ≤ 8 → py_li (S a i) p acc → ∃ S', m_X11_layOutNumber_120 N S (Int32.ofNat c) a i (Int32.ofNat r) (py_lp p) = some (S', if r = 0 then 1 else 0) ∧ py_fr (py_K1 a i) S S' ∧ py_li (S' a i) 0 (List.replicate p (pe_nf c) ++ acc) := by
  intro N
  induction N with
  | zero => intro p S acc h; omega
  | succ N ih =>
    intro p S acc hN hp hl
    unfold m_X11_layOutNumber_120
    cases p with
    | zero =>
      rw [if_pos py_lp_neg]
      refine ⟨S, ?_, py_fr_r, hl⟩
      by_cases h : r = 0
      · rw [if_pos h, if_pos (by rw [h]; rfl)]
      · rw [if_neg h, if_neg (fun z => h (by
          have z2 := congrArg Int32.toInt z
          rw [py_ti hr] at z2
          have z3 : (0 : Int32).toInt = 0 := rfl
          omega))]
    | succ p =>
      rw [py_lp_succ, py_jn (by omega), pk_nf S c hc, py_b, py_ct (py_inb (by omega) (by omega)), py_l, py_l, py_cl (by omega), py_lp_dec]
      obtain ⟨S', h1, h2, h3⟩ := ih p (pw_up S a i (upd (S a i) p (pe_nf c))) (pe_nf c :: acc) (by omega) (by omega) (by rw [py_up_s]; exact hl.cons _)
      refine ⟨S', h1, (py_fr_r.up (py_K1_s a i)).trans h2, ?_⟩
      rw [List.replicate_succ', List.append_assoc]
      exact h3
theorem py_lay_len (c : Nat) : ∀ (p r dg : Nat) (acc us : List Int32), pe_lay c p r dg acc = some us → us.length = p + acc.length := by
  intro p
  induction p using Nat.strongRecOn with
  | _ p ih =>
    intro r dg acc us h
    cases p with
    | zero =>
      unfold pe_lay at h
      split at h
      · rw [← Option.some.inj h, Nat.zero_add]
      · cases h
    | succ p =>
      unfold pe_lay at h
      split at h
      · rw [← Option.some.inj h, List.length_append, List.length_replicate]
      · split at h
        · cases p with
          | zero => cases h
          | succ q =>
            have := ih q (by omega) _ _ _ _ h
            rw [this, List.length_cons, List.length_cons]
            omega
        · have := ih p (by omega) _ _ _ _ h
          rw [this, List.length_cons]
          omega
theorem pk_lay44 (c a i : Nat) (hc : c ≤ 8) (ha : pw_len a = 8) (k : pw_S → Int32 → Nat → Nat → Int32 → Int32 → pw_R Int32) (hk : ∀ (r : Nat), r < 2147483648 → ∀ (q : Nat) (S : pw_S) (acc : List Int32), q ≤ 8 → py_li (S a i) q acc → ∃ S', k S (Int32.ofNat c) a i (Int32.ofNat r) (py_lp q) = some (S', if r = 0 then 1 else 0) ∧ py_fr (py_K1 a i) S S' ∧ py_li (S' a i) 0 (List.replicate q (pe_nf c) ++ acc)) : ∀ (N p : Nat) (S : pw_S) (r dg : Nat) (acc : List Int32), p < N → p ≤ 8 → p + dg ≤ 20 → r < 2147483648 → py_li (S a i) p acc →
    ∃ S', m_X11_layOutNumber_44 k N S (Int32.ofNat c) a i (pe_mk c) (Int32.ofNat r) (Int32.ofNat dg) (py_lp p) = some (S', if (pe_lay c p r dg acc).isSome then 1 else 0) ∧ py_fr (py_K1 a i) S S' ∧ ∀ us, pe_lay c p r dg acc = some us → py_li (S' a i) 0 us := by
  intro N
  induction N with
  | zero => intro p S r dg acc h; omega
  | succ N ih =>
    intro p S r dg acc hN hp hd hr hl
    unfold m_X11_layOutNumber_44
    cases p with
    | zero =>
      rw [if_pos py_lp_neg]
      obtain ⟨S', h1, h2, h3⟩ := hk r hr 0 S acc (by omega) hl
      refine ⟨S', h1.trans ?_, h2, fun us hu => ?_⟩
      · unfold pe_lay
        by_cases h : r = 0
        · rw [if_pos h, if_pos h]
          rfl
        · rw [if_neg h, if_neg h]
          rfl
      · unfold pe_lay at hu
        split at hu
        · rw [← Option.some.inj hu]
          exact h3
        · cases hu
    | succ p =>
      have hdig : ∀ (S : pw_S), (48 : Int32) + (Int32.ofNat r - Int32.ofNat r / 10 * 10) = Int32.ofNat (48 + r % 10) := fun S => by
        have hm : Int32.ofNat r - Int32.ofNat r / 10 * 10 = Int32.ofNat (r % 10) := py_mod (b := 10) hr (by omega)
        rw [hm]
        exact py_add 48 _
      have hdiv : Int32.ofNat r / 10 = Int32.ofNat (r / 10) := py_div (b := 10) hr (by omega)
      have hr10 : r / 10 < 2147483648 := by omega
      have hz3 : (Int32.ofNat c < 3) = (c < 3) := py_lt (b := 3) (by omega) (by omega)
      have hd0 : (Int32.ofNat dg = 0) = (dg = 0) := py_eq (b := 0) (by omega) (by omega)
      have hr0 : (Int32.ofNat r ≤ 0) = (r ≤ 0) := py_le (b := 0) hr (by omega)
      have hdl : (Int32.ofNat dg ≤ 0) = (dg ≤ 0) := py_le (b := 0) (by omega) (by omega)
      have hd3 : (Int32.ofNat dg - Int32.ofNat dg / 3 * 3 = 0) = (dg % 3 = 0) := by
        have hm : Int32.ofNat dg - Int32.ofNat dg / 3 * 3 = Int32.ofNat (dg % 3) := py_mod (b := 3) (by omega) (by omega)
        rw [hm]
        exact py_eq (b := 0) (by omega) (by omega)
      -- one digit and on
      have one : ∃ S', (pw_c (np_inb (py_lp (p + 1)) (pw_len a)) <| pw_l (pw_up S a i (upd (S a i) (py_lp (p + 1) : Int32).toNatClampNeg (48 + (Int32.ofNat r - Int32.ofNat r / 10 * 10)))) fun S1 => pw_l ((Int32.ofNat r / 10) : Int32) fun z13 => pw_l (Int32.ofNat dg + 1 : Int32) fun z14 => pw_l (py_lp (p + 1) + (-1) : Int32) fun z15 => m_X11_layOutNumber_44 k N S1 (Int32.ofNat c) a i (pe_mk c) z13 z14 z15) = some (S', if (pe_lay c p (r / 10) (dg + 1) (Int32.ofNat (48 + r % 10) :: acc)).isSome then 1 else 0) ∧ py_fr (py_K1 a i) S S' ∧ ∀ us, pe_lay c p (r / 10) (dg + 1) (Int32.ofNat (48 + r % 10) :: acc) = some us → py_li (S' a i) 0 us := by
        rw [py_lp_succ, py_ct (py_inb (by omega) (by omega)), hdig S, hdiv, py_l, py_l, py_l, py_l, py_cl (by omega), py_lp_dec, py_add1]
        obtain ⟨S', g1, g2, g3⟩ := ih p (pw_up S a i (upd (S a i) p (Int32.ofNat (48 + r % 10)))) (r / 10) (dg + 1) (Int32.ofNat (48 + r % 10) :: acc) (by omega) (by omega) (by omega) hr10 (by rw [py_up_s]; exact hl.cons _)
        exact ⟨S', g1, (py_fr_r.up (py_K1_s a i)).trans g2, g3⟩
      have two : ∃ S', (pw_c (np_inb (py_lp (p + 1)) (pw_len a)) <| pw_l (pw_up S a i (upd (S a i) (py_lp (p + 1) : Int32).toNatClampNeg (pe_mk c))) fun S22 => pw_l (py_lp (p + 1) + (-1) : Int32) fun z25 => if 0 ≤ z25 then (pw_c (np_inb z25 (pw_len a)) <| pw_l (pw_up S22 a i (upd (S22 a i) (z25 : Int32).toNatClampNeg (48 + (Int32.ofNat r - Int32.ofNat r / 10 * 10)))) fun S26 => pw_l ((Int32.ofNat r / 10) : Int32) fun z29 => pw_l (Int32.ofNat dg + 1 : Int32) fun z30 => pw_l (z25 + (-1) : Int32) fun z31 => m_X11_layOutNumber_44 k N S26 (Int32.ofNat c) a i (pe_mk c) z29 z30 z31) else (some (S22, 0)))
          = some (S', if (match p with | 0 => none | q + 1 => pe_lay c q (r / 10) (dg + 1) (Int32.ofNat (48 + r % 10) :: pe_mk c :: acc)).isSome then 1 else 0) ∧ py_fr (py_K1 a i) S S' ∧ ∀ us, (match p with | 0 => none | q + 1 => pe_lay c q (r / 10) (dg + 1) (Int32.ofNat (48 + r % 10) :: pe_mk c :: acc)) = some us → py_li (S' a i) 0 us := by
        rw [py_lp_succ, py_ct (py_inb (by omega) (by omega)), py_l, py_l, py_cl (by omega), py_lp_dec]
        cases p with
        | zero =>
          rw [if_neg (by decide)]
          exact ⟨_, rfl, py_fr_r.up (py_K1_s a i), fun us z => by cases z⟩
        | succ q =>
          rw [py_lp_succ, py_jz (by omega), py_ct (py_inb (by omega) (by omega)), hdig S, hdiv, py_l, py_l, py_l, py_l, py_cl (by omega), py_lp_dec, py_add1, py_up_s, py_up_u]
          obtain ⟨S', g1, g2, g3⟩ := ih q (pw_up S a i (upd (upd (S a i) (q + 1) (pe_mk c)) q (Int32.ofNat (48 + r % 10)))) (r / 10) (dg + 1) (Int32.ofNat (48 + r % 10) :: pe_mk c :: acc) (by omega) (by omega) (by omega) hr10 (by rw [py_up_s]; exact (hl.cons _).cons _)
          exact ⟨S', g1, (py_fr_r.up (py_K1_s a i)).trans g2, g3⟩
      have hpn : (py_lp (p + 1) < 0) = False := py_n0 (by omega)
      have hpz : ((0 : Int32) ≤ py_lp (p + 1)) = True := py_z0 (by omega)
      simp only [hpn, hpz, hz3, hd0, hr0, hdl, hd3, if_false, if_true]
      unfold pe_lay
      by_cases h0 : dg = 0
      · have n1 : ¬ (dg ≠ 0 ∧ r = 0) := fun z => z.1 h0
        have n2 : ¬ (3 ≤ c ∧ 0 < dg ∧ dg % 3 = 0) := fun z => by omega
        rw [if_pos h0, if_neg n1, if_neg n2]
        by_cases hc3 : c < 3
        · rw [if_pos hc3]
          exact one
        · have n3 : dg ≤ 0 := by omega
          rw [if_neg hc3, if_pos n3]
          exact one
      · rw [if_neg h0]
        by_cases hr9 : r = 0
        · have n1 : dg ≠ 0 ∧ r = 0 := ⟨h0, hr9⟩
          have n3 : r ≤ 0 := by omega
          rw [if_pos n3, if_pos n1]
          obtain ⟨S', g1, g2, g3⟩ := hk r hr (p + 1) S acc hp hl
          refine ⟨S', g1.trans (by rw [if_pos hr9]; rfl), g2, fun us hu => ?_⟩
          rw [← Option.some.inj hu]
          exact g3
        · have n1 : ¬ (dg ≠ 0 ∧ r = 0) := fun z => hr9 z.2
          have n3 : ¬ r ≤ 0 := by omega
          have n4 : ¬ dg ≤ 0 := by omega
          rw [if_neg n3, if_neg n1]
          by_cases hc3 : c < 3
          · have n2 : ¬ (3 ≤ c ∧ 0 < dg ∧ dg % 3 = 0) := fun z => by omega
            rw [if_pos hc3, if_neg n2]
            exact one
          · rw [if_neg hc3, if_neg n4]
            by_cases hm : dg % 3 = 0
            · have n2 : 3 ≤ c ∧ 0 < dg ∧ dg % 3 = 0 := ⟨by omega, by omega, hm⟩
              rw [if_pos hm, if_pos n2]
              exact two
            · have n2 : ¬ (3 ≤ c ∧ 0 < dg ∧ dg % 3 = 0) := fun z => hm z.2.2
              rw [if_neg hm, if_neg n2]
              exact one
/-- a number is laid out from the right -/
theorem pk_lay (S : pw_S) (w b c a i : Nat) (hw : w < 2147483648) (hb : 1 ≤ b) (hb8 : b ≤ 8) (hc : c ≤ 8) (ha : pw_len a = 8) : ∃ S', m_X11_layOutNumber S (Int32.ofNat w) (Int32.ofNat b) (Int32.ofNat c) a i = some (S', if (pe_lay c b w 0 []).isSome then 1 else 0) ∧ py_fr (py_K1 a i) S S' ∧ ∀ us, pe_lay c b w 0 [] = some us → us.length = b ∧ py_li (S' a i) 0 us := by
  have main : ∀ (k : pw_S → Int32 → Nat → Nat → Int32 → Int32 → pw_R Int32), (∀ (r : Nat), r < 2147483648 → ∀ (q : Nat) (S : pw_S) (acc : List Int32), q ≤ 8 → py_li (S a i) q acc → ∃ S', k S (Int32.ofNat c) a i (Int32.ofNat r) (py_lp q) = some (S', if r = 0 then 1 else 0) ∧ py_fr (py_K1 a i) S S' ∧ py_li (S' a i) 0 (List.replicate q (pe_nf c) ++ acc)) → ∃ S', m_X11_layOutNumber_44 k (pw_F 20000) S (Int32.ofNat c) a i (pe_mk c) (Int32.ofNat w) 0 (Int32.ofNat b - 1) = some (S', if (pe_lay c b w 0 []).isSome then 1 else 0) ∧ py_fr (py_K1 a i) S S' ∧ ∀ us, pe_lay c b w 0 [] = some us → us.length = b ∧ py_li (S' a i) 0 us := fun k hk => by
    obtain ⟨S', h1, h2, h3⟩ := pk_lay44 c a i hc ha k hk (pw_F 20000) b S w 0 [] (by rw [py_F]; omega) hb8 (by omega) hw (fun k hk => absurd hk (Nat.not_lt_zero k))
    have e : Int32.ofNat b - 1 = py_lp b := by
      rw [show Int32.ofNat b - 1 = Int32.ofNat (b - 1) from py_sub (b := 1) hb]
      unfold py_lp
      rw [if_neg (by omega)]
    rw [e]
    exact ⟨S', h1, h2, fun us hu => ⟨by rw [py_lay_len _ _ _ _ _ _ hu]; rfl, h3 us hu⟩⟩
  have hq : ∀ (r : Nat), r < 2147483648 → ∀ (q : Nat) (S : pw_S) (acc : List Int32), q ≤ 8 → py_li (S a i) q acc → ∃ S', m_X11_layOutNumber_120 (pw_F 20000 + 1) S (Int32.ofNat c) a i (Int32.ofNat r) (py_lp q) = some (S', if r = 0 then 1 else 0) ∧ py_fr (py_K1 a i) S S' ∧ py_li (S' a i) 0 (List.replicate q (pe_nf c) ++ acc) := fun r hr q S acc hq hl => pk_lay120 c a i hc ha r hr (pw_F 20000 + 1) q S acc (by rw [py_F]; omega) hq hl
  have hdiv : Int32.ofNat c / 3 = Int32.ofNat (c / 3) := py_div (b := 3) (by omega) (by omega)
  unfold m_X11_layOutNumber
  rw [py_jn hw, py_jlR (l := 1) (by omega) (by omega), if_neg (by omega), ha, py_je (by omega) (by omega), if_pos hb8, hdiv, py_jqR (l := 1) (by omega) (by omega)]
  by_cases hc3 : c / 3 = 1
  · rw [if_pos hc3]
    have hm : pe_mk c = 44 := by unfold pe_mk; rw [if_pos hc3]
    rw [hm] at main
    exact main _ hq
  · rw [if_neg hc3]
    have hm : pe_mk c = 46 := by unfold pe_mk; rw [if_neg hc3]
    rw [hm] at main
    exact main _ hq
