/-! The sampler. -/
def py_KS (a i : Nat) : Bool := ((Nat.beq a 50 || (Nat.beq a 0 || Nat.beq a 1)) && Nat.ble 408 i) || (Nat.beq a 28 || (Nat.beq a 29 || (Nat.beq a 33 || (Nat.beq a 34 || Nat.beq a 60))))
theorem py_KS_T {i : Nat} (hi : 408 ≤ i) : ∀ a b, py_KT i a b = true → py_KS a b = true := fun a b h => by
  unfold py_KT at h
  unfold py_KS
  rw [Bool.and_eq_true_iff] at h
  rw [h.1, Nat.eq_of_beq_eq_true h.2, Nat.ble_eq_true_of_le hi]
  rfl
theorem py_KS_P : ∀ a b, py_KP a b = true → py_KS a b = true := fun a b h => by
  unfold py_KP at h
  rw [Bool.or_eq_true_iff] at h
  rcases h with h | h
  · exact py_KS_T (Nat.le_refl _) a b h
  · unfold py_KS
    rw [Bool.or_eq_true_iff] at h
    rcases h with h | h
    · rw [h, Bool.true_or, Bool.or_true]
    · rw [h, Bool.true_or, Bool.or_true, Bool.or_true]
theorem py_fr.RiS {j : Nat} {S S' : pw_S} {I : py_I} (h : py_fr py_KS S S') (hI : py_Ri S j I) : py_Ri S' j I := hI.cong (h 51 j rfl) (h 2 j rfl) (h 3 j rfl) (h 4 j rfl) (h 5 j rfl)
theorem pq_ch {S : pw_S} {d : Nat} {I : py_I} (h : py_Ri S d I) {k : Nat} (hk : k < 1000) : m_X5_choicesOf S d (Int32.ofNat k) = some (S, Int32.ofNat (sq_ch I k)) := by
  unfold m_X5_choicesOf sq_ch
  by_cases hn : pi_n I ≤ k
  · rw [if_pos hn, pk_kind_over h hn (by omega), py_b]
    rw [if_neg (show ¬ (-1 : Int32).toInt = 0 by decide), if_neg (show ¬ (-1 : Int32).toInt = (0 + 1) by decide), if_neg (show ¬ (-1 : Int32).toInt = ((0 + 1) + 1) by decide), if_neg (show ¬ (-1 : Int32).toInt = (((0 + 1) + 1) + 1) by decide), if_neg (show ¬ (-1 : Int32).toInt = ((((0 + 1) + 1) + 1) + 1) by decide), if_neg (show ¬ (-1 : Int32).toInt = (((((0 + 1) + 1) + 1) + 1) + 1) by decide), if_neg (show ¬ (-1 : Int32).toInt = ((((((0 + 1) + 1) + 1) + 1) + 1) + 1) by decide)]
    rfl
  · have hk2 : k < pi_n I := by omega
    obtain ⟨h1, h2, h3⟩ := h
    obtain ⟨-, -, -, -, k9, -, kb, -⟩ := h3 k hk2
    have h : py_Ri S d I := ⟨h1, h2, h3⟩
    rw [if_neg hn, pk_kind h hk2, py_b]
    by_cases k0 : pi_k I k = 0
    · rw [k0, if_pos (show (Int32.ofNat 0).toInt = 0 by decide), if_pos (show 0 = 0 from rfl)]
      rfl
    by_cases k1 : pi_k I k = 1
    · rw [k1, if_neg (show ¬ (Int32.ofNat 1).toInt = 0 by decide), if_pos (show (Int32.ofNat 1).toInt = (0 + 1) by decide), if_neg (show ¬ 1 = 0 by omega), if_pos (show 1 = 1 from rfl), pk_b h hk2, py_b, show m_X11_unitsOfLetter S 27 = some (S, Int32.ofNat (pe_ul 27)) from pk_ul S (l := 27) (by omega), py_b, py_je (show pe_ul 27 < 2147483648 by decide) (by omega)]
      show (if 2 ≤ pi_b I k then _ else _) = some (S, Int32.ofNat (if 2 ≤ pi_b I k then 28 else 27))
      by_cases e : 2 ≤ pi_b I k
      · rw [if_pos e, if_pos e]
        rfl
      · rw [if_neg e, if_neg e]
        rfl
    by_cases k2 : pi_k I k = 2
    · rw [k2, if_neg (show ¬ (Int32.ofNat 2).toInt = 0 by decide), if_neg (show ¬ (Int32.ofNat 2).toInt = (0 + 1) by decide), if_pos (show (Int32.ofNat 2).toInt = ((0 + 1) + 1) by decide), if_neg (show ¬ 2 = 0 by omega), if_neg (show ¬ 2 = 1 by omega), if_pos (show 2 = 2 from rfl)]
      rfl
    by_cases k3 : pi_k I k = 3
    · rw [k3, if_neg (show ¬ (Int32.ofNat 3).toInt = 0 by decide), if_neg (show ¬ (Int32.ofNat 3).toInt = (0 + 1) by decide), if_neg (show ¬ (Int32.ofNat 3).toInt = ((0 + 1) + 1) by decide), if_pos (show (Int32.ofNat 3).toInt = (((0 + 1) + 1) + 1) by decide), if_neg (show ¬ 3 = 0 by omega), if_neg (show ¬ 3 = 1 by omega), if_neg (show ¬ 3 = 2 by omega), if_pos (show 3 = 3 from rfl), pk_b h hk2, py_b, py_jqR (l := 1) (by omega) (by omega)]
      by_cases e : pi_b I k = 1
      · rw [if_pos e, if_pos e]
        rfl
      · rw [if_neg e, if_neg e, pk_b h hk2, py_b, py_jqR (l := 2) (by omega) (by omega)]
        by_cases e2 : pi_b I k = 2
        · rw [if_pos e2, if_pos e2]
          rfl
        · rw [if_neg e2, if_neg e2]
          rfl
    by_cases k4 : pi_k I k = 4
    · rw [k4, if_neg (show ¬ (Int32.ofNat 4).toInt = 0 by decide), if_neg (show ¬ (Int32.ofNat 4).toInt = (0 + 1) by decide), if_neg (show ¬ (Int32.ofNat 4).toInt = ((0 + 1) + 1) by decide), if_neg (show ¬ (Int32.ofNat 4).toInt = (((0 + 1) + 1) + 1) by decide), if_pos (show (Int32.ofNat 4).toInt = ((((0 + 1) + 1) + 1) + 1) by decide), if_neg (show ¬ 4 = 0 by omega), if_neg (show ¬ 4 = 1 by omega), if_neg (show ¬ 4 = 2 by omega), if_neg (show ¬ 4 = 3 by omega), if_neg (show ¬ 4 = 6 by omega)]
      rfl
    by_cases k5 : pi_k I k = 5
    · rw [k5, if_neg (show ¬ (Int32.ofNat 5).toInt = 0 by decide), if_neg (show ¬ (Int32.ofNat 5).toInt = (0 + 1) by decide), if_neg (show ¬ (Int32.ofNat 5).toInt = ((0 + 1) + 1) by decide), if_neg (show ¬ (Int32.ofNat 5).toInt = (((0 + 1) + 1) + 1) by decide), if_neg (show ¬ (Int32.ofNat 5).toInt = ((((0 + 1) + 1) + 1) + 1) by decide), if_pos (show (Int32.ofNat 5).toInt = (((((0 + 1) + 1) + 1) + 1) + 1) by decide), if_neg (show ¬ 5 = 0 by omega), if_neg (show ¬ 5 = 1 by omega), if_neg (show ¬ 5 = 2 by omega), if_neg (show ¬ 5 = 3 by omega), if_neg (show ¬ 5 = 6 by omega)]
      rfl
    by_cases k6 : pi_k I k = 6
    · rw [k6, if_neg (show ¬ (Int32.ofNat 6).toInt = 0 by decide), if_neg (show ¬ (Int32.ofNat 6).toInt = (0 + 1) by decide), if_neg (show ¬ (Int32.ofNat 6).toInt = ((0 + 1) + 1) by decide), if_neg (show ¬ (Int32.ofNat 6).toInt = (((0 + 1) + 1) + 1) by decide), if_neg (show ¬ (Int32.ofNat 6).toInt = ((((0 + 1) + 1) + 1) + 1) by decide), if_neg (show ¬ (Int32.ofNat 6).toInt = (((((0 + 1) + 1) + 1) + 1) + 1) by decide), if_pos (show (Int32.ofNat 6).toInt = ((((((0 + 1) + 1) + 1) + 1) + 1) + 1) by decide), if_neg (show ¬ 6 = 0 by omega), if_neg (show ¬ 6 = 1 by omega), if_neg (show ¬ 6 = 2 by omega), if_neg (show ¬ 6 = 3 by omega), if_pos (show 6 = 6 from rfl)]
      rfl
    rw [if_neg k0, if_neg k1, if_neg k2, if_neg k3, if_neg k6]
    have e : pi_k I k = 7 ∨ pi_k I k = 8 ∨ pi_k I k = 9 := by omega
    rcases e with e | e | e <;> rw [e] <;> rfl
theorem pq_lev {S : pw_S} {k : Nat} (hk : k < 26) : m_X5_levelAt S 0 (Int32.ofNat k) = some (S, some (409 + k)) := by
  unfold m_X5_levelAt
  rw [py_jn (by omega), py_jeL (l := 26) (by omega) (by omega), if_neg (show ¬ 26 ≤ k by omega), py_ct (py_inb (by omega) hk), pk_dn hk (by omega)]
/-- walking on to the next item with a slot -/
theorem pq_walk {d i : Nat} {I : py_I} (hI : pi_ok I) {k58 : pw_S → Nat → Nat → Nat → pw_R Unit} : ∀ (n N : Nat) (S : pw_S) (T : py_T), n < N → n ≤ 200 → py_Ri S d I → py_Rt S i T → pt_pos I T → ∃ S', m_X5_comeTo_2 k58 N S 0 d i (Int32.ofNat (200 - n)) = k58 S' 0 d i ∧ py_fr (py_KT i) S S' ∧ py_Rt S' i (sq_walk I n T) ∧ pt_pos I (sq_walk I n T) := by
  intro n
  induction n with
  | zero =>
    intro N S T hN _ h hT hp
    obtain ⟨N, rfl⟩ : ∃ m, N = m + 1 := ⟨N - 1, by omega⟩
    unfold m_X5_comeTo_2
    rw [py_jeL (l := 200) (by omega) (by omega), if_pos (show 200 ≤ 200 - 0 by omega)]
    exact ⟨S, rfl, py_fr_r, hT, hp⟩
  | succ n ih =>
    intro N S T hN hn200 h hT hp
    obtain ⟨N, rfl⟩ : ∃ m, N = m + 1 := ⟨N - 1, by omega⟩
    have hpit := hp.1
    have h6 := hI.1.2.1
    have hit := hT.2.2.1
    have hadd : Int32.ofNat (200 - (n + 1)) + 1 = Int32.ofNat (200 - n) := by
      rw [py_add1]
      congr 1
      omega
    unfold m_X5_comeTo_2 sq_walk
    rw [py_jeL (l := 200) (by omega) (by omega), if_neg (show ¬ 200 ≤ 200 - (n + 1) by omega), pk_over h hT (by omega), py_b]
    by_cases hn : pi_n I ≤ pt_it T
    · rw [if_pos hn, if_neg py_10, if_pos hn]
      exact ⟨S, rfl, py_fr_r, hT, hp⟩
    have hn2 : pt_it T < pi_n I := by omega
    rw [if_neg hn, if_pos rfl, if_neg hn, hit, pk_hs h hn2, py_b]
    by_cases hs : pi_hs (pi_k I (pt_it T))
    · rw [if_pos hs, if_neg py_10, if_pos hs]
      exact ⟨S, rfl, py_fr_r, hT, hp⟩
    rw [if_neg hs, if_pos rfl, if_neg hs, hit, pk_em h hn2, py_b]
    by_cases h7 : pi_k I (pt_it T) = 7 ∨ pi_k I (pt_it T) = 8
    · have ha := (hI.2.1 _ hn2).2 (by omega) (by omega)
      obtain ⟨S1, a1, a2, a3⟩ := pk_ent h hT hn2 ha h7
      obtain ⟨S2, b1, b2, b3⟩ := ih N S1 (pt_ent I T) (by omega) (by omega) (a2.Ri h) a3 (pt_ent_pos hI hp hn2 h7).1
      rw [if_pos h7, if_neg py_10, if_pos h7, a1, py_b, py_l, hadd]
      exact ⟨S2, b1, a2.trans b2, b3⟩
    · have hr := hp.rd
      obtain ⟨S1, a1, a2, a3⟩ := pk_fin h hT hn2 (pr_lp hp) hr.2 hr.1
      obtain ⟨S2, b1, b2, b3⟩ := ih N S1 (pt_fin I T) (by omega) (by omega) (a2.Ri h) a3 (pt_fin_pos hI hp hn2 ⟨fun z => h7 (Or.inl z), fun z => h7 (Or.inr z)⟩).1
      rw [if_neg h7, if_pos rfl, if_neg h7, a1, py_b, py_l, hadd]
      exact ⟨S2, b1, a2.trans b2, b3⟩
/-- coming to the next value: what it draws for it -/
theorem pq_come {S : pw_S} {d i k : Nat} {I : py_I} {T : py_T} (hI : pi_ok I) (h : py_Ri S d I) (hT : py_Rt S i T) (hp : pt_pos I T) (hi : 408 ≤ i) (hk : k < 26) (hd : S 60 0 4 = Int32.ofNat k) (hw : pi_n I ≤ pt_it (sq_walk I 200 T) ∨ pi_hs (pi_k I (pt_it (sq_walk I 200 T)))) (sd : Int32) (hsd : S 60 0 3 = sd) :
    ∃ S', m_X5_comeTo S 0 d i = some (S', ()) ∧ py_fr py_KS S S' ∧ (∀ a j, (Nat.beq a 50 || (Nat.beq a 0 || Nat.beq a 1)) = true → j ≠ i → S' a j = S a j) ∧ py_Rt S' i (sq_come I T sd).1.1 ∧ S' 60 0 3 = (sq_come I T sd).2 ∧ S' 60 0 4 = Int32.ofNat k ∧ (¬ pi_n I ≤ pt_it (sq_come I T sd).1.1 → S' 33 0 k = Int32.ofNat (sq_come I T sd).1.2.1 ∧ S' 34 0 k = Int32.ofNat (sq_come I T sd).1.2.2) ∧ ∀ q, q ≠ k → S' 33 0 q = S 33 0 q ∧ S' 34 0 q = S 34 0 q := by
  have main := fun k58 => pq_walk (d := d) (i := i) hI (k58 := k58) 200 (pw_F 20000) S T (by rw [py_F]; omega) (by omega) h hT hp
  unfold m_X5_comeTo
  rw [py_l]
  obtain ⟨S1, a1, a2, a3, a4⟩ := main (fun S35 u29 u31 u33 => (pw_b (m_X5_choicesOf S35 u31 (S35 50 u33 2)) fun S38 r41 =>
 pw_l (r41 : Int32) fun z43 =>
 pw_b (m_X8_isOver S38 u33 u31) fun S44 r47 =>
 if r47 = 0 then
 (if 1 ≤ z43 then
 (pw_l (pw_up S44 60 u29 (upd (S44 60 u29) 3 (((((1103515245 * ((S44 60 u29 3) : Int32).toInt64) + 12345) &&& 2147483647) : Int64).toInt32))) fun S49 =>
 pw_c (!decide (z43 = 0)) <|
 pw_b (m_X11_put S49 33 0 (S49 60 u29 4) (((S49 60 u29 3) / 65536) - ((S49 60 u29 3) / 65536) / z43 * z43)) fun S52 r55 =>
 pw_b (m_X11_put S52 34 0 (S52 60 u29 4) 0) fun S57 r60 =>
 some (S57, ()))
 else
 (some (S44, ())))
 else
 (some (S44, ()))))
  have a1 := a1
  rw [show Int32.ofNat (200 - 200) = 0 from rfl] at a1
  rw [a1]
  have hp1 := a4.1
  have h6 := hI.1.2.1
  have hr1 := a2.Ri h
  have hfr : ∀ a j, (Nat.beq a 50 || (Nat.beq a 0 || Nat.beq a 1)) = true → j ≠ i → S1 a j = S a j := fun a j _ hj => a2 a j (py_KT_n hj)
  have hsd1 : S1 60 0 3 = sd := by rw [a2 60 0 rfl]; exact hsd
  have hd1 : S1 60 0 4 = Int32.ofNat k := by rw [a2 60 0 rfl]; exact hd
  rw [a3.2.2.1, pq_ch hr1 (by omega), py_b, py_l, pk_over hr1 a3 (by omega), py_b]
  unfold sq_come
  by_cases hn : pi_n I ≤ pt_it (sq_walk I 200 T)
  · rw [if_pos hn, if_neg py_10, if_pos hn]
    exact ⟨S1, rfl, a2.mono (py_KS_T hi), hfr, a3, hsd1, hd1, fun z => absurd hn z, fun q _ => by rw [a2 33 0 rfl, a2 34 0 rfl]; exact ⟨rfl, rfl⟩⟩
  · have hs : pi_hs (pi_k I (pt_it (sq_walk I 200 T))) := by
      rcases hw with hw | hw
      · exact absurd hw hn
      · exact hw
    have hch := sq_ch_pos (show pt_it (sq_walk I 200 T) < pi_n I by omega) hs
    have h28 := sq_ch_le I (pt_it (sq_walk I 200 T))
    generalize sq_ch I (pt_it (sq_walk I 200 T)) = ch at hch h28
    obtain ⟨w, hw9, hsw⟩ := sq_sd_nn sd
    have hsq : (((((1103515245 * (S1 60 0 3 : Int32).toInt64) + 12345) &&& 2147483647) : Int64).toInt32) = Int32.ofNat w := by
      rw [hsd1]
      exact hsw
    have hne : ¬ Int32.ofNat ch = 0 := fun z => by
      rw [show (0 : Int32) = Int32.ofNat 0 from rfl, py_eq (by omega) (by omega)] at z
      omega
    rw [if_neg hn, if_pos rfl, if_neg hn, py_jeL (l := 1) (by omega) (by omega), if_pos (show 1 ≤ ch by omega), hsq, py_l, py_ct (by rw [decide_eq_false hne]; rfl)]
    generalize hS2 : pw_up S1 60 0 (upd (S1 60 0) 3 (Int32.ofNat w)) = S2
    have f2 : py_fr py_KS S S2 := by
      rw [← hS2]
      exact (a2.mono (py_KS_T hi)).up rfl
    have k2 : ∀ a i, Nat.beq a 60 = false → S2 a i = S1 a i := fun a i hh => by
      rw [← hS2]
      exact py_up_k _ _ hh
    have e3 : S2 60 0 3 = Int32.ofNat w := by rw [← hS2, py_up_s, py_u_s]
    have e4 : S2 60 0 4 = Int32.ofNat k := by
      rw [← hS2, py_up_s, py_u_b _ _ rfl]
      exact hd1
    rw [e3, e4, show Int32.ofNat w / 65536 = Int32.ofNat (w / 65536) from py_div (b := 65536) hw9 (by omega), py_mod (by omega) (by omega), py_putI _ _ _ _ _ (show k < 26 from hk), py_b, py_up_k _ _ rfl, e4, py_putI _ _ _ _ _ (show k < 26 from hk), py_b]
    refine ⟨_, rfl, (f2.up rfl).up rfl, fun a j ha hj => ?_, ?_, ?_, ?_, fun _ => ⟨?_, ?_⟩, fun q hq => ⟨?_, ?_⟩⟩
    · have hb : ∀ x, (Nat.beq x 50 || (Nat.beq x 0 || Nat.beq x 1)) = false → Nat.beq a x = false := fun x hx => by
        cases hab : Nat.beq a x with
        | false => rfl
        | true =>
          rw [Nat.eq_of_beq_eq_true hab, hx] at ha
          cases ha
      rw [py_up_k _ _ (hb 34 rfl), py_up_k _ _ (hb 33 rfl), k2 _ _ (hb 60 rfl)]
      exact hfr a j ha hj
    · exact a3.cong (by rw [py_up_k _ _ rfl, py_up_k _ _ rfl, k2 _ _ rfl]) (by rw [py_up_k _ _ rfl, py_up_k _ _ rfl, k2 _ _ rfl]) (by rw [py_up_k _ _ rfl, py_up_k _ _ rfl, k2 _ _ rfl])
    · rw [py_up_k _ _ rfl, py_up_k _ _ rfl, e3]
      exact hsw.symm
    · rw [py_up_k _ _ rfl, py_up_k _ _ rfl]
      exact e4
    · rw [py_up_k _ _ rfl, py_up_s, py_u_s]
      show Int32.ofNat (w / 65536 % ch) = Int32.ofNat ((sq_sd sd).toNatClampNeg / 65536 % ch)
      rw [hsw, py_cl hw9]
    · rw [py_up_s, py_u_s]
      rfl
    · rw [py_up_k _ _ rfl, py_up_s, py_u_n _ _ hq, k2 _ _ rfl, a2 33 0 rfl]
    · rw [py_up_s, py_u_n _ _ hq, py_up_k _ _ rfl, k2 _ _ rfl, a2 34 0 rfl]
/-- the levels as they lie in a state, the last one ahead -/
def pq_R (S : pw_S) (I : py_I) : List (py_T × Nat × Nat) → Prop
  | [] => True
  | x :: r => (py_Rt S (409 + r.length) x.1 ∧ (¬ pi_n I ≤ pt_it x.1 → S 33 0 r.length = Int32.ofNat x.2.1 ∧ S 34 0 r.length = Int32.ofNat x.2.2)) ∧ pq_R S I r
theorem pq_R.cong {S S' : pw_S} {I : py_I} : ∀ {l : List (py_T × Nat × Nat)}, pq_R S I l → (∀ a j, (Nat.beq a 50 || (Nat.beq a 0 || Nat.beq a 1)) = true → 409 ≤ j → j < 409 + l.length → S' a j = S a j) → (∀ q, q < l.length → S' 33 0 q = S 33 0 q ∧ S' 34 0 q = S 34 0 q) → pq_R S' I l := by
  intro l
  induction l with
  | nil => intro _ _ _; trivial
  | cons x r ih =>
    intro h h1 h2
    obtain ⟨⟨g1, g2⟩, g3⟩ := h
    rw [List.length_cons] at h1 h2
    refine ⟨⟨g1.cong (h1 _ _ rfl (by omega) (by omega)) (h1 _ _ rfl (by omega) (by omega)) (h1 _ _ rfl (by omega) (by omega)), fun z => ?_⟩, ih g3 (fun a j ha h3 h4 => h1 a j ha h3 (by omega)) (fun q hq => h2 q (by omega))⟩
    rw [(h2 r.length (by omega)).1, (h2 r.length (by omega)).2]
    exact g2 z
theorem pq_try {S : pw_S} {d ncs : Nat} {I : py_I} {x : py_T × Nat × Nat} {r : List (py_T × Nat × Nat)} (hI : pi_ok I) (h : py_Ri S d I) (hc : S 52 d 6 = Int32.ofNat ncs) (hc8 : ncs ≤ 8) (hR : pq_R S I (x :: r)) (hg : sq_gs I (fun V => cv_fb (pc_C S d) V ncs 0) (x :: r)) (hd : S 60 0 4 = Int32.ofNat r.length) (sd : Int32) (hsd : S 60 0 3 = sd) (hn : ¬ pi_n I ≤ pt_it x.1) (ht : x.2.2 < sq_ch I (pt_it x.1)) :
    ∃ S', m_X5_tryNext S 0 d (409 + r.length) (Int32.ofNat (sq_ch I (pt_it x.1))) = some (S', ()) ∧ py_fr py_KS S S' ∧
      (if cv_fb (pc_C S d) (pt_v (pt_keep x.1 (pi_a I (pt_it x.1)) (Int32.ofNat ((x.2.1 + x.2.2) % sq_ch I (pt_it x.1))))) ncs 0 = 0 then pq_R S' I ((sq_come I (pt_fin I (pt_keep x.1 (pi_a I (pt_it x.1)) (Int32.ofNat ((x.2.1 + x.2.2) % sq_ch I (pt_it x.1))))) sd).1 :: (x.1, x.2.1, x.2.2 + 1) :: r) ∧ S' 60 0 3 = (sq_come I (pt_fin I (pt_keep x.1 (pi_a I (pt_it x.1)) (Int32.ofNat ((x.2.1 + x.2.2) % sq_ch I (pt_it x.1))))) sd).2 ∧ S' 60 0 4 = Int32.ofNat (r.length + 1)
       else pq_R S' I ((x.1, x.2.1, x.2.2 + 1) :: r) ∧ S' 60 0 3 = sd ∧ S' 60 0 4 = Int32.ofNat r.length) := by
  obtain ⟨⟨g1, g2, g3⟩, g4⟩ := hg
  obtain ⟨⟨q1, q2⟩, q3⟩ := hR
  obtain ⟨s1, s2, s3⟩ := g2 hn
  obtain ⟨d1, d2⟩ := q2 hn
  have hnz := nz_le (pt_v x.1) 24
  have h28 := sq_ch_le I (pt_it x.1)
  have ha := (hI.2.1 _ (show pt_it x.1 < pi_n I by omega)).2 (fun z => by rcases s1 with s1 | s1 <;> omega) (fun z => by rcases s1 with s1 | s1 <;> omega)
  have hrd := g1.1.1.rd
  generalize hch : sq_ch I (pt_it x.1) = ch at *
  have hne : ¬ Int32.ofNat ch = 0 := fun z => by
    rw [show (0 : Int32) = Int32.ofNat 0 from rfl, py_eq (by omega) (by omega)] at z
    omega
  have hmod : Int32.ofNat (x.2.1 + x.2.2) - Int32.ofNat (x.2.1 + x.2.2) / Int32.ofNat ch * Int32.ofNat ch = Int32.ofNat ((x.2.1 + x.2.2) % ch) := py_mod (by omega) (by omega)
  have hvlt := Nat.mod_lt (x.2.1 + x.2.2) (show 0 < ch by omega)
  generalize hv : (x.2.1 + x.2.2) % ch = v at *
  unfold m_X5_tryNext
  rw [hd, py_add1, pq_lev (by omega), py_b, py_os, py_jeL (l := 1) (by omega) (by omega), if_pos (show 1 ≤ ch by omega), hd, py_atI _ _ _ _ _ (show r.length < 26 by omega), py_b, hd, py_atI _ _ _ _ _ (show r.length < 26 by omega), py_b, py_ct (by rw [decide_eq_false hne]; rfl), d1, d2, py_add, hmod, py_l, hd, py_atI _ _ _ _ _ (show r.length < 26 by omega), py_b, d2, py_add1, py_putI _ _ _ _ _ (show r.length < 26 by omega), py_b]
  generalize hS1 : pw_up S 34 0 (upd (S 34 0) r.length (Int32.ofNat (x.2.2 + 1))) = S1
  have f1 : py_fr py_KS S S1 := by
    rw [← hS1]
    exact py_fr_r.up rfl
  have k1 : ∀ a i, Nat.beq a 34 = false → S1 a i = S a i := fun a i hh => by
    rw [← hS1]
    exact py_up_k _ _ hh
  have q1a : py_Rt S1 (409 + r.length) x.1 := q1.cong (k1 _ _ rfl) (k1 _ _ rfl) (k1 _ _ rfl)
  obtain ⟨S2, b1, b2, b3⟩ := pk_copy S1 (i := 409 + (r.length + 1)) (k := 409 + r.length) (by omega) q1a
  have hr2 : py_Ri S2 d I := b2.Ri (f1.RiS h)
  have hit2 : S2 50 (409 + r.length) 2 = Int32.ofNat (pt_it x.1) := by
    rw [b2 50 _ (py_KT_n (by omega))]
    exact q1a.2.2.1
  obtain ⟨S3, c1, c2, c3⟩ := pk_keep b3 ha hrd.1 (Int32.ofNat v)
  have f3 : py_fr py_KS S S3 := (f1.trans (b2.mono (py_KS_T (by omega)))).trans (c2.mono (py_KS_T (by omega)))
  have hC : pc_C S3 d = pc_C S d := pc_C_cong (f3 6 d rfl) (f3 7 d rfl) (f3 8 d rfl) (f3 9 d rfl) (f3 10 d rfl)
  have hfb : m_X1_firstBroken S3 d 0 (409 + (r.length + 1)) = some (S3, cv_fb (pc_C S d) (pt_v (pt_keep x.1 (pi_a I (pt_it x.1)) (Int32.ofNat v))) ncs 0) := by
    rw [← hC]
    exact pc_fb rfl c3.1 (by rw [f3 52 d rfl]; exact hc) hc8
  rw [b1, py_b, hit2, pk_a hr2 (by omega), py_b, c1, py_b, hfb, py_b]
  -- the levels so far
  have hlv : ∀ S9 : pw_S, (∀ a j, (Nat.beq a 50 || (Nat.beq a 0 || Nat.beq a 1)) = true → j ≠ 409 + (r.length + 1) → S9 a j = S1 a j) → (∀ q, q < r.length + 1 → S9 33 0 q = S1 33 0 q ∧ S9 34 0 q = S1 34 0 q) → pq_R S9 I ((x.1, x.2.1, x.2.2 + 1) :: r) := fun S9 m1 m2 => by
    refine ⟨⟨q1a.cong (m1 _ _ rfl (by omega)) (m1 _ _ rfl (by omega)) (m1 _ _ rfl (by omega)), fun _ => ?_⟩, q3.cong (fun a j ha h3 h4 => ?_) (fun q hq => ?_)⟩
    · rw [(m2 r.length (by omega)).1, (m2 r.length (by omega)).2]
      refine ⟨(by rw [k1 _ _ rfl]; exact d1), ?_⟩
      rw [← hS1, py_up_s, py_u_s]
    · rw [m1 a j ha (by omega)]
      refine k1 _ _ ?_
      cases hab : Nat.beq a 34 with
      | false => rfl
      | true =>
        rw [Nat.eq_of_beq_eq_true hab] at ha
        cases ha
    · rw [(m2 q (by omega)).1, (m2 q (by omega)).2]
      refine ⟨(by rw [k1 _ _ rfl]), ?_⟩
      rw [← hS1, py_up_s, py_u_n _ _ (by omega)]
  have m3 : ∀ a j, (Nat.beq a 50 || (Nat.beq a 0 || Nat.beq a 1)) = true → j ≠ 409 + (r.length + 1) → S3 a j = S1 a j := fun a j _ hj => by
    rw [c2 a j (py_KT_n hj), b2 a j (py_KT_n hj)]
  have m4 : ∀ q, q < r.length + 1 → S3 33 0 q = S1 33 0 q ∧ S3 34 0 q = S1 34 0 q := fun q _ => by
    rw [c2 33 0 rfl, c2 34 0 rfl, b2 33 0 rfl, b2 34 0 rfl]
    exact ⟨rfl, rfl⟩
  have h603 : S3 60 0 3 = sd := by
    rw [c2 60 0 rfl, b2 60 0 rfl, k1 _ _ rfl]
    exact hsd
  have h604 : S3 60 0 4 = Int32.ofNat r.length := by
    rw [c2 60 0 rfl, b2 60 0 rfl, k1 _ _ rfl]
    exact hd
  by_cases e : cv_fb (pc_C S d) (pt_v (pt_keep x.1 (pi_a I (pt_it x.1)) (Int32.ofNat v))) ncs 0 = 0
  · rw [if_pos e]
    obtain ⟨S4, e1, e2, e3⟩ := pk_fin (c2.Ri hr2) c3 (by show pt_it x.1 < _; omega) (by exact pr_lp g1.1.1) (by exact hrd.2) (by exact hrd.1)
    rw [e1, py_b, py_l, e2 60 0 rfl, h604, py_add1]
    generalize hS5 : pw_up S4 60 0 (upd (S3 60 0) 4 (Int32.ofNat (r.length + 1))) = S5
    have k5 : ∀ a i, Nat.beq a 60 = false → S5 a i = S4 a i := fun a i hh => by
      rw [← hS5]
      exact py_up_k _ _ hh
    have f5 : py_fr py_KS S S5 := by
      rw [← hS5]
      exact (f3.trans (e2.mono (py_KS_T (by omega)))).up rfl
    have e3 : py_Rt S5 (409 + (r.length + 1)) (pt_fin I (pt_keep x.1 (pi_a I (pt_it x.1)) (Int32.ofNat v))) := e3.cong (k5 _ _ rfl) (k5 _ _ rfl) (k5 _ _ rfl)
    obtain ⟨kg, knz⟩ := g1.keep hI hn s1 ha (w := v) (by rw [hch]; exact hvlt) e
    have h6 := hI.1.2.1
    obtain ⟨w1, w2, w3⟩ := sq_walk_g hI 200 _ kg (by omega)
    obtain ⟨S6, u1, u2, u3, u4, u5, u6, u7, u8⟩ := pq_come (k := r.length + 1) hI (f5.RiS h) e3 kg.1.1 (by omega) (by omega) (by rw [← hS5, py_up_s, py_u_s]) w3 sd (by rw [← hS5, py_up_s, py_u_b _ _ rfl]; exact h603)
    rw [u1, py_b]
    refine ⟨S6, rfl, f5.trans u2, ?_⟩
    rw [if_pos e]
    refine ⟨⟨⟨u4, u7⟩, hlv S6 (fun a j hh hj => ?_) (fun q hq => ?_)⟩, u5, u6⟩
    · have hb : Nat.beq a 60 = false := by
        cases hab : Nat.beq a 60 with
        | false => rfl
        | true =>
          rw [Nat.eq_of_beq_eq_true hab] at hh
          cases hh
      rw [u3 a j hh hj, k5 a j hb, e2 a j (py_KT_n hj), m3 a j hh hj]
    · rw [(u8 q (by omega)).1, (u8 q (by omega)).2, k5 33 0 rfl, k5 34 0 rfl, e2 33 0 rfl, e2 34 0 rfl]
      exact m4 q hq
  · rw [if_neg e]
    refine ⟨S3, rfl, f3, ?_⟩
    rw [if_neg e]
    exact ⟨hlv S3 m3 m4, h603, h604⟩
/-- the level that the sampler looks at -/
def pq_top (l : List (py_T × Nat × Nat)) : Option Nat := match l with
  | [] => none
  | _ :: r => some (409 + r.length)
theorem pq_levOf {S : pw_S} (l : List (py_T × Nat × Nat)) (hl : l.length ≤ 26) : m_X5_levelAt S 0 (py_lp l.length) = some (S, pq_top l) := by
  cases l with
  | nil =>
    unfold m_X5_levelAt
    show (if py_lp 0 < 0 then _ else _) = _
    rw [if_pos py_lp_neg]
    rfl
  | cons x r =>
    rw [List.length_cons] at hl ⊢
    rw [py_lp_succ, pq_lev (by omega)]
    rfl
theorem sq_gs_len {I : py_I} {fb : (Nat → Int32) → Int32} : ∀ {l : List (py_T × Nat × Nat)}, sq_gs I fb l → l.length ≤ 25 := by
  intro l h
  cases l with
  | nil => exact Nat.zero_le _
  | cons x r =>
    have := nz_le (pt_v x.1) 24
    have h3 := h.1.2.2
    rw [List.length_cons]
    omega
theorem py_rec_of {S : pw_S} {i : Nat} {T : py_T} (h : py_Rt S i T) (hc : pt_ca (pt_v T)) : py_rec S 0 i = pt_v T := by
  funext k
  unfold py_rec
  by_cases e : k < 24
  · rw [if_pos e]
    exact h.1 k e
  · rw [if_neg e]
    exact (hc k (by omega)).symm
theorem pq_search_49 {d ncs : Nat} {I : py_I} (hI : pi_ok I) (hRg : pi_rg I) (hc8 : ncs ≤ 8) (C : Nat → Nat → Int32) : ∀ (f N : Nat) (S : pw_S) (l : List (py_T × Nat × Nat)) (sd : Int32) (tr i : Nat), f < N → i + f = 1501 → tr ≤ 500 → py_Ri S d I → S 52 d 6 = Int32.ofNat ncs → pc_C S d = C → pq_R S I l → sq_gs I (fun V => cv_fb C V ncs 0) l → S 60 0 4 = py_lp l.length → S 60 0 3 = sd →
    (sq_run I (fun V => cv_fb C V ncs 0) f l sd tr = none → ∃ S', m_X5_search_49 N S 0 d 0 d (pq_top l) (Int32.ofNat tr) (Int32.ofNat i) = some (S', none) ∧ py_fr py_KS S S') ∧
    (∀ V, sq_run I (fun V => cv_fb C V ncs 0) f l sd tr = some V → ∃ S' i', m_X5_search_49 N S 0 d 0 d (pq_top l) (Int32.ofNat tr) (Int32.ofNat i) = some (S', some i') ∧ py_fr py_KS S S' ∧ ∀ c, c < 24 → S' 0 i' c = V c) := by
  intro f
  induction f with
  | zero =>
    intro N S l sd tr i hN hi htr h hc hC hR hg hd hsd
    obtain ⟨N, rfl⟩ : ∃ m, N = m + 1 := ⟨N - 1, by omega⟩
    refine ⟨fun _ => ⟨S, ?_, py_fr_r⟩, fun V z => by cases z⟩
    unfold m_X5_search_49
    cases l with
    | nil =>
      show pw_o none _ _ = _
      rw [py_on, py_jlL (l := 1500) (by omega) (by omega), if_pos (show 1500 < i by omega)]
    | cons x r =>
      show pw_o (some _) _ _ = _
      rw [py_os, py_jlL (l := 1500) (by omega) (by omega), if_pos (show 1500 < i by omega)]
  | succ f ih =>
    intro N S l sd tr i hN hi htr h hc hC hR hg hd hsd
    obtain ⟨N, rfl⟩ : ∃ m, N = m + 1 := ⟨N - 1, by omega⟩
    unfold m_X5_search_49
    cases l with
    | nil =>
      refine ⟨fun _ => ⟨S, ?_, py_fr_r⟩, fun V z => by cases z⟩
      show pw_o none _ _ = _
      rw [py_on, py_jlL (l := 1500) (by omega) (by omega), if_neg (show ¬ 1500 < i by omega)]
    | cons x r =>
      have hlen := sq_gs_len hg
      rw [List.length_cons] at hlen hd
      have hg0 := hg
      have hR0 := hR
      obtain ⟨⟨g1, g2, g3⟩, g4⟩ := hg
      obtain ⟨⟨q1, q2⟩, q3⟩ := hR
      have hpit := g1.1.1.1
      have h6 := hI.1.2.1
      have h28 := sq_ch_le I (pt_it x.1)
      rw [py_lp_succ] at hd
      show (_ → ∃ S', pw_o (some (409 + r.length)) _ _ = _ ∧ _) ∧ (∀ V, _ → ∃ S' i', pw_o (some (409 + r.length)) _ _ = _ ∧ _)
      simp only [py_os]
      rw [py_jlL (l := 1500) (by omega) (by omega), if_neg (show ¬ 1500 < i by omega), q1.2.2.1, pq_ch h (by omega), py_b, py_l, pk_over h q1 (by omega), py_b]
      -- going back behind this level
      have back : ∀ S1 : pw_S, py_fr py_KS S S1 → S1 60 0 4 = Int32.ofNat r.length → S1 60 0 3 = sd → pq_R S1 I r →
          (sq_run I (fun V => cv_fb C V ncs 0) f r sd tr = none → ∃ S', (pw_l (pw_up S1 60 0 (upd (S1 60 0) 4 ((S1 60 0 4) - 1))) fun S37 => pw_b (m_X5_levelAt S37 0 (S37 60 0 4)) fun S40 r43 => pw_o r43 ((pw_l (Int32.ofNat i + 1 : Int32) fun z46 => m_X5_search_49 N S40 0 d 0 d none (Int32.ofNat tr) z46)) (fun j45 => (pw_l (Int32.ofNat i + 1 : Int32) fun z47 => m_X5_search_49 N S40 0 d 0 d (some j45) (Int32.ofNat tr) z47))) = some (S', none) ∧ py_fr py_KS S S') ∧
          (∀ V, sq_run I (fun V => cv_fb C V ncs 0) f r sd tr = some V → ∃ S' i', (pw_l (pw_up S1 60 0 (upd (S1 60 0) 4 ((S1 60 0 4) - 1))) fun S37 => pw_b (m_X5_levelAt S37 0 (S37 60 0 4)) fun S40 r43 => pw_o r43 ((pw_l (Int32.ofNat i + 1 : Int32) fun z46 => m_X5_search_49 N S40 0 d 0 d none (Int32.ofNat tr) z46)) (fun j45 => (pw_l (Int32.ofNat i + 1 : Int32) fun z47 => m_X5_search_49 N S40 0 d 0 d (some j45) (Int32.ofNat tr) z47))) = some (S', some i') ∧ py_fr py_KS S S' ∧ ∀ c, c < 24 → S' 0 i' c = V c) := fun S1 f1 hd1 hsd1 hR1 => by
        have hlp : Int32.ofNat r.length - 1 = py_lp r.length := by
          cases r with
          | nil => rfl
          | cons y r => rw [List.length_cons, py_lp_succ]; exact py_sub (a := r.length + 1) (b := 1) (by omega)
        rw [hd1, hlp, py_l, py_up_s, py_u_s, pq_levOf r (by omega), py_b]
        generalize hS2 : pw_up S1 60 0 (upd (S1 60 0) 4 (py_lp r.length)) = S2
        have k2 : ∀ a i, Nat.beq a 60 = false → S2 a i = S1 a i := fun a i hh => by
          rw [← hS2]
          exact py_up_k _ _ hh
        have f2 : py_fr py_KS S S2 := by
          rw [← hS2]
          exact f1.up rfl
        have hR2 : pq_R S2 I r := hR1.cong (fun a j ha _ _ => k2 a j (by
          cases hab : Nat.beq a 60 with
          | false => rfl
          | true =>
            rw [Nat.eq_of_beq_eq_true hab] at ha
            cases ha)) (fun q _ => by rw [k2 33 0 rfl, k2 34 0 rfl]; exact ⟨rfl, rfl⟩)
        obtain ⟨i1, i2⟩ := ih N S2 r sd tr (i + 1) (by omega) (by omega) htr (f2.RiS h) (by rw [f2 52 d rfl]; exact hc) (by rw [← hC]; exact pc_C_cong (f2 6 d rfl) (f2 7 d rfl) (f2 8 d rfl) (f2 9 d rfl) (f2 10 d rfl)) hR2 g4 (by rw [← hS2, py_up_s, py_u_s]) (by rw [← hS2, py_up_s, py_u_b _ _ rfl]; exact hsd1)
        have hsame : (pw_o (pq_top r) ((pw_l (Int32.ofNat i + 1 : Int32) fun z46 => m_X5_search_49 N S2 0 d 0 d none (Int32.ofNat tr) z46)) (fun j45 => (pw_l (Int32.ofNat i + 1 : Int32) fun z47 => m_X5_search_49 N S2 0 d 0 d (some j45) (Int32.ofNat tr) z47))) = m_X5_search_49 N S2 0 d 0 d (pq_top r) (Int32.ofNat tr) (Int32.ofNat (i + 1)) := by
          rw [py_add1]
          cases pq_top r <;> rfl
        rw [hsame]
        refine ⟨fun z => ?_, fun V z => ?_⟩
        · obtain ⟨S', m1, m2⟩ := i1 z
          exact ⟨S', m1, f2.trans m2⟩
        · obtain ⟨S', i', m1, m2, m3⟩ := i2 V z
          exact ⟨S', i', m1, f2.trans m2, m3⟩
      unfold sq_run
      by_cases hn : pi_n I ≤ pt_it x.1
      · rw [if_pos hn, if_pos hn, if_neg py_10]
        have hrec := py_rec_of q1 g1.2.2.2.2
        have hKP : py_KP 0 (409 + r.length) = false := by
          unfold py_KP
          rw [py_KT_n (by omega)]
          rfl
        obtain ⟨p1, p2⟩ := pk_can (S := S) (j := d) (a2 := 0) (i2 := 409 + r.length) hI hRg h rfl hKP (fun c hc9 => by
          rw [q1.1 c hc9]
          rcases g1.1.2.2 c with z | ⟨w, w1, w2⟩
          · exact Or.inl z
          · exact Or.inr ⟨w, by omega, w2⟩)
        rw [hrec] at p1 p2
        cases hp : ps_run I (pt_v x.1) 200 pt_0 with
        | none =>
          obtain ⟨S1, a1, a2⟩ := p1 hp
          have f1 : py_fr py_KS S S1 := a2.mono py_KS_P
          have q1' : py_Rt S1 (409 + r.length) x.1 := q1.cong (a2 0 _ hKP) (a2 1 _ (by unfold py_KP; rw [py_KT_n (by omega)]; rfl)) (a2 50 _ (by unfold py_KP; rw [py_KT_n (by omega)]; rfl))
          have hR1 : pq_R S1 I r := q3.cong (fun a j ha h3 h4 => a2 a j (by
            unfold py_KP
            rw [py_KT_n (by omega), Bool.false_or]
            cases hab : (Nat.beq a 28 || Nat.beq a 29) with
            | false => rfl
            | true =>
              rw [Bool.or_eq_true_iff] at hab
              rcases hab with hab | hab <;> rw [Nat.eq_of_beq_eq_true hab] at ha <;> cases ha)) (fun q _ => by rw [a2 33 0 rfl, a2 34 0 rfl]; exact ⟨rfl, rfl⟩)
          rw [if_neg (fun z => by cases z), a1, py_b, if_pos rfl, pk_over (f1.RiS h) q1' (by omega), if_pos hn, py_b, if_neg py_10]
          exact back S1 f1 (by rw [a2 60 0 rfl]; exact hd) (by rw [a2 60 0 rfl]; exact hsd) hR1
        | some y =>
          obtain ⟨S1, a1, a2, a3⟩ := p2 y hp
          rw [if_pos (show (some y).isSome = true from rfl), a1, py_b, if_neg py_10]
          refine ⟨fun z => (by cases z), fun V z => ⟨S1, 409 + r.length, rfl, a2.mono py_KS_P, fun c hc9 => ?_⟩⟩
          rw [← Option.some.inj z, a2 0 _ hKP]
          exact q1.1 c hc9
      rw [if_neg hn, if_neg hn, if_pos rfl, pk_over h q1 (by omega), if_neg hn, py_b, if_pos rfl]
      obtain ⟨d1, d2⟩ := q2 hn
      obtain ⟨s1, s2, s3⟩ := g2 hn
      have hch := sq_ch_pos (show pt_it x.1 < pi_n I by omega) s1
      rw [hd, py_atI _ _ _ _ _ (show r.length < 26 by omega), py_b, d2, py_jl (by omega) (by omega)]
      by_cases ht : x.2.2 < sq_ch I (pt_it x.1)
      · rw [if_pos ht, if_neg (show ¬ sq_ch I (pt_it x.1) ≤ x.2.2 by omega), py_l, py_add1, py_jeR (l := 500) (by omega) (by omega)]
        by_cases ht5 : tr + 1 ≤ 500
        · rw [if_pos ht5, if_neg (show ¬ 500 < tr + 1 by omega)]
          obtain ⟨S1, a1, a2, a3⟩ := pq_try hI h hc hc8 hR0 (by rw [hC]; exact hg0) hd sd hsd hn ht
          rw [hC] at a3
          rw [a1, py_b]
          have ha := (hI.2.1 _ (show pt_it x.1 < pi_n I by omega)).2 (fun z => by rcases s1 with s1 | s1 <;> omega) (fun z => by rcases s1 with s1 | s1 <;> omega)
          have hgs : sq_gs I (fun V => cv_fb C V ncs 0) ((x.1, x.2.1, x.2.2 + 1) :: r) := ⟨⟨g1, fun _ => ⟨s1, s2, by show x.2.2 + 1 ≤ 28; omega⟩, g3⟩, g4⟩
          have go : ∀ (l' : List (py_T × Nat × Nat)) (sd' : Int32), l'.length ≤ 26 → pq_R S1 I l' → sq_gs I (fun V => cv_fb C V ncs 0) l' → S1 60 0 4 = py_lp l'.length → S1 60 0 3 = sd' →
              (sq_run I (fun V => cv_fb C V ncs 0) f l' sd' (tr + 1) = none → ∃ S', (pw_b (m_X5_levelAt S1 0 (S1 60 0 4)) fun S29 r32 => pw_o r32 ((pw_l (Int32.ofNat i + 1 : Int32) fun z35 => m_X5_search_49 N S29 0 d 0 d none (Int32.ofNat (tr + 1)) z35)) (fun j34 => (pw_l (Int32.ofNat i + 1 : Int32) fun z36 => m_X5_search_49 N S29 0 d 0 d (some j34) (Int32.ofNat (tr + 1)) z36))) = some (S', none) ∧ py_fr py_KS S S') ∧
              (∀ V, sq_run I (fun V => cv_fb C V ncs 0) f l' sd' (tr + 1) = some V → ∃ S' i', (pw_b (m_X5_levelAt S1 0 (S1 60 0 4)) fun S29 r32 => pw_o r32 ((pw_l (Int32.ofNat i + 1 : Int32) fun z35 => m_X5_search_49 N S29 0 d 0 d none (Int32.ofNat (tr + 1)) z35)) (fun j34 => (pw_l (Int32.ofNat i + 1 : Int32) fun z36 => m_X5_search_49 N S29 0 d 0 d (some j34) (Int32.ofNat (tr + 1)) z36))) = some (S', some i') ∧ py_fr py_KS S S' ∧ ∀ c, c < 24 → S' 0 i' c = V c) := fun l' sd' hl' hR1 hg1 hd1 hsd1 => by
            obtain ⟨i1, i2⟩ := ih N S1 l' sd' (tr + 1) (i + 1) (by omega) (by omega) ht5 (a2.RiS h) (by rw [a2 52 d rfl]; exact hc) (by rw [← hC]; exact pc_C_cong (a2 6 d rfl) (a2 7 d rfl) (a2 8 d rfl) (a2 9 d rfl) (a2 10 d rfl)) hR1 hg1 hd1 hsd1
            have hsame : (pw_o (pq_top l') ((pw_l (Int32.ofNat i + 1 : Int32) fun z46 => m_X5_search_49 N S1 0 d 0 d none (Int32.ofNat (tr + 1)) z46)) (fun j45 => (pw_l (Int32.ofNat i + 1 : Int32) fun z47 => m_X5_search_49 N S1 0 d 0 d (some j45) (Int32.ofNat (tr + 1)) z47))) = m_X5_search_49 N S1 0 d 0 d (pq_top l') (Int32.ofNat (tr + 1)) (Int32.ofNat (i + 1)) := by
              rw [py_add1]
              cases pq_top l' <;> rfl
            rw [hd1, pq_levOf l' hl', py_b, hsame]
            refine ⟨fun z => ?_, fun V z => ?_⟩
            · obtain ⟨S', m1, m2⟩ := i1 z
              exact ⟨S', m1, a2.trans m2⟩
            · obtain ⟨S', i', m1, m2, m3⟩ := i2 V z
              exact ⟨S', i', m1, a2.trans m2, m3⟩
          by_cases hfb : cv_fb C (pt_v (pt_keep x.1 (pi_a I (pt_it x.1)) (Int32.ofNat ((x.2.1 + x.2.2) % sq_ch I (pt_it x.1))))) ncs 0 = 0
          · rw [if_pos hfb] at a3 ⊢
            obtain ⟨k1, k2⟩ := g1.keep hI hn s1 ha (Nat.mod_lt (x.2.1 + x.2.2) (by omega)) hfb
            obtain ⟨c1, c2, c3⟩ := sq_come_g hI k1 sd
            exact go _ _ (by rw [List.length_cons, List.length_cons]; omega) a3.1 ⟨⟨c1, c3, by rw [c2, k2, g3]; rfl⟩, hgs⟩ (by rw [a3.2.2]; rfl) a3.2.1
          · rw [if_neg hfb] at a3 ⊢
            exact go _ _ (by rw [List.length_cons]; omega) a3.1 hgs (by rw [a3.2.2]; rfl) a3.2.1
        · rw [if_neg ht5, if_pos (show 500 < tr + 1 by omega)]
          exact ⟨fun _ => ⟨S, rfl, py_fr_r⟩, fun V z => by cases z⟩
      · rw [if_neg ht, if_pos (show sq_ch I (pt_it x.1) ≤ x.2.2 by omega)]
        exact back S py_fr_r hd hsd q3
/-- the sample that is found -/
def sq_all (I : py_I) (fb : (Nat → Int32) → Int32) (sd : Int32) : Option (Nat → Int32) := sq_run I fb 1501 [(sq_come I pt_0 sd).1] (sq_come I pt_0 sd).2 0
theorem sq_all_gs {I : py_I} (hI : pi_ok I) {fb : (Nat → Int32) → Int32} (h0 : fb (fun _ => -2147483648) = 0) (sd : Int32) : sq_gs I fb [(sq_come I pt_0 sd).1] := by
  obtain ⟨c1, c2, c3⟩ := sq_come_g hI (sq_g_0 hI h0) sd
  refine ⟨⟨c1, c3, ?_⟩, trivial⟩
  rw [c2]
  exact (by decide +kernel : nz_r (fun _ => -2147483648) 24 = 0)
theorem pq_search {S : pw_S} {d ncs : Nat} {I : py_I} (hI : pi_ok I) (hRg : pi_rg I) (h : py_Ri S d I) (hc : S 52 d 6 = Int32.ofNat ncs) (hc8 : ncs ≤ 8) (sd : Int32) :
    (sq_all I (fun V => cv_fb (pc_C S d) V ncs 0) sd = none → ∃ S', m_X5_search S 0 d sd 0 = some (S', none) ∧ py_fr py_KS S S') ∧
    (∀ V, sq_all I (fun V => cv_fb (pc_C S d) V ncs 0) sd = some V → ∃ S' i', m_X5_search S 0 d sd 0 = some (S', some i') ∧ py_fr py_KS S S' ∧ ∀ c, c < 24 → S' 0 i' c = V c) := by
  unfold m_X5_search
  rw [show m_X5_levelAt S 0 0 = some (S, some (409 + 0)) from pq_lev (k := 0) (by omega), py_b, py_os, py_l, py_l, py_up_s, py_up_u]
  generalize hS1 : pw_up S 60 0 (upd (upd (S 60 0) 3 sd) 4 0) = S1
  have k1 : ∀ a i, Nat.beq a 60 = false → S1 a i = S a i := fun a i hh => by
    rw [← hS1]
    exact py_up_k _ _ hh
  have f1 : py_fr py_KS S S1 := by
    rw [← hS1]
    exact py_fr_r.up rfl
  obtain ⟨S2, b1, b2, b3⟩ := pk_restart S1 (409 + 0)
  have f2 : py_fr py_KS S S2 := f1.trans (b2.mono (py_KS_T (by omega)))
  have h6 := hI.1.2.1
  have h0 : (fun V => cv_fb (pc_C S d) V ncs 0) (fun _ => -2147483648) = 0 := cv_fb_none (fun _ => rfl) _ _
  obtain ⟨w1, w2, w3⟩ := sq_walk_g hI 200 pt_0 (sq_g_0 hI (fb := fun V => cv_fb (pc_C S d) V ncs 0) h0) (by omega)
  have hd : S2 60 0 4 = Int32.ofNat 0 := by
    rw [b2 60 0 rfl, ← hS1, py_up_s]
    rfl
  have hsd : S2 60 0 3 = sd := by
    rw [b2 60 0 rfl, ← hS1, py_up_s]
    rfl
  obtain ⟨S3, u1, u2, u3, u4, u5, u6, u7, u8⟩ := pq_come (k := 0) hI (f2.RiS h) b3 (pt_0_pos hI) (by omega) (by omega) hd w3 sd hsd
  have f3 := f2.trans u2
  obtain ⟨i1, i2⟩ := pq_search_49 hI hRg hc8 (pc_C S d) 1501 (pw_F 2000) S3 [(sq_come I pt_0 sd).1] (sq_come I pt_0 sd).2 0 0 (by rw [py_F]; omega) (by omega) (by omega) (f3.RiS h) (by rw [f3 52 d rfl]; exact hc) (pc_C_cong (f3 6 d rfl) (f3 7 d rfl) (f3 8 d rfl) (f3 9 d rfl) (f3 10 d rfl)) ⟨⟨u4, u7⟩, trivial⟩ (sq_all_gs hI (fb := fun V => cv_fb (pc_C S d) V ncs 0) h0 sd) u6 u5
  rw [b1, py_b, u1, py_b, py_l, py_l]
  refine ⟨fun z => ?_, fun V z => ?_⟩
  · obtain ⟨S', m1, m2⟩ := i1 z
    exact ⟨S', m1, f3.trans m2⟩
  · obtain ⟨S', i', m1, m2, m3⟩ := i2 V z
    exact ⟨S', i', m1, f3.trans m2, m3⟩
