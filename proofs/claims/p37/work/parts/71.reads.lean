/-! Reading items. -/
theorem pr_b {S : pw_S} {j f len p : Nat} {ah : Nat → Int32} {I : py_I} {l : List py_T} {T : py_T} (h : pr_ps S j f len p ah I l T) (hn : pt_it T < pi_n I) : m_X2_b S (pw_dn 8 (S 59 0 5)) (S 50 407 2) = some (S, Int32.ofNat (pi_b I (pt_it T))) := by
  rw [h.1.2.2.1, pk_dn h.1.1 (by omega), h.2.2.2.2.2.1]
  exact pk_b h.1.2.1 hn
theorem pr_c {S : pw_S} {j f len p : Nat} {ah : Nat → Int32} {I : py_I} {l : List py_T} {T : py_T} (h : pr_ps S j f len p ah I l T) (hn : pt_it T < pi_n I) : m_X2_c S (pw_dn 8 (S 59 0 5)) (S 50 407 2) = some (S, Int32.ofNat (pi_c I (pt_it T))) := by
  rw [h.1.2.2.1, pk_dn h.1.1 (by omega), h.2.2.2.2.2.1]
  exact pk_c h.1.2.1 hn
theorem pr_a {S : pw_S} {j f len p : Nat} {ah : Nat → Int32} {I : py_I} {l : List py_T} {T : py_T} (h : pr_ps S j f len p ah I l T) (hn : pt_it T < pi_n I) : m_X2_a S (pw_dn 8 (S 59 0 5)) (S 50 407 2) = some (S, Int32.ofNat (pi_a I (pt_it T))) := by
  rw [h.1.2.2.1, pk_dn h.1.1 (by omega), h.2.2.2.2.2.1]
  exact pk_a h.1.2.1 hn
theorem pr_k {S : pw_S} {j f len p : Nat} {ah : Nat → Int32} {I : py_I} {l : List py_T} {T : py_T} (h : pr_ps S j f len p ah I l T) (hn : pt_it T < pi_n I) : m_X2_kind S (pw_dn 8 (S 59 0 5)) (S 50 407 2) = some (S, Int32.ofNat (pi_k I (pt_it T))) := by
  rw [h.1.2.2.1, pk_dn h.1.1 (by omega), h.2.2.2.2.2.1]
  exact pk_kind h.1.2.1 hn
theorem pr_unit {S : pw_S} {j f len p : Nat} {ah : Nat → Int32} {I : py_I} {l : List py_T} {T : py_T} (hok : pi_ok I) (hl : l.length < 407) (h : pr_ps S j f len p ah I l T) (hg : pt_gd I T) (hn : pt_it T < pi_n I) (hs : ¬ pi_hs (pi_k I (pt_it T))) (u : Int32) : pr_rd py_KN S j f len p ah I l ((if ah (pt_ln T) = u then [((0 : Int32), 1)] else []).filterMap (pr_w I ah T)) T (m_X4_readUnit S 0 u) := by
  unfold m_X4_readUnit
  rw [show (0 : Int32) = Int32.ofNat 0 from rfl, pk_ahead h hg.2.1 0 (by omega), py_b, Nat.add_zero]
  by_cases e : ah (pt_ln T) = u
  · rw [if_pos e, if_pos e]
    exact (pr_one hok hl h hg hn 0 1 (by omega) (-1) (Or.inr ⟨hs, rfl⟩)).ret
  · rw [if_neg e, if_neg e]
    exact pr_no h
theorem pr_place {S : pw_S} {j f len p : Nat} {ah : Nat → Int32} {I : py_I} {l : List py_T} {T : py_T} (hok : pi_ok I) (hl : l.length < 407) (h : pr_ps S j f len p ah I l T) (hg : pt_gd I T) (hn : pt_it T < pi_n I) (hs : ¬ pi_hs (pi_k I (pt_it T))) (x : Int32) (hx : x = -1 ∨ ∃ w, w ≤ 60 ∧ x = Int32.ofNat w) :
    pr_rd py_KN S j f len p ah I l ((if x < 0 then [] else if x.toNatClampNeg ≤ 99 then (if ah (pt_ln T) = Int32.ofNat (48 + x.toNatClampNeg / 10) ∧ ah (pt_ln T + 1) = Int32.ofNat (48 + x.toNatClampNeg % 10) then [((0 : Int32), 2)] else []) else []).filterMap (pr_w I ah T)) T (m_X4_readPlace S 0 x) := by
  unfold m_X4_readPlace
  rw [py_btw, py_b]
  rcases hx with rfl | ⟨w, hw, rfl⟩
  · rw [if_neg (show ¬ ((0 : Int32) ≤ -1 ∧ (-1 : Int32) ≤ 99) by decide), if_pos rfl, if_pos (show (-1 : Int32) < 0 by decide)]
    exact pr_no h
  · have h1 : (48 : Int32) + Int32.ofNat w / 10 = Int32.ofNat (48 + w / 10) := by
      rw [show Int32.ofNat w / 10 = Int32.ofNat (w / 10) from py_div (b := 10) (by omega) (by omega)]
      exact py_add 48 _
    have h2 : (48 : Int32) + (Int32.ofNat w - Int32.ofNat w / 10 * 10) = Int32.ofNat (48 + w % 10) := by
      rw [show Int32.ofNat w - Int32.ofNat w / 10 * 10 = Int32.ofNat (w % 10) from py_mod (b := 10) (by omega) (by omega)]
      exact py_add 48 _
    have a0 : m_X4_ahead S 0 0 = some (S, ah (pt_ln T)) := pk_ahead h hg.2.1 0 (by omega)
    have a1 : m_X4_ahead S 0 1 = some (S, ah (pt_ln T + 1)) := pk_ahead h hg.2.1 1 (by omega)
    rw [if_pos (show (0 : Int32) ≤ Int32.ofNat w ∧ Int32.ofNat w ≤ 99 from py_in (l := 0) (h := 99) (by omega) (by omega) (by omega)), if_neg py_10, h1, h2, py_jn (by omega), py_cl (by omega), if_pos (show w ≤ 99 by omega), a0, py_b]
    by_cases e : ah (pt_ln T) = Int32.ofNat (48 + w / 10)
    · rw [if_pos e, a1, py_b]
      by_cases e2 : ah (pt_ln T + 1) = Int32.ofNat (48 + w % 10)
      · rw [if_pos e2, if_pos (show ah (pt_ln T) = Int32.ofNat (48 + w / 10) ∧ ah (pt_ln T + 1) = Int32.ofNat (48 + w % 10) from ⟨e, e2⟩)]
        exact (pr_one hok hl h hg hn 0 2 (by omega) (-1) (Or.inr ⟨hs, rfl⟩)).ret
      · rw [if_neg e2, if_neg (show ¬ (ah (pt_ln T) = Int32.ofNat (48 + w / 10) ∧ ah (pt_ln T + 1) = Int32.ofNat (48 + w % 10)) from fun z => e2 z.2)]
        exact pr_no h
    · rw [if_neg e, if_neg (show ¬ (ah (pt_ln T) = Int32.ofNat (48 + w / 10) ∧ ah (pt_ln T + 1) = Int32.ofNat (48 + w % 10)) from fun z => e z.1)]
      exact pr_no h
theorem py_sub48 (u : Int32) : ((0 : Int32) ≤ u - 48 ∧ u - 48 ≤ 3) = (48 ≤ u ∧ u ≤ 51) := by
  apply propext
  constructor
  · rintro ⟨h1, h2⟩
    have hn : ¬ u - 48 < 0 := by
      rw [Int32.lt_iff_toInt_lt]
      rw [Int32.le_iff_toInt_le] at h1
      omega
    obtain ⟨e1, e2⟩ := py_nn hn
    generalize (u - 48).toNatClampNeg = w at e1 e2
    have e3 : u = Int32.ofNat (w + 48) := by
      have := congrArg (fun z : Int32 => z + 48) e1
      have h9 : u - 48 + 48 = Int32.ofNat w + 48 := this
      rw [Int32.sub_add_cancel] at h9
      exact h9.trans (py_add w 48)
    rw [e1, show (3 : Int32) = Int32.ofNat 3 from rfl, py_le e2 (by omega)] at h2
    rw [e3]
    exact py_in (l := 48) (h := 51) (by omega) (by omega) (by omega)
  · rintro ⟨h1, h2⟩
    have hn : ¬ u < 0 := by
      rw [Int32.lt_iff_toInt_lt]
      rw [Int32.le_iff_toInt_le] at h1
      have q6 : (0 : Int32).toInt = 0 := rfl
      have q3 : (48 : Int32).toInt = 48 := rfl
      omega
    obtain ⟨e1, e2⟩ := py_nn hn
    generalize u.toNatClampNeg = w at e1 e2
    subst e1
    rw [show (48 : Int32) = Int32.ofNat 48 from rfl, py_le (by omega) e2] at h1
    rw [show (51 : Int32) = Int32.ofNat 51 from rfl, py_le e2 (by omega)] at h2
    rw [show Int32.ofNat w - 48 = Int32.ofNat (w - 48) from py_sub (b := 48) h1]
    exact py_in (l := 0) (h := 3) (by omega) (by omega) (by omega)
theorem pr_count {S : pw_S} {j f len p : Nat} {ah : Nat → Int32} {I : py_I} {l : List py_T} {T : py_T} (hok : pi_ok I) (hl : l.length < 407) (h : pr_ps S j f len p ah I l T) (hg : pt_gd I T) (hn : pt_it T < pi_n I) (hs : pi_hs (pi_k I (pt_it T))) (ha : pi_a I (pt_it T) < 8) :
    pr_rd py_KN S j f len p ah I l ((if 48 ≤ ah (pt_ln T) ∧ ah (pt_ln T) ≤ 51 then [(Int32.ofNat ((ah (pt_ln T)).toNatClampNeg - 48), 1)] else []).filterMap (pr_w I ah T)) T (m_X4_readCount S 0) := by
  have a0 : m_X4_ahead S 0 0 = some (S, ah (pt_ln T)) := pk_ahead h hg.2.1 0 (by omega)
  unfold m_X4_readCount
  rw [a0, py_b, py_l, py_btw, py_b, py_ic (py_sub48 _)]
  by_cases e : 48 ≤ ah (pt_ln T) ∧ ah (pt_ln T) ≤ 51
  · have hn9 : ¬ ah (pt_ln T) < 0 := by
      have h1 := e.1
      rw [Int32.lt_iff_toInt_lt]
      rw [Int32.le_iff_toInt_le] at h1
      have q6 : (0 : Int32).toInt = 0 := rfl
      have q3 : (48 : Int32).toInt = 48 := rfl
      omega
    obtain ⟨e1, e2⟩ := py_nn hn9
    have h48 : 48 ≤ (ah (pt_ln T)).toNatClampNeg := by
      have h1 := e.1
      rw [e1, show (48 : Int32) = Int32.ofNat 48 from rfl, py_le (by omega) e2] at h1
      exact h1
    have hsub : ah (pt_ln T) - 48 = Int32.ofNat ((ah (pt_ln T)).toNatClampNeg - 48) := by
      have := py_sub (a := (ah (pt_ln T)).toNatClampNeg) (b := 48) h48
      rw [← e1] at this
      exact this
    rw [if_pos e, if_pos e, if_neg py_10, pr_a h hn, py_b, hsub]
    exact (pr_one hok hl h hg hn _ 1 (by omega) _ (Or.inl ⟨hs, rfl, ha⟩)).ret
  · rw [if_neg e, if_neg e, if_pos rfl]
    exact pr_no h
theorem pe_bv_none {ah : Nat → Int32} {p i : Nat} (h : pe_bv ah p i = none) : ∀ n, pe_bv ah p (i + n) = none := by
  intro n
  induction n with
  | zero => exact h
  | succ n ih =>
    show pe_bv ah p (i + n + 1) = none
    unfold pe_bv
    rw [ih]
theorem pr_bits_19 {j f len p : Nat} {ah : Nat → Int32} {I : py_I} {l : List py_T} {T : py_T} (hok : pi_ok I) (hl : l.length < 407) (hg : pt_gd I T) (hn : pt_it T < pi_n I) (hs : pi_hs (pi_k I (pt_it T))) (ha : pi_a I (pt_it T) < 8) (b : Nat) (hb : b ≤ 8) : ∀ (n N i w : Nat) (S : pw_S), n < N → b = i + n → pr_ps S j f len p ah I l T → pe_bv ah (pt_ln T) i = some w → pr_rd py_KN S j f len p ah I l ((match pe_bv ah (pt_ln T) b with | none => [] | some w => [(Int32.ofNat w, b)]).filterMap (pr_w I ah T)) T (m_X4_readBits_19 N S 0 (Int32.ofNat b) (Int32.ofNat w) (Int32.ofNat i)) := by
  intro n
  induction n with
  | zero =>
    intro N i w S hN hi h hw
    obtain ⟨N, rfl⟩ : ∃ k, N = k + 1 := ⟨N - 1, by omega⟩
    obtain rfl : b = i := by omega
    unfold m_X4_readBits_19
    rw [py_je (by omega) (by omega), if_pos (by omega), pr_a h hn, py_b, hw]
    exact (pr_one hok hl h hg hn _ b (by omega) _ (Or.inl ⟨hs, rfl, ha⟩)).ret
  | succ n ih =>
    intro N i w S hN hi h hw
    obtain ⟨N, rfl⟩ : ∃ k, N = k + 1 := ⟨N - 1, by omega⟩
    obtain ⟨w1, w2⟩ := pe_bv_sound hw
    have hp : 2 ^ i ≤ 2 ^ 7 := Nat.pow_le_pow_right (by omega) (by omega)
    unfold m_X4_readBits_19
    rw [py_je (by omega) (by omega), if_neg (by omega), pk_ahead h hg.2.1 i (by omega), py_b]
    have hnext : pe_bv ah (pt_ln T) (i + 1) = if ah (pt_ln T + i) = 120 then some (w + 2 ^ i) else if ah (pt_ln T + i) = 45 then some w else none := by
      rw [pe_bv.eq_2, hw]
    by_cases c1 : ah (pt_ln T + i) = 120
    · rw [if_pos c1] at hnext
      have hor := py_or (w := w) (x := 1) (i := i) w1 (by omega)
      rw [Nat.one_mul] at hor
      rw [if_pos c1, py_shl1 (by omega), hor, py_l, py_l, py_add1]
      exact ih N (i + 1) _ S (by omega) (by omega) h hnext
    · rw [if_neg c1] at hnext
      rw [if_neg c1, pk_ahead h hg.2.1 i (by omega), py_b]
      by_cases c2 : ah (pt_ln T + i) = 45
      · rw [if_pos c2] at hnext
        rw [if_pos c2, py_l, py_add1]
        exact ih N (i + 1) _ S (by omega) (by omega) h hnext
      · rw [if_neg c2] at hnext
        rw [if_neg c2, show b = i + 1 + n from by omega, pe_bv_none hnext n]
        exact pr_no h
theorem pr_bits {S : pw_S} {j f len p : Nat} {ah : Nat → Int32} {I : py_I} {l : List py_T} {T : py_T} (hok : pi_ok I) (hl : l.length < 407) (h : pr_ps S j f len p ah I l T) (hg : pt_gd I T) (hn : pt_it T < pi_n I) (hs : pi_hs (pi_k I (pt_it T))) (ha : pi_a I (pt_it T) < 8) (hb : pi_b I (pt_it T) ≤ 8) :
    pr_rd py_KN S j f len p ah I l ((match pe_bv ah (pt_ln T) (pi_b I (pt_it T)) with | none => [] | some w => [(Int32.ofNat w, pi_b I (pt_it T))]).filterMap (pr_w I ah T)) T (m_X4_readBits S 0) := by
  unfold m_X4_readBits
  rw [pr_b h hn, py_b, py_l, py_l, py_l]
  exact pr_bits_19 hok hl hg hn hs ha _ hb (pi_b I (pt_it T)) (pw_F 20000) 0 0 S (by rw [py_F]; omega) (by omega) h rfl
/-! numbers -/
theorem pr_num_19 {j f len p : Nat} {ah : Nat → Int32} {I : py_I} {l : List py_T} {T : py_T} (hln : pt_ln T ≤ 60) (k : pw_S → Nat → Int32 → Int32 → pw_R Unit) (b : Nat) (hb : b ≤ 8) (S : pw_S) (h : pr_ps S j f len p ah I l T) : ∀ (n N i a : Nat), n < N → b = i + n → a < 10 ^ i → m_X4_readNumber_19 k N S 0 (Int32.ofNat b) (Int32.ofNat a) (Int32.ofNat i) = k S 0 (Int32.ofNat b) (Int32.ofNat (pe_num (pe_tk ah (pt_ln T + i) n) a)) := by
  intro n
  induction n with
  | zero =>
    intro N i a hN hi ha
    obtain ⟨N, rfl⟩ : ∃ k, N = k + 1 := ⟨N - 1, by omega⟩
    unfold m_X4_readNumber_19
    rw [py_je (by omega) (by omega), if_pos (by omega)]
    rfl
  | succ n ih =>
    intro N i a hN hi ha
    obtain ⟨N, rfl⟩ : ∃ k, N = k + 1 := ⟨N - 1, by omega⟩
    have hp : 10 ^ i ≤ 10 ^ 7 := Nat.pow_le_pow_right (by omega) (by omega)
    have hp1 : 10 ^ (i + 1) = 10 ^ i * 10 := Nat.pow_succ 10 i
    unfold m_X4_readNumber_19
    rw [py_je (by omega) (by omega), if_neg (by omega), pk_ahead h hln i (by omega), py_b, py_dig_eq, py_b, pe_tk_succ]
    show _ = k S 0 (Int32.ofNat b) (Int32.ofNat (pe_num (pe_tk ah (pt_ln T + i + 1) n) (if 48 ≤ ah (pt_ln T + i) ∧ ah (pt_ln T + i) ≤ 57 then 10 * a + ((ah (pt_ln T + i)).toNatClampNeg - 48) else a)))
    by_cases e : 48 ≤ ah (pt_ln T + i) ∧ ah (pt_ln T + i) ≤ 57
    · have hn9 : ¬ ah (pt_ln T + i) < 0 := by
        have h1 := e.1
        rw [Int32.lt_iff_toInt_lt]
        rw [Int32.le_iff_toInt_le] at h1
        have q6 : (0 : Int32).toInt = 0 := rfl
        have q3 : (48 : Int32).toInt = 48 := rfl
        omega
      obtain ⟨e1, e2⟩ := py_nn hn9
      have h48 : 48 ≤ (ah (pt_ln T + i)).toNatClampNeg := by
        have h1 := e.1
        rw [e1, show (48 : Int32) = Int32.ofNat 48 from rfl, py_le (by omega) e2] at h1
        exact h1
      have h57 : (ah (pt_ln T + i)).toNatClampNeg ≤ 57 := by
        have h1 := e.2
        rw [e1, show (57 : Int32) = Int32.ofNat 57 from rfl, py_le e2 (by omega)] at h1
        exact h1
      have hval : 10 * Int32.ofNat a + ah (pt_ln T + i) - 48 = Int32.ofNat (10 * a + ((ah (pt_ln T + i)).toNatClampNeg - 48)) := by
        have q1 : (10 : Int32) * Int32.ofNat a = Int32.ofNat (10 * a) := py_mul 10 a
        rw [q1]
        conv => lhs; rw [e1]
        rw [py_add, show Int32.ofNat (10 * a + (ah (pt_ln T + i)).toNatClampNeg) - 48 = Int32.ofNat (10 * a + (ah (pt_ln T + i)).toNatClampNeg - 48) from py_sub (b := 48) (by omega)]
        congr 1
        omega
      rw [if_pos e, if_pos e, if_neg py_10, pk_ahead h hln i (by omega), py_b, py_l, py_l, hval, py_add1]
      exact ih N (i + 1) _ (by omega) (by omega) (by omega)
    · rw [if_neg e, if_neg e, if_pos rfl, py_l, py_add1]
      exact ih N (i + 1) _ (by omega) (by omega) (by omega)
theorem pr_num_84 {j f len p : Nat} {ah : Nat → Int32} {I : py_I} {l : List py_T} {T : py_T} (hok : pi_ok I) (hl : l.length < 407) (hg : pt_gd I T) (hn : pt_it T < pi_n I) (hs : pi_hs (pi_k I (pt_it T))) (ha : pi_a I (pt_it T) < 8) (b : Nat) (hb : b ≤ 8) (v : Int32) (us : List Int32) (hus : us.length = b) (S : pw_S) (h : pr_ps S j f len p ah I l T) (hli : py_li (S 30 0) 0 us) : ∀ (n N i : Nat), n < N → b = i + n → pr_rd py_KN S j f len p ah I l ((if pe_tk ah (pt_ln T + i) n = us.drop i then [(v, b)] else []).filterMap (pr_w I ah T)) T (m_X4_readNumber_84 N S 0 (Int32.ofNat b) v (Int32.ofNat i)) := by
  intro n
  induction n with
  | zero =>
    intro N i hN hi
    obtain ⟨N, rfl⟩ : ∃ k, N = k + 1 := ⟨N - 1, by omega⟩
    unfold m_X4_readNumber_84
    rw [py_je (by omega) (by omega), if_pos (show b ≤ i by omega), pr_a h hn, py_b, List.drop_eq_nil_of_le (by omega), if_pos (pe_tk_zero ah _)]
    exact (pr_one hok hl h hg hn _ b (by omega) _ (Or.inl ⟨hs, rfl, ha⟩)).ret
  | succ n ih =>
    intro N i hN hi
    obtain ⟨N, rfl⟩ : ∃ k, N = k + 1 := ⟨N - 1, by omega⟩
    unfold m_X4_readNumber_84
    have hg2 : S 30 0 i = us.getD i 0 := by
      have := hli i (by omega)
      rw [Nat.zero_add] at this
      exact this
    have hd : us.drop i = us.getD i 0 :: us.drop (i + 1) := by
      rw [List.drop_eq_getElem_cons (by omega), List.getD_eq_getElem?_getD, List.getElem?_eq_getElem (by omega)]
      rfl
    rw [py_je (by omega) (by omega), if_neg (show ¬ b ≤ i by omega), pk_ahead h hg.2.1 i (by omega), py_b, py_atI _ _ _ _ _ (show i < 8 by omega), py_b, hg2, pe_tk_succ, hd]
    by_cases e : ah (pt_ln T + i) = us.getD i 0
    · rw [if_pos e, py_l, py_add1, e]
      have := ih N (i + 1) (by omega) (by omega)
      by_cases e2 : pe_tk ah (pt_ln T + i + 1) n = us.drop (i + 1)
      · rw [if_pos (show us.getD i 0 :: pe_tk ah (pt_ln T + i + 1) n = us.getD i 0 :: us.drop (i + 1) by rw [e2])]
        rw [if_pos (show pe_tk ah (pt_ln T + (i + 1)) n = us.drop (i + 1) from e2)] at this
        exact this
      · rw [if_neg (show ¬ us.getD i 0 :: pe_tk ah (pt_ln T + i + 1) n = us.getD i 0 :: us.drop (i + 1) from fun z => e2 (List.cons.inj z).2)]
        rw [if_neg (show ¬ pe_tk ah (pt_ln T + (i + 1)) n = us.drop (i + 1) from e2)] at this
        exact this
    · rw [if_neg e, if_neg (fun z => e (List.cons.inj z).1)]
      exact pr_no h
theorem pr_num {S : pw_S} {j f len p : Nat} {ah : Nat → Int32} {I : py_I} {l : List py_T} {T : py_T} (hok : pi_ok I) (hl : l.length < 407) (h : pr_ps S j f len p ah I l T) (hg : pt_gd I T) (hn : pt_it T < pi_n I) (hs : pi_hs (pi_k I (pt_it T))) (ha : pi_a I (pt_it T) < 8) (hb : 1 ≤ pi_b I (pt_it T)) (hb8 : pi_b I (pt_it T) ≤ 8) (hc : pi_c I (pt_it T) ≤ 8) :
    pr_rd py_KR S j f len p ah I l ((if pe_lay (pi_c I (pt_it T)) (pi_b I (pt_it T)) (pe_num (pe_tk ah (pt_ln T) (pi_b I (pt_it T))) 0) 0 [] = some (pe_tk ah (pt_ln T) (pi_b I (pt_it T))) then [(Int32.ofNat (pe_num (pe_tk ah (pt_ln T) (pi_b I (pt_it T))) 0), pi_b I (pt_it T))] else []).filterMap (pr_w I ah T)) T (m_X4_readNumber S 0) := by
  have hnum := pe_num_lt (pe_tk ah (pt_ln T) (pi_b I (pt_it T))) 0
  rw [pe_tk_len] at hnum
  have h10 : 10 ^ pi_b I (pt_it T) ≤ 10 ^ 8 := Nat.pow_le_pow_right (by omega) hb8
  unfold m_X4_readNumber
  rw [pr_b h hn, py_b, py_l, py_l, py_l]
  have h19 := fun k => pr_num_19 (j := j) (f := f) (len := len) (p := p) (ah := ah) (I := I) (l := l) hg.2.1 k (pi_b I (pt_it T)) hb8 S h (pi_b I (pt_it T)) (pw_F 20000) 0 0 (by rw [py_F]; omega) (by omega) (by omega)
  rw [show (0 : Int32) = Int32.ofNat 0 from rfl, h19, Nat.add_zero]
  generalize hv : pe_num (pe_tk ah (pt_ln T) (pi_b I (pt_it T))) 0 = v at hnum
  rw [pr_c h hn, py_b]
  obtain ⟨S1, a1, a2, a3⟩ := pk_lay S v (pi_b I (pt_it T)) (pi_c I (pt_it T)) 30 0 (by omega) hb hb8 hc rfl
  have hK : ∀ a i, Nat.beq a 30 = false → py_K1 30 0 a i = false := fun a i ha => by
    unfold py_K1
    rw [ha]
    rfl
  have he : pr_ef py_KR S S1 := pr_ef.of a2 (fun a b hab => by
    unfold py_K1 at hab
    unfold py_KR
    rw [Bool.and_eq_true_iff] at hab
    rw [hab.1, Bool.true_or, Bool.or_true]) rfl
  have h1 : pr_ps S1 j f len p ah I l T := h.cong a2 ⟨hK _ _ rfl, hK _ _ rfl, hK _ _ rfl, hK _ _ rfl, hK _ _ rfl⟩ rfl ⟨hK _ _ rfl, hK _ _ rfl⟩ (fun i _ _ => ⟨hK _ _ rfl, hK _ _ rfl, hK _ _ rfl⟩) (by omega)
  rw [a1, py_b]
  cases hlay : pe_lay (pi_c I (pt_it T)) (pi_b I (pt_it T)) v 0 [] with
  | none =>
    rw [if_neg (fun z => by cases z)]
    exact ⟨S1, rfl, he, by rw [List.filterMap_nil, List.append_nil]; exact h1⟩
  | some us =>
    obtain ⟨l1, l2⟩ := a3 us hlay
    rw [py_some, if_neg (show ¬ (1 : Int32) = Int32.ofNat 0 from py_10), py_l]
    have h84 := pr_num_84 hok hl hg hn hs ha (pi_b I (pt_it T)) hb8 (Int32.ofNat v) us l1 S1 h1 l2 (pi_b I (pt_it T)) (pw_F 20000) 0 (by rw [py_F]; omega) (by omega)
    rw [Nat.add_zero, List.drop_zero] at h84
    by_cases e : pe_tk ah (pt_ln T) (pi_b I (pt_it T)) = us
    · rw [if_pos e] at h84
      rw [if_pos (show some us = some (pe_tk ah (pt_ln T) (pi_b I (pt_it T))) by rw [e])]
      exact (h84.mono py_KN_R).pre he
    · rw [if_neg e] at h84
      rw [if_neg (show ¬ some us = some (pe_tk ah (pt_ln T) (pi_b I (pt_it T))) from fun z => e (Option.some.inj z).symm)]
      exact (h84.mono py_KN_R).pre he
