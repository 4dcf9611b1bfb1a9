/-! Bits of small numbers. -/
theorem py_and31 {w : Nat} (hw : w < 2147483648) : Int32.ofNat w &&& 31 = Int32.ofNat (w % 32) := by
  apply Int32.toBitVec.inj
  rw [Int32.toBitVec_and]
  apply BitVec.eq_of_toNat_eq
  rw [BitVec.toNat_and]
  show (w % 4294967296) &&& 31 = (w % 32) % 4294967296
  rw [Nat.mod_eq_of_lt (by omega), Nat.mod_eq_of_lt (by omega)]
  exact Nat.and_two_pow_sub_one_eq_mod w 5
theorem py_and1 {w : Nat} (hw : w < 2147483648) : Int32.ofNat w &&& 1 = Int32.ofNat (w % 2) := by
  apply Int32.toBitVec.inj
  rw [Int32.toBitVec_and]
  apply BitVec.eq_of_toNat_eq
  rw [BitVec.toNat_and]
  show (w % 4294967296) &&& 1 = (w % 2) % 4294967296
  rw [Nat.mod_eq_of_lt (by omega), Nat.mod_eq_of_lt (by omega)]
  exact Nat.and_two_pow_sub_one_eq_mod w 1
theorem py_shr5 {w : Nat} (hw : w < 2147483648) : ((Int32.ofNat w).toUInt32 >>> ((5).toUInt32 &&& Int32.toUInt32 31)).toInt32 = Int32.ofNat (w / 32) := by
  have e : Nat.toUInt32 5 = (5 : Int32).toUInt32 := rfl
  rw [e]
  exact pk_ushrN (n := w) (by omega) 5 5 (by decide)
theorem py_some {α : Type} (x : α) : (if (some x).isSome = true then (1 : Int32) else 0) = 1 := rfl
theorem py_s31 : ∀ i : Fin 32, ((Int32.ofNat i.val &&& 31).toBitVec.smod 32).toNat = i.val := by decide +kernel
theorem py_sar {w i : Nat} (hw : w < 2147483648) (hi : i < 32) : Int32.ofNat w >>> (Int32.ofNat i &&& 31) = Int32.ofNat (w / 2 ^ i) := pk_shrN (n := w) (by omega) _ i (py_s31 ⟨i, hi⟩)
theorem py_shl_all : ∀ b : Fin 31, (1 : Int32) <<< (Int32.ofNat b.val &&& 31) = Int32.ofNat (2 ^ b.val) := by decide +kernel
theorem py_shl1 {b : Nat} (hb : b < 31) : (1 : Int32) <<< (Int32.ofNat b &&& 31) = Int32.ofNat (2 ^ b) := py_shl_all ⟨b, hb⟩
theorem py_or {w x i : Nat} (hw : w < 2 ^ i) (hx : w + x * 2 ^ i < 2147483648) : Int32.ofNat w ||| Int32.ofNat (x * 2 ^ i) = Int32.ofNat (w + x * 2 ^ i) := by
  apply Int32.toBitVec.inj
  rw [Int32.toBitVec_or]
  apply BitVec.eq_of_toNat_eq
  rw [BitVec.toNat_or]
  show (w % 4294967296) ||| (x * 2 ^ i % 4294967296) = (w + x * 2 ^ i) % 4294967296
  rw [Nat.mod_eq_of_lt (by omega), Nat.mod_eq_of_lt (by omega), Nat.mod_eq_of_lt (by omega), Nat.or_comm, Nat.mul_comm x, ← Nat.two_pow_add_eq_or_of_lt hw, Nat.add_comm]
/-! Writing units. -/
def py_KW (a b : Nat) : Bool := py_KT 408 a b || Nat.beq a 28
def py_KP (a b : Nat) : Bool := py_KT 408 a b || (Nat.beq a 28 || Nat.beq a 29)
theorem py_KW_T : ∀ a b, py_KT 408 a b = true → py_KW a b = true := fun a b h => by unfold py_KW; rw [h]; rfl
theorem py_KW_P : ∀ a b, py_KW a b = true → py_KP a b = true := fun a b h => by
  unfold py_KW at h
  unfold py_KP
  cases h1 : py_KT 408 a b with
  | true => rfl
  | false =>
    rw [h1] at h
    rw [show Nat.beq a 28 = true from h]
    rfl
theorem py_KP_T : ∀ a b, py_KT 408 a b = true → py_KP a b = true := fun a b h => by unfold py_KP; rw [h]; rfl
theorem py_KP_1 : ∀ a b, py_K1 29 0 a b = true → py_KP a b = true := fun a b h => by
  unfold py_K1 at h
  unfold py_KP
  rw [Bool.and_eq_true_iff] at h
  rw [h.1, Bool.or_true, Bool.or_true]
/-- the printer stands with a trace, and with these units written -/
def pk_ps (S : pw_S) (T : py_T) (us : List Int32) : Prop := py_Rt S 408 T ∧ pt_gu T ∧ us.length = pt_ln T ∧ py_li (S 28 0) 0 us
/-- a program writes these units, if there is room -/
def pk_pa (K : Nat → Nat → Bool) (S : pw_S) (T : py_T) (us ws : List Int32) (m : pw_R Int32) : Prop :=
  (pt_ln T + ws.length ≤ 60 → ∃ S', m = some (S', 1) ∧ py_fr K S S' ∧ pk_ps S' (ws.foldl pt_app T) (us ++ ws)) ∧ (60 < pt_ln T + ws.length → ∃ S', m = some (S', 0) ∧ py_fr K S S')
theorem pk_pa.mono {K K' : Nat → Nat → Bool} {S : pw_S} {T : py_T} {us ws : List Int32} {m : pw_R Int32} (h : pk_pa K S T us ws m) (hK : ∀ a b, K a b = true → K' a b = true) : pk_pa K' S T us ws m := by
  refine ⟨fun hl => ?_, fun hl => ?_⟩
  · obtain ⟨S', h1, h2, h3⟩ := h.1 hl
    exact ⟨S', h1, h2.mono hK, h3⟩
  · obtain ⟨S', h1, h2⟩ := h.2 hl
    exact ⟨S', h1, h2.mono hK⟩
theorem pk_pa.pre {K : Nat → Nat → Bool} {S S1 : pw_S} {T : py_T} {us ws : List Int32} {m : pw_R Int32} (h : pk_pa K S1 T us ws m) (hf : py_fr K S S1) : pk_pa K S T us ws m := by
  refine ⟨fun hl => ?_, fun hl => ?_⟩
  · obtain ⟨S', h1, h2, h3⟩ := h.1 hl
    exact ⟨S', h1, hf.trans h2, h3⟩
  · obtain ⟨S', h1, h2⟩ := h.2 hl
    exact ⟨S', h1, hf.trans h2⟩
theorem pk_nil {K : Nat → Nat → Bool} {S : pw_S} {T : py_T} {us : List Int32} (h : pk_ps S T us) : pk_pa K S T us [] (some (S, 1)) := by
  refine ⟨fun _ => ⟨S, rfl, py_fr_r, ?_⟩, fun hl => ?_⟩
  · rw [List.append_nil]
    exact h
  · have h1 := h.2.1.1
    rw [List.length_nil] at hl
    omega
theorem pk_seq {K : Nat → Nat → Bool} {S : pw_S} {T : py_T} {us ws1 ws2 : List Int32} {m1 : pw_R Int32} {k : pw_S → Int32 → pw_R Int32} (h1 : pk_pa K S T us ws1 m1) (h2 : ∀ S', py_fr K S S' → pk_ps S' (ws1.foldl pt_app T) (us ++ ws1) → pk_pa K S' (ws1.foldl pt_app T) (us ++ ws1) ws2 (k S' 1)) (h0 : ∀ S', k S' 0 = some (S', 0)) : pk_pa K S T us (ws1 ++ ws2) (pw_b m1 k) := by
  have hlen := (pt_apps_same ws1 T).2.2.2.2.2.2
  refine ⟨fun hl => ?_, fun hl => ?_⟩
  · rw [List.length_append] at hl
    obtain ⟨S1, a1, a2, a3⟩ := h1.1 (by omega)
    obtain ⟨S2, b1, b2, b3⟩ := (h2 S1 a2 a3).1 (by omega)
    refine ⟨S2, by rw [a1, py_b, b1], a2.trans b2, ?_⟩
    rw [List.foldl_append, ← List.append_assoc]
    exact b3
  · rw [List.length_append] at hl
    by_cases hl1 : pt_ln T + ws1.length ≤ 60
    · obtain ⟨S1, a1, a2, a3⟩ := h1.1 hl1
      obtain ⟨S2, b1, b2⟩ := (h2 S1 a2 a3).2 (by omega)
      exact ⟨S2, by rw [a1, py_b, b1], a2.trans b2⟩
    · obtain ⟨S1, a1, a2⟩ := h1.2 (by omega)
      exact ⟨S1, by rw [a1, py_b, h0], a2⟩
theorem py_li.snoc {f : Nat → Int32} {p : Nat} {us : List Int32} (h : py_li f p us) (x : Int32) : py_li (upd f (p + us.length) x) p (us ++ [x]) := by
  intro k hk
  rw [List.length_append, List.length_singleton] at hk
  by_cases e : k = us.length
  · subst e
    rw [py_u_s, List.getD_eq_getElem?_getD, List.getElem?_append_right (Nat.le_refl _), Nat.sub_self]
    rfl
  · rw [py_u_n _ _ (by omega), h k (by omega), List.getD_eq_getElem?_getD, List.getD_eq_getElem?_getD, List.getElem?_append_left (by omega)]
theorem pk_write {S : pw_S} {T : py_T} {us : List Int32} (h : pk_ps S T us) (u : Int32) : pk_pa py_KW S T us [u] (m_X3_write S 0 u) := by
  obtain ⟨hT, hu, hlen, hli⟩ := h
  have h6 := hT.2.2.2.2.2.2.1
  have hle := hu.1
  unfold m_X3_write
  rw [h6, py_jn (by omega), py_jlR (l := 60) (by omega) (by omega)]
  refine ⟨fun hl => ?_, fun hl => ?_⟩
  · have hl : pt_ln T + 1 ≤ 60 := hl
    rw [if_pos (by omega), py_ct (py_inb (by omega) (by omega)), py_l, py_cl (by omega)]
    have hT1 : py_Rt (pw_up S 28 0 (upd (S 28 0) (pt_ln T) u)) 408 T := hT.cong (py_up_k _ _ rfl) (py_up_k _ _ rfl) (py_up_k _ _ rfl)
    obtain ⟨S2, a1, a2, a3⟩ := pk_app hT1 hu u
    rw [a1, py_b]
    refine ⟨S2, rfl, (py_fr_r.up (K := py_KW) rfl).trans (a2.mono py_KW_T), a3, hu.app u hl, ?_, ?_⟩
    · rw [List.length_append, hlen]
      exact (pt_app_same T u).2.2.2.2.2.2.symm
    · rw [a2 28 0 rfl, py_up_s, ← hlen, ← Nat.zero_add us.length]
      exact hli.snoc u
  · have hl : 60 < pt_ln T + 1 := hl
    rw [if_neg (by omega)]
    exact ⟨S, rfl, py_fr_r⟩
theorem pk_fills (u : Int32) (cnt : Nat) (hc : cnt < 100) : ∀ (n N j : Nat) (S : pw_S) (T : py_T) (us : List Int32), n < N → cnt = j + n → pk_ps S T us → pk_pa py_KW S T us (List.replicate n u) (m_X3_writeFills_2 N S 0 u (Int32.ofNat cnt) (Int32.ofNat j)) := by
  intro n
  induction n with
  | zero =>
    intro N j S T us hN hj h
    obtain ⟨N, rfl⟩ : ∃ k, N = k + 1 := ⟨N - 1, by omega⟩
    unfold m_X3_writeFills_2
    rw [py_je (by omega) (by omega), if_pos (by omega)]
    exact pk_nil h
  | succ n ih =>
    intro N j S T us hN hj h
    obtain ⟨N, rfl⟩ : ∃ k, N = k + 1 := ⟨N - 1, by omega⟩
    unfold m_X3_writeFills_2
    rw [py_je (by omega) (by omega), if_neg (by omega)]
    refine pk_seq (ws1 := [u]) (ws2 := List.replicate n u) (pk_write h u) (fun S' _ h' => ?_) (fun S' => rfl)
    rw [if_neg py_10, py_l, py_add1]
    exact ih N (j + 1) S' _ _ (by omega) (by omega) h'
theorem pk_writeFills {S : pw_S} {T : py_T} {us : List Int32} (h : pk_ps S T us) (u : Int32) {n : Nat} (hn : n < 100) : pk_pa py_KW S T us (List.replicate n u) (m_X3_writeFills S 0 u (Int32.ofNat n)) := by
  unfold m_X3_writeFills
  rw [py_l]
  exact pk_fills u n hn n (pw_F 20000) 0 S T us (by rw [py_F]; omega) (by omega) h
/-- units that lie in a row of numbers are written -/
theorem pk_num18 (ws : List Int32) (hw : ws.length ≤ 8) : ∀ (n N j : Nat) (S : pw_S) (T : py_T) (us : List Int32), n < N → ws.length = j + n → pk_ps S T us → py_li (S 29 0) 0 ws → pk_pa py_KW S T us (ws.drop j) (m_X3_writeNumber_18 N S 0 (Int32.ofNat ws.length) (Int32.ofNat j)) := by
  intro n
  induction n with
  | zero =>
    intro N j S T us hN hj h hli
    obtain ⟨N, rfl⟩ : ∃ k, N = k + 1 := ⟨N - 1, by omega⟩
    unfold m_X3_writeNumber_18
    rw [py_je (by omega) (by omega), if_pos (by omega), List.drop_eq_nil_of_le (by omega)]
    exact pk_nil h
  | succ n ih =>
    intro N j S T us hN hj h hli
    obtain ⟨N, rfl⟩ : ∃ k, N = k + 1 := ⟨N - 1, by omega⟩
    unfold m_X3_writeNumber_18
    have hg : S 29 0 j = ws.getD j 0 := by
      have := hli j (by omega)
      rw [Nat.zero_add] at this
      exact this
    rw [py_je (by omega) (by omega), if_neg (by omega), py_atI _ _ _ _ _ (show j < 8 by omega), py_b, hg]
    have hd : ws.drop j = [ws.getD j 0] ++ ws.drop (j + 1) := by
      rw [List.drop_eq_getElem_cons (by omega), List.getD_eq_getElem?_getD, List.getElem?_eq_getElem (by omega)]
      rfl
    rw [hd]
    refine pk_seq (pk_write h _) (fun S' hf h' => ?_) (fun S' => rfl)
    rw [if_neg py_10, py_l, py_add1]
    exact ih N (j + 1) S' _ _ (by omega) (by omega) h' (by rw [hf 29 0 rfl]; exact hli)
theorem pk_ps.frame {S S' : pw_S} {T : py_T} {us : List Int32} (h : pk_ps S T us) (hf : py_fr (py_K1 29 0) S S') : pk_ps S' T us := by
  obtain ⟨h1, h2, h3, h4⟩ := h
  exact ⟨h1.cong (hf 0 408 rfl) (hf 1 408 rfl) (hf 50 408 rfl), h2, h3, by rw [hf 28 0 rfl]; exact h4⟩
theorem pk_writeNumber {S : pw_S} {T : py_T} {us : List Int32} (h : pk_ps S T us) {w b c : Nat} (hw : w < 2147483648) (hb : 1 ≤ b) (hb8 : b ≤ 8) (hc : c ≤ 8) : (∀ ws, pe_lay c b w 0 [] = some ws → pk_pa py_KP S T us ws (m_X3_writeNumber S 0 (Int32.ofNat w) (Int32.ofNat b) (Int32.ofNat c))) ∧ (pe_lay c b w 0 [] = none → ∃ S', m_X3_writeNumber S 0 (Int32.ofNat w) (Int32.ofNat b) (Int32.ofNat c) = some (S', 0) ∧ py_fr py_KP S S') := by
  obtain ⟨S1, a1, a2, a3⟩ := pk_lay S w b c 29 0 hw hb hb8 hc rfl
  unfold m_X3_writeNumber
  rw [a1, py_b]
  refine ⟨fun ws hws => ?_, fun hn => ?_⟩
  · obtain ⟨l1, l2⟩ := a3 ws hws
    rw [hws, py_some, if_neg py_10, py_l]
    have := pk_num18 ws (by omega) b (pw_F 20000) 0 S1 T us (by rw [py_F]; omega) (by omega) (h.frame a2) l2
    rw [List.drop_zero, l1] at this
    exact (this.mono py_KW_P).pre (a2.mono py_KP_1)
  · rw [hn]
    exact ⟨S1, rfl, a2.mono py_KP_1⟩
/-! words -/
theorem pk_isWord_4 : ∀ (n N j w : Nat) (S : pw_S), n < N → 5 = j + n → w < 2147483648 → m_X11_isWord_4 N S (Int32.ofNat w) (Int32.ofNat j) = some (S, if (pe_lets n w).isSome then 1 else 0) := by
  intro n
  induction n with
  | zero =>
    intro N j w S hN hj hw
    obtain ⟨N, rfl⟩ : ∃ k, N = k + 1 := ⟨N - 1, by omega⟩
    unfold m_X11_isWord_4 pe_lets
    rw [py_jeL (l := 5) (by omega) (by omega), if_pos (by omega), py_jqR (l := 0) (by omega) hw]
    by_cases e : w = 0
    · rw [if_pos e, if_pos e]
      rfl
    · rw [if_neg e, if_neg e]
      rfl
  | succ n ih =>
    intro N j w S hN hj hw
    obtain ⟨N, rfl⟩ : ∃ k, N = k + 1 := ⟨N - 1, by omega⟩
    unfold m_X11_isWord_4 pe_lets
    rw [py_jeL (l := 5) (by omega) (by omega), if_neg (by omega), py_jqR (l := 0) (by omega) hw]
    by_cases e : w = 0
    · rw [if_pos e, if_pos e, py_jqR (l := 0) (by omega) hw, if_pos e]
      rfl
    · rw [if_neg e, if_neg e, py_and31 hw, py_btw, py_b]
      have hb : ((1 : Int32) ≤ Int32.ofNat (w % 32) ∧ Int32.ofNat (w % 32) ≤ 27) = (1 ≤ w % 32 ∧ w % 32 ≤ 27) := by
        rw [show (1 : Int32) = Int32.ofNat 1 from rfl, show (27 : Int32) = Int32.ofNat 27 from rfl, py_le (by omega) (by omega), py_le (by omega) (by omega)]
      rw [py_ic hb]
      by_cases hr : 1 ≤ w % 32 ∧ w % 32 ≤ 27
      · rw [if_pos hr, if_pos hr, if_neg py_10, py_l, py_l, py_shr5 hw, py_add1, ih N (j + 1) (w / 32) S (by omega) (by omega) (by omega)]
        cases pe_lets n (w / 32) <;> rfl
      · rw [if_neg hr, if_neg hr, if_pos rfl]
        rfl
theorem pk_isWord (S : pw_S) {w : Nat} (hw : w < 2147483648) : m_X11_isWord S (Int32.ofNat w) = some (S, if (pe_lets 5 w).isSome then 1 else 0) := by
  unfold m_X11_isWord
  rw [py_l, py_l]
  exact pk_isWord_4 5 (pw_F 20000) 0 w S (by rw [py_F]; omega) rfl hw
theorem pk_ul (S : pw_S) {l : Nat} (hl : l < 2147483648) : m_X11_unitsOfLetter S (Int32.ofNat l) = some (S, Int32.ofNat (pe_ul l)) := by
  unfold m_X11_unitsOfLetter pe_ul
  rw [py_jqR (l := 27) (by omega) hl]
  by_cases e : l = 27
  · rw [if_pos e, if_pos e]
    rfl
  · rw [if_neg e, if_neg e]
    rfl
theorem pk_uw_6 : ∀ (n N j w a : Nat) (ls : List Nat) (S : pw_S), n < N → 5 = j + n → w < 2147483648 → pe_lets n w = some ls → m_X11_unitsOfWord_6 N S (Int32.ofNat a) (Int32.ofNat w) (Int32.ofNat j) = some (S, Int32.ofNat (a + pe_us ls)) := by
  intro n
  induction n with
  | zero =>
    intro N j w a ls S hN hj hw h
    obtain ⟨N, rfl⟩ : ∃ k, N = k + 1 := ⟨N - 1, by omega⟩
    unfold m_X11_unitsOfWord_6
    unfold pe_lets at h
    split at h
    · obtain rfl := Option.some.inj h
      rw [py_jeL (l := 5) (by omega) (by omega), if_pos (by omega)]
      rfl
    · cases h
  | succ n ih =>
    intro N j w a ls S hN hj hw h
    obtain ⟨N, rfl⟩ : ∃ k, N = k + 1 := ⟨N - 1, by omega⟩
    unfold m_X11_unitsOfWord_6
    unfold pe_lets at h
    rw [py_jeL (l := 5) (by omega) (by omega), if_neg (by omega), py_jqR (l := 0) (by omega) hw]
    by_cases e : w = 0
    · rw [if_pos e] at h ⊢
      obtain rfl := Option.some.inj h
      rfl
    · rw [if_neg e] at h ⊢
      by_cases hr : 1 ≤ w % 32 ∧ w % 32 ≤ 27
      · rw [if_pos hr] at h
        cases hq : pe_lets n (w / 32) with
        | none => rw [hq] at h; cases h
        | some r =>
          rw [hq] at h
          obtain rfl := Option.some.inj h
          rw [py_and31 hw, pk_ul S (by omega), py_b, py_l, py_l, py_l, py_shr5 hw, py_add1, py_add, ih N (j + 1) (w / 32) (a + pe_ul (w % 32)) r S (by omega) (by omega) (by omega) hq]
          show some (S, Int32.ofNat (a + pe_ul (w % 32) + pe_us r)) = some (S, Int32.ofNat (a + pe_us (w % 32 :: r)))
          rw [pe_us_cons, Nat.add_assoc]
      · rw [if_neg hr] at h
        cases h
theorem pk_uw (S : pw_S) {w : Nat} (hw : w < 2147483648) {ls : List Nat} (h : pe_lets 5 w = some ls) : m_X11_unitsOfWord S (Int32.ofNat w) = some (S, Int32.ofNat (pe_us ls)) := by
  unfold m_X11_unitsOfWord
  rw [py_l, py_l, py_l]
  have := pk_uw_6 5 (pw_F 20000) 0 w 0 ls S (by rw [py_F]; omega) rfl hw h
  rw [Nat.zero_add] at this
  exact this
theorem pe_lets_len : ∀ (n w : Nat) (ls : List Nat), pe_lets n w = some ls → ls.length ≤ n := by
  intro n
  induction n with
  | zero =>
    intro w ls h
    unfold pe_lets at h
    split at h
    · rw [← Option.some.inj h]
      exact Nat.le_refl _
    · cases h
  | succ n ih =>
    intro w ls h
    unfold pe_lets at h
    split at h
    · rw [← Option.some.inj h]
      exact Nat.zero_le _
    · split at h
      · cases hq : pe_lets n (w / 32) with
        | none => rw [hq] at h; cases h
        | some r =>
          rw [hq] at h
          obtain rfl := Option.some.inj h
          show r.length + 1 ≤ n + 1
          have := ih _ _ hq
          omega
      · cases h
theorem pk_ww_22 : ∀ (n N j w : Nat) (ls : List Nat) (S : pw_S) (T : py_T) (us : List Int32), n < N → 5 = j + n → w < 2147483648 → pe_lets n w = some ls → pk_ps S T us → pk_pa py_KW S T us (pe_word ls) (m_X3_writeWord_22 N S 0 (Int32.ofNat w) (Int32.ofNat j)) := by
  intro n
  induction n with
  | zero =>
    intro N j w ls S T us hN hj hw h hp
    obtain ⟨N, rfl⟩ : ∃ k, N = k + 1 := ⟨N - 1, by omega⟩
    unfold m_X3_writeWord_22
    unfold pe_lets at h
    split at h
    · obtain rfl := Option.some.inj h
      rw [py_jeL (l := 5) (by omega) (by omega), if_pos (by omega)]
      exact pk_nil hp
    · cases h
  | succ n ih =>
    intro N j w ls S T us hN hj hw h hp
    obtain ⟨N, rfl⟩ : ∃ k, N = k + 1 := ⟨N - 1, by omega⟩
    unfold m_X3_writeWord_22
    unfold pe_lets at h
    rw [py_jeL (l := 5) (by omega) (by omega), if_neg (by omega), py_jqR (l := 0) (by omega) hw]
    by_cases e : w = 0
    · rw [if_pos e] at h ⊢
      obtain rfl := Option.some.inj h
      exact pk_nil hp
    · rw [if_neg e] at h ⊢
      by_cases hr : 1 ≤ w % 32 ∧ w % 32 ≤ 27
      · rw [if_pos hr] at h
        cases hq : pe_lets n (w / 32) with
        | none => rw [hq] at h; cases h
        | some r =>
          rw [hq] at h
          obtain rfl := Option.some.inj h
          show pk_pa py_KW S T us (pe_let (w % 32) ++ pe_word r) _
          rw [py_l, py_and31 hw, py_jqR (l := 27) (by omega) (by omega), py_shr5 hw, py_add1]
          unfold pe_let
          by_cases h27 : w % 32 = 27
          · rw [if_pos h27, if_pos h27]
            show pk_pa py_KW S T us ([55357] ++ ([56832] ++ pe_word r)) _
            refine pk_seq (pk_write hp _) (fun S' _ h' => ?_) (fun S' => rfl)
            rw [if_neg py_10]
            refine pk_seq (pk_write h' _) (fun S' _ h' => ?_) (fun S' => rfl)
            rw [if_neg py_10, py_l, if_neg py_10, py_l, py_l]
            exact ih N (j + 1) (w / 32) r S' _ _ (by omega) (by omega) (by omega) hq h'
          · rw [if_neg h27, if_neg h27]
            have hu : (97 + Int32.ofNat (w % 32)) - 1 = Int32.ofNat (96 + w % 32) := by
              rw [show (97 : Int32) + Int32.ofNat (w % 32) = Int32.ofNat (97 + w % 32) from py_add 97 _, show Int32.ofNat (97 + w % 32) - 1 = Int32.ofNat (97 + w % 32 - 1) from py_sub (b := 1) (by omega)]
              congr 1
              omega
            rw [hu]
            refine pk_seq (pk_write hp _) (fun S' _ h' => ?_) (fun S' => rfl)
            rw [py_l, if_neg py_10, py_l, py_l]
            exact ih N (j + 1) (w / 32) r S' _ _ (by omega) (by omega) (by omega) hq h'
      · rw [if_neg hr] at h
        cases h
theorem pk_writeWord {S : pw_S} {T : py_T} {us : List Int32} (h : pk_ps S T us) {w b : Nat} (hw : w < 2147483648) (hb : b < 2147483648) : (∀ ls, pe_lets 5 w = some ls → pe_us ls ≤ b → pk_pa py_KW S T us (pe_word ls) (m_X3_writeWord S 0 (Int32.ofNat w) (Int32.ofNat b))) ∧ ((∀ ls, pe_lets 5 w = some ls → b < pe_us ls) → m_X3_writeWord S 0 (Int32.ofNat w) (Int32.ofNat b) = some (S, 0)) := by
  unfold m_X3_writeWord
  rw [pk_isWord S hw, py_b]
  refine ⟨fun ls hls hle => ?_, fun hn => ?_⟩
  · have h5 := pe_lets_len 5 w ls hls
    have hu := pe_us_le ls
    rw [hls, py_some, if_neg py_10, pk_uw S hw hls, py_b, py_je (by omega) hb, if_pos hle, py_l, py_l]
    exact pk_ww_22 5 (pw_F 20000) 0 w ls S T us (by rw [py_F]; omega) rfl hw hls h
  · cases hls : pe_lets 5 w with
    | none => rfl
    | some ls =>
      have h5 := pe_lets_len 5 w ls hls
      have hu := pe_us_le ls
      have hn := hn ls hls
      rw [py_some, if_neg py_10, pk_uw S hw hls, py_b, py_je (by omega) hb, if_neg (by omega)]
/-! bits and places -/
theorem pk_bits_15 (b w : Nat) (hb : b ≤ 8) (hw : w < 2147483648) : ∀ (n N j : Nat) (S : pw_S) (T : py_T) (us : List Int32), n < N → b = j + n → pk_ps S T us → pk_pa py_KW S T us ((pe_bits b w).drop j) (m_X3_writeBits_15 N S 0 (Int32.ofNat w) (Int32.ofNat b) (Int32.ofNat j)) := by
  have hlen : (pe_bits b w).length = b := by
    unfold pe_bits
    rw [List.length_map, List.length_range]
  intro n
  induction n with
  | zero =>
    intro N j S T us hN hj h
    obtain ⟨N, rfl⟩ : ∃ k, N = k + 1 := ⟨N - 1, by omega⟩
    unfold m_X3_writeBits_15
    rw [py_je (by omega) (by omega), if_pos (by omega), List.drop_eq_nil_of_le (by omega)]
    exact pk_nil h
  | succ n ih =>
    intro N j S T us hN hj h
    obtain ⟨N, rfl⟩ : ∃ k, N = k + 1 := ⟨N - 1, by omega⟩
    unfold m_X3_writeBits_15
    have hwd : w / 2 ^ j < 2147483648 := Nat.lt_of_le_of_lt (Nat.div_le_self _ _) hw
    have hd : (pe_bits b w).drop j = [if w / 2 ^ j % 2 = 1 then 120 else 45] ++ (pe_bits b w).drop (j + 1) := by
      rw [List.drop_eq_getElem_cons (by omega)]
      unfold pe_bits
      rw [List.getElem_map, List.getElem_range]
      rfl
    rw [py_je (by omega) (by omega), if_neg (by omega), py_sar hw (by omega), py_and1 hwd, py_jqR (l := 1) (by omega) (by omega), hd, py_add1]
    by_cases e : w / 2 ^ j % 2 = 1
    · rw [if_pos e, if_pos e]
      refine pk_seq (pk_write h _) (fun S' _ h' => ?_) (fun S' => rfl)
      rw [if_neg py_10, py_l]
      exact ih N (j + 1) S' _ _ (by omega) (by omega) h'
    · rw [if_neg e, if_neg e]
      refine pk_seq (pk_write h _) (fun S' _ h' => ?_) (fun S' => rfl)
      rw [if_neg py_10, py_l]
      exact ih N (j + 1) S' _ _ (by omega) (by omega) h'
theorem pk_writeBits {S : pw_S} {T : py_T} {us : List Int32} (h : pk_ps S T us) {w b : Nat} (hw : w < 2147483648) (hb : b ≤ 8) : (w < 2 ^ b → pk_pa py_KW S T us (pe_bits b w) (m_X3_writeBits S 0 (Int32.ofNat w) (Int32.ofNat b))) ∧ (¬ w < 2 ^ b → m_X3_writeBits S 0 (Int32.ofNat w) (Int32.ofNat b) = some (S, 0)) := by
  have hp : 2 ^ b ≤ 2 ^ 8 := Nat.pow_le_pow_right (by omega) hb
  unfold m_X3_writeBits
  rw [py_jn hw, py_shl1 (by omega), py_jl hw (by omega)]
  refine ⟨fun hlt => ?_, fun hlt => ?_⟩
  · rw [if_pos hlt, py_l]
    exact pk_bits_15 b w hb hw b (pw_F 20000) 0 S T us (by rw [py_F]; omega) (by omega) h
  · rw [if_neg hlt]
theorem pk_writePlace {S : pw_S} {T : py_T} {us : List Int32} (h : pk_ps S T us) {w : Nat} (hw : w ≤ 99) : pk_pa py_KW S T us [Int32.ofNat (48 + w / 10), Int32.ofNat (48 + w % 10)] (m_X3_writePlace S 0 (Int32.ofNat w)) := by
  unfold m_X3_writePlace
  rw [py_btw, py_b, if_pos (show (0 : Int32) ≤ Int32.ofNat w ∧ Int32.ofNat w ≤ 99 from py_in (l := 0) (h := 99) (by omega) hw (by omega)), if_neg py_10]
  have h1 : (48 : Int32) + Int32.ofNat w / 10 = Int32.ofNat (48 + w / 10) := by
    rw [show Int32.ofNat w / 10 = Int32.ofNat (w / 10) from py_div (b := 10) (by omega) (by omega)]
    exact py_add 48 _
  have h2 : (48 : Int32) + (Int32.ofNat w - Int32.ofNat w / 10 * 10) = Int32.ofNat (48 + w % 10) := by
    rw [show Int32.ofNat w - Int32.ofNat w / 10 * 10 = Int32.ofNat (w % 10) from py_mod (b := 10) (by omega) (by omega)]
    exact py_add 48 _
  rw [h1, h2]
  show pk_pa py_KW S T us ([Int32.ofNat (48 + w / 10)] ++ ([Int32.ofNat (48 + w % 10)] ++ [])) _
  refine pk_seq (pk_write h _) (fun S' _ h' => ?_) (fun S' => rfl)
  rw [if_neg py_10]
  refine pk_seq (pk_write h' _) (fun S' _ h' => ?_) (fun S' => rfl)
  rw [if_neg py_10]
  exact pk_nil h'
