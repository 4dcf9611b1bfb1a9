/-! A record is printed, item by item. -/
theorem py_KP_k {a i : Nat} (h : py_KP a i = false) : py_KW a i = false ∧ py_KT 408 a i = false := by
  unfold py_KP at h
  unfold py_KW
  rw [Bool.or_eq_false_iff, Bool.or_eq_false_iff] at h
  rw [h.1, h.2.1]
  exact ⟨rfl, rfl⟩
theorem py_fr.RiP {j : Nat} {S S' : pw_S} {I : py_I} (h : py_fr py_KP S S') (hI : py_Ri S j I) : py_Ri S' j I := hI.cong (h 51 j rfl) (h 2 j rfl) (h 3 j rfl) (h 4 j rfl) (h 5 j rfl)
theorem pk_ps.len {S : pw_S} {T : py_T} {us : List Int32} (h : pk_ps S T us) : pt_ln T ≤ 60 := h.2.1.1
theorem pk_ps.kb {S : pw_S} {T : py_T} {us : List Int32} {I : py_I} (h : pk_ps S T us) (hs : pi_hs (pi_k I (pt_it T))) (ha : pi_a I (pt_it T) < 8) (hr : pt_rd T < 3) (x : Int32) : ∃ S1 S2, m_X8_begin S 408 (Int32.ofNat (pi_a I (pt_it T))) = some (S1, ()) ∧ m_X8_keep S1 408 (Int32.ofNat (pi_a I (pt_it T))) x = some (S2, ()) ∧ py_fr (py_KT 408) S S2 ∧ pk_ps S2 (pt_kb I T x) us := by
  obtain ⟨h1, h2, h3, h4⟩ := h
  obtain ⟨S1, a1, a2, a3⟩ := pk_beg h1 ha
  have hb := pt_beg_same T (pi_a I (pt_it T))
  obtain ⟨S2, b1, b2, b3⟩ := pk_keep a3 ha (by rw [hb.2.2.2.2.1]; exact hr) x
  have hk := pt_kb_same I T x
  refine ⟨S1, S2, a1, b1, a2.trans b2, ?_, h2.kb x, by rw [hk.2.2.2.2.2.1]; exact h3, ?_⟩
  · unfold pt_kb
    rw [if_pos hs]
    exact b3
  · rw [b2 28 0 rfl, a2 28 0 rfl]
    exact h4
theorem py_c01 (r : Int32) (S : pw_S) (h : r = 0 ∨ r = 1) : (pw_c (decide (r = 0) || decide (r = 1)) <| some (S, r)) = (some (S, r) : pw_R Int32) := by
  rcases h with rfl | rfl <;> rfl
theorem pk_pa.ret {K : Nat → Nat → Bool} {S : pw_S} {T : py_T} {us ws : List Int32} {m : pw_R Int32} (h : pk_pa K S T us ws m) : pk_pa K S T us ws (pw_b m fun S r => pw_c (decide (r = 0) || decide (r = 1)) <| some (S, r)) := by
  refine ⟨fun hl => ?_, fun hl => ?_⟩
  · obtain ⟨S', h1, h2, h3⟩ := h.1 hl
    exact ⟨S', by rw [h1]; rfl, h2, h3⟩
  · obtain ⟨S', h1, h2⟩ := h.2 hl
    exact ⟨S', by rw [h1]; rfl, h2⟩
/-- what a program that prints an item does -/
def pk_pi (S : pw_S) (I : py_I) (T : py_T) (us : List Int32) (x : Int32) (m : pw_R Int32) : Prop := (pe_enc I T x = none → ∃ S', m = some (S', 0) ∧ py_fr py_KP S S') ∧ ∀ ws, pe_enc I T x = some ws → pk_pa py_KP S (pt_kb I T x) us ws m
theorem pk_printSlot {S : pw_S} {j : Nat} {I : py_I} {T : py_T} {us : List Int32} {a2 i2 : Nat} (hI : py_Ri S j I) (hR : pi_rg I) (h : pk_ps S T us) (hn : pt_it T < pi_n I) (hs : pi_hs (pi_k I (pt_it T))) (ha : pi_a I (pt_it T) < 8) (hr : pt_rd T < 3) (h24 : pw_len a2 = 24) (hx : S a2 i2 (pi_a I (pt_it T) * 3 + pt_rd T) = -2147483648 ∨ ∃ w, w < 2147483648 ∧ S a2 i2 (pi_a I (pt_it T) * 3 + pt_rd T) = Int32.ofNat w) : pk_pi S I T us (S a2 i2 (pi_a I (pt_it T) * 3 + pt_rd T)) (m_X3_printSlot S 0 j a2 i2) := by
  have hit := h.1.2.2.1
  have hrd := h.1.2.2.2.2.2.1
  unfold m_X3_printSlot
  rw [hit, pk_a hI hn, py_b, py_l, hrd, py_cp, py_b, py_atI _ _ _ _ _ (show pi_a I (pt_it T) * 3 + pt_rd T < pw_len a2 by rw [h24]; omega), py_b, py_l]
  generalize hxx : S a2 i2 (pi_a I (pt_it T) * 3 + pt_rd T) = x at hx
  rcases hx with rfl | ⟨w, hw, rfl⟩
  · rw [if_pos rfl]
    have he : pe_enc I T (-2147483648) = none := by
      unfold pe_enc
      have hneg : (-2147483648 : Int32) < 0 := by decide
      rcases hs with hs | hs
      · have e : pi_k I (pt_it T) = 0 ∨ pi_k I (pt_it T) = 1 ∨ pi_k I (pt_it T) = 2 ∨ pi_k I (pt_it T) = 3 := by omega
        rcases e with e | e | e | e <;> rw [e] <;> rfl
      · rw [hs]
        rfl
    exact ⟨fun _ => ⟨S, rfl, py_fr_r⟩, fun ws hws => by rw [he] at hws; cases hws⟩
  · have hne : ¬ Int32.ofNat w = -2147483648 := by
      intro z
      have z2 := congrArg Int32.toInt z
      rw [py_ti hw] at z2
      have z3 : (-2147483648 : Int32).toInt = -2147483648 := rfl
      omega
    obtain ⟨S1, S2, b1, b2, b3, b4⟩ := h.kb (I := I) hs ha hr (Int32.ofNat w)
    have hI2 := b3.Ri hI
    have hit2 : S2 50 408 2 = Int32.ofNat (pt_it T) := by
      rw [b4.1.2.2.1, (pt_kb_same I T (Int32.ofNat w)).2.1]
    rw [if_neg hne, b1, py_b, b2, py_b]
    simp only [hit2]
    rw [pk_b hI2 hn, py_b, py_l]
    simp only [hit2]
    rw [pk_c hI2 hn, py_b, py_l]
    simp only [hit2]
    rw [pk_kind hI2 hn, py_b]
    obtain ⟨r0, r1, r2, r3, r5, r8⟩ := hR _ hn
    have hp : ∀ (ws : List Int32) (m : pw_R Int32), pk_pa py_KP S2 (pt_kb I T (Int32.ofNat w)) us ws m → pk_pa py_KP S (pt_kb I T (Int32.ofNat w)) us ws m := fun ws m hm => hm.pre (b3.mono py_KP_T)
    have hf : ∀ (m : pw_R Int32), (∃ S', m = some (S', 0) ∧ py_fr py_KP S2 S') → ∃ S', m = some (S', 0) ∧ py_fr py_KP S S' := fun m ⟨S', m1, m2⟩ => ⟨S', m1, (b3.mono py_KP_T).trans m2⟩
    have hcl := py_cl hw
    unfold pk_pi pe_enc
    by_cases k0 : pi_k I (pt_it T) = 0
    · obtain ⟨a1, a2, a3⟩ := r0 k0
      rw [if_pos k0, py_jn hw, hcl]
      rw [k0, if_pos (show (Int32.ofNat 0).toInt = 0 by decide)]
      obtain ⟨w1, w2⟩ := pk_writeNumber b4 hw a1 a2 a3
      refine ⟨fun hh => ?_, fun ws hh => hp ws _ (w1 ws hh).ret⟩
      obtain ⟨S', m1, m2⟩ := w2 hh
      exact hf _ ⟨S', by rw [m1]; rfl, m2⟩
    by_cases k1 : pi_k I (pt_it T) = 1
    · obtain ⟨a1, a2, a3⟩ := r1 k1
      rw [if_neg k0, if_pos k1, py_jn hw, hcl]
      rw [k1, if_neg (show ¬ (Int32.ofNat 1).toInt = 0 by decide), if_pos (show (Int32.ofNat 1).toInt = (0 + 1) by decide)]
      obtain ⟨w1, w2⟩ := pk_writeWord b4 (b := pi_b I (pt_it T)) hw (by omega)
      cases hls : pe_lets 5 w with
      | none =>
        dsimp only
        refine ⟨fun _ => hf _ ⟨S2, ?_, py_fr_r⟩, fun ws hh => by cases hh⟩
        rw [w2 (fun ls z => by rw [hls] at z; cases z)]
        rfl
      | some ls =>
        dsimp only
        rw [pe_word_len]
        by_cases hle : pe_us ls ≤ pi_b I (pt_it T)
        · rw [if_pos hle]
          refine ⟨fun z => (by cases z), fun ws hh => hp ws _ ?_⟩
          obtain rfl := Option.some.inj hh
          refine pk_seq ((w1 ls hls hle).mono py_KW_P) (fun S3 hf3 h3 => ?_) (fun S' => rfl)
          have hwf : m_X11_fillOfWord S3 (Int32.ofNat (pi_c I (pt_it T))) = some (S3, pe_wf (pi_c I (pt_it T))) := by
            unfold m_X11_fillOfWord pe_wf
            rw [py_jqR (l := 0) (by omega) (by omega), py_jqR (l := 1) (by omega) (by omega)]
            by_cases c0 : pi_c I (pt_it T) = 0
            · rw [if_pos c0, if_pos c0]
            · rw [if_neg c0, if_neg c0]
              by_cases c1 : pi_c I (pt_it T) = 1
              · rw [if_pos c1, if_pos c1]
              · rw [if_neg c1, if_neg c1]
          rw [if_neg py_10, hwf, py_b, pk_uw S3 hw hls, py_b, py_sub hle]
          rw [← List.append_nil (List.replicate _ _)]
          refine pk_seq ((pk_writeFills h3 _ (by omega)).mono py_KW_P) (fun S4 _ h4 => ?_) (fun S' => rfl)
          rw [if_neg py_10]
          exact pk_nil h4
        · rw [if_neg hle]
          refine ⟨fun _ => hf _ ⟨S2, ?_, py_fr_r⟩, fun ws hh => by cases hh⟩
          rw [w2 (fun ls' z => by rw [hls] at z; rw [← Option.some.inj z]; omega)]
          rfl
    by_cases k2 : pi_k I (pt_it T) = 2
    · rw [if_neg k0, if_neg k1, if_pos k2, py_jn hw, hcl]
      rw [k2, if_neg (show ¬ (Int32.ofNat 2).toInt = 0 by decide), if_neg (show ¬ (Int32.ofNat 2).toInt = (0 + 1) by decide), if_pos (show (Int32.ofNat 2).toInt = ((0 + 1) + 1) by decide)]
      obtain ⟨w1, w2⟩ := pk_writeWord b4 (b := 60) hw (by omega)
      cases hls : pe_lets 5 w with
      | none =>
        dsimp only
        refine ⟨fun _ => hf _ ⟨S2, ?_, py_fr_r⟩, fun ws hh => by cases hh⟩
        rw [show m_X3_writeWord S2 0 (Int32.ofNat w) 60 = some (S2, 0) from w2 (fun ls z => by rw [hls] at z; cases z)]
        rfl
      | some ls =>
        dsimp only
        have h5 := pe_lets_len 5 w ls hls
        have hu := pe_us_le ls
        refine ⟨fun z => (by cases z), fun ws hh => hp ws _ ?_⟩
        obtain rfl := Option.some.inj hh
        refine pk_seq ((w1 ls hls (by omega)).mono py_KW_P) (fun S3 hf3 h3 => ?_) (fun S' => rfl)
        rw [if_neg py_10]
        show pk_pa py_KP S3 _ _ ([Int32.ofNat (pi_b I (pt_it T))] ++ []) _
        refine pk_seq ((pk_write h3 _).mono py_KW_P) (fun S4 _ h4 => ?_) (fun S' => rfl)
        rw [if_neg py_10]
        exact pk_nil h4
    by_cases k3 : pi_k I (pt_it T) = 3
    · obtain ⟨a1, a2⟩ := r3 k3
      rw [if_neg k0, if_neg k1, if_neg k2, if_pos k3, py_jn hw, hcl]
      rw [k3, if_neg (show ¬ (Int32.ofNat 3).toInt = 0 by decide), if_neg (show ¬ (Int32.ofNat 3).toInt = (0 + 1) by decide), if_neg (show ¬ (Int32.ofNat 3).toInt = ((0 + 1) + 1) by decide), if_pos (show (Int32.ofNat 3).toInt = (((0 + 1) + 1) + 1) by decide)]
      obtain ⟨w1, w2⟩ := pk_writeBits b4 (b := pi_b I (pt_it T)) hw (by omega)
      by_cases hlt : w < 2 ^ pi_b I (pt_it T)
      · rw [if_pos hlt]
        refine ⟨fun z => (by cases z), fun ws hh => hp ws _ ?_⟩
        obtain rfl := Option.some.inj hh
        exact ((w1 hlt).mono py_KW_P).ret
      · rw [if_neg hlt]
        refine ⟨fun _ => hf _ ⟨S2, ?_, py_fr_r⟩, fun ws hh => by cases hh⟩
        rw [w2 hlt]
        rfl
    by_cases k6 : pi_k I (pt_it T) = 6
    · rw [if_neg k0, if_neg k1, if_neg k2, if_neg k3, if_pos k6, py_jn hw, hcl]
      rw [k6, if_neg (show ¬ (Int32.ofNat 6).toInt = 0 by decide), if_neg (show ¬ (Int32.ofNat 6).toInt = (0 + 1) by decide), if_neg (show ¬ (Int32.ofNat 6).toInt = ((0 + 1) + 1) by decide), if_neg (show ¬ (Int32.ofNat 6).toInt = (((0 + 1) + 1) + 1) by decide), if_neg (show ¬ (Int32.ofNat 6).toInt = ((((0 + 1) + 1) + 1) + 1) by decide), if_neg (show ¬ (Int32.ofNat 6).toInt = (((((0 + 1) + 1) + 1) + 1) + 1) by decide), if_pos (show (Int32.ofNat 6).toInt = ((((((0 + 1) + 1) + 1) + 1) + 1) + 1) by decide), py_btw, py_b]
      by_cases hle : w ≤ 3
      · rw [if_pos (show (0 : Int32) ≤ Int32.ofNat w ∧ Int32.ofNat w ≤ 3 from py_in (l := 0) (h := 3) (by omega) hle (by omega)), if_pos hle, if_neg py_10, show (48 : Int32) + Int32.ofNat w = Int32.ofNat (48 + w) from py_add 48 w]
        refine ⟨fun z => (by cases z), fun ws hh => hp ws _ ?_⟩
        obtain rfl := Option.some.inj hh
        show pk_pa py_KP S2 _ _ ([Int32.ofNat (48 + w)] ++ []) _
        refine pk_seq ((pk_write b4 _).mono py_KW_P) (fun S4 _ h4 => ?_) (fun S' => rfl)
        rw [if_neg py_10]
        exact pk_nil h4
      · rw [if_neg (show ¬ ((0 : Int32) ≤ Int32.ofNat w ∧ Int32.ofNat w ≤ 3) from fun z => hle (by
          have z2 := z.2
          rw [show (3 : Int32) = Int32.ofNat 3 from rfl, py_le hw (by omega)] at z2
          exact z2)), if_neg hle, if_pos rfl]
        exact ⟨fun _ => hf _ ⟨S2, rfl, py_fr_r⟩, fun ws hh => by cases hh⟩
    · exact absurd hs (fun z => by rcases z with z | z <;> omega)
theorem pk_printSign {S : pw_S} {j : Nat} {I : py_I} {T : py_T} {us : List Int32} (hI : py_Ri S j I) (hK : ∀ k, k < pi_n I → pi_k I k ≠ 4 → pi_k I k ≠ 5 → pi_a I k < 8) (h : pk_ps S T us) (hn : pt_it T < pi_n I) (hs : ¬ pi_hs (pi_k I (pt_it T))) (h7 : ¬ (pi_k I (pt_it T) = 7 ∨ pi_k I (pt_it T) = 8)) (x : Int32) : pk_pi S I T us x (m_X3_printSign S 0 j) := by
  have hit := h.1.2.2.1
  have h9 := (hI.2.2 _ hn).2.2.2.2.1
  have hsm := h.1.2.2.2.2.2.2.2.2
  obtain ⟨u1, u2, u3, u4⟩ := h.2.1
  have hkb : pt_kb I T x = T := if_neg hs
  have k0 : pi_k I (pt_it T) ≠ 0 := fun z => hs (Or.inl (by omega))
  have k1 : pi_k I (pt_it T) ≠ 1 := fun z => hs (Or.inl (by omega))
  have k2 : pi_k I (pt_it T) ≠ 2 := fun z => hs (Or.inl (by omega))
  have k3 : pi_k I (pt_it T) ≠ 3 := fun z => hs (Or.inl (by omega))
  have k6 : pi_k I (pt_it T) ≠ 6 := fun z => hs (Or.inr z)
  unfold m_X3_printSign
  simp only [hit]
  rw [pk_a hI hn, py_b, py_l]
  simp only [hit]
  rw [pk_kind hI hn, py_b]
  unfold pk_pi
  rw [hkb]
  unfold pe_enc
  rw [if_neg k0, if_neg k1, if_neg k2, if_neg k3, if_neg k6]
  by_cases k4 : pi_k I (pt_it T) = 4
  · rw [if_pos k4, k4, if_pos (show (Int32.ofNat 4).toInt = 4 by decide)]
    refine ⟨fun z => (by cases z), fun ws hh => ?_⟩
    obtain rfl := Option.some.inj hh
    unfold m_X8_checkDigit
    rw [hsm, show Int32.ofNat (pt_sm T) - Int32.ofNat (pt_sm T) / 10 * 10 = Int32.ofNat (pt_sm T % 10) from py_mod (b := 10) (by omega) (by omega), py_b, show (48 : Int32) + Int32.ofNat (pt_sm T % 10) = Int32.ofNat (48 + pt_sm T % 10) from py_add 48 _]
    exact ((pk_write h _).mono py_KW_P).ret
  by_cases k5 : pi_k I (pt_it T) = 5
  · rw [if_neg k4, if_pos k5, k5, if_neg (show ¬ (Int32.ofNat 5).toInt = 4 by decide), if_pos (show (Int32.ofNat 5).toInt = 5 by decide)]
    refine ⟨fun z => (by cases z), fun ws hh => ?_⟩
    obtain rfl := Option.some.inj hh
    exact ((pk_write h _).mono py_KW_P).ret
  have k9 : pi_k I (pt_it T) = 9 := by omega
  have ha := hK _ hn k4 k5
  rw [if_neg k4, if_neg k5, if_pos k9, k9, if_neg (show ¬ (Int32.ofNat 9).toInt = 4 by decide), if_neg (show ¬ (Int32.ofNat 9).toInt = 5 by decide), if_pos (show (Int32.ofNat 9).toInt = 9 by decide), pk_start h.1 ha, py_b]
  rcases u4 (pi_a I (pt_it T)) with e | ⟨w, hw, e⟩
  · rw [e, if_pos (by decide)]
    exact ⟨fun _ => ⟨S, rfl, py_fr_r⟩, fun ws hh => by cases hh⟩
  · rw [e, py_jn (by omega), py_cl (by omega), if_pos (by omega)]
    refine ⟨fun z => (by cases z), fun ws hh => ?_⟩
    obtain rfl := Option.some.inj hh
    exact ((pk_writePlace h (by omega)).mono py_KW_P).ret
/-- the record that lies in a row of numbers -/
def py_rec (S : pw_S) (a i : Nat) : Nat → Int32 := fun k => if k < 24 then S a i k else -2147483648
theorem pk_can_9 {j : Nat} {I : py_I} {a2 i2 : Nat} (hok : pi_ok I) (hR : pi_rg I) (h24 : pw_len a2 = 24) (hKP : py_KP a2 i2 = false) : ∀ (n N : Nat) (S : pw_S) (T : py_T) (us : List Int32), n < N → n ≤ 200 → py_Ri S j I → pk_ps S T us → pt_pos I T → (∀ c, c < 24 → S a2 i2 c = -2147483648 ∨ ∃ w, w < 2147483648 ∧ S a2 i2 c = Int32.ofNat w) →
    (ps_run I (py_rec S a2 i2) n T = none → ∃ S', m_X3_canPrint_9 N S 0 j a2 i2 (Int32.ofNat (200 - n)) = some (S', 0) ∧ py_fr py_KP S S') ∧ (∀ y, ps_run I (py_rec S a2 i2) n T = some y → ∃ S', m_X3_canPrint_9 N S 0 j a2 i2 (Int32.ofNat (200 - n)) = some (S', 1) ∧ py_fr py_KP S S' ∧ pk_ps S' y.2 (us ++ y.1)) := by
  intro n
  have fin : ∀ (S : pw_S) (T : py_T) (us : List Int32), py_Ri S j I → pk_ps S T us → pt_pos I T → pi_n I ≤ pt_it T → (pw_b (m_X8_isOver S 408 j) fun S1 r4 => pw_c (decide (r4 = 0) || decide (r4 = 1)) <| some (S1, r4)) = some (S, 1) := fun S T us hI h hp hn => by
    have h6 := hok.1.2.1
    rw [pk_over hI h.1 (by have := hp.1; omega), if_pos hn]
    rfl
  induction n with
  | zero =>
    intro N S T us hN _ hI h hp hx
    obtain ⟨N, rfl⟩ : ∃ k, N = k + 1 := ⟨N - 1, by omega⟩
    have h6 := hok.1.2.1
    unfold m_X3_canPrint_9 ps_run
    rw [py_jeL (l := 200) (by omega) (by omega), if_pos (show 200 ≤ 200 - 0 by omega)]
    by_cases hn : pi_n I ≤ pt_it T
    · rw [if_pos hn, fin S T us hI h hp hn]
      refine ⟨fun z => (by cases z), fun y hy => ?_⟩
      obtain rfl := Option.some.inj hy
      exact ⟨S, rfl, py_fr_r, by rw [List.append_nil]; exact h⟩
    · rw [if_neg hn, pk_over hI h.1 (by have := hp.1; omega), if_neg hn]
      exact ⟨fun _ => ⟨S, rfl, py_fr_r⟩, fun y hy => by cases hy⟩
  | succ n ih =>
    intro N S T us hN hn200 hI h hp hx
    obtain ⟨N, rfl⟩ : ∃ k, N = k + 1 := ⟨N - 1, by omega⟩
    have h6 := hok.1.2.1
    have hpit := hp.1
    unfold m_X3_canPrint_9 ps_run
    rw [py_jeL (l := 200) (by omega) (by omega), if_neg (show ¬ 200 ≤ 200 - (n + 1) by omega)]
    by_cases hn : pi_n I ≤ pt_it T
    · rw [if_pos hn]
      have hov := pk_over hI h.1 (show pt_it T ≤ 14 by omega)
      rw [if_pos hn] at hov
      rw [hov, py_b, if_neg py_10, fin S T us hI h hp hn]
      refine ⟨fun z => (by cases z), fun y hy => ?_⟩
      obtain rfl := Option.some.inj hy
      exact ⟨S, rfl, py_fr_r, by rw [List.append_nil]; exact h⟩
    · have hn' : pt_it T < pi_n I := by omega
      have hit := h.1.2.2.1
      have hov := pk_over hI h.1 (show pt_it T ≤ 14 by omega)
      rw [if_neg hn] at hov
      rw [if_neg hn, hov, py_b, if_pos rfl]
      simp only [hit]
      rw [pk_em hI hn', py_b]
      have hadd : Int32.ofNat (200 - (n + 1)) + 1 = Int32.ofNat (200 - n) := by
        rw [py_add1]
        congr 1
        omega
      -- what is done behind a step that has been printed
      have next : ∀ (S1 : pw_S) (T1 : py_T) (us1 : List Int32), py_fr py_KP S S1 → pk_ps S1 T1 (us ++ us1) → pt_pos I T1 → ((match ps_run I (py_rec S a2 i2) n T1 with | none => (none : Option (List Int32 × py_T)) | some y => some (us1 ++ y.1, y.2)) = none → ∃ S', m_X3_canPrint_9 N S1 0 j a2 i2 (Int32.ofNat (200 - n)) = some (S', 0) ∧ py_fr py_KP S S') ∧ (∀ y, (match ps_run I (py_rec S a2 i2) n T1 with | none => (none : Option (List Int32 × py_T)) | some y => some (us1 ++ y.1, y.2)) = some y → ∃ S', m_X3_canPrint_9 N S1 0 j a2 i2 (Int32.ofNat (200 - n)) = some (S', 1) ∧ py_fr py_KP S S' ∧ pk_ps S' y.2 (us ++ y.1)) := fun S1 T1 us1 hf h1 hp1 => by
        have hrow : S1 a2 i2 = S a2 i2 := hf a2 i2 hKP
        have hrec : py_rec S1 a2 i2 = py_rec S a2 i2 := by
          unfold py_rec
          rw [hrow]
        obtain ⟨i1, i2'⟩ := ih N S1 T1 (us ++ us1) (by omega) (by omega) (hf.RiP hI) h1 hp1 (by rw [hrow]; exact hx)
        rw [hrec] at i1 i2'
        refine ⟨fun hh => ?_, fun y hy => ?_⟩
        · cases hq : ps_run I (py_rec S a2 i2) n T1 with
          | none =>
            obtain ⟨S', m1, m2⟩ := i1 hq
            exact ⟨S', m1, hf.trans m2⟩
          | some z => rw [hq] at hh; cases hh
        · cases hq : ps_run I (py_rec S a2 i2) n T1 with
          | none => rw [hq] at hy; cases hy
          | some z =>
            rw [hq] at hy
            obtain rfl := Option.some.inj hy
            obtain ⟨S', m1, m2, m3⟩ := i2' z hq
            refine ⟨S', m1, hf.trans m2, ?_⟩
            rw [List.append_assoc] at m3
            exact m3
      by_cases h7 : pi_k I (pt_it T) = 7 ∨ pi_k I (pt_it T) = 8
      · have ha := (hok.2.1 _ hn').2 (by omega) (by omega)
        rw [if_pos h7, if_neg py_10]
        obtain ⟨S1, e1, e2, e3⟩ := pk_ent hI h.1 hn' ha h7
        rw [e1, py_b, py_l, hadd]
        unfold ps_step
        rw [if_pos h7]
        dsimp only
        have hps : pk_ps S1 (pt_ent I T) (us ++ []) := by
          rw [List.append_nil]
          exact ⟨e3, h.2.1.ent, by rw [(pt_ent_same I T).2.2.1]; exact h.2.2.1, by rw [e2 28 0 rfl]; exact h.2.2.2⟩
        exact next S1 (pt_ent I T) [] (e2.mono py_KP_T) hps (pt_ent_pos hok hp hn' h7).1
      · rw [if_neg h7, if_pos rfl]
        simp only [hit]
        rw [pk_hs hI hn', py_b]
        have h78 : pi_k I (pt_it T) ≠ 7 ∧ pi_k I (pt_it T) ≠ 8 := ⟨fun z => h7 (Or.inl z), fun z => h7 (Or.inr z)⟩
        unfold ps_step
        rw [if_neg h7]
        -- behind an item: on, or out
        have item : ∀ (x : Int32) (m : pw_R Int32), pk_pi S I T us x m → ((match (match pe_enc I T x with | none => (none : Option (List Int32 × py_T)) | some us' => if pt_ln T + us'.length ≤ 60 then some (us', pt_aft I T x us') else none) with | none => none | some z => match ps_run I (py_rec S a2 i2) n z.2 with | none => none | some y => some (z.1 ++ y.1, y.2)) = none → ∃ S', (pw_b m fun S22 r25 => pw_l (r25 : Int32) fun z27 => if z27 = 0 then some (S22, 0) else pw_b (m_X8_finish S22 408 j) fun S28 r31 => pw_l (Int32.ofNat (200 - (n + 1)) + 1 : Int32) fun z33 => m_X3_canPrint_9 N S28 0 j a2 i2 z33) = some (S', 0) ∧ py_fr py_KP S S') ∧
            (∀ y, (match (match pe_enc I T x with | none => (none : Option (List Int32 × py_T)) | some us' => if pt_ln T + us'.length ≤ 60 then some (us', pt_aft I T x us') else none) with | none => none | some z => match ps_run I (py_rec S a2 i2) n z.2 with | none => none | some y => some (z.1 ++ y.1, y.2)) = some y → ∃ S', (pw_b m fun S22 r25 => pw_l (r25 : Int32) fun z27 => if z27 = 0 then some (S22, 0) else pw_b (m_X8_finish S22 408 j) fun S28 r31 => pw_l (Int32.ofNat (200 - (n + 1)) + 1 : Int32) fun z33 => m_X3_canPrint_9 N S28 0 j a2 i2 z33) = some (S', 1) ∧ py_fr py_KP S S' ∧ pk_ps S' y.2 (us ++ y.1)) := fun x m hm => by
          cases he : pe_enc I T x with
          | none =>
            obtain ⟨S', m1, m2⟩ := hm.1 he
            exact ⟨fun _ => ⟨S', by rw [m1]; rfl, m2⟩, fun y hy => by cases hy⟩
          | some ws =>
            obtain ⟨p1, p2⟩ := hm.2 ws he
            have hk := pt_kb_same I T x
            rw [hk.2.2.2.2.2.1] at p1 p2
            dsimp only
            by_cases hl : pt_ln T + ws.length ≤ 60
            · rw [if_pos hl]
              dsimp only
              obtain ⟨S1, m1, m2, m3⟩ := p1 hl
              obtain ⟨s1, s2, s3, s4, s5, s6, s7⟩ := pt_apps_same ws (pt_kb I T x)
              have hr3 := hp.rd
              have hlp : pt_lp T ≤ pi_n I := by
                have h2 := hp.2.1
                cases hz : pi_lo I (pt_it T) with
                | zero => rw [h2, hz]; exact Nat.zero_le _
                | succ l =>
                  have := pi_lo_pos hz
                  rw [h2, hz]
                  omega
              obtain ⟨S2, f1, f2, f3⟩ := pk_fin (m2.RiP hI) m3.1 (by rw [s3, hk.2.1]; exact hn') (by rw [s4, hk.2.2.1]; exact hlp) (by rw [s5, hk.2.2.2.1]; exact hr3.2) (by rw [s6, hk.2.2.2.2.1]; exact hr3.1)
              rw [m1, py_b, py_l, if_neg py_10, f1, py_b, py_l, hadd]
              have hps : pk_ps S2 (pt_aft I T x ws) (us ++ ws) := by
                refine ⟨f3, h.2.1.aft x ws hl, ?_, by rw [f2 28 0 rfl]; exact m3.2.2.2⟩
                rw [List.length_append, (pt_aft_v I T x ws).2, h.2.2.1]
              have hpos : pt_pos I (pt_aft I T x ws) := by
                obtain ⟨q1, q2, q3, q4⟩ := pt_aft_pj I T x ws
                have := (pt_fin_pos hok hp hn' h78).1
                unfold pt_pos at this ⊢
                rw [q1, q2, q3, q4]
                exact this
              exact next S2 (pt_aft I T x ws) ws (m2.trans (f2.mono py_KP_T)) hps hpos
            · rw [if_neg hl]
              obtain ⟨S', m1, m2⟩ := p2 (by omega)
              exact ⟨fun _ => ⟨S', by rw [m1]; rfl, m2⟩, fun y hy => by cases hy⟩
        by_cases hs : pi_hs (pi_k I (pt_it T))
        · have ha := (hok.2.1 _ hn').2 (fun z => by rcases hs with hs | hs <;> omega) (fun z => by rcases hs with hs | hs <;> omega)
          have hr3 := hp.rd.1
          have hrec : py_rec S a2 i2 (pi_a I (pt_it T) * 3 + pt_rd T) = S a2 i2 (pi_a I (pt_it T) * 3 + pt_rd T) := if_pos (by omega)
          rw [if_pos hs, if_neg py_10, hrec]
          exact item _ _ (pk_printSlot hI hR h hn' hs ha hr3 h24 (hx _ (by omega)))
        · rw [if_neg hs, if_pos rfl]
          exact item _ _ (pk_printSign hI (fun k hk => (hok.2.1 k hk).2) h hn' hs h7 _)
/-- whether a record can be printed, and what comes of it -/
theorem pk_can {S : pw_S} {j : Nat} {I : py_I} {a2 i2 : Nat} (hok : pi_ok I) (hR : pi_rg I) (hI : py_Ri S j I) (h24 : pw_len a2 = 24) (hKP : py_KP a2 i2 = false) (hx : ∀ c, c < 24 → S a2 i2 c = -2147483648 ∨ ∃ w, w < 2147483648 ∧ S a2 i2 c = Int32.ofNat w) :
    (ps_run I (py_rec S a2 i2) 200 pt_0 = none → ∃ S', m_X3_canPrint S 0 j a2 i2 = some (S', 0) ∧ py_fr py_KP S S') ∧ (∀ y, ps_run I (py_rec S a2 i2) 200 pt_0 = some y → ∃ S', m_X3_canPrint S 0 j a2 i2 = some (S', 1) ∧ py_fr py_KP S S' ∧ pk_ps S' y.2 y.1) := by
  obtain ⟨S1, r1, r2, r3⟩ := pk_restart S 408
  have hf : py_fr py_KP S S1 := r2.mono py_KP_T
  have hrow : S1 a2 i2 = S a2 i2 := hf a2 i2 hKP
  have hrec : py_rec S1 a2 i2 = py_rec S a2 i2 := by
    unfold py_rec
    rw [hrow]
  obtain ⟨h1, h2⟩ := pk_can_9 (j := j) hok hR h24 hKP 200 (pw_F 20000) S1 pt_0 [] (by rw [py_F]; omega) (by omega) (hf.RiP hI) ⟨r3, pt_0_gu, rfl, fun k hk => absurd hk (Nat.not_lt_zero k)⟩ (pt_0_pos hok) (by rw [hrow]; exact hx)
  rw [hrec] at h1 h2
  unfold m_X3_canPrint
  rw [r1, py_b, py_l]
  refine ⟨fun hh => ?_, fun y hy => ?_⟩
  · obtain ⟨S', m1, m2⟩ := h1 hh
    exact ⟨S', m1, hf.trans m2⟩
  · obtain ⟨S', m1, m2, m3⟩ := h2 y hy
    exact ⟨S', m1, hf.trans m2, m3⟩
