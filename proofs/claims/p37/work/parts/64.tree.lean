/-! The tree of readings. -/
def pt_lv (I : py_I) (ah : Nat → Int32) : Nat → py_T → List py_T
  | 0, T => if pi_n I ≤ pt_it T then [T] else []
  | f + 1, T => if pi_n I ≤ pt_it T then [T] else (pt_ways I ah T).reverse.flatMap (pt_lv I ah f)
def pt_cn (I : py_I) (ah : Nat → Int32) : Nat → py_T → Nat
  | 0, T => if pi_n I ≤ pt_it T then 0 else 1
  | f + 1, T => if pi_n I ≤ pt_it T then 0 else 1 + ((pt_ways I ah T).map (pt_cn I ah f)).sum
theorem pi_rk_lt {I : py_I} (hI : pi_ok I) {k r : Nat} (hk : k < pi_n I) (hr : r < 3) : pi_rk I k r < 13 * pi_n I := by
  unfold pi_rk
  split
  · omega
  · rename_i h
    obtain ⟨l, hl⟩ : ∃ l, pi_lo I k = l + 1 := ⟨pi_lo I k - 1, by omega⟩
    obtain ⟨g1, g2, g3⟩ := pi_lo_pos hl
    obtain ⟨c1, c2, c3, c4⟩ := hI.2.2.2 l (by omega) (Or.inl g1)
    rw [hl]
    omega
theorem pt_st {I : py_I} (hI : pi_ok I) (hR : pi_rg I) {ah : Nat → Int32} : ∀ (f : Nat) (T : py_T), pt_gd I T → 13 * pi_n I ≤ f + pt_rk I T → pt_lv I ah f T = pt_lv I ah (f + 1) T ∧ pt_cn I ah f T = pt_cn I ah (f + 1) T := by
  intro f
  induction f with
  | zero =>
    intro T h hf
    have hn : pi_n I ≤ pt_it T := by
      by_cases e : pi_n I ≤ pt_it T
      · exact e
      · have h8 := pi_rk_lt hI (k := pt_it T) (r := pt_rd T) (by omega) h.1.1.rd.1
        have h9 : 13 * pi_n I ≤ 0 + pi_rk I (pt_it T) (pt_rd T) := hf
        omega
    unfold pt_lv pt_cn
    rw [if_pos hn, if_pos hn, if_pos hn, if_pos hn]
    exact ⟨rfl, rfl⟩
  | succ f ih =>
    intro T h hf
    unfold pt_lv pt_cn
    by_cases hn : pi_n I ≤ pt_it T
    · rw [if_pos hn, if_pos hn, if_pos hn, if_pos hn]
      exact ⟨rfl, rfl⟩
    · rw [if_neg hn, if_neg hn, if_neg hn, if_neg hn]
      have hc : ∀ T' ∈ pt_ways I ah T, pt_lv I ah f T' = pt_lv I ah (f + 1) T' ∧ pt_cn I ah f T' = pt_cn I ah (f + 1) T' := fun T' hT => by
        obtain ⟨g1, g2, g3, g4⟩ := h.way hI hR (by omega) hT
        exact ih T' g1 (by omega)
      have e1 : (pt_ways I ah T).map (pt_cn I ah f) = (pt_ways I ah T).map (pt_cn I ah (f + 1)) := List.map_congr_left fun T' hT => (hc T' hT).2
      rw [e1]
      refine ⟨?_, rfl⟩
      rw [List.flatMap_def, List.flatMap_def, List.map_congr_left fun T' hT => (hc T' (List.mem_reverse.mp hT)).1]
abbrev pt_LV (I : py_I) (ah : Nat → Int32) (T : py_T) : List py_T := pt_lv I ah (13 * pi_n I) T
abbrev pt_CN (I : py_I) (ah : Nat → Int32) (T : py_T) : Nat := pt_cn I ah (13 * pi_n I) T
theorem pt_LV_over {I : py_I} {ah : Nat → Int32} {T : py_T} (h : pi_n I ≤ pt_it T) : pt_LV I ah T = [T] ∧ pt_CN I ah T = 0 := by
  unfold pt_LV pt_CN
  cases 13 * pi_n I <;> unfold pt_lv pt_cn <;> rw [if_pos h, if_pos h] <;> exact ⟨rfl, rfl⟩
theorem pt_LV_step {I : py_I} (hI : pi_ok I) (hR : pi_rg I) {ah : Nat → Int32} {T : py_T} (h : pt_gd I T) (hn : ¬ pi_n I ≤ pt_it T) : pt_LV I ah T = (pt_ways I ah T).reverse.flatMap (pt_LV I ah) ∧ pt_CN I ah T = 1 + ((pt_ways I ah T).map (pt_CN I ah)).sum := by
  obtain ⟨h1, h2⟩ := pt_st hI hR (ah := ah) (13 * pi_n I) T h (by omega)
  refine ⟨h1.trans ?_, h2.trans ?_⟩
  · rw [pt_lv.eq_2, if_neg hn]
  · rw [pt_cn.eq_2, if_neg hn]
theorem pt_CN_pos {I : py_I} (hI : pi_ok I) (hR : pi_rg I) {ah : Nat → Int32} {T : py_T} (h : pt_gd I T) (hn : ¬ pi_n I ≤ pt_it T) : 1 ≤ pt_CN I ah T := by
  rw [(pt_LV_step hI hR h hn).2]
  omega
/-- what is known of all whole readings -/
theorem pt_lv_mem {I : py_I} (hI : pi_ok I) (hR : pi_rg I) {ah : Nat → Int32} : ∀ (f : Nat) (T T' : py_T), pt_gd I T → pt_rq I ah T → T' ∈ pt_lv I ah f T → pt_gd I T' ∧ pt_rq I ah T' ∧ pi_n I ≤ pt_it T' ∧ pt_ln T ≤ pt_ln T' := by
  intro f
  induction f with
  | zero =>
    intro T T' h hq hT
    unfold pt_lv at hT
    split at hT
    · rename_i hn
      obtain rfl := List.mem_singleton.mp hT
      exact ⟨h, hq, hn, Nat.le_refl _⟩
    · cases hT
  | succ f ih =>
    intro T T' h hq hT
    unfold pt_lv at hT
    split at hT
    · rename_i hn
      obtain rfl := List.mem_singleton.mp hT
      exact ⟨h, hq, hn, Nat.le_refl _⟩
    · rename_i hn
      obtain ⟨W, hW, hT⟩ := List.mem_flatMap.mp hT
      have hW := List.mem_reverse.mp hW
      obtain ⟨g1, g2, g3, m, g4, g5⟩ := h.way hI hR (by omega) hW
      obtain ⟨i1, i2, i3, i4⟩ := ih W T' g1 (hq.way hI hR h (by omega) hW) hT
      exact ⟨i1, i2, i3, by omega⟩
/-! lengths -/
theorem pe_gath_len (ah : Nat → Int32) : ∀ (m p w : Nat), (pe_gath ah m p w).length ≤ m := by
  intro m
  induction m with
  | zero => intro p w; exact Nat.le_refl _
  | succ m ih =>
    intro p w
    unfold pe_gath
    split
    · exact Nat.zero_le _
    · rw [List.length_cons]
      have := ih (p + pe_ul (pe_la ah p)) (w - pe_ul (pe_la ah p))
      omega
theorem pe_dec_len (I : py_I) (ah : Nat → Int32) (T : py_T) : (pe_dec I ah T).length ≤ 6 := by
  have h5 : ∀ w, (List.range ((pe_gath ah 5 (pt_ln T) w).length + 1)).length ≤ 6 := fun w => by
    rw [List.length_range]
    have := pe_gath_len ah 5 (pt_ln T) w
    omega
  unfold pe_dec
  by_cases k0 : pi_k I (pt_it T) = 0
  · rw [if_pos k0]
    split <;> exact Nat.le_of_ble_eq_true rfl
  rw [if_neg k0]
  by_cases k1 : pi_k I (pt_it T) = 1
  · rw [if_pos k1]
    exact Nat.le_trans (List.length_filterMap_le _ _) (h5 _)
  rw [if_neg k1]
  by_cases k2 : pi_k I (pt_it T) = 2
  · rw [if_pos k2]
    refine Nat.le_trans (List.length_filterMap_le _ _) ?_
    rw [List.length_reverse]
    exact h5 _
  rw [if_neg k2]
  by_cases k3 : pi_k I (pt_it T) = 3
  · rw [if_pos k3]
    split <;> exact Nat.le_of_ble_eq_true rfl
  rw [if_neg k3]
  by_cases k6 : pi_k I (pt_it T) = 6
  · rw [if_pos k6]
    split <;> exact Nat.le_of_ble_eq_true rfl
  rw [if_neg k6]
  by_cases k4 : pi_k I (pt_it T) = 4
  · rw [if_pos k4]
    split <;> exact Nat.le_of_ble_eq_true rfl
  rw [if_neg k4]
  by_cases k5 : pi_k I (pt_it T) = 5
  · rw [if_pos k5]
    split <;> exact Nat.le_of_ble_eq_true rfl
  rw [if_neg k5]
  by_cases k9 : pi_k I (pt_it T) = 9
  · rw [if_pos k9]
    by_cases c1 : pt_s T (pi_a I (pt_it T)) < 0
    · rw [if_pos c1]
      exact Nat.le_of_ble_eq_true rfl
    rw [if_neg c1]
    by_cases c2 : (pt_s T (pi_a I (pt_it T))).toNatClampNeg ≤ 99
    · rw [if_pos c2]
      split <;> exact Nat.le_of_ble_eq_true rfl
    rw [if_neg c2]
    exact Nat.le_of_ble_eq_true rfl
  rw [if_neg k9]
  exact Nat.le_of_ble_eq_true rfl
theorem pt_ways_len (I : py_I) (ah : Nat → Int32) (T : py_T) : (pt_ways I ah T).length ≤ 6 := by
  unfold pt_ways
  split
  · exact Nat.le_of_ble_eq_true rfl
  · exact Nat.le_trans (List.length_filterMap_le _ _) (pe_dec_len I ah T)
/-- all ways stand at one item -/
theorem pt_ways_it {I : py_I} {ah : Nat → Int32} {T T' : py_T} (h : T' ∈ pt_ways I ah T) : pt_it T' = if pi_k I (pt_it T) = 7 ∨ pi_k I (pt_it T) = 8 then pt_it (pt_ent I T) else pt_it (pt_fin I T) := by
  unfold pt_ways at h
  split at h
  · rename_i h7
    rw [if_pos h7, List.mem_singleton.mp h]
  · rename_i h7
    rw [if_neg h7]
    obtain ⟨x, hx, hh⟩ := List.mem_filterMap.mp h
    split at hh
    · obtain rfl := Option.some.inj hh
      exact (pt_aft_pj I T _ _).1
    · cases hh
/-! what is printed is among the readings -/
theorem pe_num_rep (c : Nat) (r : List Int32) : ∀ n, pe_num (List.replicate n (pe_nf c) ++ r) 0 = pe_num r 0 := by
  intro n
  induction n with
  | zero => rfl
  | succ n ih =>
    rw [List.replicate_succ, List.cons_append]
    have h : (if (48 : Int32) ≤ pe_nf c ∧ pe_nf c ≤ 57 then 10 * 0 + ((pe_nf c).toNatClampNeg - 48) else 0) = 0 := by
      unfold pe_nf
      split
      · decide
      · split <;> decide
    show pe_num (List.replicate n (pe_nf c) ++ r) (if (48 : Int32) ≤ pe_nf c ∧ pe_nf c ≤ 57 then 10 * 0 + ((pe_nf c).toNatClampNeg - 48) else 0) = _
    rw [h, ih]
theorem pe_lay_small {c b w : Nat} (hb : 1 ≤ b) (hw : w < 10) : pe_lay c b w 0 [] = some (List.replicate (b - 1) (pe_nf c) ++ [Int32.ofNat (48 + w)]) := by
  obtain ⟨p, rfl⟩ : ∃ p, b = p + 1 := ⟨b - 1, by omega⟩
  unfold pe_lay
  rw [if_neg (fun z => z.1 rfl), if_neg (fun z => by omega), show w / 10 = 0 from by omega, show w % 10 = w from by omega]
  cases p with
  | zero => rfl
  | succ q =>
    unfold pe_lay
    rw [if_pos ⟨by omega, rfl⟩]
    rfl
theorem pe_digit {w : Nat} (hw : w < 10) : pe_num [Int32.ofNat (48 + w)] 0 = w := by
  unfold pe_num pe_num
  rw [if_pos (show (48 : Int32) ≤ Int32.ofNat (48 + w) ∧ Int32.ofNat (48 + w) ≤ 57 from py_in (l := 48) (h := 57) (by omega) (by omega) (by omega)), py_cl (by omega)]
  omega
theorem pe_la_of {ah : Nat → Int32} {p w : Nat} (h1 : 1 ≤ w) (h2 : w ≤ 27) (h : pe_tk ah p (pe_ul w) = pe_let w) : pe_la ah p = w := by
  unfold pe_la
  by_cases e : w = 27
  · subst e
    have h : pe_tk ah p 2 = [55357, 56832] := h
    rw [pe_tk_succ, pe_tk_succ, pe_tk_zero] at h
    obtain ⟨h3, h4⟩ := List.cons.inj h
    obtain ⟨h4, -⟩ := List.cons.inj h4
    rw [h3, h4]
    decide
  · unfold pe_ul pe_let at h
    rw [if_neg e, if_neg e, pe_tk_succ, pe_tk_zero] at h
    obtain ⟨h3, -⟩ := List.cons.inj h
    rw [h3, if_pos (show (97 : Int32) ≤ Int32.ofNat (96 + w) ∧ Int32.ofNat (96 + w) ≤ 122 from py_in (l := 97) (h := 122) (by omega) (by omega) (by omega)), py_cl (by omega)]
    omega
theorem pe_lets_small {w : Nat} (hw : w ≤ 27) : pe_lets 5 w = some (if w = 0 then [] else [w]) := by
  unfold pe_lets
  by_cases e : w = 0
  · rw [if_pos e, if_pos e]
  · rw [if_neg e, if_neg e, show w % 32 = w from by omega, if_pos ⟨by omega, hw⟩, show w / 32 = 0 from by omega]
    rfl
theorem pe_gath_small {ah : Nat → Int32} {p w b : Nat} (hw : w ≤ 27) (hb : pe_us (if w = 0 then [] else [w]) ≤ b) (h : pe_tk ah p (pe_us (if w = 0 then [] else [w])) = pe_word (if w = 0 then [] else [w])) : ∃ i, i < (pe_gath ah 5 p b).length + 1 ∧ (pe_gath ah 5 p b).take i = if w = 0 then [] else [w] := by
  by_cases e : w = 0
  · rw [if_pos e]
    exact ⟨0, by omega, rfl⟩
  · rw [if_neg e] at h hb ⊢
    have hu : pe_us [w] = pe_ul w := by rw [pe_us_cons]; rfl
    have hv : pe_word [w] = pe_let w := by rw [pe_word_cons]; exact List.append_nil _
    rw [hu] at hb h
    rw [hv] at h
    have hl := pe_la_of (by omega) hw h
    unfold pe_gath
    rw [hl, if_neg (by omega)]
    exact ⟨1, by rw [List.length_cons]; omega, rfl⟩
theorem pe_bv_of {ah : Nat → Int32} {p w : Nat} : ∀ b : Nat, pe_tk ah p b = pe_bits b w → pe_bv ah p b = some (w % 2 ^ b) := by
  intro b
  induction b with
  | zero =>
    intro _
    rw [Nat.pow_zero, Nat.mod_one]
    rfl
  | succ b ih =>
    intro h
    rw [pe_tk_add, pe_tk_succ, pe_tk_zero] at h
    unfold pe_bits at h
    rw [List.range_succ, List.map_append, List.map_singleton] at h
    obtain ⟨h1, h2⟩ := List.append_inj h (by rw [pe_tk_len, List.length_map, List.length_range])
    obtain ⟨h2, -⟩ := List.cons.inj h2
    unfold pe_bv
    rw [ih h1]
    dsimp only
    rw [h2, Nat.pow_succ, Nat.mod_mul]
    by_cases e : w / 2 ^ b % 2 = 1
    · rw [if_pos e, if_pos rfl, e, Nat.mul_one]
    · rw [if_neg e, if_neg (by decide), if_pos rfl, show w / 2 ^ b % 2 = 0 from by omega, Nat.mul_zero, Nat.add_zero]
/-- values as samples have them -/
def pe_sm (I : py_I) (L : Nat → Int32) : Prop := ∀ k, k < pi_n I → pi_hs (pi_k I k) → ∀ r, r < 3 → L (pi_a I k * 3 + r) = -2147483648 ∨ ∃ w, w < 2147483648 ∧ L (pi_a I k * 3 + r) = Int32.ofNat w ∧ (pi_k I k = 0 → w < 10) ∧ (pi_k I k = 1 ∨ pi_k I k = 2 → w ≤ 27)
theorem pe_complete {I : py_I} (hR : pi_rg I) {ah : Nat → Int32} {T : py_T} (hn : pt_it T < pi_n I) {v : Int32} {us : List Int32} (h : pe_enc I T v = some us) (hv : pi_hs (pi_k I (pt_it T)) → v = -2147483648 ∨ ∃ w, w < 2147483648 ∧ v = Int32.ofNat w ∧ (pi_k I (pt_it T) = 0 → w < 10) ∧ (pi_k I (pt_it T) = 1 ∨ pi_k I (pt_it T) = 2 → w ≤ 27))
    (ht : pe_tk ah (pt_ln T) us.length = us) : ((if pi_hs (pi_k I (pt_it T)) then v else 0), us.length) ∈ pe_dec I ah T := by
  obtain ⟨r0, r1, r2, r3, r5, r8⟩ := hR _ hn
  have hneg : (-2147483648 : Int32) < 0 := by decide
  unfold pe_enc at h
  unfold pe_dec
  by_cases k0 : pi_k I (pt_it T) = 0
  · have hs : pi_hs (pi_k I (pt_it T)) := Or.inl (by omega)
    rw [if_pos hs]
    rw [if_pos k0] at h ⊢
    obtain ⟨a1, a2, a3⟩ := r0 k0
    rcases hv hs with rfl | ⟨w, hw, rfl, h9, -⟩
    · rw [if_pos hneg] at h
      cases h
    have h9 := h9 k0
    rw [py_jn hw, py_cl hw, pe_lay_small a1 h9] at h
    obtain rfl := Option.some.inj h
    have hlen : (List.replicate (pi_b I (pt_it T) - 1) (pe_nf (pi_c I (pt_it T))) ++ [Int32.ofNat (48 + w)]).length = pi_b I (pt_it T) := by
      rw [List.length_append, List.length_replicate, List.length_singleton]
      omega
    rw [hlen] at ht ⊢
    rw [ht, pe_num_rep, pe_digit h9, if_pos (pe_lay_small a1 h9)]
    exact List.mem_singleton.mpr rfl
  rw [if_neg k0] at h ⊢
  by_cases k1 : pi_k I (pt_it T) = 1
  · have hs : pi_hs (pi_k I (pt_it T)) := Or.inl (by omega)
    rw [if_pos hs]
    rw [if_pos k1] at h ⊢
    rcases hv hs with rfl | ⟨w, hw, rfl, -, h9⟩
    · rw [if_pos hneg] at h
      cases h
    have h9 := h9 (Or.inl k1)
    rw [py_jn hw, py_cl hw, pe_lets_small h9] at h
    dsimp only at h
    have hcode : pe_code (if w = 0 then [] else [w]) = w := by
      by_cases e : w = 0
      · rw [if_pos e, e]
        rfl
      · rw [if_neg e]
        rfl
    generalize hls : (if w = 0 then [] else [w]) = ls at h hcode
    by_cases hle : (pe_word ls).length ≤ pi_b I (pt_it T)
    · rw [if_pos hle] at h
      obtain rfl := Option.some.inj h
      have hlen : (pe_word ls ++ List.replicate (pi_b I (pt_it T) - (pe_word ls).length) (pe_wf (pi_c I (pt_it T)))).length = pi_b I (pt_it T) := by
        rw [List.length_append, List.length_replicate]
        omega
      rw [hlen] at ht ⊢
      rw [pe_word_len] at ht hle
      rw [show pi_b I (pt_it T) = pe_us ls + (pi_b I (pt_it T) - pe_us ls) from by omega, pe_tk_add, ← show pi_b I (pt_it T) = pe_us ls + (pi_b I (pt_it T) - pe_us ls) from by omega] at ht
      obtain ⟨t1, t2⟩ := List.append_inj ht (by rw [pe_tk_len, pe_word_len])
      obtain ⟨i, i1, i2⟩ := pe_gath_small (ah := ah) (p := pt_ln T) (b := pi_b I (pt_it T)) h9 (by rw [hls]; exact hle) (by rw [hls]; exact t1)
      rw [hls] at i2
      refine List.mem_filterMap.mpr ⟨i, List.mem_range.mpr i1, ?_⟩
      rw [i2, if_pos t2, hcode]
    · rw [if_neg hle] at h
      cases h
  rw [if_neg k1] at h ⊢
  by_cases k2 : pi_k I (pt_it T) = 2
  · have hs : pi_hs (pi_k I (pt_it T)) := Or.inl (by omega)
    rw [if_pos hs]
    rw [if_pos k2] at h ⊢
    rcases hv hs with rfl | ⟨w, hw, rfl, -, h9⟩
    · rw [if_pos hneg] at h
      cases h
    have h9 := h9 (Or.inr k2)
    rw [py_jn hw, py_cl hw, pe_lets_small h9] at h
    dsimp only at h
    have hcode : pe_code (if w = 0 then [] else [w]) = w := by
      by_cases e : w = 0
      · rw [if_pos e, e]
        rfl
      · rw [if_neg e]
        rfl
    have hus : pe_us (if w = 0 then [] else [w]) ≤ 2 := by
      by_cases e : w = 0
      · rw [if_pos e]
        decide
      · rw [if_neg e, pe_us_cons]
        have : pe_ul w ≤ 2 := by unfold pe_ul; split <;> omega
        show pe_ul w + 0 ≤ 2
        omega
    generalize hls : (if w = 0 then [] else [w]) = ls at h hcode hus
    obtain rfl := Option.some.inj h
    have hlen : (pe_word ls ++ [Int32.ofNat (pi_b I (pt_it T))]).length = pe_us ls + 1 := by
      rw [List.length_append, pe_word_len, List.length_singleton]
    rw [hlen] at ht ⊢
    rw [pe_tk_add] at ht
    obtain ⟨t1, t2⟩ := List.append_inj ht (by rw [pe_tk_len, pe_word_len])
    rw [pe_tk_succ, pe_tk_zero] at t2
    obtain ⟨t2, -⟩ := List.cons.inj t2
    obtain ⟨i, i1, i2⟩ := pe_gath_small (ah := ah) (p := pt_ln T) (b := 60) h9 (by rw [hls]; omega) (by rw [hls]; exact t1)
    rw [hls] at i2
    refine List.mem_filterMap.mpr ⟨i, List.mem_reverse.mpr (List.mem_range.mpr i1), ?_⟩
    rw [i2, if_pos t2, hcode]
  rw [if_neg k2] at h ⊢
  by_cases k3 : pi_k I (pt_it T) = 3
  · have hs : pi_hs (pi_k I (pt_it T)) := Or.inl (by omega)
    rw [if_pos hs]
    rw [if_pos k3] at h ⊢
    rcases hv hs with rfl | ⟨w, hw, rfl, -, -⟩
    · rw [if_pos hneg] at h
      cases h
    rw [py_jn hw, py_cl hw] at h
    by_cases hb : w < 2 ^ pi_b I (pt_it T)
    · rw [if_pos hb] at h
      obtain rfl := Option.some.inj h
      have hlen : (pe_bits (pi_b I (pt_it T)) w).length = pi_b I (pt_it T) := by
        unfold pe_bits
        rw [List.length_map, List.length_range]
      rw [hlen] at ht ⊢
      rw [pe_bv_of _ ht, Nat.mod_eq_of_lt hb]
      exact List.mem_singleton.mpr rfl
    · rw [if_neg hb] at h
      cases h
  rw [if_neg k3] at h ⊢
  by_cases k6 : pi_k I (pt_it T) = 6
  · have hs : pi_hs (pi_k I (pt_it T)) := Or.inr k6
    rw [if_pos hs]
    rw [if_pos k6] at h ⊢
    rcases hv hs with rfl | ⟨w, hw, rfl, -, -⟩
    · rw [if_pos hneg] at h
      cases h
    rw [py_jn hw, py_cl hw] at h
    by_cases hb : w ≤ 3
    · rw [if_pos hb] at h
      obtain rfl := Option.some.inj h
      have ht : pe_tk ah (pt_ln T) 1 = [Int32.ofNat (48 + w)] := ht
      rw [pe_tk_succ, pe_tk_zero] at ht
      obtain ⟨ht, -⟩ := List.cons.inj ht
      rw [ht, if_pos (show (48 : Int32) ≤ Int32.ofNat (48 + w) ∧ Int32.ofNat (48 + w) ≤ 51 from py_in (l := 48) (h := 51) (by omega) (by omega) (by omega)), py_cl (by omega), show 48 + w - 48 = w from by omega]
      exact List.mem_singleton.mpr rfl
    · rw [if_neg hb] at h
      cases h
  have hs : ¬ pi_hs (pi_k I (pt_it T)) := fun z => by
    rcases z with z | z <;> omega
  rw [if_neg hs]
  rw [if_neg k6] at h ⊢
  by_cases k4 : pi_k I (pt_it T) = 4
  · rw [if_pos k4] at h ⊢
    obtain rfl := Option.some.inj h
    have ht : pe_tk ah (pt_ln T) 1 = [Int32.ofNat (48 + pt_sm T % 10)] := ht
    rw [pe_tk_succ, pe_tk_zero] at ht
    obtain ⟨ht, -⟩ := List.cons.inj ht
    rw [if_pos ht]
    exact List.mem_singleton.mpr rfl
  rw [if_neg k4] at h ⊢
  by_cases k5 : pi_k I (pt_it T) = 5
  · rw [if_pos k5] at h ⊢
    obtain rfl := Option.some.inj h
    have ht : pe_tk ah (pt_ln T) 1 = [Int32.ofNat (pi_a I (pt_it T))] := ht
    rw [pe_tk_succ, pe_tk_zero] at ht
    obtain ⟨ht, -⟩ := List.cons.inj ht
    rw [if_pos ht]
    exact List.mem_singleton.mpr rfl
  rw [if_neg k5] at h ⊢
  by_cases k9 : pi_k I (pt_it T) = 9
  · rw [if_pos k9] at h ⊢
    by_cases hsn : pt_s T (pi_a I (pt_it T)) < 0
    · rw [if_pos hsn] at h
      cases h
    rw [if_neg hsn] at h ⊢
    by_cases h99 : (pt_s T (pi_a I (pt_it T))).toNatClampNeg ≤ 99
    · rw [if_pos h99] at h ⊢
      obtain rfl := Option.some.inj h
      have ht : pe_tk ah (pt_ln T) 2 = [Int32.ofNat (48 + (pt_s T (pi_a I (pt_it T))).toNatClampNeg / 10), Int32.ofNat (48 + (pt_s T (pi_a I (pt_it T))).toNatClampNeg % 10)] := ht
      rw [pe_tk_succ, pe_tk_succ, pe_tk_zero] at ht
      obtain ⟨t1, t2⟩ := List.cons.inj ht
      obtain ⟨t2, -⟩ := List.cons.inj t2
      rw [if_pos ⟨t1, t2⟩]
      exact List.mem_singleton.mpr rfl
    · rw [if_neg h99] at h
      cases h
  rw [if_neg k9] at h
  cases h
/-- the way on which a record is printed is one of the ways on which the text is read -/
theorem pt_printed {I : py_I} (hI : pi_ok I) (hR : pi_rg I) {ah : Nat → Int32} {L : Nat → Int32} (hL : pe_sm I L) : ∀ (f : Nat) (T : py_T) (y : List Int32 × py_T), pt_gd I T → ps_run I L f T = some y → pe_tk ah (pt_ln T) y.1.length = y.1 → y.2 ∈ pt_LV I ah T ∧ pt_ln y.2 = pt_ln T + y.1.length := by
  intro f
  have hov : ∀ (T : py_T) (y : List Int32 × py_T), pi_n I ≤ pt_it T → some ([], T) = some y → y.2 ∈ pt_LV I ah T ∧ pt_ln y.2 = pt_ln T + y.1.length := fun T y hn h => by
    obtain rfl := Option.some.inj h
    rw [(pt_LV_over hn).1]
    exact ⟨List.mem_singleton.mpr rfl, rfl⟩
  induction f with
  | zero =>
    intro T y h hr ht
    unfold ps_run at hr
    split at hr
    · rename_i hn
      exact hov T y hn hr
    · cases hr
  | succ f ih =>
    intro T y h hr ht
    unfold ps_run at hr
    by_cases hn : pi_n I ≤ pt_it T
    · rw [if_pos hn] at hr
      exact hov T y hn hr
    rw [if_neg hn] at hr
    cases hs : ps_step I L T with
    | none => rw [hs] at hr; cases hr
    | some x =>
      rw [hs] at hr
      dsimp only at hr
      cases hq : ps_run I L f x.2 with
      | none => rw [hq] at hr; cases hr
      | some z =>
        rw [hq] at hr
        obtain rfl := Option.some.inj hr
        dsimp only at ht ⊢
        rw [List.length_append, pe_tk_add] at ht
        obtain ⟨t1, t2⟩ := List.append_inj ht (pe_tk_len _ _ _)
        have hx : x.2 ∈ pt_ways I ah T ∧ pt_ln x.2 = pt_ln T + x.1.length := by
          unfold ps_step at hs
          unfold pt_ways
          by_cases h7 : pi_k I (pt_it T) = 7 ∨ pi_k I (pt_it T) = 8
          · rw [if_pos h7] at hs ⊢
            obtain rfl := Option.some.inj hs
            exact ⟨List.mem_singleton.mpr rfl, (pt_ent_same I T).2.2.1⟩
          · rw [if_neg h7] at hs ⊢
            cases he : pe_enc I T (L (pi_a I (pt_it T) * 3 + pt_rd T)) with
            | none => rw [he] at hs; cases hs
            | some us =>
              rw [he] at hs
              dsimp only at hs
              by_cases hl : pt_ln T + us.length ≤ 60
              · rw [if_pos hl] at hs
                obtain rfl := Option.some.inj hs
                dsimp only at t1 ⊢
                have hd := pe_complete hR (by omega) he (fun hh => hL _ (by omega) hh _ h.1.1.rd.1) t1
                refine ⟨List.mem_filterMap.mpr ⟨_, hd, ?_⟩, (pt_aft_v I T _ us).2⟩
                dsimp only
                rw [if_pos hl, t1]
                by_cases hh : pi_hs (pi_k I (pt_it T))
                · rw [if_pos hh]
                · unfold pt_aft
                  rw [if_neg hh, if_neg hh]
              · rw [if_neg hl] at hs
                cases hs
        obtain ⟨hx1, hx2⟩ := hx
        obtain ⟨g1, g2, g3, m, g4, g5⟩ := h.way hI hR (by omega) hx1
        rw [← hx2] at t2
        obtain ⟨i1, i2⟩ := ih x.2 z g1 hq t2
        rw [(pt_LV_step hI hR h hn).1, List.length_append]
        exact ⟨List.mem_flatMap.mpr ⟨x.2, List.mem_reverse.mpr hx1, i1⟩, by omega⟩
/-! a description that is sure -/
def pi_su (I : py_I) : Prop := ∀ k, k < pi_n I → (pi_k I k = 1 → pi_c I k ≠ 2) ∧ (pi_k I k = 2 → ¬ (97 ≤ pi_b I k ∧ pi_b I k ≤ 122))
theorem pe_la_head {ah : Nat → Int32} {p : Nat} (h : pe_la ah p ≠ 0) : (97 ≤ ah p ∧ ah p ≤ 122) ∨ ah p = 55357 := by
  unfold pe_la at h
  split at h
  · rename_i hc
    exact Or.inl hc
  · split at h
    · rename_i hc
      exact Or.inr hc.1
    · exact absurd rfl h
theorem pe_gath_head {ah : Nat → Int32} : ∀ (m p w i : Nat), i < (pe_gath ah m p w).length → pe_la ah (p + pe_us ((pe_gath ah m p w).take i)) ≠ 0 ∧ pe_us ((pe_gath ah m p w).take i) < w := by
  intro m
  induction m with
  | zero => intro p w i h; exact absurd h (Nat.not_lt_zero i)
  | succ m ih =>
    intro p w i h
    unfold pe_gath at h ⊢
    by_cases hc : pe_la ah p = 0 ∨ w < pe_ul (pe_la ah p)
    · rw [if_pos hc] at h
      exact absurd h (Nat.not_lt_zero i)
    · rw [if_neg hc] at h ⊢
      have hu : 1 ≤ pe_ul (pe_la ah p) := by unfold pe_ul; split <;> omega
      cases i with
      | zero =>
        refine ⟨fun z => hc (Or.inl z), ?_⟩
        show 0 < w
        omega
      | succ i =>
        rw [List.length_cons] at h
        obtain ⟨h1, h2⟩ := ih (p + pe_ul (pe_la ah p)) (w - pe_ul (pe_la ah p)) i (by omega)
        rw [List.take_succ_cons, pe_us_cons, ← Nat.add_assoc]
        exact ⟨h1, by omega⟩
theorem pe_dec_sure {I : py_I} (hR : pi_rg I) (hS : pi_su I) {ah : Nat → Int32} {T : py_T} (hn : pt_it T < pi_n I) : (pe_dec I ah T).length ≤ 1 := by
  obtain ⟨r0, r1, r2, r3, r5, r8⟩ := hR _ hn
  obtain ⟨s1, s2⟩ := hS _ hn
  unfold pe_dec
  by_cases k0 : pi_k I (pt_it T) = 0
  · rw [if_pos k0]
    split <;> exact Nat.le_of_ble_eq_true rfl
  rw [if_neg k0]
  by_cases k1 : pi_k I (pt_it T) = 1
  · rw [if_pos k1]
    have s1 := s1 k1
    obtain ⟨a1, a2, a3⟩ := r1 k1
    rw [List.range_succ, List.filterMap_append, List.filterMap_eq_nil_iff.mpr, List.nil_append]
    · exact Nat.le_trans (List.length_filterMap_le _ _) (Nat.le_refl _)
    · intro i hi
      obtain ⟨g1, g2⟩ := pe_gath_head (ah := ah) 5 (pt_ln T) (pi_b I (pt_it T)) i (List.mem_range.mp hi)
      rw [if_neg]
      intro hf
      obtain ⟨q, hq⟩ : ∃ q, pi_b I (pt_it T) - pe_us ((pe_gath ah 5 (pt_ln T) (pi_b I (pt_it T))).take i) = q + 1 := ⟨_, (Nat.sub_one_add_one (by omega)).symm⟩
      rw [hq, pe_tk_succ, List.replicate_succ] at hf
      have hf := (List.cons.inj hf).1
      have hw : pe_wf (pi_c I (pt_it T)) = 32 ∨ pe_wf (pi_c I (pt_it T)) = 46 := by
        unfold pe_wf
        split
        · exact Or.inl rfl
        · split
          · exact Or.inr rfl
          · omega
      rcases pe_la_head g1 with h1 | h1
      · rw [hf] at h1
        rcases hw with hw | hw <;> rw [hw] at h1 <;> exact absurd h1 (by decide)
      · rw [hf] at h1
        rcases hw with hw | hw <;> rw [hw] at h1 <;> exact absurd h1 (by decide)
  rw [if_neg k1]
  by_cases k2 : pi_k I (pt_it T) = 2
  · rw [if_pos k2]
    have s2 := s2 k2
    obtain ⟨a1, a2⟩ := r2 k2
    have hnil : ∀ F : Nat → Option (Int32 × Nat), (∀ i, i < (pe_gath ah 5 (pt_ln T) 60).length → F i = none) → ((List.range ((pe_gath ah 5 (pt_ln T) 60).length + 1)).reverse.filterMap F).length ≤ 1 := fun F hF => by
      rw [List.range_succ, List.reverse_append, List.filterMap_append, List.length_append, (List.filterMap_eq_nil_iff (l := (List.range (pe_gath ah 5 (pt_ln T) 60).length).reverse)).mpr (fun i hi => hF i (List.mem_range.mp (List.mem_reverse.mp hi)))]
      exact List.length_filterMap_le _ _
    refine hnil _ ?_
    · intro i hi
      obtain ⟨g1, g2⟩ := pe_gath_head (ah := ah) 5 (pt_ln T) 60 i hi
      rw [if_neg]
      intro hf
      rcases pe_la_head g1 with h1 | h1
      · rw [hf, show (97 : Int32) = Int32.ofNat 97 from rfl, show (122 : Int32) = Int32.ofNat 122 from rfl, py_le (by omega) (by omega), py_le (by omega) (by omega)] at h1
        exact s2 h1
      · rw [hf, show (55357 : Int32) = Int32.ofNat 55357 from rfl, py_eq (by omega) (by omega)] at h1
        omega
  rw [if_neg k2]
  by_cases k3 : pi_k I (pt_it T) = 3
  · rw [if_pos k3]
    split <;> exact Nat.le_of_ble_eq_true rfl
  rw [if_neg k3]
  by_cases k6 : pi_k I (pt_it T) = 6
  · rw [if_pos k6]
    split <;> exact Nat.le_of_ble_eq_true rfl
  rw [if_neg k6]
  by_cases k4 : pi_k I (pt_it T) = 4
  · rw [if_pos k4]
    split <;> exact Nat.le_of_ble_eq_true rfl
  rw [if_neg k4]
  by_cases k5 : pi_k I (pt_it T) = 5
  · rw [if_pos k5]
    split <;> exact Nat.le_of_ble_eq_true rfl
  rw [if_neg k5]
  by_cases k9 : pi_k I (pt_it T) = 9
  · rw [if_pos k9]
    by_cases c1 : pt_s T (pi_a I (pt_it T)) < 0
    · rw [if_pos c1]
      exact Nat.le_of_ble_eq_true rfl
    rw [if_neg c1]
    by_cases c2 : (pt_s T (pi_a I (pt_it T))).toNatClampNeg ≤ 99
    · rw [if_pos c2]
      split <;> exact Nat.le_of_ble_eq_true rfl
    rw [if_neg c2]
    exact Nat.le_of_ble_eq_true rfl
  rw [if_neg k9]
  exact Nat.le_of_ble_eq_true rfl
theorem pt_ways_sure {I : py_I} (hR : pi_rg I) (hS : pi_su I) {ah : Nat → Int32} {T : py_T} (hn : pt_it T < pi_n I) : (pt_ways I ah T).length ≤ 1 := by
  unfold pt_ways
  split
  · exact Nat.le_of_ble_eq_true rfl
  · exact Nat.le_trans (List.length_filterMap_le _ _) (pe_dec_sure hR hS hn)
theorem pt_lv_sure {I : py_I} (hR : pi_rg I) (hS : pi_su I) {ah : Nat → Int32} : ∀ (f : Nat) (T : py_T), (pt_lv I ah f T).length ≤ 1 ∧ pt_cn I ah f T ≤ f + 1 := by
  intro f
  induction f with
  | zero =>
    intro T
    unfold pt_lv pt_cn
    split <;> exact ⟨Nat.le_of_ble_eq_true rfl, Nat.le_of_ble_eq_true rfl⟩
  | succ f ih =>
    intro T
    unfold pt_lv pt_cn
    split
    · exact ⟨Nat.le_refl _, Nat.zero_le _⟩
    · rename_i hn
      have h1 := pt_ways_sure hR hS (ah := ah) (T := T) (by omega)
      match hw : pt_ways I ah T with
      | [] => exact ⟨Nat.zero_le _, by show 1 + 0 ≤ _; omega⟩
      | [W] =>
        obtain ⟨i1, i2⟩ := ih W
        refine ⟨?_, ?_⟩
        · show (List.flatMap (pt_lv I ah f) [W]).length ≤ 1
          rw [List.flatMap_cons, List.flatMap_nil, List.append_nil]
          exact i1
        · show 1 + (pt_cn I ah f W + 0) ≤ _
          omega
      | W :: W' :: r =>
        rw [hw] at h1
        rw [List.length_cons, List.length_cons] at h1
        omega
