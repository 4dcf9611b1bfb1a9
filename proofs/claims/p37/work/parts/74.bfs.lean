/-! The readings counted item by item, and one behind the other. -/
theorem pr_sum_lv {I : py_I} {ah : Nat → Int32} {ws : List py_T} (h : ∀ w ∈ ws, pi_n I ≤ pt_it w) : (ws.map fun w => (pt_LV I ah w).length).sum = ws.length ∧ (ws.map (pt_CN I ah)).sum = 0 := by
  induction ws with
  | nil => exact ⟨rfl, rfl⟩
  | cons w r ih =>
    obtain ⟨i1, i2⟩ := ih (fun x hx => h x (List.mem_cons_of_mem _ hx))
    obtain ⟨o1, o2⟩ := pt_LV_over (ah := ah) (h w List.mem_cons_self)
    rw [List.map_cons, List.sum_cons, List.map_cons, List.sum_cons, i1, i2, o2]
    refine ⟨?_, rfl⟩
    show (pt_LV I ah w).length + r.length = r.length + 1
    rw [o1, List.length_singleton]
    omega
theorem pr_sum_cn {I : py_I} (hI : pi_ok I) (hR : pi_rg I) {ah : Nat → Int32} {ws : List py_T} (h : ∀ w ∈ ws, pt_gd I w ∧ ¬ pi_n I ≤ pt_it w) : ws.length ≤ (ws.map (pt_CN I ah)).sum := by
  induction ws with
  | nil => exact Nat.le_refl _
  | cons w r ih =>
    have i1 := ih (fun x hx => h x (List.mem_cons_of_mem _ hx))
    obtain ⟨g1, g2⟩ := h w List.mem_cons_self
    have := pt_CN_pos hI hR (ah := ah) g1 g2
    rw [List.map_cons, List.sum_cons, List.length_cons]
    have : 1 ≤ pt_CN I ah w := this
    omega
theorem pr_flat_len {I : py_I} {ah : Nat → Int32} (ws : List py_T) : (ws.reverse.flatMap (pt_LV I ah)).length = (ws.map fun w => (pt_LV I ah w).length).sum := by
  rw [List.length_flatMap, List.map_reverse, List.sum_reverse]
theorem pr_bfs {j f len p : Nat} {ah : Nat → Int32} {I : py_I} (hI : pi_ok I) (hR : pi_rg I) (F C : Nat) : ∀ (N i found : Nat) (S : pw_S) (l : List py_T), 500 < N + i → i ≤ l.length → l.length ≤ 406 → (i ≤ 401) → found ≤ 6 * i → pr_s0 S j f len p ah I l → (∀ k, k < l.length → pt_gd I (l.getD k pt_0) ∧ ¬ pi_n I ≤ pt_it (l.getD k pt_0)) → found + ((l.drop i).map fun w => (pt_LV I ah w).length).sum = F → l.length + ((l.drop i).map (pt_CN I ah)).sum = C + (l.drop i).length →
    ∃ S', m_X4_countItemByItem_4 N S 0 (Int32.ofNat found) (Int32.ofNat i) = some (S', if C ≤ 400 then Int32.ofNat F else -1) ∧ py_fr py_KR S S' ∧ (C ≤ 400 → F ≤ 2406) := by
  intro N
  induction N with
  | zero => intro i found S l h1 h2 h3 h4; omega
  | succ N ih =>
    intro i found S l h1 h2 h3 h4 h5 h hg hF hC
    unfold m_X4_countItemByItem_4
    rw [h.2.2.1, py_je (by omega) (by omega)]
    by_cases e : l.length ≤ i
    · have hdrop : l.drop i = [] := List.drop_eq_nil_of_le e
      rw [hdrop] at hF hC
      have hF : found + 0 = F := hF
      have hC : l.length + 0 = C + 0 := hC
      rw [if_pos e, py_jeR (l := 400) (by omega) (by omega)]
      by_cases e4 : l.length ≤ 400
      · rw [if_pos e4, if_pos (show C ≤ 400 by omega), ← hF]
        exact ⟨S, rfl, py_fr_r, fun _ => by omega⟩
      · rw [if_neg e4, if_neg (show ¬ C ≤ 400 by omega)]
        exact ⟨S, rfl, py_fr_r, fun z => by omega⟩
    · rw [if_neg e, py_jlL (l := 400) (by omega) (by omega)]
      by_cases e4 : 400 < l.length
      · have hsum := pr_sum_cn hI hR (ah := ah) (ws := l.drop i) (fun w hw => by
          obtain ⟨k, hk, rfl⟩ := List.getElem_of_mem hw
          rw [List.length_drop] at hk
          have := hg (i + k) (by omega)
          rw [List.getD_eq_getElem?_getD, List.getElem?_eq_getElem (by omega)] at this
          rw [List.getElem_drop]
          exact this)
        rw [if_pos e4, py_jeR (l := 400) (by omega) (by omega), if_neg (show ¬ l.length ≤ 400 by omega), if_neg (show ¬ C ≤ 400 by omega)]
        exact ⟨S, rfl, py_fr_r, fun z => by omega⟩
      · have hi : i < l.length := by omega
        obtain ⟨gT, oT⟩ := hg i hi
        have hd : l.drop i = l.getD i pt_0 :: l.drop (i + 1) := by
          rw [List.drop_eq_getElem_cons hi, List.getD_eq_getElem?_getD, List.getElem?_eq_getElem hi]
          rfl
        have hTr := h.2.2.2 i hi
        rw [hd] at hF hC
        generalize l.getD i pt_0 = T at *
        rw [List.map_cons, List.sum_cons] at hF hC
        rw [List.length_cons] at hC
        obtain ⟨w1, w2⟩ := pt_LV_step hI hR (ah := ah) gT oT
        have hlw := pr_flat_len (I := I) (ah := ah) (pt_ways I ah T)
        rw [← w1] at hlw
        have h6 := pt_ways_len I ah T
        rw [if_neg e4, pk_bat (by omega), py_b, py_os]
        obtain ⟨S1, c1, c2, c3⟩ := pk_copy S (i := 407) (k := i) (by omega) hTr
        have hps := h.cur (by omega) c2 c3
        obtain ⟨S2, d1, d2, d3⟩ := pr_branch hI hR (by omega) hps gT (by omega)
        have hf2 : py_fr py_KR S S2 := (c2.mono (py_KR_T (by omega))).trans d2.1
        have hk1 : S1 59 0 8 = Int32.ofNat l.length := hps.2.2.1.1
        have hk2 : S2 59 0 8 = Int32.ofNat (l ++ pt_ways I ah T).length := d3.2.2.1.1
        have hlen2 : (l ++ pt_ways I ah T).length = l.length + (pt_ways I ah T).length := List.length_append
        rw [c1, py_b, hk1, py_l, d1, py_b, hk2, hlen2, show Int32.ofNat (l.length + (pt_ways I ah T).length) - 1 = Int32.ofNat (l.length + (pt_ways I ah T).length - 1) from py_sub (b := 1) (by omega), pk_bat (by omega), py_b, py_os, hk2, hlen2, py_je (by omega) (by omega)]
        by_cases e0 : l.length + (pt_ways I ah T).length ≤ l.length
        · have hw0 : pt_ways I ah T = [] := List.eq_nil_of_length_eq_zero (by omega)
          rw [hw0] at hlw w2 d3
          rw [List.append_nil] at d3
          have hlw : (pt_LV I ah T).length = 0 := hlw
          have w2 : pt_CN I ah T = 1 + 0 := w2
          rw [if_pos e0, py_l, py_add1]
          obtain ⟨S', i1, i2, i3⟩ := ih (i + 1) found S2 l (by omega) (by omega) (by omega) (by omega) (by omega) d3.s0 hg (by omega) (by omega)
          exact ⟨S', i1, hf2.trans i2, i3⟩
        · rw [if_neg e0]
          have hlast : py_Rt S2 (l.length + (pt_ways I ah T).length - 1) ((pt_ways I ah T).getD ((pt_ways I ah T).length - 1) pt_0) := by
            have := d3.2.2.1.2 (l.length + (pt_ways I ah T).length - 1) (by omega)
            rw [pr_getD_r (by omega), show l.length + (pt_ways I ah T).length - 1 - l.length = (pt_ways I ah T).length - 1 from by omega] at this
            exact this
          have hmem : (pt_ways I ah T).getD ((pt_ways I ah T).length - 1) pt_0 ∈ pt_ways I ah T := by
            rw [List.getD_eq_getElem?_getD, List.getElem?_eq_getElem (by omega)]
            exact List.getElem_mem _
          have hwit : ∀ w ∈ pt_ways I ah T, pt_it w = pt_it ((pt_ways I ah T).getD ((pt_ways I ah T).length - 1) pt_0) := fun w hw => (pt_ways_it hw).trans (pt_ways_it hmem).symm
          have hwg : ∀ w ∈ pt_ways I ah T, pt_gd I w := fun w hw => (gT.way hI hR (by omega) hw).1
          have hit : pt_it ((pt_ways I ah T).getD ((pt_ways I ah T).length - 1) pt_0) ≤ 14 := by
            have := (hwg _ hmem).1.1.1
            have := hI.1.2.1
            omega
          rw [d3.1.2.2.1, pk_dn d3.1.1 (by omega), pk_over d3.1.2.1 hlast hit, py_b]
          by_cases eo : pi_n I ≤ pt_it ((pt_ways I ah T).getD ((pt_ways I ah T).length - 1) pt_0)
          · obtain ⟨s1, s2⟩ := pr_sum_lv (ah := ah) (ws := pt_ways I ah T) (fun w hw => by rw [hwit w hw]; exact eo)
            rw [s1] at hlw
            rw [s2] at w2
            rw [if_pos eo, if_neg py_10, hk2, hlen2, py_sub (by omega), py_add, py_l, py_l, py_l, py_add1]
            have hset := d3.s0.set 8 (Int32.ofNat l.length) (by decide) l (py_u_s _ _ _) (fun k hk => by
              have := d3.2.2.1.2 k (by omega)
              rw [pr_getD_l hk] at this
              exact this)
            obtain ⟨S', i1, i2, i3⟩ := ih (i + 1) (found + (l.length + (pt_ways I ah T).length - l.length)) _ l (by omega) (by omega) (by omega) (by omega) (by omega) hset hg (by omega) (by omega)
            exact ⟨S', i1, (hf2.trans (py_fr_r.up rfl)).trans i2, i3⟩
          · rw [if_neg eo, if_pos rfl, py_l, py_add1]
            have hdrop : (l ++ pt_ways I ah T).drop (i + 1) = l.drop (i + 1) ++ pt_ways I ah T := List.drop_append_of_le_length (by omega)
            obtain ⟨S', i1, i2, i3⟩ := ih (i + 1) found S2 (l ++ pt_ways I ah T) (by omega) (by omega) (by omega) (by omega) (by omega) d3.s0 (fun k hk => by
              by_cases ek : k < l.length
              · rw [pr_getD_l ek]
                exact hg k ek
              · rw [pr_getD_r (by omega)]
                have hm : (pt_ways I ah T).getD (k - l.length) pt_0 ∈ pt_ways I ah T := by
                  rw [List.getD_eq_getElem?_getD, List.getElem?_eq_getElem (by omega)]
                  exact List.getElem_mem _
                exact ⟨hwg _ hm, by rw [hwit _ hm]; exact eo⟩) (by
                rw [hdrop, List.map_append, List.sum_append]
                omega) (by
                rw [hdrop, List.map_append, List.sum_append, hlen2, List.length_append]
                have w2 : pt_CN I ah T = 1 + ((pt_ways I ah T).map (pt_CN I ah)).sum := w2
                omega)
            exact ⟨S', i1, hf2.trans i2, i3⟩
theorem pr_root {I : py_I} (hI : pi_ok I) (ah : Nat → Int32) : pt_gd I pt_0 ∧ pt_rq I ah pt_0 ∧ ¬ pi_n I ≤ pt_it pt_0 := ⟨⟨pt_0_gw hI, pt_0_gu⟩, pt_rq_0 I ah, fun z => by have := hI.1.1; have z : pi_n I ≤ 0 := z; omega⟩
theorem pr_countAll {S : pw_S} {j f len p : Nat} {ah : Nat → Int32} {I : py_I} (hI : pi_ok I) (hR : pi_rg I) (h : pr_s0 S j f len p ah I [pt_0]) : ∃ S', m_X4_countItemByItem S 0 = some (S', if pt_CN I ah pt_0 ≤ 400 then Int32.ofNat (pt_LV I ah pt_0).length else -1) ∧ py_fr py_KR S S' ∧ (pt_CN I ah pt_0 ≤ 400 → (pt_LV I ah pt_0).length ≤ 2406) := by
  unfold m_X4_countItemByItem
  rw [py_l, py_l]
  refine pr_bfs hI hR (pt_LV I ah pt_0).length (pt_CN I ah pt_0) (pw_F 20000) 0 0 S [pt_0] (by rw [py_F]; omega) (by decide) (by decide) (by omega) (by omega) h (fun k hk => ?_) ?_ ?_
  · have h1 : k < 1 := hk
    obtain rfl : k = 0 := by omega
    exact ⟨(pr_root hI ah).1, (pr_root hI ah).2.2⟩
  · show 0 + ((pt_LV I ah pt_0).length + 0) = _
    omega
  · show 1 + (pt_CN I ah pt_0 + 0) = pt_CN I ah pt_0 + 1
    omega
/-- the reader stands behind so many readings -/
def pr_go (S : pw_S) (j f len p : Nat) (ah : Nat → Int32) (I : py_I) (l : List py_T) (b found : Nat) : Prop := pr_s0 S j f len p ah I l ∧ pr_gl I ah l ∧ S 59 0 9 = Int32.ofNat b ∧ S 59 0 10 = 0 ∧ b ≤ 400 ∧ found + l.length ≤ 1 + 5 * b
theorem pr_go_0 {S : pw_S} {j f len p : Nat} {ah : Nat → Int32} {I : py_I} (hI : pi_ok I) (h : pr_s0 S j f len p ah I [pt_0]) (h9 : S 59 0 9 = 0) (h10 : S 59 0 10 = 0) : pr_go S j f len p ah I [pt_0] 0 0 := ⟨h, pr_gl_0 hI ah, h9, h10, by omega, Nat.le_refl _⟩
theorem pr_all_0 (I : py_I) (ah : Nat → Int32) : pr_lvs I ah [pt_0] = pt_LV I ah pt_0 ∧ 0 + pr_cns I ah [pt_0] = pt_CN I ah pt_0 := by
  refine ⟨?_, ?_⟩
  · show ([pt_0].reverse.flatMap (pt_LV I ah)) = _
    rw [List.reverse_singleton, List.flatMap_cons, List.flatMap_nil, List.append_nil]
  · show 0 + (pt_CN I ah pt_0 + 0) = _
    omega
/-- a next reading, or none -/
theorem pr_go.next {S : pw_S} {j f len p : Nat} {ah : Nat → Int32} {I : py_I} {l : List py_T} {b found : Nat} (hI : pi_ok I) (hR : pi_rg I) (h : pr_go S j f len p ah I l b found) : ∃ S' r, m_X4_goToNext S 0 = some (S', r) ∧ py_fr py_KR S S' ∧
    ((r = 1 ∧ ∃ T l' b', pr_ps S' j f len p ah I l' T ∧ pr_go S' j f len p ah I l' b' (found + 1) ∧ pi_n I ≤ pt_it T ∧ pt_gd I T ∧ pt_rq I ah T ∧ pr_lvs I ah l = T :: pr_lvs I ah l' ∧ b + pr_cns I ah l = b' + pr_cns I ah l') ∨ (r = 0 ∧ S' 59 0 10 = 0 ∧ pr_lvs I ah l = [] ∧ b + pr_cns I ah l ≤ 400) ∨ (r = 0 ∧ S' 59 0 10 = 1 ∧ 400 < b + pr_cns I ah l)) := by
  obtain ⟨h1, h2, h3, h4, h5, h6⟩ := h
  obtain ⟨S', r, a1, a2, a3⟩ := pr_goToNext hI hR h5 h1 h2 h3 h4
  refine ⟨S', r, a1, a2, ?_⟩
  rcases a3 with ⟨e3, T, l', b', q1, q2, q3, q4, q5, q6, q7, q8, q9, q10, q11, q12⟩ | e3 | e3
  · exact Or.inl ⟨e3, T, l', b', q1, ⟨q1.s0, q9, q2, q3, q4, by omega⟩, q6, q7, q8, q10, q11⟩
  · exact Or.inr (Or.inl e3)
  · exact Or.inr (Or.inr e3)
theorem pr_cnt_75 {j f len p : Nat} {ah : Nat → Int32} {I : py_I} (hI : pi_ok I) (hR : pi_rg I) (i0 : Nat) : ∀ (N : Nat) (S : pw_S) (l : List py_T) (b found : Nat), 2003 < N + found → pr_go S j f len p ah I l b found →
    ∃ S', m_X11_readings_75 N S i0 (Int32.ofNat found) (Int32.ofNat found) = some (S', .inl (if b + pr_cns I ah l ≤ 400 then Int32.ofNat (min (found + (pr_lvs I ah l).length) 99) else -1)) ∧ py_fr py_KR S S' := by
  intro N
  induction N with
  | zero =>
    intro S l b found hN h
    have h5 := h.2.2.2.2.1
    have h6 := h.2.2.2.2.2
    omega
  | succ N ih =>
    intro S l b found hN h
    have h5 := h.2.2.2.2.1
    have h6 := h.2.2.2.2.2
    unfold m_X11_readings_75
    rw [py_jeL (l := 10000) (by omega) (by omega), if_neg (show ¬ 10000 ≤ found by omega)]
    obtain ⟨S1, r, a1, a2, a3⟩ := h.next hI hR
    rw [a1, py_b]
    rcases a3 with ⟨rfl, T, l', b', q1, q2, q3, q4, q5, q6, q7⟩ | ⟨rfl, q1, q2, q3⟩ | ⟨rfl, q1, q2⟩
    · rw [if_neg py_10, py_l, py_l, py_add1]
      obtain ⟨S2, i1, i2⟩ := ih S1 l' b' (found + 1) (by omega) q2
      refine ⟨S2, ?_, a2.trans i2⟩
      rw [i1, q6, q7, List.length_cons, show found + 1 + (pr_lvs I ah l').length = found + ((pr_lvs I ah l').length + 1) from by omega]
    · rw [if_pos rfl, q1, if_pos rfl, q2, if_pos q3, py_jlL (l := 99) (by omega) (by omega)]
      refine ⟨S1, ?_, a2⟩
      by_cases e : 99 < found
      · rw [if_pos e, show min (found + ([] : List py_T).length) 99 = 99 from Nat.min_eq_right (by show 99 ≤ found + 0; omega)]
        rfl
      · rw [if_neg e, show min (found + ([] : List py_T).length) 99 = found from Nat.min_eq_left (by show found + 0 ≤ 99; omega)]
    · rw [if_pos rfl, q1, if_neg py_10, if_neg (show ¬ b + pr_cns I ah l ≤ 400 by omega)]
      exact ⟨S1, rfl, a2⟩
theorem py_lp_le {k q : Nat} (hk : k < 2147483648) (hq : q < 2147483648) : (Int32.ofNat k ≤ py_lp q) = (k + 1 ≤ q) := by
  cases q with
  | zero =>
    refine propext ⟨fun z => ?_, fun z => by omega⟩
    rw [Int32.le_iff_toInt_le, py_ti hk] at z
    have : (py_lp 0).toInt = -1 := rfl
    omega
  | succ q =>
    rw [py_lp_succ, py_le hk (by omega)]
    exact propext ⟨fun z => by omega, fun z => by omega⟩
theorem py_lp_add1 (q : Nat) : py_lp q + 1 = py_lp (q + 1) := by
  cases q with
  | zero => rfl
  | succ q => rw [py_lp_succ, py_add1]; rfl
theorem pr_read_91 {j f len p : Nat} {ah : Nat → Int32} {I : py_I} (hI : pi_ok I) (hR : pi_rg I) (i0 : Nat) (K : pw_S → Nat → Int32 → Int32 → Int32 → pw_R (Int32 ⊕ Nat)) (k : Nat) (hk : k ≤ 1000) (x : Int32) : ∀ (N : Nat) (S : pw_S) (l : List py_T) (b found : Nat), 2003 < N + found → found ≤ k → pr_go S j f len p ah I l b found → b + pr_cns I ah l ≤ 400 →
    (k - found < (pr_lvs I ah l).length → ∃ S' l', m_X11_read_91 K N S i0 x (Int32.ofNat k) (py_lp found) (Int32.ofNat found) = K S' i0 x (Int32.ofNat k) (py_lp (k + 1)) ∧ py_fr py_KR S S' ∧ pr_ps S' j f len p ah I l' ((pr_lvs I ah l).getD (k - found) pt_0)) ∧
    ((pr_lvs I ah l).length ≤ k - found → ∃ S' q, q ≤ k ∧ m_X11_read_91 K N S i0 x (Int32.ofNat k) (py_lp found) (Int32.ofNat found) = K S' i0 x (Int32.ofNat k) (py_lp q) ∧ py_fr py_KR S S') := by
  intro N
  induction N with
  | zero =>
    intro S l b found hN _ h
    have h5 := h.2.2.2.2.1
    have h6 := h.2.2.2.2.2
    omega
  | succ N ih =>
    intro S l b found hN hfk h hnf
    have h5 := h.2.2.2.2.1
    have h6 := h.2.2.2.2.2
    unfold m_X11_read_91
    rw [py_jeL (l := 10000) (by omega) (by omega), if_neg (show ¬ 10000 ≤ found by omega), py_ic (py_lp_le (by omega) (by omega)), if_neg (show ¬ k + 1 ≤ found by omega)]
    obtain ⟨S1, r, a1, a2, a3⟩ := h.next hI hR
    rw [a1, py_b]
    rcases a3 with ⟨rfl, T, l', b', q1, q2, q3, q4, q5, q6, q7⟩ | ⟨rfl, q1, q2, q3⟩ | ⟨rfl, q1, q2⟩
    · rw [if_neg py_10, py_l, py_l, py_add1, py_lp_add1, q6, List.length_cons]
      by_cases e : found = k
      · subst e
        refine ⟨fun _ => ⟨S1, l', ?_, a2, ?_⟩, fun z => by omega⟩
        · obtain ⟨N, rfl⟩ : ∃ m, N = m + 1 := ⟨N - 1, by omega⟩
          unfold m_X11_read_91
          rw [py_jeL (l := 10000) (by omega) (by omega), if_neg (show ¬ 10000 ≤ found + 1 by omega), py_ic (py_lp_le (by omega) (by omega)), if_pos (show found + 1 ≤ found + 1 from Nat.le_refl _)]
        · rw [Nat.sub_self]
          exact q1
      · obtain ⟨i1, i2⟩ := ih S1 l' b' (found + 1) (by omega) (by omega) q2 (by omega)
        refine ⟨fun z => ?_, fun z => ?_⟩
        · obtain ⟨S2, l2, j1, j2, j3⟩ := i1 (by omega)
          refine ⟨S2, l2, j1, a2.trans j2, ?_⟩
          rw [show k - found = (k - (found + 1)) + 1 from by omega]
          exact j3
        · obtain ⟨S2, q, j1, j2, j3⟩ := i2 (by omega)
          exact ⟨S2, q, j1, j2, a2.trans j3⟩
    · rw [if_pos rfl, q2]
      refine ⟨fun z => absurd z (Nat.not_lt_zero _), fun _ => ⟨S1, found, hfk, rfl, a2⟩⟩
    · omega
/-! the public calls -/
theorem pm_desc {S : pw_S} {d dc : Nat} (h : S 61 0 2 = Int32.ofNat dc) (hd : d < dc) (hc : dc ≤ 6) : m_X11_descriptionOf S 0 (Int32.ofNat d) = some (S, some d) := by
  unfold m_X11_descriptionOf
  rw [py_jn (by omega), h, py_je (by omega) (by omega), if_neg (show ¬ dc ≤ d by omega), py_jeL (l := 6) (by omega) (by omega), if_neg (show ¬ 6 ≤ d by omega), py_l, if_neg py_10, py_ct (py_inb (by omega) (by omega)), pk_dn (by omega) (by omega)]
theorem pm_file {S : pw_S} {f : Nat} (hf : f < 2) : m_X11_fileOf S 0 (Int32.ofNat f) = some (S, some f) := by
  unfold m_X11_fileOf
  rw [py_jn (by omega), py_jeL (l := 2) (by omega) (by omega), if_neg (show ¬ 2 ≤ f by omega), py_ct (py_inb (by omega) (by omega)), pk_dn (by omega) (by omega)]
theorem pm_place {S : pw_S} {f len p : Nat} {ah : Nat → Int32} (h : pr_tx S f len p ah) : m_X7_hasPlace S f (Int32.ofNat p) = some (S, 1) := by
  obtain ⟨t1, t2, t3, t4, t5⟩ := h
  unfold m_X7_hasPlace
  rw [py_jn (by omega), t4, py_jl (by omega) (by omega), if_neg (show ¬ len < p by omega)]
theorem pm_readings {S : pw_S} {d dc f len p : Nat} {ah : Nat → Int32} {I : py_I} (hI : pi_ok I) (hR : pi_rg I) (hdc : S 61 0 2 = Int32.ofNat dc) (hd : d < dc) (hc : dc ≤ 6) (hRi : py_Ri S d I) (hf : f < 2) (ht : pr_tx S f len p ah) :
    ∃ S', m_X11_readings S 0 (Int32.ofNat d) (Int32.ofNat f) (Int32.ofNat p) = some (S', .inl (if pt_CN I ah pt_0 ≤ 400 then Int32.ofNat (min (pt_LV I ah pt_0).length 99) else -1)) ∧ py_fr py_KR S S' := by
  obtain ⟨S1, b1, b2, b3, b4, b5⟩ := pr_begin (show d < 8 by omega) hRi ht
  unfold m_X11_readings
  rw [pm_desc hdc hd hc, py_b, py_os, pm_file hf, py_b, py_os, pm_place ht, py_b, if_neg py_10, py_l, b1, py_b, py_l]
  obtain ⟨S2, c1, c2⟩ := pr_cnt_75 hI hR 0 (pw_F 20000) S1 [pt_0] 0 0 (by rw [py_F]; omega) (pr_go_0 hI b3 b4 b5)
  obtain ⟨e1, e2⟩ := pr_all_0 I ah
  rw [e1, e2, Nat.zero_add] at c1
  exact ⟨S2, c1, b2.trans c2⟩
theorem pm_readingsAnew {S : pw_S} {d dc f len p : Nat} {ah : Nat → Int32} {I : py_I} (hI : pi_ok I) (hR : pi_rg I) (hdc : S 61 0 2 = Int32.ofNat dc) (hd : d < dc) (hc : dc ≤ 6) (hRi : py_Ri S d I) (hf : f < 2) (ht : pr_tx S f len p ah) :
    ∃ S', m_X11_readingsAnew S 0 (Int32.ofNat d) (Int32.ofNat f) (Int32.ofNat p) = some (S', .inl (if pt_CN I ah pt_0 ≤ 400 then Int32.ofNat (min (pt_LV I ah pt_0).length 99) else -1)) ∧ py_fr py_KR S S' := by
  obtain ⟨S1, b1, b2, b3, b4, b5⟩ := pr_begin (show d < 8 by omega) hRi ht
  obtain ⟨S2, c1, c2, c3⟩ := pr_countAll hI hR b3
  unfold m_X11_readingsAnew
  rw [pm_desc hdc hd hc, py_b, py_os, pm_file hf, py_b, py_os, pm_place ht, py_b, if_neg py_10, b1, py_b, c1, py_b]
  refine ⟨S2, ?_, b2.trans c2⟩
  by_cases e : pt_CN I ah pt_0 ≤ 400
  · have hl := c3 e
    rw [if_pos e, if_pos e, py_jlL (l := 99) (by omega) (by omega)]
    by_cases e2 : 99 < (pt_LV I ah pt_0).length
    · rw [if_pos e2, Nat.min_eq_right (by omega)]
      rfl
    · rw [if_neg e2, Nat.min_eq_left (by omega)]
  · rw [if_neg e, if_neg e]
    rfl
def py_KX (a i : Nat) : Bool := py_KR a i || Nat.beq a 35
theorem py_KR_X : ∀ a b, py_KR a b = true → py_KX a b = true := fun a b h => by unfold py_KX; rw [h]; rfl
theorem pm_read {S : pw_S} {d dc f len p k : Nat} {ah : Nat → Int32} {I : py_I} (hI : pi_ok I) (hR : pi_rg I) (hdc : S 61 0 2 = Int32.ofNat dc) (hd : d < dc) (hc : dc ≤ 6) (hRi : py_Ri S d I) (hf : f < 2) (ht : pr_tx S f len p ah) (hk : k ≤ 1000) (hn : pt_CN I ah pt_0 ≤ 400) :
    (k < (pt_LV I ah pt_0).length → ∃ S', m_X11_read S 0 (Int32.ofNat d) (Int32.ofNat f) (Int32.ofNat p) (Int32.ofNat k) = some (S', .inl (Int32.ofNat (p + pt_ln ((pt_LV I ah pt_0).getD k pt_0)))) ∧ py_fr py_KX S S' ∧ ∀ c, c < 24 → S' 35 0 c = pt_v ((pt_LV I ah pt_0).getD k pt_0) c) ∧
    ((pt_LV I ah pt_0).length ≤ k → ∃ S', m_X11_read S 0 (Int32.ofNat d) (Int32.ofNat f) (Int32.ofNat p) (Int32.ofNat k) = some (S', .inr 0) ∧ py_fr py_KX S S') := by
  obtain ⟨S1, b1, b2, b3, b4, b5⟩ := pr_begin (show d < 8 by omega) hRi ht
  obtain ⟨e1, e2⟩ := pr_all_0 I ah
  unfold m_X11_read
  rw [pm_desc hdc hd hc, py_b, py_os, pm_file hf, py_b, py_os, pm_place ht, py_b, if_neg py_10, py_jz (by omega), py_l, b1, py_b, py_l]
  obtain ⟨c1, c2⟩ := pr_read_91 (f := f) (len := len) (p := p) (ah := ah) hI hR 0 (fun S43 u38 u40 u41 u42 => (if u41 ≤ u42 then (pw_b (m_X11_copyCells S43 0 407 0 35 0 0 24) fun S46 r49 => some (S46, .inl (u40 + (S46 50 407 6)))) else (some (S43, .inr 0)))) k hk (Int32.ofNat p) (pw_F 20000) S1 [pt_0] 0 0 (by rw [py_F]; omega) (Nat.zero_le _) (pr_go_0 hI b3 b4 b5) (by rw [e2]; exact hn)
  rw [e1, Nat.sub_zero] at c1 c2
  refine ⟨fun z => ?_, fun z => ?_⟩
  · obtain ⟨S2, l', d1, d2, d3⟩ := c1 z
    have d1 := d1
    rw [show py_lp 0 = -1 from rfl, show Int32.ofNat 0 = 0 from rfl] at d1
    rw [d1, py_ic (py_lp_le (by omega) (by omega)), if_pos (Nat.le_refl _)]
    have hcp := py_cpy S2 0 407 0 35 0 0 24 (by omega) (by decide) (by decide) rfl
    rw [show m_X11_copyCells S2 0 407 0 35 0 0 24 = _ from hcp, py_b, py_up_k _ _ rfl, d3.2.2.2.2.2.2.2.2.2.1, py_add]
    refine ⟨_, rfl, ((b2.trans d2).mono py_KR_X).up rfl, fun c hc9 => ?_⟩
    rw [py_up_s, ← d3.2.2.2.1 c hc9]
    unfold va_cpy
    rw [if_pos (by omega)]
    congr 1
    omega
  · obtain ⟨S2, q, hq, d1, d2⟩ := c2 z
    rw [show py_lp 0 = -1 from rfl, show Int32.ofNat 0 = 0 from rfl] at d1
    rw [d1, py_ic (py_lp_le (by omega) (by omega)), if_neg (by omega)]
    exact ⟨S2, rfl, (b2.trans d2).mono py_KR_X⟩
