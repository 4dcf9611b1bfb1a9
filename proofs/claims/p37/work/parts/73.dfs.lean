/-! Going through the readings, one behind the other. -/
abbrev pr_s0 (S : pw_S) (j f len p : Nat) (ah : Nat → Int32) (I : py_I) (l : List py_T) : Prop := (j < 8 ∧ py_Ri S j I ∧ S 59 0 5 = Int32.ofNat j ∧ S 59 0 6 = Int32.ofNat f ∧ S 59 0 7 = Int32.ofNat p) ∧ pr_tx S f len p ah ∧ (S 59 0 8 = Int32.ofNat l.length ∧ pr_sk S l)
theorem pr_s0.cur {S S' : pw_S} {j f len p : Nat} {ah : Nat → Int32} {I : py_I} {l : List py_T} {T : py_T} (h : pr_s0 S j f len p ah I l) (hl : l.length ≤ 407) (hf : py_fr (py_KT 407) S S') (hT : py_Rt S' 407 T) : pr_ps S' j f len p ah I l T := by
  obtain ⟨⟨h1, h2, h3, h4, h5⟩, ⟨t1, t2, t3, t4, t5⟩, s1, s2⟩ := h
  refine ⟨⟨h1, hf.Ri h2, ?_, ?_, ?_⟩, ⟨t1, t2, t3, ?_, fun k => ?_⟩, ⟨?_, fun i hi => hf.Rt (by omega) (s2 i hi)⟩, hT⟩
  · rw [hf 59 0 rfl]; exact h3
  · rw [hf 59 0 rfl]; exact h4
  · rw [hf 59 0 rfl]; exact h5
  · rw [hf 53 f rfl]; exact t4
  · rw [hf 11 f rfl]; exact t5 k
  · rw [hf 59 0 rfl]; exact s1
/-- numbers of the reader set -/
theorem pr_s0.set {S : pw_S} {j f len p : Nat} {ah : Nat → Int32} {I : py_I} {l : List py_T} (h : pr_s0 S j f len p ah I l) (k : Nat) (x : Int32) (hk : k ≠ 5 ∧ k ≠ 6 ∧ k ≠ 7) (l' : List py_T) (hl : (upd (S 59 0) k x) 8 = Int32.ofNat l'.length) (hs : pr_sk S l') : pr_s0 (pw_up S 59 0 (upd (S 59 0) k x)) j f len p ah I l' := by
  obtain ⟨⟨h1, h2, h3, h4, h5⟩, ⟨t1, t2, t3, t4, t5⟩, s1, s2⟩ := h
  have hk9 : ∀ (a i : Nat), Nat.beq a 59 = false → pw_up S 59 0 (upd (S 59 0) k x) a i = S a i := fun a i ha => py_up_k _ _ ha
  refine ⟨⟨h1, h2.cong (hk9 _ _ rfl) (hk9 _ _ rfl) (hk9 _ _ rfl) (hk9 _ _ rfl) (hk9 _ _ rfl), ?_, ?_, ?_⟩, ⟨t1, t2, t3, ?_, fun k => ?_⟩, ?_, fun i hi => (hs i hi).cong (hk9 _ _ rfl) (hk9 _ _ rfl) (hk9 _ _ rfl)⟩
  · rw [py_up_s, py_u_n _ _ (fun z => hk.1 z.symm)]; exact h3
  · rw [py_up_s, py_u_n _ _ (fun z => hk.2.1 z.symm)]; exact h4
  · rw [py_up_s, py_u_n _ _ (fun z => hk.2.2 z.symm)]; exact h5
  · rw [hk9 _ _ rfl]; exact t4
  · rw [hk9 _ _ rfl]; exact t5 k
  · rw [py_up_s]; exact hl
theorem pr_ps.s0 {S : pw_S} {j f len p : Nat} {ah : Nat → Int32} {I : py_I} {l : List py_T} {T : py_T} (h : pr_ps S j f len p ah I l T) : pr_s0 S j f len p ah I l := ⟨h.1, h.2.1, h.2.2.1⟩
theorem pr_begin {S : pw_S} {j f len p : Nat} {ah : Nat → Int32} {I : py_I} (hj : j < 8) (hI : py_Ri S j I) (ht : pr_tx S f len p ah) : ∃ S', m_X4_begin S 0 j f (Int32.ofNat p) = some (S', ()) ∧ py_fr py_KR S S' ∧ pr_s0 S' j f len p ah I [pt_0] ∧ S' 59 0 9 = 0 ∧ S' 59 0 10 = 0 := by
  unfold m_X4_begin
  simp only [py_l, py_up_s, py_up_u]
  generalize hd : upd (upd (upd (upd (upd (S 59 0) 5 (Int32.ofNat j)) 6 (Int32.ofNat f)) 7 (Int32.ofNat p)) 9 0) 10 0 = d
  have d5 : d 5 = Int32.ofNat j := by rw [← hd]; rfl
  have d6 : d 6 = Int32.ofNat f := by rw [← hd]; rfl
  have d7 : d 7 = Int32.ofNat p := by rw [← hd]; rfl
  have d9 : d 9 = 0 := by rw [← hd]; rfl
  have d10 : d 10 = 0 := by rw [← hd]; rfl
  rw [show m_X4_beginningAt (pw_up S 59 0 d) 0 0 = some (pw_up S 59 0 d, some 0) from pk_bat (k := 0) (by omega), py_b, py_os]
  obtain ⟨S1, a1, a2, a3⟩ := pk_restart (pw_up S 59 0 d) 0
  rw [a1, py_b]
  have hk : ∀ (a i : Nat), Nat.beq a 59 = false → py_KT 0 a i = false → pw_up S1 59 0 (upd (S1 59 0) 8 1) a i = S a i := fun a i ha hb => by
    rw [py_up_k _ _ ha, a2 a i hb, py_up_k _ _ ha]
  have h59 : S1 59 0 = d := by rw [a2 59 0 rfl, py_up_s]
  obtain ⟨t1, t2, t3, t4, t5⟩ := ht
  refine ⟨_, rfl, ((py_fr_r.up rfl).trans (a2.mono (py_KR_T (by omega)))).up rfl, ⟨⟨hj, hI.cong (hk _ _ rfl rfl) (hk _ _ rfl rfl) (hk _ _ rfl rfl) (hk _ _ rfl rfl) (hk _ _ rfl rfl), ?_, ?_, ?_⟩, ⟨t1, t2, t3, ?_, fun k => ?_⟩, ?_, fun i hi => ?_⟩, ?_, ?_⟩
  · rw [py_up_s, h59]; exact d5
  · rw [py_up_s, h59]; exact d6
  · rw [py_up_s, h59]; exact d7
  · rw [hk _ _ rfl rfl]; exact t4
  · rw [hk _ _ rfl rfl]; exact t5 k
  · rw [py_up_s]; rfl
  · have h1 : i < 1 := hi
    obtain rfl : i = 0 := by omega
    exact a3.cong (py_up_k _ _ rfl) (py_up_k _ _ rfl) (py_up_k _ _ rfl)
  · rw [py_up_s, h59]; exact d9
  · rw [py_up_s, h59]; exact d10
/-- all readings that the kept beginnings lead to, in their order; and how many items are begun for them -/
def pr_lvs (I : py_I) (ah : Nat → Int32) (l : List py_T) : List py_T := l.reverse.flatMap (pt_LV I ah)
def pr_cns (I : py_I) (ah : Nat → Int32) (l : List py_T) : Nat := (l.map (pt_CN I ah)).sum
theorem pr_lvs_nil (I : py_I) (ah : Nat → Int32) : pr_lvs I ah [] = [] := rfl
theorem pr_lvs_snoc (I : py_I) (ah : Nat → Int32) (l : List py_T) (T : py_T) : pr_lvs I ah (l ++ [T]) = pt_LV I ah T ++ pr_lvs I ah l := by
  unfold pr_lvs
  rw [List.reverse_append, List.reverse_singleton, List.singleton_append, List.flatMap_cons]
theorem pr_lvs_app (I : py_I) (ah : Nat → Int32) (l ws : List py_T) : pr_lvs I ah (l ++ ws) = ws.reverse.flatMap (pt_LV I ah) ++ pr_lvs I ah l := by
  unfold pr_lvs
  rw [List.reverse_append, List.flatMap_append]
theorem pr_cns_snoc (I : py_I) (ah : Nat → Int32) (l : List py_T) (T : py_T) : pr_cns I ah (l ++ [T]) = pr_cns I ah l + pt_CN I ah T := by
  unfold pr_cns
  rw [List.map_append, List.sum_append]
  rfl
theorem pr_cns_app (I : py_I) (ah : Nat → Int32) (l ws : List py_T) : pr_cns I ah (l ++ ws) = pr_cns I ah l + (ws.map (pt_CN I ah)).sum := by
  unfold pr_cns
  rw [List.map_append, List.sum_append]
/-- what is known of the kept beginnings -/
def pr_gl (I : py_I) (ah : Nat → Int32) (l : List py_T) : Prop := ∀ i, i < l.length → (pt_gd I (l.getD i pt_0) ∧ pt_rq I ah (l.getD i pt_0)) ∧ i ≤ 5 * pt_rk I (l.getD i pt_0)
theorem pr_getD_l {l m : List py_T} {i : Nat} (h : i < l.length) : (l ++ m).getD i pt_0 = l.getD i pt_0 := by
  rw [List.getD_eq_getElem?_getD, List.getElem?_append_left h, ← List.getD_eq_getElem?_getD]
theorem pr_getD_r {l m : List py_T} {i : Nat} (h : l.length ≤ i) : (l ++ m).getD i pt_0 = m.getD (i - l.length) pt_0 := by
  rw [List.getD_eq_getElem?_getD, List.getElem?_append_right h, ← List.getD_eq_getElem?_getD]
theorem pr_gl.init {I : py_I} {ah : Nat → Int32} {l m : List py_T} (h : pr_gl I ah (l ++ m)) : pr_gl I ah l := fun i hi => by
  have := h i (by rw [List.length_append]; omega)
  rw [pr_getD_l hi] at this
  exact this
theorem pr_gl.last {I : py_I} {ah : Nat → Int32} {l : List py_T} {T : py_T} (h : pr_gl I ah (l ++ [T])) : (pt_gd I T ∧ pt_rq I ah T) ∧ l.length ≤ 5 * pt_rk I T := by
  have := h l.length (by rw [List.length_append, List.length_singleton]; omega)
  rw [pr_getD_r (Nat.le_refl _), Nat.sub_self] at this
  exact this
theorem pr_gl_0 {I : py_I} (hI : pi_ok I) (ah : Nat → Int32) : pr_gl I ah [pt_0] := fun i hi => by
  have h1 : i < 1 := hi
  obtain rfl : i = 0 := by omega
  exact ⟨⟨⟨pt_0_gw hI, pt_0_gu⟩, pt_rq_0 I ah⟩, Nat.zero_le _⟩
theorem pr_gl.ways {I : py_I} (hI : pi_ok I) (hR : pi_rg I) {ah : Nat → Int32} {l : List py_T} {T : py_T} (h : pr_gl I ah (l ++ [T])) (hn : pt_it T < pi_n I) : pr_gl I ah (l ++ pt_ways I ah T) := by
  obtain ⟨⟨g1, g2⟩, g3⟩ := h.last
  intro i hi
  by_cases e : i < l.length
  · rw [pr_getD_l e]
    exact h.init i e
  · rw [pr_getD_r (by omega)]
    rw [List.length_append] at hi
    have h6 := pt_ways_len I ah T
    have hm : (pt_ways I ah T).getD (i - l.length) pt_0 ∈ pt_ways I ah T := by
      rw [List.getD_eq_getElem?_getD, List.getElem?_eq_getElem (by omega)]
      exact List.getElem_mem _
    obtain ⟨w1, w2, w3, w4⟩ := g1.way hI hR hn hm
    refine ⟨⟨w1, g2.way hI hR g1 hn hm⟩, ?_⟩
    have w2 : pi_rk I (pt_it T) (pt_rd T) < pt_rk I ((pt_ways I ah T).getD (i - l.length) pt_0) := w2
    have g3 : l.length ≤ 5 * pi_rk I (pt_it T) (pt_rd T) := g3
    generalize pt_rk I ((pt_ways I ah T).getD (i - l.length) pt_0) = r at *
    omega
theorem pr_gl.len {I : py_I} (hI : pi_ok I) {ah : Nat → Int32} {l : List py_T} (h : pr_gl I ah l) : l.length ≤ 391 := by
  cases hz : l.length with
  | zero => omega
  | succ n =>
    obtain ⟨⟨g1, g2⟩, g3⟩ := h n (by omega)
    have h6 := hI.1.2.1
    have hr := pi_rk_le hI g1.1.1.1 g1.1.1.rd.1
    have g3 : n ≤ 5 * pi_rk I (pt_it (l.getD n pt_0)) (pt_rd (l.getD n pt_0)) := g3
    omega
/-- what goToNext() tells -/
def pr_nx (S S' : pw_S) (j f len p : Nat) (ah : Nat → Int32) (I : py_I) (l : List py_T) (b : Nat) (r : Int32) : Prop := py_fr py_KR S S' ∧
  ((r = 1 ∧ ∃ T l' b', pr_ps S' j f len p ah I l' T ∧ S' 59 0 9 = Int32.ofNat b' ∧ S' 59 0 10 = 0 ∧ b' ≤ 400 ∧ b ≤ b' ∧ pi_n I ≤ pt_it T ∧ pt_gd I T ∧ pt_rq I ah T ∧ pr_gl I ah l' ∧ pr_lvs I ah l = T :: pr_lvs I ah l' ∧ b + pr_cns I ah l = b' + pr_cns I ah l' ∧ l'.length + 1 + 5 * b ≤ l.length + 5 * b') ∨
   (r = 0 ∧ S' 59 0 10 = 0 ∧ pr_lvs I ah l = [] ∧ b + pr_cns I ah l ≤ 400) ∨ (r = 0 ∧ S' 59 0 10 = 1 ∧ 400 < b + pr_cns I ah l))
theorem pr_next {j f len p : Nat} {ah : Nat → Int32} {I : py_I} (hI : pi_ok I) (hR : pi_rg I) : ∀ (n N v : Nat) (S : pw_S) (l : List py_T) (b : Nat), n + 1 < N → b + n = 400 → v + n < 9999 → pr_s0 S j f len p ah I l → pr_gl I ah l → S 59 0 9 = Int32.ofNat b → S 59 0 10 = 0 → ∃ S' r, m_X4_goToNext_2 N S 0 (Int32.ofNat v) = some (S', r) ∧ pr_nx S S' j f len p ah I l b r := by
  intro n
  induction n using Nat.strongRecOn with
  | _ n ih =>
    intro N v S l b hN hb hv h hg h9 h10
    obtain ⟨N, rfl⟩ : ∃ k, N = k + 1 := ⟨N - 1, by omega⟩
    have hlen := hg.len hI
    unfold m_X4_goToNext_2
    rw [py_jeL (l := 10000) (by omega) (by omega), if_neg (show ¬ 10000 ≤ v by omega), h.2.2.1, py_jeR (l := 0) (by omega) (by omega)]
    rcases List.eq_nil_or_concat l with rfl | ⟨l', T, rfl⟩
    · rw [if_pos (show ([] : List py_T).length ≤ 0 from Nat.le_refl _)]
      exact ⟨S, 0, rfl, py_fr_r, Or.inr (Or.inl ⟨rfl, h10, rfl, by show b + 0 ≤ 400; omega⟩)⟩
    · rw [List.concat_eq_append] at *
      have hlen1 : (l' ++ [T]).length = l'.length + 1 := by rw [List.length_append, List.length_singleton]
      obtain ⟨⟨gd, grq⟩, grk⟩ := hg.last
      rw [if_neg (show ¬ (l' ++ [T]).length ≤ 0 by omega), h10, if_pos rfl, py_l]
      have hsub : Int32.ofNat (l' ++ [T]).length - 1 = Int32.ofNat l'.length := by
        rw [hlen1]
        exact py_sub (b := 1) (by omega)
      rw [hsub]
      have hsk' : pr_sk S l' := fun i hi => by
        have := h.2.2.2 i (by omega)
        rw [pr_getD_l hi] at this
        exact this
      have h1 := h.set 8 (Int32.ofNat l'.length) (by decide) l' (py_u_s _ _ _) hsk'
      have hT1 : py_Rt (pw_up S 59 0 (upd (S 59 0) 8 (Int32.ofNat l'.length))) l'.length T := by
        have := h.2.2.2 l'.length (by omega)
        rw [pr_getD_r (Nat.le_refl _), Nat.sub_self] at this
        exact (show py_Rt S l'.length T from this).cong (py_up_k _ _ rfl) (py_up_k _ _ rfl) (py_up_k _ _ rfl)
      obtain ⟨S2, c1, c2, c3⟩ := pk_copy (pw_up S 59 0 (upd (S 59 0) 8 (Int32.ofNat l'.length))) (i := 407) (k := l'.length) (by omega) hT1
      have h2 := h1.cur (by omega) c2 c3
      have hf2 : py_fr py_KR S S2 := (py_fr_r.up rfl).trans (c2.mono (py_KR_T (by omega)))
      have h92 : S2 59 0 9 = Int32.ofNat b := by
        rw [c2 59 0 rfl, py_up_s, py_u_b _ _ rfl]
        exact h9
      have h102 : S2 59 0 10 = 0 := by
        rw [c2 59 0 rfl, py_up_s, py_u_b _ _ rfl]
        exact h10
      have hit : pt_it T ≤ 14 := by
        have := gd.1.1.1
        have := hI.1.2.1
        omega
      rw [py_up_s, py_u_s, pk_bat (by omega), py_b, py_os, c1, py_b, h2.1.2.2.1, pk_dn h2.1.1 (by omega), pk_over h2.1.2.1 h2.2.2.2 hit, py_b]
      by_cases hov : pi_n I ≤ pt_it T
      · rw [if_pos hov, if_neg py_10]
        obtain ⟨o1, o2⟩ := pt_LV_over (ah := ah) hov
        refine ⟨S2, 1, rfl, hf2, Or.inl ⟨rfl, T, l', b, h2, h92, h102, by omega, Nat.le_refl _, hov, gd, grq, hg.init, ?_, ?_, by omega⟩⟩
        · rw [pr_lvs_snoc, o1]
          rfl
        · rw [pr_cns_snoc, o2]
          rfl
      · rw [if_neg hov, if_pos rfl, py_l, h92, py_add1, py_up_s, py_u_s, py_jeR (l := 400) (by omega) (by omega)]
        obtain ⟨w1, w2⟩ := pt_LV_step hI hR (ah := ah) gd hov
        have h3 := h2.s0.set 9 (Int32.ofNat (b + 1)) (by decide) l' (by rw [py_u_b _ _ rfl]; exact h2.2.2.1.1) h2.2.2.1.2
        have hps3 : pr_ps (pw_up S2 59 0 (upd (S2 59 0) 9 (Int32.ofNat (b + 1)))) j f len p ah I l' T := ⟨h3.1, h3.2.1, h3.2.2, h2.2.2.2.cong (py_up_k _ _ rfl) (py_up_k _ _ rfl) (py_up_k _ _ rfl)⟩
        by_cases hb4 : b + 1 ≤ 400
        · obtain ⟨n, rfl⟩ : ∃ k, n = k + 1 := ⟨n - 1, by omega⟩
          rw [if_pos hb4, py_l, py_up_s, py_up_u]
          have h4 := hps3.s0.set 10 0 (by decide) l' (by rw [py_u_b _ _ rfl]; exact h3.2.2.1) h3.2.2.2
          rw [py_up_s, py_up_u] at h4
          have hps4 : pr_ps (pw_up S2 59 0 (upd (upd (S2 59 0) 9 (Int32.ofNat (b + 1))) 10 0)) j f len p ah I l' T := ⟨h4.1, h4.2.1, h4.2.2, h2.2.2.2.cong (py_up_k _ _ rfl) (py_up_k _ _ rfl) (py_up_k _ _ rfl)⟩
          obtain ⟨S5, d1, d2, d3⟩ := pr_branch hI hR (by omega) hps4 gd (by omega)
          have hgw := hg.ways hI hR (by omega)
          have h95 : S5 59 0 9 = Int32.ofNat (b + 1) := by
            rw [d2.2 9 (by decide), py_up_s]
            rfl
          have h105 : S5 59 0 10 = 0 := by
            rw [d2.2 10 (by decide), py_up_s]
            rfl
          rw [py_u_s, if_pos rfl, d1, py_b, py_l, py_add1]
          obtain ⟨S6, r, e1, e2, e3⟩ := ih n (by omega) N (v + 1) S5 (l' ++ pt_ways I ah T) (b + 1) (by omega) (by omega) (by omega) d3.s0 hgw h95 h105
          have hlv : pr_lvs I ah (l' ++ [T]) = pr_lvs I ah (l' ++ pt_ways I ah T) := by
            rw [pr_lvs_snoc, pr_lvs_app, w1]
          have hcn : b + pr_cns I ah (l' ++ [T]) = b + 1 + pr_cns I ah (l' ++ pt_ways I ah T) := by
            rw [pr_cns_snoc, pr_cns_app, w2]
            omega
          have h6 := pt_ways_len I ah T
          refine ⟨S6, r, e1, (hf2.trans ((py_fr_r.up rfl).trans d2.1)).trans e2, ?_⟩
          rw [hlv, hcn]
          rcases e3 with ⟨e3, T', l2, b', q1, q2, q3, q4, q5, q6, q7, q8, q9, q10, q11, q12⟩ | e3 | e3
          · rw [List.length_append] at q12
            exact Or.inl ⟨e3, T', l2, b', q1, q2, q3, q4, by omega, q6, q7, q8, q9, q10, q11, by omega⟩
          · exact Or.inr (Or.inl e3)
          · exact Or.inr (Or.inr e3)
        · rw [if_neg hb4, py_l, py_up_s, py_up_u, py_u_s, if_neg py_10, py_l]
          obtain ⟨N, rfl⟩ : ∃ k, N = k + 1 := ⟨N - 1, by omega⟩
          have hkp : pw_up S2 59 0 (upd (upd (S2 59 0) 9 (Int32.ofNat (b + 1))) 10 1) 59 0 8 = Int32.ofNat l'.length := by
            rw [py_up_s]
            exact h2.2.2.1.1
          have hpos := pt_CN_pos hI hR (ah := ah) gd hov
          unfold m_X4_goToNext_2
          rw [py_add1, py_jeL (l := 10000) (by omega) (by omega), if_neg (show ¬ 10000 ≤ v + 1 by omega), hkp, py_jeR (l := 0) (by omega) (by omega), py_up_s, py_u_s]
          have hend : pr_nx S (pw_up S2 59 0 (upd (upd (S2 59 0) 9 (Int32.ofNat (b + 1))) 10 1)) j f len p ah I (l' ++ [T]) b 0 := by
            refine ⟨hf2.trans (py_fr_r.up rfl), Or.inr (Or.inr ⟨rfl, by rw [py_up_s]; rfl, ?_⟩)⟩
            rw [pr_cns_snoc]
            have : 1 ≤ pt_cn I ah (13 * pi_n I) T := hpos
            show 400 < b + (pr_cns I ah l' + pt_cn I ah (13 * pi_n I) T)
            omega
          by_cases hz : l'.length ≤ 0
          · rw [if_pos hz]
            exact ⟨_, 0, rfl, hend⟩
          · rw [if_neg hz, if_neg py_10]
            exact ⟨_, 0, rfl, hend⟩
theorem pr_goToNext {j f len p : Nat} {ah : Nat → Int32} {I : py_I} (hI : pi_ok I) (hR : pi_rg I) {S : pw_S} {l : List py_T} {b : Nat} (hb : b ≤ 400) (h : pr_s0 S j f len p ah I l) (hg : pr_gl I ah l) (h9 : S 59 0 9 = Int32.ofNat b) (h10 : S 59 0 10 = 0) : ∃ S' r, m_X4_goToNext S 0 = some (S', r) ∧ pr_nx S S' j f len p ah I l b r := by
  unfold m_X4_goToNext
  rw [py_l]
  exact pr_next hI hR (400 - b) (pw_F 20000) 0 S l b (by rw [py_F]; omega) (by omega) (by omega) h hg h9 h10
