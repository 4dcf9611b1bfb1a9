/-! What was printed is read back. -/
theorem pt_LV_long {I : py_I} (hI : pi_ok I) (hR : pi_rg I) {ah : Nat → Int32} {T : py_T} (hT : T ∈ pt_LV I ah pt_0) : 1 ≤ pt_ln T ∧ pt_gd I T ∧ pt_rq I ah T ∧ pi_n I ≤ pt_it T := by
  obtain ⟨r1, r2, r3⟩ := pr_root hI ah
  obtain ⟨g1, g2, g3, g4⟩ := pt_lv_mem hI hR _ _ _ r1 r2 hT
  refine ⟨?_, g1, g2, g3⟩
  rw [(pt_LV_step hI hR (ah := ah) r1 r3).1] at hT
  obtain ⟨W, hW, hT⟩ := List.mem_flatMap.mp hT
  have hW := List.mem_reverse.mp hW
  obtain ⟨w1, w2, w3, w4⟩ := r1.way hI hR (by omega) hW
  obtain ⟨_, _, _, h5⟩ := pt_lv_mem hI hR _ _ _ w1 (r2.way hI hR r1 (by omega) hW) hT
  have h7 : ¬ (pi_k I (pt_it pt_0) = 7 ∨ pi_k I (pt_it pt_0) = 8) := fun z => by
    have q1 := hI.1.2.2.1
    have q2 := hI.1.2.2.2
    rcases z with z | z
    · exact q1 z
    · exact q2 z
  unfold pt_ways at hW
  rw [if_neg h7] at hW
  obtain ⟨⟨v, m⟩, hm, hh⟩ := List.mem_filterMap.mp hW
  dsimp only at hh
  split at hh
  · obtain rfl := Option.some.inj hh
    have s2 := (pe_sound hI hR (by omega) hm).2.1
    have a2 := (pt_aft_v I pt_0 v (pe_tk ah (pt_ln pt_0) m)).2
    rw [pe_tk_len] at a2
    omega
  · cases hh
theorem pm_readsAt {S : pw_S} {d dc f len p k : Nat} {ah : Nat → Int32} {I : py_I} (hI : pi_ok I) (hR : pi_rg I) (hdc : S 61 0 2 = Int32.ofNat dc) (hd : d < dc) (hc : dc ≤ 6) (hRi : py_Ri S d I) (hf : f < 2) (ht : pr_tx S f len p ah) (hk : k ≤ 1000) (hn : pt_CN I ah pt_0 ≤ 400) :
    (k < (pt_LV I ah pt_0).length → ∃ S', m_L_readsAt S 0 (Int32.ofNat d) (Int32.ofNat f) (Int32.ofNat p) (Int32.ofNat k) = some (S', Int32.ofNat (p + pt_ln ((pt_LV I ah pt_0).getD k pt_0))) ∧ py_fr py_KX S S' ∧ ∀ c, c < 24 → S' 35 0 c = pt_v ((pt_LV I ah pt_0).getD k pt_0) c) ∧
    ((pt_LV I ah pt_0).length ≤ k → ∃ S', m_L_readsAt S 0 (Int32.ofNat d) (Int32.ofNat f) (Int32.ofNat p) (Int32.ofNat k) = some (S', -70007) ∧ py_fr py_KX S S') := by
  obtain ⟨r1, r2⟩ := pm_read hI hR hdc hd hc hRi hf ht hk hn
  unfold m_L_readsAt
  refine ⟨fun z => ?_, fun z => ?_⟩
  · obtain ⟨S', a1, a2, a3⟩ := r1 z
    rw [a1, py_b, py_el]
    exact ⟨S', rfl, a2, a3⟩
  · obtain ⟨S', a1, a2⟩ := r2 z
    rw [a1, py_b, py_er]
    exact ⟨S', rfl, a2⟩
theorem pr_tx.fr {S S' : pw_S} {f len p : Nat} {ah : Nat → Int32} (h : pr_tx S f len p ah) (h1 : S' 53 f = S 53 f) (h2 : S' 11 f = S 11 f) : pr_tx S' f len p ah := by
  obtain ⟨t1, t2, t3, t4, t5⟩ := h
  refine ⟨t1, t2, t3, ?_, fun k => ?_⟩
  · rw [h1]; exact t4
  · rw [h2]; exact t5 k
theorem pl_back_j150 {S : pw_S} {d dc f len p : Nat} {ah : Nat → Int32} {I : py_I} (hI : pi_ok I) (hR : pi_rg I) (hdc : S 61 0 2 = Int32.ofNat dc) (hd : d < dc) (hc : dc ≤ 6) (hRi : py_Ri S d I) (hf : f < 2) (ht : pr_tx S f len p ah) (hn : pt_CN I ah pt_0 ≤ 400) (h1 : 1 ≤ (pt_LV I ah pt_0).length) : ∃ S', m_L_isReadBack_j150 S 0 (Int32.ofNat d) (Int32.ofNat f) (Int32.ofNat p) (Int32.ofNat (min (pt_LV I ah pt_0).length 99)) = some (S', 1) ∧ py_fr py_KX S S' := by
  obtain ⟨r, s1, s2⟩ := pm_sure hdc hd hc hRi
  have last : ∃ S', (if Int32.ofNat (min (pt_LV I ah pt_0).length 99) = 99 then (some (S, (1 : Int32))) else (pw_b (m_L_readsAt S 0 (Int32.ofNat d) (Int32.ofNat f) (Int32.ofNat p) (Int32.ofNat (min (pt_LV I ah pt_0).length 99))) fun S38 r41 => if r41 = (-70007) then (some (S38, 1)) else (some (S38, 0)))) = some (S', 1) ∧ py_fr py_KX S S' := by
    rw [py_jqR (l := 99) (by omega) (by omega)]
    by_cases e : min (pt_LV I ah pt_0).length 99 = 99
    · rw [if_pos e]
      exact ⟨S, rfl, py_fr_r⟩
    · rw [if_neg e]
      obtain ⟨S', a1, a2⟩ := (pm_readsAt (k := min (pt_LV I ah pt_0).length 99) hI hR hdc hd hc hRi hf ht (by omega) hn).2 (by omega)
      rw [a1, py_b, if_pos rfl]
      exact ⟨S', rfl, a2⟩
  unfold m_L_isReadBack_j150
  rw [s1, py_b, py_el]
  rcases s2 with ⟨rfl, hs⟩ | ⟨j, hj, rfl⟩
  · have h2 := (pt_lv_sure hR hs (ah := ah) (13 * pi_n I) pt_0).1
    have h2 : (pt_LV I ah pt_0).length ≤ 1 := h2
    rw [if_neg (by decide), py_jqR (l := 1) (by omega) (by omega), if_pos (show min (pt_LV I ah pt_0).length 99 = 1 by omega)]
    exact last
  · rw [py_jz (by have := hI.1.2.1; omega)]
    exact last
theorem pl_back_58 {d dc f len p : Nat} {ah : Nat → Int32} {I : py_I} (hI : pi_ok I) (hR : pi_rg I) (hd : d < dc) (hc : dc ≤ 6) (hf : f < 2) (hn : pt_CN I ah pt_0 ≤ 400) (K : pw_S → Nat → Int32 → Int32 → Int32 → Int32 → Int32 → Int32 → pw_R Int32) (e q : Nat) (hq : q < (pt_LV I ah pt_0).length) (he : p + pt_ln ((pt_LV I ah pt_0).getD q pt_0) = e) (hp : p ≤ 300) : ∀ (m N k : Nat) (S : pw_S), m < N → 3 = k + m → k ≤ q → S 61 0 2 = Int32.ofNat dc → py_Ri S d I → pr_tx S f len p ah → (∀ j, j < 24 → S 38 0 j = pt_v ((pt_LV I ah pt_0).getD q pt_0) j) →
    ∃ S' z, m_L_isReadBack_58 K N S 0 (Int32.ofNat d) (Int32.ofNat f) (Int32.ofNat p) (Int32.ofNat e) 38 0 (Int32.ofNat (min (pt_LV I ah pt_0).length 99)) 1 0 (Int32.ofNat k) = K S' 0 (Int32.ofNat d) (Int32.ofNat f) (Int32.ofNat p) (Int32.ofNat (min (pt_LV I ah pt_0).length 99)) 1 z ∧ py_fr py_KX S S' ∧ (z = 1 ∨ (z = 0 ∧ 3 < min (pt_LV I ah pt_0).length 99)) := by
  intro m
  induction m with
  | zero =>
    intro N k S hN hk hkq hdc hRi ht hr
    obtain ⟨N, rfl⟩ : ∃ w, N = w + 1 := ⟨N - 1, by omega⟩
    unfold m_L_isReadBack_58
    rw [py_je (by omega) (by omega), if_neg (show ¬ min (pt_LV I ah pt_0).length 99 ≤ k by omega), py_jeL (l := 3) (by omega) (by omega), if_pos (show 3 ≤ k by omega)]
    exact ⟨S, 0, rfl, py_fr_r, Or.inr ⟨rfl, by omega⟩⟩
  | succ m ih =>
    intro N k S hN hk hkq hdc hRi ht hr
    obtain ⟨N, rfl⟩ : ∃ w, N = w + 1 := ⟨N - 1, by omega⟩
    unfold m_L_isReadBack_58
    rw [py_je (by omega) (by omega), if_neg (show ¬ min (pt_LV I ah pt_0).length 99 ≤ k by omega), py_jeL (l := 3) (by omega) (by omega), if_neg (show ¬ 3 ≤ k by omega), if_neg py_10, if_pos rfl]
    obtain ⟨S1, a1, a2, a3⟩ := (pm_readsAt (k := k) hI hR hdc hd hc hRi hf ht (by omega) hn).1 (by omega)
    have hmem : (pt_LV I ah pt_0).getD k pt_0 ∈ pt_LV I ah pt_0 := by
      rw [List.getD_eq_getElem?_getD, List.getElem?_eq_getElem (by omega)]
      exact List.getElem_mem _
    obtain ⟨l1, l2, l3, l4⟩ := pt_LV_long hI hR hmem
    have l60 := l2.2.1
    have hmemq : (pt_LV I ah pt_0).getD q pt_0 ∈ pt_LV I ah pt_0 := by
      rw [List.getD_eq_getElem?_getD, List.getElem?_eq_getElem hq]
      exact List.getElem_mem _
    have q60 := (pt_LV_long hI hR hmemq).2.1.2.1
    have hdc1 : S1 61 0 2 = Int32.ofNat dc := by rw [a2 61 0 rfl]; exact hdc
    have hRi1 : py_Ri S1 d I := hRi.cong (a2 51 d rfl) (a2 2 d rfl) (a2 3 d rfl) (a2 4 d rfl) (a2 5 d rfl)
    have ht1 := ht.fr (a2 53 f rfl) (a2 11 f rfl)
    have hr1 : ∀ j, j < 24 → S1 38 0 j = pt_v ((pt_LV I ah pt_0).getD q pt_0) j := fun j hj => by rw [a2 38 0 rfl]; exact hr j hj
    rw [a1, py_b, py_l, py_je (by omega) (by omega), if_neg (show ¬ p + pt_ln ((pt_LV I ah pt_0).getD k pt_0) ≤ p by omega), py_l, py_jq (by omega) (by omega)]
    have stop : ∃ S' z, m_L_isReadBack_58 K N S1 0 (Int32.ofNat d) (Int32.ofNat f) (Int32.ofNat p) (Int32.ofNat e) 38 0 (Int32.ofNat (min (pt_LV I ah pt_0).length 99)) 1 1 (Int32.ofNat (k + 1)) = K S' 0 (Int32.ofNat d) (Int32.ofNat f) (Int32.ofNat p) (Int32.ofNat (min (pt_LV I ah pt_0).length 99)) 1 z ∧ py_fr py_KX S S' ∧ (z = 1 ∨ (z = 0 ∧ 3 < min (pt_LV I ah pt_0).length 99)) := by
      obtain ⟨N, rfl⟩ : ∃ w, N = w + 1 := ⟨N - 1, by omega⟩
      unfold m_L_isReadBack_58
      rw [if_neg py_10, if_neg py_10, ite_self, ite_self]
      exact ⟨S1, 1, rfl, a2, Or.inl rfl⟩
    by_cases c1 : p + pt_ln ((pt_LV I ah pt_0).getD k pt_0) = e
    · rw [if_pos c1]
      obtain ⟨n1, n2⟩ := pm_isNoted (S := S1) (a := 38) (i := 0) rfl
      by_cases c2 : ∀ j, j < 24 → S1 35 0 j = S1 38 0 j
      · rw [n1 c2, py_b, if_neg py_10, py_l, py_l, py_add1]
        exact stop
      · have hkne : k ≠ q := fun z => c2 (fun j hj => by rw [a3 j hj, hr1 j hj, z])
        rw [n2 c2, py_b, if_pos rfl, py_l, py_l, py_add1]
        obtain ⟨S2, z, b1, b2, b3⟩ := ih N (k + 1) S1 (by omega) (by omega) (by omega) hdc1 hRi1 ht1 hr1
        exact ⟨S2, z, b1, a2.trans b2, b3⟩
    · have hkne : k ≠ q := fun z => c1 (by rw [z]; exact he)
      rw [if_neg c1, py_l, py_l, py_add1]
      obtain ⟨S2, z, b1, b2, b3⟩ := ih N (k + 1) S1 (by omega) (by omega) (by omega) hdc1 hRi1 ht1 hr1
      exact ⟨S2, z, b1, a2.trans b2, b3⟩
theorem pl_back {S : pw_S} {d dc f len p q e : Nat} {ah : Nat → Int32} {I : py_I} (hI : pi_ok I) (hR : pi_rg I) (hdc : S 61 0 2 = Int32.ofNat dc) (hd : d < dc) (hc : dc ≤ 6) (hRi : py_Ri S d I) (hf : f < 2) (ht : pr_tx S f len p ah) (hq : q < (pt_LV I ah pt_0).length) (he : p + pt_ln ((pt_LV I ah pt_0).getD q pt_0) = e) (hr : ∀ j, j < 24 → S 38 0 j = pt_v ((pt_LV I ah pt_0).getD q pt_0) j) : ∃ S', m_L_isReadBack S 0 (Int32.ofNat d) (Int32.ofNat f) (Int32.ofNat p) (Int32.ofNat e) 38 0 = some (S', 1) ∧ py_fr py_KX S S' := by
  obtain ⟨S1, a1, a2⟩ := pm_readings hI hR hdc hd hc hRi hf ht
  have hdc1 : S1 61 0 2 = Int32.ofNat dc := by rw [a2 61 0 rfl]; exact hdc
  have hRi1 : py_Ri S1 d I := hRi.cong (a2 51 d rfl) (a2 2 d rfl) (a2 3 d rfl) (a2 4 d rfl) (a2 5 d rfl)
  have ht1 := ht.fr (a2 53 f rfl) (a2 11 f rfl)
  obtain ⟨S2, b1, b2⟩ := pm_readingsAnew hI hR hdc1 hd hc hRi1 hf ht1
  have hf2 : py_fr py_KX S S2 := (a2.trans b2).mono py_KR_X
  have hdc2 : S2 61 0 2 = Int32.ofNat dc := by rw [hf2 61 0 rfl]; exact hdc
  have hRi2 : py_Ri S2 d I := hRi.cong (hf2 51 d rfl) (hf2 2 d rfl) (hf2 3 d rfl) (hf2 4 d rfl) (hf2 5 d rfl)
  have ht2 := ht.fr (hf2 53 f rfl) (hf2 11 f rfl)
  unfold m_L_isReadBack
  rw [a1, py_b, py_el, py_l, b1, py_b, py_el, if_pos rfl, py_l]
  by_cases hn : pt_CN I ah pt_0 ≤ 400
  · rw [if_pos hn, py_jz (by omega), py_l, py_l]
    obtain ⟨S3, z, c1, c2, c3⟩ := pl_back_58 hI hR hd hc hf hn (fun S74 u66 u68 u69 u70 u71 u72 u73 => (if u72 = 0 then (some (S74, 0)) else (if u73 = 0 then (if u71 ≤ 3 then (some (S74, 0)) else (m_L_isReadBack_j150 S74 u66 u68 u69 u70 u71)) else (m_L_isReadBack_j150 S74 u66 u68 u69 u70 u71)))) e q hq he (by have := ht.2.1; have := ht.2.2.1; omega) 3 (pw_F 4) 0 S2 (by rw [py_F]; omega) (by omega) (Nat.zero_le _) hdc2 hRi2 ht2 (fun j hj => by rw [hf2 38 0 rfl]; exact hr j hj)
    have hf3 := hf2.trans c2
    have hdc3 : S3 61 0 2 = Int32.ofNat dc := by rw [hf3 61 0 rfl]; exact hdc
    have hRi3 : py_Ri S3 d I := hRi.cong (hf3 51 d rfl) (hf3 2 d rfl) (hf3 3 d rfl) (hf3 4 d rfl) (hf3 5 d rfl)
    have ht3 := ht.fr (hf3 53 f rfl) (hf3 11 f rfl)
    obtain ⟨S4, d1, d2⟩ := pl_back_j150 hI hR hdc3 hd hc hRi3 hf ht3 hn (by omega)
    rw [show (0 : Int32) = Int32.ofNat 0 from rfl] at c1
    rw [show (0 : Int32) = Int32.ofNat 0 from rfl, c1]
    rw [if_neg (show ¬ (1 : Int32) = Int32.ofNat 0 from py_10)]
    rcases c3 with rfl | ⟨rfl, c3⟩
    · rw [if_neg (show ¬ (1 : Int32) = Int32.ofNat 0 from py_10), d1]
      exact ⟨S4, rfl, hf3.trans d2⟩
    · rw [if_pos (show (0 : Int32) = Int32.ofNat 0 from rfl), py_jeR (l := 3) (by omega) (by omega), if_neg (show ¬ min (pt_LV I ah pt_0).length 99 ≤ 3 by omega), d1]
      exact ⟨S4, rfl, hf3.trans d2⟩
  · rw [if_neg hn, if_neg (by decide), if_neg py_10]
    obtain ⟨r, s1, s2⟩ := pm_sure hdc2 hd hc hRi2
    rw [s1, py_b, py_el]
    rcases s2 with ⟨rfl, hs⟩ | ⟨j, hj, rfl⟩
    · have h2 := (pt_lv_sure hR hs (ah := ah) (13 * pi_n I) pt_0).2
      have h6 := hI.1.2.1
      have h2 : pt_CN I ah pt_0 ≤ 13 * pi_n I + 1 := h2
      omega
    · rw [py_jn (by have := hI.1.2.1; omega)]
      exact ⟨S2, rfl, hf2⟩
