/-! A line that is read is printed again as it was. -/
theorem pm_cell {S : pw_S} {f rc r k : Nat} (hf : f < 2) (h : S 54 f 7 = Int32.ofNat rc) (hrc : rc ≤ 24) (hr : r < rc) (hk : k < 24) : m_X11_cell S 0 (Int32.ofNat f) (Int32.ofNat r) (Int32.ofNat (k / 3)) (Int32.ofNat (k % 3)) = some (S, .inl (S 12 f (r * 24 + k))) := by
  unfold m_X11_cell
  rw [pm_table hf, py_b, py_os, pm_hasRow h hrc (by omega), py_b, if_pos hr, if_neg py_10, py_cell _ _ _ (by omega) (by omega), py_b, if_pos (show k / 3 < 8 ∧ k % 3 < 3 by omega), if_neg py_10, py_cp, py_b, show k / 3 * 3 + k % 3 = k from by omega, pm_told h hrc (by omega) hk, py_b]
  unfold pb_c
  rw [if_pos hr]
theorem pm_take_53 {S : pw_S} (i0 : Nat) : ∀ (n N k : Nat), n < N → 24 = k + n → m_X11_take_53 N S i0 (Int32.ofNat (nz_r (S 35 0) k)) (Int32.ofNat k) = some (S, .inl (Int32.ofNat (nz_r (S 35 0) 24))) := by
  intro n
  induction n with
  | zero =>
    intro N k hN hk
    obtain ⟨N, rfl⟩ : ∃ q, N = q + 1 := ⟨N - 1, by omega⟩
    obtain rfl : k = 24 := by omega
    unfold m_X11_take_53
    rw [py_jeL (l := 24) (by omega) (by omega), if_pos (Nat.le_refl _)]
  | succ n ih =>
    intro N k hN hk
    obtain ⟨N, rfl⟩ : ∃ q, N = q + 1 := ⟨N - 1, by omega⟩
    unfold m_X11_take_53
    rw [py_jeL (l := 24) (by omega) (by omega), if_neg (show ¬ 24 ≤ k by omega), py_ct (py_inb (by omega) (by omega)), py_cl (by omega)]
    have hs : nz_r (S 35 0) (k + 1) = nz_r (S 35 0) k + if S 35 0 k = -2147483648 then 0 else 1 := rfl
    by_cases e : S 35 0 k = -2147483648
    · rw [if_pos e] at hs
      have hs : nz_r (S 35 0) (k + 1) = nz_r (S 35 0) k := hs
      rw [if_pos e, py_l, py_add1, ← hs]
      exact ih N (k + 1) (by omega) (by omega)
    · rw [if_neg e] at hs
      rw [if_neg e, py_l, py_l, py_add1, py_add1, ← hs]
      exact ih N (k + 1) (by omega) (by omega)
theorem pm_take {S : pw_S} {f rc r : Nat} (hf : f < 2) (h : S 54 f 7 = Int32.ofNat rc) (hrc : rc ≤ 24) (hr : r < rc) : ∃ S', m_X11_take S 0 (Int32.ofNat f) (Int32.ofNat r) = some (S', .inl (Int32.ofNat (nz_r (S' 35 0) 24))) ∧ (∀ c, c < 24 → S' 35 0 c = S 12 f (r * 24 + c)) ∧ ∀ a i, Nat.beq a 35 = false → S' a i = S a i := by
  have hcp := py_cpy S 12 f (r * 24) 35 0 0 24 (by omega) (by show r * 24 + 24 ≤ 576; omega) (by decide) rfl
  unfold m_X11_take
  rw [pm_table hf, py_b, py_os, pm_hasRow h hrc (by omega), py_b, if_pos hr, if_neg py_10, show Int32.ofNat r * 24 = Int32.ofNat (r * 24) from py_mul r 24, show m_X11_copyCells S 12 f (Int32.ofNat (r * 24)) 35 0 0 24 = _ from hcp, py_b, py_l, py_l]
  generalize hS' : pw_up S 35 0 (va_cpy (S 12 f) (S 35 0) (r * 24) 0 24) = S'
  refine ⟨S', pm_take_53 0 24 (pw_F 20000) 0 (by rw [py_F]; omega) rfl, fun c hc => ?_, fun a i ha => ?_⟩
  · rw [← hS', py_up_s]
    unfold va_cpy
    rw [if_pos (by omega)]
    congr 1
  · rw [← hS']
    exact py_up_k _ _ ha
theorem pl_line_31 {S : pw_S} {f rc r : Nat} (hf : f < 2) (h : S 54 f 7 = Int32.ofNat rc) (hrc : rc ≤ 24) (hr : r < rc) (hrow : ∀ c, c < 24 → S 35 0 c = S 12 f (r * 24 + c)) (K : pw_S → Nat → Int32 → Int32 → Int32 → Int32 → Nat → Nat → Int32 → Int32 → Int32 → pw_R Int32) (x1 x3 x4 x8 : Int32) : ∀ (n N k : Nat), n < N → 24 = k + n → m_L_isLine_31 K N S 0 x1 (Int32.ofNat f) x3 x4 36 0 (Int32.ofNat r) (Int32.ofNat (nz_r (S 35 0) k)) x8 1 (Int32.ofNat k) = K S 0 x1 (Int32.ofNat f) x3 x4 36 0 (Int32.ofNat (nz_r (S 35 0) 24)) x8 1 := by
  intro n
  induction n with
  | zero =>
    intro N k hN hk
    obtain ⟨N, rfl⟩ : ∃ q, N = q + 1 := ⟨N - 1, by omega⟩
    obtain rfl : k = 24 := by omega
    unfold m_L_isLine_31
    rw [py_jeL (l := 24) (by omega) (by omega), if_pos (Nat.le_refl _)]
  | succ n ih =>
    intro N k hN hk
    obtain ⟨N, rfl⟩ : ∃ q, N = q + 1 := ⟨N - 1, by omega⟩
    obtain ⟨e1, e2⟩ := py_d3 k (by omega)
    have hg := pm_get S k (by omega)
    rw [e2, e1] at hg
    have hs : nz_r (S 35 0) (k + 1) = nz_r (S 35 0) k + if S 35 0 k = -2147483648 then 0 else 1 := rfl
    unfold m_L_isLine_31
    rw [py_jeL (l := 24) (by omega) (by omega), if_neg (show ¬ 24 ≤ k by omega), if_neg py_10, e2, e1, hg, py_b, py_el, pm_cell hf h hrc hr (by omega), py_b, py_el, if_pos (hrow k (by omega)), py_l, hg, py_b, py_el]
    by_cases e : S 35 0 k = -2147483648
    · rw [if_pos e] at hs
      have hs : nz_r (S 35 0) (k + 1) = nz_r (S 35 0) k := hs
      rw [if_pos e, py_l, py_l, Int32.add_zero, py_add1, ← hs]
      exact ih N (k + 1) (by omega) (by omega)
    · rw [if_neg e] at hs
      rw [if_neg e, py_l, py_l, py_add1, py_add1, ← hs]
      exact ih N (k + 1) (by omega) (by omega)
theorem pl_line_217 {S : pw_S} {d dc nc f len op len2 op2 p e from_ : Nat} {V : Nat → Int32} (hdc : S 61 0 2 = Int32.ofNat dc) (hd : d < dc) (hc : dc ≤ 6) (hn : S 52 d 6 = Int32.ofNat nc) (hn8 : nc ≤ 8) (hV : ∀ c, c < 24 → S 35 0 c = V c) (hfb : cv_fb (pc_C S d) V nc 0 = 0) (hf : f < 2) (hF : px_f S f len op) (hF2 : px_f S (1 - f) len2 op2) (hpe : p ≤ e) (he : e ≤ len) (hfrom : from_ + (e - p) ≤ len2) (hu : ∀ k, k < e - p → S 11 (1 - f) (from_ + k) = S 11 f (p + k)) (x7 : Int32) : ∀ (n N k : Nat), n < N → e - p = k + n → m_L_isLine_217 N S 0 (Int32.ofNat d) (Int32.ofNat f) (Int32.ofNat p) (Int32.ofNat e) x7 x7 1 (Int32.ofNat from_) (Int32.ofNat k) = some (S, 1) := by
  have hlen := hF.2.1
  have hlen2 := hF2.2.1
  intro n
  induction n with
  | zero =>
    intro N k hN hk
    obtain ⟨N, rfl⟩ : ∃ q, N = q + 1 := ⟨N - 1, by omega⟩
    unfold m_L_isLine_217
    rw [py_sub hpe, py_je (by omega) (by omega), if_pos (show e - p ≤ k by omega), if_neg py_10, if_pos rfl, pm_message hdc hd hc hn hn8 hV, hfb, py_b, py_el, if_pos rfl]
  | succ n ih =>
    intro N k hN hk
    obtain ⟨N, rfl⟩ : ∃ q, N = q + 1 := ⟨N - 1, by omega⟩
    unfold m_L_isLine_217
    rw [py_sub hpe, py_je (by omega) (by omega), if_neg (show ¬ e - p ≤ k by omega), if_neg py_10, show (1 : Int32) - Int32.ofNat f = Int32.ofNat (1 - f) from py_sub (a := 1) (by omega), py_add, pm_unit hF2 (by omega) (by omega), if_pos (show from_ + k < len2 by omega), py_b, py_el, py_add, pm_unit hF hf (by omega), if_pos (show p + k < len by omega), py_b, py_el, if_pos (hu k (by omega)), py_l, py_l, py_add1]
    exact ih N (k + 1) (by omega) (by omega)
theorem pl_isLine {S : pw_S} {d dc nc f len op len2 op2 p e rc : Nat} {I : py_I} {T : py_T} (hI : pi_ok I) (hR : pi_rg I) (hdc : S 61 0 2 = Int32.ofNat dc) (hd : d < dc) (hc : dc ≤ 6) (hRi : py_Ri S d I) (hn : S 52 d 6 = Int32.ofNat nc) (hn8 : nc ≤ 8) (hf : f < 2) (hF : px_f S f len op) (hF2 : px_f S (1 - f) len2 op2) (hop2 : S 36 0 (8 + 6 * (1 - f)) = Int32.ofNat (1 - op2)) (h7 : S 54 f 7 = Int32.ofNat (rc + 1)) (hrc : rc + 1 ≤ 24) (h5 : S 36 0 (5 + 6 * f) = Int32.ofNat (rc + 1)) (he : e ≤ len)
    (g1 : pt_gd I T) (g2 : pt_rq I (px_ah S f len p) T) (g3 : pi_n I ≤ pt_it T) (g4 : p + pt_ln T = e) (g5 : cv_fb (pc_C S d) (pt_v T) nc 0 = 0) (g6 : ∀ c, c < 24 → S 12 f (rc * 24 + c) = pt_v T c) :
    ∃ S', m_L_isLine S 0 (Int32.ofNat d) (Int32.ofNat f) (Int32.ofNat p) (Int32.ofNat e) 36 0 = some (S', 1) ∧ py_fr py_KA S S' ∧ S' 36 = S 36 ∧ (∃ len', len2 ≤ len' ∧ px_f S' (1 - f) len' op2) ∧ S' 11 f = S 11 f ∧ S' 53 f = S 53 f := by
  have hlen := hF.2.1
  have hlen2 := hF2.2.1
  have hop2' := hF2.2.2.2.1
  have hln := g1.2.1
  obtain ⟨S1, a1, a2, a3⟩ := pm_take hf h7 hrc (show rc < rc + 1 by omega)
  have h56 : (5 : Int32) + 6 * Int32.ofNat f = Int32.ofNat (5 + 6 * f) := by
    rw [show (6 : Int32) * Int32.ofNat f = Int32.ofNat (6 * f) from py_mul 6 f]
    exact py_add 5 _
  have f1 : py_fr py_KA S S1 := fun a i hh => by
    simp only [py_KA, Bool.or_eq_false_iff] at hh
    exact a3 a i hh.2.2.2.2.2.2.2.2.2.2.1
  have hV1 : ∀ c, c < 24 → S1 35 0 c = pt_v T c := fun c hc9 => (a2 c hc9).trans (g6 c hc9)
  have hrec : py_rec S1 35 0 = pt_v T := by
    funext k
    unfold py_rec
    by_cases e : k < 24
    · rw [if_pos e]
      exact hV1 k e
    · rw [if_neg e]
      exact (g2.1 k (by omega)).symm
  have hprint := g2.print hI g1 g3
  have hF1 : px_f S1 f len op := hF.cong (a3 _ _ rfl) (a3 _ _ rfl)
  have hF21 : px_f S1 (1 - f) len2 op2 := hF2.cong (a3 _ _ rfl) (a3 _ _ rfl)
  have hdc1 : S1 61 0 2 = Int32.ofNat dc := by rw [a3 61 0 rfl]; exact hdc
  have hRi1 : py_Ri S1 d I := hRi.cong (a3 _ _ rfl) (a3 _ _ rfl) (a3 _ _ rfl) (a3 _ _ rfl) (a3 _ _ rfl)
  obtain ⟨p1, p2⟩ := pm_print (S := S1) (y := (pe_tk (px_ah S f len p) 0 (pt_ln T), T)) hI hR hdc1 hd hc hRi1 (show 1 - f < 2 by omega) hF21 (fun c hc9 => by
    rw [hV1 c hc9]
    rcases g1.1.2.2 c with z | ⟨w, w1, w2⟩
    · exact Or.inl z
    · exact Or.inr ⟨w, by omega, w2⟩) (by rw [hrec]; exact hprint)
  dsimp only at p1 p2
  rw [pe_tk_len] at p1 p2
  have h1f : (1 : Int32) - Int32.ofNat f = Int32.ofNat (1 - f) := py_sub (a := 1) (by omega)
  unfold m_L_isLine
  rw [h56, py_ct (py_inb (by omega) (by show 5 + 6 * f < 18; omega)), py_cl (by omega), h5, show Int32.ofNat (rc + 1) - 1 = Int32.ofNat rc from py_sub (a := rc + 1) (b := 1) (by omega), py_l, py_l, a1, py_b, py_el, py_l, py_l, py_l]
  have h31 := fun K => pl_line_31 (S := S1) (r := rc) hf (by rw [a3 54 f rfl]; exact h7) hrc (by omega) (fun c hc9 => by rw [a3 12 f rfl]; exact a2 c hc9) K (Int32.ofNat d) (Int32.ofNat p) (Int32.ofNat e) (Int32.ofNat (nz_r (S1 35 0) 24)) 24 (pw_F 25) 0 (by rw [py_F]; omega) rfl
  have h31 := fun K => (show m_L_isLine_31 K (pw_F 25) S1 0 (Int32.ofNat d) (Int32.ofNat f) (Int32.ofNat p) (Int32.ofNat e) 36 0 (Int32.ofNat rc) 0 (Int32.ofNat (nz_r (S1 35 0) 24)) 1 0 = _ from h31 K)
  rw [h31, h1f, pm_units hF21 (by omega), py_b, py_l]
  unfold m_L_asks
  rw [if_pos rfl]
  by_cases et : op2 = 1 ∧ len2 + (pt_ln T + 1) ≤ 300
  · obtain ⟨S2, b1, b2, b3, b4, b5, b6⟩ := p2 et
    have hS2 : ∀ a j, py_KA a j = false → S2 a j = S1 a j := fun a j hh => b6 a j (py_KA_P hh) (Or.inl (by
      simp only [py_KA, Bool.or_eq_false_iff] at hh
      exact ⟨Nat.ne_of_beq_eq_false hh.2.2.2.2.2.2.2.2.2.2.2.2.2.1, Nat.ne_of_beq_eq_false hh.2.2.2.2.2.2.2.2.2.2.2.2.2.2.1⟩))
    have hff : f ≠ 1 - f := by omega
    have k35 : S2 35 0 = S1 35 0 := b6 35 0 rfl (Or.inl (by decide))
    have kf : S2 11 f = S1 11 f ∧ S2 53 f = S1 53 f := ⟨b6 11 f rfl (Or.inr hff), b6 53 f rfl (Or.inr hff)⟩
    have hto : Int32.ofNat len2 + Int32.ofNat e - Int32.ofNat p + 1 = Int32.ofNat (len2 + pt_ln T + 1) := by
      rw [py_add, py_sub (by omega), py_add1]
      congr 1
      omega
    rw [b1, py_b, py_el, py_b, py_l, py_jz (by omega), if_neg py_10, hto, if_pos rfl, py_l, py_l]
    have hgd : ∀ k, k < pt_ln T → (pe_tk (px_ah S f len p) 0 (pt_ln T)).getD k 0 = S 11 f (p + k) := fun k hk => by
      have hl9 := pe_tk_len (px_ah S f len p) 0 (pt_ln T)
      rw [List.getD_eq_getElem?_getD, List.getElem?_eq_getElem (by omega)]
      unfold pe_tk
      rw [List.getElem_map, List.getElem_range]
      show px_ah S f len p (0 + k) = _
      unfold px_ah
      rw [Nat.zero_add, if_pos (by omega)]
    have h217 := pl_line_217 (S := S2) (d := d) (nc := nc) (p := p) (e := e) (from_ := len2) (V := pt_v T) (by rw [hS2 61 0 rfl]; exact hdc1) hd hc (by rw [hS2 52 d rfl, a3 52 d rfl]; exact hn) hn8 (fun c hc9 => by rw [k35]; exact hV1 c hc9) (by
      rw [pc_C_cong (S := S) (by rw [hS2 6 d rfl, a3 6 d rfl]) (by rw [hS2 7 d rfl, a3 7 d rfl]) (by rw [hS2 8 d rfl, a3 8 d rfl]) (by rw [hS2 9 d rfl, a3 9 d rfl]) (by rw [hS2 10 d rfl, a3 10 d rfl])]
      exact g5) hf (hF1.cong kf.2 kf.1) b2 (by omega) he (by omega) (fun k hk => by
        rw [b4 k (by omega), hgd k (by omega), kf.1, a3 11 f rfl]) (Int32.ofNat (nz_r (S1 35 0) 24)) (e - p) (pw_F 61) 0 (by rw [py_F]; omega) (by omega)
    rw [show (0 : Int32) = Int32.ofNat 0 from rfl, h217]
    refine ⟨S2, rfl, f1.trans hS2, ?_, ⟨_, by omega, b2⟩, by rw [kf.1, a3 11 f rfl], by rw [kf.2, a3 53 f rfl]⟩
    funext i
    rw [b6 36 i rfl (Or.inl (by decide)), a3 36 i rfl]
  · obtain ⟨S2, b1, b2⟩ := p1 et
    have f2 := f1.trans (b2.sub (fun a i hh => py_KA_P hh))
    have h86 : (8 : Int32) + 6 * Int32.ofNat (1 - f) = Int32.ofNat (8 + 6 * (1 - f)) := by
      rw [show (6 : Int32) * Int32.ofNat (1 - f) = Int32.ofNat (6 * (1 - f)) from py_mul 6 _]
      exact py_add 8 _
    have hto : Int32.ofNat len2 + Int32.ofNat e - Int32.ofNat p + 1 = Int32.ofNat (len2 + pt_ln T + 1) := by
      rw [py_add, py_sub (by omega), py_add1]
      congr 1
      omega
    have hres : ∀ v : Int32, v = 1 → ∃ S', (some (S2, v) : pw_R Int32) = some (S', 1) ∧ py_fr py_KA S S' ∧ S' 36 = S 36 ∧ (∃ len', len2 ≤ len' ∧ px_f S' (1 - f) len' op2) ∧ S' 11 f = S 11 f ∧ S' 53 f = S 53 f := fun v hv => by
      rw [hv]
      refine ⟨S2, rfl, f2, ?_, ⟨len2, Nat.le_refl _, b2.px hF21 rfl rfl⟩, by rw [b2 11 f rfl, a3 11 f rfl], by rw [b2 53 f rfl, a3 53 f rfl]⟩
      funext i
      rw [b2 36 i rfl, a3 36 i rfl]
    rw [b1, py_b, py_er]
    show ∃ S', pw_b (some (S2, (-70008 : Int32))) _ = _ ∧ _
    rw [py_b, py_l, if_neg (by decide), if_neg py_10, if_pos rfl, h86, py_ct (py_inb (by omega) (by show 8 + 6 * (1 - f) < 18; omega)), py_cl (by omega), b2 36 0 rfl, a3 36 0 rfl, hop2, py_jqR (l := 1) (by omega) (by omega)]
    by_cases e1 : 1 - op2 = 1
    · rw [if_pos e1]
      exact hres 1 rfl
    · rw [if_neg e1, hto, py_jeR (l := 300) (by omega) (by omega), if_neg (show ¬ len2 + pt_ln T + 1 ≤ 300 by omega)]
      exact hres 1 rfl
