/-! The law's samples. -/
def px_D (S : pw_S) (dc : Nat) (Is : Nat → py_I) (nc : Nat → Nat) : Prop := S 61 0 2 = Int32.ofNat dc ∧ dc ≤ 4 ∧ ∀ d, d < dc → py_Ri S d (Is d) ∧ pi_ok (Is d) ∧ pi_rg (Is d) ∧ S 52 d 6 = Int32.ofNat (nc d) ∧ nc d ≤ 8 ∧ ∀ i, i < nc d → ∃ m, 1 ≤ m ∧ m ≤ 99 ∧ S 10 d i = Int32.ofNat m
theorem px_D.cong {S S' : pw_S} {dc : Nat} {Is : Nat → py_I} {nc : Nat → Nat} (h : px_D S dc Is nc) (h61 : S' 61 0 2 = S 61 0 2) (hk : ∀ a d, 2 ≤ a → a ≤ 10 ∨ a = 51 ∨ a = 52 → a ≤ 10 ∨ 51 ≤ a → d < dc → S' a d = S a d) : px_D S' dc Is nc := by
  obtain ⟨h1, h2, h3⟩ := h
  refine ⟨h61.trans h1, h2, fun d hd => ?_⟩
  obtain ⟨g1, g2, g3, g4, g5, g6⟩ := h3 d hd
  refine ⟨g1.cong (hk 51 d (by omega) (by omega) (by omega) hd) (hk 2 d (by omega) (by omega) (by omega) hd) (hk 3 d (by omega) (by omega) (by omega) hd) (hk 4 d (by omega) (by omega) (by omega) hd) (hk 5 d (by omega) (by omega) (by omega) hd), g2, g3, ?_, g5, fun i hi => ?_⟩
  · rw [hk 52 d (by omega) (by omega) (by omega) hd]
    exact g4
  · rw [hk 10 d (by omega) (by omega) (by omega) hd]
    exact g6 i hi
theorem px_D.fr {S S' : pw_S} {dc : Nat} {Is : Nat → py_I} {nc : Nat → Nat} (h : px_D S dc Is nc) {K : Nat → Nat → Bool} (hf : py_fr K S S') (hK : ∀ d, K 61 0 = false ∧ K 2 d = false ∧ K 3 d = false ∧ K 4 d = false ∧ K 5 d = false ∧ K 10 d = false ∧ K 51 d = false ∧ K 52 d = false) : px_D S' dc Is nc := by
  obtain ⟨h1, h2, h3⟩ := h
  refine ⟨by rw [hf 61 0 (hK 0).1]; exact h1, h2, fun d hd => ?_⟩
  obtain ⟨g1, g2, g3, g4, g5, g6⟩ := h3 d hd
  obtain ⟨k1, k2, k3, k4, k5, k6, k7, k8⟩ := hK d
  refine ⟨g1.cong (hf _ _ k7) (hf _ _ k2) (hf _ _ k3) (hf _ _ k4) (hf _ _ k5), g2, g3, by rw [hf _ _ k8]; exact g4, g5, fun i hi => by rw [hf _ _ k6]; exact g6 i hi⟩
theorem pe_tk_of {ah : Nat → Int32} : ∀ (us : List Int32) (p : Nat), (∀ k, k < us.length → ah (p + k) = us.getD k 0) → pe_tk ah p us.length = us := by
  intro us
  induction us with
  | nil => intro p _; rfl
  | cons u r ih =>
    intro p h
    rw [List.length_cons, pe_tk_succ, ih (p + 1) (fun k hk => by
      have := h (k + 1) (by rw [List.length_cons]; omega)
      rw [← Nat.add_assoc, py_getD_cons] at this
      rw [← this]
      congr 1
      omega)]
    have h0 := h 0 (by rw [List.length_cons]; omega)
    rw [Nat.add_zero] at h0
    rw [h0]
    rfl
theorem py_fr.px {K : Nat → Nat → Bool} {S S' : pw_S} (hf : py_fr K S S') {f len op : Nat} (h : px_f S f len op) (h1 : K 53 f = false) (h2 : K 11 f = false) : px_f S' f len op := h.cong (hf _ _ h1) (hf _ _ h2)
theorem pl_j121 {S : pw_S} {d dc X len op n16 : Nat} {I : py_I} {V : Nat → Int32} (hI : pi_ok I) (hR : pi_rg I) (hdc : S 61 0 2 = Int32.ofNat dc) (hd : d < dc) (hc : dc ≤ 6) (hRi : py_Ri S d I) (hX : X < 1073741824) (hF : px_f S (X / 4 % 2) len op) (hop : S 36 0 (8 + 6 * (X / 4 % 2)) = Int32.ofNat (1 - op)) (h16 : S 36 0 16 = Int32.ofNat n16) (hn16 : n16 ≤ 100)
    (hV : ∀ c, c < 24 → S 35 0 c = V c) (hr : ∀ c, c < 24 → S 38 0 c = V c) (hca : pt_ca V) (hsm : pe_sm I V) (hv : ∀ c, V c = -2147483648 ∨ ∃ w, w < 134217728 ∧ V c = Int32.ofNat w) {y : List Int32 × py_T} (hy : ps_run I V 200 pt_0 = some y) (hyv : pt_v y.2 = V) :
    ∃ S', m_L_samples_j121 S 0 (Int32.ofNat X) 38 0 36 0 (Int32.ofNat d) 1 = some (S', 1) ∧ py_fr py_KA S S' ∧ (∀ k, k ≠ 16 → S' 36 0 k = S 36 0 k) ∧ (∃ m, m ≤ n16 + 1 ∧ S' 36 0 16 = Int32.ofNat m) ∧ (∃ len', len ≤ len' ∧ px_f S' (X / 4 % 2) len' op) ∧ ∀ f, f ≠ X / 4 % 2 → S' 11 f = S 11 f ∧ S' 53 f = S 53 f := by
  have hf2 : X / 4 % 2 < 2 := Nat.mod_lt _ (by omega)
  generalize hff : X / 4 % 2 = f at *
  have hz2 : Int32.ofNat X / 4 - Int32.ofNat X / 4 / 2 * 2 = Int32.ofNat f := by
    rw [show Int32.ofNat X / 4 = Int32.ofNat (X / 4) from py_div (b := 4) (by omega) (by omega), ← hff]
    exact py_mod (b := 2) (by omega) (by omega)
  have hrec : py_rec S 35 0 = V := by
    funext k
    unfold py_rec
    by_cases e : k < 24
    · rw [if_pos e]
      exact hV k e
    · rw [if_neg e]
      exact (hca k (by omega)).symm
  have hlen := hF.2.1
  have hop1 := hF.2.2.2.1
  obtain ⟨p1, p2⟩ := pm_print (S := S) (y := y) hI hR hdc hd hc hRi hf2 hF (fun c hc9 => by
    rw [hV c hc9]
    rcases hv c with z | ⟨w, w1, w2⟩
    · exact Or.inl z
    · exact Or.inr ⟨w, by omega, w2⟩) (by rw [hrec]; exact hy)
  have hL := fun ah => pt_printed (ah := ah) hI hR hsm 200 pt_0 y
  have h60 : y.1.length ≤ 60 := by
    obtain ⟨S9, _, _, q⟩ := (pk_can (S := S) (j := d) (a2 := 35) (i2 := 0) hI hR hRi rfl rfl (fun c hc9 => by
      rw [hV c hc9]
      rcases hv c with z | ⟨w, w1, w2⟩
      · exact Or.inl z
      · exact Or.inr ⟨w, by omega, w2⟩)).2 y (by rw [hrec]; exact hy)
    have := q.2.2.1
    have := q.2.1.1
    omega
  unfold m_L_samples_j121
  rw [py_l, py_l, hz2, pm_units hF hf2, py_b, py_l]
  unfold m_L_asks
  rw [if_pos rfl]
  by_cases e : op = 1 ∧ len + (y.1.length + 1) ≤ 300
  · obtain ⟨S1, a1, a2, a3, a4, a5, a6⟩ := p2 e
    have hS1 : ∀ a j, py_KA a j = false → S1 a j = S a j := fun a j hh => a6 a j (py_KA_P hh) (Or.inl (by
      simp only [py_KA, Bool.or_eq_false_iff] at hh
      exact ⟨Nat.ne_of_beq_eq_false hh.2.2.2.2.2.2.2.2.2.2.2.2.2.1, Nat.ne_of_beq_eq_false hh.2.2.2.2.2.2.2.2.2.2.2.2.2.2.1⟩))
    have h36 : ∀ j, S1 36 j = S 36 j := fun j => a6 36 j rfl (Or.inl (by decide))
    have h38 : ∀ j, S1 38 j = S 38 j := fun j => a6 38 j rfl (Or.inl (by decide))
    rw [a1, py_b, py_el, py_b, show Int32.ofNat (len + y.1.length + 1) - 1 = Int32.ofNat (len + y.1.length) from py_sub (a := len + y.1.length + 1) (b := 1) (by omega), py_l, py_jz (by omega), py_ct (by decide), py_ct (by decide), show (16 : Int32).toNatClampNeg = 16 from rfl, h36, h16, py_add1, py_l]
    generalize hS2 : pw_up S1 36 0 (upd (S 36 0) 16 (Int32.ofNat (n16 + 1))) = S2
    have k2 : ∀ a i, Nat.beq a 36 = false → S2 a i = S1 a i := fun a i hh => by
      rw [← hS2]
      exact py_up_k _ _ hh
    have c36 : ∀ k, k ≠ 16 → S2 36 0 k = S 36 0 k := fun k hk => by rw [← hS2, py_up_s, py_u_n _ _ hk]
    have c16 : S2 36 0 16 = Int32.ofNat (n16 + 1) := by rw [← hS2, py_up_s, py_u_s]
    have hF2 : px_f S2 f (len + y.1.length + 1) op := a2.cong (k2 _ _ rfl) (k2 _ _ rfl)
    have hfr2 : py_fr py_KA S S2 := fun a j hh => by
      have h9 := hh
      simp only [py_KA, Bool.or_eq_false_iff] at h9
      rw [k2 a j h9.2.2.2.2.2.2.2.2.2.2.2.2.2.2.2.2]
      exact hS1 a j hh
    rw [if_neg py_10, pm_units hF2 hf2, py_b, py_add1, if_pos rfl, pm_unit hF2 hf2 (by omega), if_pos (show len + y.1.length < len + y.1.length + 1 by omega), py_b, py_el, k2 11 f rfl, a5, if_pos rfl, py_ct (by decide), c16, py_jlL (l := 3) (by omega) (by omega)]
    have hoth : ∀ f', f' ≠ f → S1 11 f' = S 11 f' ∧ S1 53 f' = S 53 f' := fun f' hne => ⟨a6 11 f' rfl (Or.inr hne), a6 53 f' rfl (Or.inr hne)⟩
    by_cases e3 : 3 < n16 + 1
    · rw [if_pos e3]
      exact ⟨S2, rfl, hfr2, c36, ⟨n16 + 1, Nat.le_refl _, c16⟩, ⟨_, by omega, hF2⟩, fun f' hne => by rw [k2 _ _ rfl, k2 _ _ rfl]; exact hoth f' hne⟩
    · rw [if_neg e3]
      have htx := hF2.tx (p := len) hf2 (by omega)
      obtain ⟨q1, q2⟩ := hL (px_ah S2 f (len + y.1.length + 1) len) (pr_root hI (px_ah S2 f (len + y.1.length + 1) len)).1 hy (pe_tk_of y.1 _ (fun k hk => by
        show px_ah S2 f (len + y.1.length + 1) len (0 + k) = _
        unfold px_ah
        rw [Nat.zero_add, if_pos (by omega), k2 11 f rfl]
        exact a4 k hk))
      have q2 : pt_ln y.2 = 0 + y.1.length := q2
      obtain ⟨q, hq, hqe⟩ := List.getElem_of_mem q1
      have hgd : (pt_LV (I) (px_ah S2 f (len + y.1.length + 1) len) pt_0).getD q pt_0 = y.2 := by
        rw [List.getD_eq_getElem?_getD, List.getElem?_eq_getElem hq]
        exact hqe
      obtain ⟨S3, b1, b2⟩ := pl_back (q := q) (e := len + y.1.length) hI hR (by rw [hfr2 61 0 rfl]; exact hdc) hd hc (hRi.cong (hfr2 51 d rfl) (hfr2 2 d rfl) (hfr2 3 d rfl) (hfr2 4 d rfl) (hfr2 5 d rfl)) hf2 htx hq (by rw [hgd, q2]; omega) (fun j hj => by rw [hgd, hyv, k2 38 0 rfl, h38]; exact hr j hj)
      rw [b1, py_b, if_neg py_10]
      refine ⟨S3, rfl, hfr2.trans (b2.sub (fun a i hh => py_KA_X hh)), fun k hk => by rw [b2 36 0 rfl]; exact c36 k hk, ⟨n16 + 1, Nat.le_refl _, by rw [b2 36 0 rfl]; exact c16⟩, ⟨_, by omega, b2.px hF2 rfl rfl⟩, fun f' hne => ?_⟩
      rw [b2 11 f' rfl, b2 53 f' rfl, k2 _ _ rfl, k2 _ _ rfl]
      exact hoth f' hne
  · obtain ⟨S1, a1, a2⟩ := p1 e
    rw [a1, py_b, py_er]
    show ∃ S', pw_b (some (S1, (-70008 : Int32))) _ = _ ∧ _
    rw [py_b, py_l, if_neg (by decide), if_neg py_10, if_pos (by decide)]
    have h86 : (8 : Int32) + 6 * Int32.ofNat f = Int32.ofNat (8 + 6 * f) := by
      rw [show (6 : Int32) * Int32.ofNat f = Int32.ofNat (6 * f) from py_mul 6 f]
      exact py_add 8 _
    have hfr1 : py_fr py_KA S S1 := a2.sub (fun a i hh => py_KA_P hh)
    have hres : ∀ v : Int32, v = 1 → ∃ S', (some (S1, v) : pw_R Int32) = some (S', 1) ∧ py_fr py_KA S S' ∧ (∀ k, k ≠ 16 → S' 36 0 k = S 36 0 k) ∧ (∃ m, m ≤ n16 + 1 ∧ S' 36 0 16 = Int32.ofNat m) ∧ (∃ len', len ≤ len' ∧ px_f S' f len' op) ∧ ∀ f', f' ≠ f → S' 11 f' = S 11 f' ∧ S' 53 f' = S 53 f' := fun v hv1 => by
      rw [hv1]
      exact ⟨S1, rfl, hfr1, fun k _ => by rw [a2 36 0 rfl], ⟨n16, by omega, by rw [a2 36 0 rfl]; exact h16⟩, ⟨len, Nat.le_refl _, a2.px hF rfl rfl⟩, fun f' _ => ⟨a2 11 f' rfl, a2 53 f' rfl⟩⟩
    rw [h86, py_ct (py_inb (by omega) (by show 8 + 6 * f < 18; omega)), py_cl (by omega), a2 36 0 rfl, hop, py_jqR (l := 1) (by omega) (by omega)]
    by_cases e1 : 1 - op = 1
    · rw [if_pos e1]
      exact hres 1 rfl
    · rw [if_neg e1, py_jeR (l := 238) (by omega) (by omega), if_neg (show ¬ len ≤ 238 by omega)]
      exact hres 1 rfl
theorem pl_samples {S : pw_S} {dc X Y n15 n16 : Nat} {Is : Nat → py_I} {nc : Nat → Nat} (hD : px_D S dc Is nc) (hc0 : S 36 0 0 = Int32.ofNat dc) (hF : ∀ f, f < 2 → ∃ len op, px_f S f len op ∧ S 36 0 (8 + 6 * f) = Int32.ofNat (1 - op)) (h15 : S 36 0 15 = Int32.ofNat n15) (hn15 : n15 ≤ 8) (h16 : S 36 0 16 = Int32.ofNat n16) (hn16 : n16 ≤ n15) (hX : X < 1073741824) (hY : Y < 1073741824) :
    ∃ S', m_L_samples S 0 (Int32.ofNat X) (Int32.ofNat Y) 38 0 36 0 = some (S', 1) ∧ py_fr py_KA S S' ∧ (∀ k, k ≠ 15 → k ≠ 16 → S' 36 0 k = S 36 0 k) ∧ (∃ m15 m16, S' 36 0 15 = Int32.ofNat m15 ∧ m15 ≤ 8 ∧ S' 36 0 16 = Int32.ofNat m16 ∧ m16 ≤ m15) ∧ ∀ f, f < 2 → ∀ len op, px_f S f len op → ∃ len', len ≤ len' ∧ px_f S' f len' op := by
  obtain ⟨hdc, hdc4, hds⟩ := hD
  have same : ∃ S', (some (S, (1 : Int32)) : pw_R Int32) = some (S', 1) ∧ py_fr py_KA S S' ∧ (∀ k, k ≠ 15 → k ≠ 16 → S' 36 0 k = S 36 0 k) ∧ (∃ m15 m16, S' 36 0 15 = Int32.ofNat m15 ∧ m15 ≤ 8 ∧ S' 36 0 16 = Int32.ofNat m16 ∧ m16 ≤ m15) ∧ ∀ f, f < 2 → ∀ len op, px_f S f len op → ∃ len', len ≤ len' ∧ px_f S' f len' op := ⟨S, rfl, py_fr_r, fun k _ _ => rfl, ⟨n15, n16, h15, hn15, h16, hn16⟩, fun f _ len op h => ⟨len, Nat.le_refl _, h⟩⟩
  unfold m_L_samples
  rw [py_ct (by decide), show (0 : Int32).toNatClampNeg = 0 from rfl, hc0, py_jqR (l := 0) (by omega) (by omega)]
  by_cases e0 : dc = 0
  · rw [if_pos e0]
    exact same
  rw [if_neg e0, py_ct (by decide), show (15 : Int32).toNatClampNeg = 15 from rfl, h15, py_jqR (l := 8) (by omega) (by omega)]
  by_cases e15 : n15 = 8
  · rw [if_pos e15]
    exact same
  have hne : ¬ Int32.ofNat dc = 0 := fun z => by
    rw [show (0 : Int32) = Int32.ofNat 0 from rfl, py_eq (by omega) (by omega)] at z
    omega
  have hmY : Int32.ofNat Y - Int32.ofNat Y / 1000001 * 1000001 = Int32.ofNat (Y % 1000001) := py_mod (b := 1000001) (by omega) (by omega)
  have hd : X % dc < dc := Nat.mod_lt _ (by omega)
  have hw := Nat.mod_lt Y (show 0 < 1000001 by omega)
  rw [if_neg e15, py_ct (by decide), py_ct (by rw [decide_eq_false hne]; rfl), py_mod (by omega) (by omega), py_l, hmY, py_l, py_ct (by decide), py_ct (by decide), py_add1, py_l]
  generalize X % dc = d at hd
  generalize Y % 1000001 = w at hw
  generalize hS1 : pw_up S 36 0 (upd (S 36 0) 15 (Int32.ofNat (n15 + 1))) = S1
  obtain ⟨hRi, hI, hR, hn, hn8, hms⟩ := hds d hd
  have k1 : ∀ a i, Nat.beq a 36 = false → S1 a i = S a i := fun a i hh => by
    rw [← hS1]
    exact py_up_k _ _ hh
  have f1 : py_fr py_KA S S1 := fun a j hh => by
    simp only [py_KA, Bool.or_eq_false_iff] at hh
    exact k1 a j hh.2.2.2.2.2.2.2.2.2.2.2.2.2.2.2.2
  have c36 : ∀ k, k ≠ 15 → S1 36 0 k = S 36 0 k := fun k hk => by rw [← hS1, py_up_s, py_u_n _ _ hk]
  have c15 : S1 36 0 15 = Int32.ofNat (n15 + 1) := by rw [← hS1, py_up_s, py_u_s]
  -- what holds in each state behind it
  have env : ∀ S2 : pw_S, py_fr py_KA S S2 → S2 61 0 2 = Int32.ofNat dc ∧ py_Ri S2 d (Is d) ∧ S2 52 d 6 = Int32.ofNat (nc d) ∧ pc_C S2 d = pc_C S d := fun S2 hf => by
    refine ⟨?_, hRi.cong (hf 51 d rfl) (hf 2 d rfl) (hf 3 d rfl) (hf 4 d rfl) (hf 5 d rfl), ?_, pc_C_cong (hf 6 d rfl) (hf 7 d rfl) (hf 8 d rfl) (hf 9 d rfl) (hf 10 d rfl)⟩
    · rw [hf 61 0 rfl]; exact hdc
    · rw [hf 52 d rfl]; exact hn
  have K1A : ∀ a i, py_KA a i = false → py_K1 38 0 a i = false := fun a i hh => by
    simp only [py_KA, Bool.or_eq_false_iff] at hh
    unfold py_K1
    rw [hh.2.2.2.2.2.2.2.2.2.2.2.2.2.2.2.1]
    rfl
  obtain ⟨S2, b1, b2, b3⟩ := pm_notes S1 (a := 38) (i := 0) rfl rfl
  have f2 := f1.trans (b3.sub K1A)
  obtain ⟨v1, v2, v3, v4⟩ := env S2 f2
  rw [b1, py_b]
  have smp : ∀ S3 : pw_S, py_fr py_KA S S3 → (sq_all (Is d) (fun V => cv_fb (pc_C S d) V (nc d) 0) (Int32.ofNat w) = none → ∃ S', m_X11_sample S3 0 (Int32.ofNat d) (Int32.ofNat w) = some (S', .inl 0) ∧ py_fr py_KS S3 S') ∧ (∀ V, sq_all (Is d) (fun V => cv_fb (pc_C S d) V (nc d) 0) (Int32.ofNat w) = some V → ∃ S', m_X11_sample S3 0 (Int32.ofNat d) (Int32.ofNat w) = some (S', .inl 1) ∧ py_fr py_KY S3 S' ∧ ∀ c, c < 24 → S' 35 0 c = V c) := fun S3 hf => by
    obtain ⟨w1, w2, w3, w4⟩ := env S3 hf
    have := pm_sample hI hR w1 hd (by omega) w2 w3 hn8 (show w ≤ 1000000 by omega)
    rw [w4] at this
    exact this
  cases hres : sq_all (Is d) (fun V => cv_fb (pc_C S d) V (nc d) 0) (Int32.ofNat w) with
  | none =>
    obtain ⟨S3, c1, c2⟩ := (smp S2 f2).1 hres
    have f3 := f2.trans (c2.sub (fun a i hh => py_KA_S hh))
    obtain ⟨n1, n2⟩ := pm_isNoted (S := S3) (a := 38) (i := 0) rfl
    obtain ⟨S4, d1, d2⟩ := (smp S3 f3).1 hres
    have f4 := f3.trans (d2.sub (fun a i hh => py_KA_S hh))
    rw [c1, py_b, py_el, if_pos rfl, n1 (fun j hj => by rw [c2 35 0 rfl, c2 38 0 rfl, b2 j hj, b3 35 0 rfl]), py_b, if_neg py_10, d1, py_b, py_el, if_pos rfl]
    refine ⟨S4, rfl, f4, fun k h1 h2 => ?_, ⟨n15 + 1, n16, ?_, by omega, ?_, by omega⟩, fun f _ len op h => ⟨len, Nat.le_refl _, h.cong ?_ ?_⟩⟩
    · rw [d2 36 0 rfl, c2 36 0 rfl, b3 36 0 rfl]; exact c36 k h1
    · rw [d2 36 0 rfl, c2 36 0 rfl, b3 36 0 rfl]; exact c15
    · rw [d2 36 0 rfl, c2 36 0 rfl, b3 36 0 rfl, c36 16 (by decide)]; exact h16
    · rw [d2 53 f rfl, c2 53 f rfl, b3 53 f rfl, k1 53 f rfl]
    · rw [d2 11 f rfl, c2 11 f rfl, b3 11 f rfl, k1 11 f rfl]
  | some V =>
    have h0 : (fun V => cv_fb (pc_C S d) V (nc d) 0) (fun _ => -2147483648) = 0 := cv_fb_none (fun _ => rfl) _ _
    obtain ⟨g1, g2, g3, g4, y, g5, g6⟩ := sq_run_g hI 1501 _ _ 0 V (sq_all_gs hI (fb := fun V => cv_fb (pc_C S d) V (nc d) 0) h0 (Int32.ofNat w)) hres
    obtain ⟨S3, c1, c2, c3⟩ := (smp S2 f2).2 V hres
    have f3 := f2.trans (c2.sub (fun a i hh => py_KA_Y hh))
    obtain ⟨S4, d1, d2, d3⟩ := pm_notes S3 (a := 38) (i := 0) rfl rfl
    have f4 := f3.trans (d3.sub K1A)
    obtain ⟨w1, w2, w3, w4⟩ := env S4 f4
    have hmsg := pm_message w1 hd (by omega) w3 hn8 (V := V) (fun c hc9 => by rw [d3 35 0 rfl]; exact c3 c hc9)
    have g1 : cv_fb (pc_C S d) V (nc d) 0 = 0 := g1
    rw [w4, g1] at hmsg
    obtain ⟨S5, e1, e2, e3⟩ := (smp S4 f4).2 V hres
    have f5 := f4.trans (e2.sub (fun a i hh => py_KA_Y hh))
    obtain ⟨x1, x2, x3, x4⟩ := env S5 f5
    have h38 : ∀ c, c < 24 → S5 38 0 c = V c := fun c hc9 => by rw [e2 38 0 rfl, d2 c hc9]; exact c3 c hc9
    obtain ⟨n1, n2⟩ := pm_isNoted (S := S5) (a := 38) (i := 0) rfl
    have h36 : S5 36 0 = S1 36 0 := by rw [e2 36 0 rfl, d3 36 0 rfl, c2 36 0 rfl, b3 36 0 rfl]
    have hfile : ∀ f, S5 53 f = S 53 f ∧ S5 11 f = S 11 f := fun f => by
      refine ⟨?_, ?_⟩
      · rw [e2 53 f rfl, d3 53 f rfl, c2 53 f rfl, b3 53 f rfl, k1 53 f rfl]
      · rw [e2 11 f rfl, d3 11 f rfl, c2 11 f rfl, b3 11 f rfl, k1 11 f rfl]
    have hf2 : X / 4 % 2 < 2 := Nat.mod_lt _ (by omega)
    obtain ⟨len, op, l1, l2⟩ := hF _ hf2
    obtain ⟨S6, u1, u2, u3, u4, u5, u6⟩ := pl_j121 (S := S5) (X := X) (n16 := n16) (V := V) hI hR x1 hd (by omega) x2 hX (l1.cong (hfile _).1 (hfile _).2) (by rw [h36, c36 _ (by omega)]; exact l2) (by rw [h36, c36 _ (by decide)]; exact h16) (by omega) e3 h38 g3 g2 g4 g5 g6
    rw [c1, py_b, py_el, if_neg py_10, d1, py_b, hmsg, py_b, py_el, if_pos rfl, e1, py_b, py_el, if_neg py_10, n1 (fun j hj => by rw [e3 j hj, h38 j hj]), py_b, if_neg py_10, u1]
    obtain ⟨m, m1, m2⟩ := u4
    refine ⟨S6, rfl, f5.trans u2, fun k h1 h2 => ?_, ⟨n15 + 1, m, ?_, by omega, m2, by omega⟩, fun f _ len' op' h => ?_⟩
    · rw [u3 k h2, h36]; exact c36 k h1
    · rw [u3 15 (by decide), h36]; exact c15
    · by_cases ef : f = X / 4 % 2
      · subst ef
        have q1 : len' = len := by
          have := h.1.symm.trans l1.1
          rw [py_eq (by have := h.2.1; omega) (by have := l1.2.1; omega)] at this
          exact this
        have q2 : op' = op := by
          have := h.2.2.1.symm.trans l1.2.2.1
          rw [py_eq (by have := h.2.2.2.1; omega) (by have := l1.2.2.2.1; omega)] at this
          exact this
        rw [q1, q2]
        exact u5
      · exact ⟨len', Nat.le_refl _, h.cong ((u6 f ef).2.trans (hfile f).1) ((u6 f ef).1.trans (hfile f).2)⟩
