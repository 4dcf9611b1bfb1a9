/-! The working record, samples, and what the law asks of them. -/
theorem py_fr.sub {K K' : Nat → Nat → Bool} {S S' : pw_S} (h : py_fr K S S') (hK : ∀ a i, K' a i = false → K a i = false) : py_fr K' S S' := fun a i z => h a i (hK a i z)
/-- cells of files, the record, readers, printers, samplers and the law's rows c and r -/
def py_KA (a _i : Nat) : Bool := Nat.beq a 0 || (Nat.beq a 1 || (Nat.beq a 50 || (Nat.beq a 28 || (Nat.beq a 29 || (Nat.beq a 30 || (Nat.beq a 31 || (Nat.beq a 32 || (Nat.beq a 33 || (Nat.beq a 34 || (Nat.beq a 35 || (Nat.beq a 59 || (Nat.beq a 60 || (Nat.beq a 11 || (Nat.beq a 53 || (Nat.beq a 38 || Nat.beq a 36)))))))))))))))
theorem py_KA_S {a i : Nat} (h : py_KA a i = false) : py_KS a i = false := by
  simp only [py_KA, Bool.or_eq_false_iff] at h
  simp only [py_KS, h.1, h.2.1, h.2.2.1, h.2.2.2.1, h.2.2.2.2.1, h.2.2.2.2.2.2.2.2.1, h.2.2.2.2.2.2.2.2.2.1, h.2.2.2.2.2.2.2.2.2.2.2.2.1, Bool.or_false, Bool.false_and]
theorem py_KA_X {a i : Nat} (h : py_KA a i = false) : py_KX a i = false := by
  simp only [py_KA, Bool.or_eq_false_iff] at h
  simp only [py_KX, py_KR, h.1, h.2.1, h.2.2.1, h.2.2.2.2.2.1, h.2.2.2.2.2.2.1, h.2.2.2.2.2.2.2.1, h.2.2.2.2.2.2.2.2.2.2.1, h.2.2.2.2.2.2.2.2.2.2.2.1, Bool.or_false, Bool.false_and]
theorem py_KA_R {a i : Nat} (h : py_KA a i = false) : py_KR a i = false := by
  have := py_KA_X h
  unfold py_KX at this
  rw [Bool.or_eq_false_iff] at this
  exact this.1
theorem py_KA_P {a i : Nat} (h : py_KA a i = false) : py_KP a i = false := by
  cases hp : py_KP a i with
  | false => rfl
  | true =>
    have := py_KS_P a i hp
    rw [py_KA_S h] at this
    cases this
theorem py_d3 (k : Nat) (hk : k < 1000) : Int32.ofNat k / 3 = Int32.ofNat (k / 3) ∧ Int32.ofNat k - Int32.ofNat k / 3 * 3 = Int32.ofNat (k % 3) := ⟨py_div (b := 3) (by omega) (by omega), py_mod (b := 3) (by omega) (by omega)⟩
theorem pm_get (S : pw_S) (k : Nat) (hk : k < 24) : m_X11_get S 0 (Int32.ofNat k / 3) (Int32.ofNat k - Int32.ofNat k / 3 * 3) = some (S, .inl (S 35 0 k)) := by
  obtain ⟨e1, e2⟩ := py_d3 k (by omega)
  unfold m_X11_get
  rw [e2, e1, py_cell _ _ _ (by omega) (by omega), py_b, if_pos (show k / 3 < 8 ∧ k % 3 < 3 by omega), if_neg py_10, py_cp, py_b, show k / 3 * 3 + k % 3 = k from by omega, py_atI _ _ _ _ _ (show k < 24 from hk), py_b]
theorem pm_notes_2 {a i : Nat} (ha : pw_len a = 24) (hne : Nat.beq 35 a = false) : ∀ (m N k : Nat) (S : pw_S), m < N → 24 = k + m → ∃ S', m_L_notes_2 N S 0 a i (Int32.ofNat k) = some (S', ()) ∧ (∀ j, k ≤ j → j < 24 → S' a i j = S 35 0 j) ∧ (∀ j, j < k → S' a i j = S a i j) ∧ py_fr (py_K1 a i) S S' := by
  intro m
  induction m with
  | zero =>
    intro N k S hN hk
    obtain ⟨N, rfl⟩ : ∃ q, N = q + 1 := ⟨N - 1, by omega⟩
    unfold m_L_notes_2
    rw [py_jeL (l := 24) (by omega) (by omega), if_pos (by omega)]
    exact ⟨S, rfl, fun j h1 h2 => by omega, fun j _ => rfl, py_fr_r⟩
  | succ m ih =>
    intro N k S hN hk
    obtain ⟨N, rfl⟩ : ∃ q, N = q + 1 := ⟨N - 1, by omega⟩
    have hrow : pw_up S a i (upd (S a i) k (S 35 0 k)) 35 0 = S 35 0 := py_up_k _ _ hne
    obtain ⟨S', b1, b2, b3, b4⟩ := ih N (k + 1) (pw_up S a i (upd (S a i) k (S 35 0 k))) (by omega) (by omega)
    unfold m_L_notes_2
    rw [py_jeL (l := 24) (by omega) (by omega), if_neg (by omega), pm_get S k (by omega), py_b, py_el, py_ct (py_inb (by omega) (by omega)), py_l, py_cl (by omega), py_l, py_add1, b1]
    refine ⟨S', rfl, fun j h1 h2 => ?_, fun j h1 => ?_, (py_fr_r.up (py_K1_s a i)).trans b4⟩
    · by_cases e : j = k
      · subst e
        rw [b3 j (by omega), py_up_s, py_u_s]
      · rw [b2 j (by omega) h2, hrow]
    · rw [b3 j (by omega), py_up_s, py_u_n _ _ (by omega)]
theorem pm_notes (S : pw_S) {a i : Nat} (ha : pw_len a = 24) (hne : Nat.beq 35 a = false) : ∃ S', m_L_notes S 0 a i = some (S', ()) ∧ (∀ j, j < 24 → S' a i j = S 35 0 j) ∧ py_fr (py_K1 a i) S S' := by
  unfold m_L_notes
  rw [py_l]
  obtain ⟨S', b1, b2, b3, b4⟩ := pm_notes_2 (i := i) ha hne 24 (pw_F 25) 0 S (by rw [py_F]; omega) (by omega)
  exact ⟨S', b1, fun j h => b2 j (Nat.zero_le _) h, b4⟩
theorem pm_isNoted_4 {S : pw_S} {a i : Nat} (ha : pw_len a = 24) : ∀ (m N k : Nat), m < N → 24 = k + m → ((∀ j, k ≤ j → j < 24 → S 35 0 j = S a i j) → m_L_isNoted_4 N S 0 a i 1 (Int32.ofNat k) = some (S, 1)) ∧ (¬ (∀ j, k ≤ j → j < 24 → S 35 0 j = S a i j) → m_L_isNoted_4 N S 0 a i 1 (Int32.ofNat k) = some (S, 0)) := by
  intro m
  induction m with
  | zero =>
    intro N k hN hk
    obtain ⟨N, rfl⟩ : ∃ q, N = q + 1 := ⟨N - 1, by omega⟩
    unfold m_L_isNoted_4
    rw [py_jeL (l := 24) (by omega) (by omega), if_pos (by omega)]
    exact ⟨fun _ => rfl, fun z => absurd (fun j h1 h2 => by omega) z⟩
  | succ m ih =>
    intro N k hN hk
    obtain ⟨N, rfl⟩ : ∃ q, N = q + 1 := ⟨N - 1, by omega⟩
    obtain ⟨i1, i2⟩ := ih N (k + 1) (by omega) (by omega)
    unfold m_L_isNoted_4
    rw [py_jeL (l := 24) (by omega) (by omega), if_neg (show ¬ 24 ≤ k by omega), if_neg py_10, pm_get S k (by omega), py_b, py_el, py_ct (py_inb (by omega) (by omega)), py_cl (by omega)]
    by_cases e : S 35 0 k = S a i k
    · rw [if_pos e, py_l, py_l, py_add1]
      refine ⟨fun z => i1 (fun j h1 h2 => z j (by omega) h2), fun z => i2 (fun z2 => z (fun j h1 h2 => ?_))⟩
      by_cases ej : j = k
      · rw [ej]
        exact e
      · exact z2 j (by omega) h2
    · rw [if_neg e, py_l, py_l, py_add1]
      refine ⟨fun z => absurd (z k (Nat.le_refl _) (by omega)) e, fun _ => ?_⟩
      obtain ⟨N, rfl⟩ : ∃ q, N = q + 1 := ⟨N - 1, by omega⟩
      unfold m_L_isNoted_4
      rw [py_jeL (l := 24) (by omega) (by omega)]
      by_cases e24 : 24 ≤ k + 1
      · rw [if_pos e24]
        rfl
      · rw [if_neg e24, if_pos rfl]
        rfl
theorem pm_isNoted {S : pw_S} {a i : Nat} (ha : pw_len a = 24) : ((∀ j, j < 24 → S 35 0 j = S a i j) → m_L_isNoted S 0 a i = some (S, 1)) ∧ (¬ (∀ j, j < 24 → S 35 0 j = S a i j) → m_L_isNoted S 0 a i = some (S, 0)) := by
  obtain ⟨i1, i2⟩ := pm_isNoted_4 (S := S) (i := i) ha 24 (pw_F 25) 0 (by rw [py_F]; omega) (by omega)
  unfold m_L_isNoted
  rw [py_l, py_l]
  exact ⟨fun z => i1 (fun j _ h => z j h), fun z => i2 (fun z2 => z (fun j h => z2 j (Nat.zero_le _) h))⟩
/-! sure -/
theorem pm_unsure_2 {S : pw_S} {d : Nat} {I : py_I} (h : py_Ri S d I) : ∀ (m N k : Nat), m < N → pi_n I = k + m → ∃ r, m_X2_firstUnsure_2 N S d (Int32.ofNat k) = some (S, r) ∧ ((r = -1 ∧ ∀ j, k ≤ j → j < pi_n I → (pi_k I j = 1 → pi_c I j ≠ 2) ∧ (pi_k I j = 2 → ¬ (97 ≤ pi_b I j ∧ pi_b I j ≤ 122))) ∨ ∃ j, j < pi_n I ∧ r = Int32.ofNat j) := by
  have h14 := h.2.1
  intro m
  induction m with
  | zero =>
    intro N k hN hk
    obtain ⟨N, rfl⟩ : ∃ q, N = q + 1 := ⟨N - 1, by omega⟩
    unfold m_X2_firstUnsure_2
    rw [h.1, py_je (by omega) (by omega), if_pos (by omega)]
    exact ⟨-1, rfl, Or.inl ⟨rfl, fun j h1 h2 => by omega⟩⟩
  | succ m ih =>
    intro N k hN hk
    obtain ⟨N, rfl⟩ : ∃ q, N = q + 1 := ⟨N - 1, by omega⟩
    have hkn : k < pi_n I := by omega
    obtain ⟨-, -, -, -, k9, ka, kb, kc⟩ := h.2.2 k hkn
    obtain ⟨r, i1, i2⟩ := ih N (k + 1) (by omega) (by omega)
    have next : ((pi_k I k = 1 → pi_c I k ≠ 2) ∧ (pi_k I k = 2 → ¬ (97 ≤ pi_b I k ∧ pi_b I k ≤ 122))) → ((r = -1 ∧ ∀ j, k ≤ j → j < pi_n I → (pi_k I j = 1 → pi_c I j ≠ 2) ∧ (pi_k I j = 2 → ¬ (97 ≤ pi_b I j ∧ pi_b I j ≤ 122))) ∨ ∃ j, j < pi_n I ∧ r = Int32.ofNat j) := fun hh => by
      rcases i2 with ⟨q1, q2⟩ | q
      · refine Or.inl ⟨q1, fun j h1 h2 => ?_⟩
        by_cases ej : j = k
        · rw [ej]
          exact hh
        · exact q2 j (by omega) h2
      · exact Or.inr q
    unfold m_X2_firstUnsure_2
    rw [h.1, py_je (by omega) (by omega), if_neg (show ¬ pi_n I ≤ k by omega), pk_kind h hkn, py_b, py_jqR (l := 1) (by omega) (by omega)]
    have bt : m_X11_isBetween S (Int32.ofNat (pi_b I k)) 97 122 = some (S, if 97 ≤ pi_b I k ∧ pi_b I k ≤ 122 then 1 else 0) := by
      rw [py_btw]
      by_cases e : 97 ≤ pi_b I k ∧ pi_b I k ≤ 122
      · rw [if_pos e, if_pos (show (97 : Int32) ≤ Int32.ofNat (pi_b I k) ∧ Int32.ofNat (pi_b I k) ≤ 122 from py_in (l := 97) (h := 122) e.1 e.2 (by omega))]
      · rw [if_neg e, if_neg (fun z => e (by
          obtain ⟨z1, z2⟩ := z
          rw [show (97 : Int32) = Int32.ofNat 97 from rfl, py_le (by omega) (by omega)] at z1
          rw [show (122 : Int32) = Int32.ofNat 122 from rfl, py_le (by omega) (by omega)] at z2
          exact ⟨z1, z2⟩))]
    have two : pi_k I k ≠ 1 → ∃ r, (pw_b (m_X2_kind S d (Int32.ofNat k)) fun S33 r36 => if r36 = 2 then (pw_b (m_X2_b S33 d (Int32.ofNat k)) fun S38 r41 => pw_b (m_X11_isBetween S38 r41 97 122) fun S43 r46 => if r46 = 0 then (pw_l (Int32.ofNat k + 1 : Int32) fun z48 => m_X2_firstUnsure_2 N S43 d z48) else (some (S43, Int32.ofNat k))) else (pw_l (Int32.ofNat k + 1 : Int32) fun z49 => m_X2_firstUnsure_2 N S33 d z49)) = some (S, r) ∧ ((r = -1 ∧ ∀ j, k ≤ j → j < pi_n I → (pi_k I j = 1 → pi_c I j ≠ 2) ∧ (pi_k I j = 2 → ¬ (97 ≤ pi_b I j ∧ pi_b I j ≤ 122))) ∨ ∃ j, j < pi_n I ∧ r = Int32.ofNat j) := fun hk1 => by
      rw [pk_kind h hkn, py_b, py_jqR (l := 2) (by omega) (by omega)]
      by_cases e2 : pi_k I k = 2
      · rw [if_pos e2, pk_b h hkn, py_b, bt, py_b]
        by_cases e : 97 ≤ pi_b I k ∧ pi_b I k ≤ 122
        · rw [if_pos e, if_neg py_10]
          exact ⟨_, rfl, Or.inr ⟨k, hkn, rfl⟩⟩
        · rw [if_neg e, if_pos rfl, py_l, py_add1]
          exact ⟨r, i1, next ⟨fun z => absurd z hk1, fun _ => e⟩⟩
      · rw [if_neg e2, py_l, py_add1]
        exact ⟨r, i1, next ⟨fun z => absurd z hk1, fun z => absurd z e2⟩⟩
    by_cases e1 : pi_k I k = 1
    · have hwf : m_X11_fillOfWord S (Int32.ofNat (pi_c I k)) = some (S, pe_wf (pi_c I k)) := by
        unfold m_X11_fillOfWord pe_wf
        rw [py_jqR (l := 0) (by omega) (by omega), py_jqR (l := 1) (by omega) (by omega)]
        by_cases c0 : pi_c I k = 0
        · rw [if_pos c0, if_pos c0]
        · rw [if_neg c0, if_neg c0]
          by_cases c1 : pi_c I k = 1
          · rw [if_pos c1, if_pos c1]
          · rw [if_neg c1, if_neg c1]
      rw [if_pos e1, pk_c h hkn, py_b, hwf, py_b]
      by_cases e97 : pe_wf (pi_c I k) = 97
      · rw [if_pos e97]
        exact ⟨_, rfl, Or.inr ⟨k, hkn, rfl⟩⟩
      · rw [if_neg e97, pk_kind h hkn, py_b, py_jqR (l := 2) (by omega) (by omega), if_neg (show ¬ pi_k I k = 2 by omega), py_l, py_add1]
        refine ⟨r, i1, next ⟨fun _ z => e97 ?_, fun z => by omega⟩⟩
        rw [z]
        rfl
    · rw [if_neg e1]
      exact two e1
theorem pm_sure {S : pw_S} {d dc : Nat} {I : py_I} (hdc : S 61 0 2 = Int32.ofNat dc) (hd : d < dc) (hc : dc ≤ 6) (hRi : py_Ri S d I) : ∃ r, m_X11_sure S 0 (Int32.ofNat d) = some (S, .inl r) ∧ ((r = -1 ∧ pi_su I) ∨ ∃ j, j < pi_n I ∧ r = Int32.ofNat j) := by
  obtain ⟨r, i1, i2⟩ := pm_unsure_2 hRi (pi_n I) (pw_F 20000) 0 (by rw [py_F]; have := hRi.2.1; omega) (by omega)
  unfold m_X11_sure m_X2_firstUnsure
  rw [pm_desc hdc hd hc, py_b, py_os, py_l, show m_X2_firstUnsure_2 (pw_F 20000) S d 0 = some (S, r) from i1, py_b]
  refine ⟨r, rfl, ?_⟩
  rcases i2 with ⟨q1, q2⟩ | q
  · exact Or.inl ⟨q1, fun j hj => q2 j (Nat.zero_le _) hj⟩
  · exact Or.inr q
theorem pm_message {S : pw_S} {d dc nc : Nat} (hdc : S 61 0 2 = Int32.ofNat dc) (hd : d < dc) (hc : dc ≤ 6) (hn : S 52 d 6 = Int32.ofNat nc) (hn8 : nc ≤ 8) {V : Nat → Int32} (hV : ∀ c, c < 24 → S 35 0 c = V c) : m_X11_message S 0 (Int32.ofNat d) = some (S, .inl (cv_fb (pc_C S d) V nc 0)) := by
  unfold m_X11_message
  rw [pm_desc hdc hd hc, py_b, py_os, pc_fb rfl hV hn hn8, py_b]
def py_KY (a i : Nat) : Bool := py_KS a i || Nat.beq a 35
theorem py_KA_Y {a i : Nat} (h : py_KA a i = false) : py_KY a i = false := by
  have h1 := py_KA_S h
  simp only [py_KA, Bool.or_eq_false_iff] at h
  unfold py_KY
  rw [h1, h.2.2.2.2.2.2.2.2.2.2.1]
  rfl
theorem pm_sample {S : pw_S} {d dc nc w : Nat} {I : py_I} (hI : pi_ok I) (hR : pi_rg I) (hdc : S 61 0 2 = Int32.ofNat dc) (hd : d < dc) (hc : dc ≤ 6) (hRi : py_Ri S d I) (hn : S 52 d 6 = Int32.ofNat nc) (hn8 : nc ≤ 8) (hw : w ≤ 1000000) :
    (sq_all I (fun V => cv_fb (pc_C S d) V nc 0) (Int32.ofNat w) = none → ∃ S', m_X11_sample S 0 (Int32.ofNat d) (Int32.ofNat w) = some (S', .inl 0) ∧ py_fr py_KS S S') ∧
    (∀ V, sq_all I (fun V => cv_fb (pc_C S d) V nc 0) (Int32.ofNat w) = some V → ∃ S', m_X11_sample S 0 (Int32.ofNat d) (Int32.ofNat w) = some (S', .inl 1) ∧ py_fr py_KY S S' ∧ ∀ c, c < 24 → S' 35 0 c = V c) := by
  obtain ⟨p1, p2⟩ := pq_search hI hR hRi hn hn8 (Int32.ofNat w)
  unfold m_X11_sample
  rw [pm_desc hdc hd hc, py_b, py_os, py_jn (by omega), py_jeR (l := 1000000) (by omega) (by omega), if_pos hw]
  refine ⟨fun z => ?_, fun V z => ?_⟩
  · obtain ⟨S', m1, m2⟩ := p1 z
    rw [m1, py_b, py_on]
    exact ⟨S', rfl, m2⟩
  · obtain ⟨S', i', m1, m2, m3⟩ := p2 V z
    have hcp := py_cpy S' 0 i' 0 35 0 0 24 (by omega) (by decide) (by decide) rfl
    rw [m1, py_b, py_os, show m_X11_copyCells S' 0 i' 0 35 0 0 24 = _ from hcp, py_b]
    refine ⟨_, rfl, (m2.sub (fun a i hh => by
      unfold py_KY at hh
      rw [Bool.or_eq_false_iff] at hh
      exact hh.1)).up rfl, fun c hc9 => ?_⟩
    rw [py_up_s, ← m3 c hc9]
    unfold va_cpy
    rw [if_pos (by omega)]
    congr 1
    omega
