/-! The law's upgrades: what is told. -/
theorem ue_cong {R R' : Int32 → Int32} : ∀ (M : List uP), (∀ p, p ∈ M → p.1 = 0 → R p.2 = R' p.2) → ue R M = ue R' M := by
  intro M
  induction M with
  | nil => intro _; rfl
  | cons p r ih =>
    intro h
    have e1 : ue R (p :: r) = uob R p (ue R r) := rfl
    have e2 : ue R' (p :: r) = uob R' p (ue R' r) := rfl
    rw [e1, e2, ih (fun q hq => h q (List.mem_cons_of_mem _ hq))]
    cases ue R' r with
    | none => rfl
    | some st =>
      show uo R p st = uo R' p st
      unfold uo
      by_cases h0 : p.1 = 0
      · rw [if_pos h0, if_pos h0, h p List.mem_cons_self h0]
      · rw [if_neg h0, if_neg h0]
theorem uv_cong {R R' : Int32 → Int32} {M : List uP} (h : ∀ p, p ∈ M → p.1 = 0 → R p.2 = R' p.2) : uv R M = uv R' M := by
  unfold uv
  rw [ue_cong M h]
theorem pm_set {S : pw_S} {k : Nat} {x : Int32} (hk : k < 8) : m_X11_set S 0 (Int32.ofNat k) 0 x = some (pw_up S 35 0 (upd (S 35 0) (k * 3) x), .inl (S 35 0 (k * 3))) := by
  have e : m_X11_isCell S (Int32.ofNat k) 0 = some (S, 1) := by
    have h := py_cell S k 0 (by omega) (by omega)
    rw [if_pos ⟨hk, by omega⟩] at h
    exact h
  unfold m_X11_set
  rw [e, py_b, if_neg py_10, py_cp0, py_b, py_atI _ _ _ _ _ (show k * 3 < 24 by omega), py_b, py_l, py_cp0, py_b, py_putI _ _ _ _ _ (show k * 3 < 24 by omega), py_b]
theorem pl_sets_2 {a : Nat} (ha : Nat.beq a 35 = false) (hl : pw_len a = 8) : ∀ (n N k : Nat) (S : pw_S), n < N → 8 = k + n → (∀ j, j < k → S 35 0 (j * 3) = S a 0 j) → ∃ S', m_L_sets_2 N S 0 a 0 (Int32.ofNat k) = some (S', ()) ∧ (∀ j, j < 8 → S' 35 0 (j * 3) = S a 0 j) ∧ py_fr (py_K1 35 0) S S' := by
  intro n
  induction n with
  | zero =>
    intro N k S hN hk h
    obtain ⟨N, rfl⟩ : ∃ q, N = q + 1 := ⟨N - 1, by omega⟩
    unfold m_L_sets_2
    rw [py_jeL (l := 8) (by omega) (by omega), if_pos (show 8 ≤ k by omega)]
    exact ⟨S, rfl, fun j hj => h j (by omega), py_fr_r⟩
  | succ n ih =>
    intro N k S hN hk h
    obtain ⟨N, rfl⟩ : ∃ q, N = q + 1 := ⟨N - 1, by omega⟩
    have f1 : py_fr (py_K1 35 0) S (pw_up S 35 0 (upd (S 35 0) (k * 3) (S a 0 k))) := py_fr_r.up (py_K1_s 35 0)
    have ea : (pw_up S 35 0 (upd (S 35 0) (k * 3) (S a 0 k))) a 0 = S a 0 := py_up_k _ _ ha
    obtain ⟨S', a1, a2, a3⟩ := ih N (k + 1) (pw_up S 35 0 (upd (S 35 0) (k * 3) (S a 0 k))) (by omega) (by omega) (fun j hj => by
      rw [ea, py_up_s]
      by_cases e : j = k
      · rw [e, py_u_s]
      · rw [py_u_n _ _ (by omega)]
        exact h j (by omega))
    unfold m_L_sets_2
    rw [py_jeL (l := 8) (by omega) (by omega), if_neg (show ¬ 8 ≤ k by omega), py_ct (py_inb (by omega) (by omega)), py_cl (by omega), pm_set (show k < 8 by omega), py_b, py_el, py_l, py_add1]
    rw [ea] at a2
    exact ⟨S', a1, a2, f1.trans a3⟩
theorem pl_sets {a : Nat} (ha : Nat.beq a 35 = false) (hl : pw_len a = 8) (S : pw_S) : ∃ S', m_L_sets S 0 a 0 = some (S', ()) ∧ (∀ j, j < 8 → S' 35 0 (j * 3) = S a 0 j) ∧ py_fr (py_K1 35 0) S S' := by
  obtain ⟨S', a1, a2⟩ := pl_sets_2 ha hl 8 (pw_F 9) 0 S (by rw [py_F]; omega) rfl (fun j hj => absurd hj (Nat.not_lt_zero j))
  refine ⟨S', ?_, a2⟩
  unfold m_L_sets
  rw [py_l]
  exact a1
theorem px_U.f1 {S S' : pw_S} {nu b u : Nat} {Ls : Nat → Nat → List uP} (h : px_U S nu Ls) (hf : py_fr (py_K1 b u) S S') (hb : Nat.beq 22 b = false ∧ Nat.beq 23 b = false ∧ Nat.beq 24 b = false ∧ Nat.beq 57 b = false ∧ Nat.beq 61 b = false) : px_U S' nu Ls := by
  obtain ⟨b1, b2, b3, b4, b5⟩ := hb
  refine h.cong ?_ (fun v _ => ⟨?_, ?_, ?_, ?_⟩)
  · rw [hf 61 0 (by unfold py_K1; rw [b5]; rfl)]
  · exact hf 22 v (by unfold py_K1; rw [b1]; rfl)
  · exact hf 23 v (by unfold py_K1; rw [b2]; rfl)
  · exact hf 24 v (by unfold py_K1; rw [b3]; rfl)
  · exact hf 57 v (by unfold py_K1; rw [b4]; rfl)
def py_KH (b a _i : Nat) : Bool := Nat.beq a 25 || Nat.beq a b
theorem py_KH_25 {b u : Nat} {S S' : pw_S} (h : py_fr (py_K1 25 u) S S') : py_fr (py_KH b) S S' := fun a i z => h a i (by
  unfold py_KH at z
  unfold py_K1
  rw [(Bool.or_eq_false_iff.mp z).1]
  rfl)
theorem py_KH_s (b i : Nat) : py_KH b b i = true := by
  unfold py_KH
  rw [Nat.beq_refl, Bool.or_true]
theorem px_U.fH {S S' : pw_S} {nu b : Nat} {Ls : Nat → Nat → List uP} (h : px_U S nu Ls) (hf : py_fr (py_KH b) S S') (hb : Nat.beq 22 b = false ∧ Nat.beq 23 b = false ∧ Nat.beq 24 b = false ∧ Nat.beq 57 b = false ∧ Nat.beq 61 b = false) : px_U S' nu Ls := by
  obtain ⟨b1, b2, b3, b4, b5⟩ := hb
  refine h.cong ?_ (fun v _ => ⟨?_, ?_, ?_, ?_⟩)
  · rw [hf 61 0 (by unfold py_KH; rw [b5]; rfl)]
  · exact hf 22 v (by unfold py_KH; rw [b1]; rfl)
  · exact hf 23 v (by unfold py_KH; rw [b2]; rfl)
  · exact hf 24 v (by unfold py_KH; rw [b3]; rfl)
  · exact hf 57 v (by unfold py_KH; rw [b4]; rfl)
theorem pl_tells_2 {nu u : Nat} {Ls : Nat → Nat → List uP} {R : Int32 → Int32} (hu : u < nu) : ∀ (n N k : Nat) (S : pw_S), n < N → 8 = k + n → px_U S nu Ls → ur S = R → (∀ j, j < k → S 39 0 j = uv R (Ls u j)) → ∃ S', m_L_tells_2 N S 0 (Int32.ofNat u) 39 0 (Int32.ofNat k) = some (S', ()) ∧ (∀ j, j < 8 → S' 39 0 j = uv R (Ls u j)) ∧ py_fr (py_KH 39) S S' := by
  intro n
  induction n with
  | zero =>
    intro N k S hN hk hU hR h
    obtain ⟨N, rfl⟩ : ∃ q, N = q + 1 := ⟨N - 1, by omega⟩
    unfold m_L_tells_2
    rw [py_jeL (l := 8) (by omega) (by omega), if_pos (show 8 ≤ k by omega)]
    exact ⟨S, rfl, fun j hj => h j (by omega), py_fr_r⟩
  | succ n ih =>
    intro N k S hN hk hU hR h
    obtain ⟨N, rfl⟩ : ∃ q, N = q + 1 := ⟨N - 1, by omega⟩
    obtain ⟨S1, a1, a2⟩ := pm_upgraded hU hu (show k < 8 by omega)
    rw [hR] at a1
    generalize hS2 : pw_up S1 39 0 (upd (S1 39 0) k (uv R (Ls u k))) = S2
    have f2 : py_fr (py_KH 39) S1 S2 := by
      rw [← hS2]
      exact py_fr_r.up (py_KH_s 39 0)
    have f := (py_KH_25 (b := 39) a2).trans f2
    have e39 : S2 39 0 = upd (S 39 0) k (uv R (Ls u k)) := by rw [← hS2, py_up_s, a2 39 0 rfl]
    obtain ⟨S', b1, b2, b3⟩ := ih N (k + 1) S2 (by omega) (by omega) (hU.fH f ⟨rfl, rfl, rfl, rfl, rfl⟩) (by
      rw [← hR]
      unfold ur
      rw [f 35 0 rfl]) (fun j hj => by
      rw [e39]
      by_cases e : j = k
      · rw [e, py_u_s]
      · rw [py_u_n _ _ e]
        exact h j (by omega))
    unfold m_L_tells_2
    rw [py_jeL (l := 8) (by omega) (by omega), if_neg (show ¬ 8 ≤ k by omega), a1, py_b, py_el, py_ct (py_inb (by omega) (by show k < 8; omega)), py_cl (by omega), hS2, py_l, py_l, py_add1]
    exact ⟨S', b1, b2, f.trans b3⟩
theorem pl_tells {S : pw_S} {nu u : Nat} {Ls : Nat → Nat → List uP} (hU : px_U S nu Ls) (hu : u < nu) : ∃ S', m_L_tells S 0 (Int32.ofNat u) 39 0 = some (S', ()) ∧ (∀ j, j < 8 → S' 39 0 j = uv (ur S) (Ls u j)) ∧ py_fr (py_KH 39) S S' := by
  obtain ⟨S', a1, a2⟩ := pl_tells_2 hu 8 (pw_F 9) 0 S (by rw [py_F]; omega) rfl hU rfl (fun j hj => absurd hj (Nat.not_lt_zero j))
  refine ⟨S', ?_, a2⟩
  unfold m_L_tells
  rw [py_l]
  exact a1
theorem pl_up_375 {nu u : Nat} {Ls : Nat → Nat → List uP} {R : Int32 → Int32} (hu : u < nu) (h8 : nu ≤ 8) (v8 v11 : Int32) (KK : pw_S → Nat → Nat → Nat → Nat → Nat → Int32 → Int32 → Int32 → pw_R Int32) : ∀ (n N k : Nat) (S : pw_S), n < N → 8 = k + n → px_U S nu Ls → ur S = R → (∀ j, j < k → S 101 0 j = uv R (Ls u j)) → ∃ S', m_L_upgrades_375 KK N S 0 39 0 36 0 v8 v11 (Int32.ofNat u) (Int32.ofNat k) = KK S' 0 39 0 36 0 v8 v11 (Int32.ofNat u) ∧ (∀ j, j < 8 → S' 101 0 j = uv R (Ls u j)) ∧ py_fr (py_KH 101) S S' := by
  intro n
  induction n with
  | zero =>
    intro N k S hN hk hU hR h
    obtain ⟨N, rfl⟩ : ∃ q, N = q + 1 := ⟨N - 1, by omega⟩
    unfold m_L_upgrades_375
    rw [py_jeL (l := 8) (by omega) (by omega), if_pos (show 8 ≤ k by omega)]
    exact ⟨S, rfl, fun j hj => h j (by omega), py_fr_r⟩
  | succ n ih =>
    intro N k S hN hk hU hR h
    obtain ⟨N, rfl⟩ : ∃ q, N = q + 1 := ⟨N - 1, by omega⟩
    obtain ⟨S1, a1, a2⟩ := pm_upgraded hU hu (show k < 8 by omega)
    rw [hR] at a1
    generalize hS2 : pw_up S1 101 0 (upd (S1 101 0) k (uv R (Ls u k))) = S2
    have f2 : py_fr (py_KH 101) S1 S2 := by
      rw [← hS2]
      exact py_fr_r.up (py_KH_s 101 0)
    have f := (py_KH_25 (b := 101) a2).trans f2
    have e39 : S2 101 0 = upd (S 101 0) k (uv R (Ls u k)) := by rw [← hS2, py_up_s, a2 101 0 rfl]
    obtain ⟨S', b1, b2, b3⟩ := ih N (k + 1) S2 (by omega) (by omega) (hU.fH f ⟨rfl, rfl, rfl, rfl, rfl⟩) (by
      rw [← hR]
      unfold ur
      rw [f 35 0 rfl]) (fun j hj => by
      rw [e39]
      by_cases e : j = k
      · rw [e, py_u_s]
      · rw [py_u_n _ _ e]
        exact h j (by omega))
    unfold m_L_upgrades_375
    rw [py_jeL (l := 8) (by omega) (by omega), if_neg (show ¬ 8 ≤ k by omega), py_jn (by omega), a1, py_b, py_el, py_ct (py_inb (by omega) (by omega)), py_cl (by omega), hS2, py_l, py_l, py_add1]
    exact ⟨S', b1, b2, f.trans b3⟩
theorem pl_up_375n {S : pw_S} (v8 v11 : Int32) (KK : pw_S → Nat → Nat → Nat → Nat → Nat → Int32 → Int32 → Int32 → pw_R Int32) {N : Nat} (hN : 0 < N) : m_L_upgrades_375 KK N S 0 39 0 36 0 v8 v11 (-1) 0 = KK S 0 39 0 36 0 v8 v11 (-1) := by
  obtain ⟨N, rfl⟩ : ∃ q, N = q + 1 := ⟨N - 1, by omega⟩
  unfold m_L_upgrades_375
  rw [if_neg (show ¬ (8 : Int32) ≤ 0 by decide), if_pos (show (-1 : Int32) < 0 by decide)]
theorem pl_up_414 {nu w q : Nat} {Ls : Nat → Nat → List uP} (hw : w < nu) (hq : q < 1000) (KK : pw_S → Nat → Nat → Nat → Nat → Nat → Int32 → Int32 → Int32 → pw_R Int32) : ∀ (n N k : Nat) (S : pw_S), n < N → 8 = k + n → px_U S nu Ls → (∀ j, j < 8 → uv (ur S) (Ls w j) = S 101 0 j) → ∃ S', m_L_upgrades_414 KK N S 0 39 0 36 0 1 (Int32.ofNat w) (Int32.ofNat q) (Int32.ofNat k) = KK S' 0 39 0 36 0 1 (Int32.ofNat w) (Int32.ofNat q) ∧ py_fr (py_KH 25) S S' := by
  intro n
  induction n with
  | zero =>
    intro N k S hN hk hU h
    obtain ⟨N, rfl⟩ : ∃ q, N = q + 1 := ⟨N - 1, by omega⟩
    unfold m_L_upgrades_414
    rw [py_jeL (l := 8) (by omega) (by omega), if_pos (show 8 ≤ k by omega)]
    exact ⟨S, rfl, py_fr_r⟩
  | succ n ih =>
    intro N k S hN hk hU h
    obtain ⟨N, rfl⟩ : ∃ q, N = q + 1 := ⟨N - 1, by omega⟩
    obtain ⟨S1, a1, a2⟩ := pm_upgraded hU hw (show k < 8 by omega)
    have f : py_fr (py_KH 25) S S1 := py_KH_25 a2
    have e35 : ur S1 = ur S := by
      unfold ur
      rw [a2 35 0 rfl]
    obtain ⟨S', b1, b2⟩ := ih N (k + 1) S1 (by omega) (by omega) (hU.fH f ⟨rfl, rfl, rfl, rfl, rfl⟩) (fun j hj => by rw [e35, a2 101 0 rfl]; exact h j hj)
    unfold m_L_upgrades_414
    rw [py_jeL (l := 8) (by omega) (by omega), if_neg (show ¬ 8 ≤ k by omega), py_jn (by omega), if_neg py_10, a1, py_b, py_el, py_ct (py_inb (by omega) (by omega)), py_cl (by omega), a2 101 0 rfl, if_pos (h k (by omega)), py_l, py_l, py_add1]
    exact ⟨S', b1, f.trans b2⟩
theorem pl_up_414n {S : pw_S} (v11 : Int32) (KK : pw_S → Nat → Nat → Nat → Nat → Nat → Int32 → Int32 → Int32 → pw_R Int32) {N : Nat} (hN : 0 < N) : m_L_upgrades_414 KK N S 0 39 0 36 0 1 v11 (-1) 0 = KK S 0 39 0 36 0 1 v11 (-1) := by
  obtain ⟨N, rfl⟩ : ∃ q, N = q + 1 := ⟨N - 1, by omega⟩
  unfold m_L_upgrades_414
  rw [if_neg (show ¬ (8 : Int32) ≤ 0 by decide), if_pos (show (-1 : Int32) < 0 by decide)]
theorem pl_up_506 {nu w : Nat} {Ls : Nat → Nat → List uP} (hw : w < nu) (h8 : nu ≤ 8) (v12 : Int32) (KK : pw_S → Nat → Nat → Nat → Int32 → Int32 → Int32 → pw_R Int32) : ∀ (n N k : Nat) (S : pw_S), n < N → 8 = k + n → px_U S nu Ls → (∀ j, j < 8 → S 100 0 j = -2147483648 → uv (ur S) (Ls w j) = -2147483648) → ∃ S', m_L_upgrades_506 KK N S 0 36 0 1 v12 (Int32.ofNat w) (Int32.ofNat k) = KK S' 0 36 0 1 v12 (Int32.ofNat w) ∧ py_fr (py_KH 25) S S' := by
  intro n
  induction n with
  | zero =>
    intro N k S hN hk hU h
    obtain ⟨N, rfl⟩ : ∃ q, N = q + 1 := ⟨N - 1, by omega⟩
    unfold m_L_upgrades_506
    rw [py_jeL (l := 8) (by omega) (by omega), if_pos (show 8 ≤ k by omega)]
    exact ⟨S, rfl, py_fr_r⟩
  | succ n ih =>
    intro N k S hN hk hU h
    obtain ⟨N, rfl⟩ : ∃ q, N = q + 1 := ⟨N - 1, by omega⟩
    obtain ⟨S1, a1, a2⟩ := pm_upgraded hU hw (show k < 8 by omega)
    have f : py_fr (py_KH 25) S S1 := py_KH_25 a2
    have e35 : ur S1 = ur S := by
      unfold ur
      rw [a2 35 0 rfl]
    obtain ⟨S', b1, b2⟩ := ih N (k + 1) S1 (by omega) (by omega) (hU.fH f ⟨rfl, rfl, rfl, rfl, rfl⟩) (fun j hj hz => by rw [e35]; rw [a2 100 0 rfl] at hz; exact h j hj hz)
    unfold m_L_upgrades_506
    rw [py_jeL (l := 8) (by omega) (by omega), if_neg (show ¬ 8 ≤ k by omega), py_jn (by omega), if_neg py_10, a1, py_b, py_el, py_l]
    by_cases e : uv (ur S) (Ls w k) = -2147483648
    · rw [if_pos e, py_l, py_l, py_add1]
      exact ⟨S', b1, f.trans b2⟩
    · rw [if_neg e, py_ct (py_inb (by omega) (by omega)), py_cl (by omega), a2 100 0 rfl, if_neg (fun z => e (h k (by omega) z)), py_l, py_l, py_add1]
      exact ⟨S', b1, f.trans b2⟩
theorem pl_up_506n {S : pw_S} (v12 : Int32) (KK : pw_S → Nat → Nat → Nat → Int32 → Int32 → Int32 → pw_R Int32) {N : Nat} (hN : 0 < N) : m_L_upgrades_506 KK N S 0 36 0 1 v12 (-1) 0 = KK S 0 36 0 1 v12 (-1) := by
  obtain ⟨N, rfl⟩ : ∃ q, N = q + 1 := ⟨N - 1, by omega⟩
  unfold m_L_upgrades_506
  rw [if_neg (show ¬ (8 : Int32) ≤ 0 by decide), if_pos (show (-1 : Int32) < 0 by decide)]
