/-! The law's columns. -/
theorem pl_cell {S : pw_S} {f rc r d s : Nat} (hf : f < 2) (h7 : S 54 f 7 = Int32.ofNat rc) (hrc : rc ≤ 24) (hr : r < rc) (hs : s < 8) (hd : d < 1000) : m_L_cell S 0 (Int32.ofNat f) (Int32.ofNat r - Int32.ofNat d) (Int32.ofNat s) = some (S, cz_K (cz_B S f rc s) r d) := by
  unfold m_L_cell cz_K
  by_cases e : d ≤ r
  · have h := pm_cell (S := S) (r := r - d) (k := s * 3) hf h7 hrc (by omega) (by omega)
    rw [Nat.mul_div_cancel s (by omega), Nat.mul_mod_left] at h
    rw [py_sub e, py_jz (by omega), show (0 : Int32) = Int32.ofNat 0 from rfl, h, py_b, py_el, if_pos e]
    unfold cz_B pb_c
    rw [if_pos (show r - d < rc by omega)]
  · have e2 : Int32.ofNat r - Int32.ofNat d < 0 := py_subneg (by omega) (by omega)
    rw [if_neg e, if_neg (fun z => by rw [Int32.le_iff_toInt_le] at z; rw [Int32.lt_iff_toInt_lt] at e2; omega)]
theorem py_sub0 (r : Nat) : Int32.ofNat r = Int32.ofNat r - Int32.ofNat 0 := by
  rw [py_sub (Nat.zero_le r)]
  rfl
theorem pl_cols_j207 (k1 : pw_S → Nat → Nat → Nat → Nat → Nat → Int32 → Int32 → Int32 → Int32 → Int32 → Int32 → Int32 → Int32 → pw_R Int32) (k3 : pw_S → Nat → Nat → Nat → Nat → Nat → Int32 → Int32 → Int32 → Int32 → Int32 → Int32 → Int32 → pw_R Int32) (S : pw_S) (v0 va1 vi1 va2 vi2 : Nat) (v4 v5 v7 v8 v9 a z : Int32) {kd i : Nat} (hkd : kd ≤ 3) : m_L_areColumns_j207 k1 k3 S v0 va1 vi1 va2 vi2 v4 v5 (Int32.ofNat kd) v7 v8 v9 a (Int32.ofNat i) z = k1 S v0 va1 vi1 va2 vi2 v4 v5 (Int32.ofNat kd) v7 v8 v9 (cz_o kd a z) (Int32.ofNat (i + 1)) := by
  unfold m_L_areColumns_j207 cz_o
  rw [py_l]
  by_cases e1 : z = -2147483648
  · rw [if_pos e1, if_pos e1, py_l, py_l, py_add1]
  · rw [if_neg e1, if_neg e1]
    by_cases e2 : a = -2147483648
    · rw [if_pos e2, if_pos e2, py_l, py_l, py_add1]
    · rw [if_neg e2, if_neg e2, py_jqR (l := 1) (by omega) (by omega)]
      by_cases e3 : kd = 1
      · rw [if_pos e3, if_pos e3, py_l, py_l, py_add1]
      · rw [if_neg e3, if_neg e3]
        by_cases e4 : z ≤ a
        · rw [if_pos e4, if_pos e4, py_l, py_l, py_add1]
        · rw [if_neg e4, if_neg e4, py_l, py_l, py_add1]
theorem pl_cols_174 {S : pw_S} {f rc r s w kd : Nat} (hf : f < 2) (h7 : S 54 f 7 = Int32.ofNat rc) (hrc : rc ≤ 24) (hr : r < rc) (hs : s < 8) (hkd : kd ≤ 3) (hw : w ≤ 5) (k3 : pw_S → Nat → Nat → Nat → Nat → Nat → Int32 → Int32 → Int32 → Int32 → Int32 → Int32 → Int32 → pw_R Int32) (v4 : Int32) : ∀ (n N i : Nat), n < N → w = i + n → m_L_areColumns_174 k3 N S 0 37 0 36 0 v4 (Int32.ofNat f) (Int32.ofNat kd) (Int32.ofNat s) (Int32.ofNat w) (Int32.ofNat r) (cz_j kd (cz_K (cz_B S f rc s) r) i) (Int32.ofNat i) = k3 S 0 37 0 36 0 v4 (Int32.ofNat f) (Int32.ofNat kd) (Int32.ofNat s) (Int32.ofNat w) (Int32.ofNat r) (cz_j kd (cz_K (cz_B S f rc s) r) w) := by
  intro n
  induction n with
  | zero =>
    intro N i hN hi
    obtain ⟨N, rfl⟩ : ∃ q, N = q + 1 := ⟨N - 1, by omega⟩
    unfold m_L_areColumns_174
    rw [py_je (by omega) (by omega), if_pos (show w ≤ i by omega), show i = w by omega]
  | succ n ih =>
    intro N i hN hi
    obtain ⟨N, rfl⟩ : ∃ q, N = q + 1 := ⟨N - 1, by omega⟩
    unfold m_L_areColumns_174
    rw [py_je (by omega) (by omega), if_neg (show ¬ w ≤ i by omega)]
    have e9 : cz_o kd (cz_j kd (cz_K (cz_B S f rc s) r) i) (cz_K (cz_B S f rc s) r i) = cz_j kd (cz_K (cz_B S f rc s) r) (i + 1) := rfl
    by_cases e : i ≤ r
    · rw [if_pos (show (0 : Int32) ≤ Int32.ofNat r - Int32.ofNat i by rw [py_sub e, py_z0 (by omega)]; trivial), pl_cell hf h7 hrc hr hs (by omega), py_b]
      refine (pl_cols_j207 _ _ S 0 37 0 36 0 v4 _ _ _ _ _ _ hkd).trans ?_
      rw [e9]
      exact ih N (i + 1) (by omega) (by omega)
    · have e2 : Int32.ofNat r - Int32.ofNat i < 0 := py_subneg (by omega) (by omega)
      have e3 : cz_K (cz_B S f rc s) r i = -2147483648 := if_neg e
      rw [if_neg (fun z => by rw [Int32.le_iff_toInt_le] at z; rw [Int32.lt_iff_toInt_lt] at e2; omega)]
      refine (pl_cols_j207 _ _ S 0 37 0 36 0 v4 _ _ _ _ _ _ hkd).trans ?_
      rw [← e3, e9]
      exact ih N (i + 1) (by omega) (by omega)
theorem cz_B_rng {S : pw_S} {f rc s : Nat} (hs : s < 8) (hr : ∀ r, r < rc → ∀ c, c < 24 → S 12 f (r * 24 + c) = -2147483648 ∨ ∃ w, w < 134217728 ∧ S 12 f (r * 24 + c) = Int32.ofNat w) (j : Nat) : cz_B S f rc s j = -2147483648 ∨ ∃ t, t < 134217728 ∧ cz_B S f rc s j = Int32.ofNat t := by
  unfold cz_B pb_c
  by_cases e : j < rc
  · rw [if_pos e]
    exact hr j e _ (by omega)
  · rw [if_neg e]
    exact Or.inl rfl
/-- what the law knows of a column -/
def px_1 (S : pw_S) (nk k f kd s w rc : Nat) : Prop := px_k S k f kd s w ∧ S 54 f 7 = Int32.ofNat rc ∧ rc ≤ 10 ∧ S 36 0 (5 + 6 * f) = Int32.ofNat rc ∧ S 61 0 10 = Int32.ofNat nk ∧ k < nk ∧ nk ≤ 6 ∧ ∀ r, r < rc → ∀ c, c < 24 → S 12 f (r * 24 + c) = -2147483648 ∨ ∃ w, w < 134217728 ∧ S 12 f (r * 24 + c) = Int32.ofNat w
theorem px_1.fr {S S' : pw_S} {nk k f kd s w rc : Nat} (h : px_1 S nk k f kd s w rc) (hf : py_fr py_KC S S') : px_1 S' nk k f kd s w rc := by
  obtain ⟨a1, a2, a3, a4, a5, a6, a7, a8⟩ := h
  refine ⟨a1.cong (hf 55 k rfl), ?_, a3, ?_, ?_, a6, a7, ?_⟩
  · rw [hf 54 f rfl, a2]
  · rw [hf 36 0 rfl, a4]
  · rw [hf 61 0 rfl, a5]
  · rw [hf 12 f rfl]
    exact a8
theorem pl_cols_j269 {S : pw_S} {nk k f kd s w rc i : Nat} (h : px_1 S nk k f kd s w rc) (hi : i < rc) (k65 : pw_S → Nat → Nat → Nat → Nat → Nat → Int32 → Int32 → Int32 → Int32 → Int32 → Int32 → Int32 → pw_R Int32) (k307 : pw_S → Nat → Nat → Nat → Nat → Nat → Int32 → Int32 → Int32 → pw_R Int32) (v5 v6 v7 v8 : Int32) :
    ∃ S', m_L_areColumns_j269 k65 k307 S 0 37 0 36 0 (Int32.ofNat k) v5 v6 v7 v8 (Int32.ofNat i) (cz_d kd w (cz_K (cz_B S f rc s) i)) = k65 S' 0 37 0 36 0 1 (Int32.ofNat k) v5 v6 v7 v8 (Int32.ofNat (i + 1)) ∧ py_fr py_KC S S' := by
  obtain ⟨a1, a2, a3, a4, a5, a6, a7, a8⟩ := h
  obtain ⟨S', b1, b2⟩ := pm_derivedByBatch a5 a6 a7 a1 a2 (by omega) hi (cz_B_rng a1.2.2.2.2.2.1 a8)
  refine ⟨S', ?_, b2⟩
  unfold m_L_areColumns_j269
  rw [pm_derived a5 a6 a7 a1 a2 (by omega) (by omega), if_pos hi, py_b, py_el, if_pos rfl, b1, py_b, py_el, if_pos rfl, py_l, py_l, py_add1]
theorem pz_5f (f : Nat) : (5 : Int32) + 6 * Int32.ofNat f = Int32.ofNat (5 + 6 * f) := by
  rw [show (6 : Int32) * Int32.ofNat f = Int32.ofNat (6 * f) from py_mul 6 f]
  exact py_add 5 _
theorem pl_cols_65 {nk k f kd s w rc : Nat} (k307 : pw_S → Nat → Nat → Nat → Nat → Nat → Int32 → Int32 → Int32 → pw_R Int32) : ∀ (n N i : Nat) (S : pw_S), n < N → rc = i + n → px_1 S nk k f kd s w rc →
    ∃ S', m_L_areColumns_65 k307 N S 0 37 0 36 0 1 (Int32.ofNat k) (Int32.ofNat f) (Int32.ofNat kd) (Int32.ofNat s) (Int32.ofNat w) (Int32.ofNat i) = k307 S' 0 37 0 36 0 1 (Int32.ofNat k) (Int32.ofNat f) ∧ py_fr py_KC S S' := by
  intro n
  induction n with
  | zero =>
    intro N i S hN hi h
    obtain ⟨N, rfl⟩ : ∃ q, N = q + 1 := ⟨N - 1, by omega⟩
    obtain ⟨a1, a2, a3, a4, a5, a6, a7, a8⟩ := h
    have hf := a1.2.1
    unfold m_L_areColumns_65
    rw [pz_5f, pz_b hf 5 (by decide), pz_c hf 5 (by decide), a4, py_je (by omega) (by omega), if_pos (show rc ≤ i by omega)]
    exact ⟨S, rfl, py_fr_r⟩
  | succ n ih =>
    intro N i S hN hi h
    obtain ⟨N, rfl⟩ : ∃ q, N = q + 1 := ⟨N - 1, by omega⟩
    have hh := h
    obtain ⟨a1, a2, a3, a4, a5, a6, a7, a8⟩ := hh
    obtain ⟨h2, hf, h3, hkd, h4, hs, h5, hw1, hw5⟩ := a1
    obtain ⟨S1, b1, b2⟩ := pl_cols_j269 h (show i < rc by omega) (fun S171 u154 u156 u157 u160 u161 u164 u165 u166 u167 u168 u169 u170 => m_L_areColumns_65 k307 N S171 u154 u156 u157 u160 u161 u164 u165 u166 u167 u168 u169 u170) (fun S191 u178 u180 u181 u184 u185 u188 u189 u190 => k307 S191 u178 u180 u181 u184 u185 u188 u189 u190) (Int32.ofNat f) (Int32.ofNat kd) (Int32.ofNat s) (Int32.ofNat w)
    obtain ⟨S', c1, c2⟩ := ih N (i + 1) S1 (by omega) (by omega) (h.fr b2)
    refine ⟨S', ?_, b2.trans c2⟩
    rw [← c1]
    refine Eq.trans ?_ b1
    have y0 : m_L_cell S 0 (Int32.ofNat f) (Int32.ofNat i) (Int32.ofNat s) = some (S, cz_K (cz_B S f rc s) i 0) := by
      rw [py_sub0 i]
      exact pl_cell hf a2 (by omega) (by omega) hs (by omega)
    rw [m_L_areColumns_65.eq_2, pz_5f, pz_b hf 5 (by decide), pz_c hf 5 (by decide), a4, py_je (by omega) (by omega), if_neg (show ¬ rc ≤ i by omega), if_neg py_10, py_l, y0, py_b, py_l, show (Int32.ofNat i - 1) = Int32.ofNat i - Int32.ofNat 1 from rfl, pl_cell hf a2 (by omega) (by omega) hs (by omega), py_b, py_l, py_jqR (l := 0) (by omega) (by omega), py_jqR (l := 3) (by omega) (by omega)]
    by_cases e0 : kd = 0
    · rw [if_pos e0, pl_cell hf a2 (by omega) (by omega) hs (by omega), py_b, py_l]
      have e9 : cz_d kd w (cz_K (cz_B S f rc s) i) = cz_K (cz_B S f rc s) i w := if_pos e0
      rw [e9]
    · rw [if_neg e0]
      by_cases e3 : kd = 3
      · have e9 : cz_d kd w (cz_K (cz_B S f rc s) i) = (if cz_K (cz_B S f rc s) i 0 = -2147483648 then -2147483648 else if cz_K (cz_B S f rc s) i 1 = -2147483648 then -2147483648 else cz_K (cz_B S f rc s) i 0 - cz_K (cz_B S f rc s) i 1) := by
          unfold cz_d
          rw [if_neg e0, if_pos e3]
        rw [if_pos e3, e9]
        by_cases z0 : cz_K (cz_B S f rc s) i 0 = -2147483648
        · rw [if_pos z0, if_pos z0, py_l]
        · rw [if_neg z0, if_neg z0]
          by_cases z1 : cz_K (cz_B S f rc s) i 1 = -2147483648
          · rw [if_pos z1, if_pos z1, py_l]
          · rw [if_neg z1, if_neg z1, py_l]
      · have e9 : cz_d kd w (cz_K (cz_B S f rc s) i) = cz_j kd (cz_K (cz_B S f rc s) i) w := by
          unfold cz_d
          rw [if_neg e0, if_neg e3]
        rw [if_neg e3, py_l, e9]
        exact pl_cols_174 hf a2 (by omega) (by omega) hs hkd hw5 _ (Int32.ofNat k) w (pw_F 6) 0 (by rw [py_F]; omega) (by omega)
theorem pl_cols_j307 {S : pw_S} {nk k f kd s w rc : Nat} (h : px_1 S nk k f kd s w rc) (k5 : pw_S → Nat → Nat → Nat → Nat → Nat → Int32 → Int32 → pw_R Int32) : m_L_areColumns_j307 k5 S 0 37 0 36 0 1 (Int32.ofNat k) (Int32.ofNat f) = k5 S 0 37 0 36 0 1 (Int32.ofNat (k + 1)) := by
  obtain ⟨a1, a2, a3, a4, a5, a6, a7, a8⟩ := h
  have hf := a1.2.1
  have e1 : m_L_asks S 0 5 (Int32.ofNat k) (Int32.ofNat rc) 0 = some (S, -70007) := by
    unfold m_L_asks
    rw [if_neg (show ¬ (5 : Int32) = 0 by decide), if_neg (show ¬ (5 : Int32) = 1 by decide), if_neg (show ¬ (5 : Int32) = 2 by decide), if_neg (show ¬ (5 : Int32) = 3 by decide), if_neg (show ¬ (5 : Int32) = 4 by decide), if_pos (show (5 : Int32) = 5 from rfl), pm_derived a5 a6 a7 a1 a2 (by omega) (by omega), if_neg (Nat.lt_irrefl rc), py_b, py_er]
    rfl
  unfold m_L_areColumns_j307
  rw [if_neg py_10, pz_5f, pz_b hf 5 (by decide), pz_c hf 5 (by decide), a4, e1, py_b, if_pos rfl, py_l, py_l, py_add1]
/-! parts of a number -/
theorem py_mask : ∀ b : Fin 4, ((1 : Int32) <<< (Int32.ofNat b.val &&& 31)) - 1 = Int32.ofNat (2 ^ b.val - 1) := by decide +kernel
theorem py_andm {w b : Nat} (hw : w < 2147483648) (hb : b < 4) : Int32.ofNat w &&& Int32.ofNat (2 ^ b - 1) = Int32.ofNat (w % 2 ^ b) := by
  have hb8 : 2 ^ b ≤ 8 := (by decide : ∀ b : Fin 4, 2 ^ b.val ≤ 8) ⟨b, hb⟩
  have hb1 : 1 ≤ 2 ^ b := Nat.one_le_two_pow
  have hm := Nat.mod_lt w (show 0 < 2 ^ b by omega)
  apply Int32.toBitVec.inj
  rw [Int32.toBitVec_and]
  apply BitVec.eq_of_toNat_eq
  rw [BitVec.toNat_and]
  show (w % 4294967296) &&& ((2 ^ b - 1) % 4294967296) = (w % 2 ^ b) % 4294967296
  rw [Nat.mod_eq_of_lt (by omega), Nat.mod_eq_of_lt (by omega), Nat.mod_eq_of_lt (by omega)]
  exact Nat.and_two_pow_sub_one_eq_mod w b
theorem pl_part (S : pw_S) {t a b : Nat} (ht : t < 2147483648) (ha : a < 32) (hb : b < 4) : m_L_part S (Int32.ofNat t) (Int32.ofNat a) (Int32.ofNat b) = some (S, Int32.ofNat (t / 2 ^ a % 2 ^ b)) := by
  have h1 : t / 2 ^ a ≤ t := Nat.div_le_self _ _
  unfold m_L_part
  rw [py_sar ht ha, show ((1 : Int32) <<< (Int32.ofNat b &&& 31)) - 1 = Int32.ofNat (2 ^ b - 1) from py_mask ⟨b, hb⟩, py_andm (by omega) hb]
/-- the columns -/
def px_K (S : pw_S) (nk : Nat) : Prop := S 61 0 10 = Int32.ofNat nk ∧ S 36 0 1 = Int32.ofNat nk ∧ nk ≤ 6 ∧ ∀ k, k < nk → ∃ f kd s w, px_k S k f kd s w ∧ S 37 0 k = Int32.ofNat (f + 2 * kd + 8 * s + 64 * w)
/-- the rows of both files -/
def px_R (S : pw_S) (rc : Nat → Nat) : Prop := ∀ f, f < 2 → S 54 f 7 = Int32.ofNat (rc f) ∧ rc f ≤ 10 ∧ S 36 0 (5 + 6 * f) = Int32.ofNat (rc f) ∧ ∀ r, r < rc f → ∀ c, c < 24 → S 12 f (r * 24 + c) = -2147483648 ∨ ∃ w, w < 134217728 ∧ S 12 f (r * 24 + c) = Int32.ofNat w
theorem px_K.fr {S S' : pw_S} {nk : Nat} (h : px_K S nk) (hf : py_fr py_KC S S') : px_K S' nk := by
  obtain ⟨a1, a2, a3, a4⟩ := h
  refine ⟨by rw [hf 61 0 rfl, a1], by rw [hf 36 0 rfl, a2], a3, fun k hk => ?_⟩
  obtain ⟨f, kd, s, w, b1, b2⟩ := a4 k hk
  exact ⟨f, kd, s, w, b1.cong (hf 55 k rfl), by rw [hf 37 0 rfl, b2]⟩
theorem px_R.fr {S S' : pw_S} {rc : Nat → Nat} (h : px_R S rc) (hf : py_fr py_KC S S') : px_R S' rc := fun f hf2 => by
  obtain ⟨a1, a2, a3, a4⟩ := h f hf2
  refine ⟨by rw [hf 54 f rfl, a1], a2, by rw [hf 36 0 rfl, a3], ?_⟩
  rw [hf 12 f rfl]
  exact a4
theorem pl_cols_5 {nk : Nat} {rc : Nat → Nat} : ∀ (n N k : Nat) (S : pw_S), n < N → nk = k + n → px_K S nk → px_R S rc → ∃ S', m_L_areColumns_5 N S 0 37 0 36 0 1 (Int32.ofNat k) = some (S', 1) ∧ py_fr py_KC S S' := by
  intro n
  induction n with
  | zero =>
    intro N k S hN hk hK hR
    obtain ⟨N, rfl⟩ : ∃ q, N = q + 1 := ⟨N - 1, by omega⟩
    obtain ⟨a1, a2, a3, a4⟩ := hK
    unfold m_L_areColumns_5
    rw [py_ct (show np_inb 1 (pw_len 36) = true from rfl), show (1 : Int32).toNatClampNeg = 1 from rfl, a2, py_je (by omega) (by omega), if_pos (show nk ≤ k by omega), py_ct (show (decide ((1 : Int32) = 0) || decide ((1 : Int32) = 1)) = true from rfl)]
    exact ⟨S, rfl, py_fr_r⟩
  | succ n ih =>
    intro N k S hN hk hK hR
    obtain ⟨N, rfl⟩ : ∃ q, N = q + 1 := ⟨N - 1, by omega⟩
    have hh := hK
    obtain ⟨a1, a2, a3, a4⟩ := hh
    obtain ⟨f, kd, s, w, b1, b2⟩ := a4 k (by omega)
    have hh := b1
    obtain ⟨h2, hf, h3, hkd, h4, hs, h5, hw1, hw5⟩ := hh
    obtain ⟨r1, r2, r3, r4⟩ := hR f hf
    have h1 : px_1 S nk k f kd s w (rc f) := ⟨b1, r1, r2, r3, a1, by omega, a3, r4⟩
    have ht : f + 2 * kd + 8 * s + 64 * w < 2147483648 := by omega
    obtain ⟨S1, c1, c2⟩ := pl_cols_65 (nk := nk) (k := k) (fun S453 u440 u442 u443 u446 u447 u450 u451 u452 => (m_L_areColumns_j307 (fun S468 u456 u458 u459 u462 u463 u466 u467 => m_L_areColumns_5 N S468 u456 u458 u459 u462 u463 u466 u467) S453 u440 u442 u443 u446 u447 u450 u451 u452)) (rc f) (pw_F 11) 0 S (by rw [py_F]; omega) (by omega) h1
    obtain ⟨S2, d1, d2⟩ := ih N (k + 1) S1 (by omega) (by omega) (hK.fr c2) (hR.fr c2)
    refine ⟨S2, ?_, c2.trans d2⟩
    unfold m_L_areColumns_5
    have p1 : m_L_part S (Int32.ofNat (f + 2 * kd + 8 * s + 64 * w)) 0 1 = some (S, Int32.ofNat f) := by
      refine (pl_part S ht (a := 0) (b := 1) (by decide) (by decide)).trans ?_
      rw [show (f + 2 * kd + 8 * s + 64 * w) / 2 ^ 0 % 2 ^ 1 = f by omega]
    have p2 : m_L_part S (Int32.ofNat (f + 2 * kd + 8 * s + 64 * w)) 1 2 = some (S, Int32.ofNat kd) := by
      refine (pl_part S ht (a := 1) (b := 2) (by decide) (by decide)).trans ?_
      rw [show (f + 2 * kd + 8 * s + 64 * w) / 2 ^ 1 % 2 ^ 2 = kd by omega]
    have p3 : m_L_part S (Int32.ofNat (f + 2 * kd + 8 * s + 64 * w)) 3 3 = some (S, Int32.ofNat s) := by
      refine (pl_part S ht (a := 3) (b := 3) (by decide) (by decide)).trans ?_
      rw [show (f + 2 * kd + 8 * s + 64 * w) / 2 ^ 3 % 2 ^ 3 = s by omega]
    have p4 : m_L_part S (Int32.ofNat (f + 2 * kd + 8 * s + 64 * w)) 6 3 = some (S, Int32.ofNat w) := by
      refine (pl_part S ht (a := 6) (b := 3) (by decide) (by decide)).trans ?_
      rw [show (f + 2 * kd + 8 * s + 64 * w) / 2 ^ 6 % 2 ^ 3 = w by omega]
    have hkb : pw_c (β := Int32) (np_inb (Int32.ofNat k) (pw_len 37)) = fun o => o := by
      funext o
      exact py_ct (py_inb (by omega) (by show k < 6; omega)) o
    rw [py_ct (show np_inb 1 (pw_len 36) = true from rfl), show (1 : Int32).toNatClampNeg = 1 from rfl, a2, py_je (by omega) (by omega), if_neg (show ¬ nk ≤ k by omega), if_neg py_10, hkb, py_cl (by omega), b2]
    dsimp only
    rw [p1, py_b, py_l, b2, p2, py_b, py_l, b2, p3, py_b, py_l, b2, p4, py_b, py_l, py_l]
    refine c1.trans ?_
    refine (pl_cols_j307 (h1.fr c2) _).trans ?_
    exact d1
theorem pl_areColumns {S : pw_S} {nk : Nat} {rc : Nat → Nat} (hK : px_K S nk) (hR : px_R S rc) : ∃ S', m_L_areColumns S 0 37 0 36 0 = some (S', 1) ∧ py_fr py_KC S S' := by
  have h6 := hK.2.2.1
  obtain ⟨S', a1, a2⟩ := pl_cols_5 nk (pw_F 7) 0 S (by rw [py_F]; omega) (by omega) hK hR
  refine ⟨S', ?_, a2⟩
  unfold m_L_areColumns
  rw [py_l, py_l]
  exact a1
