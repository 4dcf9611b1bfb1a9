/-! The law's steps, whole. -/
theorem pl_46 {S S1 : pw_S} {f sd p op len e : Nat} {x : Int32} (hf : f < 2) (ha : m_L_asks S 0 2 (Int32.ofNat f) 0 0 = some (S1, x)) (c3 : S1 36 0 (3 + 6 * f) = Int32.ofNat sd) (hz : sd ≠ 0) (hsd : sd ≤ 10) (c4 : S1 36 0 (4 + 6 * f) = Int32.ofNat p) (c8 : S1 36 0 (8 + 6 * f) = Int32.ofNat (1 - op)) (hop : op ≤ 1) (hp : p ≤ len) (he : e ≤ len) (hlen : len ≤ 300) (hw : ¬ (e = len ∧ (op = 1 ∨ p = len))) : m_L_steps_j46 S 0 (Int32.ofNat f) 36 0 (Int32.ofNat (3 + 6 * f)) (Int32.ofNat len) (Int32.ofNat e) = m_L_steps_j190 S1 0 (Int32.ofNat f) 36 0 (Int32.ofNat (3 + 6 * f)) (Int32.ofNat len) (Int32.ofNat e) x := by
  unfold m_L_steps_j46 m_L_steps_j96
  rw [ha, py_b, py_l, pz_b hf 3 (by decide), pz_c hf 3 (by decide), c3, py_jqR (l := 0) (by omega) (by omega), if_neg hz, pz_5, pz_b hf 8 (by decide), pz_c hf 8 (by decide), c8, py_jqR (l := 0) (by omega) (by omega)]
  by_cases eo : op = 1
  · rw [if_pos (show 1 - op = 0 by omega), py_l, py_jq (by omega) (by omega), if_neg (show ¬ e = len by omega)]
  · rw [if_neg (show ¬ 1 - op = 0 by omega), py_l, py_jq (by omega) (by omega)]
    by_cases e1 : e = len
    · rw [if_pos e1, if_pos rfl, pz_1, pz_b hf 4 (by decide), pz_c hf 4 (by decide), c4, py_jq (by omega) (by omega), if_neg (show ¬ p = len by omega)]
    · rw [if_neg e1]
theorem pl_steps {S : pw_S} {f len op len2 op2 sd p rc db sk dc : Nat} {Is : Nat → py_I} {nc : Nat → Nat} (hf : f < 2) (hF : px_f S f len op) (hF2 : px_f S (1 - f) len2 op2) (hop2 : S 36 0 (8 + 6 * (1 - f)) = Int32.ofNat (1 - op2)) (hT : px_t S f sd p rc db sk) (hc : px_c S f sd p rc db sk op) (hD : px_D S dc Is nc) (hsd : sd ≤ dc) (hp : p ≤ len) (hrc : rc ≤ 20) (hsk : sk < 300) (h0 : sd = 0 → rc = 0 ∧ db = 0 ∧ p = 0) :
    ∃ S' p' rc' db' sk', m_L_steps S 0 (Int32.ofNat f) 36 0 = some (S', 1) ∧ py_fr (fun a i => py_KE f a i || py_KA a i) S S' ∧ px_t S' f sd p' rc' db' sk' ∧ px_c S' f sd p' rc' db' sk' op ∧ p' ≤ len ∧ rc' + sk' ≤ rc + sk + 1 ∧ (sd = 0 → rc' = 0 ∧ db' = 0 ∧ p' = 0) ∧ (∀ k, k < 4 + 6 * f ∨ 8 + 6 * f ≤ k → S' 36 0 k = S 36 0 k) ∧ (∃ len', len2 ≤ len' ∧ px_f S' (1 - f) len' op2) ∧ S' 11 f = S 11 f ∧ S' 53 f = S 53 f := by
  have hlen := hF.2.1
  have hop := hF.2.2.2.1
  have hdc4 := hD.2.1
  have hc0 := hc
  obtain ⟨c3, c4, c5, c6, c7, c8⟩ := hc
  have hnl := nl_e_le (S 11 f) (len - p) p
  have h46 : m_L_steps S 0 (Int32.ofNat f) 36 0 = m_L_steps_j46 S 0 (Int32.ofNat f) 36 0 (Int32.ofNat (3 + 6 * f)) (Int32.ofNat len) (Int32.ofNat (nl_e (S 11 f) (len - p) p)) := by
    unfold m_L_steps
    rw [pz_0, py_l, pm_units hF hf, py_b, py_l, pz_1, pz_b hf 4 (by decide), pz_c hf 4 (by decide), c4, py_l]
    exact pl_steps_21 hF hf _ _ (len - p) (pw_F 302) p (by rw [py_F]; omega) (by omega)
  rw [h46]
  obtain ⟨st1, st2, st3⟩ := pm_step hf hF hT hD hsd hp hrc hsk
  clear h46
  generalize nl_e (S 11 f) (len - p) p = e at *
  by_cases hz : sd = 0
  · have ha : m_L_asks S 0 2 (Int32.ofNat f) 0 0 = some (S, -70008) := by
      rw [pl_asks2, st1 hz, py_b, py_er]
      rfl
    obtain ⟨z1, z2, z3⟩ := h0 hz
    refine ⟨S, p, rc, db, sk, ?_, fun a i _ => rfl, hT, hc0, hp, by omega, h0, fun k _ => rfl, ⟨len2, Nat.le_refl _, hF2⟩, rfl, rfl⟩
    unfold m_L_steps_j46
    rw [ha, py_b, py_l, pz_b hf 3 (by decide), pz_c hf 3 (by decide), c3, py_jqR (l := 0) (by omega) (by omega), if_pos hz, if_pos rfl, pm_progress hf hT (by omega), py_b, py_el, py_jqR (l := 0) (by omega) (by omega), if_pos (show 10000 * rc + 1000 * min db 9 + p = 0 by omega)]
  · by_cases hw : e = len ∧ (op = 1 ∨ p = len)
    · have ha : m_L_asks S 0 2 (Int32.ofNat f) 0 0 = some (S, if op = 1 then -1 else -2) := by
        rw [pl_asks2, st2 hz hw, py_b, py_el]
      refine ⟨S, p, rc, db, sk, ?_, fun a i _ => rfl, hT, hc0, hp, by omega, h0, fun k _ => rfl, ⟨len2, Nat.le_refl _, hF2⟩, rfl, rfl⟩
      unfold m_L_steps_j46 m_L_steps_j96
      rw [ha, py_b, py_l, pz_b hf 3 (by decide), pz_c hf 3 (by decide), c3, py_jqR (l := 0) (by omega) (by omega), if_neg hz, pz_5, pz_b hf 8 (by decide), pz_c hf 8 (by decide), c8, py_jqR (l := 0) (by omega) (by omega)]
      by_cases eo : op = 1
      · rw [if_pos (show 1 - op = 0 by omega), py_l, py_jq (by omega) (by omega), if_pos hw.1, if_neg py_10, if_neg py_10, if_pos eo]
        exact pl_133 hf hT (by omega) hc0 _
      · rw [if_neg (show ¬ 1 - op = 0 by omega), py_l, py_jq (by omega) (by omega), if_pos hw.1, if_pos rfl, pz_1, pz_b hf 4 (by decide), pz_c hf 4 (by decide), c4, py_jq (by omega) (by omega), if_pos (show p = len by omega), if_pos rfl, if_neg eo]
        exact pl_133 hf hT (by omega) hc0 _
    · obtain ⟨d, rfl⟩ : ∃ d, sd = d + 1 := ⟨sd - 1, by omega⟩
      simp only [Nat.add_sub_cancel] at st3
      obtain ⟨S1, f1, hh⟩ := st3 hz hw
      clear st1 st2 st3
      have s36 : S1 36 0 = S 36 0 := f1 36 0 rfl
      have hF1 : px_f S1 f len op := hF.cong (f1 53 f rfl) (f1 11 f rfl)
      have hF21 : px_f S1 (1 - f) len2 op2 := hF2.cong (f1 53 _ rfl) (f1 11 _ rfl)
      have hD1 : px_D S1 dc Is nc := hD.fr f1 (fun d => ⟨rfl, rfl, rfl, rfl, rfl, rfl, rfl, rfl⟩)
      rcases hh with ⟨a1, ⟨db', a2, a3⟩, T, t1, t2, t3, t4, t5, t6⟩ | ⟨a1, a2, y, y1, y2⟩
      · have ha : m_L_asks S 0 2 (Int32.ofNat f) 0 0 = some (S1, 1) := by
          rw [pl_asks2, a1, py_b, py_el]
        obtain ⟨S2, b1, b2, b3, b4, b5, b6, b7, b8⟩ := pl_190r (S := S1) (d := d) (p := p) (e := e) (p2 := min (e + 1) len) (rc := rc) (db := db) (T := T) hD1 (by omega) hf hF1 hF21 (by rw [s36]; exact hop2) a2 (by unfold px_c; rw [s36]; exact hc0) hrc a3 (by omega) rfl t1 (by
          have hah : px_ah S1 f len p = px_ah S f len p := by
            unfold px_ah
            rw [f1 11 f rfl]
          rw [hah]
          exact t2) t3 t4 (by
          rw [pc_C_cong (S := S) (f1 6 d rfl) (f1 7 d rfl) (f1 8 d rfl) (f1 9 d rfl) (f1 10 d rfl)]
          exact t5) t6
        have hl : min (e + 1) len ≤ len := Nat.min_le_right _ _
        clear a3 t4
        refine ⟨S2, min (e + 1) len, rc + 1, db', sk, ?_, fun a i h9 => ?_, b3, b4, by omega, by omega, fun z => by omega, fun k hk => by rw [b5 k hk, s36], b6, by rw [b7, f1 11 f rfl], by rw [b8, f1 53 f rfl]⟩
        · rw [pl_46 hf ha (by rw [s36]; exact c3) hz (by omega) (by rw [s36]; exact c4) (by rw [s36]; exact c8) hop hp (by omega) hlen hw, b1]
        · rw [Bool.or_eq_false_iff] at h9
          rw [b2 a i h9.2, f1 a i h9.1]
      · have ha : m_L_asks S 0 2 (Int32.ofNat f) 0 0 = some (S1, 0) := by
          rw [pl_asks2, a1, py_b, py_el]
        obtain ⟨S2, b1, b2, b3, b4⟩ := pl_190s (S := S1) (d := d) (p := p) (e := e) (p2 := min (e + 1) len) (rc := rc) (db := db) (y := y) hf hF1 a2 (by unfold px_c; rw [s36]; exact hc0) hrc hsk hp (by omega) rfl y1 y2
        refine ⟨S2, min (e + 1) len, rc, db, sk + 1, ?_, fun a i h9 => ?_, a2.cong (b4 _ _ rfl) (b4 _ _ rfl) (b4 _ _ rfl) (b4 _ _ rfl) (b4 _ _ rfl), b2, by omega, by omega, fun z => by omega, fun k hk => by rw [b3 k hk, s36], ⟨len2, Nat.le_refl _, hF21.cong (b4 _ _ rfl) (b4 _ _ rfl)⟩, by rw [b4 11 f rfl, f1 11 f rfl], by rw [b4 53 f rfl, f1 53 f rfl]⟩
        · rw [pl_46 hf ha (by rw [s36]; exact c3) hz (by omega) (by rw [s36]; exact c4) (by rw [s36]; exact c8) hop hp (by omega) hlen hw, b1]
        · rw [Bool.or_eq_false_iff] at h9
          rw [b4 a i (py_KA_36 h9.2), f1 a i h9.1]
