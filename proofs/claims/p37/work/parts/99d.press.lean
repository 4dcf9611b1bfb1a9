/-! The loop of a press. -/
theorem py_mask31 (y : Int32) : ∃ w, w < 2147483648 ∧ y &&& 2147483647 = Int32.ofNat w := by
  have hle : (y.toBitVec &&& 2147483647#32).toNat ≤ 2147483647 := by
    rw [BitVec.toNat_and]
    exact Nat.and_le_right
  refine ⟨(y.toBitVec &&& 2147483647#32).toNat, by omega, ?_⟩
  apply Int32.toBitVec.inj
  rw [Int32.toBitVec_and]
  apply BitVec.eq_of_toNat_eq
  show (y.toBitVec &&& 2147483647#32).toNat = (y.toBitVec &&& 2147483647#32).toNat % 4294967296
  rw [Nat.mod_eq_of_lt (by omega)]
theorem pl_draw (Ls : Nat) (xs : Nat → Int32) (S : pw_S) {k most : Nat} (hL : Ls < 1000) (hk : k < 1000) (hm : 0 < most) (hm2 : most < 2147483648) : ∃ v, v < most ∧ m_L_draw Ls xs S (Int32.ofNat k) (Int32.ofNat most) = some (S, Int32.ofNat v) := by
  have hnz : (!decide (Int32.ofNat most = 0)) = true := by
    rw [decide_eq_false]
    · rfl
    · intro z
      have := (py_eq (a := most) (b := 0) (by omega) (by omega)).mp z
      omega
  unfold m_L_draw
  rw [py_je (by omega) (by omega)]
  by_cases e : Ls ≤ k
  · obtain ⟨w, w1, w2⟩ := py_mask31 ((1003481557 * (Int32.ofNat k + 601)) + 698855923)
    rw [if_pos e, py_l, py_ct hnz, w2, py_mod w1 hm2]
    exact ⟨w % most, Nat.mod_lt _ hm, rfl⟩
  · obtain ⟨w, w1, w2⟩ := py_mask31 (xs k)
    rw [if_neg e, py_ct (py_inb (by omega) (by omega)), py_cl (by omega), py_l, py_ct hnz, w2, py_mod w1 hm2]
    exact ⟨w % most, Nat.mod_lt _ hm, rfl⟩
theorem pj_717 (Ls : Nat) (xs : Nat → Int32) (k34 : pw_S → Int32 → Int32 → pw_R Int32) (k749 : pw_S → pw_R Int32) {S : pw_S} {m k : Nat} (h : px_I S m) (hk : k < 1000) (v1 : Int32) : ∃ S', m_L_press_j717 Ls xs k34 k749 S v1 (Int32.ofNat k) 1 = k34 S' v1 (Int32.ofNat (k + 1)) ∧ px_I S' m := by
  have m6 : Int32.ofNat k - Int32.ofNat k / 6 * 6 = Int32.ofNat (k % 6) := py_mod (b := 6) (by omega) (by omega)
  unfold m_L_press_j717
  rw [if_neg py_10, m6]
  by_cases e : k % 6 = 5
  · obtain ⟨S', a1, a2⟩ := pj_areColumns h
    rw [if_pos (show Int32.ofNat (k % 6) = 5 by rw [e]; rfl), a1, py_b, if_neg py_10, py_l, py_add1]
    exact ⟨S', rfl, a2⟩
  · rw [if_neg (show ¬ Int32.ofNat (k % 6) = 5 from fun z => e ((py_eq (a := k % 6) (b := 5) (by omega) (by omega)).mp z)), py_l, py_add1]
    exact ⟨S, rfl, h⟩
theorem px_I.mono {S : pw_S} {m m' : Nat} (h : px_I S m) (hm : m ≤ m') : px_I S m' := by
  obtain ⟨dc, nk, nu, n15, n16, n17, hJ, hn⟩ := h
  exact ⟨dc, nk, nu, n15, n16, n17, hJ, by omega⟩
theorem pz_f (j f : Nat) (x : Int32) (hx : x = Int32.ofNat j) : x + 6 * Int32.ofNat f = Int32.ofNat (j + 6 * f) := by
  rw [hx, show (6 : Int32) * Int32.ofNat f = Int32.ofNat (6 * f) from py_mul 6 f]
  exact py_add j _
theorem pz_b18 {f : Nat} (hf : f < 2) (j : Nat) (hj : j ≤ 8) {β : Type} (o : pw_R β) : pw_c (np_inb (Int32.ofNat (j + 6 * f)) 18) o = o := py_ct (py_inb (by omega) (by omega)) o
/-- a stream is begun in a press -/
theorem pj_stream (Ls : Nat) (xs : Nat → Int32) (k34 : pw_S → Int32 → Int32 → pw_R Int32) (k749 : pw_S → pw_R Int32) {S : pw_S} {m f Y : Nat} (v1 v7 : Int32) (hf : f < 2) (h : px_I S m) (hY : Y < 1073741824) :
    ∃ S', (if (S 36 0 0) ≤ 0 then m_L_press_j717 Ls xs k34 k749 S v1 v7 1 else (pw_c (!decide ((S 36 0 0) = 0)) <| pw_b (m_X11_stream S 0 (Int32.ofNat f) (Int32.ofNat Y - Int32.ofNat Y / (S 36 0 0) * (S 36 0 0))) fun S293 r296 => pw_e r296 (fun r298 => (pw_l (r298 : Int32) fun z300 => pw_c (np_inb (4 + (6 * Int32.ofNat f)) 18) <| if z300 = (S293 36 0 ((4 + (6 * Int32.ofNat f)) : Int32).toNatClampNeg) then (m_L_press_j230 Ls xs k34 k749 S293 v1 v7 (Int32.ofNat Y) (Int32.ofNat f) 1) else (m_L_press_j230 Ls xs k34 k749 S293 v1 v7 (Int32.ofNat Y) (Int32.ofNat f) 0))) (fun _ => none))) = m_L_press_j717 Ls xs k34 k749 S' v1 v7 1 ∧ px_I S' m := by
  obtain ⟨dc, nk, nu, n15, n16, n17, hJ, hn⟩ := h
  have hJ0 := hJ
  obtain ⟨⟨Is, nc, a1⟩, a2, a3, ⟨Ls4, a4⟩, a5⟩ := hJ
  have hdc4 := a1.1.2.1
  rw [a1.2.1, py_jeR (l := 0) (by omega) (by omega)]
  by_cases e : dc ≤ 0
  · rw [if_pos e]
    exact ⟨S, rfl, dc, nk, nu, n15, n16, n17, hJ0, hn⟩
  · have hv : Y % dc < dc := Nat.mod_lt _ (by omega)
    have hnz : (!decide (Int32.ofNat dc = 0)) = true := by
      rw [decide_eq_false]
      · rfl
      · intro z
        have := (py_eq (a := dc) (b := 0) (by omega) (by omega)).mp z
        omega
    have hm : Int32.ofNat Y - Int32.ofNat Y / Int32.ofNat dc * Int32.ofNat dc = Int32.ofNat (Y % dc) := py_mod (by omega) (by omega)
    obtain ⟨len, op, sd, p, rc, db, sk, d1, d2, d3, d4, d5, d6, d7⟩ := a2 f hf
    obtain ⟨S1, b1, b2, b3⟩ := pm_stream hf a1.1.1 hv (by omega) d2
    have k36 : S1 36 0 = S 36 0 := b3 36 0 (by omega)
    rw [if_neg e, py_ct hnz, hm, b1, py_b, py_el, py_l, pz_f 4 f 4 rfl, pz_b18 hf 4 (by decide), pz_c hf 4 (by decide), k36, d3.2.1, if_pos rfl]
    unfold m_L_press_j230
    rw [py_l, k36, a1.2.1, py_ct hnz, pz_f 3 f 3 rfl, pz_f 4 f 4 rfl, pz_f 5 f 5 rfl, pz_f 6 f 6 rfl, pz_f 7 f 7 rfl, pz_b18 hf 3 (by decide), pz_c hf 3 (by decide), hm, py_add1, py_l, pz_b18 hf 4 (by decide), pz_c hf 4 (by decide), py_l, pz_b18 hf 5 (by decide), pz_c hf 5 (by decide), py_l, pz_b18 hf 6 (by decide), pz_c hf 6 (by decide), py_l, pz_b18 hf 7 (by decide), pz_c hf 7 (by decide), py_l]
    simp only [py_up_u, py_up_s]
    generalize hS2 : pw_up S1 36 0 (upd (upd (upd (upd (upd (S 36 0) (3 + 6 * f) (Int32.ofNat (Y % dc + 1))) (4 + 6 * f) 0) (5 + 6 * f) 0) (6 + 6 * f) 0) (7 + 6 * f) 0) = S2
    have k2 : ∀ a i, Nat.beq a 36 = false → S2 a i = S1 a i := fun a i hh => by
      rw [← hS2]
      exact py_up_k _ _ hh
    have e36 : S2 36 0 = upd (upd (upd (upd (upd (S 36 0) (3 + 6 * f) (Int32.ofNat (Y % dc + 1))) (4 + 6 * f) 0) (5 + 6 * f) 0) (6 + 6 * f) 0) (7 + 6 * f) 0 := by rw [← hS2, py_up_s]
    have eo : ∀ j, (j < 3 + 6 * f ∨ 8 + 6 * f ≤ j) → S2 36 0 j = S 36 0 j := fun j hj => by
      rw [e36, py_u_n _ _ (by omega), py_u_n _ _ (by omega), py_u_n _ _ (by omega), py_u_n _ _ (by omega), py_u_n _ _ (by omega)]
    have kk : ∀ a i, (a ≠ 54 ∧ a ≠ 14 ∧ a ≠ 15 ∧ a ≠ 36) → S2 a i = S a i := fun a i q => by
      rw [k2 a i (by
        cases hb : Nat.beq a 36 with
        | false => rfl
        | true => exact absurd (Nat.eq_of_beq_eq_true hb) q.2.2.2), b3 a i (by omega)]
    have c2 : px_t S2 f (Y % dc + 1) 0 0 0 0 := b2.cong (k2 54 f rfl) (k2 12 f rfl) (k2 14 f rfl) (k2 15 f rfl) (k2 16 f rfl)
    have c3 : px_c S2 f (Y % dc + 1) 0 0 0 0 op := by
      refine ⟨?_, ?_, ?_, ?_, ?_, ?_⟩
      · rw [e36, pz_w _ _ (show 7 ≠ 3 by decide), pz_w _ _ (show 6 ≠ 3 by decide), pz_w _ _ (show 5 ≠ 3 by decide), pz_w _ _ (show 4 ≠ 3 by decide), py_u_s]
      · rw [e36, pz_w _ _ (show 7 ≠ 4 by decide), pz_w _ _ (show 6 ≠ 4 by decide), pz_w _ _ (show 5 ≠ 4 by decide), py_u_s]
        rfl
      · rw [e36, pz_w _ _ (show 7 ≠ 5 by decide), pz_w _ _ (show 6 ≠ 5 by decide), py_u_s]
        rfl
      · rw [e36, pz_w _ _ (show 7 ≠ 6 by decide), py_u_s]
        rfl
      · rw [e36, py_u_s]
        rfl
      · rw [eo _ (by omega)]
        exact d3.2.2.2.2.2
    refine ⟨S2, rfl, dc, nk, nu, n15, n16, n17, ⟨⟨Is, nc, a1.cong (by rw [kk 61 0 (by omega)]) (eo 0 (by omega)) (fun a d q => kk a d (by omega))⟩, fun g hg => ?_, a3.cong (by rw [kk 61 0 (by omega)]) (eo 1 (by omega)) (fun k => kk 55 k (by omega)) (kk 37 0 (by omega)), ⟨Ls4, a4.cong (by rw [kk 61 0 (by omega)]) (eo 2 (by omega)) (kk 19 0 (by omega)) (fun u => ⟨kk 22 u (by omega), kk 23 u (by omega), kk 24 u (by omega), kk 57 u (by omega)⟩)⟩, a5.cong (fun j hj => eo j (by omega))⟩, hn⟩
    by_cases eg : g = f
    · subst eg
      exact ⟨len, op, Y % dc + 1, 0, 0, 0, 0, d1.cong (kk 53 g (by omega)) (kk 11 g (by omega)), c2, c3, by omega, Nat.zero_le _, Nat.zero_le _, fun _ => ⟨rfl, rfl, rfl⟩⟩
    · obtain ⟨len2, op2, sd2, p2, rc2, db2, sk2, c⟩ := a2 g hg
      have eg2 : ∀ a, a ≠ 36 → S2 a g = S a g := fun a ha => by
        rw [k2 a g (by
          cases hb : Nat.beq a 36 with
          | false => rfl
          | true => exact absurd (Nat.eq_of_beq_eq_true hb) ha), b3 a g (Or.inr eg)]
      exact ⟨len2, op2, sd2, p2, rc2, db2, sk2, c.cong (eg2 53 (by omega)) (eg2 11 (by omega)) (eg2 54 (by omega)) (eg2 12 (by omega)) (eg2 14 (by omega)) (eg2 15 (by omega)) (eg2 16 (by omega)) (fun j h1 h2 => eo _ (by omega)) (Nat.le_refl _) (Nat.le_refl _)⟩
/-- typing in a press -/
theorem pj_type (Ls : Nat) (xs : Nat → Int32) (k34 : pw_S → Int32 → Int32 → pw_R Int32) (k749 : pw_S → pw_R Int32) {S : pw_S} {m f u n : Nat} (v1 v7 : Int32) (hf : f < 2) (h : px_I S m) (hu : pt_ch u) (hn2 : n = 1 ∨ n = 2) :
    ∃ S', m_L_press_j407 Ls xs k34 k749 S v1 v7 (Int32.ofNat f) (Int32.ofNat u) (Int32.ofNat (if n = 2 then 2560 else 0)) = m_L_press_j717 Ls xs k34 k749 S' v1 v7 1 ∧ px_I S' m := by
  obtain ⟨dc, nk, nu, n15, n16, n17, hJ, hn⟩ := h
  have hJ0 := hJ
  obtain ⟨⟨Is, nc, a1⟩, a2, a3, ⟨Ls4, a4⟩, a5⟩ := hJ
  obtain ⟨len, op, sd, p, rc, db, sk, d1, d2, d3, d4, d5, d6, d7⟩ := a2 f hf
  have hop := d1.2.2.2.1
  have hlen := d1.2.1
  have hu127 : u < 127 := by
    rcases hu with h | h <;> omega
  have hor : Int32.ofNat u ||| Int32.ofNat (if n = 2 then 2560 else 0) = Int32.ofNat (u + if n = 2 then 2560 else 0) := by
    by_cases e2 : n = 2
    · rw [if_pos e2]
      exact py_or (w := u) (x := 10) (i := 8) (by omega) (by omega)
    · rw [if_neg e2]
      exact Int32.or_zero
  obtain ⟨S1, r, b1, b2⟩ := pm_type hf d1 hu hn2
  have asks : ∀ z, (r = .inl z ∧ m_L_asks S 0 1 (Int32.ofNat f) (Int32.ofNat (u + if n = 2 then 2560 else 0)) 0 = some (S1, z)) ∨ (r = .inr 2 ∧ m_L_asks S 0 1 (Int32.ofNat f) (Int32.ofNat (u + if n = 2 then 2560 else 0)) 0 = some (S1, -70008)) ∨ (r ≠ .inl z ∧ r ≠ .inr 2) := fun z => by
    have e0 : m_L_asks S 0 1 (Int32.ofNat f) (Int32.ofNat (u + if n = 2 then 2560 else 0)) 0 = pw_b (m_X11_type S 0 (Int32.ofNat f) (Int32.ofNat (u + if n = 2 then 2560 else 0))) fun S33 r36 => pw_e r36 (fun r38 => (some (S33, r38))) (fun e => pw_x e (some (S33, (-70007))) none (some (S33, (-70008)))) := by
      unfold m_L_asks
      rw [if_neg (show ¬ (1 : Int32) = 0 by decide), if_pos (show (1 : Int32) = 1 from rfl)]
    rw [e0, b1, py_b]
    by_cases q1 : r = .inl z
    · refine Or.inl ⟨q1, ?_⟩
      rw [q1]
      rfl
    · by_cases q2 : r = .inr 2
      · refine Or.inr (Or.inl ⟨q2, ?_⟩)
        rw [q2]
        rfl
      · exact Or.inr (Or.inr ⟨q1, q2⟩)
  unfold m_L_press_j407
  rw [py_l, pm_units d1 hf, py_b, py_l, hor]
  rcases b2 with ⟨c1, c2, rfl, c4, c5, c6⟩ | ⟨c1, rfl, rfl⟩
  · have ha : m_L_asks S 0 1 (Int32.ofNat f) (Int32.ofNat (u + if n = 2 then 2560 else 0)) 0 = some (S1, Int32.ofNat (len + n)) := by
      rcases asks (Int32.ofNat (len + n)) with ⟨-, z⟩ | ⟨z, -⟩ | ⟨z, -⟩
      · exact z
      · cases z
      · exact absurd rfl z
    have k36 : S1 36 0 = S 36 0 := c6 36 0 (by omega)
    have c8 : S1 36 0 (8 + 6 * f) = Int32.ofNat (1 - op) := by rw [k36]; exact d3.2.2.2.2.2
    have kk : ∀ a i, (a ≠ 11 ∧ a ≠ 53) → S1 a i = S a i := fun a i q => c6 a i (Or.inl q)
    rw [ha, py_b, py_l]
    have fin : m_L_press_j442 Ls xs k34 k749 S1 v1 v7 (Int32.ofNat f) (Int32.ofNat u) (Int32.ofNat len) (Int32.ofNat (len + n)) (Int32.ofNat n) = m_L_press_j717 Ls xs k34 k749 S1 v1 v7 1 := by
      unfold m_L_press_j442
      rw [py_l, pz_f 8 f 8 rfl, pz_b18 hf 8 (by decide), pz_c hf 8 (by decide), c8, c1, if_neg (show ¬ Int32.ofNat (1 - 1) = 1 by decide), py_add, py_jeR (l := 300) (by omega) (by omega), if_pos c2, if_pos rfl, pm_unit c4 hf (by omega), if_pos (show len < len + n by omega), py_b, py_el, c5, if_pos rfl, py_l]
    refine ⟨S1, ?_, dc, nk, nu, n15, n16, n17, ⟨⟨Is, nc, a1.cong (by rw [kk 61 0 (by omega)]) (by rw [k36]) (fun a d q => kk a d (by omega))⟩, fun g hg => ?_, a3.cong (by rw [kk 61 0 (by omega)]) (by rw [k36]) (fun k => kk 55 k (by omega)) (kk 37 0 (by omega)), ⟨Ls4, a4.cong (by rw [kk 61 0 (by omega)]) (by rw [k36]) (kk 19 0 (by omega)) (fun u => ⟨kk 22 u (by omega), kk 23 u (by omega), kk 24 u (by omega), kk 57 u (by omega)⟩)⟩, a5.cong (fun j _ => by rw [k36])⟩, hn⟩
    · rcases hn2 with rfl | rfl
      · rw [if_neg (show ¬ (1 : Nat) = 2 by decide), if_pos (show Int32.ofNat 0 ≤ 0 by decide)]
        exact fin
      · rw [if_pos rfl, if_neg (show ¬ Int32.ofNat 2560 ≤ 0 by decide)]
        exact fin
    · by_cases eg : g = f
      · subst eg
        exact ⟨len + n, op, sd, p, rc, db, sk, c4, d2.cong (kk 54 g (by omega)) (kk 12 g (by omega)) (kk 14 g (by omega)) (kk 15 g (by omega)) (kk 16 g (by omega)), d3.cong (fun j _ _ => by rw [k36]), d4, by omega, d6, d7⟩
      · obtain ⟨len2, op2, sd2, p2, rc2, db2, sk2, c⟩ := a2 g hg
        have eg2 : ∀ a, S1 a g = S a g := fun a => c6 a g (Or.inr eg)
        exact ⟨len2, op2, sd2, p2, rc2, db2, sk2, c.cong (eg2 53) (eg2 11) (eg2 54) (eg2 12) (eg2 14) (eg2 15) (eg2 16) (fun j _ _ => by rw [k36]) (Nat.le_refl _) (Nat.le_refl _)⟩
  · have ha : m_L_asks S1 0 1 (Int32.ofNat f) (Int32.ofNat (u + if n = 2 then 2560 else 0)) 0 = some (S1, -70008) := by
      rcases asks 0 with ⟨z, -⟩ | ⟨-, z⟩ | ⟨-, z⟩
      · cases z
      · exact z
      · exact absurd rfl z
    have c8 : S1 36 0 (8 + 6 * f) = Int32.ofNat (1 - op) := d3.2.2.2.2.2
    rw [ha, py_b, py_l]
    have fin : m_L_press_j442 Ls xs k34 k749 S1 v1 v7 (Int32.ofNat f) (Int32.ofNat u) (Int32.ofNat len) (-70008) (Int32.ofNat n) = m_L_press_j717 Ls xs k34 k749 S1 v1 v7 1 := by
      unfold m_L_press_j442
      rw [py_l, pz_f 8 f 8 rfl, pz_b18 hf 8 (by decide), pz_c hf 8 (by decide), c8]
      rcases (by omega : op = 0 ∨ op = 1) with rfl | rfl
      · rw [if_pos (show Int32.ofNat (1 - 0) = 1 from rfl), if_pos rfl, py_l]
      · rw [if_neg (show ¬ Int32.ofNat (1 - 1) = 1 by decide), py_add, py_jeR (l := 300) (by omega) (by omega), if_neg (fun z => c1 ⟨rfl, z⟩), if_pos rfl, py_l]
    refine ⟨S1, ?_, dc, nk, nu, n15, n16, n17, hJ0, hn⟩
    rcases hn2 with rfl | rfl
    · rw [if_neg (show ¬ (1 : Nat) = 2 by decide), if_pos (show Int32.ofNat 0 ≤ 0 by decide)]
      exact fin
    · rw [if_pos rfl, if_neg (show ¬ Int32.ofNat 2560 ≤ 0 by decide)]
      exact fin
/-- closing in a press -/
theorem pj_close (Ls : Nat) (xs : Nat → Int32) (k34 : pw_S → Int32 → Int32 → pw_R Int32) (k749 : pw_S → pw_R Int32) {S : pw_S} {m f : Nat} (v1 v7 : Int32) (hf : f < 2) (h : px_I S m) :
    ∃ S', (pw_b (m_X11_close S 0 (Int32.ofNat f)) fun S432 r435 => pw_e r435 (fun r437 => (pw_c (np_inb (8 + (6 * Int32.ofNat f)) 18) <| if (S432 36 0 ((8 + (6 * Int32.ofNat f)) : Int32).toNatClampNeg) = 0 then (m_L_press_j556 Ls xs k34 k749 S432 v1 v7 (Int32.ofNat f) r437 1) else (m_L_press_j556 Ls xs k34 k749 S432 v1 v7 (Int32.ofNat f) r437 0))) (fun _ => none)) = m_L_press_j717 Ls xs k34 k749 S' v1 v7 1 ∧ px_I S' m := by
  obtain ⟨dc, nk, nu, n15, n16, n17, hJ, hn⟩ := h
  obtain ⟨⟨Is, nc, a1⟩, a2, a3, ⟨Ls4, a4⟩, a5⟩ := hJ
  obtain ⟨len, op, sd, p, rc, db, sk, d1, d2, d3, d4, d5, d6, d7⟩ := a2 f hf
  have hop := d1.2.2.2.1
  obtain ⟨S1, b1, b2, b3⟩ := pm_close hf d1
  have k36 : S1 36 0 = S 36 0 := b3 36 0 (by omega)
  have c8 : S1 36 0 (8 + 6 * f) = Int32.ofNat (1 - op) := by rw [k36]; exact d3.2.2.2.2.2
  generalize hS2 : pw_up S1 36 0 (upd (S1 36 0) (8 + 6 * f) 1) = S2
  have k2 : ∀ a i, Nat.beq a 36 = false → S2 a i = S1 a i := fun a i hh => by
    rw [← hS2]
    exact py_up_k _ _ hh
  have eo : ∀ j, j ≠ 8 + 6 * f → S2 36 0 j = S 36 0 j := fun j hj => by rw [← hS2, py_up_s, py_u_n _ _ hj, k36]
  have e8 : S2 36 0 (8 + 6 * f) = 1 := by rw [← hS2, py_up_s, py_u_s]
  have kk : ∀ a i, (a ≠ 53 ∧ a ≠ 36) → S2 a i = S a i := fun a i q => by
    rw [k2 a i (by
      cases hb : Nat.beq a 36 with
      | false => rfl
      | true => exact absurd (Nat.eq_of_beq_eq_true hb) q.2), b3 a i (Or.inl q.1)]
  refine ⟨S2, ?_, dc, nk, nu, n15, n16, n17, ⟨⟨Is, nc, a1.cong (by rw [kk 61 0 (by omega)]) (eo 0 (by omega)) (fun a d q => kk a d (by omega))⟩, fun g hg => ?_, a3.cong (by rw [kk 61 0 (by omega)]) (eo 1 (by omega)) (fun k => kk 55 k (by omega)) (kk 37 0 (by omega)), ⟨Ls4, a4.cong (by rw [kk 61 0 (by omega)]) (eo 2 (by omega)) (kk 19 0 (by omega)) (fun u => ⟨kk 22 u (by omega), kk 23 u (by omega), kk 24 u (by omega), kk 57 u (by omega)⟩)⟩, a5.cong (fun j hj => eo j (by omega))⟩, hn⟩
  · rw [b1, py_b, py_el, pz_f 8 f 8 rfl, pz_b18 hf 8 (by decide), pz_c hf 8 (by decide), c8]
    have fin : ∀ x : Int32, x = Int32.ofNat op → m_L_press_j556 Ls xs k34 k749 S1 v1 v7 (Int32.ofNat f) (Int32.ofNat op) x = m_L_press_j717 Ls xs k34 k749 S2 v1 v7 1 := fun x hx => by
      unfold m_L_press_j556
      rw [if_pos hx.symm, py_l, pz_f 8 f 8 rfl, pz_b18 hf 8 (by decide), pz_c hf 8 (by decide), hS2, py_l]
    rcases (by omega : op = 0 ∨ op = 1) with rfl | rfl
    · rw [if_neg (show ¬ Int32.ofNat (1 - 0) = 0 by decide)]
      exact fin 0 rfl
    · rw [if_pos (show Int32.ofNat (1 - 1) = 0 from rfl)]
      exact fin 1 rfl
  · by_cases eg : g = f
    · subst eg
      refine ⟨len, 0, sd, p, rc, db, sk, b2.cong (k2 53 g rfl) (k2 11 g rfl), d2.cong (kk 54 g (by omega)) (kk 12 g (by omega)) (kk 14 g (by omega)) (kk 15 g (by omega)) (kk 16 g (by omega)), ⟨?_, ?_, ?_, ?_, ?_, ?_⟩, d4, d5, d6, d7⟩
      · rw [eo _ (by omega)]
        exact d3.1
      · rw [eo _ (by omega)]
        exact d3.2.1
      · rw [eo _ (by omega)]
        exact d3.2.2.1
      · rw [eo _ (by omega)]
        exact d3.2.2.2.1
      · rw [eo _ (by omega)]
        exact d3.2.2.2.2.1
      · rw [e8]
        rfl
    · obtain ⟨len2, op2, sd2, p2, rc2, db2, sk2, c⟩ := a2 g hg
      have eg2 : ∀ a, a ≠ 36 → S2 a g = S a g := fun a ha => by
        rw [k2 a g (by
          cases hb : Nat.beq a 36 with
          | false => rfl
          | true => exact absurd (Nat.eq_of_beq_eq_true hb) ha), b3 a g (Or.inr eg)]
      exact ⟨len2, op2, sd2, p2, rc2, db2, sk2, c.cong (eg2 53 (by omega)) (eg2 11 (by omega)) (eg2 54 (by omega)) (eg2 12 (by omega)) (eg2 14 (by omega)) (eg2 15 (by omega)) (eg2 16 (by omega)) (fun j h1 h2 => eo _ (by omega)) (Nat.le_refl _) (Nat.le_refl _)⟩
