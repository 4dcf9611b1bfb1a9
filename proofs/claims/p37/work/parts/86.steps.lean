/-! What the law knows of a stream, and a step of it. -/
theorem pz_0 (f : Nat) : (3 : Int32) + 6 * Int32.ofNat f = Int32.ofNat (3 + 6 * f) := by
  rw [show (6 : Int32) * Int32.ofNat f = Int32.ofNat (6 * f) from py_mul 6 f]
  exact py_add 3 _
theorem pz_1 (f : Nat) : Int32.ofNat (3 + 6 * f) + 1 = Int32.ofNat (4 + 6 * f) := by
  rw [py_add1, show 3 + 6 * f + 1 = 4 + 6 * f from by omega]
theorem pz_2 (f : Nat) : Int32.ofNat (3 + 6 * f) + 2 = Int32.ofNat (5 + 6 * f) := by
  rw [show Int32.ofNat (3 + 6 * f) + 2 = Int32.ofNat (3 + 6 * f + 2) from py_add _ 2, show 3 + 6 * f + 2 = 5 + 6 * f from by omega]
theorem pz_3 (f : Nat) : Int32.ofNat (3 + 6 * f) + 3 = Int32.ofNat (6 + 6 * f) := by
  rw [show Int32.ofNat (3 + 6 * f) + 3 = Int32.ofNat (3 + 6 * f + 3) from py_add _ 3, show 3 + 6 * f + 3 = 6 + 6 * f from by omega]
theorem pz_4 (f : Nat) : Int32.ofNat (3 + 6 * f) + 4 = Int32.ofNat (7 + 6 * f) := by
  rw [show Int32.ofNat (3 + 6 * f) + 4 = Int32.ofNat (3 + 6 * f + 4) from py_add _ 4, show 3 + 6 * f + 4 = 7 + 6 * f from by omega]
theorem pz_5 (f : Nat) : Int32.ofNat (3 + 6 * f) + 5 = Int32.ofNat (8 + 6 * f) := by
  rw [show Int32.ofNat (3 + 6 * f) + 5 = Int32.ofNat (3 + 6 * f + 5) from py_add _ 5, show 3 + 6 * f + 5 = 8 + 6 * f from by omega]
theorem pz_c {f : Nat} (hf : f < 2) (j : Nat) (hj : j ≤ 8) : (Int32.ofNat (j + 6 * f)).toNatClampNeg = j + 6 * f := py_cl (by omega)
theorem pz_b {f : Nat} (hf : f < 2) (j : Nat) (hj : j ≤ 8) {β : Type} (o : pw_R β) : pw_c (np_inb (Int32.ofNat (j + 6 * f)) (pw_len 36)) o = o := py_ct (py_inb (by omega) (by show j + 6 * f < 18; omega)) o
theorem pz_w {f j k : Nat} (g : Nat → Int32) (x : Int32) (h : j ≠ k) : upd g (j + 6 * f) x (k + 6 * f) = g (k + 6 * f) := py_u_n _ _ (by omega)
/-- what the law keeps of a stream -/
def px_c (S : pw_S) (f sd p rc db sk op : Nat) : Prop := S 36 0 (3 + 6 * f) = Int32.ofNat sd ∧ S 36 0 (4 + 6 * f) = Int32.ofNat p ∧ S 36 0 (5 + 6 * f) = Int32.ofNat rc ∧ S 36 0 (6 + 6 * f) = Int32.ofNat (min db 9) ∧ S 36 0 (7 + 6 * f) = Int32.ofNat sk ∧ S 36 0 (8 + 6 * f) = Int32.ofNat (1 - op)
theorem pl_steps_21 {S : pw_S} {f len op : Nat} (hF : px_f S f len op) (hf : f < 2) (K : pw_S → Nat → Int32 → Nat → Nat → Int32 → Int32 → Int32 → pw_R Int32) (v3 : Int32) : ∀ (n N i : Nat), n < N → len = i + n → m_L_steps_21 K N S 0 (Int32.ofNat f) 36 0 v3 (Int32.ofNat len) (Int32.ofNat i) = K S 0 (Int32.ofNat f) 36 0 v3 (Int32.ofNat len) (Int32.ofNat (nl_e (S 11 f) n i)) := by
  have hlen := hF.2.1
  intro n
  induction n with
  | zero =>
    intro N i hN hi
    obtain ⟨N, rfl⟩ : ∃ q, N = q + 1 := ⟨N - 1, by omega⟩
    unfold m_L_steps_21 nl_e
    rw [py_je (by omega) (by omega), if_pos (show len ≤ i by omega)]
  | succ n ih =>
    intro N i hN hi
    obtain ⟨N, rfl⟩ : ∃ q, N = q + 1 := ⟨N - 1, by omega⟩
    unfold m_L_steps_21 nl_e
    rw [py_je (by omega) (by omega), if_neg (show ¬ len ≤ i by omega), pm_unit hF hf (by omega), if_pos (show i < len by omega), py_b, py_el]
    by_cases e : S 11 f i = 10
    · rw [if_pos e, if_pos e]
    · rw [if_neg e, if_neg e, py_l, py_add1, ih N (i + 1) (by omega) (by omega)]
theorem pm_progress {S : pw_S} {f sd p rc db sk : Nat} (hf : f < 2) (hT : px_t S f sd p rc db sk) (hrc : rc ≤ 24) : m_X11_progress S 0 (Int32.ofNat f) = some (S, .inl (Int32.ofNat (10000 * rc + 1000 * min db 9 + p))) := by
  obtain ⟨h5, h6, h7, h8, h9, hdb, -, -⟩ := hT
  unfold m_X11_progress
  rw [pm_table hf, py_b, py_os, h7, h8, h6, py_jlL (l := 9) (by omega) (by omega), show (10000 : Int32) * Int32.ofNat rc = Int32.ofNat (10000 * rc) from py_mul 10000 rc]
  by_cases e : 9 < db
  · rw [if_pos e, show (1000 : Int32) * 9 = Int32.ofNat 9000 from rfl, py_add, py_add, Nat.min_eq_right (show 9 ≤ db by omega)]
  · rw [if_neg e, show (1000 : Int32) * Int32.ofNat db = Int32.ofNat (1000 * db) from py_mul 1000 db, py_add, py_add, Nat.min_eq_left (show db ≤ 9 by omega)]
theorem pm_skipped {S : pw_S} {f sd p rc db sk k : Nat} (hf : f < 2) (hT : px_t S f sd p rc db sk) (hk : k ≤ sk) (hsk : sk ≤ 300) : m_X11_skipped S 0 (Int32.ofNat f) (Int32.ofNat k) = some (S, if k < sk then .inl (S 13 f k) else .inr 0) := by
  have h9 := hT.2.2.2.2.1
  unfold m_X11_skipped
  rw [pm_table hf, py_b, py_os, py_jn (by omega), h9, py_jl (by omega) (by omega)]
  by_cases e : k < sk
  · rw [if_pos e, if_pos e, py_atI _ _ _ _ _ (show k < 300 by omega), py_b]
  · rw [if_neg e, if_neg e]
theorem pl_173 {S : pw_S} {f p a q : Nat} (hf : f < 2) (h4 : S 36 0 (4 + 6 * f) = Int32.ofNat p) {b c : Int32} (hb : b * c = Int32.ofNat q) : m_L_steps_j173 S 36 0 (Int32.ofNat (3 + 6 * f)) (Int32.ofNat (a + q + p)) (Int32.ofNat a) b c = some (S, 1) := by
  unfold m_L_steps_j173
  rw [pz_1, pz_b hf 4 (by decide), pz_c hf 4 (by decide), h4, hb, py_add, py_add, if_pos rfl]
theorem pl_133 {S : pw_S} {f sd p rc db sk op : Nat} (hf : f < 2) (hT : px_t S f sd p rc db sk) (hrc : rc ≤ 24) (hc : px_c S f sd p rc db sk op) (x : Int32) : m_L_steps_j133 S 0 (Int32.ofNat f) 36 0 (Int32.ofNat (3 + 6 * f)) x x = some (S, 1) := by
  obtain ⟨c3, c4, c5, c6, c7, c8⟩ := hc
  unfold m_L_steps_j133
  rw [if_pos rfl, pm_progress hf hT hrc, py_b, py_el, pz_2, pz_3, pz_b hf 5 (by decide), pz_b hf 6 (by decide), pz_b hf 6 (by decide), pz_c hf 6 (by decide), pz_c hf 5 (by decide), c6, c5, py_jeL (l := 9) (by omega) (by omega), show (10000 : Int32) * Int32.ofNat rc = Int32.ofNat (10000 * rc) from py_mul 10000 rc]
  by_cases e : 9 ≤ min db 9
  · rw [if_pos e]
    exact pl_173 hf c4 (by rw [show min db 9 = 9 by omega]; rfl)
  · rw [if_neg e]
    exact pl_173 hf c4 (py_mul 1000 _)
theorem pl_309 {S : pw_S} {d dc f len op len2 op2 p e p2 rc db sk : Nat} {Is : Nat → py_I} {nc : Nat → Nat} {T : py_T} (hD : px_D S dc Is nc) (hd : d < dc) (hf : f < 2) (hF : px_f S f len op) (hF2 : px_f S (1 - f) len2 op2) (hop2 : S 36 0 (8 + 6 * (1 - f)) = Int32.ofNat (1 - op2)) (hT : px_t S f (d + 1) p2 (rc + 1) db sk) (hrc : rc + 1 ≤ 24) (hp2 : p2 ≤ 300) (c3 : S 36 0 (3 + 6 * f) = Int32.ofNat (d + 1)) (c4 : S 36 0 (4 + 6 * f) = Int32.ofNat p2) (c5 : S 36 0 (5 + 6 * f) = Int32.ofNat (rc + 1)) (he : e ≤ len)
    (g1 : pt_gd (Is d) T) (g2 : pt_rq (Is d) (px_ah S f len p) T) (g3 : pi_n (Is d) ≤ pt_it T) (g4 : p + pt_ln T = e) (g5 : cv_fb (pc_C S d) (pt_v T) (nc d) 0 = 0) (g6 : ∀ c, c < 24 → S 12 f (rc * 24 + c) = pt_v T c) :
    ∃ S', m_L_steps_j309 S 0 (Int32.ofNat f) 36 0 (Int32.ofNat (3 + 6 * f)) (Int32.ofNat e) (Int32.ofNat p) (Int32.ofNat (min db 9)) 1 = some (S', 1) ∧ py_fr py_KA S S' ∧ S' 36 0 = upd (S 36 0) (6 + 6 * f) (Int32.ofNat (min db 9)) ∧ (∃ len', len2 ≤ len' ∧ px_f S' (1 - f) len' op2) ∧ S' 11 f = S 11 f ∧ S' 53 f = S 53 f := by
  unfold m_L_steps_j309
  rw [py_l, pz_3, pz_b hf 6 (by decide), pz_c hf 6 (by decide), py_l, if_neg py_10]
  generalize hS1 : pw_up S 36 0 (upd (S 36 0) (6 + 6 * f) (Int32.ofNat (min db 9))) = S1
  have k1 : ∀ a i, Nat.beq a 36 = false → S1 a i = S a i := fun a i hh => by
    rw [← hS1]
    exact py_up_k _ _ hh
  have s36 : S1 36 0 = upd (S 36 0) (6 + 6 * f) (Int32.ofNat (min db 9)) := by rw [← hS1, py_up_s]
  have hT1 : px_t S1 f (d + 1) p2 (rc + 1) db sk := hT.cong (k1 _ _ rfl) (k1 _ _ rfl) (k1 _ _ rfl) (k1 _ _ rfl) (k1 _ _ rfl)
  have hah : px_ah S1 f len p = px_ah S f len p := by
    unfold px_ah
    rw [k1 11 f rfl]
  obtain ⟨hRi, hI, hR, hn, hn8, -⟩ := hD.2.2 d hd
  have hdc4 := hD.2.1
  obtain ⟨S2, a1, a2, a3, a4, a5, a6⟩ := pl_isLine (S := S1) (d := d) (p := p) (rc := rc) hI hR (by rw [k1 61 0 rfl]; exact hD.1) hd (by omega) (hRi.cong (k1 _ _ rfl) (k1 _ _ rfl) (k1 _ _ rfl) (k1 _ _ rfl) (k1 _ _ rfl)) (by rw [k1 52 d rfl]; exact hn) hn8 hf (hF.cong (k1 _ _ rfl) (k1 _ _ rfl)) (hF2.cong (k1 _ _ rfl) (k1 _ _ rfl)) (by rw [s36, py_u_n _ _ (by omega)]; exact hop2) hT1.2.2.1 hrc (by rw [s36, pz_w _ _ (by decide)]; exact c5) he g1 (by rw [hah]; exact g2) g3 g4 (by
    rw [pc_C_cong (S := S) (k1 _ _ rfl) (k1 _ _ rfl) (k1 _ _ rfl) (k1 _ _ rfl) (k1 _ _ rfl)]
    exact g5) (fun c hc => by rw [k1 12 f rfl]; exact g6 c hc)
  rw [pm_progress hf hT1 hrc, py_b, py_el, pz_2, pz_1, pz_b hf 5 (by decide), pz_b hf 4 (by decide), pz_c hf 5 (by decide), pz_c hf 4 (by decide), s36, pz_w _ _ (show 6 ≠ 5 by decide), c5, pz_w _ _ (show 6 ≠ 4 by decide), c4, show (10000 : Int32) * Int32.ofNat (rc + 1) = Int32.ofNat (10000 * (rc + 1)) from py_mul 10000 _, show (1000 : Int32) * Int32.ofNat (min db 9) = Int32.ofNat (1000 * min db 9) from py_mul 1000 _, py_add, py_add, if_pos rfl, pz_b hf 3 (by decide), pz_c hf 3 (by decide), pz_w _ _ (show 6 ≠ 3 by decide), c3, show Int32.ofNat (d + 1) - 1 = Int32.ofNat d from py_sub (a := d + 1) (b := 1) (by omega), a1, py_b, if_neg py_10]
  refine ⟨S2, rfl, fun a i hh => ?_, by rw [a3]; exact s36, a4, by rw [a5, k1 11 f rfl], by rw [a6, k1 53 f rfl]⟩
  rw [a2 a i hh]
  simp only [py_KA, Bool.or_eq_false_iff] at hh
  exact k1 a i hh.2.2.2.2.2.2.2.2.2.2.2.2.2.2.2.2
theorem pz_min {a b : Nat} (h : a = b ∨ a = b + 1) (e : ¬ min a 9 = min b 9) : min a 9 = min b 9 + 1 := by omega
theorem py_KA_36 {a i : Nat} (hh : py_KA a i = false) : Nat.beq a 36 = false := by
  simp only [py_KA, Bool.or_eq_false_iff] at hh
  exact hh.2.2.2.2.2.2.2.2.2.2.2.2.2.2.2.2
/-- the law's part behind a line that became a row -/
theorem pl_190r {S : pw_S} {d dc f len op len2 op2 p e p2 rc db db' sk : Nat} {Is : Nat → py_I} {nc : Nat → Nat} {T : py_T} (hD : px_D S dc Is nc) (hd : d < dc) (hf : f < 2) (hF : px_f S f len op) (hF2 : px_f S (1 - f) len2 op2) (hop2 : S 36 0 (8 + 6 * (1 - f)) = Int32.ofNat (1 - op2)) (hT : px_t S f (d + 1) p2 (rc + 1) db' sk) (hc : px_c S f (d + 1) p rc db sk op) (hrc : rc ≤ 20) (hdb : db' = db ∨ (db' = db + 1 ∧ ¬ pi_su (Is d))) (he : e ≤ len) (hp2 : p2 = min (e + 1) len)
    (g1 : pt_gd (Is d) T) (g2 : pt_rq (Is d) (px_ah S f len p) T) (g3 : pi_n (Is d) ≤ pt_it T) (g4 : p + pt_ln T = e) (g5 : cv_fb (pc_C S d) (pt_v T) (nc d) 0 = 0) (g6 : ∀ c, c < 24 → S 12 f (rc * 24 + c) = pt_v T c) :
    ∃ S', m_L_steps_j190 S 0 (Int32.ofNat f) 36 0 (Int32.ofNat (3 + 6 * f)) (Int32.ofNat len) (Int32.ofNat e) 1 = some (S', 1) ∧ py_fr py_KA S S' ∧ px_t S' f (d + 1) p2 (rc + 1) db' sk ∧ px_c S' f (d + 1) p2 (rc + 1) db' sk op ∧ (∀ k, k < 4 + 6 * f ∨ 8 + 6 * f ≤ k → S' 36 0 k = S 36 0 k) ∧ (∃ len', len2 ≤ len' ∧ px_f S' (1 - f) len' op2) ∧ S' 11 f = S 11 f ∧ S' 53 f = S 53 f := by
  obtain ⟨c3, c4, c5, c6, c7, c8⟩ := hc
  have hlen := hF.2.1
  have hdc4 := hD.2.1
  have hdbl := hT.2.2.2.2.2.1
  have hb : (len ≤ e ∧ e = p2) ∨ (¬ len ≤ e ∧ e + 1 = p2) := by omega
  generalize hS2 : pw_up S 36 0 (upd (upd (S 36 0) (4 + 6 * f) (Int32.ofNat p2)) (5 + 6 * f) (Int32.ofNat (rc + 1))) = S2
  have k2 : ∀ a i, Nat.beq a 36 = false → S2 a i = S a i := fun a i hh => by
    rw [← hS2]
    exact py_up_k _ _ hh
  have s36 : S2 36 0 = upd (upd (S 36 0) (4 + 6 * f) (Int32.ofNat p2)) (5 + 6 * f) (Int32.ofNat (rc + 1)) := by rw [← hS2, py_up_s]
  have t3 : S2 36 0 (3 + 6 * f) = Int32.ofNat (d + 1) := by rw [s36, pz_w _ _ (show 5 ≠ 3 by decide), pz_w _ _ (show 4 ≠ 3 by decide), c3]
  have t4 : S2 36 0 (4 + 6 * f) = Int32.ofNat p2 := by rw [s36, pz_w _ _ (show 5 ≠ 4 by decide), py_u_s]
  have t5 : S2 36 0 (5 + 6 * f) = Int32.ofNat (rc + 1) := by rw [s36, py_u_s]
  have t6 : S2 36 0 (6 + 6 * f) = Int32.ofNat (min db 9) := by rw [s36, pz_w _ _ (show 5 ≠ 6 by decide), pz_w _ _ (show 4 ≠ 6 by decide), c6]
  have t7 : S2 36 0 (7 + 6 * f) = Int32.ofNat sk := by rw [s36, pz_w _ _ (show 5 ≠ 7 by decide), pz_w _ _ (show 4 ≠ 7 by decide), c7]
  have t8 : S2 36 0 (8 + 6 * f) = Int32.ofNat (1 - op) := by rw [s36, pz_w _ _ (show 5 ≠ 8 by decide), pz_w _ _ (show 4 ≠ 8 by decide), c8]
  have hT2 : px_t S2 f (d + 1) p2 (rc + 1) db' sk := hT.cong (k2 _ _ rfl) (k2 _ _ rfl) (k2 _ _ rfl) (k2 _ _ rfl) (k2 _ _ rfl)
  have hD2 : px_D S2 dc Is nc := hD.cong (k2 61 0 rfl ▸ rfl) (fun a d9 h1 h2 h3 _ => k2 a d9 (by
    cases hb9 : Nat.beq a 36 with
    | false => rfl
    | true =>
      have := Nat.eq_of_beq_eq_true hb9
      omega))
  have hah : px_ah S2 f len p = px_ah S f len p := by
    unfold px_ah
    rw [k2 11 f rfl]
  obtain ⟨S3, a1, a2, a3, a4, a5, a6⟩ := pl_309 (S := S2) (d := d) (p := p) (e := e) (p2 := p2) (rc := rc) (db := db') hD2 hd hf (hF.cong (k2 _ _ rfl) (k2 _ _ rfl)) (hF2.cong (k2 _ _ rfl) (k2 _ _ rfl)) (by rw [s36, py_u_n _ _ (by omega), py_u_n _ _ (by omega)]; exact hop2) hT2 (by omega) (by omega) t3 t4 t5 he g1 (by rw [hah]; exact g2) g3 g4 (by
    rw [pc_C_cong (S := S) (k2 _ _ rfl) (k2 _ _ rfl) (k2 _ _ rfl) (k2 _ _ rfl) (k2 _ _ rfl)]
    exact g5) (fun c hc => by rw [k2 12 f rfl]; exact g6 c hc)
  have fin : m_L_steps_j190 S 0 (Int32.ofNat f) 36 0 (Int32.ofNat (3 + 6 * f)) (Int32.ofNat len) (Int32.ofNat e) 1 = some (S3, 1) := by
    have q1 : Int32.ofNat (10000 * (rc + 1) + 1000 * min db' 9 + p2) / 1000 = Int32.ofNat (10 * (rc + 1) + min db' 9) := by
      rw [show Int32.ofNat (10000 * (rc + 1) + 1000 * min db' 9 + p2) / 1000 = Int32.ofNat ((10000 * (rc + 1) + 1000 * min db' 9 + p2) / 1000) from py_div (b := 1000) (by omega) (by omega)]
      congr 1
      omega
    have q2 : Int32.ofNat (10 * (rc + 1) + min db' 9) / 10 * 10 = Int32.ofNat (10 * ((10 * (rc + 1) + min db' 9) / 10)) := by
      rw [show Int32.ofNat (10 * (rc + 1) + min db' 9) / 10 = Int32.ofNat ((10 * (rc + 1) + min db' 9) / 10) from py_div (b := 10) (by omega) (by omega), show Int32.ofNat ((10 * (rc + 1) + min db' 9) / 10) * 10 = Int32.ofNat ((10 * (rc + 1) + min db' 9) / 10 * 10) from py_mul _ 10, Nat.mul_comm]
    have q : Int32.ofNat (10000 * (rc + 1) + 1000 * min db' 9 + p2) / 1000 - Int32.ofNat (10000 * (rc + 1) + 1000 * min db' 9 + p2) / 1000 / 10 * 10 = Int32.ofNat (min db' 9) := by
      rw [q1, q2, py_sub (by omega)]
      congr 1
      omega
    have hdb2 : db' = db ∨ db' = db + 1 := by
      rcases hdb with z | z
      · exact Or.inl z
      · exact Or.inr z.1
    have hdc8 := (hD2.2.2 d hd).1.2.1
    obtain ⟨r, w1, w2⟩ := pm_sure (S := S2) hD2.1 hd (by omega) (hD2.2.2 d hd).1
    have su : ¬ min db' 9 = min db 9 → ∃ j, j < 2147483648 ∧ r = Int32.ofNat j := fun em => by
      rcases w2 with ⟨-, w3⟩ | ⟨j, w3, w4⟩
      · rcases hdb with z | z
        · exact absurd (by rw [z]) em
        · exact absurd w3 z.2
      · exact ⟨j, by omega, w4⟩
    unfold m_L_steps_j190
    rw [pz_2, pz_1, pz_3, pz_b hf 5 (by decide), pz_c hf 5 (by decide), c5, py_jqR (l := 24) (by omega) (by omega), if_neg (show ¬ rc = 24 by omega), pz_b hf 4 (by decide), pz_c hf 4 (by decide), c4, py_l, py_je (by omega) (by omega)]
    have tail : ∀ S9 : pw_S, S9 = S2 → ∀ z39 : Int32, z39 = Int32.ofNat (min db' 9) → (pw_c (np_inb (Int32.ofNat (6 + 6 * f)) (pw_len 36)) <| if z39 = S9 36 0 (Int32.ofNat (6 + 6 * f)).toNatClampNeg then m_L_steps_j309 S9 0 (Int32.ofNat f) 36 0 (Int32.ofNat (3 + 6 * f)) (Int32.ofNat e) (Int32.ofNat p) z39 1 else (pw_c (np_inb (Int32.ofNat (6 + 6 * f)) (pw_len 36)) <| if z39 = S9 36 0 (Int32.ofNat (6 + 6 * f)).toNatClampNeg + 1 then (pw_c (np_inb (Int32.ofNat (3 + 6 * f)) (pw_len 36)) <| pw_b (m_X11_sure S9 0 (S9 36 0 (Int32.ofNat (3 + 6 * f)).toNatClampNeg - 1)) fun S40 r43 => pw_e r43 (fun r45 => if r45 < 0 then m_L_steps_j309 S40 0 (Int32.ofNat f) 36 0 (Int32.ofNat (3 + 6 * f)) (Int32.ofNat e) (Int32.ofNat p) z39 0 else m_L_steps_j309 S40 0 (Int32.ofNat f) 36 0 (Int32.ofNat (3 + 6 * f)) (Int32.ofNat e) (Int32.ofNat p) z39 1) (fun _ => none)) else m_L_steps_j309 S9 0 (Int32.ofNat f) 36 0 (Int32.ofNat (3 + 6 * f)) (Int32.ofNat e) (Int32.ofNat p) z39 0)) = some (S3, 1) := by
      rintro S9 rfl z39 rfl
      rw [pz_b hf 6 (by decide), pz_c hf 6 (by decide), t6, py_jq (by omega) (by omega)]
      by_cases em : min db' 9 = min db 9
      · rw [if_pos em]
        exact a1
      · obtain ⟨j, j1, j2⟩ := su em
        rw [if_neg em, pz_b hf 6 (by decide), py_add1, py_jq (by omega) (by omega), if_pos (pz_min hdb2 em), pz_b hf 3 (by decide), pz_c hf 3 (by decide), t3, show Int32.ofNat (d + 1) - 1 = Int32.ofNat d from py_sub (a := d + 1) (b := 1) (by omega), w1, py_b, py_el, j2, py_jn j1]
        exact a1
    rcases hb with ⟨b1, b2⟩ | ⟨b1, b2⟩
    · subst b2
      rw [if_pos b1, pz_b hf 4 (by decide), py_l, if_pos rfl, pz_b hf 5 (by decide), pz_b hf 5 (by decide), py_up_s, pz_w _ _ (show 4 ≠ 5 by decide), c5, py_add1, py_up_u, py_l, hS2, pm_progress hf hT2 (by omega), py_b, py_el, py_l]
      exact tail S2 rfl _ q
    · subst b2
      rw [if_neg b1, pz_b hf 4 (by decide), py_add1, py_l, if_pos rfl, pz_b hf 5 (by decide), pz_b hf 5 (by decide), py_up_s, pz_w _ _ (show 4 ≠ 5 by decide), c5, py_add1, py_up_u, py_l, hS2, pm_progress hf hT2 (by omega), py_b, py_el, py_l]
      exact tail S2 rfl _ q
  refine ⟨S3, fin, fun a i hh => (a2 a i hh).trans (k2 a i (py_KA_36 hh)), hT2.cong (a2 _ _ rfl) (a2 _ _ rfl) (a2 _ _ rfl) (a2 _ _ rfl) (a2 _ _ rfl), ⟨?_, ?_, ?_, ?_, ?_, ?_⟩, fun k hk => ?_, a4, by rw [a5, k2 11 f rfl], by rw [a6, k2 53 f rfl]⟩
  · rw [a3, pz_w _ _ (show 6 ≠ 3 by decide), t3]
  · rw [a3, pz_w _ _ (show 6 ≠ 4 by decide), t4]
  · rw [a3, pz_w _ _ (show 6 ≠ 5 by decide), t5]
  · rw [a3, py_u_s]
  · rw [a3, pz_w _ _ (show 6 ≠ 7 by decide), t7]
  · rw [a3, pz_w _ _ (show 6 ≠ 8 by decide), t8]
  · rw [a3, py_u_n _ _ (by omega), s36, py_u_n _ _ (by omega), py_u_n _ _ (by omega)]
theorem pl_asks2 (S : pw_S) (x : Int32) : m_L_asks S 0 2 x 0 0 = pw_b (m_X11_step S 0 x) fun S33 r36 => pw_e r36 (fun r38 => (some (S33, r38))) (fun e => pw_x e (some (S33, (-70007))) none (some (S33, (-70008)))) := by
  unfold m_L_asks
  rw [if_neg (show ¬ (2 : Int32) = 0 by decide), if_neg (show ¬ (2 : Int32) = 1 by decide), if_pos (show (2 : Int32) = 2 from rfl)]
theorem pl_asks4 (S : pw_S) (x y : Int32) : m_L_asks S 0 4 x y 0 = pw_b (m_X11_skipped S 0 x y) fun S33 r36 => pw_e r36 (fun r38 => (some (S33, r38))) (fun e => pw_x e (some (S33, (-70007))) none (some (S33, (-70008)))) := by
  unfold m_L_asks
  rw [if_neg (show ¬ (4 : Int32) = 0 by decide), if_neg (show ¬ (4 : Int32) = 1 by decide), if_neg (show ¬ (4 : Int32) = 2 by decide), if_neg (show ¬ (4 : Int32) = 3 by decide), if_pos (show (4 : Int32) = 4 from rfl)]
/-- the law's part behind a line that was skipped -/
theorem pl_190s {S : pw_S} {d f len op p e p2 rc db sk y : Nat} (hf : f < 2) (hF : px_f S f len op) (hT : px_t S f (d + 1) p2 rc db (sk + 1)) (hc : px_c S f (d + 1) p rc db sk op) (hrc : rc ≤ 20) (hsk : sk < 300) (hp : p ≤ len) (he : e ≤ len) (hp2 : p2 = min (e + 1) len) (hy : y ≤ 100) (h13 : S 13 f sk = Int32.ofNat (1000000 * y + 1000 * p + p2)) :
    ∃ S', m_L_steps_j190 S 0 (Int32.ofNat f) 36 0 (Int32.ofNat (3 + 6 * f)) (Int32.ofNat len) (Int32.ofNat e) 0 = some (S', 1) ∧ px_c S' f (d + 1) p2 rc db (sk + 1) op ∧ (∀ k, k < 4 + 6 * f ∨ 8 + 6 * f ≤ k → S' 36 0 k = S 36 0 k) ∧ ∀ a i, Nat.beq a 36 = false → S' a i = S a i := by
  obtain ⟨c3, c4, c5, c6, c7, c8⟩ := hc
  have hlen := hF.2.1
  have hb : (len ≤ e ∧ e = p2) ∨ (¬ len ≤ e ∧ e + 1 = p2) := by omega
  have h01 : ¬ (0 : Int32) = 1 := by decide
  generalize hS1 : pw_up S 36 0 (upd (S 36 0) (4 + 6 * f) (Int32.ofNat p2)) = S1
  generalize hS2 : pw_up S1 36 0 (upd (S1 36 0) (7 + 6 * f) (Int32.ofNat (sk + 1))) = S2
  have k1 : ∀ a i, Nat.beq a 36 = false → S1 a i = S a i := fun a i hh => by
    rw [← hS1]
    exact py_up_k _ _ hh
  have k2 : ∀ a i, Nat.beq a 36 = false → S2 a i = S1 a i := fun a i hh => by
    rw [← hS2]
    exact py_up_k _ _ hh
  have s1 : S1 36 0 = upd (S 36 0) (4 + 6 * f) (Int32.ofNat p2) := by rw [← hS1, py_up_s]
  have s36 : S2 36 0 = upd (upd (S 36 0) (4 + 6 * f) (Int32.ofNat p2)) (7 + 6 * f) (Int32.ofNat (sk + 1)) := by rw [← hS2, py_up_s, s1]
  have t4 : S2 36 0 (4 + 6 * f) = Int32.ofNat p2 := by rw [s36, pz_w _ _ (show 7 ≠ 4 by decide), py_u_s]
  have t7 : S2 36 0 (7 + 6 * f) = Int32.ofNat (sk + 1) := by rw [s36, py_u_s]
  have u7 : S1 36 0 (7 + 6 * f) = Int32.ofNat sk := by rw [s1, pz_w _ _ (show 4 ≠ 7 by decide), c7]
  have hT1 : px_t S1 f (d + 1) p2 rc db (sk + 1) := hT.cong (k1 _ _ rfl) (k1 _ _ rfl) (k1 _ _ rfl) (k1 _ _ rfl) (k1 _ _ rfl)
  have hT2 : px_t S2 f (d + 1) p2 rc db (sk + 1) := hT1.cong (k2 _ _ rfl) (k2 _ _ rfl) (k2 _ _ rfl) (k2 _ _ rfl) (k2 _ _ rfl)
  have b1 : m_L_asks S1 0 4 (Int32.ofNat f) (Int32.ofNat sk) 0 = some (S1, Int32.ofNat (1000000 * y + 1000 * p + p2)) := by
    rw [pl_asks4, pm_skipped hf hT1 (show sk ≤ sk + 1 by omega) (by omega), if_pos (show sk < sk + 1 by omega), py_b, py_el, k1 13 f rfl, h13]
  have b2 : m_L_asks S2 0 4 (Int32.ofNat f) (Int32.ofNat (sk + 1)) 0 = some (S2, -70007) := by
    rw [pl_asks4, pm_skipped hf hT2 (Nat.le_refl _) (by omega), if_neg (Nat.lt_irrefl _), py_b, py_er]
    rfl
  have q1 : Int32.ofNat (1000000 * y + 1000 * p + p2) / 1000000 = Int32.ofNat y := by
    rw [show Int32.ofNat (1000000 * y + 1000 * p + p2) / 1000000 = Int32.ofNat ((1000000 * y + 1000 * p + p2) / 1000000) from py_div (b := 1000000) (by omega) (by omega)]
    congr 1
    omega
  have q2 : pw_rem (Int32.ofNat (1000000 * y + 1000 * p + p2)) 1000000 = Int32.ofNat (1000 * p + p2) := by
    rw [pw_rem_eq, q1, show Int32.ofNat y * 1000000 = Int32.ofNat (y * 1000000) from py_mul y 1000000, py_sub (by omega)]
    congr 1
    omega
  have q3 : (1000 : Int32) * Int32.ofNat p + Int32.ofNat p2 = Int32.ofNat (1000 * p + p2) := by
    rw [show (1000 : Int32) * Int32.ofNat p = Int32.ofNat (1000 * p) from py_mul 1000 p, py_add]
  refine ⟨S2, ?_, ⟨?_, t4, ?_, ?_, t7, ?_⟩, fun k hk => ?_, fun a i hh => (k2 a i hh).trans (k1 a i hh)⟩
  · unfold m_L_steps_j190
    rw [pz_2, pz_1, pz_4, pz_b hf 5 (by decide), pz_c hf 5 (by decide), c5, py_jqR (l := 24) (by omega) (by omega), if_neg (show ¬ rc = 24 by omega), pz_b hf 4 (by decide), pz_c hf 4 (by decide), c4, py_l, py_je (by omega) (by omega)]
    rcases hb with ⟨b3, b4⟩ | ⟨b3, b4⟩
    · subst b4
      rw [if_pos b3, pz_b hf 4 (by decide), py_l, if_neg h01, hS1, pz_b hf 7 (by decide), pz_c hf 7 (by decide), u7, b1, py_b, py_l, pz_b hf 7 (by decide), pz_b hf 7 (by decide), u7, py_add1, py_l, hS2, if_pos rfl, q1, py_jlL (l := 100) (by omega) (by omega), if_neg (show ¬ 100 < y by omega), pz_b hf 4 (by decide), q2, t4, q3, if_pos rfl, pz_b hf 7 (by decide), t7, b2, py_b, if_pos rfl]
    · subst b4
      rw [if_neg b3, pz_b hf 4 (by decide), py_add1, py_l, if_neg h01, hS1, pz_b hf 7 (by decide), pz_c hf 7 (by decide), u7, b1, py_b, py_l, pz_b hf 7 (by decide), pz_b hf 7 (by decide), u7, py_add1, py_l, hS2, if_pos rfl, q1, py_jlL (l := 100) (by omega) (by omega), if_neg (show ¬ 100 < y by omega), pz_b hf 4 (by decide), q2, t4, q3, if_pos rfl, pz_b hf 7 (by decide), t7, b2, py_b, if_pos rfl]
  · rw [s36, pz_w _ _ (show 7 ≠ 3 by decide), pz_w _ _ (show 4 ≠ 3 by decide), c3]
  · rw [s36, pz_w _ _ (show 7 ≠ 5 by decide), pz_w _ _ (show 4 ≠ 5 by decide), c5]
  · rw [s36, pz_w _ _ (show 7 ≠ 6 by decide), pz_w _ _ (show 4 ≠ 6 by decide), c6]
  · rw [s36, pz_w _ _ (show 7 ≠ 8 by decide), pz_w _ _ (show 4 ≠ 8 by decide), c8]
  · rw [s36, py_u_n _ _ (by omega), py_u_n _ _ (by omega)]
