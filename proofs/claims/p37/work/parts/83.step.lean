/-! A step of a stream. -/
def px_t (S : pw_S) (f sd p rc db sk : Nat) : Prop := S 54 f 5 = py_lp sd ∧ S 54 f 6 = Int32.ofNat p ∧ S 54 f 7 = Int32.ofNat rc ∧ S 54 f 8 = Int32.ofNat db ∧ S 54 f 9 = Int32.ofNat sk ∧ db ≤ rc ∧ (∀ r, r < rc → ∀ c, c < 24 → S 12 f (r * 24 + c) = -2147483648 ∨ ∃ w, w < 134217728 ∧ S 12 f (r * 24 + c) = Int32.ofNat w) ∧ ∀ s, s < 8 → px_is S f s rc
theorem px_is.cong {S S' : pw_S} {f s rc : Nat} (h : px_is S f s rc) (e12 : S' 12 f = S 12 f) (e14 : S' 14 f = S 14 f) (e15 : S' 15 f = S 15 f) (e16 : S' 16 f = S 16 f) : px_is S' f s rc := by
  have hK : ix_K S' f s = ix_K S f s := by
    unfold ix_K
    rw [e12]
  unfold px_is
  rw [hK, e14, e15, e16]
  exact h
theorem px_t.cong {S S' : pw_S} {f sd p rc db sk : Nat} (h : px_t S f sd p rc db sk) (e54 : S' 54 f = S 54 f) (e12 : S' 12 f = S 12 f) (e14 : S' 14 f = S 14 f) (e15 : S' 15 f = S 15 f) (e16 : S' 16 f = S 16 f) : px_t S' f sd p rc db sk := by
  obtain ⟨h1, h2, h3, h4, h5, h6, h7, h8⟩ := h
  refine ⟨by rw [e54]; exact h1, by rw [e54]; exact h2, by rw [e54]; exact h3, by rw [e54]; exact h4, by rw [e54]; exact h5, h6, fun r hr c hc => by rw [e12]; exact h7 r hr c hc, fun s hs => (h8 s hs).cong e12 e14 e15 e16⟩
/-- where the line ends, or the file -/
def nl_e (U : Nat → Int32) : Nat → Nat → Nat
  | 0, i => i
  | n + 1, i => if U i = 10 then i else nl_e U n (i + 1)
theorem nl_e_le (U : Nat → Int32) : ∀ (n i : Nat), i ≤ nl_e U n i ∧ nl_e U n i ≤ i + n := by
  intro n
  induction n with
  | zero => intro i; exact ⟨Nat.le_refl _, Nat.le_refl _⟩
  | succ n ih =>
    intro i
    unfold nl_e
    split
    · omega
    · have := ih (i + 1)
      omega
theorem pm_unitAt {S : pw_S} {f len op : Nat} (h : px_f S f len op) (hf : f < 2) (k : Nat) (hk : k < 1000) : m_X7_unitAt S f (Int32.ofNat k) = some (S, if k < len then S 11 f k else -1) := by
  have hu := pk_unitAt (h.tx hf (Nat.zero_le _)) k hk
  unfold px_ah at hu
  rw [Nat.zero_add] at hu
  exact hu
theorem pb_eol {S : pw_S} {f len op p : Nat} (h : px_f S f len op) (hf : f < 2) (hp : p ≤ len) : ∀ (n N i : Nat), n < N → len = i + n → m_X7_endOfLine_6 N S f (Int32.ofNat p) (Int32.ofNat i) = some (S, if nl_e (S 11 f) n i < len then Int32.ofNat (nl_e (S 11 f) n i) else if op = 0 ∧ p < len then Int32.ofNat len else -1) := by
  have hlen := h.2.1
  have hop := h.2.2.2.1
  intro n
  induction n with
  | zero =>
    intro N i hN hi
    obtain ⟨N, rfl⟩ : ∃ q, N = q + 1 := ⟨N - 1, by omega⟩
    obtain rfl : len = i := by omega
    unfold m_X7_endOfLine_6 nl_e
    rw [h.1, py_je (by omega) (by omega), if_pos (Nat.le_refl _), if_neg (Nat.lt_irrefl _), h.2.2.1, py_jqR (l := 0) (by omega) (by omega)]
    by_cases e : op = 0
    · rw [if_pos e, py_jl (by omega) (by omega)]
      by_cases e2 : p < len
      · rw [if_pos e2, if_pos (show op = 0 ∧ p < len from ⟨e, e2⟩)]
      · rw [if_neg e2, if_neg (show ¬ (op = 0 ∧ p < len) from fun z => e2 z.2)]
    · rw [if_neg e, if_neg (show ¬ (op = 0 ∧ p < len) from fun z => e z.1)]
  | succ n ih =>
    intro N i hN hi
    obtain ⟨N, rfl⟩ : ∃ q, N = q + 1 := ⟨N - 1, by omega⟩
    unfold m_X7_endOfLine_6 nl_e
    rw [h.1, py_je (by omega) (by omega), if_neg (show ¬ len ≤ i by omega), pm_unitAt h hf i (by omega), py_b, if_pos (show i < len by omega)]
    by_cases e : S 11 f i = 10
    · rw [if_pos e, if_pos e, if_pos (show i < len by omega)]
    · rw [if_neg e, if_neg e, py_l, py_add1, ih N (i + 1) (by omega) (by omega)]
theorem pm_eol {S : pw_S} {f len op p : Nat} (h : px_f S f len op) (hf : f < 2) (hp : p ≤ len) : m_X7_endOfLine S f (Int32.ofNat p) = some (S, if nl_e (S 11 f) (len - p) p < len then Int32.ofNat (nl_e (S 11 f) (len - p) p) else if op = 0 ∧ p < len then Int32.ofNat len else -1) := by
  have hlen := h.2.1
  unfold m_X7_endOfLine
  rw [py_jn (by omega), py_l]
  exact pb_eol h hf hp (len - p) (pw_F 20000) p (by rw [py_F]; omega) (by omega)
/-- cells that looking at a line changes -/
def py_KL (f a i : Nat) : Bool := py_KR a i || ((Nat.beq a 54 || Nat.beq a 12) && Nat.beq i f)
theorem py_KL_R {f : Nat} : ∀ a b, py_KR a b = true → py_KL f a b = true := fun a b h => by unfold py_KL; rw [h]; rfl
theorem py_KL_s (f : Nat) : py_KL f 54 f = true ∧ py_KL f 12 f = true := by
  unfold py_KL
  rw [Nat.beq_refl f, Bool.and_true, Bool.and_true]
  exact ⟨Bool.or_true _, Bool.or_true _⟩
/-- what has been seen of a line: how many right readings, the first of them behind the rows, the first message -/
def pb_ln (S : pw_S) (f p rc e d nc m y : Nat) (ah : Nat → Int32) (I : py_I) (C : Nat → Nat → Int32) : Prop := S 54 f 10 = Int32.ofNat m ∧ S 54 f 11 = Int32.ofNat y ∧ y ≤ 99 ∧ (m ≠ 0 → ∃ T, pt_gd I T ∧ pt_rq I ah T ∧ pi_n I ≤ pt_it T ∧ p + pt_ln T = e ∧ cv_fb C (pt_v T) nc 0 = 0 ∧ ∀ c, c < 24 → S 12 f (rc * 24 + c) = pt_v T c)
theorem pb_weigh {S : pw_S} {f p rc e d nc m y : Nat} {ah : Nat → Int32} {I : py_I} {C : Nat → Nat → Int32} {T : py_T} (h : pb_ln S f p rc e d nc m y ah I C) (hd : d < 6) (h5 : S 54 f 5 = Int32.ofNat d) (h7 : S 54 f 7 = Int32.ofNat rc) (hrc : rc < 24) (hm : m ≤ 3000) (hn : S 52 d 6 = Int32.ofNat nc) (hn8 : nc ≤ 8) (hms : ∀ i, i < nc → ∃ m, 1 ≤ m ∧ m ≤ 99 ∧ S 10 d i = Int32.ofNat m) (hC : pc_C S d = C) (hT : py_Rt S 407 T) (g1 : pt_gd I T) (g2 : pt_rq I ah T) (g3 : pi_n I ≤ pt_it T) (g4 : p + pt_ln T = e) :
    ∃ S' m' y', m_X6_weigh S f 0 407 = some (S', ()) ∧ pb_ln S' f p rc e d nc m' y' ah I C ∧ m' ≤ m + 1 ∧ m ≤ m' ∧ (∀ k, k ≠ 10 → k ≠ 11 → S' 54 f k = S 54 f k) ∧ (∀ k, k < rc * 24 → S' 12 f k = S 12 f k) ∧ ∀ a i, (a ≠ 54 ∧ a ≠ 12) ∨ i ≠ f → S' a i = S a i := by
  obtain ⟨q1, q2, q3, q4⟩ := h
  have hfb : m_X1_firstBroken S d 0 407 = some (S, cv_fb C (pt_v T) nc 0) := by
    rw [← hC]
    exact pc_fb rfl hT.1 hn hn8
  have hrng : cv_fb C (pt_v T) nc 0 = 0 ∨ ∃ m, 1 ≤ m ∧ m ≤ 99 ∧ cv_fb C (pt_v T) nc 0 = Int32.ofNat m := by
    rw [← hC]
    refine cv_fb_range nc 0 (fun i hi => ?_)
    exact hms i (by omega)
  unfold m_X6_weigh
  rw [h5, py_jn (by omega), pk_dn hd (by omega), hfb, py_b, py_l]
  by_cases e0 : cv_fb C (pt_v T) nc 0 = 0
  · rw [if_pos e0, q1, py_jqR (l := 0) (by omega) (by omega)]
    by_cases em : m = 0
    · have hcp := py_cpy S 0 407 0 12 f (rc * 24) 24 (by omega) (by decide) (by show rc * 24 + 24 ≤ 576; omega) rfl
      rw [if_pos em, h7, show Int32.ofNat rc * 24 = Int32.ofNat (rc * 24) from py_mul rc 24, show m_X11_copyCells S 0 407 0 12 f (Int32.ofNat (rc * 24)) 24 = _ from hcp, py_b, py_l, py_up_k _ _ rfl, q1, py_add1]
      refine ⟨_, m + 1, y, rfl, ⟨?_, ?_, q3, fun _ => ⟨T, g1, g2, g3, g4, e0, fun c hc => ?_⟩⟩, Nat.le_refl _, by omega, fun k k1 k2 => ?_, fun k hk => ?_, fun a i hai => ?_⟩
      · rw [py_up_s, py_u_s]
      · rw [py_up_s, py_u_b _ _ rfl]
        exact q2
      · rw [py_up_k _ _ rfl, py_up_s, ← hT.1 c hc]
        unfold va_cpy
        rw [if_pos (by omega)]
        congr 1
        omega
      · rw [py_up_s, py_u_n _ _ k1]
      · rw [py_up_k _ _ rfl, py_up_s]
        unfold va_cpy
        rw [if_neg (by omega)]
      · rw [pw_up_n _ _ (fun z => by rcases hai with hai | hai; exact hai.1 z.1; exact hai z.2), pw_up_n _ _ (fun z => by rcases hai with hai | hai; exact hai.2 z.1; exact hai z.2)]
    · rw [if_neg em, py_l, py_add1]
      refine ⟨_, m + 1, y, rfl, ⟨?_, ?_, q3, fun _ => ?_⟩, Nat.le_refl _, by omega, fun k k1 k2 => ?_, fun k hk => ?_, fun a i hai => ?_⟩
      · rw [py_up_s, py_u_s]
      · rw [py_up_s, py_u_b _ _ rfl]
        exact q2
      · obtain ⟨T0, t1, t2, t3, t4, t5, t6⟩ := q4 em
        exact ⟨T0, t1, t2, t3, t4, t5, fun c hc => by rw [py_up_k _ _ rfl]; exact t6 c hc⟩
      · rw [py_up_s, py_u_n _ _ k1]
      · rw [py_up_k _ _ rfl]
      · rw [pw_up_n _ _ (fun z => by rcases hai with hai | hai; exact hai.1 z.1; exact hai z.2)]
  · rw [if_neg e0, q2, py_jqR (l := 0) (by omega) (by omega)]
    by_cases ey : y = 0
    · obtain ⟨m9, m1, m2, m3⟩ : ∃ m, 1 ≤ m ∧ m ≤ 99 ∧ cv_fb C (pt_v T) nc 0 = Int32.ofNat m := by
        rcases hrng with z | z
        · exact absurd z e0
        · exact z
      rw [if_pos ey, py_l, m3]
      refine ⟨_, m, m9, rfl, ⟨?_, ?_, m2, fun z => ?_⟩, by omega, Nat.le_refl _, fun k k1 k2 => ?_, fun k hk => ?_, fun a i hai => ?_⟩
      · rw [py_up_s, py_u_b _ _ rfl]
        exact q1
      · rw [py_up_s, py_u_s]
      · obtain ⟨T0, t1, t2, t3, t4, t5, t6⟩ := q4 z
        exact ⟨T0, t1, t2, t3, t4, t5, fun c hc => by rw [py_up_k _ _ rfl]; exact t6 c hc⟩
      · rw [py_up_s, py_u_n _ _ k2]
      · rw [py_up_k _ _ rfl]
      · rw [pw_up_n _ _ (fun z => by rcases hai with hai | hai; exact hai.1 z.1; exact hai z.2)]
    · rw [if_neg ey]
      exact ⟨S, m, y, rfl, ⟨q1, q2, q3, q4⟩, by omega, Nat.le_refl _, fun k _ _ => rfl, fun k _ => rfl, fun a i _ => rfl⟩
/-- all readings of a line are looked at -/
theorem pb_123 {f len p rc e d nc : Nat} {ah : Nat → Int32} {I : py_I} {C : Nat → Nat → Int32} (hI : pi_ok I) (hR : pi_rg I) (hf : f < 2) (hd : d < 6) (hrc : rc < 24) (hp : p ≤ 300) (he : e ≤ 300) (hn8 : nc ≤ 8) (K : pw_S → Nat → Nat → Nat → Int32 → pw_R (Int32 ⊕ Nat)) : ∀ (N : Nat) (S : pw_S) (l : List py_T) (b i m y : Nat), 2003 < N + i → pr_go S d f len p ah I l b i → m ≤ i → pb_ln S f p rc e d nc m y ah I C → S 54 f 5 = Int32.ofNat d → S 54 f 6 = Int32.ofNat p → S 54 f 7 = Int32.ofNat rc → S 52 d 6 = Int32.ofNat nc → (∀ i, i < nc → ∃ m, 1 ≤ m ∧ m ≤ 99 ∧ S 10 d i = Int32.ofNat m) → pc_C S d = C →
    ∃ S' m' y', m_X11_step_123 K N S 0 f f (Int32.ofNat e) (Int32.ofNat i) = K S' 0 f f (Int32.ofNat e) ∧ pb_ln S' f p rc e d nc m' y' ah I C ∧ ((S' 59 0 10 = 0 ∧ m' ≤ m + (pr_lvs I ah l).length) ∨ S' 59 0 10 = 1) ∧ m' ≤ 3000 ∧ (∀ k, k ≠ 10 → k ≠ 11 → S' 54 f k = S 54 f k) ∧ (∀ k, k < rc * 24 → S' 12 f k = S 12 f k) ∧ py_fr (py_KL f) S S' := by
  intro N
  induction N with
  | zero =>
    intro S l b i m y hN h
    have h5 := h.2.2.2.2.1
    have h6 := h.2.2.2.2.2
    omega
  | succ N ih =>
    intro S l b i m y hN h hmi hl h5 h6 h7 hn hms hC
    have hb := h.2.2.2.2.1
    have hbl := h.2.2.2.2.2
    unfold m_X11_step_123
    rw [py_jeL (l := 10000) (by omega) (by omega), if_neg (show ¬ 10000 ≤ i by omega)]
    obtain ⟨S1, r, a1, a2, a3⟩ := h.next hI hR
    rw [a1, py_b]
    have k54 : S1 54 f = S 54 f := a2 54 f rfl
    have k12 : S1 12 f = S 12 f := a2 12 f rfl
    have hl1 : pb_ln S1 f p rc e d nc m y ah I C := by
      unfold pb_ln
      rw [k54, k12]
      exact hl
    have hC1 : pc_C S1 d = C := by
      rw [← hC]
      exact pc_C_cong (a2 6 d rfl) (a2 7 d rfl) (a2 8 d rfl) (a2 9 d rfl) (a2 10 d rfl)
    rcases a3 with ⟨rfl, T, l', b', q1, q2, q3, q4, q5, q6, q7⟩ | ⟨rfl, q1, q2, q3⟩ | ⟨rfl, q1, q2⟩
    · have ln60 := q4.2.1
      rw [if_neg py_10, k54, h6, q1.2.2.2.2.2.2.2.2.2.1, py_add, py_jq (by omega) (by omega), q6, List.length_cons]
      by_cases ee : p + pt_ln T = e
      · obtain ⟨S2, m2, y2, w1, w2, w3, w4, w5, w6, w7⟩ := pb_weigh hl1 hd (by rw [k54]; exact h5) (by rw [k54]; exact h7) hrc (by omega) (by rw [a2 52 d rfl]; exact hn) hn8 (fun i hi => by rw [a2 10 d rfl]; exact hms i hi) hC1 q1.2.2.2 q4 q5 q3 ee
        rw [if_pos ee, w1, py_b, py_l, py_add1]
        have hne : ∀ a i, (Nat.beq a 54 || Nat.beq a 12) = false → S2 a i = S1 a i := fun a i hh => by
          rw [Bool.or_eq_false_iff] at hh
          exact w7 a i (Or.inl ⟨Nat.ne_of_beq_eq_false hh.1, Nat.ne_of_beq_eq_false hh.2⟩)
        have hgo2 : pr_go S2 d f len p ah I l' b' (i + 1) := by
          obtain ⟨⟨⟨z1, z2, z3, z4, z5⟩, ⟨t1, t2, t3, t4, t5⟩, s1, s2⟩, g2, g3, g4, g5, g6⟩ := q2
          refine ⟨⟨⟨z1, z2.cong (hne _ _ rfl) (hne _ _ rfl) (hne _ _ rfl) (hne _ _ rfl) (hne _ _ rfl), ?_, ?_, ?_⟩, ⟨t1, t2, t3, ?_, fun k => ?_⟩, ?_, fun i hi => (s2 i hi).cong (hne _ _ rfl) (hne _ _ rfl) (hne _ _ rfl)⟩, g2, ?_, ?_, g5, g6⟩
          · rw [hne _ _ rfl]; exact z3
          · rw [hne _ _ rfl]; exact z4
          · rw [hne _ _ rfl]; exact z5
          · rw [hne _ _ rfl]; exact t4
          · rw [hne _ _ rfl]; exact t5 k
          · rw [hne _ _ rfl]; exact s1
          · rw [hne _ _ rfl]; exact g3
          · rw [hne _ _ rfl]; exact g4
        obtain ⟨S3, m3, y3, u1, u2, u3, u4, u5, u6, u7⟩ := ih S2 l' b' (i + 1) m2 y2 (by omega) hgo2 (by omega) w2 (by rw [w5 5 (by decide) (by decide), k54]; exact h5) (by rw [w5 6 (by decide) (by decide), k54]; exact h6) (by rw [w5 7 (by decide) (by decide), k54]; exact h7) (by rw [hne _ _ rfl, a2 52 d rfl]; exact hn) (fun i hi => by rw [hne _ _ rfl, a2 10 d rfl]; exact hms i hi) (by rw [← hC1]; exact pc_C_cong (hne _ _ rfl) (hne _ _ rfl) (hne _ _ rfl) (hne _ _ rfl) (hne _ _ rfl))
        refine ⟨S3, m3, y3, u1, u2, ?_, u4, fun k k1 k2 => ?_, fun k hk => ?_, ?_⟩
        · rcases u3 with ⟨u3, u3'⟩ | u3
          · exact Or.inl ⟨u3, by omega⟩
          · exact Or.inr u3
        · rw [u5 k k1 k2, w5 k k1 k2, k54]
        · rw [u6 k hk, w6 k hk, k12]
        · refine ((a2.mono py_KL_R).trans (fun a i hh => ?_)).trans u7
          unfold py_KL at hh
          rw [Bool.or_eq_false_iff] at hh
          by_cases ei : i = f
          · subst ei
            rw [Nat.beq_refl, Bool.and_true] at hh
            exact hne a i hh.2
          · exact w7 a i (Or.inr ei)
      · rw [if_neg ee, py_l, py_add1]
        obtain ⟨S3, m3, y3, u1, u2, u3, u4, u5, u6, u7⟩ := ih S1 l' b' (i + 1) m y (by omega) q2 (by omega) hl1 (by rw [k54]; exact h5) (by rw [k54]; exact h6) (by rw [k54]; exact h7) (by rw [a2 52 d rfl]; exact hn) (fun i hi => by rw [a2 10 d rfl]; exact hms i hi) hC1
        refine ⟨S3, m3, y3, u1, u2, ?_, u4, fun k k1 k2 => ?_, fun k hk => ?_, (a2.mono py_KL_R).trans u7⟩
        · rcases u3 with ⟨u3, u3'⟩ | u3
          · exact Or.inl ⟨u3, by omega⟩
          · exact Or.inr u3
        · rw [u5 k k1 k2, k54]
        · rw [u6 k hk, k12]
    · rw [if_pos rfl]
      exact ⟨S1, m, y, rfl, hl1, Or.inl ⟨q1, by omega⟩, by omega, fun k _ _ => by rw [k54], fun k _ => by rw [k12], a2.mono py_KL_R⟩
    · rw [if_pos rfl]
      exact ⟨S1, m, y, rfl, hl1, Or.inr q1, by omega, fun k _ _ => by rw [k54], fun k _ => by rw [k12], a2.mono py_KL_R⟩
