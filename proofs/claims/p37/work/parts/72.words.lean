/-! Reading words. -/
theorem pr_letter {S : pw_S} {j f len p : Nat} {ah : Nat → Int32} {I : py_I} {l : List py_T} {T : py_T} (h : pr_ps S j f len p ah I l T) (hln : pt_ln T ≤ 60) (e : Nat) (he : e < 90) : m_X4_letterAhead S 0 (Int32.ofNat e) = some (S, Int32.ofNat (pe_la ah (pt_ln T + e))) := by
  unfold m_X4_letterAhead pe_la
  rw [pk_ahead h hln e (by omega), py_b, py_l, py_btw, py_b]
  by_cases c : 97 ≤ ah (pt_ln T + e) ∧ ah (pt_ln T + e) ≤ 122
  · have hn9 : ¬ ah (pt_ln T + e) < 0 := by
      have h1 := c.1
      rw [Int32.lt_iff_toInt_lt]
      rw [Int32.le_iff_toInt_le] at h1
      have q6 : (0 : Int32).toInt = 0 := rfl
      have q3 : (97 : Int32).toInt = 97 := rfl
      omega
    obtain ⟨e1, e2⟩ := py_nn hn9
    have h97 : 97 ≤ (ah (pt_ln T + e)).toNatClampNeg := by
      have h1 := c.1
      rw [e1, show (97 : Int32) = Int32.ofNat 97 from rfl, py_le (by omega) e2] at h1
      exact h1
    have hv : ah (pt_ln T + e) - 97 + 1 = Int32.ofNat ((ah (pt_ln T + e)).toNatClampNeg - 96) := by
      have := py_sub (a := (ah (pt_ln T + e)).toNatClampNeg) (b := 97) h97
      rw [← e1] at this
      have h2 : ah (pt_ln T + e) - 97 = Int32.ofNat ((ah (pt_ln T + e)).toNatClampNeg - 97) := this
      rw [h2, py_add1]
      congr 1
      omega
    rw [if_pos c, if_pos c, if_neg py_10, hv]
  · rw [if_neg c, if_neg c, if_pos rfl, py_add1, pk_ahead h hln (e + 1) (by omega)]
    by_cases c1 : ah (pt_ln T + e) = 55357
    · rw [if_pos c1, py_b]
      by_cases c2 : ah (pt_ln T + (e + 1)) = 56832
      · rw [if_pos c2, if_pos (show ah (pt_ln T + e) = 55357 ∧ ah (pt_ln T + e + 1) = 56832 from ⟨c1, c2⟩)]
        rfl
      · rw [if_neg c2, if_neg (show ¬ (ah (pt_ln T + e) = 55357 ∧ ah (pt_ln T + e + 1) = 56832) from fun z => c2 z.2)]
        rfl
    · rw [if_neg c1, if_neg (fun z => c1 z.1)]
      rfl
theorem pe_code_snoc : ∀ (ls : List Nat) (x : Nat), pe_code (ls ++ [x]) = pe_code ls + x * 2 ^ (5 * ls.length) := by
  intro ls
  induction ls with
  | nil =>
    intro x
    show x + 32 * 0 = 0 + x * 2 ^ 0
    omega
  | cons a r ih =>
    intro x
    show a + 32 * pe_code (r ++ [x]) = a + 32 * pe_code r + x * 2 ^ (5 * (r.length + 1))
    rw [ih, show 5 * (r.length + 1) = 5 * r.length + 5 from by omega, Nat.pow_add, Nat.mul_add]
    have : 32 * (x * 2 ^ (5 * r.length)) = x * (2 ^ (5 * r.length) * 2 ^ 5) := by
      rw [Nat.mul_left_comm, Nat.mul_comm 32]
    omega
theorem pe_us_snoc (ls : List Nat) (x : Nat) : pe_us (ls ++ [x]) = pe_us ls + pe_ul x := by
  induction ls with
  | nil =>
    rw [List.nil_append, pe_us_cons]
    show pe_ul x + 0 = 0 + pe_ul x
    omega
  | cons a r ih => rw [List.cons_append, pe_us_cons, pe_us_cons, ih]; omega
theorem py_shl_all2 : ∀ (a : Fin 28) (i : Fin 5), Int32.ofNat a.val <<< ((5 * Int32.ofNat i.val) &&& 31) = Int32.ofNat (a.val * 2 ^ (5 * i.val)) := by decide +kernel
def py_K2 (a i : Nat) : Bool := (Nat.beq a 31 || Nat.beq a 32) && Nat.beq i 0
theorem py_K2_R : ∀ a b, py_K2 a b = true → py_KR a b = true := fun a b h => by
  unfold py_K2 at h
  unfold py_KR
  rw [Bool.and_eq_true_iff] at h
  have h1 := h.1
  rw [Bool.or_eq_true_iff] at h1
  rcases h1 with h1 | h1
  · rw [h1, Bool.true_or, Bool.or_true, Bool.or_true]
  · rw [h1, Bool.true_or, Bool.or_true, Bool.or_true, Bool.or_true]
theorem pr_ps.congK2 {S S' : pw_S} {j f len p : Nat} {ah : Nat → Int32} {I : py_I} {l : List py_T} {T : py_T} (h : pr_ps S j f len p ah I l T) (hf : py_fr py_K2 S S') (hl : l.length < 407) : pr_ps S' j f len p ah I l T :=
  h.cong hf ⟨rfl, rfl, rfl, rfl, rfl⟩ rfl ⟨rfl, rfl⟩ (fun i _ _ => ⟨rfl, rfl, rfl⟩) (by omega)
/-- what has been gathered of words so far -/
def pr_ga (S : pw_S) (ls : List Nat) : Prop := ∀ i, i ≤ ls.length → S 31 0 i = Int32.ofNat (pe_code (ls.take i)) ∧ S 32 0 i = Int32.ofNat (pe_us (ls.take i))
theorem pr_gath_20 {j f len p : Nat} {ah : Nat → Int32} {I : py_I} {l : List py_T} {T : py_T} (hl : l.length < 407) (hln : pt_ln T ≤ 60) (w : Nat) (hw : w ≤ 60) : ∀ (n N : Nat) (S : pw_S) (ls : List Nat), n < N → 5 = ls.length + n → (∀ x ∈ ls, 1 ≤ x ∧ x ≤ 27) → pe_us ls ≤ w → pr_ps S j f len p ah I l T → pr_ga S ls →
    ∃ S', m_X4_gatherWords_20 N S 0 (Int32.ofNat w) (Int32.ofNat ls.length) = some (S', Int32.ofNat (ls ++ pe_gath ah n (pt_ln T + pe_us ls) (w - pe_us ls)).length) ∧ py_fr py_K2 S S' ∧ pr_ga S' (ls ++ pe_gath ah n (pt_ln T + pe_us ls) (w - pe_us ls)) := by
  intro n
  induction n with
  | zero =>
    intro N S ls hN hn hx hu h hg
    obtain ⟨N, rfl⟩ : ∃ k, N = k + 1 := ⟨N - 1, by omega⟩
    unfold m_X4_gatherWords_20 pe_gath
    rw [py_jeL (l := 5) (by omega) (by omega), if_pos (by omega), List.append_nil, ← show 5 = ls.length from by omega]
    exact ⟨S, rfl, py_fr_r, hg⟩
  | succ n ih =>
    intro N S ls hN hn hx hu h hg
    obtain ⟨N, rfl⟩ : ∃ k, N = k + 1 := ⟨N - 1, by omega⟩
    obtain ⟨g1, g2⟩ := hg ls.length (Nat.le_refl _)
    rw [List.take_length] at g1 g2
    have hla := pe_la_le ah (pt_ln T + pe_us ls)
    have hul : pe_ul (pe_la ah (pt_ln T + pe_us ls)) ≤ 2 := by unfold pe_ul; split <;> omega
    unfold m_X4_gatherWords_20 pe_gath
    rw [py_jeL (l := 5) (by omega) (by omega), if_neg (by omega), py_atI _ _ _ _ _ (show ls.length < 6 by omega), py_b, py_l, g2, pr_letter h hln _ (by omega), py_b, py_l, pk_ul S (by omega), py_b, py_l, py_add, py_jqR (l := 0) (by omega) (by omega), py_je (by omega) (by omega)]
    by_cases c0 : pe_la ah (pt_ln T + pe_us ls) = 0
    · rw [if_pos c0, if_pos (Or.inl c0), List.append_nil]
      exact ⟨S, rfl, py_fr_r, hg⟩
    · rw [if_neg c0]
      by_cases c1 : pe_us ls + pe_ul (pe_la ah (pt_ln T + pe_us ls)) ≤ w
      · have hcl := pe_code_lt ls hx
        have h32 : 32 ^ ls.length = 2 ^ (5 * ls.length) := by rw [Nat.pow_mul]
        have hx2 : ∀ y ∈ ls ++ [pe_la ah (pt_ln T + pe_us ls)], 1 ≤ y ∧ y ≤ 27 := fun y hy => by
          rcases List.mem_append.mp hy with hy | hy
          · exact hx y hy
          · rw [List.mem_singleton.mp hy]
            omega
        have hc2 := pe_code_lt _ hx2
        rw [pe_code_snoc, List.length_append, List.length_singleton] at hc2
        have h325 : 32 ^ (ls.length + 1) ≤ 32 ^ 5 := Nat.pow_le_pow_right (by omega) (by omega)
        have hor : Int32.ofNat (pe_code ls) ||| (Int32.ofNat (pe_la ah (pt_ln T + pe_us ls)) <<< ((5 * Int32.ofNat ls.length) &&& 31)) = Int32.ofNat (pe_code (ls ++ [pe_la ah (pt_ln T + pe_us ls)])) := by
          have hsh : Int32.ofNat (pe_la ah (pt_ln T + pe_us ls)) <<< ((5 * Int32.ofNat ls.length) &&& 31) = Int32.ofNat (pe_la ah (pt_ln T + pe_us ls) * 2 ^ (5 * ls.length)) := py_shl_all2 ⟨pe_la ah (pt_ln T + pe_us ls), by omega⟩ ⟨ls.length, by omega⟩
          rw [hsh, py_or (by rw [← h32]; exact hcl) (by omega), pe_code_snoc]
        rw [if_pos c1, if_neg (show ¬ (pe_la ah (pt_ln T + pe_us ls) = 0 ∨ w - pe_us ls < pe_ul (pe_la ah (pt_ln T + pe_us ls))) from fun z => by rcases z with z | z <;> omega)]
        rw [py_atI _ _ _ _ _ (show ls.length < 6 by omega), py_b, g1, hor, py_add1, py_putI _ _ _ _ _ (show ls.length + 1 < 6 by omega), py_b, py_putI _ _ _ _ _ (show ls.length + 1 < 6 by omega), py_b, py_l]
        have hf : py_fr py_K2 S (pw_up (pw_up S 31 0 (upd (S 31 0) (ls.length + 1) (Int32.ofNat (pe_code (ls ++ [pe_la ah (pt_ln T + pe_us ls)]))))) 32 0 (upd (pw_up S 31 0 (upd (S 31 0) (ls.length + 1) (Int32.ofNat (pe_code (ls ++ [pe_la ah (pt_ln T + pe_us ls)])))) 32 0) (ls.length + 1) (Int32.ofNat (pe_us ls + pe_ul (pe_la ah (pt_ln T + pe_us ls)))))) := (py_fr_r.up rfl).up rfl
        have hga : pr_ga (pw_up (pw_up S 31 0 (upd (S 31 0) (ls.length + 1) (Int32.ofNat (pe_code (ls ++ [pe_la ah (pt_ln T + pe_us ls)]))))) 32 0 (upd (pw_up S 31 0 (upd (S 31 0) (ls.length + 1) (Int32.ofNat (pe_code (ls ++ [pe_la ah (pt_ln T + pe_us ls)])))) 32 0) (ls.length + 1) (Int32.ofNat (pe_us ls + pe_ul (pe_la ah (pt_ln T + pe_us ls)))))) (ls ++ [pe_la ah (pt_ln T + pe_us ls)]) := by
          intro i hi
          rw [List.length_append, List.length_singleton] at hi
          rw [py_up_k _ _ rfl, py_up_s, py_up_s, py_up_k _ _ rfl]
          by_cases ei : i = ls.length + 1
          · subst ei
            rw [py_u_s, py_u_s, List.take_of_length_le (by rw [List.length_append, List.length_singleton]; omega), pe_us_snoc]
            exact ⟨rfl, rfl⟩
          · rw [py_u_n _ _ ei, py_u_n _ _ ei, List.take_append_of_le_length (by omega)]
            exact hg i (by omega)
        obtain ⟨S', b1, b2, b3⟩ := ih N _ (ls ++ [pe_la ah (pt_ln T + pe_us ls)]) (by omega) (by rw [List.length_append, List.length_singleton]; omega) hx2 (by rw [pe_us_snoc]; exact c1) (h.congK2 hf hl) hga
        rw [List.append_assoc, pe_us_snoc, ← Nat.add_assoc, ← Nat.sub_sub] at b1 b3
        rw [List.length_append, List.length_singleton] at b1
        exact ⟨S', b1, hf.trans b2, b3⟩
      · rw [if_neg c1, if_pos (show pe_la ah (pt_ln T + pe_us ls) = 0 ∨ w - pe_us ls < pe_ul (pe_la ah (pt_ln T + pe_us ls)) from Or.inr (by omega)), List.append_nil]
        exact ⟨S, rfl, py_fr_r, hg⟩
theorem pr_gath {S : pw_S} {j f len p : Nat} {ah : Nat → Int32} {I : py_I} {l : List py_T} {T : py_T} (hl : l.length < 407) (hln : pt_ln T ≤ 60) (w : Nat) (hw : w ≤ 60) (h : pr_ps S j f len p ah I l T) : ∃ S', m_X4_gatherWords S 0 (Int32.ofNat w) = some (S', Int32.ofNat (pe_gath ah 5 (pt_ln T) w).length) ∧ py_fr py_K2 S S' ∧ pr_ga S' (pe_gath ah 5 (pt_ln T) w) := by
  unfold m_X4_gatherWords
  rw [show m_X11_put S 31 0 0 0 = _ from py_putI S 31 0 0 0 (show 0 < 6 by omega), py_b]
  rw [show ∀ S : pw_S, m_X11_put S 32 0 0 0 = _ from fun S => py_putI S 32 0 0 0 (show 0 < 6 by omega), py_b, py_l]
  have hf : py_fr py_K2 S (pw_up (pw_up S 31 0 (upd (S 31 0) 0 0)) 32 0 (upd (pw_up S 31 0 (upd (S 31 0) 0 0) 32 0) 0 0)) := (py_fr_r.up rfl).up rfl
  have hga : pr_ga (pw_up (pw_up S 31 0 (upd (S 31 0) 0 0)) 32 0 (upd (pw_up S 31 0 (upd (S 31 0) 0 0) 32 0) 0 0)) [] := by
    intro i hi
    obtain rfl : i = 0 := Nat.le_zero.mp hi
    rw [py_up_k _ _ rfl, py_up_s, py_up_s, py_u_s, py_u_s]
    exact ⟨rfl, rfl⟩
  obtain ⟨S', b1, b2, b3⟩ := pr_gath_20 hl hln w hw 5 (pw_F 20000) _ [] (by rw [py_F]; omega) rfl (fun x hx => absurd hx List.not_mem_nil) (Nat.zero_le _) (h.congK2 hf hl) hga
  exact ⟨S', b1, hf.trans b2, b3⟩
theorem pr_fills_3 {S : pw_S} {j f len p : Nat} {ah : Nat → Int32} {I : py_I} {l : List py_T} {T : py_T} (hln : pt_ln T ≤ 60) (h : pr_ps S j f len p ah I l T) (u : Int32) (b : Nat) (hb : b ≤ 60) : ∀ (n N i : Nat), n < N → b = i + n → m_X4_areFills_3 N S 0 (Int32.ofNat b) u (Int32.ofNat i) = some (S, if pe_tk ah (pt_ln T + i) n = List.replicate n u then 1 else 0) := by
  intro n
  induction n with
  | zero =>
    intro N i hN hi
    obtain ⟨N, rfl⟩ : ∃ k, N = k + 1 := ⟨N - 1, by omega⟩
    unfold m_X4_areFills_3
    rw [py_je (by omega) (by omega), if_pos (show b ≤ i by omega), if_pos (show pe_tk ah (pt_ln T + i) 0 = List.replicate 0 u from rfl)]
  | succ n ih =>
    intro N i hN hi
    obtain ⟨N, rfl⟩ : ∃ k, N = k + 1 := ⟨N - 1, by omega⟩
    unfold m_X4_areFills_3
    rw [py_je (by omega) (by omega), if_neg (show ¬ b ≤ i by omega), pk_ahead h hln i (by omega), py_b, pe_tk_succ, List.replicate_succ]
    by_cases e : ah (pt_ln T + i) = u
    · rw [if_pos e, py_l, py_add1, ih N (i + 1) (by omega) (by omega), e, ← Nat.add_assoc]
      by_cases e2 : pe_tk ah (pt_ln T + i + 1) n = List.replicate n u
      · rw [if_pos e2, if_pos (by rw [e2])]
      · rw [if_neg e2, if_neg (fun z => e2 (List.cons.inj z).2)]
    · rw [if_neg e, if_neg (fun z => e (List.cons.inj z).1)]
theorem pr_fills {S : pw_S} {j f len p : Nat} {ah : Nat → Int32} {I : py_I} {l : List py_T} {T : py_T} (hln : pt_ln T ≤ 60) (h : pr_ps S j f len p ah I l T) (u : Int32) (b i : Nat) (hb : b ≤ 60) (hi : i ≤ b) : m_X4_areFills S 0 (Int32.ofNat i) (Int32.ofNat b) u = some (S, if pe_tk ah (pt_ln T + i) (b - i) = List.replicate (b - i) u then 1 else 0) := by
  unfold m_X4_areFills
  rw [py_l]
  exact pr_fills_3 hln h u b hb (b - i) (pw_F 20000) i (by rw [py_F]; omega) (by omega)
theorem pr_ga.ef {S S' : pw_S} {ls : List Nat} (h : pr_ga S ls) (h1 : S' 31 0 = S 31 0) (h2 : S' 32 0 = S 32 0) : pr_ga S' ls := fun i hi => by rw [h1, h2]; exact h i hi
theorem pr_word_58 {j f len p : Nat} {ah : Nat → Int32} {I : py_I} {T : py_T} (hok : pi_ok I) (hg : pt_gd I T) (hn : pt_it T < pi_n I) (hs : pi_hs (pi_k I (pt_it T))) (ha : pi_a I (pt_it T) < 8) (b : Nat) (hb : b ≤ 9) (u : Int32) (ls : List Nat) (h5 : ls.length ≤ 5) (hu : ∀ i, pe_us (ls.take i) ≤ b) : ∀ (n N i : Nat) (S : pw_S) (l : List py_T), n < N → ls.length + 1 = i + n → l.length + n < 407 → pr_ps S j f len p ah I l T → pr_ga S ls →
    pr_rd py_KN S j f len p ah I l (((List.range' i n).filterMap (fun i => if pe_tk ah (pt_ln T + pe_us (ls.take i)) (b - pe_us (ls.take i)) = List.replicate (b - pe_us (ls.take i)) u then some (Int32.ofNat (pe_code (ls.take i)), b) else none)).filterMap (pr_w I ah T)) T (m_X4_readWord_58 N S 0 (Int32.ofNat b) u (Int32.ofNat (pi_a I (pt_it T))) (Int32.ofNat ls.length) (Int32.ofNat i)) := by
  intro n
  induction n with
  | zero =>
    intro N i S l hN hi hl h hga
    obtain ⟨N, rfl⟩ : ∃ k, N = k + 1 := ⟨N - 1, by omega⟩
    unfold m_X4_readWord_58
    rw [py_jl (by omega) (by omega), if_pos (show ls.length < i by omega)]
    exact pr_no h
  | succ n ih =>
    intro N i S l hN hi hl h hga
    obtain ⟨N, rfl⟩ : ∃ k, N = k + 1 := ⟨N - 1, by omega⟩
    obtain ⟨g1, g2⟩ := hga i (by omega)
    have hui := hu i
    unfold m_X4_readWord_58
    rw [py_jl (by omega) (by omega), if_neg (show ¬ ls.length < i by omega), py_atI _ _ _ _ _ (show i < 6 by omega), py_b, g2, pr_fills hg.2.1 h u b _ (by omega) hui, py_b, List.range'_succ]
    by_cases e : pe_tk ah (pt_ln T + pe_us (ls.take i)) (b - pe_us (ls.take i)) = List.replicate (b - pe_us (ls.take i)) u
    · rw [if_pos e, if_neg py_10, py_atI _ _ _ _ _ (show i < 6 by omega), py_b, g1]
      rw [List.filterMap_cons_some (b := (Int32.ofNat (pe_code (ls.take i)), b)) (by rw [if_pos e])]
      have hcat : ∀ (x : Int32 × Nat) (r : List (Int32 × Nat)), (x :: r).filterMap (pr_w I ah T) = [x].filterMap (pr_w I ah T) ++ r.filterMap (pr_w I ah T) := fun x r => by
        rw [← List.filterMap_append]
        rfl
      rw [hcat]
      refine (pr_one hok (by omega) h hg hn _ b (by omega) _ (Or.inl ⟨hs, rfl, ha⟩)).seq (fun S' he h' => ?_)
      have hlen : ([(Int32.ofNat (pe_code (ls.take i)), b)].filterMap (pr_w I ah T)).length ≤ 1 := List.length_filterMap_le _ _
      rw [py_l, py_add1]
      exact ih N (i + 1) S' _ (by omega) (by omega) (by rw [List.length_append]; omega) h' (hga.ef (he.1 31 0 rfl) (he.1 32 0 rfl))
    · rw [if_neg e, if_pos rfl, py_l, py_add1]
      rw [List.filterMap_cons_none (by rw [if_neg e])]
      exact ih N (i + 1) S l (by omega) (by omega) (by omega) h hga
theorem pr_word {S : pw_S} {j f len p : Nat} {ah : Nat → Int32} {I : py_I} {l : List py_T} {T : py_T} (hok : pi_ok I) (hl : l.length + 6 < 407) (h : pr_ps S j f len p ah I l T) (hg : pt_gd I T) (hn : pt_it T < pi_n I) (hs : pi_hs (pi_k I (pt_it T))) (ha : pi_a I (pt_it T) < 8) (hb : pi_b I (pt_it T) ≤ 9) (hc : pi_c I (pt_it T) ≤ 2) :
    pr_rd py_KR S j f len p ah I l (((List.range ((pe_gath ah 5 (pt_ln T) (pi_b I (pt_it T))).length + 1)).filterMap (fun i =>
      if pe_tk ah (pt_ln T + pe_us ((pe_gath ah 5 (pt_ln T) (pi_b I (pt_it T))).take i)) (pi_b I (pt_it T) - pe_us ((pe_gath ah 5 (pt_ln T) (pi_b I (pt_it T))).take i)) = List.replicate (pi_b I (pt_it T) - pe_us ((pe_gath ah 5 (pt_ln T) (pi_b I (pt_it T))).take i)) (pe_wf (pi_c I (pt_it T)))
      then some (Int32.ofNat (pe_code ((pe_gath ah 5 (pt_ln T) (pi_b I (pt_it T))).take i)), pi_b I (pt_it T)) else none)).filterMap (pr_w I ah T)) T (m_X4_readWord S 0) := by
  have hwf : m_X11_fillOfWord S (Int32.ofNat (pi_c I (pt_it T))) = some (S, pe_wf (pi_c I (pt_it T))) := by
    unfold m_X11_fillOfWord pe_wf
    rw [py_jqR (l := 0) (by omega) (by omega), py_jqR (l := 1) (by omega) (by omega)]
    by_cases c0 : pi_c I (pt_it T) = 0
    · rw [if_pos c0, if_pos c0]
    · rw [if_neg c0, if_neg c0]
      by_cases c1 : pi_c I (pt_it T) = 1
      · rw [if_pos c1, if_pos c1]
      · rw [if_neg c1, if_neg c1]
  unfold m_X4_readWord
  rw [pr_b h hn, py_b, py_l, pr_c h hn, py_b, hwf, py_b, py_l, pr_a h hn, py_b, py_l]
  obtain ⟨S1, a1, a2, a3⟩ := pr_gath (by omega) hg.2.1 (pi_b I (pt_it T)) (by omega) h
  rw [a1, py_b, py_l, py_l, List.range_eq_range']
  have h5 := pe_gath_len ah 5 (pt_ln T) (pi_b I (pt_it T))
  exact ((pr_word_58 hok hg hn hs ha (pi_b I (pt_it T)) hb (pe_wf (pi_c I (pt_it T))) _ h5 (fun i => (pe_gath_tk (ah := ah) 5 (pt_ln T) (pi_b I (pt_it T)) i).2.1) _ (pw_F 20000) 0 S1 l (by rw [py_F]; omega) (by omega) (by omega) (h.congK2 a2 (by omega)) a3).mono py_KN_R).pre (pr_ef.of a2 py_K2_R rfl)
theorem pr_open_37 {j f len p : Nat} {ah : Nat → Int32} {I : py_I} {T : py_T} (hok : pi_ok I) (hg : pt_gd I T) (hn : pt_it T < pi_n I) (hs : pi_hs (pi_k I (pt_it T))) (ha : pi_a I (pt_it T) < 8) (u : Int32) (ls : List Nat) (h5 : ls.length ≤ 5) (hu : ∀ i, pe_us (ls.take i) ≤ 10) : ∀ (n N : Nat) (S : pw_S) (l : List py_T), n < N → n ≤ ls.length + 1 → l.length + n < 407 → pr_ps S j f len p ah I l T → pr_ga S ls →
    pr_rd py_KN S j f len p ah I l (((List.range n).reverse.filterMap (fun i => if ah (pt_ln T + pe_us (ls.take i)) = u then some (Int32.ofNat (pe_code (ls.take i)), pe_us (ls.take i) + 1) else none)).filterMap (pr_w I ah T)) T (m_X4_readOpen_37 N S 0 u (Int32.ofNat (pi_a I (pt_it T))) (py_lp n)) := by
  intro n
  induction n with
  | zero =>
    intro N S l hN hi hl h hga
    obtain ⟨N, rfl⟩ : ∃ k, N = k + 1 := ⟨N - 1, by omega⟩
    unfold m_X4_readOpen_37
    rw [if_pos py_lp_neg]
    exact pr_no h
  | succ n ih =>
    intro N S l hN hi hl h hga
    obtain ⟨N, rfl⟩ : ∃ k, N = k + 1 := ⟨N - 1, by omega⟩
    obtain ⟨g1, g2⟩ := hga n (by omega)
    have hui := hu n
    unfold m_X4_readOpen_37
    rw [py_lp_succ, py_jn (by omega), py_atI _ _ _ _ _ (show n < 6 by omega), py_b, py_l, g2, pk_ahead h hg.2.1 _ (by omega), py_b, List.range_succ, List.reverse_append, List.reverse_singleton, List.singleton_append]
    by_cases e : ah (pt_ln T + pe_us (ls.take n)) = u
    · rw [if_pos e, py_atI _ _ _ _ _ (show n < 6 by omega), py_b, g1, py_add1]
      rw [List.filterMap_cons_some (b := (Int32.ofNat (pe_code (ls.take n)), pe_us (ls.take n) + 1)) (by rw [if_pos e])]
      have hcat : ∀ (x : Int32 × Nat) (r : List (Int32 × Nat)), (x :: r).filterMap (pr_w I ah T) = [x].filterMap (pr_w I ah T) ++ r.filterMap (pr_w I ah T) := fun x r => by
        rw [← List.filterMap_append]
        rfl
      rw [hcat]
      refine (pr_one hok (by omega) h hg hn _ _ (by omega) _ (Or.inl ⟨hs, rfl, ha⟩)).seq (fun S' he h' => ?_)
      have hlen : ([(Int32.ofNat (pe_code (ls.take n)), pe_us (ls.take n) + 1)].filterMap (pr_w I ah T)).length ≤ 1 := List.length_filterMap_le _ _
      rw [py_l, py_lp_dec]
      exact ih N S' _ (by omega) (by omega) (by rw [List.length_append]; omega) h' (hga.ef (he.1 31 0 rfl) (he.1 32 0 rfl))
    · rw [if_neg e, py_l, py_lp_dec]
      rw [List.filterMap_cons_none (by rw [if_neg e])]
      exact ih N S l (by omega) (by omega) (by omega) h hga
theorem pr_open {S : pw_S} {j f len p : Nat} {ah : Nat → Int32} {I : py_I} {l : List py_T} {T : py_T} (hok : pi_ok I) (hl : l.length + 6 < 407) (h : pr_ps S j f len p ah I l T) (hg : pt_gd I T) (hn : pt_it T < pi_n I) (hs : pi_hs (pi_k I (pt_it T))) (ha : pi_a I (pt_it T) < 8) :
    pr_rd py_KR S j f len p ah I l (((List.range ((pe_gath ah 5 (pt_ln T) 60).length + 1)).reverse.filterMap (fun i =>
      if ah (pt_ln T + pe_us ((pe_gath ah 5 (pt_ln T) 60).take i)) = Int32.ofNat (pi_b I (pt_it T))
      then some (Int32.ofNat (pe_code ((pe_gath ah 5 (pt_ln T) 60).take i)), pe_us ((pe_gath ah 5 (pt_ln T) 60).take i) + 1) else none)).filterMap (pr_w I ah T)) T (m_X4_readOpen S 0) := by
  unfold m_X4_readOpen
  rw [pr_b h hn, py_b, py_l, pr_a h hn, py_b, py_l]
  obtain ⟨S1, a1, a2, a3⟩ := pr_gath (by omega) hg.2.1 60 (by omega) h
  rw [show m_X4_gatherWords S 0 60 = _ from a1, py_b, py_l, ← py_lp_succ]
  have h5 := pe_gath_len ah 5 (pt_ln T) 60
  exact ((pr_open_37 hok hg hn hs ha (Int32.ofNat (pi_b I (pt_it T))) _ h5 (fun i => by
    have g3 := (pe_gath_tk (ah := ah) 5 (pt_ln T) 60 i).2.2.1
    have g4 := pe_us_le ((pe_gath ah 5 (pt_ln T) 60).take i)
    omega) _ (pw_F 20000) S1 l (by rw [py_F]; omega) (by omega) (by omega) (h.congK2 a2 (by omega)) a3).mono py_KN_R).pre (pr_ef.of a2 py_K2_R rfl)
/-- all ways to go on by one item are kept -/
theorem pr_branch {S : pw_S} {j f len p : Nat} {ah : Nat → Int32} {I : py_I} {l : List py_T} {T : py_T} (hok : pi_ok I) (hR : pi_rg I) (hl : l.length + 6 < 407) (h : pr_ps S j f len p ah I l T) (hg : pt_gd I T) (hn : pt_it T < pi_n I) : pr_rd py_KR S j f len p ah I l (pt_ways I ah T) T (m_X4_branch S 0) := by
  obtain ⟨r0, r1, r2, r3, r5, r8⟩ := hR _ hn
  have h9 := (hok.2.1 _ hn).1
  have ha := (hok.2.1 _ hn).2
  have hent : pi_k I (pt_it T) = 7 ∨ pi_k I (pt_it T) = 8 → pr_rd py_KR S j f len p ah I l [pt_ent I T] T (m_X4_enter S 0) := fun h7 => by
    unfold m_X4_enter
    rw [h.2.2.1.1, pk_bat (by omega), py_b, py_os]
    obtain ⟨S1, a1, a2, a3⟩ := pk_copy S (i := l.length) (k := 407) (by omega) h.2.2.2
    have h1 := h.congT a2 (Nat.le_refl _) (by omega)
    obtain ⟨S2, b1, b2, b3⟩ := pk_ent h1.1.2.1 a3 hn (ha (by omega) (by omega)) h7
    have h2 := h1.congT b2 (Nat.le_refl _) (by omega)
    obtain ⟨c1, c2⟩ := h2.push (by omega) b3
    rw [a1, py_b, h1.1.2.2.1, pk_dn h.1.1 (by omega), b1, py_b, py_l]
    exact ⟨_, rfl, ((pr_ef.of a2 (py_KR_T (by omega)) rfl).trans (pr_ef.of b2 (py_KR_T (by omega)) rfl)).trans (c2.mono py_KN_R), c1⟩
  unfold m_X4_branch
  rw [pr_k h hn, py_b]
  unfold pt_ways pe_dec
  by_cases k0 : pi_k I (pt_it T) = 0
  · rw [k0]
    obtain ⟨a1, a2, a3⟩ := r0 k0
    rw [if_pos (show (Int32.ofNat 0).toInt = 0 by decide), if_neg (show ¬ (0 = 7 ∨ 0 = 8) by omega), if_pos (show 0 = 0 from rfl)]
    exact (pr_num hok (by omega) h hg hn (Or.inl (by omega)) (ha (by omega) (by omega)) a1 a2 a3).ret
  by_cases k1 : pi_k I (pt_it T) = 1
  · rw [k1]
    obtain ⟨a1, a2, a3⟩ := r1 k1
    rw [if_neg (show ¬ (Int32.ofNat 1).toInt = 0 by decide), if_pos (show (Int32.ofNat 1).toInt = (0 + 1) by decide), if_neg (show ¬ (1 = 7 ∨ 1 = 8) by omega), if_neg (show ¬ 1 = 0 by omega), if_pos (show 1 = 1 from rfl)]
    exact (pr_word hok hl h hg hn (Or.inl (by omega)) (ha (by omega) (by omega)) a2 a3).ret
  by_cases k2 : pi_k I (pt_it T) = 2
  · rw [k2]
    rw [if_neg (show ¬ (Int32.ofNat 2).toInt = 0 by decide), if_neg (show ¬ (Int32.ofNat 2).toInt = (0 + 1) by decide), if_pos (show (Int32.ofNat 2).toInt = ((0 + 1) + 1) by decide), if_neg (show ¬ (2 = 7 ∨ 2 = 8) by omega), if_neg (show ¬ 2 = 0 by omega), if_neg (show ¬ 2 = 1 by omega), if_pos (show 2 = 2 from rfl)]
    exact (pr_open hok hl h hg hn (Or.inl (by omega)) (ha (by omega) (by omega))).ret
  by_cases k3 : pi_k I (pt_it T) = 3
  · rw [k3]
    obtain ⟨a1, a2⟩ := r3 k3
    rw [if_neg (show ¬ (Int32.ofNat 3).toInt = 0 by decide), if_neg (show ¬ (Int32.ofNat 3).toInt = (0 + 1) by decide), if_neg (show ¬ (Int32.ofNat 3).toInt = ((0 + 1) + 1) by decide), if_pos (show (Int32.ofNat 3).toInt = (((0 + 1) + 1) + 1) by decide), if_neg (show ¬ (3 = 7 ∨ 3 = 8) by omega), if_neg (show ¬ 3 = 0 by omega), if_neg (show ¬ 3 = 1 by omega), if_neg (show ¬ 3 = 2 by omega), if_pos (show 3 = 3 from rfl)]
    exact ((pr_bits hok (by omega) h hg hn (Or.inl (by omega)) (ha (by omega) (by omega)) a2).mono py_KN_R).ret
  by_cases k4 : pi_k I (pt_it T) = 4
  · have hs : ¬ pi_hs (pi_k I (pt_it T)) := fun z => by rcases z with z | z <;> omega
    have hsm := h.2.2.2.2.2.2.2.2.2.2.2
    obtain ⟨u1, u2, u3, u4⟩ := hg.2
    rw [k4]
    rw [if_neg (show ¬ (Int32.ofNat 4).toInt = 0 by decide), if_neg (show ¬ (Int32.ofNat 4).toInt = (0 + 1) by decide), if_neg (show ¬ (Int32.ofNat 4).toInt = ((0 + 1) + 1) by decide), if_neg (show ¬ (Int32.ofNat 4).toInt = (((0 + 1) + 1) + 1) by decide), if_pos (show (Int32.ofNat 4).toInt = ((((0 + 1) + 1) + 1) + 1) by decide), if_neg (show ¬ (4 = 7 ∨ 4 = 8) by omega), if_neg (show ¬ 4 = 0 by omega), if_neg (show ¬ 4 = 1 by omega), if_neg (show ¬ 4 = 2 by omega), if_neg (show ¬ 4 = 3 by omega), if_neg (show ¬ 4 = 6 by omega), if_pos (show 4 = 4 from rfl)]
    unfold m_X8_checkDigit
    rw [hsm, show Int32.ofNat (pt_sm T) - Int32.ofNat (pt_sm T) / 10 * 10 = Int32.ofNat (pt_sm T % 10) from py_mod (b := 10) (by omega) (by omega), py_b, show (48 : Int32) + Int32.ofNat (pt_sm T % 10) = Int32.ofNat (48 + pt_sm T % 10) from py_add 48 _]
    exact ((pr_unit hok (by omega) h hg hn hs _).mono py_KN_R).ret
  by_cases k5 : pi_k I (pt_it T) = 5
  · have hs : ¬ pi_hs (pi_k I (pt_it T)) := fun z => by rcases z with z | z <;> omega
    rw [k5]
    rw [if_neg (show ¬ (Int32.ofNat 5).toInt = 0 by decide), if_neg (show ¬ (Int32.ofNat 5).toInt = (0 + 1) by decide), if_neg (show ¬ (Int32.ofNat 5).toInt = ((0 + 1) + 1) by decide), if_neg (show ¬ (Int32.ofNat 5).toInt = (((0 + 1) + 1) + 1) by decide), if_neg (show ¬ (Int32.ofNat 5).toInt = ((((0 + 1) + 1) + 1) + 1) by decide), if_pos (show (Int32.ofNat 5).toInt = (((((0 + 1) + 1) + 1) + 1) + 1) by decide), if_neg (show ¬ (5 = 7 ∨ 5 = 8) by omega), if_neg (show ¬ 5 = 0 by omega), if_neg (show ¬ 5 = 1 by omega), if_neg (show ¬ 5 = 2 by omega), if_neg (show ¬ 5 = 3 by omega), if_neg (show ¬ 5 = 6 by omega), if_neg (show ¬ 5 = 4 by omega), if_pos (show 5 = 5 from rfl)]
    rw [pr_a h hn, py_b]
    exact ((pr_unit hok (by omega) h hg hn hs _).mono py_KN_R).ret
  by_cases k6 : pi_k I (pt_it T) = 6
  · rw [k6]
    rw [if_neg (show ¬ (Int32.ofNat 6).toInt = 0 by decide), if_neg (show ¬ (Int32.ofNat 6).toInt = (0 + 1) by decide), if_neg (show ¬ (Int32.ofNat 6).toInt = ((0 + 1) + 1) by decide), if_neg (show ¬ (Int32.ofNat 6).toInt = (((0 + 1) + 1) + 1) by decide), if_neg (show ¬ (Int32.ofNat 6).toInt = ((((0 + 1) + 1) + 1) + 1) by decide), if_neg (show ¬ (Int32.ofNat 6).toInt = (((((0 + 1) + 1) + 1) + 1) + 1) by decide), if_pos (show (Int32.ofNat 6).toInt = ((((((0 + 1) + 1) + 1) + 1) + 1) + 1) by decide), if_neg (show ¬ (6 = 7 ∨ 6 = 8) by omega), if_neg (show ¬ 6 = 0 by omega), if_neg (show ¬ 6 = 1 by omega), if_neg (show ¬ 6 = 2 by omega), if_neg (show ¬ 6 = 3 by omega), if_pos (show 6 = 6 from rfl)]
    exact ((pr_count hok (by omega) h hg hn (Or.inr k6) (ha (by omega) (by omega))).mono py_KN_R).ret
  by_cases k7 : pi_k I (pt_it T) = 7
  · have := hent (Or.inl k7)
    rw [k7]
    rw [if_neg (show ¬ (Int32.ofNat 7).toInt = 0 by decide), if_neg (show ¬ (Int32.ofNat 7).toInt = (0 + 1) by decide), if_neg (show ¬ (Int32.ofNat 7).toInt = ((0 + 1) + 1) by decide), if_neg (show ¬ (Int32.ofNat 7).toInt = (((0 + 1) + 1) + 1) by decide), if_neg (show ¬ (Int32.ofNat 7).toInt = ((((0 + 1) + 1) + 1) + 1) by decide), if_neg (show ¬ (Int32.ofNat 7).toInt = (((((0 + 1) + 1) + 1) + 1) + 1) by decide), if_neg (show ¬ (Int32.ofNat 7).toInt = ((((((0 + 1) + 1) + 1) + 1) + 1) + 1) by decide), if_pos (show (Int32.ofNat 7).toInt = (((((((0 + 1) + 1) + 1) + 1) + 1) + 1) + 1) by decide), if_pos (show 7 = 7 ∨ 7 = 8 from Or.inl rfl)]
    exact this.ret
  by_cases k8 : pi_k I (pt_it T) = 8
  · have := hent (Or.inr k8)
    rw [k8]
    rw [if_neg (show ¬ (Int32.ofNat 8).toInt = 0 by decide), if_neg (show ¬ (Int32.ofNat 8).toInt = (0 + 1) by decide), if_neg (show ¬ (Int32.ofNat 8).toInt = ((0 + 1) + 1) by decide), if_neg (show ¬ (Int32.ofNat 8).toInt = (((0 + 1) + 1) + 1) by decide), if_neg (show ¬ (Int32.ofNat 8).toInt = ((((0 + 1) + 1) + 1) + 1) by decide), if_neg (show ¬ (Int32.ofNat 8).toInt = (((((0 + 1) + 1) + 1) + 1) + 1) by decide), if_neg (show ¬ (Int32.ofNat 8).toInt = ((((((0 + 1) + 1) + 1) + 1) + 1) + 1) by decide), if_neg (show ¬ (Int32.ofNat 8).toInt = (((((((0 + 1) + 1) + 1) + 1) + 1) + 1) + 1) by decide), if_pos (show (Int32.ofNat 8).toInt = ((((((((0 + 1) + 1) + 1) + 1) + 1) + 1) + 1) + 1) by decide), if_pos (show 8 = 7 ∨ 8 = 8 from Or.inr rfl)]
    exact this.ret
  have k9 : pi_k I (pt_it T) = 9 := by omega
  have hs : ¬ pi_hs (pi_k I (pt_it T)) := fun z => by rcases z with z | z <;> omega
  have ha9 := ha k4 k5
  rw [k9]
  rw [if_neg (show ¬ (Int32.ofNat 9).toInt = 0 by decide), if_neg (show ¬ (Int32.ofNat 9).toInt = (0 + 1) by decide), if_neg (show ¬ (Int32.ofNat 9).toInt = ((0 + 1) + 1) by decide), if_neg (show ¬ (Int32.ofNat 9).toInt = (((0 + 1) + 1) + 1) by decide), if_neg (show ¬ (Int32.ofNat 9).toInt = ((((0 + 1) + 1) + 1) + 1) by decide), if_neg (show ¬ (Int32.ofNat 9).toInt = (((((0 + 1) + 1) + 1) + 1) + 1) by decide), if_neg (show ¬ (Int32.ofNat 9).toInt = ((((((0 + 1) + 1) + 1) + 1) + 1) + 1) by decide), if_neg (show ¬ (Int32.ofNat 9).toInt = (((((((0 + 1) + 1) + 1) + 1) + 1) + 1) + 1) by decide), if_neg (show ¬ (Int32.ofNat 9).toInt = ((((((((0 + 1) + 1) + 1) + 1) + 1) + 1) + 1) + 1) by decide), if_pos (show (Int32.ofNat 9).toInt = (((((((((0 + 1) + 1) + 1) + 1) + 1) + 1) + 1) + 1) + 1) by decide), if_neg (show ¬ (9 = 7 ∨ 9 = 8) by omega), if_neg (show ¬ 9 = 0 by omega), if_neg (show ¬ 9 = 1 by omega), if_neg (show ¬ 9 = 2 by omega), if_neg (show ¬ 9 = 3 by omega), if_neg (show ¬ 9 = 6 by omega), if_neg (show ¬ 9 = 4 by omega), if_neg (show ¬ 9 = 5 by omega), if_pos (show 9 = 9 from rfl)]
  rw [pr_a h hn, py_b, pk_start h.2.2.2 ha9, py_b]
  exact ((pr_place hok (by omega) h hg hn hs _ (hg.2.2.2.2 _)).mono py_KN_R).ret
