/-! The reader. -/
def py_KR (a i : Nat) : Bool := ((Nat.beq a 50 || (Nat.beq a 0 || Nat.beq a 1)) && Nat.ble i 407) || (Nat.beq a 30 || (Nat.beq a 31 || (Nat.beq a 32 || Nat.beq a 59)))
theorem py_KR_T {i : Nat} (hi : i ≤ 407) : ∀ a b, py_KT i a b = true → py_KR a b = true := fun a b h => by
  unfold py_KT at h
  unfold py_KR
  rw [Bool.and_eq_true_iff] at h
  rw [h.1, Nat.eq_of_beq_eq_true h.2, Nat.ble_eq_true_of_le hi]
  rfl
theorem py_KR_i {a i : Nat} (hi : 407 < i) (ha : (Nat.beq a 30 || (Nat.beq a 31 || (Nat.beq a 32 || Nat.beq a 59))) = false) : py_KR a i = false := by
  unfold py_KR
  have : Nat.ble i 407 = false := by
    cases hb : Nat.ble i 407 with
    | false => rfl
    | true => exact absurd (Nat.le_of_ble_eq_true hb) (by omega)
  rw [this, ha, Bool.and_false]
  rfl
def py_KN (a i : Nat) : Bool := ((Nat.beq a 50 || (Nat.beq a 0 || Nat.beq a 1)) && Nat.ble i 407) || Nat.beq a 59
theorem py_KN_T {i : Nat} (hi : i ≤ 407) : ∀ a b, py_KT i a b = true → py_KN a b = true := fun a b h => by
  unfold py_KT at h
  unfold py_KN
  rw [Bool.and_eq_true_iff] at h
  rw [h.1, Nat.eq_of_beq_eq_true h.2, Nat.ble_eq_true_of_le hi]
  rfl
theorem py_KN_R : ∀ a b, py_KN a b = true → py_KR a b = true := fun a b h => by
  unfold py_KN at h
  unfold py_KR
  rw [Bool.or_eq_true_iff] at h
  rcases h with h | h
  · rw [h, Bool.true_or]
  · rw [h, Bool.or_true, Bool.or_true, Bool.or_true, Bool.or_true]
/-- what goes on: nothing but the reader's own cells change, and of its numbers only how many are kept -/
def pr_ef (K : Nat → Nat → Bool) (S S' : pw_S) : Prop := py_fr K S S' ∧ ∀ k, k ≠ 8 → S' 59 0 k = S 59 0 k
theorem pr_ef_r {K : Nat → Nat → Bool} {S : pw_S} : pr_ef K S S := ⟨py_fr_r, fun _ _ => Eq.refl _⟩
theorem pr_ef.trans {K : Nat → Nat → Bool} {S S' S'' : pw_S} (h : pr_ef K S S') (h' : pr_ef K S' S'') : pr_ef K S S'' := ⟨h.1.trans h'.1, fun k hk => (h'.2 k hk).trans (h.2 k hk)⟩
theorem pr_ef.of {K K' : Nat → Nat → Bool} {S S' : pw_S} (h : py_fr K S S') (hK : ∀ a b, K a b = true → K' a b = true) (h59 : K 59 0 = false) : pr_ef K' S S' := ⟨h.mono hK, fun k _ => by rw [h 59 0 h59]⟩
theorem pr_ef.mono {K K' : Nat → Nat → Bool} {S S' : pw_S} (h : pr_ef K S S') (hK : ∀ a b, K a b = true → K' a b = true) : pr_ef K' S S' := ⟨h.1.mono hK, h.2⟩
/-- the reader over a text -/
def pr_tx (S : pw_S) (f len p : Nat) (ah : Nat → Int32) : Prop := f < 3 ∧ len ≤ 300 ∧ p ≤ len ∧ S 53 f 1 = Int32.ofNat len ∧ ∀ k, ah k = if p + k < len then S 11 f (p + k) else -1
/-- the beginnings that are kept -/
def pr_sk (S : pw_S) (l : List py_T) : Prop := ∀ i, i < l.length → py_Rt S i (l.getD i pt_0)
def pr_ps (S : pw_S) (j f len p : Nat) (ah : Nat → Int32) (I : py_I) (l : List py_T) (T : py_T) : Prop := (j < 8 ∧ py_Ri S j I ∧ S 59 0 5 = Int32.ofNat j ∧ S 59 0 6 = Int32.ofNat f ∧ S 59 0 7 = Int32.ofNat p) ∧ pr_tx S f len p ah ∧ (S 59 0 8 = Int32.ofNat l.length ∧ pr_sk S l) ∧ py_Rt S 407 T
/-- the same where only numbers that the reader works with have changed -/
theorem pr_ps.cong {S S' : pw_S} {j f len p : Nat} {ah : Nat → Int32} {I : py_I} {l : List py_T} {T : py_T} (h : pr_ps S j f len p ah I l T) {K : Nat → Nat → Bool} (hf : py_fr K S S') (hI : K 51 j = false ∧ K 2 j = false ∧ K 3 j = false ∧ K 4 j = false ∧ K 5 j = false) (h59 : K 59 0 = false) (ht : K 53 f = false ∧ K 11 f = false) (htr : ∀ i, i < 408 → (i < l.length ∨ i = 407) → K 0 i = false ∧ K 1 i = false ∧ K 50 i = false) (hl : l.length ≤ 407) : pr_ps S' j f len p ah I l T := by
  obtain ⟨⟨h1, h2, h3, h4, h5⟩, ⟨t1, t2, t3, t4, t5⟩, ⟨s1, s2⟩, c⟩ := h
  refine ⟨⟨h1, h2.cong (hf _ _ hI.1) (hf _ _ hI.2.1) (hf _ _ hI.2.2.1) (hf _ _ hI.2.2.2.1) (hf _ _ hI.2.2.2.2), ?_, ?_, ?_⟩, ⟨t1, t2, t3, ?_, fun k => ?_⟩, ⟨?_, fun i hi => ?_⟩, ?_⟩
  · rw [hf _ _ h59]; exact h3
  · rw [hf _ _ h59]; exact h4
  · rw [hf _ _ h59]; exact h5
  · rw [hf _ _ ht.1]; exact t4
  · rw [hf _ _ ht.2]; exact t5 k
  · rw [hf _ _ h59]; exact s1
  · obtain ⟨g0, g1, g2⟩ := htr i (by omega) (Or.inl hi)
    exact (s2 i hi).cong (hf _ _ g0) (hf _ _ g1) (hf _ _ g2)
  · obtain ⟨g0, g1, g2⟩ := htr 407 (by omega) (Or.inr rfl)
    exact c.cong (hf _ _ g0) (hf _ _ g1) (hf _ _ g2)
theorem pr_ps.congT {S S' : pw_S} {j f len p : Nat} {ah : Nat → Int32} {I : py_I} {l : List py_T} {T : py_T} (h : pr_ps S j f len p ah I l T) {i : Nat} (hf : py_fr (py_KT i) S S') (hi : l.length ≤ i) (hi7 : i < 407) : pr_ps S' j f len p ah I l T :=
  h.cong hf ⟨rfl, rfl, rfl, rfl, rfl⟩ rfl ⟨rfl, rfl⟩ (fun k hk hk2 => by
    have hne : k ≠ i := by rcases hk2 with hk2 | hk2 <;> omega
    exact ⟨py_KT_n hne, py_KT_n hne, py_KT_n hne⟩) (by omega)
theorem pk_unitAt {S : pw_S} {f len p : Nat} {ah : Nat → Int32} (h : pr_tx S f len p ah) (k : Nat) (hk : k < 1000) : m_X7_unitAt S f (Int32.ofNat (p + k)) = some (S, ah k) := by
  obtain ⟨t1, t2, t3, t4, t5⟩ := h
  unfold m_X7_unitAt
  rw [py_jn (by omega), t4, py_je (by omega) (by omega), t5 k]
  by_cases e : p + k < len
  · rw [if_neg (by omega), py_jeL (l := 300) (by omega) (by omega), if_neg (by omega), py_ct (py_inb (by omega) (by omega)), py_cl (by omega), if_pos e]
  · rw [if_pos (by omega), if_neg e]
theorem pk_ahead {S : pw_S} {j f len p : Nat} {ah : Nat → Int32} {I : py_I} {l : List py_T} {T : py_T} (h : pr_ps S j f len p ah I l T) (hl : pt_ln T ≤ 60) (k : Nat) (hk : k < 100) : m_X4_ahead S 0 (Int32.ofNat k) = some (S, ah (pt_ln T + k)) := by
  obtain ⟨⟨h1, h2, h3, h4, h5⟩, ht, hs, hc⟩ := h
  unfold m_X4_ahead
  rw [h4, h5, hc.2.2.2.2.2.2.1, py_add, py_add, pk_dn (show f < 3 from ht.1) (by omega), Nat.add_assoc, pk_unitAt ht _ (by omega), py_b]
theorem pk_bat {S : pw_S} {k : Nat} (hk : k < 407) : m_X4_beginningAt S 0 (Int32.ofNat k) = some (S, some k) := by
  unfold m_X4_beginningAt
  rw [py_jn (by omega), py_jeL (l := 407) (by omega) (by omega), if_neg (by omega), py_ct (py_inb (by omega) hk), pk_dn hk (by omega)]
theorem pk_bat_none {S : pw_S} {k : Nat} (hk : 407 ≤ k) (hk2 : k < 2147483648) : m_X4_beginningAt S 0 (Int32.ofNat k) = some (S, none) := by
  unfold m_X4_beginningAt
  rw [py_jn hk2, py_jeL (l := 407) (by omega) hk2, if_pos hk]
theorem pr_sk.snoc {S : pw_S} {l : List py_T} {T : py_T} (h : pr_sk S l) (hT : py_Rt S l.length T) : pr_sk S (l ++ [T]) := by
  intro i hi
  rw [List.length_append, List.length_singleton] at hi
  by_cases e : i = l.length
  · subst e
    rw [List.getD_eq_getElem?_getD, List.getElem?_append_right (Nat.le_refl _), Nat.sub_self]
    exact hT
  · rw [List.getD_eq_getElem?_getD, List.getElem?_append_left (by omega), ← List.getD_eq_getElem?_getD]
    exact h i (by omega)
theorem pr_lp {I : py_I} {T : py_T} (hp : pt_pos I T) : pt_lp T ≤ pi_n I := by
  have h2 := hp.2.1
  have h1 := hp.1
  cases hz : pi_lo I (pt_it T) with
  | zero => rw [h2, hz]; exact Nat.zero_le _
  | succ l =>
    have := pi_lo_pos hz
    rw [h2, hz]
    omega
/-- the kept count is raised, what lies there is kept -/
theorem pr_ps.push {S : pw_S} {j f len p : Nat} {ah : Nat → Int32} {I : py_I} {l : List py_T} {T T' : py_T} (h : pr_ps S j f len p ah I l T) (hl : l.length < 407) (hT : py_Rt S l.length T') : pr_ps (pw_up S 59 0 (upd (S 59 0) 8 (S 59 0 8 + 1))) j f len p ah I (l ++ [T']) T ∧ pr_ef py_KN S (pw_up S 59 0 (upd (S 59 0) 8 (S 59 0 8 + 1))) := by
  obtain ⟨⟨h1, h2, h3, h4, h5⟩, ⟨t1, t2, t3, t4, t5⟩, ⟨s1, s2⟩, c⟩ := h
  have hk : ∀ (a i : Nat), Nat.beq a 59 = false → pw_up S 59 0 (upd (S 59 0) 8 (S 59 0 8 + 1)) a i = S a i := fun a i ha => py_up_k _ _ ha
  have h59 : ∀ k, k ≠ 8 → pw_up S 59 0 (upd (S 59 0) 8 (S 59 0 8 + 1)) 59 0 k = S 59 0 k := fun k hk => by rw [py_up_s, py_u_n _ _ hk]
  have hsk : pr_sk (pw_up S 59 0 (upd (S 59 0) 8 (S 59 0 8 + 1))) (l ++ [T']) := by
    have hs9 : pr_sk S (l ++ [T']) := s2.snoc hT
    exact fun i hi => (hs9 i hi).cong (hk _ _ rfl) (hk _ _ rfl) (hk _ _ rfl)
  refine ⟨⟨⟨h1, h2.cong (hk _ _ rfl) (hk _ _ rfl) (hk _ _ rfl) (hk _ _ rfl) (hk _ _ rfl), (h59 5 (by decide)).trans h3, (h59 6 (by decide)).trans h4, (h59 7 (by decide)).trans h5⟩, ⟨t1, t2, t3, ?_, fun k => ?_⟩, ⟨?_, hsk⟩, c.cong (hk _ _ rfl) (hk _ _ rfl) (hk _ _ rfl)⟩, py_fr_r.up rfl, h59⟩
  · rw [hk _ _ rfl]; exact t4
  · rw [hk _ _ rfl]; exact t5 k
  · rw [py_up_s, py_u_s, s1, py_add1, List.length_append, List.length_singleton]
theorem pk_kw_60 {j f len p : Nat} {ah : Nat → Int32} {I : py_I} {l : List py_T} {T : py_T} (hok : pi_ok I) (hl : l.length < 407) (hp : pt_pos I T) (hn : pt_it T < pi_n I) (m : Nat) (hm : pt_ln T + m ≤ 60) : ∀ (n N i : Nat) (S : pw_S) (U : py_T), n < N → m = i + n → pr_ps S j f len p ah I l T → py_Rt S l.length U → pt_gu U → pt_ln U = pt_ln T + i → pt_it U = pt_it T ∧ pt_lp U = pt_lp T ∧ pt_tm U = pt_tm T ∧ pt_rd U = pt_rd T →
    ∃ S', m_X4_keepWay_60 N S 0 (Int32.ofNat m) l.length (Int32.ofNat i) = some (S', ()) ∧ pr_ef py_KN S S' ∧ pr_ps S' j f len p ah I (l ++ [pt_fin I ((pe_tk ah (pt_ln T + i) n).foldl pt_app U)]) T := by
  intro n
  induction n with
  | zero =>
    intro N i S U hN hi h hU hg hln hpj
    obtain ⟨N, rfl⟩ : ∃ k, N = k + 1 := ⟨N - 1, by omega⟩
    have hr := hp.rd
    obtain ⟨S1, a1, a2, a3⟩ := pk_fin (j := j) h.1.2.1 hU (by rw [hpj.1]; exact hn) (by rw [hpj.2.1]; exact pr_lp hp) (by rw [hpj.2.2.1]; exact hr.2) (by rw [hpj.2.2.2]; exact hr.1)
    have h' := h.congT a2 (Nat.le_refl _) hl
    obtain ⟨b1, b2⟩ := h'.push hl a3
    unfold m_X4_keepWay_60
    rw [py_je (by omega) (by omega), if_pos (by omega), h.1.2.2.1, pk_dn h.1.1 (by omega), a1, py_b, py_l]
    exact ⟨_, rfl, (pr_ef.of a2 (py_KN_T (by omega)) rfl).trans b2, b1⟩
  | succ n ih =>
    intro N i S U hN hi h hU hg hln hpj
    obtain ⟨N, rfl⟩ : ∃ k, N = k + 1 := ⟨N - 1, by omega⟩
    obtain ⟨S1, a1, a2, a3⟩ := pk_app hU hg (ah (pt_ln T + i))
    have h' := h.congT a2 (Nat.le_refl _) hl
    obtain ⟨s1, s2, s3, s4, s5, s6, s7⟩ := pt_app_same U (ah (pt_ln T + i))
    obtain ⟨S2, b1, b2, b3⟩ := ih N (i + 1) S1 (pt_app U (ah (pt_ln T + i))) (by omega) (by omega) h' a3 (hg.app _ (by omega)) (by rw [s7, hln]; omega) ⟨s3.trans hpj.1, s4.trans hpj.2.1, s5.trans hpj.2.2.1, s6.trans hpj.2.2.2⟩
    unfold m_X4_keepWay_60
    rw [py_je (by omega) (by omega), if_neg (by omega), pk_ahead h (by omega) i (by omega), py_b, a1, py_b, py_l, py_add1, b1, pe_tk_succ, List.foldl_cons]
    exact ⟨S2, rfl, (pr_ef.of a2 (py_KN_T (by omega)) rfl).trans b2, b3⟩
/-- a way is kept, if the record does not get too long -/
theorem pk_keepWay {S : pw_S} {j f len p : Nat} {ah : Nat → Int32} {I : py_I} {l : List py_T} {T : py_T} (hok : pi_ok I) (hl : l.length < 407) (h : pr_ps S j f len p ah I l T) (hg : pt_gd I T) (hn : pt_it T < pi_n I) (v : Int32) (m : Nat) (hm : m < 1000) (x1 : Int32) (hx : (pi_hs (pi_k I (pt_it T)) ∧ x1 = Int32.ofNat (pi_a I (pt_it T)) ∧ pi_a I (pt_it T) < 8) ∨ (¬ pi_hs (pi_k I (pt_it T)) ∧ x1 = -1)) :
    ∃ S', m_X4_keepWay S 0 x1 v (Int32.ofNat m) = some (S', ()) ∧ pr_ef py_KN S S' ∧ pr_ps S' j f len p ah I (l ++ (if pt_ln T + m ≤ 60 then [pt_aft I T v (pe_tk ah (pt_ln T) m)] else [])) T := by
  have hln := hg.2.1
  have hr := hg.1.1.rd.1
  unfold m_X4_keepWay
  rw [h.2.2.1.1, pk_bat hl, py_b, py_os, h.2.2.2.2.2.2.2.2.2.1, py_add, py_jeR (l := 60) (by omega) (by omega)]
  by_cases e : pt_ln T + m ≤ 60
  · rw [if_pos e, if_pos e]
    obtain ⟨S1, a1, a2, a3⟩ := pk_copy S (i := l.length) (k := 407) (by omega) h.2.2.2
    have h1 := h.congT a2 (Nat.le_refl _) hl
    have e1 := pr_ef.of a2 (py_KN_T (show l.length ≤ 407 by omega)) rfl
    rw [a1, py_b]
    have hk := pt_kb_same I T v
    have hgk := hg.2.kb (I := I) v
    rcases hx with ⟨hs, rfl, ha⟩ | ⟨hs, rfl⟩
    · have hne : ¬ Int32.ofNat (pi_a I (pt_it T)) = -1 := fun z => py_ne1 (by omega) z
      obtain ⟨S2, b1, b2, b3⟩ := pk_beg a3 ha
      have hbs := pt_beg_same T (pi_a I (pt_it T))
      obtain ⟨S3, c1, c2, c3⟩ := pk_keep b3 ha (by rw [hbs.2.2.2.2.1]; exact hr) v
      have h2 := h1.congT b2 (Nat.le_refl _) hl
      have h3 := h2.congT c2 (Nat.le_refl _) hl
      have hU : py_Rt S3 l.length (pt_kb I T v) := by
        unfold pt_kb
        rw [if_pos hs]
        exact c3
      obtain ⟨S4, d1, d2, d3⟩ := pk_kw_60 hok hl hg.1.1 hn m e m (pw_F 20000) 0 S3 (pt_kb I T v) (by rw [py_F]; omega) (by omega) h3 hU hgk hk.2.2.2.2.2.1 ⟨hk.2.1, hk.2.2.1, hk.2.2.2.1, hk.2.2.2.2.1⟩
      rw [if_neg hne, b1, py_b, c1, py_b, py_l]
      exact ⟨S4, d1, ((e1.trans (pr_ef.of b2 (py_KN_T (by omega)) rfl)).trans (pr_ef.of c2 (py_KN_T (by omega)) rfl)).trans d2, d3⟩
    · have hU : py_Rt S1 l.length (pt_kb I T v) := by
        unfold pt_kb
        rw [if_neg hs]
        exact a3
      obtain ⟨S4, d1, d2, d3⟩ := pk_kw_60 hok hl hg.1.1 hn m e m (pw_F 20000) 0 S1 (pt_kb I T v) (by rw [py_F]; omega) (by omega) h1 hU hgk hk.2.2.2.2.2.1 ⟨hk.2.1, hk.2.2.1, hk.2.2.2.1, hk.2.2.2.2.1⟩
      rw [if_pos rfl, py_l]
      exact ⟨S4, d1, e1.trans d2, d3⟩
  · rw [if_neg e, if_neg e, List.append_nil]
    exact ⟨S, rfl, pr_ef_r, h⟩
/-- what a program that reads an item does: these ways are kept -/
def pr_rd (K : Nat → Nat → Bool) (S : pw_S) (j f len p : Nat) (ah : Nat → Int32) (I : py_I) (l ws : List py_T) (T : py_T) (m : pw_R Unit) : Prop := ∃ S', m = some (S', ()) ∧ pr_ef K S S' ∧ pr_ps S' j f len p ah I (l ++ ws) T
abbrev pr_w (I : py_I) (ah : Nat → Int32) (T : py_T) (x : Int32 × Nat) : Option py_T := if pt_ln T + x.2 ≤ 60 then some (pt_aft I T x.1 (pe_tk ah (pt_ln T) x.2)) else none
theorem pr_one {S : pw_S} {j f len p : Nat} {ah : Nat → Int32} {I : py_I} {l : List py_T} {T : py_T} (hok : pi_ok I) (hl : l.length < 407) (h : pr_ps S j f len p ah I l T) (hg : pt_gd I T) (hn : pt_it T < pi_n I) (v : Int32) (m : Nat) (hm : m < 1000) (x1 : Int32) (hx : (pi_hs (pi_k I (pt_it T)) ∧ x1 = Int32.ofNat (pi_a I (pt_it T)) ∧ pi_a I (pt_it T) < 8) ∨ (¬ pi_hs (pi_k I (pt_it T)) ∧ x1 = -1)) : pr_rd py_KN S j f len p ah I l ([(v, m)].filterMap (pr_w I ah T)) T (m_X4_keepWay S 0 x1 v (Int32.ofNat m)) := by
  obtain ⟨S', a1, a2, a3⟩ := pk_keepWay hok hl h hg hn v m hm x1 hx
  refine ⟨S', a1, a2, ?_⟩
  by_cases e : pt_ln T + m ≤ 60
  · rw [if_pos e] at a3
    rw [List.filterMap_cons_some (show pr_w I ah T (v, m) = some _ from if_pos e)]
    exact a3
  · rw [if_neg e] at a3
    rw [List.filterMap_cons_none (show pr_w I ah T (v, m) = none from if_neg e)]
    exact a3
theorem pr_no {K : Nat → Nat → Bool} {S : pw_S} {j f len p : Nat} {ah : Nat → Int32} {I : py_I} {l : List py_T} {T : py_T} (h : pr_ps S j f len p ah I l T) : pr_rd K S j f len p ah I l [] T (some (S, ())) := ⟨S, rfl, pr_ef_r, by rw [List.append_nil]; exact h⟩
theorem pr_rd.ret {K : Nat → Nat → Bool} {S : pw_S} {j f len p : Nat} {ah : Nat → Int32} {I : py_I} {l ws : List py_T} {T : py_T} {m : pw_R Unit} (h : pr_rd K S j f len p ah I l ws T m) : pr_rd K S j f len p ah I l ws T (pw_b m fun S r => some (S, ())) := by
  obtain ⟨S', a1, a2, a3⟩ := h
  exact ⟨S', by rw [a1]; rfl, a2, a3⟩
theorem pr_rd.pre {K : Nat → Nat → Bool} {S S1 : pw_S} {j f len p : Nat} {ah : Nat → Int32} {I : py_I} {l ws : List py_T} {T : py_T} {m : pw_R Unit} (h : pr_rd K S1 j f len p ah I l ws T m) (he : pr_ef K S S1) : pr_rd K S j f len p ah I l ws T m := by
  obtain ⟨S', a1, a2, a3⟩ := h
  exact ⟨S', a1, he.trans a2, a3⟩
theorem pr_rd.seq {K : Nat → Nat → Bool} {S : pw_S} {j f len p : Nat} {ah : Nat → Int32} {I : py_I} {l ws ws' : List py_T} {T : py_T} {m : pw_R Unit} {k : pw_S → Unit → pw_R Unit} (h : pr_rd K S j f len p ah I l ws T m) (hk : ∀ S', pr_ef K S S' → pr_ps S' j f len p ah I (l ++ ws) T → pr_rd K S' j f len p ah I (l ++ ws) ws' T (k S' ())) : pr_rd K S j f len p ah I l (ws ++ ws') T (pw_b m k) := by
  obtain ⟨S1, a1, a2, a3⟩ := h
  obtain ⟨S2, b1, b2, b3⟩ := hk S1 a2 a3
  exact ⟨S2, by rw [a1]; exact b1, a2.trans b2, by rw [← List.append_assoc]; exact b3⟩
theorem pr_rd.mono {K K' : Nat → Nat → Bool} {S : pw_S} {j f len p : Nat} {ah : Nat → Int32} {I : py_I} {l ws : List py_T} {T : py_T} {m : pw_R Unit} (h : pr_rd K S j f len p ah I l ws T m) (hK : ∀ a b, K a b = true → K' a b = true) : pr_rd K' S j f len p ah I l ws T m := by
  obtain ⟨S', a1, a2, a3⟩ := h
  exact ⟨S', a1, a2.mono hK, a3⟩
