/-! The ways on which a record is read, and the one on which it is printed. -/
def pt_aft (I : py_I) (T : py_T) (v : Int32) (us : List Int32) : py_T :=
  pt_fin I (us.foldl pt_app (if pi_hs (pi_k I (pt_it T)) then pt_keep (pt_beg T (pi_a I (pt_it T))) (pi_a I (pt_it T)) v else T))
def pt_ways (I : py_I) (ah : Nat → Int32) (T : py_T) : List py_T :=
  if pi_k I (pt_it T) = 7 ∨ pi_k I (pt_it T) = 8 then [pt_ent I T]
  else (pe_dec I ah T).filterMap (fun x => if pt_ln T + x.2 ≤ 60 then some (pt_aft I T x.1 (pe_tk ah (pt_ln T) x.2)) else none)
def ps_step (I : py_I) (L : Nat → Int32) (T : py_T) : Option (List Int32 × py_T) :=
  if pi_k I (pt_it T) = 7 ∨ pi_k I (pt_it T) = 8 then some ([], pt_ent I T)
  else match pe_enc I T (L (pi_a I (pt_it T) * 3 + pt_rd T)) with
    | none => none
    | some us => if pt_ln T + us.length ≤ 60 then some (us, pt_aft I T (L (pi_a I (pt_it T) * 3 + pt_rd T)) us) else none
def ps_run (I : py_I) (L : Nat → Int32) : Nat → py_T → Option (List Int32 × py_T)
  | 0, T => if pi_n I ≤ pt_it T then some ([], T) else none
  | f + 1, T => if pi_n I ≤ pt_it T then some ([], T) else match ps_step I L T with
    | none => none
    | some x => match ps_run I L f x.2 with
      | none => none
      | some y => some (x.1 ++ y.1, y.2)
theorem ps_run_over {I : py_I} {L : Nat → Int32} {T : py_T} (h : pi_n I ≤ pt_it T) : ∀ f, ps_run I L f T = some ([], T) := by
  intro f
  cases f <;> unfold ps_run <;> rw [if_pos h]
theorem ps_run_mono {I : py_I} {L : Nat → Int32} : ∀ (f g : Nat) (T : py_T) (y : List Int32 × py_T), f ≤ g → ps_run I L f T = some y → ps_run I L g T = some y := by
  intro f
  induction f with
  | zero =>
    intro g T y _ h
    unfold ps_run at h
    split at h
    · rename_i hc
      rw [ps_run_over hc, ← h]
    · cases h
  | succ f ih =>
    intro g T y hg h
    obtain ⟨g, rfl⟩ : ∃ k, g = k + 1 := ⟨g - 1, by omega⟩
    unfold ps_run at h ⊢
    by_cases hc : pi_n I ≤ pt_it T
    · rw [if_pos hc] at h ⊢
      exact h
    · rw [if_neg hc] at h ⊢
      cases hs : ps_step I L T with
      | none => rw [hs] at h; cases h
      | some x =>
        rw [hs] at h
        dsimp only at h ⊢
        cases hr : ps_run I L f x.2 with
        | none => rw [hr] at h; cases h
        | some z =>
          rw [hr] at h
          rw [ih g x.2 z (by omega) hr]
          exact h
/-! what appending does -/
theorem pt_app_same (T : py_T) (u : Int32) : pt_v (pt_app T u) = pt_v T ∧ pt_s (pt_app T u) = pt_s T ∧ pt_it (pt_app T u) = pt_it T ∧ pt_lp (pt_app T u) = pt_lp T ∧ pt_tm (pt_app T u) = pt_tm T ∧ pt_rd (pt_app T u) = pt_rd T ∧ pt_ln (pt_app T u) = pt_ln T + 1 := by
  unfold pt_app
  split <;> exact ⟨rfl, rfl, rfl, rfl, rfl, rfl, rfl⟩
theorem pt_apps_same : ∀ (us : List Int32) (T : py_T), pt_v (us.foldl pt_app T) = pt_v T ∧ pt_s (us.foldl pt_app T) = pt_s T ∧ pt_it (us.foldl pt_app T) = pt_it T ∧ pt_lp (us.foldl pt_app T) = pt_lp T ∧ pt_tm (us.foldl pt_app T) = pt_tm T ∧ pt_rd (us.foldl pt_app T) = pt_rd T ∧ pt_ln (us.foldl pt_app T) = pt_ln T + us.length := by
  intro us
  induction us with
  | nil => intro T; exact ⟨rfl, rfl, rfl, rfl, rfl, rfl, rfl⟩
  | cons u r ih =>
    intro T
    obtain ⟨a1, a2, a3, a4, a5, a6, a7⟩ := ih (pt_app T u)
    obtain ⟨b1, b2, b3, b4, b5, b6, b7⟩ := pt_app_same T u
    rw [List.foldl_cons, List.length_cons]
    exact ⟨a1.trans b1, a2.trans b2, a3.trans b3, a4.trans b4, a5.trans b5, a6.trans b6, by rw [a7, b7]; omega⟩
theorem pt_fin_same (I : py_I) (T : py_T) : pt_v (pt_fin I T) = pt_v T ∧ pt_s (pt_fin I T) = pt_s T ∧ pt_ln (pt_fin I T) = pt_ln T ∧ pt_dg (pt_fin I T) = pt_dg T ∧ pt_sm (pt_fin I T) = pt_sm T := by
  unfold pt_fin
  split
  · exact ⟨rfl, rfl, rfl, rfl, rfl⟩
  · split
    · exact ⟨rfl, rfl, rfl, rfl, rfl⟩
    · split <;> exact ⟨rfl, rfl, rfl, rfl, rfl⟩
theorem pt_ent_same (I : py_I) (T : py_T) : pt_v (pt_ent I T) = pt_v T ∧ pt_s (pt_ent I T) = pt_s T ∧ pt_ln (pt_ent I T) = pt_ln T ∧ pt_dg (pt_ent I T) = pt_dg T ∧ pt_sm (pt_ent I T) = pt_sm T := by
  unfold pt_ent
  split
  · split <;> exact ⟨rfl, rfl, rfl, rfl, rfl⟩
  · split <;> exact ⟨rfl, rfl, rfl, rfl, rfl⟩
/-- where it goes on depends on the place alone -/
theorem pt_fin_pj {I : py_I} {T T' : py_T} (h1 : pt_it T = pt_it T') (h2 : pt_lp T = pt_lp T') (h3 : pt_tm T = pt_tm T') (h4 : pt_rd T = pt_rd T') : pt_it (pt_fin I T) = pt_it (pt_fin I T') ∧ pt_lp (pt_fin I T) = pt_lp (pt_fin I T') ∧ pt_tm (pt_fin I T) = pt_tm (pt_fin I T') ∧ pt_rd (pt_fin I T) = pt_rd (pt_fin I T') := by
  unfold pt_fin
  rw [h1, h2, h3, h4]
  split
  · exact ⟨rfl, rfl, rfl, rfl⟩
  · split
    · exact ⟨rfl, rfl, rfl, rfl⟩
    · split
      · exact ⟨rfl, rfl, rfl, rfl⟩
      · exact ⟨rfl, rfl, rfl, rfl⟩
theorem pt_ent_pj {I : py_I} {T T' : py_T} (h0 : pt_v T = pt_v T') (h1 : pt_it T = pt_it T') (h2 : pt_lp T = pt_lp T') (h3 : pt_tm T = pt_tm T') (h4 : pt_rd T = pt_rd T') : pt_it (pt_ent I T) = pt_it (pt_ent I T') ∧ pt_lp (pt_ent I T) = pt_lp (pt_ent I T') ∧ pt_tm (pt_ent I T) = pt_tm (pt_ent I T') ∧ pt_rd (pt_ent I T) = pt_rd (pt_ent I T') := by
  unfold pt_ent
  rw [h0, h1, h2, h3, h4]
  split
  · split
    · exact ⟨rfl, rfl, rfl, rfl⟩
    · exact ⟨rfl, rfl, rfl, rfl⟩
  · split
    · exact ⟨rfl, rfl, rfl, rfl⟩
    · exact ⟨rfl, rfl, rfl, rfl⟩
theorem pt_beg_same (T : py_T) (s : Nat) : pt_v (pt_beg T s) = pt_v T ∧ pt_it (pt_beg T s) = pt_it T ∧ pt_lp (pt_beg T s) = pt_lp T ∧ pt_tm (pt_beg T s) = pt_tm T ∧ pt_rd (pt_beg T s) = pt_rd T ∧ pt_ln (pt_beg T s) = pt_ln T ∧ pt_dg (pt_beg T s) = pt_dg T ∧ pt_sm (pt_beg T s) = pt_sm T := by
  unfold pt_beg
  split <;> exact ⟨rfl, rfl, rfl, rfl, rfl, rfl, rfl, rfl⟩
/-- the trace with the value noted, ahead of the units -/
abbrev pt_kb (I : py_I) (T : py_T) (v : Int32) : py_T := if pi_hs (pi_k I (pt_it T)) then pt_keep (pt_beg T (pi_a I (pt_it T))) (pi_a I (pt_it T)) v else T
theorem pt_kb_same (I : py_I) (T : py_T) (v : Int32) : pt_v (pt_kb I T v) = (if pi_hs (pi_k I (pt_it T)) then upd (pt_v T) (pi_a I (pt_it T) * 3 + pt_rd T) v else pt_v T) ∧ pt_it (pt_kb I T v) = pt_it T ∧ pt_lp (pt_kb I T v) = pt_lp T ∧ pt_tm (pt_kb I T v) = pt_tm T ∧ pt_rd (pt_kb I T v) = pt_rd T ∧ pt_ln (pt_kb I T v) = pt_ln T ∧ pt_dg (pt_kb I T v) = pt_dg T ∧ pt_sm (pt_kb I T v) = pt_sm T := by
  obtain ⟨b1, b2, b3, b4, b5, b6, b7, b8⟩ := pt_beg_same T (pi_a I (pt_it T))
  by_cases h : pi_hs (pi_k I (pt_it T))
  · rw [if_pos h]
    unfold pt_kb
    rw [if_pos h]
    unfold pt_keep
    refine ⟨?_, b2, b3, b4, b5, b6, b7, b8⟩
    show upd (pt_v (pt_beg T (pi_a I (pt_it T)))) (pi_a I (pt_it T) * 3 + pt_rd (pt_beg T (pi_a I (pt_it T)))) v = _
    rw [b1, b5]
  · rw [if_neg h]
    unfold pt_kb
    rw [if_neg h]
    exact ⟨rfl, rfl, rfl, rfl, rfl, rfl, rfl, rfl⟩
theorem pt_aft_v (I : py_I) (T : py_T) (v : Int32) (us : List Int32) : pt_v (pt_aft I T v us) = (if pi_hs (pi_k I (pt_it T)) then upd (pt_v T) (pi_a I (pt_it T) * 3 + pt_rd T) v else pt_v T) ∧ pt_ln (pt_aft I T v us) = pt_ln T + us.length := by
  obtain ⟨f1, f2, f3, f4, f5⟩ := pt_fin_same I (us.foldl pt_app (pt_kb I T v))
  obtain ⟨a1, a2, a3, a4, a5, a6, a7⟩ := pt_apps_same us (pt_kb I T v)
  obtain ⟨b1, b2, b3, b4, b5, b6, b7, b8⟩ := pt_kb_same I T v
  exact ⟨f1.trans (a1.trans b1), f3.trans (a7.trans (by rw [b6]))⟩
theorem pt_aft_pj (I : py_I) (T : py_T) (v : Int32) (us : List Int32) : pt_it (pt_aft I T v us) = pt_it (pt_fin I T) ∧ pt_lp (pt_aft I T v us) = pt_lp (pt_fin I T) ∧ pt_tm (pt_aft I T v us) = pt_tm (pt_fin I T) ∧ pt_rd (pt_aft I T v us) = pt_rd (pt_fin I T) := by
  obtain ⟨a1, a2, a3, a4, a5, a6, a7⟩ := pt_apps_same us (pt_kb I T v)
  obtain ⟨b1, b2, b3, b4, b5, b6, b7, b8⟩ := pt_kb_same I T v
  exact pt_fin_pj (a3.trans b2) (a4.trans b3) (a5.trans b4) (a6.trans b5)
/-! cells are written once -/
def pt_fr (I : py_I) (T : py_T) : Prop := ∀ k, k < pi_n I → pi_hs (pi_k I k) → ∀ r, r < 3 → pt_v T (pi_a I k * 3 + r) ≠ -2147483648 → pi_rk I k r < pt_rk I T ∧ (pi_lo I k = 0 → r = 0)
def py_ext (V L : Nat → Int32) : Prop := ∀ c, V c ≠ -2147483648 → L c = V c
theorem py_ext_r {V : Nat → Int32} : py_ext V V := fun _ _ => Eq.refl _
theorem py_ext.trans {V L M : Nat → Int32} (h : py_ext V L) (h' : py_ext L M) : py_ext V M := fun c hc => by rw [← h c hc]; exact h' c (by rw [h c hc]; exact hc)
theorem pt_0_fr (I : py_I) : pt_fr I pt_0 := fun _ _ _ _ _ h => absurd rfl h
theorem pt_fr.free {I : py_I} {T : py_T} (h : pt_fr I T) (hp : pt_pos I T) (hn : pt_it T < pi_n I) (hs : pi_hs (pi_k I (pt_it T))) : pt_v T (pi_a I (pt_it T) * 3 + pt_rd T) = -2147483648 := by
  by_cases e : pt_v T (pi_a I (pt_it T) * 3 + pt_rd T) = -2147483648
  · exact e
  · exact absurd (h _ hn hs _ hp.rd.1 e).1 (Nat.lt_irrefl _)
theorem pt_fr.same {I : py_I} {T T' : py_T} (h : pt_fr I T) (hv : pt_v T' = pt_v T) (hr : pt_rk I T < pt_rk I T') : pt_fr I T' := by
  intro k hk hs r h3 hc
  rw [hv] at hc
  obtain ⟨g1, g2⟩ := h k hk hs r h3 hc
  exact ⟨Nat.lt_trans g1 hr, g2⟩
theorem pt_fr.keep {I : py_I} (hI : pi_ok I) {T T' : py_T} (h : pt_fr I T) (hp : pt_pos I T) (hn : pt_it T < pi_n I) (hs : pi_hs (pi_k I (pt_it T))) {v : Int32} (hv : pt_v T' = upd (pt_v T) (pi_a I (pt_it T) * 3 + pt_rd T) v) (hr : pt_rk I T < pt_rk I T') : pt_fr I T' := by
  intro k hk hs' r h3 hc
  rw [hv] at hc
  have h9 := hp.rd.1
  by_cases e : pi_a I k * 3 + r = pi_a I (pt_it T) * 3 + pt_rd T
  · have e1 : pi_a I k = pi_a I (pt_it T) ∧ r = pt_rd T := by omega
    obtain ⟨e1, rfl⟩ := e1
    obtain rfl := hI.2.2.1 k (pt_it T) hk hn hs' hs e1
    refine ⟨hr, fun z => ?_⟩
    exact (hp.2.2.1 (hp.2.1.trans z)).1
  · rw [py_u_n _ _ e] at hc
    obtain ⟨g1, g2⟩ := h k hk hs' r h3 hc
    exact ⟨Nat.lt_trans g1 hr, g2⟩
theorem py_ext_upd {V : Nat → Int32} {c : Nat} {v : Int32} (h : V c = -2147483648) : py_ext V (upd V c v) := fun j hj => py_u_n _ _ (fun z => hj (by rw [z, h]))
/-- what is known of a trace: its place, that its cells are written once, its values -/
def pt_gw (I : py_I) (T : py_T) : Prop := pt_pos I T ∧ pt_fr I T ∧ ∀ c, pt_v T c = -2147483648 ∨ ∃ w, w < 134217728 ∧ pt_v T c = Int32.ofNat w
def pt_gu (T : py_T) : Prop := pt_ln T ≤ 60 ∧ pt_dg T ≤ pt_ln T ∧ pt_sm T ≤ 27 * pt_dg T ∧ ∀ s, pt_s T s = -1 ∨ ∃ w, w ≤ 60 ∧ pt_s T s = Int32.ofNat w
theorem pt_0_gw {I : py_I} (hI : pi_ok I) : pt_gw I pt_0 := ⟨pt_0_pos hI, pt_0_fr I, fun _ => Or.inl rfl⟩
theorem pt_0_gu : pt_gu pt_0 := ⟨by decide, by decide, by decide, fun _ => Or.inl rfl⟩
theorem pt_upd_small {V : Nat → Int32} {c : Nat} {v : Int32} (h : ∀ c, V c = -2147483648 ∨ ∃ w, w < 134217728 ∧ V c = Int32.ofNat w) (hv : ∃ w, w < 134217728 ∧ v = Int32.ofNat w) : ∀ j, upd V c v j = -2147483648 ∨ ∃ w, w < 134217728 ∧ upd V c v j = Int32.ofNat w := by
  intro j
  by_cases e : j = c
  · rw [e, py_u_s]
    exact Or.inr hv
  · rw [py_u_n _ _ e]
    exact h j
/-- a trace that stands like another one, with a value more -/
theorem pt_gw.step {I : py_I} (hI : pi_ok I) {T T' : py_T} (h : pt_gw I T) (hn : pt_it T < pi_n I) (h7 : pi_k I (pt_it T) ≠ 7 ∧ pi_k I (pt_it T) ≠ 8) {v : Int32} (hw : pi_hs (pi_k I (pt_it T)) → ∃ w, w < 134217728 ∧ v = Int32.ofNat w)
    (hv : pt_v T' = if pi_hs (pi_k I (pt_it T)) then upd (pt_v T) (pi_a I (pt_it T) * 3 + pt_rd T) v else pt_v T)
    (h1 : pt_it T' = pt_it (pt_fin I T)) (h2 : pt_lp T' = pt_lp (pt_fin I T)) (h3 : pt_tm T' = pt_tm (pt_fin I T)) (h4 : pt_rd T' = pt_rd (pt_fin I T)) : pt_gw I T' ∧ pt_rk I T < pt_rk I T' ∧ py_ext (pt_v T) (pt_v T') := by
  obtain ⟨g1, g2, g3⟩ := h
  obtain ⟨p1, p2⟩ := pt_fin_pos hI g1 hn h7
  have hp : pt_pos I T' := by
    unfold pt_pos at p1 ⊢
    rw [h1, h2, h3, h4]
    exact p1
  have hr : pt_rk I T < pt_rk I T' := by
    show _ < pi_rk I (pt_it T') (pt_rd T')
    rw [h1, h4]
    exact p2
  by_cases hs : pi_hs (pi_k I (pt_it T))
  · rw [if_pos hs] at hv
    refine ⟨⟨hp, g2.keep hI g1 hn hs hv hr, ?_⟩, hr, ?_⟩
    · rw [hv]
      exact pt_upd_small g3 (hw hs)
    · rw [hv]
      exact py_ext_upd (g2.free g1 hn hs)
  · rw [if_neg hs] at hv
    refine ⟨⟨hp, g2.same hv hr, ?_⟩, hr, ?_⟩
    · rw [hv]
      exact g3
    · rw [hv]
      exact py_ext_r
theorem pt_gw.aft {I : py_I} (hI : pi_ok I) {T : py_T} (h : pt_gw I T) (hn : pt_it T < pi_n I) (h7 : pi_k I (pt_it T) ≠ 7 ∧ pi_k I (pt_it T) ≠ 8) {v : Int32} (hw : pi_hs (pi_k I (pt_it T)) → ∃ w, w < 134217728 ∧ v = Int32.ofNat w) (us : List Int32) : pt_gw I (pt_aft I T v us) ∧ pt_rk I T < pt_rk I (pt_aft I T v us) ∧ py_ext (pt_v T) (pt_v (pt_aft I T v us)) := by
  obtain ⟨a1, a2, a3, a4⟩ := pt_aft_pj I T v us
  exact h.step hI hn h7 hw (pt_aft_v I T v us).1 a1 a2 a3 a4
theorem pt_gw.ent {I : py_I} (hI : pi_ok I) {T : py_T} (h : pt_gw I T) (hn : pt_it T < pi_n I) (h7 : pi_k I (pt_it T) = 7 ∨ pi_k I (pt_it T) = 8) : pt_gw I (pt_ent I T) ∧ pt_rk I T < pt_rk I (pt_ent I T) := by
  obtain ⟨g1, g2, g3⟩ := h
  obtain ⟨p1, p2⟩ := pt_ent_pos hI g1 hn h7
  have hv := (pt_ent_same I T).1
  exact ⟨⟨p1, g2.same hv p2, by rw [hv]; exact g3⟩, p2⟩
theorem pt_gu.app {T : py_T} (h : pt_gu T) (u : Int32) (hl : pt_ln T + 1 ≤ 60) : pt_gu (pt_app T u) := by
  obtain ⟨h1, h2, h3, h4⟩ := h
  unfold pt_app
  split
  · rename_i hc
    obtain ⟨c1, c2⟩ := hc
    rw [Int32.le_iff_toInt_le] at c1 c2
    have q3 : (48 : Int32).toInt = 48 := rfl
    have q4 : (57 : Int32).toInt = 57 := rfl
    have q5 : u.toNatClampNeg = u.toInt.toNat := rfl
    refine ⟨hl, ?_, ?_, h4⟩
    · show pt_dg T + 1 ≤ pt_ln T + 1
      omega
    · show pt_sm T + (if (pt_dg T + 1) % 2 = 1 then 1 else 3) * (u.toNatClampNeg - 48) ≤ 27 * (pt_dg T + 1)
      split <;> omega
  · exact ⟨hl, by show pt_dg T ≤ pt_ln T + 1; omega, h3, h4⟩
theorem pt_gu.apps : ∀ (us : List Int32) {T : py_T}, pt_gu T → pt_ln T + us.length ≤ 60 → pt_gu (us.foldl pt_app T) := by
  intro us
  induction us with
  | nil => intro T h _; exact h
  | cons u r ih =>
    intro T h hl
    rw [List.length_cons] at hl
    rw [List.foldl_cons]
    refine ih (h.app u (by omega)) ?_
    rw [(pt_app_same T u).2.2.2.2.2.2]
    omega
theorem pt_gu.kb {I : py_I} {T : py_T} (h : pt_gu T) (v : Int32) : pt_gu (pt_kb I T v) := by
  obtain ⟨h1, h2, h3, h4⟩ := h
  unfold pt_kb
  split
  · unfold pt_keep pt_beg
    split
    · refine ⟨h1, h2, h3, fun s => ?_⟩
      show upd (pt_s T) _ _ s = -1 ∨ ∃ w, w ≤ 60 ∧ upd (pt_s T) _ _ s = _
      by_cases e : s = pi_a I (pt_it T)
      · rw [e, py_u_s]
        exact Or.inr ⟨_, h1, rfl⟩
      · rw [py_u_n _ _ e]
        exact h4 s
    · exact ⟨h1, h2, h3, h4⟩
  · exact ⟨h1, h2, h3, h4⟩
theorem pt_gu.fin {I : py_I} {T : py_T} (h : pt_gu T) : pt_gu (pt_fin I T) := by
  obtain ⟨f1, f2, f3, f4, f5⟩ := pt_fin_same I T
  unfold pt_gu
  rw [f2, f3, f4, f5]
  exact h
theorem pt_gu.ent {I : py_I} {T : py_T} (h : pt_gu T) : pt_gu (pt_ent I T) := by
  obtain ⟨f1, f2, f3, f4, f5⟩ := pt_ent_same I T
  unfold pt_gu
  rw [f2, f3, f4, f5]
  exact h
theorem pt_gu.aft {I : py_I} {T : py_T} (h : pt_gu T) (v : Int32) (us : List Int32) (hl : pt_ln T + us.length ≤ 60) : pt_gu (pt_aft I T v us) := by
  unfold pt_aft
  refine pt_gu.fin (pt_gu.apps us (h.kb v) ?_)
  rw [(pt_kb_same I T v).2.2.2.2.2.1]
  exact hl
abbrev pt_gd (I : py_I) (T : py_T) : Prop := pt_gw I T ∧ pt_gu T
/-- a way leads on, to a trace of which the same is known -/
theorem pt_gd.way {I : py_I} (hI : pi_ok I) (hR : pi_rg I) {ah : Nat → Int32} {T T' : py_T} (h : pt_gd I T) (hn : pt_it T < pi_n I) (hT : T' ∈ pt_ways I ah T) : pt_gd I T' ∧ pt_rk I T < pt_rk I T' ∧ py_ext (pt_v T) (pt_v T') ∧
    ∃ m, pt_ln T' = pt_ln T + m ∧ (∀ L, py_ext (pt_v T') L → ps_step I L T = some (pe_tk ah (pt_ln T) m, T')) := by
  unfold pt_ways at hT
  by_cases h7 : pi_k I (pt_it T) = 7 ∨ pi_k I (pt_it T) = 8
  · rw [if_pos h7] at hT
    obtain rfl := List.mem_singleton.mp hT
    obtain ⟨g1, g2⟩ := h.1.ent hI hn h7
    obtain ⟨e1, e2, e3, e4, e5⟩ := pt_ent_same I T
    refine ⟨⟨g1, h.2.ent⟩, g2, by rw [e1]; exact py_ext_r, 0, e3, fun L _ => ?_⟩
    unfold ps_step
    rw [if_pos h7]
    rfl
  · rw [if_neg h7] at hT
    obtain ⟨⟨v, m⟩, hm, hh⟩ := List.mem_filterMap.mp hT
    dsimp only at hh
    split at hh
    · rename_i hl
      obtain rfl := Option.some.inj hh
      obtain ⟨s1, s2, s3, s4⟩ := pe_sound hI hR hn hm
      have hl2 : pt_ln T + (pe_tk ah (pt_ln T) m).length ≤ 60 := by rw [pe_tk_len]; exact hl
      obtain ⟨g1, g2, g3⟩ := h.1.aft hI hn ⟨fun z => h7 (Or.inl z), fun z => h7 (Or.inr z)⟩ (v := v) (fun _ => s4) (pe_tk ah (pt_ln T) m)
      obtain ⟨a1, a2⟩ := pt_aft_v I T v (pe_tk ah (pt_ln T) m)
      refine ⟨⟨g1, h.2.aft v _ hl2⟩, g2, g3, m, by rw [a2, pe_tk_len], fun L hL => ?_⟩
      unfold ps_step
      rw [if_neg h7]
      by_cases hs : pi_hs (pi_k I (pt_it T))
      · have hv : L (pi_a I (pt_it T) * 3 + pt_rd T) = v := by
          have h9 := hL (pi_a I (pt_it T) * 3 + pt_rd T)
          rw [a1, if_pos hs, py_u_s] at h9
          refine h9 ?_
          obtain ⟨w, hw, rfl⟩ := s4
          intro z
          have z2 := congrArg Int32.toInt z
          rw [py_ti (by omega)] at z2
          have z3 : (-2147483648 : Int32).toInt = -2147483648 := rfl
          omega
        rw [hv, s1]
        dsimp only
        rw [if_pos hl2]
      · have he : pe_enc I T (L (pi_a I (pt_it T) * 3 + pt_rd T)) = pe_enc I T v := by
          have k0 : pi_k I (pt_it T) ≠ 0 := fun z => hs (Or.inl (by omega))
          have k1 : pi_k I (pt_it T) ≠ 1 := fun z => hs (Or.inl (by omega))
          have k2 : pi_k I (pt_it T) ≠ 2 := fun z => hs (Or.inl (by omega))
          have k3 : pi_k I (pt_it T) ≠ 3 := fun z => hs (Or.inl (by omega))
          have k6 : pi_k I (pt_it T) ≠ 6 := fun z => hs (Or.inr z)
          unfold pe_enc
          rw [if_neg k0, if_neg k1, if_neg k2, if_neg k3, if_neg k6, if_neg k0, if_neg k1, if_neg k2, if_neg k3, if_neg k6]
        have ha : pt_aft I T (L (pi_a I (pt_it T) * 3 + pt_rd T)) (pe_tk ah (pt_ln T) m) = pt_aft I T v (pe_tk ah (pt_ln T) m) := by
          unfold pt_aft
          rw [if_neg hs, if_neg hs]
        rw [he, s1]
        dsimp only
        rw [if_pos hl2, ha]
    · cases hh
/-- no way has a value in a cell that is not there -/
theorem pt_ways_ca {I : py_I} (hI : pi_ok I) {ah : Nat → Int32} {T T' : py_T} (hp : pt_pos I T) (hn : pt_it T < pi_n I) (h : ∀ c, 24 ≤ c → pt_v T c = -2147483648) (hT : T' ∈ pt_ways I ah T) : ∀ c, 24 ≤ c → pt_v T' c = -2147483648 := by
  intro c hc
  unfold pt_ways at hT
  by_cases h7 : pi_k I (pt_it T) = 7 ∨ pi_k I (pt_it T) = 8
  · rw [if_pos h7] at hT
    rw [List.mem_singleton.mp hT, (pt_ent_same I T).1]
    exact h c hc
  · rw [if_neg h7] at hT
    obtain ⟨x, hx, hh⟩ := List.mem_filterMap.mp hT
    split at hh
    · obtain rfl := Option.some.inj hh
      rw [(pt_aft_v I T _ _).1]
      by_cases hs : pi_hs (pi_k I (pt_it T))
      · have ha := (hI.2.1 _ hn).2 (fun z => by rcases hs with hs | hs <;> omega) (fun z => by rcases hs with hs | hs <;> omega)
        have hr := hp.rd.1
        rw [if_pos hs, py_u_n _ _ (by omega)]
        exact h c hc
      · rw [if_neg hs]
        exact h c hc
    · cases hh
/-- what is read up to here is printed so by each record that has its values -/
def pt_rq (I : py_I) (ah : Nat → Int32) (T : py_T) : Prop := (∀ c, 24 ≤ c → pt_v T c = -2147483648) ∧ ∃ d, d ≤ pt_rk I T ∧ ∀ L, py_ext (pt_v T) L → ∀ f y, ps_run I L f T = some y → ps_run I L (f + d) pt_0 = some (pe_tk ah 0 (pt_ln T) ++ y.1, y.2)
theorem pt_rq_0 (I : py_I) (ah : Nat → Int32) : pt_rq I ah pt_0 := ⟨fun _ _ => rfl, 0, Nat.zero_le _, fun L _ f y h => h⟩
theorem pt_rq.way {I : py_I} (hI : pi_ok I) (hR : pi_rg I) {ah : Nat → Int32} {T T' : py_T} (hq : pt_rq I ah T) (h : pt_gd I T) (hn : pt_it T < pi_n I) (hT : T' ∈ pt_ways I ah T) : pt_rq I ah T' := by
  obtain ⟨g1, g2, g3, m, g4, g5⟩ := h.way hI hR hn hT
  obtain ⟨hca, d, hd, hq⟩ := hq
  refine ⟨pt_ways_ca hI h.1.1 hn hca hT, d + 1, by omega, fun L hL f y hy => ?_⟩
  have h1 : ps_run I L (f + 1) T = some (pe_tk ah (pt_ln T) m ++ y.1, y.2) := by
    unfold ps_run
    rw [if_neg (by omega), g5 L hL]
    dsimp only
    rw [hy]
  have h2 := hq L (g3.trans hL) (f + 1) _ h1
  rw [show f + (d + 1) = f + 1 + d from by omega, h2, g4, pe_tk_add, Nat.zero_add, List.append_assoc]
/-- a whole reading is printed as it was read -/
theorem pt_rq.print {I : py_I} (hI : pi_ok I) {ah : Nat → Int32} {T : py_T} (h : pt_rq I ah T) (hg : pt_gd I T) (ho : pi_n I ≤ pt_it T) : ps_run I (pt_v T) 200 pt_0 = some (pe_tk ah 0 (pt_ln T), T) := by
  obtain ⟨hca, d, hd, hq⟩ := h
  have h6 := hI.1.2.1
  have hr := pi_rk_le hI hg.1.1.1 hg.1.1.rd.1
  have hd : d ≤ pi_rk I (pt_it T) (pt_rd T) := hd
  have := hq (pt_v T) py_ext_r 0 ([], T) (ps_run_over ho 0)
  rw [List.append_nil] at this
  exact ps_run_mono _ _ _ _ (by omega) this
