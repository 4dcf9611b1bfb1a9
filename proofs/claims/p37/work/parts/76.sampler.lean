/-! Samples in the abstract. -/
def sq_ch (I : py_I) (k : Nat) : Nat := if pi_n I ≤ k then 0 else if pi_k I k = 0 then 10 else if pi_k I k = 1 then (if 2 ≤ pi_b I k then 28 else 27) else if pi_k I k = 2 then 28 else if pi_k I k = 3 then (if pi_b I k = 1 then 2 else if pi_b I k = 2 then 4 else 8) else if pi_k I k = 6 then 4 else 0
theorem sq_ch_le (I : py_I) (k : Nat) : sq_ch I k ≤ 28 := by
  unfold sq_ch
  split
  · omega
  split
  · omega
  split
  · split <;> omega
  split
  · omega
  split
  · split
    · omega
    · split <;> omega
  split <;> omega
theorem sq_ch_pos {I : py_I} {k : Nat} (hn : k < pi_n I) (hs : pi_hs (pi_k I k)) : 2 ≤ sq_ch I k := by
  unfold sq_ch
  rw [if_neg (show ¬ pi_n I ≤ k by omega)]
  split
  · omega
  split
  · split <;> omega
  split
  · omega
  split
  · split
    · omega
    · split <;> omega
  split
  · omega
  · rcases hs with hs | hs <;> omega
def sq_sd (x : Int32) : Int32 := ((((1103515245 * x.toInt64) + 12345) &&& 2147483647) : Int64).toInt32
theorem sq_sd_nn (x : Int32) : ∃ w, w < 2147483648 ∧ sq_sd x = Int32.ofNat w := by
  unfold sq_sd
  generalize ((1103515245 * x.toInt64) + 12345) = z
  refine ⟨z.toBitVec.toNat % 2147483648, Nat.mod_lt _ (by omega), ?_⟩
  apply Int32.toBitVec.inj
  apply BitVec.eq_of_toNat_eq
  have h1 : (z &&& 2147483647).toInt32.toBitVec.toNat = (z.toBitVec.toNat &&& 2147483647) % 4294967296 := by
    show ((z.toBitVec &&& (2147483647 : Int64).toBitVec).signExtend 32).toNat = _
    rw [BitVec.signExtend_eq_setWidth_of_le _ (by omega), BitVec.toNat_setWidth, BitVec.toNat_and]
    rfl
  rw [h1]
  show _ = (z.toBitVec.toNat % 2147483648) % 4294967296
  rw [show (2147483647 : Nat) = 2 ^ 31 - 1 from rfl, Nat.and_two_pow_sub_one_eq_mod]
def sq_walk (I : py_I) : Nat → py_T → py_T
  | 0, T => T
  | f + 1, T => if pi_n I ≤ pt_it T then T else if pi_hs (pi_k I (pt_it T)) then T else if pi_k I (pt_it T) = 7 ∨ pi_k I (pt_it T) = 8 then sq_walk I f (pt_ent I T) else sq_walk I f (pt_fin I T)
def sq_come (I : py_I) (T : py_T) (sd : Int32) : (py_T × Nat × Nat) × Int32 :=
  if pi_n I ≤ pt_it (sq_walk I 200 T) then ((sq_walk I 200 T, 0, 0), sd) else ((sq_walk I 200 T, (sq_sd sd).toNatClampNeg / 65536 % sq_ch I (pt_it (sq_walk I 200 T)), 0), sq_sd sd)
def sq_run (I : py_I) (fb : (Nat → Int32) → Int32) : Nat → List (py_T × Nat × Nat) → Int32 → Nat → Option (Nat → Int32)
  | 0, _, _, _ => none
  | _ + 1, [], _, _ => none
  | f + 1, x :: r, sd, tr =>
    if pi_n I ≤ pt_it x.1 then (if (ps_run I (pt_v x.1) 200 pt_0).isSome then some (pt_v x.1) else sq_run I fb f r sd tr)
    else if sq_ch I (pt_it x.1) ≤ x.2.2 then sq_run I fb f r sd tr
    else if 500 < tr + 1 then none
    else if fb (pt_v (pt_keep x.1 (pi_a I (pt_it x.1)) (Int32.ofNat ((x.2.1 + x.2.2) % sq_ch I (pt_it x.1))))) = 0 then
      sq_run I fb f ((sq_come I (pt_fin I (pt_keep x.1 (pi_a I (pt_it x.1)) (Int32.ofNat ((x.2.1 + x.2.2) % sq_ch I (pt_it x.1))))) sd).1 :: (x.1, x.2.1, x.2.2 + 1) :: r) (sq_come I (pt_fin I (pt_keep x.1 (pi_a I (pt_it x.1)) (Int32.ofNat ((x.2.1 + x.2.2) % sq_ch I (pt_it x.1))))) sd).2 (tr + 1)
    else sq_run I fb f ((x.1, x.2.1, x.2.2 + 1) :: r) sd (tr + 1)
/-- printing a record that has these values comes by here -/
def sq_Q (I : py_I) (T : py_T) : Prop := ∀ L, py_ext (pt_v T) L → ∀ f y, ps_run I L f pt_0 = some y → ∃ f' us' T', pt_v T' = pt_v T ∧ (pt_it T' = pt_it T ∧ pt_lp T' = pt_lp T ∧ pt_tm T' = pt_tm T ∧ pt_rd T' = pt_rd T) ∧ ps_run I L f' T' = some (us', y.2)
theorem sq_Q_0 (I : py_I) : sq_Q I pt_0 := fun L _ f y h => ⟨f, y.1, pt_0, rfl, ⟨rfl, rfl, rfl, rfl⟩, h⟩
/-- the step that printing does from a place that is not the end -/
theorem ps_run_step {I : py_I} {L : Nat → Int32} {f : Nat} {T : py_T} {y : List Int32 × py_T} (h : ps_run I L f T = some y) (hn : ¬ pi_n I ≤ pt_it T) : ∃ f' x us, ps_step I L T = some x ∧ ps_run I L f' x.2 = some (us, y.2) := by
  cases f with
  | zero =>
    unfold ps_run at h
    rw [if_neg hn] at h
    cases h
  | succ f =>
    unfold ps_run at h
    rw [if_neg hn] at h
    cases hs : ps_step I L T with
    | none => rw [hs] at h; cases h
    | some x =>
      rw [hs] at h
      dsimp only at h
      cases hr : ps_run I L f x.2 with
      | none => rw [hr] at h; cases h
      | some z =>
        rw [hr] at h
        obtain rfl := Option.some.inj h
        exact ⟨f, x, z.1, rfl, hr⟩
theorem sq_Q.ent {I : py_I} {T : py_T} (h : sq_Q I T) (hn : ¬ pi_n I ≤ pt_it T) (h7 : pi_k I (pt_it T) = 7 ∨ pi_k I (pt_it T) = 8) : sq_Q I (pt_ent I T) := by
  intro L hL f y hy
  rw [(pt_ent_same I T).1] at hL
  obtain ⟨f', us, T', g1, ⟨g2, g3, g4, g5⟩, g6⟩ := h L hL f y hy
  obtain ⟨f2, x, us2, s1, s2⟩ := ps_run_step g6 (by rw [g2]; exact hn)
  unfold ps_step at s1
  rw [g2, if_pos h7] at s1
  obtain rfl := Option.some.inj s1
  exact ⟨f2, us2, _, (pt_ent_same I T').1.trans (g1.trans (pt_ent_same I T).1.symm), pt_ent_pj g1 g2 g3 g4 g5, s2⟩
theorem sq_Q.item {I : py_I} {T T1 : py_T} (h : sq_Q I T) (hn : ¬ pi_n I ≤ pt_it T) (h7 : ¬ (pi_k I (pt_it T) = 7 ∨ pi_k I (pt_it T) = 8)) (he : py_ext (pt_v T) (pt_v T1)) (v : Int32) (hne : v ≠ -2147483648) (hv : pt_v T1 = if pi_hs (pi_k I (pt_it T)) then upd (pt_v T) (pi_a I (pt_it T) * 3 + pt_rd T) v else pt_v T)
    (hpj : pt_it T1 = pt_it (pt_fin I T) ∧ pt_lp T1 = pt_lp (pt_fin I T) ∧ pt_tm T1 = pt_tm (pt_fin I T) ∧ pt_rd T1 = pt_rd (pt_fin I T)) : sq_Q I T1 := by
  intro L hL f y hy
  obtain ⟨f', us, T', g1, ⟨g2, g3, g4, g5⟩, g6⟩ := h L (he.trans hL) f y hy
  obtain ⟨f2, x, us2, s1, s2⟩ := ps_run_step g6 (by rw [g2]; exact hn)
  unfold ps_step at s1
  rw [g2, if_neg h7] at s1
  cases hen : pe_enc I T' (L (pi_a I (pt_it T) * 3 + pt_rd T')) with
  | none => rw [hen] at s1; cases s1
  | some ws =>
    rw [hen] at s1
    dsimp only at s1
    split at s1
    · obtain rfl := Option.some.inj s1
      obtain ⟨q1, q2, q3, q4⟩ := pt_aft_pj I T' (L (pi_a I (pt_it T) * 3 + pt_rd T')) ws
      obtain ⟨p1, p2, p3, p4⟩ := pt_fin_pj (I := I) g2 g3 g4 g5
      refine ⟨f2, us2, _, ?_, ⟨q1.trans (p1.trans hpj.1.symm), q2.trans (p2.trans hpj.2.1.symm), q3.trans (p3.trans hpj.2.2.1.symm), q4.trans (p4.trans hpj.2.2.2.symm)⟩, s2⟩
      rw [(pt_aft_v I T' _ ws).1, hv, g2, g1, g5]
      by_cases hs : pi_hs (pi_k I (pt_it T))
      · rw [if_pos hs] at hv ⊢
        rw [if_pos hs]
        have hc := hL (pi_a I (pt_it T) * 3 + pt_rd T)
        rw [hv, py_u_s] at hc
        rw [hc hne]
      · rw [if_neg hs, if_neg hs]
    · cases s1
/-- values of no cell that is not there -/
def pt_ca (V : Nat → Int32) : Prop := ∀ c, 24 ≤ c → V c = -2147483648
theorem pt_ca.upd {V : Nat → Int32} (h : pt_ca V) {c : Nat} (hc : c < 24) (x : Int32) : pt_ca (upd V c x) := fun k hk => by
  rw [py_u_n _ _ (by omega)]
  exact h k hk
def nz_r (V : Nat → Int32) : Nat → Nat
  | 0 => 0
  | k + 1 => nz_r V k + if V k = -2147483648 then 0 else 1
theorem nz_le (V : Nat → Int32) : ∀ k, nz_r V k ≤ k := by
  intro k
  induction k with
  | zero => exact Nat.le_refl _
  | succ k ih =>
    unfold nz_r
    split <;> omega
theorem nz_out {V : Nat → Int32} {c : Nat} {x : Int32} : ∀ k, k ≤ c → nz_r (upd V c x) k = nz_r V k := by
  intro k
  induction k with
  | zero => intro _; rfl
  | succ k ih =>
    intro h
    unfold nz_r
    rw [ih (by omega), py_u_n _ _ (by omega)]
theorem nz_upd {V : Nat → Int32} {c : Nat} {x : Int32} (hc : V c = -2147483648) (hx : x ≠ -2147483648) : ∀ k, c < k → nz_r (upd V c x) k = nz_r V k + 1 := by
  intro k
  induction k with
  | zero => intro h; omega
  | succ k ih =>
    intro h
    unfold nz_r
    by_cases e : k = c
    · subst e
      rw [nz_out k (Nat.le_refl _), py_u_s, if_neg hx, if_pos hc]
    · rw [ih (by omega), py_u_n _ _ e]
      omega
/-- what is known of a level -/
def sq_g (I : py_I) (fb : (Nat → Int32) → Int32) (T : py_T) : Prop := pt_gw I T ∧ sq_Q I T ∧ pe_sm I (pt_v T) ∧ fb (pt_v T) = 0 ∧ pt_ca (pt_v T)
theorem sq_g_0 {I : py_I} (hI : pi_ok I) {fb : (Nat → Int32) → Int32} (h0 : fb (fun _ => -2147483648) = 0) : sq_g I fb pt_0 := ⟨pt_0_gw hI, sq_Q_0 I, fun _ _ _ _ _ => Or.inl rfl, h0, fun _ _ => rfl⟩
theorem sq_walk_g {I : py_I} (hI : pi_ok I) {fb : (Nat → Int32) → Int32} : ∀ (f : Nat) (T : py_T), sq_g I fb T → 13 * pi_n I ≤ f + pt_rk I T → sq_g I fb (sq_walk I f T) ∧ pt_v (sq_walk I f T) = pt_v T ∧ (pi_n I ≤ pt_it (sq_walk I f T) ∨ pi_hs (pi_k I (pt_it (sq_walk I f T)))) := by
  intro f
  induction f with
  | zero =>
    intro T h hf
    have hn : pi_n I ≤ pt_it T := by
      by_cases e : pi_n I ≤ pt_it T
      · exact e
      · have h8 := pi_rk_lt hI (k := pt_it T) (r := pt_rd T) (by omega) h.1.1.rd.1
        have h9 : 13 * pi_n I ≤ 0 + pi_rk I (pt_it T) (pt_rd T) := hf
        omega
    exact ⟨h, rfl, Or.inl hn⟩
  | succ f ih =>
    intro T h hf
    unfold sq_walk
    by_cases hn : pi_n I ≤ pt_it T
    · rw [if_pos hn]
      exact ⟨h, rfl, Or.inl hn⟩
    rw [if_neg hn]
    by_cases hs : pi_hs (pi_k I (pt_it T))
    · rw [if_pos hs]
      exact ⟨h, rfl, Or.inr hs⟩
    rw [if_neg hs]
    obtain ⟨g1, g2, g3, g4, g5⟩ := h
    by_cases h7 : pi_k I (pt_it T) = 7 ∨ pi_k I (pt_it T) = 8
    · rw [if_pos h7]
      obtain ⟨e1, e2⟩ := g1.ent hI (by omega) h7
      have hv := (pt_ent_same I T).1
      obtain ⟨i1, i2, i3⟩ := ih (pt_ent I T) ⟨e1, g2.ent hn h7, by rw [hv]; exact g3, by rw [hv]; exact g4, by rw [hv]; exact g5⟩ (by omega)
      exact ⟨i1, i2.trans hv, i3⟩
    · rw [if_neg h7]
      have hv := (pt_fin_same I T).1
      obtain ⟨e1, e2, e3⟩ := g1.step hI (T' := pt_fin I T) (by omega) ⟨fun z => h7 (Or.inl z), fun z => h7 (Or.inr z)⟩ (v := 0) (fun z => absurd z hs) (by rw [if_neg hs]; exact hv) rfl rfl rfl rfl
      obtain ⟨i1, i2, i3⟩ := ih (pt_fin I T) ⟨e1, g2.item hn h7 e3 0 (by decide) (by rw [if_neg hs]; exact hv) ⟨rfl, rfl, rfl, rfl⟩, by rw [hv]; exact g3, by rw [hv]; exact g4, by rw [hv]; exact g5⟩ (by omega)
      exact ⟨i1, i2.trans hv, i3⟩
/-- a value more -/
theorem sq_g.keep {I : py_I} (hI : pi_ok I) {fb : (Nat → Int32) → Int32} {T : py_T} (h : sq_g I fb T) (hn : ¬ pi_n I ≤ pt_it T) (hs : pi_hs (pi_k I (pt_it T))) (ha : pi_a I (pt_it T) < 8) {w : Nat} (hw : w < sq_ch I (pt_it T)) (hfb : fb (pt_v (pt_keep T (pi_a I (pt_it T)) (Int32.ofNat w))) = 0) : sq_g I fb (pt_fin I (pt_keep T (pi_a I (pt_it T)) (Int32.ofNat w))) ∧ nz_r (pt_v (pt_fin I (pt_keep T (pi_a I (pt_it T)) (Int32.ofNat w)))) 24 = nz_r (pt_v T) 24 + 1 := by
  obtain ⟨g1, g2, g3, g4, g5⟩ := h
  have h28 := sq_ch_le I (pt_it T)
  have hr := g1.1.rd.1
  have hv : pt_v (pt_fin I (pt_keep T (pi_a I (pt_it T)) (Int32.ofNat w))) = upd (pt_v T) (pi_a I (pt_it T) * 3 + pt_rd T) (Int32.ofNat w) := (pt_fin_same I _).1
  have hne : Int32.ofNat w ≠ -2147483648 := fun z => by
    have z2 := congrArg Int32.toInt z
    rw [py_ti (by omega)] at z2
    have z3 : (-2147483648 : Int32).toInt = -2147483648 := rfl
    omega
  have h7 : ¬ (pi_k I (pt_it T) = 7 ∨ pi_k I (pt_it T) = 8) := fun z => by rcases hs with hs | hs <;> omega
  have hpj := pt_fin_pj (I := I) (T := pt_keep T (pi_a I (pt_it T)) (Int32.ofNat w)) (T' := T) rfl rfl rfl rfl
  obtain ⟨e1, e2, e3⟩ := g1.step hI (T' := pt_fin I (pt_keep T (pi_a I (pt_it T)) (Int32.ofNat w))) (by omega) ⟨fun z => h7 (Or.inl z), fun z => h7 (Or.inr z)⟩ (v := Int32.ofNat w) (fun _ => ⟨w, by omega, rfl⟩) (by rw [if_pos hs]; exact hv) hpj.1 hpj.2.1 hpj.2.2.1 hpj.2.2.2
  refine ⟨⟨e1, g2.item hn h7 e3 (Int32.ofNat w) hne (by rw [if_pos hs]; exact hv) hpj, ?_, ?_, ?_⟩, ?_⟩
  · intro k hk hks r h3
    rw [hv]
    by_cases e : pi_a I k * 3 + r = pi_a I (pt_it T) * 3 + pt_rd T
    · rw [e, py_u_s]
      obtain rfl := hI.2.2.1 k (pt_it T) hk (by omega) hks hs (by omega)
      refine Or.inr ⟨w, by omega, rfl, fun z => ?_, fun z => by omega⟩
      unfold sq_ch at hw
      rw [if_neg hn, if_pos z] at hw
      exact hw
    · rw [py_u_n _ _ e]
      exact g3 k hk hks r h3
  · rw [hv]
    exact hfb
  · rw [hv]
    exact g5.upd (by omega) _
  · rw [hv]
    exact nz_upd (g1.2.1.free g1.1 (by omega) hs) hne 24 (by omega)
/-- what is known of all levels, the last one ahead -/
def sq_gs (I : py_I) (fb : (Nat → Int32) → Int32) : List (py_T × Nat × Nat) → Prop
  | [] => True
  | x :: r => (sq_g I fb x.1 ∧ (¬ pi_n I ≤ pt_it x.1 → pi_hs (pi_k I (pt_it x.1)) ∧ x.2.1 < 29 ∧ x.2.2 ≤ 28) ∧ nz_r (pt_v x.1) 24 = r.length) ∧ sq_gs I fb r
theorem sq_come_g {I : py_I} (hI : pi_ok I) {fb : (Nat → Int32) → Int32} {T : py_T} (h : sq_g I fb T) (sd : Int32) : sq_g I fb (sq_come I T sd).1.1 ∧ pt_v (sq_come I T sd).1.1 = pt_v T ∧ (¬ pi_n I ≤ pt_it (sq_come I T sd).1.1 → pi_hs (pi_k I (pt_it (sq_come I T sd).1.1)) ∧ (sq_come I T sd).1.2.1 < 29 ∧ (sq_come I T sd).1.2.2 ≤ 28) := by
  have h6 := hI.1.2.1
  obtain ⟨w1, w2, w3⟩ := sq_walk_g hI 200 T h (by omega)
  unfold sq_come
  by_cases e : pi_n I ≤ pt_it (sq_walk I 200 T)
  · rw [if_pos e]
    exact ⟨w1, w2, fun z => absurd e z⟩
  · rw [if_neg e]
    have hs : pi_hs (pi_k I (pt_it (sq_walk I 200 T))) := by
      rcases w3 with w3 | w3
      · exact absurd w3 e
      · exact w3
    have hp := sq_ch_pos (show pt_it (sq_walk I 200 T) < pi_n I by omega) hs
    have h28 := sq_ch_le I (pt_it (sq_walk I 200 T))
    have hm := Nat.mod_lt ((sq_sd sd).toNatClampNeg / 65536) (show 0 < sq_ch I (pt_it (sq_walk I 200 T)) by omega)
    exact ⟨w1, w2, fun _ => ⟨hs, by show _ % _ < 29; omega, Nat.zero_le _⟩⟩
/-- what is known of a sample that is found -/
theorem sq_run_g {I : py_I} (hI : pi_ok I) {fb : (Nat → Int32) → Int32} : ∀ (f : Nat) (l : List (py_T × Nat × Nat)) (sd : Int32) (tr : Nat) (V : Nat → Int32), sq_gs I fb l → sq_run I fb f l sd tr = some V → fb V = 0 ∧ pe_sm I V ∧ pt_ca V ∧ (∀ c, V c = -2147483648 ∨ ∃ w, w < 134217728 ∧ V c = Int32.ofNat w) ∧ ∃ y, ps_run I V 200 pt_0 = some y ∧ pt_v y.2 = V := by
  intro f
  induction f with
  | zero => intro l sd tr V _ h; cases h
  | succ f ih =>
    intro l sd tr V hg h
    cases l with
    | nil => cases h
    | cons x r =>
      obtain ⟨⟨g1, g2, g3⟩, g4⟩ := hg
      unfold sq_run at h
      by_cases e : pi_n I ≤ pt_it x.1
      · rw [if_pos e] at h
        cases hp : ps_run I (pt_v x.1) 200 pt_0 with
        | none =>
          rw [hp, if_neg (fun z => by cases z)] at h
          exact ih r sd tr V g4 h
        | some y =>
          rw [hp, if_pos (show (some y).isSome = true from rfl)] at h
          obtain rfl := Option.some.inj h
          obtain ⟨q1, q2, q3, q4, q5⟩ := g1
          refine ⟨q4, q3, q5, q1.2.2, y, hp, ?_⟩
          obtain ⟨f', us, T', t1, ⟨t2, t3, t4, t5⟩, t6⟩ := q2 (pt_v x.1) py_ext_r 200 y hp
          rw [ps_run_over (by rw [t2]; exact e)] at t6
          have := Option.some.inj t6
          rw [← (Prod.mk.inj this).2]
          exact t1
      rw [if_neg e] at h
      by_cases e2 : sq_ch I (pt_it x.1) ≤ x.2.2
      · rw [if_pos e2] at h
        exact ih r sd tr V g4 h
      rw [if_neg e2] at h
      by_cases e3 : 500 < tr + 1
      · rw [if_pos e3] at h
        cases h
      rw [if_neg e3] at h
      obtain ⟨s1, s2, s3⟩ := g2 e
      have h28 := sq_ch_le I (pt_it x.1)
      have ha := (hI.2.1 _ (show pt_it x.1 < pi_n I by omega)).2 (fun z => by rcases s1 with s1 | s1 <;> omega) (fun z => by rcases s1 with s1 | s1 <;> omega)
      have hgs : sq_gs I fb ((x.1, x.2.1, x.2.2 + 1) :: r) := ⟨⟨g1, fun _ => ⟨s1, s2, by show x.2.2 + 1 ≤ 28; omega⟩, g3⟩, g4⟩
      split at h
      · rename_i hfb
        obtain ⟨k1, k2⟩ := g1.keep hI e s1 ha (Nat.mod_lt _ (by omega)) hfb
        obtain ⟨c1, c2, c3⟩ := sq_come_g hI k1 sd
        exact ih _ _ _ V (show sq_gs I fb (_ :: (x.1, x.2.1, x.2.2 + 1) :: r) from ⟨⟨c1, c3, by rw [c2, k2, g3]; rfl⟩, hgs⟩) h
      · exact ih _ _ _ V hgs h
