theorem dL_tells_0 : decode cL_tells 0 = .ok (.iconst 0, 1) := by decide +kernel
theorem dL_tells_1 : decode cL_tells 1 = .ok (.istore_n 3, 1) := by decide +kernel
theorem dL_tells_2 : decode cL_tells 2 = .ok (.iload_n 3, 1) := by decide +kernel
theorem dL_tells_3 : decode cL_tells 3 = .ok (.bipush 8, 2) := by decide +kernel
theorem dL_tells_5 : decode cL_tells 5 = .ok (.if_icmp .ge 18, 3) := by decide +kernel
theorem dL_tells_8 : decode cL_tells 8 = .ok (.aload_n 2, 1) := by decide +kernel
theorem dL_tells_9 : decode cL_tells 9 = .ok (.iload_n 3, 1) := by decide +kernel
theorem dL_tells_10 : decode cL_tells 10 = .ok (.aload_n 0, 1) := by decide +kernel
theorem dL_tells_11 : decode cL_tells 11 = .ok (.iload_n 1, 1) := by decide +kernel
theorem dL_tells_12 : decode cL_tells 12 = .ok (.iload_n 3, 1) := by decide +kernel
theorem dL_tells_13 : decode cL_tells 13 = .ok (.invokevirtual 145, 3) := by decide +kernel
theorem dL_tells_16 : decode cL_tells 16 = .ok (.iastore, 1) := by decide +kernel
theorem dL_tells_17 : decode cL_tells 17 = .ok (.iinc 3 1, 3) := by decide +kernel
theorem dL_tells_20 : decode cL_tells 20 = .ok (.goto (-18), 3) := by decide +kernel
theorem dL_tells_23 : decode cL_tells 23 = .ok (.return_, 1) := by decide +kernel
def is_L_tells (Rt : np_Rt) : List (Nat × np_Op) := [(0, np_push 1 (.int 0)), (1, nw_ist 1 3), (2, np_ild 1 3), (3, np_push 2 (.int 8)), (5, nq_ic (fun x y => y ≤ x) 23), (8, np_ald 1 2), (9, np_ild 1 3), (10, np_ald 1 0), (11, np_ild 1 1), (12, np_ild 1 3), (13, nw_callVX 11 3 sp_X11_upgraded 4 1 6 9 54 []), (16, nw_iastT .int), (17, nw_iinc 3 1), (20, np_goto 2), (23, np_ret Rt)]
set_option maxRecDepth 20000 in
theorem so_L_tells {X : np_Ctx} {Rt : np_Rt} (hX : np_ok RL cL_tells 4 7 132 9 54 .return_ X) (hR : ∀ st w ce sl, Rt st w ce sl → X.2.2.1 st w ce sl) : ∀ q ∈ is_L_tells Rt, np_S X q.1 q.2 :=
  List.forall_mem_cons.mpr ⟨np_s_iconst hX dL_tells_0 (by decide), List.forall_mem_cons.mpr ⟨np_S.mono (op := np_ist 1 3) (np_s_istore_n hX dL_tells_1 rfl (by decide)) nw_ist_le, List.forall_mem_cons.mpr ⟨np_s_iload_n hX dL_tells_2 rfl, List.forall_mem_cons.mpr ⟨np_s_bipush hX dL_tells_3 (by decide), List.forall_mem_cons.mpr ⟨np_S.mono (op := np_ic (fun x y => y ≤ x) 23) (np_s_icmp_ge hX dL_tells_5 (by decide)) nq_ic_le, List.forall_mem_cons.mpr ⟨np_s_aload_n hX dL_tells_8 rfl, List.forall_mem_cons.mpr ⟨np_s_iload_n hX dL_tells_9 rfl, List.forall_mem_cons.mpr ⟨np_s_aload_n hX dL_tells_10 rfl, List.forall_mem_cons.mpr ⟨np_s_iload_n hX dL_tells_11 rfl, List.forall_mem_cons.mpr ⟨np_s_iload_n hX dL_tells_12 rfl, List.forall_mem_cons.mpr ⟨np_S.mono (op := np_callVX 11 3 sp_X11_upgraded 4 1 6 9 54 []) (np_s_callVX hX C_X11_upgraded dL_tells_13 (q := (RX11, TX11, 14)) rfl rfl gw1394 gw63 gw1391 gw1392 gw1393 ⟨by decide, by decide, by decide⟩ (by decide) (by decide) (fun _ h => nomatch h)) (nw_callVX_le2 (ci := 11) (n := 3) (sp := sp_X11_upgraded) (maxL := 4) (mc := 1) (ms := 6) (RC := 9) (RS := 54) (hs := [])), List.forall_mem_cons.mpr ⟨np_S.mono (op := np_iastT .int) (np_s_iast hX dL_tells_16) nw_iastT_le, List.forall_mem_cons.mpr ⟨np_S.mono (op := np_iinc 3 1) (np_s_iinc hX dL_tells_17 (by decide)) nw_iinc_le, List.forall_mem_cons.mpr ⟨np_s_goto hX dL_tells_20 (by decide), List.forall_mem_cons.mpr ⟨np_S.mono (op := np_ret X.2.2.1) (np_s_ret hX dL_tells_23) (nq_ret_le hR), fun _ h => nomatch h⟩⟩⟩⟩⟩⟩⟩⟩⟩⟩⟩⟩⟩⟩⟩
noncomputable def m_L_tells_2  : Nat → pw_S → Nat → Int32 → Nat → Nat → Int32 → pw_R Unit
| 0, _, _, _, _, _, _ => none
| N + 1, S, v0, v1, va2, vi2, v3 =>
 if 8 ≤ v3 then
 (some (S, ()))
 else
 (pw_b (m_X11_upgraded S v0 v1 v3) fun S1 r4 =>
 pw_e r4 (fun r6 =>
 (pw_c (np_inb v3 (pw_len va2)) <|
 pw_l (pw_up S1 va2 vi2 (upd (S1 va2 vi2) (v3 : Int32).toNatClampNeg r6)) fun S8 =>
 pw_l (v3 + 1 : Int32) fun z11 =>
 m_L_tells_2 N S8 v0 v1 va2 vi2 z11)) (fun _ => none))
set_option maxRecDepth 100000 in
set_option maxHeartbeats 8000000 in
theorem L_L_tells_2 {X : np_Ctx} (hX : np_ok RL cL_tells 4 7 132 9 54 .return_ X) {Q : Option Value → np_W → Prop} {q : Nat} {n dc ds : Nat} (hR : ∀ st w ce sl, np_rt none 9 54 Q st w ce sl → X.2.2.1 st w ce sl) : ∀ (N : Nat) (S : pw_S) (v0 : Nat) (v1 : Int32) (va2 : Nat) (vi2 : Nat) (v3 : Int32) (f : Nat → Option np_E) (ce sl : Nat) (hv0 : pw_ok q 61 v0 = true) (ha2 : pw_arr va2 = true) (hi2 : pw_ok q va2 vi2 = true), ce + N * 1 + dc ≤ 9 → sl + N * 6 + ds ≤ 54 → pw_W q (n, f) S → pw_p (m_L_tells_2 N S v0 v1 va2 vi2 v3) (fun S' r => ∀ f', pw_W q (n, f') S' → Q none (n, f')) → np_G X 2 [(0, .ref (pw_pl 61 v0)), (1, .int v1), (2, .ref (pw_pl va2 vi2)), (3, .int v3)] [] (n, f) ce sl := by
  intro N
  induction N with
  | zero =>
    intro S v0 v1 va2 vi2 v3 f ce sl hv0 ha2 hi2 hc hs hW h
    exact (pw_pn h).elim
  | succ N ih =>
    intro S v0 v1 va2 vi2 v3 f ce sl hv0 ha2 hi2 hc hs hW h
    unfold m_L_tells_2 at h
    refine np_soundW (so_L_tells hX hR) [2] 400 2 _ _ _ _ _ ?_
    conv => whnf
    refine pw_br h (fun _ h => ?_) (fun _ h => ?_)
    · conv => whnf
      exact ⟨(by omega), (by omega), rfl, _, fun _ _ h9 => h9, pw_ps h _ hW⟩
    · conv => whnf
      refine np_rd_i (hW.g hv0) ?_
      conv => whnf
      refine np_chk_i (pw_and rfl (pw_and rfl (pw_and rfl (pw_and rfl ((pw_and (pw_le (by omega)) (pw_le (by omega)))))))) ?_
      conv => whnf
      refine ⟨q, S, v0, v1, v3, rfl, hv0, hW, pw_bd h (fun S1 r4 h f2 hW3 => ?_)⟩
      rcases r4 with r6 | e7
      · replace h := pw_ei h
        conv => whnf
        refine np_rd_i (hW3.ga ha2 hi2) ?_
        conv => whnf
        refine pw_ck h (fun _ h => ?_)
        conv => whnf
        refine pw_wr (a := va2) (i := vi2) (d := upd (S1 va2 vi2) (v3 : Int32).toNatClampNeg r6) hW3 hi2 (pw_ent_arr ha2).symm h (fun S8 f9 hW10 h => ?_)
        conv => whnf
        refine pw_st h (fun z11 h => ?_)
        conv => whnf
        exact np_gl (ih S8 v0 v1 va2 vi2 z11 f9 _ _ hv0 ha2 hi2 (by omega) (by omega) hW10 h) ⟨rfl, rfl, rfl, rfl, trivial⟩
      · exact (pw_pn h).elim
noncomputable def m_L_tells (S : pw_S) (i0 : Nat) (x1 : Int32) (a2 : Nat) (i2 : Nat) : pw_R Unit :=
 pw_l (0 : Int32) fun z12 =>
 m_L_tells_2 (pw_F 9) S i0 x1 a2 i2 z12
def sp_L_tells : np_Sp := fun vs w Q => ∃ (q : Nat) (S : pw_S) (i0 : Nat) (x1 : Int32) (a2 : Nat) (i2 : Nat), vs = [.ref (pw_pl 61 i0), .int x1, .ref (pw_pl a2 i2)] ∧ pw_ok q 61 i0 = true ∧ pw_arr a2 = true ∧ pw_ok q a2 i2 = true ∧ pw_W q w S ∧ pw_p (m_L_tells S i0 x1 a2 i2) (fun S' r => ∀ f', pw_W q (w.1, f') S' → Q none (w.1, f'))
set_option maxRecDepth 100000 in
set_option maxHeartbeats 8000000 in
theorem C_L_tells : np_C yL_tells cL_tells 4 none 7 132 9 54 (sp_L_tells) := by
  refine np_of (by decide) ?_
  intro X vs w Q hsp hX hmn hRt hlt
  obtain ⟨q, S, i0, x1, a2, i2, rfl, hi0, ha2, hi2, hW, h⟩ := hsp
  obtain ⟨n, f⟩ := w
  unfold m_L_tells at h
  have hR : ∀ st w ce sl, np_rt none 9 54 Q st w ce sl → X.2.2.1 st w ce sl := fun _ _ _ _ h => by rw [hRt]; exact h
  refine np_soundW (so_L_tells hX hR) [2] 400 0 _ _ _ _ _ ?_
  conv => whnf
  refine pw_st h (fun z12 h => ?_)
  conv => whnf
  refine np_gl (L_L_tells_2 (dc := 0) (ds := 0) hX hR (pw_F 9) S i0 x1 a2 i2 z12 f _ _ hi0 ha2 hi2 (by have e9 := pw_F_eq 9; omega) (by have e9 := pw_F_eq 9; omega) hW h) ⟨rfl, rfl, rfl, rfl, trivial⟩
theorem dL_sets_0 : decode cL_sets 0 = .ok (.iconst 0, 1) := by decide +kernel
theorem dL_sets_1 : decode cL_sets 1 = .ok (.istore_n 2, 1) := by decide +kernel
theorem dL_sets_2 : decode cL_sets 2 = .ok (.iload_n 2, 1) := by decide +kernel
theorem dL_sets_3 : decode cL_sets 3 = .ok (.bipush 8, 2) := by decide +kernel
theorem dL_sets_5 : decode cL_sets 5 = .ok (.if_icmp .ge 19, 3) := by decide +kernel
theorem dL_sets_8 : decode cL_sets 8 = .ok (.aload_n 0, 1) := by decide +kernel
theorem dL_sets_9 : decode cL_sets 9 = .ok (.iload_n 2, 1) := by decide +kernel
theorem dL_sets_10 : decode cL_sets 10 = .ok (.iconst 0, 1) := by decide +kernel
theorem dL_sets_11 : decode cL_sets 11 = .ok (.aload_n 1, 1) := by decide +kernel
theorem dL_sets_12 : decode cL_sets 12 = .ok (.iload_n 2, 1) := by decide +kernel
theorem dL_sets_13 : decode cL_sets 13 = .ok (.iaload, 1) := by decide +kernel
theorem dL_sets_14 : decode cL_sets 14 = .ok (.invokevirtual 148, 3) := by decide +kernel
theorem dL_sets_17 : decode cL_sets 17 = .ok (.pop, 1) := by decide +kernel
theorem dL_sets_18 : decode cL_sets 18 = .ok (.iinc 2 1, 3) := by decide +kernel
theorem dL_sets_21 : decode cL_sets 21 = .ok (.goto (-19), 3) := by decide +kernel
theorem dL_sets_24 : decode cL_sets 24 = .ok (.return_, 1) := by decide +kernel
def is_L_sets (Rt : np_Rt) : List (Nat × np_Op) := [(0, np_push 1 (.int 0)), (1, nw_ist 1 2), (2, np_ild 1 2), (3, np_push 2 (.int 8)), (5, nq_ic (fun x y => y ≤ x) 24), (8, np_ald 1 0), (9, np_ild 1 2), (10, np_push 1 (.int 0)), (11, np_ald 1 1), (12, np_ild 1 2), (13, nw_ialdT .int), (14, nw_callVX 11 4 sp_X11_set 5 1 6 9 54 []), (17, nq_pop), (18, nw_iinc 2 1), (21, np_goto 2), (24, np_ret Rt)]
set_option maxRecDepth 20000 in
theorem so_L_sets {X : np_Ctx} {Rt : np_Rt} (hX : np_ok RL cL_sets 3 7 124 9 54 .return_ X) (hR : ∀ st w ce sl, Rt st w ce sl → X.2.2.1 st w ce sl) : ∀ q ∈ is_L_sets Rt, np_S X q.1 q.2 :=
  List.forall_mem_cons.mpr ⟨np_s_iconst hX dL_sets_0 (by decide), List.forall_mem_cons.mpr ⟨np_S.mono (op := np_ist 1 2) (np_s_istore_n hX dL_sets_1 rfl (by decide)) nw_ist_le, List.forall_mem_cons.mpr ⟨np_s_iload_n hX dL_sets_2 rfl, List.forall_mem_cons.mpr ⟨np_s_bipush hX dL_sets_3 (by decide), List.forall_mem_cons.mpr ⟨np_S.mono (op := np_ic (fun x y => y ≤ x) 24) (np_s_icmp_ge hX dL_sets_5 (by decide)) nq_ic_le, List.forall_mem_cons.mpr ⟨np_s_aload_n hX dL_sets_8 rfl, List.forall_mem_cons.mpr ⟨np_s_iload_n hX dL_sets_9 rfl, List.forall_mem_cons.mpr ⟨np_s_iconst hX dL_sets_10 (by decide), List.forall_mem_cons.mpr ⟨np_s_aload_n hX dL_sets_11 rfl, List.forall_mem_cons.mpr ⟨np_s_iload_n hX dL_sets_12 rfl, List.forall_mem_cons.mpr ⟨np_S.mono (op := np_ialdT .int) (np_s_iald hX dL_sets_13) nw_ialdT_le, List.forall_mem_cons.mpr ⟨np_S.mono (op := np_callVX 11 4 sp_X11_set 5 1 6 9 54 []) (np_s_callVX hX C_X11_set dL_sets_14 (q := (RX11, TX11, 14)) rfl rfl gw1346 gw63 gw1343 gw1344 gw1345 ⟨by decide, by decide, by decide⟩ (by decide) (by decide) (fun _ h => nomatch h)) (nw_callVX_le2 (ci := 11) (n := 4) (sp := sp_X11_set) (maxL := 5) (mc := 1) (ms := 6) (RC := 9) (RS := 54) (hs := [])), List.forall_mem_cons.mpr ⟨np_S.mono (op := np_pop) (np_s_pop hX dL_sets_17) nq_pop_le, List.forall_mem_cons.mpr ⟨np_S.mono (op := np_iinc 2 1) (np_s_iinc hX dL_sets_18 (by decide)) nw_iinc_le, List.forall_mem_cons.mpr ⟨np_s_goto hX dL_sets_21 (by decide), List.forall_mem_cons.mpr ⟨np_S.mono (op := np_ret X.2.2.1) (np_s_ret hX dL_sets_24) (nq_ret_le hR), fun _ h => nomatch h⟩⟩⟩⟩⟩⟩⟩⟩⟩⟩⟩⟩⟩⟩⟩⟩
noncomputable def m_L_sets_2  : Nat → pw_S → Nat → Nat → Nat → Int32 → pw_R Unit
| 0, _, _, _, _, _ => none
| N + 1, S, v0, va1, vi1, v2 =>
 if 8 ≤ v2 then
 (some (S, ()))
 else
 (pw_c (np_inb v2 (pw_len va1)) <|
 pw_b (m_X11_set S v0 v2 0 (S va1 vi1 (v2 : Int32).toNatClampNeg)) fun S1 r4 =>
 pw_e r4 (fun r6 =>
 (pw_l (v2 + 1 : Int32) fun z8 =>
 m_L_sets_2 N S1 v0 va1 vi1 z8)) (fun _ => none))
set_option maxRecDepth 100000 in
set_option maxHeartbeats 8000000 in
theorem L_L_sets_2 {X : np_Ctx} (hX : np_ok RL cL_sets 3 7 124 9 54 .return_ X) {Q : Option Value → np_W → Prop} {q : Nat} {n dc ds : Nat} (hR : ∀ st w ce sl, np_rt none 9 54 Q st w ce sl → X.2.2.1 st w ce sl) : ∀ (N : Nat) (S : pw_S) (v0 : Nat) (va1 : Nat) (vi1 : Nat) (v2 : Int32) (f : Nat → Option np_E) (ce sl : Nat) (hv0 : pw_ok q 61 v0 = true) (ha1 : pw_arr va1 = true) (hi1 : pw_ok q va1 vi1 = true), ce + N * 1 + dc ≤ 9 → sl + N * 6 + ds ≤ 54 → pw_W q (n, f) S → pw_p (m_L_sets_2 N S v0 va1 vi1 v2) (fun S' r => ∀ f', pw_W q (n, f') S' → Q none (n, f')) → np_G X 2 [(0, .ref (pw_pl 61 v0)), (1, .ref (pw_pl va1 vi1)), (2, .int v2)] [] (n, f) ce sl := by
  intro N
  induction N with
  | zero =>
    intro S v0 va1 vi1 v2 f ce sl hv0 ha1 hi1 hc hs hW h
    exact (pw_pn h).elim
  | succ N ih =>
    intro S v0 va1 vi1 v2 f ce sl hv0 ha1 hi1 hc hs hW h
    unfold m_L_sets_2 at h
    refine np_soundW (so_L_sets hX hR) [2] 400 2 _ _ _ _ _ ?_
    conv => whnf
    refine pw_br h (fun _ h => ?_) (fun _ h => ?_)
    · conv => whnf
      exact ⟨(by omega), (by omega), rfl, _, fun _ _ h9 => h9, pw_ps h _ hW⟩
    · conv => whnf
      refine np_rd_i (hW.ga ha1 hi1) ?_
      conv => whnf
      refine pw_ck h (fun _ h => ?_)
      conv => whnf
      refine np_rd_i (hW.g hv0) ?_
      conv => whnf
      refine np_chk_i (pw_and rfl (pw_and rfl (pw_and rfl (pw_and rfl ((pw_and (pw_le (by omega)) (pw_le (by omega)))))))) ?_
      conv => whnf
      refine ⟨q, S, v0, v2, 0, (S va1 vi1 (v2 : Int32).toNatClampNeg), rfl, hv0, hW, pw_bd h (fun S1 r4 h f2 hW3 => ?_)⟩
      rcases r4 with r6 | e7
      · replace h := pw_ei h
        conv => whnf
        refine pw_st h (fun z8 h => ?_)
        conv => whnf
        exact np_gl (ih S1 v0 va1 vi1 z8 f2 _ _ hv0 ha1 hi1 (by omega) (by omega) hW3 h) ⟨rfl, rfl, rfl, trivial⟩
      · exact (pw_pn h).elim
noncomputable def m_L_sets (S : pw_S) (i0 : Nat) (a1 : Nat) (i1 : Nat) : pw_R Unit :=
 pw_l (0 : Int32) fun z9 =>
 m_L_sets_2 (pw_F 9) S i0 a1 i1 z9
def sp_L_sets : np_Sp := fun vs w Q => ∃ (q : Nat) (S : pw_S) (i0 : Nat) (a1 : Nat) (i1 : Nat), vs = [.ref (pw_pl 61 i0), .ref (pw_pl a1 i1)] ∧ pw_ok q 61 i0 = true ∧ pw_arr a1 = true ∧ pw_ok q a1 i1 = true ∧ pw_W q w S ∧ pw_p (m_L_sets S i0 a1 i1) (fun S' r => ∀ f', pw_W q (w.1, f') S' → Q none (w.1, f'))
set_option maxRecDepth 100000 in
set_option maxHeartbeats 8000000 in
theorem C_L_sets : np_C yL_sets cL_sets 3 none 7 124 9 54 (sp_L_sets) := by
  refine np_of (by decide) ?_
  intro X vs w Q hsp hX hmn hRt hlt
  obtain ⟨q, S, i0, a1, i1, rfl, hi0, ha1, hi1, hW, h⟩ := hsp
  obtain ⟨n, f⟩ := w
  unfold m_L_sets at h
  have hR : ∀ st w ce sl, np_rt none 9 54 Q st w ce sl → X.2.2.1 st w ce sl := fun _ _ _ _ h => by rw [hRt]; exact h
  refine np_soundW (so_L_sets hX hR) [2] 400 0 _ _ _ _ _ ?_
  conv => whnf
  refine pw_st h (fun z9 h => ?_)
  conv => whnf
  refine np_gl (L_L_sets_2 (dc := 0) (ds := 0) hX hR (pw_F 9) S i0 a1 i1 z9 f _ _ hi0 ha1 hi1 (by have e9 := pw_F_eq 9; omega) (by have e9 := pw_F_eq 9; omega) hW h) ⟨rfl, rfl, rfl, trivial⟩
theorem pw_okS {q a i : Nat} (h : pw_ok q a i = true) : pw_ok (q + 1) a i = true := by
  refine Nat.ble_eq_true_of_le ?_
  refine Nat.lt_of_lt_of_le (pw_blt h) ?_
  unfold pw_cnt
  generalize Nat.blt a 62 = b1
  generalize Nat.beq a 100 = b2
  generalize Nat.beq a 101 = b3
  cases b1 <;> cases b2 <;> cases b3 <;> first | exact Nat.le_refl _ | (show min q 1 ≤ min (q + 1) 1; omega) | (show min (q - 1) 1 ≤ min (q + 1 - 1) 1; omega)
theorem dL_upgrades_0 : decode cL_upgrades 0 = .ok (.aload 4, 2) := by decide +kernel
theorem dL_upgrades_2 : decode cL_upgrades 2 = .ok (.iconst 2, 1) := by decide +kernel
theorem dL_upgrades_3 : decode cL_upgrades 3 = .ok (.iaload, 1) := by decide +kernel
theorem dL_upgrades_4 : decode cL_upgrades 4 = .ok (.iconst 4, 1) := by decide +kernel
theorem dL_upgrades_5 : decode cL_upgrades 5 = .ok (.if_icmp .le 5, 3) := by decide +kernel
theorem dL_upgrades_8 : decode cL_upgrades 8 = .ok (.iconst 1, 1) := by decide +kernel
theorem dL_upgrades_9 : decode cL_upgrades 9 = .ok (.ireturn, 1) := by decide +kernel
theorem dL_upgrades_10 : decode cL_upgrades 10 = .ok (.iconst 0, 1) := by decide +kernel
theorem dL_upgrades_11 : decode cL_upgrades 11 = .ok (.istore 5, 2) := by decide +kernel
theorem dL_upgrades_13 : decode cL_upgrades 13 = .ok (.iconst 0, 1) := by decide +kernel
theorem dL_upgrades_14 : decode cL_upgrades 14 = .ok (.istore 6, 2) := by decide +kernel
theorem dL_upgrades_16 : decode cL_upgrades 16 = .ok (.iload_n 1, 1) := by decide +kernel
theorem dL_upgrades_17 : decode cL_upgrades 17 = .ok (.istore 7, 2) := by decide +kernel
theorem dL_upgrades_19 : decode cL_upgrades 19 = .ok (.iconst 0, 1) := by decide +kernel
theorem dL_upgrades_20 : decode cL_upgrades 20 = .ok (.istore 8, 2) := by decide +kernel
theorem dL_upgrades_22 : decode cL_upgrades 22 = .ok (.iload 8, 2) := by decide +kernel
theorem dL_upgrades_24 : decode cL_upgrades 24 = .ok (.iconst 1, 1) := by decide +kernel
theorem dL_upgrades_25 : decode cL_upgrades 25 = .ok (.iload_n 2, 1) := by decide +kernel
theorem dL_upgrades_26 : decode cL_upgrades 26 = .ok (.iconst 5, 1) := by decide +kernel
theorem dL_upgrades_27 : decode cL_upgrades 27 = .ok (.irem, 1) := by decide +kernel
theorem dL_upgrades_28 : decode cL_upgrades 28 = .ok (.iadd, 1) := by decide +kernel
theorem dL_upgrades_29 : decode cL_upgrades 29 = .ok (.if_icmp .ge 182, 3) := by decide +kernel
theorem dL_upgrades_32 : decode cL_upgrades 32 = .ok (.iload 7, 2) := by decide +kernel
theorem dL_upgrades_34 : decode cL_upgrades 34 = .ok (.iconst 5, 1) := by decide +kernel
theorem dL_upgrades_35 : decode cL_upgrades 35 = .ok (.irem, 1) := by decide +kernel
theorem dL_upgrades_36 : decode cL_upgrades 36 = .ok (.istore 9, 2) := by decide +kernel
theorem dL_upgrades_38 : decode cL_upgrades 38 = .ok (.iload 7, 2) := by decide +kernel
theorem dL_upgrades_40 : decode cL_upgrades 40 = .ok (.iconst 5, 1) := by decide +kernel
theorem dL_upgrades_41 : decode cL_upgrades 41 = .ok (.idiv, 1) := by decide +kernel
theorem dL_upgrades_42 : decode cL_upgrades 42 = .ok (.bipush 8, 2) := by decide +kernel
theorem dL_upgrades_44 : decode cL_upgrades 44 = .ok (.irem, 1) := by decide +kernel
theorem dL_upgrades_45 : decode cL_upgrades 45 = .ok (.istore 10, 2) := by decide +kernel
theorem dL_upgrades_47 : decode cL_upgrades 47 = .ok (.iload 9, 2) := by decide +kernel
theorem dL_upgrades_49 : decode cL_upgrades 49 = .ok (.iconst 1, 1) := by decide +kernel
theorem dL_upgrades_50 : decode cL_upgrades 50 = .ok (.if_icmp .ne 17, 3) := by decide +kernel
theorem dL_upgrades_53 : decode cL_upgrades 53 = .ok (.iload 7, 2) := by decide +kernel
theorem dL_upgrades_55 : decode cL_upgrades 55 = .ok (.bipush 40, 2) := by decide +kernel
theorem dL_upgrades_57 : decode cL_upgrades 57 = .ok (.idiv, 1) := by decide +kernel
theorem dL_upgrades_58 : decode cL_upgrades 58 = .ok (.bipush 100, 2) := by decide +kernel
theorem dL_upgrades_60 : decode cL_upgrades 60 = .ok (.irem, 1) := by decide +kernel
theorem dL_upgrades_61 : decode cL_upgrades 61 = .ok (.bipush 50, 2) := by decide +kernel
theorem dL_upgrades_63 : decode cL_upgrades 63 = .ok (.isub, 1) := by decide +kernel
theorem dL_upgrades_64 : decode cL_upgrades 64 = .ok (.goto 11, 3) := by decide +kernel
theorem dL_upgrades_67 : decode cL_upgrades 67 = .ok (.iload 7, 2) := by decide +kernel
theorem dL_upgrades_69 : decode cL_upgrades 69 = .ok (.bipush 40, 2) := by decide +kernel
theorem dL_upgrades_71 : decode cL_upgrades 71 = .ok (.idiv, 1) := by decide +kernel
theorem dL_upgrades_72 : decode cL_upgrades 72 = .ok (.bipush 8, 2) := by decide +kernel
theorem dL_upgrades_74 : decode cL_upgrades 74 = .ok (.irem, 1) := by decide +kernel
theorem dL_upgrades_75 : decode cL_upgrades 75 = .ok (.istore 11, 2) := by decide +kernel
theorem dL_upgrades_77 : decode cL_upgrades 77 = .ok (.iload 9, 2) := by decide +kernel
theorem dL_upgrades_79 : decode cL_upgrades 79 = .ok (.iconst 2, 1) := by decide +kernel
theorem dL_upgrades_80 : decode cL_upgrades 80 = .ok (.if_icmp .ne 18, 3) := by decide +kernel
theorem dL_upgrades_83 : decode cL_upgrades 83 = .ok (.iload 7, 2) := by decide +kernel
theorem dL_upgrades_85 : decode cL_upgrades 85 = .ok (.sipush 320, 3) := by decide +kernel
theorem dL_upgrades_88 : decode cL_upgrades 88 = .ok (.idiv, 1) := by decide +kernel
theorem dL_upgrades_89 : decode cL_upgrades 89 = .ok (.bipush 99, 2) := by decide +kernel
theorem dL_upgrades_91 : decode cL_upgrades 91 = .ok (.irem, 1) := by decide +kernel
theorem dL_upgrades_92 : decode cL_upgrades 92 = .ok (.bipush 40, 2) := by decide +kernel
theorem dL_upgrades_94 : decode cL_upgrades 94 = .ok (.isub, 1) := by decide +kernel
theorem dL_upgrades_95 : decode cL_upgrades 95 = .ok (.goto 42, 3) := by decide +kernel
theorem dL_upgrades_98 : decode cL_upgrades 98 = .ok (.iload 9, 2) := by decide +kernel
theorem dL_upgrades_100 : decode cL_upgrades 100 = .ok (.iconst 3, 1) := by decide +kernel
theorem dL_upgrades_101 : decode cL_upgrades 101 = .ok (.if_icmp .ne 17, 3) := by decide +kernel
theorem dL_upgrades_104 : decode cL_upgrades 104 = .ok (.iconst 2, 1) := by decide +kernel
theorem dL_upgrades_105 : decode cL_upgrades 105 = .ok (.iload 7, 2) := by decide +kernel
theorem dL_upgrades_107 : decode cL_upgrades 107 = .ok (.sipush 320, 3) := by decide +kernel
theorem dL_upgrades_110 : decode cL_upgrades 110 = .ok (.idiv, 1) := by decide +kernel
theorem dL_upgrades_111 : decode cL_upgrades 111 = .ok (.bipush 8, 2) := by decide +kernel
theorem dL_upgrades_113 : decode cL_upgrades 113 = .ok (.irem, 1) := by decide +kernel
theorem dL_upgrades_114 : decode cL_upgrades 114 = .ok (.iadd, 1) := by decide +kernel
theorem dL_upgrades_115 : decode cL_upgrades 115 = .ok (.goto 22, 3) := by decide +kernel
theorem dL_upgrades_118 : decode cL_upgrades 118 = .ok (.iload 9, 2) := by decide +kernel
theorem dL_upgrades_120 : decode cL_upgrades 120 = .ok (.iconst 4, 1) := by decide +kernel
theorem dL_upgrades_121 : decode cL_upgrades 121 = .ok (.if_icmp .ne 15, 3) := by decide +kernel
theorem dL_upgrades_124 : decode cL_upgrades 124 = .ok (.iload 7, 2) := by decide +kernel
theorem dL_upgrades_126 : decode cL_upgrades 126 = .ok (.sipush 320, 3) := by decide +kernel
theorem dL_upgrades_129 : decode cL_upgrades 129 = .ok (.idiv, 1) := by decide +kernel
theorem dL_upgrades_130 : decode cL_upgrades 130 = .ok (.bipush 8, 2) := by decide +kernel
theorem dL_upgrades_132 : decode cL_upgrades 132 = .ok (.irem, 1) := by decide +kernel
theorem dL_upgrades_133 : decode cL_upgrades 133 = .ok (.goto 4, 3) := by decide +kernel
theorem dL_upgrades_136 : decode cL_upgrades 136 = .ok (.iconst 0, 1) := by decide +kernel
theorem dL_upgrades_137 : decode cL_upgrades 137 = .ok (.istore 12, 2) := by decide +kernel
theorem dL_upgrades_139 : decode cL_upgrades 139 = .ok (.iload 5, 2) := by decide +kernel
theorem dL_upgrades_141 : decode cL_upgrades 141 = .ok (.iload 6, 2) := by decide +kernel
theorem dL_upgrades_143 : decode cL_upgrades 143 = .ok (.iload 10, 2) := by decide +kernel
theorem dL_upgrades_145 : decode cL_upgrades 145 = .ok (.ishr, 1) := by decide +kernel
theorem dL_upgrades_146 : decode cL_upgrades 146 = .ok (.iconst 1, 1) := by decide +kernel
theorem dL_upgrades_147 : decode cL_upgrades 147 = .ok (.iand, 1) := by decide +kernel
theorem dL_upgrades_148 : decode cL_upgrades 148 = .ok (.ifCond .ne 7, 3) := by decide +kernel
theorem dL_upgrades_151 : decode cL_upgrades 151 = .ok (.iconst 1, 1) := by decide +kernel
theorem dL_upgrades_152 : decode cL_upgrades 152 = .ok (.goto 4, 3) := by decide +kernel
theorem dL_upgrades_155 : decode cL_upgrades 155 = .ok (.iconst 0, 1) := by decide +kernel
theorem dL_upgrades_156 : decode cL_upgrades 156 = .ok (.iadd, 1) := by decide +kernel
theorem dL_upgrades_157 : decode cL_upgrades 157 = .ok (.istore 5, 2) := by decide +kernel
theorem dL_upgrades_159 : decode cL_upgrades 159 = .ok (.iload 6, 2) := by decide +kernel
theorem dL_upgrades_161 : decode cL_upgrades 161 = .ok (.iconst 1, 1) := by decide +kernel
theorem dL_upgrades_162 : decode cL_upgrades 162 = .ok (.iload 10, 2) := by decide +kernel
theorem dL_upgrades_164 : decode cL_upgrades 164 = .ok (.ishl, 1) := by decide +kernel
theorem dL_upgrades_165 : decode cL_upgrades 165 = .ok (.ior, 1) := by decide +kernel
theorem dL_upgrades_166 : decode cL_upgrades 166 = .ok (.istore 6, 2) := by decide +kernel
theorem dL_upgrades_168 : decode cL_upgrades 168 = .ok (.aload_n 0, 1) := by decide +kernel
theorem dL_upgrades_169 : decode cL_upgrades 169 = .ok (.iload 9, 2) := by decide +kernel
theorem dL_upgrades_171 : decode cL_upgrades 171 = .ok (.iload 10, 2) := by decide +kernel
theorem dL_upgrades_173 : decode cL_upgrades 173 = .ok (.iload 11, 2) := by decide +kernel
theorem dL_upgrades_175 : decode cL_upgrades 175 = .ok (.iload 12, 2) := by decide +kernel
theorem dL_upgrades_177 : decode cL_upgrades 177 = .ok (.invokevirtual 151, 3) := by decide +kernel
theorem dL_upgrades_180 : decode cL_upgrades 180 = .ok (.iload 5, 2) := by decide +kernel
theorem dL_upgrades_182 : decode cL_upgrades 182 = .ok (.if_icmp .eq 5, 3) := by decide +kernel
theorem dL_upgrades_185 : decode cL_upgrades 185 = .ok (.iconst 0, 1) := by decide +kernel
theorem dL_upgrades_186 : decode cL_upgrades 186 = .ok (.ireturn, 1) := by decide +kernel
theorem dL_upgrades_187 : decode cL_upgrades 187 = .ok (.iload 7, 2) := by decide +kernel
theorem dL_upgrades_189 : decode cL_upgrades 189 = .ok (.iconst 4, 1) := by decide +kernel
theorem dL_upgrades_190 : decode cL_upgrades 190 = .ok (.ishr, 1) := by decide +kernel
theorem dL_upgrades_191 : decode cL_upgrades 191 = .ok (.ldc 154, 2) := by decide +kernel
theorem dL_upgrades_193 : decode cL_upgrades 193 = .ok (.iload_n 2, 1) := by decide +kernel
theorem dL_upgrades_194 : decode cL_upgrades 194 = .ok (.sipush 900, 3) := by decide +kernel
theorem dL_upgrades_197 : decode cL_upgrades 197 = .ok (.irem, 1) := by decide +kernel
theorem dL_upgrades_198 : decode cL_upgrades 198 = .ok (.iload 8, 2) := by decide +kernel
theorem dL_upgrades_200 : decode cL_upgrades 200 = .ok (.iadd, 1) := by decide +kernel
theorem dL_upgrades_201 : decode cL_upgrades 201 = .ok (.imul, 1) := by decide +kernel
theorem dL_upgrades_202 : decode cL_upgrades 202 = .ok (.iadd, 1) := by decide +kernel
theorem dL_upgrades_203 : decode cL_upgrades 203 = .ok (.istore 7, 2) := by decide +kernel
theorem dL_upgrades_205 : decode cL_upgrades 205 = .ok (.iinc 8 1, 3) := by decide +kernel
theorem dL_upgrades_208 : decode cL_upgrades 208 = .ok (.goto (-186), 3) := by decide +kernel
theorem dL_upgrades_211 : decode cL_upgrades 211 = .ok (.aload_n 0, 1) := by decide +kernel
theorem dL_upgrades_212 : decode cL_upgrades 212 = .ok (.invokevirtual 155, 3) := by decide +kernel
theorem dL_upgrades_215 : decode cL_upgrades 215 = .ok (.aload 4, 2) := by decide +kernel
theorem dL_upgrades_217 : decode cL_upgrades 217 = .ok (.iconst 2, 1) := by decide +kernel
theorem dL_upgrades_218 : decode cL_upgrades 218 = .ok (.iaload, 1) := by decide +kernel
theorem dL_upgrades_219 : decode cL_upgrades 219 = .ok (.if_icmp .ne 35, 3) := by decide +kernel
theorem dL_upgrades_222 : decode cL_upgrades 222 = .ok (.aload_n 0, 1) := by decide +kernel
theorem dL_upgrades_223 : decode cL_upgrades 223 = .ok (.aload 4, 2) := by decide +kernel
theorem dL_upgrades_225 : decode cL_upgrades 225 = .ok (.iconst 2, 1) := by decide +kernel
theorem dL_upgrades_226 : decode cL_upgrades 226 = .ok (.iaload, 1) := by decide +kernel
theorem dL_upgrades_227 : decode cL_upgrades 227 = .ok (.invokevirtual 158, 3) := by decide +kernel
theorem dL_upgrades_230 : decode cL_upgrades 230 = .ok (.iload 5, 2) := by decide +kernel
theorem dL_upgrades_232 : decode cL_upgrades 232 = .ok (.if_icmp .lt 22, 3) := by decide +kernel
theorem dL_upgrades_235 : decode cL_upgrades 235 = .ok (.aload_n 0, 1) := by decide +kernel
theorem dL_upgrades_236 : decode cL_upgrades 236 = .ok (.aload 4, 2) := by decide +kernel
theorem dL_upgrades_238 : decode cL_upgrades 238 = .ok (.iconst 2, 1) := by decide +kernel
theorem dL_upgrades_239 : decode cL_upgrades 239 = .ok (.iaload, 1) := by decide +kernel
theorem dL_upgrades_240 : decode cL_upgrades 240 = .ok (.invokevirtual 158, 3) := by decide +kernel
theorem dL_upgrades_243 : decode cL_upgrades 243 = .ok (.iconst 3, 1) := by decide +kernel
theorem dL_upgrades_244 : decode cL_upgrades 244 = .ok (.iload 5, 2) := by decide +kernel
theorem dL_upgrades_246 : decode cL_upgrades 246 = .ok (.imul, 1) := by decide +kernel
theorem dL_upgrades_247 : decode cL_upgrades 247 = .ok (.if_icmp .gt 7, 3) := by decide +kernel
theorem dL_upgrades_250 : decode cL_upgrades 250 = .ok (.iconst 1, 1) := by decide +kernel
theorem dL_upgrades_251 : decode cL_upgrades 251 = .ok (.goto 4, 3) := by decide +kernel
theorem dL_upgrades_254 : decode cL_upgrades 254 = .ok (.iconst 0, 1) := by decide +kernel
theorem dL_upgrades_255 : decode cL_upgrades 255 = .ok (.istore 8, 2) := by decide +kernel
theorem dL_upgrades_257 : decode cL_upgrades 257 = .ok (.aload 4, 2) := by decide +kernel
theorem dL_upgrades_259 : decode cL_upgrades 259 = .ok (.iconst 2, 1) := by decide +kernel
theorem dL_upgrades_260 : decode cL_upgrades 260 = .ok (.dup2, 1) := by decide +kernel
theorem dL_upgrades_261 : decode cL_upgrades 261 = .ok (.iaload, 1) := by decide +kernel
theorem dL_upgrades_262 : decode cL_upgrades 262 = .ok (.iconst 1, 1) := by decide +kernel
theorem dL_upgrades_263 : decode cL_upgrades 263 = .ok (.iadd, 1) := by decide +kernel
theorem dL_upgrades_264 : decode cL_upgrades 264 = .ok (.iastore, 1) := by decide +kernel
theorem dL_upgrades_265 : decode cL_upgrades 265 = .ok (.bipush 8, 2) := by decide +kernel
theorem dL_upgrades_267 : decode cL_upgrades 267 = .ok (.newarray .int, 2) := by decide +kernel
theorem dL_upgrades_269 : decode cL_upgrades 269 = .ok (.astore 9, 2) := by decide +kernel
theorem dL_upgrades_271 : decode cL_upgrades 271 = .ok (.iconst 0, 1) := by decide +kernel
theorem dL_upgrades_272 : decode cL_upgrades 272 = .ok (.istore 10, 2) := by decide +kernel
theorem dL_upgrades_274 : decode cL_upgrades 274 = .ok (.iload 10, 2) := by decide +kernel
theorem dL_upgrades_276 : decode cL_upgrades 276 = .ok (.bipush 8, 2) := by decide +kernel
theorem dL_upgrades_278 : decode cL_upgrades 278 = .ok (.if_icmp .ge 55, 3) := by decide +kernel
theorem dL_upgrades_281 : decode cL_upgrades 281 = .ok (.iload_n 2, 1) := by decide +kernel
theorem dL_upgrades_282 : decode cL_upgrades 282 = .ok (.iload 10, 2) := by decide +kernel
theorem dL_upgrades_284 : decode cL_upgrades 284 = .ok (.iconst 1, 1) := by decide +kernel
theorem dL_upgrades_285 : decode cL_upgrades 285 = .ok (.iadd, 1) := by decide +kernel
theorem dL_upgrades_286 : decode cL_upgrades 286 = .ok (.idiv, 1) := by decide +kernel
theorem dL_upgrades_287 : decode cL_upgrades 287 = .ok (.iconst 5, 1) := by decide +kernel
theorem dL_upgrades_288 : decode cL_upgrades 288 = .ok (.irem, 1) := by decide +kernel
theorem dL_upgrades_289 : decode cL_upgrades 289 = .ok (.ifCond .ne 8, 3) := by decide +kernel
theorem dL_upgrades_292 : decode cL_upgrades 292 = .ok (.ldc 119, 2) := by decide +kernel
theorem dL_upgrades_294 : decode cL_upgrades 294 = .ok (.goto 14, 3) := by decide +kernel
theorem dL_upgrades_297 : decode cL_upgrades 297 = .ok (.iload_n 2, 1) := by decide +kernel
theorem dL_upgrades_298 : decode cL_upgrades 298 = .ok (.iload 10, 2) := by decide +kernel
theorem dL_upgrades_300 : decode cL_upgrades 300 = .ok (.ishr, 1) := by decide +kernel
theorem dL_upgrades_301 : decode cL_upgrades 301 = .ok (.sipush 300, 3) := by decide +kernel
theorem dL_upgrades_304 : decode cL_upgrades 304 = .ok (.irem, 1) := by decide +kernel
theorem dL_upgrades_305 : decode cL_upgrades 305 = .ok (.bipush 100, 2) := by decide +kernel
theorem dL_upgrades_307 : decode cL_upgrades 307 = .ok (.isub, 1) := by decide +kernel
theorem dL_upgrades_308 : decode cL_upgrades 308 = .ok (.istore 11, 2) := by decide +kernel
theorem dL_upgrades_310 : decode cL_upgrades 310 = .ok (.aload_n 0, 1) := by decide +kernel
theorem dL_upgrades_311 : decode cL_upgrades 311 = .ok (.iload 10, 2) := by decide +kernel
theorem dL_upgrades_313 : decode cL_upgrades 313 = .ok (.iconst 0, 1) := by decide +kernel
theorem dL_upgrades_314 : decode cL_upgrades 314 = .ok (.iload 11, 2) := by decide +kernel
theorem dL_upgrades_316 : decode cL_upgrades 316 = .ok (.invokevirtual 148, 3) := by decide +kernel
theorem dL_upgrades_319 : decode cL_upgrades 319 = .ok (.pop, 1) := by decide +kernel
theorem dL_upgrades_320 : decode cL_upgrades 320 = .ok (.aload 9, 2) := by decide +kernel
theorem dL_upgrades_322 : decode cL_upgrades 322 = .ok (.iload 10, 2) := by decide +kernel
theorem dL_upgrades_324 : decode cL_upgrades 324 = .ok (.iload 11, 2) := by decide +kernel
theorem dL_upgrades_326 : decode cL_upgrades 326 = .ok (.iastore, 1) := by decide +kernel
theorem dL_upgrades_327 : decode cL_upgrades 327 = .ok (.iinc 10 1, 3) := by decide +kernel
theorem dL_upgrades_330 : decode cL_upgrades 330 = .ok (.goto (-56), 3) := by decide +kernel
theorem dL_upgrades_333 : decode cL_upgrades 333 = .ok (.iload_n 2, 1) := by decide +kernel
theorem dL_upgrades_334 : decode cL_upgrades 334 = .ok (.aload 4, 2) := by decide +kernel
theorem dL_upgrades_336 : decode cL_upgrades 336 = .ok (.iconst 2, 1) := by decide +kernel
theorem dL_upgrades_337 : decode cL_upgrades 337 = .ok (.iaload, 1) := by decide +kernel
theorem dL_upgrades_338 : decode cL_upgrades 338 = .ok (.irem, 1) := by decide +kernel
theorem dL_upgrades_339 : decode cL_upgrades 339 = .ok (.istore 10, 2) := by decide +kernel
theorem dL_upgrades_341 : decode cL_upgrades 341 = .ok (.aload 4, 2) := by decide +kernel
theorem dL_upgrades_343 : decode cL_upgrades 343 = .ok (.iconst 2, 1) := by decide +kernel
theorem dL_upgrades_344 : decode cL_upgrades 344 = .ok (.iaload, 1) := by decide +kernel
theorem dL_upgrades_345 : decode cL_upgrades 345 = .ok (.iconst 1, 1) := by decide +kernel
theorem dL_upgrades_346 : decode cL_upgrades 346 = .ok (.isub, 1) := by decide +kernel
theorem dL_upgrades_347 : decode cL_upgrades 347 = .ok (.istore 11, 2) := by decide +kernel
theorem dL_upgrades_349 : decode cL_upgrades 349 = .ok (.aload_n 0, 1) := by decide +kernel
theorem dL_upgrades_350 : decode cL_upgrades 350 = .ok (.iload 10, 2) := by decide +kernel
theorem dL_upgrades_352 : decode cL_upgrades 352 = .ok (.iload 11, 2) := by decide +kernel
theorem dL_upgrades_354 : decode cL_upgrades 354 = .ok (.invokevirtual 161, 3) := by decide +kernel
theorem dL_upgrades_357 : decode cL_upgrades 357 = .ok (.istore 12, 2) := by decide +kernel
theorem dL_upgrades_359 : decode cL_upgrades 359 = .ok (.aload_n 0, 1) := by decide +kernel
theorem dL_upgrades_360 : decode cL_upgrades 360 = .ok (.iload 10, 2) := by decide +kernel
theorem dL_upgrades_362 : decode cL_upgrades 362 = .ok (.aload_n 3, 1) := by decide +kernel
theorem dL_upgrades_363 : decode cL_upgrades 363 = .ok (.invokestatic 164, 3) := by decide +kernel
theorem dL_upgrades_366 : decode cL_upgrades 366 = .ok (.bipush 8, 2) := by decide +kernel
theorem dL_upgrades_368 : decode cL_upgrades 368 = .ok (.newarray .int, 2) := by decide +kernel
theorem dL_upgrades_370 : decode cL_upgrades 370 = .ok (.astore 13, 2) := by decide +kernel
theorem dL_upgrades_372 : decode cL_upgrades 372 = .ok (.iconst 0, 1) := by decide +kernel
theorem dL_upgrades_373 : decode cL_upgrades 373 = .ok (.istore 14, 2) := by decide +kernel
theorem dL_upgrades_375 : decode cL_upgrades 375 = .ok (.iload 14, 2) := by decide +kernel
theorem dL_upgrades_377 : decode cL_upgrades 377 = .ok (.bipush 8, 2) := by decide +kernel
theorem dL_upgrades_379 : decode cL_upgrades 379 = .ok (.if_icmp .ge 27, 3) := by decide +kernel
theorem dL_upgrades_382 : decode cL_upgrades 382 = .ok (.iload 12, 2) := by decide +kernel
theorem dL_upgrades_384 : decode cL_upgrades 384 = .ok (.ifCond .lt 22, 3) := by decide +kernel
theorem dL_upgrades_387 : decode cL_upgrades 387 = .ok (.aload 13, 2) := by decide +kernel
theorem dL_upgrades_389 : decode cL_upgrades 389 = .ok (.iload 14, 2) := by decide +kernel
theorem dL_upgrades_391 : decode cL_upgrades 391 = .ok (.aload_n 0, 1) := by decide +kernel
theorem dL_upgrades_392 : decode cL_upgrades 392 = .ok (.iload 12, 2) := by decide +kernel
theorem dL_upgrades_394 : decode cL_upgrades 394 = .ok (.iload 14, 2) := by decide +kernel
theorem dL_upgrades_396 : decode cL_upgrades 396 = .ok (.invokevirtual 145, 3) := by decide +kernel
theorem dL_upgrades_399 : decode cL_upgrades 399 = .ok (.iastore, 1) := by decide +kernel
theorem dL_upgrades_400 : decode cL_upgrades 400 = .ok (.iinc 14 1, 3) := by decide +kernel
theorem dL_upgrades_403 : decode cL_upgrades 403 = .ok (.goto (-28), 3) := by decide +kernel
theorem dL_upgrades_406 : decode cL_upgrades 406 = .ok (.aload_n 0, 1) := by decide +kernel
theorem dL_upgrades_407 : decode cL_upgrades 407 = .ok (.aload_n 3, 1) := by decide +kernel
theorem dL_upgrades_408 : decode cL_upgrades 408 = .ok (.invokestatic 168, 3) := by decide +kernel
theorem dL_upgrades_411 : decode cL_upgrades 411 = .ok (.iconst 0, 1) := by decide +kernel
theorem dL_upgrades_412 : decode cL_upgrades 412 = .ok (.istore 14, 2) := by decide +kernel
theorem dL_upgrades_414 : decode cL_upgrades 414 = .ok (.iload 14, 2) := by decide +kernel
theorem dL_upgrades_416 : decode cL_upgrades 416 = .ok (.bipush 8, 2) := by decide +kernel
theorem dL_upgrades_418 : decode cL_upgrades 418 = .ok (.if_icmp .ge 42, 3) := by decide +kernel
theorem dL_upgrades_421 : decode cL_upgrades 421 = .ok (.iload 12, 2) := by decide +kernel
theorem dL_upgrades_423 : decode cL_upgrades 423 = .ok (.ifCond .lt 37, 3) := by decide +kernel
theorem dL_upgrades_426 : decode cL_upgrades 426 = .ok (.iload 8, 2) := by decide +kernel
theorem dL_upgrades_428 : decode cL_upgrades 428 = .ok (.ifCond .eq 32, 3) := by decide +kernel
theorem dL_upgrades_431 : decode cL_upgrades 431 = .ok (.aload_n 0, 1) := by decide +kernel
theorem dL_upgrades_432 : decode cL_upgrades 432 = .ok (.iload 11, 2) := by decide +kernel
theorem dL_upgrades_434 : decode cL_upgrades 434 = .ok (.iload 14, 2) := by decide +kernel
theorem dL_upgrades_436 : decode cL_upgrades 436 = .ok (.invokevirtual 145, 3) := by decide +kernel
theorem dL_upgrades_439 : decode cL_upgrades 439 = .ok (.aload 13, 2) := by decide +kernel
theorem dL_upgrades_441 : decode cL_upgrades 441 = .ok (.iload 14, 2) := by decide +kernel
theorem dL_upgrades_443 : decode cL_upgrades 443 = .ok (.iaload, 1) := by decide +kernel
theorem dL_upgrades_444 : decode cL_upgrades 444 = .ok (.if_icmp .ne 7, 3) := by decide +kernel
theorem dL_upgrades_447 : decode cL_upgrades 447 = .ok (.iconst 1, 1) := by decide +kernel
theorem dL_upgrades_448 : decode cL_upgrades 448 = .ok (.goto 4, 3) := by decide +kernel
theorem dL_upgrades_451 : decode cL_upgrades 451 = .ok (.iconst 0, 1) := by decide +kernel
theorem dL_upgrades_452 : decode cL_upgrades 452 = .ok (.istore 8, 2) := by decide +kernel
theorem dL_upgrades_454 : decode cL_upgrades 454 = .ok (.iinc 14 1, 3) := by decide +kernel
theorem dL_upgrades_457 : decode cL_upgrades 457 = .ok (.goto (-43), 3) := by decide +kernel
theorem dL_upgrades_460 : decode cL_upgrades 460 = .ok (.aload 4, 2) := by decide +kernel
theorem dL_upgrades_462 : decode cL_upgrades 462 = .ok (.iconst 2, 1) := by decide +kernel
theorem dL_upgrades_463 : decode cL_upgrades 463 = .ok (.dup2, 1) := by decide +kernel
theorem dL_upgrades_464 : decode cL_upgrades 464 = .ok (.iaload, 1) := by decide +kernel
theorem dL_upgrades_465 : decode cL_upgrades 465 = .ok (.iload 12, 2) := by decide +kernel
theorem dL_upgrades_467 : decode cL_upgrades 467 = .ok (.ifCond .lt 7, 3) := by decide +kernel
theorem dL_upgrades_470 : decode cL_upgrades 470 = .ok (.iconst 1, 1) := by decide +kernel
theorem dL_upgrades_471 : decode cL_upgrades 471 = .ok (.goto 4, 3) := by decide +kernel
theorem dL_upgrades_474 : decode cL_upgrades 474 = .ok (.iconst 0, 1) := by decide +kernel
theorem dL_upgrades_475 : decode cL_upgrades 475 = .ok (.iadd, 1) := by decide +kernel
theorem dL_upgrades_476 : decode cL_upgrades 476 = .ok (.iastore, 1) := by decide +kernel
theorem dL_upgrades_477 : decode cL_upgrades 477 = .ok (.aload_n 0, 1) := by decide +kernel
theorem dL_upgrades_478 : decode cL_upgrades 478 = .ok (.aload 9, 2) := by decide +kernel
theorem dL_upgrades_480 : decode cL_upgrades 480 = .ok (.invokestatic 168, 3) := by decide +kernel
theorem dL_upgrades_483 : decode cL_upgrades 483 = .ok (.aload_n 0, 1) := by decide +kernel
theorem dL_upgrades_484 : decode cL_upgrades 484 = .ok (.iload 11, 2) := by decide +kernel
theorem dL_upgrades_486 : decode cL_upgrades 486 = .ok (.invokevirtual 171, 3) := by decide +kernel
theorem dL_upgrades_489 : decode cL_upgrades 489 = .ok (.istore 14, 2) := by decide +kernel
theorem dL_upgrades_491 : decode cL_upgrades 491 = .ok (.aload_n 0, 1) := by decide +kernel
theorem dL_upgrades_492 : decode cL_upgrades 492 = .ok (.iload 11, 2) := by decide +kernel
theorem dL_upgrades_494 : decode cL_upgrades 494 = .ok (.aload_n 3, 1) := by decide +kernel
theorem dL_upgrades_495 : decode cL_upgrades 495 = .ok (.invokestatic 164, 3) := by decide +kernel
theorem dL_upgrades_498 : decode cL_upgrades 498 = .ok (.aload_n 0, 1) := by decide +kernel
theorem dL_upgrades_499 : decode cL_upgrades 499 = .ok (.aload_n 3, 1) := by decide +kernel
theorem dL_upgrades_500 : decode cL_upgrades 500 = .ok (.invokestatic 168, 3) := by decide +kernel
theorem dL_upgrades_503 : decode cL_upgrades 503 = .ok (.iconst 0, 1) := by decide +kernel
theorem dL_upgrades_504 : decode cL_upgrades 504 = .ok (.istore 15, 2) := by decide +kernel
theorem dL_upgrades_506 : decode cL_upgrades 506 = .ok (.iload 15, 2) := by decide +kernel
theorem dL_upgrades_508 : decode cL_upgrades 508 = .ok (.bipush 8, 2) := by decide +kernel
theorem dL_upgrades_510 : decode cL_upgrades 510 = .ok (.if_icmp .ge 53, 3) := by decide +kernel
theorem dL_upgrades_513 : decode cL_upgrades 513 = .ok (.iload 14, 2) := by decide +kernel
theorem dL_upgrades_515 : decode cL_upgrades 515 = .ok (.ifCond .lt 48, 3) := by decide +kernel
theorem dL_upgrades_518 : decode cL_upgrades 518 = .ok (.iload 8, 2) := by decide +kernel
theorem dL_upgrades_520 : decode cL_upgrades 520 = .ok (.ifCond .eq 43, 3) := by decide +kernel
theorem dL_upgrades_523 : decode cL_upgrades 523 = .ok (.aload_n 0, 1) := by decide +kernel
theorem dL_upgrades_524 : decode cL_upgrades 524 = .ok (.iload 14, 2) := by decide +kernel
theorem dL_upgrades_526 : decode cL_upgrades 526 = .ok (.iload 15, 2) := by decide +kernel
theorem dL_upgrades_528 : decode cL_upgrades 528 = .ok (.invokevirtual 145, 3) := by decide +kernel
theorem dL_upgrades_531 : decode cL_upgrades 531 = .ok (.istore 16, 2) := by decide +kernel
theorem dL_upgrades_533 : decode cL_upgrades 533 = .ok (.iload 16, 2) := by decide +kernel
theorem dL_upgrades_535 : decode cL_upgrades 535 = .ok (.ldc 119, 2) := by decide +kernel
theorem dL_upgrades_537 : decode cL_upgrades 537 = .ok (.if_icmp .eq 13, 3) := by decide +kernel
theorem dL_upgrades_540 : decode cL_upgrades 540 = .ok (.aload 9, 2) := by decide +kernel
theorem dL_upgrades_542 : decode cL_upgrades 542 = .ok (.iload 15, 2) := by decide +kernel
theorem dL_upgrades_544 : decode cL_upgrades 544 = .ok (.iaload, 1) := by decide +kernel
theorem dL_upgrades_545 : decode cL_upgrades 545 = .ok (.ldc 119, 2) := by decide +kernel
theorem dL_upgrades_547 : decode cL_upgrades 547 = .ok (.if_icmp .eq 7, 3) := by decide +kernel
theorem dL_upgrades_550 : decode cL_upgrades 550 = .ok (.iconst 1, 1) := by decide +kernel
theorem dL_upgrades_551 : decode cL_upgrades 551 = .ok (.goto 4, 3) := by decide +kernel
theorem dL_upgrades_554 : decode cL_upgrades 554 = .ok (.iconst 0, 1) := by decide +kernel
theorem dL_upgrades_555 : decode cL_upgrades 555 = .ok (.istore 8, 2) := by decide +kernel
theorem dL_upgrades_557 : decode cL_upgrades 557 = .ok (.iinc 15 1, 3) := by decide +kernel
theorem dL_upgrades_560 : decode cL_upgrades 560 = .ok (.goto (-54), 3) := by decide +kernel
theorem dL_upgrades_563 : decode cL_upgrades 563 = .ok (.aload 4, 2) := by decide +kernel
theorem dL_upgrades_565 : decode cL_upgrades 565 = .ok (.iconst 2, 1) := by decide +kernel
theorem dL_upgrades_566 : decode cL_upgrades 566 = .ok (.dup2, 1) := by decide +kernel
theorem dL_upgrades_567 : decode cL_upgrades 567 = .ok (.iaload, 1) := by decide +kernel
theorem dL_upgrades_568 : decode cL_upgrades 568 = .ok (.iload 14, 2) := by decide +kernel
theorem dL_upgrades_570 : decode cL_upgrades 570 = .ok (.ifCond .lt 7, 3) := by decide +kernel
theorem dL_upgrades_573 : decode cL_upgrades 573 = .ok (.iconst 1, 1) := by decide +kernel
theorem dL_upgrades_574 : decode cL_upgrades 574 = .ok (.goto 4, 3) := by decide +kernel
theorem dL_upgrades_577 : decode cL_upgrades 577 = .ok (.iconst 0, 1) := by decide +kernel
theorem dL_upgrades_578 : decode cL_upgrades 578 = .ok (.iadd, 1) := by decide +kernel
theorem dL_upgrades_579 : decode cL_upgrades 579 = .ok (.iastore, 1) := by decide +kernel
theorem dL_upgrades_580 : decode cL_upgrades 580 = .ok (.aload_n 0, 1) := by decide +kernel
theorem dL_upgrades_581 : decode cL_upgrades 581 = .ok (.aload 9, 2) := by decide +kernel
theorem dL_upgrades_583 : decode cL_upgrades 583 = .ok (.invokestatic 168, 3) := by decide +kernel
theorem dL_upgrades_586 : decode cL_upgrades 586 = .ok (.iload 8, 2) := by decide +kernel
theorem dL_upgrades_588 : decode cL_upgrades 588 = .ok (.ifCond .eq 29, 3) := by decide +kernel
theorem dL_upgrades_591 : decode cL_upgrades 591 = .ok (.iload 12, 2) := by decide +kernel
theorem dL_upgrades_593 : decode cL_upgrades 593 = .ok (.ifCond .ge 9, 3) := by decide +kernel
theorem dL_upgrades_596 : decode cL_upgrades 596 = .ok (.iload 12, 2) := by decide +kernel
theorem dL_upgrades_598 : decode cL_upgrades 598 = .ok (.iconst (-1), 1) := by decide +kernel
theorem dL_upgrades_599 : decode cL_upgrades 599 = .ok (.if_icmp .ne 18, 3) := by decide +kernel
theorem dL_upgrades_602 : decode cL_upgrades 602 = .ok (.iload 14, 2) := by decide +kernel
theorem dL_upgrades_604 : decode cL_upgrades 604 = .ok (.ifCond .ge 9, 3) := by decide +kernel
theorem dL_upgrades_607 : decode cL_upgrades 607 = .ok (.iload 14, 2) := by decide +kernel
theorem dL_upgrades_609 : decode cL_upgrades 609 = .ok (.iconst (-1), 1) := by decide +kernel
theorem dL_upgrades_610 : decode cL_upgrades 610 = .ok (.if_icmp .ne 7, 3) := by decide +kernel
theorem dL_upgrades_613 : decode cL_upgrades 613 = .ok (.iconst 1, 1) := by decide +kernel
theorem dL_upgrades_614 : decode cL_upgrades 614 = .ok (.goto 4, 3) := by decide +kernel
theorem dL_upgrades_617 : decode cL_upgrades 617 = .ok (.iconst 0, 1) := by decide +kernel
theorem dL_upgrades_618 : decode cL_upgrades 618 = .ok (.ireturn, 1) := by decide +kernel
def is_L_upgrades (Rt : np_Rt) : List (Nat × np_Op) := [(0, np_ald 2 4), (2, np_push 1 (.int 2)), (3, nw_ialdT .int), (4, np_push 1 (.int 4)), (5, nq_ic (fun x y => x ≤ y) 10), (8, np_push 1 (.int 1)), (9, np_ret Rt), (10, np_push 1 (.int 0)), (11, nw_ist 2 5), (13, np_push 1 (.int 0)), (14, nw_ist 2 6), (16, np_ild 1 1), (17, nw_ist 2 7), (19, np_push 1 (.int 0)), (20, nw_ist 2 8), (22, np_ild 2 8), (24, np_push 1 (.int 1)), (25, np_ild 1 2), (26, np_push 1 (.int 5)), (27, nq_ibn (fun x y => x - x / y * y)), (28, np_ib (fun x y => x + y)), (29, nq_ic (fun x y => y ≤ x) 211), (32, np_ild 2 7), (34, np_push 1 (.int 5)), (35, nq_ibn (fun x y => x - x / y * y)), (36, nw_ist 2 9), (38, np_ild 2 7), (40, np_push 1 (.int 5)), (41, nq_ibn (fun x y => x / y)), (42, np_push 2 (.int 8)), (44, nq_ibn (fun x y => x - x / y * y)), (45, nw_ist 2 10), (47, np_ild 2 9), (49, np_push 1 (.int 1)), (50, nq_icne 67), (53, np_ild 2 7), (55, np_push 2 (.int 40)), (57, nq_ibn (fun x y => x / y)), (58, np_push 2 (.int 100)), (60, nq_ibn (fun x y => x - x / y * y)), (61, np_push 2 (.int 50)), (63, np_ib (fun x y => x - y)), (64, np_goto 75), (67, np_ild 2 7), (69, np_push 2 (.int 40)), (71, nq_ibn (fun x y => x / y)), (72, np_push 2 (.int 8)), (74, nq_ibn (fun x y => x - x / y * y)), (75, nw_ist 2 11), (77, np_ild 2 9), (79, np_push 1 (.int 2)), (80, nq_icne 98), (83, np_ild 2 7), (85, np_push 3 (.int 320)), (88, nq_ibn (fun x y => x / y)), (89, np_push 2 (.int 99)), (91, nq_ibn (fun x y => x - x / y * y)), (92, np_push 2 (.int 40)), (94, np_ib (fun x y => x - y)), (95, np_goto 137), (98, np_ild 2 9), (100, np_push 1 (.int 3)), (101, nq_icne 118), (104, np_push 1 (.int 2)), (105, np_ild 2 7), (107, np_push 3 (.int 320)), (110, nq_ibn (fun x y => x / y)), (111, np_push 2 (.int 8)), (113, nq_ibn (fun x y => x - x / y * y)), (114, np_ib (fun x y => x + y)), (115, np_goto 137), (118, np_ild 2 9), (120, np_push 1 (.int 4)), (121, nq_icne 136), (124, np_ild 2 7), (126, np_push 3 (.int 320)), (129, nq_ibn (fun x y => x / y)), (130, np_push 2 (.int 8)), (132, nq_ibn (fun x y => x - x / y * y)), (133, np_goto 137), (136, np_push 1 (.int 0)), (137, nw_ist 2 12), (139, np_ild 2 5), (141, np_ild 2 6), (143, np_ild 2 10), (145, np_ib (fun x y => x >>> (y &&& 31))), (146, np_push 1 (.int 1)), (147, np_ib (fun x y => x &&& y)), (148, nq_ifne 155), (151, np_push 1 (.int 1)), (152, np_goto 156), (155, np_push 1 (.int 0)), (156, np_ib (fun x y => x + y)), (157, nw_ist 2 5), (159, np_ild 2 6), (161, np_push 1 (.int 1)), (162, np_ild 2 10), (164, np_ib (fun x y => x <<< (y &&& 31))), (165, np_ib (fun x y => x ||| y)), (166, nw_ist 2 6), (168, np_ald 1 0), (169, np_ild 2 9), (171, np_ild 2 10), (173, np_ild 2 11), (175, np_ild 2 12), (177, nw_callVX 11 5 sp_X11_change 6 1 6 106 640 []), (180, np_ild 2 5), (182, nq_ic (fun x y => x = y) 187), (185, np_push 1 (.int 0)), (186, np_ret Rt), (187, np_ild 2 7), (189, np_push 1 (.int 4)), (190, np_ib (fun x y => x >>> (y &&& 31))), (191, np_push 2 (.int 104729)), (193, np_ild 1 2), (194, np_push 3 (.int 900)), (197, nq_ibn (fun x y => x - x / y * y)), (198, np_ild 2 8), (200, np_ib (fun x y => x + y)), (201, np_ib (fun x y => x * y)), (202, np_ib (fun x y => x + y)), (203, nw_ist 2 7), (205, nw_iinc 8 1), (208, np_goto 22), (211, np_ald 1 0), (212, nw_callVX 11 1 sp_X11_upgrade 2 1 6 106 640 []), (215, np_ald 2 4), (217, np_push 1 (.int 2)), (218, nw_ialdT .int), (219, nq_icne 254), (222, np_ald 1 0), (223, np_ald 2 4), (225, np_push 1 (.int 2)), (226, nw_ialdT .int), (227, nw_callVX 11 2 sp_X11_parts 3 1 6 106 640 []), (230, np_ild 2 5), (232, nq_ic (fun x y => x < y) 254), (235, np_ald 1 0), (236, np_ald 2 4), (238, np_push 1 (.int 2)), (239, nw_ialdT .int), (240, nw_callVX 11 2 sp_X11_parts 3 1 6 106 640 []), (243, np_push 1 (.int 3)), (244, np_ild 2 5), (246, np_ib (fun x y => x * y)), (247, nq_ic (fun x y => y < x) 254), (250, np_push 1 (.int 1)), (251, np_goto 255), (254, np_push 1 (.int 0)), (255, nw_ist 2 8), (257, np_ald 2 4), (259, np_push 1 (.int 2)), (260, nq_dup2), (261, nw_ialdT .int), (262, np_push 1 (.int 1)), (263, np_ib (fun x y => x + y)), (264, nw_iastT .int), (265, np_push 2 (.int 8)), (267, nw_newa .int 8 (8, .inl fun _ => 0) 106 640), (269, np_ast 2 9), (271, np_push 1 (.int 0)), (272, nw_ist 2 10), (274, np_ild 2 10), (276, np_push 2 (.int 8)), (278, nq_ic (fun x y => y ≤ x) 333), (281, np_ild 1 2), (282, np_ild 2 10), (284, np_push 1 (.int 1)), (285, np_ib (fun x y => x + y)), (286, nq_ibn (fun x y => x / y)), (287, np_push 1 (.int 5)), (288, nq_ibn (fun x y => x - x / y * y)), (289, nq_ifne 297), (292, np_push 2 (.int (-2147483648))), (294, np_goto 308), (297, np_ild 1 2), (298, np_ild 2 10), (300, np_ib (fun x y => x >>> (y &&& 31))), (301, np_push 3 (.int 300)), (304, nq_ibn (fun x y => x - x / y * y)), (305, np_push 2 (.int 100)), (307, np_ib (fun x y => x - y)), (308, nw_ist 2 11), (310, np_ald 1 0), (311, np_ild 2 10), (313, np_push 1 (.int 0)), (314, np_ild 2 11), (316, nw_callVX 11 4 sp_X11_set 5 1 6 106 640 []), (319, nq_pop), (320, np_ald 2 9), (322, np_ild 2 10), (324, np_ild 2 11), (326, nw_iastT .int), (327, nw_iinc 10 1), (330, np_goto 274), (333, np_ild 1 2), (334, np_ald 2 4), (336, np_push 1 (.int 2)), (337, nw_ialdT .int), (338, nq_ibn (fun x y => x - x / y * y)), (339, nw_ist 2 10), (341, np_ald 2 4), (343, np_push 1 (.int 2)), (344, nw_ialdT .int), (345, np_push 1 (.int 1)), (346, np_ib (fun x y => x - y)), (347, nw_ist 2 11), (349, np_ald 1 0), (350, np_ild 2 10), (352, np_ild 2 11), (354, nw_callVX 11 3 sp_X11_compose 6 1 6 106 640 []), (357, nw_ist 2 12), (359, np_ald 1 0), (360, np_ild 2 10), (362, np_ald 1 3), (363, nq_call 3 sp_L_tells 4 9 54 106 640), (366, np_push 2 (.int 8)), (368, nw_newa .int 8 (8, .inl fun _ => 0) 106 640), (370, np_ast 2 13), (372, np_push 1 (.int 0)), (373, nw_ist 2 14), (375, np_ild 2 14), (377, np_push 2 (.int 8)), (379, nq_ic (fun x y => y ≤ x) 406), (382, np_ild 2 12), (384, nq_if (fun x => x < 0) 406), (387, np_ald 2 13), (389, np_ild 2 14), (391, np_ald 1 0), (392, np_ild 2 12), (394, np_ild 2 14), (396, nw_callVX 11 3 sp_X11_upgraded 4 1 6 106 640 []), (399, nw_iastT .int), (400, nw_iinc 14 1), (403, np_goto 375), (406, np_ald 1 0), (407, np_ald 1 3), (408, nq_call 2 sp_L_sets 3 9 54 106 640), (411, np_push 1 (.int 0)), (412, nw_ist 2 14), (414, np_ild 2 14), (416, np_push 2 (.int 8)), (418, nq_ic (fun x y => y ≤ x) 460), (421, np_ild 2 12), (423, nq_if (fun x => x < 0) 460), (426, np_ild 2 8), (428, nq_if (fun x => x = 0) 460), (431, np_ald 1 0), (432, np_ild 2 11), (434, np_ild 2 14), (436, nw_callVX 11 3 sp_X11_upgraded 4 1 6 106 640 []), (439, np_ald 2 13), (441, np_ild 2 14), (443, nw_ialdT .int), (444, nq_icne 451), (447, np_push 1 (.int 1)), (448, np_goto 452), (451, np_push 1 (.int 0)), (452, nw_ist 2 8), (454, nw_iinc 14 1), (457, np_goto 414), (460, np_ald 2 4), (462, np_push 1 (.int 2)), (463, nq_dup2), (464, nw_ialdT .int), (465, np_ild 2 12), (467, nq_if (fun x => x < 0) 474), (470, np_push 1 (.int 1)), (471, np_goto 475), (474, np_push 1 (.int 0)), (475, np_ib (fun x y => x + y)), (476, nw_iastT .int), (477, np_ald 1 0), (478, np_ald 2 9), (480, nq_call 2 sp_L_sets 3 9 54 106 640), (483, np_ald 1 0), (484, np_ild 2 11), (486, nw_callVX 11 2 sp_X11_reverse 4 1 6 106 640 []), (489, nw_ist 2 14), (491, np_ald 1 0), (492, np_ild 2 11), (494, np_ald 1 3), (495, nq_call 3 sp_L_tells 4 9 54 106 640), (498, np_ald 1 0), (499, np_ald 1 3), (500, nq_call 2 sp_L_sets 3 9 54 106 640), (503, np_push 1 (.int 0)), (504, nw_ist 2 15), (506, np_ild 2 15), (508, np_push 2 (.int 8)), (510, nq_ic (fun x y => y ≤ x) 563), (513, np_ild 2 14), (515, nq_if (fun x => x < 0) 563), (518, np_ild 2 8), (520, nq_if (fun x => x = 0) 563), (523, np_ald 1 0), (524, np_ild 2 14), (526, np_ild 2 15), (528, nw_callVX 11 3 sp_X11_upgraded 4 1 6 106 640 []), (531, nw_ist 2 16), (533, np_ild 2 16), (535, np_push 2 (.int (-2147483648))), (537, nq_ic (fun x y => x = y) 550), (540, np_ald 2 9), (542, np_ild 2 15), (544, nw_ialdT .int), (545, np_push 2 (.int (-2147483648))), (547, nq_ic (fun x y => x = y) 554), (550, np_push 1 (.int 1)), (551, np_goto 555), (554, np_push 1 (.int 0)), (555, nw_ist 2 8), (557, nw_iinc 15 1), (560, np_goto 506), (563, np_ald 2 4), (565, np_push 1 (.int 2)), (566, nq_dup2), (567, nw_ialdT .int), (568, np_ild 2 14), (570, nq_if (fun x => x < 0) 577), (573, np_push 1 (.int 1)), (574, np_goto 578), (577, np_push 1 (.int 0)), (578, np_ib (fun x y => x + y)), (579, nw_iastT .int), (580, np_ald 1 0), (581, np_ald 2 9), (583, nq_call 2 sp_L_sets 3 9 54 106 640), (586, np_ild 2 8), (588, nq_if (fun x => x = 0) 617), (591, np_ild 2 12), (593, nq_if (fun x => 0 ≤ x) 602), (596, np_ild 2 12), (598, np_push 1 (.int (-1))), (599, nq_icne 617), (602, np_ild 2 14), (604, nq_if (fun x => 0 ≤ x) 613), (607, np_ild 2 14), (609, np_push 1 (.int (-1))), (610, nq_icne 617), (613, np_push 1 (.int 1)), (614, np_goto 618), (617, np_push 1 (.int 0)), (618, np_ret Rt)]
set_option maxRecDepth 20000 in
theorem so_L_upgrades {X : np_Ctx} {Rt : np_Rt} (hX : np_ok RL cL_upgrades 17 8 161 106 640 .ireturn X) (hR : ∀ st w ce sl, Rt st w ce sl → X.2.2.1 st w ce sl) : ∀ q ∈ is_L_upgrades Rt, np_S X q.1 q.2 :=
  List.forall_mem_cons.mpr ⟨np_s_aload hX dL_upgrades_0, List.forall_mem_cons.mpr ⟨np_s_iconst hX dL_upgrades_2 (by decide), List.forall_mem_cons.mpr ⟨np_S.mono (op := np_ialdT .int) (np_s_iald hX dL_upgrades_3) nw_ialdT_le, List.forall_mem_cons.mpr ⟨np_s_iconst hX dL_upgrades_4 (by decide), List.forall_mem_cons.mpr ⟨np_S.mono (op := np_ic (fun x y => x ≤ y) 10) (np_s_icmp_le hX dL_upgrades_5 (by decide)) nq_ic_le, List.forall_mem_cons.mpr ⟨np_s_iconst hX dL_upgrades_8 (by decide), List.forall_mem_cons.mpr ⟨np_S.mono (op := np_ret X.2.2.1) (np_s_ret hX dL_upgrades_9) (nq_ret_le hR), List.forall_mem_cons.mpr ⟨np_s_iconst hX dL_upgrades_10 (by decide), List.forall_mem_cons.mpr ⟨np_S.mono (op := np_ist 2 5) (np_s_istore hX dL_upgrades_11 (by decide)) nw_ist_le, List.forall_mem_cons.mpr ⟨np_s_iconst hX dL_upgrades_13 (by decide), List.forall_mem_cons.mpr ⟨np_S.mono (op := np_ist 2 6) (np_s_istore hX dL_upgrades_14 (by decide)) nw_ist_le, List.forall_mem_cons.mpr ⟨np_s_iload_n hX dL_upgrades_16 rfl, List.forall_mem_cons.mpr ⟨np_S.mono (op := np_ist 2 7) (np_s_istore hX dL_upgrades_17 (by decide)) nw_ist_le, List.forall_mem_cons.mpr ⟨np_s_iconst hX dL_upgrades_19 (by decide), List.forall_mem_cons.mpr ⟨np_S.mono (op := np_ist 2 8) (np_s_istore hX dL_upgrades_20 (by decide)) nw_ist_le, List.forall_mem_cons.mpr ⟨np_s_iload hX dL_upgrades_22, List.forall_mem_cons.mpr ⟨np_s_iconst hX dL_upgrades_24 (by decide), List.forall_mem_cons.mpr ⟨np_s_iload_n hX dL_upgrades_25 rfl, List.forall_mem_cons.mpr ⟨np_s_iconst hX dL_upgrades_26 (by decide), List.forall_mem_cons.mpr ⟨np_S.mono (op := np_ibn (fun x y => x - x / y * y)) (np_s_irem hX dL_upgrades_27) nq_ibn_le, List.forall_mem_cons.mpr ⟨np_s_iadd hX dL_upgrades_28, List.forall_mem_cons.mpr ⟨np_S.mono (op := np_ic (fun x y => y ≤ x) 211) (np_s_icmp_ge hX dL_upgrades_29 (by decide)) nq_ic_le, List.forall_mem_cons.mpr ⟨np_s_iload hX dL_upgrades_32, List.forall_mem_cons.mpr ⟨np_s_iconst hX dL_upgrades_34 (by decide), List.forall_mem_cons.mpr ⟨np_S.mono (op := np_ibn (fun x y => x - x / y * y)) (np_s_irem hX dL_upgrades_35) nq_ibn_le, List.forall_mem_cons.mpr ⟨np_S.mono (op := np_ist 2 9) (np_s_istore hX dL_upgrades_36 (by decide)) nw_ist_le, List.forall_mem_cons.mpr ⟨np_s_iload hX dL_upgrades_38, List.forall_mem_cons.mpr ⟨np_s_iconst hX dL_upgrades_40 (by decide), List.forall_mem_cons.mpr ⟨np_S.mono (op := np_ibn (fun x y => x / y)) (np_s_idiv hX dL_upgrades_41) nq_ibn_le, List.forall_mem_cons.mpr ⟨np_s_bipush hX dL_upgrades_42 (by decide), List.forall_mem_cons.mpr ⟨np_S.mono (op := np_ibn (fun x y => x - x / y * y)) (np_s_irem hX dL_upgrades_44) nq_ibn_le, List.forall_mem_cons.mpr ⟨np_S.mono (op := np_ist 2 10) (np_s_istore hX dL_upgrades_45 (by decide)) nw_ist_le, List.forall_mem_cons.mpr ⟨np_s_iload hX dL_upgrades_47, List.forall_mem_cons.mpr ⟨np_s_iconst hX dL_upgrades_49 (by decide), List.forall_mem_cons.mpr ⟨np_S.mono (op := np_icne 67) (np_s_icmp_ne hX dL_upgrades_50 (by decide)) nq_icne_le, List.forall_mem_cons.mpr ⟨np_s_iload hX dL_upgrades_53, List.forall_mem_cons.mpr ⟨np_s_bipush hX dL_upgrades_55 (by decide), List.forall_mem_cons.mpr ⟨np_S.mono (op := np_ibn (fun x y => x / y)) (np_s_idiv hX dL_upgrades_57) nq_ibn_le, List.forall_mem_cons.mpr ⟨np_s_bipush hX dL_upgrades_58 (by decide), List.forall_mem_cons.mpr ⟨np_S.mono (op := np_ibn (fun x y => x - x / y * y)) (np_s_irem hX dL_upgrades_60) nq_ibn_le, List.forall_mem_cons.mpr ⟨np_s_bipush hX dL_upgrades_61 (by decide), List.forall_mem_cons.mpr ⟨np_s_isub hX dL_upgrades_63, List.forall_mem_cons.mpr ⟨np_s_goto hX dL_upgrades_64 (by decide), List.forall_mem_cons.mpr ⟨np_s_iload hX dL_upgrades_67, List.forall_mem_cons.mpr ⟨np_s_bipush hX dL_upgrades_69 (by decide), List.forall_mem_cons.mpr ⟨np_S.mono (op := np_ibn (fun x y => x / y)) (np_s_idiv hX dL_upgrades_71) nq_ibn_le, List.forall_mem_cons.mpr ⟨np_s_bipush hX dL_upgrades_72 (by decide), List.forall_mem_cons.mpr ⟨np_S.mono (op := np_ibn (fun x y => x - x / y * y)) (np_s_irem hX dL_upgrades_74) nq_ibn_le, List.forall_mem_cons.mpr ⟨np_S.mono (op := np_ist 2 11) (np_s_istore hX dL_upgrades_75 (by decide)) nw_ist_le, List.forall_mem_cons.mpr ⟨np_s_iload hX dL_upgrades_77, List.forall_mem_cons.mpr ⟨np_s_iconst hX dL_upgrades_79 (by decide), List.forall_mem_cons.mpr ⟨np_S.mono (op := np_icne 98) (np_s_icmp_ne hX dL_upgrades_80 (by decide)) nq_icne_le, List.forall_mem_cons.mpr ⟨np_s_iload hX dL_upgrades_83, List.forall_mem_cons.mpr ⟨np_s_sipush hX dL_upgrades_85 (by decide), List.forall_mem_cons.mpr ⟨np_S.mono (op := np_ibn (fun x y => x / y)) (np_s_idiv hX dL_upgrades_88) nq_ibn_le, List.forall_mem_cons.mpr ⟨np_s_bipush hX dL_upgrades_89 (by decide), List.forall_mem_cons.mpr ⟨np_S.mono (op := np_ibn (fun x y => x - x / y * y)) (np_s_irem hX dL_upgrades_91) nq_ibn_le, List.forall_mem_cons.mpr ⟨np_s_bipush hX dL_upgrades_92 (by decide), List.forall_mem_cons.mpr ⟨np_s_isub hX dL_upgrades_94, List.forall_mem_cons.mpr ⟨np_s_goto hX dL_upgrades_95 (by decide), List.forall_mem_cons.mpr ⟨np_s_iload hX dL_upgrades_98, List.forall_mem_cons.mpr ⟨np_s_iconst hX dL_upgrades_100 (by decide), List.forall_mem_cons.mpr ⟨np_S.mono (op := np_icne 118) (np_s_icmp_ne hX dL_upgrades_101 (by decide)) nq_icne_le, List.forall_mem_cons.mpr ⟨np_s_iconst hX dL_upgrades_104 (by decide), List.forall_mem_cons.mpr ⟨np_s_iload hX dL_upgrades_105, List.forall_mem_cons.mpr ⟨np_s_sipush hX dL_upgrades_107 (by decide), List.forall_mem_cons.mpr ⟨np_S.mono (op := np_ibn (fun x y => x / y)) (np_s_idiv hX dL_upgrades_110) nq_ibn_le, List.forall_mem_cons.mpr ⟨np_s_bipush hX dL_upgrades_111 (by decide), List.forall_mem_cons.mpr ⟨np_S.mono (op := np_ibn (fun x y => x - x / y * y)) (np_s_irem hX dL_upgrades_113) nq_ibn_le, List.forall_mem_cons.mpr ⟨np_s_iadd hX dL_upgrades_114, List.forall_mem_cons.mpr ⟨np_s_goto hX dL_upgrades_115 (by decide), List.forall_mem_cons.mpr ⟨np_s_iload hX dL_upgrades_118, List.forall_mem_cons.mpr ⟨np_s_iconst hX dL_upgrades_120 (by decide), List.forall_mem_cons.mpr ⟨np_S.mono (op := np_icne 136) (np_s_icmp_ne hX dL_upgrades_121 (by decide)) nq_icne_le, List.forall_mem_cons.mpr ⟨np_s_iload hX dL_upgrades_124, List.forall_mem_cons.mpr ⟨np_s_sipush hX dL_upgrades_126 (by decide), List.forall_mem_cons.mpr ⟨np_S.mono (op := np_ibn (fun x y => x / y)) (np_s_idiv hX dL_upgrades_129) nq_ibn_le, List.forall_mem_cons.mpr ⟨np_s_bipush hX dL_upgrades_130 (by decide), List.forall_mem_cons.mpr ⟨np_S.mono (op := np_ibn (fun x y => x - x / y * y)) (np_s_irem hX dL_upgrades_132) nq_ibn_le, List.forall_mem_cons.mpr ⟨np_s_goto hX dL_upgrades_133 (by decide), List.forall_mem_cons.mpr ⟨np_s_iconst hX dL_upgrades_136 (by decide), List.forall_mem_cons.mpr ⟨np_S.mono (op := np_ist 2 12) (np_s_istore hX dL_upgrades_137 (by decide)) nw_ist_le, List.forall_mem_cons.mpr ⟨np_s_iload hX dL_upgrades_139, List.forall_mem_cons.mpr ⟨np_s_iload hX dL_upgrades_141, List.forall_mem_cons.mpr ⟨np_s_iload hX dL_upgrades_143, List.forall_mem_cons.mpr ⟨np_s_ishr hX dL_upgrades_145, List.forall_mem_cons.mpr ⟨np_s_iconst hX dL_upgrades_146 (by decide), List.forall_mem_cons.mpr ⟨np_s_iand hX dL_upgrades_147, List.forall_mem_cons.mpr ⟨np_S.mono (op := np_ifne 155) (np_s_if_ne hX dL_upgrades_148 (by decide)) nq_ifne_le, List.forall_mem_cons.mpr ⟨np_s_iconst hX dL_upgrades_151 (by decide), List.forall_mem_cons.mpr ⟨np_s_goto hX dL_upgrades_152 (by decide), List.forall_mem_cons.mpr ⟨np_s_iconst hX dL_upgrades_155 (by decide), List.forall_mem_cons.mpr ⟨np_s_iadd hX dL_upgrades_156, List.forall_mem_cons.mpr ⟨np_S.mono (op := np_ist 2 5) (np_s_istore hX dL_upgrades_157 (by decide)) nw_ist_le, List.forall_mem_cons.mpr ⟨np_s_iload hX dL_upgrades_159, List.forall_mem_cons.mpr ⟨np_s_iconst hX dL_upgrades_161 (by decide), List.forall_mem_cons.mpr ⟨np_s_iload hX dL_upgrades_162, List.forall_mem_cons.mpr ⟨np_s_ishl hX dL_upgrades_164, List.forall_mem_cons.mpr ⟨np_s_ior hX dL_upgrades_165, List.forall_mem_cons.mpr ⟨np_S.mono (op := np_ist 2 6) (np_s_istore hX dL_upgrades_166 (by decide)) nw_ist_le, List.forall_mem_cons.mpr ⟨np_s_aload_n hX dL_upgrades_168 rfl, List.forall_mem_cons.mpr ⟨np_s_iload hX dL_upgrades_169, List.forall_mem_cons.mpr ⟨np_s_iload hX dL_upgrades_171, List.forall_mem_cons.mpr ⟨np_s_iload hX dL_upgrades_173, List.forall_mem_cons.mpr ⟨np_s_iload hX dL_upgrades_175, List.forall_mem_cons.mpr ⟨np_S.mono (op := np_callVX 11 5 sp_X11_change 6 1 6 106 640 []) (np_s_callVX hX C_X11_change dL_upgrades_177 (q := (RX11, TX11, 14)) rfl rfl gw1290 gw63 gw1287 gw1288 gw1289 ⟨by decide, by decide, by decide⟩ (by decide) (by decide) (fun _ h => nomatch h)) (nw_callVX_le2 (ci := 11) (n := 5) (sp := sp_X11_change) (maxL := 6) (mc := 1) (ms := 6) (RC := 106) (RS := 640) (hs := [])), List.forall_mem_cons.mpr ⟨np_s_iload hX dL_upgrades_180, List.forall_mem_cons.mpr ⟨np_S.mono (op := np_ic (fun x y => x = y) 187) (np_s_icmp_eq hX dL_upgrades_182 (by decide)) nq_ic_le, List.forall_mem_cons.mpr ⟨np_s_iconst hX dL_upgrades_185 (by decide), List.forall_mem_cons.mpr ⟨np_S.mono (op := np_ret X.2.2.1) (np_s_ret hX dL_upgrades_186) (nq_ret_le hR), List.forall_mem_cons.mpr ⟨np_s_iload hX dL_upgrades_187, List.forall_mem_cons.mpr ⟨np_s_iconst hX dL_upgrades_189 (by decide), List.forall_mem_cons.mpr ⟨np_s_ishr hX dL_upgrades_190, List.forall_mem_cons.mpr ⟨np_s_ldc hX dL_upgrades_191 gw1306, List.forall_mem_cons.mpr ⟨np_s_iload_n hX dL_upgrades_193 rfl, List.forall_mem_cons.mpr ⟨np_s_sipush hX dL_upgrades_194 (by decide), List.forall_mem_cons.mpr ⟨np_S.mono (op := np_ibn (fun x y => x - x / y * y)) (np_s_irem hX dL_upgrades_197) nq_ibn_le, List.forall_mem_cons.mpr ⟨np_s_iload hX dL_upgrades_198, List.forall_mem_cons.mpr ⟨np_s_iadd hX dL_upgrades_200, List.forall_mem_cons.mpr ⟨np_s_imul hX dL_upgrades_201, List.forall_mem_cons.mpr ⟨np_s_iadd hX dL_upgrades_202, List.forall_mem_cons.mpr ⟨np_S.mono (op := np_ist 2 7) (np_s_istore hX dL_upgrades_203 (by decide)) nw_ist_le, List.forall_mem_cons.mpr ⟨np_S.mono (op := np_iinc 8 1) (np_s_iinc hX dL_upgrades_205 (by decide)) nw_iinc_le, List.forall_mem_cons.mpr ⟨np_s_goto hX dL_upgrades_208 (by decide), List.forall_mem_cons.mpr ⟨np_s_aload_n hX dL_upgrades_211 rfl, List.forall_mem_cons.mpr ⟨np_S.mono (op := np_callVX 11 1 sp_X11_upgrade 2 1 6 106 640 []) (np_s_callVX hX C_X11_upgrade dL_upgrades_212 (q := (RX11, TX11, 14)) rfl rfl gw1310 gw63 gw1307 gw1308 gw1309 ⟨by decide, by decide, by decide⟩ (by decide) (by decide) (fun _ h => nomatch h)) (nw_callVX_le2 (ci := 11) (n := 1) (sp := sp_X11_upgrade) (maxL := 2) (mc := 1) (ms := 6) (RC := 106) (RS := 640) (hs := [])), List.forall_mem_cons.mpr ⟨np_s_aload hX dL_upgrades_215, List.forall_mem_cons.mpr ⟨np_s_iconst hX dL_upgrades_217 (by decide), List.forall_mem_cons.mpr ⟨np_S.mono (op := np_ialdT .int) (np_s_iald hX dL_upgrades_218) nw_ialdT_le, List.forall_mem_cons.mpr ⟨np_S.mono (op := np_icne 254) (np_s_icmp_ne hX dL_upgrades_219 (by decide)) nq_icne_le, List.forall_mem_cons.mpr ⟨np_s_aload_n hX dL_upgrades_222 rfl, List.forall_mem_cons.mpr ⟨np_s_aload hX dL_upgrades_223, List.forall_mem_cons.mpr ⟨np_s_iconst hX dL_upgrades_225 (by decide), List.forall_mem_cons.mpr ⟨np_S.mono (op := np_ialdT .int) (np_s_iald hX dL_upgrades_226) nw_ialdT_le, List.forall_mem_cons.mpr ⟨np_S.mono (op := np_callVX 11 2 sp_X11_parts 3 1 6 106 640 []) (np_s_callVX hX C_X11_parts dL_upgrades_227 (q := (RX11, TX11, 14)) rfl rfl gw1337 gw63 gw1334 gw1335 gw1336 ⟨by decide, by decide, by decide⟩ (by decide) (by decide) (fun _ h => nomatch h)) (nw_callVX_le2 (ci := 11) (n := 2) (sp := sp_X11_parts) (maxL := 3) (mc := 1) (ms := 6) (RC := 106) (RS := 640) (hs := [])), List.forall_mem_cons.mpr ⟨np_s_iload hX dL_upgrades_230, List.forall_mem_cons.mpr ⟨np_S.mono (op := np_ic (fun x y => x < y) 254) (np_s_icmp_lt hX dL_upgrades_232 (by decide)) nq_ic_le, List.forall_mem_cons.mpr ⟨np_s_aload_n hX dL_upgrades_235 rfl, List.forall_mem_cons.mpr ⟨np_s_aload hX dL_upgrades_236, List.forall_mem_cons.mpr ⟨np_s_iconst hX dL_upgrades_238 (by decide), List.forall_mem_cons.mpr ⟨np_S.mono (op := np_ialdT .int) (np_s_iald hX dL_upgrades_239) nw_ialdT_le, List.forall_mem_cons.mpr ⟨np_S.mono (op := np_callVX 11 2 sp_X11_parts 3 1 6 106 640 []) (np_s_callVX hX C_X11_parts dL_upgrades_240 (q := (RX11, TX11, 14)) rfl rfl gw1337 gw63 gw1334 gw1335 gw1336 ⟨by decide, by decide, by decide⟩ (by decide) (by decide) (fun _ h => nomatch h)) (nw_callVX_le2 (ci := 11) (n := 2) (sp := sp_X11_parts) (maxL := 3) (mc := 1) (ms := 6) (RC := 106) (RS := 640) (hs := [])), List.forall_mem_cons.mpr ⟨np_s_iconst hX dL_upgrades_243 (by decide), List.forall_mem_cons.mpr ⟨np_s_iload hX dL_upgrades_244, List.forall_mem_cons.mpr ⟨np_s_imul hX dL_upgrades_246, List.forall_mem_cons.mpr ⟨np_S.mono (op := np_ic (fun x y => y < x) 254) (np_s_icmp_gt hX dL_upgrades_247 (by decide)) nq_ic_le, List.forall_mem_cons.mpr ⟨np_s_iconst hX dL_upgrades_250 (by decide), List.forall_mem_cons.mpr ⟨np_s_goto hX dL_upgrades_251 (by decide), List.forall_mem_cons.mpr ⟨np_s_iconst hX dL_upgrades_254 (by decide), List.forall_mem_cons.mpr ⟨np_S.mono (op := np_ist 2 8) (np_s_istore hX dL_upgrades_255 (by decide)) nw_ist_le, List.forall_mem_cons.mpr ⟨np_s_aload hX dL_upgrades_257, List.forall_mem_cons.mpr ⟨np_s_iconst hX dL_upgrades_259 (by decide), List.forall_mem_cons.mpr ⟨np_S.mono (op := np_dup2) (np_s_dup2 hX dL_upgrades_260) nq_dup2_le, List.forall_mem_cons.mpr ⟨np_S.mono (op := np_ialdT .int) (np_s_iald hX dL_upgrades_261) nw_ialdT_le, List.forall_mem_cons.mpr ⟨np_s_iconst hX dL_upgrades_262 (by decide), List.forall_mem_cons.mpr ⟨np_s_iadd hX dL_upgrades_263, List.forall_mem_cons.mpr ⟨np_S.mono (op := np_iastT .int) (np_s_iast hX dL_upgrades_264) nw_iastT_le, List.forall_mem_cons.mpr ⟨np_s_bipush hX dL_upgrades_265 (by decide), List.forall_mem_cons.mpr ⟨np_S.mono (op := nq_newa .int 8 (8, .inl fun _ => 0) 106 640) (np_S.mono (op := np_newa .int 8 (8, .inl fun _ => 0) 106 640) (np_s_newa hX dL_upgrades_267 rfl gw118 (by decide) (by intro C h; cases h) (by decide) (fun _ => vp_cell_i _ _ _) (by decide) (fun _ _ => rfl) (fun _ => trivial)) nq_newa_le) nw_newa_le, List.forall_mem_cons.mpr ⟨np_s_astore hX dL_upgrades_269 (by decide), List.forall_mem_cons.mpr ⟨np_s_iconst hX dL_upgrades_271 (by decide), List.forall_mem_cons.mpr ⟨np_S.mono (op := np_ist 2 10) (np_s_istore hX dL_upgrades_272 (by decide)) nw_ist_le, List.forall_mem_cons.mpr ⟨np_s_iload hX dL_upgrades_274, List.forall_mem_cons.mpr ⟨np_s_bipush hX dL_upgrades_276 (by decide), List.forall_mem_cons.mpr ⟨np_S.mono (op := np_ic (fun x y => y ≤ x) 333) (np_s_icmp_ge hX dL_upgrades_278 (by decide)) nq_ic_le, List.forall_mem_cons.mpr ⟨np_s_iload_n hX dL_upgrades_281 rfl, List.forall_mem_cons.mpr ⟨np_s_iload hX dL_upgrades_282, List.forall_mem_cons.mpr ⟨np_s_iconst hX dL_upgrades_284 (by decide), List.forall_mem_cons.mpr ⟨np_s_iadd hX dL_upgrades_285, List.forall_mem_cons.mpr ⟨np_S.mono (op := np_ibn (fun x y => x / y)) (np_s_idiv hX dL_upgrades_286) nq_ibn_le, List.forall_mem_cons.mpr ⟨np_s_iconst hX dL_upgrades_287 (by decide), List.forall_mem_cons.mpr ⟨np_S.mono (op := np_ibn (fun x y => x - x / y * y)) (np_s_irem hX dL_upgrades_288) nq_ibn_le, List.forall_mem_cons.mpr ⟨np_S.mono (op := np_ifne 297) (np_s_if_ne hX dL_upgrades_289 (by decide)) nq_ifne_le, List.forall_mem_cons.mpr ⟨np_s_ldc hX dL_upgrades_292 gw1266, List.forall_mem_cons.mpr ⟨np_s_goto hX dL_upgrades_294 (by decide), List.forall_mem_cons.mpr ⟨np_s_iload_n hX dL_upgrades_297 rfl, List.forall_mem_cons.mpr ⟨np_s_iload hX dL_upgrades_298, List.forall_mem_cons.mpr ⟨np_s_ishr hX dL_upgrades_300, List.forall_mem_cons.mpr ⟨np_s_sipush hX dL_upgrades_301 (by decide), List.forall_mem_cons.mpr ⟨np_S.mono (op := np_ibn (fun x y => x - x / y * y)) (np_s_irem hX dL_upgrades_304) nq_ibn_le, List.forall_mem_cons.mpr ⟨np_s_bipush hX dL_upgrades_305 (by decide), List.forall_mem_cons.mpr ⟨np_s_isub hX dL_upgrades_307, List.forall_mem_cons.mpr ⟨np_S.mono (op := np_ist 2 11) (np_s_istore hX dL_upgrades_308 (by decide)) nw_ist_le, List.forall_mem_cons.mpr ⟨np_s_aload_n hX dL_upgrades_310 rfl, List.forall_mem_cons.mpr ⟨np_s_iload hX dL_upgrades_311, List.forall_mem_cons.mpr ⟨np_s_iconst hX dL_upgrades_313 (by decide), List.forall_mem_cons.mpr ⟨np_s_iload hX dL_upgrades_314, List.forall_mem_cons.mpr ⟨np_S.mono (op := np_callVX 11 4 sp_X11_set 5 1 6 106 640 []) (np_s_callVX hX C_X11_set dL_upgrades_316 (q := (RX11, TX11, 14)) rfl rfl gw1346 gw63 gw1343 gw1344 gw1345 ⟨by decide, by decide, by decide⟩ (by decide) (by decide) (fun _ h => nomatch h)) (nw_callVX_le2 (ci := 11) (n := 4) (sp := sp_X11_set) (maxL := 5) (mc := 1) (ms := 6) (RC := 106) (RS := 640) (hs := [])), List.forall_mem_cons.mpr ⟨np_S.mono (op := np_pop) (np_s_pop hX dL_upgrades_319) nq_pop_le, List.forall_mem_cons.mpr ⟨np_s_aload hX dL_upgrades_320, List.forall_mem_cons.mpr ⟨np_s_iload hX dL_upgrades_322, List.forall_mem_cons.mpr ⟨np_s_iload hX dL_upgrades_324, List.forall_mem_cons.mpr ⟨np_S.mono (op := np_iastT .int) (np_s_iast hX dL_upgrades_326) nw_iastT_le, List.forall_mem_cons.mpr ⟨np_S.mono (op := np_iinc 10 1) (np_s_iinc hX dL_upgrades_327 (by decide)) nw_iinc_le, List.forall_mem_cons.mpr ⟨np_s_goto hX dL_upgrades_330 (by decide), List.forall_mem_cons.mpr ⟨np_s_iload_n hX dL_upgrades_333 rfl, List.forall_mem_cons.mpr ⟨np_s_aload hX dL_upgrades_334, List.forall_mem_cons.mpr ⟨np_s_iconst hX dL_upgrades_336 (by decide), List.forall_mem_cons.mpr ⟨np_S.mono (op := np_ialdT .int) (np_s_iald hX dL_upgrades_337) nw_ialdT_le, List.forall_mem_cons.mpr ⟨np_S.mono (op := np_ibn (fun x y => x - x / y * y)) (np_s_irem hX dL_upgrades_338) nq_ibn_le, List.forall_mem_cons.mpr ⟨np_S.mono (op := np_ist 2 10) (np_s_istore hX dL_upgrades_339 (by decide)) nw_ist_le, List.forall_mem_cons.mpr ⟨np_s_aload hX dL_upgrades_341, List.forall_mem_cons.mpr ⟨np_s_iconst hX dL_upgrades_343 (by decide), List.forall_mem_cons.mpr ⟨np_S.mono (op := np_ialdT .int) (np_s_iald hX dL_upgrades_344) nw_ialdT_le, List.forall_mem_cons.mpr ⟨np_s_iconst hX dL_upgrades_345 (by decide), List.forall_mem_cons.mpr ⟨np_s_isub hX dL_upgrades_346, List.forall_mem_cons.mpr ⟨np_S.mono (op := np_ist 2 11) (np_s_istore hX dL_upgrades_347 (by decide)) nw_ist_le, List.forall_mem_cons.mpr ⟨np_s_aload_n hX dL_upgrades_349 rfl, List.forall_mem_cons.mpr ⟨np_s_iload hX dL_upgrades_350, List.forall_mem_cons.mpr ⟨np_s_iload hX dL_upgrades_352, List.forall_mem_cons.mpr ⟨np_S.mono (op := np_callVX 11 3 sp_X11_compose 6 1 6 106 640 []) (np_s_callVX hX C_X11_compose dL_upgrades_354 (q := (RX11, TX11, 14)) rfl rfl gw1351 gw63 gw1348 gw1349 gw1350 ⟨by decide, by decide, by decide⟩ (by decide) (by decide) (fun _ h => nomatch h)) (nw_callVX_le2 (ci := 11) (n := 3) (sp := sp_X11_compose) (maxL := 6) (mc := 1) (ms := 6) (RC := 106) (RS := 640) (hs := [])), List.forall_mem_cons.mpr ⟨np_S.mono (op := np_ist 2 12) (np_s_istore hX dL_upgrades_357 (by decide)) nw_ist_le, List.forall_mem_cons.mpr ⟨np_s_aload_n hX dL_upgrades_359 rfl, List.forall_mem_cons.mpr ⟨np_s_iload hX dL_upgrades_360, List.forall_mem_cons.mpr ⟨np_s_aload_n hX dL_upgrades_362 rfl, List.forall_mem_cons.mpr ⟨np_S.mono (op := np_call 3 sp_L_tells 4 9 54 106 640) (np_s_callS hX C_L_tells dL_upgrades_363 gw1390 gw62 gw1388 gw1389 ⟨by decide, by decide, by decide⟩ (by decide) (by decide)) nq_call_le, List.forall_mem_cons.mpr ⟨np_s_bipush hX dL_upgrades_366 (by decide), List.forall_mem_cons.mpr ⟨np_S.mono (op := nq_newa .int 8 (8, .inl fun _ => 0) 106 640) (np_S.mono (op := np_newa .int 8 (8, .inl fun _ => 0) 106 640) (np_s_newa hX dL_upgrades_368 rfl gw118 (by decide) (by intro C h; cases h) (by decide) (fun _ => vp_cell_i _ _ _) (by decide) (fun _ _ => rfl) (fun _ => trivial)) nq_newa_le) nw_newa_le, List.forall_mem_cons.mpr ⟨np_s_astore hX dL_upgrades_370 (by decide), List.forall_mem_cons.mpr ⟨np_s_iconst hX dL_upgrades_372 (by decide), List.forall_mem_cons.mpr ⟨np_S.mono (op := np_ist 2 14) (np_s_istore hX dL_upgrades_373 (by decide)) nw_ist_le, List.forall_mem_cons.mpr ⟨np_s_iload hX dL_upgrades_375, List.forall_mem_cons.mpr ⟨np_s_bipush hX dL_upgrades_377 (by decide), List.forall_mem_cons.mpr ⟨np_S.mono (op := np_ic (fun x y => y ≤ x) 406) (np_s_icmp_ge hX dL_upgrades_379 (by decide)) nq_ic_le, List.forall_mem_cons.mpr ⟨np_s_iload hX dL_upgrades_382, List.forall_mem_cons.mpr ⟨np_S.mono (op := np_if (fun x => x < 0) 406) (np_s_if_lt hX dL_upgrades_384 (by decide)) nq_if_le, List.forall_mem_cons.mpr ⟨np_s_aload hX dL_upgrades_387, List.forall_mem_cons.mpr ⟨np_s_iload hX dL_upgrades_389, List.forall_mem_cons.mpr ⟨np_s_aload_n hX dL_upgrades_391 rfl, List.forall_mem_cons.mpr ⟨np_s_iload hX dL_upgrades_392, List.forall_mem_cons.mpr ⟨np_s_iload hX dL_upgrades_394, List.forall_mem_cons.mpr ⟨np_S.mono (op := np_callVX 11 3 sp_X11_upgraded 4 1 6 106 640 []) (np_s_callVX hX C_X11_upgraded dL_upgrades_396 (q := (RX11, TX11, 14)) rfl rfl gw1394 gw63 gw1391 gw1392 gw1393 ⟨by decide, by decide, by decide⟩ (by decide) (by decide) (fun _ h => nomatch h)) (nw_callVX_le2 (ci := 11) (n := 3) (sp := sp_X11_upgraded) (maxL := 4) (mc := 1) (ms := 6) (RC := 106) (RS := 640) (hs := [])), List.forall_mem_cons.mpr ⟨np_S.mono (op := np_iastT .int) (np_s_iast hX dL_upgrades_399) nw_iastT_le, List.forall_mem_cons.mpr ⟨np_S.mono (op := np_iinc 14 1) (np_s_iinc hX dL_upgrades_400 (by decide)) nw_iinc_le, List.forall_mem_cons.mpr ⟨np_s_goto hX dL_upgrades_403 (by decide), List.forall_mem_cons.mpr ⟨np_s_aload_n hX dL_upgrades_406 rfl, List.forall_mem_cons.mpr ⟨np_s_aload_n hX dL_upgrades_407 rfl, List.forall_mem_cons.mpr ⟨np_S.mono (op := np_call 2 sp_L_sets 3 9 54 106 640) (np_s_callS hX C_L_sets dL_upgrades_408 gw1422 gw62 gw1420 gw1421 ⟨by decide, by decide, by decide⟩ (by decide) (by decide)) nq_call_le, List.forall_mem_cons.mpr ⟨np_s_iconst hX dL_upgrades_411 (by decide), List.forall_mem_cons.mpr ⟨np_S.mono (op := np_ist 2 14) (np_s_istore hX dL_upgrades_412 (by decide)) nw_ist_le, List.forall_mem_cons.mpr ⟨np_s_iload hX dL_upgrades_414, List.forall_mem_cons.mpr ⟨np_s_bipush hX dL_upgrades_416 (by decide), List.forall_mem_cons.mpr ⟨np_S.mono (op := np_ic (fun x y => y ≤ x) 460) (np_s_icmp_ge hX dL_upgrades_418 (by decide)) nq_ic_le, List.forall_mem_cons.mpr ⟨np_s_iload hX dL_upgrades_421, List.forall_mem_cons.mpr ⟨np_S.mono (op := np_if (fun x => x < 0) 460) (np_s_if_lt hX dL_upgrades_423 (by decide)) nq_if_le, List.forall_mem_cons.mpr ⟨np_s_iload hX dL_upgrades_426, List.forall_mem_cons.mpr ⟨np_S.mono (op := np_if (fun x => x = 0) 460) (np_s_if_eq hX dL_upgrades_428 (by decide)) nq_if_le, List.forall_mem_cons.mpr ⟨np_s_aload_n hX dL_upgrades_431 rfl, List.forall_mem_cons.mpr ⟨np_s_iload hX dL_upgrades_432, List.forall_mem_cons.mpr ⟨np_s_iload hX dL_upgrades_434, List.forall_mem_cons.mpr ⟨np_S.mono (op := np_callVX 11 3 sp_X11_upgraded 4 1 6 106 640 []) (np_s_callVX hX C_X11_upgraded dL_upgrades_436 (q := (RX11, TX11, 14)) rfl rfl gw1394 gw63 gw1391 gw1392 gw1393 ⟨by decide, by decide, by decide⟩ (by decide) (by decide) (fun _ h => nomatch h)) (nw_callVX_le2 (ci := 11) (n := 3) (sp := sp_X11_upgraded) (maxL := 4) (mc := 1) (ms := 6) (RC := 106) (RS := 640) (hs := [])), List.forall_mem_cons.mpr ⟨np_s_aload hX dL_upgrades_439, List.forall_mem_cons.mpr ⟨np_s_iload hX dL_upgrades_441, List.forall_mem_cons.mpr ⟨np_S.mono (op := np_ialdT .int) (np_s_iald hX dL_upgrades_443) nw_ialdT_le, List.forall_mem_cons.mpr ⟨np_S.mono (op := np_icne 451) (np_s_icmp_ne hX dL_upgrades_444 (by decide)) nq_icne_le, List.forall_mem_cons.mpr ⟨np_s_iconst hX dL_upgrades_447 (by decide), List.forall_mem_cons.mpr ⟨np_s_goto hX dL_upgrades_448 (by decide), List.forall_mem_cons.mpr ⟨np_s_iconst hX dL_upgrades_451 (by decide), List.forall_mem_cons.mpr ⟨np_S.mono (op := np_ist 2 8) (np_s_istore hX dL_upgrades_452 (by decide)) nw_ist_le, List.forall_mem_cons.mpr ⟨np_S.mono (op := np_iinc 14 1) (np_s_iinc hX dL_upgrades_454 (by decide)) nw_iinc_le, List.forall_mem_cons.mpr ⟨np_s_goto hX dL_upgrades_457 (by decide), List.forall_mem_cons.mpr ⟨np_s_aload hX dL_upgrades_460, List.forall_mem_cons.mpr ⟨np_s_iconst hX dL_upgrades_462 (by decide), List.forall_mem_cons.mpr ⟨np_S.mono (op := np_dup2) (np_s_dup2 hX dL_upgrades_463) nq_dup2_le, List.forall_mem_cons.mpr ⟨np_S.mono (op := np_ialdT .int) (np_s_iald hX dL_upgrades_464) nw_ialdT_le, List.forall_mem_cons.mpr ⟨np_s_iload hX dL_upgrades_465, List.forall_mem_cons.mpr ⟨np_S.mono (op := np_if (fun x => x < 0) 474) (np_s_if_lt hX dL_upgrades_467 (by decide)) nq_if_le, List.forall_mem_cons.mpr ⟨np_s_iconst hX dL_upgrades_470 (by decide), List.forall_mem_cons.mpr ⟨np_s_goto hX dL_upgrades_471 (by decide), List.forall_mem_cons.mpr ⟨np_s_iconst hX dL_upgrades_474 (by decide), List.forall_mem_cons.mpr ⟨np_s_iadd hX dL_upgrades_475, List.forall_mem_cons.mpr ⟨np_S.mono (op := np_iastT .int) (np_s_iast hX dL_upgrades_476) nw_iastT_le, List.forall_mem_cons.mpr ⟨np_s_aload_n hX dL_upgrades_477 rfl, List.forall_mem_cons.mpr ⟨np_s_aload hX dL_upgrades_478, List.forall_mem_cons.mpr ⟨np_S.mono (op := np_call 2 sp_L_sets 3 9 54 106 640) (np_s_callS hX C_L_sets dL_upgrades_480 gw1422 gw62 gw1420 gw1421 ⟨by decide, by decide, by decide⟩ (by decide) (by decide)) nq_call_le, List.forall_mem_cons.mpr ⟨np_s_aload_n hX dL_upgrades_483 rfl, List.forall_mem_cons.mpr ⟨np_s_iload hX dL_upgrades_484, List.forall_mem_cons.mpr ⟨np_S.mono (op := np_callVX 11 2 sp_X11_reverse 4 1 6 106 640 []) (np_s_callVX hX C_X11_reverse dL_upgrades_486 (q := (RX11, TX11, 14)) rfl rfl gw1426 gw63 gw1423 gw1424 gw1425 ⟨by decide, by decide, by decide⟩ (by decide) (by decide) (fun _ h => nomatch h)) (nw_callVX_le2 (ci := 11) (n := 2) (sp := sp_X11_reverse) (maxL := 4) (mc := 1) (ms := 6) (RC := 106) (RS := 640) (hs := [])), List.forall_mem_cons.mpr ⟨np_S.mono (op := np_ist 2 14) (np_s_istore hX dL_upgrades_489 (by decide)) nw_ist_le, List.forall_mem_cons.mpr ⟨np_s_aload_n hX dL_upgrades_491 rfl, List.forall_mem_cons.mpr ⟨np_s_iload hX dL_upgrades_492, List.forall_mem_cons.mpr ⟨np_s_aload_n hX dL_upgrades_494 rfl, List.forall_mem_cons.mpr ⟨np_S.mono (op := np_call 3 sp_L_tells 4 9 54 106 640) (np_s_callS hX C_L_tells dL_upgrades_495 gw1390 gw62 gw1388 gw1389 ⟨by decide, by decide, by decide⟩ (by decide) (by decide)) nq_call_le, List.forall_mem_cons.mpr ⟨np_s_aload_n hX dL_upgrades_498 rfl, List.forall_mem_cons.mpr ⟨np_s_aload_n hX dL_upgrades_499 rfl, List.forall_mem_cons.mpr ⟨np_S.mono (op := np_call 2 sp_L_sets 3 9 54 106 640) (np_s_callS hX C_L_sets dL_upgrades_500 gw1422 gw62 gw1420 gw1421 ⟨by decide, by decide, by decide⟩ (by decide) (by decide)) nq_call_le, List.forall_mem_cons.mpr ⟨np_s_iconst hX dL_upgrades_503 (by decide), List.forall_mem_cons.mpr ⟨np_S.mono (op := np_ist 2 15) (np_s_istore hX dL_upgrades_504 (by decide)) nw_ist_le, List.forall_mem_cons.mpr ⟨np_s_iload hX dL_upgrades_506, List.forall_mem_cons.mpr ⟨np_s_bipush hX dL_upgrades_508 (by decide), List.forall_mem_cons.mpr ⟨np_S.mono (op := np_ic (fun x y => y ≤ x) 563) (np_s_icmp_ge hX dL_upgrades_510 (by decide)) nq_ic_le, List.forall_mem_cons.mpr ⟨np_s_iload hX dL_upgrades_513, List.forall_mem_cons.mpr ⟨np_S.mono (op := np_if (fun x => x < 0) 563) (np_s_if_lt hX dL_upgrades_515 (by decide)) nq_if_le, List.forall_mem_cons.mpr ⟨np_s_iload hX dL_upgrades_518, List.forall_mem_cons.mpr ⟨np_S.mono (op := np_if (fun x => x = 0) 563) (np_s_if_eq hX dL_upgrades_520 (by decide)) nq_if_le, List.forall_mem_cons.mpr ⟨np_s_aload_n hX dL_upgrades_523 rfl, List.forall_mem_cons.mpr ⟨np_s_iload hX dL_upgrades_524, List.forall_mem_cons.mpr ⟨np_s_iload hX dL_upgrades_526, List.forall_mem_cons.mpr ⟨np_S.mono (op := np_callVX 11 3 sp_X11_upgraded 4 1 6 106 640 []) (np_s_callVX hX C_X11_upgraded dL_upgrades_528 (q := (RX11, TX11, 14)) rfl rfl gw1394 gw63 gw1391 gw1392 gw1393 ⟨by decide, by decide, by decide⟩ (by decide) (by decide) (fun _ h => nomatch h)) (nw_callVX_le2 (ci := 11) (n := 3) (sp := sp_X11_upgraded) (maxL := 4) (mc := 1) (ms := 6) (RC := 106) (RS := 640) (hs := [])), List.forall_mem_cons.mpr ⟨np_S.mono (op := np_ist 2 16) (np_s_istore hX dL_upgrades_531 (by decide)) nw_ist_le, List.forall_mem_cons.mpr ⟨np_s_iload hX dL_upgrades_533, List.forall_mem_cons.mpr ⟨np_s_ldc hX dL_upgrades_535 gw1266, List.forall_mem_cons.mpr ⟨np_S.mono (op := np_ic (fun x y => x = y) 550) (np_s_icmp_eq hX dL_upgrades_537 (by decide)) nq_ic_le, List.forall_mem_cons.mpr ⟨np_s_aload hX dL_upgrades_540, List.forall_mem_cons.mpr ⟨np_s_iload hX dL_upgrades_542, List.forall_mem_cons.mpr ⟨np_S.mono (op := np_ialdT .int) (np_s_iald hX dL_upgrades_544) nw_ialdT_le, List.forall_mem_cons.mpr ⟨np_s_ldc hX dL_upgrades_545 gw1266, List.forall_mem_cons.mpr ⟨np_S.mono (op := np_ic (fun x y => x = y) 554) (np_s_icmp_eq hX dL_upgrades_547 (by decide)) nq_ic_le, List.forall_mem_cons.mpr ⟨np_s_iconst hX dL_upgrades_550 (by decide), List.forall_mem_cons.mpr ⟨np_s_goto hX dL_upgrades_551 (by decide), List.forall_mem_cons.mpr ⟨np_s_iconst hX dL_upgrades_554 (by decide), List.forall_mem_cons.mpr ⟨np_S.mono (op := np_ist 2 8) (np_s_istore hX dL_upgrades_555 (by decide)) nw_ist_le, List.forall_mem_cons.mpr ⟨np_S.mono (op := np_iinc 15 1) (np_s_iinc hX dL_upgrades_557 (by decide)) nw_iinc_le, List.forall_mem_cons.mpr ⟨np_s_goto hX dL_upgrades_560 (by decide), List.forall_mem_cons.mpr ⟨np_s_aload hX dL_upgrades_563, List.forall_mem_cons.mpr ⟨np_s_iconst hX dL_upgrades_565 (by decide), List.forall_mem_cons.mpr ⟨np_S.mono (op := np_dup2) (np_s_dup2 hX dL_upgrades_566) nq_dup2_le, List.forall_mem_cons.mpr ⟨np_S.mono (op := np_ialdT .int) (np_s_iald hX dL_upgrades_567) nw_ialdT_le, List.forall_mem_cons.mpr ⟨np_s_iload hX dL_upgrades_568, List.forall_mem_cons.mpr ⟨np_S.mono (op := np_if (fun x => x < 0) 577) (np_s_if_lt hX dL_upgrades_570 (by decide)) nq_if_le, List.forall_mem_cons.mpr ⟨np_s_iconst hX dL_upgrades_573 (by decide), List.forall_mem_cons.mpr ⟨np_s_goto hX dL_upgrades_574 (by decide), List.forall_mem_cons.mpr ⟨np_s_iconst hX dL_upgrades_577 (by decide), List.forall_mem_cons.mpr ⟨np_s_iadd hX dL_upgrades_578, List.forall_mem_cons.mpr ⟨np_S.mono (op := np_iastT .int) (np_s_iast hX dL_upgrades_579) nw_iastT_le, List.forall_mem_cons.mpr ⟨np_s_aload_n hX dL_upgrades_580 rfl, List.forall_mem_cons.mpr ⟨np_s_aload hX dL_upgrades_581, List.forall_mem_cons.mpr ⟨np_S.mono (op := np_call 2 sp_L_sets 3 9 54 106 640) (np_s_callS hX C_L_sets dL_upgrades_583 gw1422 gw62 gw1420 gw1421 ⟨by decide, by decide, by decide⟩ (by decide) (by decide)) nq_call_le, List.forall_mem_cons.mpr ⟨np_s_iload hX dL_upgrades_586, List.forall_mem_cons.mpr ⟨np_S.mono (op := np_if (fun x => x = 0) 617) (np_s_if_eq hX dL_upgrades_588 (by decide)) nq_if_le, List.forall_mem_cons.mpr ⟨np_s_iload hX dL_upgrades_591, List.forall_mem_cons.mpr ⟨np_S.mono (op := np_if (fun x => 0 ≤ x) 602) (np_s_if_ge hX dL_upgrades_593 (by decide)) nq_if_le, List.forall_mem_cons.mpr ⟨np_s_iload hX dL_upgrades_596, List.forall_mem_cons.mpr ⟨np_s_iconst hX dL_upgrades_598 (by decide), List.forall_mem_cons.mpr ⟨np_S.mono (op := np_icne 617) (np_s_icmp_ne hX dL_upgrades_599 (by decide)) nq_icne_le, List.forall_mem_cons.mpr ⟨np_s_iload hX dL_upgrades_602, List.forall_mem_cons.mpr ⟨np_S.mono (op := np_if (fun x => 0 ≤ x) 613) (np_s_if_ge hX dL_upgrades_604 (by decide)) nq_if_le, List.forall_mem_cons.mpr ⟨np_s_iload hX dL_upgrades_607, List.forall_mem_cons.mpr ⟨np_s_iconst hX dL_upgrades_609 (by decide), List.forall_mem_cons.mpr ⟨np_S.mono (op := np_icne 617) (np_s_icmp_ne hX dL_upgrades_610 (by decide)) nq_icne_le, List.forall_mem_cons.mpr ⟨np_s_iconst hX dL_upgrades_613 (by decide), List.forall_mem_cons.mpr ⟨np_s_goto hX dL_upgrades_614 (by decide), List.forall_mem_cons.mpr ⟨np_s_iconst hX dL_upgrades_617 (by decide), List.forall_mem_cons.mpr ⟨np_S.mono (op := np_ret X.2.2.1) (np_s_ret hX dL_upgrades_618) (nq_ret_le hR), fun _ h => nomatch h⟩⟩⟩⟩⟩⟩⟩⟩⟩⟩⟩⟩⟩⟩⟩⟩⟩⟩⟩⟩⟩⟩⟩⟩⟩⟩⟩⟩⟩⟩⟩⟩⟩⟩⟩⟩⟩⟩⟩⟩⟩⟩⟩⟩⟩⟩⟩⟩⟩⟩⟩⟩⟩⟩⟩⟩⟩⟩⟩⟩⟩⟩⟩⟩⟩⟩⟩⟩⟩⟩⟩⟩⟩⟩⟩⟩⟩⟩⟩⟩⟩⟩⟩⟩⟩⟩⟩⟩⟩⟩⟩⟩⟩⟩⟩⟩⟩⟩⟩⟩⟩⟩⟩⟩⟩⟩⟩⟩⟩⟩⟩⟩⟩⟩⟩⟩⟩⟩⟩⟩⟩⟩⟩⟩⟩⟩⟩⟩⟩⟩⟩⟩⟩⟩⟩⟩⟩⟩⟩⟩⟩⟩⟩⟩⟩⟩⟩⟩⟩⟩⟩⟩⟩⟩⟩⟩⟩⟩⟩⟩⟩⟩⟩⟩⟩⟩⟩⟩⟩⟩⟩⟩⟩⟩⟩⟩⟩⟩⟩⟩⟩⟩⟩⟩⟩⟩⟩⟩⟩⟩⟩⟩⟩⟩⟩⟩⟩⟩⟩⟩⟩⟩⟩⟩⟩⟩⟩⟩⟩⟩⟩⟩⟩⟩⟩⟩⟩⟩⟩⟩⟩⟩⟩⟩⟩⟩⟩⟩⟩⟩⟩⟩⟩⟩⟩⟩⟩⟩⟩⟩⟩⟩⟩⟩⟩⟩⟩⟩⟩⟩⟩⟩⟩⟩⟩⟩⟩⟩⟩⟩⟩⟩⟩⟩⟩⟩⟩⟩⟩⟩⟩⟩⟩⟩⟩⟩⟩⟩⟩⟩⟩⟩⟩⟩⟩⟩⟩⟩⟩⟩⟩⟩⟩⟩⟩⟩⟩⟩⟩⟩⟩⟩⟩⟩⟩⟩⟩⟩⟩⟩⟩⟩⟩⟩⟩⟩⟩⟩⟩⟩⟩⟩⟩⟩⟩⟩⟩⟩⟩⟩⟩⟩⟩⟩⟩⟩⟩⟩⟩⟩⟩⟩⟩⟩
noncomputable def m_L_upgrades_375 (k406 : pw_S → Nat → Nat → Nat → Nat → Nat → Int32 → Int32 → Int32 → pw_R Int32) : Nat → pw_S → Nat → Nat → Nat → Nat → Nat → Int32 → Int32 → Int32 → Int32 → pw_R Int32
| 0, _, _, _, _, _, _, _, _, _, _ => none
| N + 1, S, v0, va3, vi3, va4, vi4, v8, v11, v12, v14 =>
 if 8 ≤ v14 then
 (k406 S v0 va3 vi3 va4 vi4 v8 v11 v12)
 else
 (if v12 < 0 then
 (k406 S v0 va3 vi3 va4 vi4 v8 v11 v12)
 else
 (pw_b (m_X11_upgraded S v0 v12 v14) fun S1 r4 =>
 pw_e r4 (fun r6 =>
 (pw_c (np_inb v14 8) <|
 pw_l (pw_up S1 101 0 (upd (S1 101 0) (v14 : Int32).toNatClampNeg r6)) fun S8 =>
 pw_l (v14 + 1 : Int32) fun z11 =>
 m_L_upgrades_375 k406 N S8 v0 va3 vi3 va4 vi4 v8 v11 v12 z11)) (fun _ => none)))
set_option maxRecDepth 100000 in
set_option maxHeartbeats 8000000 in
theorem L_L_upgrades_375 {X : np_Ctx} (hX : np_ok RL cL_upgrades 17 8 161 106 640 .ireturn X) {Q : Option Value → np_W → Prop} {n dc ds : Nat} (hR : ∀ st w ce sl, np_rtN (some .boolean) 106 640 (65536 + 0) Q st w ce sl → X.2.2.1 st w ce sl) {k406 : pw_S → Nat → Nat → Nat → Nat → Nat → Int32 → Int32 → Int32 → pw_R Int32} (hk406 : ∀ (S : pw_S) (v0 : Nat) (va3 : Nat) (vi3 : Nat) (va4 : Nat) (vi4 : Nat) (v8 : Int32) (v11 : Int32) (v12 : Int32) (f : Nat → Option np_E) (ce sl : Nat) (hv0 : pw_ok 2 61 v0 = true) (ha3 : pw_arr va3 = true) (hi3 : pw_ok 2 va3 vi3 = true) (ha4 : pw_arr va4 = true) (hi4 : pw_ok 2 va4 vi4 = true), ce + dc ≤ 106 → sl + ds ≤ 640 → pw_W 2 (n, f) S → pw_p (k406 S v0 va3 vi3 va4 vi4 v8 v11 v12) (fun S' r => ∀ f', pw_W 0 (65536 + 0, f') S' → Q (some (.int r)) (65536 + 0, f')) → np_G X 406 [(0, .ref (pw_pl 61 v0)), (3, .ref (pw_pl va3 vi3)), (4, .ref (pw_pl va4 vi4)), (8, .int v8), (9, .ref (pw_pl 100 0)), (11, .int v11), (12, .int v12), (13, .ref (pw_pl 101 0))] [] (n, f) ce sl) : ∀ (N : Nat) (S : pw_S) (v0 : Nat) (va3 : Nat) (vi3 : Nat) (va4 : Nat) (vi4 : Nat) (v8 : Int32) (v11 : Int32) (v12 : Int32) (v14 : Int32) (f : Nat → Option np_E) (ce sl : Nat) (hv0 : pw_ok 2 61 v0 = true) (ha3 : pw_arr va3 = true) (hi3 : pw_ok 2 va3 vi3 = true) (ha4 : pw_arr va4 = true) (hi4 : pw_ok 2 va4 vi4 = true), ce + N * 1 + dc ≤ 106 → sl + N * 6 + ds ≤ 640 → pw_W 2 (n, f) S → pw_p (m_L_upgrades_375 k406 N S v0 va3 vi3 va4 vi4 v8 v11 v12 v14) (fun S' r => ∀ f', pw_W 0 (65536 + 0, f') S' → Q (some (.int r)) (65536 + 0, f')) → np_G X 375 [(0, .ref (pw_pl 61 v0)), (3, .ref (pw_pl va3 vi3)), (4, .ref (pw_pl va4 vi4)), (8, .int v8), (9, .ref (pw_pl 100 0)), (11, .int v11), (12, .int v12), (13, .ref (pw_pl 101 0)), (14, .int v14)] [] (n, f) ce sl := by
  intro N
  induction N with
  | zero =>
    intro S v0 va3 vi3 va4 vi4 v8 v11 v12 v14 f ce sl hv0 ha3 hi3 ha4 hi4 hc hs hW h
    exact (pw_pn h).elim
  | succ N ih =>
    intro S v0 va3 vi3 va4 vi4 v8 v11 v12 v14 f ce sl hv0 ha3 hi3 ha4 hi4 hc hs hW h
    unfold m_L_upgrades_375 at h
    refine np_soundW (so_L_upgrades hX hR) [22, 75, 156, 211, 255, 274, 308, 333, 375, 406, 414, 460, 506, 563] 400 375 _ _ _ _ _ ?_
    conv => whnf
    refine pw_br h (fun _ h => ?_) (fun _ h => ?_)
    · conv => whnf
      exact np_gl (hk406 S v0 va3 vi3 va4 vi4 v8 v11 v12 f _ _ hv0 ha3 hi3 ha4 hi4 (by omega) (by omega) hW h) ⟨rfl, rfl, rfl, rfl, rfl, rfl, rfl, rfl, trivial⟩
    · conv => whnf
      refine pw_br h (fun _ h => ?_) (fun _ h => ?_)
      · conv => whnf
        exact np_gl (hk406 S v0 va3 vi3 va4 vi4 v8 v11 v12 f _ _ hv0 ha3 hi3 ha4 hi4 (by omega) (by omega) hW h) ⟨rfl, rfl, rfl, rfl, rfl, rfl, rfl, rfl, trivial⟩
      · conv => whnf
        refine np_rd_i (hW.g hv0) ?_
        conv => whnf
        refine np_chk_i (pw_and rfl (pw_and rfl (pw_and rfl (pw_and rfl ((pw_and (pw_le (by omega)) (pw_le (by omega)))))))) ?_
        conv => whnf
        refine ⟨2, S, v0, v12, v14, rfl, hv0, hW, pw_bd h (fun S1 r4 h f2 hW3 => ?_)⟩
        rcases r4 with r6 | e7
        · replace h := pw_ei h
          conv => whnf
          refine np_rd_i (hW3.g rfl) ?_
          conv => whnf
          refine pw_ck h (fun _ h => ?_)
          conv => whnf
          refine pw_wr (a := 101) (i := 0) (d := upd (S1 101 0) (v14 : Int32).toNatClampNeg r6) hW3 rfl rfl h (fun S8 f9 hW10 h => ?_)
          conv => whnf
          refine pw_st h (fun z11 h => ?_)
          conv => whnf
          exact np_gl (ih S8 v0 va3 vi3 va4 vi4 v8 v11 v12 z11 f9 _ _ hv0 ha3 hi3 ha4 hi4 (by omega) (by omega) hW10 h) ⟨rfl, rfl, rfl, rfl, rfl, rfl, rfl, rfl, rfl, trivial⟩
        · exact (pw_pn h).elim
noncomputable def m_L_upgrades_414 (k460 : pw_S → Nat → Nat → Nat → Nat → Nat → Int32 → Int32 → Int32 → pw_R Int32) : Nat → pw_S → Nat → Nat → Nat → Nat → Nat → Int32 → Int32 → Int32 → Int32 → pw_R Int32
| 0, _, _, _, _, _, _, _, _, _, _ => none
| N + 1, S, v0, va3, vi3, va4, vi4, v8, v11, v12, v14 =>
 if 8 ≤ v14 then
 (k460 S v0 va3 vi3 va4 vi4 v8 v11 v12)
 else
 (if v12 < 0 then
 (k460 S v0 va3 vi3 va4 vi4 v8 v11 v12)
 else
 (if v8 = 0 then
 (k460 S v0 va3 vi3 va4 vi4 v8 v11 v12)
 else
 (pw_b (m_X11_upgraded S v0 v11 v14) fun S12 r15 =>
 pw_e r15 (fun r17 =>
 (pw_c (np_inb v14 8) <|
 if r17 = (S12 101 0 (v14 : Int32).toNatClampNeg) then
 (pw_l (1 : Int32) fun z19 =>
 pw_l (v14 + 1 : Int32) fun z20 =>
 m_L_upgrades_414 k460 N S12 v0 va3 vi3 va4 vi4 z19 v11 v12 z20)
 else
 (pw_l (0 : Int32) fun z21 =>
 pw_l (v14 + 1 : Int32) fun z22 =>
 m_L_upgrades_414 k460 N S12 v0 va3 vi3 va4 vi4 z21 v11 v12 z22))) (fun _ => none))))
set_option maxRecDepth 100000 in
set_option maxHeartbeats 8000000 in
theorem L_L_upgrades_414 {X : np_Ctx} (hX : np_ok RL cL_upgrades 17 8 161 106 640 .ireturn X) {Q : Option Value → np_W → Prop} {n dc ds : Nat} (hR : ∀ st w ce sl, np_rtN (some .boolean) 106 640 (65536 + 0) Q st w ce sl → X.2.2.1 st w ce sl) {k460 : pw_S → Nat → Nat → Nat → Nat → Nat → Int32 → Int32 → Int32 → pw_R Int32} (hk460 : ∀ (S : pw_S) (v0 : Nat) (va3 : Nat) (vi3 : Nat) (va4 : Nat) (vi4 : Nat) (v8 : Int32) (v11 : Int32) (v12 : Int32) (f : Nat → Option np_E) (ce sl : Nat) (hv0 : pw_ok 2 61 v0 = true) (ha3 : pw_arr va3 = true) (hi3 : pw_ok 2 va3 vi3 = true) (ha4 : pw_arr va4 = true) (hi4 : pw_ok 2 va4 vi4 = true), ce + dc ≤ 106 → sl + ds ≤ 640 → pw_W 2 (n, f) S → pw_p (k460 S v0 va3 vi3 va4 vi4 v8 v11 v12) (fun S' r => ∀ f', pw_W 0 (65536 + 0, f') S' → Q (some (.int r)) (65536 + 0, f')) → np_G X 460 [(0, .ref (pw_pl 61 v0)), (3, .ref (pw_pl va3 vi3)), (4, .ref (pw_pl va4 vi4)), (8, .int v8), (9, .ref (pw_pl 100 0)), (11, .int v11), (12, .int v12)] [] (n, f) ce sl) : ∀ (N : Nat) (S : pw_S) (v0 : Nat) (va3 : Nat) (vi3 : Nat) (va4 : Nat) (vi4 : Nat) (v8 : Int32) (v11 : Int32) (v12 : Int32) (v14 : Int32) (f : Nat → Option np_E) (ce sl : Nat) (hv0 : pw_ok 2 61 v0 = true) (ha3 : pw_arr va3 = true) (hi3 : pw_ok 2 va3 vi3 = true) (ha4 : pw_arr va4 = true) (hi4 : pw_ok 2 va4 vi4 = true), ce + N * 1 + dc ≤ 106 → sl + N * 6 + ds ≤ 640 → pw_W 2 (n, f) S → pw_p (m_L_upgrades_414 k460 N S v0 va3 vi3 va4 vi4 v8 v11 v12 v14) (fun S' r => ∀ f', pw_W 0 (65536 + 0, f') S' → Q (some (.int r)) (65536 + 0, f')) → np_G X 414 [(0, .ref (pw_pl 61 v0)), (3, .ref (pw_pl va3 vi3)), (4, .ref (pw_pl va4 vi4)), (8, .int v8), (9, .ref (pw_pl 100 0)), (11, .int v11), (12, .int v12), (13, .ref (pw_pl 101 0)), (14, .int v14)] [] (n, f) ce sl := by
  intro N
  induction N with
  | zero =>
    intro S v0 va3 vi3 va4 vi4 v8 v11 v12 v14 f ce sl hv0 ha3 hi3 ha4 hi4 hc hs hW h
    exact (pw_pn h).elim
  | succ N ih =>
    intro S v0 va3 vi3 va4 vi4 v8 v11 v12 v14 f ce sl hv0 ha3 hi3 ha4 hi4 hc hs hW h
    unfold m_L_upgrades_414 at h
    refine np_soundW (so_L_upgrades hX hR) [22, 75, 156, 211, 255, 274, 308, 333, 375, 414, 460, 506, 563] 400 414 _ _ _ _ _ ?_
    conv => whnf
    refine pw_br h (fun _ h => ?_) (fun _ h => ?_)
    · conv => whnf
      exact np_gl (hk460 S v0 va3 vi3 va4 vi4 v8 v11 v12 f _ _ hv0 ha3 hi3 ha4 hi4 (by omega) (by omega) hW h) ⟨rfl, rfl, rfl, rfl, rfl, rfl, rfl, trivial⟩
    · conv => whnf
      refine pw_br h (fun _ h => ?_) (fun _ h => ?_)
      · conv => whnf
        exact np_gl (hk460 S v0 va3 vi3 va4 vi4 v8 v11 v12 f _ _ hv0 ha3 hi3 ha4 hi4 (by omega) (by omega) hW h) ⟨rfl, rfl, rfl, rfl, rfl, rfl, rfl, trivial⟩
      · conv => whnf
        refine pw_br h (fun _ h => ?_) (fun _ h => ?_)
        · conv => whnf
          exact np_gl (hk460 S v0 va3 vi3 va4 vi4 v8 v11 v12 f _ _ hv0 ha3 hi3 ha4 hi4 (by omega) (by omega) hW h) ⟨rfl, rfl, rfl, rfl, rfl, rfl, rfl, trivial⟩
        · conv => whnf
          refine np_rd_i (hW.g hv0) ?_
          conv => whnf
          refine np_chk_i (pw_and rfl (pw_and rfl (pw_and rfl (pw_and rfl ((pw_and (pw_le (by omega)) (pw_le (by omega)))))))) ?_
          conv => whnf
          refine ⟨2, S, v0, v11, v14, rfl, hv0, hW, pw_bd h (fun S12 r15 h f13 hW14 => ?_)⟩
          rcases r15 with r17 | e18
          · replace h := pw_ei h
            conv => whnf
            refine np_rd_i (hW14.g rfl) ?_
            conv => whnf
            refine pw_ck h (fun _ h => ?_)
            conv => whnf
            refine pw_br h (fun _ h => ?_) (fun _ h => ?_)
            · conv => whnf
              refine pw_st h (fun z19 h => ?_)
              conv => whnf
              refine pw_st h (fun z20 h => ?_)
              conv => whnf
              exact np_gl (ih S12 v0 va3 vi3 va4 vi4 z19 v11 v12 z20 f13 _ _ hv0 ha3 hi3 ha4 hi4 (by omega) (by omega) hW14 h) ⟨rfl, rfl, rfl, rfl, rfl, rfl, rfl, rfl, rfl, trivial⟩
            · conv => whnf
              refine pw_st h (fun z21 h => ?_)
              conv => whnf
              refine pw_st h (fun z22 h => ?_)
              conv => whnf
              exact np_gl (ih S12 v0 va3 vi3 va4 vi4 z21 v11 v12 z22 f13 _ _ hv0 ha3 hi3 ha4 hi4 (by omega) (by omega) hW14 h) ⟨rfl, rfl, rfl, rfl, rfl, rfl, rfl, rfl, rfl, trivial⟩
          · exact (pw_pn h).elim
noncomputable def m_L_upgrades_506 (k563 : pw_S → Nat → Nat → Nat → Int32 → Int32 → Int32 → pw_R Int32) : Nat → pw_S → Nat → Nat → Nat → Int32 → Int32 → Int32 → Int32 → pw_R Int32
| 0, _, _, _, _, _, _, _, _ => none
| N + 1, S, v0, va4, vi4, v8, v12, v14, v15 =>
 if 8 ≤ v15 then
 (k563 S v0 va4 vi4 v8 v12 v14)
 else
 (if v14 < 0 then
 (k563 S v0 va4 vi4 v8 v12 v14)
 else
 (if v8 = 0 then
 (k563 S v0 va4 vi4 v8 v12 v14)
 else
 (pw_b (m_X11_upgraded S v0 v14 v15) fun S23 r26 =>
 pw_e r26 (fun r28 =>
 (pw_l (r28 : Int32) fun z30 =>
 if z30 = (-2147483648) then
 (pw_l (1 : Int32) fun z31 =>
 pw_l (v15 + 1 : Int32) fun z32 =>
 m_L_upgrades_506 k563 N S23 v0 va4 vi4 z31 v12 v14 z32)
 else
 (pw_c (np_inb v15 8) <|
 if (S23 100 0 (v15 : Int32).toNatClampNeg) = (-2147483648) then
 (pw_l (0 : Int32) fun z33 =>
 pw_l (v15 + 1 : Int32) fun z34 =>
 m_L_upgrades_506 k563 N S23 v0 va4 vi4 z33 v12 v14 z34)
 else
 (pw_l (1 : Int32) fun z35 =>
 pw_l (v15 + 1 : Int32) fun z36 =>
 m_L_upgrades_506 k563 N S23 v0 va4 vi4 z35 v12 v14 z36)))) (fun _ => none))))
set_option maxRecDepth 100000 in
set_option maxHeartbeats 8000000 in
theorem L_L_upgrades_506 {X : np_Ctx} (hX : np_ok RL cL_upgrades 17 8 161 106 640 .ireturn X) {Q : Option Value → np_W → Prop} {n dc ds : Nat} (hR : ∀ st w ce sl, np_rtN (some .boolean) 106 640 (65536 + 0) Q st w ce sl → X.2.2.1 st w ce sl) {k563 : pw_S → Nat → Nat → Nat → Int32 → Int32 → Int32 → pw_R Int32} (hk563 : ∀ (S : pw_S) (v0 : Nat) (va4 : Nat) (vi4 : Nat) (v8 : Int32) (v12 : Int32) (v14 : Int32) (f : Nat → Option np_E) (ce sl : Nat) (hv0 : pw_ok 2 61 v0 = true) (ha4 : pw_arr va4 = true) (hi4 : pw_ok 2 va4 vi4 = true), ce + dc ≤ 106 → sl + ds ≤ 640 → pw_W 2 (n, f) S → pw_p (k563 S v0 va4 vi4 v8 v12 v14) (fun S' r => ∀ f', pw_W 0 (65536 + 0, f') S' → Q (some (.int r)) (65536 + 0, f')) → np_G X 563 [(0, .ref (pw_pl 61 v0)), (4, .ref (pw_pl va4 vi4)), (8, .int v8), (9, .ref (pw_pl 100 0)), (12, .int v12), (14, .int v14)] [] (n, f) ce sl) : ∀ (N : Nat) (S : pw_S) (v0 : Nat) (va4 : Nat) (vi4 : Nat) (v8 : Int32) (v12 : Int32) (v14 : Int32) (v15 : Int32) (f : Nat → Option np_E) (ce sl : Nat) (hv0 : pw_ok 2 61 v0 = true) (ha4 : pw_arr va4 = true) (hi4 : pw_ok 2 va4 vi4 = true), ce + N * 1 + dc ≤ 106 → sl + N * 6 + ds ≤ 640 → pw_W 2 (n, f) S → pw_p (m_L_upgrades_506 k563 N S v0 va4 vi4 v8 v12 v14 v15) (fun S' r => ∀ f', pw_W 0 (65536 + 0, f') S' → Q (some (.int r)) (65536 + 0, f')) → np_G X 506 [(0, .ref (pw_pl 61 v0)), (4, .ref (pw_pl va4 vi4)), (8, .int v8), (9, .ref (pw_pl 100 0)), (12, .int v12), (14, .int v14), (15, .int v15)] [] (n, f) ce sl := by
  intro N
  induction N with
  | zero =>
    intro S v0 va4 vi4 v8 v12 v14 v15 f ce sl hv0 ha4 hi4 hc hs hW h
    exact (pw_pn h).elim
  | succ N ih =>
    intro S v0 va4 vi4 v8 v12 v14 v15 f ce sl hv0 ha4 hi4 hc hs hW h
    unfold m_L_upgrades_506 at h
    refine np_soundW (so_L_upgrades hX hR) [22, 75, 156, 211, 255, 274, 308, 333, 375, 414, 460, 506, 563] 400 506 _ _ _ _ _ ?_
    conv => whnf
    refine pw_br h (fun _ h => ?_) (fun _ h => ?_)
    · conv => whnf
      exact np_gl (hk563 S v0 va4 vi4 v8 v12 v14 f _ _ hv0 ha4 hi4 (by omega) (by omega) hW h) ⟨rfl, rfl, rfl, rfl, rfl, rfl, trivial⟩
    · conv => whnf
      refine pw_br h (fun _ h => ?_) (fun _ h => ?_)
      · conv => whnf
        exact np_gl (hk563 S v0 va4 vi4 v8 v12 v14 f _ _ hv0 ha4 hi4 (by omega) (by omega) hW h) ⟨rfl, rfl, rfl, rfl, rfl, rfl, trivial⟩
      · conv => whnf
        refine pw_br h (fun _ h => ?_) (fun _ h => ?_)
        · conv => whnf
          exact np_gl (hk563 S v0 va4 vi4 v8 v12 v14 f _ _ hv0 ha4 hi4 (by omega) (by omega) hW h) ⟨rfl, rfl, rfl, rfl, rfl, rfl, trivial⟩
        · conv => whnf
          refine np_rd_i (hW.g hv0) ?_
          conv => whnf
          refine np_chk_i (pw_and rfl (pw_and rfl (pw_and rfl (pw_and rfl ((pw_and (pw_le (by omega)) (pw_le (by omega)))))))) ?_
          conv => whnf
          refine ⟨2, S, v0, v14, v15, rfl, hv0, hW, pw_bd h (fun S23 r26 h f24 hW25 => ?_)⟩
          rcases r26 with r28 | e29
          · replace h := pw_ei h
            conv => whnf
            refine pw_st h (fun z30 h => ?_)
            conv => whnf
            refine pw_br h (fun _ h => ?_) (fun _ h => ?_)
            · conv => whnf
              refine pw_st h (fun z31 h => ?_)
              conv => whnf
              refine pw_st h (fun z32 h => ?_)
              conv => whnf
              exact np_gl (ih S23 v0 va4 vi4 z31 v12 v14 z32 f24 _ _ hv0 ha4 hi4 (by omega) (by omega) hW25 h) ⟨rfl, rfl, rfl, rfl, rfl, rfl, rfl, trivial⟩
            · conv => whnf
              refine np_rd_i (hW25.g rfl) ?_
              conv => whnf
              refine pw_ck h (fun _ h => ?_)
              conv => whnf
              refine pw_br h (fun _ h => ?_) (fun _ h => ?_)
              · conv => whnf
                refine pw_st h (fun z33 h => ?_)
                conv => whnf
                refine pw_st h (fun z34 h => ?_)
                conv => whnf
                exact np_gl (ih S23 v0 va4 vi4 z33 v12 v14 z34 f24 _ _ hv0 ha4 hi4 (by omega) (by omega) hW25 h) ⟨rfl, rfl, rfl, rfl, rfl, rfl, rfl, trivial⟩
              · conv => whnf
                refine pw_st h (fun z35 h => ?_)
                conv => whnf
                refine pw_st h (fun z36 h => ?_)
                conv => whnf
                exact np_gl (ih S23 v0 va4 vi4 z35 v12 v14 z36 f24 _ _ hv0 ha4 hi4 (by omega) (by omega) hW25 h) ⟨rfl, rfl, rfl, rfl, rfl, rfl, rfl, trivial⟩
          · exact (pw_pn h).elim
noncomputable def m_L_upgrades_j308 (k274 : pw_S → Nat → Int32 → Nat → Nat → Nat → Nat → Int32 → Int32 → pw_R Int32) (k333 : pw_S → Nat → Int32 → Nat → Nat → Nat → Nat → Int32 → pw_R Int32) (S : pw_S) (v0 : Nat) (v2 : Int32) (va3 : Nat) (vi3 : Nat) (va4 : Nat) (vi4 : Nat) (v8 : Int32) (v10 : Int32) (s0 : Int32) : pw_R Int32 :=
 pw_l (s0 : Int32) fun z37 =>
 pw_b (m_X11_set S v0 v10 0 z37) fun S38 r41 =>
 pw_e r41 (fun r43 =>
 (pw_c (np_inb v10 8) <|
 pw_l (pw_up S38 100 0 (upd (S38 100 0) (v10 : Int32).toNatClampNeg z37)) fun S45 =>
 pw_l (v10 + 1 : Int32) fun z48 =>
 k274 S45 v0 v2 va3 vi3 va4 vi4 v8 z48)) (fun _ => none)
set_option maxRecDepth 100000 in
set_option maxHeartbeats 8000000 in
theorem J_L_upgrades_308 {X : np_Ctx} (hX : np_ok RL cL_upgrades 17 8 161 106 640 .ireturn X) {Q : Option Value → np_W → Prop} {n dc ds : Nat} (hR : ∀ st w ce sl, np_rtN (some .boolean) 106 640 (65536 + 0) Q st w ce sl → X.2.2.1 st w ce sl) {k274 : pw_S → Nat → Int32 → Nat → Nat → Nat → Nat → Int32 → Int32 → pw_R Int32} {k333 : pw_S → Nat → Int32 → Nat → Nat → Nat → Nat → Int32 → pw_R Int32} (hk274 : ∀ (S : pw_S) (v0 : Nat) (v2 : Int32) (va3 : Nat) (vi3 : Nat) (va4 : Nat) (vi4 : Nat) (v8 : Int32) (v10 : Int32) (f : Nat → Option np_E) (ce sl : Nat) (hv0 : pw_ok 1 61 v0 = true) (ha3 : pw_arr va3 = true) (hi3 : pw_ok 1 va3 vi3 = true) (ha4 : pw_arr va4 = true) (hi4 : pw_ok 1 va4 vi4 = true), ce + dc ≤ 106 → sl + ds ≤ 640 → pw_W 1 (n, f) S → pw_p (k274 S v0 v2 va3 vi3 va4 vi4 v8 v10) (fun S' r => ∀ f', pw_W 0 (65536 + 0, f') S' → Q (some (.int r)) (65536 + 0, f')) → np_G X 274 [(0, .ref (pw_pl 61 v0)), (2, .int v2), (3, .ref (pw_pl va3 vi3)), (4, .ref (pw_pl va4 vi4)), (8, .int v8), (9, .ref (pw_pl 100 0)), (10, .int v10)] [] (n, f) ce sl) (hk333 : ∀ (S : pw_S) (v0 : Nat) (v2 : Int32) (va3 : Nat) (vi3 : Nat) (va4 : Nat) (vi4 : Nat) (v8 : Int32) (f : Nat → Option np_E) (ce sl : Nat) (hv0 : pw_ok 1 61 v0 = true) (ha3 : pw_arr va3 = true) (hi3 : pw_ok 1 va3 vi3 = true) (ha4 : pw_arr va4 = true) (hi4 : pw_ok 1 va4 vi4 = true), ce + dc ≤ 106 → sl + ds ≤ 640 → pw_W 1 (n, f) S → pw_p (k333 S v0 v2 va3 vi3 va4 vi4 v8) (fun S' r => ∀ f', pw_W 0 (65536 + 0, f') S' → Q (some (.int r)) (65536 + 0, f')) → np_G X 333 [(0, .ref (pw_pl 61 v0)), (2, .int v2), (3, .ref (pw_pl va3 vi3)), (4, .ref (pw_pl va4 vi4)), (8, .int v8), (9, .ref (pw_pl 100 0))] [] (n, f) ce sl) (S : pw_S) (v0 : Nat) (v2 : Int32) (va3 : Nat) (vi3 : Nat) (va4 : Nat) (vi4 : Nat) (v8 : Int32) (v10 : Int32) (s0 : Int32) (f : Nat → Option np_E) (ce sl : Nat) (hv0 : pw_ok 1 61 v0 = true) (ha3 : pw_arr va3 = true) (hi3 : pw_ok 1 va3 vi3 = true) (ha4 : pw_arr va4 = true) (hi4 : pw_ok 1 va4 vi4 = true) (hc : ce + 1 + dc ≤ 106) (hs : sl + 6 + ds ≤ 640) (hW : pw_W 1 (n, f) S) (h : pw_p (m_L_upgrades_j308 k274 k333 S v0 v2 va3 vi3 va4 vi4 v8 v10 s0) (fun S' r => ∀ f', pw_W 0 (65536 + 0, f') S' → Q (some (.int r)) (65536 + 0, f'))) : np_G X 308 [(0, .ref (pw_pl 61 v0)), (2, .int v2), (3, .ref (pw_pl va3 vi3)), (4, .ref (pw_pl va4 vi4)), (8, .int v8), (9, .ref (pw_pl 100 0)), (10, .int v10)] [.int s0] (n, f) ce sl := by
  unfold m_L_upgrades_j308 at h
  refine np_soundW (so_L_upgrades hX hR) [22, 75, 156, 211, 255, 274, 308, 333, 375, 414, 460, 506, 563] 400 308 _ _ _ _ _ ?_
  conv => whnf
  refine pw_st h (fun z37 h => ?_)
  conv => whnf
  refine np_rd_i (hW.g hv0) ?_
  conv => whnf
  refine np_chk_i (pw_and rfl (pw_and rfl (pw_and rfl (pw_and rfl ((pw_and (pw_le (by omega)) (pw_le (by omega)))))))) ?_
  conv => whnf
  refine ⟨1, S, v0, v10, 0, z37, rfl, hv0, hW, pw_bd h (fun S38 r41 h f39 hW40 => ?_)⟩
  rcases r41 with r43 | e44
  · replace h := pw_ei h
    conv => whnf
    refine np_rd_i (hW40.g rfl) ?_
    conv => whnf
    refine pw_ck h (fun _ h => ?_)
    conv => whnf
    refine pw_wr (a := 100) (i := 0) (d := upd (S38 100 0) (v10 : Int32).toNatClampNeg z37) hW40 rfl rfl h (fun S45 f46 hW47 h => ?_)
    conv => whnf
    refine pw_st h (fun z48 h => ?_)
    conv => whnf
    exact np_gl (hk274 S45 v0 v2 va3 vi3 va4 vi4 v8 z48 f46 _ _ hv0 ha3 hi3 ha4 hi4 (by omega) (by omega) hW47 h) ⟨rfl, rfl, rfl, rfl, rfl, rfl, rfl, trivial⟩
  · exact (pw_pn h).elim
noncomputable def m_L_upgrades_274 (k333 : pw_S → Nat → Int32 → Nat → Nat → Nat → Nat → Int32 → pw_R Int32) : Nat → pw_S → Nat → Int32 → Nat → Nat → Nat → Nat → Int32 → Int32 → pw_R Int32
| 0, _, _, _, _, _, _, _, _, _ => none
| N + 1, S, v0, v2, va3, vi3, va4, vi4, v8, v10 =>
 if 8 ≤ v10 then
 (k333 S v0 v2 va3 vi3 va4 vi4 v8)
 else
 (pw_c (!decide ((v10 + 1) = 0)) <|
 if ((v2 / (v10 + 1)) - (v2 / (v10 + 1)) / 5 * 5) = 0 then
 (m_L_upgrades_j308 (fun S62 u49 u51 u52 u53 u56 u57 u60 u61 => m_L_upgrades_274 k333 N S62 u49 u51 u52 u53 u56 u57 u60 u61) (fun S81 u69 u71 u72 u73 u76 u77 u80 => k333 S81 u69 u71 u72 u73 u76 u77 u80) S v0 v2 va3 vi3 va4 vi4 v8 v10 (-2147483648))
 else
 (m_L_upgrades_j308 (fun S101 u88 u90 u91 u92 u95 u96 u99 u100 => m_L_upgrades_274 k333 N S101 u88 u90 u91 u92 u95 u96 u99 u100) (fun S120 u108 u110 u111 u112 u115 u116 u119 => k333 S120 u108 u110 u111 u112 u115 u116 u119) S v0 v2 va3 vi3 va4 vi4 v8 v10 (((v2 >>> (v10 &&& 31)) - (v2 >>> (v10 &&& 31)) / 300 * 300) - 100)))
set_option maxRecDepth 100000 in
set_option maxHeartbeats 8000000 in
theorem L_L_upgrades_274 {X : np_Ctx} (hX : np_ok RL cL_upgrades 17 8 161 106 640 .ireturn X) {Q : Option Value → np_W → Prop} {n dc ds : Nat} (hR : ∀ st w ce sl, np_rtN (some .boolean) 106 640 (65536 + 0) Q st w ce sl → X.2.2.1 st w ce sl) {k333 : pw_S → Nat → Int32 → Nat → Nat → Nat → Nat → Int32 → pw_R Int32} (hk333 : ∀ (S : pw_S) (v0 : Nat) (v2 : Int32) (va3 : Nat) (vi3 : Nat) (va4 : Nat) (vi4 : Nat) (v8 : Int32) (f : Nat → Option np_E) (ce sl : Nat) (hv0 : pw_ok 1 61 v0 = true) (ha3 : pw_arr va3 = true) (hi3 : pw_ok 1 va3 vi3 = true) (ha4 : pw_arr va4 = true) (hi4 : pw_ok 1 va4 vi4 = true), ce + dc ≤ 106 → sl + ds ≤ 640 → pw_W 1 (n, f) S → pw_p (k333 S v0 v2 va3 vi3 va4 vi4 v8) (fun S' r => ∀ f', pw_W 0 (65536 + 0, f') S' → Q (some (.int r)) (65536 + 0, f')) → np_G X 333 [(0, .ref (pw_pl 61 v0)), (2, .int v2), (3, .ref (pw_pl va3 vi3)), (4, .ref (pw_pl va4 vi4)), (8, .int v8), (9, .ref (pw_pl 100 0))] [] (n, f) ce sl) : ∀ (N : Nat) (S : pw_S) (v0 : Nat) (v2 : Int32) (va3 : Nat) (vi3 : Nat) (va4 : Nat) (vi4 : Nat) (v8 : Int32) (v10 : Int32) (f : Nat → Option np_E) (ce sl : Nat) (hv0 : pw_ok 1 61 v0 = true) (ha3 : pw_arr va3 = true) (hi3 : pw_ok 1 va3 vi3 = true) (ha4 : pw_arr va4 = true) (hi4 : pw_ok 1 va4 vi4 = true), ce + N * 1 + dc ≤ 106 → sl + N * 6 + ds ≤ 640 → pw_W 1 (n, f) S → pw_p (m_L_upgrades_274 k333 N S v0 v2 va3 vi3 va4 vi4 v8 v10) (fun S' r => ∀ f', pw_W 0 (65536 + 0, f') S' → Q (some (.int r)) (65536 + 0, f')) → np_G X 274 [(0, .ref (pw_pl 61 v0)), (2, .int v2), (3, .ref (pw_pl va3 vi3)), (4, .ref (pw_pl va4 vi4)), (8, .int v8), (9, .ref (pw_pl 100 0)), (10, .int v10)] [] (n, f) ce sl := by
  intro N
  induction N with
  | zero =>
    intro S v0 v2 va3 vi3 va4 vi4 v8 v10 f ce sl hv0 ha3 hi3 ha4 hi4 hc hs hW h
    exact (pw_pn h).elim
  | succ N ih =>
    intro S v0 v2 va3 vi3 va4 vi4 v8 v10 f ce sl hv0 ha3 hi3 ha4 hi4 hc hs hW h
    unfold m_L_upgrades_274 at h
    refine np_soundW (so_L_upgrades hX hR) [22, 75, 156, 211, 255, 274, 308, 333, 375, 414, 460, 506, 563] 400 274 _ _ _ _ _ ?_
    conv => whnf
    refine pw_br h (fun _ h => ?_) (fun _ h => ?_)
    · conv => whnf
      exact np_gl (hk333 S v0 v2 va3 vi3 va4 vi4 v8 f _ _ hv0 ha3 hi3 ha4 hi4 (by omega) (by omega) hW h) ⟨rfl, rfl, rfl, rfl, rfl, rfl, trivial⟩
    · conv => whnf
      refine pw_ck h (fun _ h => ?_)
      conv => whnf
      refine pw_br h (fun _ h => ?_) (fun _ h => ?_)
      · conv => whnf
        refine np_gl (J_L_upgrades_308 (dc := N * 1 + dc) (ds := N * 6 + ds) hX hR (fun S62 u49 u51 u52 u53 u56 u57 u60 u61 f63 ce65 sl66 ho50 ho54 ho55 ho58 ho59 hc67 hs68 hW64 h => np_gl (ih S62 u49 u51 u52 u53 u56 u57 u60 u61 f63 _ _ ho50 ho54 ho55 ho58 ho59 (by omega) (by omega) hW64 h) ⟨rfl, rfl, rfl, rfl, rfl, rfl, rfl, trivial⟩) (fun S81 u69 u71 u72 u73 u76 u77 u80 f82 ce84 sl85 ho70 ho74 ho75 ho78 ho79 hc86 hs87 hW83 h => np_gl (hk333 S81 u69 u71 u72 u73 u76 u77 u80 f82 _ _ ho70 ho74 ho75 ho78 ho79 (by omega) (by omega) hW83 h) ⟨rfl, rfl, rfl, rfl, rfl, rfl, trivial⟩) S v0 v2 va3 vi3 va4 vi4 v8 v10 (-2147483648) f _ _ hv0 ha3 hi3 ha4 hi4 (by omega) (by omega) hW h) ?_
        exact ⟨rfl, rfl, rfl, rfl, rfl, rfl, rfl, trivial⟩
      · conv => whnf
        refine np_gl (J_L_upgrades_308 (dc := N * 1 + dc) (ds := N * 6 + ds) hX hR (fun S101 u88 u90 u91 u92 u95 u96 u99 u100 f102 ce104 sl105 ho89 ho93 ho94 ho97 ho98 hc106 hs107 hW103 h => np_gl (ih S101 u88 u90 u91 u92 u95 u96 u99 u100 f102 _ _ ho89 ho93 ho94 ho97 ho98 (by omega) (by omega) hW103 h) ⟨rfl, rfl, rfl, rfl, rfl, rfl, rfl, trivial⟩) (fun S120 u108 u110 u111 u112 u115 u116 u119 f121 ce123 sl124 ho109 ho113 ho114 ho117 ho118 hc125 hs126 hW122 h => np_gl (hk333 S120 u108 u110 u111 u112 u115 u116 u119 f121 _ _ ho109 ho113 ho114 ho117 ho118 (by omega) (by omega) hW122 h) ⟨rfl, rfl, rfl, rfl, rfl, rfl, trivial⟩) S v0 v2 va3 vi3 va4 vi4 v8 v10 (((v2 >>> (v10 &&& 31)) - (v2 >>> (v10 &&& 31)) / 300 * 300) - 100) f _ _ hv0 ha3 hi3 ha4 hi4 (by omega) (by omega) hW h) ?_
        exact ⟨rfl, rfl, rfl, rfl, rfl, rfl, rfl, trivial⟩
noncomputable def m_L_upgrades_j156 (k22 : pw_S → Nat → Int32 → Nat → Nat → Nat → Nat → Int32 → Int32 → Int32 → Int32 → pw_R Int32) (k211 : pw_S → Nat → Int32 → Nat → Nat → Nat → Nat → Int32 → pw_R Int32) (S : pw_S) (v0 : Nat) (v2 : Int32) (va3 : Nat) (vi3 : Nat) (va4 : Nat) (vi4 : Nat) (v6 : Int32) (v7 : Int32) (v8 : Int32) (v9 : Int32) (v10 : Int32) (v11 : Int32) (v12 : Int32) (s0 : Int32) (s1 : Int32) : pw_R Int32 :=
 pw_l ((s0 + s1) : Int32) fun z127 =>
 pw_l ((v6 ||| (1 <<< (v10 &&& 31))) : Int32) fun z128 =>
 pw_b (m_X11_change S v0 v9 v10 v11 v12) fun S129 r132 =>
 pw_e r132 (fun r134 =>
 (if r134 = z127 then
 (pw_l (((v7 >>> (4 &&& 31)) + (104729 * ((v2 - v2 / 900 * 900) + v8))) : Int32) fun z136 =>
 pw_l (v8 + 1 : Int32) fun z137 =>
 k22 S129 v0 v2 va3 vi3 va4 vi4 z127 z128 z136 z137)
 else
 (some (S129, 0)))) (fun _ => none)
set_option maxRecDepth 100000 in
set_option maxHeartbeats 8000000 in
theorem J_L_upgrades_156 {X : np_Ctx} (hX : np_ok RL cL_upgrades 17 8 161 106 640 .ireturn X) {Q : Option Value → np_W → Prop} {n dc ds : Nat} (hR : ∀ st w ce sl, np_rtN (some .boolean) 106 640 (65536 + 0) Q st w ce sl → X.2.2.1 st w ce sl) {k22 : pw_S → Nat → Int32 → Nat → Nat → Nat → Nat → Int32 → Int32 → Int32 → Int32 → pw_R Int32} {k211 : pw_S → Nat → Int32 → Nat → Nat → Nat → Nat → Int32 → pw_R Int32} (hk22 : ∀ (S : pw_S) (v0 : Nat) (v2 : Int32) (va3 : Nat) (vi3 : Nat) (va4 : Nat) (vi4 : Nat) (v5 : Int32) (v6 : Int32) (v7 : Int32) (v8 : Int32) (f : Nat → Option np_E) (ce sl : Nat) (hv0 : pw_ok 0 61 v0 = true) (ha3 : pw_arr va3 = true) (hi3 : pw_ok 0 va3 vi3 = true) (ha4 : pw_arr va4 = true) (hi4 : pw_ok 0 va4 vi4 = true), ce + dc ≤ 106 → sl + ds ≤ 640 → pw_W 0 (n, f) S → pw_p (k22 S v0 v2 va3 vi3 va4 vi4 v5 v6 v7 v8) (fun S' r => ∀ f', pw_W 0 (65536 + 0, f') S' → Q (some (.int r)) (65536 + 0, f')) → np_G X 22 [(0, .ref (pw_pl 61 v0)), (2, .int v2), (3, .ref (pw_pl va3 vi3)), (4, .ref (pw_pl va4 vi4)), (5, .int v5), (6, .int v6), (7, .int v7), (8, .int v8)] [] (n, f) ce sl) (hk211 : ∀ (S : pw_S) (v0 : Nat) (v2 : Int32) (va3 : Nat) (vi3 : Nat) (va4 : Nat) (vi4 : Nat) (v5 : Int32) (f : Nat → Option np_E) (ce sl : Nat) (hv0 : pw_ok 0 61 v0 = true) (ha3 : pw_arr va3 = true) (hi3 : pw_ok 0 va3 vi3 = true) (ha4 : pw_arr va4 = true) (hi4 : pw_ok 0 va4 vi4 = true), ce + dc ≤ 106 → sl + ds ≤ 640 → pw_W 0 (n, f) S → pw_p (k211 S v0 v2 va3 vi3 va4 vi4 v5) (fun S' r => ∀ f', pw_W 0 (65536 + 0, f') S' → Q (some (.int r)) (65536 + 0, f')) → np_G X 211 [(0, .ref (pw_pl 61 v0)), (2, .int v2), (3, .ref (pw_pl va3 vi3)), (4, .ref (pw_pl va4 vi4)), (5, .int v5)] [] (n, f) ce sl) (S : pw_S) (v0 : Nat) (v2 : Int32) (va3 : Nat) (vi3 : Nat) (va4 : Nat) (vi4 : Nat) (v6 : Int32) (v7 : Int32) (v8 : Int32) (v9 : Int32) (v10 : Int32) (v11 : Int32) (v12 : Int32) (s0 : Int32) (s1 : Int32) (f : Nat → Option np_E) (ce sl : Nat) (hv0 : pw_ok 0 61 v0 = true) (ha3 : pw_arr va3 = true) (hi3 : pw_ok 0 va3 vi3 = true) (ha4 : pw_arr va4 = true) (hi4 : pw_ok 0 va4 vi4 = true) (hc : ce + 1 + dc ≤ 106) (hs : sl + 6 + ds ≤ 640) (hW : pw_W 0 (n, f) S) (h : pw_p (m_L_upgrades_j156 k22 k211 S v0 v2 va3 vi3 va4 vi4 v6 v7 v8 v9 v10 v11 v12 s0 s1) (fun S' r => ∀ f', pw_W 0 (65536 + 0, f') S' → Q (some (.int r)) (65536 + 0, f'))) : np_G X 156 [(0, .ref (pw_pl 61 v0)), (2, .int v2), (3, .ref (pw_pl va3 vi3)), (4, .ref (pw_pl va4 vi4)), (6, .int v6), (7, .int v7), (8, .int v8), (9, .int v9), (10, .int v10), (11, .int v11), (12, .int v12)] [.int s1, .int s0] (n, f) ce sl := by
  unfold m_L_upgrades_j156 at h
  refine np_soundW (so_L_upgrades hX hR) [22, 75, 156, 211, 255, 274, 308, 333, 375, 414, 460, 506, 563] 400 156 _ _ _ _ _ ?_
  conv => whnf
  refine pw_st h (fun z127 h => ?_)
  conv => whnf
  refine pw_st h (fun z128 h => ?_)
  conv => whnf
  refine np_rd_i (hW.g hv0) ?_
  conv => whnf
  refine np_chk_i (pw_and rfl (pw_and rfl (pw_and rfl (pw_and rfl ((pw_and (pw_le (by omega)) (pw_le (by omega)))))))) ?_
  conv => whnf
  refine ⟨0, S, v0, v9, v10, v11, v12, rfl, hv0, hW, pw_bd h (fun S129 r132 h f130 hW131 => ?_)⟩
  rcases r132 with r134 | e135
  · replace h := pw_ei h
    conv => whnf
    refine pw_br h (fun _ h => ?_) (fun _ h => ?_)
    · conv => whnf
      refine pw_st h (fun z136 h => ?_)
      conv => whnf
      refine pw_st h (fun z137 h => ?_)
      conv => whnf
      exact np_gl (hk22 S129 v0 v2 va3 vi3 va4 vi4 z127 z128 z136 z137 f130 _ _ hv0 ha3 hi3 ha4 hi4 (by omega) (by omega) hW131 h) ⟨rfl, rfl, rfl, rfl, rfl, rfl, rfl, rfl, trivial⟩
    · conv => whnf
      obtain ⟨f138, hW139, hf140⟩ := pw_reset hW131 (q := 0) (Nat.zero_le _)
      exact ⟨(by omega), (by omega), ⟨_, rfl, by decide⟩, pw_cvi _, f138, hf140, pw_ps h _ hW139⟩
  · exact (pw_pn h).elim
noncomputable def m_L_upgrades_j75 (k22 : pw_S → Nat → Int32 → Nat → Nat → Nat → Nat → Int32 → Int32 → Int32 → Int32 → pw_R Int32) (k211 : pw_S → Nat → Int32 → Nat → Nat → Nat → Nat → Int32 → pw_R Int32) (S : pw_S) (v0 : Nat) (v2 : Int32) (va3 : Nat) (vi3 : Nat) (va4 : Nat) (vi4 : Nat) (v5 : Int32) (v6 : Int32) (v7 : Int32) (v8 : Int32) (v9 : Int32) (v10 : Int32) (s0 : Int32) : pw_R Int32 :=
 pw_l (s0 : Int32) fun z141 =>
 if v9 = 2 then
 (pw_l ((((v7 / 320) - (v7 / 320) / 99 * 99) - 40) : Int32) fun z142 =>
 if ((v6 >>> (v10 &&& 31)) &&& 1) = 0 then
 (m_L_upgrades_j156 (fun S158 u143 u145 u146 u147 u150 u151 u154 u155 u156 u157 => k22 S158 u143 u145 u146 u147 u150 u151 u154 u155 u156 u157) (fun S177 u165 u167 u168 u169 u172 u173 u176 => k211 S177 u165 u167 u168 u169 u172 u173 u176) S v0 v2 va3 vi3 va4 vi4 v6 v7 v8 v9 v10 z141 z142 v5 1)
 else
 (m_L_upgrades_j156 (fun S199 u184 u186 u187 u188 u191 u192 u195 u196 u197 u198 => k22 S199 u184 u186 u187 u188 u191 u192 u195 u196 u197 u198) (fun S218 u206 u208 u209 u210 u213 u214 u217 => k211 S218 u206 u208 u209 u210 u213 u214 u217) S v0 v2 va3 vi3 va4 vi4 v6 v7 v8 v9 v10 z141 z142 v5 0))
 else
 (if v9 = 3 then
 (pw_l ((2 + ((v7 / 320) - (v7 / 320) / 8 * 8)) : Int32) fun z225 =>
 if ((v6 >>> (v10 &&& 31)) &&& 1) = 0 then
 (m_L_upgrades_j156 (fun S241 u226 u228 u229 u230 u233 u234 u237 u238 u239 u240 => k22 S241 u226 u228 u229 u230 u233 u234 u237 u238 u239 u240) (fun S260 u248 u250 u251 u252 u255 u256 u259 => k211 S260 u248 u250 u251 u252 u255 u256 u259) S v0 v2 va3 vi3 va4 vi4 v6 v7 v8 v9 v10 z141 z225 v5 1)
 else
 (m_L_upgrades_j156 (fun S282 u267 u269 u270 u271 u274 u275 u278 u279 u280 u281 => k22 S282 u267 u269 u270 u271 u274 u275 u278 u279 u280 u281) (fun S301 u289 u291 u292 u293 u296 u297 u300 => k211 S301 u289 u291 u292 u293 u296 u297 u300) S v0 v2 va3 vi3 va4 vi4 v6 v7 v8 v9 v10 z141 z225 v5 0))
 else
 (if v9 = 4 then
 (pw_l (((v7 / 320) - (v7 / 320) / 8 * 8) : Int32) fun z308 =>
 if ((v6 >>> (v10 &&& 31)) &&& 1) = 0 then
 (m_L_upgrades_j156 (fun S324 u309 u311 u312 u313 u316 u317 u320 u321 u322 u323 => k22 S324 u309 u311 u312 u313 u316 u317 u320 u321 u322 u323) (fun S343 u331 u333 u334 u335 u338 u339 u342 => k211 S343 u331 u333 u334 u335 u338 u339 u342) S v0 v2 va3 vi3 va4 vi4 v6 v7 v8 v9 v10 z141 z308 v5 1)
 else
 (m_L_upgrades_j156 (fun S365 u350 u352 u353 u354 u357 u358 u361 u362 u363 u364 => k22 S365 u350 u352 u353 u354 u357 u358 u361 u362 u363 u364) (fun S384 u372 u374 u375 u376 u379 u380 u383 => k211 S384 u372 u374 u375 u376 u379 u380 u383) S v0 v2 va3 vi3 va4 vi4 v6 v7 v8 v9 v10 z141 z308 v5 0))
 else
 (pw_l (0 : Int32) fun z391 =>
 if ((v6 >>> (v10 &&& 31)) &&& 1) = 0 then
 (m_L_upgrades_j156 (fun S407 u392 u394 u395 u396 u399 u400 u403 u404 u405 u406 => k22 S407 u392 u394 u395 u396 u399 u400 u403 u404 u405 u406) (fun S426 u414 u416 u417 u418 u421 u422 u425 => k211 S426 u414 u416 u417 u418 u421 u422 u425) S v0 v2 va3 vi3 va4 vi4 v6 v7 v8 v9 v10 z141 z391 v5 1)
 else
 (m_L_upgrades_j156 (fun S448 u433 u435 u436 u437 u440 u441 u444 u445 u446 u447 => k22 S448 u433 u435 u436 u437 u440 u441 u444 u445 u446 u447) (fun S467 u455 u457 u458 u459 u462 u463 u466 => k211 S467 u455 u457 u458 u459 u462 u463 u466) S v0 v2 va3 vi3 va4 vi4 v6 v7 v8 v9 v10 z141 z391 v5 0))))
set_option maxRecDepth 100000 in
set_option maxHeartbeats 8000000 in
theorem J_L_upgrades_75 {X : np_Ctx} (hX : np_ok RL cL_upgrades 17 8 161 106 640 .ireturn X) {Q : Option Value → np_W → Prop} {n dc ds : Nat} (hR : ∀ st w ce sl, np_rtN (some .boolean) 106 640 (65536 + 0) Q st w ce sl → X.2.2.1 st w ce sl) {k22 : pw_S → Nat → Int32 → Nat → Nat → Nat → Nat → Int32 → Int32 → Int32 → Int32 → pw_R Int32} {k211 : pw_S → Nat → Int32 → Nat → Nat → Nat → Nat → Int32 → pw_R Int32} (hk22 : ∀ (S : pw_S) (v0 : Nat) (v2 : Int32) (va3 : Nat) (vi3 : Nat) (va4 : Nat) (vi4 : Nat) (v5 : Int32) (v6 : Int32) (v7 : Int32) (v8 : Int32) (f : Nat → Option np_E) (ce sl : Nat) (hv0 : pw_ok 0 61 v0 = true) (ha3 : pw_arr va3 = true) (hi3 : pw_ok 0 va3 vi3 = true) (ha4 : pw_arr va4 = true) (hi4 : pw_ok 0 va4 vi4 = true), ce + dc ≤ 106 → sl + ds ≤ 640 → pw_W 0 (n, f) S → pw_p (k22 S v0 v2 va3 vi3 va4 vi4 v5 v6 v7 v8) (fun S' r => ∀ f', pw_W 0 (65536 + 0, f') S' → Q (some (.int r)) (65536 + 0, f')) → np_G X 22 [(0, .ref (pw_pl 61 v0)), (2, .int v2), (3, .ref (pw_pl va3 vi3)), (4, .ref (pw_pl va4 vi4)), (5, .int v5), (6, .int v6), (7, .int v7), (8, .int v8)] [] (n, f) ce sl) (hk211 : ∀ (S : pw_S) (v0 : Nat) (v2 : Int32) (va3 : Nat) (vi3 : Nat) (va4 : Nat) (vi4 : Nat) (v5 : Int32) (f : Nat → Option np_E) (ce sl : Nat) (hv0 : pw_ok 0 61 v0 = true) (ha3 : pw_arr va3 = true) (hi3 : pw_ok 0 va3 vi3 = true) (ha4 : pw_arr va4 = true) (hi4 : pw_ok 0 va4 vi4 = true), ce + dc ≤ 106 → sl + ds ≤ 640 → pw_W 0 (n, f) S → pw_p (k211 S v0 v2 va3 vi3 va4 vi4 v5) (fun S' r => ∀ f', pw_W 0 (65536 + 0, f') S' → Q (some (.int r)) (65536 + 0, f')) → np_G X 211 [(0, .ref (pw_pl 61 v0)), (2, .int v2), (3, .ref (pw_pl va3 vi3)), (4, .ref (pw_pl va4 vi4)), (5, .int v5)] [] (n, f) ce sl) (S : pw_S) (v0 : Nat) (v2 : Int32) (va3 : Nat) (vi3 : Nat) (va4 : Nat) (vi4 : Nat) (v5 : Int32) (v6 : Int32) (v7 : Int32) (v8 : Int32) (v9 : Int32) (v10 : Int32) (s0 : Int32) (f : Nat → Option np_E) (ce sl : Nat) (hv0 : pw_ok 0 61 v0 = true) (ha3 : pw_arr va3 = true) (hi3 : pw_ok 0 va3 vi3 = true) (ha4 : pw_arr va4 = true) (hi4 : pw_ok 0 va4 vi4 = true) (hc : ce + 1 + dc ≤ 106) (hs : sl + 6 + ds ≤ 640) (hW : pw_W 0 (n, f) S) (h : pw_p (m_L_upgrades_j75 k22 k211 S v0 v2 va3 vi3 va4 vi4 v5 v6 v7 v8 v9 v10 s0) (fun S' r => ∀ f', pw_W 0 (65536 + 0, f') S' → Q (some (.int r)) (65536 + 0, f'))) : np_G X 75 [(0, .ref (pw_pl 61 v0)), (2, .int v2), (3, .ref (pw_pl va3 vi3)), (4, .ref (pw_pl va4 vi4)), (5, .int v5), (6, .int v6), (7, .int v7), (8, .int v8), (9, .int v9), (10, .int v10)] [.int s0] (n, f) ce sl := by
  unfold m_L_upgrades_j75 at h
  refine np_soundW (so_L_upgrades hX hR) [22, 75, 156, 211, 255, 274, 308, 333, 375, 414, 460, 506, 563] 400 75 _ _ _ _ _ ?_
  conv => whnf
  refine pw_st h (fun z141 h => ?_)
  conv => whnf
  refine pw_br h (fun _ h => ?_) (fun _ h => ?_)
  · conv => whnf
    refine pw_st h (fun z142 h => ?_)
    conv => whnf
    refine pw_br h (fun _ h => ?_) (fun _ h => ?_)
    · conv => whnf
      refine np_gl (J_L_upgrades_156 (dc := dc) (ds := ds) hX hR (fun S158 u143 u145 u146 u147 u150 u151 u154 u155 u156 u157 f159 ce161 sl162 ho144 ho148 ho149 ho152 ho153 hc163 hs164 hW160 h => np_gl (hk22 S158 u143 u145 u146 u147 u150 u151 u154 u155 u156 u157 f159 _ _ ho144 ho148 ho149 ho152 ho153 (by omega) (by omega) hW160 h) ⟨rfl, rfl, rfl, rfl, rfl, rfl, rfl, rfl, trivial⟩) (fun S177 u165 u167 u168 u169 u172 u173 u176 f178 ce180 sl181 ho166 ho170 ho171 ho174 ho175 hc182 hs183 hW179 h => np_gl (hk211 S177 u165 u167 u168 u169 u172 u173 u176 f178 _ _ ho166 ho170 ho171 ho174 ho175 (by omega) (by omega) hW179 h) ⟨rfl, rfl, rfl, rfl, rfl, trivial⟩) S v0 v2 va3 vi3 va4 vi4 v6 v7 v8 v9 v10 z141 z142 v5 1 f _ _ hv0 ha3 hi3 ha4 hi4 (by omega) (by omega) hW h) ?_
      exact ⟨rfl, rfl, rfl, rfl, rfl, rfl, rfl, rfl, rfl, rfl, rfl, trivial⟩
    · conv => whnf
      refine np_gl (J_L_upgrades_156 (dc := dc) (ds := ds) hX hR (fun S199 u184 u186 u187 u188 u191 u192 u195 u196 u197 u198 f200 ce202 sl203 ho185 ho189 ho190 ho193 ho194 hc204 hs205 hW201 h => np_gl (hk22 S199 u184 u186 u187 u188 u191 u192 u195 u196 u197 u198 f200 _ _ ho185 ho189 ho190 ho193 ho194 (by omega) (by omega) hW201 h) ⟨rfl, rfl, rfl, rfl, rfl, rfl, rfl, rfl, trivial⟩) (fun S218 u206 u208 u209 u210 u213 u214 u217 f219 ce221 sl222 ho207 ho211 ho212 ho215 ho216 hc223 hs224 hW220 h => np_gl (hk211 S218 u206 u208 u209 u210 u213 u214 u217 f219 _ _ ho207 ho211 ho212 ho215 ho216 (by omega) (by omega) hW220 h) ⟨rfl, rfl, rfl, rfl, rfl, trivial⟩) S v0 v2 va3 vi3 va4 vi4 v6 v7 v8 v9 v10 z141 z142 v5 0 f _ _ hv0 ha3 hi3 ha4 hi4 (by omega) (by omega) hW h) ?_
      exact ⟨rfl, rfl, rfl, rfl, rfl, rfl, rfl, rfl, rfl, rfl, rfl, trivial⟩
  · conv => whnf
    refine pw_br h (fun _ h => ?_) (fun _ h => ?_)
    · conv => whnf
      refine pw_st h (fun z225 h => ?_)
      conv => whnf
      refine pw_br h (fun _ h => ?_) (fun _ h => ?_)
      · conv => whnf
        refine np_gl (J_L_upgrades_156 (dc := dc) (ds := ds) hX hR (fun S241 u226 u228 u229 u230 u233 u234 u237 u238 u239 u240 f242 ce244 sl245 ho227 ho231 ho232 ho235 ho236 hc246 hs247 hW243 h => np_gl (hk22 S241 u226 u228 u229 u230 u233 u234 u237 u238 u239 u240 f242 _ _ ho227 ho231 ho232 ho235 ho236 (by omega) (by omega) hW243 h) ⟨rfl, rfl, rfl, rfl, rfl, rfl, rfl, rfl, trivial⟩) (fun S260 u248 u250 u251 u252 u255 u256 u259 f261 ce263 sl264 ho249 ho253 ho254 ho257 ho258 hc265 hs266 hW262 h => np_gl (hk211 S260 u248 u250 u251 u252 u255 u256 u259 f261 _ _ ho249 ho253 ho254 ho257 ho258 (by omega) (by omega) hW262 h) ⟨rfl, rfl, rfl, rfl, rfl, trivial⟩) S v0 v2 va3 vi3 va4 vi4 v6 v7 v8 v9 v10 z141 z225 v5 1 f _ _ hv0 ha3 hi3 ha4 hi4 (by omega) (by omega) hW h) ?_
        exact ⟨rfl, rfl, rfl, rfl, rfl, rfl, rfl, rfl, rfl, rfl, rfl, trivial⟩
      · conv => whnf
        refine np_gl (J_L_upgrades_156 (dc := dc) (ds := ds) hX hR (fun S282 u267 u269 u270 u271 u274 u275 u278 u279 u280 u281 f283 ce285 sl286 ho268 ho272 ho273 ho276 ho277 hc287 hs288 hW284 h => np_gl (hk22 S282 u267 u269 u270 u271 u274 u275 u278 u279 u280 u281 f283 _ _ ho268 ho272 ho273 ho276 ho277 (by omega) (by omega) hW284 h) ⟨rfl, rfl, rfl, rfl, rfl, rfl, rfl, rfl, trivial⟩) (fun S301 u289 u291 u292 u293 u296 u297 u300 f302 ce304 sl305 ho290 ho294 ho295 ho298 ho299 hc306 hs307 hW303 h => np_gl (hk211 S301 u289 u291 u292 u293 u296 u297 u300 f302 _ _ ho290 ho294 ho295 ho298 ho299 (by omega) (by omega) hW303 h) ⟨rfl, rfl, rfl, rfl, rfl, trivial⟩) S v0 v2 va3 vi3 va4 vi4 v6 v7 v8 v9 v10 z141 z225 v5 0 f _ _ hv0 ha3 hi3 ha4 hi4 (by omega) (by omega) hW h) ?_
        exact ⟨rfl, rfl, rfl, rfl, rfl, rfl, rfl, rfl, rfl, rfl, rfl, trivial⟩
    · conv => whnf
      refine pw_br h (fun _ h => ?_) (fun _ h => ?_)
      · conv => whnf
        refine pw_st h (fun z308 h => ?_)
        conv => whnf
        refine pw_br h (fun _ h => ?_) (fun _ h => ?_)
        · conv => whnf
          refine np_gl (J_L_upgrades_156 (dc := dc) (ds := ds) hX hR (fun S324 u309 u311 u312 u313 u316 u317 u320 u321 u322 u323 f325 ce327 sl328 ho310 ho314 ho315 ho318 ho319 hc329 hs330 hW326 h => np_gl (hk22 S324 u309 u311 u312 u313 u316 u317 u320 u321 u322 u323 f325 _ _ ho310 ho314 ho315 ho318 ho319 (by omega) (by omega) hW326 h) ⟨rfl, rfl, rfl, rfl, rfl, rfl, rfl, rfl, trivial⟩) (fun S343 u331 u333 u334 u335 u338 u339 u342 f344 ce346 sl347 ho332 ho336 ho337 ho340 ho341 hc348 hs349 hW345 h => np_gl (hk211 S343 u331 u333 u334 u335 u338 u339 u342 f344 _ _ ho332 ho336 ho337 ho340 ho341 (by omega) (by omega) hW345 h) ⟨rfl, rfl, rfl, rfl, rfl, trivial⟩) S v0 v2 va3 vi3 va4 vi4 v6 v7 v8 v9 v10 z141 z308 v5 1 f _ _ hv0 ha3 hi3 ha4 hi4 (by omega) (by omega) hW h) ?_
          exact ⟨rfl, rfl, rfl, rfl, rfl, rfl, rfl, rfl, rfl, rfl, rfl, trivial⟩
        · conv => whnf
          refine np_gl (J_L_upgrades_156 (dc := dc) (ds := ds) hX hR (fun S365 u350 u352 u353 u354 u357 u358 u361 u362 u363 u364 f366 ce368 sl369 ho351 ho355 ho356 ho359 ho360 hc370 hs371 hW367 h => np_gl (hk22 S365 u350 u352 u353 u354 u357 u358 u361 u362 u363 u364 f366 _ _ ho351 ho355 ho356 ho359 ho360 (by omega) (by omega) hW367 h) ⟨rfl, rfl, rfl, rfl, rfl, rfl, rfl, rfl, trivial⟩) (fun S384 u372 u374 u375 u376 u379 u380 u383 f385 ce387 sl388 ho373 ho377 ho378 ho381 ho382 hc389 hs390 hW386 h => np_gl (hk211 S384 u372 u374 u375 u376 u379 u380 u383 f385 _ _ ho373 ho377 ho378 ho381 ho382 (by omega) (by omega) hW386 h) ⟨rfl, rfl, rfl, rfl, rfl, trivial⟩) S v0 v2 va3 vi3 va4 vi4 v6 v7 v8 v9 v10 z141 z308 v5 0 f _ _ hv0 ha3 hi3 ha4 hi4 (by omega) (by omega) hW h) ?_
          exact ⟨rfl, rfl, rfl, rfl, rfl, rfl, rfl, rfl, rfl, rfl, rfl, trivial⟩
      · conv => whnf
        refine pw_st h (fun z391 h => ?_)
        conv => whnf
        refine pw_br h (fun _ h => ?_) (fun _ h => ?_)
        · conv => whnf
          refine np_gl (J_L_upgrades_156 (dc := dc) (ds := ds) hX hR (fun S407 u392 u394 u395 u396 u399 u400 u403 u404 u405 u406 f408 ce410 sl411 ho393 ho397 ho398 ho401 ho402 hc412 hs413 hW409 h => np_gl (hk22 S407 u392 u394 u395 u396 u399 u400 u403 u404 u405 u406 f408 _ _ ho393 ho397 ho398 ho401 ho402 (by omega) (by omega) hW409 h) ⟨rfl, rfl, rfl, rfl, rfl, rfl, rfl, rfl, trivial⟩) (fun S426 u414 u416 u417 u418 u421 u422 u425 f427 ce429 sl430 ho415 ho419 ho420 ho423 ho424 hc431 hs432 hW428 h => np_gl (hk211 S426 u414 u416 u417 u418 u421 u422 u425 f427 _ _ ho415 ho419 ho420 ho423 ho424 (by omega) (by omega) hW428 h) ⟨rfl, rfl, rfl, rfl, rfl, trivial⟩) S v0 v2 va3 vi3 va4 vi4 v6 v7 v8 v9 v10 z141 z391 v5 1 f _ _ hv0 ha3 hi3 ha4 hi4 (by omega) (by omega) hW h) ?_
          exact ⟨rfl, rfl, rfl, rfl, rfl, rfl, rfl, rfl, rfl, rfl, rfl, trivial⟩
        · conv => whnf
          refine np_gl (J_L_upgrades_156 (dc := dc) (ds := ds) hX hR (fun S448 u433 u435 u436 u437 u440 u441 u444 u445 u446 u447 f449 ce451 sl452 ho434 ho438 ho439 ho442 ho443 hc453 hs454 hW450 h => np_gl (hk22 S448 u433 u435 u436 u437 u440 u441 u444 u445 u446 u447 f449 _ _ ho434 ho438 ho439 ho442 ho443 (by omega) (by omega) hW450 h) ⟨rfl, rfl, rfl, rfl, rfl, rfl, rfl, rfl, trivial⟩) (fun S467 u455 u457 u458 u459 u462 u463 u466 f468 ce470 sl471 ho456 ho460 ho461 ho464 ho465 hc472 hs473 hW469 h => np_gl (hk211 S467 u455 u457 u458 u459 u462 u463 u466 f468 _ _ ho456 ho460 ho461 ho464 ho465 (by omega) (by omega) hW469 h) ⟨rfl, rfl, rfl, rfl, rfl, trivial⟩) S v0 v2 va3 vi3 va4 vi4 v6 v7 v8 v9 v10 z141 z391 v5 0 f _ _ hv0 ha3 hi3 ha4 hi4 (by omega) (by omega) hW h) ?_
          exact ⟨rfl, rfl, rfl, rfl, rfl, rfl, rfl, rfl, rfl, rfl, rfl, trivial⟩
noncomputable def m_L_upgrades_22 (k211 : pw_S → Nat → Int32 → Nat → Nat → Nat → Nat → Int32 → pw_R Int32) : Nat → pw_S → Nat → Int32 → Nat → Nat → Nat → Nat → Int32 → Int32 → Int32 → Int32 → pw_R Int32
| 0, _, _, _, _, _, _, _, _, _, _, _ => none
| N + 1, S, v0, v2, va3, vi3, va4, vi4, v5, v6, v7, v8 =>
 if (1 + (v2 - v2 / 5 * 5)) ≤ v8 then
 (k211 S v0 v2 va3 vi3 va4 vi4 v5)
 else
 (pw_l ((v7 - v7 / 5 * 5) : Int32) fun z474 =>
 pw_l (((v7 / 5) - (v7 / 5) / 8 * 8) : Int32) fun z475 =>
 if z474 = 1 then
 (m_L_upgrades_j75 (fun S491 u476 u478 u479 u480 u483 u484 u487 u488 u489 u490 => m_L_upgrades_22 k211 N S491 u476 u478 u479 u480 u483 u484 u487 u488 u489 u490) (fun S510 u498 u500 u501 u502 u505 u506 u509 => k211 S510 u498 u500 u501 u502 u505 u506 u509) S v0 v2 va3 vi3 va4 vi4 v5 v6 v7 v8 z474 z475 (((v7 / 40) - (v7 / 40) / 100 * 100) - 50))
 else
 (m_L_upgrades_j75 (fun S532 u517 u519 u520 u521 u524 u525 u528 u529 u530 u531 => m_L_upgrades_22 k211 N S532 u517 u519 u520 u521 u524 u525 u528 u529 u530 u531) (fun S551 u539 u541 u542 u543 u546 u547 u550 => k211 S551 u539 u541 u542 u543 u546 u547 u550) S v0 v2 va3 vi3 va4 vi4 v5 v6 v7 v8 z474 z475 ((v7 / 40) - (v7 / 40) / 8 * 8)))
set_option maxRecDepth 100000 in
set_option maxHeartbeats 8000000 in
theorem L_L_upgrades_22 {X : np_Ctx} (hX : np_ok RL cL_upgrades 17 8 161 106 640 .ireturn X) {Q : Option Value → np_W → Prop} {n dc ds : Nat} (hR : ∀ st w ce sl, np_rtN (some .boolean) 106 640 (65536 + 0) Q st w ce sl → X.2.2.1 st w ce sl) {k211 : pw_S → Nat → Int32 → Nat → Nat → Nat → Nat → Int32 → pw_R Int32} (hk211 : ∀ (S : pw_S) (v0 : Nat) (v2 : Int32) (va3 : Nat) (vi3 : Nat) (va4 : Nat) (vi4 : Nat) (v5 : Int32) (f : Nat → Option np_E) (ce sl : Nat) (hv0 : pw_ok 0 61 v0 = true) (ha3 : pw_arr va3 = true) (hi3 : pw_ok 0 va3 vi3 = true) (ha4 : pw_arr va4 = true) (hi4 : pw_ok 0 va4 vi4 = true), ce + dc ≤ 106 → sl + ds ≤ 640 → pw_W 0 (n, f) S → pw_p (k211 S v0 v2 va3 vi3 va4 vi4 v5) (fun S' r => ∀ f', pw_W 0 (65536 + 0, f') S' → Q (some (.int r)) (65536 + 0, f')) → np_G X 211 [(0, .ref (pw_pl 61 v0)), (2, .int v2), (3, .ref (pw_pl va3 vi3)), (4, .ref (pw_pl va4 vi4)), (5, .int v5)] [] (n, f) ce sl) : ∀ (N : Nat) (S : pw_S) (v0 : Nat) (v2 : Int32) (va3 : Nat) (vi3 : Nat) (va4 : Nat) (vi4 : Nat) (v5 : Int32) (v6 : Int32) (v7 : Int32) (v8 : Int32) (f : Nat → Option np_E) (ce sl : Nat) (hv0 : pw_ok 0 61 v0 = true) (ha3 : pw_arr va3 = true) (hi3 : pw_ok 0 va3 vi3 = true) (ha4 : pw_arr va4 = true) (hi4 : pw_ok 0 va4 vi4 = true), ce + N * 1 + dc ≤ 106 → sl + N * 6 + ds ≤ 640 → pw_W 0 (n, f) S → pw_p (m_L_upgrades_22 k211 N S v0 v2 va3 vi3 va4 vi4 v5 v6 v7 v8) (fun S' r => ∀ f', pw_W 0 (65536 + 0, f') S' → Q (some (.int r)) (65536 + 0, f')) → np_G X 22 [(0, .ref (pw_pl 61 v0)), (2, .int v2), (3, .ref (pw_pl va3 vi3)), (4, .ref (pw_pl va4 vi4)), (5, .int v5), (6, .int v6), (7, .int v7), (8, .int v8)] [] (n, f) ce sl := by
  intro N
  induction N with
  | zero =>
    intro S v0 v2 va3 vi3 va4 vi4 v5 v6 v7 v8 f ce sl hv0 ha3 hi3 ha4 hi4 hc hs hW h
    exact (pw_pn h).elim
  | succ N ih =>
    intro S v0 v2 va3 vi3 va4 vi4 v5 v6 v7 v8 f ce sl hv0 ha3 hi3 ha4 hi4 hc hs hW h
    unfold m_L_upgrades_22 at h
    refine np_soundW (so_L_upgrades hX hR) [22, 75, 156, 211, 255, 274, 308, 333, 375, 414, 460, 506, 563] 400 22 _ _ _ _ _ ?_
    conv => whnf
    refine pw_br h (fun _ h => ?_) (fun _ h => ?_)
    · conv => whnf
      exact np_gl (hk211 S v0 v2 va3 vi3 va4 vi4 v5 f _ _ hv0 ha3 hi3 ha4 hi4 (by omega) (by omega) hW h) ⟨rfl, rfl, rfl, rfl, rfl, trivial⟩
    · conv => whnf
      refine pw_st h (fun z474 h => ?_)
      conv => whnf
      refine pw_st h (fun z475 h => ?_)
      conv => whnf
      refine pw_br h (fun _ h => ?_) (fun _ h => ?_)
      · conv => whnf
        refine np_gl (J_L_upgrades_75 (dc := N * 1 + dc) (ds := N * 6 + ds) hX hR (fun S491 u476 u478 u479 u480 u483 u484 u487 u488 u489 u490 f492 ce494 sl495 ho477 ho481 ho482 ho485 ho486 hc496 hs497 hW493 h => np_gl (ih S491 u476 u478 u479 u480 u483 u484 u487 u488 u489 u490 f492 _ _ ho477 ho481 ho482 ho485 ho486 (by omega) (by omega) hW493 h) ⟨rfl, rfl, rfl, rfl, rfl, rfl, rfl, rfl, trivial⟩) (fun S510 u498 u500 u501 u502 u505 u506 u509 f511 ce513 sl514 ho499 ho503 ho504 ho507 ho508 hc515 hs516 hW512 h => np_gl (hk211 S510 u498 u500 u501 u502 u505 u506 u509 f511 _ _ ho499 ho503 ho504 ho507 ho508 (by omega) (by omega) hW512 h) ⟨rfl, rfl, rfl, rfl, rfl, trivial⟩) S v0 v2 va3 vi3 va4 vi4 v5 v6 v7 v8 z474 z475 (((v7 / 40) - (v7 / 40) / 100 * 100) - 50) f _ _ hv0 ha3 hi3 ha4 hi4 (by omega) (by omega) hW h) ?_
        exact ⟨rfl, rfl, rfl, rfl, rfl, rfl, rfl, rfl, rfl, rfl, trivial⟩
      · conv => whnf
        refine np_gl (J_L_upgrades_75 (dc := N * 1 + dc) (ds := N * 6 + ds) hX hR (fun S532 u517 u519 u520 u521 u524 u525 u528 u529 u530 u531 f533 ce535 sl536 ho518 ho522 ho523 ho526 ho527 hc537 hs538 hW534 h => np_gl (ih S532 u517 u519 u520 u521 u524 u525 u528 u529 u530 u531 f533 _ _ ho518 ho522 ho523 ho526 ho527 (by omega) (by omega) hW534 h) ⟨rfl, rfl, rfl, rfl, rfl, rfl, rfl, rfl, trivial⟩) (fun S551 u539 u541 u542 u543 u546 u547 u550 f552 ce554 sl555 ho540 ho544 ho545 ho548 ho549 hc556 hs557 hW553 h => np_gl (hk211 S551 u539 u541 u542 u543 u546 u547 u550 f552 _ _ ho540 ho544 ho545 ho548 ho549 (by omega) (by omega) hW553 h) ⟨rfl, rfl, rfl, rfl, rfl, trivial⟩) S v0 v2 va3 vi3 va4 vi4 v5 v6 v7 v8 z474 z475 ((v7 / 40) - (v7 / 40) / 8 * 8) f _ _ hv0 ha3 hi3 ha4 hi4 (by omega) (by omega) hW h) ?_
        exact ⟨rfl, rfl, rfl, rfl, rfl, rfl, rfl, rfl, rfl, rfl, trivial⟩
noncomputable def m_L_upgrades_j563  (S : pw_S) (v0 : Nat) (va4 : Nat) (vi4 : Nat) (v8 : Int32) (v12 : Int32) (v14 : Int32) : pw_R Int32 :=
 pw_c (np_inb 2 (pw_len va4)) <|
 if v14 < 0 then
 (pw_c (np_inb 2 (pw_len va4)) <|
 pw_l (pw_up S va4 vi4 (upd (S va4 vi4) (2 : Int32).toNatClampNeg ((S va4 vi4 (2 : Int32).toNatClampNeg) + 0))) fun S558 =>
 pw_b (m_L_sets S558 v0 100 0) fun S561 r564 =>
 if v8 = 0 then
 (some (S561, 0))
 else
 (if 0 ≤ v12 then
 (if 0 ≤ v14 then
 (some (S561, 1))
 else
 (if v14 = (-1) then
 (some (S561, 1))
 else
 (some (S561, 0))))
 else
 (if v12 = (-1) then
 (if 0 ≤ v14 then
 (some (S561, 1))
 else
 (if v14 = (-1) then
 (some (S561, 1))
 else
 (some (S561, 0))))
 else
 (some (S561, 0)))))
 else
 (pw_c (np_inb 2 (pw_len va4)) <|
 pw_l (pw_up S va4 vi4 (upd (S va4 vi4) (2 : Int32).toNatClampNeg ((S va4 vi4 (2 : Int32).toNatClampNeg) + 1))) fun S590 =>
 pw_b (m_L_sets S590 v0 100 0) fun S593 r596 =>
 if v8 = 0 then
 (some (S593, 0))
 else
 (if 0 ≤ v12 then
 (if 0 ≤ v14 then
 (some (S593, 1))
 else
 (if v14 = (-1) then
 (some (S593, 1))
 else
 (some (S593, 0))))
 else
 (if v12 = (-1) then
 (if 0 ≤ v14 then
 (some (S593, 1))
 else
 (if v14 = (-1) then
 (some (S593, 1))
 else
 (some (S593, 0))))
 else
 (some (S593, 0)))))
set_option maxRecDepth 100000 in
set_option maxHeartbeats 8000000 in
theorem J_L_upgrades_563 {X : np_Ctx} (hX : np_ok RL cL_upgrades 17 8 161 106 640 .ireturn X) {Q : Option Value → np_W → Prop} {n dc ds : Nat} (hR : ∀ st w ce sl, np_rtN (some .boolean) 106 640 (65536 + 0) Q st w ce sl → X.2.2.1 st w ce sl) (S : pw_S) (v0 : Nat) (va4 : Nat) (vi4 : Nat) (v8 : Int32) (v12 : Int32) (v14 : Int32) (f : Nat → Option np_E) (ce sl : Nat) (hv0 : pw_ok 2 61 v0 = true) (ha4 : pw_arr va4 = true) (hi4 : pw_ok 2 va4 vi4 = true) (hc : ce + 9 + dc ≤ 106) (hs : sl + 54 + ds ≤ 640) (hW : pw_W 2 (n, f) S) (h : pw_p (m_L_upgrades_j563 S v0 va4 vi4 v8 v12 v14) (fun S' r => ∀ f', pw_W 0 (65536 + 0, f') S' → Q (some (.int r)) (65536 + 0, f'))) : np_G X 563 [(0, .ref (pw_pl 61 v0)), (4, .ref (pw_pl va4 vi4)), (8, .int v8), (9, .ref (pw_pl 100 0)), (12, .int v12), (14, .int v14)] [] (n, f) ce sl := by
  unfold m_L_upgrades_j563 at h
  refine np_soundW (so_L_upgrades hX hR) [22, 75, 156, 211, 255, 274, 308, 333, 375, 414, 460, 506, 563] 400 563 _ _ _ _ _ ?_
  conv => whnf
  refine np_rd_i (hW.ga ha4 hi4) ?_
  conv => whnf
  refine pw_ck h (fun _ h => ?_)
  conv => whnf
  refine pw_br h (fun _ h => ?_) (fun _ h => ?_)
  · conv => whnf
    refine np_rd_i (hW.ga ha4 hi4) ?_
    conv => whnf
    refine pw_ck h (fun _ h => ?_)
    conv => whnf
    refine pw_wr (a := va4) (i := vi4) (d := upd (S va4 vi4) (2 : Int32).toNatClampNeg ((S va4 vi4 (2 : Int32).toNatClampNeg) + 0)) hW hi4 (pw_ent_arr ha4).symm h (fun S558 f559 hW560 h => ?_)
    conv => whnf
    refine np_chk_i (pw_and rfl (pw_and rfl (pw_and rfl ((pw_and (pw_le (by omega)) (pw_le (by omega))))))) ?_
    conv => whnf
    refine ⟨2, S558, v0, 100, 0, rfl, hv0, rfl, rfl, hW560, pw_bd h (fun S561 r564 h f562 hW563 => ?_)⟩
    conv => whnf
    refine pw_br h (fun _ h => ?_) (fun _ h => ?_)
    · conv => whnf
      obtain ⟨f566, hW567, hf568⟩ := pw_reset hW563 (q := 0) (Nat.zero_le _)
      exact ⟨(by omega), (by omega), ⟨_, rfl, by decide⟩, pw_cvi _, f566, hf568, pw_ps h _ hW567⟩
    · conv => whnf
      refine pw_br h (fun _ h => ?_) (fun _ h => ?_)
      · conv => whnf
        refine pw_br h (fun _ h => ?_) (fun _ h => ?_)
        · conv => whnf
          obtain ⟨f569, hW570, hf571⟩ := pw_reset hW563 (q := 0) (Nat.zero_le _)
          exact ⟨(by omega), (by omega), ⟨_, rfl, by decide⟩, pw_cvi _, f569, hf571, pw_ps h _ hW570⟩
        · conv => whnf
          refine pw_br h (fun _ h => ?_) (fun _ h => ?_)
          · conv => whnf
            obtain ⟨f572, hW573, hf574⟩ := pw_reset hW563 (q := 0) (Nat.zero_le _)
            exact ⟨(by omega), (by omega), ⟨_, rfl, by decide⟩, pw_cvi _, f572, hf574, pw_ps h _ hW573⟩
          · conv => whnf
            obtain ⟨f575, hW576, hf577⟩ := pw_reset hW563 (q := 0) (Nat.zero_le _)
            exact ⟨(by omega), (by omega), ⟨_, rfl, by decide⟩, pw_cvi _, f575, hf577, pw_ps h _ hW576⟩
      · conv => whnf
        refine pw_br h (fun _ h => ?_) (fun _ h => ?_)
        · conv => whnf
          refine pw_br h (fun _ h => ?_) (fun _ h => ?_)
          · conv => whnf
            obtain ⟨f578, hW579, hf580⟩ := pw_reset hW563 (q := 0) (Nat.zero_le _)
            exact ⟨(by omega), (by omega), ⟨_, rfl, by decide⟩, pw_cvi _, f578, hf580, pw_ps h _ hW579⟩
          · conv => whnf
            refine pw_br h (fun _ h => ?_) (fun _ h => ?_)
            · conv => whnf
              obtain ⟨f581, hW582, hf583⟩ := pw_reset hW563 (q := 0) (Nat.zero_le _)
              exact ⟨(by omega), (by omega), ⟨_, rfl, by decide⟩, pw_cvi _, f581, hf583, pw_ps h _ hW582⟩
            · conv => whnf
              obtain ⟨f584, hW585, hf586⟩ := pw_reset hW563 (q := 0) (Nat.zero_le _)
              exact ⟨(by omega), (by omega), ⟨_, rfl, by decide⟩, pw_cvi _, f584, hf586, pw_ps h _ hW585⟩
        · conv => whnf
          obtain ⟨f587, hW588, hf589⟩ := pw_reset hW563 (q := 0) (Nat.zero_le _)
          exact ⟨(by omega), (by omega), ⟨_, rfl, by decide⟩, pw_cvi _, f587, hf589, pw_ps h _ hW588⟩
  · conv => whnf
    refine np_rd_i (hW.ga ha4 hi4) ?_
    conv => whnf
    refine pw_ck h (fun _ h => ?_)
    conv => whnf
    refine pw_wr (a := va4) (i := vi4) (d := upd (S va4 vi4) (2 : Int32).toNatClampNeg ((S va4 vi4 (2 : Int32).toNatClampNeg) + 1)) hW hi4 (pw_ent_arr ha4).symm h (fun S590 f591 hW592 h => ?_)
    conv => whnf
    refine np_chk_i (pw_and rfl (pw_and rfl (pw_and rfl ((pw_and (pw_le (by omega)) (pw_le (by omega))))))) ?_
    conv => whnf
    refine ⟨2, S590, v0, 100, 0, rfl, hv0, rfl, rfl, hW592, pw_bd h (fun S593 r596 h f594 hW595 => ?_)⟩
    conv => whnf
    refine pw_br h (fun _ h => ?_) (fun _ h => ?_)
    · conv => whnf
      obtain ⟨f598, hW599, hf600⟩ := pw_reset hW595 (q := 0) (Nat.zero_le _)
      exact ⟨(by omega), (by omega), ⟨_, rfl, by decide⟩, pw_cvi _, f598, hf600, pw_ps h _ hW599⟩
    · conv => whnf
      refine pw_br h (fun _ h => ?_) (fun _ h => ?_)
      · conv => whnf
        refine pw_br h (fun _ h => ?_) (fun _ h => ?_)
        · conv => whnf
          obtain ⟨f601, hW602, hf603⟩ := pw_reset hW595 (q := 0) (Nat.zero_le _)
          exact ⟨(by omega), (by omega), ⟨_, rfl, by decide⟩, pw_cvi _, f601, hf603, pw_ps h _ hW602⟩
        · conv => whnf
          refine pw_br h (fun _ h => ?_) (fun _ h => ?_)
          · conv => whnf
            obtain ⟨f604, hW605, hf606⟩ := pw_reset hW595 (q := 0) (Nat.zero_le _)
            exact ⟨(by omega), (by omega), ⟨_, rfl, by decide⟩, pw_cvi _, f604, hf606, pw_ps h _ hW605⟩
          · conv => whnf
            obtain ⟨f607, hW608, hf609⟩ := pw_reset hW595 (q := 0) (Nat.zero_le _)
            exact ⟨(by omega), (by omega), ⟨_, rfl, by decide⟩, pw_cvi _, f607, hf609, pw_ps h _ hW608⟩
      · conv => whnf
        refine pw_br h (fun _ h => ?_) (fun _ h => ?_)
        · conv => whnf
          refine pw_br h (fun _ h => ?_) (fun _ h => ?_)
          · conv => whnf
            obtain ⟨f610, hW611, hf612⟩ := pw_reset hW595 (q := 0) (Nat.zero_le _)
            exact ⟨(by omega), (by omega), ⟨_, rfl, by decide⟩, pw_cvi _, f610, hf612, pw_ps h _ hW611⟩
          · conv => whnf
            refine pw_br h (fun _ h => ?_) (fun _ h => ?_)
            · conv => whnf
              obtain ⟨f613, hW614, hf615⟩ := pw_reset hW595 (q := 0) (Nat.zero_le _)
              exact ⟨(by omega), (by omega), ⟨_, rfl, by decide⟩, pw_cvi _, f613, hf615, pw_ps h _ hW614⟩
            · conv => whnf
              obtain ⟨f616, hW617, hf618⟩ := pw_reset hW595 (q := 0) (Nat.zero_le _)
              exact ⟨(by omega), (by omega), ⟨_, rfl, by decide⟩, pw_cvi _, f616, hf618, pw_ps h _ hW617⟩
        · conv => whnf
          obtain ⟨f619, hW620, hf621⟩ := pw_reset hW595 (q := 0) (Nat.zero_le _)
          exact ⟨(by omega), (by omega), ⟨_, rfl, by decide⟩, pw_cvi _, f619, hf621, pw_ps h _ hW620⟩
noncomputable def m_L_upgrades_j460  (S : pw_S) (v0 : Nat) (va3 : Nat) (vi3 : Nat) (va4 : Nat) (vi4 : Nat) (v8 : Int32) (v11 : Int32) (v12 : Int32) : pw_R Int32 :=
 pw_c (np_inb 2 (pw_len va4)) <|
 if v12 < 0 then
 (pw_c (np_inb 2 (pw_len va4)) <|
 pw_l (pw_up S va4 vi4 (upd (S va4 vi4) (2 : Int32).toNatClampNeg ((S va4 vi4 (2 : Int32).toNatClampNeg) + 0))) fun S622 =>
 pw_b (m_L_sets S622 v0 100 0) fun S625 r628 =>
 pw_b (m_X11_reverse S625 v0 v11) fun S630 r633 =>
 pw_e r633 (fun r635 =>
 (pw_l (r635 : Int32) fun z637 =>
 pw_b (m_L_tells S630 v0 v11 va3 vi3) fun S638 r641 =>
 pw_b (m_L_sets S638 v0 va3 vi3) fun S643 r646 =>
 pw_l (0 : Int32) fun z648 =>
 m_L_upgrades_506
 (fun S658 u649 u651 u652 u655 u656 u657 =>
 (m_L_upgrades_j563 S658 u649 u651 u652 u655 u656 u657)) (pw_F 9) S643 v0 va4 vi4 v8 v12 z637 z648)) (fun _ => none))
 else
 (pw_c (np_inb 2 (pw_len va4)) <|
 pw_l (pw_up S va4 vi4 (upd (S va4 vi4) (2 : Int32).toNatClampNeg ((S va4 vi4 (2 : Int32).toNatClampNeg) + 1))) fun S665 =>
 pw_b (m_L_sets S665 v0 100 0) fun S668 r671 =>
 pw_b (m_X11_reverse S668 v0 v11) fun S673 r676 =>
 pw_e r676 (fun r678 =>
 (pw_l (r678 : Int32) fun z680 =>
 pw_b (m_L_tells S673 v0 v11 va3 vi3) fun S681 r684 =>
 pw_b (m_L_sets S681 v0 va3 vi3) fun S686 r689 =>
 pw_l (0 : Int32) fun z691 =>
 m_L_upgrades_506
 (fun S701 u692 u694 u695 u698 u699 u700 =>
 (m_L_upgrades_j563 S701 u692 u694 u695 u698 u699 u700)) (pw_F 9) S686 v0 va4 vi4 v8 v12 z680 z691)) (fun _ => none))
set_option maxRecDepth 100000 in
set_option maxHeartbeats 8000000 in
theorem J_L_upgrades_460 {X : np_Ctx} (hX : np_ok RL cL_upgrades 17 8 161 106 640 .ireturn X) {Q : Option Value → np_W → Prop} {n dc ds : Nat} (hR : ∀ st w ce sl, np_rtN (some .boolean) 106 640 (65536 + 0) Q st w ce sl → X.2.2.1 st w ce sl) (S : pw_S) (v0 : Nat) (va3 : Nat) (vi3 : Nat) (va4 : Nat) (vi4 : Nat) (v8 : Int32) (v11 : Int32) (v12 : Int32) (f : Nat → Option np_E) (ce sl : Nat) (hv0 : pw_ok 2 61 v0 = true) (ha3 : pw_arr va3 = true) (hi3 : pw_ok 2 va3 vi3 = true) (ha4 : pw_arr va4 = true) (hi4 : pw_ok 2 va4 vi4 = true) (hc : ce + 46 + dc ≤ 106) (hs : sl + 276 + ds ≤ 640) (hW : pw_W 2 (n, f) S) (h : pw_p (m_L_upgrades_j460 S v0 va3 vi3 va4 vi4 v8 v11 v12) (fun S' r => ∀ f', pw_W 0 (65536 + 0, f') S' → Q (some (.int r)) (65536 + 0, f'))) : np_G X 460 [(0, .ref (pw_pl 61 v0)), (3, .ref (pw_pl va3 vi3)), (4, .ref (pw_pl va4 vi4)), (8, .int v8), (9, .ref (pw_pl 100 0)), (11, .int v11), (12, .int v12)] [] (n, f) ce sl := by
  unfold m_L_upgrades_j460 at h
  refine np_soundW (so_L_upgrades hX hR) [22, 75, 156, 211, 255, 274, 308, 333, 375, 414, 460, 506, 563] 400 460 _ _ _ _ _ ?_
  conv => whnf
  refine np_rd_i (hW.ga ha4 hi4) ?_
  conv => whnf
  refine pw_ck h (fun _ h => ?_)
  conv => whnf
  refine pw_br h (fun _ h => ?_) (fun _ h => ?_)
  · conv => whnf
    refine np_rd_i (hW.ga ha4 hi4) ?_
    conv => whnf
    refine pw_ck h (fun _ h => ?_)
    conv => whnf
    refine pw_wr (a := va4) (i := vi4) (d := upd (S va4 vi4) (2 : Int32).toNatClampNeg ((S va4 vi4 (2 : Int32).toNatClampNeg) + 0)) hW hi4 (pw_ent_arr ha4).symm h (fun S622 f623 hW624 h => ?_)
    conv => whnf
    refine np_chk_i (pw_and rfl (pw_and rfl (pw_and rfl ((pw_and (pw_le (by omega)) (pw_le (by omega))))))) ?_
    conv => whnf
    refine ⟨2, S622, v0, 100, 0, rfl, hv0, rfl, rfl, hW624, pw_bd h (fun S625 r628 h f626 hW627 => ?_)⟩
    conv => whnf
    refine np_rd_i (hW627.g hv0) ?_
    conv => whnf
    refine np_chk_i (pw_and rfl (pw_and rfl (pw_and rfl (pw_and rfl ((pw_and (pw_le (by omega)) (pw_le (by omega)))))))) ?_
    conv => whnf
    refine ⟨2, S625, v0, v11, rfl, hv0, hW627, pw_bd h (fun S630 r633 h f631 hW632 => ?_)⟩
    rcases r633 with r635 | e636
    · replace h := pw_ei h
      conv => whnf
      refine pw_st h (fun z637 h => ?_)
      conv => whnf
      refine np_chk_i (pw_and rfl (pw_and rfl (pw_and rfl ((pw_and (pw_le (by omega)) (pw_le (by omega))))))) ?_
      conv => whnf
      refine ⟨2, S630, v0, v11, va3, vi3, rfl, hv0, ha3, hi3, hW632, pw_bd h (fun S638 r641 h f639 hW640 => ?_)⟩
      conv => whnf
      refine np_chk_i (pw_and rfl (pw_and rfl (pw_and rfl ((pw_and (pw_le (by omega)) (pw_le (by omega))))))) ?_
      conv => whnf
      refine ⟨2, S638, v0, va3, vi3, rfl, hv0, ha3, hi3, hW640, pw_bd h (fun S643 r646 h f644 hW645 => ?_)⟩
      conv => whnf
      refine pw_st h (fun z648 h => ?_)
      conv => whnf
      refine np_gl (L_L_upgrades_506 (dc := dc + 9) (ds := ds + 54) hX hR (fun S658 u649 u651 u652 u655 u656 u657 f659 ce661 sl662 ho650 ho653 ho654 hc663 hs664 hW660 h => ?_) (pw_F 9) S643 v0 va4 vi4 v8 v12 z637 z648 f644 _ _ hv0 ha4 hi4 (by have e9 := pw_F_eq 9; omega) (by have e9 := pw_F_eq 9; omega) hW645 h) ⟨rfl, rfl, rfl, rfl, rfl, rfl, rfl, trivial⟩
      · refine np_gl (J_L_upgrades_563 (dc := dc) (ds := ds) hX hR S658 u649 u651 u652 u655 u656 u657 f659 _ _ ho650 ho653 ho654 (by omega) (by omega) hW660 h) ?_
        exact ⟨rfl, rfl, rfl, rfl, rfl, rfl, trivial⟩
    · exact (pw_pn h).elim
  · conv => whnf
    refine np_rd_i (hW.ga ha4 hi4) ?_
    conv => whnf
    refine pw_ck h (fun _ h => ?_)
    conv => whnf
    refine pw_wr (a := va4) (i := vi4) (d := upd (S va4 vi4) (2 : Int32).toNatClampNeg ((S va4 vi4 (2 : Int32).toNatClampNeg) + 1)) hW hi4 (pw_ent_arr ha4).symm h (fun S665 f666 hW667 h => ?_)
    conv => whnf
    refine np_chk_i (pw_and rfl (pw_and rfl (pw_and rfl ((pw_and (pw_le (by omega)) (pw_le (by omega))))))) ?_
    conv => whnf
    refine ⟨2, S665, v0, 100, 0, rfl, hv0, rfl, rfl, hW667, pw_bd h (fun S668 r671 h f669 hW670 => ?_)⟩
    conv => whnf
    refine np_rd_i (hW670.g hv0) ?_
    conv => whnf
    refine np_chk_i (pw_and rfl (pw_and rfl (pw_and rfl (pw_and rfl ((pw_and (pw_le (by omega)) (pw_le (by omega)))))))) ?_
    conv => whnf
    refine ⟨2, S668, v0, v11, rfl, hv0, hW670, pw_bd h (fun S673 r676 h f674 hW675 => ?_)⟩
    rcases r676 with r678 | e679
    · replace h := pw_ei h
      conv => whnf
      refine pw_st h (fun z680 h => ?_)
      conv => whnf
      refine np_chk_i (pw_and rfl (pw_and rfl (pw_and rfl ((pw_and (pw_le (by omega)) (pw_le (by omega))))))) ?_
      conv => whnf
      refine ⟨2, S673, v0, v11, va3, vi3, rfl, hv0, ha3, hi3, hW675, pw_bd h (fun S681 r684 h f682 hW683 => ?_)⟩
      conv => whnf
      refine np_chk_i (pw_and rfl (pw_and rfl (pw_and rfl ((pw_and (pw_le (by omega)) (pw_le (by omega))))))) ?_
      conv => whnf
      refine ⟨2, S681, v0, va3, vi3, rfl, hv0, ha3, hi3, hW683, pw_bd h (fun S686 r689 h f687 hW688 => ?_)⟩
      conv => whnf
      refine pw_st h (fun z691 h => ?_)
      conv => whnf
      refine np_gl (L_L_upgrades_506 (dc := dc + 9) (ds := ds + 54) hX hR (fun S701 u692 u694 u695 u698 u699 u700 f702 ce704 sl705 ho693 ho696 ho697 hc706 hs707 hW703 h => ?_) (pw_F 9) S686 v0 va4 vi4 v8 v12 z680 z691 f687 _ _ hv0 ha4 hi4 (by have e9 := pw_F_eq 9; omega) (by have e9 := pw_F_eq 9; omega) hW688 h) ⟨rfl, rfl, rfl, rfl, rfl, rfl, rfl, trivial⟩
      · refine np_gl (J_L_upgrades_563 (dc := dc) (ds := ds) hX hR S701 u692 u694 u695 u698 u699 u700 f702 _ _ ho693 ho696 ho697 (by omega) (by omega) hW703 h) ?_
        exact ⟨rfl, rfl, rfl, rfl, rfl, rfl, trivial⟩
    · exact (pw_pn h).elim
noncomputable def m_L_upgrades_j333  (S : pw_S) (v0 : Nat) (v2 : Int32) (va3 : Nat) (vi3 : Nat) (va4 : Nat) (vi4 : Nat) (v8 : Int32) : pw_R Int32 :=
 pw_c (np_inb 2 (pw_len va4)) <|
 pw_c (!decide ((S va4 vi4 (2 : Int32).toNatClampNeg) = 0)) <|
 pw_l ((v2 - v2 / (S va4 vi4 (2 : Int32).toNatClampNeg) * (S va4 vi4 (2 : Int32).toNatClampNeg)) : Int32) fun z708 =>
 pw_c (np_inb 2 (pw_len va4)) <|
 pw_l (((S va4 vi4 (2 : Int32).toNatClampNeg) - 1) : Int32) fun z709 =>
 pw_b (m_X11_compose S v0 z708 z709) fun S710 r713 =>
 pw_e r713 (fun r715 =>
 (pw_l (r715 : Int32) fun z717 =>
 pw_b (m_L_tells S710 v0 z708 va3 vi3) fun S718 r721 =>
 pw_l (pw_up S718 101 0 (fun _ => 0)) fun S723 =>
 pw_l (0 : Int32) fun z726 =>
 m_L_upgrades_375
 (fun S740 u727 u729 u730 u733 u734 u737 u738 u739 =>
 (pw_b (m_L_sets S740 u727 u729 u730) fun S743 r746 =>
 pw_l (0 : Int32) fun z748 =>
 m_L_upgrades_414
 (fun S762 u749 u751 u752 u755 u756 u759 u760 u761 =>
 (m_L_upgrades_j460 S762 u749 u751 u752 u755 u756 u759 u760 u761)) (pw_F 9) S743 u727 u729 u730 u733 u734 u737 u738 u739 z748)) (pw_F 9) S723 v0 va3 vi3 va4 vi4 v8 z709 z717 z726)) (fun _ => none)
set_option maxRecDepth 100000 in
set_option maxHeartbeats 8000000 in
theorem J_L_upgrades_333 {X : np_Ctx} (hX : np_ok RL cL_upgrades 17 8 161 106 640 .ireturn X) {Q : Option Value → np_W → Prop} {n dc ds : Nat} (hR : ∀ st w ce sl, np_rtN (some .boolean) 106 640 (65536 + 0) Q st w ce sl → X.2.2.1 st w ce sl) (S : pw_S) (v0 : Nat) (v2 : Int32) (va3 : Nat) (vi3 : Nat) (va4 : Nat) (vi4 : Nat) (v8 : Int32) (f : Nat → Option np_E) (ce sl : Nat) (hv0 : pw_ok 1 61 v0 = true) (ha3 : pw_arr va3 = true) (hi3 : pw_ok 1 va3 vi3 = true) (ha4 : pw_arr va4 = true) (hi4 : pw_ok 1 va4 vi4 = true) (hc : ce + 84 + dc ≤ 106) (hs : sl + 506 + ds ≤ 640) (hW : pw_W 1 (n, f) S) (h : pw_p (m_L_upgrades_j333 S v0 v2 va3 vi3 va4 vi4 v8) (fun S' r => ∀ f', pw_W 0 (65536 + 0, f') S' → Q (some (.int r)) (65536 + 0, f'))) : np_G X 333 [(0, .ref (pw_pl 61 v0)), (2, .int v2), (3, .ref (pw_pl va3 vi3)), (4, .ref (pw_pl va4 vi4)), (8, .int v8), (9, .ref (pw_pl 100 0))] [] (n, f) ce sl := by
  unfold m_L_upgrades_j333 at h
  refine np_soundW (so_L_upgrades hX hR) [22, 75, 156, 211, 255, 274, 308, 333, 375, 414, 460, 506, 563] 400 333 _ _ _ _ _ ?_
  conv => whnf
  refine np_rd_i (hW.ga ha4 hi4) ?_
  conv => whnf
  refine pw_ck h (fun _ h => ?_)
  conv => whnf
  refine pw_ck h (fun _ h => ?_)
  conv => whnf
  refine pw_st h (fun z708 h => ?_)
  conv => whnf
  refine np_rd_i (hW.ga ha4 hi4) ?_
  conv => whnf
  refine pw_ck h (fun _ h => ?_)
  conv => whnf
  refine pw_st h (fun z709 h => ?_)
  conv => whnf
  refine np_rd_i (hW.g hv0) ?_
  conv => whnf
  refine np_chk_i (pw_and rfl (pw_and rfl (pw_and rfl (pw_and rfl ((pw_and (pw_le (by omega)) (pw_le (by omega)))))))) ?_
  conv => whnf
  refine ⟨1, S, v0, z708, z709, rfl, hv0, hW, pw_bd h (fun S710 r713 h f711 hW712 => ?_)⟩
  rcases r713 with r715 | e716
  · replace h := pw_ei h
    conv => whnf
    refine pw_st h (fun z717 h => ?_)
    conv => whnf
    refine np_chk_i (pw_and rfl (pw_and rfl (pw_and rfl ((pw_and (pw_le (by omega)) (pw_le (by omega))))))) ?_
    conv => whnf
    refine ⟨1, S710, v0, z708, va3, vi3, rfl, hv0, ha3, hi3, hW712, pw_bd h (fun S718 r721 h f719 hW720 => ?_)⟩
    conv => whnf
    refine np_chk_i (pw_and rfl (pw_and (pw_le (by omega)) (pw_le (by omega)))) ?_
    refine pw_new (a := 101) (q := 1) rfl (by decide) hW720 h (fun S723 f724 hW725 h => ?_)
    replace hi3 := pw_okS hi3
    replace hi4 := pw_okS hi4
    conv => whnf
    refine pw_st h (fun z726 h => ?_)
    conv => whnf
    refine np_gl (L_L_upgrades_375 (dc := dc + 64) (ds := ds + 384) hX hR (fun S740 u727 u729 u730 u733 u734 u737 u738 u739 f741 ce769 sl770 ho728 ho731 ho732 ho735 ho736 hc771 hs772 hW742 h => ?_) (pw_F 9) S723 v0 va3 vi3 va4 vi4 v8 z709 z717 z726 f724 _ _ hv0 ha3 hi3 ha4 hi4 (by have e9 := pw_F_eq 9; omega) (by have e9 := pw_F_eq 9; omega) hW725 h) ⟨rfl, rfl, rfl, rfl, rfl, rfl, rfl, rfl, rfl, trivial⟩
    · refine np_soundW (so_L_upgrades hX hR) [22, 75, 156, 211, 255, 274, 308, 333, 375, 414, 460, 506, 563] 400 406 _ _ _ _ _ ?_
      conv => whnf
      refine np_chk_i (pw_and rfl (pw_and rfl (pw_and rfl ((pw_and (pw_le (by omega)) (pw_le (by omega))))))) ?_
      conv => whnf
      refine ⟨2, S740, u727, u729, u730, rfl, ho728, ho731, ho732, hW742, pw_bd h (fun S743 r746 h f744 hW745 => ?_)⟩
      conv => whnf
      refine pw_st h (fun z748 h => ?_)
      conv => whnf
      refine np_gl (L_L_upgrades_414 (dc := dc + 46) (ds := ds + 276) hX hR (fun S762 u749 u751 u752 u755 u756 u759 u760 u761 f763 ce765 sl766 ho750 ho753 ho754 ho757 ho758 hc767 hs768 hW764 h => ?_) (pw_F 9) S743 u727 u729 u730 u733 u734 u737 u738 u739 z748 f744 _ _ ho728 ho731 ho732 ho735 ho736 (by have e9 := pw_F_eq 9; omega) (by have e9 := pw_F_eq 9; omega) hW745 h) ⟨rfl, rfl, rfl, rfl, rfl, rfl, rfl, rfl, rfl, trivial⟩
      · refine np_gl (J_L_upgrades_460 (dc := dc) (ds := ds) hX hR S762 u749 u751 u752 u755 u756 u759 u760 u761 f763 _ _ ho750 ho753 ho754 ho757 ho758 (by omega) (by omega) hW764 h) ?_
        exact ⟨rfl, rfl, rfl, rfl, rfl, rfl, rfl, trivial⟩
  · exact (pw_pn h).elim
noncomputable def m_L_upgrades_j255  (S : pw_S) (v0 : Nat) (v2 : Int32) (va3 : Nat) (vi3 : Nat) (va4 : Nat) (vi4 : Nat) (s0 : Int32) : pw_R Int32 :=
 pw_l (s0 : Int32) fun z773 =>
 pw_c (np_inb 2 (pw_len va4)) <|
 pw_c (np_inb 2 (pw_len va4)) <|
 pw_l (pw_up S va4 vi4 (upd (S va4 vi4) (2 : Int32).toNatClampNeg ((S va4 vi4 (2 : Int32).toNatClampNeg) + 1))) fun S774 =>
 pw_l (pw_up S774 100 0 (fun _ => 0)) fun S777 =>
 pw_l (0 : Int32) fun z780 =>
 m_L_upgrades_274
 (fun S793 u781 u783 u784 u785 u788 u789 u792 =>
 (m_L_upgrades_j333 S793 u781 u783 u784 u785 u788 u789 u792)) (pw_F 9) S777 v0 v2 va3 vi3 va4 vi4 z773 z780
set_option maxRecDepth 100000 in
set_option maxHeartbeats 8000000 in
theorem J_L_upgrades_255 {X : np_Ctx} (hX : np_ok RL cL_upgrades 17 8 161 106 640 .ireturn X) {Q : Option Value → np_W → Prop} {n dc ds : Nat} (hR : ∀ st w ce sl, np_rtN (some .boolean) 106 640 (65536 + 0) Q st w ce sl → X.2.2.1 st w ce sl) (S : pw_S) (v0 : Nat) (v2 : Int32) (va3 : Nat) (vi3 : Nat) (va4 : Nat) (vi4 : Nat) (s0 : Int32) (f : Nat → Option np_E) (ce sl : Nat) (hv0 : pw_ok 0 61 v0 = true) (ha3 : pw_arr va3 = true) (hi3 : pw_ok 0 va3 vi3 = true) (ha4 : pw_arr va4 = true) (hi4 : pw_ok 0 va4 vi4 = true) (hc : ce + 94 + dc ≤ 106) (hs : sl + 568 + ds ≤ 640) (hW : pw_W 0 (n, f) S) (h : pw_p (m_L_upgrades_j255 S v0 v2 va3 vi3 va4 vi4 s0) (fun S' r => ∀ f', pw_W 0 (65536 + 0, f') S' → Q (some (.int r)) (65536 + 0, f'))) : np_G X 255 [(0, .ref (pw_pl 61 v0)), (2, .int v2), (3, .ref (pw_pl va3 vi3)), (4, .ref (pw_pl va4 vi4))] [.int s0] (n, f) ce sl := by
  unfold m_L_upgrades_j255 at h
  refine np_soundW (so_L_upgrades hX hR) [22, 75, 156, 211, 255, 274, 308, 333, 375, 414, 460, 506, 563] 400 255 _ _ _ _ _ ?_
  conv => whnf
  refine pw_st h (fun z773 h => ?_)
  conv => whnf
  refine np_rd_i (hW.ga ha4 hi4) ?_
  conv => whnf
  refine pw_ck h (fun _ h => ?_)
  conv => whnf
  refine np_rd_i (hW.ga ha4 hi4) ?_
  conv => whnf
  refine pw_ck h (fun _ h => ?_)
  conv => whnf
  refine pw_wr (a := va4) (i := vi4) (d := upd (S va4 vi4) (2 : Int32).toNatClampNeg ((S va4 vi4 (2 : Int32).toNatClampNeg) + 1)) hW hi4 (pw_ent_arr ha4).symm h (fun S774 f775 hW776 h => ?_)
  conv => whnf
  refine np_chk_i (pw_and rfl (pw_and (pw_le (by omega)) (pw_le (by omega)))) ?_
  refine pw_new (a := 100) (q := 0) rfl (by decide) hW776 h (fun S777 f778 hW779 h => ?_)
  replace hi3 := pw_okS hi3
  replace hi4 := pw_okS hi4
  conv => whnf
  refine pw_st h (fun z780 h => ?_)
  conv => whnf
  refine np_gl (L_L_upgrades_274 (dc := dc + 84) (ds := ds + 506) hX hR (fun S793 u781 u783 u784 u785 u788 u789 u792 f794 ce796 sl797 ho782 ho786 ho787 ho790 ho791 hc798 hs799 hW795 h => ?_) (pw_F 9) S777 v0 v2 va3 vi3 va4 vi4 z773 z780 f778 _ _ hv0 ha3 hi3 ha4 hi4 (by have e9 := pw_F_eq 9; omega) (by have e9 := pw_F_eq 9; omega) hW779 h) ⟨rfl, rfl, rfl, rfl, rfl, rfl, rfl, trivial⟩
  · refine np_gl (J_L_upgrades_333 (dc := dc) (ds := ds) hX hR S793 u781 u783 u784 u785 u788 u789 u792 f794 _ _ ho782 ho786 ho787 ho790 ho791 (by omega) (by omega) hW795 h) ?_
    exact ⟨rfl, rfl, rfl, rfl, rfl, rfl, trivial⟩
noncomputable def m_L_upgrades_j211  (S : pw_S) (v0 : Nat) (v2 : Int32) (va3 : Nat) (vi3 : Nat) (va4 : Nat) (vi4 : Nat) (v5 : Int32) : pw_R Int32 :=
 pw_b (m_X11_upgrade S v0) fun S800 r803 =>
 pw_e r803 (fun r805 =>
 (pw_c (np_inb 2 (pw_len va4)) <|
 if r805 = (S800 va4 vi4 (2 : Int32).toNatClampNeg) then
 (pw_c (np_inb 2 (pw_len va4)) <|
 pw_b (m_X11_parts S800 v0 (S800 va4 vi4 (2 : Int32).toNatClampNeg)) fun S807 r810 =>
 pw_e r810 (fun r812 =>
 (if r812 < v5 then
 (m_L_upgrades_j255 S807 v0 v2 va3 vi3 va4 vi4 0)
 else
 (pw_c (np_inb 2 (pw_len va4)) <|
 pw_b (m_X11_parts S807 v0 (S807 va4 vi4 (2 : Int32).toNatClampNeg)) fun S814 r817 =>
 pw_e r817 (fun r819 =>
 (if (3 * v5) < r819 then
 (m_L_upgrades_j255 S814 v0 v2 va3 vi3 va4 vi4 0)
 else
 (m_L_upgrades_j255 S814 v0 v2 va3 vi3 va4 vi4 1))) (fun _ => none)))) (fun _ => none))
 else
 (m_L_upgrades_j255 S800 v0 v2 va3 vi3 va4 vi4 0))) (fun _ => none)
set_option maxRecDepth 100000 in
set_option maxHeartbeats 8000000 in
theorem J_L_upgrades_211 {X : np_Ctx} (hX : np_ok RL cL_upgrades 17 8 161 106 640 .ireturn X) {Q : Option Value → np_W → Prop} {n dc ds : Nat} (hR : ∀ st w ce sl, np_rtN (some .boolean) 106 640 (65536 + 0) Q st w ce sl → X.2.2.1 st w ce sl) (S : pw_S) (v0 : Nat) (v2 : Int32) (va3 : Nat) (vi3 : Nat) (va4 : Nat) (vi4 : Nat) (v5 : Int32) (f : Nat → Option np_E) (ce sl : Nat) (hv0 : pw_ok 0 61 v0 = true) (ha3 : pw_arr va3 = true) (hi3 : pw_ok 0 va3 vi3 = true) (ha4 : pw_arr va4 = true) (hi4 : pw_ok 0 va4 vi4 = true) (hc : ce + 97 + dc ≤ 106) (hs : sl + 586 + ds ≤ 640) (hW : pw_W 0 (n, f) S) (h : pw_p (m_L_upgrades_j211 S v0 v2 va3 vi3 va4 vi4 v5) (fun S' r => ∀ f', pw_W 0 (65536 + 0, f') S' → Q (some (.int r)) (65536 + 0, f'))) : np_G X 211 [(0, .ref (pw_pl 61 v0)), (2, .int v2), (3, .ref (pw_pl va3 vi3)), (4, .ref (pw_pl va4 vi4)), (5, .int v5)] [] (n, f) ce sl := by
  unfold m_L_upgrades_j211 at h
  refine np_soundW (so_L_upgrades hX hR) [22, 75, 156, 211, 255, 274, 308, 333, 375, 414, 460, 506, 563] 400 211 _ _ _ _ _ ?_
  conv => whnf
  refine np_rd_i (hW.g hv0) ?_
  conv => whnf
  refine np_chk_i (pw_and rfl (pw_and rfl (pw_and rfl (pw_and rfl ((pw_and (pw_le (by omega)) (pw_le (by omega)))))))) ?_
  conv => whnf
  refine ⟨0, S, v0, rfl, hv0, hW, pw_bd h (fun S800 r803 h f801 hW802 => ?_)⟩
  rcases r803 with r805 | e806
  · replace h := pw_ei h
    conv => whnf
    refine np_rd_i (hW802.ga ha4 hi4) ?_
    conv => whnf
    refine pw_ck h (fun _ h => ?_)
    conv => whnf
    refine pw_br h (fun _ h => ?_) (fun _ h => ?_)
    · conv => whnf
      refine np_rd_i (hW802.ga ha4 hi4) ?_
      conv => whnf
      refine pw_ck h (fun _ h => ?_)
      conv => whnf
      refine np_rd_i (hW802.g hv0) ?_
      conv => whnf
      refine np_chk_i (pw_and rfl (pw_and rfl (pw_and rfl (pw_and rfl ((pw_and (pw_le (by omega)) (pw_le (by omega)))))))) ?_
      conv => whnf
      refine ⟨0, S800, v0, (S800 va4 vi4 (2 : Int32).toNatClampNeg), rfl, hv0, hW802, pw_bd h (fun S807 r810 h f808 hW809 => ?_)⟩
      rcases r810 with r812 | e813
      · replace h := pw_ei h
        conv => whnf
        refine pw_br h (fun _ h => ?_) (fun _ h => ?_)
        · conv => whnf
          refine np_gl (J_L_upgrades_255 (dc := dc) (ds := ds) hX hR S807 v0 v2 va3 vi3 va4 vi4 0 f808 _ _ hv0 ha3 hi3 ha4 hi4 (by omega) (by omega) hW809 h) ?_
          exact ⟨rfl, rfl, rfl, rfl, trivial⟩
        · conv => whnf
          refine np_rd_i (hW809.ga ha4 hi4) ?_
          conv => whnf
          refine pw_ck h (fun _ h => ?_)
          conv => whnf
          refine np_rd_i (hW809.g hv0) ?_
          conv => whnf
          refine np_chk_i (pw_and rfl (pw_and rfl (pw_and rfl (pw_and rfl ((pw_and (pw_le (by omega)) (pw_le (by omega)))))))) ?_
          conv => whnf
          refine ⟨0, S807, v0, (S807 va4 vi4 (2 : Int32).toNatClampNeg), rfl, hv0, hW809, pw_bd h (fun S814 r817 h f815 hW816 => ?_)⟩
          rcases r817 with r819 | e820
          · replace h := pw_ei h
            conv => whnf
            refine pw_br h (fun _ h => ?_) (fun _ h => ?_)
            · conv => whnf
              refine np_gl (J_L_upgrades_255 (dc := dc) (ds := ds) hX hR S814 v0 v2 va3 vi3 va4 vi4 0 f815 _ _ hv0 ha3 hi3 ha4 hi4 (by omega) (by omega) hW816 h) ?_
              exact ⟨rfl, rfl, rfl, rfl, trivial⟩
            · conv => whnf
              refine np_gl (J_L_upgrades_255 (dc := dc) (ds := ds) hX hR S814 v0 v2 va3 vi3 va4 vi4 1 f815 _ _ hv0 ha3 hi3 ha4 hi4 (by omega) (by omega) hW816 h) ?_
              exact ⟨rfl, rfl, rfl, rfl, trivial⟩
          · exact (pw_pn h).elim
      · exact (pw_pn h).elim
    · conv => whnf
      refine np_gl (J_L_upgrades_255 (dc := dc) (ds := ds) hX hR S800 v0 v2 va3 vi3 va4 vi4 0 f801 _ _ hv0 ha3 hi3 ha4 hi4 (by omega) (by omega) hW802 h) ?_
      exact ⟨rfl, rfl, rfl, rfl, trivial⟩
  · exact (pw_pn h).elim
noncomputable def m_L_upgrades (S : pw_S) (i0 : Nat) (x1 : Int32) (x2 : Int32) (a3 : Nat) (i3 : Nat) (a4 : Nat) (i4 : Nat) : pw_R Int32 :=
 pw_c (np_inb 2 (pw_len a4)) <|
 if (S a4 i4 (2 : Int32).toNatClampNeg) ≤ 4 then
 (pw_l (0 : Int32) fun z821 =>
 pw_l (0 : Int32) fun z822 =>
 pw_l (x1 : Int32) fun z823 =>
 pw_l (0 : Int32) fun z824 =>
 m_L_upgrades_22
 (fun S837 u825 u827 u828 u829 u832 u833 u836 =>
 (m_L_upgrades_j211 S837 u825 u827 u828 u829 u832 u833 u836)) (pw_F 9) S i0 x2 a3 i3 a4 i4 z821 z822 z823 z824)
 else
 (some (S, 1))
def sp_L_upgrades : np_Sp := fun vs w Q => ∃ (S : pw_S) (i0 : Nat) (x1 : Int32) (x2 : Int32) (a3 : Nat) (i3 : Nat) (a4 : Nat) (i4 : Nat), vs = [.ref (pw_pl 61 i0), .int x1, .int x2, .ref (pw_pl a3 i3), .ref (pw_pl a4 i4)] ∧ pw_ok 0 61 i0 = true ∧ pw_arr a3 = true ∧ pw_ok 0 a3 i3 = true ∧ pw_arr a4 = true ∧ pw_ok 0 a4 i4 = true ∧ pw_W 0 w S ∧ pw_p (m_L_upgrades S i0 x1 x2 a3 i3 a4 i4) (fun S' r => ∀ f', pw_W 0 (w.1, f') S' → Q (some (.int r)) (w.1, f'))
set_option maxRecDepth 100000 in
set_option maxHeartbeats 8000000 in
theorem C_L_upgrades : np_C yL_upgrades cL_upgrades 17 (some .boolean) 8 161 106 640 (sp_L_upgrades) := by
  refine np_ofN (by decide) ?_
  intro X vs w Q hsp hX hRt
  obtain ⟨S, i0, x1, x2, a3, i3, a4, i4, rfl, hi0, ha3, hi3, ha4, hi4, hW, h⟩ := hsp
  obtain ⟨n, f⟩ := w
  have hn : n = 65536 + 0 := hW.1
  subst hn
  unfold m_L_upgrades at h
  have hR : ∀ st w ce sl, np_rtN (some .boolean) 106 640 (65536 + 0) Q st w ce sl → X.2.2.1 st w ce sl := fun _ _ _ _ h => by rw [hRt]; exact h
  refine np_soundW (so_L_upgrades hX hR) [22, 75, 156, 211, 255, 274, 308, 333, 375, 414, 460, 506, 563] 400 0 _ _ _ _ _ ?_
  conv => whnf
  refine np_rd_i (hW.ga ha4 hi4) ?_
  conv => whnf
  refine pw_ck h (fun _ h => ?_)
  conv => whnf
  refine pw_br h (fun _ h => ?_) (fun _ h => ?_)
  · conv => whnf
    refine pw_st h (fun z821 h => ?_)
    conv => whnf
    refine pw_st h (fun z822 h => ?_)
    conv => whnf
    refine pw_st h (fun z823 h => ?_)
    conv => whnf
    refine pw_st h (fun z824 h => ?_)
    conv => whnf
    refine np_gl (L_L_upgrades_22 (dc := 97) (ds := 586) hX hR (fun S837 u825 u827 u828 u829 u832 u833 u836 f838 ce840 sl841 ho826 ho830 ho831 ho834 ho835 hc842 hs843 hW839 h => ?_) (pw_F 9) S i0 x2 a3 i3 a4 i4 z821 z822 z823 z824 f _ _ hi0 ha3 hi3 ha4 hi4 (by have e9 := pw_F_eq 9; omega) (by have e9 := pw_F_eq 9; omega) hW h) ⟨rfl, rfl, rfl, rfl, rfl, rfl, rfl, rfl, trivial⟩
    · refine np_gl (J_L_upgrades_211 (dc := 0) (ds := 0) hX hR S837 u825 u827 u828 u829 u832 u833 u836 f838 _ _ ho826 ho830 ho831 ho834 ho835 (by omega) (by omega) hW839 h) ?_
      exact ⟨rfl, rfl, rfl, rfl, rfl, trivial⟩
  · conv => whnf
    obtain ⟨f844, hW845, hf846⟩ := pw_reset hW (q := 0) (Nat.zero_le _)
    exact ⟨Nat.le_of_ble_eq_true rfl, Nat.le_of_ble_eq_true rfl, ⟨_, rfl, by decide⟩, pw_cvi _, f844, hf846, pw_ps h _ hW845⟩
