theorem dL_tells_0 : decode cL_tells 0 = .ok (.iconst 0, 1) := by decide +kernel
theorem dL_tells_1 : decode cL_tells 1 = .ok (.istore_n 3, 1) := by decide +kernel
theorem dL_tells_2 : decode cL_tells 2 = .ok (.iload_n 3, 1) := by decide +kernel
theorem dL_tells_3 : decode cL_tells 3 = .ok (.bipush 8, 2) := by decide +kernel
theorem dL_tells_5 : decode cL_tells 5 = .ok (.if_icmp .ge 18, 3) := by decide +kernel
theorem dL_tells_8 : decode cL_tells 8 = .ok (.aload_n 2, 1) := by decide +kernel
theorem dL_tells_9 : decode cL_tells 9 = .ok (.iload_n 3, 1) := by decide +kernel
theorem dL_tells_10 : decode cL_tells 10 = .ok (.aload_n 0, 1) := by decide +kernel
theorem dL_tells_11 : decode cL_tells 11 = .ok (.iload_n 1, 1) := by decide +kernel
theorem dL_tells_12 : decode cL_tells 12 = .ok (.iload_n 3, 1) := by decide +kernel
theorem dL_tells_13 : decode cL_tells 13 = .ok (.invokevirtual 145, 3) := by decide +kernel
theorem dL_tells_16 : decode cL_tells 16 = .ok (.iastore, 1) := by decide +kernel
theorem dL_tells_17 : decode cL_tells 17 = .ok (.iinc 3 1, 3) := by decide +kernel
theorem dL_tells_20 : decode cL_tells 20 = .ok (.goto (-18), 3) := by decide +kernel
theorem dL_tells_23 : decode cL_tells 23 = .ok (.return_, 1) := by decide +kernel
def is_L_tells (Rt : np_Rt) : List (Nat × np_Op) := [(0, np_push 1 (.int 0)), (1, nw_ist 1 3), (2, np_ild 1 3), (3, np_push 2 (.int 8)), (5, nq_ic (fun x y => y ≤ x) 23), (8, np_ald 1 2), (9, np_ild 1 3), (10, np_ald 1 0), (11, np_ild 1 1), (12, np_ild 1 3), (13, nw_callVX 11 3 sp_X11_upgraded 4 1 6 9 54 []), (16, nw_iastT .int), (17, nw_iinc 3 1), (20, np_goto 2), (23, np_ret Rt)]
set_option maxRecDepth 20000 in
theorem so_L_tells {X : np_Ctx} {Rt : np_Rt} (hX : np_ok RL cL_tells 4 7 132 9 54 .return_ X) (hR : ∀ st w ce sl, Rt st w ce sl → X.2.2.1 st w ce sl) : ∀ q ∈ is_L_tells Rt, np_S X q.1 q.2 :=
  List.forall_mem_cons.mpr ⟨np_s_iconst hX dL_tells_0 (by decide), List.forall_mem_cons.mpr ⟨np_S.mono (op := np_ist 1 3) (np_s_istore_n hX dL_tells_1 rfl (by decide)) nw_ist_le, List.forall_mem_cons.mpr ⟨np_s_iload_n hX dL_tells_2 rfl, List.forall_mem_cons.mpr ⟨np_s_bipush hX dL_tells_3 (by decide), List.forall_mem_cons.mpr ⟨np_S.mono (op := np_ic (fun x y => y ≤ x) 23) (np_s_icmp_ge hX dL_tells_5 (by decide)) nq_ic_le, List.forall_mem_cons.mpr ⟨np_s_aload_n hX dL_tells_8 rfl, List.forall_mem_cons.mpr ⟨np_s_iload_n hX dL_tells_9 rfl, List.forall_mem_cons.mpr ⟨np_s_aload_n hX dL_tells_10 rfl, List.forall_mem_cons.mpr ⟨np_s_iload_n hX dL_tells_11 rfl, List.forall_mem_cons.mpr ⟨np_s_iload_n hX dL_tells_12 rfl, List.forall_mem_cons.mpr ⟨np_S.mono (op := np_callVX 11 3 sp_X11_upgraded 4 1 6 9 54 []) (np_s_callVX hX C_X11_upgraded dL_tells_13 (q := (RX11, TX11, 14)) rfl rfl gw1394 gw63 gw1391 gw1392 gw1393 ⟨by decide, by decide, by decide⟩ (by decide) (by decide) (fun _ h => nomatch h)) (nw_callVX_le2 (ci := 11) (n := 3) (sp := sp_X11_upgraded) (maxL := 4) (mc := 1) (ms := 6) (RC := 9) (RS := 54) (hs := [])), List.forall_mem_cons.mpr ⟨np_S.mono (op := np_iastT .int) (np_s_iast hX dL_tells_16) nw_iastT_le, List.forall_mem_cons.mpr ⟨np_S.mono (op := np_iinc 3 1) (np_s_iinc hX dL_tells_17 (by decide)) nw_iinc_le, List.forall_mem_cons.mpr ⟨np_s_goto hX dL_tells_20 (by decide), List.forall_mem_cons.mpr ⟨np_S.mono (op := np_ret X.2.2.1) (np_s_ret hX dL_tells_23) (nq_ret_le hR), fun _ h => nomatch h⟩⟩⟩⟩⟩⟩⟩⟩⟩⟩⟩⟩⟩⟩⟩
noncomputable def m_L_tells_2  : Nat → pw_S → Nat → Int32 → Nat → Nat → Int32 → pw_R Unit
| 0, _, _, _, _, _, _ => none
| N + 1, S, v0, v1, va2, vi2, v3 =>
 if 8 ≤ v3 then
 (some (S, ()))
 else
 (pw_b (m_X11_upgraded S v0 v1 v3) fun S1 r4 =>
 pw_e r4 (fun r6 =>
 (pw_c (np_inb v3 (pw_len va2)) <|
 pw_l (pw_up S1 va2 vi2 (upd (S1 va2 vi2) (v3 : Int32).toNatClampNeg r6)) fun S8 =>
 pw_l (v3 + 1 : Int32) fun z11 =>
 m_L_tells_2 N S8 v0 v1 va2 vi2 z11)) (fun _ => none))
set_option maxRecDepth 100000 in
set_option maxHeartbeats 8000000 in
theorem L_L_tells_2 {X : np_Ctx} (hX : np_ok RL cL_tells 4 7 132 9 54 .return_ X) {Q : Option Value → np_W → Prop} {q : Nat} {n dc ds : Nat} (hR : ∀ st w ce sl, np_rt none 9 54 Q st w ce sl → X.2.2.1 st w ce sl) : ∀ (N : Nat) (S : pw_S) (v0 : Nat) (v1 : Int32) (va2 : Nat) (vi2 : Nat) (v3 : Int32) (f : Nat → Option np_E) (ce sl : Nat) (hv0 : pw_ok q 61 v0 = true) (ha2 : pw_arr va2 = true) (hi2 : pw_ok q va2 vi2 = true), ce + N * 1 + dc ≤ 9 → sl + N * 6 + ds ≤ 54 → pw_W q (n, f) S → pw_p (m_L_tells_2 N S v0 v1 va2 vi2 v3) (fun S' r => ∀ f', pw_W q (n, f') S' → Q none (n, f')) → np_G X 2 [(0, .ref (pw_pl 61 v0)), (1, .int v1), (2, .ref (pw_pl va2 vi2)), (3, .int v3)] [] (n, f) ce sl := by
  intro N
  induction N with
  | zero =>
    intro S v0 v1 va2 vi2 v3 f ce sl hv0 ha2 hi2 hc hs hW h
    exact (pw_pn h).elim
  | succ N ih =>
    intro S v0 v1 va2 vi2 v3 f ce sl hv0 ha2 hi2 hc hs hW h
    unfold m_L_tells_2 at h
    refine np_soundW (so_L_tells hX hR) [2] 400 2 _ _ _ _ _ ?_
    conv => whnf
    refine pw_br h (fun _ h => ?_) (fun _ h => ?_)
    · conv => whnf
      exact ⟨(by omega), (by omega), rfl, _, fun _ _ h9 => h9, pw_ps h _ hW⟩
    · conv => whnf
      refine np_rd_i (hW.g hv0) ?_
      conv => whnf
      refine np_chk_i (pw_and rfl (pw_and rfl (pw_and rfl (pw_and rfl ((pw_and (pw_le (by omega)) (pw_le (by omega)))))))) ?_
      conv => whnf
      refine ⟨q, S, v0, v1, v3, rfl, hv0, hW, pw_bd h (fun S1 r4 h f2 hW3 => ?_)⟩
      rcases r4 with r6 | e7
      · replace h := pw_ei h
        conv => whnf
        refine np_rd_i (hW3.ga ha2 hi2) ?_
        conv => whnf
        refine pw_ck h (fun _ h => ?_)
        conv => whnf
        refine pw_wr (a := va2) (i := vi2) (d := upd (S1 va2 vi2) (v3 : Int32).toNatClampNeg r6) hW3 hi2 (pw_ent_arr ha2).symm h (fun S8 f9 hW10 h => ?_)
        conv => whnf
        refine pw_st h (fun z11 h => ?_)
        conv => whnf
        exact np_gl (ih S8 v0 v1 va2 vi2 z11 f9 _ _ hv0 ha2 hi2 (by omega) (by omega) hW10 h) ⟨rfl, rfl, rfl, rfl, trivial⟩
      · exact (pw_pn h).elim
noncomputable def m_L_tells (S : pw_S) (i0 : Nat) (x1 : Int32) (a2 : Nat) (i2 : Nat) : pw_R Unit :=
 pw_l (0 : Int32) fun z12 =>
 m_L_tells_2 (pw_F 9) S i0 x1 a2 i2 z12
def sp_L_tells : np_Sp := fun vs w Q => ∃ (q : Nat) (S : pw_S) (i0 : Nat) (x1 : Int32) (a2 : Nat) (i2 : Nat), vs = [.ref (pw_pl 61 i0), .int x1, .ref (pw_pl a2 i2)] ∧ pw_ok q 61 i0 = true ∧ pw_arr a2 = true ∧ pw_ok q a2 i2 = true ∧ pw_W q w S ∧ pw_p (m_L_tells S i0 x1 a2 i2) (fun S' r => ∀ f', pw_W q (w.1, f') S' → Q none (w.1, f'))
set_option maxRecDepth 100000 in
set_option maxHeartbeats 8000000 in
theorem C_L_tells : np_C yL_tells cL_tells 4 none 7 132 9 54 (sp_L_tells) := by
  refine np_of (by decide) ?_
  intro X vs w Q hsp hX hmn hRt hlt
  obtain ⟨q, S, i0, x1, a2, i2, rfl, hi0, ha2, hi2, hW, h⟩ := hsp
  obtain ⟨n, f⟩ := w
  unfold m_L_tells at h
  have hR : ∀ st w ce sl, np_rt none 9 54 Q st w ce sl → X.2.2.1 st w ce sl := fun _ _ _ _ h => by rw [hRt]; exact h
  refine np_soundW (so_L_tells hX hR) [2] 400 0 _ _ _ _ _ ?_
  conv => whnf
  refine pw_st h (fun z12 h => ?_)
  conv => whnf
  refine np_gl (L_L_tells_2 (dc := 0) (ds := 0) hX hR (pw_F 9) S i0 x1 a2 i2 z12 f _ _ hi0 ha2 hi2 (by rw [pw_F_eq]; omega) (by rw [pw_F_eq]; omega) hW h) ⟨rfl, rfl, rfl, rfl, trivial⟩
theorem dL_sets_0 : decode cL_sets 0 = .ok (.iconst 0, 1) := by decide +kernel
theorem dL_sets_1 : decode cL_sets 1 = .ok (.istore_n 2, 1) := by decide +kernel
theorem dL_sets_2 : decode cL_sets 2 = .ok (.iload_n 2, 1) := by decide +kernel
theorem dL_sets_3 : decode cL_sets 3 = .ok (.bipush 8, 2) := by decide +kernel
theorem dL_sets_5 : decode cL_sets 5 = .ok (.if_icmp .ge 19, 3) := by decide +kernel
theorem dL_sets_8 : decode cL_sets 8 = .ok (.aload_n 0, 1) := by decide +kernel
theorem dL_sets_9 : decode cL_sets 9 = .ok (.iload_n 2, 1) := by decide +kernel
theorem dL_sets_10 : decode cL_sets 10 = .ok (.iconst 0, 1) := by decide +kernel
theorem dL_sets_11 : decode cL_sets 11 = .ok (.aload_n 1, 1) := by decide +kernel
theorem dL_sets_12 : decode cL_sets 12 = .ok (.iload_n 2, 1) := by decide +kernel
theorem dL_sets_13 : decode cL_sets 13 = .ok (.iaload, 1) := by decide +kernel
theorem dL_sets_14 : decode cL_sets 14 = .ok (.invokevirtual 148, 3) := by decide +kernel
theorem dL_sets_17 : decode cL_sets 17 = .ok (.pop, 1) := by decide +kernel
theorem dL_sets_18 : decode cL_sets 18 = .ok (.iinc 2 1, 3) := by decide +kernel
theorem dL_sets_21 : decode cL_sets 21 = .ok (.goto (-19), 3) := by decide +kernel
theorem dL_sets_24 : decode cL_sets 24 = .ok (.return_, 1) := by decide +kernel
def is_L_sets (Rt : np_Rt) : List (Nat × np_Op) := [(0, np_push 1 (.int 0)), (1, nw_ist 1 2), (2, np_ild 1 2), (3, np_push 2 (.int 8)), (5, nq_ic (fun x y => y ≤ x) 24), (8, np_ald 1 0), (9, np_ild 1 2), (10, np_push 1 (.int 0)), (11, np_ald 1 1), (12, np_ild 1 2), (13, nw_ialdT .int), (14, nw_callVX 11 4 sp_X11_set 5 1 6 9 54 []), (17, nq_pop), (18, nw_iinc 2 1), (21, np_goto 2), (24, np_ret Rt)]
set_option maxRecDepth 20000 in
theorem so_L_sets {X : np_Ctx} {Rt : np_Rt} (hX : np_ok RL cL_sets 3 7 124 9 54 .return_ X) (hR : ∀ st w ce sl, Rt st w ce sl → X.2.2.1 st w ce sl) : ∀ q ∈ is_L_sets Rt, np_S X q.1 q.2 :=
  List.forall_mem_cons.mpr ⟨np_s_iconst hX dL_sets_0 (by decide), List.forall_mem_cons.mpr ⟨np_S.mono (op := np_ist 1 2) (np_s_istore_n hX dL_sets_1 rfl (by decide)) nw_ist_le, List.forall_mem_cons.mpr ⟨np_s_iload_n hX dL_sets_2 rfl, List.forall_mem_cons.mpr ⟨np_s_bipush hX dL_sets_3 (by decide), List.forall_mem_cons.mpr ⟨np_S.mono (op := np_ic (fun x y => y ≤ x) 24) (np_s_icmp_ge hX dL_sets_5 (by decide)) nq_ic_le, List.forall_mem_cons.mpr ⟨np_s_aload_n hX dL_sets_8 rfl, List.forall_mem_cons.mpr ⟨np_s_iload_n hX dL_sets_9 rfl, List.forall_mem_cons.mpr ⟨np_s_iconst hX dL_sets_10 (by decide), List.forall_mem_cons.mpr ⟨np_s_aload_n hX dL_sets_11 rfl, List.forall_mem_cons.mpr ⟨np_s_iload_n hX dL_sets_12 rfl, List.forall_mem_cons.mpr ⟨np_S.mono (op := np_ialdT .int) (np_s_iald hX dL_sets_13) nw_ialdT_le, List.forall_mem_cons.mpr ⟨np_S.mono (op := np_callVX 11 4 sp_X11_set 5 1 6 9 54 []) (np_s_callVX hX C_X11_set dL_sets_14 (q := (RX11, TX11, 14)) rfl rfl gw1346 gw63 gw1343 gw1344 gw1345 ⟨by decide, by decide, by decide⟩ (by decide) (by decide) (fun _ h => nomatch h)) (nw_callVX_le2 (ci := 11) (n := 4) (sp := sp_X11_set) (maxL := 5) (mc := 1) (ms := 6) (RC := 9) (RS := 54) (hs := [])), List.forall_mem_cons.mpr ⟨np_S.mono (op := np_pop) (np_s_pop hX dL_sets_17) nq_pop_le, List.forall_mem_cons.mpr ⟨np_S.mono (op := np_iinc 2 1) (np_s_iinc hX dL_sets_18 (by decide)) nw_iinc_le, List.forall_mem_cons.mpr ⟨np_s_goto hX dL_sets_21 (by decide), List.forall_mem_cons.mpr ⟨np_S.mono (op := np_ret X.2.2.1) (np_s_ret hX dL_sets_24) (nq_ret_le hR), fun _ h => nomatch h⟩⟩⟩⟩⟩⟩⟩⟩⟩⟩⟩⟩⟩⟩⟩⟩
noncomputable def m_L_sets_2  : Nat → pw_S → Nat → Nat → Nat → Int32 → pw_R Unit
| 0, _, _, _, _, _ => none
| N + 1, S, v0, va1, vi1, v2 =>
 if 8 ≤ v2 then
 (some (S, ()))
 else
 (pw_c (np_inb v2 (pw_len va1)) <|
 pw_b (m_X11_set S v0 v2 0 (S va1 vi1 (v2 : Int32).toNatClampNeg)) fun S1 r4 =>
 pw_e r4 (fun r6 =>
 (pw_l (v2 + 1 : Int32) fun z8 =>
 m_L_sets_2 N S1 v0 va1 vi1 z8)) (fun _ => none))
set_option maxRecDepth 100000 in
set_option maxHeartbeats 8000000 in
theorem L_L_sets_2 {X : np_Ctx} (hX : np_ok RL cL_sets 3 7 124 9 54 .return_ X) {Q : Option Value → np_W → Prop} {q : Nat} {n dc ds : Nat} (hR : ∀ st w ce sl, np_rt none 9 54 Q st w ce sl → X.2.2.1 st w ce sl) : ∀ (N : Nat) (S : pw_S) (v0 : Nat) (va1 : Nat) (vi1 : Nat) (v2 : Int32) (f : Nat → Option np_E) (ce sl : Nat) (hv0 : pw_ok q 61 v0 = true) (ha1 : pw_arr va1 = true) (hi1 : pw_ok q va1 vi1 = true), ce + N * 1 + dc ≤ 9 → sl + N * 6 + ds ≤ 54 → pw_W q (n, f) S → pw_p (m_L_sets_2 N S v0 va1 vi1 v2) (fun S' r => ∀ f', pw_W q (n, f') S' → Q none (n, f')) → np_G X 2 [(0, .ref (pw_pl 61 v0)), (1, .ref (pw_pl va1 vi1)), (2, .int v2)] [] (n, f) ce sl := by
  intro N
  induction N with
  | zero =>
    intro S v0 va1 vi1 v2 f ce sl hv0 ha1 hi1 hc hs hW h
    exact (pw_pn h).elim
  | succ N ih =>
    intro S v0 va1 vi1 v2 f ce sl hv0 ha1 hi1 hc hs hW h
    unfold m_L_sets_2 at h
    refine np_soundW (so_L_sets hX hR) [2] 400 2 _ _ _ _ _ ?_
    conv => whnf
    refine pw_br h (fun _ h => ?_) (fun _ h => ?_)
    · conv => whnf
      exact ⟨(by omega), (by omega), rfl, _, fun _ _ h9 => h9, pw_ps h _ hW⟩
    · conv => whnf
      refine np_rd_i (hW.ga ha1 hi1) ?_
      conv => whnf
      refine pw_ck h (fun _ h => ?_)
      conv => whnf
      refine np_rd_i (hW.g hv0) ?_
      conv => whnf
      refine np_chk_i (pw_and rfl (pw_and rfl (pw_and rfl (pw_and rfl ((pw_and (pw_le (by omega)) (pw_le (by omega)))))))) ?_
      conv => whnf
      refine ⟨q, S, v0, v2, 0, (S va1 vi1 (v2 : Int32).toNatClampNeg), rfl, hv0, hW, pw_bd h (fun S1 r4 h f2 hW3 => ?_)⟩
      rcases r4 with r6 | e7
      · replace h := pw_ei h
        conv => whnf
        refine pw_st h (fun z8 h => ?_)
        conv => whnf
        exact np_gl (ih S1 v0 va1 vi1 z8 f2 _ _ hv0 ha1 hi1 (by omega) (by omega) hW3 h) ⟨rfl, rfl, rfl, trivial⟩
      · exact (pw_pn h).elim
noncomputable def m_L_sets (S : pw_S) (i0 : Nat) (a1 : Nat) (i1 : Nat) : pw_R Unit :=
 pw_l (0 : Int32) fun z9 =>
 m_L_sets_2 (pw_F 9) S i0 a1 i1 z9
def sp_L_sets : np_Sp := fun vs w Q => ∃ (q : Nat) (S : pw_S) (i0 : Nat) (a1 : Nat) (i1 : Nat), vs = [.ref (pw_pl 61 i0), .ref (pw_pl a1 i1)] ∧ pw_ok q 61 i0 = true ∧ pw_arr a1 = true ∧ pw_ok q a1 i1 = true ∧ pw_W q w S ∧ pw_p (m_L_sets S i0 a1 i1) (fun S' r => ∀ f', pw_W q (w.1, f') S' → Q none (w.1, f'))
set_option maxRecDepth 100000 in
set_option maxHeartbeats 8000000 in
theorem C_L_sets : np_C yL_sets cL_sets 3 none 7 124 9 54 (sp_L_sets) := by
  refine np_of (by decide) ?_
  intro X vs w Q hsp hX hmn hRt hlt
  obtain ⟨q, S, i0, a1, i1, rfl, hi0, ha1, hi1, hW, h⟩ := hsp
  obtain ⟨n, f⟩ := w
  unfold m_L_sets at h
  have hR : ∀ st w ce sl, np_rt none 9 54 Q st w ce sl → X.2.2.1 st w ce sl := fun _ _ _ _ h => by rw [hRt]; exact h
  refine np_soundW (so_L_sets hX hR) [2] 400 0 _ _ _ _ _ ?_
  conv => whnf
  refine pw_st h (fun z9 h => ?_)
  conv => whnf
  refine np_gl (L_L_sets_2 (dc := 0) (ds := 0) hX hR (pw_F 9) S i0 a1 i1 z9 f _ _ hi0 ha1 hi1 (by rw [pw_F_eq]; omega) (by rw [pw_F_eq]; omega) hW h) ⟨rfl, rfl, rfl, trivial⟩
theorem dL_upgrades_0 : decode cL_upgrades 0 = .ok (.aload 4, 2) := by decide +kernel
theorem dL_upgrades_2 : decode cL_upgrades 2 = .ok (.iconst 2, 1) := by decide +kernel
theorem dL_upgrades_3 : decode cL_upgrades 3 = .ok (.iaload, 1) := by decide +kernel
theorem dL_upgrades_4 : decode cL_upgrades 4 = .ok (.iconst 4, 1) := by decide +kernel
theorem dL_upgrades_5 : decode cL_upgrades 5 = .ok (.if_icmp .le 5, 3) := by decide +kernel
theorem dL_upgrades_8 : decode cL_upgrades 8 = .ok (.iconst 1, 1) := by decide +kernel
theorem dL_upgrades_9 : decode cL_upgrades 9 = .ok (.ireturn, 1) := by decide +kernel
theorem dL_upgrades_10 : decode cL_upgrades 10 = .ok (.iconst 0, 1) := by decide +kernel
theorem dL_upgrades_11 : decode cL_upgrades 11 = .ok (.istore 5, 2) := by decide +kernel
theorem dL_upgrades_13 : decode cL_upgrades 13 = .ok (.iconst 0, 1) := by decide +kernel
theorem dL_upgrades_14 : decode cL_upgrades 14 = .ok (.istore 6, 2) := by decide +kernel
theorem dL_upgrades_16 : decode cL_upgrades 16 = .ok (.iload_n 1, 1) := by decide +kernel
theorem dL_upgrades_17 : decode cL_upgrades 17 = .ok (.istore 7, 2) := by decide +kernel
theorem dL_upgrades_19 : decode cL_upgrades 19 = .ok (.iconst 0, 1) := by decide +kernel
theorem dL_upgrades_20 : decode cL_upgrades 20 = .ok (.istore 8, 2) := by decide +kernel
theorem dL_upgrades_22 : decode cL_upgrades 22 = .ok (.iload 8, 2) := by decide +kernel
theorem dL_upgrades_24 : decode cL_upgrades 24 = .ok (.iconst 1, 1) := by decide +kernel
theorem dL_upgrades_25 : decode cL_upgrades 25 = .ok (.iload_n 2, 1) := by decide +kernel
theorem dL_upgrades_26 : decode cL_upgrades 26 = .ok (.iconst 5, 1) := by decide +kernel
theorem dL_upgrades_27 : decode cL_upgrades 27 = .ok (.irem, 1) := by decide +kernel
theorem dL_upgrades_28 : decode cL_upgrades 28 = .ok (.iadd, 1) := by decide +kernel
theorem dL_upgrades_29 : decode cL_upgrades 29 = .ok (.if_icmp .ge 182, 3) := by decide +kernel
theorem dL_upgrades_32 : decode cL_upgrades 32 = .ok (.iload 7, 2) := by decide +kernel
theorem dL_upgrades_34 : decode cL_upgrades 34 = .ok (.iconst 5, 1) := by decide +kernel
theorem dL_upgrades_35 : decode cL_upgrades 35 = .ok (.irem, 1) := by decide +kernel
theorem dL_upgrades_36 : decode cL_upgrades 36 = .ok (.istore 9, 2) := by decide +kernel
theorem dL_upgrades_38 : decode cL_upgrades 38 = .ok (.iload 7, 2) := by decide +kernel
theorem dL_upgrades_40 : decode cL_upgrades 40 = .ok (.iconst 5, 1) := by decide +kernel
theorem dL_upgrades_41 : decode cL_upgrades 41 = .ok (.idiv, 1) := by decide +kernel
theorem dL_upgrades_42 : decode cL_upgrades 42 = .ok (.bipush 8, 2) := by decide +kernel
theorem dL_upgrades_44 : decode cL_upgrades 44 = .ok (.irem, 1) := by decide +kernel
theorem dL_upgrades_45 : decode cL_upgrades 45 = .ok (.istore 10, 2) := by decide +kernel
theorem dL_upgrades_47 : decode cL_upgrades 47 = .ok (.iload 9, 2) := by decide +kernel
theorem dL_upgrades_49 : decode cL_upgrades 49 = .ok (.iconst 1, 1) := by decide +kernel
theorem dL_upgrades_50 : decode cL_upgrades 50 = .ok (.if_icmp .ne 17, 3) := by decide +kernel
theorem dL_upgrades_53 : decode cL_upgrades 53 = .ok (.iload 7, 2) := by decide +kernel
theorem dL_upgrades_55 : decode cL_upgrades 55 = .ok (.bipush 40, 2) := by decide +kernel
theorem dL_upgrades_57 : decode cL_upgrades 57 = .ok (.idiv, 1) := by decide +kernel
theorem dL_upgrades_58 : decode cL_upgrades 58 = .ok (.bipush 100, 2) := by decide +kernel
theorem dL_upgrades_60 : decode cL_upgrades 60 = .ok (.irem, 1) := by decide +kernel
theorem dL_upgrades_61 : decode cL_upgrades 61 = .ok (.bipush 50, 2) := by decide +kernel
theorem dL_upgrades_63 : decode cL_upgrades 63 = .ok (.isub, 1) := by decide +kernel
theorem dL_upgrades_64 : decode cL_upgrades 64 = .ok (.goto 11, 3) := by decide +kernel
theorem dL_upgrades_67 : decode cL_upgrades 67 = .ok (.iload 7, 2) := by decide +kernel
theorem dL_upgrades_69 : decode cL_upgrades 69 = .ok (.bipush 40, 2) := by decide +kernel
theorem dL_upgrades_71 : decode cL_upgrades 71 = .ok (.idiv, 1) := by decide +kernel
theorem dL_upgrades_72 : decode cL_upgrades 72 = .ok (.bipush 8, 2) := by decide +kernel
theorem dL_upgrades_74 : decode cL_upgrades 74 = .ok (.irem, 1) := by decide +kernel
theorem dL_upgrades_75 : decode cL_upgrades 75 = .ok (.istore 11, 2) := by decide +kernel
theorem dL_upgrades_77 : decode cL_upgrades 77 = .ok (.iload 9, 2) := by decide +kernel
theorem dL_upgrades_79 : decode cL_upgrades 79 = .ok (.iconst 2, 1) := by decide +kernel
theorem dL_upgrades_80 : decode cL_upgrades 80 = .ok (.if_icmp .ne 18, 3) := by decide +kernel
theorem dL_upgrades_83 : decode cL_upgrades 83 = .ok (.iload 7, 2) := by decide +kernel
theorem dL_upgrades_85 : decode cL_upgrades 85 = .ok (.sipush 320, 3) := by decide +kernel
theorem dL_upgrades_88 : decode cL_upgrades 88 = .ok (.idiv, 1) := by decide +kernel
theorem dL_upgrades_89 : decode cL_upgrades 89 = .ok (.bipush 99, 2) := by decide +kernel
theorem dL_upgrades_91 : decode cL_upgrades 91 = .ok (.irem, 1) := by decide +kernel
theorem dL_upgrades_92 : decode cL_upgrades 92 = .ok (.bipush 40, 2) := by decide +kernel
theorem dL_upgrades_94 : decode cL_upgrades 94 = .ok (.isub, 1) := by decide +kernel
theorem dL_upgrades_95 : decode cL_upgrades 95 = .ok (.goto 42, 3) := by decide +kernel
theorem dL_upgrades_98 : decode cL_upgrades 98 = .ok (.iload 9, 2) := by decide +kernel
theorem dL_upgrades_100 : decode cL_upgrades 100 = .ok (.iconst 3, 1) := by decide +kernel
theorem dL_upgrades_101 : decode cL_upgrades 101 = .ok (.if_icmp .ne 17, 3) := by decide +kernel
theorem dL_upgrades_104 : decode cL_upgrades 104 = .ok (.iconst 2, 1) := by decide +kernel
theorem dL_upgrades_105 : decode cL_upgrades 105 = .ok (.iload 7, 2) := by decide +kernel
theorem dL_upgrades_107 : decode cL_upgrades 107 = .ok (.sipush 320, 3) := by decide +kernel
theorem dL_upgrades_110 : decode cL_upgrades 110 = .ok (.idiv, 1) := by decide +kernel
theorem dL_upgrades_111 : decode cL_upgrades 111 = .ok (.bipush 8, 2) := by decide +kernel
theorem dL_upgrades_113 : decode cL_upgrades 113 = .ok (.irem, 1) := by decide +kernel
theorem dL_upgrades_114 : decode cL_upgrades 114 = .ok (.iadd, 1) := by decide +kernel
theorem dL_upgrades_115 : decode cL_upgrades 115 = .ok (.goto 22, 3) := by decide +kernel
theorem dL_upgrades_118 : decode cL_upgrades 118 = .ok (.iload 9, 2) := by decide +kernel
theorem dL_upgrades_120 : decode cL_upgrades 120 = .ok (.iconst 4, 1) := by decide +kernel
theorem dL_upgrades_121 : decode cL_upgrades 121 = .ok (.if_icmp .ne 15, 3) := by decide +kernel
theorem dL_upgrades_124 : decode cL_upgrades 124 = .ok (.iload 7, 2) := by decide +kernel
theorem dL_upgrades_126 : decode cL_upgrades 126 = .ok (.sipush 320, 3) := by decide +kernel
theorem dL_upgrades_129 : decode cL_upgrades 129 = .ok (.idiv, 1) := by decide +kernel
theorem dL_upgrades_130 : decode cL_upgrades 130 = .ok (.bipush 8, 2) := by decide +kernel
theorem dL_upgrades_132 : decode cL_upgrades 132 = .ok (.irem, 1) := by decide +kernel
theorem dL_upgrades_133 : decode cL_upgrades 133 = .ok (.goto 4, 3) := by decide +kernel
theorem dL_upgrades_136 : decode cL_upgrades 136 = .ok (.iconst 0, 1) := by decide +kernel
theorem dL_upgrades_137 : decode cL_upgrades 137 = .ok (.istore 12, 2) := by decide +kernel
theorem dL_upgrades_139 : decode cL_upgrades 139 = .ok (.iload 5, 2) := by decide +kernel
theorem dL_upgrades_141 : decode cL_upgrades 141 = .ok (.iload 6, 2) := by decide +kernel
theorem dL_upgrades_143 : decode cL_upgrades 143 = .ok (.iload 10, 2) := by decide +kernel
theorem dL_upgrades_145 : decode cL_upgrades 145 = .ok (.ishr, 1) := by decide +kernel
theorem dL_upgrades_146 : decode cL_upgrades 146 = .ok (.iconst 1, 1) := by decide +kernel
theorem dL_upgrades_147 : decode cL_upgrades 147 = .ok (.iand, 1) := by decide +kernel
theorem dL_upgrades_148 : decode cL_upgrades 148 = .ok (.ifCond .ne 7, 3) := by decide +kernel
theorem dL_upgrades_151 : decode cL_upgrades 151 = .ok (.iconst 1, 1) := by decide +kernel
theorem dL_upgrades_152 : decode cL_upgrades 152 = .ok (.goto 4, 3) := by decide +kernel
theorem dL_upgrades_155 : decode cL_upgrades 155 = .ok (.iconst 0, 1) := by decide +kernel
theorem dL_upgrades_156 : decode cL_upgrades 156 = .ok (.iadd, 1) := by decide +kernel
theorem dL_upgrades_157 : decode cL_upgrades 157 = .ok (.istore 5, 2) := by decide +kernel
theorem dL_upgrades_159 : decode cL_upgrades 159 = .ok (.iload 6, 2) := by decide +kernel
theorem dL_upgrades_161 : decode cL_upgrades 161 = .ok (.iconst 1, 1) := by decide +kernel
theorem dL_upgrades_162 : decode cL_upgrades 162 = .ok (.iload 10, 2) := by decide +kernel
theorem dL_upgrades_164 : decode cL_upgrades 164 = .ok (.ishl, 1) := by decide +kernel
theorem dL_upgrades_165 : decode cL_upgrades 165 = .ok (.ior, 1) := by decide +kernel
theorem dL_upgrades_166 : decode cL_upgrades 166 = .ok (.istore 6, 2) := by decide +kernel
theorem dL_upgrades_168 : decode cL_upgrades 168 = .ok (.aload_n 0, 1) := by decide +kernel
theorem dL_upgrades_169 : decode cL_upgrades 169 = .ok (.iload 9, 2) := by decide +kernel
theorem dL_upgrades_171 : decode cL_upgrades 171 = .ok (.iload 10, 2) := by decide +kernel
theorem dL_upgrades_173 : decode cL_upgrades 173 = .ok (.iload 11, 2) := by decide +kernel
theorem dL_upgrades_175 : decode cL_upgrades 175 = .ok (.iload 12, 2) := by decide +kernel
theorem dL_upgrades_177 : decode cL_upgrades 177 = .ok (.invokevirtual 151, 3) := by decide +kernel
theorem dL_upgrades_180 : decode cL_upgrades 180 = .ok (.iload 5, 2) := by decide +kernel
theorem dL_upgrades_182 : decode cL_upgrades 182 = .ok (.if_icmp .eq 5, 3) := by decide +kernel
theorem dL_upgrades_185 : decode cL_upgrades 185 = .ok (.iconst 0, 1) := by decide +kernel
theorem dL_upgrades_186 : decode cL_upgrades 186 = .ok (.ireturn, 1) := by decide +kernel
theorem dL_upgrades_187 : decode cL_upgrades 187 = .ok (.iload 7, 2) := by decide +kernel
theorem dL_upgrades_189 : decode cL_upgrades 189 = .ok (.iconst 4, 1) := by decide +kernel
theorem dL_upgrades_190 : decode cL_upgrades 190 = .ok (.ishr, 1) := by decide +kernel
theorem dL_upgrades_191 : decode cL_upgrades 191 = .ok (.ldc 154, 2) := by decide +kernel
theorem dL_upgrades_193 : decode cL_upgrades 193 = .ok (.iload_n 2, 1) := by decide +kernel
theorem dL_upgrades_194 : decode cL_upgrades 194 = .ok (.sipush 900, 3) := by decide +kernel
theorem dL_upgrades_197 : decode cL_upgrades 197 = .ok (.irem, 1) := by decide +kernel
theorem dL_upgrades_198 : decode cL_upgrades 198 = .ok (.iload 8, 2) := by decide +kernel
theorem dL_upgrades_200 : decode cL_upgrades 200 = .ok (.iadd, 1) := by decide +kernel
theorem dL_upgrades_201 : decode cL_upgrades 201 = .ok (.imul, 1) := by decide +kernel
theorem dL_upgrades_202 : decode cL_upgrades 202 = .ok (.iadd, 1) := by decide +kernel
theorem dL_upgrades_203 : decode cL_upgrades 203 = .ok (.istore 7, 2) := by decide +kernel
theorem dL_upgrades_205 : decode cL_upgrades 205 = .ok (.iinc 8 1, 3) := by decide +kernel
theorem dL_upgrades_208 : decode cL_upgrades 208 = .ok (.goto (-186), 3) := by decide +kernel
theorem dL_upgrades_211 : decode cL_upgrades 211 = .ok (.aload_n 0, 1) := by decide +kernel
theorem dL_upgrades_212 : decode cL_upgrades 212 = .ok (.invokevirtual 155, 3) := by decide +kernel
theorem dL_upgrades_215 : decode cL_upgrades 215 = .ok (.aload 4, 2) := by decide +kernel
theorem dL_upgrades_217 : decode cL_upgrades 217 = .ok (.iconst 2, 1) := by decide +kernel
theorem dL_upgrades_218 : decode cL_upgrades 218 = .ok (.iaload, 1) := by decide +kernel
theorem dL_upgrades_219 : decode cL_upgrades 219 = .ok (.if_icmp .ne 35, 3) := by decide +kernel
theorem dL_upgrades_222 : decode cL_upgrades 222 = .ok (.aload_n 0, 1) := by decide +kernel
theorem dL_upgrades_223 : decode cL_upgrades 223 = .ok (.aload 4, 2) := by decide +kernel
theorem dL_upgrades_225 : decode cL_upgrades 225 = .ok (.iconst 2, 1) := by decide +kernel
theorem dL_upgrades_226 : decode cL_upgrades 226 = .ok (.iaload, 1) := by decide +kernel
theorem dL_upgrades_227 : decode cL_upgrades 227 = .ok (.invokevirtual 158, 3) := by decide +kernel
theorem dL_upgrades_230 : decode cL_upgrades 230 = .ok (.iload 5, 2) := by decide +kernel
theorem dL_upgrades_232 : decode cL_upgrades 232 = .ok (.if_icmp .lt 22, 3) := by decide +kernel
theorem dL_upgrades_235 : decode cL_upgrades 235 = .ok (.aload_n 0, 1) := by decide +kernel
theorem dL_upgrades_236 : decode cL_upgrades 236 = .ok (.aload 4, 2) := by decide +kernel
theorem dL_upgrades_238 : decode cL_upgrades 238 = .ok (.iconst 2, 1) := by decide +kernel
theorem dL_upgrades_239 : decode cL_upgrades 239 = .ok (.iaload, 1) := by decide +kernel
theorem dL_upgrades_240 : decode cL_upgrades 240 = .ok (.invokevirtual 158, 3) := by decide +kernel
theorem dL_upgrades_243 : decode cL_upgrades 243 = .ok (.iconst 3, 1) := by decide +kernel
theorem dL_upgrades_244 : decode cL_upgrades 244 = .ok (.iload 5, 2) := by decide +kernel
theorem dL_upgrades_246 : decode cL_upgrades 246 = .ok (.imul, 1) := by decide +kernel
theorem dL_upgrades_247 : decode cL_upgrades 247 = .ok (.if_icmp .gt 7, 3) := by decide +kernel
theorem dL_upgrades_250 : decode cL_upgrades 250 = .ok (.iconst 1, 1) := by decide +kernel
theorem dL_upgrades_251 : decode cL_upgrades 251 = .ok (.goto 4, 3) := by decide +kernel
theorem dL_upgrades_254 : decode cL_upgrades 254 = .ok (.iconst 0, 1) := by decide +kernel
theorem dL_upgrades_255 : decode cL_upgrades 255 = .ok (.istore 8, 2) := by decide +kernel
theorem dL_upgrades_257 : decode cL_upgrades 257 = .ok (.aload 4, 2) := by decide +kernel
theorem dL_upgrades_259 : decode cL_upgrades 259 = .ok (.iconst 2, 1) := by decide +kernel
theorem dL_upgrades_260 : decode cL_upgrades 260 = .ok (.dup2, 1) := by decide +kernel
theorem dL_upgrades_261 : decode cL_upgrades 261 = .ok (.iaload, 1) := by decide +kernel
theorem dL_upgrades_262 : decode cL_upgrades 262 = .ok (.iconst 1, 1) := by decide +kernel
theorem dL_upgrades_263 : decode cL_upgrades 263 = .ok (.iadd, 1) := by decide +kernel
theorem dL_upgrades_264 : decode cL_upgrades 264 = .ok (.iastore, 1) := by decide +kernel
theorem dL_upgrades_265 : decode cL_upgrades 265 = .ok (.bipush 8, 2) := by decide +kernel
theorem dL_upgrades_267 : decode cL_upgrades 267 = .ok (.newarray .int, 2) := by decide +kernel
theorem dL_upgrades_269 : decode cL_upgrades 269 = .ok (.astore 9, 2) := by decide +kernel
theorem dL_upgrades_271 : decode cL_upgrades 271 = .ok (.iconst 0, 1) := by decide +kernel
theorem dL_upgrades_272 : decode cL_upgrades 272 = .ok (.istore 10, 2) := by decide +kernel
theorem dL_upgrades_274 : decode cL_upgrades 274 = .ok (.iload 10, 2) := by decide +kernel
theorem dL_upgrades_276 : decode cL_upgrades 276 = .ok (.bipush 8, 2) := by decide +kernel
theorem dL_upgrades_278 : decode cL_upgrades 278 = .ok (.if_icmp .ge 55, 3) := by decide +kernel
theorem dL_upgrades_281 : decode cL_upgrades 281 = .ok (.iload_n 2, 1) := by decide +kernel
theorem dL_upgrades_282 : decode cL_upgrades 282 = .ok (.iload 10, 2) := by decide +kernel
theorem dL_upgrades_284 : decode cL_upgrades 284 = .ok (.iconst 1, 1) := by decide +kernel
theorem dL_upgrades_285 : decode cL_upgrades 285 = .ok (.iadd, 1) := by decide +kernel
theorem dL_upgrades_286 : decode cL_upgrades 286 = .ok (.idiv, 1) := by decide +kernel
theorem dL_upgrades_287 : decode cL_upgrades 287 = .ok (.iconst 5, 1) := by decide +kernel
theorem dL_upgrades_288 : decode cL_upgrades 288 = .ok (.irem, 1) := by decide +kernel
theorem dL_upgrades_289 : decode cL_upgrades 289 = .ok (.ifCond .ne 8, 3) := by decide +kernel
theorem dL_upgrades_292 : decode cL_upgrades 292 = .ok (.ldc 119, 2) := by decide +kernel
theorem dL_upgrades_294 : decode cL_upgrades 294 = .ok (.goto 14, 3) := by decide +kernel
theorem dL_upgrades_297 : decode cL_upgrades 297 = .ok (.iload_n 2, 1) := by decide +kernel
theorem dL_upgrades_298 : decode cL_upgrades 298 = .ok (.iload 10, 2) := by decide +kernel
theorem dL_upgrades_300 : decode cL_upgrades 300 = .ok (.ishr, 1) := by decide +kernel
theorem dL_upgrades_301 : decode cL_upgrades 301 = .ok (.sipush 300, 3) := by decide +kernel
theorem dL_upgrades_304 : decode cL_upgrades 304 = .ok (.irem, 1) := by decide +kernel
theorem dL_upgrades_305 : decode cL_upgrades 305 = .ok (.bipush 100, 2) := by decide +kernel
theorem dL_upgrades_307 : decode cL_upgrades 307 = .ok (.isub, 1) := by decide +kernel
theorem dL_upgrades_308 : decode cL_upgrades 308 = .ok (.istore 11, 2) := by decide +kernel
theorem dL_upgrades_310 : decode cL_upgrades 310 = .ok (.aload_n 0, 1) := by decide +kernel
theorem dL_upgrades_311 : decode cL_upgrades 311 = .ok (.iload 10, 2) := by decide +kernel
theorem dL_upgrades_313 : decode cL_upgrades 313 = .ok (.iconst 0, 1) := by decide +kernel
theorem dL_upgrades_314 : decode cL_upgrades 314 = .ok (.iload 11, 2) := by decide +kernel
theorem dL_upgrades_316 : decode cL_upgrades 316 = .ok (.invokevirtual 148, 3) := by decide +kernel
theorem dL_upgrades_319 : decode cL_upgrades 319 = .ok (.pop, 1) := by decide +kernel
theorem dL_upgrades_320 : decode cL_upgrades 320 = .ok (.aload 9, 2) := by decide +kernel
theorem dL_upgrades_322 : decode cL_upgrades 322 = .ok (.iload 10, 2) := by decide +kernel
theorem dL_upgrades_324 : decode cL_upgrades 324 = .ok (.iload 11, 2) := by decide +kernel
theorem dL_upgrades_326 : decode cL_upgrades 326 = .ok (.iastore, 1) := by decide +kernel
theorem dL_upgrades_327 : decode cL_upgrades 327 = .ok (.iinc 10 1, 3) := by decide +kernel
theorem dL_upgrades_330 : decode cL_upgrades 330 = .ok (.goto (-56), 3) := by decide +kernel
theorem dL_upgrades_333 : decode cL_upgrades 333 = .ok (.iload_n 2, 1) := by decide +kernel
theorem dL_upgrades_334 : decode cL_upgrades 334 = .ok (.aload 4, 2) := by decide +kernel
theorem dL_upgrades_336 : decode cL_upgrades 336 = .ok (.iconst 2, 1) := by decide +kernel
theorem dL_upgrades_337 : decode cL_upgrades 337 = .ok (.iaload, 1) := by decide +kernel
theorem dL_upgrades_338 : decode cL_upgrades 338 = .ok (.irem, 1) := by decide +kernel
theorem dL_upgrades_339 : decode cL_upgrades 339 = .ok (.istore 10, 2) := by decide +kernel
theorem dL_upgrades_341 : decode cL_upgrades 341 = .ok (.aload 4, 2) := by decide +kernel
theorem dL_upgrades_343 : decode cL_upgrades 343 = .ok (.iconst 2, 1) := by decide +kernel
theorem dL_upgrades_344 : decode cL_upgrades 344 = .ok (.iaload, 1) := by decide +kernel
theorem dL_upgrades_345 : decode cL_upgrades 345 = .ok (.iconst 1, 1) := by decide +kernel
theorem dL_upgrades_346 : decode cL_upgrades 346 = .ok (.isub, 1) := by decide +kernel
theorem dL_upgrades_347 : decode cL_upgrades 347 = .ok (.istore 11, 2) := by decide +kernel
theorem dL_upgrades_349 : decode cL_upgrades 349 = .ok (.aload_n 0, 1) := by decide +kernel
theorem dL_upgrades_350 : decode cL_upgrades 350 = .ok (.iload 10, 2) := by decide +kernel
theorem dL_upgrades_352 : decode cL_upgrades 352 = .ok (.iload 11, 2) := by decide +kernel
theorem dL_upgrades_354 : decode cL_upgrades 354 = .ok (.invokevirtual 161, 3) := by decide +kernel
theorem dL_upgrades_357 : decode cL_upgrades 357 = .ok (.istore 12, 2) := by decide +kernel
theorem dL_upgrades_359 : decode cL_upgrades 359 = .ok (.aload_n 0, 1) := by decide +kernel
theorem dL_upgrades_360 : decode cL_upgrades 360 = .ok (.iload 10, 2) := by decide +kernel
theorem dL_upgrades_362 : decode cL_upgrades 362 = .ok (.aload_n 3, 1) := by decide +kernel
theorem dL_upgrades_363 : decode cL_upgrades 363 = .ok (.invokestatic 164, 3) := by decide +kernel
theorem dL_upgrades_366 : decode cL_upgrades 366 = .ok (.bipush 8, 2) := by decide +kernel
theorem dL_upgrades_368 : decode cL_upgrades 368 = .ok (.newarray .int, 2) := by decide +kernel
theorem dL_upgrades_370 : decode cL_upgrades 370 = .ok (.astore 13, 2) := by decide +kernel
theorem dL_upgrades_372 : decode cL_upgrades 372 = .ok (.iconst 0, 1) := by decide +kernel
theorem dL_upgrades_373 : decode cL_upgrades 373 = .ok (.istore 14, 2) := by decide +kernel
theorem dL_upgrades_375 : decode cL_upgrades 375 = .ok (.iload 14, 2) := by decide +kernel
theorem dL_upgrades_377 : decode cL_upgrades 377 = .ok (.bipush 8, 2) := by decide +kernel
theorem dL_upgrades_379 : decode cL_upgrades 379 = .ok (.if_icmp .ge 27, 3) := by decide +kernel
theorem dL_upgrades_382 : decode cL_upgrades 382 = .ok (.iload 12, 2) := by decide +kernel
theorem dL_upgrades_384 : decode cL_upgrades 384 = .ok (.ifCond .lt 22, 3) := by decide +kernel
theorem dL_upgrades_387 : decode cL_upgrades 387 = .ok (.aload 13, 2) := by decide +kernel
theorem dL_upgrades_389 : decode cL_upgrades 389 = .ok (.iload 14, 2) := by decide +kernel
theorem dL_upgrades_391 : decode cL_upgrades 391 = .ok (.aload_n 0, 1) := by decide +kernel
theorem dL_upgrades_392 : decode cL_upgrades 392 = .ok (.iload 12, 2) := by decide +kernel
theorem dL_upgrades_394 : decode cL_upgrades 394 = .ok (.iload 14, 2) := by decide +kernel
theorem dL_upgrades_396 : decode cL_upgrades 396 = .ok (.invokevirtual 145, 3) := by decide +kernel
theorem dL_upgrades_399 : decode cL_upgrades 399 = .ok (.iastore, 1) := by decide +kernel
theorem dL_upgrades_400 : decode cL_upgrades 400 = .ok (.iinc 14 1, 3) := by decide +kernel
theorem dL_upgrades_403 : decode cL_upgrades 403 = .ok (.goto (-28), 3) := by decide +kernel
theorem dL_upgrades_406 : decode cL_upgrades 406 = .ok (.aload_n 0, 1) := by decide +kernel
theorem dL_upgrades_407 : decode cL_upgrades 407 = .ok (.aload_n 3, 1) := by decide +kernel
theorem dL_upgrades_408 : decode cL_upgrades 408 = .ok (.invokestatic 168, 3) := by decide +kernel
theorem dL_upgrades_411 : decode cL_upgrades 411 = .ok (.iconst 0, 1) := by decide +kernel
theorem dL_upgrades_412 : decode cL_upgrades 412 = .ok (.istore 14, 2) := by decide +kernel
theorem dL_upgrades_414 : decode cL_upgrades 414 = .ok (.iload 14, 2) := by decide +kernel
theorem dL_upgrades_416 : decode cL_upgrades 416 = .ok (.bipush 8, 2) := by decide +kernel
theorem dL_upgrades_418 : decode cL_upgrades 418 = .ok (.if_icmp .ge 42, 3) := by decide +kernel
theorem dL_upgrades_421 : decode cL_upgrades 421 = .ok (.iload 12, 2) := by decide +kernel
theorem dL_upgrades_423 : decode cL_upgrades 423 = .ok (.ifCond .lt 37, 3) := by decide +kernel
theorem dL_upgrades_426 : decode cL_upgrades 426 = .ok (.iload 8, 2) := by decide +kernel
theorem dL_upgrades_428 : decode cL_upgrades 428 = .ok (.ifCond .eq 32, 3) := by decide +kernel
theorem dL_upgrades_431 : decode cL_upgrades 431 = .ok (.aload_n 0, 1) := by decide +kernel
theorem dL_upgrades_432 : decode cL_upgrades 432 = .ok (.iload 11, 2) := by decide +kernel
theorem dL_upgrades_434 : decode cL_upgrades 434 = .ok (.iload 14, 2) := by decide +kernel
theorem dL_upgrades_436 : decode cL_upgrades 436 = .ok (.invokevirtual 145, 3) := by decide +kernel
theorem dL_upgrades_439 : decode cL_upgrades 439 = .ok (.aload 13, 2) := by decide +kernel
theorem dL_upgrades_441 : decode cL_upgrades 441 = .ok (.iload 14, 2) := by decide +kernel
theorem dL_upgrades_443 : decode cL_upgrades 443 = .ok (.iaload, 1) := by decide +kernel
theorem dL_upgrades_444 : decode cL_upgrades 444 = .ok (.if_icmp .ne 7, 3) := by decide +kernel
theorem dL_upgrades_447 : decode cL_upgrades 447 = .ok (.iconst 1, 1) := by decide +kernel
theorem dL_upgrades_448 : decode cL_upgrades 448 = .ok (.goto 4, 3) := by decide +kernel
theorem dL_upgrades_451 : decode cL_upgrades 451 = .ok (.iconst 0, 1) := by decide +kernel
theorem dL_upgrades_452 : decode cL_upgrades 452 = .ok (.istore 8, 2) := by decide +kernel
theorem dL_upgrades_454 : decode cL_upgrades 454 = .ok (.iinc 14 1, 3) := by decide +kernel
theorem dL_upgrades_457 : decode cL_upgrades 457 = .ok (.goto (-43), 3) := by decide +kernel
theorem dL_upgrades_460 : decode cL_upgrades 460 = .ok (.aload 4, 2) := by decide +kernel
theorem dL_upgrades_462 : decode cL_upgrades 462 = .ok (.iconst 2, 1) := by decide +kernel
theorem dL_upgrades_463 : decode cL_upgrades 463 = .ok (.dup2, 1) := by decide +kernel
theorem dL_upgrades_464 : decode cL_upgrades 464 = .ok (.iaload, 1) := by decide +kernel
theorem dL_upgrades_465 : decode cL_upgrades 465 = .ok (.iload 12, 2) := by decide +kernel
theorem dL_upgrades_467 : decode cL_upgrades 467 = .ok (.ifCond .lt 7, 3) := by decide +kernel
theorem dL_upgrades_470 : decode cL_upgrades 470 = .ok (.iconst 1, 1) := by decide +kernel
theorem dL_upgrades_471 : decode cL_upgrades 471 = .ok (.goto 4, 3) := by decide +kernel
theorem dL_upgrades_474 : decode cL_upgrades 474 = .ok (.iconst 0, 1) := by decide +kernel
theorem dL_upgrades_475 : decode cL_upgrades 475 = .ok (.iadd, 1) := by decide +kernel
theorem dL_upgrades_476 : decode cL_upgrades 476 = .ok (.iastore, 1) := by decide +kernel
theorem dL_upgrades_477 : decode cL_upgrades 477 = .ok (.aload_n 0, 1) := by decide +kernel
theorem dL_upgrades_478 : decode cL_upgrades 478 = .ok (.aload 9, 2) := by decide +kernel
theorem dL_upgrades_480 : decode cL_upgrades 480 = .ok (.invokestatic 168, 3) := by decide +kernel
theorem dL_upgrades_483 : decode cL_upgrades 483 = .ok (.aload_n 0, 1) := by decide +kernel
theorem dL_upgrades_484 : decode cL_upgrades 484 = .ok (.iload 11, 2) := by decide +kernel
theorem dL_upgrades_486 : decode cL_upgrades 486 = .ok (.invokevirtual 171, 3) := by decide +kernel
theorem dL_upgrades_489 : decode cL_upgrades 489 = .ok (.istore 14, 2) := by decide +kernel
theorem dL_upgrades_491 : decode cL_upgrades 491 = .ok (.aload_n 0, 1) := by decide +kernel
theorem dL_upgrades_492 : decode cL_upgrades 492 = .ok (.iload 11, 2) := by decide +kernel
theorem dL_upgrades_494 : decode cL_upgrades 494 = .ok (.aload_n 3, 1) := by decide +kernel
theorem dL_upgrades_495 : decode cL_upgrades 495 = .ok (.invokestatic 164, 3) := by decide +kernel
theorem dL_upgrades_498 : decode cL_upgrades 498 = .ok (.aload_n 0, 1) := by decide +kernel
theorem dL_upgrades_499 : decode cL_upgrades 499 = .ok (.aload_n 3, 1) := by decide +kernel
theorem dL_upgrades_500 : decode cL_upgrades 500 = .ok (.invokestatic 168, 3) := by decide +kernel
theorem dL_upgrades_503 : decode cL_upgrades 503 = .ok (.iconst 0, 1) := by decide +kernel
theorem dL_upgrades_504 : decode cL_upgrades 504 = .ok (.istore 15, 2) := by decide +kernel
theorem dL_upgrades_506 : decode cL_upgrades 506 = .ok (.iload 15, 2) := by decide +kernel
theorem dL_upgrades_508 : decode cL_upgrades 508 = .ok (.bipush 8, 2) := by decide +kernel
theorem dL_upgrades_510 : decode cL_upgrades 510 = .ok (.if_icmp .ge 53, 3) := by decide +kernel
theorem dL_upgrades_513 : decode cL_upgrades 513 = .ok (.iload 14, 2) := by decide +kernel
theorem dL_upgrades_515 : decode cL_upgrades 515 = .ok (.ifCond .lt 48, 3) := by decide +kernel
theorem dL_upgrades_518 : decode cL_upgrades 518 = .ok (.iload 8, 2) := by decide +kernel
theorem dL_upgrades_520 : decode cL_upgrades 520 = .ok (.ifCond .eq 43, 3) := by decide +kernel
theorem dL_upgrades_523 : decode cL_upgrades 523 = .ok (.aload_n 0, 1) := by decide +kernel
theorem dL_upgrades_524 : decode cL_upgrades 524 = .ok (.iload 14, 2) := by decide +kernel
theorem dL_upgrades_526 : decode cL_upgrades 526 = .ok (.iload 15, 2) := by decide +kernel
theorem dL_upgrades_528 : decode cL_upgrades 528 = .ok (.invokevirtual 145, 3) := by decide +kernel
theorem dL_upgrades_531 : decode cL_upgrades 531 = .ok (.istore 16, 2) := by decide +kernel
theorem dL_upgrades_533 : decode cL_upgrades 533 = .ok (.iload 16, 2) := by decide +kernel
theorem dL_upgrades_535 : decode cL_upgrades 535 = .ok (.ldc 119, 2) := by decide +kernel
theorem dL_upgrades_537 : decode cL_upgrades 537 = .ok (.if_icmp .eq 13, 3) := by decide +kernel
theorem dL_upgrades_540 : decode cL_upgrades 540 = .ok (.aload 9, 2) := by decide +kernel
theorem dL_upgrades_542 : decode cL_upgrades 542 = .ok (.iload 15, 2) := by decide +kernel
theorem dL_upgrades_544 : decode cL_upgrades 544 = .ok (.iaload, 1) := by decide +kernel
theorem dL_upgrades_545 : decode cL_upgrades 545 = .ok (.ldc 119, 2) := by decide +kernel
theorem dL_upgrades_547 : decode cL_upgrades 547 = .ok (.if_icmp .eq 7, 3) := by decide +kernel
theorem dL_upgrades_550 : decode cL_upgrades 550 = .ok (.iconst 1, 1) := by decide +kernel
theorem dL_upgrades_551 : decode cL_upgrades 551 = .ok (.goto 4, 3) := by decide +kernel
theorem dL_upgrades_554 : decode cL_upgrades 554 = .ok (.iconst 0, 1) := by decide +kernel
theorem dL_upgrades_555 : decode cL_upgrades 555 = .ok (.istore 8, 2) := by decide +kernel
theorem dL_upgrades_557 : decode cL_upgrades 557 = .ok (.iinc 15 1, 3) := by decide +kernel
theorem dL_upgrades_560 : decode cL_upgrades 560 = .ok (.goto (-54), 3) := by decide +kernel
theorem dL_upgrades_563 : decode cL_upgrades 563 = .ok (.aload 4, 2) := by decide +kernel
theorem dL_upgrades_565 : decode cL_upgrades 565 = .ok (.iconst 2, 1) := by decide +kernel
theorem dL_upgrades_566 : decode cL_upgrades 566 = .ok (.dup2, 1) := by decide +kernel
theorem dL_upgrades_567 : decode cL_upgrades 567 = .ok (.iaload, 1) := by decide +kernel
theorem dL_upgrades_568 : decode cL_upgrades 568 = .ok (.iload 14, 2) := by decide +kernel
theorem dL_upgrades_570 : decode cL_upgrades 570 = .ok (.ifCond .lt 7, 3) := by decide +kernel
theorem dL_upgrades_573 : decode cL_upgrades 573 = .ok (.iconst 1, 1) := by decide +kernel
theorem dL_upgrades_574 : decode cL_upgrades 574 = .ok (.goto 4, 3) := by decide +kernel
theorem dL_upgrades_577 : decode cL_upgrades 577 = .ok (.iconst 0, 1) := by decide +kernel
theorem dL_upgrades_578 : decode cL_upgrades 578 = .ok (.iadd, 1) := by decide +kernel
theorem dL_upgrades_579 : decode cL_upgrades 579 = .ok (.iastore, 1) := by decide +kernel
theorem dL_upgrades_580 : decode cL_upgrades 580 = .ok (.aload_n 0, 1) := by decide +kernel
theorem dL_upgrades_581 : decode cL_upgrades 581 = .ok (.aload 9, 2) := by decide +kernel
theorem dL_upgrades_583 : decode cL_upgrades 583 = .ok (.invokestatic 168, 3) := by decide +kernel
theorem dL_upgrades_586 : decode cL_upgrades 586 = .ok (.iload 8, 2) := by decide +kernel
theorem dL_upgrades_588 : decode cL_upgrades 588 = .ok (.ifCond .eq 29, 3) := by decide +kernel
theorem dL_upgrades_591 : decode cL_upgrades 591 = .ok (.iload 12, 2) := by decide +kernel
theorem dL_upgrades_593 : decode cL_upgrades 593 = .ok (.ifCond .ge 9, 3) := by decide +kernel
theorem dL_upgrades_596 : decode cL_upgrades 596 = .ok (.iload 12, 2) := by decide +kernel
theorem dL_upgrades_598 : decode cL_upgrades 598 = .ok (.iconst (-1), 1) := by decide +kernel
theorem dL_upgrades_599 : decode cL_upgrades 599 = .ok (.if_icmp .ne 18, 3) := by decide +kernel
theorem dL_upgrades_602 : decode cL_upgrades 602 = .ok (.iload 14, 2) := by decide +kernel
theorem dL_upgrades_604 : decode cL_upgrades 604 = .ok (.ifCond .ge 9, 3) := by decide +kernel
theorem dL_upgrades_607 : decode cL_upgrades 607 = .ok (.iload 14, 2) := by decide +kernel
theorem dL_upgrades_609 : decode cL_upgrades 609 = .ok (.iconst (-1), 1) := by decide +kernel
theorem dL_upgrades_610 : decode cL_upgrades 610 = .ok (.if_icmp .ne 7, 3) := by decide +kernel
theorem dL_upgrades_613 : decode cL_upgrades 613 = .ok (.iconst 1, 1) := by decide +kernel
theorem dL_upgrades_614 : decode cL_upgrades 614 = .ok (.goto 4, 3) := by decide +kernel
theorem dL_upgrades_617 : decode cL_upgrades 617 = .ok (.iconst 0, 1) := by decide +kernel
theorem dL_upgrades_618 : decode cL_upgrades 618 = .ok (.ireturn, 1) := by decide +kernel
def is_L_upgrades (Rt : np_Rt) : List (Nat × np_Op) := [(0, np_ald 2 4), (2, np_push 1 (.int 2)), (3, nw_ialdT .int), (4, np_push 1 (.int 4)), (5, nq_ic (fun x y => x ≤ y) 10), (8, np_push 1 (.int 1)), (9, np_ret Rt), (10, np_push 1 (.int 0)), (11, nw_ist 2 5), (13, np_push 1 (.int 0)), (14, nw_ist 2 6), (16, np_ild 1 1), (17, nw_ist 2 7), (19, np_push 1 (.int 0)), (20, nw_ist 2 8), (22, np_ild 2 8), (24, np_push 1 (.int 1)), (25, np_ild 1 2), (26, np_push 1 (.int 5)), (27, nq_ibn (fun x y => x - x / y * y)), (28, np_ib (fun x y => x + y)), (29, nq_ic (fun x y => y ≤ x) 211), (32, np_ild 2 7), (34, np_push 1 (.int 5)), (35, nq_ibn (fun x y => x - x / y * y)), (36, nw_ist 2 9), (38, np_ild 2 7), (40, np_push 1 (.int 5)), (41, nq_ibn (fun x y => x / y)), (42, np_push 2 (.int 8)), (44, nq_ibn (fun x y => x - x / y * y)), (45, nw_ist 2 10), (47, np_ild 2 9), (49, np_push 1 (.int 1)), (50, nq_icne 67), (53, np_ild 2 7), (55, np_push 2 (.int 40)), (57, nq_ibn (fun x y => x / y)), (58, np_push 2 (.int 100)), (60, nq_ibn (fun x y => x - x / y * y)), (61, np_push 2 (.int 50)), (63, np_ib (fun x y => x - y)), (64, np_goto 75), (67, np_ild 2 7), (69, np_push 2 (.int 40)), (71, nq_ibn (fun x y => x / y)), (72, np_push 2 (.int 8)), (74, nq_ibn (fun x y => x - x / y * y)), (75, nw_ist 2 11), (77, np_ild 2 9), (79, np_push 1 (.int 2)), (80, nq_icne 98), (83, np_ild 2 7), (85, np_push 3 (.int 320)), (88, nq_ibn (fun x y => x / y)), (89, np_push 2 (.int 99)), (91, nq_ibn (fun x y => x - x / y * y)), (92, np_push 2 (.int 40)), (94, np_ib (fun x y => x - y)), (95, np_goto 137), (98, np_ild 2 9), (100, np_push 1 (.int 3)), (101, nq_icne 118), (104, np_push 1 (.int 2)), (105, np_ild 2 7), (107, np_push 3 (.int 320)), (110, nq_ibn (fun x y => x / y)), (111, np_push 2 (.int 8)), (113, nq_ibn (fun x y => x - x / y * y)), (114, np_ib (fun x y => x + y)), (115, np_goto 137), (118, np_ild 2 9), (120, np_push 1 (.int 4)), (121, nq_icne 136), (124, np_ild 2 7), (126, np_push 3 (.int 320)), (129, nq_ibn (fun x y => x / y)), (130, np_push 2 (.int 8)), (132, nq_ibn (fun x y => x - x / y * y)), (133, np_goto 137), (136, np_push 1 (.int 0)), (137, nw_ist 2 12), (139, np_ild 2 5), (141, np_ild 2 6), (143, np_ild 2 10), (145, np_ib (fun x y => x >>> (y &&& 31))), (146, np_push 1 (.int 1)), (147, np_ib (fun x y => x &&& y)), (148, nq_ifne 155), (151, np_push 1 (.int 1)), (152, np_goto 156), (155, np_push 1 (.int 0)), (156, np_ib (fun x y => x + y)), (157, nw_ist 2 5), (159, np_ild 2 6), (161, np_push 1 (.int 1)), (162, np_ild 2 10), (164, np_ib (fun x y => x <<< (y &&& 31))), (165, np_ib (fun x y => x ||| y)), (166, nw_ist 2 6), (168, np_ald 1 0), (169, np_ild 2 9), (171, np_ild 2 10), (173, np_ild 2 11), (175, np_ild 2 12), (177, nw_callVX 11 5 sp_X11_change 6 1 6 106 640 []), (180, np_ild 2 5), (182, nq_ic (fun x y => x = y) 187), (185, np_push 1 (.int 0)), (186, np_ret Rt), (187, np_ild 2 7), (189, np_push 1 (.int 4)), (190, np_ib (fun x y => x >>> (y &&& 31))), (191, np_push 2 (.int 104729)), (193, np_ild 1 2), (194, np_push 3 (.int 900)), (197, nq_ibn (fun x y => x - x / y * y)), (198, np_ild 2 8), (200, np_ib (fun x y => x + y)), (201, np_ib (fun x y => x * y)), (202, np_ib (fun x y => x + y)), (203, nw_ist 2 7), (205, nw_iinc 8 1), (208, np_goto 22), (211, np_ald 1 0), (212, nw_callVX 11 1 sp_X11_upgrade 2 1 6 106 640 []), (215, np_ald 2 4), (217, np_push 1 (.int 2)), (218, nw_ialdT .int), (219, nq_icne 254), (222, np_ald 1 0), (223, np_ald 2 4), (225, np_push 1 (.int 2)), (226, nw_ialdT .int), (227, nw_callVX 11 2 sp_X11_parts 3 1 6 106 640 []), (230, np_ild 2 5), (232, nq_ic (fun x y => x < y) 254), (235, np_ald 1 0), (236, np_ald 2 4), (238, np_push 1 (.int 2)), (239, nw_ialdT .int), (240, nw_callVX 11 2 sp_X11_parts 3 1 6 106 640 []), (243, np_push 1 (.int 3)), (244, np_ild 2 5), (246, np_ib (fun x y => x * y)), (247, nq_ic (fun x y => y < x) 254), (250, np_push 1 (.int 1)), (251, np_goto 255), (254, np_push 1 (.int 0)), (255, nw_ist 2 8), (257, np_ald 2 4), (259, np_push 1 (.int 2)), (260, nq_dup2), (261, nw_ialdT .int), (262, np_push 1 (.int 1)), (263, np_ib (fun x y => x + y)), (264, nw_iastT .int), (265, np_push 2 (.int 8)), (267, nq_newa .int 8 (8, .inl fun _ => 0) 106 640), (269, np_ast 2 9), (271, np_push 1 (.int 0)), (272, nw_ist 2 10), (274, np_ild 2 10), (276, np_push 2 (.int 8)), (278, nq_ic (fun x y => y ≤ x) 333), (281, np_ild 1 2), (282, np_ild 2 10), (284, np_push 1 (.int 1)), (285, np_ib (fun x y => x + y)), (286, nq_ibn (fun x y => x / y)), (287, np_push 1 (.int 5)), (288, nq_ibn (fun x y => x - x / y * y)), (289, nq_ifne 297), (292, np_push 2 (.int (-2147483648))), (294, np_goto 308), (297, np_ild 1 2), (298, np_ild 2 10), (300, np_ib (fun x y => x >>> (y &&& 31))), (301, np_push 3 (.int 300)), (304, nq_ibn (fun x y => x - x / y * y)), (305, np_push 2 (.int 100)), (307, np_ib (fun x y => x - y)), (308, nw_ist 2 11), (310, np_ald 1 0), (311, np_ild 2 10), (313, np_push 1 (.int 0)), (314, np_ild 2 11), (316, nw_callVX 11 4 sp_X11_set 5 1 6 106 640 []), (319, nq_pop), (320, np_ald 2 9), (322, np_ild 2 10), (324, np_ild 2 11), (326, nw_iastT .int), (327, nw_iinc 10 1), (330, np_goto 274), (333, np_ild 1 2), (334, np_ald 2 4), (336, np_push 1 (.int 2)), (337, nw_ialdT .int), (338, nq_ibn (fun x y => x - x / y * y)), (339, nw_ist 2 10), (341, np_ald 2 4), (343, np_push 1 (.int 2)), (344, nw_ialdT .int), (345, np_push 1 (.int 1)), (346, np_ib (fun x y => x - y)), (347, nw_ist 2 11), (349, np_ald 1 0), (350, np_ild 2 10), (352, np_ild 2 11), (354, nw_callVX 11 3 sp_X11_compose 6 1 6 106 640 []), (357, nw_ist 2 12), (359, np_ald 1 0), (360, np_ild 2 10), (362, np_ald 1 3), (363, nq_call 3 sp_L_tells 4 9 54 106 640), (366, np_push 2 (.int 8)), (368, nq_newa .int 8 (8, .inl fun _ => 0) 106 640), (370, np_ast 2 13), (372, np_push 1 (.int 0)), (373, nw_ist 2 14), (375, np_ild 2 14), (377, np_push 2 (.int 8)), (379, nq_ic (fun x y => y ≤ x) 406), (382, np_ild 2 12), (384, nq_if (fun x => x < 0) 406), (387, np_ald 2 13), (389, np_ild 2 14), (391, np_ald 1 0), (392, np_ild 2 12), (394, np_ild 2 14), (396, nw_callVX 11 3 sp_X11_upgraded 4 1 6 106 640 []), (399, nw_iastT .int), (400, nw_iinc 14 1), (403, np_goto 375), (406, np_ald 1 0), (407, np_ald 1 3), (408, nq_call 2 sp_L_sets 3 9 54 106 640), (411, np_push 1 (.int 0)), (412, nw_ist 2 14), (414, np_ild 2 14), (416, np_push 2 (.int 8)), (418, nq_ic (fun x y => y ≤ x) 460), (421, np_ild 2 12), (423, nq_if (fun x => x < 0) 460), (426, np_ild 2 8), (428, nq_if (fun x => x = 0) 460), (431, np_ald 1 0), (432, np_ild 2 11), (434, np_ild 2 14), (436, nw_callVX 11 3 sp_X11_upgraded 4 1 6 106 640 []), (439, np_ald 2 13), (441, np_ild 2 14), (443, nw_ialdT .int), (444, nq_icne 451), (447, np_push 1 (.int 1)), (448, np_goto 452), (451, np_push 1 (.int 0)), (452, nw_ist 2 8), (454, nw_iinc 14 1), (457, np_goto 414), (460, np_ald 2 4), (462, np_push 1 (.int 2)), (463, nq_dup2), (464, nw_ialdT .int), (465, np_ild 2 12), (467, nq_if (fun x => x < 0) 474), (470, np_push 1 (.int 1)), (471, np_goto 475), (474, np_push 1 (.int 0)), (475, np_ib (fun x y => x + y)), (476, nw_iastT .int), (477, np_ald 1 0), (478, np_ald 2 9), (480, nq_call 2 sp_L_sets 3 9 54 106 640), (483, np_ald 1 0), (484, np_ild 2 11), (486, nw_callVX 11 2 sp_X11_reverse 4 1 6 106 640 []), (489, nw_ist 2 14), (491, np_ald 1 0), (492, np_ild 2 11), (494, np_ald 1 3), (495, nq_call 3 sp_L_tells 4 9 54 106 640), (498, np_ald 1 0), (499, np_ald 1 3), (500, nq_call 2 sp_L_sets 3 9 54 106 640), (503, np_push 1 (.int 0)), (504, nw_ist 2 15), (506, np_ild 2 15), (508, np_push 2 (.int 8)), (510, nq_ic (fun x y => y ≤ x) 563), (513, np_ild 2 14), (515, nq_if (fun x => x < 0) 563), (518, np_ild 2 8), (520, nq_if (fun x => x = 0) 563), (523, np_ald 1 0), (524, np_ild 2 14), (526, np_ild 2 15), (528, nw_callVX 11 3 sp_X11_upgraded 4 1 6 106 640 []), (531, nw_ist 2 16), (533, np_ild 2 16), (535, np_push 2 (.int (-2147483648))), (537, nq_ic (fun x y => x = y) 550), (540, np_ald 2 9), (542, np_ild 2 15), (544, nw_ialdT .int), (545, np_push 2 (.int (-2147483648))), (547, nq_ic (fun x y => x = y) 554), (550, np_push 1 (.int 1)), (551, np_goto 555), (554, np_push 1 (.int 0)), (555, nw_ist 2 8), (557, nw_iinc 15 1), (560, np_goto 506), (563, np_ald 2 4), (565, np_push 1 (.int 2)), (566, nq_dup2), (567, nw_ialdT .int), (568, np_ild 2 14), (570, nq_if (fun x => x < 0) 577), (573, np_push 1 (.int 1)), (574, np_goto 578), (577, np_push 1 (.int 0)), (578, np_ib (fun x y => x + y)), (579, nw_iastT .int), (580, np_ald 1 0), (581, np_ald 2 9), (583, nq_call 2 sp_L_sets 3 9 54 106 640), (586, np_ild 2 8), (588, nq_if (fun x => x = 0) 617), (591, np_ild 2 12), (593, nq_if (fun x => 0 ≤ x) 602), (596, np_ild 2 12), (598, np_push 1 (.int (-1))), (599, nq_icne 617), (602, np_ild 2 14), (604, nq_if (fun x => 0 ≤ x) 613), (607, np_ild 2 14), (609, np_push 1 (.int (-1))), (610, nq_icne 617), (613, np_push 1 (.int 1)), (614, np_goto 618), (617, np_push 1 (.int 0)), (618, np_ret Rt)]
set_option maxRecDepth 20000 in
theorem so_L_upgrades {X : np_Ctx} {Rt : np_Rt} (hX : np_ok RL cL_upgrades 17 8 161 106 640 .ireturn X) (hR : ∀ st w ce sl, Rt st w ce sl → X.2.2.1 st w ce sl) : ∀ q ∈ is_L_upgrades Rt, np_S X q.1 q.2 :=
  List.forall_mem_cons.mpr ⟨np_s_aload hX dL_upgrades_0, List.forall_mem_cons.mpr ⟨np_s_iconst hX dL_upgrades_2 (by decide), List.forall_mem_cons.mpr ⟨np_S.mono (op := np_ialdT .int) (np_s_iald hX dL_upgrades_3) nw_ialdT_le, List.forall_mem_cons.mpr ⟨np_s_iconst hX dL_upgrades_4 (by decide), List.forall_mem_cons.mpr ⟨np_S.mono (op := np_ic (fun x y => x ≤ y) 10) (np_s_icmp_le hX dL_upgrades_5 (by decide)) nq_ic_le, List.forall_mem_cons.mpr ⟨np_s_iconst hX dL_upgrades_8 (by decide), List.forall_mem_cons.mpr ⟨np_S.mono (op := np_ret X.2.2.1) (np_s_ret hX dL_upgrades_9) (nq_ret_le hR), List.forall_mem_cons.mpr ⟨np_s_iconst hX dL_upgrades_10 (by decide), List.forall_mem_cons.mpr ⟨np_S.mono (op := np_ist 2 5) (np_s_istore hX dL_upgrades_11 (by decide)) nw_ist_le, List.forall_mem_cons.mpr ⟨np_s_iconst hX dL_upgrades_13 (by decide), List.forall_mem_cons.mpr ⟨np_S.mono (op := np_ist 2 6) (np_s_istore hX dL_upgrades_14 (by decide)) nw_ist_le, List.forall_mem_cons.mpr ⟨np_s_iload_n hX dL_upgrades_16 rfl, List.forall_mem_cons.mpr ⟨np_S.mono (op := np_ist 2 7) (np_s_istore hX dL_upgrades_17 (by decide)) nw_ist_le, List.forall_mem_cons.mpr ⟨np_s_iconst hX dL_upgrades_19 (by decide), List.forall_mem_cons.mpr ⟨np_S.mono (op := np_ist 2 8) (np_s_istore hX dL_upgrades_20 (by decide)) nw_ist_le, List.forall_mem_cons.mpr ⟨np_s_iload hX dL_upgrades_22, List.forall_mem_cons.mpr ⟨np_s_iconst hX dL_upgrades_24 (by decide), List.forall_mem_cons.mpr ⟨np_s_iload_n hX dL_upgrades_25 rfl, List.forall_mem_cons.mpr ⟨np_s_iconst hX dL_upgrades_26 (by decide), List.forall_mem_cons.mpr ⟨np_S.mono (op := np_ibn (fun x y => x - x / y * y)) (np_s_irem hX dL_upgrades_27) nq_ibn_le, List.forall_mem_cons.mpr ⟨np_s_iadd hX dL_upgrades_28, List.forall_mem_cons.mpr ⟨np_S.mono (op := np_ic (fun x y => y ≤ x) 211) (np_s_icmp_ge hX dL_upgrades_29 (by decide)) nq_ic_le, List.forall_mem_cons.mpr ⟨np_s_iload hX dL_upgrades_32, List.forall_mem_cons.mpr ⟨np_s_iconst hX dL_upgrades_34 (by decide), List.forall_mem_cons.mpr ⟨np_S.mono (op := np_ibn (fun x y => x - x / y * y)) (np_s_irem hX dL_upgrades_35) nq_ibn_le, List.forall_mem_cons.mpr ⟨np_S.mono (op := np_ist 2 9) (np_s_istore hX dL_upgrades_36 (by decide)) nw_ist_le, List.forall_mem_cons.mpr ⟨np_s_iload hX dL_upgrades_38, List.forall_mem_cons.mpr ⟨np_s_iconst hX dL_upgrades_40 (by decide), List.forall_mem_cons.mpr ⟨np_S.mono (op := np_ibn (fun x y => x / y)) (np_s_idiv hX dL_upgrades_41) nq_ibn_le, List.forall_mem_cons.mpr ⟨np_s_bipush hX dL_upgrades_42 (by decide), List.forall_mem_cons.mpr ⟨np_S.mono (op := np_ibn (fun x y => x - x / y * y)) (np_s_irem hX dL_upgrades_44) nq_ibn_le, List.forall_mem_cons.mpr ⟨np_S.mono (op := np_ist 2 10) (np_s_istore hX dL_upgrades_45 (by decide)) nw_ist_le, List.forall_mem_cons.mpr ⟨np_s_iload hX dL_upgrades_47, List.forall_mem_cons.mpr ⟨np_s_iconst hX dL_upgrades_49 (by decide), List.forall_mem_cons.mpr ⟨np_S.mono (op := np_icne 67) (np_s_icmp_ne hX dL_upgrades_50 (by decide)) nq_icne_le, List.forall_mem_cons.mpr ⟨np_s_iload hX dL_upgrades_53, List.forall_mem_cons.mpr ⟨np_s_bipush hX dL_upgrades_55 (by decide), List.forall_mem_cons.mpr ⟨np_S.mono (op := np_ibn (fun x y => x / y)) (np_s_idiv hX dL_upgrades_57) nq_ibn_le, List.forall_mem_cons.mpr ⟨np_s_bipush hX dL_upgrades_58 (by decide), List.forall_mem_cons.mpr ⟨np_S.mono (op := np_ibn (fun x y => x - x / y * y)) (np_s_irem hX dL_upgrades_60) nq_ibn_le, List.forall_mem_cons.mpr ⟨np_s_bipush hX dL_upgrades_61 (by decide), List.forall_mem_cons.mpr ⟨np_s_isub hX dL_upgrades_63, List.forall_mem_cons.mpr ⟨np_s_goto hX dL_upgrades_64 (by decide), List.forall_mem_cons.mpr ⟨np_s_iload hX dL_upgrades_67, List.forall_mem_cons.mpr ⟨np_s_bipush hX dL_upgrades_69 (by decide), List.forall_mem_cons.mpr ⟨np_S.mono (op := np_ibn (fun x y => x / y)) (np_s_idiv hX dL_upgrades_71) nq_ibn_le, List.forall_mem_cons.mpr ⟨np_s_bipush hX dL_upgrades_72 (by decide), List.forall_mem_cons.mpr ⟨np_S.mono (op := np_ibn (fun x y => x - x / y * y)) (np_s_irem hX dL_upgrades_74) nq_ibn_le, List.forall_mem_cons.mpr ⟨np_S.mono (op := np_ist 2 11) (np_s_istore hX dL_upgrades_75 (by decide)) nw_ist_le, List.forall_mem_cons.mpr ⟨np_s_iload hX dL_upgrades_77, List.forall_mem_cons.mpr ⟨np_s_iconst hX dL_upgrades_79 (by decide), List.forall_mem_cons.mpr ⟨np_S.mono (op := np_icne 98) (np_s_icmp_ne hX dL_upgrades_80 (by decide)) nq_icne_le, List.forall_mem_cons.mpr ⟨np_s_iload hX dL_upgrades_83, List.forall_mem_cons.mpr ⟨np_s_sipush hX dL_upgrades_85 (by decide), List.forall_mem_cons.mpr ⟨np_S.mono (op := np_ibn (fun x y => x / y)) (np_s_idiv hX dL_upgrades_88) nq_ibn_le, List.forall_mem_cons.mpr ⟨np_s_bipush hX dL_upgrades_89 (by decide), List.forall_mem_cons.mpr ⟨np_S.mono (op := np_ibn (fun x y => x - x / y * y)) (np_s_irem hX dL_upgrades_91) nq_ibn_le, List.forall_mem_cons.mpr ⟨np_s_bipush hX dL_upgrades_92 (by decide), List.forall_mem_cons.mpr ⟨np_s_isub hX dL_upgrades_94, List.forall_mem_cons.mpr ⟨np_s_goto hX dL_upgrades_95 (by decide), List.forall_mem_cons.mpr ⟨np_s_iload hX dL_upgrades_98, List.forall_mem_cons.mpr ⟨np_s_iconst hX dL_upgrades_100 (by decide), List.forall_mem_cons.mpr ⟨np_S.mono (op := np_icne 118) (np_s_icmp_ne hX dL_upgrades_101 (by decide)) nq_icne_le, List.forall_mem_cons.mpr ⟨np_s_iconst hX dL_upgrades_104 (by decide), List.forall_mem_cons.mpr ⟨np_s_iload hX dL_upgrades_105, List.forall_mem_cons.mpr ⟨np_s_sipush hX dL_upgrades_107 (by decide), List.forall_mem_cons.mpr ⟨np_S.mono (op := np_ibn (fun x y => x / y)) (np_s_idiv hX dL_upgrades_110) nq_ibn_le, List.forall_mem_cons.mpr ⟨np_s_bipush hX dL_upgrades_111 (by decide), List.forall_mem_cons.mpr ⟨np_S.mono (op := np_ibn (fun x y => x - x / y * y)) (np_s_irem hX dL_upgrades_113) nq_ibn_le, List.forall_mem_cons.mpr ⟨np_s_iadd hX dL_upgrades_114, List.forall_mem_cons.mpr ⟨np_s_goto hX dL_upgrades_115 (by decide), List.forall_mem_cons.mpr ⟨np_s_iload hX dL_upgrades_118, List.forall_mem_cons.mpr ⟨np_s_iconst hX dL_upgrades_120 (by decide), List.forall_mem_cons.mpr ⟨np_S.mono (op := np_icne 136) (np_s_icmp_ne hX dL_upgrades_121 (by decide)) nq_icne_le, List.forall_mem_cons.mpr ⟨np_s_iload hX dL_upgrades_124, List.forall_mem_cons.mpr ⟨np_s_sipush hX dL_upgrades_126 (by decide), List.forall_mem_cons.mpr ⟨np_S.mono (op := np_ibn (fun x y => x / y)) (np_s_idiv hX dL_upgrades_129) nq_ibn_le, List.forall_mem_cons.mpr ⟨np_s_bipush hX dL_upgrades_130 (by decide), List.forall_mem_cons.mpr ⟨np_S.mono (op := np_ibn (fun x y => x - x / y * y)) (np_s_irem hX dL_upgrades_132) nq_ibn_le, List.forall_mem_cons.mpr ⟨np_s_goto hX dL_upgrades_133 (by decide), List.forall_mem_cons.mpr ⟨np_s_iconst hX dL_upgrades_136 (by decide), List.forall_mem_cons.mpr ⟨np_S.mono (op := np_ist 2 12) (np_s_istore hX dL_upgrades_137 (by decide)) nw_ist_le, List.forall_mem_cons.mpr ⟨np_s_iload hX dL_upgrades_139, List.forall_mem_cons.mpr ⟨np_s_iload hX dL_upgrades_141, List.forall_mem_cons.mpr ⟨np_s_iload hX dL_upgrades_143, List.forall_mem_cons.mpr ⟨np_s_ishr hX dL_upgrades_145, List.forall_mem_cons.mpr ⟨np_s_iconst hX dL_upgrades_146 (by decide), List.forall_mem_cons.mpr ⟨np_s_iand hX dL_upgrades_147, List.forall_mem_cons.mpr ⟨np_S.mono (op := np_ifne 155) (np_s_if_ne hX dL_upgrades_148 (by decide)) nq_ifne_le, List.forall_mem_cons.mpr ⟨np_s_iconst hX dL_upgrades_151 (by decide), List.forall_mem_cons.mpr ⟨np_s_goto hX dL_upgrades_152 (by decide), List.forall_mem_cons.mpr ⟨np_s_iconst hX dL_upgrades_155 (by decide), List.forall_mem_cons.mpr ⟨np_s_iadd hX dL_upgrades_156, List.forall_mem_cons.mpr ⟨np_S.mono (op := np_ist 2 5) (np_s_istore hX dL_upgrades_157 (by decide)) nw_ist_le, List.forall_mem_cons.mpr ⟨np_s_iload hX dL_upgrades_159, List.forall_mem_cons.mpr ⟨np_s_iconst hX dL_upgrades_161 (by decide), List.forall_mem_cons.mpr ⟨np_s_iload hX dL_upgrades_162, List.forall_mem_cons.mpr ⟨np_s_ishl hX dL_upgrades_164, List.forall_mem_cons.mpr ⟨np_s_ior hX dL_upgrades_165, List.forall_mem_cons.mpr ⟨np_S.mono (op := np_ist 2 6) (np_s_istore hX dL_upgrades_166 (by decide)) nw_ist_le, List.forall_mem_cons.mpr ⟨np_s_aload_n hX dL_upgrades_168 rfl, List.forall_mem_cons.mpr ⟨np_s_iload hX dL_upgrades_169, List.forall_mem_cons.mpr ⟨np_s_iload hX dL_upgrades_171, List.forall_mem_cons.mpr ⟨np_s_iload hX dL_upgrades_173, List.forall_mem_cons.mpr ⟨np_s_iload hX dL_upgrades_175, List.forall_mem_cons.mpr ⟨np_S.mono (op := np_callVX 11 5 sp_X11_change 6 1 6 106 640 []) (np_s_callVX hX C_X11_change dL_upgrades_177 (q := (RX11, TX11, 14)) rfl rfl gw1290 gw63 gw1287 gw1288 gw1289 ⟨by decide, by decide, by decide⟩ (by decide) (by decide) (fun _ h => nomatch h)) (nw_callVX_le2 (ci := 11) (n := 5) (sp := sp_X11_change) (maxL := 6) (mc := 1) (ms := 6) (RC := 106) (RS := 640) (hs := [])), List.forall_mem_cons.mpr ⟨np_s_iload hX dL_upgrades_180, List.forall_mem_cons.mpr ⟨np_S.mono (op := np_ic (fun x y => x = y) 187) (np_s_icmp_eq hX dL_upgrades_182 (by decide)) nq_ic_le, List.forall_mem_cons.mpr ⟨np_s_iconst hX dL_upgrades_185 (by decide), List.forall_mem_cons.mpr ⟨np_S.mono (op := np_ret X.2.2.1) (np_s_ret hX dL_upgrades_186) (nq_ret_le hR), List.forall_mem_cons.mpr ⟨np_s_iload hX dL_upgrades_187, List.forall_mem_cons.mpr ⟨np_s_iconst hX dL_upgrades_189 (by decide), List.forall_mem_cons.mpr ⟨np_s_ishr hX dL_upgrades_190, List.forall_mem_cons.mpr ⟨np_s_ldc hX dL_upgrades_191 gw1306, List.forall_mem_cons.mpr ⟨np_s_iload_n hX dL_upgrades_193 rfl, List.forall_mem_cons.mpr ⟨np_s_sipush hX dL_upgrades_194 (by decide), List.forall_mem_cons.mpr ⟨np_S.mono (op := np_ibn (fun x y => x - x / y * y)) (np_s_irem hX dL_upgrades_197) nq_ibn_le, List.forall_mem_cons.mpr ⟨np_s_iload hX dL_upgrades_198, List.forall_mem_cons.mpr ⟨np_s_iadd hX dL_upgrades_200, List.forall_mem_cons.mpr ⟨np_s_imul hX dL_upgrades_201, List.forall_mem_cons.mpr ⟨np_s_iadd hX dL_upgrades_202, List.forall_mem_cons.mpr ⟨np_S.mono (op := np_ist 2 7) (np_s_istore hX dL_upgrades_203 (by decide)) nw_ist_le, List.forall_mem_cons.mpr ⟨np_S.mono (op := np_iinc 8 1) (np_s_iinc hX dL_upgrades_205 (by decide)) nw_iinc_le, List.forall_mem_cons.mpr ⟨np_s_goto hX dL_upgrades_208 (by decide), List.forall_mem_cons.mpr ⟨np_s_aload_n hX dL_upgrades_211 rfl, List.forall_mem_cons.mpr ⟨np_S.mono (op := np_callVX 11 1 sp_X11_upgrade 2 1 6 106 640 []) (np_s_callVX hX C_X11_upgrade dL_upgrades_212 (q := (RX11, TX11, 14)) rfl rfl gw1310 gw63 gw1307 gw1308 gw1309 ⟨by decide, by decide, by decide⟩ (by decide) (by decide) (fun _ h => nomatch h)) (nw_callVX_le2 (ci := 11) (n := 1) (sp := sp_X11_upgrade) (maxL := 2) (mc := 1) (ms := 6) (RC := 106) (RS := 640) (hs := [])), List.forall_mem_cons.mpr ⟨np_s_aload hX dL_upgrades_215, List.forall_mem_cons.mpr ⟨np_s_iconst hX dL_upgrades_217 (by decide), List.forall_mem_cons.mpr ⟨np_S.mono (op := np_ialdT .int) (np_s_iald hX dL_upgrades_218) nw_ialdT_le, List.forall_mem_cons.mpr ⟨np_S.mono (op := np_icne 254) (np_s_icmp_ne hX dL_upgrades_219 (by decide)) nq_icne_le, List.forall_mem_cons.mpr ⟨np_s_aload_n hX dL_upgrades_222 rfl, List.forall_mem_cons.mpr ⟨np_s_aload hX dL_upgrades_223, List.forall_mem_cons.mpr ⟨np_s_iconst hX dL_upgrades_225 (by decide), List.forall_mem_cons.mpr ⟨np_S.mono (op := np_ialdT .int) (np_s_iald hX dL_upgrades_226) nw_ialdT_le, List.forall_mem_cons.mpr ⟨np_S.mono (op := np_callVX 11 2 sp_X11_parts 3 1 6 106 640 []) (np_s_callVX hX C_X11_parts dL_upgrades_227 (q := (RX11, TX11, 14)) rfl rfl gw1337 gw63 gw1334 gw1335 gw1336 ⟨by decide, by decide, by decide⟩ (by decide) (by decide) (fun _ h => nomatch h)) (nw_callVX_le2 (ci := 11) (n := 2) (sp := sp_X11_parts) (maxL := 3) (mc := 1) (ms := 6) (RC := 106) (RS := 640) (hs := [])), List.forall_mem_cons.mpr ⟨np_s_iload hX dL_upgrades_230, List.forall_mem_cons.mpr ⟨np_S.mono (op := np_ic (fun x y => x < y) 254) (np_s_icmp_lt hX dL_upgrades_232 (by decide)) nq_ic_le, List.forall_mem_cons.mpr ⟨np_s_aload_n hX dL_upgrades_235 rfl, List.forall_mem_cons.mpr ⟨np_s_aload hX dL_upgrades_236, List.forall_mem_cons.mpr ⟨np_s_iconst hX dL_upgrades_238 (by decide), List.forall_mem_cons.mpr ⟨np_S.mono (op := np_ialdT .int) (np_s_iald hX dL_upgrades_239) nw_ialdT_le, List.forall_mem_cons.mpr ⟨np_S.mono (op := np_callVX 11 2 sp_X11_parts 3 1 6 106 640 []) (np_s_callVX hX C_X11_parts dL_upgrades_240 (q := (RX11, TX11, 14)) rfl rfl gw1337 gw63 gw1334 gw1335 gw1336 ⟨by decide, by decide, by decide⟩ (by decide) (by decide) (fun _ h => nomatch h)) (nw_callVX_le2 (ci := 11) (n := 2) (sp := sp_X11_parts) (maxL := 3) (mc := 1) (ms := 6) (RC := 106) (RS := 640) (hs := [])), List.forall_mem_cons.mpr ⟨np_s_iconst hX dL_upgrades_243 (by decide), List.forall_mem_cons.mpr ⟨np_s_iload hX dL_upgrades_244, List.forall_mem_cons.mpr ⟨np_s_imul hX dL_upgrades_246, List.forall_mem_cons.mpr ⟨np_S.mono (op := np_ic (fun x y => y < x) 254) (np_s_icmp_gt hX dL_upgrades_247 (by decide)) nq_ic_le, List.forall_mem_cons.mpr ⟨np_s_iconst hX dL_upgrades_250 (by decide), List.forall_mem_cons.mpr ⟨np_s_goto hX dL_upgrades_251 (by decide), List.forall_mem_cons.mpr ⟨np_s_iconst hX dL_upgrades_254 (by decide), List.forall_mem_cons.mpr ⟨np_S.mono (op := np_ist 2 8) (np_s_istore hX dL_upgrades_255 (by decide)) nw_ist_le, List.forall_mem_cons.mpr ⟨np_s_aload hX dL_upgrades_257, List.forall_mem_cons.mpr ⟨np_s_iconst hX dL_upgrades_259 (by decide), List.forall_mem_cons.mpr ⟨np_S.mono (op := np_dup2) (np_s_dup2 hX dL_upgrades_260) nq_dup2_le, List.forall_mem_cons.mpr ⟨np_S.mono (op := np_ialdT .int) (np_s_iald hX dL_upgrades_261) nw_ialdT_le, List.forall_mem_cons.mpr ⟨np_s_iconst hX dL_upgrades_262 (by decide), List.forall_mem_cons.mpr ⟨np_s_iadd hX dL_upgrades_263, List.forall_mem_cons.mpr ⟨np_S.mono (op := np_iastT .int) (np_s_iast hX dL_upgrades_264) nw_iastT_le, List.forall_mem_cons.mpr ⟨np_s_bipush hX dL_upgrades_265 (by decide), List.forall_mem_cons.mpr ⟨np_S.mono (op := np_newa .int 8 (8, .inl fun _ => 0) 106 640) (np_s_newa hX dL_upgrades_267 rfl gw118 (by decide) (by intro C h; cases h) (by decide) (fun _ => vp_cell_i _ _ _) (by decide) (fun _ _ => rfl) (fun _ => trivial)) nq_newa_le, List.forall_mem_cons.mpr ⟨np_s_astore hX dL_upgrades_269 (by decide), List.forall_mem_cons.mpr ⟨np_s_iconst hX dL_upgrades_271 (by decide), List.forall_mem_cons.mpr ⟨np_S.mono (op := np_ist 2 10) (np_s_istore hX dL_upgrades_272 (by decide)) nw_ist_le, List.forall_mem_cons.mpr ⟨np_s_iload hX dL_upgrades_274, List.forall_mem_cons.mpr ⟨np_s_bipush hX dL_upgrades_276 (by decide), List.forall_mem_cons.mpr ⟨np_S.mono (op := np_ic (fun x y => y ≤ x) 333) (np_s_icmp_ge hX dL_upgrades_278 (by decide)) nq_ic_le, List.forall_mem_cons.mpr ⟨np_s_iload_n hX dL_upgrades_281 rfl, List.forall_mem_cons.mpr ⟨np_s_iload hX dL_upgrades_282, List.forall_mem_cons.mpr ⟨np_s_iconst hX dL_upgrades_284 (by decide), List.forall_mem_cons.mpr ⟨np_s_iadd hX dL_upgrades_285, List.forall_mem_cons.mpr ⟨np_S.mono (op := np_ibn (fun x y => x / y)) (np_s_idiv hX dL_upgrades_286) nq_ibn_le, List.forall_mem_cons.mpr ⟨np_s_iconst hX dL_upgrades_287 (by decide), List.forall_mem_cons.mpr ⟨np_S.mono (op := np_ibn (fun x y => x - x / y * y)) (np_s_irem hX dL_upgrades_288) nq_ibn_le, List.forall_mem_cons.mpr ⟨np_S.mono (op := np_ifne 297) (np_s_if_ne hX dL_upgrades_289 (by decide)) nq_ifne_le, List.forall_mem_cons.mpr ⟨np_s_ldc hX dL_upgrades_292 gw1266, List.forall_mem_cons.mpr ⟨np_s_goto hX dL_upgrades_294 (by decide), List.forall_mem_cons.mpr ⟨np_s_iload_n hX dL_upgrades_297 rfl, List.forall_mem_cons.mpr ⟨np_s_iload hX dL_upgrades_298, List.forall_mem_cons.mpr ⟨np_s_ishr hX dL_upgrades_300, List.forall_mem_cons.mpr ⟨np_s_sipush hX dL_upgrades_301 (by decide), List.forall_mem_cons.mpr ⟨np_S.mono (op := np_ibn (fun x y => x - x / y * y)) (np_s_irem hX dL_upgrades_304) nq_ibn_le, List.forall_mem_cons.mpr ⟨np_s_bipush hX dL_upgrades_305 (by decide), List.forall_mem_cons.mpr ⟨np_s_isub hX dL_upgrades_307, List.forall_mem_cons.mpr ⟨np_S.mono (op := np_ist 2 11) (np_s_istore hX dL_upgrades_308 (by decide)) nw_ist_le, List.forall_mem_cons.mpr ⟨np_s_aload_n hX dL_upgrades_310 rfl, List.forall_mem_cons.mpr ⟨np_s_iload hX dL_upgrades_311, List.forall_mem_cons.mpr ⟨np_s_iconst hX dL_upgrades_313 (by decide), List.forall_mem_cons.mpr ⟨np_s_iload hX dL_upgrades_314, List.forall_mem_cons.mpr ⟨np_S.mono (op := np_callVX 11 4 sp_X11_set 5 1 6 106 640 []) (np_s_callVX hX C_X11_set dL_upgrades_316 (q := (RX11, TX11, 14)) rfl rfl gw1346 gw63 gw1343 gw1344 gw1345 ⟨by decide, by decide, by decide⟩ (by decide) (by decide) (fun _ h => nomatch h)) (nw_callVX_le2 (ci := 11) (n := 4) (sp := sp_X11_set) (maxL := 5) (mc := 1) (ms := 6) (RC := 106) (RS := 640) (hs := [])), List.forall_mem_cons.mpr ⟨np_S.mono (op := np_pop) (np_s_pop hX dL_upgrades_319) nq_pop_le, List.forall_mem_cons.mpr ⟨np_s_aload hX dL_upgrades_320, List.forall_mem_cons.mpr ⟨np_s_iload hX dL_upgrades_322, List.forall_mem_cons.mpr ⟨np_s_iload hX dL_upgrades_324, List.forall_mem_cons.mpr ⟨np_S.mono (op := np_iastT .int) (np_s_iast hX dL_upgrades_326) nw_iastT_le, List.forall_mem_cons.mpr ⟨np_S.mono (op := np_iinc 10 1) (np_s_iinc hX dL_upgrades_327 (by decide)) nw_iinc_le, List.forall_mem_cons.mpr ⟨np_s_goto hX dL_upgrades_330 (by decide), List.forall_mem_cons.mpr ⟨np_s_iload_n hX dL_upgrades_333 rfl, List.forall_mem_cons.mpr ⟨np_s_aload hX dL_upgrades_334, List.forall_mem_cons.mpr ⟨np_s_iconst hX dL_upgrades_336 (by decide), List.forall_mem_cons.mpr ⟨np_S.mono (op := np_ialdT .int) (np_s_iald hX dL_upgrades_337) nw_ialdT_le, List.forall_mem_cons.mpr ⟨np_S.mono (op := np_ibn (fun x y => x - x / y * y)) (np_s_irem hX dL_upgrades_338) nq_ibn_le, List.forall_mem_cons.mpr ⟨np_S.mono (op := np_ist 2 10) (np_s_istore hX dL_upgrades_339 (by decide)) nw_ist_le, List.forall_mem_cons.mpr ⟨np_s_aload hX dL_upgrades_341, List.forall_mem_cons.mpr ⟨np_s_iconst hX dL_upgrades_343 (by decide), List.forall_mem_cons.mpr ⟨np_S.mono (op := np_ialdT .int) (np_s_iald hX dL_upgrades_344) nw_ialdT_le, List.forall_mem_cons.mpr ⟨np_s_iconst hX dL_upgrades_345 (by decide), List.forall_mem_cons.mpr ⟨np_s_isub hX dL_upgrades_346, List.forall_mem_cons.mpr ⟨np_S.mono (op := np_ist 2 11) (np_s_istore hX dL_upgrades_347 (by decide)) nw_ist_le, List.forall_mem_cons.mpr ⟨np_s_aload_n hX dL_upgrades_349 rfl, List.forall_mem_cons.mpr ⟨np_s_iload hX dL_upgrades_350, List.forall_mem_cons.mpr ⟨np_s_iload hX dL_upgrades_352, List.forall_mem_cons.mpr ⟨np_S.mono (op := np_callVX 11 3 sp_X11_compose 6 1 6 106 640 []) (np_s_callVX hX C_X11_compose dL_upgrades_354 (q := (RX11, TX11, 14)) rfl rfl gw1351 gw63 gw1348 gw1349 gw1350 ⟨by decide, by decide, by decide⟩ (by decide) (by decide) (fun _ h => nomatch h)) (nw_callVX_le2 (ci := 11) (n := 3) (sp := sp_X11_compose) (maxL := 6) (mc := 1) (ms := 6) (RC := 106) (RS := 640) (hs := [])), List.forall_mem_cons.mpr ⟨np_S.mono (op := np_ist 2 12) (np_s_istore hX dL_upgrades_357 (by decide)) nw_ist_le, List.forall_mem_cons.mpr ⟨np_s_aload_n hX dL_upgrades_359 rfl, List.forall_mem_cons.mpr ⟨np_s_iload hX dL_upgrades_360, List.forall_mem_cons.mpr ⟨np_s_aload_n hX dL_upgrades_362 rfl, List.forall_mem_cons.mpr ⟨np_S.mono (op := np_call 3 sp_L_tells 4 9 54 106 640) (np_s_callS hX C_L_tells dL_upgrades_363 gw1390 gw62 gw1388 gw1389 ⟨by decide, by decide, by decide⟩ (by decide) (by decide)) nq_call_le, List.forall_mem_cons.mpr ⟨np_s_bipush hX dL_upgrades_366 (by decide), List.forall_mem_cons.mpr ⟨np_S.mono (op := np_newa .int 8 (8, .inl fun _ => 0) 106 640) (np_s_newa hX dL_upgrades_368 rfl gw118 (by decide) (by intro C h; cases h) (by decide) (fun _ => vp_cell_i _ _ _) (by decide) (fun _ _ => rfl) (fun _ => trivial)) nq_newa_le, List.forall_mem_cons.mpr ⟨np_s_astore hX dL_upgrades_370 (by decide), List.forall_mem_cons.mpr ⟨np_s_iconst hX dL_upgrades_372 (by decide), List.forall_mem_cons.mpr ⟨np_S.mono (op := np_ist 2 14) (np_s_istore hX dL_upgrades_373 (by decide)) nw_ist_le, List.forall_mem_cons.mpr ⟨np_s_iload hX dL_upgrades_375, List.forall_mem_cons.mpr ⟨np_s_bipush hX dL_upgrades_377 (by decide), List.forall_mem_cons.mpr ⟨np_S.mono (op := np_ic (fun x y => y ≤ x) 406) (np_s_icmp_ge hX dL_upgrades_379 (by decide)) nq_ic_le, List.forall_mem_cons.mpr ⟨np_s_iload hX dL_upgrades_382, List.forall_mem_cons.mpr ⟨np_S.mono (op := np_if (fun x => x < 0) 406) (np_s_if_lt hX dL_upgrades_384 (by decide)) nq_if_le, List.forall_mem_cons.mpr ⟨np_s_aload hX dL_upgrades_387, List.forall_mem_cons.mpr ⟨np_s_iload hX dL_upgrades_389, List.forall_mem_cons.mpr ⟨np_s_aload_n hX dL_upgrades_391 rfl, List.forall_mem_cons.mpr ⟨np_s_iload hX dL_upgrades_392, List.forall_mem_cons.mpr ⟨np_s_iload hX dL_upgrades_394, List.forall_mem_cons.mpr ⟨np_S.mono (op := np_callVX 11 3 sp_X11_upgraded 4 1 6 106 640 []) (np_s_callVX hX C_X11_upgraded dL_upgrades_396 (q := (RX11, TX11, 14)) rfl rfl gw1394 gw63 gw1391 gw1392 gw1393 ⟨by decide, by decide, by decide⟩ (by decide) (by decide) (fun _ h => nomatch h)) (nw_callVX_le2 (ci := 11) (n := 3) (sp := sp_X11_upgraded) (maxL := 4) (mc := 1) (ms := 6) (RC := 106) (RS := 640) (hs := [])), List.forall_mem_cons.mpr ⟨np_S.mono (op := np_iastT .int) (np_s_iast hX dL_upgrades_399) nw_iastT_le, List.forall_mem_cons.mpr ⟨np_S.mono (op := np_iinc 14 1) (np_s_iinc hX dL_upgrades_400 (by decide)) nw_iinc_le, List.forall_mem_cons.mpr ⟨np_s_goto hX dL_upgrades_403 (by decide), List.forall_mem_cons.mpr ⟨np_s_aload_n hX dL_upgrades_406 rfl, List.forall_mem_cons.mpr ⟨np_s_aload_n hX dL_upgrades_407 rfl, List.forall_mem_cons.mpr ⟨np_S.mono (op := np_call 2 sp_L_sets 3 9 54 106 640) (np_s_callS hX C_L_sets dL_upgrades_408 gw1422 gw62 gw1420 gw1421 ⟨by decide, by decide, by decide⟩ (by decide) (by decide)) nq_call_le, List.forall_mem_cons.mpr ⟨np_s_iconst hX dL_upgrades_411 (by decide), List.forall_mem_cons.mpr ⟨np_S.mono (op := np_ist 2 14) (np_s_istore hX dL_upgrades_412 (by decide)) nw_ist_le, List.forall_mem_cons.mpr ⟨np_s_iload hX dL_upgrades_414, List.forall_mem_cons.mpr ⟨np_s_bipush hX dL_upgrades_416 (by decide), List.forall_mem_cons.mpr ⟨np_S.mono (op := np_ic (fun x y => y ≤ x) 460) (np_s_icmp_ge hX dL_upgrades_418 (by decide)) nq_ic_le, List.forall_mem_cons.mpr ⟨np_s_iload hX dL_upgrades_421, List.forall_mem_cons.mpr ⟨np_S.mono (op := np_if (fun x => x < 0) 460) (np_s_if_lt hX dL_upgrades_423 (by decide)) nq_if_le, List.forall_mem_cons.mpr ⟨np_s_iload hX dL_upgrades_426, List.forall_mem_cons.mpr ⟨np_S.mono (op := np_if (fun x => x = 0) 460) (np_s_if_eq hX dL_upgrades_428 (by decide)) nq_if_le, List.forall_mem_cons.mpr ⟨np_s_aload_n hX dL_upgrades_431 rfl, List.forall_mem_cons.mpr ⟨np_s_iload hX dL_upgrades_432, List.forall_mem_cons.mpr ⟨np_s_iload hX dL_upgrades_434, List.forall_mem_cons.mpr ⟨np_S.mono (op := np_callVX 11 3 sp_X11_upgraded 4 1 6 106 640 []) (np_s_callVX hX C_X11_upgraded dL_upgrades_436 (q := (RX11, TX11, 14)) rfl rfl gw1394 gw63 gw1391 gw1392 gw1393 ⟨by decide, by decide, by decide⟩ (by decide) (by decide) (fun _ h => nomatch h)) (nw_callVX_le2 (ci := 11) (n := 3) (sp := sp_X11_upgraded) (maxL := 4) (mc := 1) (ms := 6) (RC := 106) (RS := 640) (hs := [])), List.forall_mem_cons.mpr ⟨np_s_aload hX dL_upgrades_439, List.forall_mem_cons.mpr ⟨np_s_iload hX dL_upgrades_441, List.forall_mem_cons.mpr ⟨np_S.mono (op := np_ialdT .int) (np_s_iald hX dL_upgrades_443) nw_ialdT_le, List.forall_mem_cons.mpr ⟨np_S.mono (op := np_icne 451) (np_s_icmp_ne hX dL_upgrades_444 (by decide)) nq_icne_le, List.forall_mem_cons.mpr ⟨np_s_iconst hX dL_upgrades_447 (by decide), List.forall_mem_cons.mpr ⟨np_s_goto hX dL_upgrades_448 (by decide), List.forall_mem_cons.mpr ⟨np_s_iconst hX dL_upgrades_451 (by decide), List.forall_mem_cons.mpr ⟨np_S.mono (op := np_ist 2 8) (np_s_istore hX dL_upgrades_452 (by decide)) nw_ist_le, List.forall_mem_cons.mpr ⟨np_S.mono (op := np_iinc 14 1) (np_s_iinc hX dL_upgrades_454 (by decide)) nw_iinc_le, List.forall_mem_cons.mpr ⟨np_s_goto hX dL_upgrades_457 (by decide), List.forall_mem_cons.mpr ⟨np_s_aload hX dL_upgrades_460, List.forall_mem_cons.mpr ⟨np_s_iconst hX dL_upgrades_462 (by decide), List.forall_mem_cons.mpr ⟨np_S.mono (op := np_dup2) (np_s_dup2 hX dL_upgrades_463) nq_dup2_le, List.forall_mem_cons.mpr ⟨np_S.mono (op := np_ialdT .int) (np_s_iald hX dL_upgrades_464) nw_ialdT_le, List.forall_mem_cons.mpr ⟨np_s_iload hX dL_upgrades_465, List.forall_mem_cons.mpr ⟨np_S.mono (op := np_if (fun x => x < 0) 474) (np_s_if_lt hX dL_upgrades_467 (by decide)) nq_if_le, List.forall_mem_cons.mpr ⟨np_s_iconst hX dL_upgrades_470 (by decide), List.forall_mem_cons.mpr ⟨np_s_goto hX dL_upgrades_471 (by decide), List.forall_mem_cons.mpr ⟨np_s_iconst hX dL_upgrades_474 (by decide), List.forall_mem_cons.mpr ⟨np_s_iadd hX dL_upgrades_475, List.forall_mem_cons.mpr ⟨np_S.mono (op := np_iastT .int) (np_s_iast hX dL_upgrades_476) nw_iastT_le, List.forall_mem_cons.mpr ⟨np_s_aload_n hX dL_upgrades_477 rfl, List.forall_mem_cons.mpr ⟨np_s_aload hX dL_upgrades_478, List.forall_mem_cons.mpr ⟨np_S.mono (op := np_call 2 sp_L_sets 3 9 54 106 640) (np_s_callS hX C_L_sets dL_upgrades_480 gw1422 gw62 gw1420 gw1421 ⟨by decide, by decide, by decide⟩ (by decide) (by decide)) nq_call_le, List.forall_mem_cons.mpr ⟨np_s_aload_n hX dL_upgrades_483 rfl, List.forall_mem_cons.mpr ⟨np_s_iload hX dL_upgrades_484, List.forall_mem_cons.mpr ⟨np_S.mono (op := np_callVX 11 2 sp_X11_reverse 4 1 6 106 640 []) (np_s_callVX hX C_X11_reverse dL_upgrades_486 (q := (RX11, TX11, 14)) rfl rfl gw1426 gw63 gw1423 gw1424 gw1425 ⟨by decide, by decide, by decide⟩ (by decide) (by decide) (fun _ h => nomatch h)) (nw_callVX_le2 (ci := 11) (n := 2) (sp := sp_X11_reverse) (maxL := 4) (mc := 1) (ms := 6) (RC := 106) (RS := 640) (hs := [])), List.forall_mem_cons.mpr ⟨np_S.mono (op := np_ist 2 14) (np_s_istore hX dL_upgrades_489 (by decide)) nw_ist_le, List.forall_mem_cons.mpr ⟨np_s_aload_n hX dL_upgrades_491 rfl, List.forall_mem_cons.mpr ⟨np_s_iload hX dL_upgrades_492, List.forall_mem_cons.mpr ⟨np_s_aload_n hX dL_upgrades_494 rfl, List.forall_mem_cons.mpr ⟨np_S.mono (op := np_call 3 sp_L_tells 4 9 54 106 640) (np_s_callS hX C_L_tells dL_upgrades_495 gw1390 gw62 gw1388 gw1389 ⟨by decide, by decide, by decide⟩ (by decide) (by decide)) nq_call_le, List.forall_mem_cons.mpr ⟨np_s_aload_n hX dL_upgrades_498 rfl, List.forall_mem_cons.mpr ⟨np_s_aload_n hX dL_upgrades_499 rfl, List.forall_mem_cons.mpr ⟨np_S.mono (op := np_call 2 sp_L_sets 3 9 54 106 640) (np_s_callS hX C_L_sets dL_upgrades_500 gw1422 gw62 gw1420 gw1421 ⟨by decide, by decide, by decide⟩ (by decide) (by decide)) nq_call_le, List.forall_mem_cons.mpr ⟨np_s_iconst hX dL_upgrades_503 (by decide), List.forall_mem_cons.mpr ⟨np_S.mono (op := np_ist 2 15) (np_s_istore hX dL_upgrades_504 (by decide)) nw_ist_le, List.forall_mem_cons.mpr ⟨np_s_iload hX dL_upgrades_506, List.forall_mem_cons.mpr ⟨np_s_bipush hX dL_upgrades_508 (by decide), List.forall_mem_cons.mpr ⟨np_S.mono (op := np_ic (fun x y => y ≤ x) 563) (np_s_icmp_ge hX dL_upgrades_510 (by decide)) nq_ic_le, List.forall_mem_cons.mpr ⟨np_s_iload hX dL_upgrades_513, List.forall_mem_cons.mpr ⟨np_S.mono (op := np_if (fun x => x < 0) 563) (np_s_if_lt hX dL_upgrades_515 (by decide)) nq_if_le, List.forall_mem_cons.mpr ⟨np_s_iload hX dL_upgrades_518, List.forall_mem_cons.mpr ⟨np_S.mono (op := np_if (fun x => x = 0) 563) (np_s_if_eq hX dL_upgrades_520 (by decide)) nq_if_le, List.forall_mem_cons.mpr ⟨np_s_aload_n hX dL_upgrades_523 rfl, List.forall_mem_cons.mpr ⟨np_s_iload hX dL_upgrades_524, List.forall_mem_cons.mpr ⟨np_s_iload hX dL_upgrades_526, List.forall_mem_cons.mpr ⟨np_S.mono (op := np_callVX 11 3 sp_X11_upgraded 4 1 6 106 640 []) (np_s_callVX hX C_X11_upgraded dL_upgrades_528 (q := (RX11, TX11, 14)) rfl rfl gw1394 gw63 gw1391 gw1392 gw1393 ⟨by decide, by decide, by decide⟩ (by decide) (by decide) (fun _ h => nomatch h)) (nw_callVX_le2 (ci := 11) (n := 3) (sp := sp_X11_upgraded) (maxL := 4) (mc := 1) (ms := 6) (RC := 106) (RS := 640) (hs := [])), List.forall_mem_cons.mpr ⟨np_S.mono (op := np_ist 2 16) (np_s_istore hX dL_upgrades_531 (by decide)) nw_ist_le, List.forall_mem_cons.mpr ⟨np_s_iload hX dL_upgrades_533, List.forall_mem_cons.mpr ⟨np_s_ldc hX dL_upgrades_535 gw1266, List.forall_mem_cons.mpr ⟨np_S.mono (op := np_ic (fun x y => x = y) 550) (np_s_icmp_eq hX dL_upgrades_537 (by decide)) nq_ic_le, List.forall_mem_cons.mpr ⟨np_s_aload hX dL_upgrades_540, List.forall_mem_cons.mpr ⟨np_s_iload hX dL_upgrades_542, List.forall_mem_cons.mpr ⟨np_S.mono (op := np_ialdT .int) (np_s_iald hX dL_upgrades_544) nw_ialdT_le, List.forall_mem_cons.mpr ⟨np_s_ldc hX dL_upgrades_545 gw1266, List.forall_mem_cons.mpr ⟨np_S.mono (op := np_ic (fun x y => x = y) 554) (np_s_icmp_eq hX dL_upgrades_547 (by decide)) nq_ic_le, List.forall_mem_cons.mpr ⟨np_s_iconst hX dL_upgrades_550 (by decide), List.forall_mem_cons.mpr ⟨np_s_goto hX dL_upgrades_551 (by decide), List.forall_mem_cons.mpr ⟨np_s_iconst hX dL_upgrades_554 (by decide), List.forall_mem_cons.mpr ⟨np_S.mono (op := np_ist 2 8) (np_s_istore hX dL_upgrades_555 (by decide)) nw_ist_le, List.forall_mem_cons.mpr ⟨np_S.mono (op := np_iinc 15 1) (np_s_iinc hX dL_upgrades_557 (by decide)) nw_iinc_le, List.forall_mem_cons.mpr ⟨np_s_goto hX dL_upgrades_560 (by decide), List.forall_mem_cons.mpr ⟨np_s_aload hX dL_upgrades_563, List.forall_mem_cons.mpr ⟨np_s_iconst hX dL_upgrades_565 (by decide), List.forall_mem_cons.mpr ⟨np_S.mono (op := np_dup2) (np_s_dup2 hX dL_upgrades_566) nq_dup2_le, List.forall_mem_cons.mpr ⟨np_S.mono (op := np_ialdT .int) (np_s_iald hX dL_upgrades_567) nw_ialdT_le, List.forall_mem_cons.mpr ⟨np_s_iload hX dL_upgrades_568, List.forall_mem_cons.mpr ⟨np_S.mono (op := np_if (fun x => x < 0) 577) (np_s_if_lt hX dL_upgrades_570 (by decide)) nq_if_le, List.forall_mem_cons.mpr ⟨np_s_iconst hX dL_upgrades_573 (by decide), List.forall_mem_cons.mpr ⟨np_s_goto hX dL_upgrades_574 (by decide), List.forall_mem_cons.mpr ⟨np_s_iconst hX dL_upgrades_577 (by decide), List.forall_mem_cons.mpr ⟨np_s_iadd hX dL_upgrades_578, List.forall_mem_cons.mpr ⟨np_S.mono (op := np_iastT .int) (np_s_iast hX dL_upgrades_579) nw_iastT_le, List.forall_mem_cons.mpr ⟨np_s_aload_n hX dL_upgrades_580 rfl, List.forall_mem_cons.mpr ⟨np_s_aload hX dL_upgrades_581, List.forall_mem_cons.mpr ⟨np_S.mono (op := np_call 2 sp_L_sets 3 9 54 106 640) (np_s_callS hX C_L_sets dL_upgrades_583 gw1422 gw62 gw1420 gw1421 ⟨by decide, by decide, by decide⟩ (by decide) (by decide)) nq_call_le, List.forall_mem_cons.mpr ⟨np_s_iload hX dL_upgrades_586, List.forall_mem_cons.mpr ⟨np_S.mono (op := np_if (fun x => x = 0) 617) (np_s_if_eq hX dL_upgrades_588 (by decide)) nq_if_le, List.forall_mem_cons.mpr ⟨np_s_iload hX dL_upgrades_591, List.forall_mem_cons.mpr ⟨np_S.mono (op := np_if (fun x => 0 ≤ x) 602) (np_s_if_ge hX dL_upgrades_593 (by decide)) nq_if_le, List.forall_mem_cons.mpr ⟨np_s_iload hX dL_upgrades_596, List.forall_mem_cons.mpr ⟨np_s_iconst hX dL_upgrades_598 (by decide), List.forall_mem_cons.mpr ⟨np_S.mono (op := np_icne 617) (np_s_icmp_ne hX dL_upgrades_599 (by decide)) nq_icne_le, List.forall_mem_cons.mpr ⟨np_s_iload hX dL_upgrades_602, List.forall_mem_cons.mpr ⟨np_S.mono (op := np_if (fun x => 0 ≤ x) 613) (np_s_if_ge hX dL_upgrades_604 (by decide)) nq_if_le, List.forall_mem_cons.mpr ⟨np_s_iload hX dL_upgrades_607, List.forall_mem_cons.mpr ⟨np_s_iconst hX dL_upgrades_609 (by decide), List.forall_mem_cons.mpr ⟨np_S.mono (op := np_icne 617) (np_s_icmp_ne hX dL_upgrades_610 (by decide)) nq_icne_le, List.forall_mem_cons.mpr ⟨np_s_iconst hX dL_upgrades_613 (by decide), List.forall_mem_cons.mpr ⟨np_s_goto hX dL_upgrades_614 (by decide), List.forall_mem_cons.mpr ⟨np_s_iconst hX dL_upgrades_617 (by decide), List.forall_mem_cons.mpr ⟨np_S.mono (op := np_ret X.2.2.1) (np_s_ret hX dL_upgrades_618) (nq_ret_le hR), fun _ h => nomatch h⟩⟩⟩⟩⟩⟩⟩⟩⟩⟩⟩⟩⟩⟩⟩⟩⟩⟩⟩⟩⟩⟩⟩⟩⟩⟩⟩⟩⟩⟩⟩⟩⟩⟩⟩⟩⟩⟩⟩⟩⟩⟩⟩⟩⟩⟩⟩⟩⟩⟩⟩⟩⟩⟩⟩⟩⟩⟩⟩⟩⟩⟩⟩⟩⟩⟩⟩⟩⟩⟩⟩⟩⟩⟩⟩⟩⟩⟩⟩⟩⟩⟩⟩⟩⟩⟩⟩⟩⟩⟩⟩⟩⟩⟩⟩⟩⟩⟩⟩⟩⟩⟩⟩⟩⟩⟩⟩⟩⟩⟩⟩⟩⟩⟩⟩⟩⟩⟩⟩⟩⟩⟩⟩⟩⟩⟩⟩⟩⟩⟩⟩⟩⟩⟩⟩⟩⟩⟩⟩⟩⟩⟩⟩⟩⟩⟩⟩⟩⟩⟩⟩⟩⟩⟩⟩⟩⟩⟩⟩⟩⟩⟩⟩⟩⟩⟩⟩⟩⟩⟩⟩⟩⟩⟩⟩⟩⟩⟩⟩⟩⟩⟩⟩⟩⟩⟩⟩⟩⟩⟩⟩⟩⟩⟩⟩⟩⟩⟩⟩⟩⟩⟩⟩⟩⟩⟩⟩⟩⟩⟩⟩⟩⟩⟩⟩⟩⟩⟩⟩⟩⟩⟩⟩⟩⟩⟩⟩⟩⟩⟩⟩⟩⟩⟩⟩⟩⟩⟩⟩⟩⟩⟩⟩⟩⟩⟩⟩⟩⟩⟩⟩⟩⟩⟩⟩⟩⟩⟩⟩⟩⟩⟩⟩⟩⟩⟩⟩⟩⟩⟩⟩⟩⟩⟩⟩⟩⟩⟩⟩⟩⟩⟩⟩⟩⟩⟩⟩⟩⟩⟩⟩⟩⟩⟩⟩⟩⟩⟩⟩⟩⟩⟩⟩⟩⟩⟩⟩⟩⟩⟩⟩⟩⟩⟩⟩⟩⟩⟩⟩⟩⟩⟩⟩⟩⟩⟩⟩⟩⟩⟩⟩⟩⟩⟩⟩⟩⟩⟩⟩⟩⟩⟩⟩⟩
noncomputable def m_L_upgrades_375 (k406 : pw_S → Nat → Nat → Nat → Nat → Nat → Int32 → Int32 → Int32 → pw_R Int32) : Nat → pw_S → Nat → Nat → Nat → Nat → Nat → Int32 → Int32 → Int32 → Int32 → pw_R Int32
| 0, _, _, _, _, _, _, _, _, _, _ => none
| N + 1, S, v0, va3, vi3, va4, vi4, v8, v11, v12, v14 =>
 if 8 ≤ v14 then
 (k406 S v0 va3 vi3 va4 vi4 v8 v11 v12)
 else
 (if v12 < 0 then
 (k406 S v0 va3 vi3 va4 vi4 v8 v11 v12)
 else
 (pw_b (m_X11_upgraded S v0 v12 v14) fun S1 r4 =>
 pw_e r4 (fun r6 =>
 (pw_c (np_inb v14 8) <|
 pw_l (pw_up S1 101 0 (upd (S1 101 0) (v14 : Int32).toNatClampNeg r6)) fun S8 =>
 pw_l (v14 + 1 : Int32) fun z11 =>
 m_L_upgrades_375 k406 N S8 v0 va3 vi3 va4 vi4 v8 v11 v12 z11)) (fun _ => none)))
set_option maxRecDepth 100000 in
set_option maxHeartbeats 8000000 in
theorem L_L_upgrades_375 {X : np_Ctx} (hX : np_ok RL cL_upgrades 17 8 161 106 640 .ireturn X) {Q : Option Value → np_W → Prop} {n dc ds : Nat} (hR : ∀ st w ce sl, np_rtN (some .boolean) 106 640 (65536 + 0) Q st w ce sl → X.2.2.1 st w ce sl) {k406 : pw_S → Nat → Nat → Nat → Nat → Nat → Int32 → Int32 → Int32 → pw_R Int32} (hk406 : ∀ (S : pw_S) (v0 : Nat) (va3 : Nat) (vi3 : Nat) (va4 : Nat) (vi4 : Nat) (v8 : Int32) (v11 : Int32) (v12 : Int32) (f : Nat → Option np_E) (ce sl : Nat) (hv0 : pw_ok 2 61 v0 = true) (ha3 : pw_arr va3 = true) (hi3 : pw_ok 2 va3 vi3 = true) (ha4 : pw_arr va4 = true) (hi4 : pw_ok 2 va4 vi4 = true), ce + dc ≤ 106 → sl + ds ≤ 640 → pw_W 2 (n, f) S → pw_p (k406 S v0 va3 vi3 va4 vi4 v8 v11 v12) (fun S' r => ∀ f', pw_W 0 (65536 + 0, f') S' → Q (some (.int r)) (65536 + 0, f')) → np_G X 406 [(0, .ref (pw_pl 61 v0)), (3, .ref (pw_pl va3 vi3)), (4, .ref (pw_pl va4 vi4)), (8, .int v8), (9, .ref (pw_pl 100 0)), (11, .int v11), (12, .int v12), (13, .ref (pw_pl 101 0))] [] (n, f) ce sl) : ∀ (N : Nat) (S : pw_S) (v0 : Nat) (va3 : Nat) (vi3 : Nat) (va4 : Nat) (vi4 : Nat) (v8 : Int32) (v11 : Int32) (v12 : Int32) (v14 : Int32) (f : Nat → Option np_E) (ce sl : Nat) (hv0 : pw_ok 2 61 v0 = true) (ha3 : pw_arr va3 = true) (hi3 : pw_ok 2 va3 vi3 = true) (ha4 : pw_arr va4 = true) (hi4 : pw_ok 2 va4 vi4 = true), ce + N * 1 + dc ≤ 106 → sl + N * 6 + ds ≤ 640 → pw_W 2 (n, f) S → pw_p (m_L_upgrades_375 k406 N S v0 va3 vi3 va4 vi4 v8 v11 v12 v14) (fun S' r => ∀ f', pw_W 0 (65536 + 0, f') S' → Q (some (.int r)) (65536 + 0, f')) → np_G X 375 [(0, .ref (pw_pl 61 v0)), (3, .ref (pw_pl va3 vi3)), (4, .ref (pw_pl va4 vi4)), (8, .int v8), (9, .ref (pw_pl 100 0)), (11, .int v11), (12, .int v12), (13, .ref (pw_pl 101 0)), (14, .int v14)] [] (n, f) ce sl := by
  intro N
  induction N with
  | zero =>
    intro S v0 va3 vi3 va4 vi4 v8 v11 v12 v14 f ce sl hv0 ha3 hi3 ha4 hi4 hc hs hW h
    exact (pw_pn h).elim
  | succ N ih =>
    intro S v0 va3 vi3 va4 vi4 v8 v11 v12 v14 f ce sl hv0 ha3 hi3 ha4 hi4 hc hs hW h
    unfold m_L_upgrades_375 at h
    refine np_soundW (so_L_upgrades hX hR) [22, 274, 375, 406, 414, 506] 400 375 _ _ _ _ _ ?_
    conv => whnf
    refine pw_br h (fun _ h => ?_) (fun _ h => ?_)
    · conv => whnf
      exact np_gl (hk406 S v0 va3 vi3 va4 vi4 v8 v11 v12 f _ _ hv0 ha3 hi3 ha4 hi4 (by omega) (by omega) hW h) ⟨rfl, rfl, rfl, rfl, rfl, rfl, rfl, rfl, trivial⟩
    · conv => whnf
      refine pw_br h (fun _ h => ?_) (fun _ h => ?_)
      · conv => whnf
        exact np_gl (hk406 S v0 va3 vi3 va4 vi4 v8 v11 v12 f _ _ hv0 ha3 hi3 ha4 hi4 (by omega) (by omega) hW h) ⟨rfl, rfl, rfl, rfl, rfl, rfl, rfl, rfl, trivial⟩
      · conv => whnf
        refine np_rd_i (hW.g hv0) ?_
        conv => whnf
        refine np_chk_i (pw_and rfl (pw_and rfl (pw_and rfl (pw_and rfl ((pw_and (pw_le (by omega)) (pw_le (by omega)))))))) ?_
        conv => whnf
        refine ⟨2, S, v0, v12, v14, rfl, hv0, hW, pw_bd h (fun S1 r4 h f2 hW3 => ?_)⟩
        rcases r4 with r6 | e7
        · replace h := pw_ei h
          conv => whnf
          refine np_rd_i (hW3.g rfl) ?_
          conv => whnf
          refine pw_ck h (fun _ h => ?_)
          conv => whnf
          refine pw_wr (a := 101) (i := 0) (d := upd (S1 101 0) (v14 : Int32).toNatClampNeg r6) hW3 rfl rfl h (fun S8 f9 hW10 h => ?_)
          conv => whnf
          refine pw_st h (fun z11 h => ?_)
          conv => whnf
          exact np_gl (ih S8 v0 va3 vi3 va4 vi4 v8 v11 v12 z11 f9 _ _ hv0 ha3 hi3 ha4 hi4 (by omega) (by omega) hW10 h) ⟨rfl, rfl, rfl, rfl, rfl, rfl, rfl, rfl, rfl, trivial⟩
        · exact (pw_pn h).elim
noncomputable def m_L_upgrades_414 (k460 : pw_S → Nat → Nat → Nat → Nat → Nat → Int32 → Int32 → Int32 → pw_R Int32) : Nat → pw_S → Nat → Nat → Nat → Nat → Nat → Int32 → Int32 → Int32 → Int32 → pw_R Int32
| 0, _, _, _, _, _, _, _, _, _, _ => none
| N + 1, S, v0, va3, vi3, va4, vi4, v8, v11, v12, v14 =>
 if 8 ≤ v14 then
 (k460 S v0 va3 vi3 va4 vi4 v8 v11 v12)
 else
 (if v12 < 0 then
 (k460 S v0 va3 vi3 va4 vi4 v8 v11 v12)
 else
 (if v8 = 0 then
 (k460 S v0 va3 vi3 va4 vi4 v8 v11 v12)
 else
 (pw_b (m_X11_upgraded S v0 v11 v14) fun S12 r15 =>
 pw_e r15 (fun r17 =>
 (pw_c (np_inb v14 8) <|
 if r17 = (S12 101 0 (v14 : Int32).toNatClampNeg) then
 (pw_l (1 : Int32) fun z19 =>
 pw_l (v14 + 1 : Int32) fun z20 =>
 m_L_upgrades_414 k460 N S12 v0 va3 vi3 va4 vi4 z19 v11 v12 z20)
 else
 (pw_l (0 : Int32) fun z21 =>
 pw_l (v14 + 1 : Int32) fun z22 =>
 m_L_upgrades_414 k460 N S12 v0 va3 vi3 va4 vi4 z21 v11 v12 z22))) (fun _ => none))))
set_option maxRecDepth 100000 in
set_option maxHeartbeats 8000000 in
theorem L_L_upgrades_414 {X : np_Ctx} (hX : np_ok RL cL_upgrades 17 8 161 106 640 .ireturn X) {Q : Option Value → np_W → Prop} {n dc ds : Nat} (hR : ∀ st w ce sl, np_rtN (some .boolean) 106 640 (65536 + 0) Q st w ce sl → X.2.2.1 st w ce sl) {k460 : pw_S → Nat → Nat → Nat → Nat → Nat → Int32 → Int32 → Int32 → pw_R Int32} (hk460 : ∀ (S : pw_S) (v0 : Nat) (va3 : Nat) (vi3 : Nat) (va4 : Nat) (vi4 : Nat) (v8 : Int32) (v11 : Int32) (v12 : Int32) (f : Nat → Option np_E) (ce sl : Nat) (hv0 : pw_ok 2 61 v0 = true) (ha3 : pw_arr va3 = true) (hi3 : pw_ok 2 va3 vi3 = true) (ha4 : pw_arr va4 = true) (hi4 : pw_ok 2 va4 vi4 = true), ce + dc ≤ 106 → sl + ds ≤ 640 → pw_W 2 (n, f) S → pw_p (k460 S v0 va3 vi3 va4 vi4 v8 v11 v12) (fun S' r => ∀ f', pw_W 0 (65536 + 0, f') S' → Q (some (.int r)) (65536 + 0, f')) → np_G X 460 [(0, .ref (pw_pl 61 v0)), (3, .ref (pw_pl va3 vi3)), (4, .ref (pw_pl va4 vi4)), (8, .int v8), (9, .ref (pw_pl 100 0)), (11, .int v11), (12, .int v12)] [] (n, f) ce sl) : ∀ (N : Nat) (S : pw_S) (v0 : Nat) (va3 : Nat) (vi3 : Nat) (va4 : Nat) (vi4 : Nat) (v8 : Int32) (v11 : Int32) (v12 : Int32) (v14 : Int32) (f : Nat → Option np_E) (ce sl : Nat) (hv0 : pw_ok 2 61 v0 = true) (ha3 : pw_arr va3 = true) (hi3 : pw_ok 2 va3 vi3 = true) (ha4 : pw_arr va4 = true) (hi4 : pw_ok 2 va4 vi4 = true), ce + N * 1 + dc ≤ 106 → sl + N * 6 + ds ≤ 640 → pw_W 2 (n, f) S → pw_p (m_L_upgrades_414 k460 N S v0 va3 vi3 va4 vi4 v8 v11 v12 v14) (fun S' r => ∀ f', pw_W 0 (65536 + 0, f') S' → Q (some (.int r)) (65536 + 0, f')) → np_G X 414 [(0, .ref (pw_pl 61 v0)), (3, .ref (pw_pl va3 vi3)), (4, .ref (pw_pl va4 vi4)), (8, .int v8), (9, .ref (pw_pl 100 0)), (11, .int v11), (12, .int v12), (13, .ref (pw_pl 101 0)), (14, .int v14)] [] (n, f) ce sl := by
  intro N
  induction N with
  | zero =>
    intro S v0 va3 vi3 va4 vi4 v8 v11 v12 v14 f ce sl hv0 ha3 hi3 ha4 hi4 hc hs hW h
    exact (pw_pn h).elim
  | succ N ih =>
    intro S v0 va3 vi3 va4 vi4 v8 v11 v12 v14 f ce sl hv0 ha3 hi3 ha4 hi4 hc hs hW h
    unfold m_L_upgrades_414 at h
    refine np_soundW (so_L_upgrades hX hR) [22, 274, 375, 414, 460, 506] 400 414 _ _ _ _ _ ?_
    conv => whnf
    refine pw_br h (fun _ h => ?_) (fun _ h => ?_)
    · conv => whnf
      exact np_gl (hk460 S v0 va3 vi3 va4 vi4 v8 v11 v12 f _ _ hv0 ha3 hi3 ha4 hi4 (by omega) (by omega) hW h) ⟨rfl, rfl, rfl, rfl, rfl, rfl, rfl, trivial⟩
    · conv => whnf
      refine pw_br h (fun _ h => ?_) (fun _ h => ?_)
      · conv => whnf
        exact np_gl (hk460 S v0 va3 vi3 va4 vi4 v8 v11 v12 f _ _ hv0 ha3 hi3 ha4 hi4 (by omega) (by omega) hW h) ⟨rfl, rfl, rfl, rfl, rfl, rfl, rfl, trivial⟩
      · conv => whnf
        refine pw_br h (fun _ h => ?_) (fun _ h => ?_)
        · conv => whnf
          exact np_gl (hk460 S v0 va3 vi3 va4 vi4 v8 v11 v12 f _ _ hv0 ha3 hi3 ha4 hi4 (by omega) (by omega) hW h) ⟨rfl, rfl, rfl, rfl, rfl, rfl, rfl, trivial⟩
        · conv => whnf
          refine np_rd_i (hW.g hv0) ?_
          conv => whnf
          refine np_chk_i (pw_and rfl (pw_and rfl (pw_and rfl (pw_and rfl ((pw_and (pw_le (by omega)) (pw_le (by omega)))))))) ?_
          conv => whnf
          refine ⟨2, S, v0, v11, v14, rfl, hv0, hW, pw_bd h (fun S12 r15 h f13 hW14 => ?_)⟩
          rcases r15 with r17 | e18
          · replace h := pw_ei h
            conv => whnf
            refine np_rd_i (hW14.g rfl) ?_
            conv => whnf
            refine pw_ck h (fun _ h => ?_)
            conv => whnf
            refine pw_br h (fun _ h => ?_) (fun _ h => ?_)
            · conv => whnf
              refine pw_st h (fun z19 h => ?_)
              conv => whnf
              refine pw_st h (fun z20 h => ?_)
              conv => whnf
              exact np_gl (ih S12 v0 va3 vi3 va4 vi4 z19 v11 v12 z20 f13 _ _ hv0 ha3 hi3 ha4 hi4 (by omega) (by omega) hW14 h) ⟨rfl, rfl, rfl, rfl, rfl, rfl, rfl, rfl, rfl, trivial⟩
            · conv => whnf
              refine pw_st h (fun z21 h => ?_)
              conv => whnf
              refine pw_st h (fun z22 h => ?_)
              conv => whnf
              exact np_gl (ih S12 v0 va3 vi3 va4 vi4 z21 v11 v12 z22 f13 _ _ hv0 ha3 hi3 ha4 hi4 (by omega) (by omega) hW14 h) ⟨rfl, rfl, rfl, rfl, rfl, rfl, rfl, rfl, rfl, trivial⟩
          · exact (pw_pn h).elim
noncomputable def m_L_upgrades_506 (k563 : pw_S → Nat → Nat → Nat → Int32 → Int32 → Int32 → pw_R Int32) : Nat → pw_S → Nat → Nat → Nat → Int32 → Int32 → Int32 → Int32 → pw_R Int32
| 0, _, _, _, _, _, _, _, _ => none
| N + 1, S, v0, va4, vi4, v8, v12, v14, v15 =>
 if 8 ≤ v15 then
 (k563 S v0 va4 vi4 v8 v12 v14)
 else
 (if v14 < 0 then
 (k563 S v0 va4 vi4 v8 v12 v14)
 else
 (if v8 = 0 then
 (k563 S v0 va4 vi4 v8 v12 v14)
 else
 (pw_b (m_X11_upgraded S v0 v14 v15) fun S23 r26 =>
 pw_e r26 (fun r28 =>
 (pw_l (r28 : Int32) fun z30 =>
 if z30 = (-2147483648) then
 (pw_l (1 : Int32) fun z31 =>
 pw_l (v15 + 1 : Int32) fun z32 =>
 m_L_upgrades_506 k563 N S23 v0 va4 vi4 z31 v12 v14 z32)
 else
 (pw_c (np_inb v15 8) <|
 if (S23 100 0 (v15 : Int32).toNatClampNeg) = (-2147483648) then
 (pw_l (0 : Int32) fun z33 =>
 pw_l (v15 + 1 : Int32) fun z34 =>
 m_L_upgrades_506 k563 N S23 v0 va4 vi4 z33 v12 v14 z34)
 else
 (pw_l (1 : Int32) fun z35 =>
 pw_l (v15 + 1 : Int32) fun z36 =>
 m_L_upgrades_506 k563 N S23 v0 va4 vi4 z35 v12 v14 z36)))) (fun _ => none))))
set_option maxRecDepth 100000 in
set_option maxHeartbeats 8000000 in
theorem L_L_upgrades_506 {X : np_Ctx} (hX : np_ok RL cL_upgrades 17 8 161 106 640 .ireturn X) {Q : Option Value → np_W → Prop} {n dc ds : Nat} (hR : ∀ st w ce sl, np_rtN (some .boolean) 106 640 (65536 + 0) Q st w ce sl → X.2.2.1 st w ce sl) {k563 : pw_S → Nat → Nat → Nat → Int32 → Int32 → Int32 → pw_R Int32} (hk563 : ∀ (S : pw_S) (v0 : Nat) (va4 : Nat) (vi4 : Nat) (v8 : Int32) (v12 : Int32) (v14 : Int32) (f : Nat → Option np_E) (ce sl : Nat) (hv0 : pw_ok 2 61 v0 = true) (ha4 : pw_arr va4 = true) (hi4 : pw_ok 2 va4 vi4 = true), ce + dc ≤ 106 → sl + ds ≤ 640 → pw_W 2 (n, f) S → pw_p (k563 S v0 va4 vi4 v8 v12 v14) (fun S' r => ∀ f', pw_W 0 (65536 + 0, f') S' → Q (some (.int r)) (65536 + 0, f')) → np_G X 563 [(0, .ref (pw_pl 61 v0)), (4, .ref (pw_pl va4 vi4)), (8, .int v8), (9, .ref (pw_pl 100 0)), (12, .int v12), (14, .int v14)] [] (n, f) ce sl) : ∀ (N : Nat) (S : pw_S) (v0 : Nat) (va4 : Nat) (vi4 : Nat) (v8 : Int32) (v12 : Int32) (v14 : Int32) (v15 : Int32) (f : Nat → Option np_E) (ce sl : Nat) (hv0 : pw_ok 2 61 v0 = true) (ha4 : pw_arr va4 = true) (hi4 : pw_ok 2 va4 vi4 = true), ce + N * 1 + dc ≤ 106 → sl + N * 6 + ds ≤ 640 → pw_W 2 (n, f) S → pw_p (m_L_upgrades_506 k563 N S v0 va4 vi4 v8 v12 v14 v15) (fun S' r => ∀ f', pw_W 0 (65536 + 0, f') S' → Q (some (.int r)) (65536 + 0, f')) → np_G X 506 [(0, .ref (pw_pl 61 v0)), (4, .ref (pw_pl va4 vi4)), (8, .int v8), (9, .ref (pw_pl 100 0)), (12, .int v12), (14, .int v14), (15, .int v15)] [] (n, f) ce sl := by
  intro N
  induction N with
  | zero =>
    intro S v0 va4 vi4 v8 v12 v14 v15 f ce sl hv0 ha4 hi4 hc hs hW h
    exact (pw_pn h).elim
  | succ N ih =>
    intro S v0 va4 vi4 v8 v12 v14 v15 f ce sl hv0 ha4 hi4 hc hs hW h
    unfold m_L_upgrades_506 at h
    refine np_soundW (so_L_upgrades hX hR) [22, 274, 375, 414, 506, 563] 400 506 _ _ _ _ _ ?_
    conv => whnf
    refine pw_br h (fun _ h => ?_) (fun _ h => ?_)
    · conv => whnf
      exact np_gl (hk563 S v0 va4 vi4 v8 v12 v14 f _ _ hv0 ha4 hi4 (by omega) (by omega) hW h) ⟨rfl, rfl, rfl, rfl, rfl, rfl, trivial⟩
    · conv => whnf
      refine pw_br h (fun _ h => ?_) (fun _ h => ?_)
      · conv => whnf
        exact np_gl (hk563 S v0 va4 vi4 v8 v12 v14 f _ _ hv0 ha4 hi4 (by omega) (by omega) hW h) ⟨rfl, rfl, rfl, rfl, rfl, rfl, trivial⟩
      · conv => whnf
        refine pw_br h (fun _ h => ?_) (fun _ h => ?_)
        · conv => whnf
          exact np_gl (hk563 S v0 va4 vi4 v8 v12 v14 f _ _ hv0 ha4 hi4 (by omega) (by omega) hW h) ⟨rfl, rfl, rfl, rfl, rfl, rfl, trivial⟩
        · conv => whnf
          refine np_rd_i (hW.g hv0) ?_
          conv => whnf
          refine np_chk_i (pw_and rfl (pw_and rfl (pw_and rfl (pw_and rfl ((pw_and (pw_le (by omega)) (pw_le (by omega)))))))) ?_
          conv => whnf
          refine ⟨2, S, v0, v14, v15, rfl, hv0, hW, pw_bd h (fun S23 r26 h f24 hW25 => ?_)⟩
          rcases r26 with r28 | e29
          · replace h := pw_ei h
            conv => whnf
            refine pw_st h (fun z30 h => ?_)
            conv => whnf
            refine pw_br h (fun _ h => ?_) (fun _ h => ?_)
            · conv => whnf
              refine pw_st h (fun z31 h => ?_)
              conv => whnf
              refine pw_st h (fun z32 h => ?_)
              conv => whnf
              exact np_gl (ih S23 v0 va4 vi4 z31 v12 v14 z32 f24 _ _ hv0 ha4 hi4 (by omega) (by omega) hW25 h) ⟨rfl, rfl, rfl, rfl, rfl, rfl, rfl, trivial⟩
            · conv => whnf
              refine np_rd_i (hW25.g rfl) ?_
              conv => whnf
              refine pw_ck h (fun _ h => ?_)
              conv => whnf
              refine pw_br h (fun _ h => ?_) (fun _ h => ?_)
              · conv => whnf
                refine pw_st h (fun z33 h => ?_)
                conv => whnf
                refine pw_st h (fun z34 h => ?_)
                conv => whnf
                exact np_gl (ih S23 v0 va4 vi4 z33 v12 v14 z34 f24 _ _ hv0 ha4 hi4 (by omega) (by omega) hW25 h) ⟨rfl, rfl, rfl, rfl, rfl, rfl, rfl, trivial⟩
              · conv => whnf
                refine pw_st h (fun z35 h => ?_)
                conv => whnf
                refine pw_st h (fun z36 h => ?_)
                conv => whnf
                exact np_gl (ih S23 v0 va4 vi4 z35 v12 v14 z36 f24 _ _ hv0 ha4 hi4 (by omega) (by omega) hW25 h) ⟨rfl, rfl, rfl, rfl, rfl, rfl, rfl, trivial⟩
          · exact (pw_pn h).elim
noncomputable def m_L_upgrades_274 (k333 : pw_S → Nat → Int32 → Nat → Nat → Nat → Nat → Int32 → pw_R Int32) : Nat → pw_S → Nat → Int32 → Nat → Nat → Nat → Nat → Int32 → Int32 → pw_R Int32
| 0, _, _, _, _, _, _, _, _, _ => none
| N + 1, S, v0, v2, va3, vi3, va4, vi4, v8, v10 =>
 if 8 ≤ v10 then
 (k333 S v0 v2 va3 vi3 va4 vi4 v8)
 else
 (pw_c (!decide ((v10 + 1) = 0)) <|
 if ((v2 / (v10 + 1)) - (v2 / (v10 + 1)) / 5 * 5) = 0 then
 (pw_l ((-2147483648) : Int32) fun z37 =>
 pw_b (m_X11_set S v0 v10 0 z37) fun S38 r41 =>
 pw_e r41 (fun r43 =>
 (pw_c (np_inb v10 8) <|
 pw_l (pw_up S38 100 0 (upd (S38 100 0) (v10 : Int32).toNatClampNeg z37)) fun S45 =>
 pw_l (v10 + 1 : Int32) fun z48 =>
 m_L_upgrades_274 k333 N S45 v0 v2 va3 vi3 va4 vi4 v8 z48)) (fun _ => none))
 else
 (pw_l ((((v2 >>> (v10 &&& 31)) - (v2 >>> (v10 &&& 31)) / 300 * 300) - 100) : Int32) fun z49 =>
 pw_b (m_X11_set S v0 v10 0 z49) fun S50 r53 =>
 pw_e r53 (fun r55 =>
 (pw_c (np_inb v10 8) <|
 pw_l (pw_up S50 100 0 (upd (S50 100 0) (v10 : Int32).toNatClampNeg z49)) fun S57 =>
 pw_l (v10 + 1 : Int32) fun z60 =>
 m_L_upgrades_274 k333 N S57 v0 v2 va3 vi3 va4 vi4 v8 z60)) (fun _ => none)))
set_option maxRecDepth 100000 in
set_option maxHeartbeats 8000000 in
theorem L_L_upgrades_274 {X : np_Ctx} (hX : np_ok RL cL_upgrades 17 8 161 106 640 .ireturn X) {Q : Option Value → np_W → Prop} {n dc ds : Nat} (hR : ∀ st w ce sl, np_rtN (some .boolean) 106 640 (65536 + 0) Q st w ce sl → X.2.2.1 st w ce sl) {k333 : pw_S → Nat → Int32 → Nat → Nat → Nat → Nat → Int32 → pw_R Int32} (hk333 : ∀ (S : pw_S) (v0 : Nat) (v2 : Int32) (va3 : Nat) (vi3 : Nat) (va4 : Nat) (vi4 : Nat) (v8 : Int32) (f : Nat → Option np_E) (ce sl : Nat) (hv0 : pw_ok 1 61 v0 = true) (ha3 : pw_arr va3 = true) (hi3 : pw_ok 1 va3 vi3 = true) (ha4 : pw_arr va4 = true) (hi4 : pw_ok 1 va4 vi4 = true), ce + dc ≤ 106 → sl + ds ≤ 640 → pw_W 1 (n, f) S → pw_p (k333 S v0 v2 va3 vi3 va4 vi4 v8) (fun S' r => ∀ f', pw_W 0 (65536 + 0, f') S' → Q (some (.int r)) (65536 + 0, f')) → np_G X 333 [(0, .ref (pw_pl 61 v0)), (2, .int v2), (3, .ref (pw_pl va3 vi3)), (4, .ref (pw_pl va4 vi4)), (8, .int v8), (9, .ref (pw_pl 100 0))] [] (n, f) ce sl) : ∀ (N : Nat) (S : pw_S) (v0 : Nat) (v2 : Int32) (va3 : Nat) (vi3 : Nat) (va4 : Nat) (vi4 : Nat) (v8 : Int32) (v10 : Int32) (f : Nat → Option np_E) (ce sl : Nat) (hv0 : pw_ok 1 61 v0 = true) (ha3 : pw_arr va3 = true) (hi3 : pw_ok 1 va3 vi3 = true) (ha4 : pw_arr va4 = true) (hi4 : pw_ok 1 va4 vi4 = true), ce + N * 1 + dc ≤ 106 → sl + N * 6 + ds ≤ 640 → pw_W 1 (n, f) S → pw_p (m_L_upgrades_274 k333 N S v0 v2 va3 vi3 va4 vi4 v8 v10) (fun S' r => ∀ f', pw_W 0 (65536 + 0, f') S' → Q (some (.int r)) (65536 + 0, f')) → np_G X 274 [(0, .ref (pw_pl 61 v0)), (2, .int v2), (3, .ref (pw_pl va3 vi3)), (4, .ref (pw_pl va4 vi4)), (8, .int v8), (9, .ref (pw_pl 100 0)), (10, .int v10)] [] (n, f) ce sl := by
  intro N
  induction N with
  | zero =>
    intro S v0 v2 va3 vi3 va4 vi4 v8 v10 f ce sl hv0 ha3 hi3 ha4 hi4 hc hs hW h
    exact (pw_pn h).elim
  | succ N ih =>
    intro S v0 v2 va3 vi3 va4 vi4 v8 v10 f ce sl hv0 ha3 hi3 ha4 hi4 hc hs hW h
    unfold m_L_upgrades_274 at h
    refine np_soundW (so_L_upgrades hX hR) [22, 274, 333, 375, 414, 506] 400 274 _ _ _ _ _ ?_
    conv => whnf
    refine pw_br h (fun _ h => ?_) (fun _ h => ?_)
    · conv => whnf
      exact np_gl (hk333 S v0 v2 va3 vi3 va4 vi4 v8 f _ _ hv0 ha3 hi3 ha4 hi4 (by omega) (by omega) hW h) ⟨rfl, rfl, rfl, rfl, rfl, rfl, trivial⟩
    · conv => whnf
      refine pw_ck h (fun _ h => ?_)
      conv => whnf
      refine pw_br h (fun _ h => ?_) (fun _ h => ?_)
      · conv => whnf
        refine pw_st h (fun z37 h => ?_)
        conv => whnf
        refine np_rd_i (hW.g hv0) ?_
        conv => whnf
        refine np_chk_i (pw_and rfl (pw_and rfl (pw_and rfl (pw_and rfl ((pw_and (pw_le (by omega)) (pw_le (by omega)))))))) ?_
        conv => whnf
        refine ⟨1, S, v0, v10, 0, z37, rfl, hv0, hW, pw_bd h (fun S38 r41 h f39 hW40 => ?_)⟩
        rcases r41 with r43 | e44
        · replace h := pw_ei h
          conv => whnf
          refine np_rd_i (hW40.g rfl) ?_
          conv => whnf
          refine pw_ck h (fun _ h => ?_)
          conv => whnf
          refine pw_wr (a := 100) (i := 0) (d := upd (S38 100 0) (v10 : Int32).toNatClampNeg z37) hW40 rfl rfl h (fun S45 f46 hW47 h => ?_)
          conv => whnf
          refine pw_st h (fun z48 h => ?_)
          conv => whnf
          exact np_gl (ih S45 v0 v2 va3 vi3 va4 vi4 v8 z48 f46 _ _ hv0 ha3 hi3 ha4 hi4 (by omega) (by omega) hW47 h) ⟨rfl, rfl, rfl, rfl, rfl, rfl, rfl, trivial⟩
        · exact (pw_pn h).elim
      · conv => whnf
        refine pw_st h (fun z49 h => ?_)
        conv => whnf
        refine np_rd_i (hW.g hv0) ?_
        conv => whnf
        refine np_chk_i (pw_and rfl (pw_and rfl (pw_and rfl (pw_and rfl ((pw_and (pw_le (by omega)) (pw_le (by omega)))))))) ?_
        conv => whnf
        refine ⟨1, S, v0, v10, 0, z49, rfl, hv0, hW, pw_bd h (fun S50 r53 h f51 hW52 => ?_)⟩
        rcases r53 with r55 | e56
        · replace h := pw_ei h
          conv => whnf
          refine np_rd_i (hW52.g rfl) ?_
          conv => whnf
          refine pw_ck h (fun _ h => ?_)
          conv => whnf
          refine pw_wr (a := 100) (i := 0) (d := upd (S50 100 0) (v10 : Int32).toNatClampNeg z49) hW52 rfl rfl h (fun S57 f58 hW59 h => ?_)
          conv => whnf
          refine pw_st h (fun z60 h => ?_)
          conv => whnf
          exact np_gl (ih S57 v0 v2 va3 vi3 va4 vi4 v8 z60 f58 _ _ hv0 ha3 hi3 ha4 hi4 (by omega) (by omega) hW59 h) ⟨rfl, rfl, rfl, rfl, rfl, rfl, rfl, trivial⟩
        · exact (pw_pn h).elim
noncomputable def m_L_upgrades_22 (k211 : pw_S → Nat → Int32 → Nat → Nat → Nat → Nat → Int32 → pw_R Int32) : Nat → pw_S → Nat → Int32 → Nat → Nat → Nat → Nat → Int32 → Int32 → Int32 → Int32 → pw_R Int32
| 0, _, _, _, _, _, _, _, _, _, _, _ => none
| N + 1, S, v0, v2, va3, vi3, va4, vi4, v5, v6, v7, v8 =>
 if (1 + (v2 - v2 / 5 * 5)) ≤ v8 then
 (k211 S v0 v2 va3 vi3 va4 vi4 v5)
 else
 (pw_l ((v7 - v7 / 5 * 5) : Int32) fun z61 =>
 pw_l (((v7 / 5) - (v7 / 5) / 8 * 8) : Int32) fun z62 =>
 if z61 = 1 then
 (pw_l ((((v7 / 40) - (v7 / 40) / 100 * 100) - 50) : Int32) fun z63 =>
 if z61 = 2 then
 (pw_l ((((v7 / 320) - (v7 / 320) / 99 * 99) - 40) : Int32) fun z64 =>
 if ((v6 >>> (z62 &&& 31)) &&& 1) = 0 then
 (pw_l ((v5 + 1) : Int32) fun z65 =>
 pw_l ((v6 ||| (1 <<< (z62 &&& 31))) : Int32) fun z66 =>
 pw_b (m_X11_change S v0 z61 z62 z63 z64) fun S67 r70 =>
 pw_e r70 (fun r72 =>
 (if r72 = z65 then
 (pw_l (((v7 >>> (4 &&& 31)) + (104729 * ((v2 - v2 / 900 * 900) + v8))) : Int32) fun z74 =>
 pw_l (v8 + 1 : Int32) fun z75 =>
 m_L_upgrades_22 k211 N S67 v0 v2 va3 vi3 va4 vi4 z65 z66 z74 z75)
 else
 (some (S67, 0)))) (fun _ => none))
 else
 (pw_l ((v5 + 0) : Int32) fun z79 =>
 pw_l ((v6 ||| (1 <<< (z62 &&& 31))) : Int32) fun z80 =>
 pw_b (m_X11_change S v0 z61 z62 z63 z64) fun S81 r84 =>
 pw_e r84 (fun r86 =>
 (if r86 = z79 then
 (pw_l (((v7 >>> (4 &&& 31)) + (104729 * ((v2 - v2 / 900 * 900) + v8))) : Int32) fun z88 =>
 pw_l (v8 + 1 : Int32) fun z89 =>
 m_L_upgrades_22 k211 N S81 v0 v2 va3 vi3 va4 vi4 z79 z80 z88 z89)
 else
 (some (S81, 0)))) (fun _ => none)))
 else
 (if z61 = 3 then
 (pw_l ((2 + ((v7 / 320) - (v7 / 320) / 8 * 8)) : Int32) fun z93 =>
 if ((v6 >>> (z62 &&& 31)) &&& 1) = 0 then
 (pw_l ((v5 + 1) : Int32) fun z94 =>
 pw_l ((v6 ||| (1 <<< (z62 &&& 31))) : Int32) fun z95 =>
 pw_b (m_X11_change S v0 z61 z62 z63 z93) fun S96 r99 =>
 pw_e r99 (fun r101 =>
 (if r101 = z94 then
 (pw_l (((v7 >>> (4 &&& 31)) + (104729 * ((v2 - v2 / 900 * 900) + v8))) : Int32) fun z103 =>
 pw_l (v8 + 1 : Int32) fun z104 =>
 m_L_upgrades_22 k211 N S96 v0 v2 va3 vi3 va4 vi4 z94 z95 z103 z104)
 else
 (some (S96, 0)))) (fun _ => none))
 else
 (pw_l ((v5 + 0) : Int32) fun z108 =>
 pw_l ((v6 ||| (1 <<< (z62 &&& 31))) : Int32) fun z109 =>
 pw_b (m_X11_change S v0 z61 z62 z63 z93) fun S110 r113 =>
 pw_e r113 (fun r115 =>
 (if r115 = z108 then
 (pw_l (((v7 >>> (4 &&& 31)) + (104729 * ((v2 - v2 / 900 * 900) + v8))) : Int32) fun z117 =>
 pw_l (v8 + 1 : Int32) fun z118 =>
 m_L_upgrades_22 k211 N S110 v0 v2 va3 vi3 va4 vi4 z108 z109 z117 z118)
 else
 (some (S110, 0)))) (fun _ => none)))
 else
 (if z61 = 4 then
 (pw_l (((v7 / 320) - (v7 / 320) / 8 * 8) : Int32) fun z122 =>
 if ((v6 >>> (z62 &&& 31)) &&& 1) = 0 then
 (pw_l ((v5 + 1) : Int32) fun z123 =>
 pw_l ((v6 ||| (1 <<< (z62 &&& 31))) : Int32) fun z124 =>
 pw_b (m_X11_change S v0 z61 z62 z63 z122) fun S125 r128 =>
 pw_e r128 (fun r130 =>
 (if r130 = z123 then
 (pw_l (((v7 >>> (4 &&& 31)) + (104729 * ((v2 - v2 / 900 * 900) + v8))) : Int32) fun z132 =>
 pw_l (v8 + 1 : Int32) fun z133 =>
 m_L_upgrades_22 k211 N S125 v0 v2 va3 vi3 va4 vi4 z123 z124 z132 z133)
 else
 (some (S125, 0)))) (fun _ => none))
 else
 (pw_l ((v5 + 0) : Int32) fun z137 =>
 pw_l ((v6 ||| (1 <<< (z62 &&& 31))) : Int32) fun z138 =>
 pw_b (m_X11_change S v0 z61 z62 z63 z122) fun S139 r142 =>
 pw_e r142 (fun r144 =>
 (if r144 = z137 then
 (pw_l (((v7 >>> (4 &&& 31)) + (104729 * ((v2 - v2 / 900 * 900) + v8))) : Int32) fun z146 =>
 pw_l (v8 + 1 : Int32) fun z147 =>
 m_L_upgrades_22 k211 N S139 v0 v2 va3 vi3 va4 vi4 z137 z138 z146 z147)
 else
 (some (S139, 0)))) (fun _ => none)))
 else
 (pw_l (0 : Int32) fun z151 =>
 if ((v6 >>> (z62 &&& 31)) &&& 1) = 0 then
 (pw_l ((v5 + 1) : Int32) fun z152 =>
 pw_l ((v6 ||| (1 <<< (z62 &&& 31))) : Int32) fun z153 =>
 pw_b (m_X11_change S v0 z61 z62 z63 z151) fun S154 r157 =>
 pw_e r157 (fun r159 =>
 (if r159 = z152 then
 (pw_l (((v7 >>> (4 &&& 31)) + (104729 * ((v2 - v2 / 900 * 900) + v8))) : Int32) fun z161 =>
 pw_l (v8 + 1 : Int32) fun z162 =>
 m_L_upgrades_22 k211 N S154 v0 v2 va3 vi3 va4 vi4 z152 z153 z161 z162)
 else
 (some (S154, 0)))) (fun _ => none))
 else
 (pw_l ((v5 + 0) : Int32) fun z166 =>
 pw_l ((v6 ||| (1 <<< (z62 &&& 31))) : Int32) fun z167 =>
 pw_b (m_X11_change S v0 z61 z62 z63 z151) fun S168 r171 =>
 pw_e r171 (fun r173 =>
 (if r173 = z166 then
 (pw_l (((v7 >>> (4 &&& 31)) + (104729 * ((v2 - v2 / 900 * 900) + v8))) : Int32) fun z175 =>
 pw_l (v8 + 1 : Int32) fun z176 =>
 m_L_upgrades_22 k211 N S168 v0 v2 va3 vi3 va4 vi4 z166 z167 z175 z176)
 else
 (some (S168, 0)))) (fun _ => none))))))
 else
 (pw_l (((v7 / 40) - (v7 / 40) / 8 * 8) : Int32) fun z180 =>
 if z61 = 2 then
 (pw_l ((((v7 / 320) - (v7 / 320) / 99 * 99) - 40) : Int32) fun z181 =>
 if ((v6 >>> (z62 &&& 31)) &&& 1) = 0 then
 (pw_l ((v5 + 1) : Int32) fun z182 =>
 pw_l ((v6 ||| (1 <<< (z62 &&& 31))) : Int32) fun z183 =>
 pw_b (m_X11_change S v0 z61 z62 z180 z181) fun S184 r187 =>
 pw_e r187 (fun r189 =>
 (if r189 = z182 then
 (pw_l (((v7 >>> (4 &&& 31)) + (104729 * ((v2 - v2 / 900 * 900) + v8))) : Int32) fun z191 =>
 pw_l (v8 + 1 : Int32) fun z192 =>
 m_L_upgrades_22 k211 N S184 v0 v2 va3 vi3 va4 vi4 z182 z183 z191 z192)
 else
 (some (S184, 0)))) (fun _ => none))
 else
 (pw_l ((v5 + 0) : Int32) fun z196 =>
 pw_l ((v6 ||| (1 <<< (z62 &&& 31))) : Int32) fun z197 =>
 pw_b (m_X11_change S v0 z61 z62 z180 z181) fun S198 r201 =>
 pw_e r201 (fun r203 =>
 (if r203 = z196 then
 (pw_l (((v7 >>> (4 &&& 31)) + (104729 * ((v2 - v2 / 900 * 900) + v8))) : Int32) fun z205 =>
 pw_l (v8 + 1 : Int32) fun z206 =>
 m_L_upgrades_22 k211 N S198 v0 v2 va3 vi3 va4 vi4 z196 z197 z205 z206)
 else
 (some (S198, 0)))) (fun _ => none)))
 else
 (if z61 = 3 then
 (pw_l ((2 + ((v7 / 320) - (v7 / 320) / 8 * 8)) : Int32) fun z210 =>
 if ((v6 >>> (z62 &&& 31)) &&& 1) = 0 then
 (pw_l ((v5 + 1) : Int32) fun z211 =>
 pw_l ((v6 ||| (1 <<< (z62 &&& 31))) : Int32) fun z212 =>
 pw_b (m_X11_change S v0 z61 z62 z180 z210) fun S213 r216 =>
 pw_e r216 (fun r218 =>
 (if r218 = z211 then
 (pw_l (((v7 >>> (4 &&& 31)) + (104729 * ((v2 - v2 / 900 * 900) + v8))) : Int32) fun z220 =>
 pw_l (v8 + 1 : Int32) fun z221 =>
 m_L_upgrades_22 k211 N S213 v0 v2 va3 vi3 va4 vi4 z211 z212 z220 z221)
 else
 (some (S213, 0)))) (fun _ => none))
 else
 (pw_l ((v5 + 0) : Int32) fun z225 =>
 pw_l ((v6 ||| (1 <<< (z62 &&& 31))) : Int32) fun z226 =>
 pw_b (m_X11_change S v0 z61 z62 z180 z210) fun S227 r230 =>
 pw_e r230 (fun r232 =>
 (if r232 = z225 then
 (pw_l (((v7 >>> (4 &&& 31)) + (104729 * ((v2 - v2 / 900 * 900) + v8))) : Int32) fun z234 =>
 pw_l (v8 + 1 : Int32) fun z235 =>
 m_L_upgrades_22 k211 N S227 v0 v2 va3 vi3 va4 vi4 z225 z226 z234 z235)
 else
 (some (S227, 0)))) (fun _ => none)))
 else
 (if z61 = 4 then
 (pw_l (((v7 / 320) - (v7 / 320) / 8 * 8) : Int32) fun z239 =>
 if ((v6 >>> (z62 &&& 31)) &&& 1) = 0 then
 (pw_l ((v5 + 1) : Int32) fun z240 =>
 pw_l ((v6 ||| (1 <<< (z62 &&& 31))) : Int32) fun z241 =>
 pw_b (m_X11_change S v0 z61 z62 z180 z239) fun S242 r245 =>
 pw_e r245 (fun r247 =>
 (if r247 = z240 then
 (pw_l (((v7 >>> (4 &&& 31)) + (104729 * ((v2 - v2 / 900 * 900) + v8))) : Int32) fun z249 =>
 pw_l (v8 + 1 : Int32) fun z250 =>
 m_L_upgrades_22 k211 N S242 v0 v2 va3 vi3 va4 vi4 z240 z241 z249 z250)
 else
 (some (S242, 0)))) (fun _ => none))
 else
 (pw_l ((v5 + 0) : Int32) fun z254 =>
 pw_l ((v6 ||| (1 <<< (z62 &&& 31))) : Int32) fun z255 =>
 pw_b (m_X11_change S v0 z61 z62 z180 z239) fun S256 r259 =>
 pw_e r259 (fun r261 =>
 (if r261 = z254 then
 (pw_l (((v7 >>> (4 &&& 31)) + (104729 * ((v2 - v2 / 900 * 900) + v8))) : Int32) fun z263 =>
 pw_l (v8 + 1 : Int32) fun z264 =>
 m_L_upgrades_22 k211 N S256 v0 v2 va3 vi3 va4 vi4 z254 z255 z263 z264)
 else
 (some (S256, 0)))) (fun _ => none)))
 else
 (pw_l (0 : Int32) fun z268 =>
 if ((v6 >>> (z62 &&& 31)) &&& 1) = 0 then
 (pw_l ((v5 + 1) : Int32) fun z269 =>
 pw_l ((v6 ||| (1 <<< (z62 &&& 31))) : Int32) fun z270 =>
 pw_b (m_X11_change S v0 z61 z62 z180 z268) fun S271 r274 =>
 pw_e r274 (fun r276 =>
 (if r276 = z269 then
 (pw_l (((v7 >>> (4 &&& 31)) + (104729 * ((v2 - v2 / 900 * 900) + v8))) : Int32) fun z278 =>
 pw_l (v8 + 1 : Int32) fun z279 =>
 m_L_upgrades_22 k211 N S271 v0 v2 va3 vi3 va4 vi4 z269 z270 z278 z279)
 else
 (some (S271, 0)))) (fun _ => none))
 else
 (pw_l ((v5 + 0) : Int32) fun z283 =>
 pw_l ((v6 ||| (1 <<< (z62 &&& 31))) : Int32) fun z284 =>
 pw_b (m_X11_change S v0 z61 z62 z180 z268) fun S285 r288 =>
 pw_e r288 (fun r290 =>
 (if r290 = z283 then
 (pw_l (((v7 >>> (4 &&& 31)) + (104729 * ((v2 - v2 / 900 * 900) + v8))) : Int32) fun z292 =>
 pw_l (v8 + 1 : Int32) fun z293 =>
 m_L_upgrades_22 k211 N S285 v0 v2 va3 vi3 va4 vi4 z283 z284 z292 z293)
 else
 (some (S285, 0)))) (fun _ => none)))))))
set_option maxRecDepth 100000 in
set_option maxHeartbeats 8000000 in
theorem L_L_upgrades_22 {X : np_Ctx} (hX : np_ok RL cL_upgrades 17 8 161 106 640 .ireturn X) {Q : Option Value → np_W → Prop} {n dc ds : Nat} (hR : ∀ st w ce sl, np_rtN (some .boolean) 106 640 (65536 + 0) Q st w ce sl → X.2.2.1 st w ce sl) {k211 : pw_S → Nat → Int32 → Nat → Nat → Nat → Nat → Int32 → pw_R Int32} (hk211 : ∀ (S : pw_S) (v0 : Nat) (v2 : Int32) (va3 : Nat) (vi3 : Nat) (va4 : Nat) (vi4 : Nat) (v5 : Int32) (f : Nat → Option np_E) (ce sl : Nat) (hv0 : pw_ok 0 61 v0 = true) (ha3 : pw_arr va3 = true) (hi3 : pw_ok 0 va3 vi3 = true) (ha4 : pw_arr va4 = true) (hi4 : pw_ok 0 va4 vi4 = true), ce + dc ≤ 106 → sl + ds ≤ 640 → pw_W 0 (n, f) S → pw_p (k211 S v0 v2 va3 vi3 va4 vi4 v5) (fun S' r => ∀ f', pw_W 0 (65536 + 0, f') S' → Q (some (.int r)) (65536 + 0, f')) → np_G X 211 [(0, .ref (pw_pl 61 v0)), (2, .int v2), (3, .ref (pw_pl va3 vi3)), (4, .ref (pw_pl va4 vi4)), (5, .int v5)] [] (n, f) ce sl) : ∀ (N : Nat) (S : pw_S) (v0 : Nat) (v2 : Int32) (va3 : Nat) (vi3 : Nat) (va4 : Nat) (vi4 : Nat) (v5 : Int32) (v6 : Int32) (v7 : Int32) (v8 : Int32) (f : Nat → Option np_E) (ce sl : Nat) (hv0 : pw_ok 0 61 v0 = true) (ha3 : pw_arr va3 = true) (hi3 : pw_ok 0 va3 vi3 = true) (ha4 : pw_arr va4 = true) (hi4 : pw_ok 0 va4 vi4 = true), ce + N * 1 + dc ≤ 106 → sl + N * 6 + ds ≤ 640 → pw_W 0 (n, f) S → pw_p (m_L_upgrades_22 k211 N S v0 v2 va3 vi3 va4 vi4 v5 v6 v7 v8) (fun S' r => ∀ f', pw_W 0 (65536 + 0, f') S' → Q (some (.int r)) (65536 + 0, f')) → np_G X 22 [(0, .ref (pw_pl 61 v0)), (2, .int v2), (3, .ref (pw_pl va3 vi3)), (4, .ref (pw_pl va4 vi4)), (5, .int v5), (6, .int v6), (7, .int v7), (8, .int v8)] [] (n, f) ce sl := by
  intro N
  induction N with
  | zero =>
    intro S v0 v2 va3 vi3 va4 vi4 v5 v6 v7 v8 f ce sl hv0 ha3 hi3 ha4 hi4 hc hs hW h
    exact (pw_pn h).elim
  | succ N ih =>
    intro S v0 v2 va3 vi3 va4 vi4 v5 v6 v7 v8 f ce sl hv0 ha3 hi3 ha4 hi4 hc hs hW h
    unfold m_L_upgrades_22 at h
    refine np_soundW (so_L_upgrades hX hR) [22, 211, 274, 375, 414, 506] 400 22 _ _ _ _ _ ?_
    conv => whnf
    refine pw_br h (fun _ h => ?_) (fun _ h => ?_)
    · conv => whnf
      exact np_gl (hk211 S v0 v2 va3 vi3 va4 vi4 v5 f _ _ hv0 ha3 hi3 ha4 hi4 (by omega) (by omega) hW h) ⟨rfl, rfl, rfl, rfl, rfl, trivial⟩
    · conv => whnf
      refine pw_st h (fun z61 h => ?_)
      conv => whnf
      refine pw_st h (fun z62 h => ?_)
      conv => whnf
      refine pw_br h (fun _ h => ?_) (fun _ h => ?_)
      · conv => whnf
        refine pw_st h (fun z63 h => ?_)
        conv => whnf
        refine pw_br h (fun _ h => ?_) (fun _ h => ?_)
        · conv => whnf
          refine pw_st h (fun z64 h => ?_)
          conv => whnf
          refine pw_br h (fun _ h => ?_) (fun _ h => ?_)
          · conv => whnf
            refine pw_st h (fun z65 h => ?_)
            conv => whnf
            refine pw_st h (fun z66 h => ?_)
            conv => whnf
            refine np_rd_i (hW.g hv0) ?_
            conv => whnf
            refine np_chk_i (pw_and rfl (pw_and rfl (pw_and rfl (pw_and rfl ((pw_and (pw_le (by omega)) (pw_le (by omega)))))))) ?_
            conv => whnf
            refine ⟨0, S, v0, z61, z62, z63, z64, rfl, hv0, hW, pw_bd h (fun S67 r70 h f68 hW69 => ?_)⟩
            rcases r70 with r72 | e73
            · replace h := pw_ei h
              conv => whnf
              refine pw_br h (fun _ h => ?_) (fun _ h => ?_)
              · conv => whnf
                refine pw_st h (fun z74 h => ?_)
                conv => whnf
                refine pw_st h (fun z75 h => ?_)
                conv => whnf
                exact np_gl (ih S67 v0 v2 va3 vi3 va4 vi4 z65 z66 z74 z75 f68 _ _ hv0 ha3 hi3 ha4 hi4 (by omega) (by omega) hW69 h) ⟨rfl, rfl, rfl, rfl, rfl, rfl, rfl, rfl, trivial⟩
              · conv => whnf
                obtain ⟨f76, hW77, hf78⟩ := pw_reset hW69 (q := 0) (Nat.zero_le _)
                exact ⟨(by omega), (by omega), ⟨_, rfl, by decide⟩, pw_cvi _, f76, hf78, pw_ps h _ hW77⟩
            · exact (pw_pn h).elim
          · conv => whnf
            refine pw_st h (fun z79 h => ?_)
            conv => whnf
            refine pw_st h (fun z80 h => ?_)
            conv => whnf
            refine np_rd_i (hW.g hv0) ?_
            conv => whnf
            refine np_chk_i (pw_and rfl (pw_and rfl (pw_and rfl (pw_and rfl ((pw_and (pw_le (by omega)) (pw_le (by omega)))))))) ?_
            conv => whnf
            refine ⟨0, S, v0, z61, z62, z63, z64, rfl, hv0, hW, pw_bd h (fun S81 r84 h f82 hW83 => ?_)⟩
            rcases r84 with r86 | e87
            · replace h := pw_ei h
              conv => whnf
              refine pw_br h (fun _ h => ?_) (fun _ h => ?_)
              · conv => whnf
                refine pw_st h (fun z88 h => ?_)
                conv => whnf
                refine pw_st h (fun z89 h => ?_)
                conv => whnf
                exact np_gl (ih S81 v0 v2 va3 vi3 va4 vi4 z79 z80 z88 z89 f82 _ _ hv0 ha3 hi3 ha4 hi4 (by omega) (by omega) hW83 h) ⟨rfl, rfl, rfl, rfl, rfl, rfl, rfl, rfl, trivial⟩
              · conv => whnf
                obtain ⟨f90, hW91, hf92⟩ := pw_reset hW83 (q := 0) (Nat.zero_le _)
                exact ⟨(by omega), (by omega), ⟨_, rfl, by decide⟩, pw_cvi _, f90, hf92, pw_ps h _ hW91⟩
            · exact (pw_pn h).elim
        · conv => whnf
          refine pw_br h (fun _ h => ?_) (fun _ h => ?_)
          · conv => whnf
            refine pw_st h (fun z93 h => ?_)
            conv => whnf
            refine pw_br h (fun _ h => ?_) (fun _ h => ?_)
            · conv => whnf
              refine pw_st h (fun z94 h => ?_)
              conv => whnf
              refine pw_st h (fun z95 h => ?_)
              conv => whnf
              refine np_rd_i (hW.g hv0) ?_
              conv => whnf
              refine np_chk_i (pw_and rfl (pw_and rfl (pw_and rfl (pw_and rfl ((pw_and (pw_le (by omega)) (pw_le (by omega)))))))) ?_
              conv => whnf
              refine ⟨0, S, v0, z61, z62, z63, z93, rfl, hv0, hW, pw_bd h (fun S96 r99 h f97 hW98 => ?_)⟩
              rcases r99 with r101 | e102
              · replace h := pw_ei h
                conv => whnf
                refine pw_br h (fun _ h => ?_) (fun _ h => ?_)
                · conv => whnf
                  refine pw_st h (fun z103 h => ?_)
                  conv => whnf
                  refine pw_st h (fun z104 h => ?_)
                  conv => whnf
                  exact np_gl (ih S96 v0 v2 va3 vi3 va4 vi4 z94 z95 z103 z104 f97 _ _ hv0 ha3 hi3 ha4 hi4 (by omega) (by omega) hW98 h) ⟨rfl, rfl, rfl, rfl, rfl, rfl, rfl, rfl, trivial⟩
                · conv => whnf
                  obtain ⟨f105, hW106, hf107⟩ := pw_reset hW98 (q := 0) (Nat.zero_le _)
                  exact ⟨(by omega), (by omega), ⟨_, rfl, by decide⟩, pw_cvi _, f105, hf107, pw_ps h _ hW106⟩
              · exact (pw_pn h).elim
            · conv => whnf
              refine pw_st h (fun z108 h => ?_)
              conv => whnf
              refine pw_st h (fun z109 h => ?_)
              conv => whnf
              refine np_rd_i (hW.g hv0) ?_
              conv => whnf
              refine np_chk_i (pw_and rfl (pw_and rfl (pw_and rfl (pw_and rfl ((pw_and (pw_le (by omega)) (pw_le (by omega)))))))) ?_
              conv => whnf
              refine ⟨0, S, v0, z61, z62, z63, z93, rfl, hv0, hW, pw_bd h (fun S110 r113 h f111 hW112 => ?_)⟩
              rcases r113 with r115 | e116
              · replace h := pw_ei h
                conv => whnf
                refine pw_br h (fun _ h => ?_) (fun _ h => ?_)
                · conv => whnf
                  refine pw_st h (fun z117 h => ?_)
                  conv => whnf
                  refine pw_st h (fun z118 h => ?_)
                  conv => whnf
                  exact np_gl (ih S110 v0 v2 va3 vi3 va4 vi4 z108 z109 z117 z118 f111 _ _ hv0 ha3 hi3 ha4 hi4 (by omega) (by omega) hW112 h) ⟨rfl, rfl, rfl, rfl, rfl, rfl, rfl, rfl, trivial⟩
                · conv => whnf
                  obtain ⟨f119, hW120, hf121⟩ := pw_reset hW112 (q := 0) (Nat.zero_le _)
                  exact ⟨(by omega), (by omega), ⟨_, rfl, by decide⟩, pw_cvi _, f119, hf121, pw_ps h _ hW120⟩
              · exact (pw_pn h).elim
          · conv => whnf
            refine pw_br h (fun _ h => ?_) (fun _ h => ?_)
            · conv => whnf
              refine pw_st h (fun z122 h => ?_)
              conv => whnf
              refine pw_br h (fun _ h => ?_) (fun _ h => ?_)
              · conv => whnf
                refine pw_st h (fun z123 h => ?_)
                conv => whnf
                refine pw_st h (fun z124 h => ?_)
                conv => whnf
                refine np_rd_i (hW.g hv0) ?_
                conv => whnf
                refine np_chk_i (pw_and rfl (pw_and rfl (pw_and rfl (pw_and rfl ((pw_and (pw_le (by omega)) (pw_le (by omega)))))))) ?_
                conv => whnf
                refine ⟨0, S, v0, z61, z62, z63, z122, rfl, hv0, hW, pw_bd h (fun S125 r128 h f126 hW127 => ?_)⟩
                rcases r128 with r130 | e131
                · replace h := pw_ei h
                  conv => whnf
                  refine pw_br h (fun _ h => ?_) (fun _ h => ?_)
                  · conv => whnf
                    refine pw_st h (fun z132 h => ?_)
                    conv => whnf
                    refine pw_st h (fun z133 h => ?_)
                    conv => whnf
                    exact np_gl (ih S125 v0 v2 va3 vi3 va4 vi4 z123 z124 z132 z133 f126 _ _ hv0 ha3 hi3 ha4 hi4 (by omega) (by omega) hW127 h) ⟨rfl, rfl, rfl, rfl, rfl, rfl, rfl, rfl, trivial⟩
                  · conv => whnf
                    obtain ⟨f134, hW135, hf136⟩ := pw_reset hW127 (q := 0) (Nat.zero_le _)
                    exact ⟨(by omega), (by omega), ⟨_, rfl, by decide⟩, pw_cvi _, f134, hf136, pw_ps h _ hW135⟩
                · exact (pw_pn h).elim
              · conv => whnf
                refine pw_st h (fun z137 h => ?_)
                conv => whnf
                refine pw_st h (fun z138 h => ?_)
                conv => whnf
                refine np_rd_i (hW.g hv0) ?_
                conv => whnf
                refine np_chk_i (pw_and rfl (pw_and rfl (pw_and rfl (pw_and rfl ((pw_and (pw_le (by omega)) (pw_le (by omega)))))))) ?_
                conv => whnf
                refine ⟨0, S, v0, z61, z62, z63, z122, rfl, hv0, hW, pw_bd h (fun S139 r142 h f140 hW141 => ?_)⟩
                rcases r142 with r144 | e145
                · replace h := pw_ei h
                  conv => whnf
                  refine pw_br h (fun _ h => ?_) (fun _ h => ?_)
                  · conv => whnf
                    refine pw_st h (fun z146 h => ?_)
                    conv => whnf
                    refine pw_st h (fun z147 h => ?_)
                    conv => whnf
                    exact np_gl (ih S139 v0 v2 va3 vi3 va4 vi4 z137 z138 z146 z147 f140 _ _ hv0 ha3 hi3 ha4 hi4 (by omega) (by omega) hW141 h) ⟨rfl, rfl, rfl, rfl, rfl, rfl, rfl, rfl, trivial⟩
                  · conv => whnf
                    obtain ⟨f148, hW149, hf150⟩ := pw_reset hW141 (q := 0) (Nat.zero_le _)
                    exact ⟨(by omega), (by omega), ⟨_, rfl, by decide⟩, pw_cvi _, f148, hf150, pw_ps h _ hW149⟩
                · exact (pw_pn h).elim
            · conv => whnf
              refine pw_st h (fun z151 h => ?_)
              conv => whnf
              refine pw_br h (fun _ h => ?_) (fun _ h => ?_)
              · conv => whnf
                refine pw_st h (fun z152 h => ?_)
                conv => whnf
                refine pw_st h (fun z153 h => ?_)
                conv => whnf
                refine np_rd_i (hW.g hv0) ?_
                conv => whnf
                refine np_chk_i (pw_and rfl (pw_and rfl (pw_and rfl (pw_and rfl ((pw_and (pw_le (by omega)) (pw_le (by omega)))))))) ?_
                conv => whnf
                refine ⟨0, S, v0, z61, z62, z63, z151, rfl, hv0, hW, pw_bd h (fun S154 r157 h f155 hW156 => ?_)⟩
                rcases r157 with r159 | e160
                · replace h := pw_ei h
                  conv => whnf
                  refine pw_br h (fun _ h => ?_) (fun _ h => ?_)
                  · conv => whnf
                    refine pw_st h (fun z161 h => ?_)
                    conv => whnf
                    refine pw_st h (fun z162 h => ?_)
                    conv => whnf
                    exact np_gl (ih S154 v0 v2 va3 vi3 va4 vi4 z152 z153 z161 z162 f155 _ _ hv0 ha3 hi3 ha4 hi4 (by omega) (by omega) hW156 h) ⟨rfl, rfl, rfl, rfl, rfl, rfl, rfl, rfl, trivial⟩
                  · conv => whnf
                    obtain ⟨f163, hW164, hf165⟩ := pw_reset hW156 (q := 0) (Nat.zero_le _)
                    exact ⟨(by omega), (by omega), ⟨_, rfl, by decide⟩, pw_cvi _, f163, hf165, pw_ps h _ hW164⟩
                · exact (pw_pn h).elim
              · conv => whnf
                refine pw_st h (fun z166 h => ?_)
                conv => whnf
                refine pw_st h (fun z167 h => ?_)
                conv => whnf
                refine np_rd_i (hW.g hv0) ?_
                conv => whnf
                refine np_chk_i (pw_and rfl (pw_and rfl (pw_and rfl (pw_and rfl ((pw_and (pw_le (by omega)) (pw_le (by omega)))))))) ?_
                conv => whnf
                refine ⟨0, S, v0, z61, z62, z63, z151, rfl, hv0, hW, pw_bd h (fun S168 r171 h f169 hW170 => ?_)⟩
                rcases r171 with r173 | e174
                · replace h := pw_ei h
                  conv => whnf
                  refine pw_br h (fun _ h => ?_) (fun _ h => ?_)
                  · conv => whnf
                    refine pw_st h (fun z175 h => ?_)
                    conv => whnf
                    refine pw_st h (fun z176 h => ?_)
                    conv => whnf
                    exact np_gl (ih S168 v0 v2 va3 vi3 va4 vi4 z166 z167 z175 z176 f169 _ _ hv0 ha3 hi3 ha4 hi4 (by omega) (by omega) hW170 h) ⟨rfl, rfl, rfl, rfl, rfl, rfl, rfl, rfl, trivial⟩
                  · conv => whnf
                    obtain ⟨f177, hW178, hf179⟩ := pw_reset hW170 (q := 0) (Nat.zero_le _)
                    exact ⟨(by omega), (by omega), ⟨_, rfl, by decide⟩, pw_cvi _, f177, hf179, pw_ps h _ hW178⟩
                · exact (pw_pn h).elim
      · conv => whnf
        refine pw_st h (fun z180 h => ?_)
        conv => whnf
        refine pw_br h (fun _ h => ?_) (fun _ h => ?_)
        · conv => whnf
          refine pw_st h (fun z181 h => ?_)
          conv => whnf
          refine pw_br h (fun _ h => ?_) (fun _ h => ?_)
          · conv => whnf
            refine pw_st h (fun z182 h => ?_)
            conv => whnf
            refine pw_st h (fun z183 h => ?_)
            conv => whnf
            refine np_rd_i (hW.g hv0) ?_
            conv => whnf
            refine np_chk_i (pw_and rfl (pw_and rfl (pw_and rfl (pw_and rfl ((pw_and (pw_le (by omega)) (pw_le (by omega)))))))) ?_
            conv => whnf
            refine ⟨0, S, v0, z61, z62, z180, z181, rfl, hv0, hW, pw_bd h (fun S184 r187 h f185 hW186 => ?_)⟩
            rcases r187 with r189 | e190
            · replace h := pw_ei h
              conv => whnf
              refine pw_br h (fun _ h => ?_) (fun _ h => ?_)
              · conv => whnf
                refine pw_st h (fun z191 h => ?_)
                conv => whnf
                refine pw_st h (fun z192 h => ?_)
                conv => whnf
                exact np_gl (ih S184 v0 v2 va3 vi3 va4 vi4 z182 z183 z191 z192 f185 _ _ hv0 ha3 hi3 ha4 hi4 (by omega) (by omega) hW186 h) ⟨rfl, rfl, rfl, rfl, rfl, rfl, rfl, rfl, trivial⟩
              · conv => whnf
                obtain ⟨f193, hW194, hf195⟩ := pw_reset hW186 (q := 0) (Nat.zero_le _)
                exact ⟨(by omega), (by omega), ⟨_, rfl, by decide⟩, pw_cvi _, f193, hf195, pw_ps h _ hW194⟩
            · exact (pw_pn h).elim
          · conv => whnf
            refine pw_st h (fun z196 h => ?_)
            conv => whnf
            refine pw_st h (fun z197 h => ?_)
            conv => whnf
            refine np_rd_i (hW.g hv0) ?_
            conv => whnf
            refine np_chk_i (pw_and rfl (pw_and rfl (pw_and rfl (pw_and rfl ((pw_and (pw_le (by omega)) (pw_le (by omega)))))))) ?_
            conv => whnf
            refine ⟨0, S, v0, z61, z62, z180, z181, rfl, hv0, hW, pw_bd h (fun S198 r201 h f199 hW200 => ?_)⟩
            rcases r201 with r203 | e204
            · replace h := pw_ei h
              conv => whnf
              refine pw_br h (fun _ h => ?_) (fun _ h => ?_)
              · conv => whnf
                refine pw_st h (fun z205 h => ?_)
                conv => whnf
                refine pw_st h (fun z206 h => ?_)
                conv => whnf
                exact np_gl (ih S198 v0 v2 va3 vi3 va4 vi4 z196 z197 z205 z206 f199 _ _ hv0 ha3 hi3 ha4 hi4 (by omega) (by omega) hW200 h) ⟨rfl, rfl, rfl, rfl, rfl, rfl, rfl, rfl, trivial⟩
              · conv => whnf
                obtain ⟨f207, hW208, hf209⟩ := pw_reset hW200 (q := 0) (Nat.zero_le _)
                exact ⟨(by omega), (by omega), ⟨_, rfl, by decide⟩, pw_cvi _, f207, hf209, pw_ps h _ hW208⟩
            · exact (pw_pn h).elim
        · conv => whnf
          refine pw_br h (fun _ h => ?_) (fun _ h => ?_)
          · conv => whnf
            refine pw_st h (fun z210 h => ?_)
            conv => whnf
            refine pw_br h (fun _ h => ?_) (fun _ h => ?_)
            · conv => whnf
              refine pw_st h (fun z211 h => ?_)
              conv => whnf
              refine pw_st h (fun z212 h => ?_)
              conv => whnf
              refine np_rd_i (hW.g hv0) ?_
              conv => whnf
              refine np_chk_i (pw_and rfl (pw_and rfl (pw_and rfl (pw_and rfl ((pw_and (pw_le (by omega)) (pw_le (by omega)))))))) ?_
              conv => whnf
              refine ⟨0, S, v0, z61, z62, z180, z210, rfl, hv0, hW, pw_bd h (fun S213 r216 h f214 hW215 => ?_)⟩
              rcases r216 with r218 | e219
              · replace h := pw_ei h
                conv => whnf
                refine pw_br h (fun _ h => ?_) (fun _ h => ?_)
                · conv => whnf
                  refine pw_st h (fun z220 h => ?_)
                  conv => whnf
                  refine pw_st h (fun z221 h => ?_)
                  conv => whnf
                  exact np_gl (ih S213 v0 v2 va3 vi3 va4 vi4 z211 z212 z220 z221 f214 _ _ hv0 ha3 hi3 ha4 hi4 (by omega) (by omega) hW215 h) ⟨rfl, rfl, rfl, rfl, rfl, rfl, rfl, rfl, trivial⟩
                · conv => whnf
                  obtain ⟨f222, hW223, hf224⟩ := pw_reset hW215 (q := 0) (Nat.zero_le _)
                  exact ⟨(by omega), (by omega), ⟨_, rfl, by decide⟩, pw_cvi _, f222, hf224, pw_ps h _ hW223⟩
              · exact (pw_pn h).elim
            · conv => whnf
              refine pw_st h (fun z225 h => ?_)
              conv => whnf
              refine pw_st h (fun z226 h => ?_)
              conv => whnf
              refine np_rd_i (hW.g hv0) ?_
              conv => whnf
              refine np_chk_i (pw_and rfl (pw_and rfl (pw_and rfl (pw_and rfl ((pw_and (pw_le (by omega)) (pw_le (by omega)))))))) ?_
              conv => whnf
              refine ⟨0, S, v0, z61, z62, z180, z210, rfl, hv0, hW, pw_bd h (fun S227 r230 h f228 hW229 => ?_)⟩
              rcases r230 with r232 | e233
              · replace h := pw_ei h
                conv => whnf
                refine pw_br h (fun _ h => ?_) (fun _ h => ?_)
                · conv => whnf
                  refine pw_st h (fun z234 h => ?_)
                  conv => whnf
                  refine pw_st h (fun z235 h => ?_)
                  conv => whnf
                  exact np_gl (ih S227 v0 v2 va3 vi3 va4 vi4 z225 z226 z234 z235 f228 _ _ hv0 ha3 hi3 ha4 hi4 (by omega) (by omega) hW229 h) ⟨rfl, rfl, rfl, rfl, rfl, rfl, rfl, rfl, trivial⟩
                · conv => whnf
                  obtain ⟨f236, hW237, hf238⟩ := pw_reset hW229 (q := 0) (Nat.zero_le _)
                  exact ⟨(by omega), (by omega), ⟨_, rfl, by decide⟩, pw_cvi _, f236, hf238, pw_ps h _ hW237⟩
              · exact (pw_pn h).elim
          · conv => whnf
            refine pw_br h (fun _ h => ?_) (fun _ h => ?_)
            · conv => whnf
              refine pw_st h (fun z239 h => ?_)
              conv => whnf
              refine pw_br h (fun _ h => ?_) (fun _ h => ?_)
              · conv => whnf
                refine pw_st h (fun z240 h => ?_)
                conv => whnf
                refine pw_st h (fun z241 h => ?_)
                conv => whnf
                refine np_rd_i (hW.g hv0) ?_
                conv => whnf
                refine np_chk_i (pw_and rfl (pw_and rfl (pw_and rfl (pw_and rfl ((pw_and (pw_le (by omega)) (pw_le (by omega)))))))) ?_
                conv => whnf
                refine ⟨0, S, v0, z61, z62, z180, z239, rfl, hv0, hW, pw_bd h (fun S242 r245 h f243 hW244 => ?_)⟩
                rcases r245 with r247 | e248
                · replace h := pw_ei h
                  conv => whnf
                  refine pw_br h (fun _ h => ?_) (fun _ h => ?_)
                  · conv => whnf
                    refine pw_st h (fun z249 h => ?_)
                    conv => whnf
                    refine pw_st h (fun z250 h => ?_)
                    conv => whnf
                    exact np_gl (ih S242 v0 v2 va3 vi3 va4 vi4 z240 z241 z249 z250 f243 _ _ hv0 ha3 hi3 ha4 hi4 (by omega) (by omega) hW244 h) ⟨rfl, rfl, rfl, rfl, rfl, rfl, rfl, rfl, trivial⟩
                  · conv => whnf
                    obtain ⟨f251, hW252, hf253⟩ := pw_reset hW244 (q := 0) (Nat.zero_le _)
                    exact ⟨(by omega), (by omega), ⟨_, rfl, by decide⟩, pw_cvi _, f251, hf253, pw_ps h _ hW252⟩
                · exact (pw_pn h).elim
              · conv => whnf
                refine pw_st h (fun z254 h => ?_)
                conv => whnf
                refine pw_st h (fun z255 h => ?_)
                conv => whnf
                refine np_rd_i (hW.g hv0) ?_
                conv => whnf
                refine np_chk_i (pw_and rfl (pw_and rfl (pw_and rfl (pw_and rfl ((pw_and (pw_le (by omega)) (pw_le (by omega)))))))) ?_
                conv => whnf
                refine ⟨0, S, v0, z61, z62, z180, z239, rfl, hv0, hW, pw_bd h (fun S256 r259 h f257 hW258 => ?_)⟩
                rcases r259 with r261 | e262
                · replace h := pw_ei h
                  conv => whnf
                  refine pw_br h (fun _ h => ?_) (fun _ h => ?_)
                  · conv => whnf
                    refine pw_st h (fun z263 h => ?_)
                    conv => whnf
                    refine pw_st h (fun z264 h => ?_)
                    conv => whnf
                    exact np_gl (ih S256 v0 v2 va3 vi3 va4 vi4 z254 z255 z263 z264 f257 _ _ hv0 ha3 hi3 ha4 hi4 (by omega) (by omega) hW258 h) ⟨rfl, rfl, rfl, rfl, rfl, rfl, rfl, rfl, trivial⟩
                  · conv => whnf
                    obtain ⟨f265, hW266, hf267⟩ := pw_reset hW258 (q := 0) (Nat.zero_le _)
                    exact ⟨(by omega), (by omega), ⟨_, rfl, by decide⟩, pw_cvi _, f265, hf267, pw_ps h _ hW266⟩
                · exact (pw_pn h).elim
            · conv => whnf
              refine pw_st h (fun z268 h => ?_)
              conv => whnf
              refine pw_br h (fun _ h => ?_) (fun _ h => ?_)
              · conv => whnf
                refine pw_st h (fun z269 h => ?_)
                conv => whnf
                refine pw_st h (fun z270 h => ?_)
                conv => whnf
                refine np_rd_i (hW.g hv0) ?_
                conv => whnf
                refine np_chk_i (pw_and rfl (pw_and rfl (pw_and rfl (pw_and rfl ((pw_and (pw_le (by omega)) (pw_le (by omega)))))))) ?_
                conv => whnf
                refine ⟨0, S, v0, z61, z62, z180, z268, rfl, hv0, hW, pw_bd h (fun S271 r274 h f272 hW273 => ?_)⟩
                rcases r274 with r276 | e277
                · replace h := pw_ei h
                  conv => whnf
                  refine pw_br h (fun _ h => ?_) (fun _ h => ?_)
                  · conv => whnf
                    refine pw_st h (fun z278 h => ?_)
                    conv => whnf
                    refine pw_st h (fun z279 h => ?_)
                    conv => whnf
                    exact np_gl (ih S271 v0 v2 va3 vi3 va4 vi4 z269 z270 z278 z279 f272 _ _ hv0 ha3 hi3 ha4 hi4 (by omega) (by omega) hW273 h) ⟨rfl, rfl, rfl, rfl, rfl, rfl, rfl, rfl, trivial⟩
                  · conv => whnf
                    obtain ⟨f280, hW281, hf282⟩ := pw_reset hW273 (q := 0) (Nat.zero_le _)
                    exact ⟨(by omega), (by omega), ⟨_, rfl, by decide⟩, pw_cvi _, f280, hf282, pw_ps h _ hW281⟩
                · exact (pw_pn h).elim
              · conv => whnf
                refine pw_st h (fun z283 h => ?_)
                conv => whnf
                refine pw_st h (fun z284 h => ?_)
                conv => whnf
                refine np_rd_i (hW.g hv0) ?_
                conv => whnf
                refine np_chk_i (pw_and rfl (pw_and rfl (pw_and rfl (pw_and rfl ((pw_and (pw_le (by omega)) (pw_le (by omega)))))))) ?_
                conv => whnf
                refine ⟨0, S, v0, z61, z62, z180, z268, rfl, hv0, hW, pw_bd h (fun S285 r288 h f286 hW287 => ?_)⟩
                rcases r288 with r290 | e291
                · replace h := pw_ei h
                  conv => whnf
                  refine pw_br h (fun _ h => ?_) (fun _ h => ?_)
                  · conv => whnf
                    refine pw_st h (fun z292 h => ?_)
                    conv => whnf
                    refine pw_st h (fun z293 h => ?_)
                    conv => whnf
                    exact np_gl (ih S285 v0 v2 va3 vi3 va4 vi4 z283 z284 z292 z293 f286 _ _ hv0 ha3 hi3 ha4 hi4 (by omega) (by omega) hW287 h) ⟨rfl, rfl, rfl, rfl, rfl, rfl, rfl, rfl, trivial⟩
                  · conv => whnf
                    obtain ⟨f294, hW295, hf296⟩ := pw_reset hW287 (q := 0) (Nat.zero_le _)
                    exact ⟨(by omega), (by omega), ⟨_, rfl, by decide⟩, pw_cvi _, f294, hf296, pw_ps h _ hW295⟩
                · exact (pw_pn h).elim
noncomputable def m_L_upgrades (S : pw_S) (i0 : Nat) (x1 : Int32) (x2 : Int32) (a3 : Nat) (i3 : Nat) (a4 : Nat) (i4 : Nat) : pw_R Int32 :=
 pw_c (np_inb 2 (pw_len a4)) <|
 if (S a4 i4 (2 : Int32).toNatClampNeg) ≤ 4 then
 (pw_l (0 : Int32) fun z297 =>
 pw_l (0 : Int32) fun z298 =>
 pw_l (x1 : Int32) fun z299 =>
 pw_l (0 : Int32) fun z300 =>
 m_L_upgrades_22
 (fun S313 u301 u303 u304 u305 u308 u309 u312 =>
 (pw_b (m_X11_upgrade S313 u301) fun S316 r319 =>
 pw_e r319 (fun r321 =>
 (pw_c (np_inb 2 (pw_len u308)) <|
 if r321 = (S316 u308 u309 (2 : Int32).toNatClampNeg) then
 (pw_c (np_inb 2 (pw_len u308)) <|
 pw_b (m_X11_parts S316 u301 (S316 u308 u309 (2 : Int32).toNatClampNeg)) fun S323 r326 =>
 pw_e r326 (fun r328 =>
 (if r328 < u312 then
 (pw_l (0 : Int32) fun z330 =>
 pw_c (np_inb 2 (pw_len u308)) <|
 pw_c (np_inb 2 (pw_len u308)) <|
 pw_l (pw_up S323 u308 u309 (upd (S323 u308 u309) (2 : Int32).toNatClampNeg ((S323 u308 u309 (2 : Int32).toNatClampNeg) + 1))) fun S331 =>
 pw_l (pw_up S331 100 0 (fun _ => 0)) fun S334 =>
 pw_l (0 : Int32) fun z337 =>
 m_L_upgrades_274
 (fun S350 u338 u340 u341 u342 u345 u346 u349 =>
 (pw_c (np_inb 2 (pw_len u345)) <|
 pw_c (!decide ((S350 u345 u346 (2 : Int32).toNatClampNeg) = 0)) <|
 pw_l ((u340 - u340 / (S350 u345 u346 (2 : Int32).toNatClampNeg) * (S350 u345 u346 (2 : Int32).toNatClampNeg)) : Int32) fun z353 =>
 pw_c (np_inb 2 (pw_len u345)) <|
 pw_l (((S350 u345 u346 (2 : Int32).toNatClampNeg) - 1) : Int32) fun z354 =>
 pw_b (m_X11_compose S350 u338 z353 z354) fun S355 r358 =>
 pw_e r358 (fun r360 =>
 (pw_l (r360 : Int32) fun z362 =>
 pw_b (m_L_tells S355 u338 z353 u341 u342) fun S363 r366 =>
 pw_l (pw_up S363 101 0 (fun _ => 0)) fun S368 =>
 pw_l (0 : Int32) fun z371 =>
 m_L_upgrades_375
 (fun S385 u372 u374 u375 u378 u379 u382 u383 u384 =>
 (pw_b (m_L_sets S385 u372 u374 u375) fun S388 r391 =>
 pw_l (0 : Int32) fun z393 =>
 m_L_upgrades_414
 (fun S407 u394 u396 u397 u400 u401 u404 u405 u406 =>
 (pw_c (np_inb 2 (pw_len u400)) <|
 if u406 < 0 then
 (pw_c (np_inb 2 (pw_len u400)) <|
 pw_l (pw_up S407 u400 u401 (upd (S407 u400 u401) (2 : Int32).toNatClampNeg ((S407 u400 u401 (2 : Int32).toNatClampNeg) + 0))) fun S410 =>
 pw_b (m_L_sets S410 u394 100 0) fun S413 r416 =>
 pw_b (m_X11_reverse S413 u394 u405) fun S418 r421 =>
 pw_e r421 (fun r423 =>
 (pw_l (r423 : Int32) fun z425 =>
 pw_b (m_L_tells S418 u394 u405 u396 u397) fun S426 r429 =>
 pw_b (m_L_sets S426 u394 u396 u397) fun S431 r434 =>
 pw_l (0 : Int32) fun z436 =>
 m_L_upgrades_506
 (fun S446 u437 u439 u440 u443 u444 u445 =>
 (pw_c (np_inb 2 (pw_len u439)) <|
 if u445 < 0 then
 (pw_c (np_inb 2 (pw_len u439)) <|
 pw_l (pw_up S446 u439 u440 (upd (S446 u439 u440) (2 : Int32).toNatClampNeg ((S446 u439 u440 (2 : Int32).toNatClampNeg) + 0))) fun S449 =>
 pw_b (m_L_sets S449 u437 100 0) fun S452 r455 =>
 if u443 = 0 then
 (some (S452, 0))
 else
 (if 0 ≤ u444 then
 (if 0 ≤ u445 then
 (some (S452, 1))
 else
 (if u445 = (-1) then
 (some (S452, 1))
 else
 (some (S452, 0))))
 else
 (if u444 = (-1) then
 (if 0 ≤ u445 then
 (some (S452, 1))
 else
 (if u445 = (-1) then
 (some (S452, 1))
 else
 (some (S452, 0))))
 else
 (some (S452, 0)))))
 else
 (pw_c (np_inb 2 (pw_len u439)) <|
 pw_l (pw_up S446 u439 u440 (upd (S446 u439 u440) (2 : Int32).toNatClampNeg ((S446 u439 u440 (2 : Int32).toNatClampNeg) + 1))) fun S481 =>
 pw_b (m_L_sets S481 u437 100 0) fun S484 r487 =>
 if u443 = 0 then
 (some (S484, 0))
 else
 (if 0 ≤ u444 then
 (if 0 ≤ u445 then
 (some (S484, 1))
 else
 (if u445 = (-1) then
 (some (S484, 1))
 else
 (some (S484, 0))))
 else
 (if u444 = (-1) then
 (if 0 ≤ u445 then
 (some (S484, 1))
 else
 (if u445 = (-1) then
 (some (S484, 1))
 else
 (some (S484, 0))))
 else
 (some (S484, 0))))))) (pw_F 9) S431 u394 u400 u401 u404 u406 z425 z436)) (fun _ => none))
 else
 (pw_c (np_inb 2 (pw_len u400)) <|
 pw_l (pw_up S407 u400 u401 (upd (S407 u400 u401) (2 : Int32).toNatClampNeg ((S407 u400 u401 (2 : Int32).toNatClampNeg) + 1))) fun S517 =>
 pw_b (m_L_sets S517 u394 100 0) fun S520 r523 =>
 pw_b (m_X11_reverse S520 u394 u405) fun S525 r528 =>
 pw_e r528 (fun r530 =>
 (pw_l (r530 : Int32) fun z532 =>
 pw_b (m_L_tells S525 u394 u405 u396 u397) fun S533 r536 =>
 pw_b (m_L_sets S533 u394 u396 u397) fun S538 r541 =>
 pw_l (0 : Int32) fun z543 =>
 m_L_upgrades_506
 (fun S553 u544 u546 u547 u550 u551 u552 =>
 (pw_c (np_inb 2 (pw_len u546)) <|
 if u552 < 0 then
 (pw_c (np_inb 2 (pw_len u546)) <|
 pw_l (pw_up S553 u546 u547 (upd (S553 u546 u547) (2 : Int32).toNatClampNeg ((S553 u546 u547 (2 : Int32).toNatClampNeg) + 0))) fun S556 =>
 pw_b (m_L_sets S556 u544 100 0) fun S559 r562 =>
 if u550 = 0 then
 (some (S559, 0))
 else
 (if 0 ≤ u551 then
 (if 0 ≤ u552 then
 (some (S559, 1))
 else
 (if u552 = (-1) then
 (some (S559, 1))
 else
 (some (S559, 0))))
 else
 (if u551 = (-1) then
 (if 0 ≤ u552 then
 (some (S559, 1))
 else
 (if u552 = (-1) then
 (some (S559, 1))
 else
 (some (S559, 0))))
 else
 (some (S559, 0)))))
 else
 (pw_c (np_inb 2 (pw_len u546)) <|
 pw_l (pw_up S553 u546 u547 (upd (S553 u546 u547) (2 : Int32).toNatClampNeg ((S553 u546 u547 (2 : Int32).toNatClampNeg) + 1))) fun S588 =>
 pw_b (m_L_sets S588 u544 100 0) fun S591 r594 =>
 if u550 = 0 then
 (some (S591, 0))
 else
 (if 0 ≤ u551 then
 (if 0 ≤ u552 then
 (some (S591, 1))
 else
 (if u552 = (-1) then
 (some (S591, 1))
 else
 (some (S591, 0))))
 else
 (if u551 = (-1) then
 (if 0 ≤ u552 then
 (some (S591, 1))
 else
 (if u552 = (-1) then
 (some (S591, 1))
 else
 (some (S591, 0))))
 else
 (some (S591, 0))))))) (pw_F 9) S538 u394 u400 u401 u404 u406 z532 z543)) (fun _ => none)))) (pw_F 9) S388 u372 u374 u375 u378 u379 u382 u383 u384 z393)) (pw_F 9) S368 u338 u341 u342 u345 u346 u349 z354 z362 z371)) (fun _ => none))) (pw_F 9) S334 u301 u303 u304 u305 u308 u309 z330 z337)
 else
 (pw_c (np_inb 2 (pw_len u308)) <|
 pw_b (m_X11_parts S323 u301 (S323 u308 u309 (2 : Int32).toNatClampNeg)) fun S636 r639 =>
 pw_e r639 (fun r641 =>
 (if (3 * u312) < r641 then
 (pw_l (0 : Int32) fun z643 =>
 pw_c (np_inb 2 (pw_len u308)) <|
 pw_c (np_inb 2 (pw_len u308)) <|
 pw_l (pw_up S636 u308 u309 (upd (S636 u308 u309) (2 : Int32).toNatClampNeg ((S636 u308 u309 (2 : Int32).toNatClampNeg) + 1))) fun S644 =>
 pw_l (pw_up S644 100 0 (fun _ => 0)) fun S647 =>
 pw_l (0 : Int32) fun z650 =>
 m_L_upgrades_274
 (fun S663 u651 u653 u654 u655 u658 u659 u662 =>
 (pw_c (np_inb 2 (pw_len u658)) <|
 pw_c (!decide ((S663 u658 u659 (2 : Int32).toNatClampNeg) = 0)) <|
 pw_l ((u653 - u653 / (S663 u658 u659 (2 : Int32).toNatClampNeg) * (S663 u658 u659 (2 : Int32).toNatClampNeg)) : Int32) fun z666 =>
 pw_c (np_inb 2 (pw_len u658)) <|
 pw_l (((S663 u658 u659 (2 : Int32).toNatClampNeg) - 1) : Int32) fun z667 =>
 pw_b (m_X11_compose S663 u651 z666 z667) fun S668 r671 =>
 pw_e r671 (fun r673 =>
 (pw_l (r673 : Int32) fun z675 =>
 pw_b (m_L_tells S668 u651 z666 u654 u655) fun S676 r679 =>
 pw_l (pw_up S676 101 0 (fun _ => 0)) fun S681 =>
 pw_l (0 : Int32) fun z684 =>
 m_L_upgrades_375
 (fun S698 u685 u687 u688 u691 u692 u695 u696 u697 =>
 (pw_b (m_L_sets S698 u685 u687 u688) fun S701 r704 =>
 pw_l (0 : Int32) fun z706 =>
 m_L_upgrades_414
 (fun S720 u707 u709 u710 u713 u714 u717 u718 u719 =>
 (pw_c (np_inb 2 (pw_len u713)) <|
 if u719 < 0 then
 (pw_c (np_inb 2 (pw_len u713)) <|
 pw_l (pw_up S720 u713 u714 (upd (S720 u713 u714) (2 : Int32).toNatClampNeg ((S720 u713 u714 (2 : Int32).toNatClampNeg) + 0))) fun S723 =>
 pw_b (m_L_sets S723 u707 100 0) fun S726 r729 =>
 pw_b (m_X11_reverse S726 u707 u718) fun S731 r734 =>
 pw_e r734 (fun r736 =>
 (pw_l (r736 : Int32) fun z738 =>
 pw_b (m_L_tells S731 u707 u718 u709 u710) fun S739 r742 =>
 pw_b (m_L_sets S739 u707 u709 u710) fun S744 r747 =>
 pw_l (0 : Int32) fun z749 =>
 m_L_upgrades_506
 (fun S759 u750 u752 u753 u756 u757 u758 =>
 (pw_c (np_inb 2 (pw_len u752)) <|
 if u758 < 0 then
 (pw_c (np_inb 2 (pw_len u752)) <|
 pw_l (pw_up S759 u752 u753 (upd (S759 u752 u753) (2 : Int32).toNatClampNeg ((S759 u752 u753 (2 : Int32).toNatClampNeg) + 0))) fun S762 =>
 pw_b (m_L_sets S762 u750 100 0) fun S765 r768 =>
 if u756 = 0 then
 (some (S765, 0))
 else
 (if 0 ≤ u757 then
 (if 0 ≤ u758 then
 (some (S765, 1))
 else
 (if u758 = (-1) then
 (some (S765, 1))
 else
 (some (S765, 0))))
 else
 (if u757 = (-1) then
 (if 0 ≤ u758 then
 (some (S765, 1))
 else
 (if u758 = (-1) then
 (some (S765, 1))
 else
 (some (S765, 0))))
 else
 (some (S765, 0)))))
 else
 (pw_c (np_inb 2 (pw_len u752)) <|
 pw_l (pw_up S759 u752 u753 (upd (S759 u752 u753) (2 : Int32).toNatClampNeg ((S759 u752 u753 (2 : Int32).toNatClampNeg) + 1))) fun S794 =>
 pw_b (m_L_sets S794 u750 100 0) fun S797 r800 =>
 if u756 = 0 then
 (some (S797, 0))
 else
 (if 0 ≤ u757 then
 (if 0 ≤ u758 then
 (some (S797, 1))
 else
 (if u758 = (-1) then
 (some (S797, 1))
 else
 (some (S797, 0))))
 else
 (if u757 = (-1) then
 (if 0 ≤ u758 then
 (some (S797, 1))
 else
 (if u758 = (-1) then
 (some (S797, 1))
 else
 (some (S797, 0))))
 else
 (some (S797, 0))))))) (pw_F 9) S744 u707 u713 u714 u717 u719 z738 z749)) (fun _ => none))
 else
 (pw_c (np_inb 2 (pw_len u713)) <|
 pw_l (pw_up S720 u713 u714 (upd (S720 u713 u714) (2 : Int32).toNatClampNeg ((S720 u713 u714 (2 : Int32).toNatClampNeg) + 1))) fun S830 =>
 pw_b (m_L_sets S830 u707 100 0) fun S833 r836 =>
 pw_b (m_X11_reverse S833 u707 u718) fun S838 r841 =>
 pw_e r841 (fun r843 =>
 (pw_l (r843 : Int32) fun z845 =>
 pw_b (m_L_tells S838 u707 u718 u709 u710) fun S846 r849 =>
 pw_b (m_L_sets S846 u707 u709 u710) fun S851 r854 =>
 pw_l (0 : Int32) fun z856 =>
 m_L_upgrades_506
 (fun S866 u857 u859 u860 u863 u864 u865 =>
 (pw_c (np_inb 2 (pw_len u859)) <|
 if u865 < 0 then
 (pw_c (np_inb 2 (pw_len u859)) <|
 pw_l (pw_up S866 u859 u860 (upd (S866 u859 u860) (2 : Int32).toNatClampNeg ((S866 u859 u860 (2 : Int32).toNatClampNeg) + 0))) fun S869 =>
 pw_b (m_L_sets S869 u857 100 0) fun S872 r875 =>
 if u863 = 0 then
 (some (S872, 0))
 else
 (if 0 ≤ u864 then
 (if 0 ≤ u865 then
 (some (S872, 1))
 else
 (if u865 = (-1) then
 (some (S872, 1))
 else
 (some (S872, 0))))
 else
 (if u864 = (-1) then
 (if 0 ≤ u865 then
 (some (S872, 1))
 else
 (if u865 = (-1) then
 (some (S872, 1))
 else
 (some (S872, 0))))
 else
 (some (S872, 0)))))
 else
 (pw_c (np_inb 2 (pw_len u859)) <|
 pw_l (pw_up S866 u859 u860 (upd (S866 u859 u860) (2 : Int32).toNatClampNeg ((S866 u859 u860 (2 : Int32).toNatClampNeg) + 1))) fun S901 =>
 pw_b (m_L_sets S901 u857 100 0) fun S904 r907 =>
 if u863 = 0 then
 (some (S904, 0))
 else
 (if 0 ≤ u864 then
 (if 0 ≤ u865 then
 (some (S904, 1))
 else
 (if u865 = (-1) then
 (some (S904, 1))
 else
 (some (S904, 0))))
 else
 (if u864 = (-1) then
 (if 0 ≤ u865 then
 (some (S904, 1))
 else
 (if u865 = (-1) then
 (some (S904, 1))
 else
 (some (S904, 0))))
 else
 (some (S904, 0))))))) (pw_F 9) S851 u707 u713 u714 u717 u719 z845 z856)) (fun _ => none)))) (pw_F 9) S701 u685 u687 u688 u691 u692 u695 u696 u697 z706)) (pw_F 9) S681 u651 u654 u655 u658 u659 u662 z667 z675 z684)) (fun _ => none))) (pw_F 9) S647 u301 u303 u304 u305 u308 u309 z643 z650)
 else
 (pw_l (1 : Int32) fun z949 =>
 pw_c (np_inb 2 (pw_len u308)) <|
 pw_c (np_inb 2 (pw_len u308)) <|
 pw_l (pw_up S636 u308 u309 (upd (S636 u308 u309) (2 : Int32).toNatClampNeg ((S636 u308 u309 (2 : Int32).toNatClampNeg) + 1))) fun S950 =>
 pw_l (pw_up S950 100 0 (fun _ => 0)) fun S953 =>
 pw_l (0 : Int32) fun z956 =>
 m_L_upgrades_274
 (fun S969 u957 u959 u960 u961 u964 u965 u968 =>
 (pw_c (np_inb 2 (pw_len u964)) <|
 pw_c (!decide ((S969 u964 u965 (2 : Int32).toNatClampNeg) = 0)) <|
 pw_l ((u959 - u959 / (S969 u964 u965 (2 : Int32).toNatClampNeg) * (S969 u964 u965 (2 : Int32).toNatClampNeg)) : Int32) fun z972 =>
 pw_c (np_inb 2 (pw_len u964)) <|
 pw_l (((S969 u964 u965 (2 : Int32).toNatClampNeg) - 1) : Int32) fun z973 =>
 pw_b (m_X11_compose S969 u957 z972 z973) fun S974 r977 =>
 pw_e r977 (fun r979 =>
 (pw_l (r979 : Int32) fun z981 =>
 pw_b (m_L_tells S974 u957 z972 u960 u961) fun S982 r985 =>
 pw_l (pw_up S982 101 0 (fun _ => 0)) fun S987 =>
 pw_l (0 : Int32) fun z990 =>
 m_L_upgrades_375
 (fun S1004 u991 u993 u994 u997 u998 u1001 u1002 u1003 =>
 (pw_b (m_L_sets S1004 u991 u993 u994) fun S1007 r1010 =>
 pw_l (0 : Int32) fun z1012 =>
 m_L_upgrades_414
 (fun S1026 u1013 u1015 u1016 u1019 u1020 u1023 u1024 u1025 =>
 (pw_c (np_inb 2 (pw_len u1019)) <|
 if u1025 < 0 then
 (pw_c (np_inb 2 (pw_len u1019)) <|
 pw_l (pw_up S1026 u1019 u1020 (upd (S1026 u1019 u1020) (2 : Int32).toNatClampNeg ((S1026 u1019 u1020 (2 : Int32).toNatClampNeg) + 0))) fun S1029 =>
 pw_b (m_L_sets S1029 u1013 100 0) fun S1032 r1035 =>
 pw_b (m_X11_reverse S1032 u1013 u1024) fun S1037 r1040 =>
 pw_e r1040 (fun r1042 =>
 (pw_l (r1042 : Int32) fun z1044 =>
 pw_b (m_L_tells S1037 u1013 u1024 u1015 u1016) fun S1045 r1048 =>
 pw_b (m_L_sets S1045 u1013 u1015 u1016) fun S1050 r1053 =>
 pw_l (0 : Int32) fun z1055 =>
 m_L_upgrades_506
 (fun S1065 u1056 u1058 u1059 u1062 u1063 u1064 =>
 (pw_c (np_inb 2 (pw_len u1058)) <|
 if u1064 < 0 then
 (pw_c (np_inb 2 (pw_len u1058)) <|
 pw_l (pw_up S1065 u1058 u1059 (upd (S1065 u1058 u1059) (2 : Int32).toNatClampNeg ((S1065 u1058 u1059 (2 : Int32).toNatClampNeg) + 0))) fun S1068 =>
 pw_b (m_L_sets S1068 u1056 100 0) fun S1071 r1074 =>
 if u1062 = 0 then
 (some (S1071, 0))
 else
 (if 0 ≤ u1063 then
 (if 0 ≤ u1064 then
 (some (S1071, 1))
 else
 (if u1064 = (-1) then
 (some (S1071, 1))
 else
 (some (S1071, 0))))
 else
 (if u1063 = (-1) then
 (if 0 ≤ u1064 then
 (some (S1071, 1))
 else
 (if u1064 = (-1) then
 (some (S1071, 1))
 else
 (some (S1071, 0))))
 else
 (some (S1071, 0)))))
 else
 (pw_c (np_inb 2 (pw_len u1058)) <|
 pw_l (pw_up S1065 u1058 u1059 (upd (S1065 u1058 u1059) (2 : Int32).toNatClampNeg ((S1065 u1058 u1059 (2 : Int32).toNatClampNeg) + 1))) fun S1100 =>
 pw_b (m_L_sets S1100 u1056 100 0) fun S1103 r1106 =>
 if u1062 = 0 then
 (some (S1103, 0))
 else
 (if 0 ≤ u1063 then
 (if 0 ≤ u1064 then
 (some (S1103, 1))
 else
 (if u1064 = (-1) then
 (some (S1103, 1))
 else
 (some (S1103, 0))))
 else
 (if u1063 = (-1) then
 (if 0 ≤ u1064 then
 (some (S1103, 1))
 else
 (if u1064 = (-1) then
 (some (S1103, 1))
 else
 (some (S1103, 0))))
 else
 (some (S1103, 0))))))) (pw_F 9) S1050 u1013 u1019 u1020 u1023 u1025 z1044 z1055)) (fun _ => none))
 else
 (pw_c (np_inb 2 (pw_len u1019)) <|
 pw_l (pw_up S1026 u1019 u1020 (upd (S1026 u1019 u1020) (2 : Int32).toNatClampNeg ((S1026 u1019 u1020 (2 : Int32).toNatClampNeg) + 1))) fun S1136 =>
 pw_b (m_L_sets S1136 u1013 100 0) fun S1139 r1142 =>
 pw_b (m_X11_reverse S1139 u1013 u1024) fun S1144 r1147 =>
 pw_e r1147 (fun r1149 =>
 (pw_l (r1149 : Int32) fun z1151 =>
 pw_b (m_L_tells S1144 u1013 u1024 u1015 u1016) fun S1152 r1155 =>
 pw_b (m_L_sets S1152 u1013 u1015 u1016) fun S1157 r1160 =>
 pw_l (0 : Int32) fun z1162 =>
 m_L_upgrades_506
 (fun S1172 u1163 u1165 u1166 u1169 u1170 u1171 =>
 (pw_c (np_inb 2 (pw_len u1165)) <|
 if u1171 < 0 then
 (pw_c (np_inb 2 (pw_len u1165)) <|
 pw_l (pw_up S1172 u1165 u1166 (upd (S1172 u1165 u1166) (2 : Int32).toNatClampNeg ((S1172 u1165 u1166 (2 : Int32).toNatClampNeg) + 0))) fun S1175 =>
 pw_b (m_L_sets S1175 u1163 100 0) fun S1178 r1181 =>
 if u1169 = 0 then
 (some (S1178, 0))
 else
 (if 0 ≤ u1170 then
 (if 0 ≤ u1171 then
 (some (S1178, 1))
 else
 (if u1171 = (-1) then
 (some (S1178, 1))
 else
 (some (S1178, 0))))
 else
 (if u1170 = (-1) then
 (if 0 ≤ u1171 then
 (some (S1178, 1))
 else
 (if u1171 = (-1) then
 (some (S1178, 1))
 else
 (some (S1178, 0))))
 else
 (some (S1178, 0)))))
 else
 (pw_c (np_inb 2 (pw_len u1165)) <|
 pw_l (pw_up S1172 u1165 u1166 (upd (S1172 u1165 u1166) (2 : Int32).toNatClampNeg ((S1172 u1165 u1166 (2 : Int32).toNatClampNeg) + 1))) fun S1207 =>
 pw_b (m_L_sets S1207 u1163 100 0) fun S1210 r1213 =>
 if u1169 = 0 then
 (some (S1210, 0))
 else
 (if 0 ≤ u1170 then
 (if 0 ≤ u1171 then
 (some (S1210, 1))
 else
 (if u1171 = (-1) then
 (some (S1210, 1))
 else
 (some (S1210, 0))))
 else
 (if u1170 = (-1) then
 (if 0 ≤ u1171 then
 (some (S1210, 1))
 else
 (if u1171 = (-1) then
 (some (S1210, 1))
 else
 (some (S1210, 0))))
 else
 (some (S1210, 0))))))) (pw_F 9) S1157 u1013 u1019 u1020 u1023 u1025 z1151 z1162)) (fun _ => none)))) (pw_F 9) S1007 u991 u993 u994 u997 u998 u1001 u1002 u1003 z1012)) (pw_F 9) S987 u957 u960 u961 u964 u965 u968 z973 z981 z990)) (fun _ => none))) (pw_F 9) S953 u301 u303 u304 u305 u308 u309 z949 z956))) (fun _ => none)))) (fun _ => none))
 else
 (pw_l (0 : Int32) fun z1255 =>
 pw_c (np_inb 2 (pw_len u308)) <|
 pw_c (np_inb 2 (pw_len u308)) <|
 pw_l (pw_up S316 u308 u309 (upd (S316 u308 u309) (2 : Int32).toNatClampNeg ((S316 u308 u309 (2 : Int32).toNatClampNeg) + 1))) fun S1256 =>
 pw_l (pw_up S1256 100 0 (fun _ => 0)) fun S1259 =>
 pw_l (0 : Int32) fun z1262 =>
 m_L_upgrades_274
 (fun S1275 u1263 u1265 u1266 u1267 u1270 u1271 u1274 =>
 (pw_c (np_inb 2 (pw_len u1270)) <|
 pw_c (!decide ((S1275 u1270 u1271 (2 : Int32).toNatClampNeg) = 0)) <|
 pw_l ((u1265 - u1265 / (S1275 u1270 u1271 (2 : Int32).toNatClampNeg) * (S1275 u1270 u1271 (2 : Int32).toNatClampNeg)) : Int32) fun z1278 =>
 pw_c (np_inb 2 (pw_len u1270)) <|
 pw_l (((S1275 u1270 u1271 (2 : Int32).toNatClampNeg) - 1) : Int32) fun z1279 =>
 pw_b (m_X11_compose S1275 u1263 z1278 z1279) fun S1280 r1283 =>
 pw_e r1283 (fun r1285 =>
 (pw_l (r1285 : Int32) fun z1287 =>
 pw_b (m_L_tells S1280 u1263 z1278 u1266 u1267) fun S1288 r1291 =>
 pw_l (pw_up S1288 101 0 (fun _ => 0)) fun S1293 =>
 pw_l (0 : Int32) fun z1296 =>
 m_L_upgrades_375
 (fun S1310 u1297 u1299 u1300 u1303 u1304 u1307 u1308 u1309 =>
 (pw_b (m_L_sets S1310 u1297 u1299 u1300) fun S1313 r1316 =>
 pw_l (0 : Int32) fun z1318 =>
 m_L_upgrades_414
 (fun S1332 u1319 u1321 u1322 u1325 u1326 u1329 u1330 u1331 =>
 (pw_c (np_inb 2 (pw_len u1325)) <|
 if u1331 < 0 then
 (pw_c (np_inb 2 (pw_len u1325)) <|
 pw_l (pw_up S1332 u1325 u1326 (upd (S1332 u1325 u1326) (2 : Int32).toNatClampNeg ((S1332 u1325 u1326 (2 : Int32).toNatClampNeg) + 0))) fun S1335 =>
 pw_b (m_L_sets S1335 u1319 100 0) fun S1338 r1341 =>
 pw_b (m_X11_reverse S1338 u1319 u1330) fun S1343 r1346 =>
 pw_e r1346 (fun r1348 =>
 (pw_l (r1348 : Int32) fun z1350 =>
 pw_b (m_L_tells S1343 u1319 u1330 u1321 u1322) fun S1351 r1354 =>
 pw_b (m_L_sets S1351 u1319 u1321 u1322) fun S1356 r1359 =>
 pw_l (0 : Int32) fun z1361 =>
 m_L_upgrades_506
 (fun S1371 u1362 u1364 u1365 u1368 u1369 u1370 =>
 (pw_c (np_inb 2 (pw_len u1364)) <|
 if u1370 < 0 then
 (pw_c (np_inb 2 (pw_len u1364)) <|
 pw_l (pw_up S1371 u1364 u1365 (upd (S1371 u1364 u1365) (2 : Int32).toNatClampNeg ((S1371 u1364 u1365 (2 : Int32).toNatClampNeg) + 0))) fun S1374 =>
 pw_b (m_L_sets S1374 u1362 100 0) fun S1377 r1380 =>
 if u1368 = 0 then
 (some (S1377, 0))
 else
 (if 0 ≤ u1369 then
 (if 0 ≤ u1370 then
 (some (S1377, 1))
 else
 (if u1370 = (-1) then
 (some (S1377, 1))
 else
 (some (S1377, 0))))
 else
 (if u1369 = (-1) then
 (if 0 ≤ u1370 then
 (some (S1377, 1))
 else
 (if u1370 = (-1) then
 (some (S1377, 1))
 else
 (some (S1377, 0))))
 else
 (some (S1377, 0)))))
 else
 (pw_c (np_inb 2 (pw_len u1364)) <|
 pw_l (pw_up S1371 u1364 u1365 (upd (S1371 u1364 u1365) (2 : Int32).toNatClampNeg ((S1371 u1364 u1365 (2 : Int32).toNatClampNeg) + 1))) fun S1406 =>
 pw_b (m_L_sets S1406 u1362 100 0) fun S1409 r1412 =>
 if u1368 = 0 then
 (some (S1409, 0))
 else
 (if 0 ≤ u1369 then
 (if 0 ≤ u1370 then
 (some (S1409, 1))
 else
 (if u1370 = (-1) then
 (some (S1409, 1))
 else
 (some (S1409, 0))))
 else
 (if u1369 = (-1) then
 (if 0 ≤ u1370 then
 (some (S1409, 1))
 else
 (if u1370 = (-1) then
 (some (S1409, 1))
 else
 (some (S1409, 0))))
 else
 (some (S1409, 0))))))) (pw_F 9) S1356 u1319 u1325 u1326 u1329 u1331 z1350 z1361)) (fun _ => none))
 else
 (pw_c (np_inb 2 (pw_len u1325)) <|
 pw_l (pw_up S1332 u1325 u1326 (upd (S1332 u1325 u1326) (2 : Int32).toNatClampNeg ((S1332 u1325 u1326 (2 : Int32).toNatClampNeg) + 1))) fun S1442 =>
 pw_b (m_L_sets S1442 u1319 100 0) fun S1445 r1448 =>
 pw_b (m_X11_reverse S1445 u1319 u1330) fun S1450 r1453 =>
 pw_e r1453 (fun r1455 =>
 (pw_l (r1455 : Int32) fun z1457 =>
 pw_b (m_L_tells S1450 u1319 u1330 u1321 u1322) fun S1458 r1461 =>
 pw_b (m_L_sets S1458 u1319 u1321 u1322) fun S1463 r1466 =>
 pw_l (0 : Int32) fun z1468 =>
 m_L_upgrades_506
 (fun S1478 u1469 u1471 u1472 u1475 u1476 u1477 =>
 (pw_c (np_inb 2 (pw_len u1471)) <|
 if u1477 < 0 then
 (pw_c (np_inb 2 (pw_len u1471)) <|
 pw_l (pw_up S1478 u1471 u1472 (upd (S1478 u1471 u1472) (2 : Int32).toNatClampNeg ((S1478 u1471 u1472 (2 : Int32).toNatClampNeg) + 0))) fun S1481 =>
 pw_b (m_L_sets S1481 u1469 100 0) fun S1484 r1487 =>
 if u1475 = 0 then
 (some (S1484, 0))
 else
 (if 0 ≤ u1476 then
 (if 0 ≤ u1477 then
 (some (S1484, 1))
 else
 (if u1477 = (-1) then
 (some (S1484, 1))
 else
 (some (S1484, 0))))
 else
 (if u1476 = (-1) then
 (if 0 ≤ u1477 then
 (some (S1484, 1))
 else
 (if u1477 = (-1) then
 (some (S1484, 1))
 else
 (some (S1484, 0))))
 else
 (some (S1484, 0)))))
 else
 (pw_c (np_inb 2 (pw_len u1471)) <|
 pw_l (pw_up S1478 u1471 u1472 (upd (S1478 u1471 u1472) (2 : Int32).toNatClampNeg ((S1478 u1471 u1472 (2 : Int32).toNatClampNeg) + 1))) fun S1513 =>
 pw_b (m_L_sets S1513 u1469 100 0) fun S1516 r1519 =>
 if u1475 = 0 then
 (some (S1516, 0))
 else
 (if 0 ≤ u1476 then
 (if 0 ≤ u1477 then
 (some (S1516, 1))
 else
 (if u1477 = (-1) then
 (some (S1516, 1))
 else
 (some (S1516, 0))))
 else
 (if u1476 = (-1) then
 (if 0 ≤ u1477 then
 (some (S1516, 1))
 else
 (if u1477 = (-1) then
 (some (S1516, 1))
 else
 (some (S1516, 0))))
 else
 (some (S1516, 0))))))) (pw_F 9) S1463 u1319 u1325 u1326 u1329 u1331 z1457 z1468)) (fun _ => none)))) (pw_F 9) S1313 u1297 u1299 u1300 u1303 u1304 u1307 u1308 u1309 z1318)) (pw_F 9) S1293 u1263 u1266 u1267 u1270 u1271 u1274 z1279 z1287 z1296)) (fun _ => none))) (pw_F 9) S1259 u301 u303 u304 u305 u308 u309 z1255 z1262))) (fun _ => none))) (pw_F 9) S i0 x2 a3 i3 a4 i4 z297 z298 z299 z300)
 else
 (some (S, 1))
def sp_L_upgrades : np_Sp := fun vs w Q => ∃ (S : pw_S) (i0 : Nat) (x1 : Int32) (x2 : Int32) (a3 : Nat) (i3 : Nat) (a4 : Nat) (i4 : Nat), vs = [.ref (pw_pl 61 i0), .int x1, .int x2, .ref (pw_pl a3 i3), .ref (pw_pl a4 i4)] ∧ pw_ok 0 61 i0 = true ∧ pw_arr a3 = true ∧ pw_ok 0 a3 i3 = true ∧ pw_arr a4 = true ∧ pw_ok 0 a4 i4 = true ∧ pw_W 0 w S ∧ pw_p (m_L_upgrades S i0 x1 x2 a3 i3 a4 i4) (fun S' r => ∀ f', pw_W 0 (w.1, f') S' → Q (some (.int r)) (w.1, f'))
set_option maxRecDepth 100000 in
set_option maxHeartbeats 8000000 in
theorem C_L_upgrades : np_C yL_upgrades cL_upgrades 17 (some .boolean) 8 161 106 640 (sp_L_upgrades) := by
  refine np_ofN (by decide) ?_
  intro X vs w Q hsp hX hRt
  obtain ⟨S, i0, x1, x2, a3, i3, a4, i4, rfl, hi0, ha3, hi3, ha4, hi4, hW, h⟩ := hsp
  obtain ⟨n, f⟩ := w
  have hn : n = 65536 + 0 := hW.1
  subst hn
  unfold m_L_upgrades at h
  have hR : ∀ st w ce sl, np_rtN (some .boolean) 106 640 (65536 + 0) Q st w ce sl → X.2.2.1 st w ce sl := fun _ _ _ _ h => by rw [hRt]; exact h
  refine np_soundW (so_L_upgrades hX hR) [22, 274, 375, 414, 506] 400 0 _ _ _ _ _ ?_
  conv => whnf
  refine np_rd_i (hW.ga ha4 hi4) ?_
  conv => whnf
  refine pw_ck h (fun _ h => ?_)
  conv => whnf
  refine pw_br h (fun _ h => ?_) (fun _ h => ?_)
  · conv => whnf
    refine pw_st h (fun z297 h => ?_)
    conv => whnf
    refine pw_st h (fun z298 h => ?_)
    conv => whnf
    refine pw_st h (fun z299 h => ?_)
    conv => whnf
    refine pw_st h (fun z300 h => ?_)
    conv => whnf
    refine np_gl (L_L_upgrades_22 (dc := 97) (ds := 586) hX hR (fun S313 u301 u303 u304 u305 u308 u309 u312 f314 ce1561 sl1562 ho302 ho306 ho307 ho310 ho311 hc1563 hs1564 hW315 h => ?_) (pw_F 9) S i0 x2 a3 i3 a4 i4 z297 z298 z299 z300 f _ _ hi0 ha3 hi3 ha4 hi4 (by rw [pw_F_eq]; omega) (by rw [pw_F_eq]; omega) hW h) ⟨rfl, rfl, rfl, rfl, rfl, rfl, rfl, rfl, trivial⟩
    · refine np_soundW (so_L_upgrades hX hR) [22, 274, 375, 414, 506] 400 211 _ _ _ _ _ ?_
      conv => whnf
      refine np_rd_i (hW315.g ho302) ?_
      conv => whnf
      refine np_chk_i (pw_and rfl (pw_and rfl (pw_and rfl (pw_and rfl ((pw_and (pw_le (by omega)) (pw_le (by omega)))))))) ?_
      conv => whnf
      refine ⟨0, S313, u301, rfl, ho302, hW315, pw_bd h (fun S316 r319 h f317 hW318 => ?_)⟩
      rcases r319 with r321 | e322
      · replace h := pw_ei h
        conv => whnf
        refine np_rd_i (hW318.ga ho310 ho311) ?_
        conv => whnf
        refine pw_ck h (fun _ h => ?_)
        conv => whnf
        refine pw_br h (fun _ h => ?_) (fun _ h => ?_)
        · conv => whnf
          refine np_rd_i (hW318.ga ho310 ho311) ?_
          conv => whnf
          refine pw_ck h (fun _ h => ?_)
          conv => whnf
          refine np_rd_i (hW318.g ho302) ?_
          conv => whnf
          refine np_chk_i (pw_and rfl (pw_and rfl (pw_and rfl (pw_and rfl ((pw_and (pw_le (by omega)) (pw_le (by omega)))))))) ?_
          conv => whnf
          refine ⟨0, S316, u301, (S316 u308 u309 (2 : Int32).toNatClampNeg), rfl, ho302, hW318, pw_bd h (fun S323 r326 h f324 hW325 => ?_)⟩
          rcases r326 with r328 | e329
          · replace h := pw_ei h
            conv => whnf
            refine pw_br h (fun _ h => ?_) (fun _ h => ?_)
            · conv => whnf
              refine pw_st h (fun z330 h => ?_)
              conv => whnf
              refine np_rd_i (hW325.ga ho310 ho311) ?_
              conv => whnf
              refine pw_ck h (fun _ h => ?_)
              conv => whnf
              refine np_rd_i (hW325.ga ho310 ho311) ?_
              conv => whnf
              refine pw_ck h (fun _ h => ?_)
              conv => whnf
              refine pw_wr (a := u308) (i := u309) (d := upd (S323 u308 u309) (2 : Int32).toNatClampNeg ((S323 u308 u309 (2 : Int32).toNatClampNeg) + 1)) hW325 ho311 (pw_ent_arr ho310).symm h (fun S331 f332 hW333 h => ?_)
              conv => whnf
              refine pw_new (a := 100) (q := 0) rfl (by decide) hW333 h (fun S334 f335 hW336 h => ?_)
              conv => whnf
              refine pw_st h (fun z337 h => ?_)
              conv => whnf
              refine np_gl (L_L_upgrades_274 (dc := 84) (ds := 506) hX hR (fun S350 u338 u340 u341 u342 u345 u346 u349 f351 ce632 sl633 ho339 ho343 ho344 ho347 ho348 hc634 hs635 hW352 h => ?_) (pw_F 9) S334 u301 u303 u304 u305 u308 u309 z330 z337 f335 _ _ ho302 ho306 ho307 ho310 ho311 (by rw [pw_F_eq]; omega) (by rw [pw_F_eq]; omega) hW336 h) ⟨rfl, rfl, rfl, rfl, rfl, rfl, rfl, trivial⟩
              · refine np_soundW (so_L_upgrades hX hR) [22, 274, 375, 414, 506] 400 333 _ _ _ _ _ ?_
                conv => whnf
                refine np_rd_i (hW352.ga ho347 ho348) ?_
                conv => whnf
                refine pw_ck h (fun _ h => ?_)
                conv => whnf
                refine pw_ck h (fun _ h => ?_)
                conv => whnf
                refine pw_st h (fun z353 h => ?_)
                conv => whnf
                refine np_rd_i (hW352.ga ho347 ho348) ?_
                conv => whnf
                refine pw_ck h (fun _ h => ?_)
                conv => whnf
                refine pw_st h (fun z354 h => ?_)
                conv => whnf
                refine np_rd_i (hW352.g ho339) ?_
                conv => whnf
                refine np_chk_i (pw_and rfl (pw_and rfl (pw_and rfl (pw_and rfl ((pw_and (pw_le (by omega)) (pw_le (by omega)))))))) ?_
                conv => whnf
                refine ⟨1, S350, u338, z353, z354, rfl, ho339, hW352, pw_bd h (fun S355 r358 h f356 hW357 => ?_)⟩
                rcases r358 with r360 | e361
                · replace h := pw_ei h
                  conv => whnf
                  refine pw_st h (fun z362 h => ?_)
                  conv => whnf
                  refine np_chk_i (pw_and rfl (pw_and rfl (pw_and rfl ((pw_and (pw_le (by omega)) (pw_le (by omega))))))) ?_
                  conv => whnf
                  refine ⟨1, S355, u338, z353, u341, u342, rfl, ho339, ho343, ho344, hW357, pw_bd h (fun S363 r366 h f364 hW365 => ?_)⟩
                  conv => whnf
                  refine pw_new (a := 101) (q := 1) rfl (by decide) hW365 h (fun S368 f369 hW370 h => ?_)
                  conv => whnf
                  refine pw_st h (fun z371 h => ?_)
                  conv => whnf
                  refine np_gl (L_L_upgrades_375 (dc := 64) (ds := 384) hX hR (fun S385 u372 u374 u375 u378 u379 u382 u383 u384 f386 ce628 sl629 ho373 ho376 ho377 ho380 ho381 hc630 hs631 hW387 h => ?_) (pw_F 9) S368 u338 u341 u342 u345 u346 u349 z354 z362 z371 f369 _ _ ho339 ho343 ho344 ho347 ho348 (by rw [pw_F_eq]; omega) (by rw [pw_F_eq]; omega) hW370 h) ⟨rfl, rfl, rfl, rfl, rfl, rfl, rfl, rfl, rfl, trivial⟩
                  · refine np_soundW (so_L_upgrades hX hR) [22, 274, 375, 414, 506] 400 406 _ _ _ _ _ ?_
                    conv => whnf
                    refine np_chk_i (pw_and rfl (pw_and rfl (pw_and rfl ((pw_and (pw_le (by omega)) (pw_le (by omega))))))) ?_
                    conv => whnf
                    refine ⟨2, S385, u372, u374, u375, rfl, ho373, ho376, ho377, hW387, pw_bd h (fun S388 r391 h f389 hW390 => ?_)⟩
                    conv => whnf
                    refine pw_st h (fun z393 h => ?_)
                    conv => whnf
                    refine np_gl (L_L_upgrades_414 (dc := 46) (ds := 276) hX hR (fun S407 u394 u396 u397 u400 u401 u404 u405 u406 f408 ce624 sl625 ho395 ho398 ho399 ho402 ho403 hc626 hs627 hW409 h => ?_) (pw_F 9) S388 u372 u374 u375 u378 u379 u382 u383 u384 z393 f389 _ _ ho373 ho376 ho377 ho380 ho381 (by rw [pw_F_eq]; omega) (by rw [pw_F_eq]; omega) hW390 h) ⟨rfl, rfl, rfl, rfl, rfl, rfl, rfl, rfl, rfl, trivial⟩
                    · refine np_soundW (so_L_upgrades hX hR) [22, 274, 375, 414, 506] 400 460 _ _ _ _ _ ?_
                      conv => whnf
                      refine np_rd_i (hW409.ga ho402 ho403) ?_
                      conv => whnf
                      refine pw_ck h (fun _ h => ?_)
                      conv => whnf
                      refine pw_br h (fun _ h => ?_) (fun _ h => ?_)
                      · conv => whnf
                        refine np_rd_i (hW409.ga ho402 ho403) ?_
                        conv => whnf
                        refine pw_ck h (fun _ h => ?_)
                        conv => whnf
                        refine pw_wr (a := u400) (i := u401) (d := upd (S407 u400 u401) (2 : Int32).toNatClampNeg ((S407 u400 u401 (2 : Int32).toNatClampNeg) + 0)) hW409 ho403 (pw_ent_arr ho402).symm h (fun S410 f411 hW412 h => ?_)
                        conv => whnf
                        refine np_chk_i (pw_and rfl (pw_and rfl (pw_and rfl ((pw_and (pw_le (by omega)) (pw_le (by omega))))))) ?_
                        conv => whnf
                        refine ⟨2, S410, u394, 100, 0, rfl, ho395, rfl, rfl, hW412, pw_bd h (fun S413 r416 h f414 hW415 => ?_)⟩
                        conv => whnf
                        refine np_rd_i (hW415.g ho395) ?_
                        conv => whnf
                        refine np_chk_i (pw_and rfl (pw_and rfl (pw_and rfl (pw_and rfl ((pw_and (pw_le (by omega)) (pw_le (by omega)))))))) ?_
                        conv => whnf
                        refine ⟨2, S413, u394, u405, rfl, ho395, hW415, pw_bd h (fun S418 r421 h f419 hW420 => ?_)⟩
                        rcases r421 with r423 | e424
                        · replace h := pw_ei h
                          conv => whnf
                          refine pw_st h (fun z425 h => ?_)
                          conv => whnf
                          refine np_chk_i (pw_and rfl (pw_and rfl (pw_and rfl ((pw_and (pw_le (by omega)) (pw_le (by omega))))))) ?_
                          conv => whnf
                          refine ⟨2, S418, u394, u405, u396, u397, rfl, ho395, ho398, ho399, hW420, pw_bd h (fun S426 r429 h f427 hW428 => ?_)⟩
                          conv => whnf
                          refine np_chk_i (pw_and rfl (pw_and rfl (pw_and rfl ((pw_and (pw_le (by omega)) (pw_le (by omega))))))) ?_
                          conv => whnf
                          refine ⟨2, S426, u394, u396, u397, rfl, ho395, ho398, ho399, hW428, pw_bd h (fun S431 r434 h f432 hW433 => ?_)⟩
                          conv => whnf
                          refine pw_st h (fun z436 h => ?_)
                          conv => whnf
                          refine np_gl (L_L_upgrades_506 (dc := 9) (ds := 54) hX hR (fun S446 u437 u439 u440 u443 u444 u445 f447 ce513 sl514 ho438 ho441 ho442 hc515 hs516 hW448 h => ?_) (pw_F 9) S431 u394 u400 u401 u404 u406 z425 z436 f432 _ _ ho395 ho402 ho403 (by rw [pw_F_eq]; omega) (by rw [pw_F_eq]; omega) hW433 h) ⟨rfl, rfl, rfl, rfl, rfl, rfl, rfl, trivial⟩
                          · refine np_soundW (so_L_upgrades hX hR) [22, 274, 375, 414, 506] 400 563 _ _ _ _ _ ?_
                            conv => whnf
                            refine np_rd_i (hW448.ga ho441 ho442) ?_
                            conv => whnf
                            refine pw_ck h (fun _ h => ?_)
                            conv => whnf
                            refine pw_br h (fun _ h => ?_) (fun _ h => ?_)
                            · conv => whnf
                              refine np_rd_i (hW448.ga ho441 ho442) ?_
                              conv => whnf
                              refine pw_ck h (fun _ h => ?_)
                              conv => whnf
                              refine pw_wr (a := u439) (i := u440) (d := upd (S446 u439 u440) (2 : Int32).toNatClampNeg ((S446 u439 u440 (2 : Int32).toNatClampNeg) + 0)) hW448 ho442 (pw_ent_arr ho441).symm h (fun S449 f450 hW451 h => ?_)
                              conv => whnf
                              refine np_chk_i (pw_and rfl (pw_and rfl (pw_and rfl ((pw_and (pw_le (by omega)) (pw_le (by omega))))))) ?_
                              conv => whnf
                              refine ⟨2, S449, u437, 100, 0, rfl, ho438, rfl, rfl, hW451, pw_bd h (fun S452 r455 h f453 hW454 => ?_)⟩
                              conv => whnf
                              refine pw_br h (fun _ h => ?_) (fun _ h => ?_)
                              · conv => whnf
                                obtain ⟨f457, hW458, hf459⟩ := pw_reset hW454 (q := 0) (Nat.zero_le _)
                                exact ⟨(by omega), (by omega), ⟨_, rfl, by decide⟩, pw_cvi _, f457, hf459, pw_ps h _ hW458⟩
                              · conv => whnf
                                refine pw_br h (fun _ h => ?_) (fun _ h => ?_)
                                · conv => whnf
                                  refine pw_br h (fun _ h => ?_) (fun _ h => ?_)
                                  · conv => whnf
                                    obtain ⟨f460, hW461, hf462⟩ := pw_reset hW454 (q := 0) (Nat.zero_le _)
                                    exact ⟨(by omega), (by omega), ⟨_, rfl, by decide⟩, pw_cvi _, f460, hf462, pw_ps h _ hW461⟩
                                  · conv => whnf
                                    refine pw_br h (fun _ h => ?_) (fun _ h => ?_)
                                    · conv => whnf
                                      obtain ⟨f463, hW464, hf465⟩ := pw_reset hW454 (q := 0) (Nat.zero_le _)
                                      exact ⟨(by omega), (by omega), ⟨_, rfl, by decide⟩, pw_cvi _, f463, hf465, pw_ps h _ hW464⟩
                                    · conv => whnf
                                      obtain ⟨f466, hW467, hf468⟩ := pw_reset hW454 (q := 0) (Nat.zero_le _)
                                      exact ⟨(by omega), (by omega), ⟨_, rfl, by decide⟩, pw_cvi _, f466, hf468, pw_ps h _ hW467⟩
                                · conv => whnf
                                  refine pw_br h (fun _ h => ?_) (fun _ h => ?_)
                                  · conv => whnf
                                    refine pw_br h (fun _ h => ?_) (fun _ h => ?_)
                                    · conv => whnf
                                      obtain ⟨f469, hW470, hf471⟩ := pw_reset hW454 (q := 0) (Nat.zero_le _)
                                      exact ⟨(by omega), (by omega), ⟨_, rfl, by decide⟩, pw_cvi _, f469, hf471, pw_ps h _ hW470⟩
                                    · conv => whnf
                                      refine pw_br h (fun _ h => ?_) (fun _ h => ?_)
                                      · conv => whnf
                                        obtain ⟨f472, hW473, hf474⟩ := pw_reset hW454 (q := 0) (Nat.zero_le _)
                                        exact ⟨(by omega), (by omega), ⟨_, rfl, by decide⟩, pw_cvi _, f472, hf474, pw_ps h _ hW473⟩
                                      · conv => whnf
                                        obtain ⟨f475, hW476, hf477⟩ := pw_reset hW454 (q := 0) (Nat.zero_le _)
                                        exact ⟨(by omega), (by omega), ⟨_, rfl, by decide⟩, pw_cvi _, f475, hf477, pw_ps h _ hW476⟩
                                  · conv => whnf
                                    obtain ⟨f478, hW479, hf480⟩ := pw_reset hW454 (q := 0) (Nat.zero_le _)
                                    exact ⟨(by omega), (by omega), ⟨_, rfl, by decide⟩, pw_cvi _, f478, hf480, pw_ps h _ hW479⟩
                            · conv => whnf
                              refine np_rd_i (hW448.ga ho441 ho442) ?_
                              conv => whnf
                              refine pw_ck h (fun _ h => ?_)
                              conv => whnf
                              refine pw_wr (a := u439) (i := u440) (d := upd (S446 u439 u440) (2 : Int32).toNatClampNeg ((S446 u439 u440 (2 : Int32).toNatClampNeg) + 1)) hW448 ho442 (pw_ent_arr ho441).symm h (fun S481 f482 hW483 h => ?_)
                              conv => whnf
                              refine np_chk_i (pw_and rfl (pw_and rfl (pw_and rfl ((pw_and (pw_le (by omega)) (pw_le (by omega))))))) ?_
                              conv => whnf
                              refine ⟨2, S481, u437, 100, 0, rfl, ho438, rfl, rfl, hW483, pw_bd h (fun S484 r487 h f485 hW486 => ?_)⟩
                              conv => whnf
                              refine pw_br h (fun _ h => ?_) (fun _ h => ?_)
                              · conv => whnf
                                obtain ⟨f489, hW490, hf491⟩ := pw_reset hW486 (q := 0) (Nat.zero_le _)
                                exact ⟨(by omega), (by omega), ⟨_, rfl, by decide⟩, pw_cvi _, f489, hf491, pw_ps h _ hW490⟩
                              · conv => whnf
                                refine pw_br h (fun _ h => ?_) (fun _ h => ?_)
                                · conv => whnf
                                  refine pw_br h (fun _ h => ?_) (fun _ h => ?_)
                                  · conv => whnf
                                    obtain ⟨f492, hW493, hf494⟩ := pw_reset hW486 (q := 0) (Nat.zero_le _)
                                    exact ⟨(by omega), (by omega), ⟨_, rfl, by decide⟩, pw_cvi _, f492, hf494, pw_ps h _ hW493⟩
                                  · conv => whnf
                                    refine pw_br h (fun _ h => ?_) (fun _ h => ?_)
                                    · conv => whnf
                                      obtain ⟨f495, hW496, hf497⟩ := pw_reset hW486 (q := 0) (Nat.zero_le _)
                                      exact ⟨(by omega), (by omega), ⟨_, rfl, by decide⟩, pw_cvi _, f495, hf497, pw_ps h _ hW496⟩
                                    · conv => whnf
                                      obtain ⟨f498, hW499, hf500⟩ := pw_reset hW486 (q := 0) (Nat.zero_le _)
                                      exact ⟨(by omega), (by omega), ⟨_, rfl, by decide⟩, pw_cvi _, f498, hf500, pw_ps h _ hW499⟩
                                · conv => whnf
                                  refine pw_br h (fun _ h => ?_) (fun _ h => ?_)
                                  · conv => whnf
                                    refine pw_br h (fun _ h => ?_) (fun _ h => ?_)
                                    · conv => whnf
                                      obtain ⟨f501, hW502, hf503⟩ := pw_reset hW486 (q := 0) (Nat.zero_le _)
                                      exact ⟨(by omega), (by omega), ⟨_, rfl, by decide⟩, pw_cvi _, f501, hf503, pw_ps h _ hW502⟩
                                    · conv => whnf
                                      refine pw_br h (fun _ h => ?_) (fun _ h => ?_)
                                      · conv => whnf
                                        obtain ⟨f504, hW505, hf506⟩ := pw_reset hW486 (q := 0) (Nat.zero_le _)
                                        exact ⟨(by omega), (by omega), ⟨_, rfl, by decide⟩, pw_cvi _, f504, hf506, pw_ps h _ hW505⟩
                                      · conv => whnf
                                        obtain ⟨f507, hW508, hf509⟩ := pw_reset hW486 (q := 0) (Nat.zero_le _)
                                        exact ⟨(by omega), (by omega), ⟨_, rfl, by decide⟩, pw_cvi _, f507, hf509, pw_ps h _ hW508⟩
                                  · conv => whnf
                                    obtain ⟨f510, hW511, hf512⟩ := pw_reset hW486 (q := 0) (Nat.zero_le _)
                                    exact ⟨(by omega), (by omega), ⟨_, rfl, by decide⟩, pw_cvi _, f510, hf512, pw_ps h _ hW511⟩
                        · exact (pw_pn h).elim
                      · conv => whnf
                        refine np_rd_i (hW409.ga ho402 ho403) ?_
                        conv => whnf
                        refine pw_ck h (fun _ h => ?_)
                        conv => whnf
                        refine pw_wr (a := u400) (i := u401) (d := upd (S407 u400 u401) (2 : Int32).toNatClampNeg ((S407 u400 u401 (2 : Int32).toNatClampNeg) + 1)) hW409 ho403 (pw_ent_arr ho402).symm h (fun S517 f518 hW519 h => ?_)
                        conv => whnf
                        refine np_chk_i (pw_and rfl (pw_and rfl (pw_and rfl ((pw_and (pw_le (by omega)) (pw_le (by omega))))))) ?_
                        conv => whnf
                        refine ⟨2, S517, u394, 100, 0, rfl, ho395, rfl, rfl, hW519, pw_bd h (fun S520 r523 h f521 hW522 => ?_)⟩
                        conv => whnf
                        refine np_rd_i (hW522.g ho395) ?_
                        conv => whnf
                        refine np_chk_i (pw_and rfl (pw_and rfl (pw_and rfl (pw_and rfl ((pw_and (pw_le (by omega)) (pw_le (by omega)))))))) ?_
                        conv => whnf
                        refine ⟨2, S520, u394, u405, rfl, ho395, hW522, pw_bd h (fun S525 r528 h f526 hW527 => ?_)⟩
                        rcases r528 with r530 | e531
                        · replace h := pw_ei h
                          conv => whnf
                          refine pw_st h (fun z532 h => ?_)
                          conv => whnf
                          refine np_chk_i (pw_and rfl (pw_and rfl (pw_and rfl ((pw_and (pw_le (by omega)) (pw_le (by omega))))))) ?_
                          conv => whnf
                          refine ⟨2, S525, u394, u405, u396, u397, rfl, ho395, ho398, ho399, hW527, pw_bd h (fun S533 r536 h f534 hW535 => ?_)⟩
                          conv => whnf
                          refine np_chk_i (pw_and rfl (pw_and rfl (pw_and rfl ((pw_and (pw_le (by omega)) (pw_le (by omega))))))) ?_
                          conv => whnf
                          refine ⟨2, S533, u394, u396, u397, rfl, ho395, ho398, ho399, hW535, pw_bd h (fun S538 r541 h f539 hW540 => ?_)⟩
                          conv => whnf
                          refine pw_st h (fun z543 h => ?_)
                          conv => whnf
                          refine np_gl (L_L_upgrades_506 (dc := 9) (ds := 54) hX hR (fun S553 u544 u546 u547 u550 u551 u552 f554 ce620 sl621 ho545 ho548 ho549 hc622 hs623 hW555 h => ?_) (pw_F 9) S538 u394 u400 u401 u404 u406 z532 z543 f539 _ _ ho395 ho402 ho403 (by rw [pw_F_eq]; omega) (by rw [pw_F_eq]; omega) hW540 h) ⟨rfl, rfl, rfl, rfl, rfl, rfl, rfl, trivial⟩
                          · refine np_soundW (so_L_upgrades hX hR) [22, 274, 375, 414, 506] 400 563 _ _ _ _ _ ?_
                            conv => whnf
                            refine np_rd_i (hW555.ga ho548 ho549) ?_
                            conv => whnf
                            refine pw_ck h (fun _ h => ?_)
                            conv => whnf
                            refine pw_br h (fun _ h => ?_) (fun _ h => ?_)
                            · conv => whnf
                              refine np_rd_i (hW555.ga ho548 ho549) ?_
                              conv => whnf
                              refine pw_ck h (fun _ h => ?_)
                              conv => whnf
                              refine pw_wr (a := u546) (i := u547) (d := upd (S553 u546 u547) (2 : Int32).toNatClampNeg ((S553 u546 u547 (2 : Int32).toNatClampNeg) + 0)) hW555 ho549 (pw_ent_arr ho548).symm h (fun S556 f557 hW558 h => ?_)
                              conv => whnf
                              refine np_chk_i (pw_and rfl (pw_and rfl (pw_and rfl ((pw_and (pw_le (by omega)) (pw_le (by omega))))))) ?_
                              conv => whnf
                              refine ⟨2, S556, u544, 100, 0, rfl, ho545, rfl, rfl, hW558, pw_bd h (fun S559 r562 h f560 hW561 => ?_)⟩
                              conv => whnf
                              refine pw_br h (fun _ h => ?_) (fun _ h => ?_)
                              · conv => whnf
                                obtain ⟨f564, hW565, hf566⟩ := pw_reset hW561 (q := 0) (Nat.zero_le _)
                                exact ⟨(by omega), (by omega), ⟨_, rfl, by decide⟩, pw_cvi _, f564, hf566, pw_ps h _ hW565⟩
                              · conv => whnf
                                refine pw_br h (fun _ h => ?_) (fun _ h => ?_)
                                · conv => whnf
                                  refine pw_br h (fun _ h => ?_) (fun _ h => ?_)
                                  · conv => whnf
                                    obtain ⟨f567, hW568, hf569⟩ := pw_reset hW561 (q := 0) (Nat.zero_le _)
                                    exact ⟨(by omega), (by omega), ⟨_, rfl, by decide⟩, pw_cvi _, f567, hf569, pw_ps h _ hW568⟩
                                  · conv => whnf
                                    refine pw_br h (fun _ h => ?_) (fun _ h => ?_)
                                    · conv => whnf
                                      obtain ⟨f570, hW571, hf572⟩ := pw_reset hW561 (q := 0) (Nat.zero_le _)
                                      exact ⟨(by omega), (by omega), ⟨_, rfl, by decide⟩, pw_cvi _, f570, hf572, pw_ps h _ hW571⟩
                                    · conv => whnf
                                      obtain ⟨f573, hW574, hf575⟩ := pw_reset hW561 (q := 0) (Nat.zero_le _)
                                      exact ⟨(by omega), (by omega), ⟨_, rfl, by decide⟩, pw_cvi _, f573, hf575, pw_ps h _ hW574⟩
                                · conv => whnf
                                  refine pw_br h (fun _ h => ?_) (fun _ h => ?_)
                                  · conv => whnf
                                    refine pw_br h (fun _ h => ?_) (fun _ h => ?_)
                                    · conv => whnf
                                      obtain ⟨f576, hW577, hf578⟩ := pw_reset hW561 (q := 0) (Nat.zero_le _)
                                      exact ⟨(by omega), (by omega), ⟨_, rfl, by decide⟩, pw_cvi _, f576, hf578, pw_ps h _ hW577⟩
                                    · conv => whnf
                                      refine pw_br h (fun _ h => ?_) (fun _ h => ?_)
                                      · conv => whnf
                                        obtain ⟨f579, hW580, hf581⟩ := pw_reset hW561 (q := 0) (Nat.zero_le _)
                                        exact ⟨(by omega), (by omega), ⟨_, rfl, by decide⟩, pw_cvi _, f579, hf581, pw_ps h _ hW580⟩
                                      · conv => whnf
                                        obtain ⟨f582, hW583, hf584⟩ := pw_reset hW561 (q := 0) (Nat.zero_le _)
                                        exact ⟨(by omega), (by omega), ⟨_, rfl, by decide⟩, pw_cvi _, f582, hf584, pw_ps h _ hW583⟩
                                  · conv => whnf
                                    obtain ⟨f585, hW586, hf587⟩ := pw_reset hW561 (q := 0) (Nat.zero_le _)
                                    exact ⟨(by omega), (by omega), ⟨_, rfl, by decide⟩, pw_cvi _, f585, hf587, pw_ps h _ hW586⟩
                            · conv => whnf
                              refine np_rd_i (hW555.ga ho548 ho549) ?_
                              conv => whnf
                              refine pw_ck h (fun _ h => ?_)
                              conv => whnf
                              refine pw_wr (a := u546) (i := u547) (d := upd (S553 u546 u547) (2 : Int32).toNatClampNeg ((S553 u546 u547 (2 : Int32).toNatClampNeg) + 1)) hW555 ho549 (pw_ent_arr ho548).symm h (fun S588 f589 hW590 h => ?_)
                              conv => whnf
                              refine np_chk_i (pw_and rfl (pw_and rfl (pw_and rfl ((pw_and (pw_le (by omega)) (pw_le (by omega))))))) ?_
                              conv => whnf
                              refine ⟨2, S588, u544, 100, 0, rfl, ho545, rfl, rfl, hW590, pw_bd h (fun S591 r594 h f592 hW593 => ?_)⟩
                              conv => whnf
                              refine pw_br h (fun _ h => ?_) (fun _ h => ?_)
                              · conv => whnf
                                obtain ⟨f596, hW597, hf598⟩ := pw_reset hW593 (q := 0) (Nat.zero_le _)
                                exact ⟨(by omega), (by omega), ⟨_, rfl, by decide⟩, pw_cvi _, f596, hf598, pw_ps h _ hW597⟩
                              · conv => whnf
                                refine pw_br h (fun _ h => ?_) (fun _ h => ?_)
                                · conv => whnf
                                  refine pw_br h (fun _ h => ?_) (fun _ h => ?_)
                                  · conv => whnf
                                    obtain ⟨f599, hW600, hf601⟩ := pw_reset hW593 (q := 0) (Nat.zero_le _)
                                    exact ⟨(by omega), (by omega), ⟨_, rfl, by decide⟩, pw_cvi _, f599, hf601, pw_ps h _ hW600⟩
                                  · conv => whnf
                                    refine pw_br h (fun _ h => ?_) (fun _ h => ?_)
                                    · conv => whnf
                                      obtain ⟨f602, hW603, hf604⟩ := pw_reset hW593 (q := 0) (Nat.zero_le _)
                                      exact ⟨(by omega), (by omega), ⟨_, rfl, by decide⟩, pw_cvi _, f602, hf604, pw_ps h _ hW603⟩
                                    · conv => whnf
                                      obtain ⟨f605, hW606, hf607⟩ := pw_reset hW593 (q := 0) (Nat.zero_le _)
                                      exact ⟨(by omega), (by omega), ⟨_, rfl, by decide⟩, pw_cvi _, f605, hf607, pw_ps h _ hW606⟩
                                · conv => whnf
                                  refine pw_br h (fun _ h => ?_) (fun _ h => ?_)
                                  · conv => whnf
                                    refine pw_br h (fun _ h => ?_) (fun _ h => ?_)
                                    · conv => whnf
                                      obtain ⟨f608, hW609, hf610⟩ := pw_reset hW593 (q := 0) (Nat.zero_le _)
                                      exact ⟨(by omega), (by omega), ⟨_, rfl, by decide⟩, pw_cvi _, f608, hf610, pw_ps h _ hW609⟩
                                    · conv => whnf
                                      refine pw_br h (fun _ h => ?_) (fun _ h => ?_)
                                      · conv => whnf
                                        obtain ⟨f611, hW612, hf613⟩ := pw_reset hW593 (q := 0) (Nat.zero_le _)
                                        exact ⟨(by omega), (by omega), ⟨_, rfl, by decide⟩, pw_cvi _, f611, hf613, pw_ps h _ hW612⟩
                                      · conv => whnf
                                        obtain ⟨f614, hW615, hf616⟩ := pw_reset hW593 (q := 0) (Nat.zero_le _)
                                        exact ⟨(by omega), (by omega), ⟨_, rfl, by decide⟩, pw_cvi _, f614, hf616, pw_ps h _ hW615⟩
                                  · conv => whnf
                                    obtain ⟨f617, hW618, hf619⟩ := pw_reset hW593 (q := 0) (Nat.zero_le _)
                                    exact ⟨(by omega), (by omega), ⟨_, rfl, by decide⟩, pw_cvi _, f617, hf619, pw_ps h _ hW618⟩
                        · exact (pw_pn h).elim
                · exact (pw_pn h).elim
            · conv => whnf
              refine np_rd_i (hW325.ga ho310 ho311) ?_
              conv => whnf
              refine pw_ck h (fun _ h => ?_)
              conv => whnf
              refine np_rd_i (hW325.g ho302) ?_
              conv => whnf
              refine np_chk_i (pw_and rfl (pw_and rfl (pw_and rfl (pw_and rfl ((pw_and (pw_le (by omega)) (pw_le (by omega)))))))) ?_
              conv => whnf
              refine ⟨0, S323, u301, (S323 u308 u309 (2 : Int32).toNatClampNeg), rfl, ho302, hW325, pw_bd h (fun S636 r639 h f637 hW638 => ?_)⟩
              rcases r639 with r641 | e642
              · replace h := pw_ei h
                conv => whnf
                refine pw_br h (fun _ h => ?_) (fun _ h => ?_)
                · conv => whnf
                  refine pw_st h (fun z643 h => ?_)
                  conv => whnf
                  refine np_rd_i (hW638.ga ho310 ho311) ?_
                  conv => whnf
                  refine pw_ck h (fun _ h => ?_)
                  conv => whnf
                  refine np_rd_i (hW638.ga ho310 ho311) ?_
                  conv => whnf
                  refine pw_ck h (fun _ h => ?_)
                  conv => whnf
                  refine pw_wr (a := u308) (i := u309) (d := upd (S636 u308 u309) (2 : Int32).toNatClampNeg ((S636 u308 u309 (2 : Int32).toNatClampNeg) + 1)) hW638 ho311 (pw_ent_arr ho310).symm h (fun S644 f645 hW646 h => ?_)
                  conv => whnf
                  refine pw_new (a := 100) (q := 0) rfl (by decide) hW646 h (fun S647 f648 hW649 h => ?_)
                  conv => whnf
                  refine pw_st h (fun z650 h => ?_)
                  conv => whnf
                  refine np_gl (L_L_upgrades_274 (dc := 84) (ds := 506) hX hR (fun S663 u651 u653 u654 u655 u658 u659 u662 f664 ce945 sl946 ho652 ho656 ho657 ho660 ho661 hc947 hs948 hW665 h => ?_) (pw_F 9) S647 u301 u303 u304 u305 u308 u309 z643 z650 f648 _ _ ho302 ho306 ho307 ho310 ho311 (by rw [pw_F_eq]; omega) (by rw [pw_F_eq]; omega) hW649 h) ⟨rfl, rfl, rfl, rfl, rfl, rfl, rfl, trivial⟩
                  · refine np_soundW (so_L_upgrades hX hR) [22, 274, 375, 414, 506] 400 333 _ _ _ _ _ ?_
                    conv => whnf
                    refine np_rd_i (hW665.ga ho660 ho661) ?_
                    conv => whnf
                    refine pw_ck h (fun _ h => ?_)
                    conv => whnf
                    refine pw_ck h (fun _ h => ?_)
                    conv => whnf
                    refine pw_st h (fun z666 h => ?_)
                    conv => whnf
                    refine np_rd_i (hW665.ga ho660 ho661) ?_
                    conv => whnf
                    refine pw_ck h (fun _ h => ?_)
                    conv => whnf
                    refine pw_st h (fun z667 h => ?_)
                    conv => whnf
                    refine np_rd_i (hW665.g ho652) ?_
                    conv => whnf
                    refine np_chk_i (pw_and rfl (pw_and rfl (pw_and rfl (pw_and rfl ((pw_and (pw_le (by omega)) (pw_le (by omega)))))))) ?_
                    conv => whnf
                    refine ⟨1, S663, u651, z666, z667, rfl, ho652, hW665, pw_bd h (fun S668 r671 h f669 hW670 => ?_)⟩
                    rcases r671 with r673 | e674
                    · replace h := pw_ei h
                      conv => whnf
                      refine pw_st h (fun z675 h => ?_)
                      conv => whnf
                      refine np_chk_i (pw_and rfl (pw_and rfl (pw_and rfl ((pw_and (pw_le (by omega)) (pw_le (by omega))))))) ?_
                      conv => whnf
                      refine ⟨1, S668, u651, z666, u654, u655, rfl, ho652, ho656, ho657, hW670, pw_bd h (fun S676 r679 h f677 hW678 => ?_)⟩
                      conv => whnf
                      refine pw_new (a := 101) (q := 1) rfl (by decide) hW678 h (fun S681 f682 hW683 h => ?_)
                      conv => whnf
                      refine pw_st h (fun z684 h => ?_)
                      conv => whnf
                      refine np_gl (L_L_upgrades_375 (dc := 64) (ds := 384) hX hR (fun S698 u685 u687 u688 u691 u692 u695 u696 u697 f699 ce941 sl942 ho686 ho689 ho690 ho693 ho694 hc943 hs944 hW700 h => ?_) (pw_F 9) S681 u651 u654 u655 u658 u659 u662 z667 z675 z684 f682 _ _ ho652 ho656 ho657 ho660 ho661 (by rw [pw_F_eq]; omega) (by rw [pw_F_eq]; omega) hW683 h) ⟨rfl, rfl, rfl, rfl, rfl, rfl, rfl, rfl, rfl, trivial⟩
                      · refine np_soundW (so_L_upgrades hX hR) [22, 274, 375, 414, 506] 400 406 _ _ _ _ _ ?_
                        conv => whnf
                        refine np_chk_i (pw_and rfl (pw_and rfl (pw_and rfl ((pw_and (pw_le (by omega)) (pw_le (by omega))))))) ?_
                        conv => whnf
                        refine ⟨2, S698, u685, u687, u688, rfl, ho686, ho689, ho690, hW700, pw_bd h (fun S701 r704 h f702 hW703 => ?_)⟩
                        conv => whnf
                        refine pw_st h (fun z706 h => ?_)
                        conv => whnf
                        refine np_gl (L_L_upgrades_414 (dc := 46) (ds := 276) hX hR (fun S720 u707 u709 u710 u713 u714 u717 u718 u719 f721 ce937 sl938 ho708 ho711 ho712 ho715 ho716 hc939 hs940 hW722 h => ?_) (pw_F 9) S701 u685 u687 u688 u691 u692 u695 u696 u697 z706 f702 _ _ ho686 ho689 ho690 ho693 ho694 (by rw [pw_F_eq]; omega) (by rw [pw_F_eq]; omega) hW703 h) ⟨rfl, rfl, rfl, rfl, rfl, rfl, rfl, rfl, rfl, trivial⟩
                        · refine np_soundW (so_L_upgrades hX hR) [22, 274, 375, 414, 506] 400 460 _ _ _ _ _ ?_
                          conv => whnf
                          refine np_rd_i (hW722.ga ho715 ho716) ?_
                          conv => whnf
                          refine pw_ck h (fun _ h => ?_)
                          conv => whnf
                          refine pw_br h (fun _ h => ?_) (fun _ h => ?_)
                          · conv => whnf
                            refine np_rd_i (hW722.ga ho715 ho716) ?_
                            conv => whnf
                            refine pw_ck h (fun _ h => ?_)
                            conv => whnf
                            refine pw_wr (a := u713) (i := u714) (d := upd (S720 u713 u714) (2 : Int32).toNatClampNeg ((S720 u713 u714 (2 : Int32).toNatClampNeg) + 0)) hW722 ho716 (pw_ent_arr ho715).symm h (fun S723 f724 hW725 h => ?_)
                            conv => whnf
                            refine np_chk_i (pw_and rfl (pw_and rfl (pw_and rfl ((pw_and (pw_le (by omega)) (pw_le (by omega))))))) ?_
                            conv => whnf
                            refine ⟨2, S723, u707, 100, 0, rfl, ho708, rfl, rfl, hW725, pw_bd h (fun S726 r729 h f727 hW728 => ?_)⟩
                            conv => whnf
                            refine np_rd_i (hW728.g ho708) ?_
                            conv => whnf
                            refine np_chk_i (pw_and rfl (pw_and rfl (pw_and rfl (pw_and rfl ((pw_and (pw_le (by omega)) (pw_le (by omega)))))))) ?_
                            conv => whnf
                            refine ⟨2, S726, u707, u718, rfl, ho708, hW728, pw_bd h (fun S731 r734 h f732 hW733 => ?_)⟩
                            rcases r734 with r736 | e737
                            · replace h := pw_ei h
                              conv => whnf
                              refine pw_st h (fun z738 h => ?_)
                              conv => whnf
                              refine np_chk_i (pw_and rfl (pw_and rfl (pw_and rfl ((pw_and (pw_le (by omega)) (pw_le (by omega))))))) ?_
                              conv => whnf
                              refine ⟨2, S731, u707, u718, u709, u710, rfl, ho708, ho711, ho712, hW733, pw_bd h (fun S739 r742 h f740 hW741 => ?_)⟩
                              conv => whnf
                              refine np_chk_i (pw_and rfl (pw_and rfl (pw_and rfl ((pw_and (pw_le (by omega)) (pw_le (by omega))))))) ?_
                              conv => whnf
                              refine ⟨2, S739, u707, u709, u710, rfl, ho708, ho711, ho712, hW741, pw_bd h (fun S744 r747 h f745 hW746 => ?_)⟩
                              conv => whnf
                              refine pw_st h (fun z749 h => ?_)
                              conv => whnf
                              refine np_gl (L_L_upgrades_506 (dc := 9) (ds := 54) hX hR (fun S759 u750 u752 u753 u756 u757 u758 f760 ce826 sl827 ho751 ho754 ho755 hc828 hs829 hW761 h => ?_) (pw_F 9) S744 u707 u713 u714 u717 u719 z738 z749 f745 _ _ ho708 ho715 ho716 (by rw [pw_F_eq]; omega) (by rw [pw_F_eq]; omega) hW746 h) ⟨rfl, rfl, rfl, rfl, rfl, rfl, rfl, trivial⟩
                              · refine np_soundW (so_L_upgrades hX hR) [22, 274, 375, 414, 506] 400 563 _ _ _ _ _ ?_
                                conv => whnf
                                refine np_rd_i (hW761.ga ho754 ho755) ?_
                                conv => whnf
                                refine pw_ck h (fun _ h => ?_)
                                conv => whnf
                                refine pw_br h (fun _ h => ?_) (fun _ h => ?_)
                                · conv => whnf
                                  refine np_rd_i (hW761.ga ho754 ho755) ?_
                                  conv => whnf
                                  refine pw_ck h (fun _ h => ?_)
                                  conv => whnf
                                  refine pw_wr (a := u752) (i := u753) (d := upd (S759 u752 u753) (2 : Int32).toNatClampNeg ((S759 u752 u753 (2 : Int32).toNatClampNeg) + 0)) hW761 ho755 (pw_ent_arr ho754).symm h (fun S762 f763 hW764 h => ?_)
                                  conv => whnf
                                  refine np_chk_i (pw_and rfl (pw_and rfl (pw_and rfl ((pw_and (pw_le (by omega)) (pw_le (by omega))))))) ?_
                                  conv => whnf
                                  refine ⟨2, S762, u750, 100, 0, rfl, ho751, rfl, rfl, hW764, pw_bd h (fun S765 r768 h f766 hW767 => ?_)⟩
                                  conv => whnf
                                  refine pw_br h (fun _ h => ?_) (fun _ h => ?_)
                                  · conv => whnf
                                    obtain ⟨f770, hW771, hf772⟩ := pw_reset hW767 (q := 0) (Nat.zero_le _)
                                    exact ⟨(by omega), (by omega), ⟨_, rfl, by decide⟩, pw_cvi _, f770, hf772, pw_ps h _ hW771⟩
                                  · conv => whnf
                                    refine pw_br h (fun _ h => ?_) (fun _ h => ?_)
                                    · conv => whnf
                                      refine pw_br h (fun _ h => ?_) (fun _ h => ?_)
                                      · conv => whnf
                                        obtain ⟨f773, hW774, hf775⟩ := pw_reset hW767 (q := 0) (Nat.zero_le _)
                                        exact ⟨(by omega), (by omega), ⟨_, rfl, by decide⟩, pw_cvi _, f773, hf775, pw_ps h _ hW774⟩
                                      · conv => whnf
                                        refine pw_br h (fun _ h => ?_) (fun _ h => ?_)
                                        · conv => whnf
                                          obtain ⟨f776, hW777, hf778⟩ := pw_reset hW767 (q := 0) (Nat.zero_le _)
                                          exact ⟨(by omega), (by omega), ⟨_, rfl, by decide⟩, pw_cvi _, f776, hf778, pw_ps h _ hW777⟩
                                        · conv => whnf
                                          obtain ⟨f779, hW780, hf781⟩ := pw_reset hW767 (q := 0) (Nat.zero_le _)
                                          exact ⟨(by omega), (by omega), ⟨_, rfl, by decide⟩, pw_cvi _, f779, hf781, pw_ps h _ hW780⟩
                                    · conv => whnf
                                      refine pw_br h (fun _ h => ?_) (fun _ h => ?_)
                                      · conv => whnf
                                        refine pw_br h (fun _ h => ?_) (fun _ h => ?_)
                                        · conv => whnf
                                          obtain ⟨f782, hW783, hf784⟩ := pw_reset hW767 (q := 0) (Nat.zero_le _)
                                          exact ⟨(by omega), (by omega), ⟨_, rfl, by decide⟩, pw_cvi _, f782, hf784, pw_ps h _ hW783⟩
                                        · conv => whnf
                                          refine pw_br h (fun _ h => ?_) (fun _ h => ?_)
                                          · conv => whnf
                                            obtain ⟨f785, hW786, hf787⟩ := pw_reset hW767 (q := 0) (Nat.zero_le _)
                                            exact ⟨(by omega), (by omega), ⟨_, rfl, by decide⟩, pw_cvi _, f785, hf787, pw_ps h _ hW786⟩
                                          · conv => whnf
                                            obtain ⟨f788, hW789, hf790⟩ := pw_reset hW767 (q := 0) (Nat.zero_le _)
                                            exact ⟨(by omega), (by omega), ⟨_, rfl, by decide⟩, pw_cvi _, f788, hf790, pw_ps h _ hW789⟩
                                      · conv => whnf
                                        obtain ⟨f791, hW792, hf793⟩ := pw_reset hW767 (q := 0) (Nat.zero_le _)
                                        exact ⟨(by omega), (by omega), ⟨_, rfl, by decide⟩, pw_cvi _, f791, hf793, pw_ps h _ hW792⟩
                                · conv => whnf
                                  refine np_rd_i (hW761.ga ho754 ho755) ?_
                                  conv => whnf
                                  refine pw_ck h (fun _ h => ?_)
                                  conv => whnf
                                  refine pw_wr (a := u752) (i := u753) (d := upd (S759 u752 u753) (2 : Int32).toNatClampNeg ((S759 u752 u753 (2 : Int32).toNatClampNeg) + 1)) hW761 ho755 (pw_ent_arr ho754).symm h (fun S794 f795 hW796 h => ?_)
                                  conv => whnf
                                  refine np_chk_i (pw_and rfl (pw_and rfl (pw_and rfl ((pw_and (pw_le (by omega)) (pw_le (by omega))))))) ?_
                                  conv => whnf
                                  refine ⟨2, S794, u750, 100, 0, rfl, ho751, rfl, rfl, hW796, pw_bd h (fun S797 r800 h f798 hW799 => ?_)⟩
                                  conv => whnf
                                  refine pw_br h (fun _ h => ?_) (fun _ h => ?_)
                                  · conv => whnf
                                    obtain ⟨f802, hW803, hf804⟩ := pw_reset hW799 (q := 0) (Nat.zero_le _)
                                    exact ⟨(by omega), (by omega), ⟨_, rfl, by decide⟩, pw_cvi _, f802, hf804, pw_ps h _ hW803⟩
                                  · conv => whnf
                                    refine pw_br h (fun _ h => ?_) (fun _ h => ?_)
                                    · conv => whnf
                                      refine pw_br h (fun _ h => ?_) (fun _ h => ?_)
                                      · conv => whnf
                                        obtain ⟨f805, hW806, hf807⟩ := pw_reset hW799 (q := 0) (Nat.zero_le _)
                                        exact ⟨(by omega), (by omega), ⟨_, rfl, by decide⟩, pw_cvi _, f805, hf807, pw_ps h _ hW806⟩
                                      · conv => whnf
                                        refine pw_br h (fun _ h => ?_) (fun _ h => ?_)
                                        · conv => whnf
                                          obtain ⟨f808, hW809, hf810⟩ := pw_reset hW799 (q := 0) (Nat.zero_le _)
                                          exact ⟨(by omega), (by omega), ⟨_, rfl, by decide⟩, pw_cvi _, f808, hf810, pw_ps h _ hW809⟩
                                        · conv => whnf
                                          obtain ⟨f811, hW812, hf813⟩ := pw_reset hW799 (q := 0) (Nat.zero_le _)
                                          exact ⟨(by omega), (by omega), ⟨_, rfl, by decide⟩, pw_cvi _, f811, hf813, pw_ps h _ hW812⟩
                                    · conv => whnf
                                      refine pw_br h (fun _ h => ?_) (fun _ h => ?_)
                                      · conv => whnf
                                        refine pw_br h (fun _ h => ?_) (fun _ h => ?_)
                                        · conv => whnf
                                          obtain ⟨f814, hW815, hf816⟩ := pw_reset hW799 (q := 0) (Nat.zero_le _)
                                          exact ⟨(by omega), (by omega), ⟨_, rfl, by decide⟩, pw_cvi _, f814, hf816, pw_ps h _ hW815⟩
                                        · conv => whnf
                                          refine pw_br h (fun _ h => ?_) (fun _ h => ?_)
                                          · conv => whnf
                                            obtain ⟨f817, hW818, hf819⟩ := pw_reset hW799 (q := 0) (Nat.zero_le _)
                                            exact ⟨(by omega), (by omega), ⟨_, rfl, by decide⟩, pw_cvi _, f817, hf819, pw_ps h _ hW818⟩
                                          · conv => whnf
                                            obtain ⟨f820, hW821, hf822⟩ := pw_reset hW799 (q := 0) (Nat.zero_le _)
                                            exact ⟨(by omega), (by omega), ⟨_, rfl, by decide⟩, pw_cvi _, f820, hf822, pw_ps h _ hW821⟩
                                      · conv => whnf
                                        obtain ⟨f823, hW824, hf825⟩ := pw_reset hW799 (q := 0) (Nat.zero_le _)
                                        exact ⟨(by omega), (by omega), ⟨_, rfl, by decide⟩, pw_cvi _, f823, hf825, pw_ps h _ hW824⟩
                            · exact (pw_pn h).elim
                          · conv => whnf
                            refine np_rd_i (hW722.ga ho715 ho716) ?_
                            conv => whnf
                            refine pw_ck h (fun _ h => ?_)
                            conv => whnf
                            refine pw_wr (a := u713) (i := u714) (d := upd (S720 u713 u714) (2 : Int32).toNatClampNeg ((S720 u713 u714 (2 : Int32).toNatClampNeg) + 1)) hW722 ho716 (pw_ent_arr ho715).symm h (fun S830 f831 hW832 h => ?_)
                            conv => whnf
                            refine np_chk_i (pw_and rfl (pw_and rfl (pw_and rfl ((pw_and (pw_le (by omega)) (pw_le (by omega))))))) ?_
                            conv => whnf
                            refine ⟨2, S830, u707, 100, 0, rfl, ho708, rfl, rfl, hW832, pw_bd h (fun S833 r836 h f834 hW835 => ?_)⟩
                            conv => whnf
                            refine np_rd_i (hW835.g ho708) ?_
                            conv => whnf
                            refine np_chk_i (pw_and rfl (pw_and rfl (pw_and rfl (pw_and rfl ((pw_and (pw_le (by omega)) (pw_le (by omega)))))))) ?_
                            conv => whnf
                            refine ⟨2, S833, u707, u718, rfl, ho708, hW835, pw_bd h (fun S838 r841 h f839 hW840 => ?_)⟩
                            rcases r841 with r843 | e844
                            · replace h := pw_ei h
                              conv => whnf
                              refine pw_st h (fun z845 h => ?_)
                              conv => whnf
                              refine np_chk_i (pw_and rfl (pw_and rfl (pw_and rfl ((pw_and (pw_le (by omega)) (pw_le (by omega))))))) ?_
                              conv => whnf
                              refine ⟨2, S838, u707, u718, u709, u710, rfl, ho708, ho711, ho712, hW840, pw_bd h (fun S846 r849 h f847 hW848 => ?_)⟩
                              conv => whnf
                              refine np_chk_i (pw_and rfl (pw_and rfl (pw_and rfl ((pw_and (pw_le (by omega)) (pw_le (by omega))))))) ?_
                              conv => whnf
                              refine ⟨2, S846, u707, u709, u710, rfl, ho708, ho711, ho712, hW848, pw_bd h (fun S851 r854 h f852 hW853 => ?_)⟩
                              conv => whnf
                              refine pw_st h (fun z856 h => ?_)
                              conv => whnf
                              refine np_gl (L_L_upgrades_506 (dc := 9) (ds := 54) hX hR (fun S866 u857 u859 u860 u863 u864 u865 f867 ce933 sl934 ho858 ho861 ho862 hc935 hs936 hW868 h => ?_) (pw_F 9) S851 u707 u713 u714 u717 u719 z845 z856 f852 _ _ ho708 ho715 ho716 (by rw [pw_F_eq]; omega) (by rw [pw_F_eq]; omega) hW853 h) ⟨rfl, rfl, rfl, rfl, rfl, rfl, rfl, trivial⟩
                              · refine np_soundW (so_L_upgrades hX hR) [22, 274, 375, 414, 506] 400 563 _ _ _ _ _ ?_
                                conv => whnf
                                refine np_rd_i (hW868.ga ho861 ho862) ?_
                                conv => whnf
                                refine pw_ck h (fun _ h => ?_)
                                conv => whnf
                                refine pw_br h (fun _ h => ?_) (fun _ h => ?_)
                                · conv => whnf
                                  refine np_rd_i (hW868.ga ho861 ho862) ?_
                                  conv => whnf
                                  refine pw_ck h (fun _ h => ?_)
                                  conv => whnf
                                  refine pw_wr (a := u859) (i := u860) (d := upd (S866 u859 u860) (2 : Int32).toNatClampNeg ((S866 u859 u860 (2 : Int32).toNatClampNeg) + 0)) hW868 ho862 (pw_ent_arr ho861).symm h (fun S869 f870 hW871 h => ?_)
                                  conv => whnf
                                  refine np_chk_i (pw_and rfl (pw_and rfl (pw_and rfl ((pw_and (pw_le (by omega)) (pw_le (by omega))))))) ?_
                                  conv => whnf
                                  refine ⟨2, S869, u857, 100, 0, rfl, ho858, rfl, rfl, hW871, pw_bd h (fun S872 r875 h f873 hW874 => ?_)⟩
                                  conv => whnf
                                  refine pw_br h (fun _ h => ?_) (fun _ h => ?_)
                                  · conv => whnf
                                    obtain ⟨f877, hW878, hf879⟩ := pw_reset hW874 (q := 0) (Nat.zero_le _)
                                    exact ⟨(by omega), (by omega), ⟨_, rfl, by decide⟩, pw_cvi _, f877, hf879, pw_ps h _ hW878⟩
                                  · conv => whnf
                                    refine pw_br h (fun _ h => ?_) (fun _ h => ?_)
                                    · conv => whnf
                                      refine pw_br h (fun _ h => ?_) (fun _ h => ?_)
                                      · conv => whnf
                                        obtain ⟨f880, hW881, hf882⟩ := pw_reset hW874 (q := 0) (Nat.zero_le _)
                                        exact ⟨(by omega), (by omega), ⟨_, rfl, by decide⟩, pw_cvi _, f880, hf882, pw_ps h _ hW881⟩
                                      · conv => whnf
                                        refine pw_br h (fun _ h => ?_) (fun _ h => ?_)
                                        · conv => whnf
                                          obtain ⟨f883, hW884, hf885⟩ := pw_reset hW874 (q := 0) (Nat.zero_le _)
                                          exact ⟨(by omega), (by omega), ⟨_, rfl, by decide⟩, pw_cvi _, f883, hf885, pw_ps h _ hW884⟩
                                        · conv => whnf
                                          obtain ⟨f886, hW887, hf888⟩ := pw_reset hW874 (q := 0) (Nat.zero_le _)
                                          exact ⟨(by omega), (by omega), ⟨_, rfl, by decide⟩, pw_cvi _, f886, hf888, pw_ps h _ hW887⟩
                                    · conv => whnf
                                      refine pw_br h (fun _ h => ?_) (fun _ h => ?_)
                                      · conv => whnf
                                        refine pw_br h (fun _ h => ?_) (fun _ h => ?_)
                                        · conv => whnf
                                          obtain ⟨f889, hW890, hf891⟩ := pw_reset hW874 (q := 0) (Nat.zero_le _)
                                          exact ⟨(by omega), (by omega), ⟨_, rfl, by decide⟩, pw_cvi _, f889, hf891, pw_ps h _ hW890⟩
                                        · conv => whnf
                                          refine pw_br h (fun _ h => ?_) (fun _ h => ?_)
                                          · conv => whnf
                                            obtain ⟨f892, hW893, hf894⟩ := pw_reset hW874 (q := 0) (Nat.zero_le _)
                                            exact ⟨(by omega), (by omega), ⟨_, rfl, by decide⟩, pw_cvi _, f892, hf894, pw_ps h _ hW893⟩
                                          · conv => whnf
                                            obtain ⟨f895, hW896, hf897⟩ := pw_reset hW874 (q := 0) (Nat.zero_le _)
                                            exact ⟨(by omega), (by omega), ⟨_, rfl, by decide⟩, pw_cvi _, f895, hf897, pw_ps h _ hW896⟩
                                      · conv => whnf
                                        obtain ⟨f898, hW899, hf900⟩ := pw_reset hW874 (q := 0) (Nat.zero_le _)
                                        exact ⟨(by omega), (by omega), ⟨_, rfl, by decide⟩, pw_cvi _, f898, hf900, pw_ps h _ hW899⟩
                                · conv => whnf
                                  refine np_rd_i (hW868.ga ho861 ho862) ?_
                                  conv => whnf
                                  refine pw_ck h (fun _ h => ?_)
                                  conv => whnf
                                  refine pw_wr (a := u859) (i := u860) (d := upd (S866 u859 u860) (2 : Int32).toNatClampNeg ((S866 u859 u860 (2 : Int32).toNatClampNeg) + 1)) hW868 ho862 (pw_ent_arr ho861).symm h (fun S901 f902 hW903 h => ?_)
                                  conv => whnf
                                  refine np_chk_i (pw_and rfl (pw_and rfl (pw_and rfl ((pw_and (pw_le (by omega)) (pw_le (by omega))))))) ?_
                                  conv => whnf
                                  refine ⟨2, S901, u857, 100, 0, rfl, ho858, rfl, rfl, hW903, pw_bd h (fun S904 r907 h f905 hW906 => ?_)⟩
                                  conv => whnf
                                  refine pw_br h (fun _ h => ?_) (fun _ h => ?_)
                                  · conv => whnf
                                    obtain ⟨f909, hW910, hf911⟩ := pw_reset hW906 (q := 0) (Nat.zero_le _)
                                    exact ⟨(by omega), (by omega), ⟨_, rfl, by decide⟩, pw_cvi _, f909, hf911, pw_ps h _ hW910⟩
                                  · conv => whnf
                                    refine pw_br h (fun _ h => ?_) (fun _ h => ?_)
                                    · conv => whnf
                                      refine pw_br h (fun _ h => ?_) (fun _ h => ?_)
                                      · conv => whnf
                                        obtain ⟨f912, hW913, hf914⟩ := pw_reset hW906 (q := 0) (Nat.zero_le _)
                                        exact ⟨(by omega), (by omega), ⟨_, rfl, by decide⟩, pw_cvi _, f912, hf914, pw_ps h _ hW913⟩
                                      · conv => whnf
                                        refine pw_br h (fun _ h => ?_) (fun _ h => ?_)
                                        · conv => whnf
                                          obtain ⟨f915, hW916, hf917⟩ := pw_reset hW906 (q := 0) (Nat.zero_le _)
                                          exact ⟨(by omega), (by omega), ⟨_, rfl, by decide⟩, pw_cvi _, f915, hf917, pw_ps h _ hW916⟩
                                        · conv => whnf
                                          obtain ⟨f918, hW919, hf920⟩ := pw_reset hW906 (q := 0) (Nat.zero_le _)
                                          exact ⟨(by omega), (by omega), ⟨_, rfl, by decide⟩, pw_cvi _, f918, hf920, pw_ps h _ hW919⟩
                                    · conv => whnf
                                      refine pw_br h (fun _ h => ?_) (fun _ h => ?_)
                                      · conv => whnf
                                        refine pw_br h (fun _ h => ?_) (fun _ h => ?_)
                                        · conv => whnf
                                          obtain ⟨f921, hW922, hf923⟩ := pw_reset hW906 (q := 0) (Nat.zero_le _)
                                          exact ⟨(by omega), (by omega), ⟨_, rfl, by decide⟩, pw_cvi _, f921, hf923, pw_ps h _ hW922⟩
                                        · conv => whnf
                                          refine pw_br h (fun _ h => ?_) (fun _ h => ?_)
                                          · conv => whnf
                                            obtain ⟨f924, hW925, hf926⟩ := pw_reset hW906 (q := 0) (Nat.zero_le _)
                                            exact ⟨(by omega), (by omega), ⟨_, rfl, by decide⟩, pw_cvi _, f924, hf926, pw_ps h _ hW925⟩
                                          · conv => whnf
                                            obtain ⟨f927, hW928, hf929⟩ := pw_reset hW906 (q := 0) (Nat.zero_le _)
                                            exact ⟨(by omega), (by omega), ⟨_, rfl, by decide⟩, pw_cvi _, f927, hf929, pw_ps h _ hW928⟩
                                      · conv => whnf
                                        obtain ⟨f930, hW931, hf932⟩ := pw_reset hW906 (q := 0) (Nat.zero_le _)
                                        exact ⟨(by omega), (by omega), ⟨_, rfl, by decide⟩, pw_cvi _, f930, hf932, pw_ps h _ hW931⟩
                            · exact (pw_pn h).elim
                    · exact (pw_pn h).elim
                · conv => whnf
                  refine pw_st h (fun z949 h => ?_)
                  conv => whnf
                  refine np_rd_i (hW638.ga ho310 ho311) ?_
                  conv => whnf
                  refine pw_ck h (fun _ h => ?_)
                  conv => whnf
                  refine np_rd_i (hW638.ga ho310 ho311) ?_
                  conv => whnf
                  refine pw_ck h (fun _ h => ?_)
                  conv => whnf
                  refine pw_wr (a := u308) (i := u309) (d := upd (S636 u308 u309) (2 : Int32).toNatClampNeg ((S636 u308 u309 (2 : Int32).toNatClampNeg) + 1)) hW638 ho311 (pw_ent_arr ho310).symm h (fun S950 f951 hW952 h => ?_)
                  conv => whnf
                  refine pw_new (a := 100) (q := 0) rfl (by decide) hW952 h (fun S953 f954 hW955 h => ?_)
                  conv => whnf
                  refine pw_st h (fun z956 h => ?_)
                  conv => whnf
                  refine np_gl (L_L_upgrades_274 (dc := 84) (ds := 506) hX hR (fun S969 u957 u959 u960 u961 u964 u965 u968 f970 ce1251 sl1252 ho958 ho962 ho963 ho966 ho967 hc1253 hs1254 hW971 h => ?_) (pw_F 9) S953 u301 u303 u304 u305 u308 u309 z949 z956 f954 _ _ ho302 ho306 ho307 ho310 ho311 (by rw [pw_F_eq]; omega) (by rw [pw_F_eq]; omega) hW955 h) ⟨rfl, rfl, rfl, rfl, rfl, rfl, rfl, trivial⟩
                  · refine np_soundW (so_L_upgrades hX hR) [22, 274, 375, 414, 506] 400 333 _ _ _ _ _ ?_
                    conv => whnf
                    refine np_rd_i (hW971.ga ho966 ho967) ?_
                    conv => whnf
                    refine pw_ck h (fun _ h => ?_)
                    conv => whnf
                    refine pw_ck h (fun _ h => ?_)
                    conv => whnf
                    refine pw_st h (fun z972 h => ?_)
                    conv => whnf
                    refine np_rd_i (hW971.ga ho966 ho967) ?_
                    conv => whnf
                    refine pw_ck h (fun _ h => ?_)
                    conv => whnf
                    refine pw_st h (fun z973 h => ?_)
                    conv => whnf
                    refine np_rd_i (hW971.g ho958) ?_
                    conv => whnf
                    refine np_chk_i (pw_and rfl (pw_and rfl (pw_and rfl (pw_and rfl ((pw_and (pw_le (by omega)) (pw_le (by omega)))))))) ?_
                    conv => whnf
                    refine ⟨1, S969, u957, z972, z973, rfl, ho958, hW971, pw_bd h (fun S974 r977 h f975 hW976 => ?_)⟩
                    rcases r977 with r979 | e980
                    · replace h := pw_ei h
                      conv => whnf
                      refine pw_st h (fun z981 h => ?_)
                      conv => whnf
                      refine np_chk_i (pw_and rfl (pw_and rfl (pw_and rfl ((pw_and (pw_le (by omega)) (pw_le (by omega))))))) ?_
                      conv => whnf
                      refine ⟨1, S974, u957, z972, u960, u961, rfl, ho958, ho962, ho963, hW976, pw_bd h (fun S982 r985 h f983 hW984 => ?_)⟩
                      conv => whnf
                      refine pw_new (a := 101) (q := 1) rfl (by decide) hW984 h (fun S987 f988 hW989 h => ?_)
                      conv => whnf
                      refine pw_st h (fun z990 h => ?_)
                      conv => whnf
                      refine np_gl (L_L_upgrades_375 (dc := 64) (ds := 384) hX hR (fun S1004 u991 u993 u994 u997 u998 u1001 u1002 u1003 f1005 ce1247 sl1248 ho992 ho995 ho996 ho999 ho1000 hc1249 hs1250 hW1006 h => ?_) (pw_F 9) S987 u957 u960 u961 u964 u965 u968 z973 z981 z990 f988 _ _ ho958 ho962 ho963 ho966 ho967 (by rw [pw_F_eq]; omega) (by rw [pw_F_eq]; omega) hW989 h) ⟨rfl, rfl, rfl, rfl, rfl, rfl, rfl, rfl, rfl, trivial⟩
                      · refine np_soundW (so_L_upgrades hX hR) [22, 274, 375, 414, 506] 400 406 _ _ _ _ _ ?_
                        conv => whnf
                        refine np_chk_i (pw_and rfl (pw_and rfl (pw_and rfl ((pw_and (pw_le (by omega)) (pw_le (by omega))))))) ?_
                        conv => whnf
                        refine ⟨2, S1004, u991, u993, u994, rfl, ho992, ho995, ho996, hW1006, pw_bd h (fun S1007 r1010 h f1008 hW1009 => ?_)⟩
                        conv => whnf
                        refine pw_st h (fun z1012 h => ?_)
                        conv => whnf
                        refine np_gl (L_L_upgrades_414 (dc := 46) (ds := 276) hX hR (fun S1026 u1013 u1015 u1016 u1019 u1020 u1023 u1024 u1025 f1027 ce1243 sl1244 ho1014 ho1017 ho1018 ho1021 ho1022 hc1245 hs1246 hW1028 h => ?_) (pw_F 9) S1007 u991 u993 u994 u997 u998 u1001 u1002 u1003 z1012 f1008 _ _ ho992 ho995 ho996 ho999 ho1000 (by rw [pw_F_eq]; omega) (by rw [pw_F_eq]; omega) hW1009 h) ⟨rfl, rfl, rfl, rfl, rfl, rfl, rfl, rfl, rfl, trivial⟩
                        · refine np_soundW (so_L_upgrades hX hR) [22, 274, 375, 414, 506] 400 460 _ _ _ _ _ ?_
                          conv => whnf
                          refine np_rd_i (hW1028.ga ho1021 ho1022) ?_
                          conv => whnf
                          refine pw_ck h (fun _ h => ?_)
                          conv => whnf
                          refine pw_br h (fun _ h => ?_) (fun _ h => ?_)
                          · conv => whnf
                            refine np_rd_i (hW1028.ga ho1021 ho1022) ?_
                            conv => whnf
                            refine pw_ck h (fun _ h => ?_)
                            conv => whnf
                            refine pw_wr (a := u1019) (i := u1020) (d := upd (S1026 u1019 u1020) (2 : Int32).toNatClampNeg ((S1026 u1019 u1020 (2 : Int32).toNatClampNeg) + 0)) hW1028 ho1022 (pw_ent_arr ho1021).symm h (fun S1029 f1030 hW1031 h => ?_)
                            conv => whnf
                            refine np_chk_i (pw_and rfl (pw_and rfl (pw_and rfl ((pw_and (pw_le (by omega)) (pw_le (by omega))))))) ?_
                            conv => whnf
                            refine ⟨2, S1029, u1013, 100, 0, rfl, ho1014, rfl, rfl, hW1031, pw_bd h (fun S1032 r1035 h f1033 hW1034 => ?_)⟩
                            conv => whnf
                            refine np_rd_i (hW1034.g ho1014) ?_
                            conv => whnf
                            refine np_chk_i (pw_and rfl (pw_and rfl (pw_and rfl (pw_and rfl ((pw_and (pw_le (by omega)) (pw_le (by omega)))))))) ?_
                            conv => whnf
                            refine ⟨2, S1032, u1013, u1024, rfl, ho1014, hW1034, pw_bd h (fun S1037 r1040 h f1038 hW1039 => ?_)⟩
                            rcases r1040 with r1042 | e1043
                            · replace h := pw_ei h
                              conv => whnf
                              refine pw_st h (fun z1044 h => ?_)
                              conv => whnf
                              refine np_chk_i (pw_and rfl (pw_and rfl (pw_and rfl ((pw_and (pw_le (by omega)) (pw_le (by omega))))))) ?_
                              conv => whnf
                              refine ⟨2, S1037, u1013, u1024, u1015, u1016, rfl, ho1014, ho1017, ho1018, hW1039, pw_bd h (fun S1045 r1048 h f1046 hW1047 => ?_)⟩
                              conv => whnf
                              refine np_chk_i (pw_and rfl (pw_and rfl (pw_and rfl ((pw_and (pw_le (by omega)) (pw_le (by omega))))))) ?_
                              conv => whnf
                              refine ⟨2, S1045, u1013, u1015, u1016, rfl, ho1014, ho1017, ho1018, hW1047, pw_bd h (fun S1050 r1053 h f1051 hW1052 => ?_)⟩
                              conv => whnf
                              refine pw_st h (fun z1055 h => ?_)
                              conv => whnf
                              refine np_gl (L_L_upgrades_506 (dc := 9) (ds := 54) hX hR (fun S1065 u1056 u1058 u1059 u1062 u1063 u1064 f1066 ce1132 sl1133 ho1057 ho1060 ho1061 hc1134 hs1135 hW1067 h => ?_) (pw_F 9) S1050 u1013 u1019 u1020 u1023 u1025 z1044 z1055 f1051 _ _ ho1014 ho1021 ho1022 (by rw [pw_F_eq]; omega) (by rw [pw_F_eq]; omega) hW1052 h) ⟨rfl, rfl, rfl, rfl, rfl, rfl, rfl, trivial⟩
                              · refine np_soundW (so_L_upgrades hX hR) [22, 274, 375, 414, 506] 400 563 _ _ _ _ _ ?_
                                conv => whnf
                                refine np_rd_i (hW1067.ga ho1060 ho1061) ?_
                                conv => whnf
                                refine pw_ck h (fun _ h => ?_)
                                conv => whnf
                                refine pw_br h (fun _ h => ?_) (fun _ h => ?_)
                                · conv => whnf
                                  refine np_rd_i (hW1067.ga ho1060 ho1061) ?_
                                  conv => whnf
                                  refine pw_ck h (fun _ h => ?_)
                                  conv => whnf
                                  refine pw_wr (a := u1058) (i := u1059) (d := upd (S1065 u1058 u1059) (2 : Int32).toNatClampNeg ((S1065 u1058 u1059 (2 : Int32).toNatClampNeg) + 0)) hW1067 ho1061 (pw_ent_arr ho1060).symm h (fun S1068 f1069 hW1070 h => ?_)
                                  conv => whnf
                                  refine np_chk_i (pw_and rfl (pw_and rfl (pw_and rfl ((pw_and (pw_le (by omega)) (pw_le (by omega))))))) ?_
                                  conv => whnf
                                  refine ⟨2, S1068, u1056, 100, 0, rfl, ho1057, rfl, rfl, hW1070, pw_bd h (fun S1071 r1074 h f1072 hW1073 => ?_)⟩
                                  conv => whnf
                                  refine pw_br h (fun _ h => ?_) (fun _ h => ?_)
                                  · conv => whnf
                                    obtain ⟨f1076, hW1077, hf1078⟩ := pw_reset hW1073 (q := 0) (Nat.zero_le _)
                                    exact ⟨(by omega), (by omega), ⟨_, rfl, by decide⟩, pw_cvi _, f1076, hf1078, pw_ps h _ hW1077⟩
                                  · conv => whnf
                                    refine pw_br h (fun _ h => ?_) (fun _ h => ?_)
                                    · conv => whnf
                                      refine pw_br h (fun _ h => ?_) (fun _ h => ?_)
                                      · conv => whnf
                                        obtain ⟨f1079, hW1080, hf1081⟩ := pw_reset hW1073 (q := 0) (Nat.zero_le _)
                                        exact ⟨(by omega), (by omega), ⟨_, rfl, by decide⟩, pw_cvi _, f1079, hf1081, pw_ps h _ hW1080⟩
                                      · conv => whnf
                                        refine pw_br h (fun _ h => ?_) (fun _ h => ?_)
                                        · conv => whnf
                                          obtain ⟨f1082, hW1083, hf1084⟩ := pw_reset hW1073 (q := 0) (Nat.zero_le _)
                                          exact ⟨(by omega), (by omega), ⟨_, rfl, by decide⟩, pw_cvi _, f1082, hf1084, pw_ps h _ hW1083⟩
                                        · conv => whnf
                                          obtain ⟨f1085, hW1086, hf1087⟩ := pw_reset hW1073 (q := 0) (Nat.zero_le _)
                                          exact ⟨(by omega), (by omega), ⟨_, rfl, by decide⟩, pw_cvi _, f1085, hf1087, pw_ps h _ hW1086⟩
                                    · conv => whnf
                                      refine pw_br h (fun _ h => ?_) (fun _ h => ?_)
                                      · conv => whnf
                                        refine pw_br h (fun _ h => ?_) (fun _ h => ?_)
                                        · conv => whnf
                                          obtain ⟨f1088, hW1089, hf1090⟩ := pw_reset hW1073 (q := 0) (Nat.zero_le _)
                                          exact ⟨(by omega), (by omega), ⟨_, rfl, by decide⟩, pw_cvi _, f1088, hf1090, pw_ps h _ hW1089⟩
                                        · conv => whnf
                                          refine pw_br h (fun _ h => ?_) (fun _ h => ?_)
                                          · conv => whnf
                                            obtain ⟨f1091, hW1092, hf1093⟩ := pw_reset hW1073 (q := 0) (Nat.zero_le _)
                                            exact ⟨(by omega), (by omega), ⟨_, rfl, by decide⟩, pw_cvi _, f1091, hf1093, pw_ps h _ hW1092⟩
                                          · conv => whnf
                                            obtain ⟨f1094, hW1095, hf1096⟩ := pw_reset hW1073 (q := 0) (Nat.zero_le _)
                                            exact ⟨(by omega), (by omega), ⟨_, rfl, by decide⟩, pw_cvi _, f1094, hf1096, pw_ps h _ hW1095⟩
                                      · conv => whnf
                                        obtain ⟨f1097, hW1098, hf1099⟩ := pw_reset hW1073 (q := 0) (Nat.zero_le _)
                                        exact ⟨(by omega), (by omega), ⟨_, rfl, by decide⟩, pw_cvi _, f1097, hf1099, pw_ps h _ hW1098⟩
                                · conv => whnf
                                  refine np_rd_i (hW1067.ga ho1060 ho1061) ?_
                                  conv => whnf
                                  refine pw_ck h (fun _ h => ?_)
                                  conv => whnf
                                  refine pw_wr (a := u1058) (i := u1059) (d := upd (S1065 u1058 u1059) (2 : Int32).toNatClampNeg ((S1065 u1058 u1059 (2 : Int32).toNatClampNeg) + 1)) hW1067 ho1061 (pw_ent_arr ho1060).symm h (fun S1100 f1101 hW1102 h => ?_)
                                  conv => whnf
                                  refine np_chk_i (pw_and rfl (pw_and rfl (pw_and rfl ((pw_and (pw_le (by omega)) (pw_le (by omega))))))) ?_
                                  conv => whnf
                                  refine ⟨2, S1100, u1056, 100, 0, rfl, ho1057, rfl, rfl, hW1102, pw_bd h (fun S1103 r1106 h f1104 hW1105 => ?_)⟩
                                  conv => whnf
                                  refine pw_br h (fun _ h => ?_) (fun _ h => ?_)
                                  · conv => whnf
                                    obtain ⟨f1108, hW1109, hf1110⟩ := pw_reset hW1105 (q := 0) (Nat.zero_le _)
                                    exact ⟨(by omega), (by omega), ⟨_, rfl, by decide⟩, pw_cvi _, f1108, hf1110, pw_ps h _ hW1109⟩
                                  · conv => whnf
                                    refine pw_br h (fun _ h => ?_) (fun _ h => ?_)
                                    · conv => whnf
                                      refine pw_br h (fun _ h => ?_) (fun _ h => ?_)
                                      · conv => whnf
                                        obtain ⟨f1111, hW1112, hf1113⟩ := pw_reset hW1105 (q := 0) (Nat.zero_le _)
                                        exact ⟨(by omega), (by omega), ⟨_, rfl, by decide⟩, pw_cvi _, f1111, hf1113, pw_ps h _ hW1112⟩
                                      · conv => whnf
                                        refine pw_br h (fun _ h => ?_) (fun _ h => ?_)
                                        · conv => whnf
                                          obtain ⟨f1114, hW1115, hf1116⟩ := pw_reset hW1105 (q := 0) (Nat.zero_le _)
                                          exact ⟨(by omega), (by omega), ⟨_, rfl, by decide⟩, pw_cvi _, f1114, hf1116, pw_ps h _ hW1115⟩
                                        · conv => whnf
                                          obtain ⟨f1117, hW1118, hf1119⟩ := pw_reset hW1105 (q := 0) (Nat.zero_le _)
                                          exact ⟨(by omega), (by omega), ⟨_, rfl, by decide⟩, pw_cvi _, f1117, hf1119, pw_ps h _ hW1118⟩
                                    · conv => whnf
                                      refine pw_br h (fun _ h => ?_) (fun _ h => ?_)
                                      · conv => whnf
                                        refine pw_br h (fun _ h => ?_) (fun _ h => ?_)
                                        · conv => whnf
                                          obtain ⟨f1120, hW1121, hf1122⟩ := pw_reset hW1105 (q := 0) (Nat.zero_le _)
                                          exact ⟨(by omega), (by omega), ⟨_, rfl, by decide⟩, pw_cvi _, f1120, hf1122, pw_ps h _ hW1121⟩
                                        · conv => whnf
                                          refine pw_br h (fun _ h => ?_) (fun _ h => ?_)
                                          · conv => whnf
                                            obtain ⟨f1123, hW1124, hf1125⟩ := pw_reset hW1105 (q := 0) (Nat.zero_le _)
                                            exact ⟨(by omega), (by omega), ⟨_, rfl, by decide⟩, pw_cvi _, f1123, hf1125, pw_ps h _ hW1124⟩
                                          · conv => whnf
                                            obtain ⟨f1126, hW1127, hf1128⟩ := pw_reset hW1105 (q := 0) (Nat.zero_le _)
                                            exact ⟨(by omega), (by omega), ⟨_, rfl, by decide⟩, pw_cvi _, f1126, hf1128, pw_ps h _ hW1127⟩
                                      · conv => whnf
                                        obtain ⟨f1129, hW1130, hf1131⟩ := pw_reset hW1105 (q := 0) (Nat.zero_le _)
                                        exact ⟨(by omega), (by omega), ⟨_, rfl, by decide⟩, pw_cvi _, f1129, hf1131, pw_ps h _ hW1130⟩
                            · exact (pw_pn h).elim
                          · conv => whnf
                            refine np_rd_i (hW1028.ga ho1021 ho1022) ?_
                            conv => whnf
                            refine pw_ck h (fun _ h => ?_)
                            conv => whnf
                            refine pw_wr (a := u1019) (i := u1020) (d := upd (S1026 u1019 u1020) (2 : Int32).toNatClampNeg ((S1026 u1019 u1020 (2 : Int32).toNatClampNeg) + 1)) hW1028 ho1022 (pw_ent_arr ho1021).symm h (fun S1136 f1137 hW1138 h => ?_)
                            conv => whnf
                            refine np_chk_i (pw_and rfl (pw_and rfl (pw_and rfl ((pw_and (pw_le (by omega)) (pw_le (by omega))))))) ?_
                            conv => whnf
                            refine ⟨2, S1136, u1013, 100, 0, rfl, ho1014, rfl, rfl, hW1138, pw_bd h (fun S1139 r1142 h f1140 hW1141 => ?_)⟩
                            conv => whnf
                            refine np_rd_i (hW1141.g ho1014) ?_
                            conv => whnf
                            refine np_chk_i (pw_and rfl (pw_and rfl (pw_and rfl (pw_and rfl ((pw_and (pw_le (by omega)) (pw_le (by omega)))))))) ?_
                            conv => whnf
                            refine ⟨2, S1139, u1013, u1024, rfl, ho1014, hW1141, pw_bd h (fun S1144 r1147 h f1145 hW1146 => ?_)⟩
                            rcases r1147 with r1149 | e1150
                            · replace h := pw_ei h
                              conv => whnf
                              refine pw_st h (fun z1151 h => ?_)
                              conv => whnf
                              refine np_chk_i (pw_and rfl (pw_and rfl (pw_and rfl ((pw_and (pw_le (by omega)) (pw_le (by omega))))))) ?_
                              conv => whnf
                              refine ⟨2, S1144, u1013, u1024, u1015, u1016, rfl, ho1014, ho1017, ho1018, hW1146, pw_bd h (fun S1152 r1155 h f1153 hW1154 => ?_)⟩
                              conv => whnf
                              refine np_chk_i (pw_and rfl (pw_and rfl (pw_and rfl ((pw_and (pw_le (by omega)) (pw_le (by omega))))))) ?_
                              conv => whnf
                              refine ⟨2, S1152, u1013, u1015, u1016, rfl, ho1014, ho1017, ho1018, hW1154, pw_bd h (fun S1157 r1160 h f1158 hW1159 => ?_)⟩
                              conv => whnf
                              refine pw_st h (fun z1162 h => ?_)
                              conv => whnf
                              refine np_gl (L_L_upgrades_506 (dc := 9) (ds := 54) hX hR (fun S1172 u1163 u1165 u1166 u1169 u1170 u1171 f1173 ce1239 sl1240 ho1164 ho1167 ho1168 hc1241 hs1242 hW1174 h => ?_) (pw_F 9) S1157 u1013 u1019 u1020 u1023 u1025 z1151 z1162 f1158 _ _ ho1014 ho1021 ho1022 (by rw [pw_F_eq]; omega) (by rw [pw_F_eq]; omega) hW1159 h) ⟨rfl, rfl, rfl, rfl, rfl, rfl, rfl, trivial⟩
                              · refine np_soundW (so_L_upgrades hX hR) [22, 274, 375, 414, 506] 400 563 _ _ _ _ _ ?_
                                conv => whnf
                                refine np_rd_i (hW1174.ga ho1167 ho1168) ?_
                                conv => whnf
                                refine pw_ck h (fun _ h => ?_)
                                conv => whnf
                                refine pw_br h (fun _ h => ?_) (fun _ h => ?_)
                                · conv => whnf
                                  refine np_rd_i (hW1174.ga ho1167 ho1168) ?_
                                  conv => whnf
                                  refine pw_ck h (fun _ h => ?_)
                                  conv => whnf
                                  refine pw_wr (a := u1165) (i := u1166) (d := upd (S1172 u1165 u1166) (2 : Int32).toNatClampNeg ((S1172 u1165 u1166 (2 : Int32).toNatClampNeg) + 0)) hW1174 ho1168 (pw_ent_arr ho1167).symm h (fun S1175 f1176 hW1177 h => ?_)
                                  conv => whnf
                                  refine np_chk_i (pw_and rfl (pw_and rfl (pw_and rfl ((pw_and (pw_le (by omega)) (pw_le (by omega))))))) ?_
                                  conv => whnf
                                  refine ⟨2, S1175, u1163, 100, 0, rfl, ho1164, rfl, rfl, hW1177, pw_bd h (fun S1178 r1181 h f1179 hW1180 => ?_)⟩
                                  conv => whnf
                                  refine pw_br h (fun _ h => ?_) (fun _ h => ?_)
                                  · conv => whnf
                                    obtain ⟨f1183, hW1184, hf1185⟩ := pw_reset hW1180 (q := 0) (Nat.zero_le _)
                                    exact ⟨(by omega), (by omega), ⟨_, rfl, by decide⟩, pw_cvi _, f1183, hf1185, pw_ps h _ hW1184⟩
                                  · conv => whnf
                                    refine pw_br h (fun _ h => ?_) (fun _ h => ?_)
                                    · conv => whnf
                                      refine pw_br h (fun _ h => ?_) (fun _ h => ?_)
                                      · conv => whnf
                                        obtain ⟨f1186, hW1187, hf1188⟩ := pw_reset hW1180 (q := 0) (Nat.zero_le _)
                                        exact ⟨(by omega), (by omega), ⟨_, rfl, by decide⟩, pw_cvi _, f1186, hf1188, pw_ps h _ hW1187⟩
                                      · conv => whnf
                                        refine pw_br h (fun _ h => ?_) (fun _ h => ?_)
                                        · conv => whnf
                                          obtain ⟨f1189, hW1190, hf1191⟩ := pw_reset hW1180 (q := 0) (Nat.zero_le _)
                                          exact ⟨(by omega), (by omega), ⟨_, rfl, by decide⟩, pw_cvi _, f1189, hf1191, pw_ps h _ hW1190⟩
                                        · conv => whnf
                                          obtain ⟨f1192, hW1193, hf1194⟩ := pw_reset hW1180 (q := 0) (Nat.zero_le _)
                                          exact ⟨(by omega), (by omega), ⟨_, rfl, by decide⟩, pw_cvi _, f1192, hf1194, pw_ps h _ hW1193⟩
                                    · conv => whnf
                                      refine pw_br h (fun _ h => ?_) (fun _ h => ?_)
                                      · conv => whnf
                                        refine pw_br h (fun _ h => ?_) (fun _ h => ?_)
                                        · conv => whnf
                                          obtain ⟨f1195, hW1196, hf1197⟩ := pw_reset hW1180 (q := 0) (Nat.zero_le _)
                                          exact ⟨(by omega), (by omega), ⟨_, rfl, by decide⟩, pw_cvi _, f1195, hf1197, pw_ps h _ hW1196⟩
                                        · conv => whnf
                                          refine pw_br h (fun _ h => ?_) (fun _ h => ?_)
                                          · conv => whnf
                                            obtain ⟨f1198, hW1199, hf1200⟩ := pw_reset hW1180 (q := 0) (Nat.zero_le _)
                                            exact ⟨(by omega), (by omega), ⟨_, rfl, by decide⟩, pw_cvi _, f1198, hf1200, pw_ps h _ hW1199⟩
                                          · conv => whnf
                                            obtain ⟨f1201, hW1202, hf1203⟩ := pw_reset hW1180 (q := 0) (Nat.zero_le _)
                                            exact ⟨(by omega), (by omega), ⟨_, rfl, by decide⟩, pw_cvi _, f1201, hf1203, pw_ps h _ hW1202⟩
                                      · conv => whnf
                                        obtain ⟨f1204, hW1205, hf1206⟩ := pw_reset hW1180 (q := 0) (Nat.zero_le _)
                                        exact ⟨(by omega), (by omega), ⟨_, rfl, by decide⟩, pw_cvi _, f1204, hf1206, pw_ps h _ hW1205⟩
                                · conv => whnf
                                  refine np_rd_i (hW1174.ga ho1167 ho1168) ?_
                                  conv => whnf
                                  refine pw_ck h (fun _ h => ?_)
                                  conv => whnf
                                  refine pw_wr (a := u1165) (i := u1166) (d := upd (S1172 u1165 u1166) (2 : Int32).toNatClampNeg ((S1172 u1165 u1166 (2 : Int32).toNatClampNeg) + 1)) hW1174 ho1168 (pw_ent_arr ho1167).symm h (fun S1207 f1208 hW1209 h => ?_)
                                  conv => whnf
                                  refine np_chk_i (pw_and rfl (pw_and rfl (pw_and rfl ((pw_and (pw_le (by omega)) (pw_le (by omega))))))) ?_
                                  conv => whnf
                                  refine ⟨2, S1207, u1163, 100, 0, rfl, ho1164, rfl, rfl, hW1209, pw_bd h (fun S1210 r1213 h f1211 hW1212 => ?_)⟩
                                  conv => whnf
                                  refine pw_br h (fun _ h => ?_) (fun _ h => ?_)
                                  · conv => whnf
                                    obtain ⟨f1215, hW1216, hf1217⟩ := pw_reset hW1212 (q := 0) (Nat.zero_le _)
                                    exact ⟨(by omega), (by omega), ⟨_, rfl, by decide⟩, pw_cvi _, f1215, hf1217, pw_ps h _ hW1216⟩
                                  · conv => whnf
                                    refine pw_br h (fun _ h => ?_) (fun _ h => ?_)
                                    · conv => whnf
                                      refine pw_br h (fun _ h => ?_) (fun _ h => ?_)
                                      · conv => whnf
                                        obtain ⟨f1218, hW1219, hf1220⟩ := pw_reset hW1212 (q := 0) (Nat.zero_le _)
                                        exact ⟨(by omega), (by omega), ⟨_, rfl, by decide⟩, pw_cvi _, f1218, hf1220, pw_ps h _ hW1219⟩
                                      · conv => whnf
                                        refine pw_br h (fun _ h => ?_) (fun _ h => ?_)
                                        · conv => whnf
                                          obtain ⟨f1221, hW1222, hf1223⟩ := pw_reset hW1212 (q := 0) (Nat.zero_le _)
                                          exact ⟨(by omega), (by omega), ⟨_, rfl, by decide⟩, pw_cvi _, f1221, hf1223, pw_ps h _ hW1222⟩
                                        · conv => whnf
                                          obtain ⟨f1224, hW1225, hf1226⟩ := pw_reset hW1212 (q := 0) (Nat.zero_le _)
                                          exact ⟨(by omega), (by omega), ⟨_, rfl, by decide⟩, pw_cvi _, f1224, hf1226, pw_ps h _ hW1225⟩
                                    · conv => whnf
                                      refine pw_br h (fun _ h => ?_) (fun _ h => ?_)
                                      · conv => whnf
                                        refine pw_br h (fun _ h => ?_) (fun _ h => ?_)
                                        · conv => whnf
                                          obtain ⟨f1227, hW1228, hf1229⟩ := pw_reset hW1212 (q := 0) (Nat.zero_le _)
                                          exact ⟨(by omega), (by omega), ⟨_, rfl, by decide⟩, pw_cvi _, f1227, hf1229, pw_ps h _ hW1228⟩
                                        · conv => whnf
                                          refine pw_br h (fun _ h => ?_) (fun _ h => ?_)
                                          · conv => whnf
                                            obtain ⟨f1230, hW1231, hf1232⟩ := pw_reset hW1212 (q := 0) (Nat.zero_le _)
                                            exact ⟨(by omega), (by omega), ⟨_, rfl, by decide⟩, pw_cvi _, f1230, hf1232, pw_ps h _ hW1231⟩
                                          · conv => whnf
                                            obtain ⟨f1233, hW1234, hf1235⟩ := pw_reset hW1212 (q := 0) (Nat.zero_le _)
                                            exact ⟨(by omega), (by omega), ⟨_, rfl, by decide⟩, pw_cvi _, f1233, hf1235, pw_ps h _ hW1234⟩
                                      · conv => whnf
                                        obtain ⟨f1236, hW1237, hf1238⟩ := pw_reset hW1212 (q := 0) (Nat.zero_le _)
                                        exact ⟨(by omega), (by omega), ⟨_, rfl, by decide⟩, pw_cvi _, f1236, hf1238, pw_ps h _ hW1237⟩
                            · exact (pw_pn h).elim
                    · exact (pw_pn h).elim
              · exact (pw_pn h).elim
          · exact (pw_pn h).elim
        · conv => whnf
          refine pw_st h (fun z1255 h => ?_)
          conv => whnf
          refine np_rd_i (hW318.ga ho310 ho311) ?_
          conv => whnf
          refine pw_ck h (fun _ h => ?_)
          conv => whnf
          refine np_rd_i (hW318.ga ho310 ho311) ?_
          conv => whnf
          refine pw_ck h (fun _ h => ?_)
          conv => whnf
          refine pw_wr (a := u308) (i := u309) (d := upd (S316 u308 u309) (2 : Int32).toNatClampNeg ((S316 u308 u309 (2 : Int32).toNatClampNeg) + 1)) hW318 ho311 (pw_ent_arr ho310).symm h (fun S1256 f1257 hW1258 h => ?_)
          conv => whnf
          refine pw_new (a := 100) (q := 0) rfl (by decide) hW1258 h (fun S1259 f1260 hW1261 h => ?_)
          conv => whnf
          refine pw_st h (fun z1262 h => ?_)
          conv => whnf
          refine np_gl (L_L_upgrades_274 (dc := 84) (ds := 506) hX hR (fun S1275 u1263 u1265 u1266 u1267 u1270 u1271 u1274 f1276 ce1557 sl1558 ho1264 ho1268 ho1269 ho1272 ho1273 hc1559 hs1560 hW1277 h => ?_) (pw_F 9) S1259 u301 u303 u304 u305 u308 u309 z1255 z1262 f1260 _ _ ho302 ho306 ho307 ho310 ho311 (by rw [pw_F_eq]; omega) (by rw [pw_F_eq]; omega) hW1261 h) ⟨rfl, rfl, rfl, rfl, rfl, rfl, rfl, trivial⟩
          · refine np_soundW (so_L_upgrades hX hR) [22, 274, 375, 414, 506] 400 333 _ _ _ _ _ ?_
            conv => whnf
            refine np_rd_i (hW1277.ga ho1272 ho1273) ?_
            conv => whnf
            refine pw_ck h (fun _ h => ?_)
            conv => whnf
            refine pw_ck h (fun _ h => ?_)
            conv => whnf
            refine pw_st h (fun z1278 h => ?_)
            conv => whnf
            refine np_rd_i (hW1277.ga ho1272 ho1273) ?_
            conv => whnf
            refine pw_ck h (fun _ h => ?_)
            conv => whnf
            refine pw_st h (fun z1279 h => ?_)
            conv => whnf
            refine np_rd_i (hW1277.g ho1264) ?_
            conv => whnf
            refine np_chk_i (pw_and rfl (pw_and rfl (pw_and rfl (pw_and rfl ((pw_and (pw_le (by omega)) (pw_le (by omega)))))))) ?_
            conv => whnf
            refine ⟨1, S1275, u1263, z1278, z1279, rfl, ho1264, hW1277, pw_bd h (fun S1280 r1283 h f1281 hW1282 => ?_)⟩
            rcases r1283 with r1285 | e1286
            · replace h := pw_ei h
              conv => whnf
              refine pw_st h (fun z1287 h => ?_)
              conv => whnf
              refine np_chk_i (pw_and rfl (pw_and rfl (pw_and rfl ((pw_and (pw_le (by omega)) (pw_le (by omega))))))) ?_
              conv => whnf
              refine ⟨1, S1280, u1263, z1278, u1266, u1267, rfl, ho1264, ho1268, ho1269, hW1282, pw_bd h (fun S1288 r1291 h f1289 hW1290 => ?_)⟩
              conv => whnf
              refine pw_new (a := 101) (q := 1) rfl (by decide) hW1290 h (fun S1293 f1294 hW1295 h => ?_)
              conv => whnf
              refine pw_st h (fun z1296 h => ?_)
              conv => whnf
              refine np_gl (L_L_upgrades_375 (dc := 64) (ds := 384) hX hR (fun S1310 u1297 u1299 u1300 u1303 u1304 u1307 u1308 u1309 f1311 ce1553 sl1554 ho1298 ho1301 ho1302 ho1305 ho1306 hc1555 hs1556 hW1312 h => ?_) (pw_F 9) S1293 u1263 u1266 u1267 u1270 u1271 u1274 z1279 z1287 z1296 f1294 _ _ ho1264 ho1268 ho1269 ho1272 ho1273 (by rw [pw_F_eq]; omega) (by rw [pw_F_eq]; omega) hW1295 h) ⟨rfl, rfl, rfl, rfl, rfl, rfl, rfl, rfl, rfl, trivial⟩
              · refine np_soundW (so_L_upgrades hX hR) [22, 274, 375, 414, 506] 400 406 _ _ _ _ _ ?_
                conv => whnf
                refine np_chk_i (pw_and rfl (pw_and rfl (pw_and rfl ((pw_and (pw_le (by omega)) (pw_le (by omega))))))) ?_
                conv => whnf
                refine ⟨2, S1310, u1297, u1299, u1300, rfl, ho1298, ho1301, ho1302, hW1312, pw_bd h (fun S1313 r1316 h f1314 hW1315 => ?_)⟩
                conv => whnf
                refine pw_st h (fun z1318 h => ?_)
                conv => whnf
                refine np_gl (L_L_upgrades_414 (dc := 46) (ds := 276) hX hR (fun S1332 u1319 u1321 u1322 u1325 u1326 u1329 u1330 u1331 f1333 ce1549 sl1550 ho1320 ho1323 ho1324 ho1327 ho1328 hc1551 hs1552 hW1334 h => ?_) (pw_F 9) S1313 u1297 u1299 u1300 u1303 u1304 u1307 u1308 u1309 z1318 f1314 _ _ ho1298 ho1301 ho1302 ho1305 ho1306 (by rw [pw_F_eq]; omega) (by rw [pw_F_eq]; omega) hW1315 h) ⟨rfl, rfl, rfl, rfl, rfl, rfl, rfl, rfl, rfl, trivial⟩
                · refine np_soundW (so_L_upgrades hX hR) [22, 274, 375, 414, 506] 400 460 _ _ _ _ _ ?_
                  conv => whnf
                  refine np_rd_i (hW1334.ga ho1327 ho1328) ?_
                  conv => whnf
                  refine pw_ck h (fun _ h => ?_)
                  conv => whnf
                  refine pw_br h (fun _ h => ?_) (fun _ h => ?_)
                  · conv => whnf
                    refine np_rd_i (hW1334.ga ho1327 ho1328) ?_
                    conv => whnf
                    refine pw_ck h (fun _ h => ?_)
                    conv => whnf
                    refine pw_wr (a := u1325) (i := u1326) (d := upd (S1332 u1325 u1326) (2 : Int32).toNatClampNeg ((S1332 u1325 u1326 (2 : Int32).toNatClampNeg) + 0)) hW1334 ho1328 (pw_ent_arr ho1327).symm h (fun S1335 f1336 hW1337 h => ?_)
                    conv => whnf
                    refine np_chk_i (pw_and rfl (pw_and rfl (pw_and rfl ((pw_and (pw_le (by omega)) (pw_le (by omega))))))) ?_
                    conv => whnf
                    refine ⟨2, S1335, u1319, 100, 0, rfl, ho1320, rfl, rfl, hW1337, pw_bd h (fun S1338 r1341 h f1339 hW1340 => ?_)⟩
                    conv => whnf
                    refine np_rd_i (hW1340.g ho1320) ?_
                    conv => whnf
                    refine np_chk_i (pw_and rfl (pw_and rfl (pw_and rfl (pw_and rfl ((pw_and (pw_le (by omega)) (pw_le (by omega)))))))) ?_
                    conv => whnf
                    refine ⟨2, S1338, u1319, u1330, rfl, ho1320, hW1340, pw_bd h (fun S1343 r1346 h f1344 hW1345 => ?_)⟩
                    rcases r1346 with r1348 | e1349
                    · replace h := pw_ei h
                      conv => whnf
                      refine pw_st h (fun z1350 h => ?_)
                      conv => whnf
                      refine np_chk_i (pw_and rfl (pw_and rfl (pw_and rfl ((pw_and (pw_le (by omega)) (pw_le (by omega))))))) ?_
                      conv => whnf
                      refine ⟨2, S1343, u1319, u1330, u1321, u1322, rfl, ho1320, ho1323, ho1324, hW1345, pw_bd h (fun S1351 r1354 h f1352 hW1353 => ?_)⟩
                      conv => whnf
                      refine np_chk_i (pw_and rfl (pw_and rfl (pw_and rfl ((pw_and (pw_le (by omega)) (pw_le (by omega))))))) ?_
                      conv => whnf
                      refine ⟨2, S1351, u1319, u1321, u1322, rfl, ho1320, ho1323, ho1324, hW1353, pw_bd h (fun S1356 r1359 h f1357 hW1358 => ?_)⟩
                      conv => whnf
                      refine pw_st h (fun z1361 h => ?_)
                      conv => whnf
                      refine np_gl (L_L_upgrades_506 (dc := 9) (ds := 54) hX hR (fun S1371 u1362 u1364 u1365 u1368 u1369 u1370 f1372 ce1438 sl1439 ho1363 ho1366 ho1367 hc1440 hs1441 hW1373 h => ?_) (pw_F 9) S1356 u1319 u1325 u1326 u1329 u1331 z1350 z1361 f1357 _ _ ho1320 ho1327 ho1328 (by rw [pw_F_eq]; omega) (by rw [pw_F_eq]; omega) hW1358 h) ⟨rfl, rfl, rfl, rfl, rfl, rfl, rfl, trivial⟩
                      · refine np_soundW (so_L_upgrades hX hR) [22, 274, 375, 414, 506] 400 563 _ _ _ _ _ ?_
                        conv => whnf
                        refine np_rd_i (hW1373.ga ho1366 ho1367) ?_
                        conv => whnf
                        refine pw_ck h (fun _ h => ?_)
                        conv => whnf
                        refine pw_br h (fun _ h => ?_) (fun _ h => ?_)
                        · conv => whnf
                          refine np_rd_i (hW1373.ga ho1366 ho1367) ?_
                          conv => whnf
                          refine pw_ck h (fun _ h => ?_)
                          conv => whnf
                          refine pw_wr (a := u1364) (i := u1365) (d := upd (S1371 u1364 u1365) (2 : Int32).toNatClampNeg ((S1371 u1364 u1365 (2 : Int32).toNatClampNeg) + 0)) hW1373 ho1367 (pw_ent_arr ho1366).symm h (fun S1374 f1375 hW1376 h => ?_)
                          conv => whnf
                          refine np_chk_i (pw_and rfl (pw_and rfl (pw_and rfl ((pw_and (pw_le (by omega)) (pw_le (by omega))))))) ?_
                          conv => whnf
                          refine ⟨2, S1374, u1362, 100, 0, rfl, ho1363, rfl, rfl, hW1376, pw_bd h (fun S1377 r1380 h f1378 hW1379 => ?_)⟩
                          conv => whnf
                          refine pw_br h (fun _ h => ?_) (fun _ h => ?_)
                          · conv => whnf
                            obtain ⟨f1382, hW1383, hf1384⟩ := pw_reset hW1379 (q := 0) (Nat.zero_le _)
                            exact ⟨(by omega), (by omega), ⟨_, rfl, by decide⟩, pw_cvi _, f1382, hf1384, pw_ps h _ hW1383⟩
                          · conv => whnf
                            refine pw_br h (fun _ h => ?_) (fun _ h => ?_)
                            · conv => whnf
                              refine pw_br h (fun _ h => ?_) (fun _ h => ?_)
                              · conv => whnf
                                obtain ⟨f1385, hW1386, hf1387⟩ := pw_reset hW1379 (q := 0) (Nat.zero_le _)
                                exact ⟨(by omega), (by omega), ⟨_, rfl, by decide⟩, pw_cvi _, f1385, hf1387, pw_ps h _ hW1386⟩
                              · conv => whnf
                                refine pw_br h (fun _ h => ?_) (fun _ h => ?_)
                                · conv => whnf
                                  obtain ⟨f1388, hW1389, hf1390⟩ := pw_reset hW1379 (q := 0) (Nat.zero_le _)
                                  exact ⟨(by omega), (by omega), ⟨_, rfl, by decide⟩, pw_cvi _, f1388, hf1390, pw_ps h _ hW1389⟩
                                · conv => whnf
                                  obtain ⟨f1391, hW1392, hf1393⟩ := pw_reset hW1379 (q := 0) (Nat.zero_le _)
                                  exact ⟨(by omega), (by omega), ⟨_, rfl, by decide⟩, pw_cvi _, f1391, hf1393, pw_ps h _ hW1392⟩
                            · conv => whnf
                              refine pw_br h (fun _ h => ?_) (fun _ h => ?_)
                              · conv => whnf
                                refine pw_br h (fun _ h => ?_) (fun _ h => ?_)
                                · conv => whnf
                                  obtain ⟨f1394, hW1395, hf1396⟩ := pw_reset hW1379 (q := 0) (Nat.zero_le _)
                                  exact ⟨(by omega), (by omega), ⟨_, rfl, by decide⟩, pw_cvi _, f1394, hf1396, pw_ps h _ hW1395⟩
                                · conv => whnf
                                  refine pw_br h (fun _ h => ?_) (fun _ h => ?_)
                                  · conv => whnf
                                    obtain ⟨f1397, hW1398, hf1399⟩ := pw_reset hW1379 (q := 0) (Nat.zero_le _)
                                    exact ⟨(by omega), (by omega), ⟨_, rfl, by decide⟩, pw_cvi _, f1397, hf1399, pw_ps h _ hW1398⟩
                                  · conv => whnf
                                    obtain ⟨f1400, hW1401, hf1402⟩ := pw_reset hW1379 (q := 0) (Nat.zero_le _)
                                    exact ⟨(by omega), (by omega), ⟨_, rfl, by decide⟩, pw_cvi _, f1400, hf1402, pw_ps h _ hW1401⟩
                              · conv => whnf
                                obtain ⟨f1403, hW1404, hf1405⟩ := pw_reset hW1379 (q := 0) (Nat.zero_le _)
                                exact ⟨(by omega), (by omega), ⟨_, rfl, by decide⟩, pw_cvi _, f1403, hf1405, pw_ps h _ hW1404⟩
                        · conv => whnf
                          refine np_rd_i (hW1373.ga ho1366 ho1367) ?_
                          conv => whnf
                          refine pw_ck h (fun _ h => ?_)
                          conv => whnf
                          refine pw_wr (a := u1364) (i := u1365) (d := upd (S1371 u1364 u1365) (2 : Int32).toNatClampNeg ((S1371 u1364 u1365 (2 : Int32).toNatClampNeg) + 1)) hW1373 ho1367 (pw_ent_arr ho1366).symm h (fun S1406 f1407 hW1408 h => ?_)
                          conv => whnf
                          refine np_chk_i (pw_and rfl (pw_and rfl (pw_and rfl ((pw_and (pw_le (by omega)) (pw_le (by omega))))))) ?_
                          conv => whnf
                          refine ⟨2, S1406, u1362, 100, 0, rfl, ho1363, rfl, rfl, hW1408, pw_bd h (fun S1409 r1412 h f1410 hW1411 => ?_)⟩
                          conv => whnf
                          refine pw_br h (fun _ h => ?_) (fun _ h => ?_)
                          · conv => whnf
                            obtain ⟨f1414, hW1415, hf1416⟩ := pw_reset hW1411 (q := 0) (Nat.zero_le _)
                            exact ⟨(by omega), (by omega), ⟨_, rfl, by decide⟩, pw_cvi _, f1414, hf1416, pw_ps h _ hW1415⟩
                          · conv => whnf
                            refine pw_br h (fun _ h => ?_) (fun _ h => ?_)
                            · conv => whnf
                              refine pw_br h (fun _ h => ?_) (fun _ h => ?_)
                              · conv => whnf
                                obtain ⟨f1417, hW1418, hf1419⟩ := pw_reset hW1411 (q := 0) (Nat.zero_le _)
                                exact ⟨(by omega), (by omega), ⟨_, rfl, by decide⟩, pw_cvi _, f1417, hf1419, pw_ps h _ hW1418⟩
                              · conv => whnf
                                refine pw_br h (fun _ h => ?_) (fun _ h => ?_)
                                · conv => whnf
                                  obtain ⟨f1420, hW1421, hf1422⟩ := pw_reset hW1411 (q := 0) (Nat.zero_le _)
                                  exact ⟨(by omega), (by omega), ⟨_, rfl, by decide⟩, pw_cvi _, f1420, hf1422, pw_ps h _ hW1421⟩
                                · conv => whnf
                                  obtain ⟨f1423, hW1424, hf1425⟩ := pw_reset hW1411 (q := 0) (Nat.zero_le _)
                                  exact ⟨(by omega), (by omega), ⟨_, rfl, by decide⟩, pw_cvi _, f1423, hf1425, pw_ps h _ hW1424⟩
                            · conv => whnf
                              refine pw_br h (fun _ h => ?_) (fun _ h => ?_)
                              · conv => whnf
                                refine pw_br h (fun _ h => ?_) (fun _ h => ?_)
                                · conv => whnf
                                  obtain ⟨f1426, hW1427, hf1428⟩ := pw_reset hW1411 (q := 0) (Nat.zero_le _)
                                  exact ⟨(by omega), (by omega), ⟨_, rfl, by decide⟩, pw_cvi _, f1426, hf1428, pw_ps h _ hW1427⟩
                                · conv => whnf
                                  refine pw_br h (fun _ h => ?_) (fun _ h => ?_)
                                  · conv => whnf
                                    obtain ⟨f1429, hW1430, hf1431⟩ := pw_reset hW1411 (q := 0) (Nat.zero_le _)
                                    exact ⟨(by omega), (by omega), ⟨_, rfl, by decide⟩, pw_cvi _, f1429, hf1431, pw_ps h _ hW1430⟩
                                  · conv => whnf
                                    obtain ⟨f1432, hW1433, hf1434⟩ := pw_reset hW1411 (q := 0) (Nat.zero_le _)
                                    exact ⟨(by omega), (by omega), ⟨_, rfl, by decide⟩, pw_cvi _, f1432, hf1434, pw_ps h _ hW1433⟩
                              · conv => whnf
                                obtain ⟨f1435, hW1436, hf1437⟩ := pw_reset hW1411 (q := 0) (Nat.zero_le _)
                                exact ⟨(by omega), (by omega), ⟨_, rfl, by decide⟩, pw_cvi _, f1435, hf1437, pw_ps h _ hW1436⟩
                    · exact (pw_pn h).elim
                  · conv => whnf
                    refine np_rd_i (hW1334.ga ho1327 ho1328) ?_
                    conv => whnf
                    refine pw_ck h (fun _ h => ?_)
                    conv => whnf
                    refine pw_wr (a := u1325) (i := u1326) (d := upd (S1332 u1325 u1326) (2 : Int32).toNatClampNeg ((S1332 u1325 u1326 (2 : Int32).toNatClampNeg) + 1)) hW1334 ho1328 (pw_ent_arr ho1327).symm h (fun S1442 f1443 hW1444 h => ?_)
                    conv => whnf
                    refine np_chk_i (pw_and rfl (pw_and rfl (pw_and rfl ((pw_and (pw_le (by omega)) (pw_le (by omega))))))) ?_
                    conv => whnf
                    refine ⟨2, S1442, u1319, 100, 0, rfl, ho1320, rfl, rfl, hW1444, pw_bd h (fun S1445 r1448 h f1446 hW1447 => ?_)⟩
                    conv => whnf
                    refine np_rd_i (hW1447.g ho1320) ?_
                    conv => whnf
                    refine np_chk_i (pw_and rfl (pw_and rfl (pw_and rfl (pw_and rfl ((pw_and (pw_le (by omega)) (pw_le (by omega)))))))) ?_
                    conv => whnf
                    refine ⟨2, S1445, u1319, u1330, rfl, ho1320, hW1447, pw_bd h (fun S1450 r1453 h f1451 hW1452 => ?_)⟩
                    rcases r1453 with r1455 | e1456
                    · replace h := pw_ei h
                      conv => whnf
                      refine pw_st h (fun z1457 h => ?_)
                      conv => whnf
                      refine np_chk_i (pw_and rfl (pw_and rfl (pw_and rfl ((pw_and (pw_le (by omega)) (pw_le (by omega))))))) ?_
                      conv => whnf
                      refine ⟨2, S1450, u1319, u1330, u1321, u1322, rfl, ho1320, ho1323, ho1324, hW1452, pw_bd h (fun S1458 r1461 h f1459 hW1460 => ?_)⟩
                      conv => whnf
                      refine np_chk_i (pw_and rfl (pw_and rfl (pw_and rfl ((pw_and (pw_le (by omega)) (pw_le (by omega))))))) ?_
                      conv => whnf
                      refine ⟨2, S1458, u1319, u1321, u1322, rfl, ho1320, ho1323, ho1324, hW1460, pw_bd h (fun S1463 r1466 h f1464 hW1465 => ?_)⟩
                      conv => whnf
                      refine pw_st h (fun z1468 h => ?_)
                      conv => whnf
                      refine np_gl (L_L_upgrades_506 (dc := 9) (ds := 54) hX hR (fun S1478 u1469 u1471 u1472 u1475 u1476 u1477 f1479 ce1545 sl1546 ho1470 ho1473 ho1474 hc1547 hs1548 hW1480 h => ?_) (pw_F 9) S1463 u1319 u1325 u1326 u1329 u1331 z1457 z1468 f1464 _ _ ho1320 ho1327 ho1328 (by rw [pw_F_eq]; omega) (by rw [pw_F_eq]; omega) hW1465 h) ⟨rfl, rfl, rfl, rfl, rfl, rfl, rfl, trivial⟩
                      · refine np_soundW (so_L_upgrades hX hR) [22, 274, 375, 414, 506] 400 563 _ _ _ _ _ ?_
                        conv => whnf
                        refine np_rd_i (hW1480.ga ho1473 ho1474) ?_
                        conv => whnf
                        refine pw_ck h (fun _ h => ?_)
                        conv => whnf
                        refine pw_br h (fun _ h => ?_) (fun _ h => ?_)
                        · conv => whnf
                          refine np_rd_i (hW1480.ga ho1473 ho1474) ?_
                          conv => whnf
                          refine pw_ck h (fun _ h => ?_)
                          conv => whnf
                          refine pw_wr (a := u1471) (i := u1472) (d := upd (S1478 u1471 u1472) (2 : Int32).toNatClampNeg ((S1478 u1471 u1472 (2 : Int32).toNatClampNeg) + 0)) hW1480 ho1474 (pw_ent_arr ho1473).symm h (fun S1481 f1482 hW1483 h => ?_)
                          conv => whnf
                          refine np_chk_i (pw_and rfl (pw_and rfl (pw_and rfl ((pw_and (pw_le (by omega)) (pw_le (by omega))))))) ?_
                          conv => whnf
                          refine ⟨2, S1481, u1469, 100, 0, rfl, ho1470, rfl, rfl, hW1483, pw_bd h (fun S1484 r1487 h f1485 hW1486 => ?_)⟩
                          conv => whnf
                          refine pw_br h (fun _ h => ?_) (fun _ h => ?_)
                          · conv => whnf
                            obtain ⟨f1489, hW1490, hf1491⟩ := pw_reset hW1486 (q := 0) (Nat.zero_le _)
                            exact ⟨(by omega), (by omega), ⟨_, rfl, by decide⟩, pw_cvi _, f1489, hf1491, pw_ps h _ hW1490⟩
                          · conv => whnf
                            refine pw_br h (fun _ h => ?_) (fun _ h => ?_)
                            · conv => whnf
                              refine pw_br h (fun _ h => ?_) (fun _ h => ?_)
                              · conv => whnf
                                obtain ⟨f1492, hW1493, hf1494⟩ := pw_reset hW1486 (q := 0) (Nat.zero_le _)
                                exact ⟨(by omega), (by omega), ⟨_, rfl, by decide⟩, pw_cvi _, f1492, hf1494, pw_ps h _ hW1493⟩
                              · conv => whnf
                                refine pw_br h (fun _ h => ?_) (fun _ h => ?_)
                                · conv => whnf
                                  obtain ⟨f1495, hW1496, hf1497⟩ := pw_reset hW1486 (q := 0) (Nat.zero_le _)
                                  exact ⟨(by omega), (by omega), ⟨_, rfl, by decide⟩, pw_cvi _, f1495, hf1497, pw_ps h _ hW1496⟩
                                · conv => whnf
                                  obtain ⟨f1498, hW1499, hf1500⟩ := pw_reset hW1486 (q := 0) (Nat.zero_le _)
                                  exact ⟨(by omega), (by omega), ⟨_, rfl, by decide⟩, pw_cvi _, f1498, hf1500, pw_ps h _ hW1499⟩
                            · conv => whnf
                              refine pw_br h (fun _ h => ?_) (fun _ h => ?_)
                              · conv => whnf
                                refine pw_br h (fun _ h => ?_) (fun _ h => ?_)
                                · conv => whnf
                                  obtain ⟨f1501, hW1502, hf1503⟩ := pw_reset hW1486 (q := 0) (Nat.zero_le _)
                                  exact ⟨(by omega), (by omega), ⟨_, rfl, by decide⟩, pw_cvi _, f1501, hf1503, pw_ps h _ hW1502⟩
                                · conv => whnf
                                  refine pw_br h (fun _ h => ?_) (fun _ h => ?_)
                                  · conv => whnf
                                    obtain ⟨f1504, hW1505, hf1506⟩ := pw_reset hW1486 (q := 0) (Nat.zero_le _)
                                    exact ⟨(by omega), (by omega), ⟨_, rfl, by decide⟩, pw_cvi _, f1504, hf1506, pw_ps h _ hW1505⟩
                                  · conv => whnf
                                    obtain ⟨f1507, hW1508, hf1509⟩ := pw_reset hW1486 (q := 0) (Nat.zero_le _)
                                    exact ⟨(by omega), (by omega), ⟨_, rfl, by decide⟩, pw_cvi _, f1507, hf1509, pw_ps h _ hW1508⟩
                              · conv => whnf
                                obtain ⟨f1510, hW1511, hf1512⟩ := pw_reset hW1486 (q := 0) (Nat.zero_le _)
                                exact ⟨(by omega), (by omega), ⟨_, rfl, by decide⟩, pw_cvi _, f1510, hf1512, pw_ps h _ hW1511⟩
                        · conv => whnf
                          refine np_rd_i (hW1480.ga ho1473 ho1474) ?_
                          conv => whnf
                          refine pw_ck h (fun _ h => ?_)
                          conv => whnf
                          refine pw_wr (a := u1471) (i := u1472) (d := upd (S1478 u1471 u1472) (2 : Int32).toNatClampNeg ((S1478 u1471 u1472 (2 : Int32).toNatClampNeg) + 1)) hW1480 ho1474 (pw_ent_arr ho1473).symm h (fun S1513 f1514 hW1515 h => ?_)
                          conv => whnf
                          refine np_chk_i (pw_and rfl (pw_and rfl (pw_and rfl ((pw_and (pw_le (by omega)) (pw_le (by omega))))))) ?_
                          conv => whnf
                          refine ⟨2, S1513, u1469, 100, 0, rfl, ho1470, rfl, rfl, hW1515, pw_bd h (fun S1516 r1519 h f1517 hW1518 => ?_)⟩
                          conv => whnf
                          refine pw_br h (fun _ h => ?_) (fun _ h => ?_)
                          · conv => whnf
                            obtain ⟨f1521, hW1522, hf1523⟩ := pw_reset hW1518 (q := 0) (Nat.zero_le _)
                            exact ⟨(by omega), (by omega), ⟨_, rfl, by decide⟩, pw_cvi _, f1521, hf1523, pw_ps h _ hW1522⟩
                          · conv => whnf
                            refine pw_br h (fun _ h => ?_) (fun _ h => ?_)
                            · conv => whnf
                              refine pw_br h (fun _ h => ?_) (fun _ h => ?_)
                              · conv => whnf
                                obtain ⟨f1524, hW1525, hf1526⟩ := pw_reset hW1518 (q := 0) (Nat.zero_le _)
                                exact ⟨(by omega), (by omega), ⟨_, rfl, by decide⟩, pw_cvi _, f1524, hf1526, pw_ps h _ hW1525⟩
                              · conv => whnf
                                refine pw_br h (fun _ h => ?_) (fun _ h => ?_)
                                · conv => whnf
                                  obtain ⟨f1527, hW1528, hf1529⟩ := pw_reset hW1518 (q := 0) (Nat.zero_le _)
                                  exact ⟨(by omega), (by omega), ⟨_, rfl, by decide⟩, pw_cvi _, f1527, hf1529, pw_ps h _ hW1528⟩
                                · conv => whnf
                                  obtain ⟨f1530, hW1531, hf1532⟩ := pw_reset hW1518 (q := 0) (Nat.zero_le _)
                                  exact ⟨(by omega), (by omega), ⟨_, rfl, by decide⟩, pw_cvi _, f1530, hf1532, pw_ps h _ hW1531⟩
                            · conv => whnf
                              refine pw_br h (fun _ h => ?_) (fun _ h => ?_)
                              · conv => whnf
                                refine pw_br h (fun _ h => ?_) (fun _ h => ?_)
                                · conv => whnf
                                  obtain ⟨f1533, hW1534, hf1535⟩ := pw_reset hW1518 (q := 0) (Nat.zero_le _)
                                  exact ⟨(by omega), (by omega), ⟨_, rfl, by decide⟩, pw_cvi _, f1533, hf1535, pw_ps h _ hW1534⟩
                                · conv => whnf
                                  refine pw_br h (fun _ h => ?_) (fun _ h => ?_)
                                  · conv => whnf
                                    obtain ⟨f1536, hW1537, hf1538⟩ := pw_reset hW1518 (q := 0) (Nat.zero_le _)
                                    exact ⟨(by omega), (by omega), ⟨_, rfl, by decide⟩, pw_cvi _, f1536, hf1538, pw_ps h _ hW1537⟩
                                  · conv => whnf
                                    obtain ⟨f1539, hW1540, hf1541⟩ := pw_reset hW1518 (q := 0) (Nat.zero_le _)
                                    exact ⟨(by omega), (by omega), ⟨_, rfl, by decide⟩, pw_cvi _, f1539, hf1541, pw_ps h _ hW1540⟩
                              · conv => whnf
                                obtain ⟨f1542, hW1543, hf1544⟩ := pw_reset hW1518 (q := 0) (Nat.zero_le _)
                                exact ⟨(by omega), (by omega), ⟨_, rfl, by decide⟩, pw_cvi _, f1542, hf1544, pw_ps h _ hW1543⟩
                    · exact (pw_pn h).elim
            · exact (pw_pn h).elim
      · exact (pw_pn h).elim
  · conv => whnf
    obtain ⟨f1565, hW1566, hf1567⟩ := pw_reset hW (q := 0) (Nat.zero_le _)
    exact ⟨Nat.le_of_ble_eq_true rfl, Nat.le_of_ble_eq_true rfl, ⟨_, rfl, by decide⟩, pw_cvi _, f1565, hf1567, pw_ps h _ hW1566⟩
