/-! The law: three presses. -/
theorem gw83 : (Jvm.Cond.methodLink "NotationPressLaw" (215 : Nat) ({ cls := "NotationPressLaw", name := "press", desc := "([II)Z" } : Jvm.MethodName)) ∈ np_gw := np_gwi 83 (by decide +kernel) rfl
theorem gw84 : (Jvm.Cond.static ({ cls := "NotationPressLaw", name := "press", desc := "([II)Z" } : Jvm.MethodName)) ∈ np_gw := np_gwi 84 (by decide +kernel) rfl
theorem gw85 : (Jvm.Cond.code ({ cls := "NotationPressLaw", name := "press", desc := "([II)Z" } : Jvm.MethodName) method_23_code (18 : Nat) (Option.some Jvm.ClassFile.FieldType.boolean)) ∈ np_gw := np_gwi 85 rfl rfl
abbrev sp_L_press : np_Sp := fun vs w Q => ∃ x : Int32, vs = [.ref 0, .int x] ∧ (∃ v : Nat, v < 500 ∧ x = Int32.ofNat v) ∧ ∀ r : Int32, r = 1 → Q (some (.int r)) w
theorem dL_law_0 : decode cL_law 0 = .ok (.aload_n 0, 1) := by decide +kernel
theorem dL_law_1 : decode cL_law 1 = .ok (.iconst 0, 1) := by decide +kernel
theorem dL_law_2 : decode cL_law 2 = .ok (.invokestatic 215, 3) := by decide +kernel
theorem dL_law_5 : decode cL_law 5 = .ok (.ifCond .eq 27, 3) := by decide +kernel
theorem dL_law_8 : decode cL_law 8 = .ok (.aload_n 0, 1) := by decide +kernel
theorem dL_law_9 : decode cL_law 9 = .ok (.sipush 165, 3) := by decide +kernel
theorem dL_law_12 : decode cL_law 12 = .ok (.invokestatic 215, 3) := by decide +kernel
theorem dL_law_15 : decode cL_law 15 = .ok (.ifCond .eq 17, 3) := by decide +kernel
theorem dL_law_18 : decode cL_law 18 = .ok (.aload_n 0, 1) := by decide +kernel
theorem dL_law_19 : decode cL_law 19 = .ok (.sipush 330, 3) := by decide +kernel
theorem dL_law_22 : decode cL_law 22 = .ok (.invokestatic 215, 3) := by decide +kernel
theorem dL_law_25 : decode cL_law 25 = .ok (.ifCond .eq 7, 3) := by decide +kernel
theorem dL_law_28 : decode cL_law 28 = .ok (.iconst 1, 1) := by decide +kernel
theorem dL_law_29 : decode cL_law 29 = .ok (.goto 4, 3) := by decide +kernel
theorem dL_law_32 : decode cL_law 32 = .ok (.iconst 0, 1) := by decide +kernel
theorem dL_law_33 : decode cL_law 33 = .ok (.ireturn, 1) := by decide +kernel
def is_L_law (Ls : Nat) (Rt : np_Rt) : List (Nat × np_Op) := [(0, np_ald 1 0), (1, np_push 1 (.int 0)), (2, nq_call 2 sp_L_press 18 188083 1145773 600074 7301550), (5, nq_if (fun x => x = 0) 32), (8, np_ald 1 0), (9, np_push 3 (.int 165)), (12, nq_call 2 sp_L_press 18 188083 1145773 600074 7301550), (15, nq_if (fun x => x = 0) 32), (18, np_ald 1 0), (19, np_push 3 (.int 330)), (22, nq_call 2 sp_L_press 18 188083 1145773 600074 7301550), (25, nq_if (fun x => x = 0) 32), (28, np_push 1 (.int 1)), (29, np_goto 33), (32, np_push 1 (.int 0)), (33, np_ret Rt)]
set_option maxRecDepth 20000 in
theorem so_L_law {X : np_Ctx} {Rt : np_Rt} (hX : np_ok RL cL_law 1 15 670 600074 7301550 .ireturn X) {Ls : Nat} (hL : Ls < 1000) {xs : Nat → Int32} (hf : np_lf Ls xs X) (hR : ∀ st w ce sl, Rt st w ce sl → X.2.2.1 st w ce sl) : ∀ q ∈ is_L_law Ls Rt, np_S X q.1 q.2 :=
  List.forall_mem_cons.mpr ⟨np_s_aload_n hX dL_law_0 rfl, List.forall_mem_cons.mpr ⟨np_s_iconst hX dL_law_1 (by decide), List.forall_mem_cons.mpr ⟨np_S.mono (op := np_call 2 sp_L_press 18 188083 1145773 600074 7301550) (np_s_callSs hX hf (C_press (Ls := Ls) (xs := xs) hL) dL_law_2 gw85 gw62 gw83 gw84 ⟨by decide, by decide, by decide⟩ (by decide) (by decide)) nq_call_le, List.forall_mem_cons.mpr ⟨np_S.mono (op := np_if (fun x => x = 0) 32) (np_s_if_eq hX dL_law_5 (by decide)) nq_if_le, List.forall_mem_cons.mpr ⟨np_s_aload_n hX dL_law_8 rfl, List.forall_mem_cons.mpr ⟨np_s_sipush hX dL_law_9 (by decide), List.forall_mem_cons.mpr ⟨np_S.mono (op := np_call 2 sp_L_press 18 188083 1145773 600074 7301550) (np_s_callSs hX hf (C_press (Ls := Ls) (xs := xs) hL) dL_law_12 gw85 gw62 gw83 gw84 ⟨by decide, by decide, by decide⟩ (by decide) (by decide)) nq_call_le, List.forall_mem_cons.mpr ⟨np_S.mono (op := np_if (fun x => x = 0) 32) (np_s_if_eq hX dL_law_15 (by decide)) nq_if_le, List.forall_mem_cons.mpr ⟨np_s_aload_n hX dL_law_18 rfl, List.forall_mem_cons.mpr ⟨np_s_sipush hX dL_law_19 (by decide), List.forall_mem_cons.mpr ⟨np_S.mono (op := np_call 2 sp_L_press 18 188083 1145773 600074 7301550) (np_s_callSs hX hf (C_press (Ls := Ls) (xs := xs) hL) dL_law_22 gw85 gw62 gw83 gw84 ⟨by decide, by decide, by decide⟩ (by decide) (by decide)) nq_call_le, List.forall_mem_cons.mpr ⟨np_S.mono (op := np_if (fun x => x = 0) 32) (np_s_if_eq hX dL_law_25 (by decide)) nq_if_le, List.forall_mem_cons.mpr ⟨np_s_iconst hX dL_law_28 (by decide), List.forall_mem_cons.mpr ⟨np_s_goto hX dL_law_29 (by decide), List.forall_mem_cons.mpr ⟨np_s_iconst hX dL_law_32 (by decide), List.forall_mem_cons.mpr ⟨np_S.mono (op := np_ret X.2.2.1) (np_s_ret hX dL_law_33) (nq_ret_le hR), fun _ h => nomatch h⟩⟩⟩⟩⟩⟩⟩⟩⟩⟩⟩⟩⟩⟩⟩⟩
set_option maxRecDepth 20000 in
theorem run_law {Ls : Nat} : np_runF (is_L_law Ls (fun st _ ce sl => st = [.int 1] ∧ ce ≤ 600074 ∧ sl ≤ 7301550)) [] (fun _ _ _ _ _ _ => False) 40 0 [(0, .ref 0)] [] (1, fun _ => none) 0 0 := by
  conv => whnf
  refine ⟨_, rfl, ⟨0, by decide, rfl⟩, fun r hr => ?_⟩
  subst hr
  conv => whnf
  refine ⟨_, rfl, ⟨165, by decide, rfl⟩, fun r hr => ?_⟩
  subst hr
  conv => whnf
  refine ⟨_, rfl, ⟨330, by decide, rfl⟩, fun r hr => ?_⟩
  subst hr
  conv => whnf
  exact ⟨rfl, by decide, by decide⟩
theorem law_at0 {X : np_Ctx} (hX : np_ok RL cL_law 1 15 670 600074 7301550 .ireturn X) (hRt : X.2.2.1 = fun st _ ce sl => st = [.int 1] ∧ ce ≤ 600074 ∧ sl ≤ 7301550) {L : Nat} (hL : L ≤ 260) {xs : Nat → Int32} (hf : np_lf L xs X) : np_G X 0 [(0, .ref 0)] [] (1, fun _ => none) 0 0 :=
  np_finF (so_L_law (Rt := fun st _ ce sl => st = [.int 1] ∧ ce ≤ 600074 ∧ sl ≤ 7301550) hX (Nat.lt_of_le_of_lt hL (by decide)) hf (fun _ _ _ _ h => by rw [hRt]; exact h)) 40 run_law
