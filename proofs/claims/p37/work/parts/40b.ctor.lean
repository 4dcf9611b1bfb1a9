theorem gw197 : (Jvm.Cond.methodLink "NotationPress$Reader" (3 : Nat) ({ cls := "java/lang/Object", name := "<init>", desc := "()V" } : Jvm.MethodName)) ∈ np_gw := np_gwi 197 (by decide +kernel) rfl
theorem gw198 : (Jvm.Cond.classLink "NotationPress$Reader" (9 : Nat) "NotationPress$Trace") ∈ np_gw := np_gwi 198 (by decide +kernel) rfl
theorem gw200 : (Jvm.Cond.methodLinkNest "NotationPress$Reader" (17 : Nat) ({ cls := "NotationPress$Trace", name := "<init>", desc := "()V" } : Jvm.MethodName) "NotationPress") ∈ np_nw := np_nwi 200 (by decide +kernel) rfl
theorem gw201 : (Jvm.Cond.classLink "NotationPress$Reader" (32 : Nat) "NotationPress$Items") ∈ np_gw := np_gwi 201 (by decide +kernel) rfl
theorem gw202 : (Jvm.Cond.methodLinkNest "NotationPress$Reader" (34 : Nat) ({ cls := "NotationPress$Items", name := "<init>", desc := "()V" } : Jvm.MethodName) "NotationPress") ∈ np_nw := np_nwi 202 (by decide +kernel) rfl
theorem gw203 : (Jvm.Cond.classLink "NotationPress$Reader" (39 : Nat) "NotationPress$Text") ∈ np_gw := np_gwi 203 (by decide +kernel) rfl
theorem gw204 : (Jvm.Cond.instantiable "NotationPress$Text" (3 : Nat)) ∈ np_gw := np_gwi 204 (by decide +kernel) rfl
theorem gw205 : (Jvm.Cond.methodLinkNest "NotationPress$Reader" (41 : Nat) ({ cls := "NotationPress$Text", name := "<init>", desc := "()V" } : Jvm.MethodName) "NotationPress") ∈ np_nw := np_nwi 205 (by decide +kernel) rfl
theorem gw206 : (Jvm.Cond.instanceMethod ({ cls := "NotationPress$Text", name := "<init>", desc := "()V" } : Jvm.MethodName)) ∈ np_gw := np_gwi 206 (by decide +kernel) rfl
theorem gw207 : (Jvm.Cond.code ({ cls := "NotationPress$Text", name := "<init>", desc := "()V" } : Jvm.MethodName) prog_9_method_1_code (1 : Nat) (Option.none : Option Jvm.ClassFile.FieldType)) ∈ np_gw := np_gwi 207 (by decide +kernel) rfl
theorem gw263 : (Jvm.Cond.methodLink "NotationPress$Sampler" (3 : Nat) ({ cls := "java/lang/Object", name := "<init>", desc := "()V" } : Jvm.MethodName)) ∈ np_gw := np_gwi 263 (by decide +kernel) rfl
theorem gw264 : (Jvm.Cond.classLink "NotationPress$Sampler" (9 : Nat) "NotationPress$Trace") ∈ np_gw := np_gwi 264 (by decide +kernel) rfl
theorem gw265 : (Jvm.Cond.methodLinkNest "NotationPress$Sampler" (24 : Nat) ({ cls := "NotationPress$Trace", name := "<init>", desc := "()V" } : Jvm.MethodName) "NotationPress") ∈ np_nw := np_nwi 265 (by decide +kernel) rfl
theorem dX4_init_0 : decode cX4_init 0 = .ok (.aload_n 0, 1) := by decide +kernel
theorem dX4_init_1 : decode cX4_init 1 = .ok (.invokespecial 3, 3) := by decide +kernel
theorem dX4_init_4 : decode cX4_init 4 = .ok (.aload_n 0, 1) := by decide +kernel
theorem dX4_init_5 : decode cX4_init 5 = .ok (.sipush 407, 3) := by decide +kernel
theorem dX4_init_8 : decode cX4_init 8 = .ok (.anewarray 9, 3) := by decide +kernel
theorem dX4_init_11 : decode cX4_init 11 = .ok (.putfield 11, 3) := by decide +kernel
theorem dX4_init_14 : decode cX4_init 14 = .ok (.aload_n 0, 1) := by decide +kernel
theorem dX4_init_15 : decode cX4_init 15 = .ok (.new 9, 3) := by decide +kernel
theorem dX4_init_18 : decode cX4_init 18 = .ok (.dup, 1) := by decide +kernel
theorem dX4_init_19 : decode cX4_init 19 = .ok (.invokespecial 17, 3) := by decide +kernel
theorem dX4_init_22 : decode cX4_init 22 = .ok (.putfield 18, 3) := by decide +kernel
theorem dX4_init_25 : decode cX4_init 25 = .ok (.aload_n 0, 1) := by decide +kernel
theorem dX4_init_26 : decode cX4_init 26 = .ok (.bipush 8, 2) := by decide +kernel
theorem dX4_init_28 : decode cX4_init 28 = .ok (.newarray .int, 2) := by decide +kernel
theorem dX4_init_30 : decode cX4_init 30 = .ok (.putfield 22, 3) := by decide +kernel
theorem dX4_init_33 : decode cX4_init 33 = .ok (.aload_n 0, 1) := by decide +kernel
theorem dX4_init_34 : decode cX4_init 34 = .ok (.bipush 6, 2) := by decide +kernel
theorem dX4_init_36 : decode cX4_init 36 = .ok (.newarray .int, 2) := by decide +kernel
theorem dX4_init_38 : decode cX4_init 38 = .ok (.putfield 26, 3) := by decide +kernel
theorem dX4_init_41 : decode cX4_init 41 = .ok (.aload_n 0, 1) := by decide +kernel
theorem dX4_init_42 : decode cX4_init 42 = .ok (.bipush 6, 2) := by decide +kernel
theorem dX4_init_44 : decode cX4_init 44 = .ok (.newarray .int, 2) := by decide +kernel
theorem dX4_init_46 : decode cX4_init 46 = .ok (.putfield 29, 3) := by decide +kernel
theorem dX4_init_49 : decode cX4_init 49 = .ok (.aload_n 0, 1) := by decide +kernel
theorem dX4_init_50 : decode cX4_init 50 = .ok (.new 32, 3) := by decide +kernel
theorem dX4_init_53 : decode cX4_init 53 = .ok (.dup, 1) := by decide +kernel
theorem dX4_init_54 : decode cX4_init 54 = .ok (.invokespecial 34, 3) := by decide +kernel
theorem dX4_init_57 : decode cX4_init 57 = .ok (.putfield 35, 3) := by decide +kernel
theorem dX4_init_60 : decode cX4_init 60 = .ok (.aload_n 0, 1) := by decide +kernel
theorem dX4_init_61 : decode cX4_init 61 = .ok (.new 39, 3) := by decide +kernel
theorem dX4_init_64 : decode cX4_init 64 = .ok (.dup, 1) := by decide +kernel
theorem dX4_init_65 : decode cX4_init 65 = .ok (.invokespecial 41, 3) := by decide +kernel
theorem dX4_init_68 : decode cX4_init 68 = .ok (.putfield 42, 3) := by decide +kernel
theorem dX4_init_71 : decode cX4_init 71 = .ok (.iconst 0, 1) := by decide +kernel
theorem dX4_init_72 : decode cX4_init 72 = .ok (.istore_n 1, 1) := by decide +kernel
theorem dX4_init_73 : decode cX4_init 73 = .ok (.iload_n 1, 1) := by decide +kernel
theorem dX4_init_74 : decode cX4_init 74 = .ok (.aload_n 0, 1) := by decide +kernel
theorem dX4_init_75 : decode cX4_init 75 = .ok (.getfield 11, 3) := by decide +kernel
theorem dX4_init_78 : decode cX4_init 78 = .ok (.arraylength, 1) := by decide +kernel
theorem dX4_init_79 : decode cX4_init 79 = .ok (.if_icmp .ge 22, 3) := by decide +kernel
theorem dX4_init_82 : decode cX4_init 82 = .ok (.aload_n 0, 1) := by decide +kernel
theorem dX4_init_83 : decode cX4_init 83 = .ok (.getfield 11, 3) := by decide +kernel
theorem dX4_init_86 : decode cX4_init 86 = .ok (.iload_n 1, 1) := by decide +kernel
theorem dX4_init_87 : decode cX4_init 87 = .ok (.new 9, 3) := by decide +kernel
theorem dX4_init_90 : decode cX4_init 90 = .ok (.dup, 1) := by decide +kernel
theorem dX4_init_91 : decode cX4_init 91 = .ok (.invokespecial 17, 3) := by decide +kernel
theorem dX4_init_94 : decode cX4_init 94 = .ok (.aastore, 1) := by decide +kernel
theorem dX4_init_95 : decode cX4_init 95 = .ok (.iinc 1 1, 3) := by decide +kernel
theorem dX4_init_98 : decode cX4_init 98 = .ok (.goto (-25), 3) := by decide +kernel
theorem dX4_init_101 : decode cX4_init 101 = .ok (.return_, 1) := by decide +kernel
def is_X4_init (Rt : np_Rt) : List (Nat × np_Op) := [(0, np_ald 1 0), (1, np_oinit), (4, np_ald 1 0), (5, np_push 3 (.int 407)), (8, np_anew "NotationPress$Trace" 407 1235 17519), (11, np_putf 4 0 (.array (.object "NotationPress$Trace"))), (14, np_ald 1 0), (15, np_new 8 9 [.null, .null, .int 0, .int 0, .int 0, .int 0, .int 0, .int 0, .int 0] 1235 17519), (18, np_dup), (19, np_callI 1 sp_X8_init 1 2 32 1235 17519), (22, np_putf 4 1 (.object "NotationPress$Trace")), (25, np_ald 1 0), (26, np_push 2 (.int 8)), (28, np_newa .int 8 (8, .inl fun _ => 0) 1235 17519), (30, np_putf 4 2 (.array .int)), (33, np_ald 1 0), (34, np_push 2 (.int 6)), (36, np_newa .int 6 (6, .inl fun _ => 0) 1235 17519), (38, np_putf 4 3 (.array .int)), (41, np_ald 1 0), (42, np_push 2 (.int 6)), (44, np_newa .int 6 (6, .inl fun _ => 0) 1235 17519), (46, np_putf 4 4 (.array .int)), (49, np_ald 1 0), (50, np_new 2 5 [.null, .null, .null, .null, .int 0] 1235 17519), (53, np_dup), (54, np_callI 1 sp_X2_init 1 4 56 1235 17519), (57, np_putf 4 5 (.object "NotationPress$Items")), (60, np_ald 1 0), (61, np_new 7 3 [.null, .int 0, .int 0] 1235 17519), (64, np_dup), (65, np_callI 1 sp_X7_init 1 1 300 1235 17519), (68, np_putf 4 6 (.object "NotationPress$Text")), (71, np_push 1 (.int 0)), (72, np_ist 1 1), (73, np_ild 1 1), (74, np_ald 1 0), (75, np_getf 4 0), (78, np_alen), (79, np_ic (fun x y => y ≤ x) 101), (82, np_ald 1 0), (83, np_getf 4 0), (86, np_ild 1 1), (87, np_new 8 9 [.null, .null, .int 0, .int 0, .int 0, .int 0, .int 0, .int 0, .int 0] 1235 17519), (90, np_dup), (91, np_callI 1 sp_X8_init 1 2 32 1235 17519), (94, np_aast 8 RX8), (95, np_iinc 1 1), (98, np_goto 73), (101, np_ret Rt)]
set_option maxRecDepth 20000 in
theorem so_X4_init {X : np_Ctx} (hX : np_ok RX4 cX4_init 2 3 62 1235 17519 .return_ X) (hmn : np_mn X = "<init>") : ∀ q ∈ is_X4_init X.2.2.1, np_S X q.1 q.2 :=
  List.forall_mem_cons.mpr ⟨np_s_aload_n hX dX4_init_0 rfl, List.forall_mem_cons.mpr ⟨np_s_oinit hX dX4_init_1 gw197 gw92 gw93 (by decide) (by decide), List.forall_mem_cons.mpr ⟨np_s_aload_n hX dX4_init_4 rfl, List.forall_mem_cons.mpr ⟨np_s_sipush hX dX4_init_5 (by decide), List.forall_mem_cons.mpr ⟨np_s_anew hX dX4_init_8 gw198 (by decide) (by decide) (by decide), List.forall_mem_cons.mpr ⟨np_s_putF hX dX4_init_11 hmn (C := RX4) (T := TX4) (N := 11) (ty0 := tyX4) rfl guX4 tyX4_ok nmX4 (by decide) gw222 rfl rfl rfl, List.forall_mem_cons.mpr ⟨np_s_aload_n hX dX4_init_14 rfl, List.forall_mem_cons.mpr ⟨np_s_new hX dX4_init_15 (C := RX8) (T := TX8) (ty0 := tyX8) rfl guX8 tyX8_ok gw198 gw139 gw66 ndX8 nfX8, List.forall_mem_cons.mpr ⟨np_s_dup hX dX4_init_18, List.forall_mem_cons.mpr ⟨np_s_callIN hX C_X8_init dX4_init_19 rfl gw142 gw66 gw200 gw141 ⟨by decide, by decide, by decide⟩ (by decide) (by decide), List.forall_mem_cons.mpr ⟨np_s_putF hX dX4_init_22 hmn (C := RX4) (T := TX4) (N := 11) (ty0 := tyX4) rfl guX4 tyX4_ok nmX4 (by decide) gw223 rfl rfl rfl, List.forall_mem_cons.mpr ⟨np_s_aload_n hX dX4_init_25 rfl, List.forall_mem_cons.mpr ⟨np_s_bipush hX dX4_init_26 (by decide), List.forall_mem_cons.mpr ⟨np_s_newa hX dX4_init_28 rfl gw118 (by decide) (by intro C h; cases h) (by decide) (fun _ => vp_cell_i _ _ _) (by decide) (fun _ _ => rfl) (fun _ => trivial), List.forall_mem_cons.mpr ⟨np_s_putF hX dX4_init_30 hmn (C := RX4) (T := TX4) (N := 11) (ty0 := tyX4) rfl guX4 tyX4_ok nmX4 (by decide) gw225 rfl rfl rfl, List.forall_mem_cons.mpr ⟨np_s_aload_n hX dX4_init_33 rfl, List.forall_mem_cons.mpr ⟨np_s_bipush hX dX4_init_34 (by decide), List.forall_mem_cons.mpr ⟨np_s_newa hX dX4_init_36 rfl gw118 (by decide) (by intro C h; cases h) (by decide) (fun _ => vp_cell_i _ _ _) (by decide) (fun _ _ => rfl) (fun _ => trivial), List.forall_mem_cons.mpr ⟨np_s_putF hX dX4_init_38 hmn (C := RX4) (T := TX4) (N := 11) (ty0 := tyX4) rfl guX4 tyX4_ok nmX4 (by decide) gw226 rfl rfl rfl, List.forall_mem_cons.mpr ⟨np_s_aload_n hX dX4_init_41 rfl, List.forall_mem_cons.mpr ⟨np_s_bipush hX dX4_init_42 (by decide), List.forall_mem_cons.mpr ⟨np_s_newa hX dX4_init_44 rfl gw118 (by decide) (by intro C h; cases h) (by decide) (fun _ => vp_cell_i _ _ _) (by decide) (fun _ _ => rfl) (fun _ => trivial), List.forall_mem_cons.mpr ⟨np_s_putF hX dX4_init_46 hmn (C := RX4) (T := TX4) (N := 11) (ty0 := tyX4) rfl guX4 tyX4_ok nmX4 (by decide) gw227 rfl rfl rfl, List.forall_mem_cons.mpr ⟨np_s_aload_n hX dX4_init_49 rfl, List.forall_mem_cons.mpr ⟨np_s_new hX dX4_init_50 (C := RX2) (T := TX2) (ty0 := tyX2) rfl guX2 tyX2_ok gw201 gw95 gw64 ndX2 nfX2, List.forall_mem_cons.mpr ⟨np_s_dup hX dX4_init_53, List.forall_mem_cons.mpr ⟨np_s_callIN hX C_X2_init dX4_init_54 rfl gw98 gw64 gw202 gw97 ⟨by decide, by decide, by decide⟩ (by decide) (by decide), List.forall_mem_cons.mpr ⟨np_s_putf hX dX4_init_57 (C := RX4) (T := TX4) (N := 11) (ty0 := tyX4) rfl guX4 tyX4_ok nmX4 (by decide) gw228 rfl rfl, List.forall_mem_cons.mpr ⟨np_s_aload_n hX dX4_init_60 rfl, List.forall_mem_cons.mpr ⟨np_s_new hX dX4_init_61 (C := RX7) (T := TX7) (ty0 := tyX7) rfl guX7 tyX7_ok gw203 gw204 gw68 ndX7 nfX7, List.forall_mem_cons.mpr ⟨np_s_dup hX dX4_init_64, List.forall_mem_cons.mpr ⟨np_s_callIN hX C_X7_init dX4_init_65 rfl gw207 gw68 gw205 gw206 ⟨by decide, by decide, by decide⟩ (by decide) (by decide), List.forall_mem_cons.mpr ⟨np_s_putf hX dX4_init_68 (C := RX4) (T := TX4) (N := 11) (ty0 := tyX4) rfl guX4 tyX4_ok nmX4 (by decide) gw229 rfl rfl, List.forall_mem_cons.mpr ⟨np_s_iconst hX dX4_init_71 (by decide), List.forall_mem_cons.mpr ⟨np_s_istore_n hX dX4_init_72 rfl (by decide), List.forall_mem_cons.mpr ⟨np_s_iload_n hX dX4_init_73 rfl, List.forall_mem_cons.mpr ⟨np_s_aload_n hX dX4_init_74 rfl, List.forall_mem_cons.mpr ⟨np_s_getf hX dX4_init_75 (C := RX4) (T := TX4) (N := 11) rfl guX4 (by decide) gw222, List.forall_mem_cons.mpr ⟨np_s_alen hX dX4_init_78, List.forall_mem_cons.mpr ⟨np_s_icmp_ge hX dX4_init_79 (by decide), List.forall_mem_cons.mpr ⟨np_s_aload_n hX dX4_init_82 rfl, List.forall_mem_cons.mpr ⟨np_s_getf hX dX4_init_83 (C := RX4) (T := TX4) (N := 11) rfl guX4 (by decide) gw222, List.forall_mem_cons.mpr ⟨np_s_iload_n hX dX4_init_86 rfl, List.forall_mem_cons.mpr ⟨np_s_new hX dX4_init_87 (C := RX8) (T := TX8) (ty0 := tyX8) rfl guX8 tyX8_ok gw198 gw139 gw66 ndX8 nfX8, List.forall_mem_cons.mpr ⟨np_s_dup hX dX4_init_90, List.forall_mem_cons.mpr ⟨np_s_callIN hX C_X8_init dX4_init_91 rfl gw142 gw66 gw200 gw141 ⟨by decide, by decide, by decide⟩ (by decide) (by decide), List.forall_mem_cons.mpr ⟨np_s_aast hX (r0 := (RX8, TX8, 9)) rfl dX4_init_94, List.forall_mem_cons.mpr ⟨np_s_iinc hX dX4_init_95 (by decide), List.forall_mem_cons.mpr ⟨np_s_goto hX dX4_init_98 (by decide), List.forall_mem_cons.mpr ⟨np_s_ret hX dX4_init_101, fun _ h => nomatch h⟩⟩⟩⟩⟩⟩⟩⟩⟩⟩⟩⟩⟩⟩⟩⟩⟩⟩⟩⟩⟩⟩⟩⟩⟩⟩⟩⟩⟩⟩⟩⟩⟩⟩⟩⟩⟩⟩⟩⟩⟩⟩⟩⟩⟩⟩⟩⟩⟩⟩
abbrev np_bX4_init : np_E := .inr (4, [.null, .null, .null, .null, .null, .null, .null, .int 0, .int 0, .int 0, .int 0])
def ls_X4_init : List (Nat × np_E) := [(0, .inr (4, [.ref 1, .ref 2, .ref 5, .ref 6, .ref 7, .ref 8, .ref 13, .int 0, .int 0, .int 0, .int 0])), (2, .inr (8, [.ref 3, .ref 4, .int 0, .int 0, .int 0, .int 0, .int 0, .int 0, .int 0])), (3, .inl (.int, 24, .inl (np_fa 24 (-2147483648) (fun _ => 0)))), (4, .inl (.int, 8, .inl (fun _ => 0))), (5, .inl (.int, 8, .inl (fun _ => 0))), (6, .inl (.int, 6, .inl (fun _ => 0))), (7, .inl (.int, 6, .inl (fun _ => 0))), (8, .inr (2, [.ref 9, .ref 10, .ref 11, .ref 12, .int 0])), (9, .inl (.int, 14, .inl (fun _ => 0))), (10, .inl (.int, 14, .inl (fun _ => 0))), (11, .inl (.int, 14, .inl (fun _ => 0))), (12, .inl (.int, 14, .inl (fun _ => 0))), (13, .inr (7, [.ref 14, .int 0, .int 1])), (14, .inl (.char, 300, .inl (fun _ => 0)))]
def bg_X4_init (i : Nat) : np_E := .inl (.object "NotationPress$Trace", 407, .inr (.inr (.inr (.inr (fun j => if j < i then some (15 + 3 * j) else none)))))
/-- the world that it leaves -/
def g_X4_init : Nat → Option np_E := fun j => match Nat.blt j 15 with
  | true => (match Nat.beq j 1 with
    | true => some (bg_X4_init 407)
    | false => np_wl ls_X4_init j)
  | false => match Nat.blt j (1235 + 1) with
    | true => (match (j - 15) % 3 with
      | 0 => some (np_tro (j + 1))
      | 1 => some np_e24
      | _ => some np_e8)
    | false => none
theorem g_X4_init_of {u : Nat → Option np_E} (h0 : np_all u ls_X4_init) (h1 : u 1 = some (bg_X4_init 407)) (h2 : ∀ j, j < 407 → u (15 + 3 * j) = some (np_tro (15 + 3 * j + 1)) ∧ u (15 + 3 * j + 1) = some np_e24 ∧ u (15 + 3 * j + 2) = some np_e8) : ∀ k e, g_X4_init k = some e → u k = some e := by
  intro k e hk
  unfold g_X4_init at hk
  split at hk
  · split at hk
    · rename_i h3
      rw [Nat.eq_of_beq_eq_true h3, h1]
      exact hk
    · exact np_all_sub h0 k e hk
  · rename_i h3
    have h3 : ¬ k < 15 := fun z => by
      rw [show Nat.blt k 15 = true from Nat.ble_eq_true_of_le z] at h3
      cases h3
    split at hk
    · rename_i h4
      have h4 : k < 1235 + 1 := Nat.le_of_ble_eq_true h4
      obtain ⟨g0, g1, g2⟩ := h2 ((k - 15) / 3) (by omega)
      split at hk
      · rename_i h5
        have e1 : 15 + 3 * ((k - 15) / 3) = k := by omega
        rw [e1] at g0
        rw [g0]
        exact hk
      · rename_i h5
        have e1 : 15 + 3 * ((k - 15) / 3) + 1 = k := by omega
        rw [e1] at g1
        rw [g1]
        exact hk
      · rename_i h5 h6
        have e1 : 15 + 3 * ((k - 15) / 3) + 2 = k := by
          have : (k - 15) % 3 < 3 := Nat.mod_lt _ (by decide)
          have h5' : (k - 15) % 3 ≠ 0 := h5
          have h6' : (k - 15) % 3 ≠ 1 := h6
          omega
        rw [e1] at g2
        rw [g2]
        exact hk
    · cases hk
theorem bg_X4_init_s (i : Nat) : (.inl (.object "NotationPress$Trace", 407, .inr (.inr (.inr (.inr (va_up (fun j => if j < i then some (15 + 3 * j) else none) i (some (15 + 3 * i))))))) : np_E) = bg_X4_init (i + 1) := by
  unfold bg_X4_init
  have hf : va_up (fun j => if j < i then some (15 + 3 * j) else none) i (some (15 + 3 * i)) = fun j => if j < i + 1 then some (15 + 3 * j) else none := by
    funext j
    unfold va_up
    by_cases h : j = i
    · subst h
      rw [if_pos rfl, if_pos (by omega)]
    · rw [if_neg h]
      dsimp only
      by_cases h2 : j < i
      · rw [if_pos h2, if_pos (by omega)]
      · rw [if_neg h2, if_neg (by omega)]
  rw [hf]
def iv_X4_init (i : Nat) (N : Nat) (u : Nat → Option np_E) : Prop := N = 15 + 3 * i ∧ np_all u ls_X4_init ∧ u 1 = some (bg_X4_init i) ∧ ∀ j, j < i → u (15 + 3 * j) = some (np_tro (15 + 3 * j + 1)) ∧ u (15 + 3 * j + 1) = some np_e24 ∧ u (15 + 3 * j + 2) = some np_e8
theorem np_all_up {f : Nat → Option np_E} {k : Nat} {x : np_E} : ∀ {l : List (Nat × np_E)}, np_all f l → (l.all fun q => !(Nat.beq q.1 k)) = true → np_all (np_up f k x) l := by
  intro l
  induction l with
  | nil => intro _ _; trivial
  | cons a r ih =>
    obtain ⟨j, e⟩ := a
    intro h hk
    rw [List.all_cons, Bool.and_eq_true_iff] at hk
    refine ⟨?_, ih h.2 hk.2⟩
    rw [np_up_n _ _ (fun z => by
      have := hk.1
      dsimp only at this
      rw [np_beq z] at this
      cases this)]
    exact h.1
theorem ls_X4_init_lt {N : Nat} (h : 15 ≤ N) : (ls_X4_init.all fun q => !(Nat.beq q.1 N)) = true := by
  rw [List.all_eq_true]
  intro q hq
  have h1 : ∀ q ∈ ls_X4_init, q.1 < 15 := by
    have h2 : (ls_X4_init.map fun q => q.1).all (fun k => Nat.blt k 15) = true := rfl
    intro q hq
    exact Nat.le_of_ble_eq_true (List.all_eq_true.mp h2 q.1 (List.mem_map.mpr ⟨q, hq, rfl⟩))
  have h3 := h1 q hq
  rw [np_bne (by omega)]
  rfl
theorem iv_X4_init_s {i N : Nat} {u : Nat → Option np_E} (h : iv_X4_init i N u) (x : np_E) : iv_X4_init (i + 1) (N + 1 + 2) (np_up (np_up (np_up (np_up (np_up u N x) N (np_tro (N + 1))) (N + 1) np_e24) (N + 1 + 1) np_e8) 1 (bg_X4_init (i + 1))) := by
  obtain ⟨rfl, h0, h1, h2⟩ := h
  refine ⟨by omega, ?_, np_up_s _ _ _, fun j hj => ?_⟩
  · exact np_all_up (np_all_up (np_all_up (np_all_up (np_all_up h0 (ls_X4_init_lt (by omega))) (ls_X4_init_lt (by omega))) (ls_X4_init_lt (by omega))) (ls_X4_init_lt (by omega))) rfl
  · by_cases hji : j = i
    · subst hji
      refine ⟨?_, ?_, ?_⟩
      · rw [np_up_n _ _ (by omega), np_up_n _ _ (by omega), np_up_n _ _ (by omega), np_up_s]
      · rw [np_up_n _ _ (by omega), np_up_n _ _ (by omega), np_up_s]
      · rw [np_up_n _ _ (by omega), show 15 + 3 * j + 2 = 15 + 3 * j + 1 + 1 by omega, np_up_s]
    · obtain ⟨g0, g1, g2⟩ := h2 j (by omega)
      refine ⟨?_, ?_, ?_⟩
      · rw [np_up_n _ _ (by omega), np_up_n _ _ (by omega), np_up_n _ _ (by omega), np_up_n _ _ (by omega), np_up_n _ _ (by omega)]
        exact g0
      · rw [np_up_n _ _ (by omega), np_up_n _ _ (by omega), np_up_n _ _ (by omega), np_up_n _ _ (by omega), np_up_n _ _ (by omega)]
        exact g1
      · rw [np_up_n _ _ (by omega), np_up_n _ _ (by omega), np_up_n _ _ (by omega), np_up_n _ _ (by omega), np_up_n _ _ (by omega)]
        exact g2
set_option maxRecDepth 20000 in
theorem loop_X4_init {X : np_Ctx} (hX : np_ok RX4 cX4_init 2 3 62 1235 17519 .return_ X) (hmn : np_mn X = "<init>") (hRt : X.2.2.1 = (fun st w ce sl => ce ≤ 1235 ∧ sl ≤ 17519 ∧ st = [] ∧ w.1 = 1235 + 1 ∧ ∀ k e, g_X4_init k = some e → w.2 k = some e)) :
    ∀ (d i N : Nat) (u : Nat → Option np_E), i + d = 407 → iv_X4_init i N u → np_G X 73 [(1, .int (nI i)), (0, .ref 0)] [] (N, u) (14 + 3 * i) (832 + 41 * i) := by
  intro d
  induction d with
  | zero =>
    intro i N u hi hiv
    have h0 : u 0 = some (.inr (4, [.ref 1, .ref 2, .ref 5, .ref 6, .ref 7, .ref 8, .ref 13, .int 0, .int 0, .int 0, .int 0])) := hiv.2.1.1
    have h1 := hiv.2.2.1
    refine np_fin (so_X4_init hX hmn) 30 ?_
    rw [hRt]
    conv => whnf
    simp only [h0]
    refine ⟨trivial, ?_⟩
    conv => whnf
    simp only [h1, bg_X4_init]
    refine And.intro (fun cc => ?_) (fun cc => absurd (show Int32.ofNat 407 ≤ nI i from nI_le (by omega) (by omega)) cc)
    have hM : i = 407 := by omega
    subst hM
    refine ⟨?_, ?_, rfl, ?_, ?_⟩
    · show 14 + 3 * 407 ≤ _; omega
    · show 832 + 41 * 407 ≤ _; omega
    · show N = _; rw [hiv.1]
    · exact g_X4_init_of hiv.2.1 hiv.2.2.1 hiv.2.2.2
  | succ d ih =>
    intro i N u hi hiv
    have h0 : u 0 = some (.inr (4, [.ref 1, .ref 2, .ref 5, .ref 6, .ref 7, .ref 8, .ref 13, .int 0, .int 0, .int 0, .int 0])) := hiv.2.1.1
    have h1 := hiv.2.2.1
    have hN : 15 ≤ N := by rw [hiv.1]; omega
    have hin : vp_in (nI i) 407 := vp_in_nI (by omega) (by omega)
    have n0 : (0 : Nat) ≠ N := by omega
    have n1 : (1 : Nat) ≠ N := by omega
    have n2 : (1 : Nat) ≠ N + 1 := by omega
    have n3 : (1 : Nat) ≠ N + 1 + 1 := by omega
    refine np_sound (so_X4_init hX hmn) (heads := [73]) (Hd := fun pc L st w' ce sl => pc = 73 ∧ L = [(1, .int (nI i + 1)), (0, .ref 0)] ∧ st = [] ∧ ce = 14 + 3 * i + 1 + 2 ∧ sl = 832 + 41 * i + 9 + 32 ∧ w'.1 = N + 1 + 2 ∧ iv_X4_init (i + 1) (N + 1 + 2) w'.2) (fun pc L st w' ce sl h => ?_) 40 73 _ _ _ _ _ ?_
    · obtain ⟨n, u'⟩ := w'
      obtain ⟨rfl, rfl, rfl, rfl, rfl, g1, g2⟩ := h
      have g1 : n = N + 1 + 2 := g1
      subst g1
      rw [nI_1]
      have e1 : 14 + 3 * i + 1 + 2 = 14 + 3 * (i + 1) := by omega
      have e2 : 832 + 41 * i + 9 + 32 = 832 + 41 * (i + 1) := by omega
      rw [e1, e2]
      exact ih (i + 1) _ u' (by omega) g2
    · conv => whnf
      simp only [h0]
      refine ⟨trivial, ?_⟩
      conv => whnf
      simp only [h1, bg_X4_init]
      refine And.intro (fun cc => absurd cc (nI_ge (by omega) (by omega))) (fun cc => ?_)
      conv => whnf
      simp only [h0]
      refine ⟨trivial, ?_⟩
      refine ⟨?_, ?_, ?_⟩
      · show 14 + 3 * i + 1 ≤ _; omega
      · show 832 + 41 * i + 9 ≤ _; omega
      rw [np_force_eq]
      refine ⟨rfl, trivial, Nat.le_of_ble_eq_true rfl, Nat.le_of_ble_eq_true rfl, Nat.le_of_ble_eq_true rfl, ?_, ?_, np_up_s _ _ _, Nat.lt_succ_self _, ?_⟩
      · show 14 + 3 * i + 1 + 2 ≤ _; omega
      · show 832 + 41 * i + 9 + 32 ≤ _; omega
      rw [np_force_eq]
      conv => whnf
      have n4 : N ≠ N + 1 := by omega
      have n5 : N ≠ N + 1 + 1 := by omega
      simp only [np_up_n _ _ n1, np_up_n _ _ n2, np_up_n _ _ n3, np_up_n _ _ n4, np_up_n _ _ n5, np_up_s, h1, bg_X4_init, np_tro]
      refine ⟨rfl, trivial, hin, ?_⟩
      refine ⟨?_, ?_, ?_, ?_, ?_, ?_, ?_⟩
      · first | rfl | trivial
      · first | rfl | trivial
      · first | rfl | trivial
      · first | rfl | trivial
      · first | rfl | trivial
      · first | rfl | trivial
      · have hc := iv_X4_init_s hiv np_tr0
        rw [← bg_X4_init_s] at hc
        rw [nI_clamp (by omega)]
        rw [hiv.1] at hc ⊢
        exact hc
set_option maxRecDepth 20000 in
set_option maxHeartbeats 8000000 in
theorem run_X4_init {X : np_Ctx} (hX : np_ok RX4 cX4_init 2 3 62 1235 17519 .return_ X) (hmn : np_mn X = "<init>") (hRt : X.2.2.1 = (fun st w ce sl => ce ≤ 1235 ∧ sl ≤ 17519 ∧ st = [] ∧ w.1 = 1235 + 1 ∧ ∀ k e, g_X4_init k = some e → w.2 k = some e)) : np_G X 0 [(0, .ref 0)] [] (1, np_wl [(0, np_bX4_init)]) 0 0 := by
  refine np_soundF (so_X4_init hX hmn) (heads := [73]) (Hd := fun pc L st w' ce sl => pc = 73 ∧ L = [(1, .int 0), (0, .ref 0)] ∧ st = [] ∧ ce = 14 ∧ sl = 832 ∧ w'.1 = 15 ∧ w'.2 1 = some (.inl (.object "NotationPress$Trace", 407, .inr (.inr (.inr (.inr (fun _ => none)))))) ∧ np_all w'.2 ls_X4_init) (fun pc L st w' ce sl h => ?_) 80 0 _ _ _ _ _ ?_
  · obtain ⟨n, u'⟩ := w'
    obtain ⟨rfl, rfl, rfl, rfl, rfl, g1, g2, g3⟩ := h
    have g1 : n = 15 := g1
    subst g1
    have g2 : u' 1 = some (.inl (.object "NotationPress$Trace", 407, .inr (.inr (.inr (.inr (fun _ => none)))))) := g2
    refine loop_X4_init hX hmn hRt 407 0 _ u' rfl ⟨rfl, g3, ?_, fun j hj => absurd hj (Nat.not_lt_zero _)⟩
    rw [g2]
    unfold bg_X4_init
    rfl
  · repeat' ((conv => whnf); first | apply And.intro | (intro cc; first | exact absurd cc (by decide) | skip))
    all_goals (first | exact rfl | exact Nat.le_of_ble_eq_true rfl | exact True.intro)
set_option maxRecDepth 20000 in
theorem C_X4_init : np_C yX4_init cX4_init 2 none 3 62 1235 17519 (np_spR np_bX4_init 1235 g_X4_init) := by
  refine np_ofRen (by decide) (fun _ _ _ => rfl) (fun n v hv => by
    simp only [List.mem_cons, List.not_mem_nil, or_false] at hv
    rcases hv with rfl | rfl | rfl | rfl | rfl | rfl | rfl | rfl | rfl | rfl | rfl <;> trivial) (by decide) ⟨_, rfl⟩ ?_
  intro X hX hmn hRt
  exact run_X4_init hX hmn hRt

theorem dX5_init_0 : decode cX5_init 0 = .ok (.aload_n 0, 1) := by decide +kernel
theorem dX5_init_1 : decode cX5_init 1 = .ok (.invokespecial 3, 3) := by decide +kernel
theorem dX5_init_4 : decode cX5_init 4 = .ok (.aload_n 0, 1) := by decide +kernel
theorem dX5_init_5 : decode cX5_init 5 = .ok (.bipush 26, 2) := by decide +kernel
theorem dX5_init_7 : decode cX5_init 7 = .ok (.anewarray 9, 3) := by decide +kernel
theorem dX5_init_10 : decode cX5_init 10 = .ok (.putfield 11, 3) := by decide +kernel
theorem dX5_init_13 : decode cX5_init 13 = .ok (.aload_n 0, 1) := by decide +kernel
theorem dX5_init_14 : decode cX5_init 14 = .ok (.bipush 26, 2) := by decide +kernel
theorem dX5_init_16 : decode cX5_init 16 = .ok (.newarray .int, 2) := by decide +kernel
theorem dX5_init_18 : decode cX5_init 18 = .ok (.putfield 17, 3) := by decide +kernel
theorem dX5_init_21 : decode cX5_init 21 = .ok (.aload_n 0, 1) := by decide +kernel
theorem dX5_init_22 : decode cX5_init 22 = .ok (.bipush 26, 2) := by decide +kernel
theorem dX5_init_24 : decode cX5_init 24 = .ok (.newarray .int, 2) := by decide +kernel
theorem dX5_init_26 : decode cX5_init 26 = .ok (.putfield 21, 3) := by decide +kernel
theorem dX5_init_29 : decode cX5_init 29 = .ok (.iconst 0, 1) := by decide +kernel
theorem dX5_init_30 : decode cX5_init 30 = .ok (.istore_n 1, 1) := by decide +kernel
theorem dX5_init_31 : decode cX5_init 31 = .ok (.iload_n 1, 1) := by decide +kernel
theorem dX5_init_32 : decode cX5_init 32 = .ok (.aload_n 0, 1) := by decide +kernel
theorem dX5_init_33 : decode cX5_init 33 = .ok (.getfield 11, 3) := by decide +kernel
theorem dX5_init_36 : decode cX5_init 36 = .ok (.arraylength, 1) := by decide +kernel
theorem dX5_init_37 : decode cX5_init 37 = .ok (.if_icmp .ge 22, 3) := by decide +kernel
theorem dX5_init_40 : decode cX5_init 40 = .ok (.aload_n 0, 1) := by decide +kernel
theorem dX5_init_41 : decode cX5_init 41 = .ok (.getfield 11, 3) := by decide +kernel
theorem dX5_init_44 : decode cX5_init 44 = .ok (.iload_n 1, 1) := by decide +kernel
theorem dX5_init_45 : decode cX5_init 45 = .ok (.new 9, 3) := by decide +kernel
theorem dX5_init_48 : decode cX5_init 48 = .ok (.dup, 1) := by decide +kernel
theorem dX5_init_49 : decode cX5_init 49 = .ok (.invokespecial 24, 3) := by decide +kernel
theorem dX5_init_52 : decode cX5_init 52 = .ok (.aastore, 1) := by decide +kernel
theorem dX5_init_53 : decode cX5_init 53 = .ok (.iinc 1 1, 3) := by decide +kernel
theorem dX5_init_56 : decode cX5_init 56 = .ok (.goto (-25), 3) := by decide +kernel
theorem dX5_init_59 : decode cX5_init 59 = .ok (.return_, 1) := by decide +kernel
def is_X5_init (Rt : np_Rt) : List (Nat × np_Op) := [(0, np_ald 1 0), (1, np_oinit), (4, np_ald 1 0), (5, np_push 2 (.int 26)), (7, np_anew "NotationPress$Trace" 26 81 1144), (10, np_putf 5 0 (.array (.object "NotationPress$Trace"))), (13, np_ald 1 0), (14, np_push 2 (.int 26)), (16, np_newa .int 26 (26, .inl fun _ => 0) 81 1144), (18, np_putf 5 1 (.array .int)), (21, np_ald 1 0), (22, np_push 2 (.int 26)), (24, np_newa .int 26 (26, .inl fun _ => 0) 81 1144), (26, np_putf 5 2 (.array .int)), (29, np_push 1 (.int 0)), (30, np_ist 1 1), (31, np_ild 1 1), (32, np_ald 1 0), (33, np_getf 5 0), (36, np_alen), (37, np_ic (fun x y => y ≤ x) 59), (40, np_ald 1 0), (41, np_getf 5 0), (44, np_ild 1 1), (45, np_new 8 9 [.null, .null, .int 0, .int 0, .int 0, .int 0, .int 0, .int 0, .int 0] 81 1144), (48, np_dup), (49, np_callI 1 sp_X8_init 1 2 32 81 1144), (52, np_aast 8 RX8), (53, np_iinc 1 1), (56, np_goto 31), (59, np_ret Rt)]
set_option maxRecDepth 20000 in
theorem so_X5_init {X : np_Ctx} (hX : np_ok RX5 cX5_init 2 3 62 81 1144 .return_ X) (hmn : np_mn X = "<init>") : ∀ q ∈ is_X5_init X.2.2.1, np_S X q.1 q.2 :=
  List.forall_mem_cons.mpr ⟨np_s_aload_n hX dX5_init_0 rfl, List.forall_mem_cons.mpr ⟨np_s_oinit hX dX5_init_1 gw263 gw92 gw93 (by decide) (by decide), List.forall_mem_cons.mpr ⟨np_s_aload_n hX dX5_init_4 rfl, List.forall_mem_cons.mpr ⟨np_s_bipush hX dX5_init_5 (by decide), List.forall_mem_cons.mpr ⟨np_s_anew hX dX5_init_7 gw264 (by decide) (by decide) (by decide), List.forall_mem_cons.mpr ⟨np_s_putF hX dX5_init_10 hmn (C := RX5) (T := TX5) (N := 5) (ty0 := tyX5) rfl guX5 tyX5_ok nmX5 (by decide) gw266 rfl rfl rfl, List.forall_mem_cons.mpr ⟨np_s_aload_n hX dX5_init_13 rfl, List.forall_mem_cons.mpr ⟨np_s_bipush hX dX5_init_14 (by decide), List.forall_mem_cons.mpr ⟨np_s_newa hX dX5_init_16 rfl gw118 (by decide) (by intro C h; cases h) (by decide) (fun _ => vp_cell_i _ _ _) (by decide) (fun _ _ => rfl) (fun _ => trivial), List.forall_mem_cons.mpr ⟨np_s_putF hX dX5_init_18 hmn (C := RX5) (T := TX5) (N := 5) (ty0 := tyX5) rfl guX5 tyX5_ok nmX5 (by decide) gw267 rfl rfl rfl, List.forall_mem_cons.mpr ⟨np_s_aload_n hX dX5_init_21 rfl, List.forall_mem_cons.mpr ⟨np_s_bipush hX dX5_init_22 (by decide), List.forall_mem_cons.mpr ⟨np_s_newa hX dX5_init_24 rfl gw118 (by decide) (by intro C h; cases h) (by decide) (fun _ => vp_cell_i _ _ _) (by decide) (fun _ _ => rfl) (fun _ => trivial), List.forall_mem_cons.mpr ⟨np_s_putF hX dX5_init_26 hmn (C := RX5) (T := TX5) (N := 5) (ty0 := tyX5) rfl guX5 tyX5_ok nmX5 (by decide) gw268 rfl rfl rfl, List.forall_mem_cons.mpr ⟨np_s_iconst hX dX5_init_29 (by decide), List.forall_mem_cons.mpr ⟨np_s_istore_n hX dX5_init_30 rfl (by decide), List.forall_mem_cons.mpr ⟨np_s_iload_n hX dX5_init_31 rfl, List.forall_mem_cons.mpr ⟨np_s_aload_n hX dX5_init_32 rfl, List.forall_mem_cons.mpr ⟨np_s_getf hX dX5_init_33 (C := RX5) (T := TX5) (N := 5) rfl guX5 (by decide) gw266, List.forall_mem_cons.mpr ⟨np_s_alen hX dX5_init_36, List.forall_mem_cons.mpr ⟨np_s_icmp_ge hX dX5_init_37 (by decide), List.forall_mem_cons.mpr ⟨np_s_aload_n hX dX5_init_40 rfl, List.forall_mem_cons.mpr ⟨np_s_getf hX dX5_init_41 (C := RX5) (T := TX5) (N := 5) rfl guX5 (by decide) gw266, List.forall_mem_cons.mpr ⟨np_s_iload_n hX dX5_init_44 rfl, List.forall_mem_cons.mpr ⟨np_s_new hX dX5_init_45 (C := RX8) (T := TX8) (ty0 := tyX8) rfl guX8 tyX8_ok gw264 gw139 gw66 ndX8 nfX8, List.forall_mem_cons.mpr ⟨np_s_dup hX dX5_init_48, List.forall_mem_cons.mpr ⟨np_s_callIN hX C_X8_init dX5_init_49 rfl gw142 gw66 gw265 gw141 ⟨by decide, by decide, by decide⟩ (by decide) (by decide), List.forall_mem_cons.mpr ⟨np_s_aast hX (r0 := (RX8, TX8, 9)) rfl dX5_init_52, List.forall_mem_cons.mpr ⟨np_s_iinc hX dX5_init_53 (by decide), List.forall_mem_cons.mpr ⟨np_s_goto hX dX5_init_56 (by decide), List.forall_mem_cons.mpr ⟨np_s_ret hX dX5_init_59, fun _ h => nomatch h⟩⟩⟩⟩⟩⟩⟩⟩⟩⟩⟩⟩⟩⟩⟩⟩⟩⟩⟩⟩⟩⟩⟩⟩⟩⟩⟩⟩⟩⟩⟩
abbrev np_bX5_init : np_E := .inr (5, [.null, .null, .null, .int 0, .int 0])
def ls_X5_init : List (Nat × np_E) := [(0, .inr (5, [.ref 1, .ref 2, .ref 3, .int 0, .int 0])), (2, .inl (.int, 26, .inl (fun _ => 0))), (3, .inl (.int, 26, .inl (fun _ => 0)))]
def bg_X5_init (i : Nat) : np_E := .inl (.object "NotationPress$Trace", 26, .inr (.inr (.inr (.inr (fun j => if j < i then some (4 + 3 * j) else none)))))
/-- the world that it leaves -/
def g_X5_init : Nat → Option np_E := fun j => match Nat.blt j 4 with
  | true => (match Nat.beq j 1 with
    | true => some (bg_X5_init 26)
    | false => np_wl ls_X5_init j)
  | false => match Nat.blt j (81 + 1) with
    | true => (match (j - 4) % 3 with
      | 0 => some (np_tro (j + 1))
      | 1 => some np_e24
      | _ => some np_e8)
    | false => none
theorem g_X5_init_of {u : Nat → Option np_E} (h0 : np_all u ls_X5_init) (h1 : u 1 = some (bg_X5_init 26)) (h2 : ∀ j, j < 26 → u (4 + 3 * j) = some (np_tro (4 + 3 * j + 1)) ∧ u (4 + 3 * j + 1) = some np_e24 ∧ u (4 + 3 * j + 2) = some np_e8) : ∀ k e, g_X5_init k = some e → u k = some e := by
  intro k e hk
  unfold g_X5_init at hk
  split at hk
  · split at hk
    · rename_i h3
      rw [Nat.eq_of_beq_eq_true h3, h1]
      exact hk
    · exact np_all_sub h0 k e hk
  · rename_i h3
    have h3 : ¬ k < 4 := fun z => by
      rw [show Nat.blt k 4 = true from Nat.ble_eq_true_of_le z] at h3
      cases h3
    split at hk
    · rename_i h4
      have h4 : k < 81 + 1 := Nat.le_of_ble_eq_true h4
      obtain ⟨g0, g1, g2⟩ := h2 ((k - 4) / 3) (by omega)
      split at hk
      · rename_i h5
        have e1 : 4 + 3 * ((k - 4) / 3) = k := by omega
        rw [e1] at g0
        rw [g0]
        exact hk
      · rename_i h5
        have e1 : 4 + 3 * ((k - 4) / 3) + 1 = k := by omega
        rw [e1] at g1
        rw [g1]
        exact hk
      · rename_i h5 h6
        have e1 : 4 + 3 * ((k - 4) / 3) + 2 = k := by
          have : (k - 4) % 3 < 3 := Nat.mod_lt _ (by decide)
          have h5' : (k - 4) % 3 ≠ 0 := h5
          have h6' : (k - 4) % 3 ≠ 1 := h6
          omega
        rw [e1] at g2
        rw [g2]
        exact hk
    · cases hk
theorem bg_X5_init_s (i : Nat) : (.inl (.object "NotationPress$Trace", 26, .inr (.inr (.inr (.inr (va_up (fun j => if j < i then some (4 + 3 * j) else none) i (some (4 + 3 * i))))))) : np_E) = bg_X5_init (i + 1) := by
  unfold bg_X5_init
  have hf : va_up (fun j => if j < i then some (4 + 3 * j) else none) i (some (4 + 3 * i)) = fun j => if j < i + 1 then some (4 + 3 * j) else none := by
    funext j
    unfold va_up
    by_cases h : j = i
    · subst h
      rw [if_pos rfl, if_pos (by omega)]
    · rw [if_neg h]
      dsimp only
      by_cases h2 : j < i
      · rw [if_pos h2, if_pos (by omega)]
      · rw [if_neg h2, if_neg (by omega)]
  rw [hf]
def iv_X5_init (i : Nat) (N : Nat) (u : Nat → Option np_E) : Prop := N = 4 + 3 * i ∧ np_all u ls_X5_init ∧ u 1 = some (bg_X5_init i) ∧ ∀ j, j < i → u (4 + 3 * j) = some (np_tro (4 + 3 * j + 1)) ∧ u (4 + 3 * j + 1) = some np_e24 ∧ u (4 + 3 * j + 2) = some np_e8
theorem ls_X5_init_lt {N : Nat} (h : 4 ≤ N) : (ls_X5_init.all fun q => !(Nat.beq q.1 N)) = true := by
  rw [List.all_eq_true]
  intro q hq
  have h1 : ∀ q ∈ ls_X5_init, q.1 < 4 := by
    have h2 : (ls_X5_init.map fun q => q.1).all (fun k => Nat.blt k 4) = true := rfl
    intro q hq
    exact Nat.le_of_ble_eq_true (List.all_eq_true.mp h2 q.1 (List.mem_map.mpr ⟨q, hq, rfl⟩))
  have h3 := h1 q hq
  rw [np_bne (by omega)]
  rfl
theorem iv_X5_init_s {i N : Nat} {u : Nat → Option np_E} (h : iv_X5_init i N u) (x : np_E) : iv_X5_init (i + 1) (N + 1 + 2) (np_up (np_up (np_up (np_up (np_up u N x) N (np_tro (N + 1))) (N + 1) np_e24) (N + 1 + 1) np_e8) 1 (bg_X5_init (i + 1))) := by
  obtain ⟨rfl, h0, h1, h2⟩ := h
  refine ⟨by omega, ?_, np_up_s _ _ _, fun j hj => ?_⟩
  · exact np_all_up (np_all_up (np_all_up (np_all_up (np_all_up h0 (ls_X5_init_lt (by omega))) (ls_X5_init_lt (by omega))) (ls_X5_init_lt (by omega))) (ls_X5_init_lt (by omega))) rfl
  · by_cases hji : j = i
    · subst hji
      refine ⟨?_, ?_, ?_⟩
      · rw [np_up_n _ _ (by omega), np_up_n _ _ (by omega), np_up_n _ _ (by omega), np_up_s]
      · rw [np_up_n _ _ (by omega), np_up_n _ _ (by omega), np_up_s]
      · rw [np_up_n _ _ (by omega), show 4 + 3 * j + 2 = 4 + 3 * j + 1 + 1 by omega, np_up_s]
    · obtain ⟨g0, g1, g2⟩ := h2 j (by omega)
      refine ⟨?_, ?_, ?_⟩
      · rw [np_up_n _ _ (by omega), np_up_n _ _ (by omega), np_up_n _ _ (by omega), np_up_n _ _ (by omega), np_up_n _ _ (by omega)]
        exact g0
      · rw [np_up_n _ _ (by omega), np_up_n _ _ (by omega), np_up_n _ _ (by omega), np_up_n _ _ (by omega), np_up_n _ _ (by omega)]
        exact g1
      · rw [np_up_n _ _ (by omega), np_up_n _ _ (by omega), np_up_n _ _ (by omega), np_up_n _ _ (by omega), np_up_n _ _ (by omega)]
        exact g2
set_option maxRecDepth 20000 in
theorem loop_X5_init {X : np_Ctx} (hX : np_ok RX5 cX5_init 2 3 62 81 1144 .return_ X) (hmn : np_mn X = "<init>") (hRt : X.2.2.1 = (fun st w ce sl => ce ≤ 81 ∧ sl ≤ 1144 ∧ st = [] ∧ w.1 = 81 + 1 ∧ ∀ k e, g_X5_init k = some e → w.2 k = some e)) :
    ∀ (d i N : Nat) (u : Nat → Option np_E), i + d = 26 → iv_X5_init i N u → np_G X 31 [(1, .int (nI i)), (0, .ref 0)] [] (N, u) (3 + 3 * i) (78 + 41 * i) := by
  intro d
  induction d with
  | zero =>
    intro i N u hi hiv
    have h0 : u 0 = some (.inr (5, [.ref 1, .ref 2, .ref 3, .int 0, .int 0])) := hiv.2.1.1
    have h1 := hiv.2.2.1
    refine np_fin (so_X5_init hX hmn) 30 ?_
    rw [hRt]
    conv => whnf
    simp only [h0]
    refine ⟨trivial, ?_⟩
    conv => whnf
    simp only [h1, bg_X5_init]
    refine And.intro (fun cc => ?_) (fun cc => absurd (show Int32.ofNat 26 ≤ nI i from nI_le (by omega) (by omega)) cc)
    have hM : i = 26 := by omega
    subst hM
    refine ⟨?_, ?_, rfl, ?_, ?_⟩
    · show 3 + 3 * 26 ≤ _; omega
    · show 78 + 41 * 26 ≤ _; omega
    · show N = _; rw [hiv.1]
    · exact g_X5_init_of hiv.2.1 hiv.2.2.1 hiv.2.2.2
  | succ d ih =>
    intro i N u hi hiv
    have h0 : u 0 = some (.inr (5, [.ref 1, .ref 2, .ref 3, .int 0, .int 0])) := hiv.2.1.1
    have h1 := hiv.2.2.1
    have hN : 4 ≤ N := by rw [hiv.1]; omega
    have hin : vp_in (nI i) 26 := vp_in_nI (by omega) (by omega)
    have n0 : (0 : Nat) ≠ N := by omega
    have n1 : (1 : Nat) ≠ N := by omega
    have n2 : (1 : Nat) ≠ N + 1 := by omega
    have n3 : (1 : Nat) ≠ N + 1 + 1 := by omega
    refine np_sound (so_X5_init hX hmn) (heads := [31]) (Hd := fun pc L st w' ce sl => pc = 31 ∧ L = [(1, .int (nI i + 1)), (0, .ref 0)] ∧ st = [] ∧ ce = 3 + 3 * i + 1 + 2 ∧ sl = 78 + 41 * i + 9 + 32 ∧ w'.1 = N + 1 + 2 ∧ iv_X5_init (i + 1) (N + 1 + 2) w'.2) (fun pc L st w' ce sl h => ?_) 40 31 _ _ _ _ _ ?_
    · obtain ⟨n, u'⟩ := w'
      obtain ⟨rfl, rfl, rfl, rfl, rfl, g1, g2⟩ := h
      have g1 : n = N + 1 + 2 := g1
      subst g1
      rw [nI_1]
      have e1 : 3 + 3 * i + 1 + 2 = 3 + 3 * (i + 1) := by omega
      have e2 : 78 + 41 * i + 9 + 32 = 78 + 41 * (i + 1) := by omega
      rw [e1, e2]
      exact ih (i + 1) _ u' (by omega) g2
    · conv => whnf
      simp only [h0]
      refine ⟨trivial, ?_⟩
      conv => whnf
      simp only [h1, bg_X5_init]
      refine And.intro (fun cc => absurd cc (nI_ge (by omega) (by omega))) (fun cc => ?_)
      conv => whnf
      simp only [h0]
      refine ⟨trivial, ?_⟩
      refine ⟨?_, ?_, ?_⟩
      · show 3 + 3 * i + 1 ≤ _; omega
      · show 78 + 41 * i + 9 ≤ _; omega
      rw [np_force_eq]
      refine ⟨rfl, trivial, Nat.le_of_ble_eq_true rfl, Nat.le_of_ble_eq_true rfl, Nat.le_of_ble_eq_true rfl, ?_, ?_, np_up_s _ _ _, Nat.lt_succ_self _, ?_⟩
      · show 3 + 3 * i + 1 + 2 ≤ _; omega
      · show 78 + 41 * i + 9 + 32 ≤ _; omega
      rw [np_force_eq]
      conv => whnf
      have n4 : N ≠ N + 1 := by omega
      have n5 : N ≠ N + 1 + 1 := by omega
      simp only [np_up_n _ _ n1, np_up_n _ _ n2, np_up_n _ _ n3, np_up_n _ _ n4, np_up_n _ _ n5, np_up_s, h1, bg_X5_init, np_tro]
      refine ⟨rfl, trivial, hin, ?_⟩
      refine ⟨?_, ?_, ?_, ?_, ?_, ?_, ?_⟩
      · first | rfl | trivial
      · first | rfl | trivial
      · first | rfl | trivial
      · first | rfl | trivial
      · first | rfl | trivial
      · first | rfl | trivial
      · have hc := iv_X5_init_s hiv np_tr0
        rw [← bg_X5_init_s] at hc
        rw [nI_clamp (by omega)]
        rw [hiv.1] at hc ⊢
        exact hc
set_option maxRecDepth 20000 in
set_option maxHeartbeats 8000000 in
theorem run_X5_init {X : np_Ctx} (hX : np_ok RX5 cX5_init 2 3 62 81 1144 .return_ X) (hmn : np_mn X = "<init>") (hRt : X.2.2.1 = (fun st w ce sl => ce ≤ 81 ∧ sl ≤ 1144 ∧ st = [] ∧ w.1 = 81 + 1 ∧ ∀ k e, g_X5_init k = some e → w.2 k = some e)) : np_G X 0 [(0, .ref 0)] [] (1, np_wl [(0, np_bX5_init)]) 0 0 := by
  refine np_soundF (so_X5_init hX hmn) (heads := [31]) (Hd := fun pc L st w' ce sl => pc = 31 ∧ L = [(1, .int 0), (0, .ref 0)] ∧ st = [] ∧ ce = 3 ∧ sl = 78 ∧ w'.1 = 4 ∧ w'.2 1 = some (.inl (.object "NotationPress$Trace", 26, .inr (.inr (.inr (.inr (fun _ => none)))))) ∧ np_all w'.2 ls_X5_init) (fun pc L st w' ce sl h => ?_) 80 0 _ _ _ _ _ ?_
  · obtain ⟨n, u'⟩ := w'
    obtain ⟨rfl, rfl, rfl, rfl, rfl, g1, g2, g3⟩ := h
    have g1 : n = 4 := g1
    subst g1
    have g2 : u' 1 = some (.inl (.object "NotationPress$Trace", 26, .inr (.inr (.inr (.inr (fun _ => none)))))) := g2
    refine loop_X5_init hX hmn hRt 26 0 _ u' rfl ⟨rfl, g3, ?_, fun j hj => absurd hj (Nat.not_lt_zero _)⟩
    rw [g2]
    unfold bg_X5_init
    rfl
  · repeat' ((conv => whnf); first | apply And.intro | (intro cc; first | exact absurd cc (by decide) | skip))
    all_goals (first | exact rfl | exact Nat.le_of_ble_eq_true rfl | exact True.intro)
set_option maxRecDepth 20000 in
theorem C_X5_init : np_C yX5_init cX5_init 2 none 3 62 81 1144 (np_spR np_bX5_init 81 g_X5_init) := by
  refine np_ofRen (by decide) (fun _ _ _ => rfl) (fun n v hv => by
    simp only [List.mem_cons, List.not_mem_nil, or_false] at hv
    rcases hv with rfl | rfl | rfl | rfl | rfl <;> trivial) (by decide) ⟨_, rfl⟩ ?_
  intro X hX hmn hRt
  exact run_X5_init hX hmn hRt

