theorem gw130 : (Jvm.Cond.initialized "NotationPress") ∈ np_gw := np_gwi 130 (by decide +kernel) rfl
theorem gw157 : (Jvm.Cond.instanceMethod ({ cls := "java/lang/Object", name := "<init>", desc := "()V" } : Jvm.MethodName)) ∈ np_gw := np_gwi 157 (by decide +kernel) rfl
theorem gw158 : (Jvm.Cond.code ({ cls := "java/lang/Object", name := "<init>", desc := "()V" } : Jvm.MethodName) object_method_1_code (1 : Nat) (Option.none : Option Jvm.ClassFile.FieldType)) ∈ np_gw := np_gwi 158 (by decide +kernel) rfl
theorem gw183 : (Jvm.Cond.arrayClass Jvm.ClassFile.FieldType.int) ∈ np_gw := np_gwi 183 (by decide +kernel) rfl
theorem gw187 : (Jvm.Cond.static ({ cls := "NotationPress", name := "emptyCells", desc := "()[I" } : Jvm.MethodName)) ∈ np_gw := np_gwi 187 (by decide +kernel) rfl
theorem gw188 : (Jvm.Cond.code ({ cls := "NotationPress", name := "emptyCells", desc := "()[I" } : Jvm.MethodName) prog_1_method_46_code (1 : Nat) (Option.some (Jvm.ClassFile.FieldType.array Jvm.ClassFile.FieldType.int))) ∈ np_gw := np_gwi 188 (by decide +kernel) rfl
theorem gw189 : (Jvm.Cond.constant "NotationPress" (182 : Nat) (-2147483648 : Int32)) ∈ np_gw := np_gwi 189 (by decide +kernel) rfl
theorem gw190 : (Jvm.Cond.methodLink "NotationPress" (436 : Nat) ({ cls := "NotationPress", name := "fillAll", desc := "([II)V" } : Jvm.MethodName)) ∈ np_gw := np_gwi 190 (by decide +kernel) rfl
theorem gw191 : (Jvm.Cond.static ({ cls := "NotationPress", name := "fillAll", desc := "([II)V" } : Jvm.MethodName)) ∈ np_gw := np_gwi 191 (by decide +kernel) rfl
theorem gw192 : (Jvm.Cond.code ({ cls := "NotationPress", name := "fillAll", desc := "([II)V" } : Jvm.MethodName) prog_1_method_44_code (3 : Nat) (Option.none : Option Jvm.ClassFile.FieldType)) ∈ np_gw := np_gwi 192 (by decide +kernel) rfl
theorem gw208 : (Jvm.Cond.methodLink "NotationPress$Trace" (3 : Nat) ({ cls := "java/lang/Object", name := "<init>", desc := "()V" } : Jvm.MethodName)) ∈ np_gw := np_gwi 208 (by decide +kernel) rfl
theorem gw209 : (Jvm.Cond.methodLinkNest "NotationPress$Trace" (9 : Nat) ({ cls := "NotationPress", name := "emptyCells", desc := "()[I" } : Jvm.MethodName) "NotationPress") ∈ np_nw := np_nwi 209 (by decide +kernel) rfl
theorem gw210 : (Jvm.Cond.fieldLink "NotationPress$Trace" (13 : Nat) "NotationPress$Trace" "values" "[I") ∈ np_gw := np_gwi 210 (by decide +kernel) rfl
theorem gw213 : (Jvm.Cond.fieldLink "NotationPress$Trace" (19 : Nat) "NotationPress$Trace" "starts" "[I") ∈ np_gw := np_gwi 213 (by decide +kernel) rfl
theorem gw228 : (Jvm.Cond.laysFinal "NotationPress$Trace" "NotationPress$Trace" "values" "[I") ∈ np_gw := np_gwi 228 (by decide +kernel) rfl
theorem gw230 : (Jvm.Cond.laysFinal "NotationPress$Trace" "NotationPress$Trace" "starts" "[I") ∈ np_gw := np_gwi 230 (by decide +kernel) rfl
theorem gw232 : (Jvm.Cond.lays "NotationPress$Trace" "NotationPress$Trace" "item" "I") ∈ np_gw := np_gwi 232 (by decide +kernel) rfl
theorem gw234 : (Jvm.Cond.lays "NotationPress$Trace" "NotationPress$Trace" "loop" "I") ∈ np_gw := np_gwi 234 (by decide +kernel) rfl
theorem gw236 : (Jvm.Cond.lays "NotationPress$Trace" "NotationPress$Trace" "times" "I") ∈ np_gw := np_gwi 236 (by decide +kernel) rfl
theorem gw238 : (Jvm.Cond.lays "NotationPress$Trace" "NotationPress$Trace" "round" "I") ∈ np_gw := np_gwi 238 (by decide +kernel) rfl
theorem gw240 : (Jvm.Cond.lays "NotationPress$Trace" "NotationPress$Trace" "length" "I") ∈ np_gw := np_gwi 240 (by decide +kernel) rfl
theorem gw242 : (Jvm.Cond.lays "NotationPress$Trace" "NotationPress$Trace" "digits" "I") ∈ np_gw := np_gwi 242 (by decide +kernel) rfl
theorem gw244 : (Jvm.Cond.lays "NotationPress$Trace" "NotationPress$Trace" "digitSum" "I") ∈ np_gw := np_gwi 244 (by decide +kernel) rfl
set_option maxRecDepth 20000 in
theorem guX8 : ∀ w ∈ u_ws RX8 TX8 9, w ∈ np_gw := by
  show ∀ w ∈ [(Jvm.Cond.laysFinal "NotationPress$Trace" "NotationPress$Trace" "values" "[I"), (Jvm.Cond.laysFinal "NotationPress$Trace" "NotationPress$Trace" "starts" "[I"), (Jvm.Cond.lays "NotationPress$Trace" "NotationPress$Trace" "item" "I"), (Jvm.Cond.lays "NotationPress$Trace" "NotationPress$Trace" "loop" "I"), (Jvm.Cond.lays "NotationPress$Trace" "NotationPress$Trace" "times" "I"), (Jvm.Cond.lays "NotationPress$Trace" "NotationPress$Trace" "round" "I"), (Jvm.Cond.lays "NotationPress$Trace" "NotationPress$Trace" "length" "I"), (Jvm.Cond.lays "NotationPress$Trace" "NotationPress$Trace" "digits" "I"), (Jvm.Cond.lays "NotationPress$Trace" "NotationPress$Trace" "digitSum" "I")], w ∈ np_gw
  exact List.forall_mem_cons.mpr ⟨gw228, List.forall_mem_cons.mpr ⟨gw230, List.forall_mem_cons.mpr ⟨gw232, List.forall_mem_cons.mpr ⟨gw234, List.forall_mem_cons.mpr ⟨gw236, List.forall_mem_cons.mpr ⟨gw238, List.forall_mem_cons.mpr ⟨gw240, List.forall_mem_cons.mpr ⟨gw242, List.forall_mem_cons.mpr ⟨gw244, fun _ h => nomatch h⟩⟩⟩⟩⟩⟩⟩⟩⟩
theorem ndX8 : ∀ j, j < 9 → defaultValue (tyX8 j) = vp_V [.null, .null, .int 0, .int 0, .int 0, .int 0, .int 0, .int 0, .int 0] j := by decide +kernel
theorem nfX8 : ∀ v ∈ ([.null, .null, .int 0, .int 0, .int 0, .int 0, .int 0, .int 0, .int 0] : List Value), ∀ ad : Nat → Nat, np_v ad v = v := by
  intro v hv ad
  simp only [List.mem_cons, List.not_mem_nil, or_false] at hv
  rcases hv with rfl | rfl | rfl | rfl | rfl | rfl | rfl | rfl | rfl <;> rfl
theorem dX11_fillAll_0 : decode cX11_fillAll 0 = .ok (.iconst 0, 1) := by decide +kernel
theorem dX11_fillAll_1 : decode cX11_fillAll 1 = .ok (.istore_n 2, 1) := by decide +kernel
theorem dX11_fillAll_2 : decode cX11_fillAll 2 = .ok (.iload_n 2, 1) := by decide +kernel
theorem dX11_fillAll_3 : decode cX11_fillAll 3 = .ok (.aload_n 0, 1) := by decide +kernel
theorem dX11_fillAll_4 : decode cX11_fillAll 4 = .ok (.arraylength, 1) := by decide +kernel
theorem dX11_fillAll_5 : decode cX11_fillAll 5 = .ok (.if_icmp .ge 13, 3) := by decide +kernel
theorem dX11_fillAll_8 : decode cX11_fillAll 8 = .ok (.aload_n 0, 1) := by decide +kernel
theorem dX11_fillAll_9 : decode cX11_fillAll 9 = .ok (.iload_n 2, 1) := by decide +kernel
theorem dX11_fillAll_10 : decode cX11_fillAll 10 = .ok (.iload_n 1, 1) := by decide +kernel
theorem dX11_fillAll_11 : decode cX11_fillAll 11 = .ok (.iastore, 1) := by decide +kernel
theorem dX11_fillAll_12 : decode cX11_fillAll 12 = .ok (.iinc 2 1, 3) := by decide +kernel
theorem dX11_fillAll_15 : decode cX11_fillAll 15 = .ok (.goto (-13), 3) := by decide +kernel
theorem dX11_fillAll_18 : decode cX11_fillAll 18 = .ok (.return_, 1) := by decide +kernel
def is_X11_fillAll (Rt : np_Rt) : List (Nat × np_Op) := [(0, np_push 1 (.int 0)), (1, np_ist 1 2), (2, np_ild 1 2), (3, np_ald 1 0), (4, np_alen), (5, np_ic (fun x y => y ≤ x) 18), (8, np_ald 1 0), (9, np_ild 1 2), (10, np_ild 1 1), (11, np_iastT .int), (12, np_iinc 2 1), (15, np_goto 2), (18, np_ret Rt)]
set_option maxRecDepth 20000 in
theorem so_X11_fillAll {X : np_Ctx} (hX : np_ok RX11 cX11_fillAll 3 0 0 0 0 .return_ X) : ∀ q ∈ is_X11_fillAll X.2.2.1, np_S X q.1 q.2 :=
  List.forall_mem_cons.mpr ⟨np_s_iconst hX dX11_fillAll_0 (by decide), List.forall_mem_cons.mpr ⟨np_s_istore_n hX dX11_fillAll_1 rfl (by decide), List.forall_mem_cons.mpr ⟨np_s_iload_n hX dX11_fillAll_2 rfl, List.forall_mem_cons.mpr ⟨np_s_aload_n hX dX11_fillAll_3 rfl, List.forall_mem_cons.mpr ⟨np_s_alen hX dX11_fillAll_4, List.forall_mem_cons.mpr ⟨np_s_icmp_ge hX dX11_fillAll_5 (by decide), List.forall_mem_cons.mpr ⟨np_s_aload_n hX dX11_fillAll_8 rfl, List.forall_mem_cons.mpr ⟨np_s_iload_n hX dX11_fillAll_9 rfl, List.forall_mem_cons.mpr ⟨np_s_iload_n hX dX11_fillAll_10 rfl, List.forall_mem_cons.mpr ⟨np_s_iast hX dX11_fillAll_11, List.forall_mem_cons.mpr ⟨np_s_iinc hX dX11_fillAll_12 (by decide), List.forall_mem_cons.mpr ⟨np_s_goto hX dX11_fillAll_15 (by decide), List.forall_mem_cons.mpr ⟨np_s_ret hX dX11_fillAll_18, fun _ h => nomatch h⟩⟩⟩⟩⟩⟩⟩⟩⟩⟩⟩⟩⟩
def np_fa (n : Nat) (v : Int32) (f : Nat → Int32) : Nat → Int32 := fun j => if j < n then v else f j
def sp_X11_fillAll : np_Sp := fun vs w Q => match vs with
  | [.ref k, .int v] => (match w.2 k with
    | some (.inl (t, n, .inl f)) => t = .int ∧ n ≤ 60000 ∧ Q none (w.1, np_up w.2 k (.inl (.int, n, .inl (np_fa n v f))))
    | _ => False)
  | _ => False
set_option maxRecDepth 20000 in
theorem fillAll_loop {X : np_Ctx} (hX : np_ok RX11 cX11_fillAll 3 0 0 0 0 .return_ X) {k n : Nat} {v : Int32} {f : Nat → Int32} {w : np_W} {Q : Option Value → np_W → Prop} (hn : n ≤ 60000) (hRt : X.2.2.1 = np_rt none 0 0 Q) (hQ : Q none (w.1, np_up w.2 k (.inl (.int, n, .inl (np_fa n v f))))) :
    ∀ (d i : Nat) (u : Nat → Option np_E), i + d = n → np_up u k (.inl (.int, n, .inl (np_fa n v f))) = np_up w.2 k (.inl (.int, n, .inl (np_fa n v f))) → u k = some (.inl (.int, n, .inl (np_fa i v f))) → np_G X 2 [(2, .int (nI i)), (0, .ref k), (1, .int v)] [] (w.1, u) 0 0 := by
  intro d
  induction d with
  | zero =>
    intro i u hi hu huk
    have hin : i = n := by omega
    subst hin
    refine np_fin (so_X11_fillAll hX) 12 ?_
    rw [hRt]
    (conv => whnf); simp only [huk]
    refine And.intro (fun cc => ?_) (fun cc => absurd (show Int32.ofNat i ≤ nI i from nI_le (Nat.le_refl i) (by omega)) cc)
    refine ⟨Nat.le_refl 0, Nat.le_refl 0, rfl, u, fun _ _ h9 => h9, ?_⟩
    rw [np_up_get huk] at hu
    show Q none (w.1, u)
    rw [hu]
    exact hQ
  | succ d ih =>
    intro i u hi hu huk
    have hin : vp_in (nI i) n := vp_in_nI (by omega) (by omega)
    refine np_sound (so_X11_fillAll hX) (heads := [2]) (Hd := fun pc L st w' ce sl => pc = 2 ∧ L = [(2, .int (nI i + 1)), (0, .ref k), (1, .int v)] ∧ st = [] ∧ w' = (w.1, np_up u k (.inl (.int, n, .inl (np_fa (i + 1) v f)))) ∧ ce = 0 ∧ sl = 0) (fun pc L st w' ce sl h => ?_) 12 2 _ _ _ _ _ ?_
    · obtain ⟨rfl, rfl, rfl, rfl, rfl, rfl⟩ := h
      rw [nI_1]
      exact ih (i + 1) _ (by omega) (by rw [np_up_up]; exact hu) (np_up_s _ _ _)
    · (conv => whnf); simp only [huk]
      refine And.intro (fun cc => absurd cc (nI_ge (by omega) (by omega))) (fun cc => ?_)
      (conv => whnf); simp only [huk]; refine ⟨trivial, hin, ?_⟩
      refine ⟨by first | rfl | trivial, by first | rfl | trivial, by first | rfl | trivial, ?_, by first | rfl | trivial, by first | rfl | trivial⟩
      have hg : upd (np_fa i v f) (nI i).toNatClampNeg (vp_nar .int v) = np_fa (i + 1) v f := by
        rw [nI_clamp (by omega)]
        funext j
        unfold upd np_fa
        by_cases h1 : j = i
        · rw [if_pos h1, if_pos (by omega)]
          rfl
        · rw [if_neg h1]
          by_cases h2 : j < i
          · rw [if_pos h2, if_pos (by omega)]
          · rw [if_neg h2, if_neg (by omega)]
      rw [hg]
theorem C_X11_fillAll : np_C yX11_fillAll cX11_fillAll 3 none 0 0 0 0 sp_X11_fillAll := by
  refine np_of (by decide) ?_
  intro X vs w Q hsp hX hmn hRt hlt
  unfold sp_X11_fillAll at hsp
  split at hsp
  · rename_i k v
    split at hsp
    · rename_i t n f hk
      obtain ⟨rfl, hn, hQ⟩ := hsp
      refine np_sound (so_X11_fillAll hX) (heads := [2]) (Hd := fun pc L st w' ce sl => pc = 2 ∧ L = [(2, .int 0), (0, .ref k), (1, .int v)] ∧ st = [] ∧ w' = w ∧ ce = 0 ∧ sl = 0) (fun pc L st w' ce sl h => ?_) 12 0 _ _ _ _ _ ?_
      · obtain ⟨rfl, rfl, rfl, rfl, rfl, rfl⟩ := h
        refine fillAll_loop hX hn hRt hQ n 0 _ (by omega) rfl ?_
        rw [hk]
        rfl
      · exact ⟨rfl, rfl, rfl, rfl, rfl, rfl⟩
    · exact hsp.elim
  · exact hsp.elim

theorem dX11_emptyCells_0 : decode cX11_emptyCells 0 = .ok (.bipush 24, 2) := by decide +kernel
theorem dX11_emptyCells_2 : decode cX11_emptyCells 2 = .ok (.newarray .int, 2) := by decide +kernel
theorem dX11_emptyCells_4 : decode cX11_emptyCells 4 = .ok (.astore_n 0, 1) := by decide +kernel
theorem dX11_emptyCells_5 : decode cX11_emptyCells 5 = .ok (.aload_n 0, 1) := by decide +kernel
theorem dX11_emptyCells_6 : decode cX11_emptyCells 6 = .ok (.ldc 182, 2) := by decide +kernel
theorem dX11_emptyCells_8 : decode cX11_emptyCells 8 = .ok (.invokestatic 436, 3) := by decide +kernel
theorem dX11_emptyCells_11 : decode cX11_emptyCells 11 = .ok (.aload_n 0, 1) := by decide +kernel
theorem dX11_emptyCells_12 : decode cX11_emptyCells 12 = .ok (.areturn, 1) := by decide +kernel
def is_X11_emptyCells (Rt : np_Rt) : List (Nat × np_Op) := [(0, np_push 2 (.int 24)), (2, np_newa .int 24 (24, .inl fun _ => 0) 1 24), (4, np_ast 1 0), (5, np_ald 1 0), (6, np_push 2 (.int (-2147483648))), (8, np_call 2 sp_X11_fillAll 3 0 0 1 24), (11, np_ald 1 0), (12, np_ret Rt)]
set_option maxRecDepth 20000 in
theorem so_X11_emptyCells {X : np_Ctx} (hX : np_ok RX11 cX11_emptyCells 1 1 22 1 24 .areturn X) : ∀ q ∈ is_X11_emptyCells X.2.2.1, np_S X q.1 q.2 :=
  List.forall_mem_cons.mpr ⟨np_s_bipush hX dX11_emptyCells_0 (by decide), List.forall_mem_cons.mpr ⟨np_s_newa hX dX11_emptyCells_2 rfl gw183 (by decide) (by intro C h; cases h) (by decide) (fun _ => vp_cell_i _ _ _) (by decide) (fun _ _ => rfl) (fun _ => trivial), List.forall_mem_cons.mpr ⟨np_s_astore_n hX dX11_emptyCells_4 rfl (by decide), List.forall_mem_cons.mpr ⟨np_s_aload_n hX dX11_emptyCells_5 rfl, List.forall_mem_cons.mpr ⟨np_s_ldc hX dX11_emptyCells_6 gw189, List.forall_mem_cons.mpr ⟨np_s_callS hX C_X11_fillAll dX11_emptyCells_8 gw192 gw130 gw190 gw191 ⟨by decide, by decide, by decide⟩ (by decide) (by decide), List.forall_mem_cons.mpr ⟨np_s_aload_n hX dX11_emptyCells_11 rfl, List.forall_mem_cons.mpr ⟨np_s_ret hX dX11_emptyCells_12, fun _ h => nomatch h⟩⟩⟩⟩⟩⟩⟩⟩
def np_e24 : np_E := .inl (.int, 24, .inl (np_fa 24 (-2147483648) (fun _ => 0)))
def sp_X11_emptyCells : np_Sp := fun vs w Q => match vs with
  | [] => np_force w.1 (fun n => Q (some (.ref n)) (n + 1, np_up w.2 n np_e24))
  | _ => False
set_option maxRecDepth 20000 in
theorem C_X11_emptyCells : np_C yX11_emptyCells cX11_emptyCells 1 (some (.array .int)) 1 22 1 24 sp_X11_emptyCells := by
  refine np_of (by decide) ?_
  intro X vs w Q hsp hX hmn hRt hlt
  unfold sp_X11_emptyCells at hsp
  split at hsp
  · rw [np_force_eq] at hsp
    refine np_fin (so_X11_emptyCells hX) 20 ?_
    rw [hRt]
    refine ⟨rfl, Nat.le_refl 1, Nat.le_of_ble_eq_true rfl, ?_⟩
    rw [np_force_eq]
    refine ⟨Nat.le_of_ble_eq_true rfl, Nat.le_of_ble_eq_true rfl, Nat.le_of_ble_eq_true rfl, Nat.le_of_ble_eq_true rfl, Nat.le_of_ble_eq_true rfl, ?_⟩
    conv => whnf
    simp only [np_up_s]
    refine ⟨trivial, Nat.le_of_ble_eq_true rfl, ?_⟩
    refine ⟨Nat.le_of_ble_eq_true rfl, Nat.le_of_ble_eq_true rfl, Or.inr ⟨_, rfl⟩, _, fun _ _ h9 => h9, ?_⟩
    rw [np_up_up]
    exact hsp
  · exact hsp.elim

theorem dX8_init_0 : decode cX8_init 0 = .ok (.aload_n 0, 1) := by decide +kernel
theorem dX8_init_1 : decode cX8_init 1 = .ok (.invokespecial 3, 3) := by decide +kernel
theorem dX8_init_4 : decode cX8_init 4 = .ok (.aload_n 0, 1) := by decide +kernel
theorem dX8_init_5 : decode cX8_init 5 = .ok (.invokestatic 9, 3) := by decide +kernel
theorem dX8_init_8 : decode cX8_init 8 = .ok (.putfield 13, 3) := by decide +kernel
theorem dX8_init_11 : decode cX8_init 11 = .ok (.aload_n 0, 1) := by decide +kernel
theorem dX8_init_12 : decode cX8_init 12 = .ok (.bipush 8, 2) := by decide +kernel
theorem dX8_init_14 : decode cX8_init 14 = .ok (.newarray .int, 2) := by decide +kernel
theorem dX8_init_16 : decode cX8_init 16 = .ok (.putfield 19, 3) := by decide +kernel
theorem dX8_init_19 : decode cX8_init 19 = .ok (.return_, 1) := by decide +kernel
def is_X8_init (Rt : np_Rt) : List (Nat × np_Op) := [(0, np_ald 1 0), (1, np_oinit), (4, np_ald 1 0), (5, np_call 0 sp_X11_emptyCells 1 1 24 2 32), (8, np_putf 8 0 (.array .int)), (11, np_ald 1 0), (12, np_push 2 (.int 8)), (14, np_newa .int 8 (8, .inl fun _ => 0) 2 32), (16, np_putf 8 1 (.array .int)), (19, np_ret Rt)]
set_option maxRecDepth 20000 in
theorem so_X8_init {X : np_Ctx} (hX : np_ok RX8 cX8_init 1 2 42 2 32 .return_ X) (hmn : np_mn X = "<init>") : ∀ q ∈ is_X8_init X.2.2.1, np_S X q.1 q.2 :=
  List.forall_mem_cons.mpr ⟨np_s_aload_n hX dX8_init_0 rfl, List.forall_mem_cons.mpr ⟨np_s_oinit hX dX8_init_1 gw208 gw157 gw158 (by decide) (by decide), List.forall_mem_cons.mpr ⟨np_s_aload_n hX dX8_init_4 rfl, List.forall_mem_cons.mpr ⟨np_s_callSN hX C_X11_emptyCells dX8_init_5 gw188 gw130 gw209 gw187 ⟨by decide, by decide, by decide⟩ (by decide) (by decide), List.forall_mem_cons.mpr ⟨np_s_putF hX dX8_init_8 hmn (C := RX8) (T := TX8) (N := 9) (ty0 := tyX8) rfl guX8 tyX8_ok nmX8 (by decide) gw210 rfl rfl rfl, List.forall_mem_cons.mpr ⟨np_s_aload_n hX dX8_init_11 rfl, List.forall_mem_cons.mpr ⟨np_s_bipush hX dX8_init_12 (by decide), List.forall_mem_cons.mpr ⟨np_s_newa hX dX8_init_14 rfl gw183 (by decide) (by intro C h; cases h) (by decide) (fun _ => vp_cell_i _ _ _) (by decide) (fun _ _ => rfl) (fun _ => trivial), List.forall_mem_cons.mpr ⟨np_s_putF hX dX8_init_16 hmn (C := RX8) (T := TX8) (N := 9) (ty0 := tyX8) rfl guX8 tyX8_ok nmX8 (by decide) gw213 rfl rfl rfl, List.forall_mem_cons.mpr ⟨np_s_ret hX dX8_init_19, fun _ h => nomatch h⟩⟩⟩⟩⟩⟩⟩⟩⟩⟩
def np_tr0 : np_E := .inr (8, [.null, .null, .int 0, .int 0, .int 0, .int 0, .int 0, .int 0, .int 0])
def sp_X8_init : np_Sp := fun vs w Q => match vs with
  | [.ref k] => w.2 k = some np_tr0 ∧ k < w.1 ∧ np_force w.1 (fun n => Q none (n + 2, np_up w.2 k (.inr (8, [.ref n, .ref (n + 1), .int 0, .int 0, .int 0, .int 0, .int 0, .int 0, .int 0]))))
  | _ => False
set_option maxRecDepth 20000 in
theorem C_X8_init : np_C yX8_init cX8_init 1 none 2 42 2 32 sp_X8_init := by
  refine np_of (by decide) ?_
  intro X vs w Q hsp hX hmn hRt hlt
  unfold sp_X8_init at hsp
  split at hsp
  · rename_i k
    obtain ⟨hk, hkn, hsp⟩ := hsp
    rw [np_force_eq] at hsp
    obtain ⟨n, f⟩ := w
    have hk : f k = some np_tr0 := hk
    have hkn : k < n := hkn
    have n1 : k ≠ n := Nat.ne_of_lt hkn
    have n2 : k ≠ n + 1 := Nat.ne_of_lt (Nat.lt_succ_of_lt hkn)
    have n3 : n ≠ k := Ne.symm n1
    refine np_fin (so_X8_init hX hmn) 20 ?_
    rw [hRt]
    refine ⟨Nat.le_of_ble_eq_true rfl, ?_⟩
    refine ⟨Nat.le_of_ble_eq_true rfl, Nat.le_of_ble_eq_true rfl, Nat.le_of_ble_eq_true rfl, Nat.le_of_ble_eq_true rfl, Nat.le_of_ble_eq_true rfl, ?_⟩
    show sp_X11_emptyCells [] (n, f) _
    unfold sp_X11_emptyCells
    dsimp only
    rw [np_force_eq]
    conv => whnf
    simp only [np_up_n _ _ n1, hk, np_tr0]
    refine ⟨trivial, rfl, rfl, Nat.le_of_ble_eq_true rfl, ?_⟩
    refine ⟨rfl, Nat.le_of_ble_eq_true rfl, Nat.le_of_ble_eq_true rfl, ?_⟩
    rw [np_force_eq]
    conv => whnf
    simp only [np_up_n _ _ n2, np_up_s]
    refine ⟨trivial, rfl, rfl, Nat.le_of_ble_eq_true rfl, ?_⟩
    refine ⟨Nat.le_of_ble_eq_true rfl, Nat.le_of_ble_eq_true rfl, rfl, _, fun j e9 hj => ?_, hsp⟩
    dsimp only at hj ⊢
    by_cases hjk : j = k
    · subst hjk
      rw [np_up_s] at hj ⊢
      exact hj
    · rw [np_up_n _ _ hjk] at hj ⊢
      have hjn : j < n := hlt j e9 hj
      rw [np_up_n _ _ (by omega), np_up_n _ _ hjk, np_up_n _ _ (by omega)]
      exact hj
  · exact hsp.elim

