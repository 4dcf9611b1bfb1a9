theorem gw92 : (Jvm.Cond.instanceMethod ({ cls := "java/lang/Object", name := "<init>", desc := "()V" } : Jvm.MethodName)) ∈ np_gw := np_gwi 92 (by decide +kernel) rfl
theorem gw93 : (Jvm.Cond.code ({ cls := "java/lang/Object", name := "<init>", desc := "()V" } : Jvm.MethodName) object_method_1_code (1 : Nat) (Option.none : Option Jvm.ClassFile.FieldType)) ∈ np_gw := np_gwi 93 (by decide +kernel) rfl
theorem gw95 : (Jvm.Cond.instantiable "NotationPress$Items" (5 : Nat)) ∈ np_gw := np_gwi 95 (by decide +kernel) rfl
theorem gw97 : (Jvm.Cond.instanceMethod ({ cls := "NotationPress$Items", name := "<init>", desc := "()V" } : Jvm.MethodName)) ∈ np_gw := np_gwi 97 (by decide +kernel) rfl
theorem gw98 : (Jvm.Cond.code ({ cls := "NotationPress$Items", name := "<init>", desc := "()V" } : Jvm.MethodName) prog_4_method_1_code (1 : Nat) (Option.none : Option Jvm.ClassFile.FieldType)) ∈ np_gw := np_gwi 98 (by decide +kernel) rfl
theorem gw99 : (Jvm.Cond.methodLink "NotationPress$Items" (3 : Nat) ({ cls := "java/lang/Object", name := "<init>", desc := "()V" } : Jvm.MethodName)) ∈ np_gw := np_gwi 99 (by decide +kernel) rfl
theorem gw118 : (Jvm.Cond.arrayClass Jvm.ClassFile.FieldType.int) ∈ np_gw := np_gwi 118 (by decide +kernel) rfl
theorem gw122 : (Jvm.Cond.static ({ cls := "NotationPress", name := "emptyCells", desc := "()[I" } : Jvm.MethodName)) ∈ np_gw := np_gwi 122 (by decide +kernel) rfl
theorem gw123 : (Jvm.Cond.code ({ cls := "NotationPress", name := "emptyCells", desc := "()[I" } : Jvm.MethodName) prog_1_method_46_code (1 : Nat) (Option.some (Jvm.ClassFile.FieldType.array Jvm.ClassFile.FieldType.int))) ∈ np_gw := np_gwi 123 (by decide +kernel) rfl
theorem gw125 : (Jvm.Cond.methodLink "NotationPress" (436 : Nat) ({ cls := "NotationPress", name := "fillAll", desc := "([II)V" } : Jvm.MethodName)) ∈ np_gw := np_gwi 125 (by decide +kernel) rfl
theorem gw137 : (Jvm.Cond.methodLink "NotationPress$Printer" (3 : Nat) ({ cls := "java/lang/Object", name := "<init>", desc := "()V" } : Jvm.MethodName)) ∈ np_gw := np_gwi 137 (by decide +kernel) rfl
theorem gw138 : (Jvm.Cond.classLink "NotationPress$Printer" (18 : Nat) "NotationPress$Trace") ∈ np_gw := np_gwi 138 (by decide +kernel) rfl
theorem gw139 : (Jvm.Cond.instantiable "NotationPress$Trace" (9 : Nat)) ∈ np_gw := np_gwi 139 (by decide +kernel) rfl
theorem gw140 : (Jvm.Cond.methodLinkNest "NotationPress$Printer" (20 : Nat) ({ cls := "NotationPress$Trace", name := "<init>", desc := "()V" } : Jvm.MethodName) "NotationPress") ∈ np_nw := np_nwi 140 (by decide +kernel) rfl
theorem gw141 : (Jvm.Cond.instanceMethod ({ cls := "NotationPress$Trace", name := "<init>", desc := "()V" } : Jvm.MethodName)) ∈ np_gw := np_gwi 141 (by decide +kernel) rfl
theorem gw142 : (Jvm.Cond.code ({ cls := "NotationPress$Trace", name := "<init>", desc := "()V" } : Jvm.MethodName) prog_10_method_1_code (1 : Nat) (Option.none : Option Jvm.ClassFile.FieldType)) ∈ np_gw := np_gwi 142 (by decide +kernel) rfl
theorem gw143 : (Jvm.Cond.methodLink "NotationPress$Trace" (3 : Nat) ({ cls := "java/lang/Object", name := "<init>", desc := "()V" } : Jvm.MethodName)) ∈ np_gw := np_gwi 143 (by decide +kernel) rfl
theorem gw144 : (Jvm.Cond.methodLinkNest "NotationPress$Trace" (9 : Nat) ({ cls := "NotationPress", name := "emptyCells", desc := "()[I" } : Jvm.MethodName) "NotationPress") ∈ np_nw := np_nwi 144 (by decide +kernel) rfl
theorem gw208 : (Jvm.Cond.methodLink "NotationPress$Text" (3 : Nat) ({ cls := "java/lang/Object", name := "<init>", desc := "()V" } : Jvm.MethodName)) ∈ np_gw := np_gwi 208 (by decide +kernel) rfl
theorem gw221 : (Jvm.Cond.arrayClass Jvm.ClassFile.FieldType.char) ∈ np_gw := np_gwi 221 (by decide +kernel) rfl
theorem gw289 : (Jvm.Cond.methodLink "NotationPress$UpgradeDraft" (3 : Nat) ({ cls := "java/lang/Object", name := "<init>", desc := "()V" } : Jvm.MethodName)) ∈ np_gw := np_gwi 289 (by decide +kernel) rfl
theorem gw310 : (Jvm.Cond.methodLink "NotationPress$Description" (3 : Nat) ({ cls := "java/lang/Object", name := "<init>", desc := "()V" } : Jvm.MethodName)) ∈ np_gw := np_gwi 310 (by decide +kernel) rfl
theorem gw311 : (Jvm.Cond.classLink "NotationPress$Description" (9 : Nat) "NotationPress$Items") ∈ np_gw := np_gwi 311 (by decide +kernel) rfl
theorem gw312 : (Jvm.Cond.methodLinkNest "NotationPress$Description" (11 : Nat) ({ cls := "NotationPress$Items", name := "<init>", desc := "()V" } : Jvm.MethodName) "NotationPress") ∈ np_nw := np_nwi 312 (by decide +kernel) rfl
theorem gw343 : (Jvm.Cond.methodLink "NotationPress$Table" (3 : Nat) ({ cls := "java/lang/Object", name := "<init>", desc := "()V" } : Jvm.MethodName)) ∈ np_gw := np_gwi 343 (by decide +kernel) rfl
theorem gw393 : (Jvm.Cond.methodLink "NotationPress$Column" (3 : Nat) ({ cls := "java/lang/Object", name := "<init>", desc := "()V" } : Jvm.MethodName)) ∈ np_gw := np_gwi 393 (by decide +kernel) rfl
theorem gw417 : (Jvm.Cond.methodLink "NotationPress$Upgrade" (3 : Nat) ({ cls := "java/lang/Object", name := "<init>", desc := "()V" } : Jvm.MethodName)) ∈ np_gw := np_gwi 417 (by decide +kernel) rfl
def isZ_X11_fillAll (Rt : np_Rt) : List (Nat × np_Op) := [(0, np_push 1 (.int 0)), (1, np_ist 1 2), (2, np_ild 1 2), (3, np_ald 1 0), (4, np_alen), (5, np_ic (fun x y => y ≤ x) 18), (8, np_ald 1 0), (9, np_ild 1 2), (10, np_ild 1 1), (11, np_iastT .int), (12, np_iinc 2 1), (15, np_goto 2), (18, np_ret Rt)]
set_option maxRecDepth 20000 in
theorem soZ_X11_fillAll {X : np_Ctx} (hX : np_ok RX11 cX11_fillAll 3 0 0 0 0 .return_ X) : ∀ q ∈ isZ_X11_fillAll X.2.2.1, np_S X q.1 q.2 :=
  List.forall_mem_cons.mpr ⟨np_s_iconst hX dX11_fillAll_0 (by decide), List.forall_mem_cons.mpr ⟨np_s_istore_n hX dX11_fillAll_1 rfl (by decide), List.forall_mem_cons.mpr ⟨np_s_iload_n hX dX11_fillAll_2 rfl, List.forall_mem_cons.mpr ⟨np_s_aload_n hX dX11_fillAll_3 rfl, List.forall_mem_cons.mpr ⟨np_s_alen hX dX11_fillAll_4, List.forall_mem_cons.mpr ⟨np_s_icmp_ge hX dX11_fillAll_5 (by decide), List.forall_mem_cons.mpr ⟨np_s_aload_n hX dX11_fillAll_8 rfl, List.forall_mem_cons.mpr ⟨np_s_iload_n hX dX11_fillAll_9 rfl, List.forall_mem_cons.mpr ⟨np_s_iload_n hX dX11_fillAll_10 rfl, List.forall_mem_cons.mpr ⟨np_s_iast hX dX11_fillAll_11, List.forall_mem_cons.mpr ⟨np_s_iinc hX dX11_fillAll_12 (by decide), List.forall_mem_cons.mpr ⟨np_s_goto hX dX11_fillAll_15 (by decide), List.forall_mem_cons.mpr ⟨np_s_ret hX dX11_fillAll_18, fun _ h => nomatch h⟩⟩⟩⟩⟩⟩⟩⟩⟩⟩⟩⟩⟩
def np_fa (n : Nat) (v : Int32) (f : Nat → Int32) : Nat → Int32 := fun j => if j < n then v else f j
def sr_X11_fillAll : np_Sp := fun vs w Q => match vs with
  | [.ref k, .int v] => (match w.2 k with
    | some (.inl (t, n, .inl f)) => t = .int ∧ n ≤ 60000 ∧ Q none (w.1, np_up w.2 k (.inl (.int, n, .inl (np_fa n v f))))
    | _ => False)
  | _ => False
set_option maxRecDepth 20000 in
theorem fillAllr_loop {X : np_Ctx} (hX : np_ok RX11 cX11_fillAll 3 0 0 0 0 .return_ X) {k n : Nat} {v : Int32} {f : Nat → Int32} {w : np_W} {Q : Option Value → np_W → Prop} (hn : n ≤ 60000) (hRt : X.2.2.1 = np_rt none 0 0 Q) (hQ : Q none (w.1, np_up w.2 k (.inl (.int, n, .inl (np_fa n v f))))) :
    ∀ (d i : Nat) (u : Nat → Option np_E), i + d = n → np_up u k (.inl (.int, n, .inl (np_fa n v f))) = np_up w.2 k (.inl (.int, n, .inl (np_fa n v f))) → u k = some (.inl (.int, n, .inl (np_fa i v f))) → np_G X 2 [(2, .int (nI i)), (0, .ref k), (1, .int v)] [] (w.1, u) 0 0 := by
  intro d
  induction d with
  | zero =>
    intro i u hi hu huk
    have hin : i = n := by omega
    subst hin
    refine np_fin (soZ_X11_fillAll hX) 12 ?_
    rw [hRt]
    (conv => whnf); simp only [huk]
    refine And.intro (fun cc => ?_) (fun cc => absurd (show Int32.ofNat i ≤ nI i from nI_le (Nat.le_refl i) (by omega)) cc)
    refine ⟨Nat.le_refl 0, Nat.le_refl 0, rfl, u, fun _ _ h9 => h9, ?_⟩
    rw [np_up_get huk] at hu
    show Q none (w.1, u)
    rw [hu]
    exact hQ
  | succ d ih =>
    intro i u hi hu huk
    have hin : vp_in (nI i) n := vp_in_nI (by omega) (by omega)
    refine np_sound (soZ_X11_fillAll hX) (heads := [2]) (Hd := fun pc L st w' ce sl => pc = 2 ∧ L = [(2, .int (nI i + 1)), (0, .ref k), (1, .int v)] ∧ st = [] ∧ w' = (w.1, np_up u k (.inl (.int, n, .inl (np_fa (i + 1) v f)))) ∧ ce = 0 ∧ sl = 0) (fun pc L st w' ce sl h => ?_) 12 2 _ _ _ _ _ ?_
    · obtain ⟨rfl, rfl, rfl, rfl, rfl, rfl⟩ := h
      rw [nI_1]
      exact ih (i + 1) _ (by omega) (by rw [np_up_up]; exact hu) (np_up_s _ _ _)
    · (conv => whnf); simp only [huk]
      refine And.intro (fun cc => absurd cc (nI_ge (by omega) (by omega))) (fun cc => ?_)
      (conv => whnf); simp only [huk]; refine ⟨trivial, hin, ?_⟩
      refine ⟨by first | rfl | trivial, by first | rfl | trivial, by first | rfl | trivial, ?_, by first | rfl | trivial, by first | rfl | trivial⟩
      have hg : upd (np_fa i v f) (nI i).toNatClampNeg (vp_nar .int v) = np_fa (i + 1) v f := by
        rw [nI_clamp (by omega)]
        funext j
        unfold upd np_fa
        by_cases h1 : j = i
        · rw [if_pos h1, if_pos (by omega)]
          rfl
        · rw [if_neg h1]
          by_cases h2 : j < i
          · rw [if_pos h2, if_pos (by omega)]
          · rw [if_neg h2, if_neg (by omega)]
      rw [hg]
theorem Cr_X11_fillAll : np_C yX11_fillAll cX11_fillAll 3 none 0 0 0 0 sr_X11_fillAll := by
  refine np_of (by decide) ?_
  intro X vs w Q hsp hX hmn hRt hlt
  unfold sr_X11_fillAll at hsp
  split at hsp
  · rename_i k v
    split at hsp
    · rename_i t n f hk
      obtain ⟨rfl, hn, hQ⟩ := hsp
      refine np_sound (soZ_X11_fillAll hX) (heads := [2]) (Hd := fun pc L st w' ce sl => pc = 2 ∧ L = [(2, .int 0), (0, .ref k), (1, .int v)] ∧ st = [] ∧ w' = w ∧ ce = 0 ∧ sl = 0) (fun pc L st w' ce sl h => ?_) 12 0 _ _ _ _ _ ?_
      · obtain ⟨rfl, rfl, rfl, rfl, rfl, rfl⟩ := h
        refine fillAllr_loop hX hn hRt hQ n 0 _ (by omega) rfl ?_
        rw [hk]
        rfl
      · exact ⟨rfl, rfl, rfl, rfl, rfl, rfl⟩
    · exact hsp.elim
  · exact hsp.elim

theorem dX11_emptyCells_0 : decode cX11_emptyCells 0 = .ok (.bipush 24, 2) := by decide +kernel
theorem dX11_emptyCells_2 : decode cX11_emptyCells 2 = .ok (.newarray .int, 2) := by decide +kernel
theorem dX11_emptyCells_4 : decode cX11_emptyCells 4 = .ok (.astore_n 0, 1) := by decide +kernel
theorem dX11_emptyCells_5 : decode cX11_emptyCells 5 = .ok (.aload_n 0, 1) := by decide +kernel
theorem dX11_emptyCells_6 : decode cX11_emptyCells 6 = .ok (.ldc 182, 2) := by decide +kernel
theorem dX11_emptyCells_8 : decode cX11_emptyCells 8 = .ok (.invokestatic 436, 3) := by decide +kernel
theorem dX11_emptyCells_11 : decode cX11_emptyCells 11 = .ok (.aload_n 0, 1) := by decide +kernel
theorem dX11_emptyCells_12 : decode cX11_emptyCells 12 = .ok (.areturn, 1) := by decide +kernel
def is_X11_emptyCells (Rt : np_Rt) : List (Nat × np_Op) := [(0, np_push 2 (.int 24)), (2, np_newa .int 24 (24, .inl fun _ => 0) 1 24), (4, np_ast 1 0), (5, np_ald 1 0), (6, np_push 2 (.int (-2147483648))), (8, np_call 2 sr_X11_fillAll 3 0 0 1 24), (11, np_ald 1 0), (12, np_ret Rt)]
set_option maxRecDepth 20000 in
theorem so_X11_emptyCells {X : np_Ctx} (hX : np_ok RX11 cX11_emptyCells 1 1 22 1 24 .areturn X) : ∀ q ∈ is_X11_emptyCells X.2.2.1, np_S X q.1 q.2 :=
  List.forall_mem_cons.mpr ⟨np_s_bipush hX dX11_emptyCells_0 (by decide), List.forall_mem_cons.mpr ⟨np_s_newa hX dX11_emptyCells_2 rfl gw118 (by decide) (by intro C h; cases h) (by decide) (fun _ => vp_cell_i _ _ _) (by decide) (fun _ _ => rfl) (fun _ => trivial), List.forall_mem_cons.mpr ⟨np_s_astore_n hX dX11_emptyCells_4 rfl (by decide), List.forall_mem_cons.mpr ⟨np_s_aload_n hX dX11_emptyCells_5 rfl, List.forall_mem_cons.mpr ⟨np_s_ldc hX dX11_emptyCells_6 gw124, List.forall_mem_cons.mpr ⟨np_s_callS hX Cr_X11_fillAll dX11_emptyCells_8 gw127 gw63 gw125 gw126 ⟨by decide, by decide, by decide⟩ (by decide) (by decide), List.forall_mem_cons.mpr ⟨np_s_aload_n hX dX11_emptyCells_11 rfl, List.forall_mem_cons.mpr ⟨np_s_ret hX dX11_emptyCells_12, fun _ h => nomatch h⟩⟩⟩⟩⟩⟩⟩⟩
def np_e24 : np_E := .inl (.int, 24, .inl (np_fa 24 (-2147483648) (fun _ => 0)))
def sp_X11_emptyCells : np_Sp := fun vs w Q => match vs with
  | [] => np_force w.1 (fun n => Q (some (.ref n)) (n + 1, np_up w.2 n np_e24))
  | _ => False
set_option maxRecDepth 20000 in
theorem C_X11_emptyCells : np_C yX11_emptyCells cX11_emptyCells 1 (some (.array .int)) 1 22 1 24 sp_X11_emptyCells := by
  refine np_of (by decide) ?_
  intro X vs w Q hsp hX hmn hRt hlt
  unfold sp_X11_emptyCells at hsp
  split at hsp
  · rw [np_force_eq] at hsp
    refine np_fin (so_X11_emptyCells hX) 20 ?_
    rw [hRt]
    refine ⟨rfl, Nat.le_refl 1, Nat.le_of_ble_eq_true rfl, ?_⟩
    rw [np_force_eq]
    refine ⟨Nat.le_of_ble_eq_true rfl, Nat.le_of_ble_eq_true rfl, Nat.le_of_ble_eq_true rfl, Nat.le_of_ble_eq_true rfl, Nat.le_of_ble_eq_true rfl, ?_⟩
    conv => whnf
    simp only [np_up_s]
    refine ⟨trivial, Nat.le_of_ble_eq_true rfl, ?_⟩
    refine ⟨Nat.le_of_ble_eq_true rfl, Nat.le_of_ble_eq_true rfl, Or.inr ⟨_, rfl⟩, _, fun _ _ h9 => h9, ?_⟩
    rw [np_up_up]
    exact hsp
  · exact hsp.elim

theorem dX8_init_0 : decode cX8_init 0 = .ok (.aload_n 0, 1) := by decide +kernel
theorem dX8_init_1 : decode cX8_init 1 = .ok (.invokespecial 3, 3) := by decide +kernel
theorem dX8_init_4 : decode cX8_init 4 = .ok (.aload_n 0, 1) := by decide +kernel
theorem dX8_init_5 : decode cX8_init 5 = .ok (.invokestatic 9, 3) := by decide +kernel
theorem dX8_init_8 : decode cX8_init 8 = .ok (.putfield 13, 3) := by decide +kernel
theorem dX8_init_11 : decode cX8_init 11 = .ok (.aload_n 0, 1) := by decide +kernel
theorem dX8_init_12 : decode cX8_init 12 = .ok (.bipush 8, 2) := by decide +kernel
theorem dX8_init_14 : decode cX8_init 14 = .ok (.newarray .int, 2) := by decide +kernel
theorem dX8_init_16 : decode cX8_init 16 = .ok (.putfield 19, 3) := by decide +kernel
theorem dX8_init_19 : decode cX8_init 19 = .ok (.return_, 1) := by decide +kernel
def is_X8_init (Rt : np_Rt) : List (Nat × np_Op) := [(0, np_ald 1 0), (1, np_oinit), (4, np_ald 1 0), (5, np_call 0 sp_X11_emptyCells 1 1 24 2 32), (8, np_putf 8 0 (.array .int)), (11, np_ald 1 0), (12, np_push 2 (.int 8)), (14, np_newa .int 8 (8, .inl fun _ => 0) 2 32), (16, np_putf 8 1 (.array .int)), (19, np_ret Rt)]
set_option maxRecDepth 20000 in
theorem so_X8_init {X : np_Ctx} (hX : np_ok RX8 cX8_init 1 2 42 2 32 .return_ X) (hmn : np_mn X = "<init>") : ∀ q ∈ is_X8_init X.2.2.1, np_S X q.1 q.2 :=
  List.forall_mem_cons.mpr ⟨np_s_aload_n hX dX8_init_0 rfl, List.forall_mem_cons.mpr ⟨np_s_oinit hX dX8_init_1 gw143 gw92 gw93 (by decide) (by decide), List.forall_mem_cons.mpr ⟨np_s_aload_n hX dX8_init_4 rfl, List.forall_mem_cons.mpr ⟨np_s_callSN hX C_X11_emptyCells dX8_init_5 gw123 gw63 gw144 gw122 ⟨by decide, by decide, by decide⟩ (by decide) (by decide), List.forall_mem_cons.mpr ⟨np_s_putF hX dX8_init_8 hmn (C := RX8) (T := TX8) (N := 9) (ty0 := tyX8) rfl guX8 tyX8_ok nmX8 (by decide) gw145 rfl rfl rfl, List.forall_mem_cons.mpr ⟨np_s_aload_n hX dX8_init_11 rfl, List.forall_mem_cons.mpr ⟨np_s_bipush hX dX8_init_12 (by decide), List.forall_mem_cons.mpr ⟨np_s_newa hX dX8_init_14 rfl gw118 (by decide) (by intro C h; cases h) (by decide) (fun _ => vp_cell_i _ _ _) (by decide) (fun _ _ => rfl) (fun _ => trivial), List.forall_mem_cons.mpr ⟨np_s_putF hX dX8_init_16 hmn (C := RX8) (T := TX8) (N := 9) (ty0 := tyX8) rfl guX8 tyX8_ok nmX8 (by decide) gw148 rfl rfl rfl, List.forall_mem_cons.mpr ⟨np_s_ret hX dX8_init_19, fun _ h => nomatch h⟩⟩⟩⟩⟩⟩⟩⟩⟩⟩
def np_tr0 : np_E := .inr (8, [.null, .null, .int 0, .int 0, .int 0, .int 0, .int 0, .int 0, .int 0])
def np_e8 : np_E := .inl (.int, 8, .inl (fun _ => 0))
def np_tro (n : Nat) : np_E := .inr (8, [.ref n, .ref (n + 1), .int 0, .int 0, .int 0, .int 0, .int 0, .int 0, .int 0])
def sp_X8_init : np_Sp := fun vs w Q => match vs with
  | [.ref k] => w.2 k = some np_tr0 ∧ k < w.1 ∧ np_force w.1 (fun n => Q none (n + 2, np_up (np_up (np_up w.2 k (np_tro n)) n np_e24) (n + 1) np_e8))
  | _ => False
set_option maxRecDepth 20000 in
theorem C_X8_init : np_C yX8_init cX8_init 1 none 2 42 2 32 sp_X8_init := by
  refine np_of (by decide) ?_
  intro X vs w Q hsp hX hmn hRt hlt
  unfold sp_X8_init at hsp
  split at hsp
  · rename_i k
    obtain ⟨hk, hkn, hsp⟩ := hsp
    rw [np_force_eq] at hsp
    obtain ⟨n, f⟩ := w
    have hk : f k = some np_tr0 := hk
    have hkn : k < n := hkn
    have n1 : k ≠ n := Nat.ne_of_lt hkn
    have n2 : k ≠ n + 1 := Nat.ne_of_lt (Nat.lt_succ_of_lt hkn)
    have n3 : n ≠ k := Ne.symm n1
    refine np_fin (so_X8_init hX hmn) 20 ?_
    rw [hRt]
    refine ⟨Nat.le_of_ble_eq_true rfl, ?_⟩
    refine ⟨Nat.le_of_ble_eq_true rfl, Nat.le_of_ble_eq_true rfl, Nat.le_of_ble_eq_true rfl, Nat.le_of_ble_eq_true rfl, Nat.le_of_ble_eq_true rfl, ?_⟩
    show sp_X11_emptyCells [] (n, f) _
    unfold sp_X11_emptyCells
    dsimp only
    rw [np_force_eq]
    conv => whnf
    simp only [np_up_n _ _ n1, hk, np_tr0]
    refine ⟨trivial, rfl, rfl, Nat.le_of_ble_eq_true rfl, ?_⟩
    refine ⟨rfl, Nat.le_of_ble_eq_true rfl, Nat.le_of_ble_eq_true rfl, ?_⟩
    rw [np_force_eq]
    conv => whnf
    simp only [np_up_n _ _ n2, np_up_s]
    refine ⟨trivial, rfl, rfl, Nat.le_of_ble_eq_true rfl, ?_⟩
    refine ⟨Nat.le_of_ble_eq_true rfl, Nat.le_of_ble_eq_true rfl, rfl, _, fun j e9 hj => ?_, hsp⟩
    dsimp only at hj ⊢
    by_cases h1 : j = n + 1
    · subst h1
      rw [np_up_s] at hj
      rw [np_up_n _ _ (Ne.symm n2), np_up_s]
      exact hj
    · rw [np_up_n _ _ h1] at hj
      by_cases h2 : j = n
      · subst h2
        rw [np_up_s] at hj
        rw [np_up_n _ _ n3, np_up_n _ _ h1, np_up_n _ _ n3, np_up_s]
        exact hj
      · rw [np_up_n _ _ h2] at hj
        by_cases h3 : j = k
        · subst h3
          rw [np_up_s] at hj ⊢
          exact hj
        · rw [np_up_n _ _ h3] at hj ⊢
          rw [np_up_n _ _ h1, np_up_n _ _ h3, np_up_n _ _ h2]
          exact hj
  · exact hsp.elim

theorem dX2_init_0 : decode cX2_init 0 = .ok (.aload_n 0, 1) := by decide +kernel
theorem dX2_init_1 : decode cX2_init 1 = .ok (.invokespecial 3, 3) := by decide +kernel
theorem dX2_init_4 : decode cX2_init 4 = .ok (.aload_n 0, 1) := by decide +kernel
theorem dX2_init_5 : decode cX2_init 5 = .ok (.bipush 14, 2) := by decide +kernel
theorem dX2_init_7 : decode cX2_init 7 = .ok (.newarray .int, 2) := by decide +kernel
theorem dX2_init_9 : decode cX2_init 9 = .ok (.putfield 9, 3) := by decide +kernel
theorem dX2_init_12 : decode cX2_init 12 = .ok (.aload_n 0, 1) := by decide +kernel
theorem dX2_init_13 : decode cX2_init 13 = .ok (.bipush 14, 2) := by decide +kernel
theorem dX2_init_15 : decode cX2_init 15 = .ok (.newarray .int, 2) := by decide +kernel
theorem dX2_init_17 : decode cX2_init 17 = .ok (.putfield 15, 3) := by decide +kernel
theorem dX2_init_20 : decode cX2_init 20 = .ok (.aload_n 0, 1) := by decide +kernel
theorem dX2_init_21 : decode cX2_init 21 = .ok (.bipush 14, 2) := by decide +kernel
theorem dX2_init_23 : decode cX2_init 23 = .ok (.newarray .int, 2) := by decide +kernel
theorem dX2_init_25 : decode cX2_init 25 = .ok (.putfield 18, 3) := by decide +kernel
theorem dX2_init_28 : decode cX2_init 28 = .ok (.aload_n 0, 1) := by decide +kernel
theorem dX2_init_29 : decode cX2_init 29 = .ok (.bipush 14, 2) := by decide +kernel
theorem dX2_init_31 : decode cX2_init 31 = .ok (.newarray .int, 2) := by decide +kernel
theorem dX2_init_33 : decode cX2_init 33 = .ok (.putfield 21, 3) := by decide +kernel
theorem dX2_init_36 : decode cX2_init 36 = .ok (.return_, 1) := by decide +kernel
def is_X2_init (Rt : np_Rt) : List (Nat × np_Op) := [(0, np_ald 1 0), (1, np_oinit), (4, np_ald 1 0), (5, np_push 2 (.int 14)), (7, nq_newa .int 14 (14, .inl fun _ => 0) 4 56), (9, nq_putf 2 0 (.array .int)), (12, np_ald 1 0), (13, np_push 2 (.int 14)), (15, nq_newa .int 14 (14, .inl fun _ => 0) 4 56), (17, nq_putf 2 1 (.array .int)), (20, np_ald 1 0), (21, np_push 2 (.int 14)), (23, nq_newa .int 14 (14, .inl fun _ => 0) 4 56), (25, nq_putf 2 2 (.array .int)), (28, np_ald 1 0), (29, np_push 2 (.int 14)), (31, nq_newa .int 14 (14, .inl fun _ => 0) 4 56), (33, nq_putf 2 3 (.array .int)), (36, np_ret Rt)]
set_option maxRecDepth 20000 in
theorem so_X2_init {X : np_Ctx} {Rt : np_Rt} (hX : np_ok RX2 cX2_init 1 1 20 4 56 .return_ X) (hmn : np_mn X = "<init>") (hR : ∀ st w ce sl, Rt st w ce sl → X.2.2.1 st w ce sl) : ∀ q ∈ is_X2_init Rt, np_S X q.1 q.2 :=
  List.forall_mem_cons.mpr ⟨np_s_aload_n hX dX2_init_0 rfl, List.forall_mem_cons.mpr ⟨np_s_oinit hX dX2_init_1 gw99 gw92 gw93 (by decide) (by decide), List.forall_mem_cons.mpr ⟨np_s_aload_n hX dX2_init_4 rfl, List.forall_mem_cons.mpr ⟨np_s_bipush hX dX2_init_5 (by decide), List.forall_mem_cons.mpr ⟨np_S.mono (op := np_newa .int 14 (14, .inl fun _ => 0) 4 56) (np_s_newa hX dX2_init_7 rfl gw118 (by decide) (by intro C h; cases h) (by decide) (fun _ => vp_cell_i _ _ _) (by decide) (fun _ _ => rfl) (fun _ => trivial)) nq_newa_le, List.forall_mem_cons.mpr ⟨np_S.mono (op := np_putf 2 0 (.array .int)) (np_s_putF hX dX2_init_9 hmn (C := RX2) (T := TX2) (N := 5) (ty0 := tyX2) rfl guX2 tyX2_ok nmX2 (by decide) gw100 rfl rfl rfl) nq_putf_le, List.forall_mem_cons.mpr ⟨np_s_aload_n hX dX2_init_12 rfl, List.forall_mem_cons.mpr ⟨np_s_bipush hX dX2_init_13 (by decide), List.forall_mem_cons.mpr ⟨np_S.mono (op := np_newa .int 14 (14, .inl fun _ => 0) 4 56) (np_s_newa hX dX2_init_15 rfl gw118 (by decide) (by intro C h; cases h) (by decide) (fun _ => vp_cell_i _ _ _) (by decide) (fun _ _ => rfl) (fun _ => trivial)) nq_newa_le, List.forall_mem_cons.mpr ⟨np_S.mono (op := np_putf 2 1 (.array .int)) (np_s_putF hX dX2_init_17 hmn (C := RX2) (T := TX2) (N := 5) (ty0 := tyX2) rfl guX2 tyX2_ok nmX2 (by decide) gw101 rfl rfl rfl) nq_putf_le, List.forall_mem_cons.mpr ⟨np_s_aload_n hX dX2_init_20 rfl, List.forall_mem_cons.mpr ⟨np_s_bipush hX dX2_init_21 (by decide), List.forall_mem_cons.mpr ⟨np_S.mono (op := np_newa .int 14 (14, .inl fun _ => 0) 4 56) (np_s_newa hX dX2_init_23 rfl gw118 (by decide) (by intro C h; cases h) (by decide) (fun _ => vp_cell_i _ _ _) (by decide) (fun _ _ => rfl) (fun _ => trivial)) nq_newa_le, List.forall_mem_cons.mpr ⟨np_S.mono (op := np_putf 2 2 (.array .int)) (np_s_putF hX dX2_init_25 hmn (C := RX2) (T := TX2) (N := 5) (ty0 := tyX2) rfl guX2 tyX2_ok nmX2 (by decide) gw102 rfl rfl rfl) nq_putf_le, List.forall_mem_cons.mpr ⟨np_s_aload_n hX dX2_init_28 rfl, List.forall_mem_cons.mpr ⟨np_s_bipush hX dX2_init_29 (by decide), List.forall_mem_cons.mpr ⟨np_S.mono (op := np_newa .int 14 (14, .inl fun _ => 0) 4 56) (np_s_newa hX dX2_init_31 rfl gw118 (by decide) (by intro C h; cases h) (by decide) (fun _ => vp_cell_i _ _ _) (by decide) (fun _ _ => rfl) (fun _ => trivial)) nq_newa_le, List.forall_mem_cons.mpr ⟨np_S.mono (op := np_putf 2 3 (.array .int)) (np_s_putF hX dX2_init_33 hmn (C := RX2) (T := TX2) (N := 5) (ty0 := tyX2) rfl guX2 tyX2_ok nmX2 (by decide) gw103 rfl rfl rfl) nq_putf_le, List.forall_mem_cons.mpr ⟨np_S.mono (op := np_ret X.2.2.1) (np_s_ret hX dX2_init_36) (nq_ret_le hR), fun _ h => nomatch h⟩⟩⟩⟩⟩⟩⟩⟩⟩⟩⟩⟩⟩⟩⟩⟩⟩⟩⟩
abbrev sp_X2_init : np_Sp := nq_in is_X2_init none 4 56 60
theorem C_X2_init : np_C yX2_init cX2_init 1 none 1 20 4 56 sp_X2_init := nq_inC 60 (by decide) (fun X Rt hX hmn hR => so_X2_init hX hmn hR)
theorem dX7_init_0 : decode cX7_init 0 = .ok (.aload_n 0, 1) := by decide +kernel
theorem dX7_init_1 : decode cX7_init 1 = .ok (.invokespecial 3, 3) := by decide +kernel
theorem dX7_init_4 : decode cX7_init 4 = .ok (.aload_n 0, 1) := by decide +kernel
theorem dX7_init_5 : decode cX7_init 5 = .ok (.sipush 300, 3) := by decide +kernel
theorem dX7_init_8 : decode cX7_init 8 = .ok (.newarray .char, 2) := by decide +kernel
theorem dX7_init_10 : decode cX7_init 10 = .ok (.putfield 9, 3) := by decide +kernel
theorem dX7_init_13 : decode cX7_init 13 = .ok (.aload_n 0, 1) := by decide +kernel
theorem dX7_init_14 : decode cX7_init 14 = .ok (.iconst 1, 1) := by decide +kernel
theorem dX7_init_15 : decode cX7_init 15 = .ok (.putfield 15, 3) := by decide +kernel
theorem dX7_init_18 : decode cX7_init 18 = .ok (.return_, 1) := by decide +kernel
def is_X7_init (Rt : np_Rt) : List (Nat × np_Op) := [(0, np_ald 1 0), (1, np_oinit), (4, np_ald 1 0), (5, np_push 3 (.int 300)), (8, nq_newa .char 300 (300, .inl fun _ => 0) 1 300), (10, nq_putf 7 0 (.array .char)), (13, np_ald 1 0), (14, np_push 1 (.int 1)), (15, nq_putf 7 2 (.boolean)), (18, np_ret Rt)]
set_option maxRecDepth 20000 in
theorem so_X7_init {X : np_Ctx} {Rt : np_Rt} (hX : np_ok RX7 cX7_init 1 1 20 1 300 .return_ X) (hmn : np_mn X = "<init>") (hR : ∀ st w ce sl, Rt st w ce sl → X.2.2.1 st w ce sl) : ∀ q ∈ is_X7_init Rt, np_S X q.1 q.2 :=
  List.forall_mem_cons.mpr ⟨np_s_aload_n hX dX7_init_0 rfl, List.forall_mem_cons.mpr ⟨np_s_oinit hX dX7_init_1 gw208 gw92 gw93 (by decide) (by decide), List.forall_mem_cons.mpr ⟨np_s_aload_n hX dX7_init_4 rfl, List.forall_mem_cons.mpr ⟨np_s_sipush hX dX7_init_5 (by decide), List.forall_mem_cons.mpr ⟨np_S.mono (op := np_newa .char 300 (300, .inl fun _ => 0) 1 300) (np_s_newa hX dX7_init_8 rfl gw221 (by decide) (by intro C h; cases h) (by decide) (fun _ => vp_cell_i _ _ _) (by decide) (fun _ _ => rfl) (fun _ => trivial)) nq_newa_le, List.forall_mem_cons.mpr ⟨np_S.mono (op := np_putf 7 0 (.array .char)) (np_s_putF hX dX7_init_10 hmn (C := RX7) (T := TX7) (N := 3) (ty0 := tyX7) rfl guX7 tyX7_ok nmX7 (by decide) gw209 rfl rfl rfl) nq_putf_le, List.forall_mem_cons.mpr ⟨np_s_aload_n hX dX7_init_13 rfl, List.forall_mem_cons.mpr ⟨np_s_iconst hX dX7_init_14 (by decide), List.forall_mem_cons.mpr ⟨np_S.mono (op := np_putf 7 2 (.boolean)) (np_s_putf hX dX7_init_15 (C := RX7) (T := TX7) (N := 3) (ty0 := tyX7) rfl guX7 tyX7_ok nmX7 (by decide) gw212 rfl rfl) nq_putf_le, List.forall_mem_cons.mpr ⟨np_S.mono (op := np_ret X.2.2.1) (np_s_ret hX dX7_init_18) (nq_ret_le hR), fun _ h => nomatch h⟩⟩⟩⟩⟩⟩⟩⟩⟩⟩
abbrev sp_X7_init : np_Sp := nq_in is_X7_init none 1 300 60
theorem C_X7_init : np_C yX7_init cX7_init 1 none 1 20 1 300 sp_X7_init := nq_inC 60 (by decide) (fun X Rt hX hmn hR => so_X7_init hX hmn hR)
theorem dX0_init_0 : decode cX0_init 0 = .ok (.aload_n 0, 1) := by decide +kernel
theorem dX0_init_1 : decode cX0_init 1 = .ok (.invokespecial 3, 3) := by decide +kernel
theorem dX0_init_4 : decode cX0_init 4 = .ok (.aload_n 0, 1) := by decide +kernel
theorem dX0_init_5 : decode cX0_init 5 = .ok (.bipush 24, 2) := by decide +kernel
theorem dX0_init_7 : decode cX0_init 7 = .ok (.newarray .int, 2) := by decide +kernel
theorem dX0_init_9 : decode cX0_init 9 = .ok (.putfield 9, 3) := by decide +kernel
theorem dX0_init_12 : decode cX0_init 12 = .ok (.aload_n 0, 1) := by decide +kernel
theorem dX0_init_13 : decode cX0_init 13 = .ok (.bipush 24, 2) := by decide +kernel
theorem dX0_init_15 : decode cX0_init 15 = .ok (.newarray .int, 2) := by decide +kernel
theorem dX0_init_17 : decode cX0_init 17 = .ok (.putfield 15, 3) := by decide +kernel
theorem dX0_init_20 : decode cX0_init 20 = .ok (.aload_n 0, 1) := by decide +kernel
theorem dX0_init_21 : decode cX0_init 21 = .ok (.aconst_null, 1) := by decide +kernel
theorem dX0_init_22 : decode cX0_init 22 = .ok (.putfield 18, 3) := by decide +kernel
theorem dX0_init_25 : decode cX0_init 25 = .ok (.return_, 1) := by decide +kernel
def is_X0_init (Rt : np_Rt) : List (Nat × np_Op) := [(0, np_ald 1 0), (1, np_oinit), (4, np_ald 1 0), (5, np_push 2 (.int 24)), (7, nq_newa .int 24 (24, .inl fun _ => 0) 2 48), (9, nq_putf 0 0 (.array .int)), (12, np_ald 1 0), (13, np_push 2 (.int 24)), (15, nq_newa .int 24 (24, .inl fun _ => 0) 2 48), (17, nq_putf 0 1 (.array .int)), (20, np_ald 1 0), (21, np_push 1 .null), (22, nq_putf 0 2 (.object "NotationPress$Table")), (25, np_ret Rt)]
set_option maxRecDepth 20000 in
theorem so_X0_init {X : np_Ctx} {Rt : np_Rt} (hX : np_ok RX0 cX0_init 1 1 20 2 48 .return_ X) (hmn : np_mn X = "<init>") (hR : ∀ st w ce sl, Rt st w ce sl → X.2.2.1 st w ce sl) : ∀ q ∈ is_X0_init Rt, np_S X q.1 q.2 :=
  List.forall_mem_cons.mpr ⟨np_s_aload_n hX dX0_init_0 rfl, List.forall_mem_cons.mpr ⟨np_s_oinit hX dX0_init_1 gw393 gw92 gw93 (by decide) (by decide), List.forall_mem_cons.mpr ⟨np_s_aload_n hX dX0_init_4 rfl, List.forall_mem_cons.mpr ⟨np_s_bipush hX dX0_init_5 (by decide), List.forall_mem_cons.mpr ⟨np_S.mono (op := np_newa .int 24 (24, .inl fun _ => 0) 2 48) (np_s_newa hX dX0_init_7 rfl gw118 (by decide) (by intro C h; cases h) (by decide) (fun _ => vp_cell_i _ _ _) (by decide) (fun _ _ => rfl) (fun _ => trivial)) nq_newa_le, List.forall_mem_cons.mpr ⟨np_S.mono (op := np_putf 0 0 (.array .int)) (np_s_putF hX dX0_init_9 hmn (C := RX0) (T := TX0) (N := 6) (ty0 := tyX0) rfl guX0 tyX0_ok nmX0 (by decide) gw394 rfl rfl rfl) nq_putf_le, List.forall_mem_cons.mpr ⟨np_s_aload_n hX dX0_init_12 rfl, List.forall_mem_cons.mpr ⟨np_s_bipush hX dX0_init_13 (by decide), List.forall_mem_cons.mpr ⟨np_S.mono (op := np_newa .int 24 (24, .inl fun _ => 0) 2 48) (np_s_newa hX dX0_init_15 rfl gw118 (by decide) (by intro C h; cases h) (by decide) (fun _ => vp_cell_i _ _ _) (by decide) (fun _ _ => rfl) (fun _ => trivial)) nq_newa_le, List.forall_mem_cons.mpr ⟨np_S.mono (op := np_putf 0 1 (.array .int)) (np_s_putF hX dX0_init_17 hmn (C := RX0) (T := TX0) (N := 6) (ty0 := tyX0) rfl guX0 tyX0_ok nmX0 (by decide) gw395 rfl rfl rfl) nq_putf_le, List.forall_mem_cons.mpr ⟨np_s_aload_n hX dX0_init_20 rfl, List.forall_mem_cons.mpr ⟨np_s_null hX dX0_init_21, List.forall_mem_cons.mpr ⟨np_S.mono (op := np_putf 0 2 (.object "NotationPress$Table")) (np_s_putf hX dX0_init_22 (C := RX0) (T := TX0) (N := 6) (ty0 := tyX0) rfl guX0 tyX0_ok nmX0 (by decide) gw396 rfl rfl) nq_putf_le, List.forall_mem_cons.mpr ⟨np_S.mono (op := np_ret X.2.2.1) (np_s_ret hX dX0_init_25) (nq_ret_le hR), fun _ h => nomatch h⟩⟩⟩⟩⟩⟩⟩⟩⟩⟩⟩⟩⟩⟩
abbrev sp_X0_init : np_Sp := nq_in is_X0_init none 2 48 60
theorem C_X0_init : np_C yX0_init cX0_init 1 none 1 20 2 48 sp_X0_init := nq_inC 60 (by decide) (fun X Rt hX hmn hR => so_X0_init hX hmn hR)
theorem dX9_init_0 : decode cX9_init 0 = .ok (.aload_n 0, 1) := by decide +kernel
theorem dX9_init_1 : decode cX9_init 1 = .ok (.invokespecial 3, 3) := by decide +kernel
theorem dX9_init_4 : decode cX9_init 4 = .ok (.aload_n 0, 1) := by decide +kernel
theorem dX9_init_5 : decode cX9_init 5 = .ok (.bipush 60, 2) := by decide +kernel
theorem dX9_init_7 : decode cX9_init 7 = .ok (.newarray .int, 2) := by decide +kernel
theorem dX9_init_9 : decode cX9_init 9 = .ok (.putfield 9, 3) := by decide +kernel
theorem dX9_init_12 : decode cX9_init 12 = .ok (.aload_n 0, 1) := by decide +kernel
theorem dX9_init_13 : decode cX9_init 13 = .ok (.bipush 60, 2) := by decide +kernel
theorem dX9_init_15 : decode cX9_init 15 = .ok (.newarray .int, 2) := by decide +kernel
theorem dX9_init_17 : decode cX9_init 17 = .ok (.putfield 15, 3) := by decide +kernel
theorem dX9_init_20 : decode cX9_init 20 = .ok (.aload_n 0, 1) := by decide +kernel
theorem dX9_init_21 : decode cX9_init 21 = .ok (.bipush 8, 2) := by decide +kernel
theorem dX9_init_23 : decode cX9_init 23 = .ok (.newarray .int, 2) := by decide +kernel
theorem dX9_init_25 : decode cX9_init 25 = .ok (.putfield 18, 3) := by decide +kernel
theorem dX9_init_28 : decode cX9_init 28 = .ok (.aload_n 0, 1) := by decide +kernel
theorem dX9_init_29 : decode cX9_init 29 = .ok (.bipush 60, 2) := by decide +kernel
theorem dX9_init_31 : decode cX9_init 31 = .ok (.newarray .int, 2) := by decide +kernel
theorem dX9_init_33 : decode cX9_init 33 = .ok (.putfield 21, 3) := by decide +kernel
theorem dX9_init_36 : decode cX9_init 36 = .ok (.aload_n 0, 1) := by decide +kernel
theorem dX9_init_37 : decode cX9_init 37 = .ok (.bipush 60, 2) := by decide +kernel
theorem dX9_init_39 : decode cX9_init 39 = .ok (.newarray .int, 2) := by decide +kernel
theorem dX9_init_41 : decode cX9_init 41 = .ok (.putfield 24, 3) := by decide +kernel
theorem dX9_init_44 : decode cX9_init 44 = .ok (.aload_n 0, 1) := by decide +kernel
theorem dX9_init_45 : decode cX9_init 45 = .ok (.bipush 60, 2) := by decide +kernel
theorem dX9_init_47 : decode cX9_init 47 = .ok (.newarray .int, 2) := by decide +kernel
theorem dX9_init_49 : decode cX9_init 49 = .ok (.putfield 27, 3) := by decide +kernel
theorem dX9_init_52 : decode cX9_init 52 = .ok (.return_, 1) := by decide +kernel
def is_X9_init (Rt : np_Rt) : List (Nat × np_Op) := [(0, np_ald 1 0), (1, np_oinit), (4, np_ald 1 0), (5, np_push 2 (.int 60)), (7, nq_newa .int 60 (60, .inl fun _ => 0) 6 308), (9, nq_putf 9 0 (.array .int)), (12, np_ald 1 0), (13, np_push 2 (.int 60)), (15, nq_newa .int 60 (60, .inl fun _ => 0) 6 308), (17, nq_putf 9 1 (.array .int)), (20, np_ald 1 0), (21, np_push 2 (.int 8)), (23, nq_newa .int 8 (8, .inl fun _ => 0) 6 308), (25, nq_putf 9 2 (.array .int)), (28, np_ald 1 0), (29, np_push 2 (.int 60)), (31, nq_newa .int 60 (60, .inl fun _ => 0) 6 308), (33, nq_putf 9 3 (.array .int)), (36, np_ald 1 0), (37, np_push 2 (.int 60)), (39, nq_newa .int 60 (60, .inl fun _ => 0) 6 308), (41, nq_putf 9 4 (.array .int)), (44, np_ald 1 0), (45, np_push 2 (.int 60)), (47, nq_newa .int 60 (60, .inl fun _ => 0) 6 308), (49, nq_putf 9 5 (.array .int)), (52, np_ret Rt)]
set_option maxRecDepth 20000 in
theorem so_X9_init {X : np_Ctx} {Rt : np_Rt} (hX : np_ok RX9 cX9_init 1 1 20 6 308 .return_ X) (hmn : np_mn X = "<init>") (hR : ∀ st w ce sl, Rt st w ce sl → X.2.2.1 st w ce sl) : ∀ q ∈ is_X9_init Rt, np_S X q.1 q.2 :=
  List.forall_mem_cons.mpr ⟨np_s_aload_n hX dX9_init_0 rfl, List.forall_mem_cons.mpr ⟨np_s_oinit hX dX9_init_1 gw417 gw92 gw93 (by decide) (by decide), List.forall_mem_cons.mpr ⟨np_s_aload_n hX dX9_init_4 rfl, List.forall_mem_cons.mpr ⟨np_s_bipush hX dX9_init_5 (by decide), List.forall_mem_cons.mpr ⟨np_S.mono (op := np_newa .int 60 (60, .inl fun _ => 0) 6 308) (np_s_newa hX dX9_init_7 rfl gw118 (by decide) (by intro C h; cases h) (by decide) (fun _ => vp_cell_i _ _ _) (by decide) (fun _ _ => rfl) (fun _ => trivial)) nq_newa_le, List.forall_mem_cons.mpr ⟨np_S.mono (op := np_putf 9 0 (.array .int)) (np_s_putF hX dX9_init_9 hmn (C := RX9) (T := TX9) (N := 7) (ty0 := tyX9) rfl guX9 tyX9_ok nmX9 (by decide) gw418 rfl rfl rfl) nq_putf_le, List.forall_mem_cons.mpr ⟨np_s_aload_n hX dX9_init_12 rfl, List.forall_mem_cons.mpr ⟨np_s_bipush hX dX9_init_13 (by decide), List.forall_mem_cons.mpr ⟨np_S.mono (op := np_newa .int 60 (60, .inl fun _ => 0) 6 308) (np_s_newa hX dX9_init_15 rfl gw118 (by decide) (by intro C h; cases h) (by decide) (fun _ => vp_cell_i _ _ _) (by decide) (fun _ _ => rfl) (fun _ => trivial)) nq_newa_le, List.forall_mem_cons.mpr ⟨np_S.mono (op := np_putf 9 1 (.array .int)) (np_s_putF hX dX9_init_17 hmn (C := RX9) (T := TX9) (N := 7) (ty0 := tyX9) rfl guX9 tyX9_ok nmX9 (by decide) gw419 rfl rfl rfl) nq_putf_le, List.forall_mem_cons.mpr ⟨np_s_aload_n hX dX9_init_20 rfl, List.forall_mem_cons.mpr ⟨np_s_bipush hX dX9_init_21 (by decide), List.forall_mem_cons.mpr ⟨np_S.mono (op := np_newa .int 8 (8, .inl fun _ => 0) 6 308) (np_s_newa hX dX9_init_23 rfl gw118 (by decide) (by intro C h; cases h) (by decide) (fun _ => vp_cell_i _ _ _) (by decide) (fun _ _ => rfl) (fun _ => trivial)) nq_newa_le, List.forall_mem_cons.mpr ⟨np_S.mono (op := np_putf 9 2 (.array .int)) (np_s_putF hX dX9_init_25 hmn (C := RX9) (T := TX9) (N := 7) (ty0 := tyX9) rfl guX9 tyX9_ok nmX9 (by decide) gw420 rfl rfl rfl) nq_putf_le, List.forall_mem_cons.mpr ⟨np_s_aload_n hX dX9_init_28 rfl, List.forall_mem_cons.mpr ⟨np_s_bipush hX dX9_init_29 (by decide), List.forall_mem_cons.mpr ⟨np_S.mono (op := np_newa .int 60 (60, .inl fun _ => 0) 6 308) (np_s_newa hX dX9_init_31 rfl gw118 (by decide) (by intro C h; cases h) (by decide) (fun _ => vp_cell_i _ _ _) (by decide) (fun _ _ => rfl) (fun _ => trivial)) nq_newa_le, List.forall_mem_cons.mpr ⟨np_S.mono (op := np_putf 9 3 (.array .int)) (np_s_putF hX dX9_init_33 hmn (C := RX9) (T := TX9) (N := 7) (ty0 := tyX9) rfl guX9 tyX9_ok nmX9 (by decide) gw421 rfl rfl rfl) nq_putf_le, List.forall_mem_cons.mpr ⟨np_s_aload_n hX dX9_init_36 rfl, List.forall_mem_cons.mpr ⟨np_s_bipush hX dX9_init_37 (by decide), List.forall_mem_cons.mpr ⟨np_S.mono (op := np_newa .int 60 (60, .inl fun _ => 0) 6 308) (np_s_newa hX dX9_init_39 rfl gw118 (by decide) (by intro C h; cases h) (by decide) (fun _ => vp_cell_i _ _ _) (by decide) (fun _ _ => rfl) (fun _ => trivial)) nq_newa_le, List.forall_mem_cons.mpr ⟨np_S.mono (op := np_putf 9 4 (.array .int)) (np_s_putF hX dX9_init_41 hmn (C := RX9) (T := TX9) (N := 7) (ty0 := tyX9) rfl guX9 tyX9_ok nmX9 (by decide) gw422 rfl rfl rfl) nq_putf_le, List.forall_mem_cons.mpr ⟨np_s_aload_n hX dX9_init_44 rfl, List.forall_mem_cons.mpr ⟨np_s_bipush hX dX9_init_45 (by decide), List.forall_mem_cons.mpr ⟨np_S.mono (op := np_newa .int 60 (60, .inl fun _ => 0) 6 308) (np_s_newa hX dX9_init_47 rfl gw118 (by decide) (by intro C h; cases h) (by decide) (fun _ => vp_cell_i _ _ _) (by decide) (fun _ _ => rfl) (fun _ => trivial)) nq_newa_le, List.forall_mem_cons.mpr ⟨np_S.mono (op := np_putf 9 5 (.array .int)) (np_s_putF hX dX9_init_49 hmn (C := RX9) (T := TX9) (N := 7) (ty0 := tyX9) rfl guX9 tyX9_ok nmX9 (by decide) gw423 rfl rfl rfl) nq_putf_le, List.forall_mem_cons.mpr ⟨np_S.mono (op := np_ret X.2.2.1) (np_s_ret hX dX9_init_52) (nq_ret_le hR), fun _ h => nomatch h⟩⟩⟩⟩⟩⟩⟩⟩⟩⟩⟩⟩⟩⟩⟩⟩⟩⟩⟩⟩⟩⟩⟩⟩⟩⟩⟩
abbrev sp_X9_init : np_Sp := nq_in is_X9_init none 6 308 60
theorem C_X9_init : np_C yX9_init cX9_init 1 none 1 20 6 308 sp_X9_init := nq_inC 60 (by decide) (fun X Rt hX hmn hR => so_X9_init hX hmn hR)
theorem dX10_init_0 : decode cX10_init 0 = .ok (.aload_n 0, 1) := by decide +kernel
theorem dX10_init_1 : decode cX10_init 1 = .ok (.invokespecial 3, 3) := by decide +kernel
theorem dX10_init_4 : decode cX10_init 4 = .ok (.aload_n 0, 1) := by decide +kernel
theorem dX10_init_5 : decode cX10_init 5 = .ok (.bipush 8, 2) := by decide +kernel
theorem dX10_init_7 : decode cX10_init 7 = .ok (.newarray .int, 2) := by decide +kernel
theorem dX10_init_9 : decode cX10_init 9 = .ok (.putfield 9, 3) := by decide +kernel
theorem dX10_init_12 : decode cX10_init 12 = .ok (.aload_n 0, 1) := by decide +kernel
theorem dX10_init_13 : decode cX10_init 13 = .ok (.bipush 8, 2) := by decide +kernel
theorem dX10_init_15 : decode cX10_init 15 = .ok (.newarray .int, 2) := by decide +kernel
theorem dX10_init_17 : decode cX10_init 17 = .ok (.putfield 15, 3) := by decide +kernel
theorem dX10_init_20 : decode cX10_init 20 = .ok (.aload_n 0, 1) := by decide +kernel
theorem dX10_init_21 : decode cX10_init 21 = .ok (.bipush 8, 2) := by decide +kernel
theorem dX10_init_23 : decode cX10_init 23 = .ok (.newarray .int, 2) := by decide +kernel
theorem dX10_init_25 : decode cX10_init 25 = .ok (.putfield 18, 3) := by decide +kernel
theorem dX10_init_28 : decode cX10_init 28 = .ok (.aload_n 0, 1) := by decide +kernel
theorem dX10_init_29 : decode cX10_init 29 = .ok (.getfield 9, 3) := by decide +kernel
theorem dX10_init_32 : decode cX10_init 32 = .ok (.iconst (-1), 1) := by decide +kernel
theorem dX10_init_33 : decode cX10_init 33 = .ok (.invokestatic 21, 3) := by decide +kernel
theorem dX10_init_36 : decode cX10_init 36 = .ok (.return_, 1) := by decide +kernel
def is_X10_init (Rt : np_Rt) : List (Nat × np_Op) := [(0, np_ald 1 0), (1, np_oinit), (4, np_ald 1 0), (5, np_push 2 (.int 8)), (7, nq_newa .int 8 (8, .inl fun _ => 0) 3 24), (9, nq_putf 10 0 (.array .int)), (12, np_ald 1 0), (13, np_push 2 (.int 8)), (15, nq_newa .int 8 (8, .inl fun _ => 0) 3 24), (17, nq_putf 10 1 (.array .int)), (20, np_ald 1 0), (21, np_push 2 (.int 8)), (23, nq_newa .int 8 (8, .inl fun _ => 0) 3 24), (25, nq_putf 10 2 (.array .int)), (28, np_ald 1 0), (29, nq_getf 10 0), (32, np_push 1 (.int (-1))), (33, nq_call 2 sr_X11_fillAll 3 0 0 3 24), (36, np_ret Rt)]
set_option maxRecDepth 20000 in
theorem so_X10_init {X : np_Ctx} {Rt : np_Rt} (hX : np_ok RX10 cX10_init 1 1 22 3 24 .return_ X) (hmn : np_mn X = "<init>") (hR : ∀ st w ce sl, Rt st w ce sl → X.2.2.1 st w ce sl) : ∀ q ∈ is_X10_init Rt, np_S X q.1 q.2 :=
  List.forall_mem_cons.mpr ⟨np_s_aload_n hX dX10_init_0 rfl, List.forall_mem_cons.mpr ⟨np_s_oinit hX dX10_init_1 gw289 gw92 gw93 (by decide) (by decide), List.forall_mem_cons.mpr ⟨np_s_aload_n hX dX10_init_4 rfl, List.forall_mem_cons.mpr ⟨np_s_bipush hX dX10_init_5 (by decide), List.forall_mem_cons.mpr ⟨np_S.mono (op := np_newa .int 8 (8, .inl fun _ => 0) 3 24) (np_s_newa hX dX10_init_7 rfl gw118 (by decide) (by intro C h; cases h) (by decide) (fun _ => vp_cell_i _ _ _) (by decide) (fun _ _ => rfl) (fun _ => trivial)) nq_newa_le, List.forall_mem_cons.mpr ⟨np_S.mono (op := np_putf 10 0 (.array .int)) (np_s_putF hX dX10_init_9 hmn (C := RX10) (T := TX10) (N := 3) (ty0 := tyX10) rfl guX10 tyX10_ok nmX10 (by decide) gw291 rfl rfl rfl) nq_putf_le, List.forall_mem_cons.mpr ⟨np_s_aload_n hX dX10_init_12 rfl, List.forall_mem_cons.mpr ⟨np_s_bipush hX dX10_init_13 (by decide), List.forall_mem_cons.mpr ⟨np_S.mono (op := np_newa .int 8 (8, .inl fun _ => 0) 3 24) (np_s_newa hX dX10_init_15 rfl gw118 (by decide) (by intro C h; cases h) (by decide) (fun _ => vp_cell_i _ _ _) (by decide) (fun _ _ => rfl) (fun _ => trivial)) nq_newa_le, List.forall_mem_cons.mpr ⟨np_S.mono (op := np_putf 10 1 (.array .int)) (np_s_putF hX dX10_init_17 hmn (C := RX10) (T := TX10) (N := 3) (ty0 := tyX10) rfl guX10 tyX10_ok nmX10 (by decide) gw293 rfl rfl rfl) nq_putf_le, List.forall_mem_cons.mpr ⟨np_s_aload_n hX dX10_init_20 rfl, List.forall_mem_cons.mpr ⟨np_s_bipush hX dX10_init_21 (by decide), List.forall_mem_cons.mpr ⟨np_S.mono (op := np_newa .int 8 (8, .inl fun _ => 0) 3 24) (np_s_newa hX dX10_init_23 rfl gw118 (by decide) (by intro C h; cases h) (by decide) (fun _ => vp_cell_i _ _ _) (by decide) (fun _ _ => rfl) (fun _ => trivial)) nq_newa_le, List.forall_mem_cons.mpr ⟨np_S.mono (op := np_putf 10 2 (.array .int)) (np_s_putF hX dX10_init_25 hmn (C := RX10) (T := TX10) (N := 3) (ty0 := tyX10) rfl guX10 tyX10_ok nmX10 (by decide) gw295 rfl rfl rfl) nq_putf_le, List.forall_mem_cons.mpr ⟨np_s_aload_n hX dX10_init_28 rfl, List.forall_mem_cons.mpr ⟨np_S.mono (op := np_getf 10 0) (np_s_getf hX dX10_init_29 (C := RX10) (T := TX10) (N := 3) rfl guX10 (by decide) gw291) nq_getf_le, List.forall_mem_cons.mpr ⟨np_s_iconst hX dX10_init_32 (by decide), List.forall_mem_cons.mpr ⟨np_S.mono (op := np_call 2 sr_X11_fillAll 3 0 0 3 24) (np_s_callSN hX Cr_X11_fillAll dX10_init_33 gw127 gw63 gw290 gw126 ⟨by decide, by decide, by decide⟩ (by decide) (by decide)) nq_call_le, List.forall_mem_cons.mpr ⟨np_S.mono (op := np_ret X.2.2.1) (np_s_ret hX dX10_init_36) (nq_ret_le hR), fun _ h => nomatch h⟩⟩⟩⟩⟩⟩⟩⟩⟩⟩⟩⟩⟩⟩⟩⟩⟩⟩⟩
abbrev sp_X10_init : np_Sp := nq_in is_X10_init none 3 24 60
theorem C_X10_init : np_C yX10_init cX10_init 1 none 1 22 3 24 sp_X10_init := nq_inC 60 (by decide) (fun X Rt hX hmn hR => so_X10_init hX hmn hR)
theorem dX6_init_0 : decode cX6_init 0 = .ok (.aload_n 0, 1) := by decide +kernel
theorem dX6_init_1 : decode cX6_init 1 = .ok (.invokespecial 3, 3) := by decide +kernel
theorem dX6_init_4 : decode cX6_init 4 = .ok (.aload_n 0, 1) := by decide +kernel
theorem dX6_init_5 : decode cX6_init 5 = .ok (.sipush 576, 3) := by decide +kernel
theorem dX6_init_8 : decode cX6_init 8 = .ok (.newarray .int, 2) := by decide +kernel
theorem dX6_init_10 : decode cX6_init 10 = .ok (.putfield 9, 3) := by decide +kernel
theorem dX6_init_13 : decode cX6_init 13 = .ok (.aload_n 0, 1) := by decide +kernel
theorem dX6_init_14 : decode cX6_init 14 = .ok (.sipush 300, 3) := by decide +kernel
theorem dX6_init_17 : decode cX6_init 17 = .ok (.newarray .int, 2) := by decide +kernel
theorem dX6_init_19 : decode cX6_init 19 = .ok (.putfield 15, 3) := by decide +kernel
theorem dX6_init_22 : decode cX6_init 22 = .ok (.aload_n 0, 1) := by decide +kernel
theorem dX6_init_23 : decode cX6_init 23 = .ok (.sipush 256, 3) := by decide +kernel
theorem dX6_init_26 : decode cX6_init 26 = .ok (.newarray .int, 2) := by decide +kernel
theorem dX6_init_28 : decode cX6_init 28 = .ok (.putfield 18, 3) := by decide +kernel
theorem dX6_init_31 : decode cX6_init 31 = .ok (.aload_n 0, 1) := by decide +kernel
theorem dX6_init_32 : decode cX6_init 32 = .ok (.sipush 256, 3) := by decide +kernel
theorem dX6_init_35 : decode cX6_init 35 = .ok (.newarray .int, 2) := by decide +kernel
theorem dX6_init_37 : decode cX6_init 37 = .ok (.putfield 21, 3) := by decide +kernel
theorem dX6_init_40 : decode cX6_init 40 = .ok (.aload_n 0, 1) := by decide +kernel
theorem dX6_init_41 : decode cX6_init 41 = .ok (.sipush 192, 3) := by decide +kernel
theorem dX6_init_44 : decode cX6_init 44 = .ok (.newarray .int, 2) := by decide +kernel
theorem dX6_init_46 : decode cX6_init 46 = .ok (.putfield 24, 3) := by decide +kernel
theorem dX6_init_49 : decode cX6_init 49 = .ok (.aload_n 0, 1) := by decide +kernel
theorem dX6_init_50 : decode cX6_init 50 = .ok (.getfield 18, 3) := by decide +kernel
theorem dX6_init_53 : decode cX6_init 53 = .ok (.iconst (-1), 1) := by decide +kernel
theorem dX6_init_54 : decode cX6_init 54 = .ok (.invokestatic 27, 3) := by decide +kernel
theorem dX6_init_57 : decode cX6_init 57 = .ok (.aload_n 0, 1) := by decide +kernel
theorem dX6_init_58 : decode cX6_init 58 = .ok (.getfield 21, 3) := by decide +kernel
theorem dX6_init_61 : decode cX6_init 61 = .ok (.iconst (-1), 1) := by decide +kernel
theorem dX6_init_62 : decode cX6_init 62 = .ok (.invokestatic 27, 3) := by decide +kernel
theorem dX6_init_65 : decode cX6_init 65 = .ok (.return_, 1) := by decide +kernel
def is_X6_init (Rt : np_Rt) : List (Nat × np_Op) := [(0, np_ald 1 0), (1, np_oinit), (4, np_ald 1 0), (5, np_push 3 (.int 576)), (8, nq_newa .int 576 (576, .inl fun _ => 0) 5 1580), (10, nq_putf 6 0 (.array .int)), (13, np_ald 1 0), (14, np_push 3 (.int 300)), (17, nq_newa .int 300 (300, .inl fun _ => 0) 5 1580), (19, nq_putf 6 1 (.array .int)), (22, np_ald 1 0), (23, np_push 3 (.int 256)), (26, nq_newa .int 256 (256, .inl fun _ => 0) 5 1580), (28, nq_putf 6 2 (.array .int)), (31, np_ald 1 0), (32, np_push 3 (.int 256)), (35, nq_newa .int 256 (256, .inl fun _ => 0) 5 1580), (37, nq_putf 6 3 (.array .int)), (40, np_ald 1 0), (41, np_push 3 (.int 192)), (44, nq_newa .int 192 (192, .inl fun _ => 0) 5 1580), (46, nq_putf 6 4 (.array .int)), (49, np_ald 1 0), (50, nq_getf 6 2), (53, np_push 1 (.int (-1))), (54, nq_call 2 sr_X11_fillAll 3 0 0 5 1580), (57, np_ald 1 0), (58, nq_getf 6 3), (61, np_push 1 (.int (-1))), (62, nq_call 2 sr_X11_fillAll 3 0 0 5 1580), (65, np_ret Rt)]
set_option maxRecDepth 20000 in
theorem so_X6_init {X : np_Ctx} {Rt : np_Rt} (hX : np_ok RX6 cX6_init 1 1 22 5 1580 .return_ X) (hmn : np_mn X = "<init>") (hR : ∀ st w ce sl, Rt st w ce sl → X.2.2.1 st w ce sl) : ∀ q ∈ is_X6_init Rt, np_S X q.1 q.2 :=
  List.forall_mem_cons.mpr ⟨np_s_aload_n hX dX6_init_0 rfl, List.forall_mem_cons.mpr ⟨np_s_oinit hX dX6_init_1 gw343 gw92 gw93 (by decide) (by decide), List.forall_mem_cons.mpr ⟨np_s_aload_n hX dX6_init_4 rfl, List.forall_mem_cons.mpr ⟨np_s_sipush hX dX6_init_5 (by decide), List.forall_mem_cons.mpr ⟨np_S.mono (op := np_newa .int 576 (576, .inl fun _ => 0) 5 1580) (np_s_newa hX dX6_init_8 rfl gw118 (by decide) (by intro C h; cases h) (by decide) (fun _ => vp_cell_i _ _ _) (by decide) (fun _ _ => rfl) (fun _ => trivial)) nq_newa_le, List.forall_mem_cons.mpr ⟨np_S.mono (op := np_putf 6 0 (.array .int)) (np_s_putF hX dX6_init_10 hmn (C := RX6) (T := TX6) (N := 12) (ty0 := tyX6) rfl guX6 tyX6_ok nmX6 (by decide) gw345 rfl rfl rfl) nq_putf_le, List.forall_mem_cons.mpr ⟨np_s_aload_n hX dX6_init_13 rfl, List.forall_mem_cons.mpr ⟨np_s_sipush hX dX6_init_14 (by decide), List.forall_mem_cons.mpr ⟨np_S.mono (op := np_newa .int 300 (300, .inl fun _ => 0) 5 1580) (np_s_newa hX dX6_init_17 rfl gw118 (by decide) (by intro C h; cases h) (by decide) (fun _ => vp_cell_i _ _ _) (by decide) (fun _ _ => rfl) (fun _ => trivial)) nq_newa_le, List.forall_mem_cons.mpr ⟨np_S.mono (op := np_putf 6 1 (.array .int)) (np_s_putF hX dX6_init_19 hmn (C := RX6) (T := TX6) (N := 12) (ty0 := tyX6) rfl guX6 tyX6_ok nmX6 (by decide) gw347 rfl rfl rfl) nq_putf_le, List.forall_mem_cons.mpr ⟨np_s_aload_n hX dX6_init_22 rfl, List.forall_mem_cons.mpr ⟨np_s_sipush hX dX6_init_23 (by decide), List.forall_mem_cons.mpr ⟨np_S.mono (op := np_newa .int 256 (256, .inl fun _ => 0) 5 1580) (np_s_newa hX dX6_init_26 rfl gw118 (by decide) (by intro C h; cases h) (by decide) (fun _ => vp_cell_i _ _ _) (by decide) (fun _ _ => rfl) (fun _ => trivial)) nq_newa_le, List.forall_mem_cons.mpr ⟨np_S.mono (op := np_putf 6 2 (.array .int)) (np_s_putF hX dX6_init_28 hmn (C := RX6) (T := TX6) (N := 12) (ty0 := tyX6) rfl guX6 tyX6_ok nmX6 (by decide) gw349 rfl rfl rfl) nq_putf_le, List.forall_mem_cons.mpr ⟨np_s_aload_n hX dX6_init_31 rfl, List.forall_mem_cons.mpr ⟨np_s_sipush hX dX6_init_32 (by decide), List.forall_mem_cons.mpr ⟨np_S.mono (op := np_newa .int 256 (256, .inl fun _ => 0) 5 1580) (np_s_newa hX dX6_init_35 rfl gw118 (by decide) (by intro C h; cases h) (by decide) (fun _ => vp_cell_i _ _ _) (by decide) (fun _ _ => rfl) (fun _ => trivial)) nq_newa_le, List.forall_mem_cons.mpr ⟨np_S.mono (op := np_putf 6 3 (.array .int)) (np_s_putF hX dX6_init_37 hmn (C := RX6) (T := TX6) (N := 12) (ty0 := tyX6) rfl guX6 tyX6_ok nmX6 (by decide) gw350 rfl rfl rfl) nq_putf_le, List.forall_mem_cons.mpr ⟨np_s_aload_n hX dX6_init_40 rfl, List.forall_mem_cons.mpr ⟨np_s_sipush hX dX6_init_41 (by decide), List.forall_mem_cons.mpr ⟨np_S.mono (op := np_newa .int 192 (192, .inl fun _ => 0) 5 1580) (np_s_newa hX dX6_init_44 rfl gw118 (by decide) (by intro C h; cases h) (by decide) (fun _ => vp_cell_i _ _ _) (by decide) (fun _ _ => rfl) (fun _ => trivial)) nq_newa_le, List.forall_mem_cons.mpr ⟨np_S.mono (op := np_putf 6 4 (.array .int)) (np_s_putF hX dX6_init_46 hmn (C := RX6) (T := TX6) (N := 12) (ty0 := tyX6) rfl guX6 tyX6_ok nmX6 (by decide) gw351 rfl rfl rfl) nq_putf_le, List.forall_mem_cons.mpr ⟨np_s_aload_n hX dX6_init_49 rfl, List.forall_mem_cons.mpr ⟨np_S.mono (op := np_getf 6 2) (np_s_getf hX dX6_init_50 (C := RX6) (T := TX6) (N := 12) rfl guX6 (by decide) gw349) nq_getf_le, List.forall_mem_cons.mpr ⟨np_s_iconst hX dX6_init_53 (by decide), List.forall_mem_cons.mpr ⟨np_S.mono (op := np_call 2 sr_X11_fillAll 3 0 0 5 1580) (np_s_callSN hX Cr_X11_fillAll dX6_init_54 gw127 gw63 gw344 gw126 ⟨by decide, by decide, by decide⟩ (by decide) (by decide)) nq_call_le, List.forall_mem_cons.mpr ⟨np_s_aload_n hX dX6_init_57 rfl, List.forall_mem_cons.mpr ⟨np_S.mono (op := np_getf 6 3) (np_s_getf hX dX6_init_58 (C := RX6) (T := TX6) (N := 12) rfl guX6 (by decide) gw350) nq_getf_le, List.forall_mem_cons.mpr ⟨np_s_iconst hX dX6_init_61 (by decide), List.forall_mem_cons.mpr ⟨np_S.mono (op := np_call 2 sr_X11_fillAll 3 0 0 5 1580) (np_s_callSN hX Cr_X11_fillAll dX6_init_62 gw127 gw63 gw344 gw126 ⟨by decide, by decide, by decide⟩ (by decide) (by decide)) nq_call_le, List.forall_mem_cons.mpr ⟨np_S.mono (op := np_ret X.2.2.1) (np_s_ret hX dX6_init_65) (nq_ret_le hR), fun _ h => nomatch h⟩⟩⟩⟩⟩⟩⟩⟩⟩⟩⟩⟩⟩⟩⟩⟩⟩⟩⟩⟩⟩⟩⟩⟩⟩⟩⟩⟩⟩⟩⟩
abbrev sp_X6_init : np_Sp := nq_in is_X6_init none 5 1580 80
theorem C_X6_init : np_C yX6_init cX6_init 1 none 1 22 5 1580 sp_X6_init := nq_inC 80 (by decide) (fun X Rt hX hmn hR => so_X6_init hX hmn hR)
theorem dX1_init_0 : decode cX1_init 0 = .ok (.aload_n 0, 1) := by decide +kernel
theorem dX1_init_1 : decode cX1_init 1 = .ok (.invokespecial 3, 3) := by decide +kernel
theorem dX1_init_4 : decode cX1_init 4 = .ok (.aload_n 0, 1) := by decide +kernel
theorem dX1_init_5 : decode cX1_init 5 = .ok (.new 9, 3) := by decide +kernel
theorem dX1_init_8 : decode cX1_init 8 = .ok (.dup, 1) := by decide +kernel
theorem dX1_init_9 : decode cX1_init 9 = .ok (.invokespecial 11, 3) := by decide +kernel
theorem dX1_init_12 : decode cX1_init 12 = .ok (.putfield 12, 3) := by decide +kernel
theorem dX1_init_15 : decode cX1_init 15 = .ok (.aload_n 0, 1) := by decide +kernel
theorem dX1_init_16 : decode cX1_init 16 = .ok (.bipush 8, 2) := by decide +kernel
theorem dX1_init_18 : decode cX1_init 18 = .ok (.newarray .int, 2) := by decide +kernel
theorem dX1_init_20 : decode cX1_init 20 = .ok (.putfield 18, 3) := by decide +kernel
theorem dX1_init_23 : decode cX1_init 23 = .ok (.aload_n 0, 1) := by decide +kernel
theorem dX1_init_24 : decode cX1_init 24 = .ok (.bipush 8, 2) := by decide +kernel
theorem dX1_init_26 : decode cX1_init 26 = .ok (.newarray .int, 2) := by decide +kernel
theorem dX1_init_28 : decode cX1_init 28 = .ok (.putfield 22, 3) := by decide +kernel
theorem dX1_init_31 : decode cX1_init 31 = .ok (.aload_n 0, 1) := by decide +kernel
theorem dX1_init_32 : decode cX1_init 32 = .ok (.bipush 8, 2) := by decide +kernel
theorem dX1_init_34 : decode cX1_init 34 = .ok (.newarray .int, 2) := by decide +kernel
theorem dX1_init_36 : decode cX1_init 36 = .ok (.putfield 25, 3) := by decide +kernel
theorem dX1_init_39 : decode cX1_init 39 = .ok (.aload_n 0, 1) := by decide +kernel
theorem dX1_init_40 : decode cX1_init 40 = .ok (.bipush 8, 2) := by decide +kernel
theorem dX1_init_42 : decode cX1_init 42 = .ok (.newarray .int, 2) := by decide +kernel
theorem dX1_init_44 : decode cX1_init 44 = .ok (.putfield 28, 3) := by decide +kernel
theorem dX1_init_47 : decode cX1_init 47 = .ok (.aload_n 0, 1) := by decide +kernel
theorem dX1_init_48 : decode cX1_init 48 = .ok (.bipush 8, 2) := by decide +kernel
theorem dX1_init_50 : decode cX1_init 50 = .ok (.newarray .int, 2) := by decide +kernel
theorem dX1_init_52 : decode cX1_init 52 = .ok (.putfield 31, 3) := by decide +kernel
theorem dX1_init_55 : decode cX1_init 55 = .ok (.return_, 1) := by decide +kernel
def is_X1_init (Rt : np_Rt) : List (Nat × np_Op) := [(0, np_ald 1 0), (1, np_oinit), (4, np_ald 1 0), (5, nq_new 2 5 [.null, .null, .null, .null, .int 0] 10 101), (8, nq_dup), (9, nq_callI 1 sp_X2_init 1 4 56 10 101), (12, nq_putf 1 0 (.object "NotationPress$Items")), (15, np_ald 1 0), (16, np_push 2 (.int 8)), (18, nq_newa .int 8 (8, .inl fun _ => 0) 10 101), (20, nq_putf 1 1 (.array .int)), (23, np_ald 1 0), (24, np_push 2 (.int 8)), (26, nq_newa .int 8 (8, .inl fun _ => 0) 10 101), (28, nq_putf 1 2 (.array .int)), (31, np_ald 1 0), (32, np_push 2 (.int 8)), (34, nq_newa .int 8 (8, .inl fun _ => 0) 10 101), (36, nq_putf 1 3 (.array .int)), (39, np_ald 1 0), (40, np_push 2 (.int 8)), (42, nq_newa .int 8 (8, .inl fun _ => 0) 10 101), (44, nq_putf 1 4 (.array .int)), (47, np_ald 1 0), (48, np_push 2 (.int 8)), (50, nq_newa .int 8 (8, .inl fun _ => 0) 10 101), (52, nq_putf 1 5 (.array .int)), (55, np_ret Rt)]
set_option maxRecDepth 20000 in
theorem so_X1_init {X : np_Ctx} {Rt : np_Rt} (hX : np_ok RX1 cX1_init 1 2 40 10 101 .return_ X) (hmn : np_mn X = "<init>") (hR : ∀ st w ce sl, Rt st w ce sl → X.2.2.1 st w ce sl) : ∀ q ∈ is_X1_init Rt, np_S X q.1 q.2 :=
  List.forall_mem_cons.mpr ⟨np_s_aload_n hX dX1_init_0 rfl, List.forall_mem_cons.mpr ⟨np_s_oinit hX dX1_init_1 gw310 gw92 gw93 (by decide) (by decide), List.forall_mem_cons.mpr ⟨np_s_aload_n hX dX1_init_4 rfl, List.forall_mem_cons.mpr ⟨np_S.mono (op := np_new 2 5 [.null, .null, .null, .null, .int 0] 10 101) (np_s_new hX dX1_init_5 (C := RX2) (T := TX2) (ty0 := tyX2) rfl guX2 tyX2_ok gw311 gw95 gw64 ndX2 nfX2) nq_new_le, List.forall_mem_cons.mpr ⟨np_S.mono (op := np_dup) (np_s_dup hX dX1_init_8) nq_dup_le, List.forall_mem_cons.mpr ⟨np_S.mono (op := np_callI 1 sp_X2_init 1 4 56 10 101) (np_s_callIN hX C_X2_init dX1_init_9 rfl gw98 gw64 gw312 gw97 ⟨by decide, by decide, by decide⟩ (by decide) (by decide)) nq_callI_le, List.forall_mem_cons.mpr ⟨np_S.mono (op := np_putf 1 0 (.object "NotationPress$Items")) (np_s_putF hX dX1_init_12 hmn (C := RX1) (T := TX1) (N := 7) (ty0 := tyX1) rfl guX1 tyX1_ok nmX1 (by decide) gw313 rfl rfl rfl) nq_putf_le, List.forall_mem_cons.mpr ⟨np_s_aload_n hX dX1_init_15 rfl, List.forall_mem_cons.mpr ⟨np_s_bipush hX dX1_init_16 (by decide), List.forall_mem_cons.mpr ⟨np_S.mono (op := np_newa .int 8 (8, .inl fun _ => 0) 10 101) (np_s_newa hX dX1_init_18 rfl gw118 (by decide) (by intro C h; cases h) (by decide) (fun _ => vp_cell_i _ _ _) (by decide) (fun _ _ => rfl) (fun _ => trivial)) nq_newa_le, List.forall_mem_cons.mpr ⟨np_S.mono (op := np_putf 1 1 (.array .int)) (np_s_putF hX dX1_init_20 hmn (C := RX1) (T := TX1) (N := 7) (ty0 := tyX1) rfl guX1 tyX1_ok nmX1 (by decide) gw316 rfl rfl rfl) nq_putf_le, List.forall_mem_cons.mpr ⟨np_s_aload_n hX dX1_init_23 rfl, List.forall_mem_cons.mpr ⟨np_s_bipush hX dX1_init_24 (by decide), List.forall_mem_cons.mpr ⟨np_S.mono (op := np_newa .int 8 (8, .inl fun _ => 0) 10 101) (np_s_newa hX dX1_init_26 rfl gw118 (by decide) (by intro C h; cases h) (by decide) (fun _ => vp_cell_i _ _ _) (by decide) (fun _ _ => rfl) (fun _ => trivial)) nq_newa_le, List.forall_mem_cons.mpr ⟨np_S.mono (op := np_putf 1 2 (.array .int)) (np_s_putF hX dX1_init_28 hmn (C := RX1) (T := TX1) (N := 7) (ty0 := tyX1) rfl guX1 tyX1_ok nmX1 (by decide) gw317 rfl rfl rfl) nq_putf_le, List.forall_mem_cons.mpr ⟨np_s_aload_n hX dX1_init_31 rfl, List.forall_mem_cons.mpr ⟨np_s_bipush hX dX1_init_32 (by decide), List.forall_mem_cons.mpr ⟨np_S.mono (op := np_newa .int 8 (8, .inl fun _ => 0) 10 101) (np_s_newa hX dX1_init_34 rfl gw118 (by decide) (by intro C h; cases h) (by decide) (fun _ => vp_cell_i _ _ _) (by decide) (fun _ _ => rfl) (fun _ => trivial)) nq_newa_le, List.forall_mem_cons.mpr ⟨np_S.mono (op := np_putf 1 3 (.array .int)) (np_s_putF hX dX1_init_36 hmn (C := RX1) (T := TX1) (N := 7) (ty0 := tyX1) rfl guX1 tyX1_ok nmX1 (by decide) gw318 rfl rfl rfl) nq_putf_le, List.forall_mem_cons.mpr ⟨np_s_aload_n hX dX1_init_39 rfl, List.forall_mem_cons.mpr ⟨np_s_bipush hX dX1_init_40 (by decide), List.forall_mem_cons.mpr ⟨np_S.mono (op := np_newa .int 8 (8, .inl fun _ => 0) 10 101) (np_s_newa hX dX1_init_42 rfl gw118 (by decide) (by intro C h; cases h) (by decide) (fun _ => vp_cell_i _ _ _) (by decide) (fun _ _ => rfl) (fun _ => trivial)) nq_newa_le, List.forall_mem_cons.mpr ⟨np_S.mono (op := np_putf 1 4 (.array .int)) (np_s_putF hX dX1_init_44 hmn (C := RX1) (T := TX1) (N := 7) (ty0 := tyX1) rfl guX1 tyX1_ok nmX1 (by decide) gw319 rfl rfl rfl) nq_putf_le, List.forall_mem_cons.mpr ⟨np_s_aload_n hX dX1_init_47 rfl, List.forall_mem_cons.mpr ⟨np_s_bipush hX dX1_init_48 (by decide), List.forall_mem_cons.mpr ⟨np_S.mono (op := np_newa .int 8 (8, .inl fun _ => 0) 10 101) (np_s_newa hX dX1_init_50 rfl gw118 (by decide) (by intro C h; cases h) (by decide) (fun _ => vp_cell_i _ _ _) (by decide) (fun _ _ => rfl) (fun _ => trivial)) nq_newa_le, List.forall_mem_cons.mpr ⟨np_S.mono (op := np_putf 1 5 (.array .int)) (np_s_putF hX dX1_init_52 hmn (C := RX1) (T := TX1) (N := 7) (ty0 := tyX1) rfl guX1 tyX1_ok nmX1 (by decide) gw320 rfl rfl rfl) nq_putf_le, List.forall_mem_cons.mpr ⟨np_S.mono (op := np_ret X.2.2.1) (np_s_ret hX dX1_init_55) (nq_ret_le hR), fun _ h => nomatch h⟩⟩⟩⟩⟩⟩⟩⟩⟩⟩⟩⟩⟩⟩⟩⟩⟩⟩⟩⟩⟩⟩⟩⟩⟩⟩⟩⟩
abbrev sp_X1_init : np_Sp := nq_in is_X1_init none 10 101 80
theorem C_X1_init : np_C yX1_init cX1_init 1 none 2 40 10 101 sp_X1_init := nq_inC 80 (by decide) (fun X Rt hX hmn hR => so_X1_init hX hmn hR)
theorem dX3_init_0 : decode cX3_init 0 = .ok (.aload_n 0, 1) := by decide +kernel
theorem dX3_init_1 : decode cX3_init 1 = .ok (.invokespecial 3, 3) := by decide +kernel
theorem dX3_init_4 : decode cX3_init 4 = .ok (.aload_n 0, 1) := by decide +kernel
theorem dX3_init_5 : decode cX3_init 5 = .ok (.bipush 60, 2) := by decide +kernel
theorem dX3_init_7 : decode cX3_init 7 = .ok (.newarray .int, 2) := by decide +kernel
theorem dX3_init_9 : decode cX3_init 9 = .ok (.putfield 9, 3) := by decide +kernel
theorem dX3_init_12 : decode cX3_init 12 = .ok (.aload_n 0, 1) := by decide +kernel
theorem dX3_init_13 : decode cX3_init 13 = .ok (.bipush 8, 2) := by decide +kernel
theorem dX3_init_15 : decode cX3_init 15 = .ok (.newarray .int, 2) := by decide +kernel
theorem dX3_init_17 : decode cX3_init 17 = .ok (.putfield 15, 3) := by decide +kernel
theorem dX3_init_20 : decode cX3_init 20 = .ok (.aload_n 0, 1) := by decide +kernel
theorem dX3_init_21 : decode cX3_init 21 = .ok (.new 18, 3) := by decide +kernel
theorem dX3_init_24 : decode cX3_init 24 = .ok (.dup, 1) := by decide +kernel
theorem dX3_init_25 : decode cX3_init 25 = .ok (.invokespecial 20, 3) := by decide +kernel
theorem dX3_init_28 : decode cX3_init 28 = .ok (.putfield 21, 3) := by decide +kernel
theorem dX3_init_31 : decode cX3_init 31 = .ok (.return_, 1) := by decide +kernel
def is_X3_init (Rt : np_Rt) : List (Nat × np_Op) := [(0, np_ald 1 0), (1, np_oinit), (4, np_ald 1 0), (5, np_push 2 (.int 60)), (7, nq_newa .int 60 (60, .inl fun _ => 0) 5 109), (9, nq_putf 3 0 (.array .int)), (12, np_ald 1 0), (13, np_push 2 (.int 8)), (15, nq_newa .int 8 (8, .inl fun _ => 0) 5 109), (17, nq_putf 3 1 (.array .int)), (20, np_ald 1 0), (21, nq_new 8 9 [.null, .null, .int 0, .int 0, .int 0, .int 0, .int 0, .int 0, .int 0] 5 109), (24, nq_dup), (25, nq_callI 1 sp_X8_init 1 2 32 5 109), (28, nq_putf 3 2 (.object "NotationPress$Trace")), (31, np_ret Rt)]
set_option maxRecDepth 20000 in
theorem so_X3_init {X : np_Ctx} {Rt : np_Rt} (hX : np_ok RX3 cX3_init 1 3 62 5 109 .return_ X) (hmn : np_mn X = "<init>") (hR : ∀ st w ce sl, Rt st w ce sl → X.2.2.1 st w ce sl) : ∀ q ∈ is_X3_init Rt, np_S X q.1 q.2 :=
  List.forall_mem_cons.mpr ⟨np_s_aload_n hX dX3_init_0 rfl, List.forall_mem_cons.mpr ⟨np_s_oinit hX dX3_init_1 gw137 gw92 gw93 (by decide) (by decide), List.forall_mem_cons.mpr ⟨np_s_aload_n hX dX3_init_4 rfl, List.forall_mem_cons.mpr ⟨np_s_bipush hX dX3_init_5 (by decide), List.forall_mem_cons.mpr ⟨np_S.mono (op := np_newa .int 60 (60, .inl fun _ => 0) 5 109) (np_s_newa hX dX3_init_7 rfl gw118 (by decide) (by intro C h; cases h) (by decide) (fun _ => vp_cell_i _ _ _) (by decide) (fun _ _ => rfl) (fun _ => trivial)) nq_newa_le, List.forall_mem_cons.mpr ⟨np_S.mono (op := np_putf 3 0 (.array .int)) (np_s_putF hX dX3_init_9 hmn (C := RX3) (T := TX3) (N := 3) (ty0 := tyX3) rfl guX3 tyX3_ok nmX3 (by decide) gw182 rfl rfl rfl) nq_putf_le, List.forall_mem_cons.mpr ⟨np_s_aload_n hX dX3_init_12 rfl, List.forall_mem_cons.mpr ⟨np_s_bipush hX dX3_init_13 (by decide), List.forall_mem_cons.mpr ⟨np_S.mono (op := np_newa .int 8 (8, .inl fun _ => 0) 5 109) (np_s_newa hX dX3_init_15 rfl gw118 (by decide) (by intro C h; cases h) (by decide) (fun _ => vp_cell_i _ _ _) (by decide) (fun _ _ => rfl) (fun _ => trivial)) nq_newa_le, List.forall_mem_cons.mpr ⟨np_S.mono (op := np_putf 3 1 (.array .int)) (np_s_putF hX dX3_init_17 hmn (C := RX3) (T := TX3) (N := 3) (ty0 := tyX3) rfl guX3 tyX3_ok nmX3 (by decide) gw183 rfl rfl rfl) nq_putf_le, List.forall_mem_cons.mpr ⟨np_s_aload_n hX dX3_init_20 rfl, List.forall_mem_cons.mpr ⟨np_S.mono (op := np_new 8 9 [.null, .null, .int 0, .int 0, .int 0, .int 0, .int 0, .int 0, .int 0] 5 109) (np_s_new hX dX3_init_21 (C := RX8) (T := TX8) (ty0 := tyX8) rfl guX8 tyX8_ok gw138 gw139 gw66 ndX8 nfX8) nq_new_le, List.forall_mem_cons.mpr ⟨np_S.mono (op := np_dup) (np_s_dup hX dX3_init_24) nq_dup_le, List.forall_mem_cons.mpr ⟨np_S.mono (op := np_callI 1 sp_X8_init 1 2 32 5 109) (np_s_callIN hX C_X8_init dX3_init_25 rfl gw142 gw66 gw140 gw141 ⟨by decide, by decide, by decide⟩ (by decide) (by decide)) nq_callI_le, List.forall_mem_cons.mpr ⟨np_S.mono (op := np_putf 3 2 (.object "NotationPress$Trace")) (np_s_putF hX dX3_init_28 hmn (C := RX3) (T := TX3) (N := 3) (ty0 := tyX3) rfl guX3 tyX3_ok nmX3 (by decide) gw184 rfl rfl rfl) nq_putf_le, List.forall_mem_cons.mpr ⟨np_S.mono (op := np_ret X.2.2.1) (np_s_ret hX dX3_init_31) (nq_ret_le hR), fun _ h => nomatch h⟩⟩⟩⟩⟩⟩⟩⟩⟩⟩⟩⟩⟩⟩⟩⟩
abbrev sp_X3_init : np_Sp := nq_in is_X3_init none 5 109 60
theorem C_X3_init : np_C yX3_init cX3_init 1 none 3 62 5 109 sp_X3_init := nq_inC 60 (by decide) (fun X Rt hX hmn hR => so_X3_init hX hmn hR)
