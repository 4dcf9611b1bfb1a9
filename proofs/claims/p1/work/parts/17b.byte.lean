def np_chF (n : Nat) : Nat := if ¬ (n / 1 % 256 = 10 ∨ (32 ≤ n / 1 % 256 ∧ n / 1 % 256 ≤ 126)) then 0 else if n / 256 = 0 then 1 else if ¬ (n / 256 % 256 = 10 ∨ (32 ≤ n / 256 % 256 ∧ n / 256 % 256 ≤ 126)) then 0 else if n / 65536 = 0 then 2 else if ¬ (n / 65536 % 256 = 10 ∨ (32 ≤ n / 65536 % 256 ∧ n / 65536 % 256 ≤ 126)) then 0 else if n / 16777216 = 0 then 3 else if ¬ (n / 16777216 % 256 = 10 ∨ (32 ≤ n / 16777216 % 256 ∧ n / 16777216 % 256 ≤ 126)) then 0 else 4
def np_chn (f : Int32) : Nat := np_chF f.toUInt32.toNat
def np_by (f k : Int32) : Int32 := (f.toUInt32 >>> ((8 * k).toUInt32 &&& Int32.toUInt32 31)).toInt32 &&& 255
theorem np_ush (f k : Int32) (m : Nat) (h : (k.toUInt32 &&& Int32.toUInt32 31).toNat % 32 = m) : (f.toUInt32 >>> (k.toUInt32 &&& Int32.toUInt32 31)).toInt32.toUInt32.toNat = f.toUInt32.toNat / 2 ^ m := by
  show (f.toUInt32 >>> (k.toUInt32 &&& Int32.toUInt32 31)).toNat = _
  rw [UInt32.toNat_shiftRight, h, Nat.shiftRight_eq_div_pow]
theorem np_ush8 (f : Int32) : (f.toUInt32 >>> (Int32.toUInt32 8 &&& Int32.toUInt32 31)).toInt32.toUInt32.toNat = f.toUInt32.toNat / 256 := np_ush f 8 8 rfl
theorem np_a255 (x : Int32) : (x &&& 255).toUInt32.toNat = x.toUInt32.toNat % 256 := by
  show (x.toUInt32 &&& (255 : Int32).toUInt32).toNat = _
  rw [UInt32.toNat_and]
  exact Nat.and_two_pow_sub_one_eq_mod _ 8
theorem np_small (y : Int32) (h : y.toUInt32.toNat < 2147483648) : y.toInt = (y.toUInt32.toNat : Int) := by
  show y.toUInt32.toBitVec.toInt = _
  rw [BitVec.toInt_eq_toNat_of_lt (by show 2 * y.toUInt32.toNat < 2 ^ 32; omega)]
  rfl
theorem np_a255i (x : Int32) : (x &&& 255).toInt = ((x.toUInt32.toNat % 256 : Nat) : Int) := by
  rw [np_small _ (by rw [np_a255]; omega), np_a255]
theorem np_z (x : Int32) : x = 0 ↔ x.toUInt32.toNat = 0 := by
  constructor
  · intro h
    rw [h]
    rfl
  · intro h
    have h2 : x.toUInt32 = (0 : Int32).toUInt32 := UInt32.toNat_inj.mp (h.trans rfl)
    cases x
    exact congrArg Int32.ofUInt32 h2
theorem np_e10 (x : Int32) : (x &&& 255 = 10) ↔ x.toUInt32.toNat % 256 = 10 := by
  rw [← Int32.toInt_inj, np_a255i, show (10 : Int32).toInt = 10 from rfl]; omega
theorem np_l32 (x : Int32) : (x &&& 255 < 32) ↔ x.toUInt32.toNat % 256 < 32 := by
  rw [Int32.lt_iff_toInt_lt, np_a255i, show (32 : Int32).toInt = 32 from rfl]; omega
theorem np_g126 (x : Int32) : (126 < x &&& 255) ↔ 126 < x.toUInt32.toNat % 256 := by
  rw [Int32.lt_iff_toInt_lt, np_a255i, show (126 : Int32).toInt = 126 from rfl]; omega
theorem np_C.mono {y : MethodName} {cc : ByteArray} {maxL : Nat} {ret : Option FieldType} {fr lo mc ms : Nat} {sp sq : np_Sp} (h : np_C y cc maxL ret fr lo mc ms sp) (hs : ∀ vs w Q, sq vs w Q → sp vs w Q) : np_C y cc maxL ret fr lo mc ms sq :=
  fun l hl D cA ad w vs sz Q hc hq => h l hl D cA ad w vs sz Q hc (hs vs w Q hq)
def sq_charactersIn : np_Sp := fun vs w Q => match vs with
  | [.int f] => (np_chn f = 0 → Q (some (.int 0)) w) ∧ (np_chn f = 1 → Q (some (.int 1)) w) ∧ (np_chn f = 2 → Q (some (.int 2)) w) ∧ (np_chn f = 3 → Q (some (.int 3)) w) ∧ (np_chn f = 4 → Q (some (.int 4)) w)
  | _ => False
theorem np_byN0 (f : Int32) : (np_by f 0).toInt = ((f.toUInt32.toNat / 1 % 256 : Nat) : Int) := by
  show ((f.toUInt32 >>> ((8 * 0 : Int32).toUInt32 &&& Int32.toUInt32 31)).toInt32 &&& 255).toInt = _
  rw [np_a255i, np_ush f (8 * 0) 0 (by decide)]
theorem np_byz0 (f : Int32) : (np_by f 0 = 0) ↔ f.toUInt32.toNat / 1 % 256 = 0 := by
  rw [← Int32.toInt_inj, np_byN0, show (0 : Int32).toInt = 0 from rfl]; omega
theorem np_byt0 (f : Int32) : (np_by f 0 = 10) ↔ f.toUInt32.toNat / 1 % 256 = 10 := by
  rw [← Int32.toInt_inj, np_byN0, show (10 : Int32).toInt = 10 from rfl]; omega
theorem np_byl0 (f : Int32) : (np_by f 0 < 32) ↔ f.toUInt32.toNat / 1 % 256 < 32 := by
  rw [Int32.lt_iff_toInt_lt, np_byN0, show (32 : Int32).toInt = 32 from rfl]; omega
theorem np_byg0 (f : Int32) : (126 < np_by f 0) ↔ 126 < f.toUInt32.toNat / 1 % 256 := by
  rw [Int32.lt_iff_toInt_lt, np_byN0, show (126 : Int32).toInt = 126 from rfl]; omega
theorem np_byN1 (f : Int32) : (np_by f 1).toInt = ((f.toUInt32.toNat / 256 % 256 : Nat) : Int) := by
  show ((f.toUInt32 >>> ((8 * 1 : Int32).toUInt32 &&& Int32.toUInt32 31)).toInt32 &&& 255).toInt = _
  rw [np_a255i, np_ush f (8 * 1) 8 (by decide)]
theorem np_byz1 (f : Int32) : (np_by f 1 = 0) ↔ f.toUInt32.toNat / 256 % 256 = 0 := by
  rw [← Int32.toInt_inj, np_byN1, show (0 : Int32).toInt = 0 from rfl]; omega
theorem np_byt1 (f : Int32) : (np_by f 1 = 10) ↔ f.toUInt32.toNat / 256 % 256 = 10 := by
  rw [← Int32.toInt_inj, np_byN1, show (10 : Int32).toInt = 10 from rfl]; omega
theorem np_byl1 (f : Int32) : (np_by f 1 < 32) ↔ f.toUInt32.toNat / 256 % 256 < 32 := by
  rw [Int32.lt_iff_toInt_lt, np_byN1, show (32 : Int32).toInt = 32 from rfl]; omega
theorem np_byg1 (f : Int32) : (126 < np_by f 1) ↔ 126 < f.toUInt32.toNat / 256 % 256 := by
  rw [Int32.lt_iff_toInt_lt, np_byN1, show (126 : Int32).toInt = 126 from rfl]; omega
theorem np_byN2 (f : Int32) : (np_by f 2).toInt = ((f.toUInt32.toNat / 65536 % 256 : Nat) : Int) := by
  show ((f.toUInt32 >>> ((8 * 2 : Int32).toUInt32 &&& Int32.toUInt32 31)).toInt32 &&& 255).toInt = _
  rw [np_a255i, np_ush f (8 * 2) 16 (by decide)]
theorem np_byz2 (f : Int32) : (np_by f 2 = 0) ↔ f.toUInt32.toNat / 65536 % 256 = 0 := by
  rw [← Int32.toInt_inj, np_byN2, show (0 : Int32).toInt = 0 from rfl]; omega
theorem np_byt2 (f : Int32) : (np_by f 2 = 10) ↔ f.toUInt32.toNat / 65536 % 256 = 10 := by
  rw [← Int32.toInt_inj, np_byN2, show (10 : Int32).toInt = 10 from rfl]; omega
theorem np_byl2 (f : Int32) : (np_by f 2 < 32) ↔ f.toUInt32.toNat / 65536 % 256 < 32 := by
  rw [Int32.lt_iff_toInt_lt, np_byN2, show (32 : Int32).toInt = 32 from rfl]; omega
theorem np_byg2 (f : Int32) : (126 < np_by f 2) ↔ 126 < f.toUInt32.toNat / 65536 % 256 := by
  rw [Int32.lt_iff_toInt_lt, np_byN2, show (126 : Int32).toInt = 126 from rfl]; omega
theorem np_byN3 (f : Int32) : (np_by f 3).toInt = ((f.toUInt32.toNat / 16777216 % 256 : Nat) : Int) := by
  show ((f.toUInt32 >>> ((8 * 3 : Int32).toUInt32 &&& Int32.toUInt32 31)).toInt32 &&& 255).toInt = _
  rw [np_a255i, np_ush f (8 * 3) 24 (by decide)]
theorem np_byz3 (f : Int32) : (np_by f 3 = 0) ↔ f.toUInt32.toNat / 16777216 % 256 = 0 := by
  rw [← Int32.toInt_inj, np_byN3, show (0 : Int32).toInt = 0 from rfl]; omega
theorem np_byt3 (f : Int32) : (np_by f 3 = 10) ↔ f.toUInt32.toNat / 16777216 % 256 = 10 := by
  rw [← Int32.toInt_inj, np_byN3, show (10 : Int32).toInt = 10 from rfl]; omega
theorem np_byl3 (f : Int32) : (np_by f 3 < 32) ↔ f.toUInt32.toNat / 16777216 % 256 < 32 := by
  rw [Int32.lt_iff_toInt_lt, np_byN3, show (32 : Int32).toInt = 32 from rfl]; omega
theorem np_byg3 (f : Int32) : (126 < np_by f 3) ↔ 126 < f.toUInt32.toNat / 16777216 % 256 := by
  rw [Int32.lt_iff_toInt_lt, np_byN3, show (126 : Int32).toInt = 126 from rfl]; omega
theorem np_chn_b (f : Int32) : np_chn f = 0 ∨ (np_chn f = 1 ∧ ¬ np_by f 0 = 0 ∧ np_by f 1 = 0 ∧ np_by f 2 = 0 ∧ np_by f 3 = 0) ∨ (np_chn f = 2 ∧ ¬ np_by f 0 = 0 ∧ ¬ np_by f 1 = 0 ∧ np_by f 2 = 0 ∧ np_by f 3 = 0) ∨ (np_chn f = 3 ∧ ¬ np_by f 0 = 0 ∧ ¬ np_by f 1 = 0 ∧ ¬ np_by f 2 = 0 ∧ np_by f 3 = 0) ∨ (np_chn f = 4 ∧ ¬ np_by f 0 = 0 ∧ ¬ np_by f 1 = 0 ∧ ¬ np_by f 2 = 0 ∧ ¬ np_by f 3 = 0) := by
  rw [np_byz0, np_byz1, np_byz2, np_byz3]
  have hn : f.toUInt32.toNat < 4294967296 := f.toUInt32.toNat_lt
  unfold np_chn np_chF
  generalize f.toUInt32.toNat = n at *
  split
  · exact Or.inl rfl
  split
  · refine Or.inr (Or.inl ⟨rfl, ?_, ?_, ?_, ?_⟩) <;> omega
  split
  · exact Or.inl rfl
  split
  · refine Or.inr (Or.inr (Or.inl ⟨rfl, ?_, ?_, ?_, ?_⟩)) <;> omega
  split
  · exact Or.inl rfl
  split
  · refine Or.inr (Or.inr (Or.inr (Or.inl ⟨rfl, ?_, ?_, ?_, ?_⟩))) <;> omega
  split
  · exact Or.inl rfl
  · refine Or.inr (Or.inr (Or.inr (Or.inr ⟨rfl, ?_, ?_, ?_, ?_⟩))) <;> omega
set_option maxRecDepth 20000 in
set_option maxHeartbeats 8000000 in
theorem CQ_charactersIn : np_C yX11_charactersIn cX11_charactersIn 4 (some .int) 1 22 0 0 sq_charactersIn := by
  refine np_C.mono C_X11_charactersIn (fun vs w Q h => ?_)
  obtain ⟨n9, g9⟩ := w
  unfold sq_charactersIn at h
  split at h
  · rename_i f
    have hn : f.toUInt32.toNat < 4294967296 := f.toUInt32.toNat_lt
    cases n9
    all_goals (repeat' ((conv => whnf); first | refine np_br_i ?_ ?_ | apply And.intro | refine np_chk_i ?_ ?_ | (intro cc; first | contradiction | skip)))
    all_goals (try (conv => whnf))
    all_goals (first | exact rfl | skip)
    all_goals (first
    | (refine h.1 ?_; ((try simp only [np_z, np_e10, np_l32, np_g126, np_ush8] at *); unfold np_chn np_chF; (repeat (first | rw [if_pos (by omega)] | rw [if_neg (by omega)])); all_goals omega))
    | (refine h.2.1 ?_; ((try simp only [np_z, np_e10, np_l32, np_g126, np_ush8] at *); unfold np_chn np_chF; (repeat (first | rw [if_pos (by omega)] | rw [if_neg (by omega)])); all_goals omega))
    | (refine h.2.2.1 ?_; ((try simp only [np_z, np_e10, np_l32, np_g126, np_ush8] at *); unfold np_chn np_chF; (repeat (first | rw [if_pos (by omega)] | rw [if_neg (by omega)])); all_goals omega))
    | (refine h.2.2.2.1 ?_; ((try simp only [np_z, np_e10, np_l32, np_g126, np_ush8] at *); unfold np_chn np_chF; (repeat (first | rw [if_pos (by omega)] | rw [if_neg (by omega)])); all_goals omega))
    | (refine h.2.2.2.2 ?_; ((try simp only [np_z, np_e10, np_l32, np_g126, np_ush8] at *); unfold np_chn np_chF; (repeat (first | rw [if_pos (by omega)] | rw [if_neg (by omega)])); all_goals omega))
    | (exfalso; (try simp only [np_z, np_e10, np_l32, np_g126, np_ush8] at *); omega))
  · exact h.elim
def sq_charOf : np_Sp := fun vs w Q => match vs with
  | [.int f, .int k] => np_br (decide (k = 0)) (Q (some (.int (np_by f 0))) w) (np_br (decide (k = 1)) (Q (some (.int (np_by f 1))) w) (np_br (decide (k = 2)) (Q (some (.int (np_by f 2))) w) (np_br (decide (k = 3)) (Q (some (.int (np_by f 3))) w) False)))
  | _ => False
theorem CQ_charOf : np_C yX12_charOf cX12_charOf 2 (some .int) 0 0 0 0 sq_charOf := by
  refine np_C.mono C_X12_charOf (fun vs w Q h => ?_)
  obtain ⟨n9, g9⟩ := w
  unfold sq_charOf at h
  split at h
  · rename_i f k
    have h0 : Q (some (.int (np_by f k))) (n9, g9) := by
      by_cases k0 : k = 0
      · subst k0; exact (np_br_e h).1 rfl
      · have h := (np_br_e h).2 k0
        by_cases k1 : k = 1
        · subst k1; exact (np_br_e h).1 rfl
        · have h := (np_br_e h).2 k1
          by_cases k2 : k = 2
          · subst k2; exact (np_br_e h).1 rfl
          · have h := (np_br_e h).2 k2
            by_cases k3 : k = 3
            · subst k3; exact (np_br_e h).1 rfl
            · exact ((np_br_e h).2 k3).elim
    cases n9
    all_goals (repeat' ((conv => whnf); first | refine np_br_i ?_ ?_ | apply And.intro | refine np_chk_i ?_ ?_ | (intro cc; first | contradiction | skip)))
    all_goals (try (conv => whnf))
    all_goals (first | exact rfl | exact h0)
  · exact h.elim
def isT_X12_areChars (Rt : np_Rt) : List (Nat × np_Op) := [(0, np_ild 1 0), (1, np_push 1 (.int 0)), (2, nq_call 2 sq_charOf 2 0 0 0 0), (5, nq_if (fun x => x = 0) 12), (8, np_push 1 (.int 1)), (9, np_goto 13), (12, np_push 1 (.int 0)), (13, np_ist 1 1), (14, np_push 1 (.int 0)), (15, np_ist 1 2), (16, np_ild 1 2), (17, np_push 1 (.int 4)), (18, nq_ic (fun x y => y ≤ x) 78), (21, np_ild 1 0), (22, np_ild 1 2), (23, nq_call 2 sq_charOf 2 0 0 0 0), (26, np_ist 1 3), (27, np_ild 1 1), (28, nq_if (fun x => x = 0) 70), (31, np_ild 1 3), (32, nq_if (fun x => x = 0) 66), (35, np_ild 1 3), (36, np_push 2 (.int 10)), (38, nq_ic (fun x y => x = y) 52), (41, np_ild 1 3), (42, np_push 2 (.int 32)), (44, np_push 2 (.int 126)), (46, nq_call 3 sp_X12_isIn 3 0 0 0 0), (49, nq_if (fun x => x = 0) 70), (52, np_ild 1 2), (53, nq_if (fun x => x = 0) 66), (56, np_ild 1 0), (57, np_ild 1 2), (58, np_push 1 (.int 1)), (59, np_ib (fun x y => x - y)), (60, nq_call 2 sq_charOf 2 0 0 0 0), (63, nq_if (fun x => x = 0) 70), (66, np_push 1 (.int 1)), (67, np_goto 71), (70, np_push 1 (.int 0)), (71, np_ist 1 1), (72, np_iinc 2 1), (75, np_goto 16), (78, np_ild 1 1), (79, np_ret Rt)]
set_option maxRecDepth 20000 in
theorem soT_X12_areChars {X : np_Ctx} {Rt : np_Rt} (hX : np_ok RX12 cX12_areChars 4 1 22 0 0 .ireturn X) (hR : ∀ st w ce sl, Rt st w ce sl → X.2.2.1 st w ce sl) : ∀ q ∈ isT_X12_areChars Rt, np_S X q.1 q.2 :=
  List.forall_mem_cons.mpr ⟨np_s_iload_n hX dX12_areChars_0 rfl, List.forall_mem_cons.mpr ⟨np_s_iconst hX dX12_areChars_1 (by decide), List.forall_mem_cons.mpr ⟨np_S.mono (op := np_call 2 sq_charOf 2 0 0 0 0) (np_s_callS hX CQ_charOf dX12_areChars_2 gw2059 gw142 gw2057 gw2058 ⟨by decide, by decide, by decide⟩ (by decide) (by decide)) nq_call_le, List.forall_mem_cons.mpr ⟨np_S.mono (op := np_if (fun x => x = 0) 12) (np_s_if_eq hX dX12_areChars_5 (by decide)) nq_if_le, List.forall_mem_cons.mpr ⟨np_s_iconst hX dX12_areChars_8 (by decide), List.forall_mem_cons.mpr ⟨np_s_goto hX dX12_areChars_9 (by decide), List.forall_mem_cons.mpr ⟨np_s_iconst hX dX12_areChars_12 (by decide), List.forall_mem_cons.mpr ⟨np_s_istore_n hX dX12_areChars_13 rfl (by decide), List.forall_mem_cons.mpr ⟨np_s_iconst hX dX12_areChars_14 (by decide), List.forall_mem_cons.mpr ⟨np_s_istore_n hX dX12_areChars_15 rfl (by decide), List.forall_mem_cons.mpr ⟨np_s_iload_n hX dX12_areChars_16 rfl, List.forall_mem_cons.mpr ⟨np_s_iconst hX dX12_areChars_17 (by decide), List.forall_mem_cons.mpr ⟨np_S.mono (op := np_ic (fun x y => y ≤ x) 78) (np_s_icmp_ge hX dX12_areChars_18 (by decide)) nq_ic_le, List.forall_mem_cons.mpr ⟨np_s_iload_n hX dX12_areChars_21 rfl, List.forall_mem_cons.mpr ⟨np_s_iload_n hX dX12_areChars_22 rfl, List.forall_mem_cons.mpr ⟨np_S.mono (op := np_call 2 sq_charOf 2 0 0 0 0) (np_s_callS hX CQ_charOf dX12_areChars_23 gw2059 gw142 gw2057 gw2058 ⟨by decide, by decide, by decide⟩ (by decide) (by decide)) nq_call_le, List.forall_mem_cons.mpr ⟨np_s_istore_n hX dX12_areChars_26 rfl (by decide), List.forall_mem_cons.mpr ⟨np_s_iload_n hX dX12_areChars_27 rfl, List.forall_mem_cons.mpr ⟨np_S.mono (op := np_if (fun x => x = 0) 70) (np_s_if_eq hX dX12_areChars_28 (by decide)) nq_if_le, List.forall_mem_cons.mpr ⟨np_s_iload_n hX dX12_areChars_31 rfl, List.forall_mem_cons.mpr ⟨np_S.mono (op := np_if (fun x => x = 0) 66) (np_s_if_eq hX dX12_areChars_32 (by decide)) nq_if_le, List.forall_mem_cons.mpr ⟨np_s_iload_n hX dX12_areChars_35 rfl, List.forall_mem_cons.mpr ⟨np_s_bipush hX dX12_areChars_36 (by decide), List.forall_mem_cons.mpr ⟨np_S.mono (op := np_ic (fun x y => x = y) 52) (np_s_icmp_eq hX dX12_areChars_38 (by decide)) nq_ic_le, List.forall_mem_cons.mpr ⟨np_s_iload_n hX dX12_areChars_41 rfl, List.forall_mem_cons.mpr ⟨np_s_bipush hX dX12_areChars_42 (by decide), List.forall_mem_cons.mpr ⟨np_s_bipush hX dX12_areChars_44 (by decide), List.forall_mem_cons.mpr ⟨np_S.mono (op := np_call 3 sp_X12_isIn 3 0 0 0 0) (np_s_callS hX C_X12_isIn dX12_areChars_46 gw1880 gw142 gw1878 gw1879 ⟨by decide, by decide, by decide⟩ (by decide) (by decide)) nq_call_le, List.forall_mem_cons.mpr ⟨np_S.mono (op := np_if (fun x => x = 0) 70) (np_s_if_eq hX dX12_areChars_49 (by decide)) nq_if_le, List.forall_mem_cons.mpr ⟨np_s_iload_n hX dX12_areChars_52 rfl, List.forall_mem_cons.mpr ⟨np_S.mono (op := np_if (fun x => x = 0) 66) (np_s_if_eq hX dX12_areChars_53 (by decide)) nq_if_le, List.forall_mem_cons.mpr ⟨np_s_iload_n hX dX12_areChars_56 rfl, List.forall_mem_cons.mpr ⟨np_s_iload_n hX dX12_areChars_57 rfl, List.forall_mem_cons.mpr ⟨np_s_iconst hX dX12_areChars_58 (by decide), List.forall_mem_cons.mpr ⟨np_s_isub hX dX12_areChars_59, List.forall_mem_cons.mpr ⟨np_S.mono (op := np_call 2 sq_charOf 2 0 0 0 0) (np_s_callS hX CQ_charOf dX12_areChars_60 gw2059 gw142 gw2057 gw2058 ⟨by decide, by decide, by decide⟩ (by decide) (by decide)) nq_call_le, List.forall_mem_cons.mpr ⟨np_S.mono (op := np_if (fun x => x = 0) 70) (np_s_if_eq hX dX12_areChars_63 (by decide)) nq_if_le, List.forall_mem_cons.mpr ⟨np_s_iconst hX dX12_areChars_66 (by decide), List.forall_mem_cons.mpr ⟨np_s_goto hX dX12_areChars_67 (by decide), List.forall_mem_cons.mpr ⟨np_s_iconst hX dX12_areChars_70 (by decide), List.forall_mem_cons.mpr ⟨np_s_istore_n hX dX12_areChars_71 rfl (by decide), List.forall_mem_cons.mpr ⟨np_s_iinc hX dX12_areChars_72 (by decide), List.forall_mem_cons.mpr ⟨np_s_goto hX dX12_areChars_75 (by decide), List.forall_mem_cons.mpr ⟨np_s_iload_n hX dX12_areChars_78 rfl, List.forall_mem_cons.mpr ⟨np_S.mono (op := np_ret X.2.2.1) (np_s_ret hX dX12_areChars_79) (nq_ret_le hR), fun _ h => nomatch h⟩⟩⟩⟩⟩⟩⟩⟩⟩⟩⟩⟩⟩⟩⟩⟩⟩⟩⟩⟩⟩⟩⟩⟩⟩⟩⟩⟩⟩⟩⟩⟩⟩⟩⟩⟩⟩⟩⟩⟩⟩⟩⟩⟩⟩
theorem CT_areChars : np_C yX12_areChars cX12_areChars 4 (some .boolean) 1 22 0 0 (nq_in isT_X12_areChars (some .boolean) 0 0 400) := nq_inC 400 (by decide) (fun X Rt hX hmn hR => soT_X12_areChars hX hR)
def sq_areChars : np_Sp := fun vs w Q => match vs with
  | [.int f] => (np_chn f = 0 → Q (some (.int 0)) w) ∧ (¬ np_chn f = 0 → Q (some (.int 1)) w)
  | _ => False
set_option maxRecDepth 20000 in
set_option maxHeartbeats 20000000 in
theorem CQ_areChars : np_C yX12_areChars cX12_areChars 4 (some .boolean) 1 22 0 0 sq_areChars := by
  refine np_C.mono CT_areChars (fun vs w Q h => ?_)
  obtain ⟨n9, g9⟩ := w
  unfold sq_areChars at h
  split at h
  · rename_i f
    have hn : f.toUInt32.toNat < 4294967296 := f.toUInt32.toNat_lt
    cases n9
    all_goals (repeat' ((conv => whnf); first | refine np_br_i ?_ ?_ | apply And.intro | refine np_chk_i ?_ ?_ | (intro cc; first | contradiction | skip)))
    all_goals (try (conv => whnf))
    all_goals (first | exact rfl | skip)
    all_goals (first
      | (refine h.1 ?_; (simp only [np_byz0, np_byz1, np_byz2, np_byz3, np_byt0, np_byt1, np_byt2, np_byt3, np_byl0, np_byl1, np_byl2, np_byl3, np_byg0, np_byg1, np_byg2, np_byg3] at *; unfold np_chn np_chF; (repeat (first | rw [if_pos (by omega)] | rw [if_neg (by omega)])); all_goals omega))
      | (refine h.2 ?_; (simp only [np_byz0, np_byz1, np_byz2, np_byz3, np_byt0, np_byt1, np_byt2, np_byt3, np_byl0, np_byl1, np_byl2, np_byl3, np_byg0, np_byg1, np_byg2, np_byg3] at *; unfold np_chn np_chF; (repeat (first | rw [if_pos (by omega)] | rw [if_neg (by omega)])); all_goals omega))
      | (exfalso; (simp only [np_byz0, np_byz1, np_byz2, np_byz3, np_byt0, np_byt1, np_byt2, np_byt3, np_byl0, np_byl1, np_byl2, np_byl3, np_byg0, np_byg1, np_byg2, np_byg3] at *; omega)))
  · exact h.elim
