theorem dX11_fillAll_0 : decode cX11_fillAll 0 = .ok (.iconst 0, 1) := by decide +kernel
theorem dX11_fillAll_1 : decode cX11_fillAll 1 = .ok (.istore_n 2, 1) := by decide +kernel
theorem dX11_fillAll_2 : decode cX11_fillAll 2 = .ok (.iload_n 2, 1) := by decide +kernel
theorem dX11_fillAll_3 : decode cX11_fillAll 3 = .ok (.aload_n 0, 1) := by decide +kernel
theorem dX11_fillAll_4 : decode cX11_fillAll 4 = .ok (.arraylength, 1) := by decide +kernel
theorem dX11_fillAll_5 : decode cX11_fillAll 5 = .ok (.if_icmp .ge 13, 3) := by decide +kernel
theorem dX11_fillAll_8 : decode cX11_fillAll 8 = .ok (.aload_n 0, 1) := by decide +kernel
theorem dX11_fillAll_9 : decode cX11_fillAll 9 = .ok (.iload_n 2, 1) := by decide +kernel
theorem dX11_fillAll_10 : decode cX11_fillAll 10 = .ok (.iload_n 1, 1) := by decide +kernel
theorem dX11_fillAll_11 : decode cX11_fillAll 11 = .ok (.iastore, 1) := by decide +kernel
theorem dX11_fillAll_12 : decode cX11_fillAll 12 = .ok (.iinc 2 1, 3) := by decide +kernel
theorem dX11_fillAll_15 : decode cX11_fillAll 15 = .ok (.goto (-13), 3) := by decide +kernel
theorem dX11_fillAll_18 : decode cX11_fillAll 18 = .ok (.return_, 1) := by decide +kernel
def is_X11_fillAll (Rt : np_Rt) : List (Nat × np_Op) := [(0, np_push 1 (.int 0)), (1, np_ist 1 2), (2, np_ild 1 2), (3, np_ald 1 0), (4, np_alen), (5, np_ic (fun x y => y ≤ x) 18), (8, np_ald 1 0), (9, np_ild 1 2), (10, np_ild 1 1), (11, np_iastT .int), (12, np_iinc 2 1), (15, np_goto 2), (18, np_ret Rt)]
set_option maxRecDepth 20000 in
theorem so_X11_fillAll {X : np_Ctx} (hX : np_ok RX11 cX11_fillAll 3 0 0 0 0 .return_ X) : ∀ q ∈ is_X11_fillAll X.2.2.1, np_S X q.1 q.2 :=
  List.forall_mem_cons.mpr ⟨np_s_iconst hX dX11_fillAll_0 (by decide), List.forall_mem_cons.mpr ⟨np_s_istore_n hX dX11_fillAll_1 rfl (by decide), List.forall_mem_cons.mpr ⟨np_s_iload_n hX dX11_fillAll_2 rfl, List.forall_mem_cons.mpr ⟨np_s_aload_n hX dX11_fillAll_3 rfl, List.forall_mem_cons.mpr ⟨np_s_alen hX dX11_fillAll_4, List.forall_mem_cons.mpr ⟨np_s_icmp_ge hX dX11_fillAll_5 (by decide), List.forall_mem_cons.mpr ⟨np_s_aload_n hX dX11_fillAll_8 rfl, List.forall_mem_cons.mpr ⟨np_s_iload_n hX dX11_fillAll_9 rfl, List.forall_mem_cons.mpr ⟨np_s_iload_n hX dX11_fillAll_10 rfl, List.forall_mem_cons.mpr ⟨np_s_iast hX dX11_fillAll_11, List.forall_mem_cons.mpr ⟨np_s_iinc hX dX11_fillAll_12 (by decide), List.forall_mem_cons.mpr ⟨np_s_goto hX dX11_fillAll_15 (by decide), List.forall_mem_cons.mpr ⟨np_s_ret hX dX11_fillAll_18, fun _ h => nomatch h⟩⟩⟩⟩⟩⟩⟩⟩⟩⟩⟩⟩⟩
def np_fa (n : Nat) (v : Int32) (f : Nat → Int32) : Nat → Int32 := fun j => if j < n then v else f j
def sp_X11_fillAll : np_Sp := fun vs w Q => match vs with
  | [.ref k, .int v] => (match w.2 k with
    | some (.inl (t, n, .inl f)) => t = .int ∧ n ≤ 60000 ∧ Q none (w.1, np_up w.2 k (.inl (.int, n, .inl (np_fa n v f))))
    | _ => False)
  | _ => False
set_option maxRecDepth 20000 in
theorem fillAll_loop {X : np_Ctx} (hX : np_ok RX11 cX11_fillAll 3 0 0 0 0 .return_ X) {k n : Nat} {v : Int32} {f : Nat → Int32} {w : np_W} {Q : Option Value → np_W → Prop} (hn : n ≤ 60000) (hRt : X.2.2.1 = np_rt none 0 0 Q) (hQ : Q none (w.1, np_up w.2 k (.inl (.int, n, .inl (np_fa n v f))))) :
    ∀ (d i : Nat) (u : Nat → Option np_E), i + d = n → np_up u k (.inl (.int, n, .inl (np_fa n v f))) = np_up w.2 k (.inl (.int, n, .inl (np_fa n v f))) → u k = some (.inl (.int, n, .inl (np_fa i v f))) → np_G X 2 [(2, .int (nI i)), (0, .ref k), (1, .int v)] [] (w.1, u) 0 0 := by
  intro d
  induction d with
  | zero =>
    intro i u hi hu huk
    have hin : i = n := by omega
    subst hin
    refine np_fin (so_X11_fillAll hX) 12 ?_
    rw [hRt]
    (conv => whnf); simp only [huk]
    refine And.intro (fun cc => ?_) (fun cc => absurd (show Int32.ofNat i ≤ nI i from nI_le (Nat.le_refl i) (by omega)) cc)
    refine ⟨Nat.le_refl 0, Nat.le_refl 0, rfl, ?_⟩
    rw [np_up_get huk] at hu
    show Q none (w.1, u)
    rw [hu]
    exact hQ
  | succ d ih =>
    intro i u hi hu huk
    have hin : vp_in (nI i) n := vp_in_nI (by omega) (by omega)
    refine np_sound (so_X11_fillAll hX) (heads := [2]) (Hd := fun pc L st w' ce sl => pc = 2 ∧ L = [(2, .int (nI i + 1)), (0, .ref k), (1, .int v)] ∧ st = [] ∧ w' = (w.1, np_up u k (.inl (.int, n, .inl (np_fa (i + 1) v f)))) ∧ ce = 0 ∧ sl = 0) (fun pc L st w' ce sl h => ?_) 12 2 _ _ _ _ _ ?_
    · obtain ⟨rfl, rfl, rfl, rfl, rfl, rfl⟩ := h
      rw [nI_1]
      exact ih (i + 1) _ (by omega) (by rw [np_up_up]; exact hu) (np_up_s _ _ _)
    · (conv => whnf); simp only [huk]
      refine And.intro (fun cc => absurd cc (nI_ge (by omega) (by omega))) (fun cc => ?_)
      (conv => whnf); simp only [huk]; refine ⟨trivial, hin, ?_⟩
      refine ⟨by first | rfl | trivial, by first | rfl | trivial, by first | rfl | trivial, ?_, by first | rfl | trivial, by first | rfl | trivial⟩
      have hg : upd (np_fa i v f) (nI i).toNatClampNeg (vp_nar .int v) = np_fa (i + 1) v f := by
        rw [nI_clamp (by omega)]
        funext j
        unfold upd np_fa
        by_cases h1 : j = i
        · rw [if_pos h1, if_pos (by omega)]
          rfl
        · rw [if_neg h1]
          by_cases h2 : j < i
          · rw [if_pos h2, if_pos (by omega)]
          · rw [if_neg h2, if_neg (by omega)]
      rw [hg]
theorem C_X11_fillAll : np_C yX11_fillAll cX11_fillAll 3 none 0 0 0 0 sp_X11_fillAll := by
  refine np_of (by decide) ?_
  intro X vs w Q hsp hX hmn hRt
  unfold sp_X11_fillAll at hsp
  split at hsp
  · rename_i k v
    split at hsp
    · rename_i t n f hk
      obtain ⟨rfl, hn, hQ⟩ := hsp
      refine np_sound (so_X11_fillAll hX) (heads := [2]) (Hd := fun pc L st w' ce sl => pc = 2 ∧ L = [(2, .int 0), (0, .ref k), (1, .int v)] ∧ st = [] ∧ w' = w ∧ ce = 0 ∧ sl = 0) (fun pc L st w' ce sl h => ?_) 12 0 _ _ _ _ _ ?_
      · obtain ⟨rfl, rfl, rfl, rfl, rfl, rfl⟩ := h
        refine fillAll_loop hX hn hRt hQ n 0 _ (by omega) rfl ?_
        rw [hk]
        rfl
      · exact ⟨rfl, rfl, rfl, rfl, rfl, rfl⟩
    · exact hsp.elim
  · exact hsp.elim

