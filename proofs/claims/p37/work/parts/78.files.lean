/-! Files. -/
def px_f (S : pw_S) (f len op : Nat) : Prop := S 53 f 1 = Int32.ofNat len ∧ len ≤ 300 ∧ S 53 f 2 = Int32.ofNat op ∧ op ≤ 1 ∧ ∀ k, k < len → ∃ u, u < 65536 ∧ S 11 f k = Int32.ofNat u
theorem px_f.cong {S S' : pw_S} {f len op : Nat} (h : px_f S f len op) (h1 : S' 53 f = S 53 f) (h2 : S' 11 f = S 11 f) : px_f S' f len op := by
  unfold px_f
  rw [h1, h2]
  exact h
def px_ah (S : pw_S) (f len p : Nat) : Nat → Int32 := fun k => if p + k < len then S 11 f (p + k) else -1
theorem px_f.tx {S : pw_S} {f len op p : Nat} (h : px_f S f len op) (hf : f < 2) (hp : p ≤ len) : pr_tx S f len p (px_ah S f len p) := ⟨by omega, h.2.1, hp, h.1, fun _ => rfl⟩
theorem py_ch {x : Nat} (hx : x < 65536) : ((Int32.ofNat x).toUInt32 % 65536).toInt32 = Int32.ofNat x := by
  rw [pk_char]
  show Int32.ofNat (x % 4294967296 % 65536) = _
  rw [Nat.mod_eq_of_lt (show x < 4294967296 by omega), Nat.mod_eq_of_lt hx]
theorem pm_append {S : pw_S} {f len op x : Nat} (h : px_f S f len op) (hl : len < 300) (hx : x < 65536) : ∃ S', m_X7_append S f (Int32.ofNat x) = some (S', ()) ∧ px_f S' f (len + 1) op ∧ (∀ k, k < len → S' 11 f k = S 11 f k) ∧ S' 11 f len = Int32.ofNat x ∧ ∀ a i, (a ≠ 11 ∧ a ≠ 53) ∨ i ≠ f → S' a i = S a i := by
  obtain ⟨h1, h2, h3, h4, h5⟩ := h
  unfold m_X7_append
  rw [h1, py_jn (by omega), py_jlR (l := 300) (by omega) (by omega), if_pos hl, py_ct (py_inb (by omega) hl), py_l, pk_vc, py_ch hx, py_cl (by omega)]
  refine ⟨_, rfl, ⟨?_, by omega, ?_, h4, fun k hk => ?_⟩, fun k hk => ?_, ?_, fun a i hai => ?_⟩
  · rw [py_up_s, py_u_s, py_up_k _ _ rfl, h1, py_add1]
  · rw [py_up_s, py_u_b _ _ rfl, py_up_k _ _ rfl]
    exact h3
  · rw [py_up_k _ _ rfl, py_up_s]
    by_cases e : k = len
    · rw [e, py_u_s]
      exact ⟨x, hx, rfl⟩
    · rw [py_u_n _ _ e]
      exact h5 k (by omega)
  · rw [py_up_k _ _ rfl, py_up_s, py_u_n _ _ (by omega)]
  · rw [py_up_k _ _ rfl, py_up_s, py_u_s]
  · rw [pw_up_n _ _ (fun z => by rcases hai with hai | hai; exact hai.2 z.1; exact hai z.2), pw_up_n _ _ (fun z => by rcases hai with hai | hai; exact hai.1 z.1; exact hai z.2)]
theorem pm_takes {S : pw_S} {f len op n : Nat} (h : px_f S f len op) (hn : n ≤ 1000) : m_X7_takes S f (Int32.ofNat n) = some (S, if op = 1 ∧ len + n ≤ 300 then 1 else 0) := by
  obtain ⟨h1, h2, h3, h4, h5⟩ := h
  unfold m_X7_takes
  rw [h3, py_jqR (l := 0) (by omega) (by omega), h1, py_add, py_jlL (l := 300) (by omega) (by omega)]
  by_cases e : op = 0
  · rw [if_pos e, if_neg (show ¬ (op = 1 ∧ len + n ≤ 300) by omega)]
  · rw [if_neg e]
    by_cases e2 : 300 < len + n
    · rw [if_pos e2, if_neg (show ¬ (op = 1 ∧ len + n ≤ 300) by omega)]
    · rw [if_neg e2, if_pos (show op = 1 ∧ len + n ≤ 300 by omega)]
theorem pm_print_104 {f op n : Nat} (hf : f < 2) (hn : n ≤ 60) (us : List Int32) (hus : us.length = n) (hu : ∀ k, k < n → ∃ u, u < 65536 ∧ us.getD k 0 = Int32.ofNat u) (l0 : Nat) (hl0 : l0 + n + 1 ≤ 300) : ∀ (m N i : Nat) (S : pw_S), m < N → n = i + m → px_f S f (l0 + i) op → py_li (S 28 0) 0 us →
    ∃ S', m_X11_print_104 N S 0 f (Int32.ofNat n) (Int32.ofNat i) = some (S', .inl (Int32.ofNat (l0 + n + 1))) ∧ px_f S' f (l0 + n + 1) op ∧ (∀ k, k < l0 + i → S' 11 f k = S 11 f k) ∧ (∀ k, i ≤ k → k < n → S' 11 f (l0 + k) = us.getD k 0) ∧ S' 11 f (l0 + n) = 10 ∧ ∀ a j, (a ≠ 11 ∧ a ≠ 53) ∨ j ≠ f → S' a j = S a j := by
  intro m
  induction m with
  | zero =>
    intro N i S hN hi h hli
    obtain ⟨N, rfl⟩ : ∃ q, N = q + 1 := ⟨N - 1, by omega⟩
    obtain rfl : n = i := by omega
    obtain ⟨S1, a1, a2, a3, a4, a5⟩ := pm_append h (by omega) (show 10 < 65536 by omega)
    unfold m_X11_print_104
    rw [py_je (by omega) (by omega), if_pos (Nat.le_refl _), show m_X7_append S f 10 = some (S1, ()) from a1, py_b, a2.1]
    exact ⟨S1, rfl, a2, a3, fun k h1 h2 => by omega, a4, a5⟩
  | succ m ih =>
    intro N i S hN hi h hli
    obtain ⟨N, rfl⟩ : ∃ q, N = q + 1 := ⟨N - 1, by omega⟩
    obtain ⟨u, hu1, hu2⟩ := hu i (by omega)
    have hg : S 28 0 i = Int32.ofNat u := by
      have := hli i (by omega)
      rw [Nat.zero_add, hu2] at this
      exact this
    obtain ⟨S1, a1, a2, a3, a4, a5⟩ := pm_append h (by omega) hu1
    obtain ⟨S2, b1, b2, b3, b4, b5, b6⟩ := ih N (i + 1) S1 (by omega) (by omega) (by rw [← Nat.add_assoc]; exact a2) (by rw [a5 28 0 (Or.inl (by decide))]; exact hli)
    unfold m_X11_print_104 m_X3_unitAt
    rw [py_je (by omega) (by omega), if_neg (show ¬ n ≤ i by omega), py_atI _ _ _ _ _ (show i < 60 by omega), py_b, py_b, hg, a1, py_b, py_l, py_add1, b1]
    refine ⟨S2, rfl, b2, fun k hk => ?_, fun k h1 h2 => ?_, b5, fun a j haj => (b6 a j haj).trans (a5 a j haj)⟩
    · rw [b3 k (by omega)]
      exact a3 k hk
    · by_cases e : k = i
      · subst e
        rw [b3 (l0 + k) (by omega), a4, hu2]
      · exact b4 k (by omega) h2
/-- units of what is printed are characters -/
theorem pe_let_ch {l : Nat} (h1 : l ≤ 27) : ∀ u ∈ pe_let l, ∃ w, w < 65536 ∧ u = Int32.ofNat w := by
  unfold pe_let
  intro u hu
  split at hu
  · rcases List.mem_cons.mp hu with rfl | hu
    · exact ⟨55357, by omega, rfl⟩
    · rw [List.mem_singleton.mp hu]
      exact ⟨56832, by omega, rfl⟩
  · rw [List.mem_singleton.mp hu]
    exact ⟨96 + l, by omega, rfl⟩
theorem pe_lets_mem : ∀ (n w : Nat) (ls : List Nat), pe_lets n w = some ls → ∀ l ∈ ls, l ≤ 27 := by
  intro n
  induction n with
  | zero =>
    intro w ls h l hl
    unfold pe_lets at h
    split at h
    · rw [← Option.some.inj h] at hl
      cases hl
    · cases h
  | succ n ih =>
    intro w ls h l hl
    unfold pe_lets at h
    split at h
    · rw [← Option.some.inj h] at hl
      cases hl
    · split at h
      · rename_i hr
        cases hq : pe_lets n (w / 32) with
        | none => rw [hq] at h; cases h
        | some r =>
          rw [hq] at h
          obtain rfl := Option.some.inj h
          rcases List.mem_cons.mp hl with rfl | hl
          · exact hr.2
          · exact ih _ _ hq l hl
      · cases h
theorem pe_word_ch {ls : List Nat} (h : ∀ l ∈ ls, l ≤ 27) : ∀ u ∈ pe_word ls, ∃ w, w < 65536 ∧ u = Int32.ofNat w := by
  intro u hu
  obtain ⟨l, h1, h2⟩ := List.mem_flatMap.mp hu
  exact pe_let_ch (h l h1) u h2
theorem pe_lay_ch {c : Nat} : ∀ (p r dg : Nat) (acc us : List Int32), pe_lay c p r dg acc = some us → (∀ u ∈ acc, ∃ w, w < 65536 ∧ u = Int32.ofNat w) → ∀ u ∈ us, ∃ w, w < 65536 ∧ u = Int32.ofNat w := by
  have hnf : ∃ w, w < 65536 ∧ pe_nf c = Int32.ofNat w := by
    unfold pe_nf
    split
    · exact ⟨32, by omega, rfl⟩
    · split
      · exact ⟨48, by omega, rfl⟩
      · exact ⟨42, by omega, rfl⟩
  have hmk : ∃ w, w < 65536 ∧ pe_mk c = Int32.ofNat w := by
    unfold pe_mk
    split
    · exact ⟨44, by omega, rfl⟩
    · exact ⟨46, by omega, rfl⟩
  intro p
  induction p using Nat.strongRecOn with
  | _ p ih =>
    intro r dg acc us h hacc
    cases p with
    | zero =>
      unfold pe_lay at h
      split at h
      · rw [← Option.some.inj h]
        exact hacc
      · cases h
    | succ p =>
      unfold pe_lay at h
      split at h
      · rw [← Option.some.inj h]
        intro u hu
        rcases List.mem_append.mp hu with hu | hu
        · rw [List.eq_of_mem_replicate hu]
          exact hnf
        · exact hacc u hu
      · split at h
        · cases p with
          | zero => cases h
          | succ q =>
            refine ih q (by omega) _ _ _ _ h (fun u hu => ?_)
            rcases List.mem_cons.mp hu with rfl | hu
            · exact ⟨48 + r % 10, by omega, rfl⟩
            · rcases List.mem_cons.mp hu with rfl | hu
              · exact hmk
              · exact hacc u hu
        · refine ih p (by omega) _ _ _ _ h (fun u hu => ?_)
          rcases List.mem_cons.mp hu with rfl | hu
          · exact ⟨48 + r % 10, by omega, rfl⟩
          · exact hacc u hu
theorem pe_enc_ch {I : py_I} (hR : pi_rg I) {T : py_T} (hn : pt_it T < pi_n I) {v : Int32} {us : List Int32} (h : pe_enc I T v = some us) : ∀ u ∈ us, ∃ w, w < 65536 ∧ u = Int32.ofNat w := by
  obtain ⟨r0, r1, r2, r3, r5, r8⟩ := hR _ hn
  unfold pe_enc at h
  by_cases k0 : pi_k I (pt_it T) = 0
  · rw [if_pos k0] at h
    split at h
    · cases h
    · exact pe_lay_ch _ _ _ _ _ h (fun u hu => by cases hu)
  rw [if_neg k0] at h
  by_cases k1 : pi_k I (pt_it T) = 1
  · rw [if_pos k1] at h
    split at h
    · cases h
    · cases hl : pe_lets 5 v.toNatClampNeg with
      | none => rw [hl] at h; cases h
      | some ls =>
        rw [hl] at h
        dsimp only at h
        split at h
        · rw [← Option.some.inj h]
          intro u hu
          rcases List.mem_append.mp hu with hu | hu
          · exact pe_word_ch (pe_lets_mem _ _ _ hl) u hu
          · rw [List.eq_of_mem_replicate hu]
            unfold pe_wf
            split
            · exact ⟨32, by omega, rfl⟩
            · split
              · exact ⟨46, by omega, rfl⟩
              · exact ⟨97, by omega, rfl⟩
        · cases h
  rw [if_neg k1] at h
  by_cases k2 : pi_k I (pt_it T) = 2
  · rw [if_pos k2] at h
    have := r2 k2
    split at h
    · cases h
    · cases hl : pe_lets 5 v.toNatClampNeg with
      | none => rw [hl] at h; cases h
      | some ls =>
        rw [hl] at h
        rw [← Option.some.inj h]
        intro u hu
        rcases List.mem_append.mp hu with hu | hu
        · exact pe_word_ch (pe_lets_mem _ _ _ hl) u hu
        · rw [List.mem_singleton.mp hu]
          exact ⟨_, by omega, rfl⟩
  rw [if_neg k2] at h
  by_cases k3 : pi_k I (pt_it T) = 3
  · rw [if_pos k3] at h
    split at h
    · cases h
    · split at h
      · rw [← Option.some.inj h]
        intro u hu
        obtain ⟨i, _, rfl⟩ := List.mem_map.mp hu
        split
        · exact ⟨120, by omega, rfl⟩
        · exact ⟨45, by omega, rfl⟩
      · cases h
  rw [if_neg k3] at h
  by_cases k6 : pi_k I (pt_it T) = 6
  · rw [if_pos k6] at h
    split at h
    · cases h
    · split at h
      · rw [← Option.some.inj h]
        intro u hu
        rw [List.mem_singleton.mp hu]
        exact ⟨_, by omega, rfl⟩
      · cases h
  rw [if_neg k6] at h
  by_cases k4 : pi_k I (pt_it T) = 4
  · rw [if_pos k4] at h
    rw [← Option.some.inj h]
    intro u hu
    rw [List.mem_singleton.mp hu]
    exact ⟨_, by omega, rfl⟩
  rw [if_neg k4] at h
  by_cases k5 : pi_k I (pt_it T) = 5
  · rw [if_pos k5] at h
    have := r5 k5
    rw [← Option.some.inj h]
    intro u hu
    rw [List.mem_singleton.mp hu]
    exact ⟨_, by omega, rfl⟩
  rw [if_neg k5] at h
  by_cases k9 : pi_k I (pt_it T) = 9
  · rw [if_pos k9] at h
    split at h
    · cases h
    · split at h
      · rw [← Option.some.inj h]
        intro u hu
        rcases List.mem_cons.mp hu with rfl | hu
        · exact ⟨_, by omega, rfl⟩
        · rw [List.mem_singleton.mp hu]
          exact ⟨_, by omega, rfl⟩
      · cases h
  rw [if_neg k9] at h
  cases h
theorem ps_run_ch {I : py_I} (hR : pi_rg I) {L : Nat → Int32} : ∀ (f : Nat) (T : py_T) (y : List Int32 × py_T), ps_run I L f T = some y → ∀ u ∈ y.1, ∃ w, w < 65536 ∧ u = Int32.ofNat w := by
  intro f
  induction f with
  | zero =>
    intro T y h u hu
    unfold ps_run at h
    split at h
    · rw [← Option.some.inj h] at hu
      cases hu
    · cases h
  | succ f ih =>
    intro T y h u hu
    unfold ps_run at h
    split at h
    · rw [← Option.some.inj h] at hu
      cases hu
    · rename_i hn
      cases hs : ps_step I L T with
      | none => rw [hs] at h; cases h
      | some x =>
        rw [hs] at h
        dsimp only at h
        cases hr : ps_run I L f x.2 with
        | none => rw [hr] at h; cases h
        | some z =>
          rw [hr] at h
          rw [← Option.some.inj h] at hu
          rcases List.mem_append.mp hu with hu | hu
          · unfold ps_step at hs
            split at hs
            · rw [← Option.some.inj hs] at hu
              cases hu
            · cases he : pe_enc I T (L (pi_a I (pt_it T) * 3 + pt_rd T)) with
              | none => rw [he] at hs; cases hs
              | some ws =>
                rw [he] at hs
                dsimp only at hs
                split at hs
                · rw [← Option.some.inj hs] at hu
                  exact pe_enc_ch hR (by omega) he u hu
                · cases hs
          · exact ih _ _ hr u hu
def py_KQ (a i : Nat) : Bool := py_KP a i || (Nat.beq a 11 || Nat.beq a 53)
theorem py_KP_Q : ∀ a b, py_KP a b = true → py_KQ a b = true := fun a b h => by unfold py_KQ; rw [h]; rfl
/-- printing into a file -/
theorem pm_print {S : pw_S} {d dc f len op : Nat} {I : py_I} (hI : pi_ok I) (hR : pi_rg I) (hdc : S 61 0 2 = Int32.ofNat dc) (hd : d < dc) (hc : dc ≤ 6) (hRi : py_Ri S d I) (hf : f < 2) (h : px_f S f len op) (hx : ∀ c, c < 24 → S 35 0 c = -2147483648 ∨ ∃ w, w < 2147483648 ∧ S 35 0 c = Int32.ofNat w) {y : List Int32 × py_T} (hy : ps_run I (py_rec S 35 0) 200 pt_0 = some y) :
    (¬ (op = 1 ∧ len + (y.1.length + 1) ≤ 300) → ∃ S', m_X11_print S 0 (Int32.ofNat d) (Int32.ofNat f) = some (S', .inr 2) ∧ py_fr py_KP S S') ∧
    (op = 1 ∧ len + (y.1.length + 1) ≤ 300 → ∃ S', m_X11_print S 0 (Int32.ofNat d) (Int32.ofNat f) = some (S', .inl (Int32.ofNat (len + y.1.length + 1))) ∧ px_f S' f (len + y.1.length + 1) op ∧ (∀ k, k < len → S' 11 f k = S 11 f k) ∧ (∀ k, k < y.1.length → S' 11 f (len + k) = y.1.getD k 0) ∧ S' 11 f (len + y.1.length) = 10 ∧ ∀ a j, py_KP a j = false → (a ≠ 11 ∧ a ≠ 53) ∨ j ≠ f → S' a j = S a j) := by
  obtain ⟨p1, p2⟩ := pk_can (j := d) (a2 := 35) (i2 := 0) hI hR hRi rfl rfl hx
  obtain ⟨S1, a1, a2, a3⟩ := p2 y hy
  have hlen := a3.2.2.1
  have h60 := a3.2.1.1
  have h1 : px_f S1 f len op := h.cong (a2 53 f rfl) (a2 11 f rfl)
  unfold m_X11_print
  rw [pm_desc hdc hd hc, py_b, py_os, pm_file hf, py_b, py_os, a1, py_b, if_neg py_10]
  unfold m_X3_length
  rw [py_b, py_l, a3.1.2.2.2.2.2.2.1, ← hlen, py_add1, pm_takes h1 (by omega), py_b]
  refine ⟨fun e => ?_, fun e => ?_⟩
  · rw [if_neg e, if_pos rfl]
    exact ⟨S1, rfl, a2⟩
  · rw [if_pos e, if_neg py_10, py_l]
    obtain ⟨S2, b1, b2, b3, b4, b5, b6⟩ := pm_print_104 hf (show y.1.length ≤ 60 by omega) y.1 rfl (fun k hk => by
      have hm : y.1.getD k 0 ∈ y.1 := by
        rw [List.getD_eq_getElem?_getD, List.getElem?_eq_getElem hk]
        exact List.getElem_mem _
      exact ps_run_ch hR 200 pt_0 y hy _ hm) len (by omega) y.1.length (pw_F 20000) 0 S1 (by rw [py_F]; omega) (by omega) h1 a3.2.2.2
    refine ⟨S2, b1, b2, fun k hk => by rw [b3 k hk, a2 11 f rfl], fun k hk => b4 k (Nat.zero_le _) hk, b5, fun a j h1 h2 => ?_⟩
    rw [b6 a j h2]
    exact a2 a j h1
theorem pm_unit {S : pw_S} {f len op k : Nat} (h : px_f S f len op) (hf : f < 2) (hk : k ≤ 400) : m_X11_unit S 0 (Int32.ofNat f) (Int32.ofNat k) = some (S, if k < len then .inl (S 11 f k) else .inr 0) := by
  have ht := h.tx hf (Nat.zero_le _)
  have hu := pk_unitAt ht k (by omega)
  rw [Nat.zero_add] at hu
  unfold m_X11_unit
  rw [pm_file hf, py_b, py_os, hu, py_b, py_l]
  unfold px_ah
  rw [Nat.zero_add]
  by_cases e : k < len
  · obtain ⟨u, u1, u2⟩ := h.2.2.2.2 k e
    rw [if_pos e, if_pos e, u2, if_neg (py_ne1 (by omega)), py_ch u1]
  · rw [if_neg e, if_neg e, if_pos rfl]
theorem pm_units_2 {S : pw_S} {f len op : Nat} (h : px_f S f len op) (hf : f < 2) : ∀ (m N k : Nat), m + 1 < N + 1 → len = k + m → m_L_units_2 (N + 1) S 0 (Int32.ofNat f) (Int32.ofNat k) = some (S, Int32.ofNat len) := by
  have hlen := h.2.1
  intro m
  induction m with
  | zero =>
    intro N k hN hk
    obtain rfl : len = k := by omega
    unfold m_L_units_2 m_L_asks
    rw [if_neg (by decide), if_neg (by decide), if_neg (by decide), if_neg (by decide), if_neg (by decide), if_neg (by decide), pm_unit h hf (by omega), if_neg (Nat.lt_irrefl _), py_b, py_er]
    rfl
  | succ m ih =>
    intro N k hN hk
    obtain ⟨N, rfl⟩ : ∃ q, N = q + 1 := ⟨N - 1, by omega⟩
    obtain ⟨u, u1, u2⟩ := h.2.2.2.2 k (by omega)
    unfold m_L_units_2 m_L_asks
    rw [if_neg (by decide), if_neg (by decide), if_neg (by decide), if_neg (by decide), if_neg (by decide), if_neg (by decide), pm_unit h hf (by omega), if_pos (show k < len by omega), py_b, py_el, py_b, u2, py_jn (by omega), py_l, py_add1]
    exact ih N (k + 1) (by omega) (by omega)
theorem pm_units {S : pw_S} {f len op : Nat} (h : px_f S f len op) (hf : f < 2) : m_L_units S 0 (Int32.ofNat f) = some (S, Int32.ofNat len) := by
  have hlen := h.2.1
  unfold m_L_units
  rw [py_l, py_F]
  exact pm_units_2 h hf len 301 0 (by omega) (by omega)
