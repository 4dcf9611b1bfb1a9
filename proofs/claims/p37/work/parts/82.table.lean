/-! Tables: rows and their index. -/
theorem pm_table {S : pw_S} {f : Nat} (hf : f < 2) : m_X11_tableOf S 0 (Int32.ofNat f) = some (S, some f) := by
  unfold m_X11_tableOf
  rw [py_jn (by omega), py_jeL (l := 2) (by omega) (by omega), if_neg (show ¬ 2 ≤ f by omega), py_ct (py_inb (by omega) (by omega)), pk_dn (by omega) (by omega)]
/-- a cell of a row, none for rows that are not there -/
def pb_c (S : pw_S) (f rc r c : Nat) : Int32 := if r < rc then S 12 f (r * 24 + c) else -2147483648
theorem pm_hasRow {S : pw_S} {f rc : Nat} (h : S 54 f 7 = Int32.ofNat rc) (hrc : rc ≤ 24) {r : Nat} (hr : r < 1000) : m_X6_hasRow S f (Int32.ofNat r) = some (S, if r < rc then 1 else 0) := by
  unfold m_X6_hasRow
  rw [py_jn (by omega), h, py_je (by omega) (by omega)]
  by_cases e : r < rc
  · rw [if_neg (show ¬ rc ≤ r by omega), if_pos e]
  · rw [if_pos (show rc ≤ r by omega), if_neg e]
theorem pm_told {S : pw_S} {f rc : Nat} (h : S 54 f 7 = Int32.ofNat rc) (hrc : rc ≤ 24) {r c : Nat} (hr : r < 1000) (hc : c < 24) : m_X6_told S f (Int32.ofNat r) (Int32.ofNat c) = some (S, pb_c S f rc r c) := by
  unfold m_X6_told pb_c
  rw [pm_hasRow h hrc hr, py_b]
  by_cases e : r < rc
  · rw [if_pos e, if_neg py_10, if_pos e, show Int32.ofNat r * 24 = Int32.ofNat (r * 24) from py_mul r 24, py_add, py_atI _ _ _ _ _ (show r * 24 + c < 576 by omega), py_b]
  · rw [if_neg e, if_pos rfl, if_neg e]
theorem pm_told_neg {S : pw_S} {f : Nat} {x y : Int32} (hx : x < 0) : m_X6_told S f x y = some (S, -2147483648) := by
  unfold m_X6_told m_X6_hasRow
  rw [if_pos hx]
  rfl
theorem pm_key {S : pw_S} {f rc : Nat} (h : S 54 f 7 = Int32.ofNat rc) (hrc : rc ≤ 24) {r s : Nat} (hr : r < 1000) (hs : s < 8) : m_X6_key S f (Int32.ofNat r) (Int32.ofNat s) = some (S, pb_c S f rc r (s * 3)) := by
  unfold m_X6_key
  rw [py_cp0, py_b, pm_told h hrc hr (by omega), py_b]
theorem pm_key_neg {S : pw_S} {f s : Nat} {x : Int32} (hx : x < 0) : m_X6_key S f x (Int32.ofNat s) = some (S, -2147483648) := by
  unfold m_X6_key
  rw [py_cp0, py_b, pm_told_neg hx, py_b]
/-! the index -/
def ix_f (K : Nat → Int32) (b : Nat) : Nat → Nat → Int32
  | 0, _ => -1
  | n + 1, lo => if K lo ≠ -2147483648 ∧ K lo &&& 31 = Int32.ofNat b then Int32.ofNat lo else ix_f K b n (lo + 1)
def ix_l (K : Nat → Int32) (b : Nat) : Nat → Int32
  | 0 => -1
  | n + 1 => if K n ≠ -2147483648 ∧ K n &&& 31 = Int32.ofNat b then Int32.ofNat n else ix_l K b n
theorem ix_f_cong {K K' : Nat → Int32} {b : Nat} : ∀ (n lo : Nat), (∀ r, lo ≤ r → r < lo + n → K r = K' r) → ix_f K b n lo = ix_f K' b n lo := by
  intro n
  induction n with
  | zero => intro lo _; rfl
  | succ n ih =>
    intro lo h
    unfold ix_f
    rw [h lo (Nat.le_refl _) (by omega), ih (lo + 1) (fun r h1 h2 => h r (by omega) (by omega))]
theorem ix_l_cong {K K' : Nat → Int32} {b : Nat} : ∀ (n : Nat), (∀ r, r < n → K r = K' r) → ix_l K b n = ix_l K' b n := by
  intro n
  induction n with
  | zero => intro _; rfl
  | succ n ih =>
    intro h
    unfold ix_l
    rw [h n (by omega), ih (fun r h1 => h r (by omega))]
theorem ix_f_no {K : Nat → Int32} {b : Nat} : ∀ (n lo : Nat), ¬ (K (lo + n) ≠ -2147483648 ∧ K (lo + n) &&& 31 = Int32.ofNat b) → ix_f K b (n + 1) lo = ix_f K b n lo := by
  intro n
  induction n with
  | zero =>
    intro lo h
    rw [Nat.add_zero] at h
    rw [ix_f.eq_2, if_neg h]
    rfl
  | succ n ih =>
    intro lo h
    rw [ix_f.eq_2, ix_f.eq_2 K b lo n, ih (lo + 1) (by rw [show lo + 1 + n = lo + (n + 1) from by omega]; exact h)]
theorem ix_f_yes {K : Nat → Int32} {b : Nat} : ∀ (n lo : Nat), (K (lo + n) ≠ -2147483648 ∧ K (lo + n) &&& 31 = Int32.ofNat b) → lo + n < 1000 → ix_f K b (n + 1) lo = if ix_f K b n lo = -1 then Int32.ofNat (lo + n) else ix_f K b n lo := by
  intro n
  induction n with
  | zero =>
    intro lo h _
    rw [Nat.add_zero] at h
    rw [ix_f.eq_2, if_pos h]
    show _ = if (-1 : Int32) = -1 then _ else _
    rw [if_pos rfl]
    rfl
  | succ n ih =>
    intro lo h hlt
    rw [ix_f.eq_2, ix_f.eq_2 K b lo n, ih (lo + 1) (by rw [show lo + 1 + n = lo + (n + 1) from by omega]; exact h) (by omega)]
    by_cases e : K lo ≠ -2147483648 ∧ K lo &&& 31 = Int32.ofNat b
    · rw [if_pos e, if_pos e, if_neg (py_ne1 (by omega))]
    · rw [if_neg e, if_neg e, show lo + 1 + n = lo + (n + 1) from by omega]
theorem ix_f_none {K : Nat → Int32} {b : Nat} : ∀ (n lo : Nat), lo + n < 1000 → (ix_f K b n lo = -1 ↔ ∀ r, lo ≤ r → r < lo + n → ¬ (K r ≠ -2147483648 ∧ K r &&& 31 = Int32.ofNat b)) := by
  intro n
  induction n with
  | zero => intro lo _; exact ⟨fun _ r h1 h2 => by omega, fun _ => rfl⟩
  | succ n ih =>
    intro lo hlt
    rw [ix_f.eq_2]
    by_cases e : K lo ≠ -2147483648 ∧ K lo &&& 31 = Int32.ofNat b
    · rw [if_pos e]
      exact ⟨fun z => absurd z (py_ne1 (by omega)), fun z => absurd e (z lo (Nat.le_refl _) (by omega))⟩
    · rw [if_neg e, ih (lo + 1) (by omega)]
      refine ⟨fun z r h1 h2 => ?_, fun z r h1 h2 => z r (by omega) (by omega)⟩
      by_cases er : r = lo
      · rw [er]
        exact e
      · exact z r (by omega) (by omega)
theorem ix_l_cases {K : Nat → Int32} {b : Nat} : ∀ (n : Nat), (ix_l K b n = -1 ∧ ∀ r, r < n → ¬ (K r ≠ -2147483648 ∧ K r &&& 31 = Int32.ofNat b)) ∨ ∃ q, q < n ∧ ix_l K b n = Int32.ofNat q ∧ (K q ≠ -2147483648 ∧ K q &&& 31 = Int32.ofNat b) ∧ ∀ r, q < r → r < n → ¬ (K r ≠ -2147483648 ∧ K r &&& 31 = Int32.ofNat b) := by
  intro n
  induction n with
  | zero => exact Or.inl ⟨rfl, fun r h => by omega⟩
  | succ n ih =>
    unfold ix_l
    by_cases e : K n ≠ -2147483648 ∧ K n &&& 31 = Int32.ofNat b
    · rw [if_pos e]
      exact Or.inr ⟨n, by omega, rfl, e, fun r h1 h2 => by omega⟩
    · rw [if_neg e]
      rcases ih with ⟨h1, h2⟩ | ⟨q, h1, h2, h3, h4⟩
      · refine Or.inl ⟨h1, fun r hr => ?_⟩
        by_cases er : r = n
        · rw [er]
          exact e
        · exact h2 r (by omega)
      · refine Or.inr ⟨q, by omega, h2, h3, fun r hr1 hr2 => ?_⟩
        by_cases er : r = n
        · rw [er]
          exact e
        · exact h4 r hr1 (by omega)
/-- the keys of the rows, by a slot -/
def ix_K (S : pw_S) (f s : Nat) : Nat → Int32 := fun r => S 12 f (r * 24 + s * 3)
/-- the index of a slot over so many rows -/
def px_is (S : pw_S) (f s rc : Nat) : Prop := ∀ b, b < 32 → S 14 f (s * 32 + b) = ix_f (ix_K S f s) b rc 0 ∧ S 15 f (s * 32 + b) = ix_l (ix_K S f s) b rc ∧ ∀ r, r < rc → (ix_K S f s r ≠ -2147483648 ∧ ix_K S f s r &&& 31 = Int32.ofNat b) → S 16 f (s * 24 + r) = ix_f (ix_K S f s) b (rc - (r + 1)) (r + 1)
def py_KI (f a i : Nat) : Bool := (Nat.beq a 14 || (Nat.beq a 15 || Nat.beq a 16)) && Nat.beq i f
theorem py_KI_s (f : Nat) : py_KI f 14 f = true ∧ py_KI f 15 f = true ∧ py_KI f 16 f = true := by
  unfold py_KI
  rw [Nat.beq_refl f]
  exact ⟨rfl, rfl, rfl⟩
/-- a row more in the index of a slot -/
theorem pb_add {S : pw_S} {f s rc : Nat} (h54 : S 54 f 7 = Int32.ofNat (rc + 1)) (hrc : rc < 24) (hs : s < 8) (hi : px_is S f s rc) (hk : ix_K S f s rc = -2147483648 ∨ ∃ w, w < 134217728 ∧ ix_K S f s rc = Int32.ofNat w) : ∃ S', m_X6_addToIndex S f (Int32.ofNat s) (Int32.ofNat rc) = some (S', ()) ∧ px_is S' f s (rc + 1) ∧ py_fr (py_KI f) S S' ∧ ∀ s', s' ≠ s → s' < 8 → (∀ b, b < 32 → S' 14 f (s' * 32 + b) = S 14 f (s' * 32 + b) ∧ S' 15 f (s' * 32 + b) = S 15 f (s' * 32 + b)) ∧ ∀ r, r < 24 → S' 16 f (s' * 24 + r) = S 16 f (s' * 24 + r) := by
  have hkey : m_X6_key S f (Int32.ofNat rc) (Int32.ofNat s) = some (S, ix_K S f s rc) := by
    rw [pm_key h54 (by omega) (by omega) hs]
    unfold pb_c ix_K
    rw [if_pos (by omega)]
  unfold m_X6_addToIndex
  rw [hkey, py_b, py_l]
  rcases hk with hk | ⟨w, hw, hk⟩
  · rw [hk, if_pos rfl]
    refine ⟨S, rfl, fun b hb => ?_, py_fr_r, fun s' _ _ => ⟨fun b _ => ⟨rfl, rfl⟩, fun r _ => rfl⟩⟩
    obtain ⟨h1, h2, h3⟩ := hi b hb
    have hno : ¬ (ix_K S f s rc ≠ -2147483648 ∧ ix_K S f s rc &&& 31 = Int32.ofNat b) := fun z => z.1 hk
    refine ⟨?_, ?_, fun r hr hp => ?_⟩
    · rw [h1, ix_f_no rc 0 (by rw [Nat.zero_add]; exact hno)]
    · rw [h2, ix_l.eq_2, if_neg hno]
    · have hr2 : r < rc := by
        by_cases er : r = rc
        · rw [er] at hp
          exact absurd hp hno
        · omega
      rw [h3 r hr2 hp, show rc + 1 - (r + 1) = rc - (r + 1) + 1 from by omega, ix_f_no _ _ (by rw [show r + 1 + (rc - (r + 1)) = rc from by omega]; exact hno)]
  · have hne : ¬ ix_K S f s rc = -2147483648 := fun z => by
      rw [hk] at z
      have z2 := congrArg Int32.toInt z
      rw [py_ti (by omega)] at z2
      have z3 : (-2147483648 : Int32).toInt = -2147483648 := rfl
      omega
    have hand : ix_K S f s rc &&& 31 = Int32.ofNat (w % 32) := by
      rw [hk]
      exact py_and31 (by omega)
    have hb9 : w % 32 < 32 := Nat.mod_lt _ (by omega)
    generalize hbd : w % 32 = b9 at hand hb9
    have hP : ix_K S f s rc ≠ -2147483648 ∧ ix_K S f s rc &&& 31 = Int32.ofNat b9 := ⟨hne, hand⟩
    obtain ⟨h1, h2, h3⟩ := hi b9 hb9
    unfold m_X6_bucketOf m_X6_linkOf
    rw [if_neg hne, py_b, hand, show Int32.ofNat s * 32 = Int32.ofNat (s * 32) from py_mul s 32, py_add, py_l, py_atI _ _ _ _ _ (show s * 32 + b9 < 256 by omega), py_b, py_l, h2]
    have hm : Int32.ofNat s * 24 = Int32.ofNat (s * 24) := py_mul s 24
    have other : ∀ b, b < 32 → b ≠ b9 → ¬ (ix_K S f s rc ≠ -2147483648 ∧ ix_K S f s rc &&& 31 = Int32.ofNat b) := fun b hb hbne z => by
      have z2 := hand.symm.trans z.2
      rw [py_eq (by omega) (by omega)] at z2
      exact hbne z2.symm
    rcases ix_l_cases (K := ix_K S f s) (b := b9) rc with ⟨l1, l2⟩ | ⟨q, l1, l2, l3, l4⟩
    · rw [l1, if_pos rfl, py_putI _ _ _ _ _ (show s * 32 + b9 < 256 by omega), py_b, py_putI _ _ _ _ _ (show s * 32 + b9 < 256 by omega), py_b, py_b, hm, py_add, py_putI _ _ _ _ _ (show s * 24 + rc < 192 by omega), py_b]
      have hf0 : ix_f (ix_K S f s) b9 rc 0 = -1 := (ix_f_none rc 0 (by omega)).mpr (fun r _ hr => l2 r (by omega))
      generalize hS' : pw_up (pw_up (pw_up S 14 f (upd (S 14 f) (s * 32 + b9) (Int32.ofNat rc))) 15 f (upd (pw_up S 14 f (upd (S 14 f) (s * 32 + b9) (Int32.ofNat rc)) 15 f) (s * 32 + b9) (Int32.ofNat rc))) 16 f (upd (pw_up (pw_up S 14 f (upd (S 14 f) (s * 32 + b9) (Int32.ofNat rc))) 15 f (upd (pw_up S 14 f (upd (S 14 f) (s * 32 + b9) (Int32.ofNat rc)) 15 f) (s * 32 + b9) (Int32.ofNat rc)) 16 f) (s * 24 + rc) (-1)) = S'
      have e14 : S' 14 f = upd (S 14 f) (s * 32 + b9) (Int32.ofNat rc) := by rw [← hS', py_up_k _ _ rfl, py_up_k _ _ rfl, py_up_s]
      have e15 : S' 15 f = upd (S 15 f) (s * 32 + b9) (Int32.ofNat rc) := by rw [← hS', py_up_k _ _ rfl, py_up_s, py_up_k _ _ rfl]
      have e16 : S' 16 f = upd (S 16 f) (s * 24 + rc) (-1) := by rw [← hS', py_up_s, py_up_k _ _ rfl, py_up_k _ _ rfl]
      have hfr : py_fr (py_KI f) S S' := by
        rw [← hS']
        exact ((py_fr_r.up (py_KI_s f).1).up (py_KI_s f).2.1).up (py_KI_s f).2.2
      have hK : ix_K S' f s = ix_K S f s := by
        unfold ix_K
        rw [hfr 12 f rfl]
      refine ⟨S', rfl, fun b hb => ?_, hfr, fun s' hs' h8 => ⟨fun b hb => ?_, fun r hr => ?_⟩⟩
      · rw [hK, e14, e15, e16]
        by_cases eb : b = b9
        · subst eb
          refine ⟨?_, ?_, fun r hr hp => ?_⟩
          · rw [py_u_s, ix_f_yes rc 0 (by rw [Nat.zero_add]; exact hP) (by omega), hf0, if_pos rfl, Nat.zero_add]
          · rw [py_u_s, ix_l.eq_2, if_pos hP]
          · have er : r = rc := by
              by_cases er : r = rc
              · exact er
              · exact absurd hp (l2 r (by omega))
            subst er
            rw [py_u_s, Nat.sub_self]
            rfl
        · obtain ⟨g1, g2, g3⟩ := hi b hb
          have hno := other b hb eb
          refine ⟨?_, ?_, fun r hr hp => ?_⟩
          · rw [py_u_n _ _ (by omega), g1, ix_f_no rc 0 (by rw [Nat.zero_add]; exact hno)]
          · rw [py_u_n _ _ (by omega), g2, ix_l.eq_2, if_neg hno]
          · have hr2 : r < rc := by
              by_cases er : r = rc
              · rw [er] at hp
                exact absurd hp hno
              · omega
            rw [py_u_n _ _ (by omega), g3 r hr2 hp, show rc + 1 - (r + 1) = rc - (r + 1) + 1 from by omega, ix_f_no _ _ (by rw [show r + 1 + (rc - (r + 1)) = rc from by omega]; exact hno)]
      · rw [e14, e15, py_u_n _ _ (by omega), py_u_n _ _ (by omega)]
        exact ⟨rfl, rfl⟩
      · rw [e16, py_u_n _ _ (by omega)]
    · have hf0 : ix_f (ix_K S f s) b9 rc 0 ≠ -1 := fun z => absurd l3 ((ix_f_none rc 0 (by omega)).mp z q (Nat.zero_le _) (by omega))
      rw [l2, if_neg (py_ne1 (by omega)), py_b, hm, py_add, py_putI _ _ _ _ _ (show s * 24 + q < 192 by omega), py_b, py_putI _ _ _ _ _ (show s * 32 + b9 < 256 by omega), py_b, py_b, py_add, py_putI _ _ _ _ _ (show s * 24 + rc < 192 by omega), py_b]
      generalize hS' : pw_up (pw_up (pw_up S 16 f (upd (S 16 f) (s * 24 + q) (Int32.ofNat rc))) 15 f (upd (pw_up S 16 f (upd (S 16 f) (s * 24 + q) (Int32.ofNat rc)) 15 f) (s * 32 + b9) (Int32.ofNat rc))) 16 f (upd (pw_up (pw_up S 16 f (upd (S 16 f) (s * 24 + q) (Int32.ofNat rc))) 15 f (upd (pw_up S 16 f (upd (S 16 f) (s * 24 + q) (Int32.ofNat rc)) 15 f) (s * 32 + b9) (Int32.ofNat rc)) 16 f) (s * 24 + rc) (-1)) = S'
      have e14 : S' 14 f = S 14 f := by rw [← hS', py_up_k _ _ rfl, py_up_k _ _ rfl, py_up_k _ _ rfl]
      have e15 : S' 15 f = upd (S 15 f) (s * 32 + b9) (Int32.ofNat rc) := by rw [← hS', py_up_k _ _ rfl, py_up_s, py_up_k _ _ rfl]
      have e16 : S' 16 f = upd (upd (S 16 f) (s * 24 + q) (Int32.ofNat rc)) (s * 24 + rc) (-1) := by rw [← hS', py_up_s, py_up_k _ _ rfl, py_up_s]
      have hfr : py_fr (py_KI f) S S' := by
        rw [← hS']
        exact ((py_fr_r.up (py_KI_s f).2.2).up (py_KI_s f).2.1).up (py_KI_s f).2.2
      have hK : ix_K S' f s = ix_K S f s := by
        unfold ix_K
        rw [hfr 12 f rfl]
      refine ⟨S', rfl, fun b hb => ?_, hfr, fun s' hs' h8 => ⟨fun b hb => ?_, fun r hr => ?_⟩⟩
      · rw [hK, e14, e15, e16]
        by_cases eb : b = b9
        · subst eb
          refine ⟨?_, ?_, fun r hr hp => ?_⟩
          · rw [h1, ix_f_yes rc 0 (by rw [Nat.zero_add]; exact hP) (by omega), if_neg hf0]
          · rw [py_u_s, ix_l.eq_2, if_pos hP]
          · by_cases er : r = rc
            · subst er
              rw [py_u_s, Nat.sub_self]
              rfl
            · have hr2 : r < rc := by omega
              rw [py_u_n _ _ (by omega), show rc + 1 - (r + 1) = rc - (r + 1) + 1 from by omega, ix_f_yes _ _ (by rw [show r + 1 + (rc - (r + 1)) = rc from by omega]; exact hP) (by omega), show r + 1 + (rc - (r + 1)) = rc from by omega]
              by_cases eq : r = q
              · subst eq
                rw [py_u_s, if_pos ((ix_f_none _ _ (by omega)).mpr (fun r' g1 g2 => l4 r' (by omega) (by omega)))]
              · have hrq : r < q := by
                  by_cases e9 : q < r
                  · exact absurd hp (l4 r e9 hr2)
                  · omega
                rw [py_u_n _ _ (by omega), h3 r hr2 hp, if_neg (fun z => absurd l3 ((ix_f_none _ _ (by omega)).mp z q (by omega) (by omega)))]
        · obtain ⟨g1, g2, g3⟩ := hi b hb
          have hno := other b hb eb
          refine ⟨?_, ?_, fun r hr hp => ?_⟩
          · rw [g1, ix_f_no rc 0 (by rw [Nat.zero_add]; exact hno)]
          · rw [py_u_n _ _ (by omega), g2, ix_l.eq_2, if_neg hno]
          · have hr2 : r < rc := by
              by_cases er : r = rc
              · rw [er] at hp
                exact absurd hp hno
              · omega
            have hrq : r ≠ q := fun z => by
              rw [z] at hp
              have z2 := l3.2.symm.trans hp.2
              rw [py_eq (by omega) (by omega)] at z2
              exact eb z2.symm
            rw [py_u_n _ _ (by omega), py_u_n _ _ (by omega), g3 r hr2 hp, show rc + 1 - (r + 1) = rc - (r + 1) + 1 from by omega, ix_f_no _ _ (by rw [show r + 1 + (rc - (r + 1)) = rc from by omega]; exact hno)]
      · rw [e14, e15, py_u_n _ _ (by omega)]
        exact ⟨rfl, rfl⟩
      · rw [e16, py_u_n _ _ (by omega), py_u_n _ _ (by omega)]
/-! finding rows -/
def ix_n (K : Nat → Int32) (v : Int32) : Nat → Nat → Nat → Int32
  | 0, _, _ => -1
  | n + 1, lo, j => if K lo = v then (if j = 0 then Int32.ofNat lo else ix_n K v n (lo + 1) (j - 1)) else ix_n K v n (lo + 1) j
theorem pb_look {S : pw_S} {f s rc w : Nat} {v : Int32} (h54 : S 54 f 7 = Int32.ofNat rc) (hrc : rc ≤ 24) (hs : s < 8) (hw : w < 1000) : ∀ (n N lo j : Nat), n < N → rc = lo + n → j ≤ w → m_X6_rowByLooking_14 N S f (Int32.ofNat s) v (Int32.ofNat w) (Int32.ofNat j) (Int32.ofNat lo) = some (S, ix_n (ix_K S f s) v n lo (w - j)) := by
  intro n
  induction n with
  | zero =>
    intro N lo j hN hlo hj
    obtain ⟨N, rfl⟩ : ∃ q, N = q + 1 := ⟨N - 1, by omega⟩
    unfold m_X6_rowByLooking_14
    rw [h54, py_je (by omega) (by omega), if_pos (show rc ≤ lo by omega)]
    rfl
  | succ n ih =>
    intro N lo j hN hlo hj
    obtain ⟨N, rfl⟩ : ∃ q, N = q + 1 := ⟨N - 1, by omega⟩
    unfold m_X6_rowByLooking_14 ix_n
    have hk : pb_c S f rc lo (s * 3) = ix_K S f s lo := if_pos (by omega)
    rw [h54, py_je (by omega) (by omega), if_neg (show ¬ rc ≤ lo by omega), pm_key h54 hrc (by omega) hs, py_b, hk]
    by_cases e : ix_K S f s lo = v
    · rw [if_pos e, if_pos e, py_jq (by omega) (by omega)]
      by_cases ej : j = w
      · rw [if_pos ej, if_pos (show w - j = 0 by omega)]
      · rw [if_neg ej, if_neg (show ¬ w - j = 0 by omega), py_l, py_l, py_add1, py_add1, ih N (lo + 1) (j + 1) (by omega) (by omega) (by omega), show w - (j + 1) = w - j - 1 from by omega]
    · rw [if_neg e, if_neg e, py_l, py_add1, ih N (lo + 1) j (by omega) (by omega) hj]
theorem pb_rowByLooking {S : pw_S} {f s rc w : Nat} {v : Int32} (h54 : S 54 f 7 = Int32.ofNat rc) (hrc : rc ≤ 24) (hs : s < 8) (hw : w < 1000) (hv : v ≠ -2147483648) : m_X6_rowByLooking S f (Int32.ofNat s) v (Int32.ofNat w) = some (S, ix_n (ix_K S f s) v rc 0 w) := by
  unfold m_X6_rowByLooking
  rw [if_neg hv, py_l, py_l]
  exact pb_look h54 hrc hs hw rc (pw_F 20000) 0 0 (by rw [py_F]; omega) (by omega) (Nat.zero_le _)
theorem pb_chain {S : pw_S} {f s rc w b : Nat} {v : Int32} (h54 : S 54 f 7 = Int32.ofNat rc) (hrc : rc ≤ 24) (hs : s < 8) (hw : w < 1000) (hi : px_is S f s rc) (hb : b < 32) (hv : v ≠ -2147483648) (hvb : v &&& 31 = Int32.ofNat b) : ∀ (n N lo j i : Nat), n + 1 < N → rc = lo + n → j ≤ w → i ≤ lo → m_X6_rowByIndex_29 N S f (Int32.ofNat s) v (Int32.ofNat w) (ix_f (ix_K S f s) b n lo) (Int32.ofNat j) (Int32.ofNat i) = some (S, ix_n (ix_K S f s) v n lo (w - j)) := by
  intro n
  induction n with
  | zero =>
    intro N lo j i hN hlo hj hil
    obtain ⟨N, rfl⟩ : ∃ q, N = q + 1 := ⟨N - 1, by omega⟩
    unfold m_X6_rowByIndex_29
    rw [py_jeL (l := 24) (by omega) (by omega)]
    by_cases e : 24 ≤ i
    · rw [if_pos e]
      rfl
    · rw [if_neg e, if_pos (show ix_f (ix_K S f s) b 0 lo = -1 from rfl)]
      rfl
  | succ n ih =>
    intro N lo j i hN hlo hj hil
    unfold ix_f ix_n
    by_cases hp : ix_K S f s lo ≠ -2147483648 ∧ ix_K S f s lo &&& 31 = Int32.ofNat b
    · rw [if_pos hp]
      obtain ⟨N, rfl⟩ : ∃ q, N = q + 1 := ⟨N - 1, by omega⟩
      have hk : pb_c S f rc lo (s * 3) = ix_K S f s lo := if_pos (by omega)
      have hlk := (hi b hb).2.2 lo (by omega) hp
      have hm : Int32.ofNat s * 24 = Int32.ofNat (s * 24) := py_mul s 24
      rw [show rc - (lo + 1) = n from by omega] at hlk
      unfold m_X6_rowByIndex_29
      rw [py_jeL (l := 24) (by omega) (by omega), if_neg (show ¬ 24 ≤ i by omega), if_neg (py_ne1 (by omega)), pm_key h54 hrc (by omega) hs, py_b, hk]
      unfold m_X6_linkOf
      by_cases e : ix_K S f s lo = v
      · rw [if_pos e, if_pos e, py_jq (by omega) (by omega)]
        by_cases ej : j = w
        · rw [if_pos ej, if_pos (show w - j = 0 by omega)]
        · rw [if_neg ej, if_neg (show ¬ w - j = 0 by omega), py_l, py_b, hm, py_add, py_atI _ _ _ _ _ (show s * 24 + lo < 192 by omega), py_b, py_l, py_l, py_add1, py_add1, hlk, ih N (lo + 1) (j + 1) (i + 1) (by omega) (by omega) (by omega) (by omega), show w - (j + 1) = w - j - 1 from by omega]
      · rw [if_neg e, if_neg e, py_b, hm, py_add, py_atI _ _ _ _ _ (show s * 24 + lo < 192 by omega), py_b, py_l, py_l, py_add1, hlk, ih N (lo + 1) j (i + 1) (by omega) (by omega) hj (by omega)]
    · rw [if_neg hp, if_neg (fun z => hp (by rw [z]; exact ⟨hv, hvb⟩))]
      exact ih N (lo + 1) j i (by omega) (by omega) hj (by omega)
theorem pb_rowByIndex {S : pw_S} {f s rc w b : Nat} {v : Int32} (h54 : S 54 f 7 = Int32.ofNat rc) (hrc : rc ≤ 24) (hs : s < 8) (hw : w < 1000) (hi : px_is S f s rc) (hb : b < 32) (hv : v ≠ -2147483648) (hvb : v &&& 31 = Int32.ofNat b) : m_X6_rowByIndex S f (Int32.ofNat s) v (Int32.ofNat w) = some (S, ix_n (ix_K S f s) v rc 0 w) := by
  unfold m_X6_rowByIndex m_X6_bucketOf
  rw [if_neg hv, py_b, hvb, show Int32.ofNat s * 32 = Int32.ofNat (s * 32) from py_mul s 32, py_add, py_atI _ _ _ _ _ (show s * 32 + b < 256 by omega), py_b, py_l, py_l, py_l, (hi b hb).1]
  exact pb_chain h54 hrc hs hw hi hb hv hvb rc (pw_F 20000) 0 0 0 (by rw [py_F]; omega) (by omega) (Nat.zero_le _) (Nat.le_refl _)
