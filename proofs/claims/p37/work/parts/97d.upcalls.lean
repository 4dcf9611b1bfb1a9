/-! The calls of upgrades. -/
theorem kn_set {P P' : Nat → Bool} {t : Nat} (h1 : ∀ j, j ≠ t → P' j = P j) (h2 : P' t = true) : ∀ n, t < n → kn P' n = kn P n + if P t = true then 0 else 1 := by
  intro n
  induction n with
  | zero => intro h; exact absurd h (Nat.not_lt_zero t)
  | succ n ih =>
    intro h
    by_cases e : t = n
    · have e1 : kn P' n = kn P n := kn_cong n (fun k hk => h1 k (by omega))
      show kn P' n + (if P' n = true then 1 else 0) = kn P n + (if P n = true then 1 else 0) + _
      rw [e1, ← e, h2, if_pos rfl]
      by_cases e2 : P t = true
      · rw [if_pos e2, if_pos e2]
      · rw [if_neg e2, if_neg e2]
    · show kn P' n + (if P' n = true then 1 else 0) = kn P n + (if P n = true then 1 else 0) + _
      rw [ih (by omega), h1 n (fun z => e z.symm)]
      omega
def py_KD (a _i : Nat) : Bool := Nat.beq a 19 || (Nat.beq a 20 || Nat.beq a 21)
theorem pu_size_4 {S : pw_S} : ∀ (n N i : Nat), n < N → 8 = i + n → m_X10_size_4 N S 0 (Int32.ofNat (kn (fun j => decide (S 19 0 j ≠ -1)) i)) (Int32.ofNat i) = some (S, Int32.ofNat (kn (fun j => decide (S 19 0 j ≠ -1)) 8)) := by
  intro n
  induction n with
  | zero =>
    intro N i hN hi
    obtain ⟨N, rfl⟩ : ∃ q, N = q + 1 := ⟨N - 1, by omega⟩
    unfold m_X10_size_4
    rw [py_jeL (l := 8) (by omega) (by omega), if_pos (show 8 ≤ i by omega), show i = 8 by omega]
  | succ n ih =>
    intro N i hN hi
    obtain ⟨N, rfl⟩ : ∃ q, N = q + 1 := ⟨N - 1, by omega⟩
    have ih2 := ih N (i + 1) (by omega) (by omega)
    have e0 : kn (fun j => decide (S 19 0 j ≠ -1)) (i + 1) = kn (fun j => decide (S 19 0 j ≠ -1)) i + if decide (S 19 0 i ≠ -1) = true then 1 else 0 := rfl
    rw [e0] at ih2
    unfold m_X10_size_4
    rw [py_jeL (l := 8) (by omega) (by omega), if_neg (show ¬ 8 ≤ i by omega), py_ct (py_inb (by omega) (by omega)), py_cl (by omega)]
    by_cases e : S 19 0 i = -1
    · rw [if_pos e, py_l, py_add1]
      rw [decide_eq_false (fun z => z e), if_neg Bool.false_ne_true] at ih2
      exact ih2
    · rw [if_neg e, py_l, py_l, py_add1, py_add1]
      rw [decide_eq_true e, if_pos rfl] at ih2
      exact ih2
theorem pu_size (S : pw_S) : m_X10_size S 0 = some (S, Int32.ofNat (kn (fun j => decide (S 19 0 j ≠ -1)) 8)) := by
  unfold m_X10_size
  rw [py_l, py_l]
  exact pu_size_4 8 _ 0 (by rw [py_F]; omega) rfl
/-- arguments of a step -/
def px_ar (k a b : Int32) : Prop := (k = 0 ∧ (∃ t, t < 8 ∧ a = Int32.ofNat t) ∧ b = 0) ∨ (k = 1 ∧ (-999 ≤ a ∧ a ≤ 999) ∧ b = 0) ∨ (k = 2 ∧ (∃ t, t < 8 ∧ a = Int32.ofNat t) ∧ -999 ≤ b ∧ b ≤ 999) ∨ (k = 3 ∧ (∃ t, t < 8 ∧ a = Int32.ofNat t) ∧ 2 ≤ b ∧ b ≤ 9) ∨ (k = 4 ∧ (∃ t, t < 8 ∧ a = Int32.ofNat t) ∧ ∃ t, t < 8 ∧ b = Int32.ofNat t)
theorem px_ar.d1 {k a b : Int32} (h : px_ar k a b) : px_d1 k a b ∧ k ≠ -1 := by
  rcases h with ⟨rfl, h, -⟩ | ⟨rfl, -⟩ | ⟨rfl, h, -⟩ | ⟨rfl, h, -⟩ | ⟨rfl, h, h2⟩
  · exact ⟨Or.inr (Or.inr (Or.inl ⟨Or.inl rfl, h⟩)), by decide⟩
  · exact ⟨Or.inr (Or.inl rfl), by decide⟩
  · exact ⟨Or.inr (Or.inr (Or.inl ⟨Or.inr (Or.inl rfl), h⟩)), by decide⟩
  · exact ⟨Or.inr (Or.inr (Or.inl ⟨Or.inr (Or.inr rfl), h⟩)), by decide⟩
  · exact ⟨Or.inr (Or.inr (Or.inr ⟨rfl, h, h2⟩)), by decide⟩
theorem pu_inRange (S : pw_S) {k a b : Int32} (h : px_ar k a b) : m_X10_inRange S k a b = some (S, 1) := by
  have b1 : ∀ (β : Type) (o : pw_R β), pw_c (decide ((1 : Int32) = 0) || decide ((1 : Int32) = 1)) o = o := fun β o => py_ct (show (decide ((1 : Int32) = 0) || decide ((1 : Int32) = 1)) = true from rfl) o
  unfold m_X10_inRange
  rcases h with ⟨rfl, h, rfl⟩ | ⟨rfl, h, rfl⟩ | ⟨rfl, h, h2⟩ | ⟨rfl, h, h2⟩ | ⟨rfl, h, t, t1, rfl⟩
  · rw [if_pos (show (0 : Int32).toInt = 0 from rfl), if_pos rfl]
  · rw [if_neg (show ¬ (1 : Int32).toInt = 0 by decide), if_pos (show (1 : Int32).toInt = (0 + 1) from rfl), py_btw, if_pos h, py_b, if_neg py_10, if_pos rfl]
  · rw [if_neg (show ¬ (2 : Int32).toInt = 0 by decide), if_neg (show ¬ (2 : Int32).toInt = (0 + 1) by decide), if_pos (show (2 : Int32).toInt = ((0 + 1) + 1) from rfl), py_btw, if_pos h2, py_b, b1]
  · rw [if_neg (show ¬ (3 : Int32).toInt = 0 by decide), if_neg (show ¬ (3 : Int32).toInt = (0 + 1) by decide), if_neg (show ¬ (3 : Int32).toInt = ((0 + 1) + 1) by decide), if_pos (show (3 : Int32).toInt = (((0 + 1) + 1) + 1) from rfl), py_btw, if_pos h2, py_b, b1]
  · rw [if_neg (show ¬ (4 : Int32).toInt = 0 by decide), if_neg (show ¬ (4 : Int32).toInt = (0 + 1) by decide), if_neg (show ¬ (4 : Int32).toInt = ((0 + 1) + 1) by decide), if_neg (show ¬ (4 : Int32).toInt = (((0 + 1) + 1) + 1) by decide), if_pos (show (4 : Int32).toInt = ((((0 + 1) + 1) + 1) + 1) from rfl), py_slot S t (by omega), if_pos t1, py_b, b1]
theorem pu_xadd {S : pw_S} {t : Nat} {k a b : Int32} (ht : t < 8) (hw : px_w S) (h : px_ar k a b) : ∃ S', m_X10_add S 0 k (Int32.ofNat t) a b = some (S', ()) ∧ px_w S' ∧ S' 19 0 = upd (S 19 0) t k ∧ py_fr py_KD S S' := by
  unfold m_X10_add
  rw [py_putI _ _ _ _ _ (show t < 8 from ht), py_b, py_putI _ _ _ _ _ (show t < 8 from ht), py_b, py_putI _ _ _ _ _ (show t < 8 from ht), py_b]
  generalize hS1 : pw_up S 19 0 (upd (S 19 0) t k) = S1
  generalize hS2 : pw_up S1 20 0 (upd (S1 20 0) t a) = S2
  generalize hS3 : pw_up S2 21 0 (upd (S2 21 0) t b) = S3
  have k1 : ∀ a i, Nat.beq a 19 = false → S1 a i = S a i := fun a i hh => by
    rw [← hS1]
    exact py_up_k _ _ hh
  have k2 : ∀ a i, Nat.beq a 20 = false → S2 a i = S1 a i := fun a i hh => by
    rw [← hS2]
    exact py_up_k _ _ hh
  have k3 : ∀ a i, Nat.beq a 21 = false → S3 a i = S2 a i := fun a i hh => by
    rw [← hS3]
    exact py_up_k _ _ hh
  have e19 : S3 19 0 = upd (S 19 0) t k := by rw [k3 19 0 rfl, k2 19 0 rfl, ← hS1, py_up_s]
  have e20 : S3 20 0 = upd (S 20 0) t a := by rw [k3 20 0 rfl, ← hS2, py_up_s, k1 20 0 rfl]
  have e21 : S3 21 0 = upd (S 21 0) t b := by rw [← hS3, py_up_s, k2 21 0 rfl, k1 21 0 rfl]
  refine ⟨S3, rfl, fun s hs => ?_, e19, fun a i hh => ?_⟩
  · rw [e19, e20, e21]
    by_cases e : s = t
    · rw [e, py_u_s, py_u_s, py_u_s]
      exact h.d1.1
    · rw [py_u_n _ _ e, py_u_n _ _ e, py_u_n _ _ e]
      exact hw s hs
  · simp only [py_KD, Bool.or_eq_false_iff] at hh
    rw [k3 a i hh.2.2, k2 a i hh.2.1, k1 a i hh.1]
theorem pm_change {S : pw_S} {t : Nat} {k a b : Int32} (ht : t < 8) (hw : px_w S) (h : px_ar k a b) : ∃ S', m_X11_change S 0 k (Int32.ofNat t) a b = some (S', .inl (Int32.ofNat (kn (fun j => decide (S' 19 0 j ≠ -1)) 8))) ∧ px_w S' ∧ S' 19 0 = upd (S 19 0) t k ∧ py_fr py_KD S S' := by
  obtain ⟨S', a1, a2, a3, a4⟩ := pu_xadd ht hw h
  have hr := pu_inRange S h
  refine ⟨S', ?_, a2, a3, a4⟩
  unfold m_X11_change
  rw [py_slot S t (by omega), py_b, if_pos ht, if_neg py_10]
  have sl : ∀ x : Int32, (∃ t, t < 8 ∧ x = Int32.ofNat t) → m_X11_isSlot S x = some (S, 1) := fun x hx => by
    obtain ⟨q, q1, q2⟩ := hx
    rw [q2, py_slot S q (by omega), if_pos q1]
  rcases h with ⟨rfl, h, h2⟩ | ⟨rfl, h, h2⟩ | ⟨rfl, h, h2⟩ | ⟨rfl, h, h2⟩ | ⟨rfl, h, h2⟩
  · rw [if_neg (show ¬ (0 : Int32) = 1 by decide), sl a h, py_b, if_neg py_10, if_neg (show ¬ (0 : Int32) = 4 by decide), py_l, if_neg py_10, hr, py_b, if_neg py_10, a1, py_b, pu_size, py_b]
  · rw [if_pos rfl, if_neg (show ¬ (1 : Int32) = 4 by decide), py_l, if_neg py_10, hr, py_b, if_neg py_10, a1, py_b, pu_size, py_b]
  · rw [if_neg (show ¬ (2 : Int32) = 1 by decide), sl a h, py_b, if_neg py_10, if_neg (show ¬ (2 : Int32) = 4 by decide), py_l, if_neg py_10, hr, py_b, if_neg py_10, a1, py_b, pu_size, py_b]
  · rw [if_neg (show ¬ (3 : Int32) = 1 by decide), sl a h, py_b, if_neg py_10, if_neg (show ¬ (3 : Int32) = 4 by decide), py_l, if_neg py_10, hr, py_b, if_neg py_10, a1, py_b, pu_size, py_b]
  · rw [if_neg (show ¬ (4 : Int32) = 1 by decide), sl a h, py_b, if_neg py_10, if_pos rfl, sl b h2, py_b, if_neg py_10, py_l, if_neg py_10, hr, py_b, if_neg py_10, a1, py_b, pu_size, py_b]
/-- cells that upgrades change -/
def py_KG (a _i : Nat) : Bool := (Nat.ble 19 a && Nat.ble a 27) || (Nat.beq a 57 || (Nat.beq a 35 || (Nat.beq a 36 || (Nat.beq a 39 || (Nat.beq a 61 || (Nat.beq a 100 || Nat.beq a 101))))))
theorem py_KG_B {u : Nat} : ∀ a i, py_KB u a i = true → py_KG a i = true := fun a i h => by
  unfold py_KB at h
  obtain ⟨h1, -⟩ := Bool.and_eq_true_iff.mp h
  simp only [Bool.or_eq_true_iff] at h1
  rcases h1 with h1 | h1 | h1 | h1 | h1 | h1 <;> rw [Nat.eq_of_beq_eq_true h1] <;> rfl
theorem py_KG_D : ∀ a i, py_KD a i = true → py_KG a i = true := fun a i h => by
  simp only [py_KD, Bool.or_eq_true_iff] at h
  rcases h with h1 | h1 | h1 <;> rw [Nat.eq_of_beq_eq_true h1] <;> rfl
theorem py_KG_1 {b u : Nat} (hb : py_KG b u = true) : ∀ a i, py_K1 b u a i = true → py_KG a i = true := fun a i h => by
  unfold py_K1 at h
  obtain ⟨h1, h2⟩ := Bool.and_eq_true_iff.mp h
  rw [Nat.eq_of_beq_eq_true h1, Nat.eq_of_beq_eq_true h2]
  exact hb
theorem px_U.cong {S S' : pw_S} {nu : Nat} {Ls : Nat → Nat → List uP} (h : px_U S nu Ls) (h61 : S' 61 0 13 = S 61 0 13) (hk : ∀ u, u < nu → S' 22 u = S 22 u ∧ S' 23 u = S 23 u ∧ S' 24 u = S 24 u ∧ S' 57 u = S 57 u) : px_U S' nu Ls := by
  refine ⟨by rw [h61]; exact h.1, h.2.1, fun u hu => ?_⟩
  obtain ⟨a, b, c, d⟩ := hk u hu
  exact (h.2.2 u hu).cong a b c d
theorem px_U.new {S S' : pw_S} {nu : Nat} {Ls : Nat → Nat → List uP} {L : Nat → List uP} (h : px_U S nu Ls) (h8 : nu < 8) (h61 : S' 61 0 13 = Int32.ofNat (nu + 1)) (hL : px_u S' nu L) (hk : ∀ u, u < nu → S' 22 u = S 22 u ∧ S' 23 u = S 23 u ∧ S' 24 u = S 24 u ∧ S' 57 u = S 57 u) : ∃ Ls', px_U S' (nu + 1) Ls' ∧ Ls' nu = L ∧ ∀ u, u < nu → Ls' u = Ls u := by
  refine ⟨fun u => if u = nu then L else Ls u, ⟨h61, h8, fun u hu => ?_⟩, if_pos rfl, fun u hu => if_neg (by omega)⟩
  by_cases e : u = nu
  · subst e
    show px_u S' u (if u = u then L else Ls u)
    rw [if_pos rfl]
    exact hL
  · show px_u S' u (if u = nu then L else Ls u)
    rw [if_neg e]
    obtain ⟨a, b, c, d⟩ := hk u (by omega)
    exact (h.2.2 u (by omega)).cong a b c d
theorem py_KB_k {S S' : pw_S} {nu : Nat} (hf : py_fr (py_KB nu) S S') : ∀ u, u < nu → S' 22 u = S 22 u ∧ S' 23 u = S 23 u ∧ S' 24 u = S 24 u ∧ S' 57 u = S 57 u := fun u hu => ⟨hf 22 u (py_KB_n (by omega)), hf 23 u (py_KB_n (by omega)), hf 24 u (py_KB_n (by omega)), hf 57 u (py_KB_n (by omega))⟩
theorem pm_upgrade {S : pw_S} {nu : Nat} {Ls : Nat → Nat → List uP} (hU : px_U S nu Ls) (h8 : nu < 8) (hw : px_w S) : ∃ S' Ls', m_X11_upgrade S 0 = some (S', .inl (Int32.ofNat nu)) ∧ px_U S' (nu + 1) Ls' ∧ Ls' nu = pw_d S ∧ (∀ u, u < nu → Ls' u = Ls u) ∧ (∀ j, j < 8 → S' 19 0 j = -1) ∧ (∀ j, j ≠ 13 → S' 61 0 j = S 61 0 j) ∧ S' 35 = S 35 ∧ S' 36 = S 36 ∧ py_fr py_KG S S' := by
  obtain ⟨S1, a1, a2, a3⟩ := pu_buildFrom (u := nu) hw
  generalize hS2 : pw_up S1 19 0 (fun j => if j < pw_len 19 then -1 else S1 19 0 j) = S2
  generalize hS3 : pw_up S2 61 0 (upd (S2 61 0) 13 (Int32.ofNat (nu + 1))) = S3
  have k2 : ∀ a i, Nat.beq a 19 = false → S2 a i = S1 a i := fun a i hh => by
    rw [← hS2]
    exact py_up_k _ _ hh
  have k3 : ∀ a i, Nat.beq a 61 = false → S3 a i = S2 a i := fun a i hh => by
    rw [← hS3]
    exact py_up_k _ _ hh
  have e61 : S2 61 0 13 = Int32.ofNat nu := by rw [k2 61 0 rfl, a3 61 0 (by unfold py_KB; rfl), hU.1]
  have e3 : S3 61 0 13 = Int32.ofNat (nu + 1) := by rw [← hS3, py_up_s, py_u_s]
  have f1 : py_fr py_KG S S1 := a3.mono py_KG_B
  have f2 : py_fr py_KG S1 S2 := by
    rw [← hS2]
    exact py_fr_r.up rfl
  have f3 : py_fr py_KG S2 S3 := by
    rw [← hS3]
    exact py_fr_r.up rfl
  have hk : ∀ u, u < nu → S3 22 u = S 22 u ∧ S3 23 u = S 23 u ∧ S3 24 u = S 24 u ∧ S3 57 u = S 57 u := fun u hu => by
    obtain ⟨b1, b2, b3, b4⟩ := py_KB_k a3 u hu
    exact ⟨by rw [k3 22 u rfl, k2 22 u rfl, b1], by rw [k3 23 u rfl, k2 23 u rfl, b2], by rw [k3 24 u rfl, k2 24 u rfl, b3], by rw [k3 57 u rfl, k2 57 u rfl, b4]⟩
  obtain ⟨Ls', c1, c2, c3⟩ := hU.new (S' := S3) h8 e3 (a2.cong (by rw [k3 22 nu rfl, k2 22 nu rfl]) (by rw [k3 23 nu rfl, k2 23 nu rfl]) (by rw [k3 24 nu rfl, k2 24 nu rfl]) (by rw [k3 57 nu rfl, k2 57 nu rfl])) hk
  refine ⟨S3, Ls', ?_, c1, c2, c3, fun j hj => ?_, fun j hj => ?_, ?_, ?_, (f1.trans f2).trans f3⟩
  · unfold m_X11_upgrade
    rw [pm_nextUpgrade hU.1 h8, py_b, py_os, a1, py_b]
    unfold m_X10_clear
    rw [py_fill, hS2, py_b, py_b, e61, py_add1, hS3, py_l, e3, show Int32.ofNat (nu + 1) - 1 = Int32.ofNat nu from py_sub (a := nu + 1) (b := 1) (by omega)]
  · rw [k3 19 0 rfl, ← hS2, py_up_s, if_pos (show j < pw_len 19 from hj)]
  · rw [← hS3, py_up_s, py_u_n _ _ hj, k2 61 0 rfl, a3 61 0 (by unfold py_KB; rfl)]
  · funext i
    rw [k3 35 i rfl, k2 35 i rfl, a3 35 i (by unfold py_KB; rfl)]
  · funext i
    rw [k3 36 i rfl, k2 36 i rfl, a3 36 i (by unfold py_KB; rfl)]
theorem pm_parts {S : pw_S} {nu u : Nat} {Ls : Nat → Nat → List uP} (hU : px_U S nu Ls) (hu : u < nu) : m_X11_parts S 0 (Int32.ofNat u) = some (S, .inl (Int32.ofNat (ul (Ls u) 8).length)) := by
  unfold m_X11_parts
  rw [pm_upgradeOf hU.1 hU.2.1 hu, py_b, py_os, (hU.2.2 u hu).2.1]
theorem pm_compose {S : pw_S} {nu v w : Nat} {Ls : Nat → Nat → List uP} (hU : px_U S nu Ls) (h8 : nu < 8) (hv : v < nu) (hw : w < nu) : ∃ S' r, m_X11_compose S 0 (Int32.ofNat v) (Int32.ofNat w) = some (S', .inl r) ∧ (∀ j, j ≠ 13 → S' 61 0 j = S 61 0 j) ∧ (∀ a i, Nat.beq a 61 = false → py_KB nu a i = false → S' a i = S a i) ∧ ((r = -1 ∧ px_U S' nu Ls) ∨ (r = Int32.ofNat nu ∧ ∃ Ls', px_U S' (nu + 1) Ls' ∧ (∀ u, u < nu → Ls' u = Ls u) ∧ ∀ s, s < 8 → ∀ R, uv R (Ls' nu s) = uv (fun n => uv R (upf (Ls v) n)) (Ls w s))) := by
  obtain ⟨S1, L, a1, a2, a3, a4⟩ := pu_buildComposed (u := nu) (show v ≠ nu by omega) (show w ≠ nu by omega) (hU.2.2 v hv) (hU.2.2 w hw)
  have e61 : S1 61 0 = S 61 0 := a4 61 0 (by unfold py_KB; rfl)
  unfold m_X11_compose
  rw [pm_upgradeOf hU.1 hU.2.1 hv, py_b, py_os, pm_upgradeOf hU.1 hU.2.1 hw, py_b, py_os, pm_nextUpgrade hU.1 h8, py_b, py_os, a1, py_b]
  by_cases e : (ul L 8).length ≤ 60
  · generalize hS3 : pw_up S1 61 0 (upd (S1 61 0) 13 (Int32.ofNat (nu + 1))) = S3
    have k3 : ∀ a i, Nat.beq a 61 = false → S3 a i = S1 a i := fun a i hh => by
      rw [← hS3]
      exact py_up_k _ _ hh
    have e3 : S3 61 0 13 = Int32.ofNat (nu + 1) := by rw [← hS3, py_up_s, py_u_s]
    obtain ⟨Ls', c1, c2, c3⟩ := hU.new (S' := S3) h8 e3 ((a2 e).cong (k3 _ _ rfl) (k3 _ _ rfl) (k3 _ _ rfl) (k3 _ _ rfl)) (fun u hu => by
      obtain ⟨b1, b2, b3, b4⟩ := py_KB_k a4 u hu
      exact ⟨by rw [k3 22 u rfl, b1], by rw [k3 23 u rfl, b2], by rw [k3 24 u rfl, b3], by rw [k3 57 u rfl, b4]⟩)
    rw [if_pos e, if_neg py_10, e61, hU.1, py_add1, ← e61, hS3, py_l, e3, show Int32.ofNat (nu + 1) - 1 = Int32.ofNat nu from py_sub (a := nu + 1) (b := 1) (by omega)]
    refine ⟨S3, _, rfl, fun j hj => ?_, fun a i h1 h2 => ?_, Or.inr ⟨rfl, Ls', c1, c3, fun s hs R => ?_⟩⟩
    · rw [← hS3, py_up_s, py_u_n _ _ hj, e61]
    · rw [k3 a i h1, a4 a i h2]
    · rw [c2]
      exact a3 s hs R
  · rw [if_neg e, if_pos rfl]
    exact ⟨S1, _, rfl, fun j hj => by rw [e61], fun a i h1 h2 => a4 a i h2, Or.inl ⟨rfl, hU.cong (by rw [e61]) (py_KB_k a4)⟩⟩
theorem pm_reverse {S : pw_S} {nu v : Nat} {Ls : Nat → Nat → List uP} (hU : px_U S nu Ls) (h8 : nu < 8) (hv : v < nu) : ∃ S' r, m_X11_reverse S 0 (Int32.ofNat v) = some (S', .inl r) ∧ (∀ j, j ≠ 13 → S' 61 0 j = S 61 0 j) ∧ (∀ a i, Nat.beq a 61 = false → py_KB nu a i = false → S' a i = S a i) ∧ ((r = -1 ∧ px_U S' nu Ls) ∨ (r = Int32.ofNat nu ∧ ∃ Ls', px_U S' (nu + 1) Ls' ∧ (∀ u, u < nu → Ls' u = Ls u) ∧ ∀ s, s < 8 → urv (Ls v) s (Ls' nu s))) := by
  obtain ⟨S1, r, a1, a4, a2⟩ := pu_buildReversed (u := nu) (show v ≠ nu by omega) (hU.2.2 v hv)
  have e61 : S1 61 0 = S 61 0 := a4 61 0 (by unfold py_KB; rfl)
  unfold m_X11_reverse
  rw [pm_upgradeOf hU.1 hU.2.1 hv, py_b, py_os, pm_nextUpgrade hU.1 h8, py_b, py_os, a1, py_b]
  rcases a2 with rfl | ⟨rfl, L, b1, b2⟩
  · rw [if_pos rfl]
    exact ⟨S1, _, rfl, fun j hj => by rw [e61], fun a i h1 h2 => a4 a i h2, Or.inl ⟨rfl, hU.cong (by rw [e61]) (py_KB_k a4)⟩⟩
  · generalize hS3 : pw_up S1 61 0 (upd (S1 61 0) 13 (Int32.ofNat (nu + 1))) = S3
    have k3 : ∀ a i, Nat.beq a 61 = false → S3 a i = S1 a i := fun a i hh => by
      rw [← hS3]
      exact py_up_k _ _ hh
    have e3 : S3 61 0 13 = Int32.ofNat (nu + 1) := by rw [← hS3, py_up_s, py_u_s]
    obtain ⟨Ls', c1, c2, c3⟩ := hU.new (S' := S3) h8 e3 (b1.cong (k3 _ _ rfl) (k3 _ _ rfl) (k3 _ _ rfl) (k3 _ _ rfl)) (fun u hu => by
      obtain ⟨b1, b2, b3, b4⟩ := py_KB_k a4 u hu
      exact ⟨by rw [k3 22 u rfl, b1], by rw [k3 23 u rfl, b2], by rw [k3 24 u rfl, b3], by rw [k3 57 u rfl, b4]⟩)
    rw [if_neg py_10, e61, hU.1, py_add1, ← e61, hS3, py_l, e3, show Int32.ofNat (nu + 1) - 1 = Int32.ofNat nu from py_sub (a := nu + 1) (b := 1) (by omega)]
    refine ⟨S3, _, rfl, fun j hj => ?_, fun a i h1 h2 => ?_, Or.inr ⟨rfl, Ls', c1, c3, fun s hs => ?_⟩⟩
    · rw [← hS3, py_up_s, py_u_n _ _ hj, e61]
    · rw [k3 a i h1, a4 a i h2]
    · rw [c2]
      exact b2 s hs
