/-! Typing, closing, streams and columns are begun. -/
theorem py_and255 {w : Nat} (hw : w < 2147483648) : Int32.ofNat w &&& 255 = Int32.ofNat (w % 256) := by
  apply Int32.toBitVec.inj
  rw [Int32.toBitVec_and]
  apply BitVec.eq_of_toNat_eq
  rw [BitVec.toNat_and]
  show (w % 4294967296) &&& 255 = (w % 256) % 4294967296
  rw [Nat.mod_eq_of_lt (by omega), Nat.mod_eq_of_lt (by omega)]
  exact Nat.and_two_pow_sub_one_eq_mod w 8
theorem py_shr8 {w : Nat} (hw : w < 2147483648) : ((Int32.ofNat w).toUInt32 >>> ((8).toUInt32 &&& Int32.toUInt32 31)).toInt32 = Int32.ofNat (w / 256) := by
  have e : Nat.toUInt32 8 = (8 : Int32).toUInt32 := rfl
  rw [e]
  exact pk_ushrN (n := w) (by omega) 8 8 (by decide)
theorem py_shr8i {w : Nat} (hw : w < 2147483648) : ((Int32.ofNat w).toUInt32 >>> ((8 * Int32.ofNat 0).toUInt32 &&& Int32.toUInt32 31)).toInt32 = Int32.ofNat w ∧ ((Int32.ofNat w).toUInt32 >>> ((8 * Int32.ofNat 1).toUInt32 &&& Int32.toUInt32 31)).toInt32 = Int32.ofNat (w / 256) := by
  refine ⟨?_, ?_⟩
  · have h := pk_ushrN (n := w) (by omega) (8 * Int32.ofNat 0) 0 (by decide)
    rw [Nat.pow_zero, Nat.div_one] at h
    exact h
  · exact pk_ushrN (n := w) (by omega) (8 * Int32.ofNat 1) 8 (by decide)
/-- a character that may be typed -/
def pt_ch (u : Nat) : Prop := u = 10 ∨ (32 ≤ u ∧ u ≤ 126)
theorem pm_chars {S : pw_S} {u n : Nat} (hu : pt_ch u) (hn : n = 1 ∨ n = 2) : m_X11_charactersIn S (Int32.ofNat (u + if n = 2 then 2560 else 0)) = some (S, Int32.ofNat n) := by
  have hu127 : u < 127 ∧ 0 < u := by
    rcases hu with h | h <;> omega
  unfold m_X11_charactersIn
  rw [py_l, py_l]
  obtain ⟨q, hq⟩ : ∃ q, pw_F 20000 = q + 1 + 1 + 1 := ⟨19997, pw_F_eq 20000⟩
  rw [hq]
  have one : ∀ (N w c : Nat) (K : Nat → pw_R Int32), w % 256 = u → w < 2147483648 → c < 4 → m_X11_charactersIn_4 (N + 1) S (Int32.ofNat c) (Int32.ofNat w) = m_X11_charactersIn_4 N S (Int32.ofNat (c + 1)) (Int32.ofNat (w / 256)) := by
    intro N w c K h1 h2 h3
    rw [m_X11_charactersIn_4.eq_2, if_neg (show ¬ Int32.ofNat w = 0 from fun z => by
      have := (py_eq (a := w) (b := 0) (by omega) (by omega)).mp z
      omega), py_jeL (l := 4) (by omega) (by omega), if_neg (show ¬ 4 ≤ c by omega), py_and255 h2, h1, py_l]
    by_cases e : u = 10
    · rw [if_pos (show Int32.ofNat u = 10 by rw [e]; rfl), py_l, py_shr8 h2, py_l, py_add1]
    · have hb : (32 : Int32) ≤ Int32.ofNat u ∧ Int32.ofNat u ≤ 126 := by
        rcases hu with h | h
        · exact absurd h e
        · exact py_in (l := 32) (h := 126) h.1 h.2 (by omega)
      rw [if_neg (show ¬ Int32.ofNat u = 10 from fun z => e ((py_eq (a := u) (b := 10) (by omega) (by omega)).mp z)), py_btw, if_pos hb, py_b, if_neg py_10, py_l, py_shr8 h2, py_l, py_add1]
  have last : ∀ (N c : Nat), m_X11_charactersIn_4 (N + 1) S (Int32.ofNat c) (Int32.ofNat 0) = some (S, Int32.ofNat c) := by
    intro N c
    rw [m_X11_charactersIn_4.eq_2, if_pos (show Int32.ofNat 0 = 0 from rfl)]
  rcases hn with rfl | rfl
  · rw [if_neg (show ¬ (1 : Nat) = 2 by decide), Nat.add_zero]
    have h1 := one (q + 1 + 1) u 0 (fun _ => none) (Nat.mod_eq_of_lt (by omega)) (by omega) (by omega)
    refine h1.trans ?_
    rw [Nat.div_eq_of_lt (by omega)]
    exact last (q + 1) 1
  · rw [if_pos rfl]
    have h1 := one (q + 1 + 1) (u + 2560) 0 (fun _ => none) (by omega) (by omega) (by omega)
    refine h1.trans ?_
    rw [show (u + 2560) / 256 = 10 by omega]
    have h2 : m_X11_charactersIn_4 (q + 1 + 1) S (Int32.ofNat 1) (Int32.ofNat 10) = m_X11_charactersIn_4 (q + 1) S (Int32.ofNat 2) (Int32.ofNat 0) := by
      rw [m_X11_charactersIn_4.eq_2, if_neg (show ¬ Int32.ofNat 10 = 0 by decide), if_neg (show ¬ (4 : Int32) ≤ Int32.ofNat 1 by decide), py_and255 (by omega), py_l, if_pos (show Int32.ofNat (10 % 256) = 10 by decide), py_l, py_shr8 (by omega), py_l]
      rfl
    refine h2.trans ?_
    exact last q 2
/-- typing -/
theorem pm_type {S : pw_S} {f len op u n : Nat} (hf : f < 2) (hF : px_f S f len op) (hu : pt_ch u) (hn : n = 1 ∨ n = 2) :
    ∃ S' r, m_X11_type S 0 (Int32.ofNat f) (Int32.ofNat (u + if n = 2 then 2560 else 0)) = some (S', r) ∧ ((op = 1 ∧ len + n ≤ 300 ∧ r = .inl (Int32.ofNat (len + n)) ∧ px_f S' f (len + n) op ∧ S' 11 f len = Int32.ofNat u ∧ ∀ a i, (a ≠ 11 ∧ a ≠ 53) ∨ i ≠ f → S' a i = S a i) ∨ (¬ (op = 1 ∧ len + n ≤ 300) ∧ r = .inr 2 ∧ S' = S)) := by
  have hu127 : u < 127 ∧ 0 < u := by
    rcases hu with h | h <;> omega
  have hnz : ¬ Int32.ofNat n = 0 := fun z => by
    have := (py_eq (a := n) (b := 0) (by omega) (by omega)).mp z
    omega
  unfold m_X11_type
  rw [pm_file hf, py_b, py_os, pm_chars hu hn, py_b, py_l, if_neg hnz, pm_takes hF (by omega), py_b]
  by_cases e : op = 1 ∧ len + n ≤ 300
  · rw [if_pos e, if_neg py_10, py_l]
    obtain ⟨q, hq⟩ : ∃ q, pw_F 20000 = q + 1 + 1 + 1 := ⟨19997, pw_F_eq 20000⟩
    rw [hq]
    have hW : u + (if n = 2 then 2560 else 0) < 2147483648 := by
      by_cases e2 : n = 2
      · rw [if_pos e2]
        omega
      · rw [if_neg e2]
        omega
    obtain ⟨s0, s1⟩ := py_shr8i hW
    have hmod : (u + if n = 2 then 2560 else 0) % 256 = u := by
      by_cases e2 : n = 2
      · rw [if_pos e2]
        omega
      · rw [if_neg e2]
        omega
    obtain ⟨S1, a1, a2, a3, a4, a5⟩ := pm_append hF (show len < 300 by omega) (show u < 65536 by omega)
    rcases hn with rfl | rfl
    · refine ⟨S1, .inl (Int32.ofNat (len + 1)), ?_, Or.inl ⟨e.1, e.2, rfl, a2, a4, a5⟩⟩
      rw [m_X11_type_63.eq_2, if_neg (show ¬ Int32.ofNat 1 ≤ 0 by decide), show (0 : Int32) = Int32.ofNat 0 from rfl, s0, py_and255 hW, hmod, a1, py_b, py_l, py_add1, m_X11_type_63.eq_2, if_pos (show Int32.ofNat 1 ≤ Int32.ofNat (0 + 1) by decide), a2.1]
    · obtain ⟨S2, b1, b2, b3, b4, b5⟩ := pm_append a2 (show len + 1 < 300 by omega) (show 10 < 65536 by omega)
      refine ⟨S2, .inl (Int32.ofNat (len + 2)), ?_, Or.inl ⟨e.1, e.2, rfl, b2, by rw [b3 len (by omega), a4], fun a i z => (b5 a i z).trans (a5 a i z)⟩⟩
      rw [m_X11_type_63.eq_2, if_neg (show ¬ Int32.ofNat 2 ≤ 0 by decide), show (0 : Int32) = Int32.ofNat 0 from rfl, s0, py_and255 hW, hmod, a1, py_b, py_l, py_add1, m_X11_type_63.eq_2, if_neg (show ¬ Int32.ofNat 2 ≤ Int32.ofNat (0 + 1) by decide), show Int32.ofNat (0 + 1) = Int32.ofNat 1 from rfl, s1, if_pos rfl, py_and255 (by omega), show (u + 2560) / 256 % 256 = 10 by omega, b1, py_b, py_l, py_add1, m_X11_type_63.eq_2, if_pos (show Int32.ofNat 2 ≤ Int32.ofNat (1 + 1) by decide), b2.1]
  · rw [if_neg e, if_pos rfl]
    exact ⟨S, _, rfl, Or.inr ⟨e, rfl, rfl⟩⟩
/-- closing -/
theorem pm_close {S : pw_S} {f len op : Nat} (hf : f < 2) (hF : px_f S f len op) : ∃ S', m_X11_close S 0 (Int32.ofNat f) = some (S', .inl (Int32.ofNat op)) ∧ px_f S' f len 0 ∧ ∀ a i, a ≠ 53 ∨ i ≠ f → S' a i = S a i := by
  obtain ⟨h1, h2, h3, h4, h5⟩ := hF
  have hb : (decide (Int32.ofNat op = 0) || decide (Int32.ofNat op = 1)) = true := by
    rcases (by omega : op = 0 ∨ op = 1) with rfl | rfl <;> rfl
  unfold m_X11_close
  rw [pm_file hf, py_b, py_os, h3, py_l, py_l, py_ct hb]
  refine ⟨_, rfl, ⟨?_, h2, ?_, by omega, fun k hk => ?_⟩, fun a i z => pw_up_n _ _ (by
    rintro ⟨rfl, rfl⟩
    rcases z with z | z
    · exact z rfl
    · exact z rfl)⟩
  · rw [py_up_s, py_u_n _ _ (show (1 : Nat) ≠ 2 by decide), h1]
  · rw [py_up_s, py_u_s]
    rfl
  · rw [py_up_k _ _ rfl]
    exact h5 k hk
/-- a stream is begun -/
theorem pm_stream {S : pw_S} {f d dc sd p rc db sk : Nat} (hf : f < 2) (hdc : S 61 0 2 = Int32.ofNat dc) (hd : d < dc) (hc : dc ≤ 6) (hT : px_t S f sd p rc db sk) : ∃ S', m_X11_stream S 0 (Int32.ofNat f) (Int32.ofNat d) = some (S', .inl (Int32.ofNat p)) ∧ px_t S' f (d + 1) 0 0 0 0 ∧ ∀ a i, (a ≠ 54 ∧ a ≠ 14 ∧ a ≠ 15) ∨ i ≠ f → S' a i = S a i := by
  unfold m_X11_stream m_X6_restart
  rw [pm_table hf, py_b, py_os, pm_desc hdc hd hc, py_b, py_os, hT.2.1, py_l, py_l, py_l, py_l, py_l, py_l, py_fill, py_b, py_fill, py_b, py_b]
  simp only [py_up_u, py_up_s]
  refine ⟨_, rfl, ⟨?_, ?_, ?_, ?_, ?_, Nat.le_refl _, fun r hr => absurd hr (Nat.not_lt_zero r), fun s hs b hb => ⟨?_, ?_, fun r hr => absurd hr (Nat.not_lt_zero r)⟩⟩, fun a i z => ?_⟩
  · rw [py_up_k _ _ rfl, py_up_k _ _ rfl, py_up_s]
    rfl
  · rw [py_up_k _ _ rfl, py_up_k _ _ rfl, py_up_s]
    rfl
  · rw [py_up_k _ _ rfl, py_up_k _ _ rfl, py_up_s]
    rfl
  · rw [py_up_k _ _ rfl, py_up_k _ _ rfl, py_up_s]
    rfl
  · rw [py_up_k _ _ rfl, py_up_k _ _ rfl, py_up_s]
    rfl
  · rw [py_up_k _ _ rfl, py_up_s, if_pos (show s * 32 + b < pw_len 14 by show s * 32 + b < 256; omega)]
    rfl
  · rw [py_up_s, if_pos (show s * 32 + b < pw_len 15 by show s * 32 + b < 256; omega)]
    rfl
  · have n : ∀ c : Nat, (c = 54 ∨ c = 14 ∨ c = 15) → ¬ (a = c ∧ i = f) := fun c hc h => by
      rcases z with z | z
      · omega
      · exact z h.2
    rw [pw_up_n _ _ (n 15 (by omega)), pw_up_n _ _ (n 14 (by omega)), pw_up_n _ _ (n 54 (by omega))]
/-- a column is begun -/
theorem pm_column {S : pw_S} {nk f kd s w : Nat} (hf : f < 2) (hn : S 61 0 10 = Int32.ofNat nk) (h6 : nk < 6) (hk : kd ≤ 3) (hs : s < 8) (hw1 : 1 ≤ w) (hw5 : w ≤ 5) : ∃ S', m_X11_column S 0 (Int32.ofNat f) (Int32.ofNat kd) (Int32.ofNat s) (Int32.ofNat w) = some (S', .inl (Int32.ofNat nk)) ∧ px_k S' nk f kd s w ∧ S' 61 0 = upd (S 61 0) 10 (Int32.ofNat (nk + 1)) ∧ (∀ i, i ≠ nk → S' 55 i = S 55 i) ∧ ∀ a i, Nat.beq a 55 = false → Nat.beq a 61 = false → S' a i = S a i := by
  unfold m_X11_column m_X0_become
  rw [pm_table hf, py_b, py_os, py_slot S s (by omega), py_b, if_pos hs, if_neg py_10, py_jn (by omega), py_jeR (l := 3) (by omega) (by omega), if_pos hk, py_jlR (l := 1) (by omega) (by omega), if_neg (show ¬ w < 1 by omega), py_jeR (l := 5) (by omega) (by omega), if_pos hw5, hn, py_jlR (l := 6) (by omega) (by omega), if_pos h6, py_ct (py_inb (by omega) (by omega)), pk_dn h6 (by omega), py_l, py_l, py_l, py_l, py_b]
  simp only [py_up_u, py_up_s]
  generalize hS1 : pw_up S 55 nk (upd (upd (upd (upd (S 55 nk) 2 (Int32.ofNat f)) 3 (Int32.ofNat kd)) 4 (Int32.ofNat s)) 5 (Int32.ofNat w)) = S1
  have k1 : ∀ a i, Nat.beq a 55 = false → S1 a i = S a i := fun a i hh => by
    rw [← hS1]
    exact py_up_k _ _ hh
  rw [k1 61 0 rfl, hn, py_add1, py_l, py_up_s, py_u_s, show Int32.ofNat (nk + 1) - 1 = Int32.ofNat nk from py_sub (a := nk + 1) (b := 1) (by omega)]
  refine ⟨_, rfl, ⟨?_, hf, ?_, hk, ?_, hs, ?_, hw1, hw5⟩, by rw [py_up_s], fun i hi => ?_, fun a i h1 h2 => ?_⟩
  · rw [py_up_k _ _ rfl, ← hS1, py_up_s]
    rfl
  · rw [py_up_k _ _ rfl, ← hS1, py_up_s]
    rfl
  · rw [py_up_k _ _ rfl, ← hS1, py_up_s]
    rfl
  · rw [py_up_k _ _ rfl, ← hS1, py_up_s]
    rfl
  · rw [py_up_k _ _ rfl, ← hS1, pw_up_n _ _ (fun z => hi z.2)]
  · rw [py_up_k _ _ h2, k1 a i h1]
