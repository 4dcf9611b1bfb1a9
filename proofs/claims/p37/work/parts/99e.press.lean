/-! The loop of a press, whole. -/
theorem py_shl3 : ∀ a : Fin 8, Int32.ofNat a.val <<< (1 &&& 31) = Int32.ofNat (a.val * 2 ^ 1) ∧ Int32.ofNat a.val <<< (3 &&& 31) = Int32.ofNat (a.val * 2 ^ 3) ∧ Int32.ofNat a.val <<< (6 &&& 31) = Int32.ofNat (a.val * 2 ^ 6) := by decide +kernel
/-- a column is begun in a press -/
theorem pj_column (Ls : Nat) (xs : Nat → Int32) (k34 : pw_S → Int32 → Int32 → pw_R Int32) (k749 : pw_S → pw_R Int32) {S : pw_S} {m f Y : Nat} (v1 v7 : Int32) (hf : f < 2) (h : px_I S m) (hY : Y < 1073741824) :
    ∃ S', (if 6 ≤ (S 36 0 1) then (m_L_press_j717 Ls xs k34 k749 S v1 v7 1) else (pw_c (np_inb (S 36 0 1) 6) <| pw_l (pw_up S 37 0 (upd (S 37 0) ((S 36 0 1) : Int32).toNatClampNeg (((Int32.ofNat f ||| ((Int32.ofNat Y - Int32.ofNat Y / 4 * 4) <<< (1 &&& 31))) ||| (((Int32.ofNat Y / 4) - (Int32.ofNat Y / 4) / 6 * 6) <<< (3 &&& 31))) ||| ((1 + ((Int32.ofNat Y / 32) - (Int32.ofNat Y / 32) / 5 * 5)) <<< (6 &&& 31))))) fun S503 => pw_l (pw_up S503 36 0 (upd (S503 36 0) 1 ((S503 36 0 1) + 1))) fun S506 => pw_b (m_X11_column S506 0 (Int32.ofNat f) (Int32.ofNat Y - Int32.ofNat Y / 4 * 4) ((Int32.ofNat Y / 4) - (Int32.ofNat Y / 4) / 6 * 6) (1 + ((Int32.ofNat Y / 32) - (Int32.ofNat Y / 32) / 5 * 5))) fun S509 r512 => pw_e r512 (fun r514 => (if r514 = ((S509 36 0 1) - 1) then (pw_l (1 : Int32) fun z516 => m_L_press_j717 Ls xs k34 k749 S509 v1 v7 z516) else (pw_l (0 : Int32) fun z533 => m_L_press_j717 Ls xs k34 k749 S509 v1 v7 z533))) (fun _ => none))) = m_L_press_j717 Ls xs k34 k749 S' v1 v7 1 ∧ px_I S' m := by
  obtain ⟨dc, nk, nu, n15, n16, n17, hJ, hn⟩ := h
  have hJ0 := hJ
  obtain ⟨⟨Is, nc, a1⟩, a2, a3, ⟨Ls4, a4⟩, a5⟩ := hJ
  obtain ⟨b1, b2, b3, b4⟩ := a3
  have m4 : Int32.ofNat Y - Int32.ofNat Y / 4 * 4 = Int32.ofNat (Y % 4) := py_mod (b := 4) (by omega) (by omega)
  have d4 : Int32.ofNat Y / 4 = Int32.ofNat (Y / 4) := py_div (b := 4) (by omega) (by omega)
  have m6 : Int32.ofNat (Y / 4) - Int32.ofNat (Y / 4) / 6 * 6 = Int32.ofNat (Y / 4 % 6) := py_mod (b := 6) (by omega) (by omega)
  have d32 : Int32.ofNat Y / 32 = Int32.ofNat (Y / 32) := py_div (b := 32) (by omega) (by omega)
  have m5 : Int32.ofNat (Y / 32) - Int32.ofNat (Y / 32) / 5 * 5 = Int32.ofNat (Y / 32 % 5) := py_mod (b := 5) (by omega) (by omega)
  have p1 : (1 : Int32) + Int32.ofNat (Y / 32 % 5) = Int32.ofNat (1 + Y / 32 % 5) := py_add 1 _
  have s1 : Int32.ofNat (Y % 4) <<< (1 &&& 31) = Int32.ofNat (Y % 4 * 2 ^ 1) := (py_shl3 ⟨Y % 4, by omega⟩).1
  have s3 : Int32.ofNat (Y / 4 % 6) <<< (3 &&& 31) = Int32.ofNat (Y / 4 % 6 * 2 ^ 3) := (py_shl3 ⟨Y / 4 % 6, by omega⟩).2.1
  have s6 : Int32.ofNat (1 + Y / 32 % 5) <<< (6 &&& 31) = Int32.ofNat ((1 + Y / 32 % 5) * 2 ^ 6) := (py_shl3 ⟨1 + Y / 32 % 5, by omega⟩).2.2
  rw [b2, py_jeL (l := 6) (by omega) (by omega)]
  by_cases e : 6 ≤ nk
  · rw [if_pos e]
    exact ⟨S, rfl, dc, nk, nu, n15, n16, n17, hJ0, hn⟩
  · rw [if_neg e, py_ct (py_inb (by omega) (by omega)), py_cl (by omega), m4, d4, m6, d32, m5, p1, s1, s3, s6, py_or (by omega) (by omega), py_or (by omega) (by omega), py_or (by omega) (by omega), py_l]
    generalize hT : pw_up S 37 0 (upd (S 37 0) nk (Int32.ofNat (f + Y % 4 * 2 ^ 1 + Y / 4 % 6 * 2 ^ 3 + (1 + Y / 32 % 5) * 2 ^ 6))) = T
    have kT : ∀ a i, Nat.beq a 37 = false → T a i = S a i := fun a i hh => by
      rw [← hT]
      exact py_up_k _ _ hh
    have e37 : T 37 0 = upd (S 37 0) nk (Int32.ofNat (f + Y % 4 * 2 ^ 1 + Y / 4 % 6 * 2 ^ 3 + (1 + Y / 32 % 5) * 2 ^ 6)) := by rw [← hT, py_up_s]
    rw [kT 36 0 rfl, b2, py_add1]
    generalize hU : pw_up T 36 0 (upd (S 36 0) 1 (Int32.ofNat (nk + 1))) = U
    have kU : ∀ a i, Nat.beq a 36 = false → U a i = T a i := fun a i hh => by
      rw [← hU]
      exact py_up_k _ _ hh
    have e36 : U 36 0 = upd (S 36 0) 1 (Int32.ofNat (nk + 1)) := by rw [← hU, py_up_s]
    obtain ⟨S', c1, c2, c3, c4, c5⟩ := pm_column (S := U) hf (by rw [kU 61 0 rfl, kT 61 0 rfl]; exact b1) (show nk < 6 by omega) (show Y % 4 ≤ 3 by omega) (show Y / 4 % 6 < 8 by omega) (show 1 ≤ 1 + Y / 32 % 5 by omega) (show 1 + Y / 32 % 5 ≤ 5 by omega)
    have k36 : S' 36 0 = upd (S 36 0) 1 (Int32.ofNat (nk + 1)) := by rw [c5 36 0 rfl rfl, e36]
    have eo : ∀ j, j ≠ 1 → S' 36 0 j = S 36 0 j := fun j hj => by rw [k36, py_u_n _ _ hj]
    have k61 : ∀ j, j ≠ 10 → S' 61 0 j = S 61 0 j := fun j hj => by rw [c3, py_u_n _ _ hj, kU 61 0 rfl, kT 61 0 rfl]
    have kk : ∀ a i, Nat.beq a 55 = false → Nat.beq a 61 = false → Nat.beq a 36 = false → Nat.beq a 37 = false → S' a i = S a i := fun a i h1 h2 h3 h4 => by rw [c5 a i h1 h2, kU a i h3, kT a i h4]
    have fK : px_K S' (nk + 1) := by
      refine ⟨by rw [c3, py_u_s], by rw [k36, py_u_s], by omega, fun k hk => ?_⟩
      have q37 : S' 37 0 = upd (S 37 0) nk (Int32.ofNat (f + Y % 4 * 2 ^ 1 + Y / 4 % 6 * 2 ^ 3 + (1 + Y / 32 % 5) * 2 ^ 6)) := by rw [c5 37 0 rfl rfl, kU 37 0 rfl, e37]
      by_cases ek : k = nk
      · subst ek
        refine ⟨f, Y % 4, Y / 4 % 6, 1 + Y / 32 % 5, c2, ?_⟩
        rw [q37, py_u_s]
        congr 1
        omega
      · obtain ⟨f2, kd, s, w, g1, g2⟩ := b4 k (by omega)
        exact ⟨f2, kd, s, w, g1.cong (by rw [c4 k ek, kU 55 k rfl, kT 55 k rfl]), by rw [q37, py_u_n _ _ ek, g2]⟩
    refine ⟨S', ?_, dc, nk + 1, nu, n15, n16, n17, ⟨⟨Is, nc, a1.cong (k61 2 (by omega)) (eo 0 (by omega)) (fun a d q => ?_)⟩, fun g hg => ?_, fK, ⟨Ls4, a4.cong (k61 13 (by omega)) (eo 2 (by omega)) (kk 19 0 rfl rfl rfl rfl) (fun u => ⟨kk 22 u rfl rfl rfl rfl, kk 23 u rfl rfl rfl rfl, kk 24 u rfl rfl rfl rfl, kk 57 u rfl rfl rfl rfl⟩)⟩, a5.cong (fun j hj => eo j (by omega))⟩, hn⟩
    · rw [py_l, c1, py_b, py_el, k36, py_u_s, show Int32.ofNat (nk + 1) - 1 = Int32.ofNat nk from py_sub (a := nk + 1) (b := 1) (by omega), if_pos rfl, py_l]
    · rcases (by omega : a = 2 ∨ a = 3 ∨ a = 4 ∨ a = 5 ∨ a = 6 ∨ a = 7 ∨ a = 8 ∨ a = 9 ∨ a = 10 ∨ a = 51 ∨ a = 52) with rfl | rfl | rfl | rfl | rfl | rfl | rfl | rfl | rfl | rfl | rfl <;> exact kk _ d rfl rfl rfl rfl
    · obtain ⟨len, op, sd, p, rc, db, sk, c⟩ := a2 g hg
      exact ⟨len, op, sd, p, rc, db, sk, c.cong (kk 53 g rfl rfl rfl rfl) (kk 11 g rfl rfl rfl rfl) (kk 54 g rfl rfl rfl rfl) (kk 12 g rfl rfl rfl rfl) (kk 14 g rfl rfl rfl rfl) (kk 15 g rfl rfl rfl rfl) (kk 16 g rfl rfl rfl rfl) (fun j h1 h2 => eo _ (by omega)) (Nat.le_refl _) (Nat.le_refl _)⟩
/-- a step of a press -/
theorem pj_107 (Ls : Nat) (xs : Nat → Int32) (k34 : pw_S → Int32 → Int32 → pw_R Int32) (k749 : pw_S → pw_R Int32) {S : pw_S} {m k X Y w : Nat} (v1 : Int32) (h : px_I S m) (hm : m < 500) (hk : k < 500) (hX : X < 1073741824) (hY : Y < 1073741824) (hw : w < 22) :
    ∃ S', m_L_press_j107 Ls xs k34 k749 S v1 (Int32.ofNat k) (Int32.ofNat X) (Int32.ofNat Y) (Int32.ofNat w) = k34 S' v1 (Int32.ofNat (k + 1)) ∧ px_I S' (m + 1) := by
  have hf : X / 3 % 2 < 2 := Nat.mod_lt _ (by omega)
  have dx : Int32.ofNat X / 3 = Int32.ofNat (X / 3) := py_div (b := 3) (by omega) (by omega)
  have mx : Int32.ofNat (X / 3) - Int32.ofNat (X / 3) / 2 * 2 = Int32.ofNat (X / 3 % 2) := py_mod (b := 2) (by omega) (by omega)
  have pos : ∀ l : Nat, l < 100 → l ≤ w → Int32.ofNat l ≤ Int32.ofNat w := fun l h1 h2 => (py_le (by omega) (by omega)).mpr h2
  have npos : ∀ l : Nat, l < 100 → ¬ l ≤ w → ¬ Int32.ofNat l ≤ Int32.ofNat w := fun l h1 h2 z => h2 ((py_le (by omega) (by omega)).mp z)
  have neq : ∀ l : Nat, l < 100 → w ≠ l → ¬ Int32.ofNat w = Int32.ofNat l := fun l h1 h2 z => h2 ((py_eq (by omega) (by omega)).mp z)
  -- what comes behind
  have next : ∀ S1, px_I S1 (m + 1) → ∃ S', m_L_press_j717 Ls xs k34 k749 S1 v1 (Int32.ofNat k) 1 = k34 S' v1 (Int32.ofNat (k + 1)) ∧ px_I S' (m + 1) := fun S1 h1 => pj_717 Ls xs k34 k749 h1 (by omega) v1
  have via : ∀ {e : pw_R Int32}, (∃ S', e = m_L_press_j717 Ls xs k34 k749 S' v1 (Int32.ofNat k) 1 ∧ px_I S' m) → ∃ S', e = k34 S' v1 (Int32.ofNat (k + 1)) ∧ px_I S' (m + 1) := fun {e} ⟨S1, h1, h2⟩ => by
    obtain ⟨S2, h3, h4⟩ := next S1 (h2.mono (by omega))
    exact ⟨S2, h1.trans h3, h4⟩
  unfold m_L_press_j107
  rw [py_l, dx, mx, py_l, py_l]
  by_cases w2 : 2 ≤ w
  · rw [if_pos (show (2 : Int32) ≤ Int32.ofNat w from pos 2 (by omega) w2)]
    by_cases w8 : 8 ≤ w
    · rw [if_pos (show (8 : Int32) ≤ Int32.ofNat w from pos 8 (by omega) w8)]
      by_cases e8 : w = 8
      · rw [if_pos (show Int32.ofNat w = 8 by rw [e8]; rfl)]
        obtain ⟨S1, a1, a2⟩ := pj_constrains h hX hY
        rw [a1, py_b, py_l]
        exact next S1 (a2.mono (by omega))
      · rw [if_neg (show ¬ Int32.ofNat w = 8 from neq 8 (by omega) e8)]
        by_cases e9 : w = 9
        · rw [if_pos (show Int32.ofNat w = 9 by rw [e9]; rfl)]
          exact via (pj_stream Ls xs k34 k749 v1 (Int32.ofNat k) hf h hY)
        · rw [if_neg (show ¬ Int32.ofNat w = 9 from neq 9 (by omega) e9)]
          by_cases w17 : 17 ≤ w
          · rw [if_pos (show (17 : Int32) ≤ Int32.ofNat w from pos 17 (by omega) w17)]
            by_cases e17 : w = 17
            · rw [if_pos (show Int32.ofNat w = 17 by rw [e17]; rfl)]
              have m3 : Int32.ofNat Y - Int32.ofNat Y / 3 * 3 = Int32.ofNat (Y % 3) := py_mod (b := 3) (by omega) (by omega)
              have d3 : Int32.ofNat Y / 3 = Int32.ofNat (Y / 3) := py_div (b := 3) (by omega) (by omega)
              have m4 : Int32.ofNat (Y / 3) - Int32.ofNat (Y / 3) / 4 * 4 = Int32.ofNat (Y / 3 % 4) := py_mod (b := 4) (by omega) (by omega)
              have m95 : Int32.ofNat (Y / 3) - Int32.ofNat (Y / 3) / 95 * 95 = Int32.ofNat (Y / 3 % 95) := py_mod (b := 95) (by omega) (by omega)
              have p97 : (97 : Int32) + Int32.ofNat (Y / 3 % 4) = Int32.ofNat (97 + Y / 3 % 4) := py_add 97 _
              have p32 : (32 : Int32) + Int32.ofNat (Y / 3 % 95) = Int32.ofNat (32 + Y / 3 % 95) := py_add 32 _
              have ty : ∀ u : Nat, pt_ch u → ∃ S', (if ((Int32.ofNat Y / 400) - (Int32.ofNat Y / 400) / 2 * 2) = 0 then (m_L_press_j407 Ls xs k34 k749 S v1 (Int32.ofNat k) (Int32.ofNat (X / 3 % 2)) (Int32.ofNat u) 0) else (m_L_press_j407 Ls xs k34 k749 S v1 (Int32.ofNat k) (Int32.ofNat (X / 3 % 2)) (Int32.ofNat u) 2560)) = k34 S' v1 (Int32.ofNat (k + 1)) ∧ px_I S' (m + 1) := by
                intro u hu
                have t1 := pj_type (n := 1) Ls xs k34 k749 v1 (Int32.ofNat k) hf h hu (Or.inl rfl)
                have t2 := pj_type (n := 2) Ls xs k34 k749 v1 (Int32.ofNat k) hf h hu (Or.inr rfl)
                rw [if_neg (show ¬ (1 : Nat) = 2 by decide)] at t1
                rw [if_pos (show (2 : Nat) = 2 from rfl)] at t2
                by_cases e : ((Int32.ofNat Y / 400) - (Int32.ofNat Y / 400) / 2 * 2) = 0
                · rw [if_pos e]
                  exact via t1
                · rw [if_neg e]
                  exact via t2
              rw [m3, d3, m4, m95, p97, p32]
              by_cases y0 : Y % 3 = 0
              · rw [if_pos (show Int32.ofNat (Y % 3) = 0 by rw [y0]; rfl), py_l]
                exact ty 10 (Or.inl rfl)
              · rw [if_neg (show ¬ Int32.ofNat (Y % 3) = 0 from fun z => y0 ((py_eq (a := Y % 3) (b := 0) (by omega) (by omega)).mp z))]
                by_cases y1 : Y % 3 = 1
                · rw [if_pos (show Int32.ofNat (Y % 3) = 1 by rw [y1]; rfl), py_l]
                  exact ty (97 + Y / 3 % 4) (Or.inr ⟨by omega, by omega⟩)
                · rw [if_neg (show ¬ Int32.ofNat (Y % 3) = 1 from fun z => y1 ((py_eq (a := Y % 3) (b := 1) (by omega) (by omega)).mp z)), py_l]
                  exact ty (32 + Y / 3 % 95) (Or.inr ⟨by omega, by omega⟩)
            · rw [if_neg (show ¬ Int32.ofNat w = 17 from neq 17 (by omega) e17)]
              by_cases e18 : w = 18
              · rw [if_pos (show Int32.ofNat w = 18 by rw [e18]; rfl)]
                by_cases y6 : Int32.ofNat Y - Int32.ofNat Y / 6 * 6 = 0
                · rw [if_pos y6]
                  exact via (pj_close Ls xs k34 k749 v1 (Int32.ofNat k) hf h)
                · rw [if_neg y6]
                  exact next S (h.mono (by omega))
              · rw [if_neg (show ¬ Int32.ofNat w = 18 from neq 18 (by omega) e18)]
                by_cases e19 : w = 19
                · rw [if_pos (show Int32.ofNat w = 19 by rw [e19]; rfl)]
                  exact via (pj_column Ls xs k34 k749 v1 (Int32.ofNat k) hf h hY)
                · rw [if_neg (show ¬ Int32.ofNat w = 19 from neq 19 (by omega) e19)]
                  by_cases e20 : w = 20
                  · rw [if_pos (show Int32.ofNat w = 20 by rw [e20]; rfl)]
                    obtain ⟨S1, a1, a2⟩ := pj_upgrades h hX hY
                    rw [a1, py_b, py_l]
                    exact next S1 (a2.mono (by omega))
                  · rw [if_neg (show ¬ Int32.ofNat w = 20 from neq 20 (by omega) e20), show Int32.ofNat Y - Int32.ofNat Y / 6 * 6 = Int32.ofNat (Y % 6) from py_mod (b := 6) (by omega) (by omega), pj_areKeys h (show Y % 6 < 8 by omega), py_b, py_l]
                    exact next S (h.mono (by omega))
          · rw [if_neg (show ¬ (17 : Int32) ≤ Int32.ofNat w from npos 17 (by omega) w17)]
            obtain ⟨n17, a1, a2, a3, a4⟩ := pj_steps hf h (by omega)
            rw [a1, py_add1, py_l, py_up_s, py_u_s, py_jlL (l := 10) (by omega) (by omega)]
            by_cases e : 10 < n17 + 1
            · rw [if_pos e, py_l]
              exact next _ (a3 e)
            · obtain ⟨S1, b1, b2⟩ := a4 e
              rw [if_neg e, b1, py_b, if_neg py_10, py_l]
              exact next S1 b2
    · rw [if_neg (show ¬ (8 : Int32) ≤ Int32.ofNat w from npos 8 (by omega) w8)]
      obtain ⟨S1, a1, a2⟩ := pj_samples h hX hY
      rw [a1, py_b, py_l]
      exact next S1 (a2.mono (by omega))
  · rw [if_neg (show ¬ (2 : Int32) ≤ Int32.ofNat w from npos 2 (by omega) w2)]
    obtain ⟨S1, a1, a2⟩ := pj_describes h hX hY
    rw [a1, py_b, py_l]
    exact next S1 (a2.mono (by omega))
theorem pj_34 (Ls : Nat) (xs : Nat → Int32) (k749 : pw_S → pw_R Int32) {v : Nat} (hL : Ls < 1000) (hv : v < 500) : ∀ (n N k : Nat) (S : pw_S), n < N → 54 = k + n → px_I S k → ∃ S', m_L_press_34 Ls xs k749 N S (Int32.ofNat v) (Int32.ofNat k) = k749 S' ∧ px_I S' 54 := by
  intro n
  induction n with
  | zero =>
    intro N k S hN hk h
    obtain ⟨N, rfl⟩ : ∃ q, N = q + 1 := ⟨N - 1, by omega⟩
    unfold m_L_press_34
    rw [py_jeL (l := 54) (by omega) (by omega), if_pos (show 54 ≤ k by omega)]
    exact ⟨S, rfl, h.mono (by omega)⟩
  | succ n ih =>
    intro N k S hN hk h
    obtain ⟨N, rfl⟩ : ∃ q, N = q + 1 := ⟨N - 1, by omega⟩
    have m3 : (3 : Int32) * Int32.ofNat k = Int32.ofNat (3 * k) := py_mul 3 k
    have a2 : Int32.ofNat (v + 3 * k) + 2 = Int32.ofNat (v + 3 * k + 2) := py_add _ 2
    obtain ⟨X, x1, x2⟩ := pl_draw Ls xs S (k := v + 3 * k + 1) (most := 1073741824) hL (by omega) (by omega) (by omega)
    obtain ⟨Y, y1, y2⟩ := pl_draw Ls xs S (k := v + 3 * k + 2) (most := 1073741824) hL (by omega) (by omega) (by omega)
    obtain ⟨w, w1, w2⟩ := pl_draw Ls xs S (k := v + 3 * k) (most := 22) hL (by omega) (by omega) (by omega)
    have x3 : m_L_draw Ls xs S (Int32.ofNat (v + 3 * k + 1)) 1073741824 = some (S, Int32.ofNat X) := x2
    have y3 : m_L_draw Ls xs S (Int32.ofNat (v + 3 * k + 2)) 1073741824 = some (S, Int32.ofNat Y) := y2
    have w3 : m_L_draw Ls xs S (Int32.ofNat (v + 3 * k)) 22 = some (S, Int32.ofNat w) := w2
    have fin : ∀ w : Nat, w < 22 → ∃ S', m_L_press_j107 Ls xs (fun S716 u714 u715 => m_L_press_34 Ls xs k749 N S716 u714 u715) (fun S723 => k749 S723) S (Int32.ofNat v) (Int32.ofNat k) (Int32.ofNat X) (Int32.ofNat Y) (Int32.ofNat w) = k749 S' ∧ px_I S' 54 := by
      intro w hw
      obtain ⟨S1, b1, b2⟩ := pj_107 Ls xs (fun S716 u714 u715 => m_L_press_34 Ls xs k749 N S716 u714 u715) (fun S723 => k749 S723) (Int32.ofNat v) h (show k < 500 by omega) (show k < 500 by omega) x1 y1 hw
      obtain ⟨S', c1, c2⟩ := ih N (k + 1) S1 (by omega) (by omega) b2
      exact ⟨S', b1.trans c1, c2⟩
    rw [m_L_press_34.eq_2, py_jeL (l := 54) (by omega) (by omega), if_neg (show ¬ 54 ≤ k by omega), m3, py_add, py_add1, x3, py_b, py_l, a2, y3, py_b, py_l, py_jeL (l := 4) (by omega) (by omega)]
    by_cases e4 : 4 ≤ k
    · rw [if_pos e4, py_jeL (l := 6) (by omega) (by omega)]
      by_cases e6 : 6 ≤ k
      · rw [if_pos e6, w3, py_b]
        exact fin w w1
      · rw [if_neg e6]
        exact fin 9 (by omega)
    · rw [if_neg e4]
      exact fin 0 (by omega)
/-- a press, from its loop on -/
theorem pj_press (Ls : Nat) (xs : Nat → Int32) {S : pw_S} {v : Nat} (hL : Ls < 1000) (hv : v < 500) (h : px_I S 0) : ∃ S', m_L_press_34 Ls xs (m_L_press_j749 Ls xs) (pw_F 55) S (Int32.ofNat v) (Int32.ofNat 0) = some (S', 1) := by
  obtain ⟨S1, a1, a2⟩ := pj_34 Ls xs (m_L_press_j749 Ls xs) hL hv 54 (pw_F 55) 0 S (by rw [py_F]; omega) rfl h
  obtain ⟨S2, b1, b2⟩ := pj_areColumns a2
  refine ⟨S2, a1.trans ?_⟩
  have k0 : m_L_areKeys S2 0 0 36 0 = some (S2, 1) := pj_areKeys (s := 0) b2 (by omega)
  have k1 : m_L_areKeys S2 0 1 36 0 = some (S2, 1) := pj_areKeys (s := 1) b2 (by omega)
  unfold m_L_press_j749
  rw [b1, py_b, if_neg py_10, k0, py_b, if_neg py_10, k1, py_b, if_neg py_10]
