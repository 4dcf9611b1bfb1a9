/-! What holds between the steps of a press. -/
theorem px_c.cong {S S' : pw_S} {f sd p rc db sk op : Nat} (h : px_c S f sd p rc db sk op) (e : ∀ j, 3 ≤ j → j ≤ 8 → S' 36 0 (j + 6 * f) = S 36 0 (j + 6 * f)) : px_c S' f sd p rc db sk op := by
  unfold px_c
  rw [e 3 (by omega) (by omega), e 4 (by omega) (by omega), e 5 (by omega) (by omega), e 6 (by omega) (by omega), e 7 (by omega) (by omega), e 8 (by omega) (by omega)]
  exact h
theorem px_K.cong {S S' : pw_S} {nk : Nat} (h : px_K S nk) (h61 : S' 61 0 10 = S 61 0 10) (h36 : S' 36 0 1 = S 36 0 1) (h55 : ∀ k, S' 55 k = S 55 k) (h37 : S' 37 0 = S 37 0) : px_K S' nk := by
  obtain ⟨a1, a2, a3, a4⟩ := h
  refine ⟨by rw [h61, a1], by rw [h36, a2], a3, fun k hk => ?_⟩
  obtain ⟨f, kd, s, w, b1, b2⟩ := a4 k hk
  exact ⟨f, kd, s, w, b1.cong (h55 k), by rw [h37, b2]⟩
/-- descriptions and the draft -/
def px_J1 (S : pw_S) (dc : Nat) (Is : Nat → py_I) (nc : Nat → Nat) : Prop := px_D S dc Is nc ∧ S 36 0 0 = Int32.ofNat dc ∧ (∀ d, dc ≤ d → d < 6 → S 52 d 6 = Int32.ofNat 0) ∧ ∃ I6, py_Ri S 6 I6 ∧ pi_n I6 = 0
/-- a file with its stream -/
def px_J2 (S : pw_S) (dc n17 f len op sd p rc db sk : Nat) : Prop := px_f S f len op ∧ px_t S f sd p rc db sk ∧ px_c S f sd p rc db sk op ∧ sd ≤ dc ∧ p ≤ len ∧ rc + sk ≤ min n17 10 ∧ (sd = 0 → rc = 0 ∧ db = 0 ∧ p = 0)
/-- upgrades and their draft -/
def px_J4 (S : pw_S) (nu : Nat) (Ls : Nat → Nat → List uP) : Prop := px_U S nu Ls ∧ S 36 0 2 = Int32.ofNat nu ∧ ∀ j, j < 8 → S 19 0 j = -1
/-- the law's counters -/
def px_J5 (S : pw_S) (n15 n16 n17 : Nat) : Prop := S 36 0 15 = Int32.ofNat n15 ∧ n15 ≤ 8 ∧ S 36 0 16 = Int32.ofNat n16 ∧ n16 ≤ n15 ∧ S 36 0 17 = Int32.ofNat n17
def px_J (S : pw_S) (dc nk nu n15 n16 n17 : Nat) : Prop := (∃ Is nc, px_J1 S dc Is nc) ∧ (∀ f, f < 2 → ∃ len op sd p rc db sk, px_J2 S dc n17 f len op sd p rc db sk) ∧ px_K S nk ∧ (∃ Ls, px_J4 S nu Ls) ∧ px_J5 S n15 n16 n17
def px_I (S : pw_S) (m : Nat) : Prop := ∃ dc nk nu n15 n16 n17, px_J S dc nk nu n15 n16 n17 ∧ n17 ≤ m
theorem px_J1.cong {S S' : pw_S} {dc : Nat} {Is : Nat → py_I} {nc : Nat → Nat} (h : px_J1 S dc Is nc) (h61 : S' 61 0 2 = S 61 0 2) (h36 : S' 36 0 0 = S 36 0 0) (hk : ∀ a d, (2 ≤ a ∧ a ≤ 10) ∨ a = 51 ∨ a = 52 → S' a d = S a d) : px_J1 S' dc Is nc := by
  obtain ⟨a1, a2, a3, I6, a4, a5⟩ := h
  refine ⟨a1.cong h61 (fun a d q1 q2 _ _ => hk a d (by omega)), by rw [h36, a2], fun d h1 h2 => by rw [hk 52 d (by omega)]; exact a3 d h1 h2, I6, a4.cong (hk 51 6 (by omega)) (hk 2 6 (by omega)) (hk 3 6 (by omega)) (hk 4 6 (by omega)) (hk 5 6 (by omega)), a5⟩
theorem px_J2.cong {S S' : pw_S} {dc n17 f len op sd p rc db sk : Nat} (h : px_J2 S dc n17 f len op sd p rc db sk) (e53 : S' 53 f = S 53 f) (e11 : S' 11 f = S 11 f) (e54 : S' 54 f = S 54 f) (e12 : S' 12 f = S 12 f) (e14 : S' 14 f = S 14 f) (e15 : S' 15 f = S 15 f) (e16 : S' 16 f = S 16 f) (e36 : ∀ j, 3 ≤ j → j ≤ 8 → S' 36 0 (j + 6 * f) = S 36 0 (j + 6 * f)) {dc' n17' : Nat} (hdc : dc ≤ dc') (hn : n17 ≤ n17') : px_J2 S' dc' n17' f len op sd p rc db sk := by
  obtain ⟨a1, a2, a3, a4, a5, a6, a7⟩ := h
  exact ⟨a1.cong e53 e11, a2.cong e54 e12 e14 e15 e16, a3.cong e36, by omega, a5, by omega, a7⟩
theorem px_J4.cong {S S' : pw_S} {nu : Nat} {Ls : Nat → Nat → List uP} (h : px_J4 S nu Ls) (h61 : S' 61 0 13 = S 61 0 13) (h36 : S' 36 0 2 = S 36 0 2) (h19 : S' 19 0 = S 19 0) (hk : ∀ u, S' 22 u = S 22 u ∧ S' 23 u = S 23 u ∧ S' 24 u = S 24 u ∧ S' 57 u = S 57 u) : px_J4 S' nu Ls := by
  obtain ⟨a1, a2, a3⟩ := h
  exact ⟨a1.cong h61 (fun u _ => hk u), by rw [h36, a2], fun j hj => by rw [h19]; exact a3 j hj⟩
theorem px_J5.cong {S S' : pw_S} {n15 n16 n17 : Nat} (h : px_J5 S n15 n16 n17) (e : ∀ j, 15 ≤ j → S' 36 0 j = S 36 0 j) : px_J5 S' n15 n16 n17 := by
  unfold px_J5
  rw [e 15 (by omega), e 16 (by omega), e 17 (by omega)]
  exact h
/-- rows of numbers that matter between the steps -/
def py_kp (a : Nat) : Bool := Nat.ble 2 a && Nat.ble a 12 || (Nat.ble 14 a && Nat.ble a 16 || (Nat.beq a 19 || (Nat.ble 22 a && Nat.ble a 24 || (Nat.beq a 36 || (Nat.beq a 37 || (Nat.ble 51 a && Nat.ble a 55 || (Nat.beq a 57 || Nat.beq a 61)))))))
theorem px_J.cong {S S' : pw_S} {dc nk nu n15 n16 n17 : Nat} (h : px_J S dc nk nu n15 n16 n17) (e : ∀ a i, py_kp a = true → S' a i = S a i) : px_J S' dc nk nu n15 n16 n17 := by
  obtain ⟨⟨Is, nc, a1⟩, a2, a3, ⟨Ls, a4⟩, a5⟩ := h
  refine ⟨⟨Is, nc, a1.cong (by rw [e 61 0 rfl]) (by rw [e 36 0 rfl]) (fun a d h => ?_)⟩, fun f hf => ?_, a3.cong (by rw [e 61 0 rfl]) (by rw [e 36 0 rfl]) (fun k => e 55 k rfl) (e 37 0 rfl), ⟨Ls, a4.cong (by rw [e 61 0 rfl]) (by rw [e 36 0 rfl]) (e 19 0 rfl) (fun u => ⟨e 22 u rfl, e 23 u rfl, e 24 u rfl, e 57 u rfl⟩)⟩, a5.cong (fun j _ => by rw [e 36 0 rfl])⟩
  · rcases (by omega : a = 2 ∨ a = 3 ∨ a = 4 ∨ a = 5 ∨ a = 6 ∨ a = 7 ∨ a = 8 ∨ a = 9 ∨ a = 10 ∨ a = 51 ∨ a = 52) with rfl | rfl | rfl | rfl | rfl | rfl | rfl | rfl | rfl | rfl | rfl <;> exact e _ d rfl
  · obtain ⟨len, op, sd, p, rc, db, sk, b⟩ := a2 f hf
    exact ⟨len, op, sd, p, rc, db, sk, b.cong (e 53 f rfl) (e 11 f rfl) (e 54 f rfl) (e 12 f rfl) (e 14 f rfl) (e 15 f rfl) (e 16 f rfl) (fun j _ _ => by rw [e 36 0 rfl]) (Nat.le_refl _) (Nat.le_refl _)⟩
theorem px_J.rows {S : pw_S} {dc nk nu n15 n16 n17 : Nat} (h : px_J S dc nk nu n15 n16 n17) : ∃ rc, px_R S rc ∧ px_Q S rc := by
  have h2 : ∀ f, ∃ r, f < 2 → ∃ len op sd p db sk, px_J2 S dc n17 f len op sd p r db sk := fun f => by
    by_cases e : f < 2
    · obtain ⟨len, op, sd, p, rc, db, sk, b⟩ := h.2.1 f e
      exact ⟨rc, fun _ => ⟨len, op, sd, p, db, sk, b⟩⟩
    · exact ⟨0, fun z => absurd z e⟩
  obtain ⟨rc, hrc⟩ := Classical.axiomOfChoice h2
  refine ⟨rc, fun f hf => ?_, fun f hf => ?_⟩
  · obtain ⟨len, op, sd, p, db, sk, a1, a2, a3, a4, a5, a6, a7⟩ := hrc f hf
    exact ⟨a2.2.2.1, by omega, a3.2.2.1, a2.2.2.2.2.2.2.1⟩
  · obtain ⟨len, op, sd, p, db, sk, a1, a2, a3, a4, a5, a6, a7⟩ := hrc f hf
    exact ⟨a2.2.2.1, by omega, a3.2.2.1, a2.2.2.2.2.2.2.1, a2.2.2.2.2.2.2.2⟩
theorem pj_areColumns {S : pw_S} {m : Nat} (h : px_I S m) : ∃ S', m_L_areColumns S 0 37 0 36 0 = some (S', 1) ∧ px_I S' m := by
  obtain ⟨dc, nk, nu, n15, n16, n17, hJ, hn⟩ := h
  obtain ⟨rc, hR, -⟩ := hJ.rows
  obtain ⟨S', a1, a2⟩ := pl_areColumns hJ.2.2.1 hR
  refine ⟨S', a1, dc, nk, nu, n15, n16, n17, hJ.cong (fun a i z => a2 a i ?_), hn⟩
  cases hk : py_KC a i with
  | false => rfl
  | true =>
    unfold py_KC at hk
    rcases Bool.or_eq_true_iff.mp hk with y | y
    · rw [Nat.eq_of_beq_eq_true y] at z
      cases z
    · rw [Nat.eq_of_beq_eq_true y] at z
      cases z
theorem pj_areKeys {S : pw_S} {m s : Nat} (h : px_I S m) (hs : s < 8) : m_L_areKeys S 0 (Int32.ofNat s) 36 0 = some (S, 1) := by
  obtain ⟨dc, nk, nu, n15, n16, n17, hJ, hn⟩ := h
  obtain ⟨rc, -, hQ⟩ := hJ.rows
  exact pl_areKeys hQ hs
theorem pj_describes {S : pw_S} {m X Y : Nat} (h : px_I S m) (hX : X < 1073741824) (hY : Y < 1073741824) : ∃ S', m_L_describes S 0 (Int32.ofNat X) (Int32.ofNat Y) 36 0 = some (S', 1) ∧ px_I S' m := by
  obtain ⟨dc, nk, nu, n15, n16, n17, ⟨⟨Is, nc, a1⟩, a2, a3, ⟨Ls, a4⟩, a5⟩, hn⟩ := h
  obtain ⟨S', dc', Is', nc', b1, b2, b3, b4, b5, b6, b7, b8⟩ := pl_describes a1.1 a1.2.1 a1.2.2.1 a1.2.2.2 hX hY
  refine ⟨S', b1, dc', nk, nu, n15, n16, n17, ⟨⟨Is', nc', b2, b4, fun d h1 h2 => ?_, b5⟩, fun f hf => ?_, a3.cong (b6 10 (by omega)) (b7 1 (by omega)) (fun k => b8 55 k rfl) (b8 37 0 rfl), ⟨Ls, a4.cong (b6 13 (by omega)) (b7 2 (by omega)) (b8 19 0 rfl) (fun u => ⟨b8 22 u rfl, b8 23 u rfl, b8 24 u rfl, b8 57 u rfl⟩)⟩, a5.cong (fun j hj => b7 j (by omega))⟩, hn⟩
  · rw [b8 52 d rfl]
    exact a1.2.2.1 d (by omega) h2
  · obtain ⟨len, op, sd, p, rc, db, sk, c⟩ := a2 f hf
    exact ⟨len, op, sd, p, rc, db, sk, c.cong (b8 53 f rfl) (b8 11 f rfl) (b8 54 f rfl) (b8 12 f rfl) (b8 14 f rfl) (b8 15 f rfl) (b8 16 f rfl) (fun j h1 h2 => b7 _ (by omega)) b3 (Nat.le_refl _)⟩
theorem pj_samples {S : pw_S} {m X Y : Nat} (h : px_I S m) (hX : X < 1073741824) (hY : Y < 1073741824) : ∃ S', m_L_samples S 0 (Int32.ofNat X) (Int32.ofNat Y) 38 0 36 0 = some (S', 1) ∧ px_I S' m := by
  obtain ⟨dc, nk, nu, n15, n16, n17, ⟨⟨Is, nc, a1⟩, a2, a3, ⟨Ls, a4⟩, a5⟩, hn⟩ := h
  obtain ⟨c1, c2, c3, c4, c5⟩ := a5
  obtain ⟨S', b1, b2, b3, ⟨m15, m16, d1, d2, d3, d4⟩, b5⟩ := pl_samples a1.1 a1.2.1 (fun f hf => by
    obtain ⟨len, op, sd, p, rc, db, sk, c⟩ := a2 f hf
    exact ⟨len, op, c.1, c.2.2.1.2.2.2.2.2⟩) c1 c2 c3 c4 hX hY
  refine ⟨S', b1, dc, nk, nu, m15, m16, n17, ⟨⟨Is, nc, a1.cong (by rw [b2 61 0 rfl]) (b3 0 (by omega) (by omega)) (fun a d q => ?_)⟩, fun f hf => ?_, a3.cong (by rw [b2 61 0 rfl]) (b3 1 (by omega) (by omega)) (fun k => b2 55 k rfl) (b2 37 0 rfl), ⟨Ls, a4.cong (by rw [b2 61 0 rfl]) (b3 2 (by omega) (by omega)) (b2 19 0 rfl) (fun u => ⟨b2 22 u rfl, b2 23 u rfl, b2 24 u rfl, b2 57 u rfl⟩)⟩, d1, d2, d3, d4, by rw [b3 17 (by omega) (by omega)]; exact c5⟩, hn⟩
  · rcases (by omega : a = 2 ∨ a = 3 ∨ a = 4 ∨ a = 5 ∨ a = 6 ∨ a = 7 ∨ a = 8 ∨ a = 9 ∨ a = 10 ∨ a = 51 ∨ a = 52) with rfl | rfl | rfl | rfl | rfl | rfl | rfl | rfl | rfl | rfl | rfl <;> exact b2 _ d rfl
  · obtain ⟨len, op, sd, p, rc, db, sk, e1, e2, e3, e4, e5, e6, e7⟩ := a2 f hf
    obtain ⟨len', g1, g2⟩ := b5 f hf len op e1
    exact ⟨len', op, sd, p, rc, db, sk, g2, e2.cong (b2 54 f rfl) (b2 12 f rfl) (b2 14 f rfl) (b2 15 f rfl) (b2 16 f rfl), e3.cong (fun j h1 h2 => b3 _ (by omega) (by omega)), e4, by omega, e6, e7⟩
theorem pj_constrains {S : pw_S} {m X Y : Nat} (h : px_I S m) (hX : X < 1073741824) (hY : Y < 1073741824) : ∃ S', m_L_constrains S 0 (Int32.ofNat X) (Int32.ofNat Y) 36 0 = some (S', 1) ∧ px_I S' m := by
  obtain ⟨dc, nk, nu, n15, n16, n17, ⟨⟨Is, nc, a1⟩, a2, a3, ⟨Ls, a4⟩, a5⟩, hn⟩ := h
  obtain ⟨S', b1, ⟨nc', b2⟩, b3, b4⟩ := pl_constrains a1.1 a1.2.1 hX hY
  obtain ⟨I6, i1, i2⟩ := a1.2.2.2
  refine ⟨S', b1, dc, nk, nu, n15, n16, n17, ⟨⟨Is, nc', b2, by rw [b4 36 0 rfl]; exact a1.2.1, fun d h1 h2 => by rw [b3 d h1]; exact a1.2.2.1 d h1 h2, I6, i1.cong (b4 51 6 rfl) (b4 2 6 rfl) (b4 3 6 rfl) (b4 4 6 rfl) (b4 5 6 rfl), i2⟩, fun f hf => ?_, a3.cong (by rw [b4 61 0 rfl]) (by rw [b4 36 0 rfl]) (fun k => b4 55 k rfl) (b4 37 0 rfl), ⟨Ls, a4.cong (by rw [b4 61 0 rfl]) (by rw [b4 36 0 rfl]) (b4 19 0 rfl) (fun u => ⟨b4 22 u rfl, b4 23 u rfl, b4 24 u rfl, b4 57 u rfl⟩)⟩, a5.cong (fun j _ => by rw [b4 36 0 rfl])⟩, hn⟩
  obtain ⟨len, op, sd, p, rc, db, sk, c⟩ := a2 f hf
  exact ⟨len, op, sd, p, rc, db, sk, c.cong (b4 53 f rfl) (b4 11 f rfl) (b4 54 f rfl) (b4 12 f rfl) (b4 14 f rfl) (b4 15 f rfl) (b4 16 f rfl) (fun j _ _ => by rw [b4 36 0 rfl]) (Nat.le_refl _) (Nat.le_refl _)⟩
theorem pj_upgrades {S : pw_S} {m X Y : Nat} (h : px_I S m) (hX : X < 1073741824) (hY : Y < 1073741824) : ∃ S', m_L_upgrades S 0 (Int32.ofNat X) (Int32.ofNat Y) 39 0 36 0 = some (S', 1) ∧ px_I S' m := by
  obtain ⟨dc, nk, nu, n15, n16, n17, ⟨⟨Is, nc, a1⟩, a2, a3, ⟨Ls, a4⟩, a5⟩, hn⟩ := h
  obtain ⟨S', nu', Ls', b1, b2, b3, b4, b5, b6, b7⟩ := pl_upgrades a4.1 a4.2.1 a4.2.2 hX hY
  refine ⟨S', b1, dc, nk, nu', n15, n16, n17, ⟨⟨Is, nc, a1.cong (b5 2 (by omega)) (b6 0 (by omega)) (fun a d q => ?_)⟩, fun f hf => ?_, a3.cong (b5 10 (by omega)) (b6 1 (by omega)) (fun k => b7 55 k rfl) (b7 37 0 rfl), ⟨Ls', b2, b3, b4⟩, a5.cong (fun j hj => b6 j (by omega))⟩, hn⟩
  · rcases (by omega : a = 2 ∨ a = 3 ∨ a = 4 ∨ a = 5 ∨ a = 6 ∨ a = 7 ∨ a = 8 ∨ a = 9 ∨ a = 10 ∨ a = 51 ∨ a = 52) with rfl | rfl | rfl | rfl | rfl | rfl | rfl | rfl | rfl | rfl | rfl <;> exact b7 _ d rfl
  · obtain ⟨len, op, sd, p, rc, db, sk, c⟩ := a2 f hf
    exact ⟨len, op, sd, p, rc, db, sk, c.cong (b7 53 f rfl) (b7 11 f rfl) (b7 54 f rfl) (b7 12 f rfl) (b7 14 f rfl) (b7 15 f rfl) (b7 16 f rfl) (fun j h1 h2 => b6 _ (by omega)) (Nat.le_refl _) (Nat.le_refl _)⟩
/-- a step of a stream, counted -/
theorem pj_steps {S : pw_S} {m f : Nat} (hf : f < 2) (h : px_I S m) (hm : m < 1000) : ∃ n17, S 36 0 17 = Int32.ofNat n17 ∧ n17 ≤ m ∧ (10 < n17 + 1 → px_I (pw_up S 36 0 (upd (S 36 0) 17 (Int32.ofNat (n17 + 1)))) (m + 1)) ∧ (¬ 10 < n17 + 1 → ∃ S', m_L_steps (pw_up S 36 0 (upd (S 36 0) 17 (Int32.ofNat (n17 + 1)))) 0 (Int32.ofNat f) 36 0 = some (S', 1) ∧ px_I S' (m + 1)) := by
  obtain ⟨dc, nk, nu, n15, n16, n17, ⟨⟨Is, nc, a1⟩, a2, a3, ⟨Ls, a4⟩, a5⟩, hn⟩ := h
  obtain ⟨c1, c2, c3, c4, c5⟩ := a5
  refine ⟨n17, c5, hn, ?_⟩
  generalize hS1 : pw_up S 36 0 (upd (S 36 0) 17 (Int32.ofNat (n17 + 1))) = S1
  have k1 : ∀ a i, Nat.beq a 36 = false → S1 a i = S a i := fun a i hh => by
    rw [← hS1]
    exact py_up_k _ _ hh
  have e36 : ∀ j, j ≠ 17 → S1 36 0 j = S 36 0 j := fun j hj => by rw [← hS1, py_up_s, py_u_n _ _ hj]
  have e17 : S1 36 0 17 = Int32.ofNat (n17 + 1) := by rw [← hS1, py_up_s, py_u_s]
  have b1 : px_J1 S1 dc Is nc := a1.cong (by rw [k1 61 0 rfl]) (e36 0 (by omega)) (fun a d q => by
    rcases (by omega : a = 2 ∨ a = 3 ∨ a = 4 ∨ a = 5 ∨ a = 6 ∨ a = 7 ∨ a = 8 ∨ a = 9 ∨ a = 10 ∨ a = 51 ∨ a = 52) with rfl | rfl | rfl | rfl | rfl | rfl | rfl | rfl | rfl | rfl | rfl <;> exact k1 _ d rfl)
  have b2 : ∀ g, g < 2 → ∃ len op sd p rc db sk, px_J2 S1 dc n17 g len op sd p rc db sk := fun g hg => by
    obtain ⟨len, op, sd, p, rc, db, sk, c⟩ := a2 g hg
    exact ⟨len, op, sd, p, rc, db, sk, c.cong (k1 53 g rfl) (k1 11 g rfl) (k1 54 g rfl) (k1 12 g rfl) (k1 14 g rfl) (k1 15 g rfl) (k1 16 g rfl) (fun j h1 h2 => e36 _ (by omega)) (Nat.le_refl _) (Nat.le_refl _)⟩
  have b3 : px_K S1 nk := a3.cong (by rw [k1 61 0 rfl]) (e36 1 (by omega)) (fun k => k1 55 k rfl) (k1 37 0 rfl)
  have b4 : px_J4 S1 nu Ls := a4.cong (by rw [k1 61 0 rfl]) (e36 2 (by omega)) (k1 19 0 rfl) (fun u => ⟨k1 22 u rfl, k1 23 u rfl, k1 24 u rfl, k1 57 u rfl⟩)
  have b5 : px_J5 S1 n15 n16 (n17 + 1) := ⟨by rw [e36 15 (by omega)]; exact c1, c2, by rw [e36 16 (by omega)]; exact c3, c4, e17⟩
  refine ⟨fun _ => ⟨dc, nk, nu, n15, n16, n17 + 1, ⟨⟨Is, nc, b1⟩, fun g hg => ?_, b3, ⟨Ls, b4⟩, b5⟩, by omega⟩, fun h10 => ?_⟩
  · obtain ⟨len, op, sd, p, rc, db, sk, c⟩ := b2 g hg
    exact ⟨len, op, sd, p, rc, db, sk, c.cong rfl rfl rfl rfl rfl rfl rfl (fun _ _ _ => rfl) (Nat.le_refl _) (Nat.le_succ _)⟩
  · obtain ⟨len, op, sd, p, rc, db, sk, d1, d2, d3, d4, d5, d6, d7⟩ := b2 f hf
    obtain ⟨len2, op2, sd2, p2, rc2, db2, sk2, g1, g2, g3, g4, g5, g6, g7⟩ := b2 (1 - f) (by omega)
    obtain ⟨S', p', rc', db', sk', q1, q2, q3, q4, q5, q6, q7, q8, ⟨len', q9, q10⟩, q11, q12⟩ := pl_steps hf d1 g1 g3.2.2.2.2.2 d2 d3 b1.1 d4 d5 (by omega) (by omega) d7
    have kk : ∀ a i, py_KE f a i = false → py_KA a i = false → S' a i = S1 a i := fun a i z1 z2 => q2 a i (by
      show (py_KE f a i || py_KA a i) = false
      rw [z1, z2]
      rfl)
    have ke : ∀ a i, (2 ≤ a ∧ a ≤ 10) ∨ a = 51 ∨ a = 52 ∨ a = 61 ∨ a = 55 ∨ a = 37 ∨ a = 19 ∨ a = 22 ∨ a = 23 ∨ a = 24 ∨ a = 57 → S' a i = S1 a i := fun a i q => by
      rcases (by omega : a = 2 ∨ a = 3 ∨ a = 4 ∨ a = 5 ∨ a = 6 ∨ a = 7 ∨ a = 8 ∨ a = 9 ∨ a = 10 ∨ a = 51 ∨ a = 52 ∨ a = 61 ∨ a = 55 ∨ a = 37 ∨ a = 19 ∨ a = 22 ∨ a = 23 ∨ a = 24 ∨ a = 57) with rfl | rfl | rfl | rfl | rfl | rfl | rfl | rfl | rfl | rfl | rfl | rfl | rfl | rfl | rfl | rfl | rfl | rfl | rfl <;> exact kk _ i rfl rfl
    have kg : ∀ a, a = 54 ∨ a = 12 ∨ a = 14 ∨ a = 15 ∨ a = 16 → S' a (1 - f) = S1 a (1 - f) := fun a q => by
      have hne : Nat.beq (1 - f) f = false := by
        rcases (by omega : f = 0 ∨ f = 1) with rfl | rfl <;> rfl
      rcases q with rfl | rfl | rfl | rfl | rfl <;> refine kk _ _ ?_ rfl <;> (unfold py_KE py_KL; rw [hne]; rfl)
    refine ⟨S', q1, dc, nk, nu, n15, n16, n17 + 1, ⟨⟨Is, nc, b1.cong (by rw [ke 61 0 (by omega)]) (q8 0 (by omega)) (fun a d q => ke a d (by omega))⟩, fun g hg => ?_, b3.cong (by rw [ke 61 0 (by omega)]) (q8 1 (by omega)) (fun k => ke 55 k (by omega)) (ke 37 0 (by omega)), ⟨Ls, b4.cong (by rw [ke 61 0 (by omega)]) (q8 2 (by omega)) (ke 19 0 (by omega)) (fun u => ⟨ke 22 u (by omega), ke 23 u (by omega), ke 24 u (by omega), ke 57 u (by omega)⟩)⟩, b5.cong (fun j hj => q8 j (by omega))⟩, by omega⟩
    by_cases eg : g = f
    · subst eg
      exact ⟨len, op, sd, p', rc', db', sk', d1.cong q12 q11, q3, q4, d4, q5, by omega, q7⟩
    · have eg2 : g = 1 - f := by omega
      subst eg2
      refine ⟨len', op2, sd2, p2, rc2, db2, sk2, q10, g2.cong (kg 54 (by omega)) (kg 12 (by omega)) (kg 14 (by omega)) (kg 15 (by omega)) (kg 16 (by omega)), g3.cong (fun j h1 h2 => q8 _ (by omega)), g4, by omega, by omega, g7⟩
