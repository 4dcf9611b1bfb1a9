/-! Typed worlds: a state S tells for each kind of cell, each one of that kind and each place in it a number; the mirrored programs work on such states. -/
abbrev pw_S : Type := Nat → Nat → Nat → Int32
abbrev pw_R (α : Type) : Type := Option (pw_S × α)
def pw_up (S : pw_S) (a i : Nat) (d : Nat → Int32) : pw_S := fun a' i' => if a' = a ∧ i' = i then d else S a' i'
theorem pw_Fx (k : Nat) : ∃ n : Nat, n = k := ⟨k, rfl⟩
/-- so much fuel, not worked out on the way -/
noncomputable def pw_F (k : Nat) : Nat := Classical.choose (pw_Fx k)
theorem pw_F_eq (k : Nat) : pw_F k = k := Classical.choose_spec (pw_Fx k)
def pw_l {σ β : Type} (x : σ) (k : σ → β) : β := k x
def pw_c {β : Type} (b : Bool) (o : pw_R β) : pw_R β := match b with
  | true => o
  | false => none
def pw_b {α β : Type} (o : pw_R α) (k : pw_S → α → pw_R β) : pw_R β := match o with
  | none => none
  | some (s, r) => k s r
def pw_o {β : Type} (r : Option Nat) (a : pw_R β) (b : Nat → pw_R β) : pw_R β := match r with
  | none => a
  | some i => b i
def pw_e {α β : Type} (r : α ⊕ Nat) (a : α → pw_R β) (b : Nat → pw_R β) : pw_R β := match r with
  | .inl v => a v
  | .inr e => b e
theorem pw_px : ∃ f : ∀ α : Type, pw_R α → (pw_S → α → Prop) → Prop, ∀ (α : Type) (o : pw_R α) (P : pw_S → α → Prop), f α o P = (match o with
  | none => False
  | some (s, r) => P s r) := ⟨fun _ o P => match o with
  | none => False
  | some (s, r) => P s r, fun _ _ _ => rfl⟩
/-- a program comes to an end, and there P holds (not to be worked out on the way) -/
noncomputable def pw_p {α : Type} (o : pw_R α) (P : pw_S → α → Prop) : Prop := Classical.choose pw_px α o P
theorem pw_p_eq {α : Type} (o : pw_R α) (P : pw_S → α → Prop) : pw_p o P = (match o with
  | none => False
  | some (s, r) => P s r) := Classical.choose_spec pw_px α o P
theorem pw_pn {α : Type} {P : pw_S → α → Prop} (h : pw_p none P) : False := by
  rw [pw_p_eq] at h
  exact h
theorem pw_ps {α : Type} {s : pw_S} {r : α} {P : pw_S → α → Prop} (h : pw_p (some (s, r)) P) : P s r := by
  rw [pw_p_eq] at h
  exact h
theorem pw_si {α : Type} {s : pw_S} {r : α} {P : pw_S → α → Prop} (h : P s r) : pw_p (some (s, r)) P := by
  rw [pw_p_eq]
  exact h
def pw_bs : List (Nat × Nat) := [(33, 3), (34, 3), (1343, 11), (1344, 11), (1345, 11), (1346, 11), (1347, 11), (1348, 11), (1349, 11), (1350, 11), (1351, 11), (1408, 2), (1412, 6), (1413, 6), (1414, 6), (1415, 6), (1416, 6), (1424, 3), (1425, 3), (1337, 0), (1338, 0), (1339, 0), (1442, 7), (1443, 7), (1444, 7), (1445, 7), (1446, 7), (1447, 7), (12, 0), (13, 0), (22, 0), (23, 0), (24, 0), (1255, 0), (1256, 0), (8, 0), (1497, 0), (1498, 0), (1499, 0), (1500, 0), (0, 0), (18, 0), (1254, 0), (7, 0), (9, 0), (10, 0), (1335, 0), (1340, 0), (0, 0), (0, 0), (32, 3), (1342, 11), (1341, 11), (1407, 2), (1411, 6), (1423, 3), (1336, 0), (1441, 7), (11, 0), (17, 0), (1253, 0), (1, 0)]
def pw_sp : List (Nat × Nat) := [(407, 20), (408, 15), (1407, 21), (1408, 16), (2006, 3), (2007, 26), (3006, 4), (3007, 27), (4006, 5), (4007, 28), (5006, 6), (5007, 29), (11002, 31), (50407, 19), (50408, 14), (51006, 2), (51007, 25), (53002, 30)]
def pw_fd : List (Nat × Nat) → Nat → Option Nat
  | [], _ => none
  | (j, p) :: r, k => match Nat.beq j k with
    | true => some p
    | false => pw_fd r k
def pw_one : List (Nat × Nat) := [(1, 61000), (2, 51006), (3, 2006), (4, 3006), (5, 4006), (6, 5006), (7, 43000), (8, 35000), (9, 44000), (10, 45000), (11, 58000), (12, 28000), (13, 29000), (14, 50408), (15, 408), (16, 1408), (17, 59000), (18, 41000), (19, 50407), (20, 407), (21, 1407), (22, 30000), (23, 31000), (24, 32000), (25, 51007), (26, 2007), (27, 3007), (28, 4007), (29, 5007), (30, 53002), (31, 11002), (1253, 60000), (1254, 42000), (1255, 33000), (1256, 34000), (1335, 46000), (1336, 56000), (1337, 19000), (1338, 20000), (1339, 21000), (1340, 47000), (1497, 36000), (1498, 37000), (1499, 38000), (1500, 39000)]
def pw_inv (p : Nat) : Nat := match Nat.ble 32 p && Nat.blt p 1253 with
  | true => 1000 * [50, 0, 1].getD ((p - 32) % 3) 0 + (0 + (p - 32) / 3)
  | false => match Nat.ble 1257 p && Nat.blt p 1335 with
  | true => 1000 * [50, 0, 1].getD ((p - 1257) % 3) 0 + (409 + (p - 1257) / 3)
  | false => match Nat.ble 1341 p && Nat.blt p 1407 with
  | true => 1000 * [52, 51, 2, 3, 4, 5, 6, 7, 8, 9, 10].getD ((p - 1341) % 11) 0 + (0 + (p - 1341) / 11)
  | false => match Nat.ble 1407 p && Nat.blt p 1411 with
  | true => 1000 * [53, 11].getD ((p - 1407) % 2) 0 + (0 + (p - 1407) / 2)
  | false => match Nat.ble 1411 p && Nat.blt p 1423 with
  | true => 1000 * [54, 12, 13, 14, 15, 16].getD ((p - 1411) % 6) 0 + (0 + (p - 1411) / 6)
  | false => match Nat.ble 1423 p && Nat.blt p 1441 with
  | true => 1000 * [55, 17, 18].getD ((p - 1423) % 3) 0 + (0 + (p - 1423) / 3)
  | false => match Nat.ble 1441 p && Nat.blt p 1497 with
  | true => 1000 * [57, 22, 23, 24, 25, 26, 27].getD ((p - 1441) % 7) 0 + (0 + (p - 1441) / 7)
  | false => (pw_fd pw_one p).getD 0
def pw_pl (a i : Nat) : Nat := match Nat.blt a 62 with
  | true => (match pw_fd pw_sp (1000 * a + i) with
    | some p => p
    | none => (match Nat.ble 409 i with
      | true => (match Nat.beq a 0 with
        | true => 31 + 3 * i
        | false => match Nat.beq a 1 with
          | true => 32 + 3 * i
          | false => 30 + 3 * i)
      | false => (pw_bs.getD a (0, 0)).1 + (pw_bs.getD a (0, 0)).2 * i))
  | false => 65436 + a
def pw_cnts : List Nat := [435, 435, 8, 8, 8, 8, 6, 6, 6, 6, 6, 3, 2, 2, 2, 2, 2, 6, 6, 1, 1, 1, 8, 8, 8, 8, 8, 8, 1, 1, 1, 1, 1, 1, 1, 1, 1, 1, 1, 1, 0, 1, 1, 1, 1, 1, 1, 1, 0, 0, 435, 8, 6, 3, 2, 6, 1, 8, 1, 1, 1, 1]
def pw_lens : List Nat := [24, 8, 14, 14, 14, 14, 8, 8, 8, 8, 8, 300, 576, 300, 256, 256, 192, 24, 24, 8, 8, 8, 60, 60, 8, 60, 60, 60, 60, 8, 8, 6, 6, 26, 26, 24, 18, 6, 24, 8, 0, 407, 26, 6, 2, 2, 6, 8, 0, 0, 0, 0, 0, 0, 0, 0, 0, 0, 0, 0, 0, 0]
def pw_cnt (q a : Nat) : Nat := match Nat.blt a 62 with
  | true => pw_cnts.getD a 0
  | false => match Nat.beq a 100 with
    | true => min q 1
    | false => match Nat.beq a 101 with
      | true => min (q - 1) 1
      | false => 0
def pw_len (a : Nat) : Nat := match Nat.blt a 62 with
  | true => pw_lens.getD a 0
  | false => 8
def pw_ok (q a i : Nat) : Bool := Nat.blt i (pw_cnt q a)
/-- rows of numbers that the helpers may be handed -/
def pw_arr (a : Nat) : Bool := (Nat.blt a 40 && !(Nat.beq a 11)) || Nat.ble 100 a
def pw_dn (n : Nat) (x : Int32) : Nat := x.toNatClampNeg % n
def pw_nr (a n : Nat) (x : Int32) : Value := match decide (x < 0) with
  | true => .null
  | false => .ref (pw_pl a (pw_dn n x))
def pw_v (a : Nat) (o : Option Nat) : Value := match o with
  | none => .null
  | some i => .ref (pw_pl a i)
def pw_oo (q a : Nat) (o : Option Nat) : Bool := match o with
  | none => true
  | some i => pw_ok q a i
def pw_ent (a i : Nat) (d : Nat → Int32) : np_E := match Nat.beq a 50 with
  | true => .inr (8, [.ref (pw_pl 0 i), .ref (pw_pl 1 i), .int (d 2), .int (d 3), .int (d 4), .int (d 5), .int (d 6), .int (d 7), .int (d 8)])
  | false => match Nat.beq a 51 with
  | true => .inr (2, [.ref (pw_pl 2 i), .ref (pw_pl 3 i), .ref (pw_pl 4 i), .ref (pw_pl 5 i), .int (d 4)])
  | false => match Nat.beq a 52 with
  | true => .inr (1, [.ref (pw_pl 51 i), .ref (pw_pl 6 i), .ref (pw_pl 7 i), .ref (pw_pl 8 i), .ref (pw_pl 9 i), .ref (pw_pl 10 i), .int (d 6)])
  | false => match Nat.beq a 53 with
  | true => .inr (7, [.ref (pw_pl 11 i), .int (d 1), .int (d 2)])
  | false => match Nat.beq a 54 with
  | true => .inr (6, [.ref (pw_pl 12 i), .ref (pw_pl 13 i), .ref (pw_pl 14 i), .ref (pw_pl 15 i), .ref (pw_pl 16 i), pw_nr 52 6 (d 5), .int (d 6), .int (d 7), .int (d 8), .int (d 9), .int (d 10), .int (d 11)])
  | false => match Nat.beq a 55 with
  | true => .inr (0, [.ref (pw_pl 17 i), .ref (pw_pl 18 i), pw_nr 54 2 (d 2), .int (d 3), .int (d 4), .int (d 5)])
  | false => match Nat.beq a 56 with
  | true => .inr (10, [.ref (pw_pl 19 0), .ref (pw_pl 20 0), .ref (pw_pl 21 0)])
  | false => match Nat.beq a 57 with
  | true => .inr (9, [.ref (pw_pl 22 i), .ref (pw_pl 23 i), .ref (pw_pl 24 i), .ref (pw_pl 25 i), .ref (pw_pl 26 i), .ref (pw_pl 27 i), .int (d 6)])
  | false => match Nat.beq a 58 with
  | true => .inr (3, [.ref (pw_pl 28 0), .ref (pw_pl 29 0), .ref (pw_pl 50 408)])
  | false => match Nat.beq a 59 with
  | true => .inr (4, [.ref (pw_pl 41 0), .ref (pw_pl 50 407), .ref (pw_pl 30 0), .ref (pw_pl 31 0), .ref (pw_pl 32 0), .ref (pw_pl 51 (pw_dn 8 (d 5))), .ref (pw_pl 53 (pw_dn 3 (d 6))), .int (d 7), .int (d 8), .int (d 9), .int (d 10)])
  | false => match Nat.beq a 60 with
  | true => .inr (5, [.ref (pw_pl 42 0), .ref (pw_pl 33 0), .ref (pw_pl 34 0), .int (d 3), .int (d 4)])
  | false => match Nat.beq a 61 with
  | true => .inr (11, [.ref (pw_pl 51 6), .ref (pw_pl 43 0), .int (d 2), .ref (pw_pl 35 0), .ref (pw_pl 44 0), .ref (pw_pl 45 0), .ref (pw_pl 58 0), .ref (pw_pl 59 0), .ref (pw_pl 60 0), .ref (pw_pl 46 0), .int (d 10), .ref (pw_pl 56 0), .ref (pw_pl 47 0), .int (d 13)])
  | false => match Nat.beq a 41 with
  | true => .inl (.object "NotationPress$Trace", 407, .inr (.inr (.inr (.inr (fun j => some (pw_pl 50 (j % 407)))))))
  | false => match Nat.beq a 42 with
  | true => .inl (.object "NotationPress$Trace", 26, .inr (.inr (.inr (.inr (fun j => some (pw_pl 50 (409 + j % 26)))))))
  | false => match Nat.beq a 43 with
  | true => .inl (.object "NotationPress$Description", 6, .inr (.inr (.inr (.inr (fun j => some (pw_pl 52 (j % 6)))))))
  | false => match Nat.beq a 44 with
  | true => .inl (.object "NotationPress$Text", 2, .inr (.inr (.inr (.inr (fun j => some (pw_pl 53 (j % 2)))))))
  | false => match Nat.beq a 45 with
  | true => .inl (.object "NotationPress$Table", 2, .inr (.inr (.inr (.inr (fun j => some (pw_pl 54 (j % 2)))))))
  | false => match Nat.beq a 46 with
  | true => .inl (.object "NotationPress$Column", 6, .inr (.inr (.inr (.inr (fun j => some (pw_pl 55 (j % 6)))))))
  | false => match Nat.beq a 47 with
  | true => .inl (.object "NotationPress$Upgrade", 8, .inr (.inr (.inr (.inr (fun j => some (pw_pl 57 (j % 8)))))))
  | false => match Nat.beq a 11 with
  | true => .inl (.char, 300, .inl d)
  | false => .inl (.int, pw_len a, .inl d)
theorem pw_ent_arr {a i : Nat} {d : Nat → Int32} (h : pw_arr a = true) : pw_ent a i d = .inl (.int, pw_len a, .inl d) := by
  have hne : ∀ b : Nat, pw_arr b = false → Nat.beq a b = false := fun b hb => by
    cases hab : Nat.beq a b with
    | false => rfl
    | true =>
      rw [Nat.eq_of_beq_eq_true hab, hb] at h
      cases h
  unfold pw_ent
  simp only [hne 50 rfl, hne 51 rfl, hne 52 rfl, hne 53 rfl, hne 54 rfl, hne 55 rfl, hne 56 rfl, hne 57 rfl, hne 58 rfl, hne 59 rfl, hne 60 rfl, hne 61 rfl, hne 41 rfl, hne 42 rfl, hne 43 rfl, hne 44 rfl, hne 45 rfl, hne 46 rfl, hne 47 rfl, hne 11 rfl]
def pw_W (q : Nat) (w : np_W) (S : pw_S) : Prop := w.1 = 65536 + q ∧ ∀ a i, pw_ok q a i = true → w.2 (pw_pl a i) = some (pw_ent a i (S a i))
theorem pw_blt {a b : Nat} (h : Nat.blt a b = true) : a < b := Nat.le_of_ble_eq_true h
theorem pw_cnts_le : ∀ a : Nat, pw_cnts.getD a 0 ≤ 435 := by
  intro a
  by_cases h : a < 62
  · exact (by decide +kernel : ∀ a : Fin 62, pw_cnts.getD a 0 ≤ 435) ⟨a, h⟩
  · rw [List.getD_eq_getElem?_getD, List.getElem?_eq_none (by show 62 ≤ a; omega)]
    exact Nat.zero_le _
theorem pw_ok_lt {q a i : Nat} (h : pw_ok q a i = true) : (a < 62 ∧ i < 435) ∨ (a = 100 ∧ i = 0 ∧ 1 ≤ q) ∨ (a = 101 ∧ i = 0 ∧ 2 ≤ q) := by
  have h1 := pw_blt h
  unfold pw_cnt at h1
  split at h1
  · rename_i h2
    exact Or.inl ⟨pw_blt h2, Nat.lt_of_lt_of_le h1 (pw_cnts_le a)⟩
  · split at h1
    · rename_i h2
      have h2 := Nat.eq_of_beq_eq_true h2
      exact Or.inr (Or.inl ⟨h2, by omega, by omega⟩)
    · split at h1
      · rename_i h2
        have h2 := Nat.eq_of_beq_eq_true h2
        exact Or.inr (Or.inr ⟨h2, by omega, by omega⟩)
      · exact absurd h1 (Nat.not_lt_zero _)
theorem pw_pl_hi {a i : Nat} (h : 100 ≤ a) : pw_pl a i = 65436 + a := by
  unfold pw_pl
  rw [show Nat.blt a 62 = false from by
    cases hb : Nat.blt a 62 with
    | false => rfl
    | true => exact absurd (pw_blt hb) (by omega)]
set_option maxRecDepth 100000 in
theorem pw_pl_all : ((List.range 62).all fun a => (List.range (pw_cnts.getD a 0)).all fun i => Nat.beq (pw_inv (pw_pl a i)) (1000 * a + i) && (Nat.blt 0 (pw_pl a i) && Nat.blt (pw_pl a i) 1501)) = true := by decide +kernel
theorem pw_pl_one {a i : Nat} (ha : a < 62) (hi : i < pw_cnts.getD a 0) : pw_inv (pw_pl a i) = 1000 * a + i ∧ 0 < pw_pl a i ∧ pw_pl a i < 1501 := by
  have h := List.all_eq_true.mp (List.all_eq_true.mp pw_pl_all a (List.mem_range.mpr ha)) i (List.mem_range.mpr hi)
  obtain ⟨h1, h2⟩ := Bool.and_eq_true_iff.mp h
  obtain ⟨h3, h4⟩ := Bool.and_eq_true_iff.mp h2
  exact ⟨Nat.eq_of_beq_eq_true h1, pw_blt h3, pw_blt h4⟩
theorem pw_ok_lo {q a i : Nat} (h : pw_ok q a i = true) (ha : a < 62) : i < pw_cnts.getD a 0 := by
  have h1 := pw_blt h
  unfold pw_cnt at h1
  rw [show Nat.blt a 62 = true from Nat.ble_eq_true_of_le ha] at h1
  exact h1
theorem pw_pl_lt {q a i : Nat} (h : pw_ok q a i = true) : 0 < pw_pl a i ∧ pw_pl a i < 65536 + q := by
  rcases pw_ok_lt h with ⟨h1, h2⟩ | ⟨rfl, rfl, h1⟩ | ⟨rfl, rfl, h1⟩
  · obtain ⟨-, h3, h4⟩ := pw_pl_one h1 (pw_ok_lo h h1)
    omega
  · rw [pw_pl_hi (by omega)]
    omega
  · rw [pw_pl_hi (by omega)]
    omega
theorem pw_pl_inj {q a i b j : Nat} (h : pw_ok q a i = true) (h' : pw_ok q b j = true) (e : pw_pl a i = pw_pl b j) : a = b ∧ i = j := by
  rcases pw_ok_lt h with ⟨h1, h2⟩ | ⟨rfl, rfl, h1⟩ | ⟨rfl, rfl, h1⟩ <;> rcases pw_ok_lt h' with ⟨h3, h4⟩ | ⟨rfl, rfl, h3⟩ | ⟨rfl, rfl, h3⟩
  · have e1 := (pw_pl_one h1 (pw_ok_lo h h1)).1
    have e2 := (pw_pl_one h3 (pw_ok_lo h' h3)).1
    rw [e, e2] at e1
    omega
  · have e1 := (pw_pl_one h1 (pw_ok_lo h h1)).2.2
    rw [e, pw_pl_hi (by omega)] at e1
    omega
  · have e1 := (pw_pl_one h1 (pw_ok_lo h h1)).2.2
    rw [e, pw_pl_hi (by omega)] at e1
    omega
  · have e1 := (pw_pl_one h3 (pw_ok_lo h' h3)).2.2
    rw [← e, pw_pl_hi (by omega)] at e1
    omega
  · exact ⟨rfl, rfl⟩
  · rw [pw_pl_hi (by omega), pw_pl_hi (by omega)] at e
    omega
  · have e1 := (pw_pl_one h3 (pw_ok_lo h' h3)).2.2
    rw [← e, pw_pl_hi (by omega)] at e1
    omega
  · rw [pw_pl_hi (by omega), pw_pl_hi (by omega)] at e
    omega
  · exact ⟨rfl, rfl⟩
theorem pw_W.g {q : Nat} {w : np_W} {S : pw_S} {a i : Nat} (h : pw_W q w S) (hok : pw_ok q a i = true) : w.2 (pw_pl a i) = some (pw_ent a i (S a i)) := h.2 a i hok
theorem pw_W.ga {q : Nat} {w : np_W} {S : pw_S} {a i : Nat} (h : pw_W q w S) (ha : pw_arr a = true) (hok : pw_ok q a i = true) : w.2 (pw_pl a i) = some (.inl (.int, pw_len a, .inl (S a i))) := by
  rw [h.2 a i hok, pw_ent_arr ha]
theorem pw_up_s (S : pw_S) (a i : Nat) (d : Nat → Int32) : pw_up S a i d a i = d := if_pos ⟨rfl, rfl⟩
theorem pw_up_n (S : pw_S) {a i b j : Nat} (d : Nat → Int32) (h : ¬ (b = a ∧ j = i)) : pw_up S a i d b j = S b j := if_neg h
theorem pw_wr {q n : Nat} {f : Nat → Option np_E} {S : pw_S} {a i : Nat} {d : Nat → Int32} {e : np_E} (hW : pw_W q (n, f) S) (hok : pw_ok q a i = true) (he : e = pw_ent a i d) {α : Type} {k : pw_S → pw_R α} {P : pw_S → α → Prop} {K : (Nat → Option np_E) → Prop} (h : pw_p (pw_l (pw_up S a i d) k) P) (H : ∀ S' f', pw_W q (n, f') S' → pw_p (k S') P → K f') : ∀ f', f' = np_up f (pw_pl a i) e → K f' := by
  intro f' hf
  refine H (pw_up S a i d) f' ⟨hW.1, fun b j hb => ?_⟩ h
  rw [hf]
  show np_up f (pw_pl a i) e (pw_pl b j) = _
  by_cases hbj : b = a ∧ j = i
  · obtain ⟨rfl, rfl⟩ := hbj
    rw [np_up_s, pw_up_s, he]
  · rw [np_up_n _ _ (fun z => hbj (pw_pl_inj hb hok z)), pw_up_n _ _ hbj]
    exact hW.2 b j hb
theorem pw_okl {q a b i : Nat} (h1 : Nat.blt a 62 = true) (h2 : Nat.blt b 62 = true) (h : Nat.ble (pw_cnt 0 a) (pw_cnt 0 b) = true) (hok : pw_ok q a i = true) : pw_ok q b i = true := by
  have h3 := pw_blt hok
  unfold pw_cnt at h3 h
  rw [h1] at h3 h
  rw [h2] at h
  refine Nat.ble_eq_true_of_le ?_
  unfold pw_cnt
  rw [h2]
  exact Nat.lt_of_lt_of_le h3 (Nat.le_of_ble_eq_true h)
theorem pw_okd {q a n : Nat} {x : Int32} (h1 : Nat.blt a 62 = true) (h0 : Nat.blt 0 n = true) (h : Nat.ble n (pw_cnt 0 a) = true) : pw_ok q a (pw_dn n x) = true := by
  refine Nat.ble_eq_true_of_le ?_
  have h2 := Nat.le_of_ble_eq_true h
  unfold pw_cnt at h2 ⊢
  rw [h1] at h2 ⊢
  exact Nat.lt_of_lt_of_le (Nat.mod_lt _ (pw_blt h0)) h2
theorem pw_okb {q a b n : Nat} {x : Int32} (h1 : Nat.blt a 62 = true) (h0 : Nat.blt 0 n = true) (h : Nat.ble (b + n) (pw_cnt 0 a) = true) : pw_ok q a (b + pw_dn n x) = true := by
  refine Nat.ble_eq_true_of_le ?_
  have h2 := Nat.le_of_ble_eq_true h
  have h3 : pw_dn n x < n := Nat.mod_lt _ (pw_blt h0)
  unfold pw_cnt at h2 ⊢
  rw [h1] at h2 ⊢
  dsimp only at h2 ⊢
  show b + pw_dn n x < _
  omega
theorem pw_dn_of {q a n i : Nat} (h1 : Nat.blt a 62 = true) (h : Nat.beq n (pw_cnt 0 a) = true) (hok : pw_ok q a i = true) : pw_dn n (Int32.ofNat i) = i ∧ ¬ Int32.ofNat i < 0 := by
  have h2 := Nat.eq_of_beq_eq_true h
  have h3 := pw_blt hok
  have h4 : i < 435 := by
    rcases pw_ok_lt hok with h5 | h5 | h5
    · exact h5.2
    · omega
    · omega
  unfold pw_cnt at h2 h3
  rw [h1] at h2 h3
  dsimp only at h2 h3
  have h6 : (Int32.ofNat i).toInt = i := Int32.toInt_ofNat_of_lt (by omega)
  refine ⟨?_, ?_⟩
  · unfold pw_dn
    rw [show (Int32.ofNat i).toNatClampNeg = i from by show (Int32.ofNat i).toInt.toNat = i; omega, h2]
    exact Nat.mod_eq_of_lt h3
  · rw [Int32.lt_iff_toInt_lt, h6]
    show ¬ (i : Int) < 0
    omega
/-! driving a mirrored program beside the machine -/
theorem pw_br {c : Prop} {i1 i2 : Decidable c} {α : Type} {x y : pw_R α} {P : pw_S → α → Prop} {A B : Prop} (h : pw_p (@ite _ c i2 x y) P) (h1 : c → pw_p x P → A) (h2 : ¬ c → pw_p y P → B) : np_br (@decide c i1) A B := by
  by_cases hc : c
  · rw [if_pos hc] at h
    rw [@decide_eq_true c i1 hc]
    exact h1 hc h
  · rw [if_neg hc] at h
    rw [@decide_eq_false c i1 hc]
    exact h2 hc h
theorem pw_ck {b : Bool} {α : Type} {o : pw_R α} {P : pw_S → α → Prop} {K : Prop} (h : pw_p (pw_c b o) P) (k : b = true → pw_p o P → K) : np_chk b K := by
  cases b
  · exact (pw_pn (P := P) h).elim
  · exact k rfl h
theorem pw_ck1 {b : Bool} {α : Type} {o : pw_R α} {P : pw_S → α → Prop} (h : pw_p (pw_c b o) P) : b = true ∧ pw_p o P := by
  cases b
  · exact (pw_pn (P := P) h).elim
  · exact ⟨rfl, h⟩
theorem pw_bd {α β : Type} {o : pw_R α} {k : pw_S → α → pw_R β} {P : pw_S → β → Prop} {R : pw_S → α → Prop} (h : pw_p (pw_b o k) P) (H : ∀ s r, pw_p (k s r) P → R s r) : pw_p o R := by
  cases o with
  | none => exact (pw_pn (P := P) h).elim
  | some q => exact pw_si (s := q.1) (r := q.2) (H q.1 q.2 h)
theorem pw_st {σ α : Type} {x : σ} {k : σ → pw_R α} {P : pw_S → α → Prop} {K : σ → Prop} (h : pw_p (pw_l x k) P) (H : ∀ y, pw_p (k y) P → K y) : ∀ y, y = x → K y := fun y e => by
  subst e
  exact H y h
theorem pw_on {α : Type} {a : pw_R α} {b : Nat → pw_R α} {P : pw_S → α → Prop} (h : pw_p (pw_o none a b) P) : pw_p a P := h
theorem pw_os {α : Type} {i : Nat} {a : pw_R α} {b : Nat → pw_R α} {P : pw_S → α → Prop} (h : pw_p (pw_o (some i) a b) P) : pw_p (b i) P := h
theorem pw_ei {α β : Type} {v : α} {a : α → pw_R β} {b : Nat → pw_R β} {P : pw_S → β → Prop} (h : pw_p (pw_e (.inl v) a b) P) : pw_p (a v) P := h
theorem pw_ee {α β : Type} {e : Nat} {a : α → pw_R β} {b : Nat → pw_R β} {P : pw_S → β → Prop} (h : pw_p (pw_e (.inr e) a b) P) : pw_p (b e) P := h
/-! the operations that look at worlds, with their reads and writes set apart -/
def np_rd (o : Option np_E) (k : np_E → Prop) : Prop := match o with
  | none => False
  | some e => k e
theorem np_rd_i {o : Option np_E} {e : np_E} {k : np_E → Prop} (h : o = some e) (hk : k e) : np_rd o k := by
  rw [h]
  exact hk
theorem np_rd_e {o : Option np_E} {k : np_E → Prop} (h : np_rd o k) : ∃ e, o = some e ∧ k e := by
  cases o with
  | none => exact h.elim
  | some e => exact ⟨e, rfl, h⟩
def nw_ist (len i : Nat) : np_Op := fun k pc L st w ce sl => match st with
  | .int x :: r => ∀ y, y = x → k (pc + len) (np_st1 L i (.int y)) r w ce sl
  | _ => False
theorem nw_ist_le {len i : Nat} : ∀ k pc L st w ce sl, nw_ist len i k pc L st w ce sl → np_ist len i k pc L st w ce sl := by
  intro k pc L st w ce sl h
  unfold nw_ist at h
  unfold np_ist
  split at h
  · exact h _ rfl
  · exact h.elim
def nw_iinc (i : Nat) (n : Int) : np_Op := fun k pc L st w ce sl => match np_lk L i with
  | some (.int x) => ∀ y, y = x + Int32.ofInt n → k (pc + 3) (np_st1 L i (.int y)) st w ce sl
  | _ => False
theorem nw_iinc_le {i : Nat} {n : Int} : ∀ k pc L st w ce sl, nw_iinc i n k pc L st w ce sl → np_iinc i n k pc L st w ce sl := by
  intro k pc L st w ce sl h
  unfold nw_iinc at h
  unfold np_iinc
  split at h
  · rename_i x hx
    simp only [hx]
    exact h _ rfl
  · exact h.elim
