/-! THE PURE PART, zj: the beginning, and all calls -/
/-- the reference's rows at its start -/
def S0 : GS := fun k => match k with
  | 1 => (upd (upd (upd (upd (upd (upd (upd (upd (upd (fun _ => 0) 0 5) 1 20) 2 10) 19 50) 20 50) 21 50) 22 50) 23 50) 24 50)
  | _ => fun _ => 0
section FIN
variable {K : GK} {g : GM} {S : GS} {B : Nat}
theorem gGx_nr {o : Nat} {g : GM} {gi : Nat → Nat → Int32} {gr : Nat → Nat → Option Nat} {i k : Nat} : gR (gGx g o gi gr) (o + i) k = gr i k := by
  unfold gGx gR
  dsimp only
  rw [if_neg (by omega), Nat.add_sub_cancel_left]
theorem kt7_2 : ∀ i, i < 144 → (kt7 i).1 ≠ 2 := by decide +kernel
theorem kt7_5 : ∀ i, i < 144 → (kt7 i).1 = 5 → i = 10 ∨ i = 26 ∨ i = 44 ∨ i = 60 ∨ i = 76 ∨ i = 92 ∨ i = 108 ∨ i = 124 := by decide +kernel
theorem kt7_L : ∀ i, i < 144 → (kt7 i).1 = 5 → kt7 i = (5, 0) ∧ kt7 (i + 1) = (13, 10) ∧ kt7 (i + 2) = (10, 10) ∧ kt7 (i + 3) = (10, 3) ∧ kt7 (i + 4) = (10, 6) ∧ kt7 (i + 5) = (10, 6) ∧ kt7 (i + 6) = (10, 6) ∧ kt7 (i + 7) = (10, 6) ∧ kt7 (i + 8) = (12, 400) ∧ kt7 (i + 9) = (1, 0) ∧ kt7 (i + 10) = (10, 9) ∧ kt7 (i + 11) = (10, 9) ∧ kt7 (i + 12) = (10, 9) ∧ kt7 (i + 13) = (10, 36) ∧ kt7 (i + 14) = (10, 36) ∧ kt7 (i + 15) = (13, 9) := by
  intro i hi h5
  rcases kt7_5 i hi h5 with h | h | h | h | h | h | h | h <;> subst h <;> exact ⟨rfl, rfl, rfl, rfl, rfl, rfl, rfl, rfl, rfl, rfl, rfl, rfl, rfl, rfl, rfl, rfl⟩
theorem k0_a {i : Nat} (h : i < 144) : (k0 B).1 (B + i) = kt7 i := by
  unfold k0
  dsimp only
  rw [if_neg (by omega), if_pos (by omega), Nat.add_sub_cancel_left]
theorem k0_n {q : Nat} (h : q < B ∨ B + 144 ≤ q) : (k0 B).1 q = (0, 0) := by
  unfold k0
  dsimp only
  rcases h with h | h
  · rw [if_pos h]
  · rw [if_neg (by omega), if_neg (by omega)]
theorem k0_c {q : Nat} (h : gkd (k0 B) q ≠ 0) : ∃ i, i < 144 ∧ q = B + i ∧ gkd (k0 B) q = (kt7 i).1 := by
  by_cases hr : q < B ∨ B + 144 ≤ q
  · exact absurd (by unfold gkd; rw [k0_n hr]) h
  · refine ⟨q - B, by omega, by omega, ?_⟩
    unfold gkd
    rw [show q = B + (q - B) by omega, k0_a (by omega), Nat.add_sub_cancel_left]
theorem lyt_0 : LYT (k0 B) B := by
  have K2 : (k0 B).2 = B + 152 := rfl
  have N2 : ∀ t, gkd (k0 B) t = 2 → False := fun t ht => by
    obtain ⟨i, h1, h2, h3⟩ := k0_c (B := B) (q := t) (by rw [ht]; decide)
    exact kt7_2 i h1 (h3.symm.trans ht)
  have N5 : ∀ a, gkd (k0 B) a = 5 → ∃ i, i < 144 ∧ a = B + i ∧ (kt7 i).1 = 5 := fun a ha => by
    obtain ⟨i, h1, h2, h3⟩ := k0_c (B := B) (q := a) (by rw [ha]; decide)
    exact ⟨i, h1, h2, h3.symm.trans ha⟩
  refine ⟨fun i hi => k0_a hi, Nat.le_of_eq K2.symm, fun q hq => k0_n (by omega), fun t ht => (N2 t ht).elim, fun a ha => ?_, fun a t _ ht => (N2 t ht).elim, fun a b ha hb hne => ?_⟩
  · obtain ⟨i, h1, rfl, h3⟩ := N5 a ha
    have h5 := kt7_5 i h1 h3
    refine ⟨?_, by omega⟩
    unfold LK
    rw [Nat.add_assoc B i 1, Nat.add_assoc B i 2, Nat.add_assoc B i 3, Nat.add_assoc B i 4, Nat.add_assoc B i 5, Nat.add_assoc B i 6, Nat.add_assoc B i 7, Nat.add_assoc B i 8, Nat.add_assoc B i 9, Nat.add_assoc B i 10, Nat.add_assoc B i 11, Nat.add_assoc B i 12, Nat.add_assoc B i 13, Nat.add_assoc B i 14, Nat.add_assoc B i 15]
    rw [k0_a (show i < 144 by omega), k0_a (show i + 1 < 144 by omega), k0_a (show i + 2 < 144 by omega), k0_a (show i + 3 < 144 by omega), k0_a (show i + 4 < 144 by omega), k0_a (show i + 5 < 144 by omega), k0_a (show i + 6 < 144 by omega), k0_a (show i + 7 < 144 by omega), k0_a (show i + 8 < 144 by omega), k0_a (show i + 9 < 144 by omega), k0_a (show i + 10 < 144 by omega), k0_a (show i + 11 < 144 by omega), k0_a (show i + 12 < 144 by omega), k0_a (show i + 13 < 144 by omega), k0_a (show i + 14 < 144 by omega), k0_a (show i + 15 < 144 by omega)]
    exact kt7_L i h1 h3
  · obtain ⟨i, h1, rfl, h3⟩ := N5 a ha
    obtain ⟨j, h1', rfl, h3'⟩ := N5 b hb
    have h5 := kt7_5 i h1 h3
    have h5' := kt7_5 j h1' h3'
    omega
theorem row_0 : ∀ j, j < 43 → (j < 3 ∨ j = 6 ∨ j = 7 ∨ 9 ≤ j) → S0 1 j = giLm (cm j).1 (cm j).2 := by decide +kernel
theorem row_z : ∀ j, (j = 3 ∨ j = 4 ∨ j = 5 ∨ j = 8 ∨ 43 ≤ j) → S0 1 j = nI 0 := by
  intro j hj
  show upd (upd (upd (upd (upd (upd (upd (upd (upd (fun _ => 0) 0 5) 1 20) 2 10) 19 50) 20 50) 21 50) 22 50) 23 50) 24 50 j = _
  rw [pk_un (by omega), pk_un (by omega), pk_un (by omega), pk_un (by omega), pk_un (by omega), pk_un (by omega), pk_un (by omega), pk_un (by omega), pk_un (by omega)]
  rfl
theorem sim_0 : SIM (k0 B) (g0 B) S0 B := by
  have gi : ∀ i k, gI (g0 B) (B + i) k = gi7 i k := fun i k => gGx_n
  have gr : ∀ i k, gR (g0 B) (B + i) k = gr7 B i k := fun i k => gGx_nr
  have gl : ∀ x k, x < 16 → gI (g0 B) (B + 10 + x) k = giLm x k := fun x k hx => by
    rw [show B + 10 + x = B + (10 + x) by omega, gi]
    unfold gi7
    rw [if_neg (by omega), if_pos (by omega), Nat.add_sub_cancel_left]
  have gn : ∀ i k, i ≠ 43 → gR (g0 B) (B + i) k = none := fun i k hi => by
    rw [gr]
    unfold gr7
    rw [if_neg hi]
  refine ⟨lyt_0, ⟨0, 0, ⟨fun j hj => ?_, ⟨5, by omega, rfl⟩, ⟨by omega, ?_, row_z 4 (by omega), fun k hk => absurd hk (Nat.not_lt_zero k)⟩, ?_, fun k hk => Or.inl ⟨?_, row_z _ (by omega)⟩⟩, ⟨?_, row_z 3 (by omega), by omega, fun j hj => by omega, fun j hj => by omega⟩, ?_, fun j hj t ht => ?_⟩, ⟨0, fun j => B + 44 + 16 * j, by omega, ?_, rfl, fun j hj => ⟨?_, ?_, by dsimp only; omega, by dsimp only; omega⟩, fun i j hi hj h => by dsimp only at h; omega, fun j hj => absurd hj (Nat.not_lt_zero j)⟩, ⟨fun i hi => Or.inl ⟨gn 140 i (by decide), rfl⟩, fun a ha => ?_⟩, fun _ => 0, 0, ⟨?_, by omega, ?_, fun k hk => absurd hk (Nat.not_lt_zero k)⟩, by omega, rfl, fun k hk => absurd hk (Nat.not_lt_zero k)⟩
  · have rg := cm_rg hj
    rw [gl _ _ (by omega)]
    unfold stat at hj
    exact row_0 j (by omega) (by omega)
  · have := gl 0 9 (by omega)
    exact this
  · rw [row_z 5 (by omega)]
    unfold sum6
    rw [gl 7 0 (by omega), gl 7 1 (by omega), gl 7 2 (by omega), gl 7 3 (by omega), gl 7 4 (by omega), gl 7 5 (by omega)]
    rfl
  · exact gn 11 k (by decide)
  · exact gl 9 6 (by omega)
  · rw [row_z 8 (by omega)]
    exact (gl 0 12 (by omega)).symm
  · rw [show gR (g0 B) (B + 10 + 15) j = none from gn 25 j (by decide)] at ht
    cases ht
  · rw [gi]
    rfl
  · rw [gr]
    rcases (by omega : j = 0 ∨ j = 1 ∨ j = 2 ∨ j = 3 ∨ j = 4 ∨ j = 5) with h | h | h | h | h | h <;> subst h <;> rfl
  · dsimp only
    unfold gkd
    rw [show B + 44 + 16 * j = B + (44 + 16 * j) by omega, k0_a (by omega)]
    rcases (by omega : j = 0 ∨ j = 1 ∨ j = 2 ∨ j = 3 ∨ j = 4 ∨ j = 5) with h | h | h | h | h | h <;> subst h <;> rfl
  · rw [gn 140 0 (by decide)] at ha
    cases ha
  · unfold gkd
    rw [k0_a (by omega)]
    rfl
  · rw [gi]
    rfl
end FIN
