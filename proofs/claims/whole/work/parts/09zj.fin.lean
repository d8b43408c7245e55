/-! THE PURE PART, zj: the beginning, and all calls -/
section FIN
variable {K : GK} {g : GM} {S : GS} {B : Nat}
theorem gGx_nr {o : Nat} {g : GM} {gi : Nat → Nat → Int32} {gr : Nat → Nat → Option Nat} {i k : Nat} : gR (gGx g o gi gr) (o + i) k = gr i k := by
  unfold gGx gR
  dsimp only
  rw [if_neg (by omega), Nat.add_sub_cancel_left]
theorem kt7_2 : ∀ i, i < 144 → (kt7 i).1 ≠ 2 := by decide +kernel
theorem kt7_5 : ∀ i, i < 144 → (kt7 i).1 = 5 → i = 10 ∨ i = 26 ∨ i = 44 ∨ i = 60 ∨ i = 76 ∨ i = 92 ∨ i = 108 ∨ i = 124 := by decide +kernel
theorem kt7_L : ∀ i, i < 144 → (kt7 i).1 = 5 → kt7 i = (5, 0) ∧ kt7 (i + 1) = (13, 10) ∧ kt7 (i + 2) = (10, 10) ∧ kt7 (i + 3) = (10, 3) ∧ kt7 (i + 4) = (10, 6) ∧ kt7 (i + 5) = (10, 6) ∧ kt7 (i + 6) = (10, 6) ∧ kt7 (i + 7) = (10, 6) ∧ kt7 (i + 8) = (12, 400) ∧ kt7 (i + 9) = (1, 0) ∧ kt7 (i + 10) = (10, 9) ∧ kt7 (i + 11) = (10, 9) ∧ kt7 (i + 12) = (10, 9) ∧ kt7 (i + 13) = (10, 36) ∧ kt7 (i + 14) = (10, 36) ∧ kt7 (i + 15) = (13, 9) := by
  intro i hi h5
  rcases kt7_5 i hi h5 with h | h | h | h | h | h | h | h <;> subst h <;> exact ⟨rfl, rfl, rfl, rfl, rfl, rfl, rfl, rfl, rfl, rfl, rfl, rfl, rfl, rfl, rfl, rfl⟩
theorem k0_a {i : Nat} (h : i < 144) : (k0 B).1 (B + i) = kt7 i := by
  unfold k0
  dsimp only
  rw [if_neg (by omega), if_pos (by omega), Nat.add_sub_cancel_left]
theorem k0_n {q : Nat} (h : q < B ∨ B + 144 ≤ q) : (k0 B).1 q = (0, 0) := by
  unfold k0
  dsimp only
  rcases h with h | h
  · rw [if_pos h]
  · rw [if_neg (by omega), if_neg (by omega)]
theorem k0_c {q : Nat} (h : gkd (k0 B) q ≠ 0) : ∃ i, i < 144 ∧ q = B + i ∧ gkd (k0 B) q = (kt7 i).1 := by
  by_cases hr : q < B ∨ B + 144 ≤ q
  · exact absurd (by unfold gkd; rw [k0_n hr]) h
  · refine ⟨q - B, by omega, by omega, ?_⟩
    unfold gkd
    rw [show q = B + (q - B) by omega, k0_a (by omega), Nat.add_sub_cancel_left]
theorem lyt_0 : LYT (k0 B) B := by
  have K2 : (k0 B).2 = B + 155 := rfl
  have N2 : ∀ t, gkd (k0 B) t = 2 → False := fun t ht => by
    obtain ⟨i, h1, h2, h3⟩ := k0_c (B := B) (q := t) (by rw [ht]; decide)
    exact kt7_2 i h1 (h3.symm.trans ht)
  have N5 : ∀ a, gkd (k0 B) a = 5 → ∃ i, i < 144 ∧ a = B + i ∧ (kt7 i).1 = 5 := fun a ha => by
    obtain ⟨i, h1, h2, h3⟩ := k0_c (B := B) (q := a) (by rw [ha]; decide)
    exact ⟨i, h1, h2, h3.symm.trans ha⟩
  refine ⟨fun i hi => k0_a hi, Nat.le_of_eq K2.symm, fun q hq => k0_n (by omega), fun t ht => (N2 t ht).elim, fun a ha => ?_, fun a t _ ht => (N2 t ht).elim, fun a b ha hb hne => ?_⟩
  · obtain ⟨i, h1, rfl, h3⟩ := N5 a ha
    have h5 := kt7_5 i h1 h3
    refine ⟨?_, by omega⟩
    unfold LK
    rw [Nat.add_assoc B i 1, Nat.add_assoc B i 2, Nat.add_assoc B i 3, Nat.add_assoc B i 4, Nat.add_assoc B i 5, Nat.add_assoc B i 6, Nat.add_assoc B i 7, Nat.add_assoc B i 8, Nat.add_assoc B i 9, Nat.add_assoc B i 10, Nat.add_assoc B i 11, Nat.add_assoc B i 12, Nat.add_assoc B i 13, Nat.add_assoc B i 14, Nat.add_assoc B i 15]
    rw [k0_a (show i < 144 by omega), k0_a (show i + 1 < 144 by omega), k0_a (show i + 2 < 144 by omega), k0_a (show i + 3 < 144 by omega), k0_a (show i + 4 < 144 by omega), k0_a (show i + 5 < 144 by omega), k0_a (show i + 6 < 144 by omega), k0_a (show i + 7 < 144 by omega), k0_a (show i + 8 < 144 by omega), k0_a (show i + 9 < 144 by omega), k0_a (show i + 10 < 144 by omega), k0_a (show i + 11 < 144 by omega), k0_a (show i + 12 < 144 by omega), k0_a (show i + 13 < 144 by omega), k0_a (show i + 14 < 144 by omega), k0_a (show i + 15 < 144 by omega)]
    exact kt7_L i h1 h3
  · obtain ⟨i, h1, rfl, h3⟩ := N5 a ha
    obtain ⟨j, h1', rfl, h3'⟩ := N5 b hb
    have h5 := kt7_5 i h1 h3
    have h5' := kt7_5 j h1' h3'
    omega
theorem row_0 : ∀ j, j < 43 → (j < 3 ∨ j = 6 ∨ j = 7 ∨ 9 ≤ j) → S0 1 j = giLm (cm j).1 (cm j).2 := by decide +kernel
theorem row_z : ∀ j, (j = 3 ∨ j = 4 ∨ j = 5 ∨ j = 8 ∨ 43 ≤ j) → S0 1 j = nI 0 := by
  intro j hj
  show upd (upd (upd (upd (upd (upd (upd (upd (upd (fun _ => 0) 0 5) 1 20) 2 10) 19 50) 20 50) 21 50) 22 50) 23 50) 24 50 j = _
  rw [pk_un (by omega), pk_un (by omega), pk_un (by omega), pk_un (by omega), pk_un (by omega), pk_un (by omega), pk_un (by omega), pk_un (by omega), pk_un (by omega)]
  rfl
theorem sim_0 : SIM (k0 B) (g0 B) S0 B := by
  have gi : ∀ i k, gI (g0 B) (B + i) k = gi7 i k := fun i k => gGx_n
  have gr : ∀ i k, gR (g0 B) (B + i) k = gr7 B i k := fun i k => gGx_nr
  have gl : ∀ x k, x < 16 → gI (g0 B) (B + 10 + x) k = giLm x k := fun x k hx => by
    rw [show B + 10 + x = B + (10 + x) by omega, gi]
    unfold gi7
    rw [if_neg (by omega), if_pos (by omega), Nat.add_sub_cancel_left]
  have gn : ∀ i k, i ≠ 43 → gR (g0 B) (B + i) k = none := fun i k hi => by
    rw [gr]
    unfold gr7
    rw [if_neg hi]
  refine ⟨lyt_0, ⟨0, 0, ⟨fun j hj => ?_, ⟨5, by omega, rfl⟩, ⟨by omega, ?_, row_z 4 (by omega), fun k hk => absurd hk (Nat.not_lt_zero k)⟩, ?_, fun k hk => Or.inl ⟨?_, row_z _ (by omega)⟩⟩, ⟨?_, row_z 3 (by omega), by omega, fun j hj => by omega, fun j hj => by omega⟩, ?_, fun j hj t ht => ?_⟩, ⟨0, fun j => B + 44 + 16 * j, by omega, ?_, rfl, fun j hj => ⟨?_, ?_, by dsimp only; omega, by dsimp only; omega⟩, fun i j hi hj h => by dsimp only at h; omega, fun j hj => absurd hj (Nat.not_lt_zero j)⟩, ⟨fun i hi => Or.inl ⟨gn 140 i (by decide), rfl⟩, fun a ha => ?_⟩, fun _ => 0, 0, ⟨?_, by omega, ?_, fun k hk => absurd hk (Nat.not_lt_zero k)⟩, by omega, rfl, fun k hk => absurd hk (Nat.not_lt_zero k)⟩
  · have rg := cm_rg hj
    rw [gl _ _ (by omega)]
    unfold stat at hj
    exact row_0 j (by omega) (by omega)
  · have := gl 0 9 (by omega)
    exact this
  · rw [row_z 5 (by omega)]
    unfold sum6
    rw [gl 7 0 (by omega), gl 7 1 (by omega), gl 7 2 (by omega), gl 7 3 (by omega), gl 7 4 (by omega), gl 7 5 (by omega)]
    rfl
  · exact gn 11 k (by decide)
  · exact gl 9 6 (by omega)
  · rw [row_z 8 (by omega)]
    exact (gl 0 12 (by omega)).symm
  · rw [show gR (g0 B) (B + 10 + 15) j = none from gn 25 j (by decide)] at ht
    cases ht
  · rw [gi]
    rfl
  · rw [gr]
    rcases (by omega : j = 0 ∨ j = 1 ∨ j = 2 ∨ j = 3 ∨ j = 4 ∨ j = 5) with h | h | h | h | h | h <;> subst h <;> rfl
  · dsimp only
    unfold gkd
    rw [show B + 44 + 16 * j = B + (44 + 16 * j) by omega, k0_a (by omega)]
    rcases (by omega : j = 0 ∨ j = 1 ∨ j = 2 ∨ j = 3 ∨ j = 4 ∨ j = 5) with h | h | h | h | h | h <;> subst h <;> rfl
  · rw [gn 140 0 (by decide)] at ha
    cases ha
  · unfold gkd
    rw [k0_a (by omega)]
    rfl
  · rw [gi]
    rfl
/-! a call -/
theorem f_st {kk : GK → GM → GS → Option Int32} {X : Option (GM × Int32)} {Y : Option (GS × Int32)} (h : OPR K B X Y) (hk : ∀ g' S', SIM K g' S' B → kk K g' S' = some 1) : X.bind (fun r2 => Y.bind (fun r4 => if r2.2 = r4.2 then kk K r2.1 r4.1 else some 0)) = some 1 := by
  obtain ⟨g', S', r, h1, h2, h3⟩ := h
  rw [h1]
  simp only [EV]
  rw [h2]
  simp only [EV, if_true]
  exact hk g' S' h3
theorem f_ro {kk : GK → GM → GS → Option Int32} {X Y : Option Int32} (h : ∃ r, X = some r ∧ Y = some r) (hk : kk K g S = some 1) : X.bind (fun r2 => Y.bind (fun r4 => if r2 = r4 then kk K g S else some 0)) = some 1 := by
  obtain ⟨r, h1, h2⟩ := h
  rw [h1]
  simp only [EV]
  rw [h2]
  simp only [EV, if_true]
  exact hk
theorem f_kk {kk : GK → GM → GS → Option Int32} {X : Option (GK × GM × Int32)} {Y : Option (GS × Int32)} (h : OPK B X Y) (hk : ∀ K' g' S', SIM K' g' S' B → kk K' g' S' = some 1) : X.bind (fun r2 => gd (decide (gkd r2.1 B = 8)) (Y.bind (fun r5 => if r2.2.2 = r5.2 then kk r2.1 r2.2.1 r5.1 else some 0))) = some 1 := by
  obtain ⟨K', g', S', r, h1, h2, h3⟩ := h
  have k8 : gkd K' B = 8 := by unfold gkd; rw [show B = B + 0 from rfl, h3.1.1 0 (by omega)]; rfl
  rw [h1]
  simp only [EV]
  rw [k8, h2]
  simp only [EV, decide_true, if_true]
  exact hk K' g' S' h3
theorem law_all (xs : Nat → Int32) (L : Nat) (hL : L ≤ 1536) : ∀ n i K g S, SIM K g S B → i ≤ L + 3 → L + 3 - i < 3 * n → fLaw xs L B n K g S (nI i) = some 1 := by
  intro n
  induction n with
  | zero => intro i K g S _ _ h; omega
  | succ n ih =>
    intro i K g S hS hi hn
    rw [fLaw]
    by_cases hz : nI L - 3 < nI i
    · rw [if_pos hz]
    · rw [if_neg hz]
      have hi3 : i + 3 ≤ L := by
        apply Classical.byContradiction
        intro h
        apply hz
        rw [Int32.lt_iff_toInt_lt, show nI L - 3 = nI L - nI 3 from rfl, pk_sub_toInt (by omega) (by omega), nI_toInt (by omega)]
        omega
      have NX : ∀ K' g' S', SIM K' g' S' B → fLaw xs L B n K' g' S' (nI i + 3) = some 1 := fun K' g' S' h => by
        rw [show nI i + 3 = nI (i + 3) from nI_add i 3]
        exact ih (i + 3) K' g' S' h (by omega) (by omega)
      have i1 : nI i + 1 = nI (i + 1) := nI_add i 1
      have i2 : nI i + 2 = nI (i + 2) := nI_add i 2
      have g0' : gok (nI i) L = true := pu_gok (by omega) (by omega)
      have g1' : gok (nI i + 1) L = true := by rw [i1]; exact pu_gok (by omega) (by omega)
      have g2' : gok (nI i + 2) L = true := by rw [i2]; exact pu_gok (by omega) (by omega)
      rw [g0']
      simp only [EV]
      by_cases c0 : xs (nI i).toNatClampNeg &&& 31 = 0
      · rw [if_pos c0]; unfold fL_0; rw [g1', g2']; simp only [EV]; exact f_st (kk := fun K g S => fLaw xs L B n K g S (nI i + 3)) (op_set hS _ _) (fun g' S' h => NX K g' S' h)
      rw [if_neg c0]
      by_cases c1 : xs (nI i).toNatClampNeg &&& 31 = 1
      · rw [if_pos c1]; unfold fL_1; rw [g1']; simp only [EV]; exact f_kk (kk := fun K g S => fLaw xs L B n K g S (nI i + 3)) (op_card hS _) NX
      rw [if_neg c1]
      by_cases c2 : xs (nI i).toNatClampNeg &&& 31 = 2
      · rw [if_pos c2]; unfold fL_2; rw [g1']; simp only [EV]; exact f_st (kk := fun K g S => fLaw xs L B n K g S (nI i + 3)) (op_blank hS _) (fun g' S' h => NX K g' S' h)
      rw [if_neg c2]
      by_cases c3 : xs (nI i).toNatClampNeg &&& 31 = 3
      · rw [if_pos c3]; unfold fL_3; rw [g1']; simp only [EV]; exact f_st (kk := fun K g S => fLaw xs L B n K g S (nI i + 3)) (op_begin hS _) (fun g' S' h => NX K g' S' h)
      rw [if_neg c3]
      by_cases c4 : xs (nI i).toNatClampNeg &&& 31 = 4
      · rw [if_pos c4]; unfold fL_4; rw [g1']; simp only [EV]; exact f_st (kk := fun K g S => fLaw xs L B n K g S (nI i + 3)) (op_weave hS _) (fun g' S' h => NX K g' S' h)
      rw [if_neg c4]
      by_cases c5 : xs (nI i).toNatClampNeg &&& 31 = 5
      · rw [if_pos c5]; unfold fL_5; exact f_st (kk := fun K g S => fLaw xs L B n K g S (nI i + 3)) (op_skip hS) (fun g' S' h => NX K g' S' h)
      rw [if_neg c5]
      by_cases c6 : xs (nI i).toNatClampNeg &&& 31 = 6
      · rw [if_pos c6]; unfold fL_6; rw [g1', g2']; simp only [EV]; exact f_st (kk := fun K g S => fLaw xs L B n K g S (nI i + 3)) (op_tie hS _ _) (fun g' S' h => NX K g' S' h)
      rw [if_neg c6]
      by_cases c7 : xs (nI i).toNatClampNeg &&& 31 = 7
      · rw [if_pos c7]; unfold fL_7; exact f_st (kk := fun K g S => fLaw xs L B n K g S (nI i + 3)) (op_cut hS) (fun g' S' h => NX K g' S' h)
      rw [if_neg c7]
      by_cases c8 : xs (nI i).toNatClampNeg &&& 31 = 8
      · rw [if_pos c8]; unfold fL_8; rw [g1', g2']; simp only [EV]; exact f_ro (kk := fun K g S => fLaw xs L B n K g S (nI i + 3)) (op_of hS _ _) (NX K g S hS)
      rw [if_neg c8]
      by_cases c9 : xs (nI i).toNatClampNeg &&& 31 = 9
      · rw [if_pos c9]; unfold fL_9; rw [g1', g2']; simp only [EV]; exact f_ro (kk := fun K g S => fLaw xs L B n K g S (nI i + 3)) (op_stack hS _ _) (NX K g S hS)
      rw [if_neg c9]
      by_cases c10 : xs (nI i).toNatClampNeg &&& 31 = 10
      · rw [if_pos c10]; unfold fL_10; rw [g1', g2']; simp only [EV]; exact f_ro (kk := fun K g S => fLaw xs L B n K g S (nI i + 3)) (op_thread hS _ _) (NX K g S hS)
      rw [if_neg c10]
      by_cases c11 : xs (nI i).toNatClampNeg &&& 31 = 11
      · rw [if_pos c11]; unfold fL_11; rw [g1']; simp only [EV]; exact f_ro (kk := fun K g S => fLaw xs L B n K g S (nI i + 3)) (op_pick hS _) (NX K g S hS)
      rw [if_neg c11]
      by_cases c12 : xs (nI i).toNatClampNeg &&& 31 = 12
      · rw [if_pos c12]; unfold fL_12; rw [g1']; simp only [EV]; exact f_ro (kk := fun K g S => fLaw xs L B n K g S (nI i + 3)) (op_byEnd hS _) (NX K g S hS)
      rw [if_neg c12]
      by_cases c13 : xs (nI i).toNatClampNeg &&& 31 = 13
      · rw [if_pos c13]; unfold fL_13; rw [g1']; simp only [EV]; exact f_ro (kk := fun K g S => fLaw xs L B n K g S (nI i + 3)) (op_byCloth hS _) (NX K g S hS)
      rw [if_neg c13]
      by_cases c14 : xs (nI i).toNatClampNeg &&& 31 = 14
      · rw [if_pos c14]; unfold fL_14; rw [g1']; simp only [EV]; exact f_st (kk := fun K g S => fLaw xs L B n K g S (nI i + 3)) (op_write hS _) (fun g' S' h => NX K g' S' h)
      rw [if_neg c14]
      by_cases c15 : xs (nI i).toNatClampNeg &&& 31 = 15
      · rw [if_pos c15]; unfold fL_15; rw [g1']; simp only [EV]; exact f_ro (kk := fun K g S => fLaw xs L B n K g S (nI i + 3)) (op_sign hS _) (NX K g S hS)
      rw [if_neg c15]
      by_cases c16 : xs (nI i).toNatClampNeg &&& 31 = 16
      · rw [if_pos c16]; unfold fL_16; rw [g1']; simp only [EV]; exact f_ro (kk := fun K g S => fLaw xs L B n K g S (nI i + 3)) (op_count hS _) (NX K g S hS)
      rw [if_neg c16]
      by_cases c17 : xs (nI i).toNatClampNeg &&& 31 = 17
      · rw [if_pos c17]; unfold fL_17; rw [g1', g2']; simp only [EV]; exact f_st (kk := fun K g S => fLaw xs L B n K g S (nI i + 3)) (op_picks hS _ _) (fun g' S' h => NX K g' S' h)
      rw [if_neg c17]
      by_cases c18 : xs (nI i).toNatClampNeg &&& 31 = 18
      · rw [if_pos c18]; unfold fL_18; rw [g1']; simp only [EV]; exact f_st (kk := fun K g S => fLaw xs L B n K g S (nI i + 3)) (op_depth hS _) (fun g' S' h => NX K g' S' h)
      rw [if_neg c18]
      by_cases c19 : xs (nI i).toNatClampNeg &&& 31 = 19
      · rw [if_pos c19]; unfold fL_19; rw [g1']; simp only [EV]; exact f_ro (kk := fun K g S => fLaw xs L B n K g S (nI i + 3)) (op_reaches hS _) (NX K g S hS)
      rw [if_neg c19]
      by_cases c20 : xs (nI i).toNatClampNeg &&& 31 = 20
      · rw [if_pos c20]; unfold fL_20; rw [g1']; simp only [EV]; exact f_st (kk := fun K g S => fLaw xs L B n K g S (nI i + 3)) (op_stop hS _) (fun g' S' h => NX K g' S' h)
      rw [if_neg c20]
      by_cases c21 : xs (nI i).toNatClampNeg &&& 31 = 21
      · rw [if_pos c21]; unfold fL_21; rw [g1']; simp only [EV]; exact f_st (kk := fun K g S => fLaw xs L B n K g S (nI i + 3)) (op_ahead hS _) (fun g' S' h => NX K g' S' h)
      rw [if_neg c21]
      by_cases c22 : xs (nI i).toNatClampNeg &&& 31 = 22
      · rw [if_pos c22]; unfold fL_22; rw [g1', g2']; simp only [EV]; exact f_st (kk := fun K g S => fLaw xs L B n K g S (nI i + 3)) (op_put hS _) (fun g' S' h => NX K g' S' h)
      rw [if_neg c22]
      by_cases c23 : xs (nI i).toNatClampNeg &&& 31 = 23
      · rw [if_pos c23]; unfold fL_23; exact f_st (kk := fun K g S => fLaw xs L B n K g S (nI i + 3)) (op_wipe hS) (fun g' S' h => NX K g' S' h)
      rw [if_neg c23]
      by_cases c24 : xs (nI i).toNatClampNeg &&& 31 = 24
      · rw [if_pos c24]; unfold fL_24; exact f_st (kk := fun K g S => fLaw xs L B n K g S (nI i + 3)) (op_fault hS) (fun g' S' h => NX K g' S' h)
      rw [if_neg c24]
      by_cases c25 : xs (nI i).toNatClampNeg &&& 31 = 25
      · rw [if_pos c25]; unfold fL_25; exact f_st (kk := fun K g S => fLaw xs L B n K g S (nI i + 3)) (op_undo hS) (fun g' S' h => NX K g' S' h)
      rw [if_neg c25]
      by_cases c26 : xs (nI i).toNatClampNeg &&& 31 = 26
      · rw [if_pos c26]; unfold fL_26; rw [g1']; simp only [EV]; exact f_kk (kk := fun K g S => fLaw xs L B n K g S (nI i + 3)) (op_save hS _) NX
      rw [if_neg c26]
      by_cases c27 : xs (nI i).toNatClampNeg &&& 31 = 27
      · rw [if_pos c27]; unfold fL_27; rw [g1']; simp only [EV]; exact f_st (kk := fun K g S => fLaw xs L B n K g S (nI i + 3)) (op_restore hS _) (fun g' S' h => NX K g' S' h)
      rw [if_neg c27]
      exact NX K g S hS
end FIN
