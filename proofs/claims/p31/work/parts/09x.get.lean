/-! THE PURE PART, x: what there is -/
section GET
variable {K : GK} {g g' : GM} {S S' : GS} {B a b h c d L k n : Nat} {s s' : Nat → Int32} {sn : Nat → Nat}
theorem z10f : (nI 1 = nI 0) = False := eq_false z10
theorem op_pick (hS : SIM K g S B) (x : Int32) : ∃ r, f7_pick K g B x = some r ∧ f8_pick S x = some r := by
  obtain ⟨c, d, hB, -⟩ := hS.2.1
  obtain ⟨c4, c9, cs4, cl⟩ := hB.2.2.1
  unfold f7_pick f8_pick
  rw [c9]
  simp (disch := omega) only [pu_lit, EV, pu_gok, pu_cl, cs4]
  rcases rgs x (n := c) (by omega) with ⟨e1, e2⟩ | ⟨j, hj, rfl, e1, e2⟩
  · refine ⟨-nI 1, ?_, ?_⟩
    · rw [e1]; rfl
    · rw [e2]; rfl
  · obtain ⟨v, v6, z1, z2⟩ := cl j hj
    have z1' : gI g (B + 18) j = nI v := z1
    refine ⟨nI v, ?_, ?_⟩
    · rw [e1]
      simp (disch := omega) only [EV, pu_gok, pu_cl, z1']
      simp (disch := omega) [pu_eq]
    · rw [e2]
      simp (disch := omega) only [EV, NUM, pu_gok, pu_cl, z2]
      simp (disch := omega) [pu_eq]
theorem op_stack (hS : SIM K g S B) (x y : Int32) : ∃ r, f7_stack K g B x y = some r ∧ f8_stack S x y = some r := by
  obtain ⟨c, d, -, hT, -⟩ := hS.2.1
  obtain ⟨d6, d3, d9, h4, h5⟩ := hT
  have d6' : gI g (B + 19) 6 = nI d := d6
  have F : ∀ i, i < d → ∃ t n sn p m, FR1 K g (B + 10 + 9) (S 1) i t n sn p m := fun i hi => by
    by_cases e : i + 1 = d
    · obtain ⟨t, n, sn, p, m, z, -⟩ := h5 i e
      exact ⟨t, n, sn, p, m, z⟩
    · obtain ⟨t, n, sn, p, m, z, -⟩ := h4 i (by omega)
      exact ⟨t, n, sn, p, m, z⟩
  unfold f7_stack f8_stack f8_frame
  rw [d6']
  simp (disch := omega) only [pu_lit, EV, pu_gok, pu_cl, d3]
  rcases rgs x (n := d) (by omega) with ⟨e1, e2⟩ | ⟨j, hj, rfl, e1, e2⟩
  · refine ⟨-nI 1, ?_, ?_⟩
    · rw [e1]; rfl
    · rw [e2]; rfl
  · rw [e1, e2]
    obtain ⟨t, n, sn, p, m, hf⟩ := F (d - 1 - j) (by omega)
    have hm := hf.m3
    have sp := cl_spot hf (by omega)
    obtain ⟨h1, h2, h3, ⟨col, c6, hc, hc'⟩, -, h6, h7, h8, h9, -⟩ := hf
    have bnd : 1253 + 92 * (d - 1 - j) + 4 < 2081 := by omega
    simp (disch := omega) only [EV, NUM, pk_sub, z10f, if_false]
    by_cases y0 : y = nI 0
    · refine ⟨S 1 (fb (d - 1 - j)), ?_, ?_⟩
      · rw [if_pos y0]
        simp (disch := omega) only [EV, pu_gok, pu_cl]
        rw [h3]
      · rw [if_pos y0]
        simp (disch := omega) only [EV, NUM, pu_gok, pu_cl, Nat.add_zero]
    rw [if_neg y0, if_neg y0]
    by_cases y1 : y = nI 1
    · refine ⟨nI col, ?_, ?_⟩
      · rw [if_pos y1]
        simp (disch := omega) only [EV, pu_gok, pu_cl]
        rw [show gI g (B + 21) (d - 1 - j) = nI col from hc]
      · rw [if_pos y1]
        simp (disch := omega) only [EV, NUM, pu_gok, pu_cl]
        rw [hc']
    rw [if_neg y1, if_neg y1]
    by_cases y2 : y = nI 2
    · refine ⟨nI p, ?_, ?_⟩
      · rw [if_pos y2]
        unfold f0_placeOf
        have r1 : f7_inRange (nI (d - 1 - j)) (nI d) = some (nI 1) := by
          rcases rg (nI (d - 1 - j)) (n := d) (by omega) (by omega) with ⟨z, -⟩ | ⟨j', hj', -, z, -⟩
          · unfold f7_inRange f7_inRange_13 at z
            rw [if_neg (show ¬ nI (d - 1 - j) < 0 from fun q => by have := (nI_ltI (a := d - 1 - j) (b := 0) (by omega) (by omega)).mp q; omega), if_neg (fun q => by have := (nI_leI (by omega) (by omega)).mp q; omega)] at z
            exact absurd (Option.some.inj z) (by decide)
          · exact z
        rw [d6', r1]
        have sp' : f0_spotOf K g (B + 19) (nI (d - 1 - j)) = some (nI (4 * (d - 1 - j) + m)) := sp
        simp (disch := omega) only [EV, sp', pu_gok, pu_cl, pu_lit, z10f, if_false]
        rw [show gI g (B + 19 + 4) (4 * (d - 1 - j) + m) = nI p from h8]
      · rw [if_pos y2]
        simp (disch := omega) only [EV, NUM, pu_gok, pu_cl]
        rw [h9]
    rw [if_neg y2, if_neg y2]
    by_cases y3 : y = nI 3
    · refine ⟨nI m, ?_, ?_⟩
      · rw [if_pos y3]
        simp (disch := omega) only [EV, pu_gok, pu_cl]
        rw [show gI g (B + 22) (d - 1 - j) = nI m from h6]
      · rw [if_pos y3]
        simp (disch := omega) only [EV, NUM, pu_gok, pu_cl]
        rw [h7]
    rw [if_neg y3, if_neg y3]
    exact ⟨_, rfl, rfl⟩
/-! the cloth -/
theorem cloth_n (hC : LRC g a s c) {col : Nat} (hcol : col < 6) : ∃ m, m ≤ c ∧ f4_clothPicks K g a (nI col) = some (nI m) ∧ f8_inCloth (rw1 S s) (nI col) = some (nI m) := by
  obtain ⟨c4, c9, cs4, cl⟩ := hC
  have H : ∀ w x acc f, x + w = c → acc ≤ x → ∃ m, m ≤ acc + w ∧ f4_clothPicks_4 K g a (nI col) (w + (f + 1)) (nI acc) (nI x) = some (nI m) ∧ f8_inCloth_4 (rw1 S s) (nI col) (w + (f + 1)) (nI acc) (nI x) = some (nI m) := by
    intro w
    induction w with
    | zero =>
      intro x acc f hw ha
      have : x = c := by omega
      subst this
      refine ⟨acc, by omega, ?_, ?_⟩
      · rw [Nat.zero_add, f4_clothPicks_4]
        simp (disch := omega) only [c9, pu_le]
        simp
      · rw [Nat.zero_add, f8_inCloth_4]
        simp (disch := omega) only [EV, pu_lit, pu_gok, pu_cl, rw1_1, cs4, pu_le]
        simp
    | succ w ih =>
      intro x acc f hw ha
      have hx : ¬ c ≤ x := by omega
      obtain ⟨v, v6, z1, z2⟩ := cl x (by omega)
      rw [show w + 1 + (f + 1) = (w + (f + 1)) + 1 by omega, f4_clothPicks_4, f8_inCloth_4]
      unfold f4_clothPicks_25 f8_inCloth_34
      simp (disch := omega) only [EV, NUM, pu_lit, pu_gok, pu_cl, rw1_1, cs4, c9, pu_le, hx, if_false, z1, z2, pu_eq]
      by_cases hv : v = col
      · rw [if_pos hv, if_pos hv]
        obtain ⟨m, m1, m2, m3⟩ := ih (x + 1) (acc + 1) f (by omega) (by omega)
        exact ⟨m, by omega, m2, m3⟩
      · rw [if_neg hv, if_neg hv]
        obtain ⟨m, m1, m2, m3⟩ := ih (x + 1) acc f (by omega) (by omega)
        exact ⟨m, by omega, m2, by rw [Nat.add_zero]; exact m3⟩
  obtain ⟨m, m1, m2, m3⟩ := H c 0 0 (FU - c - 1) (by omega) (Nat.le_refl _)
  rw [show c + (FU - c - 1 + 1) = FU by unfold FU; omega] at m2 m3
  exact ⟨m, by omega, m2, m3⟩
theorem cloth_l (hC : LRC g a s c) {col : Nat} (hcol : col < 6) : ∃ r, f4_longestRow K g a (nI col) = some r ∧ f8_longestRow (rw1 S s) (nI col) = some r := by
  obtain ⟨c4, c9, cs4, cl⟩ := hC
  have H : ∀ w x most row f, x + w = c → most ≤ x → row ≤ x → ∃ r, f4_longestRow_7 K g a (nI col) (w + (f + 1)) (nI most) (nI row) (nI x) = some r ∧ f8_longestRow_7 (rw1 S s) (nI col) (w + (f + 1)) (nI most) (nI row) (nI x) = some r := by
    intro w
    induction w with
    | zero =>
      intro x most row f hw h1 h2
      have : x = c := by omega
      subst this
      refine ⟨nI most, ?_, ?_⟩
      · rw [Nat.zero_add, f4_longestRow_7]
        simp (disch := omega) only [c9, pu_le]
        simp
      · rw [Nat.zero_add, f8_longestRow_7]
        simp (disch := omega) only [EV, pu_lit, pu_gok, pu_cl, rw1_1, cs4, pu_le]
        simp
    | succ w ih =>
      intro x most row f hw h1 h2
      have hx : ¬ c ≤ x := by omega
      obtain ⟨v, v6, z1, z2⟩ := cl x (by omega)
      rw [show w + 1 + (f + 1) = (w + (f + 1)) + 1 by omega, f4_longestRow_7, f8_longestRow_7]
      unfold f4_longestRow_34 f8_longestRow_40 f8_longestRow_51
      simp (disch := omega) only [EV, NUM, pu_lit, pu_gok, pu_cl, rw1_1, cs4, c9, pu_le, pu_lt, hx, if_false, z1, z2, pu_eq]
      by_cases hv : v = col
      · rw [if_pos hv, if_pos hv]
        by_cases hm : row + 1 ≤ most
        · rw [if_pos hm, if_neg (by omega)]
          exact ih (x + 1) most (row + 1) f (by omega) (by omega) (by omega)
        · rw [if_neg hm, if_pos (by omega)]
          exact ih (x + 1) (row + 1) (row + 1) f (by omega) (by omega) (by omega)
      · rw [if_neg hv, if_neg hv, if_pos (Nat.zero_le _), if_neg (by omega)]
        exact ih (x + 1) most 0 f (by omega) (by omega) (by omega)
  obtain ⟨r, m2, m3⟩ := H c 0 0 0 (FU - c - 1) (by omega) (Nat.le_refl _) (Nat.le_refl _)
  rw [show c + (FU - c - 1 + 1) = FU by unfold FU; omega] at m2 m3
  exact ⟨r, m2, m3⟩
theorem op_thread (hS : SIM K g S B) (x y : Int32) : ∃ r, f7_thread K g B x y = some r ∧ f8_thread S x y = some r := by
  obtain ⟨c, d, hB, -⟩ := hS.2.1
  have hC := hB.2.2.1
  unfold f7_thread f8_thread f8_isColour
  rcases rg x (n := 6) (by omega) (by omega) with ⟨e1, e2⟩ | ⟨j, hj, rfl, e1, e2⟩
  · refine ⟨-1, ?_, ?_⟩
    · rw [show (6 : Int32) = nI 6 from rfl, e1]; rfl
    · rw [show f8_within x 0 5 = f8_within x (nI 0) (nI (6 - 1)) from rfl, e2]; rfl
  · rw [show (6 : Int32) = nI 6 from rfl, show f8_within (nI j) 0 5 = f8_within (nI j) (nI 0) (nI (6 - 1)) from rfl, e1, e2]
    obtain ⟨⟨q1, q2⟩, ⟨q3, q4⟩, ⟨q5, q6⟩, ⟨q7, q8⟩⟩ := cm_ell hj
    have y1 : S 1 (19 + j) = gI g (B + 14) j := hB.1.at q1 q2
    have y2 : S 1 (25 + j) = gI g (B + 15) j := hB.1.at q3 q4
    have y3 : S 1 (31 + j) = gI g (B + 16) j := hB.1.at q5 q6
    have y4 : S 1 (37 + j) = gI g (B + 17) j := hB.1.at q7 q8
    simp (disch := omega) only [EV, gb1, pu_gok, pu_cl, pu_lit, z10f, if_false]
    by_cases c0 : y = nI 0
    · refine ⟨gI g (B + 14) j, ?_, ?_⟩
      · simp (disch := omega) only [c0, if_true]
      · simp (disch := omega) only [c0, if_true, EV, NUM, pu_gok, pu_cl]
        rw [show 19 + 6 * 0 + j = 19 + j by omega, y1]
    simp only [c0, if_false]
    by_cases c1 : y = nI 1
    · refine ⟨gI g (B + 15) j, ?_, ?_⟩
      · simp (disch := omega) only [c1, if_true]
      · simp (disch := omega) only [c1, if_true, EV, NUM, pu_gok, pu_cl]
        rw [show 19 + 6 * 1 + j = 25 + j by omega, y2]
    simp only [c1, if_false]
    by_cases c2 : y = nI 2
    · refine ⟨gI g (B + 16) j, ?_, ?_⟩
      · simp (disch := omega) only [c2, if_true]
      · simp (disch := omega) only [c2, if_true, EV, NUM, pu_gok, pu_cl]
        rw [show 19 + 6 * 2 + j = 31 + j by omega, y3]
    simp only [c2, if_false]
    by_cases c3 : y = nI 3
    · refine ⟨gI g (B + 17) j, ?_, ?_⟩
      · simp (disch := omega) only [c3, if_true]
      · simp (disch := omega) only [c3, if_true, EV, NUM, pu_gok, pu_cl]
        rw [show 19 + 6 * 3 + j = 37 + j by omega, y4]
    simp only [c3, if_false]
    by_cases c4 : y = nI 4
    · obtain ⟨m, -, m1, m2⟩ := cloth_n (K := K) (S := S) hC hj
      rw [rw1_self] at m2
      exact ⟨nI m, by simp only [c4, if_true, m1, EV], by simp only [c4, if_true, m2, EV]⟩
    simp only [c4, if_false]
    by_cases c5 : y = nI 5
    · obtain ⟨r, m1, m2⟩ := cloth_l (K := K) (S := S) hC hj
      rw [rw1_self] at m2
      exact ⟨r, by simp only [c5, if_true, m1, EV], by simp only [c5, if_true, m2, EV]⟩
    simp only [c5, if_false]
    exact ⟨_, rfl, rfl⟩
/-! ranks -/
theorem end_n (hA : LRA g a s) {col : Nat} (hcol : col < 6) : ∃ m, m < 6 ∧ f4_endRank K g a (nI col) = some (nI m) ∧ f8_aheadByEnd (rw1 S s) (nI col) = some (nI m) := by
  have E : ∀ j, j < 6 → s (19 + j) = gI g (a + 4) j := fun j hj => hA.at (cm_ell hj).1.1 (cm_ell hj).1.2
  have H : ∀ w x acc f, x + w = 6 → acc ≤ x → (col < x → acc + 1 ≤ x) → ∃ m, m < 6 ∧ f4_endRank_4 K g a (nI col) (w + (f + 1)) (nI acc) (nI x) = some (nI m) ∧ f8_aheadByEnd_15 (rw1 S s) (nI col) (w + (f + 1)) (nI acc) (s (19 + col)) (nI x) = some (nI m) := by
    intro w
    induction w with
    | zero =>
      intro x acc f hw h1 h2
      have : x = 6 := by omega
      subst this
      have := h2 (by omega)
      refine ⟨acc, by omega, ?_, ?_⟩
      · rw [Nat.zero_add, f4_endRank_4]
        simp (disch := omega) only [pu_lit, pu_le]
        simp
      · rw [Nat.zero_add, f8_aheadByEnd_15]
        simp (disch := omega) only [pu_lit, pu_le]
        simp
    | succ w ih =>
      intro x acc f hw h1 h2
      have hx : ¬ 6 ≤ x := by omega
      have e1 := E x (by omega)
      have e2 := E col hcol
      have UP := fun (hne : x ≠ col) => ih (x + 1) (acc + 1) f (by omega) (by omega) (by omega)
      have KP := ih (x + 1) acc f (by omega) (by omega) (by omega)
      rw [show w + 1 + (f + 1) = (w + (f + 1)) + 1 by omega, f4_endRank_4, f8_aheadByEnd_15]
      unfold f4_endRank_30 f4_endRank_57 f4_endRank_60 f8_aheadByEnd_57 f8_aheadByEnd_61 f8_aheadByEnd_62
      simp (disch := omega) only [EV, NUM, pu_lit, pu_gok, pu_cl, rw1_1, pu_le, hx, if_false, e1, Nat.add_zero, pu_eq]
      rw [e2] at UP KP ⊢
      by_cases l1 : gI g (a + 4) x < gI g (a + 4) col
      · have n1 : ¬ gI g (a + 4) col ≤ gI g (a + 4) x := i_ne l1
        have hne : x ≠ col := fun z => by rw [z] at l1; exact absurd (Int32.le_refl _) (i_ne l1)
        rw [if_neg n1, if_pos l1, if_neg (by omega)]
        exact UP hne
      · have n1 : gI g (a + 4) col ≤ gI g (a + 4) x := Int32.not_lt.mp l1
        rw [if_pos n1, if_neg l1, if_pos (by trivial)]
        by_cases q : gI g (a + 4) x = gI g (a + 4) col
        · rw [if_pos q, if_pos q]
          by_cases r : col ≤ x
          · rw [if_pos r, if_pos r]
            exact KP
          · rw [if_neg r, if_neg r]
            exact UP (by omega)
        · rw [if_neg q, if_neg q]
          exact KP
  obtain ⟨m, m1, m2, m3⟩ := H 6 0 0 (FU - 7) rfl (Nat.le_refl _) (fun z => absurd z (Nat.not_lt_zero _))
  rw [show 6 + (FU - 7 + 1) = FU by unfold FU; omega] at m2 m3
  refine ⟨m, m1, m2, ?_⟩
  unfold f8_aheadByEnd
  simp (disch := omega) only [EV, NUM, pu_lit, pu_gok, pu_cl, rw1_1]
  exact m3
theorem op_byEnd (hS : SIM K g S B) (x : Int32) : ∃ r, f7_byEnd K g B x = some r ∧ f8_byEnd S x = some r := by
  obtain ⟨c, d, hB, -⟩ := hS.2.1
  have H : ∀ w y f, y + w = 6 → (∃ r, f7_byEnd_13 K g B x (w + (f + 1)) (nI y) = some r ∧ f8_byEnd_2 S x (w + (f + 1)) (nI y) = some r) ∧ ((∀ m, m < 6 → ¬ nI m = x) → f8_byEnd_2 S x (w + (f + 1)) (nI y) = some (-1)) := by
    intro w
    induction w with
    | zero =>
      intro y f hw
      have : y = 6 := by omega
      subst this
      rw [Nat.zero_add, f7_byEnd_13, f8_byEnd_2]
      exact ⟨⟨-1, rfl, rfl⟩, fun _ => rfl⟩
    | succ w ih =>
      intro y f hw
      have hy : ¬ 6 ≤ y := by omega
      obtain ⟨m, m6, m1, m2⟩ := end_n (K := K) (S := S) hB.1 (col := y) (by omega)
      rw [rw1_self] at m2
      obtain ⟨ih1, ih2⟩ := ih (y + 1) f (by omega)
      rw [show w + 1 + (f + 1) = (w + (f + 1)) + 1 by omega, f7_byEnd_13, f8_byEnd_2]
      simp (disch := omega) only [EV, NUM, pu_lit, pu_le, hy, if_false, m1, m2]
      by_cases hx : nI m = x
      · rw [if_pos hx, if_pos hx]
        exact ⟨⟨_, rfl, rfl⟩, fun z => absurd hx (z m m6)⟩
      · rw [if_neg hx, if_neg hx]
        exact ⟨ih1, ih2⟩
  have H0 := H 6 0 (FU - 7) rfl
  rw [show 6 + (FU - 7 + 1) = FU by unfold FU; omega] at H0
  unfold f7_byEnd f8_byEnd
  rcases rg x (n := 6) (by omega) (by omega) with ⟨e1, e2⟩ | ⟨j, hj, rfl, e1, e2⟩
  · refine ⟨-1, ?_, H0.2 (fun m hm z => ?_)⟩
    · rw [show (6 : Int32) = nI 6 from rfl, e1]; rfl
    · subst z
      rcases rg (nI m) (n := 6) (by omega) (by omega) with ⟨q, -⟩ | ⟨j, hj, hjm, q, -⟩
      · unfold f7_inRange f7_inRange_13 at q
        rw [if_neg (show ¬ nI m < 0 from fun q => by have := (nI_ltI (a := m) (b := 0) (by omega) (by omega)).mp q; omega), if_neg (fun q => by have := (nI_leI (by omega) (by omega)).mp q; omega)] at q
        exact absurd (Option.some.inj q) (by decide)
      · rw [e1] at q
        exact absurd (Option.some.inj q) (by decide)
  · obtain ⟨r, r1, r2⟩ := H0.1
    refine ⟨r, ?_, r2⟩
    rw [show (6 : Int32) = nI 6 from rfl, e1]
    simp only [EV, if_neg z10]
    exact r1
theorem clr_n (hC : LRC g a s c) {col : Nat} (hcol : col < 6) : ∃ m, m < 6 ∧ f4_clothRank K g a (nI col) = some (nI m) ∧ f8_aheadByCloth (rw1 S s) (nI col) = some (nI m) := by
  have c4 := hC.1
  obtain ⟨own, o1, o2, o3⟩ := cloth_n (K := K) (S := S) hC hcol
  have H : ∀ w x acc f, x + w = 6 → acc ≤ x → (col < x → acc + 1 ≤ x) → ∃ m, m < 6 ∧ f4_clothRank_11 K g a (nI col) (w + (f + 1)) (nI own) (nI acc) (nI x) = some (nI m) ∧ f8_aheadByCloth_11 (rw1 S s) (nI col) (w + (f + 1)) (nI acc) (nI own) (nI x) = some (nI m) := by
    intro w
    induction w with
    | zero =>
      intro x acc f hw h1 h2
      have : x = 6 := by omega
      subst this
      have := h2 (by omega)
      refine ⟨acc, by omega, ?_, ?_⟩
      · rw [Nat.zero_add, f4_clothRank_11]
        simp (disch := omega) only [pu_lit, pu_le]
        simp
      · rw [Nat.zero_add, f8_aheadByCloth_11]
        simp (disch := omega) only [pu_lit, pu_le]
        simp
    | succ w ih =>
      intro x acc f hw h1 h2
      have hx : ¬ 6 ≤ x := by omega
      obtain ⟨v, v1, v2, v3⟩ := cloth_n (K := K) (S := S) hC (col := x) (by omega)
      have UP := fun (hne : x ≠ col) => ih (x + 1) (acc + 1) f (by omega) (by omega) (by omega)
      have KP := ih (x + 1) acc f (by omega) (by omega) (by omega)
      have self : x = col → v = own := fun z => by
        subst z
        rw [v2] at o2
        exact (nI_eq (by omega) (by omega)).mp (Option.some.inj o2)
      rw [show w + 1 + (f + 1) = (w + (f + 1)) + 1 by omega, f4_clothRank_11, f8_aheadByCloth_11]
      unfold f4_clothRank_44 f4_clothRank_47 f8_aheadByCloth_45 f8_aheadByCloth_49 f8_aheadByCloth_50
      simp (disch := omega) only [EV, NUM, pu_lit, pu_le, pu_lt, hx, if_false, v2, v3, Nat.add_zero, pu_eq]
      by_cases l1 : own < v
      · rw [if_pos l1, if_pos l1]
        exact UP (fun z => by have := self z; omega)
      · rw [if_neg l1, if_neg l1]
        by_cases q : v = own
        · rw [if_pos q, if_pos q]
          by_cases r : col ≤ x
          · rw [if_pos r, if_pos r]
            exact KP
          · rw [if_neg r, if_neg r]
            exact UP (by omega)
        · rw [if_neg q, if_neg q]
          exact KP
  obtain ⟨m, m1, m2, m3⟩ := H 6 0 0 (FU - 7) rfl (Nat.le_refl _) (fun z => absurd z (Nat.not_lt_zero _))
  rw [show 6 + (FU - 7 + 1) = FU by unfold FU; omega] at m2 m3
  refine ⟨m, m1, ?_, ?_⟩
  · unfold f4_clothRank
    rw [o2]
    exact m2
  · unfold f8_aheadByCloth
    rw [o3]
    exact m3
theorem op_byCloth (hS : SIM K g S B) (x : Int32) : ∃ r, f7_byCloth K g B x = some r ∧ f8_byCloth S x = some r := by
  obtain ⟨c, d, hB, -⟩ := hS.2.1
  have hC := hB.2.2.1
  have c4 := hC.1
  have H : ∀ w y f, y + w = 6 → (∃ r, f7_byCloth_13 K g B x (w + (f + 1)) (nI y) = some r ∧ f8_byCloth_2 S x (w + (f + 1)) (nI y) = some r) ∧ ((∀ m, m < 6 → ¬ nI m = x) → f8_byCloth_2 S x (w + (f + 1)) (nI y) = some (-1)) := by
    intro w
    induction w with
    | zero =>
      intro y f hw
      have : y = 6 := by omega
      subst this
      rw [Nat.zero_add, f7_byCloth_13, f8_byCloth_2]
      exact ⟨⟨-1, rfl, rfl⟩, fun _ => rfl⟩
    | succ w ih =>
      intro y f hw
      have hy : ¬ 6 ≤ y := by omega
      obtain ⟨m, m6, m1, m2⟩ := clr_n (K := K) (S := S) hC (col := y) (by omega)
      obtain ⟨v, v1, v2, v3⟩ := cloth_n (K := K) (S := S) hC (col := y) (by omega)
      rw [rw1_self] at m2 v3
      obtain ⟨ih1, ih2⟩ := ih (y + 1) f (by omega)
      rw [show w + 1 + (f + 1) = (w + (f + 1)) + 1 by omega, f7_byCloth_13, f8_byCloth_2]
      unfold f7_byCloth_44 f8_byCloth_27
      simp (disch := omega) only [EV, NUM, pu_lit, pu_le, hy, if_false, m1, m2, v2, v3]
      by_cases hx : nI m = x
      · rw [if_pos hx, if_pos hx]
        by_cases hv : v ≤ 0
        · rw [if_pos hv, if_pos hv]
          exact ⟨ih1, ih2⟩
        · rw [if_neg hv, if_neg hv]
          exact ⟨⟨_, rfl, rfl⟩, fun z => absurd hx (z m m6)⟩
      · rw [if_neg hx, if_neg hx]
        by_cases hv : v ≤ 0
        · rw [if_pos hv]
          exact ⟨ih1, ih2⟩
        · rw [if_neg hv]
          exact ⟨ih1, ih2⟩
  have H0 := H 6 0 (FU - 7) rfl
  rw [show 6 + (FU - 7 + 1) = FU by unfold FU; omega] at H0
  unfold f7_byCloth f8_byCloth
  rcases rg x (n := 6) (by omega) (by omega) with ⟨e1, e2⟩ | ⟨j, hj, rfl, e1, e2⟩
  · refine ⟨-1, ?_, H0.2 (fun m hm z => ?_)⟩
    · rw [show (6 : Int32) = nI 6 from rfl, e1]; rfl
    · subst z
      unfold f7_inRange f7_inRange_13 at e1
      rw [if_neg (show ¬ nI m < 0 from fun q => by have := (nI_ltI (a := m) (b := 0) (by omega) (by omega)).mp q; omega), if_neg (fun q => by have := (nI_leI (by omega) (by omega)).mp q; omega)] at e1
      exact absurd (Option.some.inj e1) (by decide)
  · obtain ⟨r, r1, r2⟩ := H0.1
    refine ⟨r, ?_, r2⟩
    rw [show (6 : Int32) = nI 6 from rfl, e1]
    simp only [EV, if_neg z10]
    exact r1
end GET
