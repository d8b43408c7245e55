/-! THE PURE PART, m: one step of a loom and of the row -/
section STEP
variable {K : GK} {g g' : GM} {S : GS} {a t n p m i c k : Nat} {s s' : Nat → Int32} {sn : Nat → Nat}
/-- the cards below -/
def LOW (K : GK) (g : GM) (b : Nat) (s : Nat → Int32) (i : Nat) : Prop := ∀ j, j < i → ∃ t n sn p m, FR1 K g b s j t n sn p m ∧ p < n ∧ sn p = 107
theorem LOW.mv {b : Nat} (h : LOW K g b s i) (hm : MW g g' b s s' i) (hk : SE K b) : LOW K g' b s' i := fun j hj => by
  obtain ⟨t, n, sn, p, m, h1, h2⟩ := h j hj
  exact ⟨t, n, sn, p, m, hm.low hk hj h1, h2⟩
theorem LOW.base (h : LOW K g (a + 9) s i) (hA : SA K a) (hg : AG (fun q => a ≤ q ∧ q ≤ a + 8) g g') (hs : ∀ x, 1253 ≤ x → x < fb i → s' x = s x) : LOW K g' (a + 9) s' i := fun j hj => by
  obtain ⟨t, n, sn, p, m, h1, h2⟩ := h j hj
  exact ⟨t, n, sn, p, m, h1.base hA hg (fun k hk => hs _ (by show 1253 ≤ 1253 + 92 * j + k; omega) (by show 1253 + 92 * j + k < 1253 + 92 * i; omega)), h2⟩
theorem LOW.mv0 {b : Nat} (h : LOW K g b s i) (hm : MV0 g g' b s s' i) (hk : SE K b) : LOW K g' b s' i := fun j hj => by
  obtain ⟨t, n, sn, p, m, h1, h2⟩ := h j hj
  exact ⟨t, n, sn, p, m, hm.low hk hj h1, h2⟩
/-- the references of a row are none or texts -/
def RT (K : GK) (g : GM) (q : Nat) : Prop := ∀ j, j < 9 → ∀ t, gR g q j = some t → gkd K t = 2
theorem RT.mo {q : Nat} (h : RT K g q) (e : ∀ j, gR g' q j = gR g q j) : RT K g' q := fun j hj t z => h j hj t (by rw [← e]; exact z)
theorem after {b : Nat} (h : RES K g b s i t n sn g' s') (hl : LOW K g b s i) (hk : SE K b) (hi : i < 9) : ∃ g2 s2 d2, f0_leaveEnds K g' b = some g2 ∧ f8_settle (rw1 S s') = some (rw1 S s2) ∧ STK K g2 b s2 d2 atStep ∧ MB g g2 b s s2 := by
  obtain ⟨⟨p, m, hf⟩, mv, hd, h3⟩ := h
  have hm := hf.m3
  obtain ⟨g2, s2, d2, e1, e2, e3, e4⟩ := ends (S := S) 36 i t n sn p m g' s' 0 FU FU hf (hl.mv mv hk) hk hi hd h3 (by omega) (by omega) (by unfold FU; omega) (by unfold FU; omega)
  exact ⟨g2, s2, d2, e1, e2, e3, mv.mb.tr e4⟩
theorem vt_pos (hv : VT sn n) : 0 < n ∧ sn 0 ≠ 41 := by
  have hn : 0 < n := by
    apply Classical.byContradiction
    intro z
    have : n = 0 := by omega
    subst this
    have h0 : cc sn 0 = 0 := rfl
    have := hv.2.1
    omega
  refine ⟨hn, fun z => ?_⟩
  rcases (SP.zero (sn := sn) (n := n)).kinds hv hn with ⟨-, k, h, -⟩ | h | h | h | h | h | h
  · cases h
  all_goals omega
/-- a card comes on top -/
theorem lays (hB : LRB K g a s c) (hA : SA K a) (hd : gI g (a + 9) 6 = nI i) (h3 : s 3 = nI i) (hi : i < 9) (hl : LOW K g (a + 9) s i) (hk : k < 10) {col : Nat} (hc : col < 6) (hr : gR g (a + 1) k = some t) (ht : TX K g t n sn) (h43 : s (43 + k) = nI n) (hs : ∀ x, x < n → s (53 + 80 * k + x) = nI (sn x)) : ∃ g' s', f4_layOnStack K g a (nI k) (nI col) = some g' ∧ f8_lay (rw1 S s) (nI k) (nI col) = some (rw1 S s') ∧ LRB K g' a s' c ∧ STK K g' (a + 9) s' (i + 1) atStep ∧ LOW K g' (a + 9) s' i ∧ FR1 K g' (a + 9) s' i t n sn 0 0 ∧ AG (fun q => a ≤ q ∧ q ≤ a + 15) g g' ∧ gI g' a 12 = gI g a 12 ∧ (RT K g (a + 15) → RT K g' (a + 15)) ∧ s' 8 = s 8 := by
  have n80 := ht.2.2.2.1.1
  have ht1 := ht.1
  have b3 : 1253 ≤ fb i := by show 1253 ≤ 1253 + 92 * i; omega
  -- the class
  let g1 := gsI (gsI (gsR (gsI g (a + 10) i (nI k)) (a + 15) i (some t)) (a + 11) i (nI col)) (a + 12) i (nI 0)
  let g2 := gsI g1 (a + 13) (4 * i) (nI 0)
  have mv1 : MV0 g g1 (a + 9) s s i := (((MV0.gi (b := a + 9) (x := 1) (by omega) (by omega)).tr (MV0.gr (b := a + 9) (by omega))).tr (MV0.gi (b := a + 9) (x := 2) (by omega) (by omega))).tr (MV0.gi (b := a + 9) (x := 3) (by omega) (by omega))
  have mv2 : MV0 g g2 (a + 9) s s i := mv1.tr (MV0.gi (b := a + 9) (x := 4) (by omega) (by omega))
  have ht2 : TX K g2 t n sn := ht.mo (mv2.ta hA.se)
  have TT := tx_times ht2 (p := 0) (Nat.zero_le _)
  let w : Int32 := if 0 < n then gI g2 (t + 2) 0 else nI 0
  let g3 := gsI g2 (a + 14) (4 * i) w
  let g4 := gsI g3 (a + 9) 6 (nI (i + 1))
  have mv4 : MV0 g g4 (a + 9) s s i := (mv2.tr (MV0.gi (b := a + 9) (x := 5) (by omega) (by omega))).tr (MV0.gi (b := a + 9) (x := 0) (by omega) (by omega))
  have ht4 : TX K g4 t n sn := ht.mo (mv4.ta hA.se)
  have E1 : f0_layOn K g (a + 9) (nI k) (some t) (nI col) = some g4 := by
    have q0 : gI g1 (a + 9) 6 = nI i := by
      show gI (gsI (gsI (gsR (gsI g _ _ _) _ _ _) _ _ _) _ _ _) _ _ = _
      rw [gI_ne (by omega), gI_ne (by omega), gI_R, gI_ne (by omega)]; exact hd
    have q1 : gI g2 (a + 9) 6 = nI i := by
      show gI (gsI g1 _ _ _) _ _ = _
      rw [gI_ne (by omega)]; exact q0
    have q2 : gI g3 (a + 9) 6 = nI i := by
      show gI (gsI g2 _ _ _) _ _ = _
      rw [gI_ne (by omega)]; exact q1
    have u1 : gI (gsI g (a + 9 + 1) i (nI k)) (a + 9) 6 = nI i := by rw [gI_ne (by omega)]; exact hd
    have u2 : gI (gsR (gsI g (a + 9 + 1) i (nI k)) (a + 9 + 6) i (some t)) (a + 9) 6 = nI i := u1
    have u3 : gI (gsI (gsR (gsI g (a + 9 + 1) i (nI k)) (a + 9 + 6) i (some t)) (a + 9 + 2) i (nI col)) (a + 9) 6 = nI i := by rw [gI_ne (by omega)]; exact u2
    unfold f0_layOn
    simp (disch := omega) only [EV, NUM, pu_lit, pu_lt, pu_gok, pu_cl, hd, u1, u2, u3, ht1, decide_true, Nat.mul_comm i 4, if_true, hi]
    show gd (gok (gI g1 (a + 9) 6 * nI 4) 36) (gl (gsI g1 (a + 13) (gI g1 (a + 9) 6 * nI 4).toNatClampNeg (nI 0)) fun g22 => (f1_timesAt K g22 t (nI 0)).bind fun v24 => gd (gok (gI g22 (a + 9) 6 * nI 4) 36) (gl (gsI g22 (a + 14) (gI g22 (a + 9) 6 * nI 4).toNatClampNeg v24) fun g28 => gl (gsI g28 (a + 9) 6 (gI g28 (a + 9) 6 + nI 1)) fun g29 => some g29)) = _
    simp (disch := omega) only [EV, NUM, pu_gok, pu_cl, q0, Nat.mul_comm i 4]
    show (f1_timesAt K g2 t (nI 0)).bind (fun v24 => gd (gok (gI g2 (a + 9) 6 * nI 4) 36) (some (gsI (gsI g2 (a + 14) (gI g2 (a + 9) 6 * nI 4).toNatClampNeg v24) (a + 9) 6 (gI (gsI g2 (a + 14) (gI g2 (a + 9) 6 * nI 4).toNatClampNeg v24) (a + 9) 6 + nI 1)))) = _
    rw [TT]
    simp (disch := omega) only [EV, NUM, pu_gok, pu_cl, q1, Nat.mul_comm i 4]
    show some (gsI g3 (a + 9) 6 (gI g3 (a + 9) 6 + nI 1)) = _
    rw [q2, nI_add]
  -- the row
  let s1 := upd (upd (upd (upd (upd (upd (upd s 3 (nI (i + 1))) (fb i + 0) (nI k)) (fb i + 1) (nI col)) (fb i + 2) (nI 0)) (fb i + 3) (nI 0)) (fb i + 4) (nI 0)) (fb i + 11) (nI n)
  have so : ∀ x, x ≠ 3 → x < fb i → s1 x = s x := fun x z1 z2 => by
    show upd (upd (upd (upd (upd (upd (upd s _ _) _ _) _ _) _ _) _ _) _ _) _ _ x = _
    rw [pk_un (by omega), pk_un (by omega), pk_un (by omega), pk_un (by omega), pk_un (by omega), pk_un (by omega), pk_un (by omega)]
  obtain ⟨s2, e2, e3, e4⟩ := re_lay (S := S) (p1 := nI col) hi hk 80 0 s1 (FU - 80) rfl (by
    show upd (upd (upd (upd (upd (upd (upd s _ _) _ _) _ _) _ _) _ _) _ _) _ _ 3 = _
    rw [pk_un (by omega), pk_un (by omega), pk_un (by omega), pk_un (by omega), pk_un (by omega), pk_un (by omega), pk_us])
  have f3 : s2 3 = nI (i + 1) := by
    rw [e4 3 (by omega)]
    show upd (upd (upd (upd (upd (upd (upd s _ _) _ _) _ _) _ _) _ _) _ _) _ _ 3 = _
    rw [pk_un (by omega), pk_un (by omega), pk_un (by omega), pk_un (by omega), pk_un (by omega), pk_un (by omega), pk_us]
  let mx : Int32 := if gI g a 10 < nI (i + 1) then nI (i + 1) else gI g a 10
  let s3 := upd (upd s2 (9 + k) (s (9 + k) + 1)) 6 mx
  have r6 : s 6 = gI g a 10 := hB.1 6 (by unfold stat; omega)
  have r9 : s (9 + k) = gI g (a + 2) k := by
    have := hB.1 (9 + k) (by unfold stat; omega)
    rw [this]
    unfold cm
    rw [if_neg (by omega), if_neg (by omega), if_pos (by omega), Nat.add_sub_cancel_left]
  have v9 : s2 (9 + k) = s (9 + k) := by rw [e4 _ (by omega), so _ (by omega) (by omega)]
  have v6 : s2 6 = s 6 := by rw [e4 _ (by omega), so _ (by omega) (by omega)]
  have E2 : f8_lay (rw1 S s) (nI k) (nI col) = some (rw1 S s3) := by
    have t0 : upd s 3 (nI (i + 1)) 3 = nI (i + 1) := pk_us
    have t1 : ∀ x w' (s' : Nat → Int32), s' 3 = nI (i + 1) → upd s' (fb i + x) w' 3 = nI (i + 1) := fun x w' s' z => by rw [pk_un (by omega)]; exact z
    have w43 : upd (upd (upd (upd (upd (upd s 3 (nI (i + 1))) (fb i + 0) (nI k)) (fb i + 1) (nI col)) (fb i + 2) (nI 0)) (fb i + 3) (nI 0)) (fb i + 4) (nI 0) (43 + k) = nI n := by
      rw [pk_un (by omega), pk_un (by omega), pk_un (by omega), pk_un (by omega), pk_un (by omega), pk_un (by omega)]; exact h43
    have t2 := t1 0 (nI k) _ t0
    have t3 := t1 1 (nI col) _ t2
    have t4 := t1 2 (nI 0) _ t3
    have t5 := t1 3 (nI 0) _ t4
    have t6 := t1 4 (nI 0) _ t5
    unfold f8_lay
    simp (disch := omega) only [EV, NUM, pu_lit, pu_gok, pu_cl, rw1_1, ss_rw, h3, re_set hi t0, re_set hi t2, re_set hi t3, re_set hi t4, re_set hi t5, re_set hi t6, w43]
    have fu : 80 + (FU - 80) = FU := by unfold FU; omega
    rw [fu] at e2
    show f8_lay_57 (nI k) (nI col) FU (rw1 S s1) (nI 0) = _
    rw [e2, show FU - 80 = (FU - 81) + 1 by unfold FU; omega, f8_lay_57]
    simp (disch := omega) only [EV, NUM, pu_lit, pu_gok, pu_cl, rw1_1, ss_rw]
    have x3 : upd s2 (9 + k) (s2 (9 + k) + nI 1) 3 = nI (i + 1) := by rw [pk_un (by omega)]; exact f3
    have x6 : upd s2 (9 + k) (s2 (9 + k) + nI 1) 6 = gI g a 10 := by rw [pk_un (by omega), v6]; exact r6
    rw [x3, x6, v9]
    by_cases hlt : gI g a 10 < nI (i + 1)
    · have : ¬ nI (i + 1) ≤ gI g a 10 := fun z => Int32.not_lt.mpr z hlt
      simp only [if_neg this]
      show _ = some (rw1 S (upd _ _ mx))
      rw [show mx = nI (i + 1) from if_pos hlt]
      simp
      rfl
    · have : nI (i + 1) ≤ gI g a 10 := Int32.not_lt.mp hlt
      simp only [if_pos this]
      show _ = some (rw1 S (upd _ _ mx))
      rw [show mx = gI g a 10 from if_neg hlt]
      simp
      rfl
  let g5 := gsI g4 (a + 2) k (gI g (a + 2) k + 1)
  let g6 := gsI g5 a 10 mx
  have E3 : f4_layOnStack K g a (nI k) (nI col) = some g6 := by
    have y1 : gI g4 (a + 2) k = gI g (a + 2) k := mv4.1.i (by omega) k
    have y2 : gI g4 (a + 9) 6 = nI (i + 1) := gI_eq
    have y3 : gI g4 a 10 = gI g a 10 := mv4.1.i (by omega) 10
    have y4 : gI g5 (a + 9) 6 = nI (i + 1) := by show gI (gsI g4 _ _ _) _ _ = _; rw [gI_ne (by omega)]; exact y2
    have y5 : gI g5 a 10 = gI g a 10 := by show gI (gsI g4 _ _ _) _ _ = _; rw [gI_ne (by omega)]; exact y3
    unfold f4_layOnStack
    simp (disch := omega) only [EV, pu_gok, pu_cl, hr, E1, y1]
    show some (gsI g5 a 10 (if gI g5 a 10 < gI g5 (a + 9) 6 then gI g5 (a + 9) 6 else gI g5 a 10)) = _
    rw [y4, y5]
  have ag6 : AG (fun q => a ≤ q ∧ q ≤ a + 8) g4 g6 := (AG.rf.ai (by omega)).ai (by omega)
  have agg : AG (fun q => a ≤ q ∧ q ≤ a + 15) g g6 := (AG.mo mv4.1 (fun q hq => by omega)).tr (AG.mo ag6 (fun q hq => by omega))
  -- the frame
  have hs0 : ∀ x, fb i ≤ x → s3 x = s2 x := fun x hx => by show upd (upd s2 _ _) _ _ x = _; rw [pk_un (by omega), pk_un (by omega)]
  have hs1 : ∀ y, y < 12 → s2 (fb i + y) = s1 (fb i + y) := fun y hy => e4 _ (by omega)
  have fr : FR1 K g6 (a + 9) s3 i t n sn 0 0 := by
    have l0 : (ks sn 0).length = 0 := rfl
    have q : FR1 K g4 (a + 9) s3 i t n sn 0 (ks sn 0).length := by
      refine FR0.at ⟨?_, ht4, ?_, ⟨col, hc, ?_, ?_⟩, ?_, ?_, ?_, fun x hx => ?_, fun j hj => absurd hj (Nat.not_lt_zero j)⟩ ?_ ?_ SP.zero ?_
      · show gR (gsR (gsI g _ _ _) (a + 15) i (some t)) (a + 15) i = some t
        rw [gR_R, if_pos ⟨rfl, rfl⟩]
      · rw [hs0 _ (by omega), show fb i = fb i + 0 from rfl, hs1 0 (by omega)]
        show upd (upd (upd (upd (upd (upd (upd s _ _) _ _) _ _) _ _) _ _) _ _) _ _ (fb i + 0) = gI (gsI (gsI (gsI (gsI (gsI (gsR (gsI g _ _ _) _ _ _) _ _ _) _ _ _) _ _ _) _ _ _) _ _ _) (a + 9 + 1) i
        rw [pk_un (by omega), pk_un (by omega), pk_un (by omega), pk_un (by omega), pk_un (by omega), pk_us]
        rw [gI_ne (by omega), gI_ne (by omega), gI_ne (by omega), gI_ne (by omega), gI_ne (by omega), gI_R, gI_eq]
      · show gI (gsI (gsI (gsI (gsI (gsI (gsR (gsI g _ _ _) _ _ _) _ _ _) _ _ _) _ _ _) _ _ _) _ _ _) (a + 9 + 2) i = _
        rw [gI_ne (by omega), gI_ne (by omega), gI_ne (by omega), gI_ne (by omega), gI_eq]
      · rw [hs0 _ (by omega), hs1 1 (by omega)]
        show upd (upd (upd (upd (upd (upd (upd s _ _) _ _) _ _) _ _) _ _) _ _) _ _ (fb i + 1) = _
        rw [pk_un (by omega), pk_un (by omega), pk_un (by omega), pk_un (by omega), pk_us]
      · show gI (gsI (gsI (gsI (gsI (gsI (gsR (gsI g _ _ _) _ _ _) _ _ _) _ _ _) _ _ _) _ _ _) _ _ _) (a + 9 + 3) i = _
        rw [gI_ne (by omega), gI_ne (by omega), gI_ne (by omega), gI_eq, l0]
      · rw [hs0 _ (by omega), hs1 4 (by omega)]
        show upd (upd (upd (upd (upd (upd (upd s _ _) _ _) _ _) _ _) _ _) _ _) _ _ (fb i + 4) = _
        rw [pk_un (by omega), pk_us, l0]
      · rw [hs0 _ (by omega), hs1 11 (by omega)]
        exact pk_us
      · rw [hs0 _ (by omega), e3 x (by omega) (by omega), so _ (by omega) (by omega)]
        exact hs x hx
      · show gI (gsI (gsI (gsI (gsI (gsI (gsR (gsI g _ _ _) _ _ _) _ _ _) _ _ _) _ _ _) _ _ _) _ _ _) (a + 9 + 4) (4 * i) = _
        rw [gI_ne (by omega), gI_ne (by omega), gI_eq]
      · rw [hs0 _ (by omega), hs1 2 (by omega)]
        show upd (upd (upd (upd (upd (upd (upd s _ _) _ _) _ _) _ _) _ _) _ _) _ _ (fb i + 2) = _
        rw [pk_un (by omega), pk_un (by omega), pk_un (by omega), pk_us]
      · have z1 : s3 (fb i + 3) = nI 0 := by
          rw [hs0 _ (by omega), hs1 3 (by omega)]
          show upd (upd (upd (upd (upd (upd (upd s _ _) _ _) _ _) _ _) _ _) _ _) _ _ (fb i + 3) = _
          rw [pk_un (by omega), pk_un (by omega), pk_us]
        have z2 : gI g4 (a + 9 + 5) (4 * i + (ks sn 0).length) = w := by
          show gI (gsI (gsI g2 _ _ _) _ _ _) (a + 9 + 5) (4 * i) = _
          rw [gI_ne (by omega), gI_eq]
        rw [z1, z2]
        exact tx_lf ht2 SP.zero
    rw [l0] at q
    exact q.base hA ag6 (fun x _ => rfl)
  have low : LOW K g6 (a + 9) s3 i := (hl.mv0 mv4 hA.se).base hA ag6 (fun x z1 z2 => by
    show upd (upd s2 _ _) _ _ x = _
    rw [pk_un (by omega), pk_un (by omega), e4 x (by omega), so x (by omega) z2])
  have sB : ∀ x, x < 1253 → x ≠ 3 → s2 x = s x := fun x z1 z2 => by rw [e4 x (by omega), so x z2 (by omega)]
  have gB : ∀ j, j ≤ 8 → ∀ x, gI g4 (a + j) x = gI g (a + j) x := fun j hj x => mv4.1.i (by omega) x
  refine ⟨g6, s3, E3, E2, ?_, ⟨?_, ?_, by omega, fun j hj => low j (by omega), fun j hj => ?_⟩, low, fr, agg, ?_, fun hR j hj9 t' hz => ?_, ?_⟩
  · obtain ⟨b1, ⟨v, v9', b2⟩, b3', b4, b5⟩ := hB
    have A : LRA g6 a s3 := by
      have z := ((b1.mo (g' := g4) (s' := s2) gB (fun x z1 z2 z3 => sB x (by omega) z2)).uq (v := gI g (a + 2) k + 1) (cm_beg hk).1 (cm_beg hk).2).uq (v := mx) cm_6.1 cm_6.2
      show LRA g6 a (upd (upd s2 (9 + k) (s (9 + k) + 1)) 6 mx)
      rw [r9]
      exact z
    have sC : ∀ x, x < 1253 → x ≠ 3 → x ≠ 6 → (x < 9 ∨ 19 ≤ x) → s3 x = s x := fun x z1 z2 z3 z4 => by
      show upd (upd s2 _ _) _ _ x = _
      rw [pk_un (by omega), pk_un (by omega)]
      exact sB x z1 z2
    have gC : ∀ j, 3 ≤ j → j ≤ 8 → ∀ x, gI g6 (a + j) x = gI g (a + j) x := fun j h3' hj x => by
      show gI (gsI (gsI g4 _ _ _) _ _ _) _ _ = _
      rw [gI_ne (by omega), gI_ne (by omega)]
      exact gB j hj x
    refine ⟨A, ⟨v, v9', by rw [sC _ (by omega) (by omega) (by omega) (by omega)]; exact b2⟩, ?_, ?_, fun q hq => (b5 q hq).mo hq (hA.ta agg (fun _ z => z)) ?_ (fun x z1 z2 => sC x (by omega) (by omega) (by omega) (by omega))⟩
    · obtain ⟨c1, c2, c3, c4⟩ := b3'
      refine ⟨c1, ?_, by rw [sC _ (by omega) (by omega) (by omega) (by omega)]; exact c3, fun q hq => ?_⟩
      · show gI (gsI (gsI g4 _ _ _) _ _ _) _ _ = _
        rw [gI_ne (by omega), gI_ne (by omega)]
        exact (gB 0 (by omega) 9).trans c2
      · obtain ⟨v', v6', d1, d2⟩ := c4 q hq
        exact ⟨v', v6', by rw [gC 8 (by omega) (by omega)]; exact d1, by rw [sC _ (by omega) (by omega) (by omega) (by omega)]; exact d2⟩
    · rw [sC _ (by omega) (by omega) (by omega) (by omega), b4, show gI g6 (a + 7) = gI g (a + 7) from funext (gC 7 (by omega) (by omega))]
    · exact mv4.1.r (by omega) q
  · show gI (gsI (gsI g4 _ _ _) _ _ _) _ _ = _
    rw [gI_ne (by omega), gI_ne (by omega)]
    exact gI_eq
  · show upd (upd s2 _ _) _ _ 3 = _
    rw [pk_un (by omega), pk_un (by omega)]
    exact f3
  · have : j = i := by omega
    subst this
    exact ⟨t, n, sn, 0, 0, fr, (vt_pos ht.2.2.2.1).1, (vt_pos ht.2.2.2.1).2⟩
  · show gI (gsI (gsI g4 _ _ _) _ _ _) _ _ = _
    rw [gI_ne (by omega), gI_ne (by omega)]
    exact mv4.1.i (by omega) 12
  · have e : gR g6 (a + 15) j = if a + 15 = a + 15 ∧ j = i then some t else gR g (a + 15) j := by
      show gR (gsR (gsI g _ _ _) (a + 15) i (some t)) (a + 15) j = _
      rw [gR_R]
      rfl
    rw [e] at hz
    by_cases hj : j = i
    · rw [if_pos ⟨rfl, hj⟩] at hz
      cases hz
      exact ht1
    · rw [if_neg (fun q => hj q.2)] at hz
      exact hR j hj9 t' hz
  · show upd (upd s2 _ _) _ _ 8 = _
    rw [pk_un (by omega), pk_un (by omega)]
    exact sB 8 (by omega) (by omega)
end STEP
