/-! THE PURE PART, u: more changes, and what if -/
section OPS2
variable {K : GK} {g g' : GM} {S S' : GS} {B a b h c d : Nat} {s s' : Nat → Int32}
theorem z10 : ¬ nI 1 = 0 := by decide
theorem gb1 : gbl (nI 1) = true := rfl
theorem gb0 : gbl (nI 0) = true := rfl
theorem LRF.s3 (h : LRF K g a s) : ∃ d, d ≤ 9 ∧ gI g (a + 9) 6 = nI d ∧ s 3 = nI d := by
  obtain ⟨c, d, h1, h2, -⟩ := h
  exact ⟨d, h2.2.2.1, h2.1, h2.2.1⟩
theorem op_weave (hS : SIM K g S B) (y : Int32) : OPR K B (f7_weave K g B y) (f8_weave S y) := by
  have hL := hS.1
  have hA := hL.sa hL.l1
  unfold f7_weave f8_weave
  rcases rg1 y (n := 99) (by omega) (by omega) with ⟨f1, f2⟩ | ⟨f1, f2, f3⟩ | ⟨P, P1, P99, rfl, f3⟩
  · refine ⟨g, S, -2, ?_, ?_, hS⟩
    · rw [if_pos (show y < 1 from f1)]
    · rw [show f8_within y 1 99 = f8_within y (nI 1) (nI 99) from rfl, f2]; rfl
  · refine ⟨g, S, -2, ?_, ?_, hS⟩
    · rw [if_neg (show ¬ y < 1 from f1), if_neg (show ¬ y ≤ 99 from f2)]
    · rw [show f8_within y 1 99 = f8_within y (nI 1) (nI 99) from rfl, f3]; rfl
  · obtain ⟨g1, S1, k1, k2, k3, k4, k5, -⟩ := hS.keep
    obtain ⟨c, d, h1, h2, h3, h4⟩ := k3.2.1
    obtain ⟨g', s', c', d', w', e1, e2, e3, e4, e5, e6, e7, e8, e9, e10⟩ := weaving (S := S1) hA (P := P) (by omega) P1 h1 h2
    rw [rw1_self] at e2
    refine ⟨g', rw1 S1 s', nI w', ?_, ?_, SIM.loom k3 (AG.mo e6 (fun q hq => by omega)) ⟨c', d', e3, e4, e5, e10 h4⟩⟩
    · have n1 : ¬ nI P < 1 := fun z => by have := (nI_ltI (a := P) (b := 1) (by omega) (by omega)).mp z; omega
      have n2 : nI P ≤ 99 := (nI_leI (a := P) (b := 99) (by omega) (by omega)).mpr P99
      rw [if_neg n1, if_pos n2, k1]
      simp only [EV]
      rw [e1]
      rfl
    · rw [show f8_within (nI P) 1 99 = f8_within (nI P) (nI 1) (nI 99) from rfl, f3]
      simp only [EV, if_neg z10, k2]
      rw [e2]
      rfl
theorem op_skip (hS : SIM K g S B) : OPR K B (f7_skip K g B) (f8_skip S) := by
  have hL := hS.1
  have hA := hL.sa hL.l1
  obtain ⟨d, d9, a6, a3⟩ := hS.2.1.s3
  unfold f7_skip f8_skip f8_skip_100
  cases d with
  | zero =>
    refine ⟨g, S, -5, ?_, ?_, hS⟩
    · rw [if_pos (show gI g (B + 19) 6 = 0 from a6)]
    · simp (disch := omega) only [EV, pu_lit, pu_gok, pu_cl, a3]
      simp
  | succ i =>
    obtain ⟨g1, S1, k1, k2, k3, k4, k5, -⟩ := hS.keep
    obtain ⟨c, d, h1, h2, h3, h4⟩ := k3.2.1
    have hd : d = i + 1 := by
      have := h2.2.1
      rw [k5, a3] at this
      have d9' := h2.2.2.1
      exact ((nI_eq (by omega) (by omega)).mp this).symm
    subst hd
    obtain ⟨t, n, sn, p, m, hf, hpn, h41⟩ := h2.2.2.2.2 i rfl
    have hi : i < 9 := by omega
    have hd6 := h2.1
    have h3' := h2.2.1
    have hl := h2.low
    have hv := hf.2.1.2.2.2.1
    have n80 := hv.1
    have hsp := hf.2.2.2.2.2.2.2.2.2.1
    have RT := re_top (S := S1) (s := S1 1) (k := 2) hi h3' (by omega)
    rw [hf.2.2.2.2.2.2.2.2.1] at RT
    have RS := re_sign (S := S1) (s := S1 1) (k := p) hi h3' (by omega)
    rw [hf.2.2.2.2.2.2.2.2.2.2.2.2.1 p hpn] at RS
    rw [rw1_self] at RT RS
    have hc := hv.2.2.2 p hpn
    have FIN : ∀ (g2 : GM) (s2 : Nat → Int32), f0_passOver K g1 (B + 19) = some g2 → RES K g1 (B + 10 + 9) (S1 1) i t n sn g2 s2 → ((f8_onTop S1 2).bind (fun v10 => (f8_signAt S1 v10).bind (fun v12 => if v12 = 99 then (f8_go S1 2).bind (fun g15 => f8_skip_100 g15) else if v12 = 107 then (f8_go S1 2).bind (fun g18 => f8_skip_100 g18) else if v12 = 119 then (f8_donePick S1).bind (fun g21 => f8_skip_100 g21) else if v12 = 120 then (f8_passPart S1 (v10 + 2)).bind (fun g24 => f8_skip_100 g24) else (f8_passPart S1 (v10 + 1)).bind (fun g26 => f8_skip_100 g26)))) = f8_skip_100 (rw1 S1 s2) → OPR K B (if (gI g (B + 19) 6) = 0 then some (g, (-5)) else (f3_keep K g (B + 42) (B + 10)).bind (fun g5 => (f0_passOver K g5 (B + 19)).bind (fun g7 => (f0_leaveEnds K g7 (B + 19)).bind (fun g9 => some (g9, gI g9 (B + 19) 6))))) (f8_skip S) := by
      intro g2 s2 e1 hR e2
      obtain ⟨g3, s3, d3, q1, q2, q3, q4⟩ := after (S := S1) hR hl hA.se hi
      refine ⟨g3, rw1 S1 s3, nI d3, ?_, ?_, SIM.loom k3 (AG.mo q4.1 (fun q hq => by omega)) ⟨c, d3, h1.mb hA q4, q3, ?_, h4.mo q4.2.2⟩⟩
      · rw [if_neg (show ¬ gI g (B + 19) 6 = 0 from fun z => by rw [show gI g (B + 19) 6 = nI (i + 1) from a6] at z; have := (nI_eq (a := i + 1) (b := 0) (by omega) (by omega)).mp z; omega), k1]
        simp only [EV]
        rw [e1]
        simp only [EV]
        rw [q1]
        simp only [EV]
        rw [show gI g3 (B + 19) 6 = nI d3 from q3.1]
      · unfold f8_skip
        simp (disch := omega) only [EV, pu_lit, pu_gok, pu_cl, a3, pu_eq]
        rw [if_neg (by omega), k2]
        simp only [EV]
        have e2' := e2
        simp only [pu_lit] at e2'
        rw [e2']
        unfold f8_skip_100
        rw [q2]
        simp (disch := omega) only [EV, pu_lit, pu_gok, pu_cl, rw1_1, q3.2.1]
      · rw [q4.2.1 8 (by omega) (by omega), q4.1.i (by omega) 12]
        exact h3
    refine (?_ : OPR K B _ (f8_skip S))
    rcases hsp.kinds hv hpn with ⟨z, -⟩ | hx | hx | hx | hx | hx | hx
    · exact absurd z h41
    · obtain ⟨g2, s2, e1, e2, hR⟩ := pass_ck (S := S1) hf hA.se hi hd6 h3' hpn (Or.inl hx)
      rw [rw1_self] at e2
      refine FIN g2 s2 e1 hR ?_
      rw [hx] at RS
      simp (disch := omega) only [EV, pu_lit, pu_eq, RT, RS, e2, if_true]
    · obtain ⟨g2, s2, e1, e2, hR⟩ := pass_ck (S := S1) hf hA.se hi hd6 h3' hpn (Or.inr hx)
      rw [rw1_self] at e2
      refine FIN g2 s2 e1 hR ?_
      rw [hx] at RS
      simp (disch := omega) only [EV, pu_lit, pu_eq, RT, RS, e2, if_true]
      simp
    · obtain ⟨g2, s2, e1, e2, hR⟩ := pass_sl (S := S1) hf hA.se hi hd6 h3' hpn (Or.inl hx)
      rw [rw1_self] at e2
      refine FIN g2 s2 e1 hR ?_
      rw [hx] at RS
      simp (disch := omega) only [EV, NUM, pu_lit, pu_eq, RT, RS, e2]
      simp
    · obtain ⟨g2, s2, e1, e2, hR⟩ := pass_sl (S := S1) hf hA.se hi hd6 h3' hpn (Or.inr hx)
      rw [rw1_self] at e2
      refine FIN g2 s2 e1 hR ?_
      rw [hx] at RS
      simp (disch := omega) only [EV, NUM, pu_lit, pu_eq, RT, RS, e2]
      simp
    · obtain ⟨g2, s2, e1, e2, hR⟩ := pass_w (S := S1) hf hA.se hi hd6 h3' hpn hx
      rw [rw1_self] at e2
      refine FIN g2 s2 e1 hR ?_
      rw [hx] at RS
      simp (disch := omega) only [EV, NUM, pu_lit, pu_eq, RT, RS, e2]
      simp
    · obtain ⟨g2, s2, e1, e2, hR⟩ := pass_x (S := S1) hf hA.se hi hd6 h3' hpn hx
      rw [rw1_self] at e2
      refine FIN g2 s2 e1 hR ?_
      rw [hx] at RS
      simp (disch := omega) only [EV, NUM, pu_lit, pu_eq, RT, RS, e2]
      simp
theorem op_begin (hS : SIM K g S B) (x : Int32) : OPR K B (f7_begin K g B x) (f8_begin S x) := by
  have hL := hS.1
  have hA := hL.sa hL.l1
  unfold f7_begin f8_begin f8_isCard f8_hasText
  rcases rg x (n := 10) (by omega) (by omega) with ⟨e1, e2⟩ | ⟨j, hj, rfl, e1, e2⟩
  · refine ⟨g, S, -1, ?_, ?_, hS⟩
    · rw [show (10 : Int32) = nI 10 from rfl, e1]; rfl
    · rw [show f8_within x 0 9 = f8_within x (nI 0) (nI (10 - 1)) from rfl, e2]; rfl
  · rw [show (10 : Int32) = nI 10 from rfl, show f8_within (nI j) 0 9 = f8_within (nI j) (nI 0) (nI (10 - 1)) from rfl, e1, e2]
    simp (disch := omega) only [EV, if_neg z10, gb1, pu_gok, pu_cl, NUM, pu_lit]
    obtain ⟨c0, d0, hB0, -⟩ := hS.2.1
    rcases hB0.2.2.2.2 j hj with ⟨t1, t2⟩ | ⟨t', n', sn', t1, t2, t3, -⟩
    · refine ⟨g, S, -5, ?_, ?_, hS⟩
      · rw [show gR g (B + 11) j = none from t1]; rfl
      · rw [t2]; rfl
    · have np := (vt_pos t2.2.2.2.1).1
      have n80 := t2.2.2.2.1.1
      obtain ⟨g1, S1, k1, k2, k3, k4, k5, -⟩ := hS.keep
      obtain ⟨c, d, h1, h2, h3, h4⟩ := k3.2.1
      rcases h1.2.2.2.2 j hj with ⟨u1, -⟩ | ⟨t, n, sn, u1, u2, u3, u4⟩
      · have : gR g1 (B + 10 + 1) j = gR g (B + 10 + 1) j := k4.r (by omega) j
        rw [this, t1] at u1
        cases u1
      · let ga := gsI g1 (B + 10 + 9) 6 (nI 0)
        let sa := upd (S1 1) 3 (nI 0)
        have ag : AG (fun q => q = B + 10 + 9) g1 ga := AG.rf.ai rfl
        have ta : TA K g1 ga := hA.ta ag (fun q hq => by omega)
        have hBa : LRB K ga (B + 10) sa c := h1.mo ta (fun _ => rfl) (fun q hq k => ag.i (by omega) k) (fun y z1 z2 _ => pk_un z2)
        obtain ⟨g2, s2, l1, l2, l3, l4, l5, l6, l7, l8, l9, l10⟩ := lays (S := S1) hBa hA (show gI ga (B + 10 + 9) 6 = nI 0 from gI_eq) (show sa 3 = nI 0 from pk_us) (by omega) (fun q hq => absurd hq (Nat.not_lt_zero q)) hj (show 0 < 6 by omega) (show gR ga (B + 10 + 1) j = some t from u1) (u2.mo ta) (by show upd (S1 1) _ _ _ = _; rw [pk_un (by omega)]; exact u3) (fun y hy => by show upd (S1 1) _ _ _ = _; rw [pk_un (by omega)]; exact u4 y hy)
        refine ⟨g2, rw1 S1 s2, nI d, ?_, ?_, SIM.loom k3 ((AG.mo ag (fun q hq => by omega)).tr (AG.mo l7 (fun q hq => by omega))) ⟨c, 1, l3, l4, ?_, l9 (h4.mo (fun _ => rfl))⟩⟩
        · rw [show gR g (B + 11) j = some t' from t1]
          simp only [EV, k1]
          unfold f4_beginWith
          simp only [EV, pu_lit]
          show ((f4_layOnStack K ga (B + 10) (nI j) (nI 0)).bind fun g4 => some (g4, gI g1 (B + 10 + 9) 6)).bind (fun r13 => some (r13.1, r13.2)) = _
          rw [l1, h2.1]
          rfl
        · rw [t3]
          have nle : ¬ n' ≤ 0 := by omega
          simp (disch := omega) only [pu_le, nle, if_false, EV, k2, pu_gok, pu_cl, pu_eq]
          rw [if_neg (by omega), show ssI S1 1 3 (nI 0) = rw1 S1 sa by rw [← ss_rw, rw1_self], l2, h2.2.1]
          rfl
        · rw [l10, l8, ag.i (by omega) 12]
          exact (pk_un (by omega)).trans h3
/-! undo and saved states -/
theorem LRF.c9 (h : LRF K g a s) : ∃ c, c ≤ 400 ∧ gI g a 9 = nI c ∧ s 4 = nI c := by
  obtain ⟨c, d, h1, -⟩ := h
  exact ⟨c, h1.2.2.1.1, h1.2.2.1.2.1, h1.2.2.1.2.2.1⟩
theorem op_undo (hS : SIM K g S B) : OPR K B (f7_undo K g B) (f8_undo S) := by
  have hS' := hS
  obtain ⟨hL, hF, ⟨h, σ, b1, b2, b3, b4, b5, b6⟩, hO, sn, L, hP, hR⟩ := hS'
  have hA := hL.sa hL.l1
  unfold f7_undo f8_undo f3_takeBack
  cases h with
  | zero =>
    refine ⟨g, S, -5, ?_, ?_, hS⟩
    · rw [if_pos (show gI g (B + 42) 1 = 0 from b2)]
    · rw [if_pos (show S 0 3 = 0 from b3)]
  | succ h =>
    have n0 : ¬ nI (h + 1) = 0 := fun z => by have := (nI_eq (a := h + 1) (b := 0) (by omega) (by omega)).mp z; omega
    obtain ⟨z1, z2, z3, z4⟩ := b4 h (by omega)
    let g1 := gsI g (B + 42) 1 (nI h)
    have ag1 : AG (fun q => q = B + 42) g g1 := AG.rf.ai rfl
    have ta1 := hL.ta ag1 (fun q hq => by omega)
    have s1 : gI g1 (B + 42) 1 = nI h := gI_eq
    have r1 : gR g1 (B + 43) h = some (σ h) := z1
    obtain ⟨g2, e2, ag2, f1, f2⟩ := ((b6 h (by omega)).ag ag1 ta1 (fun q hq => by omega)).copy (a := B + 10) (hL.2.2.2.2.1 _ hL.l1).1 (hL.2.2.2.2.1 _ z2).1 (by omega) hA
    have agA : AG (fun q => (B + 10 ≤ q ∧ q ≤ B + 25) ∨ q = B + 42) g g2 := (AG.mo ag1 (fun q hq => by omega)).tr (AG.mo ag2 (fun q hq => by omega))
    have taA := hL.ta agA (fun q hq => by omega)
    let S1 := ssI S 0 3 (nI h)
    have s3 : S1 0 3 = nI h := by show ssI S _ _ _ _ _ = _; rw [ss_at, if_pos ⟨rfl, rfl⟩]
    obtain ⟨S2, e3, y1, y2, y3⟩ := rl_undo (h := h) (by omega) 2081 0 S1 (FU - 2081) rfl s3
    rw [show 2081 + (FU - 2081) = FU by unfold FU; omega] at e3
    have SK : ∀ k, k ≠ 1 → k ≠ 0 → S2 k = S k := fun k k1 k2 => by rw [y1 k k1]; exact ss_n _ _ _ _ _ k2
    have S03 : S2 0 3 = nI h := by rw [y1 0 (by decide)]; exact s3
    have S0j : ∀ j, j ≠ 3 → S2 0 j = S 0 j := fun j hj => by
      rw [y1 0 (by decide)]
      show ssI S _ _ _ _ _ = _
      rw [ss_at, if_neg (fun z => hj z.2)]
    refine ⟨g2, S2, nI h, ?_, ?_, hL, ?_, ⟨h, σ, by omega, ?_, S03, fun j hj => ?_, b5, fun j hj => ?_⟩, hO.ag hL agA taA (fun q hq => by omega) (SK 4 (by decide) (by decide)) (SK 5 (by decide) (by decide)), sn, L, ?_, ?_⟩
    · rw [b2, if_neg n0]
      simp (disch := omega) only [EV, pu_lit, pk_sub, Nat.add_sub_cancel]
      rw [if_neg (show ¬ nI (h + 1) = nI 0 from n0)]
      show (gd (gok (gI g1 (B + 42) 1) 6) (gopt (gR g1 (B + 43) (gI g1 (B + 42) 1).toNatClampNeg) none fun t6 => gd (decide (gkd K (B + 10) = 5)) ((f4_copyFrom K g1 (B + 10) t6).bind fun g9 => some g9))).bind _ = _
      rw [s1]
      simp (disch := omega) only [EV, pu_gok, pu_cl, r1, hL.l1, decide_true, e2]
      rw [ag2.i (by omega), s1]
    · rw [b3, if_neg n0]
      simp (disch := omega) only [EV, pu_lit, pk_sub, Nat.add_sub_cancel]
      show f8_undo_22 FU S1 (nI 0) = _
      rw [e3, show FU - 2081 = (FU - 2082) + 1 by unfold FU; omega, f8_undo_22]
      simp (disch := omega) only [pu_lit, pu_le, S03]
      simp
    · refine f1.row (fun y hy => ?_)
      have := y2 y (Nat.zero_le _) hy
      rw [Nat.zero_add] at this
      rw [this]
      show ssI S _ _ _ 3 _ = _
      rw [ss_n _ _ _ _ _ (by decide)]
    · rw [ag2.i (by omega)]; exact s1
    · obtain ⟨w1, w2⟩ := b4 j hj
      exact ⟨by rw [agA.r (by omega)]; exact w1, w2⟩
    · obtain ⟨w1, w2, w3, w4⟩ := b4 j (by omega)
      rw [SK 3 (by decide) (by decide)]
      exact (b6 j (by omega)).ag agA taA (fun q hq => by omega)
    · obtain ⟨q1, q2, q3, q4⟩ := hP
      exact ⟨q1, q2, by rw [agA.i (by omega)]; exact q3, fun k hk => by rw [agA.i (by omega)]; exact q4 k hk⟩
    · obtain ⟨q1, q2, q3⟩ := hR
      exact ⟨q1, by rw [S0j 7 (by decide)]; exact q2, by rw [SK 6 (by decide) (by decide)]; exact q3⟩
theorem op_restore (hS : SIM K g S B) (x : Int32) : OPR K B (f7_restore K g B x) (f8_restore S x) := by
  have hL := hS.1
  have hA := hL.sa hL.l1
  unfold f7_restore f8_restore f8_isSlot
  rcases rg x (n := 2) (by omega) (by omega) with ⟨e1, e2⟩ | ⟨j, hj, rfl, e1, e2⟩
  · refine ⟨g, S, -2, ?_, ?_, hS⟩
    · rw [show (2 : Int32) = nI 2 from rfl, e1]; rfl
    · rw [show f8_within x 0 1 = f8_within x (nI 0) (nI (2 - 1)) from rfl, e2]; rfl
  · rw [show (2 : Int32) = nI 2 from rfl, show f8_within (nI j) 0 1 = f8_within (nI j) (nI 0) (nI (2 - 1)) from rfl, e1, e2]
    simp (disch := omega) only [EV, if_neg z10, gb1, pu_gok, pu_cl]
    rcases hS.2.2.2.1.1 j hj with ⟨t1, t2⟩ | ⟨a, t1, t2, t3, t4, t5⟩
    · refine ⟨g, S, -5, ?_, ?_, hS⟩
      · rw [t1]; rfl
      · rw [t2]; rfl
    · obtain ⟨g1, S1, k1, k2, k3, k4, k5, -⟩ := hS.keep
      rcases k3.2.2.2.1.1 j hj with ⟨u1, u2⟩ | ⟨a', u1, u2, u3, u4, u5⟩
      · rw [k4.r (by omega), t1] at u1; cases u1
      · obtain ⟨g2, e3, ag2, f1, f2⟩ := u5.copy (a := B + 10) (hL.2.2.2.2.1 _ hL.l1).1 (hL.2.2.2.2.1 _ u2).1 (by omega) hA
        obtain ⟨S2, e4, y1, y2, y3⟩ := rl_rest (h := j) hj 2081 0 S1 (FU - 2081) rfl
        rw [show 2081 + (FU - 2081) = FU by unfold FU; omega] at e4
        have f3 : LRF K g2 (B + 10) (S2 1) := f1.row (fun y hy => by have := y2 y (Nat.zero_le _) hy; rwa [Nat.zero_add] at this)
        obtain ⟨c, c4, c5, c6⟩ := f3.c9
        have hS2 : S2 = rw1 S1 (S2 1) := by
          funext k
          by_cases hk : k = 1
          · subst hk; rw [rw1_1]
          · rw [rw1_n _ _ hk, y1 k hk]
        refine ⟨g2, S2, nI c, ?_, ?_, ?_⟩
        · rw [t1]
          simp only [EV, k1, u1, e3]
          rw [c5]
        · rw [t4, if_neg (show ¬ nI 1 = 0 from z10), k2]
          simp only [EV]
          show f8_restore_28 (nI j) FU S1 (nI 0) = _
          rw [e4, show FU - 2081 = (FU - 2082) + 1 by unfold FU; omega, f8_restore_28]
          simp (disch := omega) only [EV, pu_lit, pu_le, pu_gok, pu_cl, c6]
          simp
        · rw [hS2]
          exact SIM.loom k3 (AG.mo ag2 (fun q hq => by omega)) f3
/-! what if -/
theorem what_if (hS : SIM K g S B) {P : Nat} (hP : P ≤ 999) (hP1 : 1 ≤ P) : ∃ g1 g2 s' c' w', f4_copyFrom K g (B + 26) (B + 10) = some g1 ∧ f4_goOn K g1 (B + 26) (nI P) = some (g2, nI w') ∧ w' ≤ P ∧ LRF K g2 (B + 26) s' ∧ c' ≤ 400 ∧ w' ≤ c' ∧ LRC g2 (B + 26) s' c' ∧ ∃ S1 S3, f8_putAside S = some S1 ∧ f8_weaves S1 (nI P) = some (rw1 S1 s', nI w') ∧ f8_takeBack (rw1 S1 s') = some S3 ∧ SIM K g2 S3 B := by
  have hL := hS.1
  have hA := hL.sa hL.l2
  obtain ⟨g1, e1, ag1, f1, f2⟩ := hS.2.1.copy (a := B + 26) (hL.2.2.2.2.1 _ hL.l2).1 (hL.2.2.2.2.1 _ hL.l1).1 (by omega) hA
  obtain ⟨S1, e2, p1, p2⟩ := re_put S
  have f1' : LRF K g1 (B + 26) (S1 1) := by rw [p1 1 (by decide)]; exact f1
  obtain ⟨c, d, h1, h2, h3, h4⟩ := f1'
  obtain ⟨g2, s', c', d', w', q1, q2, q3, q4, q5, q6, q7, q8, q9, q10⟩ := weaving (S := S1) hA hP hP1 h1 h2
  rw [rw1_self] at q2
  obtain ⟨S3, e3, y1, y2, y3⟩ := re_take (rw1 S1 s')
  have agA : AG (fun q => B + 26 ≤ q ∧ q ≤ B + 41) g g2 := (AG.mo ag1 (fun q hq => by omega)).tr (AG.mo q6 (fun q hq => by omega))
  have K3 : ∀ k, k ≠ 1 → k ≠ 2 → S3 k = S k := fun k k1 k2 => by rw [y1 k k1, rw1_n _ _ k1, p1 k k2]
  exact ⟨g1, g2, s', c', w', e1, q1, q9, ⟨c', d', q3, q4, q5, q10 h4⟩, q3.2.2.1.1, by omega, q3.2.2.1, S1, S3, e2, q2, e3, hS.free agA (fun q hq => by omega) (fun j _ => by rw [K3 0 (by decide) (by decide)]) (fun y hy => by rw [y2 y hy, rw1_n _ _ (by decide), p2 y hy]) (fun k k3 k6 => K3 k (by omega) (by omega))⟩
theorem op_ahead (hS : SIM K g S B) (y : Int32) : OPR K B (f7_ahead K g B y) (f8_ahead S y) := by
  unfold f7_ahead f8_ahead
  rcases rg1 y (n := 99) (by omega) (by omega) with ⟨f1, f2⟩ | ⟨f1, f2, f3⟩ | ⟨P, P1, P99, rfl, f3⟩
  · refine ⟨g, S, -2, ?_, ?_, hS⟩
    · rw [if_pos (show y < 1 from f1)]
    · rw [show f8_within y 1 99 = f8_within y (nI 1) (nI 99) from rfl, f2]; rfl
  · refine ⟨g, S, -2, ?_, ?_, hS⟩
    · rw [if_neg (show ¬ y < 1 from f1), if_neg (show ¬ y ≤ 99 from f2)]
    · rw [show f8_within y 1 99 = f8_within y (nI 1) (nI 99) from rfl, f3]; rfl
  · obtain ⟨g1, g2, s', c', w', e1, e2, e3, e4, e5, e6, e7, S1, S3, e8, e9, e10, e11⟩ := what_if hS (P := P) (by omega) P1
    have n1 : ¬ nI P < 1 := fun z => by have := (nI_ltI (a := P) (b := 1) (by omega) (by omega)).mp z; omega
    have n2 : nI P ≤ 99 := (nI_leI (a := P) (b := 99) (by omega) (by omega)).mpr P99
    obtain ⟨c1, c2, c3, c4⟩ := e7
    by_cases hw : w' = P
    · subst hw
      obtain ⟨v, v6, z1, z2⟩ := c4 (c' - 1) (by omega)
      refine ⟨g2, S3, nI v, ?_, ?_, e11⟩
      · rw [if_neg n1, if_pos n2, e1]
        simp only [EV]
        rw [e2]
        simp (disch := omega) only [EV, pu_lit, pu_lt, pu_eq, c2, pk_sub, pu_gok, pu_cl]
        rw [if_neg (by omega), if_neg (by omega), show gI g2 (B + 34) (c' - 1) = nI v from z1]
      · rw [show f8_within (nI w') 1 99 = f8_within (nI w') (nI 1) (nI 99) from rfl, f3]
        unfold f8_tellsAhead f8_tellsAhead_37
        simp (disch := omega) only [EV, if_neg z10, e8, e9, rw1_1, pu_lit, pu_gok, pu_cl, c3, NUM, pk_sub, if_true]
        rw [show 853 + c' - 1 = 853 + (c' - 1) by omega, z2, e10]
        rfl
    · refine ⟨g2, S3, -6, ?_, ?_, e11⟩
      · rw [if_neg n1, if_pos n2, e1]
        simp only [EV]
        rw [e2]
        simp (disch := omega) only [EV, pu_lit, pu_lt]
        rw [if_pos (by omega)]
      · rw [show f8_within (nI P) 1 99 = f8_within (nI P) (nI 1) (nI 99) from rfl, f3]
        unfold f8_tellsAhead f8_tellsAhead_37
        simp (disch := omega) only [EV, if_neg z10, e8, e9, pu_lit, pu_eq, hw, if_false, e10]
        rw [if_neg (by omega)]
theorem op_stop (hS : SIM K g S B) (x : Int32) : OPR K B (f7_stop K g B x) (f8_stop S x) := by
  unfold f7_stop f8_stop
  rcases rg x (n := 3) (by omega) (by omega) with ⟨r1, r2⟩ | ⟨j, hj, rfl, r1, r2⟩
  · refine ⟨g, S, -2, ?_, ?_, hS⟩
    · by_cases h1 : x < 0
      · rw [if_pos h1]
      · by_cases h2 : x ≤ 2
        · unfold f7_inRange f7_inRange_13 at r1
          have h3 : ¬ nI 3 ≤ x := fun z => i_ne ((lt_pred (n := 3) (by omega) (by omega)).mpr z) h2
          rw [if_neg h1, if_neg h3] at r1
          exact absurd (Option.some.inj r1) (by decide)
        · rw [if_neg h1, if_neg h2]
    · rw [show f8_within x 0 2 = f8_within x (nI 0) (nI (3 - 1)) from rfl, r2]; rfl
  · obtain ⟨g1, g2, s', c', w', e1, e2, e3, e4, e5, e6, e7, S1, S3, e8, e9, e10, e11⟩ := what_if hS (P := 999) (by omega) (by omega)
    have n1 : ¬ nI j < 0 := fun z => by have := (nI_ltI (a := j) (b := 0) (by omega) (by omega)).mp z; omega
    have n2 : nI j ≤ 2 := (nI_leI (a := j) (b := 2) (by omega) (by omega)).mpr (by omega)
    obtain ⟨d, d9, a6, a3⟩ := e4.s3
    have h8 : s' 8 = gI g2 (B + 26) 12 := by
      obtain ⟨c, d, -, -, h, -⟩ := e4
      exact h
    obtain ⟨card, hcard1, hcard2⟩ : ∃ card : Int32, (if gI g2 (B + 35) 6 = 0 then some (g2, (-6 : Int32)) else gd (gok ((gI g2 (B + 35) 6) - 1) 9) (some (g2, gI g2 (B + 36) ((gI g2 (B + 35) 6) - 1).toNatClampNeg))) = some (g2, card) ∧ (if s' 3 = 0 then f8_tellsStop_39 (nI j) (rw1 S1 s') (nI w') (s' 8) (-6) else (f8_onTop (rw1 S1 s') 0).bind (fun v16 => f8_tellsStop_39 (nI j) (rw1 S1 s') (nI w') (s' 8) v16)) = f8_tellsStop_39 (nI j) (rw1 S1 s') (nI w') (s' 8) card := by
      rw [show gI g2 (B + 35) 6 = nI d from a6, a3]
      cases d with
      | zero => exact ⟨-6, rfl, rfl⟩
      | succ i =>
        obtain ⟨c, d, -, q2, -, -⟩ := e4
        have hd : d = i + 1 := by
          have := q2.2.1
          rw [a3] at this
          have := q2.2.2.1
          exact ((nI_eq (by omega) (by omega)).mp (by assumption)).symm
        subst hd
        obtain ⟨t, n, sn, p, m, hf, -⟩ := q2.2.2.2.2 i rfl
        have n0 : ¬ nI (i + 1) = 0 := fun z => by have := (nI_eq (a := i + 1) (b := 0) (by omega) (by omega)).mp z; omega
        refine ⟨s' (fb i), ?_, ?_⟩
        · rw [if_neg n0]
          simp (disch := omega) only [EV, pu_lit, pk_sub, pu_gok, pu_cl, Nat.add_sub_cancel]
          exact congrArg (fun v => some (g2, v)) hf.2.2.1.symm
        · have := re_top (S := S1) (k := 0) (show i < 9 by omega) q2.2.1 (by omega)
          rw [if_neg n0, show f8_onTop (rw1 S1 s') 0 = f8_onTop (rw1 S1 s') (nI 0) from rfl, this]
          simp only [EV, Nat.add_zero]
    have RR : ∃ r, (if (gI g2 (B + 26) 12) = 0 then some (g2, (-6 : Int32)) else if nI j = 0 then some (g2, nI w') else if nI j = 1 then some (g2, gI g2 (B + 26) 12) else some (g2, card)) = some (g2, r) ∧ f8_tellsStop_39 (nI j) (rw1 S1 s') (nI w') (s' 8) card = some (S3, r) := by
      unfold f8_tellsStop_39
      rw [e10, h8]
      simp only [EV]
      by_cases z0 : gI g2 (B + 26) 12 = 0
      · exact ⟨-6, by rw [if_pos z0], by rw [if_pos z0]⟩
      · by_cases z1 : nI j = 0
        · exact ⟨nI w', by rw [if_neg z0, if_pos z1], by rw [if_neg z0, if_pos z1]⟩
        · by_cases z2 : nI j = 1
          · exact ⟨gI g2 (B + 26) 12, by rw [if_neg z0, if_neg z1, if_pos z2], by rw [if_neg z0, if_neg z1, if_pos z2]⟩
          · exact ⟨card, by rw [if_neg z0, if_neg z1, if_neg z2], by rw [if_neg z0, if_neg z1, if_neg z2]⟩
    obtain ⟨r, rr1, rr2⟩ := RR
    refine ⟨g2, S3, r, ?_, ?_, e11⟩
    · rw [if_neg n1, if_pos n2, e1]
      simp only [EV]
      rw [show (999 : Int32) = nI 999 from rfl, e2]
      simp only [EV]
      rw [hcard1]
      exact rr1
    · rw [show f8_within (nI j) 0 2 = f8_within (nI j) (nI 0) (nI (3 - 1)) from rfl, r2]
      unfold f8_tellsStop
      simp only [EV, if_neg z10, e8]
      rw [show (999 : Int32) = nI 999 from rfl, e9]
      simp (disch := omega) only [EV, pu_gok, pu_cl, rw1_1, pu_lit]
      refine (congrArg (fun (x : Option (GS × Int32)) => x.bind (fun r4 => some (r4.1, r4.2))) hcard2).trans ?_
      rw [rr2]
      rfl
end OPS2
