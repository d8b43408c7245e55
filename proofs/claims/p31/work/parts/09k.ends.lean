/-! THE PURE PART, k: leaving the ends -/
section ENDS
variable {K : GK} {S : GS} {b t n p m i : Nat} {sn : Nat → Nat}
theorem ends : ∀ (μ i t n : Nat) (sn : Nat → Nat) (p m : Nat) (g : GM) (s : Nat → Int32) (x fC fR : Nat), FR1 K g b s i t n sn p m → (∀ j, j < i → ∃ t n sn p m, FR1 K g b s j t n sn p m ∧ p < n ∧ sn p = 107) → SE K b → i < 9 → gI g b 6 = nI (i + 1) → s 3 = nI (i + 1) → 4 * i + 1 + m ≤ μ → x + μ ≤ 36 → μ + 1 < fC → μ + 2 < fR → ∃ g' s' d', f0_leaveEnds_2 K b fC g (nI x) = some g' ∧ f8_settle_2 fR (rw1 S s) (nI 1) = some (rw1 S s') ∧ STK K g' b s' d' atStep ∧ MB g g' b s s' := by
  intro μ
  induction μ with
  | zero => intro i t n sn p m g s x fC fR h hlow hk hi hd h3 hμ; omega
  | succ μ ih =>
    intro i t n sn p m g s x fC fR h hlow hk hi hd h3 hμ hx hfC hfR
    obtain ⟨fC, rfl⟩ : ∃ k, fC = k + 1 := ⟨fC - 1, by omega⟩
    obtain ⟨fR, rfl⟩ : ∃ k, fR = k + 1 := ⟨fR - 1, by omega⟩
    have hm := h.m3
    have h2 := h.2.1
    have hv := h2.2.2.2.1
    have hs := h.2.2.2.2.2.2.2.2.2.1
    have f0 := h.fr0
    have hh := h
    obtain ⟨h1, -, h3', ⟨c, c6, h4, h4'⟩, h5, h6, h7, h8, h9, h10, h11, h12, h13, h14⟩ := hh
    have CL := cl_letter h hi hd
    have RT2 := re_top (S := S) (k := 2) hi h3 (by omega)
    have RT11 := re_top (S := S) (k := 11) hi h3 (by omega)
    rw [h9] at RT2
    rw [h12] at RT11
    have g3 : gok (nI 3) 2081 = true := pu_gok (by decide) (by decide)
    have b3 : 3 < fb i := by show 3 < 1253 + 92 * i; omega
    by_cases hpn : p < n
    · have hc := hv.2.2.2 p hpn
      rw [if_pos hpn] at CL
      have RS := re_sign (S := S) (k := p) hi h3 (by omega)
      rw [h13 p hpn] at RS
      have npn : ¬ p = n := by omega
      by_cases h41 : sn p = 41
      · -- a part's end
        obtain ⟨k, hk1, hsp⟩ : ∃ k, ks sn p = k :: ks sn (p + 1) ∧ SP sn n (p + 1) := by
          rcases hs.kinds hv hpn with ⟨-, z⟩ | z | z | z | z | z | z
          · exact z
          all_goals omega
        obtain ⟨k1, k2, k3, k4, k5⟩ := elem_sp hv (by omega) hk1
        have hm1 : m = (ks sn (p + 1)).length + 1 := by rw [← h5, hk1]; rfl
        obtain ⟨mm, rfl⟩ : ∃ mm, m = mm + 1 := ⟨m - 1, by omega⟩
        have hmm : (ks sn (p + 1)).length = mm := by omega
        obtain ⟨l, l8, a1, a2, a3, a4, a5⟩ := h14 mm (by omega)
        rw [hk1, show opn (k :: ks sn (p + 1)) mm = k by rw [← hmm]; exact opn_top _ _] at a1 a2 a5
        let g1 := gsI g (b + 3) i (nI mm)
        let s1 := upd s (fb i + 4) (nI mm)
        have mv1 : MW g g1 b s s1 i := (MW.gi (x := 3) (by omega) (by omega)).tr (MW.su (by omega))
        have e1 : s1 3 = nI (i + 1) := by show upd s _ _ 3 = _; rw [pk_un (by omega)]; exact h3
        have hd1 : gI g1 b 6 = nI (i + 1) := by show gI (gsI g _ _ _) b 6 = _; rw [gI_ne (by omega)]; exact hd
        have F0 : FR0 K g1 b s1 i t n sn (ks sn (p + 1)) := by
          obtain ⟨y1, y2, y3, ⟨c, c6, y4, y4'⟩, y5, y6, y7, y8, y9⟩ := f0
          refine ⟨y1, y2.mo (mv1.ta hk), ?_, ⟨c, c6, ?_, ?_⟩, ?_, ?_, ?_, fun q hq => ?_, fun j hj => ?_⟩
          · show upd s _ _ (fb i) = gI (gsI g _ _ _) (b + 1) i
            rw [pk_un (by omega), gI_ne (by omega)]; exact y3
          · show gI (gsI g _ _ _) (b + 2) i = _
            rw [gI_ne (by omega)]; exact y4
          · show upd s _ _ _ = _
            rw [pk_un (by omega)]; exact y4'
          · show gI (gsI g _ _ _) (b + 3) i = _
            rw [gI_eq, hmm]
          · show upd s _ _ _ = _
            rw [pk_us, hmm]
          · show upd s _ _ _ = _
            rw [pk_un (by omega)]; exact y7
          · show upd s _ _ _ = _
            rw [pk_un (by omega)]; exact y8 q hq
          · obtain ⟨l', l8', z1, z2, z3, z4, z5⟩ := y9 j (by rw [hk1]; simp; omega)
            rw [hk1, opn_old _ _ hj] at z1 z2 z5
            refine ⟨l', l8', ?_, ?_, ?_, ?_, z5⟩
            · show gI (gsI g _ _ _) (b + 4) _ = _
              rw [gI_ne (by omega)]; exact z1
            · show upd s _ _ _ = _
              rw [pk_un (by omega)]; exact z2
            · show gI (gsI g _ _ _) (b + 5) _ = _
              rw [gI_ne (by omega)]; exact z3
            · show upd s _ _ _ = _
              rw [pk_un (by omega)]; exact z4
        have w4 : gI g1 (b + 4) (4 * i + mm) = nI k := by show gI (gsI g _ _ _) _ _ = _; rw [gI_ne (by omega)]; exact a1
        have w5 : gI g1 (b + 5) (4 * i + mm) = nI l := by show gI (gsI g _ _ _) _ _ = _; rw [gI_ne (by omega)]; exact a3
        have v5 : s1 (fb i + 5 + 2 * mm) = nI k := by show upd s _ _ _ = _; rw [pk_un (by omega)]; exact a2
        have v6 : s1 (fb i + 6 + 2 * mm) = nI l := by show upd s _ _ _ = _; rw [pk_un (by omega)]; exact a4
        have v4 : s1 (fb i + 4) = nI mm := pk_us
        have v2 : s1 (fb i + 2) = nI p := by show upd s _ _ _ = _; rw [pk_un (by omega)]; exact h9
        have v3 : s1 (fb i + 3) = nI 0 := by show upd s _ _ _ = _; rw [pk_un (by omega)]; exact LF.zero h11 (by omega) (by omega)
        obtain ⟨PB, SPT⟩ := cl_behind' (K := K) (g := g1) (b := b) (p := k) hi hd1 h1 (h2.mo (mv1.ta hk)) (show gI g1 (b + 3) i = nI mm from gI_eq) (by omega) w4 k1
        have cl5 : gI g1 (t + 5) k = nI (p + 1) := by
          have := tx_cl h2 hpn h41 hk1
          rw [← this]
          exact congrFun ((mv1.ta hk) t h2.1 5 (by omega)) k
        rw [cl5] at PB
        have AR := cl_arrive (q := p + 1) hi (show mm ≤ 3 by omega) hd1 (show gI g1 (b + 3) i = nI mm from gI_eq) h1 (h2.mo (mv1.ta hk)) (show p + 1 ≤ n by omega) hk
        have T4 := re_top (S := S) (s := s1) (k := 4) hi e1 (by omega)
        have T6 := re_top (S := S) (s := s1) (k := 5 + 2 * mm + 1) hi e1 (by omega)
        have T5 := re_top (S := S) (s := s1) (k := 5 + 2 * mm) hi e1 (by omega)
        rw [v4] at T4
        rw [show fb i + (5 + 2 * mm + 1) = fb i + 6 + 2 * mm by omega, v6] at T6
        rw [show fb i + (5 + 2 * mm) = fb i + 5 + 2 * mm by omega, v5] at T5
        have T4o := re_top (S := S) (s := s) (k := 4) hi h3 (by omega)
        rw [h7] at T4o
        have ST4 : f8_setTop (rw1 S s) (nI 4) (nI mm) = some (rw1 S s1) := re_set hi h3 (by omega)
        by_cases hl0 : l = 0
        · subst hl0
          -- behind the part
          have RG : f8_go (rw1 S s1) (nI 1) = some (rw1 S (upd s1 (fb i + 2) (nI (p + 1)))) := re_go hi e1 v2
          have AF := F0.arr (s' := upd s1 (fb i + 2) (nI (p + 1))) hk hsp (fun q _ z2 z3 => pk_un (by omega)) pk_us (by rw [pk_un (by omega)]; exact v3)
          rw [hmm] at AF
          have mv2 : MW g (gA g1 b (4 * i + mm) (p + 1) (if p + 1 < n then gI g1 (t + 2) (p + 1) else nI 0)) b s (upd s1 (fb i + 2) (nI (p + 1))) i := (mv1.tr (gA_mv (by omega))).tr (MW.su (by omega))
          obtain ⟨g', s', d', r1, r2, r3, r4⟩ := ih i t n sn (p + 1) mm _ _ (x + 1) fC fR AF (fun j hj => by
            obtain ⟨t', n', sn', p', m', z1, z2⟩ := hlow j hj
            exact ⟨t', n', sn', p', m', mv2.low hk hj z1, z2⟩) hk hi (by rw [gA_6]; exact hd1) (by rw [pk_un (by omega)]; exact e1) (by omega) (by omega) (by omega) (by omega)
          refine ⟨g', s', d', ?_, ?_, r3, mv2.mb.tr r4⟩
          · rw [f0_leaveEnds_2]
            simp (disch := omega) only [EV, NUM, pu_lit, pu_le, pu_lt, pu_eq, pu_gok, pu_cl, pk_sub, hd, CL, h41, h6, if_true, Nat.add_sub_cancel]
            rw [if_neg (by omega), if_neg (by omega), if_neg (by omega)]
            rw [show gsI g (b + 3) i (nI mm) = g1 from rfl]
            simp (disch := omega) only [EV, NUM, pu_lit, pu_le, pu_lt, pu_gok, pu_cl, pk_sub, hd1, SPT, Nat.add_sub_cancel, w5, PB, AR, f0_leaveEnds_110]
            rw [if_neg (by omega)]
            exact r1
          · rw [f8_settle_2, ← r2]
            unfold f8_close
            simp (disch := omega) only [EV, NUM, pu_lit, pu_le, pu_lt, pu_eq, pu_gok, pu_cl, pk_sub, rw1_1, h3, RT2, RT11, RS, h41, T4o, ST4, T4, T6, T5, RG, if_true, Nat.add_sub_cancel]
            rw [if_neg (by omega), if_neg (by omega), if_neg (by omega), if_pos (by omega)]
            rfl
        · -- once more
          have SL : sn k = 120 := a5 (by omega)
          let s2 := upd (upd s1 (fb i + 2) (nI k)) (fb i + 3) (nI l)
          have F0' : FR0 K g1 b s2 i t n sn (ks sn k) := by
            rw [k3]
            obtain ⟨y1, y2, y3, ⟨c, c6, y4, y4'⟩, y5, y6, y7, y8, y9⟩ := F0
            refine ⟨y1, y2, ?_, ⟨c, c6, y4, ?_⟩, y5, ?_, ?_, fun q hq => ?_, fun j hj => ?_⟩
            · show upd (upd s1 _ _) _ _ (fb i) = _
              rw [pk_un (by omega), pk_un (by omega)]; exact y3
            · show upd (upd s1 _ _) _ _ _ = _
              rw [pk_un (by omega), pk_un (by omega)]; exact y4'
            · show upd (upd s1 _ _) _ _ _ = _
              rw [pk_un (by omega), pk_un (by omega)]; exact y6
            · show upd (upd s1 _ _) _ _ _ = _
              rw [pk_un (by omega), pk_un (by omega)]; exact y7
            · show upd (upd s1 _ _) _ _ _ = _
              rw [pk_un (by omega), pk_un (by omega)]; exact y8 q hq
            · obtain ⟨l', l8', z1, z2, z3, z4, z5⟩ := y9 j hj
              refine ⟨l', l8', z1, ?_, z3, ?_, z5⟩
              · show upd (upd s1 _ _) _ _ _ = _
                rw [pk_un (by omega), pk_un (by omega)]; exact z2
              · show upd (upd s1 _ _) _ _ _ = _
                rw [pk_un (by omega), pk_un (by omega)]; exact z4
          have hkm : (ks sn k).length = mm := by rw [k3]; exact hmm
          have AF : FR1 K g1 b s2 i t n sn k (ks sn k).length := F0'.at (by rw [hkm]; exact w4) (by show upd (upd s1 _ _) _ _ _ = _; rw [pk_un (by omega), pk_us]) k4 (Or.inr ⟨l, by omega, by omega, pk_us, by rw [hkm]; exact w5, k1, Or.inr SL⟩)
          rw [hkm] at AF
          have mv2 : MW g g1 b s s2 i := (mv1.tr (MW.su (by omega))).tr (MW.su (by omega))
          have e2 : s2 3 = nI (i + 1) := by show upd (upd s1 _ _) _ _ _ = _; rw [pk_un (by omega), pk_un (by omega)]; exact e1
          obtain ⟨g', s', d', r1, r2, r3, r4⟩ := ih i t n sn k mm _ _ (x + 1) fC fR AF (fun j hj => by
            obtain ⟨t', n', sn', p', m', z1, z2⟩ := hlow j hj
            exact ⟨t', n', sn', p', m', mv2.low hk hj z1, z2⟩) hk hi hd1 e2 (by omega) (by omega) (by omega) (by omega)
          refine ⟨g', s', d', ?_, ?_, r3, mv2.mb.tr r4⟩
          · rw [f0_leaveEnds_2]
            simp (disch := omega) only [EV, NUM, pu_lit, pu_le, pu_lt, pu_eq, pu_gok, pu_cl, pk_sub, hd, CL, h41, h6, if_true, Nat.add_sub_cancel]
            rw [if_neg (by omega), if_neg (by omega), if_neg (by omega)]
            rw [show gsI g (b + 3) i (nI mm) = g1 from rfl]
            simp (disch := omega) only [EV, NUM, pu_lit, pu_le, pu_lt, pu_gok, pu_cl, pk_sub, hd1, SPT, Nat.add_sub_cancel, w5, f0_leaveEnds_110]
            rw [if_pos (by omega)]
            exact r1
          · have c1 : upd s1 (fb i + 2) (nI k) 3 = nI (i + 1) := by rw [pk_un (by omega)]; exact e1
            have S2 : f8_setTop (rw1 S s1) (nI 2) (nI k) = some (rw1 S (upd s1 (fb i + 2) (nI k))) := re_set hi e1 (by omega)
            have S3 : f8_setTop (rw1 S (upd s1 (fb i + 2) (nI k))) (nI 3) (nI l) = some (rw1 S s2) := re_set hi c1 (by omega)
            rw [f8_settle_2, ← r2]
            unfold f8_close
            simp (disch := omega) only [EV, NUM, pu_lit, pu_le, pu_lt, pu_eq, pu_gok, pu_cl, pk_sub, rw1_1, h3, RT2, RT11, RS, h41, T4o, ST4, T4, T6, T5, S2, S3, if_true, Nat.add_sub_cancel]
            rw [if_neg (by omega), if_neg (by omega), if_neg (by omega), if_neg (by omega)]
            rfl
      · -- at a step
        refine ⟨g, s, i + 1, ?_, ?_, ⟨hd, h3, by omega, fun j hj => hlow j (by omega), fun j hj => ?_⟩, ⟨AG.rf, fun _ _ _ => rfl, fun _ => rfl⟩⟩
        · have hn0 : sn p ≠ 0 := by
            rcases hs.kinds hv hpn with ⟨z, -⟩ | z | z | z | z | z | z <;> omega
          rw [f0_leaveEnds_2]
          unfold f0_leaveEnds_84
          simp (disch := omega) only [EV, NUM, pu_lit, pu_le, pu_lt, pu_eq, pu_gok, pu_cl, pk_sub, hd, CL, h41, hn0, if_false]
          rw [if_neg (by omega), if_neg (by omega)]
        · obtain ⟨fR, rfl⟩ : ∃ k, fR = k + 1 := ⟨fR - 1, by omega⟩
          rw [f8_settle_2]
          simp (disch := omega) only [EV, NUM, pu_lit, pu_le, pu_lt, pu_eq, pu_gok, pu_cl, pk_sub, rw1_1, h3, RT2, RT11, RS, h41, npn, if_false]
          rw [if_neg (by omega), if_neg (by omega)]
          rw [f8_settle_2]
          rfl
        · have : j = i := by omega
          subst this
          exact ⟨t, n, sn, p, m, h, hpn, h41⟩
    · -- a card's end
      have hpn' : p = n := by omega
      subst hpn'
      rw [if_neg (by omega)] at CL
      have hm0 : m = 0 := by rw [← h5, hv.2.2.1]; rfl
      let g1 := gsI g b 6 (nI i)
      let s1 := upd s 3 (nI i)
      have mv1 : MW g g1 b s s1 i := (MW.gi (x := 0) (b := b) (by omega) (by omega)).tr (MW.su (by omega))
      have hd1 : gI g1 b 6 = nI i := gI_eq
      have e1 : s1 3 = nI i := pk_us
      cases i with
      | zero =>
        refine ⟨g1, s1, 0, ?_, ?_, ⟨hd1, e1, by omega, fun j hj => by omega, fun j hj => by omega⟩, mv1.mb⟩
        · obtain ⟨fC, rfl⟩ : ∃ k, fC = k + 1 := ⟨fC - 1, by omega⟩
          have PB : f0_placeBehind K g1 b = some (nI 0) := by
            unfold f0_placeBehind
            simp (disch := omega) [EV, pu_lit, pu_le, hd1]
          have AR : f0_arriveAt K g1 b (nI 0) = some g1 := by
            unfold f0_arriveAt
            simp (disch := omega) [EV, pu_lit, pu_eq, hd1]
          rw [f0_leaveEnds_2]
          unfold f0_leaveEnds_84
          simp (disch := omega) only [EV, NUM, pu_lit, pu_le, pu_lt, pu_eq, pu_gok, pu_cl, pk_sub, hd, CL, if_true]
          rw [if_neg (by omega), if_neg (by omega), if_neg (by omega)]
          show (f0_placeBehind K g1 b).bind _ = _
          rw [PB]
          simp only [EV]
          rw [AR]
          simp only [EV, f0_leaveEnds_110, NUM, pu_lit]
          rw [f0_leaveEnds_2]
          simp (disch := omega) only [EV, NUM, pu_lit, pu_le, hd1]
          by_cases hx36 : 36 ≤ x + 1
          · rw [if_pos hx36]
          · rw [if_neg hx36]
            simp
        · obtain ⟨fR, rfl⟩ : ∃ k, fR = k + 1 := ⟨fR - 1, by omega⟩
          rw [f8_settle_2]
          simp (disch := omega) only [EV, NUM, pu_lit, pu_le, pu_lt, pu_eq, pu_gok, pu_cl, pk_sub, rw1_1, h3, RT2, RT11, if_true, ss_rw]
          rw [if_neg (by omega), if_neg (by omega)]
          show (if upd s 3 (nI 0) 3 ≤ nI 0 then _ else _) = _
          rw [pk_us, if_pos (show nI 0 ≤ nI 0 from (nI_leI (by omega) (by omega)).mpr (Nat.le_refl _)), f8_settle_2]
          simp (disch := omega) only [EV, NUM, pu_lit, pu_le, pu_lt, pu_eq, pu_gok, pu_cl, pk_sub, rw1_1, pk_us]
          simp
          rfl
      | succ i =>
        obtain ⟨t', n', sn', p', m', z1, z2, z3⟩ := hlow i (by omega)
        have z1' := mv1.low hk (by omega) z1
        have zs := z1.2.2.2.2.2.2.2.2.2.1
        have zt := z1'.2.1
        obtain ⟨-, -, -, q1, q2⟩ := zs.k zt.2.2.2.1 z2 z3
        have bi : fb (i + 1) = fb i + 92 := by show 1253 + 92 * (i + 1) = 1253 + 92 * i + 92; omega
        have z0 : s1 (fb i + 3) = nI 0 := LF.zero z1'.2.2.2.2.2.2.2.2.2.2.1 (by omega) (by omega)
        obtain ⟨g2, PO, ⟨p2, m2, FF⟩, mv2, d2, t2⟩ := arrives (s' := upd s1 (fb i + 2) (nI (p' + 2))) z1' hk (by omega) hd1 e1 (tx_ck zt zs z2 (Or.inr z3)).2 z2 q1 q2 (fun k _ h2 _ => pk_un (by omega)) pk_us (by rw [pk_un (by omega)]; exact z0) (fun x hx => pk_un (by omega))
        have mm2 := FF.m3
        obtain ⟨g', s', d', r1, r2, r3, r4⟩ := ih i t' n' sn' p2 m2 g2 _ (x + 1) fC fR FF (fun j hj => by
            obtain ⟨t'', n'', sn'', p'', m'', y1, y2⟩ := hlow j (by omega)
            exact ⟨t'', n'', sn'', p'', m'', mv2.low hk hj (mv1.low hk (by omega) y1), y2⟩) hk (by omega) d2 t2 (by omega) (by omega) (by omega) (by omega)
        refine ⟨g', s', d', ?_, ?_, r3, (mv1.mb.tr mv2.mb).tr r4⟩
        · rw [f0_leaveEnds_2]
          unfold f0_leaveEnds_84
          simp (disch := omega) only [EV, NUM, pu_lit, pu_le, pu_lt, pu_eq, pu_gok, pu_cl, pk_sub, hd, CL, if_true, Nat.add_sub_cancel]
          rw [if_neg (by omega), if_neg (by omega), if_neg (by omega)]
          show (f0_placeBehind K g1 b).bind (fun v => (f0_arriveAt K g1 b v).bind fun g6 => f0_leaveEnds_110 (f0_leaveEnds_2 K b fC) K b g6 (nI x)) = _
          rw [pb_ar PO]
          unfold f0_leaveEnds_110
          simp only [EV, NUM, pu_lit]
          exact r1
        · have RG : f8_go (rw1 S s1) (nI 2) = some (rw1 S (upd s1 (fb i + 2) (nI (p' + 2)))) := re_go (by omega) e1 z1'.2.2.2.2.2.2.2.2.1
          rw [f8_settle_2, ← r2]
          simp (disch := omega) only [EV, NUM, pu_lit, pu_le, pu_lt, pu_eq, pu_gok, pu_cl, pk_sub, rw1_1, h3, RT2, RT11, if_true, ss_rw, Nat.add_sub_cancel]
          rw [if_neg (by omega), if_neg (by omega)]
          show (if upd s 3 (nI (i + 1)) 3 ≤ nI 0 then _ else _) = _
          rw [pk_us, if_neg (show ¬ nI (i + 1) ≤ nI 0 from fun z => by have := (nI_leI (by omega) (by omega)).mp z; omega)]
          show (f8_go (rw1 S s1) (nI 2)).bind _ = _
          rw [RG]
          rfl
end ENDS
