/-! THE LAW'S LOOM, c: leaving the ends -/
section LENDS
variable {L L' L1 L2 : GS} {S : GS} {s s' s1 s2 : Nat → Int32} {i j k n p m q c u l e : Nat} {sn : Nat → Nat} {v : Int32}
/-- a part is closed -/
theorem FL.close (h : FL L s i n sn p (m + 1)) (hk1 : ks sn p = e :: ks sn (p + 1)) (hq : SP sn n q) (hks : ks sn q = ks sn (p + 1)) (es : ∀ k, k < 92 → k ≠ 2 → k ≠ 3 → k ≠ 4 → s' (fb i + k) = s (fb i + k)) (e2 : s' (fb i + 2) = nI q) (e4 : s' (fb i + 4) = nI m) (hl : LFR sn n q (s' (fb i + 3))) (h4 : ∀ x, x ≠ 6 * i + 2 → x ≠ 6 * i + 3 → x ≠ 6 * i + 4 → L' 4 x = L 4 x) (h5 : L' 5 = L 5) (h6 : L' 6 = L 6) (v2 : L' 4 (6 * i + 2) = nI q) (v3 : L' 4 (6 * i + 3) = s' (fb i + 3)) (v4 : L' 4 (6 * i + 4) = nI m) : FL L' s' i n sn q m := by
  have hm := h.m3
  obtain ⟨⟨a1, ⟨c, c6, a2⟩, a3, a4, a5, a6, a7, a8, a9, a10⟩, b1, b2⟩ := h
  have a3' : (ks sn (p + 1)).length = m := by rw [hk1] at a3; simpa using a3
  refine ⟨⟨a1, ⟨c, c6, by rw [es 1 (by omega) (by omega) (by omega) (by omega)]; exact a2⟩, by rw [hks]; exact a3', e4, e2, hq, hl, by rw [es 11 (by omega) (by omega) (by omega) (by omega)]; exact a8, fun k hk => ?_, fun j hj => ?_⟩, b1, fun k hk => ?_⟩
  · rw [Nat.add_assoc, es _ (by omega) (by omega) (by omega) (by omega), ← Nat.add_assoc]
    exact a9 k hk
  · rw [hks]
    obtain ⟨l, l8, z1, z2, z3⟩ := a10 j (by omega)
    rw [hk1, opn_old _ _ (by omega)] at z1 z3
    exact ⟨l, l8, by rw [Nat.add_assoc, es _ (by omega) (by omega) (by omega) (by omega), ← Nat.add_assoc]; exact z1, by rw [Nat.add_assoc, es _ (by omega) (by omega) (by omega) (by omega), ← Nat.add_assoc]; exact z2, z3⟩
  · by_cases k2 : k = 2
    · subst k2
      rw [vf_4 (by omega), v2, e2]
    by_cases k3 : k = 3
    · subst k3
      rw [vf_4 (by omega), v3]
    by_cases k4 : k = 4
    · subst k4
      rw [vf_4 (by omega), v4, e4]
    have k92 : k < 92 := by unfold live at hk; omega
    rw [es k k92 k2 k3 k4, b2 k (by unfold live at hk ⊢; omega)]
    unfold vf AT
    rw [h5, h6]
    by_cases z1 : k < 5
    · rw [if_pos z1, if_pos z1, h4 _ (by omega) (by omega) (by omega)]
    rw [if_neg z1, if_neg z1]
    by_cases z2 : k < 11
    · rw [if_pos z2, if_pos z2]
    rw [if_neg z2, if_neg z2]
    by_cases z3 : k = 11
    · rw [if_pos z3, if_pos z3, h4 _ (by omega) (by omega) (by omega)]
    rw [if_neg z3, if_neg z3]
theorem LFR.zero (h : LFR sn n p v) (hl : sn p ≠ 119) (hl2 : sn p ≠ 120) : v = nI 0 := by
  rcases h with h | ⟨l, -, -, -, -, h⟩
  · exact h
  · omega
/-- a stack of d cards, each below the top at a call; T says of the top -/
def STL (L : GS) (s : Nat → Int32) (d : Nat) (T : Nat → Nat → (Nat → Nat) → Prop) : Prop :=
  L 0 3 = nI d ∧ s 3 = nI d ∧ d ≤ 9 ∧ (∀ j, j + 1 < d → ∃ n sn p m, FL L s j n sn p m ∧ p < n ∧ sn p = 107) ∧ ∀ j, j + 1 = d → ∃ n sn p m, FL L s j n sn p m ∧ T p n sn
theorem s109_0 {kk : GS → Option GS} (hi : i < 9) (h4 : L 4 (6 * i + 4) = nI (m + 1)) (h2 : L 4 (6 * i + 2) = nI p) (x5 : Int32) : f9_settles_109 kk L (nI (6 * i)) x5 (nI 0) = kk (ssI (ssI (ssI L 4 (6 * i + 4) (nI m)) 4 (6 * i + 2) (nI (p + 1))) 4 (6 * i + 3) (nI 0)) := by
  unfold f9_settles_109 f9_settles_146 f9_settles_167 f9_settles_172
  simp (disch := omega) only [EV, NUM, pu_lit, pu_gok, pu_cl, ss_1, pk_us, pk_un, h4, h2, pk_sub, Nat.add_sub_cancel, if_true]
theorem s109_1 {kk : GS → Option GS} (hi : i < 9) (hm : m < 3) (h4 : L 4 (6 * i + 4) = nI (m + 1)) (h5 : L 5 (6 * i + 2 * m) = nI e) (h6 : L 5 (6 * i + 2 * m + 1) = nI l) : f9_settles_109 kk L (nI (6 * i)) (nI (6 * i + 2 * m)) (nI 1) = kk (ssI (ssI (ssI L 4 (6 * i + 4) (nI m)) 4 (6 * i + 2) (nI e)) 4 (6 * i + 3) (nI l)) := by
  unfold f9_settles_109 f9_settles_146 f9_settles_167 f9_settles_172
  simp (disch := omega) only [EV, NUM, pu_lit, pu_gok, pu_cl, pu_eq, ss_1, pk_us, pk_un, h4, h5, h6, pk_sub, Nat.add_sub_cancel]
  rw [if_neg (by decide), if_neg (by decide)]
  rw [ss_n _ _ _ _ _ (by decide), h5, ss_n _ _ _ _ _ (by decide), ss_n _ _ _ _ _ (by decide), h6]
theorem l_ends : ∀ (μ i n : Nat) (sn : Nat → Nat) (p m : Nat) (L : GS) (s : Nat → Int32) (fL fR : Nat), FL L s i n sn p m → (∀ j, j < i → ∃ n sn p m, FL L s j n sn p m ∧ p < n ∧ sn p = 107) → i < 9 → s 3 = nI (i + 1) → L 0 3 = nI (i + 1) → 4 * i + 1 + m ≤ μ → μ + 1 < fL → μ + 2 < fR → ∃ L' s' d', f9_settles_0 fL L = some L' ∧ f8_settle_2 fR (rw1 S s) (nI 1) = some (rw1 S s') ∧ STL L' s' d' atStep ∧ MVL L L' s s' 0 := by
  intro μ
  induction μ with
  | zero => intro i n sn p m L s fL fR h hlow hi h3 hL3 hμ; omega
  | succ μ ih =>
    intro i n sn p m L s fL fR h hlow hi h3 hL3 hμ hfL hfR
    obtain ⟨fL, rfl⟩ : ∃ k, fL = k + 1 := ⟨fL - 1, by omega⟩
    obtain ⟨fR, rfl⟩ : ∃ k, fR = k + 1 := ⟨fR - 1, by omega⟩
    have hm := h.m3
    have n24 := h.2.1
    have pn := h.pn
    have hh := h
    obtain ⟨⟨hv, a2, h5, h7, h9, hs, h11, h12, h13, h14⟩, -, -⟩ := hh
    have RT2 := re_top (S := S) (k := 2) hi h3 (by omega)
    have RT11 := re_top (S := S) (k := 11) hi h3 (by omega)
    rw [h9] at RT2
    rw [h12] at RT11
    have b3 : 3 < fb i := by show 3 < 1253 + 92 * i; omega
    by_cases hpn : p < n
    · have hc := hv.2.2.2 p hpn
      have RS := re_sign (S := S) (k := p) hi h3 (by omega)
      rw [h13 p hpn] at RS
      have A6 := h.at hi hpn
      have npn : ¬ p = n := by omega
      by_cases h41 : sn p = 41
      · -- a part's end
        obtain ⟨k, hk1, hsp⟩ : ∃ k, ks sn p = k :: ks sn (p + 1) ∧ SP sn n (p + 1) := by
          rcases hs.kinds hv hpn with ⟨-, z⟩ | z | z | z | z | z | z
          · exact z
          all_goals omega
        obtain ⟨k1, k2, k3, k4, k5⟩ := elem_sp hv (by omega) hk1
        have hm1 : m = (ks sn (p + 1)).length + 1 := by rw [← h5, hk1]; rfl
        obtain ⟨mm, rfl⟩ : ∃ mm, m = mm + 1 := ⟨m - 1, by omega⟩
        have hmm : (ks sn (p + 1)).length = mm := by omega
        obtain ⟨l, l8, a2', a4, a5, c5, c6⟩ := h.op (j := mm) (by omega)
        rw [hk1, show opn (k :: ks sn (p + 1)) mm = k by rw [← hmm]; exact opn_top _ _] at a2' a5 c5
        let s1 := upd s (fb i + 4) (nI mm)
        have e1 : s1 3 = nI (i + 1) := by show upd s _ _ 3 = _; rw [pk_un (by omega)]; exact h3
        have v5 : s1 (fb i + 5 + 2 * mm) = nI k := by show upd s _ _ _ = _; rw [pk_un (by omega)]; exact a2'
        have v6 : s1 (fb i + 6 + 2 * mm) = nI l := by show upd s _ _ _ = _; rw [pk_un (by omega)]; exact a4
        have v4 : s1 (fb i + 4) = nI mm := pk_us
        have v2 : s1 (fb i + 2) = nI p := by show upd s _ _ _ = _; rw [pk_un (by omega)]; exact h9
        have v3 : s1 (fb i + 3) = nI 0 := by show upd s _ _ _ = _; rw [pk_un (by omega)]; exact h11.zero (by omega) (by omega)
        have T4 := re_top (S := S) (s := s1) (k := 4) hi e1 (by omega)
        have T6 := re_top (S := S) (s := s1) (k := 5 + 2 * mm + 1) hi e1 (by omega)
        have T5 := re_top (S := S) (s := s1) (k := 5 + 2 * mm) hi e1 (by omega)
        rw [v4] at T4
        rw [show fb i + (5 + 2 * mm + 1) = fb i + 6 + 2 * mm by omega, v6] at T6
        rw [show fb i + (5 + 2 * mm) = fb i + 5 + 2 * mm by omega, v5] at T5
        have T4o := re_top (S := S) (s := s) (k := 4) hi h3 (by omega)
        rw [h7] at T4o
        have ST4 : f8_setTop (rw1 S s) (nI 4) (nI mm) = some (rw1 S s1) := re_set hi h3 (by omega)
        by_cases hl0 : l = 0
        · subst hl0
          -- behind the part
          have RG : f8_go (rw1 S s1) (nI 1) = some (rw1 S (upd s1 (fb i + 2) (nI (p + 1)))) := re_go hi e1 v2
          let L2 := ssI (ssI (ssI L 4 (6 * i + 4) (nI mm)) 4 (6 * i + 2) (nI (p + 1))) 4 (6 * i + 3) (nI 0)
          let s2 := upd s1 (fb i + 2) (nI (p + 1))
          have q3 : s2 (fb i + 3) = nI 0 := by show upd s1 _ _ _ = _; rw [pk_un (by omega)]; exact v3
          have AF : FL L2 s2 i n sn (p + 1) mm := h.close hk1 hsp rfl (fun k _ z2 z3 z4 => by show upd (upd s _ _) _ _ _ = _; rw [pk_un (by omega), pk_un (by omega)]) pk_us (by show upd (upd s _ _) _ _ _ = _; rw [pk_un (by omega), pk_us]) (Or.inl q3) (fun x z2 z3 z4 => by show (ssI (ssI (ssI L 4 _ _) 4 _ _) 4 _ _) 4 x = _; rw [ss_1, pk_un z3, ss_1, pk_un z2, ss_1, pk_un z4]) rfl rfl (by show (ssI (ssI (ssI L 4 _ _) 4 _ _) 4 _ _) 4 _ = _; rw [ss_1, pk_un (by omega), ss_1, pk_us]) (by rw [q3]; show (ssI (ssI (ssI L 4 _ _) 4 _ _) 4 _ _) 4 _ = _; rw [ss_1, pk_us]) (by show (ssI (ssI (ssI L 4 _ _) 4 _ _) 4 _ _) 4 _ = _; rw [ss_1, pk_un (by omega), ss_1, pk_un (by omega), ss_1, pk_us])
          have mv2 : MVL L L2 s s2 i := (((MVL.s4 (by omega)).tr (MVL.s4 (by omega))).tr (MVL.s4 (by omega))).tr ((MVL.su (Or.inr (by omega))).tr (MVL.su (Or.inr (by omega))))
          obtain ⟨L', s', d', r1, r2, r3, r4⟩ := ih i n sn (p + 1) mm L2 s2 fL fR AF (fun j hj => by
            obtain ⟨n', sn', p', m', z1, z2⟩ := hlow j hj
            exact ⟨n', sn', p', m', mv2.low hj z1, z2⟩) hi (by show upd s1 _ _ 3 = _; rw [pk_un (by omega)]; exact e1) hL3 (by omega) (by omega) (by omega)
          refine ⟨L', s', d', ?_, ?_, r3, (mv2.dn (Nat.zero_le _)).tr r4⟩
          · rw [f9_settles_0]
            simp (disch := omega) only [EV, NUM, pu_lit, pu_le, pu_lt, pu_eq, pu_gok, pu_cl, pk_sub, hL3, h.l2, h.l5, A6, h.l4, h41, if_true, Nat.add_sub_cancel]
            rw [if_neg (by omega), if_pos hpn, c6, if_pos ((nI_leI (by omega) (by omega)).mpr (Nat.le_refl _)), s109_0 hi h.l4 h.l2]
            exact r1
          · rw [f8_settle_2, ← r2]
            unfold f8_close
            simp (disch := omega) only [EV, NUM, pu_lit, pu_le, pu_lt, pu_eq, pu_gok, pu_cl, pk_sub, rw1_1, h3, RT2, RT11, RS, h41, T4o, ST4, T4, T6, T5, RG, if_true, Nat.add_sub_cancel]
            rw [if_neg (by omega), if_neg (by omega), if_neg (by omega), if_pos (by omega)]
            rfl
        · -- once more
          have SL : sn k = 120 := a5 (by omega)
          let L2 := ssI (ssI (ssI L 4 (6 * i + 4) (nI mm)) 4 (6 * i + 2) (nI k)) 4 (6 * i + 3) (nI l)
          let s2 := upd (upd s1 (fb i + 2) (nI k)) (fb i + 3) (nI l)
          have q3 : s2 (fb i + 3) = nI l := pk_us
          have AF : FL L2 s2 i n sn k mm := h.close hk1 k4 k3 (fun k' _ z2 z3 z4 => by show upd (upd (upd s _ _) _ _) _ _ _ = _; rw [pk_un (by omega), pk_un (by omega), pk_un (by omega)]) (by show upd (upd s1 _ _) _ _ _ = _; rw [pk_un (by omega), pk_us]) (by show upd (upd (upd s _ _) _ _) _ _ _ = _; rw [pk_un (by omega), pk_un (by omega), pk_us]) (Or.inr ⟨l, by omega, by omega, q3, k1, Or.inr SL⟩) (fun x z2 z3 z4 => by show (ssI (ssI (ssI L 4 _ _) 4 _ _) 4 _ _) 4 x = _; rw [ss_1, pk_un z3, ss_1, pk_un z2, ss_1, pk_un z4]) rfl rfl (by show (ssI (ssI (ssI L 4 _ _) 4 _ _) 4 _ _) 4 _ = _; rw [ss_1, pk_un (by omega), ss_1, pk_us]) (by rw [q3]; show (ssI (ssI (ssI L 4 _ _) 4 _ _) 4 _ _) 4 _ = _; rw [ss_1, pk_us]) (by show (ssI (ssI (ssI L 4 _ _) 4 _ _) 4 _ _) 4 _ = _; rw [ss_1, pk_un (by omega), ss_1, pk_un (by omega), ss_1, pk_us])
          have mv2 : MVL L L2 s s2 i := (((MVL.s4 (by omega)).tr (MVL.s4 (by omega))).tr (MVL.s4 (by omega))).tr (((MVL.su (Or.inr (by omega))).tr (MVL.su (Or.inr (by omega)))).tr (MVL.su (Or.inr (by omega))))
          have e2 : s2 3 = nI (i + 1) := by show upd (upd s1 _ _) _ _ _ = _; rw [pk_un (by omega), pk_un (by omega)]; exact e1
          obtain ⟨L', s', d', r1, r2, r3, r4⟩ := ih i n sn k mm L2 s2 fL fR AF (fun j hj => by
            obtain ⟨n', sn', p', m', z1, z2⟩ := hlow j hj
            exact ⟨n', sn', p', m', mv2.low hj z1, z2⟩) hi e2 hL3 (by omega) (by omega) (by omega)
          refine ⟨L', s', d', ?_, ?_, r3, (mv2.dn (Nat.zero_le _)).tr r4⟩
          · rw [f9_settles_0]
            simp (disch := omega) only [EV, NUM, pu_lit, pu_le, pu_lt, pu_eq, pu_gok, pu_cl, pk_sub, hL3, h.l2, h.l5, A6, h.l4, h41, if_true, Nat.add_sub_cancel]
            rw [if_neg (by omega), if_pos hpn, c6, if_neg (fun z => by have := (nI_leI (by omega) (by omega)).mp z; omega), s109_1 hi (by omega) h.l4 c5 c6]
            exact r1
          · have c1 : upd s1 (fb i + 2) (nI k) 3 = nI (i + 1) := by rw [pk_un (by omega)]; exact e1
            have S2 : f8_setTop (rw1 S s1) (nI 2) (nI k) = some (rw1 S (upd s1 (fb i + 2) (nI k))) := re_set hi e1 (by omega)
            have S3 : f8_setTop (rw1 S (upd s1 (fb i + 2) (nI k))) (nI 3) (nI l) = some (rw1 S s2) := re_set hi c1 (by omega)
            rw [f8_settle_2, ← r2]
            unfold f8_close
            simp (disch := omega) only [EV, NUM, pu_lit, pu_le, pu_lt, pu_eq, pu_gok, pu_cl, pk_sub, rw1_1, h3, RT2, RT11, RS, h41, T4o, ST4, T4, T6, T5, S2, S3, if_true, Nat.add_sub_cancel]
            rw [if_neg (by omega), if_neg (by omega), if_neg (by omega), if_neg (by omega)]
            rfl
      · -- at a step
        refine ⟨L, s, i + 1, ?_, ?_, ⟨hL3, h3, by omega, fun j hj => hlow j (by omega), fun j hj => ?_⟩, MVL.rf⟩
        · rw [f9_settles_0]
          simp (disch := omega) only [EV, NUM, pu_lit, pu_le, pu_lt, pu_eq, pu_gok, pu_cl, pk_sub, hL3, h.l2, h.l5, A6, h41, if_false, Nat.add_sub_cancel]
          rw [if_neg (by omega), if_pos hpn]
        · obtain ⟨fR, rfl⟩ : ∃ k, fR = k + 1 := ⟨fR - 1, by omega⟩
          rw [f8_settle_2]
          simp (disch := omega) only [EV, NUM, pu_lit, pu_le, pu_lt, pu_eq, pu_gok, pu_cl, pk_sub, rw1_1, h3, RT2, RT11, RS, h41, npn, if_false]
          rw [if_neg (by omega), if_neg (by omega)]
          rw [f8_settle_2]
          rfl
        · have : j = i := by omega
          subst this
          exact ⟨n, sn, p, m, h, hpn, h41⟩
    · -- a card's end
      have hpn' : p = n := by omega
      subst hpn'
      have hm0 : m = 0 := by rw [← h5, hv.2.2.1]; rfl
      let L1 := ssI L 0 3 (nI i)
      let s1 := upd s 3 (nI i)
      have mv1 : MVL L L1 s s1 i := MVL.s3.tr (MVL.su (Or.inl rfl))
      have hd1 : L1 0 3 = nI i := by show ssI L 0 3 _ 0 3 = _; rw [ss_1, pk_us]
      have e1 : s1 3 = nI i := pk_us
      cases i with
      | zero =>
        let L2 := ssI L1 4 2 (L1 4 2 + nI 2)
        have hd2 : L2 0 3 = nI 0 := hd1
        refine ⟨L2, s1, 0, ?_, ?_, ⟨hd2, e1, by omega, fun j hj => by omega, fun j hj => by omega⟩, mv1.tr (MVL.s4 (by omega))⟩
        · obtain ⟨fL, rfl⟩ : ∃ k, fL = k + 1 := ⟨fL - 1, by omega⟩
          rw [f9_settles_0]
          simp (disch := omega) only [EV, NUM, pu_lit, pu_le, pu_lt, pu_eq, pu_gok, pu_cl, pk_sub, hL3, h.l2, h.l5, if_true, Nat.add_sub_cancel, f9_settles_52, f9_settles_172]
          rw [if_neg (by omega), if_neg (by omega)]
          show f9_settles_0 (fL + 1) L2 = _
          rw [f9_settles_0]
          simp (disch := omega) only [EV, NUM, pu_lit, pu_le, pu_gok, pu_cl, hd2]
          rfl
        · obtain ⟨fR, rfl⟩ : ∃ k, fR = k + 1 := ⟨fR - 1, by omega⟩
          rw [f8_settle_2]
          simp (disch := omega) only [EV, NUM, pu_lit, pu_le, pu_lt, pu_eq, pu_gok, pu_cl, pk_sub, rw1_1, h3, RT2, RT11, if_true, ss_rw]
          rw [if_neg (by omega), if_neg (by omega)]
          show (if upd s 3 (nI 0) 3 ≤ nI 0 then _ else _) = _
          rw [pk_us, if_pos (show nI 0 ≤ nI 0 from (nI_leI (by omega) (by omega)).mpr (Nat.le_refl _)), f8_settle_2]
          simp (disch := omega) only [EV, NUM, pu_lit, pu_le, pu_lt, pu_eq, pu_gok, pu_cl, pk_sub, rw1_1, pk_us]
          simp
          rfl
      | succ i =>
        obtain ⟨n', sn', p', m', z1, z2, z3⟩ := hlow i (by omega)
        have z1' := mv1.low (by omega) z1
        have zs := z1.1.2.2.2.2.2.1
        obtain ⟨-, -, -, q1, q2⟩ := zs.k z1.1.1 z2 z3
        have n24' := z1.2.1
        have bi : fb (i + 1) = fb i + 92 := by show 1253 + 92 * (i + 1) = 1253 + 92 * i + 92; omega
        have z0 : s1 (fb i + 3) = nI 0 := z1'.1.2.2.2.2.2.2.1.zero (by omega) (by omega)
        let L2 := ssI L1 4 (6 * i + 2) (nI (p' + 2))
        let s2 := upd s1 (fb i + 2) (nI (p' + 2))
        have y0 : s2 (fb i + 3) = nI 0 := by show upd s1 _ _ _ = _; rw [pk_un (by omega)]; exact z0
        have FF : FL L2 s2 i n' sn' (p' + 2) m' := z1'.arr q1 q2 (fun k _ h2 _ => by show upd s1 _ _ _ = _; exact pk_un (by omega)) pk_us (Or.inl y0) (fun x h2 h3 => by show ssI L1 4 _ _ 4 x = _; rw [ss_1, pk_un h2]) rfl rfl (by show ssI L1 4 _ _ 4 _ = _; rw [ss_1, pk_us]) (by rw [y0]; show ssI L1 4 _ _ 4 _ = _; rw [ss_1, pk_un (by omega), z1'.l3, z0])
        have mv2 : MVL L1 L2 s1 s2 i := (MVL.s4 (by omega)).tr (MVL.su (Or.inr (by omega)))
        have mm2 := FF.m3
        obtain ⟨L', s', d', r1, r2, r3, r4⟩ := ih i n' sn' (p' + 2) m' L2 s2 fL fR FF (fun j hj => by
            obtain ⟨n'', sn'', p'', m'', y1, y2⟩ := hlow j (by omega)
            exact ⟨n'', sn'', p'', m'', mv2.low hj (mv1.low (by omega) y1), y2⟩) (by omega) (by show upd s1 _ _ 3 = _; rw [pk_un (by show 3 ≠ 1253 + 92 * i + 2; omega)]; exact e1) hd1 (by omega) (by omega) (by omega)
        refine ⟨L', s', d', ?_, ?_, r3, ((mv1.dn (Nat.zero_le _)).tr (mv2.dn (Nat.zero_le _))).tr r4⟩
        · rw [f9_settles_0]
          simp (disch := omega) only [EV, NUM, pu_lit, pu_le, pu_lt, pu_eq, pu_gok, pu_cl, pk_sub, hL3, h.l2, h.l5, Nat.add_sub_cancel, f9_settles_52, f9_settles_172]
          rw [if_neg (by omega), if_neg (by omega), if_neg (by omega), show 6 * (i + 1) - 4 = 6 * i + 2 by omega, ss_n _ 0 _ 4 _ (by decide), z1.l2]
          simp only [NUM]
          exact r1
        · have RG : f8_go (rw1 S s1) (nI 2) = some (rw1 S (upd s1 (fb i + 2) (nI (p' + 2)))) := re_go (by omega) e1 z1'.1.2.2.2.2.1
          rw [f8_settle_2, ← r2]
          simp (disch := omega) only [EV, NUM, pu_lit, pu_le, pu_lt, pu_eq, pu_gok, pu_cl, pk_sub, rw1_1, h3, RT2, RT11, if_true, ss_rw, Nat.add_sub_cancel]
          rw [if_neg (by omega), if_neg (by omega)]
          show (if upd s 3 (nI (i + 1)) 3 ≤ nI 0 then _ else _) = _
          rw [pk_us, if_neg (show ¬ nI (i + 1) ≤ nI 0 from fun z => by have := (nI_leI (by omega) (by omega)).mp z; omega)]
          show (f8_go (rw1 S s1) (nI 2)).bind _ = _
          rw [RG]
          rfl
end LENDS
