/-! THE LAW'S LOOM, g: a step is done, on both sides -/
section LDO
variable {L L' L1 L2 : GS} {S : GS} {s s' s1 s2 : Nat → Int32} {i j k n p m q c u l e T d : Nat} {sn : Nat → Nat} {v : Int32}
/-- how a step ends: b picks -/
def STEPL (S : GS) (L : GS) (s : Nat → Int32) (c T : Nat) (X : Option GS) (Y : Option (GS × Int32)) : Prop :=
  ∃ L' s' d' b, b ≤ 1 ∧ X = some L' ∧ Y = some (rw1 S s', nI b) ∧ BAL L' s' (c + b) (T + b) ∧ STL L' s' d' atStep ∧ L' 0 8 = L 0 8 ∧ s' 8 = s 8 ∧ L' 0 5 = L 0 5 + nI b
theorem d120 {x : Nat} (hx : x < 128) {s2 : Nat → Int32} (h : f8_settle (rw1 S s') = some (rw1 S s2)) : f8_doStep_120 (rw1 S s') (nI x) = some (rw1 S s2, nI (if x = 119 then 1 else 0)) := by
  unfold f8_doStep_120
  rw [h]
  simp (disch := omega) only [EV, pu_lit, pu_eq]
  by_cases h9 : x = 119
  · rw [if_pos h9, if_pos h9]
  · rw [if_neg h9, if_neg h9]
/-- ends alike, without a pick -/
theorem STEPL.of (hB : BAL L s c T) (hR : RESL L s i n sn L1 s1) (hlow : ∀ j, j < i → ∃ n sn p m, FL L s j n sn p m ∧ p < n ∧ sn p = 107) (hi : i < 9) {x : Nat} (hx : x < 128) (h9 : x ≠ 119) {X : Option GS} {Y : Option (GS × Int32)} (hX : X = f9_step_351 L1) (hY : Y = f8_doStep_120 (rw1 S s1) (nI x)) : STEPL S L s c T X Y := by
  obtain ⟨L2, s2, d2, a1, a2, a3, a4⟩ := l_after (S := S) hR hlow hi
  refine ⟨L2, s2, d2, 0, by omega, ?_, ?_, hB.mv a4, a3, a4.2.1 8 (by decide), a4.2.2.2 8 (by show 8 < 1253 + 92 * 0; omega) (by decide), ?_⟩
  · rw [hX]
    unfold f9_step_351
    rw [a1]
    rfl
  · rw [hY, d120 hx a2, if_neg h9]
  · rw [a4.2.1 5 (by decide), nI_0, Int32.add_zero]
theorem l_step (hB : BAL L s c T) (hS : STL L s d atStep) {st : Nat} (hO : OKL L s c d st) : STEPL S L s c T (f9_step L) (f8_doStep (rw1 S s)) := by
  obtain ⟨i, n, sn, p, m, rfl, h, hp, h41, hst, hw, hk⟩ := hO
  have hlow := hS.low
  obtain ⟨q1, q2, q3, q4, q5⟩ := hS
  have hi : i < 9 := by omega
  have n24 := h.2.1
  have hv := h.1.1
  have hs := h.1.2.2.2.2.2.1
  obtain ⟨col, c6, hc1, hc2⟩ := h.l1
  have hcp := hv.2.2.2 p hp
  have A6 := h.at hi hp
  have at_ : ∀ k, k < n → f9_at6 L (nI i) (nI k) = some (nI (sn k)) := fun k hk => h.at hi hk
  have b3 : 1253 ≤ fb i := by show 1253 ≤ 1253 + 92 * i; omega
  have RT2 := re_top (S := S) (k := 2) hi q2 (by omega)
  have RT1 := re_top (S := S) (k := 1) hi q2 (by omega)
  rw [h.1.2.2.2.2.1] at RT2
  rw [hc1] at RT1
  have RS := re_sign (S := S) (k := p) hi q2 (by omega)
  rw [h.1.2.2.2.2.2.2.2.2.1 p hp] at RS
  have T0 := hB.2.2.2.2.1 col (by omega)
  have S2 := hB.1 2 (by omega)
  obtain ⟨c400, C4, C4', -⟩ := hB.2.2.2.2.2.2.1
  have SLC : sn p = 108 ∨ sn p = 115 → STEPL S L s c T (f9_step L) (f8_doStep (rw1 S s)) := fun z => by
    have z0 : s (fb i + 3) = nI 0 := h.1.2.2.2.2.2.2.1.zero (by omega) (by omega)
    have E9 : f9_step L = f9_step_318 L (nI i) (nI (6 * i)) (nI p) (nI (if s 2 ≤ s (19 + col) then 0 else 1)) (nI (if sn p = 115 then 1 else 0)) := by
      unfold f9_step f9_step_306
      simp (disch := omega) only [EV, NUM, pu_lit, pu_eq, pu_gok, pu_cl, q1, pk_sub, Nat.add_sub_cancel, h.l2, hc2, A6, T0, S2]
      rw [if_neg (by omega), if_neg (by omega), if_neg (by omega), if_neg (by omega)]
      by_cases y1 : s 2 ≤ s (19 + col)
      · rw [if_pos y1, if_pos y1]
        by_cases y2 : sn p = 115
        · rw [if_pos y2, if_pos y2]
        · rw [if_neg y2, if_neg y2]
      · rw [if_neg y1, if_neg y1]
        by_cases y2 : sn p = 115
        · rw [if_pos y2, if_pos y2]
        · rw [if_neg y2, if_neg y2]
    have E8 : f8_doStep (rw1 S s) = (f8_doPart_47 (nI (sn p)) (rw1 S s) (nI (if s 2 ≤ s (19 + col) then 0 else 1)) (nI (if sn p = 115 then 1 else 0))).bind (fun g => f8_doStep_120 g (nI (sn p))) := by
      have SH : f8_isShort (rw1 S s) = some (nI (if s 2 ≤ s (19 + col) then 0 else 1)) := by
        unfold f8_isShort
        simp (disch := omega) only [EV, NUM, pu_lit, pu_gok, pu_cl, rw1_1, RT1]
        by_cases y1 : s 2 ≤ s (19 + col)
        · rw [if_pos y1, if_pos y1]
        · rw [if_neg y1, if_neg y1]
      unfold f8_doStep f8_doPart
      simp (disch := omega) only [EV, NUM, pu_lit, pu_eq, RT2, RS, SH]
      rw [if_neg (by omega), if_neg (by omega), if_neg (by omega), if_neg (by omega)]
      by_cases y2 : sn p = 115
      · rw [if_pos y2, if_pos y2]
      · rw [if_neg y2, if_neg y2]
    generalize (if s 2 ≤ s (19 + col) then 0 else 1) = w1 at E9 E8
    generalize (if sn p = 115 then 1 else 0) = w2 at E9 E8
    obtain ⟨a1, a2, a3, a6, a7⟩ := hs.sl hv hp z
    have hm : m < 3 := by have := h.1.2.2.1; omega
    by_cases y : nI w1 = nI w2
    · obtain ⟨L1, e1, R⟩ := l_begins (l := 0) (by_ := 2) h hi q1 hm (by omega) (fun z => absurd z (Nat.lt_irrefl 0)) a6 a7 rfl
      let so := upd (upd (upd s (fb i + (5 + 2 * m)) (nI p)) (fb i + (5 + 2 * m + 1)) (nI 0)) (fb i + 4) (nI (m + 1))
      let s1 := upd so (fb i + 2) (nI (p + 2))
      have o3 : so 3 = nI (i + 1) := by show upd (upd (upd s _ _) _ _) _ _ 3 = _; rw [pk_un (by omega), pk_un (by omega), pk_un (by omega)]; exact q2
      have R1 := R s1 (fun k _ h2 h3 => by show upd so _ _ _ = _; rw [pk_un (by omega)]) pk_us (by show upd (upd (upd (upd s _ _) _ _) _ _) _ _ _ = _; rw [pk_un (by omega), pk_un (by omega), pk_un (by omega), pk_un (by omega)]; exact z0) (fun x hx => by show upd (upd (upd (upd s _ _) _ _) _ _) _ _ x = _; rw [pk_un (by omega), pk_un (by omega), pk_un (by omega), pk_un (by omega)]) (by show upd so _ _ 3 = _; rw [pk_un (by omega)]; exact o3)
      refine STEPL.of (L1 := L1) (s1 := s1) hB R1 hlow hi (x := sn p) hcp (by omega) ?_ ?_
      · rw [E9]
        unfold f9_step_318
        rw [if_pos y]
        show (f9_begins L (nI 0) (nI 2) (nI (6 * i))).bind _ = _
        rw [e1]
        rfl
      · have f1 : f8_open (rw1 S s) (nI 0) = some (rw1 S so) := re_open hi q2 h.1.2.2.2.1 h.1.2.2.2.2.1 hm
        have f3 : f8_go (rw1 S so) (nI 2) = some (rw1 S s1) := re_go hi o3 (by show upd (upd (upd s _ _) _ _) _ _ _ = _; rw [pk_un (by omega), pk_un (by omega), pk_un (by omega)]; exact h.1.2.2.2.2.1)
        rw [E8]
        unfold f8_doPart_47
        rw [if_pos y]
        simp only [pu_lit, f1, f3, EV]
    · obtain ⟨r, r1, r2, r3, r4⟩ := l_behind (S := S) hv hs at_ hi q2 h.1.2.2.2.2.2.2.2.2.1 hp (by omega)
      rw [if_neg (by omega)] at r4
      let L1 := ssI L 4 (6 * i + 2) (nI (r + 1))
      let s1 := upd (upd s (fb i + 2) (nI (r + 1))) (fb i + 3) (nI 0)
      have y0 : s1 (fb i + 3) = nI 0 := pk_us
      have F : FL L1 s1 i n sn (r + 1) m := h.arr r2 r1 (fun k _ h2 h3 => by show upd (upd s _ _) _ _ _ = _; rw [pk_un (by omega), pk_un (by omega)]) (by show upd (upd s _ _) _ _ _ = _; rw [pk_un (by omega), pk_us]) (Or.inl y0) (fun x h2 h3 => by show ssI L 4 _ _ 4 x = _; rw [ss_1, pk_un h2]) rfl rfl (by show ssI L 4 _ _ 4 _ = _; rw [ss_1, pk_us]) (by rw [y0]; show ssI L 4 _ _ 4 _ = _; rw [ss_1, pk_un (by omega), h.l3, z0])
      refine STEPL.of (L1 := L1) (s1 := s1) hB ⟨⟨_, _, F⟩, (MVL.s4 (by omega)).tr ((MVL.su (Or.inr (by omega))).tr (MVL.su (Or.inr (by omega)))), ?_, ?_⟩ hlow hi (x := sn p) hcp (by omega) ?_ ?_
      · show upd (upd s _ _) _ _ 3 = _
        rw [pk_un (by omega), pk_un (by omega)]; exact q2
      · exact q1
      · rw [E9]
        unfold f9_step_318
        rw [if_neg y, r3]
        simp (disch := omega) only [EV, NUM, pu_lit, pu_gok, pu_cl]
        rfl
      · rw [E8]
        unfold f8_doPart_47
        rw [if_neg y]
        simp only [pu_lit, RT2, EV, NUM, r4]
        rfl
  rcases hs.kinds hv hp with ⟨z, -⟩ | z | z | z | z | z | z
  · exact absurd z h41
  · -- c
    obtain ⟨k1, k2, k3, k4, k5⟩ := hs.c hv hp z
    have A7 := at_ (p + 1) k1
    have RS1 := re_sign (S := S) (k := p + 1) hi q2 (by omega)
    rw [h.1.2.2.2.2.2.2.2.2.1 (p + 1) k1] at RS1
    have z0 : s (fb i + 3) = nI 0 := h.1.2.2.2.2.2.2.1.zero (by omega) (by omega)
    have D := h.dye (v := sn (p + 1) - 48) (by omega)
    let L1 := ssI (ssI L 4 (6 * i + 1) (nI (sn (p + 1) - 48))) 4 (6 * i + 2) (nI (p + 2))
    let s1 := upd (upd s (fb i + 1) (nI (sn (p + 1) - 48))) (fb i + 2) (nI (p + 2))
    have y0 : s1 (fb i + 3) = nI 0 := by show upd (upd s _ _) _ _ _ = _; rw [pk_un (by omega), pk_un (by omega)]; exact z0
    have F : FL L1 s1 i n sn (p + 2) m := D.arr k4 k5 (fun k _ h2 h3 => by show upd (upd s _ _) _ _ _ = _; exact pk_un (by omega)) pk_us (Or.inl y0) (fun x h2 h3 => by show ssI (ssI L 4 _ _) 4 _ _ 4 x = _; rw [ss_1, pk_un h2]) rfl rfl (by show ssI (ssI L 4 _ _) 4 _ _ 4 _ = _; rw [ss_1, pk_us]) (by rw [y0]; show ssI (ssI L 4 _ _) 4 _ _ 4 _ = _; rw [ss_1, pk_un (by omega), ss_1, pk_un (by omega), h.l3, z0])
    refine STEPL.of (L1 := L1) (s1 := s1) hB ⟨⟨_, _, F⟩, ((MVL.s4 (by omega)).tr (MVL.s4 (by omega))).tr ((MVL.su (Or.inr (by omega))).tr (MVL.su (Or.inr (by omega)))), ?_, ?_⟩ hlow hi (x := sn p) hcp (by omega) ?_ ?_
    · show upd (upd s _ _) _ _ 3 = _
      rw [pk_un (by omega), pk_un (by omega)]; exact q2
    · exact q1
    · unfold f9_step
      simp (disch := omega) only [EV, NUM, pu_lit, pu_eq, pu_gok, pu_cl, q1, pk_sub, Nat.add_sub_cancel, h.l2, hc2, A6, z, if_true, A7]
      rw [if_neg (by omega), ss_1, pk_un (by omega), h.l2]
      simp only [NUM]
      rfl
    · have e1 : f8_setTop (rw1 S s) (nI 1) (nI (sn (p + 1) - 48)) = some (rw1 S (upd s (fb i + 1) (nI (sn (p + 1) - 48)))) := re_set hi q2 (by omega)
      have e2 : f8_go (rw1 S (upd s (fb i + 1) (nI (sn (p + 1) - 48)))) (nI 2) = some (rw1 S s1) := re_go hi (by rw [pk_un (by omega)]; exact q2) (by rw [pk_un (by omega)]; exact h.1.2.2.2.2.1)
      unfold f8_doStep
      simp (disch := omega) only [EV, NUM, pu_lit, pu_eq, RT2, RS, z, if_true, RS1, pk_sub, e1, e2]
  · -- k
    obtain ⟨k1, k2, k3, k4, k5⟩ := hs.k hv hp z
    obtain ⟨k, kk5, hkk, hk0, hi8⟩ := hk z
    have A7 := at_ (p + 1) k1
    have RS1 := re_sign (S := S) (s := upd s 7 (s 7 + nI 1)) (k := p + 1) hi (by rw [pk_un (by decide)]; exact q2) (by omega)
    have RT2' := re_top (S := S) (s := upd s 7 (s 7 + nI 1)) (k := 2) hi (by rw [pk_un (by decide)]; exact q2) (by omega)
    have RT1' := re_top (S := S) (s := upd s 7 (s 7 + nI 1)) (k := 1) hi (by rw [pk_un (by decide)]; exact q2) (by omega)
    rw [pk_un (by omega), h.1.2.2.2.2.1] at RT2'
    rw [pk_un (by omega), hc1] at RT1'
    rw [pk_un (by omega), h.1.2.2.2.2.2.2.2.2.1 (p + 1) k1, hkk] at RS1
    rw [hkk] at A7
    have hB1 := hB.calls
    have hlow1 : ∀ j, j < i + 1 → ∃ n sn p m, FL (ssI L 0 7 (L 0 7 + nI 1)) (upd s 7 (s 7 + nI 1)) j n sn p m ∧ p < n ∧ sn p = 107 := fun j hj => by
      have ho : ∀ x, 1253 ≤ x → upd s 7 (s 7 + nI 1) x = s x := fun x hx => pk_un (by omega)
      by_cases hji : j = i
      · subst hji
        exact ⟨n, sn, p, m, h.beside rfl rfl rfl ho, hp, z⟩
      · obtain ⟨n', sn', p', m', z1, z2⟩ := hlow j (by omega)
        exact ⟨n', sn', p', m', z1.beside rfl rfl rfl ho, z2⟩
    obtain ⟨L2, s2, y1, y2, y3, y4, y5, y6, y7⟩ := l_lays (S := S) hB1 (by rw [ss_1, pk_un (by decide)]; exact q1) (by rw [pk_un (by decide)]; exact q2) (by omega) hlow1 kk5 c6 (by rw [pk_un (by omega)]; exact hk0)
    obtain ⟨n3, sn3, p3, m3, F3, -⟩ := y4.2.2.2.2 (i + 1) rfl
    have h3 := F3.m3
    obtain ⟨L3, s3, d3, w1, w2, w3, w4⟩ := l_ends (S := S) 36 (i + 1) n3 sn3 p3 m3 L2 s2 FU FU F3 (fun j hj => y4.2.2.2.1 j (by omega)) (by omega) y4.2.1 y4.1 (by omega) (by unfold FU; omega) (by unfold FU; omega)
    refine ⟨L3, s3, d3, 0, by omega, ?_, ?_, y3.mv w4, w3, ?_, ?_, ?_⟩
    · unfold f9_step
      have A7' : f9_at6 (ssI L 0 7 (L 0 7 + nI 1)) (nI i) (nI (p + 1)) = some (nI (k + 48)) := A7
      simp (disch := omega) only [EV, NUM, pu_lit, pu_eq, pu_gok, pu_cl, q1, pk_sub, Nat.add_sub_cancel, h.l2, hc2, A6, z, if_true, A7', y1]
      rw [if_neg (by omega), if_neg (by omega)]
      unfold f9_step_351 f9_settles
      rw [w1]
      rfl
    · unfold f8_doStep
      simp (disch := omega) only [EV, NUM, pu_lit, pu_eq, pu_gok, pu_cl, rw1_1, ss_rw, RT2, RS, z, if_true, RS1, RT2', RT1', pk_sub, Nat.add_sub_cancel, y2]
      rw [if_neg (by omega), d120 (by omega) (show f8_settle (rw1 S s2) = some (rw1 S s3) from w2), if_neg (by omega)]
    · rw [w4.2.1 8 (by decide), y5, ss_1, pk_un (by decide)]
    · rw [w4.2.2.2 8 (by show 8 < 1253 + 92 * 0; omega) (by decide), y6, pk_un (by decide)]
    · rw [w4.2.1 5 (by decide), y7, ss_1, pk_un (by decide), nI_0, Int32.add_zero]
  · exact SLC (Or.inl z)
  · exact SLC (Or.inr z)
  · -- w
    obtain ⟨c4, col', c6', hc', hne⟩ := hw z
    have hcc : col' = col := (nI_eq (by omega) (by omega)).mp (hc'.symm.trans hc1)
    have hB1 := hB.pick c6 c4 (by rw [hcc] at hne; exact hne)
    have so : ∀ x, 1253 ≤ x → sw s col c x = s x := fun x hx => sw_o (by omega) (by omega) (by omega) (by omega) (by omega) (by omega)
    have F1 : FL (Lw L col c) (sw s col c) i n sn p m := h.beside (Lw_o col (by decide) (by decide) (by decide)) (Lw_o col (by decide) (by decide) (by decide)) (Lw_o col (by decide) (by decide) (by decide)) so
    have hlow1 : ∀ j, j < i → ∃ n sn p m, FL (Lw L col c) (sw s col c) j n sn p m ∧ p < n ∧ sn p = 107 := fun j hj => by
      obtain ⟨n', sn', p', m', z1, z2⟩ := hlow j hj
      exact ⟨n', sn', p', m', z1.beside (Lw_o col (by decide) (by decide) (by decide)) (Lw_o col (by decide) (by decide) (by decide)) (Lw_o col (by decide) (by decide) (by decide)) so, z2⟩
    have y3 : sw s col c 3 = nI (i + 1) := by rw [sw_o (by omega) (by omega) (by omega) (by omega) (by omega) (by omega)]; exact q2
    have x3 : Lw L col c 0 3 = nI (i + 1) := by rw [Lw_0, if_neg (by decide), if_neg (by decide)]; exact q1
    obtain ⟨L2, s2, e1, e2, R⟩ := l_passes (S := S) F1 hi y3 x3 hp z
    obtain ⟨L3, s3, d3, a1, a2, a3, a4⟩ := l_after (S := S) R hlow1 hi
    refine ⟨L3, s3, d3, 1, by omega, ?_, ?_, hB1.mv a4, a3, ?_, ?_, ?_⟩
    · unfold f9_step
      simp (disch := omega) only [EV, NUM, pu_lit, pu_eq, pu_gok, pu_cl, q1, pk_sub, Nat.add_sub_cancel, h.l2, hc2, A6, z, if_true, ss_1, ss_n, pk_us, pk_un, ne_eq, C4, pk_div]
      have e1' : f9_passes (Lw L col c) (nI i) = some L2 := e1
      unfold Lw at e1'
      rw [e1']
      unfold f9_step_351
      simp only [EV]
      rw [a1]
      rfl
    · have W : f8_weavePick (rw1 S s) = some (rw1 S s2) := by
        unfold f8_weavePick
        simp (disch := omega) only [EV, NUM, pu_lit, pu_gok, pu_cl, rw1_1, ss_rw, RT1, pk_us, pk_un, C4']
        have e2' : f8_donePick (rw1 S (sw s col c)) = some (rw1 S s2) := e2
        unfold sw at e2'
        rw [e2']
        rfl
      unfold f8_doStep
      simp (disch := omega) only [EV, NUM, pu_lit, pu_eq, RT2, RS, z, if_true, W]
      rw [if_neg (by omega), if_neg (by omega), d120 (by omega) (show f8_settle (rw1 S s2) = some (rw1 S s3) from a2), if_pos rfl]
    · rw [a4.2.1 8 (by decide), Lw_0, if_neg (by decide), if_neg (by decide)]
    · rw [a4.2.2.2 8 (by show 8 < 1253 + 92 * 0; omega) (by decide), sw_o (by omega) (by omega) (by omega) (by omega) (by omega) (by omega)]
    · rw [a4.2.1 5 (by decide), Lw_0, if_neg (by decide), if_pos rfl]
  · -- x
    obtain ⟨a1, a2, a3, a4, a5, a6, a7⟩ := hs.x hv hp z
    obtain ⟨l, l1, l9, c2, hl3⟩ := r_left (S := S) h.1 hi q2
    have hm : m < 3 := by have := h.1.2.2.1; omega
    obtain ⟨L1, e1, R⟩ := l_begins (l := l - 1) (by_ := 3) h hi q1 hm (by omega) (fun _ => z) a6 a7 rfl
    let so := upd (upd (upd s (fb i + (5 + 2 * m)) (nI p)) (fb i + (5 + 2 * m + 1)) (nI (l - 1))) (fb i + 4) (nI (m + 1))
    let s1 := upd (upd so (fb i + 3) (nI 0)) (fb i + 2) (nI (p + 3))
    have o3 : so 3 = nI (i + 1) := by show upd (upd (upd s _ _) _ _) _ _ 3 = _; rw [pk_un (by omega), pk_un (by omega), pk_un (by omega)]; exact q2
    have R1 := R s1 (fun k _ h2 h3 => by show upd (upd so _ _) _ _ _ = _; rw [pk_un (by omega), pk_un (by omega)]) pk_us (by show upd (upd so _ _) _ _ _ = _; rw [pk_un (by omega), pk_us]) (fun x hx => by show upd (upd (upd (upd (upd s _ _) _ _) _ _) _ _) _ _ x = _; rw [pk_un (by omega), pk_un (by omega), pk_un (by omega), pk_un (by omega), pk_un (by omega)]) (by show upd (upd so _ _) _ _ 3 = _; rw [pk_un (by omega), pk_un (by omega)]; exact o3)
    refine STEPL.of (L1 := L1) (s1 := s1) hB R1 hlow hi (x := sn p) hcp (by omega) ?_ ?_
    · unfold f9_step f9_step_278
      simp (disch := omega) only [EV, NUM, pu_lit, pu_eq, pu_gok, pu_cl, q1, pk_sub, Nat.add_sub_cancel, h.l2, hc2, A6, z, if_true, l_digit h hi hp, h.l3]
      rw [if_neg (by omega), if_neg (by omega), if_neg (by omega)]
      rcases hl3 with ⟨z1, z2⟩ | z1
      · rw [z1, if_pos ((nI_leI (by omega) (by omega)).mpr (Nat.le_refl _)), ← z2, pk_sub (by omega), e1]
        rfl
      · rw [z1, if_neg (fun z => by have := (nI_leI (by omega) (by omega)).mp z; omega), pk_sub (by omega), e1]
        rfl
    · have f1 : f8_open (rw1 S s) (nI (l - 1)) = some (rw1 S so) := re_open hi q2 h.1.2.2.2.1 h.1.2.2.2.2.1 hm
      have f2 : f8_setTop (rw1 S so) (nI 3) (nI 0) = some (rw1 S (upd so (fb i + 3) (nI 0))) := re_set hi o3 (by omega)
      have f3 : f8_go (rw1 S (upd so (fb i + 3) (nI 0))) (nI 3) = some (rw1 S s1) := re_go hi (by rw [pk_un (by omega)]; exact o3) (by show upd (upd (upd (upd s _ _) _ _) _ _) _ _ _ = _; rw [pk_un (by omega), pk_un (by omega), pk_un (by omega), pk_un (by omega)]; exact h.1.2.2.2.2.1)
      unfold f8_doStep f8_doPart
      simp (disch := omega) only [EV, NUM, pu_lit, pu_eq, RT2, RS, z, if_true, c2, pk_sub, f1, f2, f3]
      rw [if_neg (by omega), if_neg (by omega), if_neg (by omega)]
end LDO
