/-! THE LAW'S LOOM, d: what lies beside the stack; a card comes on top -/
/-- a pick of the law's cloth -/
def PK (L : GS) (k : Nat) : Int32 := (L 7 (k / 10) >>> (nI (3 * (k - k / 10 * 10)) &&& nI 31)) &&& nI 7
def CLO (L : GS) (s : Nat → Int32) (c : Nat) : Prop := c ≤ 400 ∧ L 0 4 = nI c ∧ s 4 = nI c ∧ (∀ x, x < 40 → ∃ V, V < 2 ^ 30 ∧ L 7 x = nI V) ∧ ∀ k, k < c → ∃ v, v < 6 ∧ s (853 + k) = nI v ∧ PK L k = nI v
def CD (L : GS) (s : Nat → Int32) (k : Nat) : Prop := ∃ n sn, L 3 k = nI n ∧ s (43 + k) = nI n ∧ n ≤ 24 ∧ (0 < n → VT sn n) ∧ ∀ x, x < n → s (53 + 80 * k + x) = nI (sn x) ∧ AT L 2 k x = nI (sn x)
/-- what is bounded -/
def NB (s : Nat → Int32) : Prop := (∀ k, k < 6 → ∃ v, v ≤ 999 ∧ s (19 + k) = nI v) ∧ ∀ x, x < 3 → ∃ v, v ≤ 99 ∧ s x = nI v
theorem NB.mo {s s' : Nat → Int32} (h : NB s) (hs : ∀ x, x < 3 ∨ (19 ≤ x ∧ x < 25) → s' x = s x) : NB s' :=
  ⟨fun k hk => by obtain ⟨v, z1, z2⟩ := h.1 k hk; exact ⟨v, z1, (hs _ (by omega)).trans z2⟩, fun x hx => by obtain ⟨v, z1, z2⟩ := h.2 x hx; exact ⟨v, z1, (hs _ (by omega)).trans z2⟩⟩
def BAL (L : GS) (s : Nat → Int32) (c T : Nat) : Prop :=
  (∀ x, x < 3 → L 0 x = s x) ∧ ((∃ v, v ≤ 9 ∧ s 0 = nI v) ∧ NB s) ∧ (∀ x, 5 ≤ x → x < 8 → L 0 x = s x) ∧ (∃ W, W ≤ T ∧ s 5 = nI W) ∧ (∀ k, k < 24 → L 1 k = s (19 + k)) ∧ (∀ k, k < 5 → L 3 (5 + k) = s (9 + k)) ∧ CLO L s c ∧ (∀ k, k < 5 → CD L s k) ∧ ∀ k, 5 ≤ k → k < 10 → s (43 + k) = nI 0
section LLAYS
variable {L L' L1 L2 : GS} {S : GS} {s s' s1 s2 : Nat → Int32} {i j k n p m q c u l e T : Nat} {sn : Nat → Nat} {v : Int32}
theorem CD.mo (h : CD L s k) (hk : k < 5) (h3 : L' 3 k = L 3 k) (h2 : L' 2 = L 2) (hs : ∀ x, 43 ≤ x → x < 853 → s' x = s x) : CD L' s' k := by
  obtain ⟨n, sn, a1, a2, a3, a4, a5⟩ := h
  refine ⟨n, sn, h3.trans a1, (hs _ (by omega) (by omega)).trans a2, a3, a4, fun x hx => ⟨(hs _ (by omega) (by omega)).trans (a5 x hx).1, ?_⟩⟩
  unfold AT
  rw [h2]
  exact (a5 x hx).2
theorem CLO.mo (h : CLO L s c) (h0 : L' 0 4 = L 0 4) (h7 : L' 7 = L 7) (h4 : s' 4 = s 4) (hs : ∀ x, 853 ≤ x → x < 1253 → s' x = s x) : CLO L' s' c := by
  obtain ⟨a1, a2, a3, a4, a5⟩ := h
  refine ⟨a1, h0.trans a2, h4.trans a3, by rw [h7]; exact a4, fun k hk => ?_⟩
  obtain ⟨v, v6, z1, z2⟩ := a5 k hk
  refine ⟨v, v6, (hs _ (by omega) (by omega)).trans z1, ?_⟩
  unfold PK
  rw [h7]
  exact z2
theorem BAL.mv (h : BAL L s c T) (hm : MVL L L' s s' 0) : BAL L' s' c T := by
  obtain ⟨a1, ⟨⟨v, v9, a2⟩, nb⟩, a3, ⟨W, WT, a4⟩, a5, a6, a7, a8, a9⟩ := h
  obtain ⟨m1, m2, -, m4⟩ := hm
  have m1' := fun r (h0 : r ≠ 0) (h4 : r ≠ 4) (h5 : r ≠ 5) => m1 r h0 h4 h5
  have ms : ∀ x, x < 1253 → x ≠ 3 → s' x = s x := fun x h1 h2 => m4 x (by show x < 1253 + 92 * 0; omega) h2
  refine ⟨fun x hx => ?_, ⟨⟨v, v9, by rw [ms 0 (by omega) (by omega)]; exact a2⟩, nb.mo (fun x hx => ms x (by omega) (by omega))⟩, fun x h1 h2 => ?_, ⟨W, WT, by rw [ms 5 (by omega) (by omega)]; exact a4⟩, fun k hk => ?_, fun k hk => ?_, a7.mo (m2 4 (by decide)) (m1 7 (by decide) (by decide) (by decide)) (ms 4 (by omega) (by omega)) (fun x h1 h2 => ms x h2 (by omega)), fun k hk => (a8 k hk).mo hk (by rw [m1 3 (by decide) (by decide) (by decide)]) (m1 2 (by decide) (by decide) (by decide)) (fun x h1 h2 => ms x (by omega) (by omega)), fun k h1 h2 => ?_⟩
  · rw [m2 x (by omega), ms x (by omega) (by omega)]; exact a1 x hx
  · rw [m2 x (by omega), ms x (by omega) (by omega)]; exact a3 x h1 h2
  · rw [m1 1 (by decide) (by decide) (by decide), ms _ (by omega) (by omega)]; exact a5 k hk
  · rw [m1 3 (by decide) (by decide) (by decide), ms _ (by omega) (by omega)]; exact a6 k hk
  · rw [ms _ (by omega) (by omega)]; exact a9 k h1 h2
/-- the text goes onto the stack -/
theorem l_75 {p1 : Int32} (hi : i < 9) (hk : k < 5) : ∀ w x L f, x + w = 6 → ∃ L', f9_lays_75 (nI k) p1 (w + f) L (nI i) (nI x) = f9_lays_75 (nI k) p1 f L' (nI i) (nI 6) ∧ (∀ y, x ≤ y → y < 6 → L' 6 (6 * i + y) = L 2 (6 * k + y)) ∧ (∀ y, y < 6 * i + x ∨ 6 * i + 6 ≤ y → L' 6 y = L 6 y) ∧ ∀ r, r ≠ 6 → L' r = L r := by
  intro w
  induction w with
  | zero =>
    intro x L f hw
    have : x = 6 := by omega
    subst this
    exact ⟨L, by rw [Nat.zero_add], fun y h1 h2 => absurd h1 (by omega), fun _ _ => rfl, fun _ _ => rfl⟩
  | succ w ih =>
    intro x L f hw
    obtain ⟨L', e, e1, e2, e3⟩ := ih (x + 1) (ssI L 6 (6 * i + x) (L 2 (6 * k + x))) f (by omega)
    have n6 : ¬ 6 ≤ x := by omega
    refine ⟨L', ?_, fun y h1 h2 => ?_, fun y hy => ?_, fun r hr => (e3 r hr).trans (ss_n _ _ _ _ _ hr)⟩
    · rw [← e, show w + 1 + f = (w + f) + 1 by omega, f9_lays_75]
      simp (disch := omega) only [EV, NUM, pu_lit, pu_le, pu_gok, pu_cl, n6, if_false]
    · by_cases hyx : y = x
      · subst hyx
        rw [e2 _ (by omega), ss_1, pk_us]
      · rw [e1 y (by omega) h2, ss_n _ _ _ _ _ (by decide)]
    · rw [e2 y (by omega), ss_1, pk_un (by omega)]
/-- a card comes on top -/
theorem l_lays (hB : BAL L s c T) (hL3 : L 0 3 = nI i) (h3 : s 3 = nI i) (hi : i < 9) (hlow : ∀ j, j < i → ∃ n sn p m, FL L s j n sn p m ∧ p < n ∧ sn p = 107) (hk : k < 5) {col : Nat} (hc : col < 6) (hn : s (43 + k) ≠ nI 0) : ∃ L' s', f9_lays L (nI k) (nI col) = some L' ∧ f8_lay (rw1 S s) (nI k) (nI col) = some (rw1 S s') ∧ BAL L' s' c T ∧ STL L' s' (i + 1) atStep ∧ L' 0 8 = L 0 8 ∧ s' 8 = s 8 ∧ L' 0 5 = L 0 5 := by
  obtain ⟨n, sn, l3, h43, n24, hv, htx⟩ := hB.2.2.2.2.2.2.2.1 k hk
  have hn0 : 0 < n := by
    apply Classical.byContradiction
    intro z
    have : n = 0 := by omega
    subst this
    exact hn h43
  have hv := hv hn0
  have b3 : 1253 ≤ fb i := by show 1253 ≤ 1253 + 92 * i; omega
  -- the law's rows
  let L1 := ssI (ssI (ssI (ssI (ssI (ssI L 4 (6 * i) (nI k)) 4 (6 * i + 1) (nI col)) 4 (6 * i + 2) (nI 0)) 4 (6 * i + 3) (nI 0)) 4 (6 * i + 4) (nI 0)) 4 (6 * i + 5) (nI n)
  have L1o : ∀ r, r ≠ 4 → L1 r = L r := fun r hr => by
    show ssI (ssI (ssI (ssI (ssI (ssI L 4 _ _) 4 _ _) 4 _ _) 4 _ _) 4 _ _) 4 _ _ r = _
    rw [ss_n _ _ _ _ _ hr, ss_n _ _ _ _ _ hr, ss_n _ _ _ _ _ hr, ss_n _ _ _ _ _ hr, ss_n _ _ _ _ _ hr, ss_n _ _ _ _ _ hr]
  have L14 : ∀ x, x < 6 * i → L1 4 x = L 4 x := fun x hx => by
    show ssI (ssI (ssI (ssI (ssI (ssI L 4 _ _) 4 _ _) 4 _ _) 4 _ _) 4 _ _) 4 _ _ 4 x = _
    rw [ss_1, pk_un (by omega), ss_1, pk_un (by omega), ss_1, pk_un (by omega), ss_1, pk_un (by omega), ss_1, pk_un (by omega), ss_1, pk_un (by omega)]
  have L1v : L1 4 (6 * i) = nI k ∧ L1 4 (6 * i + 1) = nI col ∧ L1 4 (6 * i + 2) = nI 0 ∧ L1 4 (6 * i + 3) = nI 0 ∧ L1 4 (6 * i + 4) = nI 0 ∧ L1 4 (6 * i + 5) = nI n := by
    refine ⟨?_, ?_, ?_, ?_, ?_, ?_⟩
    · show ssI (ssI (ssI (ssI (ssI (ssI L 4 _ _) 4 _ _) 4 _ _) 4 _ _) 4 _ _) 4 _ _ 4 _ = _
      rw [ss_1, pk_un (by omega), ss_1, pk_un (by omega), ss_1, pk_un (by omega), ss_1, pk_un (by omega), ss_1, pk_un (by omega), ss_1, pk_us]
    · show ssI (ssI (ssI (ssI (ssI (ssI L 4 _ _) 4 _ _) 4 _ _) 4 _ _) 4 _ _) 4 _ _ 4 _ = _
      rw [ss_1, pk_un (by omega), ss_1, pk_un (by omega), ss_1, pk_un (by omega), ss_1, pk_un (by omega), ss_1, pk_us]
    · show ssI (ssI (ssI (ssI (ssI (ssI L 4 _ _) 4 _ _) 4 _ _) 4 _ _) 4 _ _) 4 _ _ 4 _ = _
      rw [ss_1, pk_un (by omega), ss_1, pk_un (by omega), ss_1, pk_un (by omega), ss_1, pk_us]
    · show ssI (ssI (ssI (ssI (ssI (ssI L 4 _ _) 4 _ _) 4 _ _) 4 _ _) 4 _ _) 4 _ _ 4 _ = _
      rw [ss_1, pk_un (by omega), ss_1, pk_un (by omega), ss_1, pk_us]
    · show ssI (ssI (ssI (ssI (ssI (ssI L 4 _ _) 4 _ _) 4 _ _) 4 _ _) 4 _ _) 4 _ _ 4 _ = _
      rw [ss_1, pk_un (by omega), ss_1, pk_us]
    · show ssI (ssI (ssI (ssI (ssI (ssI L 4 _ _) 4 _ _) 4 _ _) 4 _ _) 4 _ _) 4 _ _ 4 _ = _
      rw [ss_1, pk_us]
  obtain ⟨L2, f1, f2, f3, f4⟩ := l_75 (p1 := nI col) hi hk 6 0 L1 (FU - 6) rfl
  let mx : Int32 := if nI (i + 1) ≤ s 6 then s 6 else nI (i + 1)
  let L3 := ssI (ssI (ssI L2 0 3 (nI (i + 1))) 3 (5 + k) (L 3 (5 + k) + nI 1)) 0 6 mx
  have o0 : ∀ x, L2 0 x = L 0 x := fun x => by rw [f4 0 (by decide), L1o 0 (by decide)]
  have o3 : ∀ x, L2 3 x = L 3 x := fun x => by rw [f4 3 (by decide), L1o 3 (by decide)]
  have r6 : L 0 6 = s 6 := hB.2.2.1 6 (by omega) (by omega)
  have E1 : f9_lays L (nI k) (nI col) = some L3 := by
    unfold f9_lays
    simp (disch := omega) only [EV, NUM, pu_lit, pu_gok, pu_cl, hL3, ss_n, ne_eq]
    rw [show FU = 6 + (FU - 6) by unfold FU; omega]
    rw [l3]
    show f9_lays_75 (nI k) (nI col) (6 + (FU - 6)) L1 (nI i) (nI 0) = _
    rw [f1, show FU - 6 = (FU - 7) + 1 by unfold FU; omega, f9_lays_75]
    simp (disch := omega) only [EV, NUM, pu_lit, pu_le, pu_gok, pu_cl, o0, hL3]
    rw [if_pos (by omega)]
    have y1 : (ssI L2 0 3 (nI (i + 1))) 3 (5 + k) = L 3 (5 + k) := by rw [ss_n _ _ _ _ _ (by decide), o3]
    rw [y1]
    have y2 : (ssI (ssI L2 0 3 (nI (i + 1))) 3 (5 + k) (L 3 (5 + k) + nI 1)) 0 3 = nI (i + 1) := by rw [ss_n _ _ _ _ _ (by decide), ss_1, pk_us]
    have y3 : (ssI (ssI L2 0 3 (nI (i + 1))) 3 (5 + k) (L 3 (5 + k) + nI 1)) 0 6 = s 6 := by rw [ss_n _ _ _ _ _ (by decide), ss_1, pk_un (by decide), o0, r6]
    rw [y2, y3]
    show (if nI (i + 1) ≤ s 6 then _ else _) = some (ssI _ 0 6 (if nI (i + 1) ≤ s 6 then s 6 else nI (i + 1)))
    by_cases hz : nI (i + 1) ≤ s 6
    · rw [if_pos hz, if_pos hz]
    · rw [if_neg hz, if_neg hz]
  -- the reference's row
  let s1 := upd (upd (upd (upd (upd (upd (upd s 3 (nI (i + 1))) (fb i + 0) (nI k)) (fb i + 1) (nI col)) (fb i + 2) (nI 0)) (fb i + 3) (nI 0)) (fb i + 4) (nI 0)) (fb i + 11) (nI n)
  have so : ∀ x, x ≠ 3 → x < fb i → s1 x = s x := fun x z1 z2 => by
    show upd (upd (upd (upd (upd (upd (upd s _ _) _ _) _ _) _ _) _ _) _ _) _ _ x = _
    rw [pk_un (by omega), pk_un (by omega), pk_un (by omega), pk_un (by omega), pk_un (by omega), pk_un (by omega), pk_un (by omega)]
  obtain ⟨s2, e2, e3, e4⟩ := re_lay (S := S) (p1 := nI col) hi (show k < 10 by omega) 80 0 s1 (FU - 80) rfl (by
    show upd (upd (upd (upd (upd (upd (upd s _ _) _ _) _ _) _ _) _ _) _ _) _ _ 3 = _
    rw [pk_un (by omega), pk_un (by omega), pk_un (by omega), pk_un (by omega), pk_un (by omega), pk_un (by omega), pk_us])
  have f3' : s2 3 = nI (i + 1) := by
    rw [e4 3 (by omega)]
    show upd (upd (upd (upd (upd (upd (upd s _ _) _ _) _ _) _ _) _ _) _ _) _ _ 3 = _
    rw [pk_un (by omega), pk_un (by omega), pk_un (by omega), pk_un (by omega), pk_un (by omega), pk_un (by omega), pk_us]
  let s3 := upd (upd s2 (9 + k) (s (9 + k) + nI 1)) 6 mx
  have v9 : s2 (9 + k) = s (9 + k) := by rw [e4 _ (by omega), so _ (by omega) (by omega)]
  have v6 : s2 6 = s 6 := by rw [e4 _ (by omega), so _ (by omega) (by omega)]
  have E2 : f8_lay (rw1 S s) (nI k) (nI col) = some (rw1 S s3) := by
    have t0 : upd s 3 (nI (i + 1)) 3 = nI (i + 1) := pk_us
    have t1 : ∀ x w' (s' : Nat → Int32), s' 3 = nI (i + 1) → upd s' (fb i + x) w' 3 = nI (i + 1) := fun x w' s' z => by rw [pk_un (by omega)]; exact z
    have w43 : upd (upd (upd (upd (upd (upd s 3 (nI (i + 1))) (fb i + 0) (nI k)) (fb i + 1) (nI col)) (fb i + 2) (nI 0)) (fb i + 3) (nI 0)) (fb i + 4) (nI 0) (43 + k) = nI n := by
      rw [pk_un (by omega), pk_un (by omega), pk_un (by omega), pk_un (by omega), pk_un (by omega), pk_un (by omega)]; exact h43
    have t2 := t1 0 (nI k) _ t0
    have t3 := t1 1 (nI col) _ t2
    have t4 := t1 2 (nI 0) _ t3
    have t5 := t1 3 (nI 0) _ t4
    have t6 := t1 4 (nI 0) _ t5
    unfold f8_lay
    simp (disch := omega) only [EV, NUM, pu_lit, pu_gok, pu_cl, rw1_1, ss_rw, h3, re_set hi t0, re_set hi t2, re_set hi t3, re_set hi t4, re_set hi t5, re_set hi t6, w43]
    have fu : 80 + (FU - 80) = FU := by unfold FU; omega
    rw [fu] at e2
    show f8_lay_57 (nI k) (nI col) FU (rw1 S s1) (nI 0) = _
    rw [e2, show FU - 80 = (FU - 81) + 1 by unfold FU; omega, f8_lay_57]
    simp (disch := omega) only [EV, NUM, pu_lit, pu_gok, pu_cl, rw1_1, ss_rw]
    have x3 : upd s2 (9 + k) (s2 (9 + k) + nI 1) 3 = nI (i + 1) := by rw [pk_un (by omega)]; exact f3'
    have x6 : upd s2 (9 + k) (s2 (9 + k) + nI 1) 6 = s 6 := by rw [pk_un (by omega), v6]
    rw [x3, x6, v9]
    show (if nI 80 ≤ nI 80 then _ else _) = some (rw1 S (upd _ 6 (if nI (i + 1) ≤ s 6 then s 6 else nI (i + 1))))
    rw [if_pos ((nI_leI (by omega) (by omega)).mpr (Nat.le_refl _))]
    by_cases hz : nI (i + 1) ≤ s 6
    · rw [if_pos hz, if_pos hz]
    · rw [if_neg hz, if_neg hz]
  have s3o : ∀ x, x ≠ 6 → x ≠ 9 + k → s3 x = s2 x := fun x z1 z2 => by show upd (upd s2 _ _) _ _ x = _; rw [pk_un z1, pk_un z2]
  have s3l : ∀ x, x ≠ 3 → x ≠ 6 → x ≠ 9 + k → x < fb i → s3 x = s x := fun x z1 z2 z3 z4 => by rw [s3o x z2 z3, e4 _ (by omega), so x z1 z4]
  have hs1 : ∀ y, y < 12 → s2 (fb i + y) = s1 (fb i + y) := fun y hy => e4 _ (by omega)
  have l30 : ∀ x, x ≠ 3 → x ≠ 6 → L3 0 x = L 0 x := fun x z1 z2 => by show (ssI (ssI (ssI L2 0 _ _) 3 _ _) 0 _ _) 0 x = _; rw [ss_1, pk_un z2, ss_n _ _ _ _ _ (by decide), ss_1, pk_un z1, o0]
  have l3r : ∀ r, r ≠ 0 → r ≠ 3 → r ≠ 4 → r ≠ 6 → L3 r = L r := fun r z0 z3 z4 z6 => by show (ssI (ssI (ssI L2 0 _ _) 3 _ _) 0 _ _) r = _; rw [ss_n _ _ _ _ _ z0, ss_n _ _ _ _ _ z3, ss_n _ _ _ _ _ z0, f4 r z6, L1o r z4]
  have l34 : L3 4 = L1 4 := by show (ssI (ssI (ssI L2 0 _ _) 3 _ _) 0 _ _) 4 = _; rw [ss_n _ _ _ _ _ (by decide), ss_n _ _ _ _ _ (by decide), ss_n _ _ _ _ _ (by decide), f4 4 (by decide)]
  have l36 : L3 6 = L2 6 := by show (ssI (ssI (ssI L2 0 _ _) 3 _ _) 0 _ _) 6 = _; rw [ss_n _ _ _ _ _ (by decide), ss_n _ _ _ _ _ (by decide), ss_n _ _ _ _ _ (by decide)]
  have l33 : ∀ x, L3 3 x = if x = 5 + k then L 3 (5 + k) + nI 1 else L 3 x := fun x => by
    show (ssI (ssI (ssI L2 0 _ _) 3 _ _) 0 _ _) 3 x = _
    rw [ss_n _ _ _ _ _ (by decide), ss_1, pu_upd, ss_n _ _ _ _ _ (by decide), o3]
  have l36o : L3 0 6 = mx := by show (ssI (ssI (ssI L2 0 _ _) 3 _ _) 0 _ _) 0 6 = _; rw [ss_1, pk_us]
  have l303 : L3 0 3 = nI (i + 1) := by show (ssI (ssI (ssI L2 0 _ _) 3 _ _) 0 _ _) 0 3 = _; rw [ss_1, pk_un (by decide), ss_n _ _ _ _ _ (by decide), ss_1, pk_us]
  refine ⟨L3, s3, E1, E2, ?_, ⟨l303, ?_, by omega, fun j hj => ?_, fun j hj => ?_⟩, l30 8 (by decide) (by decide), s3l 8 (by omega) (by omega) (by omega) (by omega), l30 5 (by decide) (by decide)⟩
  · obtain ⟨a1, ⟨⟨v, v9', a2⟩, nb⟩, a3, ⟨W, WT, a4⟩, a5, a6, a7, a8, a9⟩ := hB
    refine ⟨fun x hx => ?_, ⟨⟨v, v9', by rw [s3l 0 (by omega) (by omega) (by omega) (by omega)]; exact a2⟩, nb.mo (fun x hx => s3l x (by omega) (by omega) (by omega) (by omega))⟩, fun x h1 h2 => ?_, ⟨W, WT, by rw [s3l 5 (by omega) (by omega) (by omega) (by omega)]; exact a4⟩, fun x hx => ?_, fun x hx => ?_, a7.mo (l30 4 (by decide) (by decide)) (l3r 7 (by decide) (by decide) (by decide) (by decide)) (s3l 4 (by omega) (by omega) (by omega) (by omega)) (fun x h1 h2 => s3l x (by omega) (by omega) (by omega) (by omega)), fun x hx => (a8 x hx).mo hx (by rw [l33, if_neg (by omega)]) (l3r 2 (by decide) (by decide) (by decide) (by decide)) (fun y h1 h2 => s3l y (by omega) (by omega) (by omega) (by omega)), fun x h1 h2 => ?_⟩
    · rw [l30 x (by omega) (by omega), s3l x (by omega) (by omega) (by omega) (by omega)]; exact a1 x hx
    · by_cases x6 : x = 6
      · subst x6
        rw [l36o]
        exact pk_us.symm
      · rw [l30 x (by omega) x6, s3l x (by omega) x6 (by omega) (by omega)]; exact a3 x h1 h2
    · rw [l3r 1 (by decide) (by decide) (by decide) (by decide), s3l _ (by omega) (by omega) (by omega) (by omega)]; exact a5 x hx
    · rw [l33]
      by_cases xk : x = k
      · subst xk
        rw [if_pos rfl, a6 x hx]
        show _ = upd (upd s2 _ _) _ _ _
        rw [pk_un (by omega), pk_us]
      · rw [if_neg (by omega), s3l _ (by omega) (by omega) (by omega) (by omega)]; exact a6 x hx
    · rw [s3l _ (by omega) (by omega) (by omega) (by omega)]; exact a9 x h1 h2
  · rw [s3o 3 (by omega) (by omega)]; exact f3'
  · obtain ⟨n', sn', p', m', z1, z2⟩ := hlow j (by omega)
    refine ⟨n', sn', p', m', z1.mo (VE.mk4 (fun x hx => by rw [l34, L14 _ (by omega)]) (fun x hx => by rw [l3r 5 (by decide) (by decide) (by decide) (by decide)]) (fun x hx => ?_)) (fun x hx => s3l _ (by show 1253 + 92 * j + x ≠ 3; omega) (by show 1253 + 92 * j + x ≠ 6; omega) (by show 1253 + 92 * j + x ≠ 9 + k; omega) (by show 1253 + 92 * j + x < 1253 + 92 * i; omega)), z2⟩
    rw [l36, f3 _ (by omega), L1o 6 (by decide)]
  · have : j = i := by omega
    subst this
    have es : ∀ y, y < 12 → s3 (fb j + y) = s1 (fb j + y) := fun y hy => by rw [s3o _ (by omega) (by omega)]; exact hs1 y hy
    refine ⟨n, sn, 0, 0, ⟨⟨hv, ⟨col, hc, ?_⟩, rfl, ?_, ?_, SP.zero, Or.inl ?_, ?_, fun x hx => ?_, fun x hx => absurd hx (Nat.not_lt_zero x)⟩, n24, fun x hx => ?_⟩, vt_pos hv⟩
    · rw [es 1 (by omega)]
      show upd (upd (upd (upd (upd (upd (upd s _ _) _ _) _ _) _ _) _ _) _ _) _ _ _ = _
      rw [pk_un (by omega), pk_un (by omega), pk_un (by omega), pk_un (by omega), pk_us]
    · rw [es 4 (by omega)]
      show upd (upd (upd (upd (upd (upd (upd s _ _) _ _) _ _) _ _) _ _) _ _) _ _ _ = _
      rw [pk_un (by omega), pk_us]
    · rw [es 2 (by omega)]
      show upd (upd (upd (upd (upd (upd (upd s _ _) _ _) _ _) _ _) _ _) _ _) _ _ _ = _
      rw [pk_un (by omega), pk_un (by omega), pk_un (by omega), pk_us]
    · rw [es 3 (by omega)]
      show upd (upd (upd (upd (upd (upd (upd s _ _) _ _) _ _) _ _) _ _) _ _) _ _ _ = _
      rw [pk_un (by omega), pk_un (by omega), pk_us]
    · rw [es 11 (by omega)]
      exact pk_us
    · rw [s3o _ (by omega) (by omega), e3 x (by omega) (by omega), so _ (by omega) (by omega)]
      exact (htx x hx).1
    · obtain ⟨w0, w1, w2, w3, w4, w5⟩ := L1v
      rcases (by unfold live at hx; omega : x = 0 ∨ x = 1 ∨ x = 2 ∨ x = 3 ∨ x = 4 ∨ x = 11 ∨ (12 ≤ x ∧ x < 12 + n)) with z | z | z | z | z | z | z
      · subst z
        rw [es 0 (by omega), vf_4 (by omega), l34]
        refine Eq.trans ?_ w0.symm
        show upd (upd (upd (upd (upd (upd (upd s _ _) _ _) _ _) _ _) _ _) _ _) _ _ _ = _
        rw [pk_un (by omega), pk_un (by omega), pk_un (by omega), pk_un (by omega), pk_un (by omega), pk_us]
      · subst z
        rw [es 1 (by omega), vf_4 (by omega), l34, w1]
        show upd (upd (upd (upd (upd (upd (upd s _ _) _ _) _ _) _ _) _ _) _ _) _ _ _ = _
        rw [pk_un (by omega), pk_un (by omega), pk_un (by omega), pk_un (by omega), pk_us]
      · subst z
        rw [es 2 (by omega), vf_4 (by omega), l34, w2]
        show upd (upd (upd (upd (upd (upd (upd s _ _) _ _) _ _) _ _) _ _) _ _) _ _ _ = _
        rw [pk_un (by omega), pk_un (by omega), pk_un (by omega), pk_us]
      · subst z
        rw [es 3 (by omega), vf_4 (by omega), l34, w3]
        show upd (upd (upd (upd (upd (upd (upd s _ _) _ _) _ _) _ _) _ _) _ _) _ _ _ = _
        rw [pk_un (by omega), pk_un (by omega), pk_us]
      · subst z
        rw [es 4 (by omega), vf_4 (by omega), l34, w4]
        show upd (upd (upd (upd (upd (upd (upd s _ _) _ _) _ _) _ _) _ _) _ _) _ _ _ = _
        rw [pk_un (by omega), pk_us]
      · subst z
        rw [es 11 (by omega), vf_11, l34, w5]
        exact pk_us
      · obtain ⟨y, rfl⟩ : ∃ y, x = 12 + y := ⟨x - 12, by omega⟩
        rw [show fb j + (12 + y) = fb j + 12 + y by omega, s3o _ (by omega) (by omega), e3 y (by omega) (by omega), so _ (by omega) (by omega), (htx y (by omega)).1, vf_6 (by omega), Nat.add_sub_cancel_left]
        have hh := (htx y (by omega)).2
        unfold AT at hh ⊢
        rw [l36, f2 _ (by omega) (by omega), L1o 2 (by decide)]
        exact hh.symm
end LLAYS
