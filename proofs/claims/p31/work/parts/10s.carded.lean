/-! THE LAW'S LOOM, s: a card gets its text -/
section LCARDED
variable {K : GK} {g : GM} {B : Nat} {L L' L0 : GS} {S S' S0 : GS} {i j k n c a o nd T : Nat} {sn : Nat → Nat} {v : Int32} {q : TQ}
theorem r_card (hS : SIM K g S B) (hj : j < 10) (h7 : S 0 7 = nI n) (hv : VT sn n) (h6 : ∀ x, x < n → S 6 x = nI (sn x)) : ∃ S', f8_card S (nI j) = some (S', nI (stN sn n)) ∧ S' 1 (43 + j) = nI n ∧ (∀ y, y < n → S' 1 (53 + 80 * j + y) = nI (sn y)) ∧ ∀ z, z ≠ 43 + j → (z < 53 + 80 * j ∨ 53 + 80 * j + n ≤ z) → S' 1 z = S 1 z := by
  have h80 := hv.1
  have hc := hv.2.2.2
  have hR : RPAD S sn n := ⟨h80, h7, fun k hk => ⟨h6 k hk, hc k hk⟩⟩
  obtain ⟨u, w, r', f2, ff2⟩ := findFault hR
  have FV : FLT sn n (-nI 6) := Or.inr (Or.inl ⟨hv.ne (Nat.le_refl _), ⟨hv.2.2.1, hv.2.1⟩, rfl⟩)
  have hr := flt_u ff2 FV
  subst hr
  have S0 : SIM K g (rb S u w) B := hS.free (AG.rf (P := fun _ => False)) (fun q hq => hq.elim) (fun i hi => by unfold rb; rw [ss_at, if_neg (by omega), ss_at, if_neg (by omega)]) (fun y hy => by unfold rb; rw [ss_n _ _ _ _ _ (by decide), ss_n _ _ _ _ _ (by decide)]) (fun k k3 k6 => by unfold rb; rw [ss_n _ _ _ _ _ (by omega), ss_n _ _ _ _ _ (by omega)])
  obtain ⟨g1, S1, -, k2, -, -, k5, k6, k0⟩ := S0.keep
  have r1 : rb S u w 1 = S 1 := by unfold rb; rw [ss_n _ _ _ _ _ (by decide), ss_n _ _ _ _ _ (by decide)]
  have h7' : S1 0 7 = nI n := by rw [k0 7 (by decide), rb_7]; exact h7
  have h6' : ∀ y, y < n → S1 6 y = nI (sn y) := fun y hy => by rw [k6, rb_6]; exact h6 y hy
  let S1' := ssI S1 1 (43 + j) (nI n)
  obtain ⟨S2', e3, y1, y2, y3⟩ := rl_card (n := n) hj h80 n 0 S1' (FU - n) (by omega) (by show ssI S1 _ _ _ _ _ = _; rw [ss_n _ _ _ _ _ (by decide)]; exact h7')
  rw [show n + (FU - n) = FU by unfold FU; omega] at e3
  have sL : S2' 1 (43 + j) = nI n := by
    rw [y3 _ (by omega)]
    show ssI S1 1 _ _ 1 _ = _
    rw [ss_at, if_pos ⟨rfl, rfl⟩]
  have sT : ∀ y, y < n → S2' 1 (53 + 80 * j + y) = nI (sn y) := fun y hy => by
    rw [y2 y (Nat.zero_le _) hy]
    show ssI S1 1 _ _ 6 _ = _
    rw [ss_n _ _ _ _ _ (by decide)]
    exact h6' y hy
  have s1 : ∀ z, ssI S2' 0 7 (nI 0) 1 z = S2' 1 z := fun z => by rw [ss_n _ _ _ _ _ (by decide)]
  refine ⟨ssI S2' 0 7 (nI 0), ?_, by rw [s1]; exact sL, fun y hy => by rw [s1]; exact sT y hy, fun z z1 z2 => ?_⟩
  · unfold f8_card f8_isCard
    rw [show f8_within (nI j) 0 9 = f8_within (nI j) (nI 0) (nI 9) from rfl, within_1 (Nat.zero_le _) (by omega) (by omega)]
    simp only [EV, if_neg n1ne, f2]
    rw [if_pos (show -nI 6 = -6 from rfl), k2]
    simp (disch := omega) only [EV, NUM, pu_lit, pu_gok, pu_cl, h7']
    show f8_card_40 (nI j) FU S1' (nI 0) = _
    have h7'' : S2' 0 7 = nI n := by rw [y1 0 (by decide)]; show ssI S1 _ _ _ _ _ = _; rw [ss_n _ _ _ _ _ (by decide)]; exact h7'
    rw [e3, show FU - n = (FU - n - 1) + 1 by unfold FU; omega, f8_card_40, h7'']
    have st := re_steps (S := ssI S2' 0 7 (nI 0)) (s := S2' 1) hj sL h80 sT hc
    have e7 : rw1 (ssI S2' 0 7 (nI 0)) (S2' 1) = ssI S2' 0 7 (nI 0) := by
      have : (ssI S2' 0 7 (nI 0)) 1 = S2' 1 := ss_n _ _ _ _ _ (by decide)
      rw [← this, rw1_self]
    rw [e7] at st
    simp (disch := omega) only [EV, pu_lit, pu_le]
    rw [if_pos (Nat.le_refl _), st]
    rfl
  · rw [s1, y3 z (by omega)]
    show ssI S1 1 _ _ 1 z = _
    rw [ss_at, if_neg (fun q => z1 q.2), k5, r1]
/-- a card is made on both sides -/
theorem l_carded (hS : SIM K g S B) (h : LR L (S 1) T) (ha : a < 5) (w : Int32) : ∃ g1 L1 n, f9_makes K g L (nI a) w B = some (g1, L1, nI n) ∧ ∃ K' g' S' r, f7_card K g1 B (nI a) = some (K', g', r) ∧ SIM K' g' S' B ∧ LR (ssI L1 3 a (nI n)) (S' 1) T ∧ f9_steps (ssI L1 3 a (nI n)) (nI a) = some r := by
  obtain ⟨g1, L1, S1, n, q, e, ⟨m1, m2, m3, m4, ⟨sn, m5, m5'⟩, m6, m7, m8, m9, m10⟩, hq1, hq2⟩ := l_makes hS ha w
  have hv : VT sn n := ⟨by omega, by unfold cc; rw [m5']; exact hq1, by unfold ks; rw [m5']; exact hq2, fun k hk => (m5 k hk).2.1⟩
  obtain ⟨K', g', S', r, e1, e2, hS'⟩ := op_card m1 (nI a)
  obtain ⟨S2, x1, x2, x3, x4⟩ := r_card m1 (j := a) (by omega) m3 hv (fun x hx => (m5 x hx).1)
  rw [x1] at e2
  cases e2
  refine ⟨g1, L1, n, e, K', g', S', _, e1, hS', ?_, ?_⟩
  · rw [m2] at x4
    obtain ⟨c, d, ⟨a1, ⟨⟨v, v9, a2⟩, nb⟩, a3, ⟨W, WT, a4⟩, a5, a6, a7, a8, a9⟩, hST, h8⟩ := h
    let L2 := ssI L1 3 a (nI n)
    have l0 : ∀ x, x ≠ 9 → L2 0 x = L 0 x := fun x hx => by
      show ssI L1 _ _ _ 0 x = _
      rw [ss_n _ _ _ _ _ (by decide)]
      exact m9 x hx
    have l2 : ∀ x, L2 2 x = L1 2 x := fun x => by
      show ssI L1 _ _ _ 2 x = _
      rw [ss_n _ _ _ _ _ (by decide)]
    have l3 : ∀ x, L2 3 x = if x = a then nI n else L 3 x := fun x => by
      show ssI L1 _ _ _ 3 x = _
      rw [ss_1]
      by_cases z : x = a
      · rw [if_pos z, z, pk_us]
      · rw [if_neg z, pk_un z, m8 3 (by decide) (by decide)]
    have lr : ∀ r, r ≠ 0 → r ≠ 2 → r ≠ 3 → L2 r = L r := fun r r0 r2 r3 => by
      show ssI L1 _ _ _ r = _
      rw [ss_n _ _ _ _ _ r3]
      exact m8 r r0 r2
    have sx : ∀ z, (z < 43 ∨ 853 ≤ z) → S' 1 z = S 1 z := fun z hz => x4 z (by omega) (by omega)
    refine ⟨c, d, ⟨fun x hx => ?_, ⟨⟨v, v9, by rw [sx 0 (by omega)]; exact a2⟩, nb.mo (fun x hx => sx x (by omega))⟩, fun x y1 y2 => ?_, ⟨W, WT, by rw [sx 5 (by omega)]; exact a4⟩, fun k hk => ?_, fun k hk => ?_, a7.mo (l0 4 (by decide)) (lr 7 (by decide) (by decide) (by decide)) (sx 4 (by omega)) (fun x y1 y2 => sx x (by omega)), fun k hk => ?_, fun k y1 y2 => ?_⟩, hST.beside (l0 3 (by decide)) (sx 3 (by omega)) (lr 4 (by decide) (by decide) (by decide)) (lr 5 (by decide) (by decide) (by decide)) (lr 6 (by decide) (by decide) (by decide)) (fun x hx => sx x (by omega)), ?_⟩
    · rw [sx x (by omega)]; exact (l0 x (by omega)).trans (a1 x hx)
    · rw [sx x (by omega)]; exact (l0 x (by omega)).trans (a3 x y1 y2)
    · rw [sx _ (by omega)]; exact (congrFun (lr 1 (by decide) (by decide) (by decide)) k).trans (a5 k hk)
    · rw [sx _ (by omega)]
      refine (l3 _).trans ?_
      rw [if_neg (by omega)]
      exact a6 k hk
    · by_cases hka : k = a
      · subst hka
        exact ⟨n, sn, (l3 k).trans (if_pos rfl), x2, m4, fun _ => hv, fun x hx => ⟨x3 x hx, (m5 x hx).2.2⟩⟩
      · obtain ⟨n', sn', z1, z2, z3, z4, z5⟩ := a8 k hk
        refine ⟨n', sn', ?_, ?_, z3, z4, fun x hx => ⟨?_, ?_⟩⟩
        · refine (l3 k).trans ?_
          rw [if_neg hka]
          exact z1
        · rw [x4 _ (by omega) (by omega)]; exact z2
        · rw [x4 _ (by omega) (by omega)]; exact (z5 x hx).1
        · refine Eq.trans ?_ (z5 x hx).2
          unfold AT
          rw [show ssI L1 3 a (nI n) 2 (6 * k + x / 4) = L 2 (6 * k + x / 4) from (l2 _).trans (m10 _ (by omega))]
    · rw [x4 _ (by omega) (by omega)]; exact a9 k y1 y2
    · rw [sx 8 (by omega)]; exact (l0 8 (by decide)).trans h8
  · refine l_steps ha m4 (by rw [ss_1, pk_us]) (fun x hx => ?_) (fun x hx => ch_le hv hx)
    rw [at2 ha (by omega)]
    have : AT (ssI L1 3 a (nI n)) 2 a x = AT L1 2 a x := by
      unfold AT
      rw [ss_n _ _ _ _ _ (by decide)]
    rw [this]
    exact congrArg some (m5 x hx).2.2
end LCARDED
