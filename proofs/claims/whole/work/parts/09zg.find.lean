/-! THE PURE PART, zg: depth and picks -/
section FIND
variable {K : GK} {g g' : GM} {S : GS} {B : Nat} {C : Nat → Nat} {H : Nat → Bool} {V D : Nat → Nat} {nn : Nat → Nat} {ss : Nat → Nat → Nat} {s1 : Nat → Int32}
theorem rl_z8 : ∀ w x S f, x + w = 10 → ∃ S', f8_countAll_24 (w + (f + 1)) S (nI x) = f8_countAll_45 FU S' (nI 0) ∧ (∀ j, j ≠ 8 → S' j = S j) ∧ (∀ y, x ≤ y → y < 10 → S' 8 y = nI 0) ∧ ∀ y, y < x → S' 8 y = S 8 y := by
  intro w
  induction w with
  | zero =>
    intro x S f hw
    have : x = 10 := by omega
    subst this
    refine ⟨S, ?_, fun _ _ => rfl, fun y h1 h2 => by omega, fun _ _ => rfl⟩
    rw [Nat.zero_add, f8_countAll_24, if_pos (show (10 : Int32) ≤ nI 10 by decide)]
    rfl
  | succ w ih =>
    intro x S f hw
    have hx : ¬ 10 ≤ x := by omega
    obtain ⟨S', e, e1, e2, e3⟩ := ih (x + 1) (ssI S 8 x (nI 0)) f (by omega)
    refine ⟨S', ?_, fun j hj => by rw [e1 j hj, ss_n _ _ _ _ _ hj], fun y h1 h2 => ?_, fun y hy => by rw [e3 y (by omega), ss_at, if_neg (by omega)]⟩
    · rw [← e, show w + 1 + (f + 1) = (w + (f + 1)) + 1 by omega, f8_countAll_24]
      simp (disch := omega) only [EV, NUM, pu_lit, pu_le, pu_gok, pu_cl, hx, if_false]
    · by_cases hyx : y = x
      · subst hyx
        rw [e3 y (by omega), ss_at, if_pos ⟨rfl, rfl⟩]
      · exact e2 y (by omega) h2
theorem rl_z7 : ∀ w x S f, x + w = 360 → ∃ S', f8_countAll_2 (w + (f + 1)) S (nI x) = f8_countAll_24 FU S' (nI 0) ∧ (∀ j, j ≠ 7 → S' j = S j) ∧ (∀ y, x ≤ y → y < 360 → S' 7 y = nI 0) ∧ ∀ y, y < x → S' 7 y = S 7 y := by
  intro w
  induction w with
  | zero =>
    intro x S f hw
    have : x = 360 := by omega
    subst this
    refine ⟨S, ?_, fun _ _ => rfl, fun y h1 h2 => by omega, fun _ _ => rfl⟩
    rw [Nat.zero_add, f8_countAll_2, if_pos (show (360 : Int32) ≤ nI 360 by decide)]
    rfl
  | succ w ih =>
    intro x S f hw
    have hx : ¬ 360 ≤ x := by omega
    obtain ⟨S', e, e1, e2, e3⟩ := ih (x + 1) (ssI S 7 x (nI 0)) f (by omega)
    refine ⟨S', ?_, fun j hj => by rw [e1 j hj, ss_n _ _ _ _ _ hj], fun y h1 h2 => ?_, fun y hy => by rw [e3 y (by omega), ss_at, if_neg (by omega)]⟩
    · rw [← e, show w + 1 + (f + 1) = (w + (f + 1)) + 1 by omega, f8_countAll_2]
      simp (disch := omega) only [EV, NUM, pu_lit, pu_le, pu_gok, pu_cl, hx, if_false]
    · by_cases hyx : y = x
      · subst hyx
        rw [e3 y (by omega), ss_at, if_pos ⟨rfl, rfl⟩]
      · exact e2 y (by omega) h2
/-- all cards are counted -/
theorem re_all (hG : ∀ j, j < 10 → C j < 1024) (hcg : ∀ S' : GS, S' 1 = s1 → ∀ k, k < 10 → f8_calls S' (nI k) = some (nI (C k)) ∧ f8_hasText S' (nI k) = some (nI (if H k then 1 else 0))) (hT : TXS s1 C H nn ss) (hS : S 1 = s1) {A : Nat} {ρ : Nat → Nat} (hA : ∀ j, j < 10 → A.testBit j = true → H j = true) (hρ : ∀ j, j < 10 → A.testBit j = true → ρ j ≤ 9 ∧ ∀ i, i < 10 → (C j).testBit i = true → A.testBit i = true ∧ ρ i < ρ j) : ∃ S' D V, f8_countAll S = some S' ∧ (∀ j, j ≠ 7 → j ≠ 8 → j ≠ 9 → j ≠ 10 → S' j = S j) ∧ RI S' C H nn ss D V 100 ∧ ∀ j, j < 10 → A.testBit j = true → 0 < D j := by
  obtain ⟨S1, e1, k1, z1, -⟩ := rl_z7 360 0 S (FU - 361) rfl
  rw [show 360 + (FU - 361 + 1) = FU by unfold FU; omega] at e1
  obtain ⟨S2, e2, k2, z2, -⟩ := rl_z8 10 0 S1 (FU - 11) rfl
  rw [show 10 + (FU - 11 + 1) = FU by unfold FU; omega] at e2
  have R0 : RI S2 C H nn ss (fun _ => 0) (fun _ => 0) (10 * 0) := by
    refine ⟨fun i hi => ⟨?_, Nat.zero_le _⟩, fun j hj => ⟨z2 j (Nat.zero_le _) hj, Nat.zero_le _⟩, fun j hj h => absurd h (Nat.lt_irrefl 0), fun _ _ _ _ _ _ _ => rfl⟩
    rw [k2 7 (by decide)]
    exact z1 i (Nat.zero_le _) hi
  have L : ∀ w r S D V f, r + w = 10 → S 1 = s1 → RI S C H nn ss D V (10 * r) → (∀ j, j < 10 → A.testBit j = true → ρ j < r → 0 < D j) → ∃ S' D' V', f8_countAll_45 (w + (f + 1)) S (nI r) = some S' ∧ (∀ j, j ≠ 7 → j ≠ 8 → j ≠ 9 → j ≠ 10 → S' j = S j) ∧ RI S' C H nn ss D' V' 100 ∧ ∀ j, j < 10 → A.testBit j = true → 0 < D' j := by
    intro w
    induction w with
    | zero =>
      intro r S D V f hw h1 hR hk
      have : r = 10 := by omega
      subst this
      refine ⟨S, D, V, ?_, fun _ _ _ _ _ => rfl, hR, fun j hj hb => hk j hj hb (by have := (hρ j hj hb).1; omega)⟩
      rw [Nat.zero_add, f8_countAll_45]
      exact if_pos (show (10 : Int32) ≤ nI 10 by decide)
    | succ w ih =>
      intro r S D V f hw h1 hR hk
      have hx : ¬ 10 ≤ r := by omega
      obtain ⟨S', D', V', i1, i2, i3, i4, i5⟩ := re_round (k45 := f8_countAll_45 (w + (f + 1))) (r := r) hG hcg hT 10 0 S D V (FU - 11) rfl h1 hR (by omega)
      rw [show 10 + (FU - 11 + 1) = FU by unfold FU; omega] at i1
      obtain ⟨S3, D3, V3, j1, j2, j3, j4⟩ := ih (r + 1) S' D' V' f (by omega) ((i2 1 (by decide) (by decide) (by decide) (by decide)).trans h1) (by rw [show 10 * (r + 1) = 10 * r + 10 by omega]; exact i3) (fun j hj hb hr => by
        refine i5 j (Nat.zero_le _) hj (hA j hj hb) (fun i hi hc => ?_)
        obtain ⟨q1, q2⟩ := (hρ j hj hb).2 i hi hc
        exact hk i hi q1 (by omega))
      refine ⟨S3, D3, V3, ?_, fun j a b c d => (j2 j a b c d).trans (i2 j a b c d), j3, j4⟩
      rw [← j1, show w + 1 + (f + 1) = (w + (f + 1)) + 1 by omega, f8_countAll_45, if_neg (show ¬ (10 : Int32) ≤ nI r from fun z => hx ((nI_leI (a := 10) (by omega) (by omega)).mp z))]
      exact i1
  obtain ⟨S', D, V, l1, l2, l3, l4⟩ := L 10 0 S2 _ _ (FU - 11) rfl (by rw [k2 1 (by decide), k1 1 (by decide)]; exact hS) R0 (fun j hj hb h => absurd h (Nat.not_lt_zero _))
  rw [show 10 + (FU - 11 + 1) = FU by unfold FU; omega] at l1
  refine ⟨S', D, V, ?_, fun j a b c d => by rw [l2 j a b c d, k2 j b, k1 j a], l3, l4⟩
  unfold f8_countAll
  show f8_countAll_2 FU S (nI 0) = _
  rw [e1, e2, l1]
/-! the class's heights -/
theorem cl_high {fa m : Nat} {h : Nat → Nat} (hm : m < 1024) (hh : ∀ j, j < 10 → gI g (fa + 1) j = nI (h j) ∧ h j < 1000) : f2_highestOf K g fa (nI m) = some (nI (mx m h 10)) := by
  have L : ∀ w x f, x + w = 10 → f2_highestOf_4 K g fa (nI m) (w + (f + 1)) (nI (mx m h x)) (nI x) = some (nI (mx m h 10)) := by
    intro w
    induction w with
    | zero =>
      intro x f hw
      have : x = 10 := by omega
      subst this
      rw [Nat.zero_add, f2_highestOf_4]
      exact if_pos (show (10 : Int32) ≤ nI 10 by decide)
    | succ w ih =>
      intro x f hw
      have hx : ¬ 10 ≤ x := by omega
      obtain ⟨e8, d1⟩ := hh x (by omega)
      have ml : mx m h x ≤ 999 := mx_le x (fun j hj => by have := (hh j (by omega)).2; omega)
      have hb := pu_holds hm (j := x) (by omega)
      have e : mx m h (x + 1) = if m.testBit x = true ∧ mx m h x < h x then h x else mx m h x := rfl
      rw [← ih (x + 1) f (by omega), show w + 1 + (f + 1) = (w + (f + 1)) + 1 by omega, f2_highestOf_4, e]
      unfold f2_highestOf_29
      simp (disch := omega) only [EV, NUM, pu_lit, pu_le, pu_lt, hx, if_false, hb, pu_gok, pu_cl, e8]
      cases hz : m.testBit x with
      | true =>
        simp only [if_true, true_and, z10f, if_false]
        by_cases hl : mx m h x < h x
        · rw [if_pos hl, if_pos hl]
        · rw [if_neg hl, if_neg hl]
      | false =>
        simp only [Bool.false_eq_true, if_false, false_and, if_true]
  unfold f2_highestOf
  have := L 10 0 (FU - 11) rfl
  rw [show 10 + (FU - 11 + 1) = FU by unfold FU; omega] at this
  exact this
theorem cl_depth {fa la k : Nat} (hG : ∀ j, j < 10 → C j < 1024) (hcb : ∀ g' : GM, AG (fun q => q = fa + 1) g g' → ∀ k, k < 10 → f2_calledBy K g' la (nI k) = some (nI (C k))) (hk : k < 10) {A : Nat} {ρ : Nat → Nat} (hρ : ∀ j, j < 10 → A.testBit j = true → ρ j ≤ 9 ∧ ∀ i, i < 10 → (C j).testBit i = true → A.testBit i = true ∧ ρ i < ρ j) (hAk : A.testBit k = true) (hD : ∀ j, j < 10 → A.testBit j = true → D j = 1 + mx (C j) D 10) : ∃ g', f2_depthOf K g fa la (nI k) = some (g', nI (D k)) ∧ AG (fun q => q = fa + 1) g g' := by
  let HG : GM → (Nat → Nat) → Nat → Prop := fun g h b => ∀ j, j < 10 → gI g (fa + 1) j = nI (h j) ∧ h j ≤ b
  -- beginning
  have I0 : ∀ w x g1 f, x + w = 10 → AG (fun q => q = fa + 1) g g1 → (∀ j, j < x → gI g1 (fa + 1) j = nI 1) → ∃ g2, f2_depthOf_2 K fa la (nI k) (w + (f + 1)) g1 (nI x) = f2_depthOf_23 K fa la (nI k) FU g2 (nI 0) ∧ AG (fun q => q = fa + 1) g g2 ∧ HG g2 (fun _ => 1) 1 := by
    intro w
    induction w with
    | zero =>
      intro x g1 f hw ag h1
      have : x = 10 := by omega
      subst this
      refine ⟨g1, ?_, ag, fun j hj => ⟨h1 j hj, Nat.le_refl _⟩⟩
      rw [Nat.zero_add, f2_depthOf_2, if_pos (show (10 : Int32) ≤ nI 10 by decide)]
      rfl
    | succ w ih =>
      intro x g1 f hw ag h1
      have hx : ¬ 10 ≤ x := by omega
      obtain ⟨g2, e, a1, a2⟩ := ih (x + 1) (gsI g1 (fa + 1) x (nI 1)) f (by omega) (ag.ai rfl) (fun j hj => by
        by_cases e : j = x
        · rw [e, gI_eq]
        · rw [gI_ne (fun z => e z.2)]; exact h1 j (by omega))
      refine ⟨g2, ?_, a1, a2⟩
      rw [← e, show w + 1 + (f + 1) = (w + (f + 1)) + 1 by omega, f2_depthOf_2]
      simp (disch := omega) only [EV, NUM, pu_lit, pu_le, pu_gok, pu_cl, hx, if_false]
  -- a round
  have I1 : ∀ w x r g1 h f k23, x + w = 10 → r < 10 → AG (fun q => q = fa + 1) g g1 → HG g1 h (10 * r + x + 1) → (∀ j, j < 10 → A.testBit j = true → ρ j < r → h j = D j) → (∀ j, j < x → A.testBit j = true → ρ j ≤ r → h j = D j) → ∃ g2 h2, f2_depthOf_32 k23 K fa la (nI k) (w + (f + 1)) g1 (nI r) (nI x) = k23 g2 (nI (r + 1)) ∧ AG (fun q => q = fa + 1) g g2 ∧ HG g2 h2 (10 * r + 11) ∧ ∀ j, j < 10 → A.testBit j = true → ρ j ≤ r → h2 j = D j := by
    intro w
    induction w with
    | zero =>
      intro x r g1 h f k23 hw hr ag hh h1 h2
      have : x = 10 := by omega
      subst this
      refine ⟨g1, h, ?_, ag, hh, fun j hj => h2 j hj⟩
      rw [Nat.zero_add, f2_depthOf_32, if_pos (show (10 : Int32) ≤ nI 10 by decide)]
      simp only [EV, NUM, pu_lit]
    | succ w ih =>
      intro x r g1 h f k23 hw hr ag hh h1 h2
      have hx : ¬ 10 ≤ x := by omega
      have cb := hcb g1 ag x (by omega)
      have hi := cl_high (K := K) (fa := fa) (hG x (by omega)) (fun j hj => ⟨(hh j hj).1, by have := (hh j hj).2; omega⟩)
      have ml : mx (C x) h 10 ≤ 10 * r + x + 1 := mx_le 10 (fun j hj => (hh j hj).2)
      let h' : Nat → Nat := fun j => if j = x then 1 + mx (C x) h 10 else h j
      obtain ⟨g2, h2', e, a1, a2, a3⟩ := ih (x + 1) r (gsI g1 (fa + 1) x (nI (1 + mx (C x) h 10))) h' f k23 (by omega) hr (ag.ai rfl) (fun j hj => by
        by_cases e : j = x
        · rw [e, gI_eq]
          exact ⟨by show _ = nI (if x = x then _ else _); rw [if_pos rfl], by show (if x = x then _ else _) ≤ _; rw [if_pos rfl]; omega⟩
        · rw [gI_ne (fun z => e z.2)]
          have := hh j hj
          exact ⟨by show _ = nI (if j = x then _ else _); rw [if_neg e]; exact this.1, by show (if j = x then _ else _) ≤ _; rw [if_neg e]; omega⟩) (fun j hj hb hr' => by
        show (if j = x then _ else _) = _
        by_cases e : j = x
        · subst e
          rw [if_pos rfl, hD j hj hb]
          congr 1
          refine mx_cg 10 (fun i hi hc => ?_)
          obtain ⟨q1, q2⟩ := (hρ j hj hb).2 i hi hc
          exact h1 i hi q1 (by omega)
        · rw [if_neg e]; exact h1 j hj hb hr') (fun j hj hb hr' => by
        show (if j = x then _ else _) = _
        by_cases e : j = x
        · subst e
          rw [if_pos rfl, hD j (by omega) hb]
          congr 1
          refine mx_cg 10 (fun i hi hc => ?_)
          obtain ⟨q1, q2⟩ := (hρ j (by omega) hb).2 i hi hc
          exact h1 i hi q1 (by omega)
        · rw [if_neg e]; exact h2 j (by omega) hb hr')
      refine ⟨g2, h2', ?_, a1, a2, a3⟩
      rw [← e, show w + 1 + (f + 1) = (w + (f + 1)) + 1 by omega, f2_depthOf_32]
      simp (disch := omega) only [EV, NUM, pu_lit, pu_le, pu_gok, pu_cl, hx, if_false, cb, hi]
  have I2 : ∀ w r g1 h f, r + w = 10 → AG (fun q => q = fa + 1) g g1 → HG g1 h (10 * r + 1) → (∀ j, j < 10 → A.testBit j = true → ρ j < r → h j = D j) → ∃ g2, f2_depthOf_23 K fa la (nI k) (w + (f + 1)) g1 (nI r) = some (g2, nI (D k)) ∧ AG (fun q => q = fa + 1) g g2 := by
    intro w
    induction w with
    | zero =>
      intro r g1 h f hw ag hh h1
      have : r = 10 := by omega
      subst this
      refine ⟨g1, ?_, ag⟩
      have := h1 k hk hAk (by have := (hρ k hk hAk).1; omega)
      rw [Nat.zero_add, f2_depthOf_23, if_pos (show (10 : Int32) ≤ nI 10 by decide), pu_gok hk (by omega), pu_cl (by omega), (hh k hk).1, this]
      rfl
    | succ w ih =>
      intro r g1 h f hw ag hh h1
      have hx : ¬ 10 ≤ r := by omega
      obtain ⟨g2, h2, e, a1, a2, a3⟩ := I1 10 0 r g1 h (FU - 11) (f2_depthOf_23 K fa la (nI k) (w + (f + 1))) rfl (by omega) ag hh h1 (fun j hj => absurd hj (Nat.not_lt_zero j))
      rw [show 10 + (FU - 11 + 1) = FU by unfold FU; omega] at e
      obtain ⟨g3, e3, a4⟩ := ih (r + 1) g2 h2 f (by omega) a1 (fun j hj => ⟨(a2 j hj).1, by have := (a2 j hj).2; omega⟩) (fun j hj hb hr => a3 j hj hb (by omega))
      refine ⟨g3, ?_, a4⟩
      rw [← e3, show w + 1 + (f + 1) = (w + (f + 1)) + 1 by omega, f2_depthOf_23, if_neg (show ¬ (10 : Int32) ≤ nI r from fun z => hx ((nI_leI (a := 10) (by omega) (by omega)).mp z))]
      exact e
  obtain ⟨g2, e, a1, a2⟩ := I0 10 0 g (FU - 11) rfl AG.rf (fun j hj => absurd hj (Nat.not_lt_zero j))
  rw [show 10 + (FU - 11 + 1) = FU by unfold FU; omega] at e
  obtain ⟨g3, e3, a4⟩ := I2 10 0 g2 _ (FU - 11) rfl a1 a2 (fun j hj hb h => absurd h (Nat.not_lt_zero _))
  rw [show 10 + (FU - 11 + 1) = FU by unfold FU; omega] at e3
  refine ⟨g3, ?_, a4⟩
  unfold f2_depthOf
  show f2_depthOf_2 K fa la (nI k) FU g (nI 0) = _
  rw [e, e3]
/-- the texts, chosen -/
theorem SIM.txs (hS : SIM K g S B) : ∃ nn ss, TXS (S 1) (CC g (B + 10)) (HH g (B + 10)) nn ss ∧ ∀ j, j < 10 → HH g (B + 10) j = true → ∃ t, gR g (B + 11) j = some t ∧ TX K g t (nn j) (ss j) := by
  obtain ⟨c, d, hB, -⟩ := hS.2.1
  have P : ∀ j, ∃ p : Nat × (Nat → Nat), j < 10 → HH g (B + 10) j = true → (VT p.2 p.1 ∧ S 1 (43 + j) = nI p.1 ∧ (∀ x, x < p.1 → S 1 (53 + 80 * j + x) = nI (p.2 x)) ∧ ∀ x, x + 1 < p.1 → p.2 x = 107 → p.2 (x + 1) - 48 < 10 ∧ (CC g (B + 10) j).testBit (p.2 (x + 1) - 48) = true) ∧ ∃ t, gR g (B + 11) j = some t ∧ TX K g t p.1 p.2 := by
    intro j
    by_cases hj : j < 10
    · rcases hB.2.2.2.2 j hj with ⟨t1, t2⟩ | ⟨t, n, sn, t1, t2, t3, t4⟩
      · refine ⟨(0, fun _ => 0), fun _ h => ?_⟩
        unfold HH at h
        rw [t1] at h
        cases h
      · refine ⟨(n, sn), fun _ _ => ⟨⟨t2.2.2.2.1, t3, t4, fun x hx h107 => ?_⟩, t, t1, t2⟩⟩
        have := caN_bit t2.2.2.2.1 n (Nat.le_refl _) x hx h107
        refine ⟨this.1, ?_⟩
        obtain ⟨e1, e2⟩ := caN_eq (t2.2.2.2.1.ne (Nat.le_refl _))
        have ec : gI g t 2 = nI (caN sn n) := t2.2.2.2.2.2.2.2.1.trans e1
        unfold CC
        rw [t1]
        dsimp only
        rw [ec, pu_cl (by omega)]
        exact this.2
    · exact ⟨(0, fun _ => 0), fun h => absurd h hj⟩
  refine ⟨fun j => (Classical.choose (P j)).1, fun j => (Classical.choose (P j)).2, fun j hj hH => ((Classical.choose_spec (P j)) hj hH).1, fun j hj hH => ((Classical.choose_spec (P j)) hj hH).2⟩
/-- the views stay -/
theorem SIM.cg (hS : SIM K g S B) : ∀ S' : GS, S' 1 = S 1 → ∀ k, k < 10 → f8_calls S' (nI k) = some (nI (CC g (B + 10) k)) ∧ f8_hasText S' (nI k) = some (nI (if HH g (B + 10) k then 1 else 0)) := by
  intro S' h k hk
  obtain ⟨c, d, hB, -⟩ := hS.2.1
  obtain ⟨hG, h13⟩ := hS.gv
  obtain ⟨h1, h2, h3, h4, h5⟩ := cs_of (S := S') (s := S' 1) (by rw [h]; exact hB) hk h13
  rw [rw1_self] at h3 h4
  exact ⟨h3, h4⟩
theorem SIM.cb (hS : SIM K g S B) {P : Nat → Prop} (ag : AG P g g') (hp : ∀ q, P q → B + 141 ≤ q ∧ q < B + 155) : ∀ k, k < 10 → f2_calledBy K g' (B + 11) (nI k) = some (nI (CC g (B + 10) k)) := by
  intro k hk
  have S' : SIM K g' S B := hS.free ag (fun q hq => by have := hp q hq; omega) (fun _ _ => rfl) (fun _ _ => rfl) (fun _ _ _ => rfl)
  obtain ⟨hG', -⟩ := S'.gv
  obtain ⟨hG, -⟩ := hS.gv
  obtain ⟨a1, a2, a3, -⟩ := hG' k hk
  obtain ⟨b1, b2, b3, -⟩ := hG k hk
  rw [a3] at b3
  have := (nI_eq (by omega) (by omega)).mp (Option.some.inj b3)
  rw [← this]
  exact a2
theorem op_depth (hS : SIM K g S B) (x : Int32) : OPR K B (f7_depth K g B x) (f8_depth S x) := by
  obtain ⟨hG, h13⟩ := hS.gv
  unfold f7_depth f8_depth f8_isCard
  rcases rg x (n := 10) (by omega) (by omega) with ⟨e1, e2⟩ | ⟨k, hk, rfl, e1, e2⟩
  · refine ⟨g, S, -1, ?_, ?_, hS⟩
    · rw [show (10 : Int32) = nI 10 from rfl, e1]; rfl
    · rw [show f8_within x 0 9 = f8_within x (nI 0) (nI (10 - 1)) from rfl, e2]; rfl
  · rw [show (10 : Int32) = nI 10 from rfl, show f8_within (nI k) 0 9 = f8_within (nI k) (nI 0) (nI (10 - 1)) from rfl, e1, e2]
    simp only [EV, if_neg z10, gb1]
    obtain ⟨r, t1, t2, t3⟩ := trouble_eq hG h13 hk
    rw [show f2_troubleOf K g (B + 11) (nI k) = some r from t1, t2]
    simp only [EV]
    by_cases hr : r = 0
    · rw [if_pos hr, if_pos hr]
      have hA := t3 hr
      have hC : ∀ j, j < 10 → CC g (B + 10) j < 1024 := fun j hj => (hG j hj).1
      obtain ⟨ρ, hρ⟩ := ranks (C := CC g (B + 10)) hk hA
      obtain ⟨nn, ss, hT, -⟩ := hS.txs
      have hAk : (rch (CC g (B + 10)) k ||| 2 ^ k).testBit k = true := by rw [Nat.testBit_or, Nat.testBit_two_pow_self, Bool.or_true]
      obtain ⟨S', D, V, q1, q2, q3, q4⟩ := re_all hC hS.cg hT rfl (fun j hj hb => (hA j hj hb).1) hρ
      have hD : ∀ j, j < 10 → (rch (CC g (B + 10)) k ||| 2 ^ k).testBit j = true → D j = 1 + mx (CC g (B + 10) j) D 10 := fun j hj hb => (q3.2.2.1 j hj (q4 j hj hb)).2.2.1
      obtain ⟨g', d1, d2⟩ := cl_depth (K := K) (g := g) (fa := B + 141) (la := B + 11) hC (fun g' ag j hj => hS.cb ag (fun q hq => by omega) j hj) hk hρ hAk hD
      refine ⟨g', S', nI (D k), ?_, ?_, hS.free d2 (fun q hq => by omega) (fun j _ => by rw [q2 0 (by decide) (by decide) (by decide) (by decide)]) (fun y _ => by rw [q2 1 (by decide) (by decide) (by decide) (by decide)]) (fun j j3 j6 => q2 j (by omega) (by omega) (by omega) (by omega))⟩
      · rw [d1]; rfl
      · unfold f8_tellsDepth
        rw [q1]
        simp (disch := omega) only [EV, pu_gok, pu_cl, (q3.2.1 k hk).1]
    · rw [if_neg hr, if_neg hr]
      exact ⟨g, S, r, rfl, rfl, hS⟩
end FIND
