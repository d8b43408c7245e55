/-! THE PURE PART, q: a loom is copied -/
section COPY
variable {K : GK} {g g' : GM} {S : GS} {a b t n p m i c d N p0 p1 : Nat} {s s' : Nat → Int32} {sn : Nat → Nat}
theorem cp_row (h0 : K.1 p0 = (10, N)) (h1 : K.1 p1 = (10, N)) (hN : N < 2 ^ 31) : ∃ g', f7_copyRow K g p0 p1 = some g' ∧ AG (fun q => q = p1) g g' ∧ (∀ k, k < N → gI g' p1 k = gI g p0 k) ∧ ∀ q k, gR g' q k = gR g q k := by
  refine ⟨gsC g p1 (va_cpy (g.1 p0) (g.1 p1) 0 0 N), ?_, AG.C rfl, fun k hk => ?_, fun q k => rfl⟩
  · have e0 : gkn K p0 = N := by unfold gkn; rw [h0]
    have e1 : gkn K p1 = N := by unfold gkn; rw [h1]
    have gc : gcp 0 0 (nI N) N N = true := by
      unfold gcp
      have t0 : (0 : Int32).toNatClampNeg = 0 := rfl
      rw [pu_cl hN, t0]
      refine decide_eq_true ⟨by decide, by decide, fun z => ?_, by omega, by omega⟩
      have := (nI_ltI (a := N) (b := 0) hN (by omega)).mp z
      omega
    unfold f7_copyRow
    rw [h0, h1, e0, e1]
    simp only [decide_true, EV]
    rw [if_neg (show ¬ nI N < nI N from fun z => by have := (nI_ltI hN hN).mp z; omega), gc, pu_cl hN]
    rfl
  · rw [gI_C, if_pos rfl, pk_cpy_in (by omega) (by omega)]
    show g.1 p0 (0 + (k - 0)) = g.1 p0 k
    rw [Nat.zero_add, Nat.sub_zero]
theorem cp_txt (h0 : K.1 p0 = (13, N)) (h1 : K.1 p1 = (13, N)) (hN : N < 2 ^ 30) (hne : p0 ≠ p1) : ∀ w x g f, N - x = w → x ≤ N → w < f → (∀ j, j < N → ∀ t, gR g p0 j = some t → gkd K t = 2) → ∃ g', f7_copyTexts_10 K p0 p1 f g (nI N) (nI x) = some g' ∧ AG (fun q => q = p1) g g' ∧ (∀ j, x ≤ j → j < N → gR g' p1 j = gR g p0 j) ∧ (∀ j, j < x → gR g' p1 j = gR g p1 j) ∧ ∀ q k, gI g' q k = gI g q k := by
  have e0 : gkn K p0 = N := by unfold gkn; rw [h0]
  have e1 : gkn K p1 = N := by unfold gkn; rw [h1]
  intro w
  induction w with
  | zero =>
    intro x g f hw hx hf hr
    obtain ⟨f, rfl⟩ : ∃ k, f = k + 1 := ⟨f - 1, by omega⟩
    have : x = N := by omega
    subst this
    refine ⟨g, ?_, AG.rf, fun j h1 h2 => by omega, fun _ _ => rfl, fun _ _ => rfl⟩
    rw [f7_copyTexts_10, if_pos (show nI x ≤ nI x from (nI_leI (by omega) (by omega)).mpr (Nat.le_refl _))]
  | succ w ih =>
    intro x g f hw hx hf hr
    obtain ⟨f, rfl⟩ : ∃ k, f = k + 1 := ⟨f - 1, by omega⟩
    have hx' : ¬ N ≤ x := by omega
    let g1 := gsR g p1 x (gR g p0 x)
    obtain ⟨g', q1, q2, q3, q4, q5⟩ := ih (x + 1) g1 f (by omega) (by omega) (by omega) (fun j hj t ht => hr j hj t (by
      have : gR g1 p0 j = gR g p0 j := by
        show gR (gsR g p1 x _) p0 j = _
        rw [gR_R, if_neg (fun z => hne z.1)]
      rw [this] at ht
      exact ht))
    refine ⟨g', ?_, (AG.R (P := fun q => q = p1) rfl).tr q2, fun j z1 z2 => ?_, fun j hj => ?_, fun q k => (q5 q k).trans rfl⟩
    · rw [f7_copyTexts_10]
      simp (disch := omega) only [pu_le, hx', h0, h1, e0, e1, EV, decide_true, pu_gok, pu_cl, NUM, pu_lit, if_false]
      cases hc : gR g p0 x with
      | none =>
        rw [pu_on, ← q1]
        show f7_copyTexts_10 K p0 p1 f (gsR g p1 x none) (nI N) (nI (x + 1)) = f7_copyTexts_10 K p0 p1 f (gsR g p1 x (gR g p0 x)) _ _
        rw [hc]
      | some t =>
        rw [pu_os, hr x (by omega) t hc]
        simp only [decide_true, EV]
        rw [← q1]
        show f7_copyTexts_10 K p0 p1 f (gsR g p1 x (some t)) (nI N) (nI (x + 1)) = f7_copyTexts_10 K p0 p1 f (gsR g p1 x (gR g p0 x)) _ _
        rw [hc]
    · by_cases hjx : j = x
      · subst hjx
        rw [q4 j (by omega)]
        show gR (gsR g p1 j _) p1 j = _
        rw [gR_R, if_pos ⟨rfl, rfl⟩]
      · rw [q3 j (by omega) z2]
        show gR (gsR g p1 x _) p0 j = _
        rw [gR_R, if_neg (fun z => hne z.1)]
    · rw [q4 j (by omega)]
      show gR (gsR g p1 x _) p1 j = _
      rw [gR_R, if_neg (fun z => by omega)]
theorem cp_txts (h0 : K.1 p0 = (13, N)) (h1 : K.1 p1 = (13, N)) (hN : N < 100) (hne : p0 ≠ p1) (hr : ∀ j, j < N → ∀ t, gR g p0 j = some t → gkd K t = 2) : ∃ g', f7_copyTexts K g p0 p1 = some g' ∧ AG (fun q => q = p1) g g' ∧ (∀ j, j < N → gR g' p1 j = gR g p0 j) ∧ ∀ q k, gI g' q k = gI g q k := by
  obtain ⟨g', q1, q2, q3, q4, q5⟩ := cp_txt (K := K) (p0 := p0) (p1 := p1) h0 h1 (by omega) hne N 0 g FU rfl (Nat.zero_le _) (by unfold FU; omega) hr
  refine ⟨g', ?_, q2, fun j hj => q3 j (Nat.zero_le _) hj, q5⟩
  have e0 : gkn K p0 = N := by unfold gkn; rw [h0]
  have e1 : gkn K p1 = N := by unfold gkn; rw [h1]
  unfold f7_copyTexts
  rw [h0, h1, e0, e1]
  simp only [decide_true, EV]
  rw [if_neg (show ¬ nI N < nI N from fun z => by have := (nI_ltI (a := N) (b := N) (by omega) (by omega)).mp z; omega)]
  exact q1
/-- what a copy has -/
def CPY (g : GM) (b : Nat) (g' : GM) (a c : Nat) : Prop :=
  (∀ k, k < 10 → gR g' (a + 1) k = gR g (b + 1) k) ∧ (∀ j k, j = 2 ∧ k < 10 ∨ j = 3 ∧ k < 3 ∨ (4 ≤ j ∧ j ≤ 7) ∧ k < 6 → gI g' (a + j) k = gI g (b + j) k) ∧ (∀ k, k < c → gI g' (a + 8) k = gI g (b + 8) k) ∧
  (∀ j k, (10 ≤ j ∧ j ≤ 12) ∧ k < 9 ∨ (j = 13 ∨ j = 14) ∧ k < 36 → gI g' (a + j) k = gI g (b + j) k) ∧ (∀ k, k < 9 → gR g' (a + 15) k = gR g (b + 15) k) ∧ gI g' (a + 9) 6 = gI g (b + 9) 6 ∧ gI g' a 9 = gI g b 9 ∧ gI g' a 10 = gI g b 10 ∧ gI g' a 11 = gI g b 11 ∧ gI g' a 12 = gI g b 12
theorem copies (ha : LK K a) (hb : LK K b) (hab : a + 16 ≤ b ∨ b + 16 ≤ a) (hc : c ≤ 400) (h9 : gI g b 9 = nI c) (h8 : ∀ k, k < c → ∃ v, v < 6 ∧ gI g (b + 8) k = nI v) (hr1 : ∀ j, j < 10 → ∀ t, gR g (b + 1) j = some t → gkd K t = 2) (hr9 : RT K g (b + 15)) : ∃ g', f4_copyFrom K g a b = some g' ∧ AG (fun q => a ≤ q ∧ q ≤ a + 15) g g' ∧ CPY g b g' a c := by
  obtain ⟨a0, a1, a2, a3, a4, a5, a6, a7, a8, a9, a10, a11, a12, a13, a14, a15⟩ := ha
  obtain ⟨b0, b1, b2, b3, b4, b5, b6, b7, b8, b9, b10, b11, b12, b13, b14, b15⟩ := hb
  obtain ⟨g1, e1, r1, s1, i1⟩ := cp_txts (g := g) b1 a1 (by omega) (by omega) hr1
  obtain ⟨g2, e2, r2, s2, i2⟩ := cp_row (g := g1) b2 a2 (by omega)
  obtain ⟨g3, e3, r3, s3, i3⟩ := cp_row (g := g2) b3 a3 (by omega)
  obtain ⟨g4, e4, r4, s4, i4⟩ := cp_row (g := g3) b4 a4 (by omega)
  obtain ⟨g5, e5, r5, s5, i5⟩ := cp_row (g := g4) b5 a5 (by omega)
  obtain ⟨g6, e6, r6, s6, i6⟩ := cp_row (g := g5) b6 a6 (by omega)
  obtain ⟨g7, e7, r7, s7, i7⟩ := cp_row (g := g6) b7 a7 (by omega)
  have R7 : AG (fun q => a + 1 ≤ q ∧ q ≤ a + 7) g g7 := ((((((AG.mo r1 (fun q hq => by omega)).tr (AG.mo r2 (fun q hq => by omega))).tr (AG.mo r3 (fun q hq => by omega))).tr (AG.mo r4 (fun q hq => by omega))).tr (AG.mo r5 (fun q hq => by omega))).tr (AG.mo r6 (fun q hq => by omega))).tr (AG.mo r7 (fun q hq => by omega))
  let g8 := gsI g7 a 9 (nI c)
  let g9 := gsC g8 (a + 8) (va_cpy (g8.1 (b + 8)) (g8.1 (a + 8)) 0 0 c)
  have r8 : AG (fun q => q = a ∨ q = a + 8) g7 g9 := (AG.rf.ai (Or.inl rfl)).ac (Or.inr rfl)
  have R9 : AG (fun q => a ≤ q ∧ q ≤ a + 8) g g9 := (AG.mo R7 (fun q hq => by omega)).tr (AG.mo r8 (fun q hq => by omega))
  obtain ⟨g10, e10, r10, s10, i10⟩ := cp_row (g := g9) b10 a10 (by omega)
  obtain ⟨g11, e11, r11, s11, i11⟩ := cp_row (g := g10) b11 a11 (by omega)
  obtain ⟨g12, e12, r12, s12, i12⟩ := cp_row (g := g11) b12 a12 (by omega)
  obtain ⟨g13, e13, r13, s13, i13⟩ := cp_row (g := g12) b13 a13 (by omega)
  obtain ⟨g14, e14, r14, s14, i14⟩ := cp_row (g := g13) b14 a14 (by omega)
  have R14 : AG (fun q => a + 10 ≤ q ∧ q ≤ a + 14) g9 g14 := ((((AG.mo r10 (fun q hq => by omega)).tr (AG.mo r11 (fun q hq => by omega))).tr (AG.mo r12 (fun q hq => by omega))).tr (AG.mo r13 (fun q hq => by omega))).tr (AG.mo r14 (fun q hq => by omega))
  have RA : AG (fun q => a ≤ q ∧ q ≤ a + 14) g g14 := (AG.mo R9 (fun q hq => by omega)).tr (AG.mo R14 (fun q hq => by omega))
  obtain ⟨g15, e15, r15, s15, i15⟩ := cp_txts (g := g14) b15 a15 (by omega) (by omega) (fun j hj t ht => hr9 j hj t (by rw [← RA.r (q := b + 15) (by omega)]; exact ht))
  have RB : AG (fun q => a ≤ q ∧ q ≤ a + 15) g g15 := (AG.mo RA (fun q hq => by omega)).tr (AG.mo r15 (fun q hq => by omega))
  let g16 := gsI g15 (a + 9) 6 (gI g15 (b + 9) 6)
  let g17 := gsI g16 a 10 (gI g16 b 10)
  let g18 := gsI g17 a 11 (gI g17 b 11)
  let g19 := gsI g18 a 12 (gI g18 b 12)
  have x9 : gI g7 b 9 = nI c := by rw [R7.i (by omega)]; exact h9
  have x9' : gI g8 a 9 = nI c := gI_eq
  have FC : f0_copyFrom K g9 (a + 9) (b + 9) = some g16 := by
    have k1 : gkd K (b + 9) = 1 := by unfold gkd; rw [b9]
    unfold f0_copyFrom
    rw [k1]
    simp only [decide_true, EV]
    rw [e10]; simp only [EV]
    rw [e11]; simp only [EV]
    rw [e12]; simp only [EV]
    rw [e13]; simp only [EV]
    rw [e14]; simp only [EV]
    rw [e15]; simp only [EV]
    rfl
  have r19 : AG (fun q => q = a ∨ q = a + 9) g15 g19 := (((AG.rf.ai (Or.inr rfl)).ai (Or.inl rfl)).ai (Or.inl rfl)).ai (Or.inl rfl)
  refine ⟨g19, ?_, RB.tr (AG.mo r19 (fun q hq => by omega)), ⟨fun k hk => ?_, fun j k hjk => ?_, fun k hk => ?_, fun j k hjk => ?_, fun k hk => ?_, ?_, ?_, ?_, ?_, ?_⟩⟩
  · have k5 : gkd K b = 5 := by unfold gkd; rw [b0]
    unfold f4_copyFrom
    rw [k5]
    simp only [decide_true, EV]
    rw [e1]; simp only [EV]
    rw [e2]; simp only [EV]
    rw [e3]; simp only [EV]
    rw [e4]; simp only [EV]
    rw [e5]; simp only [EV]
    rw [e6]; simp only [EV]
    rw [e7]; simp only [EV]
    rw [x9, if_neg (show ¬ (400 : Int32) < nI c from fun z => by have := (nI_ltI (a := 400) (b := c) (by omega) (by omega)).mp z; omega)]
    show gd (gcp 0 0 (gI g8 a 9) 400 400) (gd (gft .byte (g8.1 (b + 8)) 0 (gI g8 a 9)) ((f0_copyFrom K (gsC g8 (a + 8) (va_cpy (g8.1 (b + 8)) (g8.1 (a + 8)) 0 0 (gI g8 a 9).toNatClampNeg)) (a + 9) (b + 9)).bind fun g38 => some (gsI (gsI (gsI g38 a 10 (gI g38 b 10)) a 11 (gI (gsI g38 a 10 (gI g38 b 10)) b 11)) a 12 (gI (gsI (gsI g38 a 10 (gI g38 b 10)) a 11 (gI (gsI g38 a 10 (gI g38 b 10)) b 11)) b 12)))) = _
    have gc : gcp 0 0 (nI c) 400 400 = true := by
      unfold gcp
      have t0 : (0 : Int32).toNatClampNeg = 0 := rfl
      rw [pu_cl (by omega), t0]
      refine decide_eq_true ⟨by decide, by decide, fun z => ?_, by omega, by omega⟩
      have := (nI_ltI (a := c) (b := 0) (by omega) (by omega)).mp z
      omega
    have gf : gft .byte (g8.1 (b + 8)) 0 (nI c) = true := by
      unfold gft
      rw [List.all_eq_true]
      intro k hk
      rw [pu_cl (by omega)] at hk
      have hk := List.mem_range.mp hk
      obtain ⟨v, v6, hv⟩ := h8 k hk
      have e : g8.1 (b + 8) ((0 : Int32).toNatClampNeg + k) = nI v := by
        show g8.1 (b + 8) (0 + k) = nI v
        rw [Nat.zero_add]
        have : gI g8 (b + 8) k = nI v := by
          show gI (gsI g7 _ _ _) _ _ = _
          rw [gI_ne (by omega), R7.i (by omega)]
          exact hv
        exact this
      rw [e]
      rcases (by omega : v = 0 ∨ v = 1 ∨ v = 2 ∨ v = 3 ∨ v = 4 ∨ v = 5) with h | h | h | h | h | h <;> subst h <;> rfl
    rw [x9', gc, gf, pu_cl (show c < 2 ^ 31 by omega)]
    simp only [EV]
    show (f0_copyFrom K g9 (a + 9) (b + 9)).bind _ = _
    rw [FC]
    rfl
  · rw [show gR g19 (a + 1) k = gR g15 (a + 1) k from r19.r (by omega) k, r15.r (by omega), R14.r (by omega), r8.r (by omega), r7.r (by omega), r6.r (by omega), r5.r (by omega), r4.r (by omega), r3.r (by omega), r2.r (by omega)]
    exact s1 k hk
  · have f0 : gI g19 (a + j) k = gI g7 (a + j) k := by rw [r19.i (by omega), r15.i (by omega), R14.i (by omega), r8.i (by omega)]
    rw [f0]
    rcases (by omega : (j = 2 ∧ k < 10) ∨ (j = 3 ∧ k < 3) ∨ (j = 4 ∧ k < 6) ∨ (j = 5 ∧ k < 6) ∨ (j = 6 ∧ k < 6) ∨ (j = 7 ∧ k < 6)) with ⟨h, hk⟩ | ⟨h, hk⟩ | ⟨h, hk⟩ | ⟨h, hk⟩ | ⟨h, hk⟩ | ⟨h, hk⟩ <;> subst h
    · rw [r7.i (by omega), r6.i (by omega), r5.i (by omega), r4.i (by omega), r3.i (by omega), s2 k hk, r1.i (by omega)]
    · rw [r7.i (by omega), r6.i (by omega), r5.i (by omega), r4.i (by omega), s3 k hk, r2.i (by omega), r1.i (by omega)]
    · rw [r7.i (by omega), r6.i (by omega), r5.i (by omega), s4 k hk, r3.i (by omega), r2.i (by omega), r1.i (by omega)]
    · rw [r7.i (by omega), r6.i (by omega), s5 k hk, r4.i (by omega), r3.i (by omega), r2.i (by omega), r1.i (by omega)]
    · rw [r7.i (by omega), s6 k hk, r5.i (by omega), r4.i (by omega), r3.i (by omega), r2.i (by omega), r1.i (by omega)]
    · rw [s7 k hk, r6.i (by omega), r5.i (by omega), r4.i (by omega), r3.i (by omega), r2.i (by omega), r1.i (by omega)]
  · rw [r19.i (by omega), r15.i (by omega), R14.i (by omega)]
    show gI (gsC g8 (a + 8) _) (a + 8) k = _
    rw [gI_C, if_pos rfl, pk_cpy_in (by omega) (by omega)]
    show gI (gsI g7 a 9 (nI c)) (b + 8) (0 + (k - 0)) = _
    rw [Nat.zero_add, Nat.sub_zero, gI_ne (by omega), R7.i (by omega)]
  · have f0 : gI g19 (a + j) k = gI g14 (a + j) k := by rw [r19.i (by omega), r15.i (by omega)]
    have f9 : ∀ x, gI g9 (b + j) x = gI g (b + j) x := fun x => R9.i (by omega) x
    rw [f0, ← f9]
    rcases (by omega : (j = 10 ∧ k < 9) ∨ (j = 11 ∧ k < 9) ∨ (j = 12 ∧ k < 9) ∨ (j = 13 ∧ k < 36) ∨ (j = 14 ∧ k < 36)) with ⟨h, hk⟩ | ⟨h, hk⟩ | ⟨h, hk⟩ | ⟨h, hk⟩ | ⟨h, hk⟩ <;> subst h
    · rw [r14.i (by omega), r13.i (by omega), r12.i (by omega), r11.i (by omega), s10 k hk]
    · rw [r14.i (by omega), r13.i (by omega), r12.i (by omega), s11 k hk, r10.i (by omega)]
    · rw [r14.i (by omega), r13.i (by omega), s12 k hk, r11.i (by omega), r10.i (by omega)]
    · rw [r14.i (by omega), s13 k hk, r12.i (by omega), r11.i (by omega), r10.i (by omega)]
    · rw [s14 k hk, r13.i (by omega), r12.i (by omega), r11.i (by omega), r10.i (by omega)]
  · rw [r19.r (by omega), s15 k hk, RA.r (by omega)]
  · show gI (gsI (gsI (gsI (gsI g15 (a + 9) 6 _) _ _ _) _ _ _) _ _ _) (a + 9) 6 = _
    rw [gI_ne (by omega), gI_ne (by omega), gI_ne (by omega), gI_eq, RB.i (by omega)]
  · show gI (gsI (gsI (gsI (gsI g15 (a + 9) 6 _) _ _ _) _ _ _) _ _ _) a 9 = _
    rw [gI_ne (by omega), gI_ne (by omega), gI_ne (by omega), gI_ne (by omega), r15.i (by omega), R14.i (by omega)]
    show gI (gsC g8 (a + 8) _) a 9 = _
    rw [gI_C, if_neg (by omega), x9', h9]
  · show gI (gsI (gsI (gsI g16 _ _ _) _ _ _) _ _ _) a 10 = _
    rw [gI_ne (by omega), gI_ne (by omega), gI_eq]
    show gI (gsI g15 _ _ _) _ _ = _
    rw [gI_ne (by omega), RB.i (by omega)]
  · show gI (gsI (gsI g17 _ _ _) _ _ _) a 11 = _
    rw [gI_ne (by omega), gI_eq]
    show gI (gsI (gsI g15 _ _ _) _ _ _) _ _ = _
    rw [gI_ne (by omega), gI_ne (by omega), RB.i (by omega)]
  · show gI (gsI g18 _ _ _) a 12 = _
    rw [gI_eq]
    show gI (gsI (gsI (gsI g15 _ _ _) _ _ _) _ _ _) _ _ = _
    rw [gI_ne (by omega), gI_ne (by omega), gI_ne (by omega), RB.i (by omega)]
/-- a loom that is a row -/
def LRF (K : GK) (g : GM) (a : Nat) (s : Nat → Int32) : Prop := ∃ c d, LRB K g a s c ∧ STK K g (a + 9) s d atStep ∧ s 8 = gI g a 12 ∧ RT K g (a + 15)
theorem LRF.rt1 (h : LRB K g a s c) : ∀ j, j < 10 → ∀ t, gR g (a + 1) j = some t → gkd K t = 2 := by
  intro j hj t ht
  rcases h.2.2.2.2 j hj with ⟨h1, -⟩ | ⟨t', n, sn, h1, h2, -⟩
  · rw [h1] at ht; cases ht
  · rw [h1] at ht; cases ht; exact h2.1
theorem LRF.cpy (h : LRB K g b s c) (hS : STK K g (b + 9) s d atStep) (h8 : s 8 = gI g b 12) (hr : RT K g (b + 15)) (hc : CPY g b g' a c) (ta : TA K g g') : LRF K g' a s := by
  obtain ⟨c1, c2, c3, c4, c5, c6, c7, c8, c9, c10⟩ := hc
  obtain ⟨l1, l2, ⟨m1, m2, m3, m4⟩, l4, l5⟩ := h
  obtain ⟨s1, s2, s3, s4, s5⟩ := hS
  refine ⟨c, d, ⟨fun j hj => ?_, l2, ⟨m1, c7.trans m2, m3, fun k hk => ?_⟩, ?_, fun k hk => ?_⟩, ⟨c6.trans s1, s2, s3, fun j hj => ?_, fun j hj => ?_⟩, h8.trans c10.symm, fun j hj t ht => hr j hj t (by rw [← c5 j hj]; exact ht)⟩
  · rw [l1 j hj]
    unfold stat at hj
    unfold cm
    split
    · exact (c2 3 j (by omega)).symm
    split
    · have : j = 6 ∨ j = 7 := by omega
      rcases this with h | h <;> subst h
      · exact c8.symm
      · exact c9.symm
    split
    · exact (c2 2 _ (by omega)).symm
    split
    · exact (c2 4 _ (by omega)).symm
    split
    · exact (c2 5 _ (by omega)).symm
    split
    · exact (c2 6 _ (by omega)).symm
    · exact (c2 7 _ (by omega)).symm
  · obtain ⟨v, v6, z1, z2⟩ := m4 k hk
    exact ⟨v, v6, (c3 k hk).trans z1, z2⟩
  · rw [l4]
    unfold sum6
    rw [c2 7 0 (by omega), c2 7 1 (by omega), c2 7 2 (by omega), c2 7 3 (by omega), c2 7 4 (by omega), c2 7 5 (by omega)]
  · rcases l5 k hk with ⟨z1, z2⟩ | ⟨t, n, sn, z1, z2, z3, z4⟩
    · exact Or.inl ⟨(c1 k hk).trans z1, z2⟩
    · exact Or.inr ⟨t, n, sn, (c1 k hk).trans z1, z2.mo ta, z3, z4⟩
  all_goals have MO : ∀ t n sn p m, j < 9 → FR1 K g (b + 9) s j t n sn p m → FR1 K g' (a + 9) s j t n sn p m := fun t n sn p m hj9 hf => hf.mo ta (c5 j hj9) (c4 10 j (by omega)) (c4 11 j (by omega)) (c4 12 j (by omega)) (fun q hq => c4 13 _ (by omega)) (fun q hq => c4 14 _ (by omega)) (fun _ _ => rfl)
  · obtain ⟨t, n, sn, p, m, z1, z2⟩ := s4 j hj
    exact ⟨t, n, sn, p, m, MO _ _ _ _ _ (by omega) z1, z2⟩
  · obtain ⟨t, n, sn, p, m, z1, z2⟩ := s5 j hj
    exact ⟨t, n, sn, p, m, MO _ _ _ _ _ (by omega) z1, z2⟩
/-- a copy is the same row -/
theorem LRF.copy (h : LRF K g b s) (ha : LK K a) (hb : LK K b) (hab : a + 16 ≤ b ∨ b + 16 ≤ a) (hA : SA K a) : ∃ g', f4_copyFrom K g a b = some g' ∧ AG (fun q => a ≤ q ∧ q ≤ a + 15) g g' ∧ LRF K g' a s ∧ LRF K g' b s := by
  obtain ⟨c, d, h1, h2, h3, h4⟩ := h
  obtain ⟨g', e, ag, cp⟩ := copies (g := g) ha hb hab h1.2.2.1.1 h1.2.2.1.2.1 (fun k hk => by obtain ⟨v, v6, z, -⟩ := h1.2.2.1.2.2.2 k hk; exact ⟨v, v6, z⟩) (LRF.rt1 h1) h4
  have ta : TA K g g' := hA.ta ag (fun _ z => z)
  refine ⟨g', e, ag, LRF.cpy h1 h2 h3 h4 cp ta, ?_⟩
  refine LRF.cpy h1 h2 h3 h4 ⟨fun k _ => ag.r (by omega) k, fun j k _ => ag.i (by omega) k, fun k _ => ag.i (by omega) k, fun j k _ => ag.i (by omega) k, fun k _ => ag.r (by omega) k, ag.i (by omega) 6, ag.i (by omega) 9, ag.i (by omega) 10, ag.i (by omega) 11, ag.i (by omega) 12⟩ ta
/-- changes elsewhere -/
theorem LRF.ag {P : Nat → Prop} (h : LRF K g a s) (ag : AG P g g') (ta : TA K g g') (hp : ∀ j, j ≤ 15 → ¬ P (a + j)) : LRF K g' a s := by
  obtain ⟨c, d, h1, h2, h3, h4⟩ := h
  have i : ∀ j, j ≤ 15 → ∀ k, gI g' (a + j) k = gI g (a + j) k := fun j hj k => ag.i (hp j hj) k
  have r : ∀ j, j ≤ 15 → ∀ k, gR g' (a + j) k = gR g (a + j) k := fun j hj k => ag.r (hp j hj) k
  exact LRF.cpy h1 h2 h3 h4 ⟨fun k _ => r 1 (by omega) k, fun j k _ => i j (by omega) k, fun k _ => i 8 (by omega) k, fun j k _ => i j (by omega) k, fun k _ => r 15 (by omega) k, i 9 (by omega) 6, i 0 (by omega) 9, i 0 (by omega) 10, i 0 (by omega) 11, i 0 (by omega) 12⟩ ta
end COPY
