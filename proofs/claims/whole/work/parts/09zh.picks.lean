/-! THE PURE PART, zh: picks -/
section PICKS
variable {K : GK} {g g' : GM} {S : GS} {B : Nat} {C : Nat → Nat} {H : Nat → Bool} {V D : Nat → Nat} {nn : Nat → Nat} {ss : Nat → Nat → Nat} {s1 : Nat → Int32}
/-- what the reference tells -/
theorem re_tell {k : Nat} (hk : k < 10) (hC : CN S V) (w : Int32) : f8_tellsPicks_9 (nI k) w FU S 0 0 = some (S, nI (min (sm (fun e => pwn w e * V (36 * k + e))) 1000000)) := by
  let F : Nat → Nat := fun e => pwn w e * V (36 * k + e)
  have hF : ∀ e, e < 6 → F e ≤ 1000001 := fun e he => by
    have h1 := pwn_le w e
    have h2 := (hC (36 * k + e) (by omega)).2
    show pwn w e * _ ≤ _
    rcases (by omega : pwn w e = 0 ∨ pwn w e = 1) with z | z <;> rw [z]
    · omega
    · omega
  have st : ∀ f acc x, x < 6 → acc < 10000000 → f8_tellsPicks_9 (nI k) w (f + 1) S (nI acc) (nI x) = f8_tellsPicks_9 (nI k) w f S (nI (acc + F x)) (nI (x + 1)) := fun f acc x hx hacc => by
    have hx' : ¬ 6 ≤ x := by omega
    have e7 := (hC (36 * k + x) (by omega)).1
    rw [f8_tellsPicks_9]
    unfold f8_tellsPicks_29 f8_tellsPicks_45
    show _ = f8_tellsPicks_9 (nI k) w f S (nI (acc + pwn w x * V (36 * k + x))) (nI (x + 1))
    unfold pwn
    simp (disch := omega) only [EV, NUM, pu_lit, pu_le, hx', if_false, pu_gok, pu_cl, e7]
    by_cases w6 : w = -nI 6
    · simp only [w6, if_true, Nat.one_mul]
    · simp only [w6, if_false]
      by_cases wx : w = nI x
      · simp only [wx, if_true, Nat.one_mul]
      · simp only [wx, if_false, Nat.zero_mul]
  have f0 := hF 0 (by omega)
  have f1 := hF 1 (by omega)
  have f2 := hF 2 (by omega)
  have f3 := hF 3 (by omega)
  have f4 := hF 4 (by omega)
  have f5 := hF 5 (by omega)
  rw [show f8_tellsPicks_9 (nI k) w FU S 0 0 = f8_tellsPicks_9 (nI k) w ((FU - 7) + 1 + 1 + 1 + 1 + 1 + 1 + 1) S (nI 0) (nI 0) by rw [show (FU - 7) + 1 + 1 + 1 + 1 + 1 + 1 + 1 = FU by unfold FU; omega]; rfl]
  rw [st _ _ 0 (by omega) (by omega), st _ _ 1 (by omega) (by omega), st _ _ 2 (by omega) (by omega), st _ _ 3 (by omega) (by omega), st _ _ 4 (by omega) (by omega), st _ _ 5 (by omega) (by omega), f8_tellsPicks_9, if_pos (show (6 : Int32) ≤ nI (5 + 1) by decide)]
  have e : sm F = 0 + F 0 + F (0 + 1) + F (1 + 1) + F (2 + 1) + F (3 + 1) + F (4 + 1) := by
    show F 0 + F 1 + F 2 + F 3 + F 4 + F 5 = 0 + F 0 + F 1 + F 2 + F 3 + F 4 + F 5
    omega
  show (if nI (0 + F 0 + F (0 + 1) + F (1 + 1) + F (2 + 1) + F (3 + 1) + F (4 + 1)) ≤ 1000000 then _ else _) = some (S, nI (min (sm F) 1000000))
  rw [e]
  by_cases hz : 0 + F 0 + F (0 + 1) + F (1 + 1) + F (2 + 1) + F (3 + 1) + F (4 + 1) ≤ 1000000
  · rw [if_pos (show nI (0 + F 0 + F (0 + 1) + F (1 + 1) + F (2 + 1) + F (3 + 1) + F (4 + 1)) ≤ 1000000 from (nI_leI (b := 1000000) (by omega) (by omega)).mpr hz), show min (0 + F 0 + F (0 + 1) + F (1 + 1) + F (2 + 1) + F (3 + 1) + F (4 + 1)) 1000000 = 0 + F 0 + F (0 + 1) + F (1 + 1) + F (2 + 1) + F (3 + 1) + F (4 + 1) by omega]
  · have bd : 0 + F 0 + F (0 + 1) + F (1 + 1) + F (2 + 1) + F (3 + 1) + F (4 + 1) < 2 ^ 31 := by
      show 0 + F 0 + F 1 + F 2 + F 3 + F 4 + F 5 < 2 ^ 31
      omega
    rw [if_neg (show ¬ nI (0 + F 0 + F (0 + 1) + F (1 + 1) + F (2 + 1) + F (3 + 1) + F (4 + 1)) ≤ 1000000 from fun z => hz ((nI_leI (b := 1000000) bd (by omega)).mp z)), show min (0 + F 0 + F (0 + 1) + F (1 + 1) + F (2 + 1) + F (3 + 1) + F (4 + 1)) 1000000 = 1000000 by omega]
    rfl
/-! the class -/
def UU (g : GM) (q R : Nat) (U : Nat → Nat → Nat) : Prop := ∀ j c, j < 10 → R.testBit j = true → c < 6 → gI g q (j * 6 + c) = nI (U j c) ∧ U j c ≤ 1000000
theorem cl_wc {fa t n k R : Nat} {sn : Nat → Nat} {w : Int32} {U : Nat → Nat → Nat} (h2 : ∀ g', AG (fun q => q = fa + 2) g g' → TX K g' t n sn) (hq : K.1 (fa + 2) = (10, 60)) (hU : UU g (fa + 2) R U) (hk : k < 10) (hkR : R.testBit k = false) (hcl : ∀ x, x + 1 < n → sn x = 107 → sn (x + 1) - 48 < 10 ∧ R.testBit (sn (x + 1) - 48) = true) : ∃ g', f2_weighCard K g fa (some t) (nI k) w = some g' ∧ AG (fun q => q = fa + 2) g g' ∧ UU g' (fa + 2) (R ||| 2 ^ k) (fun j c => if j = k then min (evt sn n (pwn w) U (n + 1) 0 c) 1000000 else U j c) := by
  have L : ∀ r x g1 f, x + r = 6 → AG (fun q => q = fa + 2) g g1 → UU g1 (fa + 2) R U → (∀ c, c < x → gI g1 (fa + 2) (k * 6 + c) = nI (min (evt sn n (pwn w) U (n + 1) 0 c) 1000000)) → ∃ g', f2_weighCard_8 K fa (nI k) w t (r + (f + 1)) g1 (nI x) = some g' ∧ AG (fun q => q = fa + 2) g g' ∧ UU g' (fa + 2) R U ∧ ∀ c, c < 6 → gI g' (fa + 2) (k * 6 + c) = nI (min (evt sn n (pwn w) U (n + 1) 0 c) 1000000) := by
    intro r
    induction r with
    | zero =>
      intro x g1 f hw ag hU1 hx1
      have : x = 6 := by omega
      subst this
      refine ⟨g1, ?_, ag, hU1, hx1⟩
      rw [Nat.zero_add, f2_weighCard_8, if_pos (show (6 : Int32) ≤ nI 6 by decide)]
    | succ r ih =>
      intro x g1 f hw ag hU1 hx1
      have hx : ¬ 6 ≤ x := by omega
      have wt := cw0 (w := w) (c := x) (U := U) (h2 g1 ag) hq (fun y c hy h107 hc => by
        obtain ⟨z1, z2⟩ := hcl y hy h107
        exact hU1 _ c z1 z2 hc) (by omega)
      obtain ⟨g2, e, a1, a2, a3⟩ := ih (x + 1) (gsI g1 (fa + 2) (k * 6 + x) (nI (min (evt sn n (pwn w) U (n + 1) 0 x) 1000000))) f (by omega) (ag.ai rfl) (fun j c hj hR hc => by
        have hne : j ≠ k := fun z => by rw [z, hkR] at hR; cases hR
        rw [gI_ne (fun z => hne (by omega))]
        exact hU1 j c hj hR hc) (fun c hc => by
        by_cases e : c = x
        · rw [e, gI_eq]
        · rw [gI_ne (fun z => e (by omega))]
          exact hx1 c (by omega))
      refine ⟨g2, ?_, a1, a2, a3⟩
      rw [← e, show r + 1 + (f + 1) = (r + (f + 1)) + 1 by omega, f2_weighCard_8]
      rw [if_neg (show ¬ (6 : Int32) ≤ nI x from fun z => hx ((nI_leI (a := 6) (by omega) (by omega)).mp z)), wt]
      simp (disch := omega) only [EV, NUM, pu_lit, pu_gok, pu_cl]
  obtain ⟨g', e, a1, a2, a3⟩ := L 6 0 g (FU - 7) rfl AG.rf hU (fun c hc => absurd hc (Nat.not_lt_zero c))
  rw [show 6 + (FU - 7 + 1) = FU by unfold FU; omega] at e
  refine ⟨g', e, a1, fun j c hj hb hc => ?_⟩
  dsimp only
  by_cases ej : j = k
  · rw [if_pos ej, ej]
    exact ⟨a3 c hc, Nat.min_le_right _ _⟩
  · rw [if_neg ej]
    rw [Nat.testBit_or, Nat.testBit_two_pow, decide_eq_false (fun z => ej z.symm), Bool.or_false] at hb
    exact a2 j c hj hb hc
theorem not_sub {x y : Nat} (hx : x < 1024) (hy : y < 1024) : (nI x &&& (nI y ^^^ (-1)) = 0) ↔ sub x y := by
  have e1 : nI y ^^^ (-1) = ~~~ nI y := by
    apply Int32.toBitVec_inj.mp
    show (nI y).toBitVec ^^^ (-1 : Int32).toBitVec = ~~~ (nI y).toBitVec
    rw [show (-1 : Int32).toBitVec = BitVec.allOnes 32 from rfl, BitVec.xor_allOnes]
  have ex : ∀ (z j : Nat), j < 32 → (nI z).toBitVec.getLsbD j = z.testBit j := fun z j hj => by
    show (BitVec.ofNat 32 z).getLsbD j = _
    rw [BitVec.getLsbD_ofNat]
    simp; omega
  rw [e1]
  constructor
  · intro h j hj hb
    have h2 : (nI x).toBitVec &&& ~~~ (nI y).toBitVec = 0#32 := congrArg Int32.toBitVec h
    have h3 := congrArg (fun v => BitVec.getLsbD v j) h2
    simp only [BitVec.getLsbD_and, BitVec.getLsbD_not, ex x j (by omega), ex y j (by omega), hb] at h3
    cases hH : y.testBit j with
    | true => rfl
    | false =>
      rw [hH] at h3
      simp at h3
      omega
  · intro h
    apply Int32.toBitVec_inj.mp
    show (nI x).toBitVec &&& ~~~ (nI y).toBitVec = 0#32
    apply BitVec.eq_of_getLsbD_eq
    intro j hj
    simp only [BitVec.getLsbD_and, BitVec.getLsbD_not, ex x j hj, ex y j hj]
    by_cases hj10 : j < 10
    · cases hb : x.testBit j with
      | false => simp
      | true => rw [h j hj10 hb]; simp
    · have : x.testBit j = false := Nat.testBit_lt_two_pow (Nat.lt_of_lt_of_le hx (Nat.pow_le_pow_right (by decide : 0 < 2) (show 10 ≤ j by omega)))
      rw [this]
      simp
/-- cards that are ready -/
def RD1 (C : Nat → Nat) (nn : Nat → Nat) (ss : Nat → Nat → Nat) (w : Int32) (A R : Nat) (U : Nat → Nat → Nat) : Prop := R < 1024 ∧ ∀ j, j < 10 → R.testBit j = true → A.testBit j = true ∧ sub (C j) R ∧ ∀ c, c < 6 → U j c = min (evt (ss j) (nn j) (pwn w) U (nn j + 1) 0 c) 1000000
theorem cl_picks {fa la k A : Nat} {w : Int32} {ρ : Nat → Nat} (hG : ∀ j, j < 10 → C j < 1024) (hA : A < 1024) (hcb : ∀ g' : GM, AG (fun q => q = fa + 2) g g' → ∀ k, k < 10 → f2_calledBy K g' la (nI k) = some (nI (C k))) (h13 : K.1 la = (13, 10)) (htx : ∀ j, j < 10 → A.testBit j = true → ∃ t, ∀ g' : GM, AG (fun q => q = fa + 2) g g' → gR g' la j = some t ∧ TX K g' t (nn j) (ss j)) (hcl : ∀ j, j < 10 → A.testBit j = true → ∀ x, x + 1 < nn j → ss j x = 107 → ss j (x + 1) - 48 < 10 ∧ (C j).testBit (ss j (x + 1) - 48) = true) (hq : K.1 (fa + 2) = (10, 60)) (hk : k < 10) (hρ : ∀ j, j < 10 → A.testBit j = true → ρ j ≤ 9 ∧ ∀ i, i < 10 → (C j).testBit i = true → A.testBit i = true ∧ ρ i < ρ j) (hself : ∀ j, j < 10 → A.testBit j = true → (C j).testBit j = false) (hAk : A.testBit k = true) : ∃ g' R U, f2_picksOf_17 K fa la (nI k) w FU g (nI A) 0 0 = some (g', nI (U k 0)) ∧ AG (fun q => q = fa + 2) g g' ∧ RD1 C nn ss w A R U ∧ ∀ j, j < 10 → A.testBit j = true → R.testBit j = true := by
  have e13 : gkn K la = 10 := by unfold gkn; rw [h13]
  have I1 : ∀ r1 x r g1 R U f k17, x + r1 = 10 → r < 10 → AG (fun q => q = fa + 2) g g1 → UU g1 (fa + 2) R U → RD1 C nn ss w A R U → (∀ j, j < 10 → A.testBit j = true → ρ j < r → R.testBit j = true) → (∀ j, j < x → A.testBit j = true → ρ j ≤ r → R.testBit j = true) → ∃ g2 R2 U2, f2_picksOf_27 k17 K fa la (nI k) w (r1 + (f + 1)) g1 (nI A) (nI R) (nI r) (nI x) = k17 g2 (nI A) (nI R2) (nI (r + 1)) ∧ AG (fun q => q = fa + 2) g g2 ∧ UU g2 (fa + 2) R2 U2 ∧ RD1 C nn ss w A R2 U2 ∧ ∀ j, j < 10 → A.testBit j = true → ρ j ≤ r → R2.testBit j = true := by
    intro r1
    induction r1 with
    | zero =>
      intro x r g1 R U f k17 hw hr ag hU hR h1 h2
      have : x = 10 := by omega
      subst this
      refine ⟨g1, R, U, ?_, ag, hU, hR, fun j hj => h2 j hj⟩
      rw [Nat.zero_add, f2_picksOf_27, if_pos (show (10 : Int32) ≤ nI 10 by decide)]
      simp only [EV, NUM, pu_lit]
    | succ r1 ih =>
      intro x r g1 R U f k17 hw hr ag hU hR h1 h2
      have hx : ¬ 10 ≤ x := by omega
      have hhA := pu_holds hA (j := x) (by omega)
      have hhR := pu_holds hR.1 (j := x) (by omega)
      have cb := hcb g1 ag x (by omega)
      have STAY : (∀ hb : A.testBit x = true, ρ x ≤ r → R.testBit x = true) → f2_picksOf_27 k17 K fa la (nI k) w (r1 + 1 + (f + 1)) g1 (nI A) (nI R) (nI r) (nI x) = f2_picksOf_27 k17 K fa la (nI k) w (r1 + (f + 1)) g1 (nI A) (nI R) (nI r) (nI (x + 1)) → ∃ g2 R2 U2, f2_picksOf_27 k17 K fa la (nI k) w (r1 + 1 + (f + 1)) g1 (nI A) (nI R) (nI r) (nI x) = k17 g2 (nI A) (nI R2) (nI (r + 1)) ∧ AG (fun q => q = fa + 2) g g2 ∧ UU g2 (fa + 2) R2 U2 ∧ RD1 C nn ss w A R2 U2 ∧ ∀ j, j < 10 → A.testBit j = true → ρ j ≤ r → R2.testBit j = true := by
        intro hs he
        rw [he]
        refine ih (x + 1) r g1 R U f k17 (by omega) hr ag hU hR h1 (fun j hj hb hr' => ?_)
        by_cases e : j = x
        · subst e; exact hs hb hr'
        · exact h2 j (by omega) hb hr'
      have HD : f2_picksOf_27 k17 K fa la (nI k) w (r1 + 1 + (f + 1)) g1 (nI A) (nI R) (nI r) (nI x) = if A.testBit x = true ∧ R.testBit x = false then f2_picksOf_59 k17 (f2_picksOf_27 k17 K fa la (nI k) w (r1 + (f + 1))) K fa la (nI k) w g1 (nI A) (nI R) (nI r) (nI x) (nI 1) else f2_picksOf_27 k17 K fa la (nI k) w (r1 + (f + 1)) g1 (nI A) (nI R) (nI r) (nI (x + 1)) := by
        rw [show r1 + 1 + (f + 1) = (r1 + (f + 1)) + 1 by omega, f2_picksOf_27]
        unfold f2_picksOf_58
        rw [if_neg (show ¬ (10 : Int32) ≤ nI x from fun z => hx ((nI_leI (a := 10) (by omega) (by omega)).mp z)), hhA]
        simp only [EV, hhR]
        have Z : f2_picksOf_59 k17 (f2_picksOf_27 k17 K fa la (nI k) w (r1 + (f + 1))) K fa la (nI k) w g1 (nI A) (nI R) (nI r) (nI x) 0 = f2_picksOf_27 k17 K fa la (nI k) w (r1 + (f + 1)) g1 (nI A) (nI R) (nI r) (nI (x + 1)) := by
          unfold f2_picksOf_59 f2_picksOf_100
          rw [if_pos rfl]
          simp only [EV, NUM, pu_lit]
        rw [Z]
        cases A.testBit x with
        | false => rfl
        | true =>
          cases R.testBit x with
          | false => rfl
          | true => rfl
      by_cases hdue : A.testBit x = true ∧ R.testBit x = false
      · rw [if_pos hdue] at HD
        unfold f2_picksOf_59 f2_picksOf_100 at HD
        rw [if_neg (show ¬ nI 1 = 0 from z10), cb] at HD
        simp only [EV] at HD
        by_cases hsub : sub (C x) R
        · rw [if_pos ((not_sub (hG x (by omega)) hR.1).mpr hsub)] at HD
          obtain ⟨t, ht⟩ := htx x (by omega) hdue.1
          have hcx := hcl x (by omega) hdue.1
          have hsx := hself x (by omega) hdue.1
          obtain ⟨g2, q1, q2, q3⟩ := cl_wc (K := K) (g := g1) (fa := fa) (t := t) (n := nn x) (sn := ss x) (k := x) (R := R) (w := w) (fun g' ag' => (ht g' (ag.tr ag')).2) hq hU (by omega) hdue.2 (fun y hy h107 => by
            obtain ⟨z1, z2⟩ := hcx y hy h107
            exact ⟨z1, hsub _ z1 z2⟩)
          let U2 : Nat → Nat → Nat := fun j c => if j = x then min (evt (ss x) (nn x) (pwn w) U (nn x + 1) 0 c) 1000000 else U j c
          have bitR : ∀ j, (R ||| 2 ^ x).testBit j = (R.testBit j || decide (x = j)) := fun j => by rw [Nat.testBit_or, Nat.testBit_two_pow]
          have cgU : ∀ j, j < 10 → A.testBit j = true → (C j).testBit x = false → ∀ c, c < 6 → VT (ss j) (nn j) → evt (ss j) (nn j) (pwn w) U2 (nn j + 1) 0 c = evt (ss j) (nn j) (pwn w) U (nn j + 1) 0 c := fun j hj hb hcx' c hc hv => by
            refine evt_cg hv (fun y c' hy h107 hc' => ?_) _ 0 c SP.zero (by omega) hc
            obtain ⟨z1, z2⟩ := hcl j hj hb y hy h107
            exact if_neg (fun z => by rw [z, hcx'] at z2; cases z2)
          have vt : ∀ j, j < 10 → A.testBit j = true → VT (ss j) (nn j) := fun j hj hb => by
            obtain ⟨t', ht'⟩ := htx j hj hb
            exact (ht' g1 ag).2.2.2.2.1
          have R2 : RD1 C nn ss w A (R ||| 2 ^ x) U2 := by
            refine ⟨or_lt hR.1 (pow_lt (by omega)), fun j hj hb => ?_⟩
            have up : sub R (R ||| 2 ^ x) := fun i _ hi => by rw [Nat.testBit_or, hi]; rfl
            by_cases e : j = x
            · subst e
              refine ⟨hdue.1, hsub.tr up, fun c hc => ?_⟩
              rw [cgU j hj hdue.1 hsx c hc (vt j hj hdue.1)]
              exact if_pos rfl
            · have hRj : R.testBit j = true := by
                rw [bitR, decide_eq_false (fun z => e z.symm), Bool.or_false] at hb
                exact hb
              obtain ⟨y1, y2, y3⟩ := hR.2 j hj hRj
              have jx : (C j).testBit x = false := by
                cases hq' : (C j).testBit x with
                | false => rfl
                | true => have := y2 x (by omega) hq'; rw [hdue.2] at this; cases this
              refine ⟨y1, y2.tr up, fun c hc => ?_⟩
              rw [cgU j hj y1 jx c hc (vt j hj y1), ← y3 c hc]
              exact if_neg e
          obtain ⟨g3, R3, U3, i1, i2, i3, i4, i5⟩ := ih (x + 1) r g2 (R ||| 2 ^ x) U2 f k17 (by omega) hr (ag.tr q2) q3 R2 (fun j hj hb hr' => by rw [bitR, h1 j hj hb hr']; rfl) (fun j hj hb hr' => by
            by_cases e : j = x
            · rw [bitR, e, decide_eq_true rfl, Bool.or_true]
            · rw [bitR, h2 j (by omega) hb hr']; rfl)
          refine ⟨g3, R3, U3, ?_, i2, i3, i4, i5⟩
          rw [HD, ← i1]
          have sh := (pu_sh (j := x) (by omega)).1
          simp (disch := omega) only [EV, h13, e13, decide_true, pu_gok, pu_cl, (ht g1 ag).1, q1, NUM, pu_lit, sh, pu_or]
        · rw [if_neg (fun z => hsub ((not_sub (hG x (by omega)) hR.1).mp z))] at HD
          simp only [EV, NUM, pu_lit] at HD
          refine STAY (fun hb hr' => ?_) HD
          exfalso
          apply hsub
          intro i hi hc
          obtain ⟨q1, q2⟩ := (hρ x (by omega) hb).2 i hi hc
          exact h1 i hi q1 (by omega)
      · rw [if_neg hdue] at HD
        refine STAY (fun hb _ => ?_) HD
        cases hz : R.testBit x with
        | true => rfl
        | false => exact absurd ⟨hb, hz⟩ hdue
  have I2 : ∀ r1 r g1 R0 U f, r + r1 = 10 → AG (fun q => q = fa + 2) g g1 → UU g1 (fa + 2) R0 U → RD1 C nn ss w A R0 U → (∀ j, j < 10 → A.testBit j = true → ρ j < r → R0.testBit j = true) → ∃ g' R U, f2_picksOf_17 K fa la (nI k) w (r1 + (f + 1)) g1 (nI A) (nI R0) (nI r) = some (g', nI (U k 0)) ∧ AG (fun q => q = fa + 2) g g' ∧ RD1 C nn ss w A R U ∧ ∀ j, j < 10 → A.testBit j = true → R.testBit j = true := by
    intro r1
    induction r1 with
    | zero =>
      intro r g1 R0 U f hw ag hU hR h1
      have : r = 10 := by omega
      subst this
      have all : ∀ j, j < 10 → A.testBit j = true → R0.testBit j = true := fun j hj hb => h1 j hj hb (by have := (hρ j hj hb).1; omega)
      have e : gI g1 (fa + 2) (k * 6) = nI (U k 0) := (hU k 0 hk (all k hk hAk) (by omega)).1
      refine ⟨g1, R0, U, ?_, ag, hR, all⟩
      rw [Nat.zero_add, f2_picksOf_17, if_pos (show (10 : Int32) ≤ nI 10 by decide)]
      simp (disch := omega) only [EV, NUM, pu_lit, pu_gok, pu_cl]
      rw [e]
    | succ r1 ih =>
      intro r g1 R0 U f hw ag hU hR h1
      have hx : ¬ 10 ≤ r := by omega
      obtain ⟨g2, R2, U2, e, a1, a2, a3, a4⟩ := I1 10 0 r g1 R0 U (FU - 11) (f2_picksOf_17 K fa la (nI k) w (r1 + (f + 1))) rfl (by omega) ag hU hR h1 (fun j hj => absurd hj (Nat.not_lt_zero j))
      rw [show 10 + (FU - 11 + 1) = FU by unfold FU; omega] at e
      obtain ⟨g3, R3, U3, e3, a5, a6, a7⟩ := ih (r + 1) g2 R2 U2 f (by omega) a1 a2 a3 (fun j hj hb hr => a4 j hj hb (by omega))
      refine ⟨g3, R3, U3, ?_, a5, a6, a7⟩
      rw [← e3, show r1 + 1 + (f + 1) = (r1 + (f + 1)) + 1 by omega, f2_picksOf_17, if_neg (show ¬ (10 : Int32) ≤ nI r from fun z => hx ((nI_leI (a := 10) (by omega) (by omega)).mp z))]
      exact e
  obtain ⟨g3, R3, U3, e3, a5, a6, a7⟩ := I2 10 0 g 0 (fun _ _ => 0) (FU - 11) rfl AG.rf (fun j c _ hb => by rw [Nat.zero_testBit] at hb; cases hb) ⟨by omega, fun j _ hb => by rw [Nat.zero_testBit] at hb; cases hb⟩ (fun j hj hb h => absurd h (Nat.not_lt_zero _))
  rw [show 10 + (FU - 11 + 1) = FU by unfold FU; omega] at e3
  exact ⟨g3, R3, U3, e3, a5, a6, a7⟩
set_option maxRecDepth 16384 in
theorem op_picks (hS : SIM K g S B) (x y : Int32) : OPR K B (f7_picks K g B x y) (f8_picks S x y) := by
  obtain ⟨hG, h13⟩ := hS.gv
  have hL := hS.1
  unfold f7_picks f8_picks f8_isCard f8_isColour
  rcases rg x (n := 10) (by omega) (by omega) with ⟨e1, e2⟩ | ⟨k, hk, rfl, e1, e2⟩
  · refine ⟨g, S, -1, ?_, ?_, hS⟩
    · rw [show (10 : Int32) = nI 10 from rfl, e1]; rfl
    · rw [show f8_within x 0 9 = f8_within x (nI 0) (nI (10 - 1)) from rfl, e2]; rfl
  · rw [show (10 : Int32) = nI 10 from rfl, show f8_within (nI k) 0 9 = f8_within (nI k) (nI 0) (nI (10 - 1)) from rfl, e1, e2]
    simp only [EV, if_neg z10, gb1]
    have CORE : OPR K B (f7_picks_29 K B (nI k) y g) (f8_picks_25 (nI k) y S) := by
      unfold f7_picks_29 f8_picks_25
      obtain ⟨r, t1, t2, t3⟩ := trouble_eq hG h13 hk
      rw [show f2_troubleOf K g (B + 11) (nI k) = some r from t1, t2]
      simp only [EV]
      by_cases hr : r = 0
      · rw [if_pos hr, if_pos hr]
        have hA := t3 hr
        have hC : ∀ j, j < 10 → CC g (B + 10) j < 1024 := fun j hj => (hG j hj).1
        obtain ⟨ρ, hρ⟩ := ranks (C := CC g (B + 10)) hk hA
        obtain ⟨nn, ss, hT, hX⟩ := hS.txs
        have hAk : (rch (CC g (B + 10)) k ||| 2 ^ k).testBit k = true := by rw [Nat.testBit_or, Nat.testBit_two_pow_self, Bool.or_true]
        have hAl : rch (CC g (B + 10)) k ||| 2 ^ k < 1024 := or_lt (rch_lt hC hk) (pow_lt hk)
        have hself : ∀ j, j < 10 → (rch (CC g (B + 10)) k ||| 2 ^ k).testBit j = true → (CC g (B + 10) j).testBit j = false := fun j hj hb => by
          cases hq : (CC g (B + 10) j).testBit j with
          | false => rfl
          | true =>
            have := ((hρ j hj hb).2 j hj hq).2
            omega
        obtain ⟨S', D, V, q1, q2, q3, q4⟩ := re_all hC hS.cg hT rfl (fun j hj hb => (hA j hj hb).1) hρ
        have taF : ∀ g', AG (fun q => q = B + 141 + 2) g g' → TA K g g' := fun g' ag => hL.ta ag (fun q hq => by omega)
        obtain ⟨g', R, U, d1, d2, d3, d4⟩ := cl_picks (K := K) (g := g) (fa := B + 141) (la := B + 11) (nn := nn) (ss := ss) (w := y) hC hAl (fun g' ag j hj => hS.cb ag (fun q hq => by omega) j hj) h13 (fun j hj hb => by
          obtain ⟨t, ht1, ht2⟩ := hX j hj (hA j hj hb).1
          exact ⟨t, fun g' ag => ⟨by rw [ag.r (by omega)]; exact ht1, ht2.mo (taF g' ag)⟩⟩) (fun j hj hb => (hT j hj (hA j hj hb).1).2.2.2) (by rw [show B + 141 + 2 = B + 143 from rfl, hL.1 143 (by omega)]; rfl) hk hρ hself hAk
        -- both ways
        have BOTH : ∀ m j, ρ j ≤ m → j < 10 → (rch (CC g (B + 10)) k ||| 2 ^ k).testBit j = true → ∀ c, c < 6 → U j c = min (sm (fun e => pwn y e * V (36 * j + 6 * c + e))) 1000000 := by
          intro m
          induction m with
          | zero =>
            intro j hm hj hb c hc
            obtain ⟨hv, -, -, hcl⟩ := hT j hj (hA j hj hb).1
            obtain ⟨y1, y2, y3⟩ := d3.2 j hj (d4 j hj hb)
            obtain ⟨x1, x2, x3, x4⟩ := q3.2.2.1 j hj (q4 j hj hb)
            rw [y3 c hc, one_card hv (V := V) hc (fun z c' hz h107 hc' => by
              obtain ⟨w1, w2⟩ := hcl z hz h107
              have := ((hρ j hj hb).2 _ w1 w2).2
              omega)]
            congr 1
            exact sm_cg (fun e he => by rw [x4 c e hc he])
          | succ m ih =>
            intro j hm hj hb c hc
            obtain ⟨hv, -, -, hcl⟩ := hT j hj (hA j hj hb).1
            obtain ⟨y1, y2, y3⟩ := d3.2 j hj (d4 j hj hb)
            obtain ⟨x1, x2, x3, x4⟩ := q3.2.2.1 j hj (q4 j hj hb)
            rw [y3 c hc, one_card hv (V := V) hc (fun z c' hz h107 hc' => by
              obtain ⟨w1, w2⟩ := hcl z hz h107
              obtain ⟨w3, w4⟩ := (hρ j hj hb).2 _ w1 w2
              exact ih _ (by omega) w1 w3 c' hc')]
            congr 1
            exact sm_cg (fun e he => by rw [x4 c e hc he])
        have fin := BOTH (ρ k) k (Nat.le_refl _) hk hAk 0 (by omega)
        refine ⟨g', S', nI (U k 0), ?_, ?_, hS.free d2 (fun q hq => by omega) (fun j _ => by rw [q2 0 (by decide) (by decide) (by decide) (by decide)]) (fun y _ => by rw [q2 1 (by decide) (by decide) (by decide) (by decide)]) (fun j j3 j6 => q2 j (by omega) (by omega) (by omega) (by omega))⟩
        · unfold f2_picksOf
          rw [show f2_reachedFrom K g (B + 11) (nI k) = some (nI (rch (CC g (B + 10)) k)) from (reach_eq hG hk).1]
          simp only [EV, pu_lit, (pu_sh hk).1, pu_or]
          rw [show f2_picksOf_17 K (B + 141) (B + 11) (nI k) y FU g (nI (rch (CC g (B + 10)) k ||| 2 ^ k)) (nI 0) (nI 0) = some (g', nI (U k 0)) from d1]
          rfl
        · unfold f8_tellsPicks
          rw [q1]
          simp only [EV]
          rw [re_tell hk q3.1 y, fin]
          rfl
      · rw [if_neg hr, if_neg hr]
        exact ⟨g, S, r, rfl, rfl, hS⟩
    by_cases y6 : y = -6
    · rw [if_pos y6]
      have : f8_within y 0 5 = some 0 := by rw [y6]; rfl
      rw [this]
      simp only [EV]
      rw [show gbl 0 = true from rfl]
      simp only [EV]
      rw [if_pos trivial, if_pos y6]
      exact CORE
    · rw [if_neg y6]
      rcases rg y (n := 6) (by omega) (by omega) with ⟨f1, f2⟩ | ⟨j, hj, hy, f1, f2⟩
      · refine ⟨g, S, -2, ?_, ?_, hS⟩
        · rw [show (6 : Int32) = nI 6 from rfl, f1]; rfl
        · rw [show f8_within y 0 5 = f8_within y (nI 0) (nI (6 - 1)) from rfl, f2]
          simp only [EV, gb0]
          rw [if_pos (show nI 0 = 0 from rfl), if_neg y6]
      · rw [show (6 : Int32) = nI 6 from rfl, show f8_within y 0 5 = f8_within y (nI 0) (nI (6 - 1)) from rfl, f1, f2]
        simp only [EV, gb1, if_neg z10]
        exact CORE
end PICKS
