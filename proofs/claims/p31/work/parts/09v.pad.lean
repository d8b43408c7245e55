/-! THE PURE PART, v: the pad; cards get texts; slots -/
section PADS
variable {K : GK} {g g' : GM} {S S' : GS} {B a b h c d L : Nat} {s s' : Nat → Int32} {sn : Nat → Nat}
/-- the pad changes -/
theorem SIM.pad (hS : SIM K g S B) (ag : AG (fun q => q = B + 1 ∨ q = B + 2) g g') (hP : PAD K g' (B + 1) sn L) (hR : RPAD S' sn L) (h0 : S' 0 3 = S 0 3) (hk : ∀ k, 1 ≤ k → k ≤ 5 → S' k = S k) : SIM K g' S' B := by
  obtain ⟨h1, h2, ⟨n, σ, h3⟩, h4, -⟩ := hS
  have ta := h1.ta ag (fun q hq => by omega)
  exact ⟨h1, by rw [hk 1 (by omega) (by omega)]; exact h2.ag ag ta (fun j hj => by omega), ⟨n, σ, h3.ag ag ta (fun q _ _ => by omega) h0 (hk 3 (by omega) (by omega))⟩, h4.ag h1 ag ta (fun q _ => by omega) (hk 4 (by omega) (by omega)) (hk 5 (by omega) (by omega)), sn, L, hP, hR⟩
theorem op_wipe (hS : SIM K g S B) : OPR K B (f7_wipe K g B) (f8_wipe S) := by
  obtain ⟨sn, L, hP, hR⟩ := hS.2.2.2.2
  obtain ⟨q1, q2, q3, q4⟩ := hP
  refine ⟨gsI g (B + 1) 1 (nI 0), ssI S 0 7 (nI 0), nI L, ?_, ?_, SIM.pad (sn := sn) (L := 0) hS (AG.rf.ai (Or.inl rfl)) ⟨q1, by omega, gI_eq, fun k hk => absurd hk (Nat.not_lt_zero k)⟩ ⟨by omega, by rw [ss_at, if_pos ⟨rfl, rfl⟩], fun k hk => absurd hk (Nat.not_lt_zero k)⟩ (by rw [ss_at, if_neg (by decide)]) (fun k k1 _ => ss_n _ _ _ _ _ (by omega))⟩
  · unfold f7_wipe
    simp only [EV, q3, pu_lit]
  · unfold f8_wipe
    simp only [EV, hR.2.1, pu_lit]
theorem op_fault (hS : SIM K g S B) : OPR K B (f7_fault K g B) (f8_fault S) := by
  obtain ⟨sn, L, hP, hR⟩ := hS.2.2.2.2
  obtain ⟨g', r, e1, f1, ag, -⟩ := faultOf (K := K) (g := g) (a := B + 3) (p0 := B + 1) (by omega) hP
  obtain ⟨u, v, r', e2, f2⟩ := findFault hR
  have : r' = r := flt_u f2 f1
  subst this
  refine ⟨g', rb S u v, r', ?_, ?_, hS.free ag (fun q hq => by omega) (fun j hj => ?_) (fun y hy => ?_) (fun k k3 k6 => ?_)⟩
  · unfold f7_fault
    rw [e1]
    rfl
  · unfold f8_fault
    rw [e2]
    rfl
  · unfold rb
    rw [ss_at, if_neg (by omega), ss_at, if_neg (by omega)]
  · unfold rb
    rw [ss_n _ _ _ _ _ (by decide), ss_n _ _ _ _ _ (by decide)]
  · unfold rb
    rw [ss_n _ _ _ _ _ (by omega), ss_n _ _ _ _ _ (by omega)]
/-- ranges up to a length -/
theorem rgs (x : Int32) {n : Nat} (hn : n < 2 ^ 30) : (f7_inRange x (nI n) = some (nI 0) ∧ f8_within x (nI 0) (nI n - nI 1) = some (nI 0)) ∨ ∃ j, j < n ∧ x = nI j ∧ f7_inRange x (nI n) = some (nI 1) ∧ f8_within x (nI 0) (nI n - nI 1) = some (nI 1) := by
  by_cases h0 : 0 < n
  · rw [pk_sub (by omega)]
    exact rg x h0 (by omega)
  · have : n = 0 := by omega
    subst this
    left
    refine ⟨rg0 x, ?_⟩
    unfold f8_within f8_within_14
    by_cases h : x < nI 0
    · rw [if_pos h]; rfl
    · have : nI 0 - nI 1 < x := by
        have h1 := Int32.not_lt.mp h
        have h2 := Int32.le_iff_toInt_le.mp h1
        rw [nI_toInt (n := 0) (by omega)] at h2
        rw [Int32.lt_iff_toInt_lt, pk_sub_toInt (by omega) (by omega)]
        omega
      rw [if_neg h, if_pos this]; rfl
theorem op_sign (hS : SIM K g S B) (x : Int32) : ∃ r, f7_sign K g B x = some r ∧ f8_sign S x = some r := by
  obtain ⟨sn, L, hP, hR⟩ := hS.2.2.2.2
  obtain ⟨q1, q2, q3, q4⟩ := hP
  unfold f7_sign f8_sign
  rw [q3, hR.2.1]
  rcases rgs x (n := L) (by omega) with ⟨e1, e2⟩ | ⟨j, hj, rfl, e1, e2⟩
  · refine ⟨-1, ?_, ?_⟩
    · rw [e1]; rfl
    · rw [show (nI L - 1) = nI L - nI 1 from rfl, show f8_within x 0 (nI L - nI 1) = f8_within x (nI 0) (nI L - nI 1) from rfl, e2]; rfl
  · refine ⟨nI (sn j), ?_, ?_⟩
    · rw [e1]
      simp (disch := omega) only [EV, if_neg z10, pu_gok, pu_cl]
      rw [show gI g (B + 2) j = nI (sn j) from (q4 j hj).1]
    · rw [show (nI L - 1) = nI L - nI 1 from rfl, show f8_within (nI j) 0 (nI L - nI 1) = f8_within (nI j) (nI 0) (nI L - nI 1) from rfl, e2]
      simp (disch := omega) only [EV, if_neg z10, pu_gok, pu_cl]
      rw [(hR.2.2 j hj).1]
/-- the reference's pad gets a text -/
theorem rl_write {n k : Nat} (hk : k < 10) (h80 : n ≤ 80) : ∀ w x S f, x + w = n → S 0 7 = nI n → ∃ S', f8_write_35 (nI k) (w + (f + 1)) S (nI x) = some (S', nI n) ∧ (∀ j, j ≠ 6 → S' j = S j) ∧ (∀ y, x ≤ y → y < n → S' 6 y = S 1 (53 + 80 * k + y)) ∧ ∀ y, y < x → S' 6 y = S 6 y := by
  intro w
  induction w with
  | zero =>
    intro x S f hw h7
    have : x = n := by omega
    subst this
    refine ⟨S, ?_, fun _ _ => rfl, fun y h1 h2 => absurd h1 (by omega), fun _ _ => rfl⟩
    rw [Nat.zero_add, f8_write_35, h7]
    simp (disch := omega) only [pu_le]
    simp
  | succ w ih =>
    intro x S f hw h7
    have hx : ¬ n ≤ x := by omega
    obtain ⟨S', e, e1, e2, e3⟩ := ih (x + 1) (ssI S 6 x (S 1 (53 + 80 * k + x))) f (by omega) (by rw [ss_n _ _ _ _ _ (by decide)]; exact h7)
    refine ⟨S', ?_, fun j hj => by rw [e1 j hj, ss_n _ _ _ _ _ hj], fun y h1 h2 => ?_, fun y hy => by rw [e3 y (by omega), ss_at, if_neg (by omega)]⟩
    · rw [← e, show w + 1 + (f + 1) = (w + (f + 1)) + 1 by omega, f8_write_35, h7]
      unfold f8_textAt
      simp (disch := omega) only [EV, NUM, pu_lit, pu_le, pu_gok, pu_cl, hx, if_false]
    · by_cases hyx : y = x
      · subst hyx
        rw [e3 y (by omega), ss_at, if_pos ⟨rfl, rfl⟩]
      · rw [e2 y (by omega) h2, ss_n _ _ _ _ _ (by decide)]
theorem gcp0 {n n0 n1 : Nat} (h0 : n ≤ n0) (h1 : n ≤ n1) (hn : n < 2 ^ 31) : gcp 0 0 (nI n) n0 n1 = true := by
  unfold gcp
  have t0 : (0 : Int32).toNatClampNeg = 0 := rfl
  rw [pu_cl hn, t0]
  refine decide_eq_true ⟨by decide, by decide, fun z => ?_, by omega, by omega⟩
  have := (nI_ltI (a := n) (b := 0) hn (by omega)).mp z
  omega
theorem gft0 {f : Nat → Int32} {n : Nat} (hn : n < 2 ^ 31) (h : ∀ k, k < n → ∃ v, v < 128 ∧ f k = nI v) : gft .char f 0 (nI n) = true := by
  unfold gft
  rw [List.all_eq_true]
  intro k hk
  rw [pu_cl hn] at hk
  have hk := List.mem_range.mp hk
  obtain ⟨v, v6, hv⟩ := h k hk
  have e : f ((0 : Int32).toNatClampNeg + k) = nI v := by
    show f (0 + k) = nI v
    rw [Nat.zero_add, hv]
  rw [e]
  exact (pk_charN (by omega)).2
theorem op_write (hS : SIM K g S B) (x : Int32) : OPR K B (f7_write K g B x) (f8_write S x) := by
  have hL := hS.1
  unfold f7_write f8_write f8_isCard f8_hasText
  rcases rg x (n := 10) (by omega) (by omega) with ⟨e1, e2⟩ | ⟨j, hj, rfl, e1, e2⟩
  · refine ⟨g, S, -1, ?_, ?_, hS⟩
    · rw [show (10 : Int32) = nI 10 from rfl, e1]; rfl
    · rw [show f8_within x 0 9 = f8_within x (nI 0) (nI (10 - 1)) from rfl, e2]; rfl
  · rw [show (10 : Int32) = nI 10 from rfl, show f8_within (nI j) 0 9 = f8_within (nI j) (nI 0) (nI (10 - 1)) from rfl, e1, e2]
    simp (disch := omega) only [EV, if_neg z10, gb1, pu_gok, pu_cl, NUM, pu_lit]
    obtain ⟨c, d, hB, -⟩ := hS.2.1
    rcases hB.2.2.2.2 j hj with ⟨t1, t2⟩ | ⟨t, n, sn, t1, t2, t3, t4⟩
    · refine ⟨g, S, -5, ?_, ?_, hS⟩
      · rw [show gR g (B + 11) j = none from t1]; rfl
      · rw [t2]; rfl
    · have np := (vt_pos t2.2.2.2.1).1
      have n80 := t2.2.2.2.1.1
      have nc := t2.2.2.2.1.2.2.2
      have tB := (hL.2.2.2.1 t t2.1).1
      let g1 := gsI g (B + 1) 1 (nI n)
      let g2 := gsC g1 (B + 2) (va_cpy (g1.1 (t + 1)) (g1.1 (B + 2)) 0 0 n)
      have ag : AG (fun q => q = B + 1 ∨ q = B + 2) g g2 := (AG.rf.ai (Or.inl rfl)).ac (Or.inr rfl)
      have x1 : gI g1 (B + 1) 1 = nI n := gI_eq
      have x2 : gI g2 (B + 1) 1 = nI n := by show gI (gsC _ _ _) _ _ = _; rw [gI_C, if_neg (by omega)]; exact x1
      have sg : ∀ k, k < n → gI g1 (t + 1) k = nI (sn k) := fun k hk => by show gI (gsI _ _ _ _) _ _ = _; rw [gI_ne (by omega)]; exact t2.2.2.2.2.1 k hk
      obtain ⟨S2, e3, y1, y2, y3⟩ := rl_write (n := n) hj n80 n 0 (ssI S 0 7 (nI n)) (FU - n - 1) (by omega) (by rw [ss_at, if_pos ⟨rfl, rfl⟩])
      rw [show n + (FU - n - 1 + 1) = FU by unfold FU; omega] at e3
      obtain ⟨sn0, L0, ⟨p1, p2, p3, p4⟩, hR0⟩ := hS.2.2.2.2
      refine ⟨g2, S2, nI n, ?_, ?_, SIM.pad (sn := sn) (L := n) hS ag ⟨p1, n80, x2, fun k hk => ⟨?_, nc k hk⟩⟩ ⟨n80, ?_, fun k hk => ⟨?_, nc k hk⟩⟩ ?_ (fun k k1 k5 => ?_)⟩
      · rw [show gR g (B + 11) j = some t from t1]
        unfold f5_takeOver
        have n80' : ¬ nI 80 < nI n := fun z => by have := (nI_ltI (a := 80) (b := n) (by omega) (by omega)).mp z; omega
        simp (disch := omega) only [EV, t2.1, decide_true, t2.2.2.1, pu_lit, if_neg n80', t2.2.1]
        show (gd (gcp (nI 0) (nI 0) (gI g1 (B + 1) 1) n 80) (gd (gft .char (g1.1 (t + 1)) (nI 0) (gI g1 (B + 1) 1)) (some (gsC g1 (B + 1 + 1) (va_cpy (g1.1 (t + 1)) (g1.1 (B + 1 + 1)) 0 0 (gI g1 (B + 1) 1).toNatClampNeg))))).bind _ = _
        rw [x1, show gcp (nI 0) (nI 0) (nI n) n 80 = gcp 0 0 (nI n) n 80 from rfl, gcp0 (Nat.le_refl _) n80 (by omega), show gft .char (g1.1 (t + 1)) (nI 0) (nI n) = gft .char (g1.1 (t + 1)) 0 (nI n) from rfl, show gft .char (g1.1 (t + 1)) 0 (nI n) = true from gft0 (by omega) (fun k hk => ⟨sn k, nc k hk, sg k hk⟩), pu_cl (by omega)]
        show some (g2, gI g2 (B + 1) 1) = _
        rw [x2]
      · rw [t3]
        have nle : ¬ n ≤ 0 := by omega
        simp (disch := omega) only [pu_le, nle, if_false, EV, pu_gok, pu_cl, pu_eq]
        rw [if_neg (by omega)]
        exact e3
      · show gI (gsC _ (B + 2) _) (B + 2) k = _
        rw [gI_C, if_pos rfl, pk_cpy_in (by omega) (by omega), Nat.zero_add, Nat.sub_zero]
        exact sg k hk
      · rw [y1 0 (by decide), ss_at, if_pos ⟨rfl, rfl⟩]
      · rw [y2 k (Nat.zero_le _) hk, ss_n _ _ _ _ _ (by decide)]
        exact t4 k hk
      · rw [y1 0 (by decide), ss_at, if_neg (by decide)]
      · rw [y1 k (by omega), ss_n _ _ _ _ _ (by omega)]
/-! room is taken -/
theorem gKx_o {n : Nat} {kt : Nat → Nat × Nat} {q : Nat} (h : q < K.2) : (gKx K n kt).1 q = K.1 q := if_pos h
theorem gKx_n {n : Nat} {kt : Nat → Nat × Nat} {i : Nat} (h : i < n) : (gKx K n kt).1 (K.2 + i) = kt i := by
  unfold gKx
  dsimp only
  rw [if_neg (by omega), if_pos (by omega), Nat.add_sub_cancel_left]
theorem gKx_b {n : Nat} {kt : Nat → Nat × Nat} {q : Nat} (h : K.2 + n ≤ q) : (gKx K n kt).1 q = (0, 0) := by
  unfold gKx
  dsimp only
  rw [if_neg (by omega), if_neg (by omega)]
theorem gGx_i {o : Nat} {gi : Nat → Nat → Int32} {gr : Nat → Nat → Option Nat} {q k : Nat} (h : q < o) : gI (gGx g o gi gr) q k = gI g q k := by
  unfold gGx gI
  dsimp only
  rw [if_pos h]
theorem gGx_r {o : Nat} {gi : Nat → Nat → Int32} {gr : Nat → Nat → Option Nat} {q k : Nat} (h : q < o) : gR (gGx g o gi gr) q k = gR g q k := by
  unfold gGx gR
  dsimp only
  rw [if_pos h]
theorem gGx_n {o : Nat} {gi : Nat → Nat → Int32} {gr : Nat → Nat → Option Nat} {i k : Nat} : gI (gGx g o gi gr) (o + i) k = gi i k := by
  unfold gGx gI
  dsimp only
  rw [if_neg (by omega), Nat.add_sub_cancel_left]
/-- a layout that has grown -/
def GRO (K K' : GK) : Prop := ∀ q, q < K.2 → K'.1 q = K.1 q
theorem GRO.kd {K' : GK} (h : GRO K K') {q : Nat} (hq : q < K.2) : gkd K' q = gkd K q ∧ gkn K' q = gkn K q := by unfold gkd gkn; rw [h q hq]; exact ⟨rfl, rfl⟩
theorem LYT.kd (hL : LYT K B) {q : Nat} (h : gkd K q ≠ 0) : q < K.2 := by
  apply Classical.byContradiction
  intro z
  exact h (by unfold gkd; rw [hL.2.2.1 q (by omega)])
/-- alike in the old room -/
def OLD (K : GK) (g g' : GM) : Prop := ∀ q, q < K.2 → g'.1 q = g.1 q ∧ g'.2 q = g.2 q
theorem TX.gro {K' : GK} {t n : Nat} (hL : LYT K B) (hG : GRO K K') (hO : OLD K g g') (h : TX K g t n sn) : TX K' g' t n sn := by
  obtain ⟨h1, h2, h3, h4, h5, h6, h7, h8, h9⟩ := h
  have ht := (hL.2.2.2.1 t h1).2
  have e : ∀ i, i ≤ 5 → gI g' (t + i) = gI g (t + i) := fun i hi => (hO (t + i) (by omega)).1
  have e0 : gI g' t = gI g t := e 0 (by omega)
  obtain ⟨k1, k2⟩ := hG.kd (q := t) (by omega)
  refine ⟨k1.trans h1, k2.trans h2, by rw [e0]; exact h3, h4, by rw [e 1 (by omega)]; exact h5, ?_, by rw [e0]; exact h7, by rw [e0]; exact h8, by rw [e0]; exact h9⟩
  rw [e 2 (by omega), e 3 (by omega), e 4 (by omega), e 5 (by omega)]
  exact h6
theorem FR1.gro {K' : GK} {i t n p m : Nat} (hL : LYT K B) (hG : GRO K K') (hO : OLD K g g') (hb : b + 6 < K.2) (h : FR1 K g b s i t n sn p m) : FR1 K' g' b s i t n sn p m := by
  obtain ⟨h1, h2, h3, h4, h5, h6, h7, h8, h9, h10, h11, h12, h13, h14⟩ := h
  have e : ∀ i, i ≤ 6 → gI g' (b + i) = gI g (b + i) := fun i hi => (hO (b + i) (by omega)).1
  have e6 : gR g' (b + 6) = gR g (b + 6) := (hO (b + 6) (by omega)).2
  refine ⟨by rw [e6]; exact h1, h2.gro hL hG hO, by rw [e 1 (by omega)]; exact h3, by rw [e 2 (by omega)]; exact h4, h5, by rw [e 3 (by omega)]; exact h6, h7, by rw [e 4 (by omega)]; exact h8, h9, h10, by rw [e 5 (by omega)]; exact h11, h12, h13, fun j hj => ?_⟩
  obtain ⟨l, l8, a1, a2, a3, a4, a5⟩ := h14 j hj
  exact ⟨l, l8, by rw [e 4 (by omega)]; exact a1, a2, by rw [e 5 (by omega)]; exact a3, a4, a5⟩
theorem LRF.gro {K' : GK} (hL : LYT K B) (hG : GRO K K') (hO : OLD K g g') (ha : a + 16 ≤ K.2) (h : LRF K g a s) : LRF K' g' a s := by
  obtain ⟨c, d, ⟨l1, l2, ⟨m1, m2, m3, m4⟩, l4, l5⟩, ⟨s1, s2, s3, s4, s5⟩, h3, h4⟩ := h
  have e : ∀ i, i ≤ 15 → gI g' (a + i) = gI g (a + i) := fun i hi => (hO (a + i) (by omega)).1
  have r : ∀ i, i ≤ 15 → gR g' (a + i) = gR g (a + i) := fun i hi => (hO (a + i) (by omega)).2
  have e0 : gI g' a = gI g a := e 0 (by omega)
  refine ⟨c, d, ⟨fun j hj => ?_, l2, ⟨m1, by rw [e0]; exact m2, m3, fun k hk => ?_⟩, by rw [e 7 (by omega)]; exact l4, fun k hk => ?_⟩, ⟨by rw [e 9 (by omega)]; exact s1, s2, s3, fun j hj => ?_, fun j hj => ?_⟩, by rw [e0]; exact h3, fun j hj t ht => ?_⟩
  · have := cm_rg hj
    rw [e _ (by omega)]
    exact l1 j hj
  · rw [e 8 (by omega)]
    exact m4 k hk
  · rcases l5 k hk with ⟨z1, z2⟩ | ⟨t, n, sn, z1, z2, z3, z4⟩
    · exact Or.inl ⟨by rw [r 1 (by omega)]; exact z1, z2⟩
    · exact Or.inr ⟨t, n, sn, by rw [r 1 (by omega)]; exact z1, z2.gro hL hG hO, z3, z4⟩
  · obtain ⟨t, n, sn, p, m, z1, z2⟩ := s4 j hj
    exact ⟨t, n, sn, p, m, z1.gro hL hG hO (by omega), z2⟩
  · obtain ⟨t, n, sn, p, m, z1, z2⟩ := s5 j hj
    exact ⟨t, n, sn, p, m, z1.gro hL hG hO (by omega), z2⟩
  · rw [r 15 (by omega)] at ht
    have := h4 j hj t ht
    have hk := hL.kd (q := t) (by rw [this]; decide)
    rw [(hG.kd hk).1]
    exact this
theorem SIM.gro {K' : GK} (hS : SIM K g S B) (hG : GRO K K') (hO : OLD K g g') (hL' : LYT K' B) : SIM K' g' S B := by
  obtain ⟨h1, h2, ⟨n, σ, a1, a2, a3, a4, a5, a6⟩, ⟨o1, o2⟩, sn, L, h5, h6⟩ := hS
  have hB := h1.2.1
  have e : ∀ q, q < K.2 → gI g' q = gI g q := fun q hq => (hO q hq).1
  have r : ∀ q, q < K.2 → gR g' q = gR g q := fun q hq => (hO q hq).2
  refine ⟨hL', h2.gro h1 hG hO (by omega), ⟨n, σ, a1, by rw [e _ (by omega)]; exact a2, a3, fun j hj => ?_, a5, fun j hj => ?_⟩, ⟨fun i hi => ?_, by rw [r _ (by omega)]; exact o2⟩, sn, L, ?_, h6⟩
  · obtain ⟨z1, z2, z3, z4⟩ := a4 j hj
    exact ⟨by rw [r _ (by omega)]; exact z1, (hG.kd (by omega)).1.trans z2, z3, z4⟩
  · obtain ⟨z1, z2, z3, z4⟩ := a4 j (by omega)
    exact (a6 j hj).gro h1 hG hO (by omega)
  · rcases o1 i hi with ⟨z1, z2⟩ | ⟨a, z1, z2, z3, z4, z5⟩
    · exact Or.inl ⟨by rw [r _ (by omega)]; exact z1, z2⟩
    · have := (h1.2.2.2.2.1 a z2).2
      exact Or.inr ⟨a, by rw [r _ (by omega)]; exact z1, (hG.kd (by omega)).1.trans z2, z3, z4, z5.gro h1 hG hO this⟩
  · obtain ⟨q1, q2, q3, q4⟩ := h5
    exact ⟨(hG.kd (by omega)).1.trans q1, q2, by rw [e _ (by omega)]; exact q3, fun k hk => by rw [e _ (by omega)]; exact q4 k hk⟩
end PADS
