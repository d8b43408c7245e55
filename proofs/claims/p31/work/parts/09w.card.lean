/-! THE PURE PART, w: new objects: saved states and cards -/
section CARDS
variable {K : GK} {g g' : GM} {S S' : GS} {B a b h c d L k n : Nat} {s s' : Nat → Int32} {sn : Nat → Nat}
theorem kt_lm : ∀ i, i < 16 → (ktLm i).1 ≠ 2 ∧ ((ktLm i).1 = 5 → i = 0) := by decide
theorem kt_ct (N : Nat) : ∀ i, i < 6 → (ktCT N i).1 ≠ 5 ∧ ((ktCT N i).1 = 2 → i = 0) := by
  intro i hi
  have h10 : (10 : Nat) ≠ 5 ∧ ((10 : Nat) = 2 → ∀ j : Nat, j = 0) := ⟨by decide, fun z => absurd z (by decide)⟩
  rcases (by omega : i = 0 ∨ i = 1 ∨ i = 2 ∨ i = 3 ∨ i = 4 ∨ i = 5) with h | h | h | h | h | h <;> subst h
  · exact ⟨show (2 : Nat) ≠ 5 by decide, fun _ => rfl⟩
  · exact ⟨show (11 : Nat) ≠ 5 by decide, fun z => absurd (show (11 : Nat) = 2 from z) (by decide)⟩
  · exact ⟨h10.1, fun z => h10.2 z _⟩
  · exact ⟨h10.1, fun z => h10.2 z _⟩
  · exact ⟨h10.1, fun z => h10.2 z _⟩
  · exact ⟨h10.1, fun z => h10.2 z _⟩
theorem gro_gKx {m : Nat} {kt : Nat → Nat × Nat} : GRO K (gKx K m kt) := fun q hq => gKx_o hq
theorem old_gGx {gi : Nat → Nat → Int32} {gr : Nat → Nat → Option Nat} : OLD K g (gGx g K.2 gi gr) := fun q hq => by
  unfold gGx
  dsimp only
  rw [if_pos hq, if_pos hq]
  exact ⟨rfl, rfl⟩
theorem LYT.add (hL : LYT K B) {m : Nat} {kt : Nat → Nat × Nat} (h2 : ∀ i, i < m → (kt i).1 = 2 → i = 0 ∧ 6 ≤ m) (h5 : ∀ i, i < m → (kt i).1 = 5 → i = 0 ∧ 16 ≤ m) (hk : (kt 0).1 = 5 → 0 < m → LK (gKx K m kt) K.2) : LYT (gKx K m kt) B := by
  obtain ⟨a1, a2, a3, a4, a5, a6, a7⟩ := hL
  have hL : LYT K B := ⟨a1, a2, a3, a4, a5, a6, a7⟩
  have hG : GRO K (gKx K m kt) := gro_gKx
  have CS : ∀ q, gkd (gKx K m kt) q ≠ 0 → (q < K.2 ∧ gkd (gKx K m kt) q = gkd K q) ∨ ∃ i, i < m ∧ q = K.2 + i ∧ gkd (gKx K m kt) q = (kt i).1 := by
    intro q hq
    by_cases h1 : q < K.2
    · exact Or.inl ⟨h1, (hG.kd h1).1⟩
    · by_cases h2 : q < K.2 + m
      · refine Or.inr ⟨q - K.2, by omega, by omega, ?_⟩
        unfold gkd
        rw [show q = K.2 + (q - K.2) by omega, gKx_n (by omega), Nat.add_sub_cancel_left]
      · exact absurd (by unfold gkd; rw [gKx_b (by omega)]) hq
  have T2 : ∀ t, gkd (gKx K m kt) t = 2 → (gkd K t = 2 ∧ t + 6 ≤ K.2) ∨ (t = K.2 ∧ 6 ≤ m) := fun t ht => by
    rcases CS t (by rw [ht]; decide) with ⟨z1, z2⟩ | ⟨i, z1, z2, z3⟩
    · have : gkd K t = 2 := by rw [← z2]; exact ht
      exact Or.inl ⟨this, (a4 t this).2⟩
    · obtain ⟨y1, y2⟩ := h2 i z1 (by rw [← z3]; exact ht)
      exact Or.inr ⟨by omega, y2⟩
  have T5 : ∀ t, gkd (gKx K m kt) t = 5 → (gkd K t = 5 ∧ t + 16 ≤ K.2) ∨ (t = K.2 ∧ 16 ≤ m ∧ (kt 0).1 = 5) := fun t ht => by
    rcases CS t (by rw [ht]; decide) with ⟨z1, z2⟩ | ⟨i, z1, z2, z3⟩
    · have : gkd K t = 5 := by rw [← z2]; exact ht
      exact Or.inl ⟨this, (a5 t this).2⟩
    · obtain ⟨y1, y2⟩ := h5 i z1 (by rw [← z3]; exact ht)
      exact Or.inr ⟨by omega, y2, by rw [← y1, ← z3]; exact ht⟩
  have K2 : (gKx K m kt).2 = K.2 + m := rfl
  refine ⟨fun i hi => by rw [hG _ (by omega)]; exact a1 i hi, by omega, fun q hq => gKx_b (by omega), fun t ht => ?_, fun b hb => ?_, fun b t hb ht => ?_, fun b b' hb hb' hne => ?_⟩
  · rcases T2 t ht with ⟨z1, z2⟩ | ⟨z1, z2⟩
    · have := a4 t z1; omega
    · omega
  · rcases T5 b hb with ⟨z1, z2⟩ | ⟨z1, z2, z3⟩
    · obtain ⟨y, y'⟩ := a5 b z1
      refine ⟨?_, by omega⟩
      unfold LK at y ⊢
      rw [hG _ (show b < K.2 by omega), hG _ (show b + 1 < K.2 by omega), hG _ (show b + 2 < K.2 by omega), hG _ (show b + 3 < K.2 by omega), hG _ (show b + 4 < K.2 by omega), hG _ (show b + 5 < K.2 by omega), hG _ (show b + 6 < K.2 by omega), hG _ (show b + 7 < K.2 by omega), hG _ (show b + 8 < K.2 by omega), hG _ (show b + 9 < K.2 by omega), hG _ (show b + 10 < K.2 by omega), hG _ (show b + 11 < K.2 by omega), hG _ (show b + 12 < K.2 by omega), hG _ (show b + 13 < K.2 by omega), hG _ (show b + 14 < K.2 by omega), hG _ (show b + 15 < K.2 by omega)]
      exact y
    · rw [z1]
      exact ⟨hk z3 (by omega), by omega⟩
  · rcases T5 b hb with ⟨z1, z2⟩ | ⟨z1, z2, -⟩
    · rcases T2 t ht with ⟨y1, y2⟩ | ⟨y1, y2⟩
      · exact a6 b t z1 y1
      · omega
    · rcases T2 t ht with ⟨y1, y2⟩ | ⟨y1, y2⟩
      · omega
      · have hm : 0 < m := by omega
        have e1 : gkd (gKx K m kt) (K.2 + 0) = (kt 0).1 := by unfold gkd; rw [gKx_n hm]
        rw [z1] at hb; rw [y1] at ht
        rw [Nat.add_zero] at e1
        omega
  · rcases T5 b hb with ⟨z1, z2⟩ | ⟨z1, z2, -⟩
    · rcases T5 b' hb' with ⟨y1, y2⟩ | ⟨y1, y2, -⟩
      · exact a7 b b' z1 y1 hne
      · omega
    · rcases T5 b' hb' with ⟨y1, y2⟩ | ⟨y1, y2, -⟩
      · omega
      · omega
theorem gsR_self {q j : Nat} {v : Option Nat} (h : gR g q j = v) : gsR g q j v = g := by
  obtain ⟨g1, g2⟩ := g
  unfold gsR
  refine Prod.ext rfl ?_
  funext x y
  show va_up g2 q (va_up (g2 q) j v) x y = g2 x y
  rw [pu_up]
  by_cases hx : x = q
  · subst hx
    rw [if_pos rfl, pu_up]
    by_cases hy : y = j
    · subst hy; rw [if_pos rfl]; exact h.symm
    · rw [if_neg hy]
  · rw [if_neg hx]
/-- a state is put into a slot -/
theorem save33 (hS : SIM K g S B) {j : Nat} (hj : j < 2) (ha : gkd K a = 5) (hab : B + 152 ≤ a) (ho : ∀ i, i < 2 → i ≠ j → gR g (B + 140) i ≠ some a) : ∃ g' c S', f7_save_33 B (nI j) K (gsR g (B + 140) j (some a)) = some (K, g', nI c) ∧ f8_save_12 (nI j) FU S (nI 0) = some (S', nI c) ∧ SIM K g' S' B := by
  obtain ⟨hL, hF, ⟨h, σ, hH⟩, ⟨o1, o2⟩, sn, L, hP, hR⟩ := hS
  let g1 := gsR g (B + 140) j (some a)
  have ag1 : AG (fun q => q = B + 140) g g1 := AG.rf.ar rfl
  have ta1 := hL.ta ag1 (fun q hq => by omega)
  obtain ⟨lk, -⟩ := hL.2.2.2.2.1 a ha
  obtain ⟨g2, e2, ag2, f1, f2⟩ := (hF.ag ag1 ta1 (fun j hj => by omega)).copy (a := a) lk (hL.2.2.2.2.1 _ hL.l1).1 (by omega) (hL.sa ha)
  have ta2 : TA K g1 g2 := (hL.sa ha).ta ag2 (fun _ z => z)
  have agA : AG (fun q => q = B + 140 ∨ (a ≤ q ∧ q ≤ a + 15)) g g2 := (AG.mo ag1 (fun q hq => Or.inl hq)).tr (AG.mo ag2 (fun q hq => Or.inr hq))
  have taA := ta1.tr ta2
  obtain ⟨S1, e3, y1, y2, y3⟩ := rl_save (h := j) hj 2081 0 S (FU - 2081) rfl
  rw [show 2081 + (FU - 2081) = FU by unfold FU; omega] at e3
  obtain ⟨c, c4, c5, c6⟩ := f2.c9
  have k8 : gkd K B = 8 := by unfold gkd; rw [show B = B + 0 from rfl, hL.1 0 (by omega)]; rfl
  have SK : ∀ k, k ≠ 4 → k ≠ 5 → ssI S1 5 j (nI 1) k = S k := fun k k4 k5 => by rw [ss_n _ _ _ _ _ k5, y1 k k4]
  have s4 : ssI S1 5 j (nI 1) 4 = S1 4 := ss_n _ _ _ _ _ (by decide)
  have s5 : ∀ i, ssI S1 5 j (nI 1) 5 i = if i = j then nI 1 else S 5 i := fun i => by
    rw [ss_at]
    by_cases hi : i = j
    · rw [if_pos ⟨rfl, hi⟩, if_pos hi]
    · rw [if_neg (fun z => hi z.2), if_neg hi, y1 5 (by decide)]
  have gr : ∀ i, gR g2 (B + 140) i = if i = j then some a else gR g (B + 140) i := fun i => by
    rw [ag2.r (by omega)]
    show gR (gsR g _ _ _) _ _ = _
    rw [gR_R]
    by_cases hi : i = j
    · rw [if_pos ⟨rfl, hi⟩, if_pos hi]
    · rw [if_neg (fun z => hi z.2), if_neg hi]
  refine ⟨g2, c, ssI S1 5 j (nI 1), ?_, ?_, hL, ?_, ⟨h, σ, hH.ag agA taA (fun q _ _ => by omega) (by rw [SK 0 (by decide) (by decide)]) (SK 3 (by decide) (by decide))⟩, ⟨fun i hi => ?_, fun b hb => ?_⟩, sn, L, ?_, ?_⟩
  · unfold f7_save_33
    have r1 : gR g1 (B + 140) j = some a := by show gR (gsR g _ _ _) _ _ = _; rw [gR_R, if_pos ⟨rfl, rfl⟩]
    simp (disch := omega) only [EV, k8, decide_true, pu_gok, pu_cl]
    show gopt (gR g1 (B + 140) j) none _ = _
    rw [r1]
    simp (disch := omega) only [EV, ha, decide_true]
    rw [show f4_copyFrom K (gsR g (B + 140) j (some a)) a (B + 10) = some g2 from e2]
    simp only [EV]
    rw [c5]
  · rw [e3, show FU - 2081 = (FU - 2082) + 1 by unfold FU; omega, f8_save_12]
    have x1 : ssI S1 5 j (nI 1) 1 4 = nI c := by rw [SK 1 (by decide) (by decide)]; exact c6
    simp (disch := omega) only [EV, pu_lit, pu_le, pu_gok, pu_cl, x1]
    simp
  · rw [SK 1 (by decide) (by decide)]
    exact f2
  · rw [gr, s5, s4]
    by_cases hi' : i = j
    · subst hi'
      rw [if_pos rfl, if_pos rfl]
      refine Or.inr ⟨a, rfl, ha, hab, rfl, f1.row (fun y hy => ?_)⟩
      have := y2 y (Nat.zero_le _) hy
      rwa [Nat.zero_add] at this
    · rw [if_neg hi', if_neg hi']
      rcases o1 i hi with z | ⟨b, z1, z2, z3, z4, z5⟩
      · exact Or.inl z
      · have hne : b ≠ a := fun z => ho i hi hi' (by rw [z1, z])
        have := hL.2.2.2.2.2.2 b a z2 ha hne
        refine Or.inr ⟨b, z1, z2, z3, z4, (z5.ag agA taA (fun q hq => by omega)).row (fun y hy => ?_)⟩
        refine y3 _ ?_
        rcases (by omega : (i = 0 ∧ j = 1) ∨ (i = 1 ∧ j = 0)) with ⟨z1, z2⟩ | ⟨z1, z2⟩ <;> subst z1 <;> subst z2 <;> omega
  · rw [gr] at hb ⊢
    rcases (by omega : j = 0 ∨ j = 1) with z | z <;> subst z
    · rw [if_pos rfl] at hb
      rw [if_neg (by decide)]
      cases hb
      exact ho 1 (by omega) (by omega)
    · rw [if_neg (by decide)] at hb
      rw [if_pos rfl]
      intro z
      cases z
      exact ho 0 (by omega) (by omega) hb
  · obtain ⟨q1, q2, q3, q4⟩ := hP
    exact ⟨q1, q2, by rw [agA.i (by omega)]; exact q3, fun k hk => by rw [agA.i (by omega)]; exact q4 k hk⟩
  · obtain ⟨q1, q2, q3⟩ := hR
    exact ⟨q1, by rw [SK 0 (by decide) (by decide)]; exact q2, by rw [SK 6 (by decide) (by decide)]; exact q3⟩
def OPK (B : Nat) (X : Option (GK × GM × Int32)) (Y : Option (GS × Int32)) : Prop := ∃ K' g' S' r, X = some (K', g', r) ∧ Y = some (S', r) ∧ SIM K' g' S' B
theorem op_save (hS : SIM K g S B) (x : Int32) : OPK B (f7_save K g B x) (f8_save S x) := by
  have hL := hS.1
  have k8 : gkd K B = 8 := by unfold gkd; rw [show B = B + 0 from rfl, hL.1 0 (by omega)]; rfl
  unfold f7_save f8_save f8_isSlot
  rcases rg x (n := 2) (by omega) (by omega) with ⟨e1, e2⟩ | ⟨j, hj, rfl, e1, e2⟩
  · refine ⟨K, g, S, -2, ?_, ?_, hS⟩
    · rw [show (2 : Int32) = nI 2 from rfl, e1]; rfl
    · rw [show f8_within x 0 1 = f8_within x (nI 0) (nI (2 - 1)) from rfl, e2]; rfl
  · rw [show (2 : Int32) = nI 2 from rfl, show f8_within (nI j) 0 1 = f8_within (nI j) (nI 0) (nI (2 - 1)) from rfl, e1, e2]
    simp (disch := omega) only [EV, if_neg z10, gb1, pu_gok, pu_cl]
    rcases hS.2.2.2.1.1 j hj with ⟨t1, t2⟩ | ⟨a, t1, t2, t3, t4, t5⟩
    · -- a new loom
      have hk : (gKx K 16 ktLm).1 (K.2 + 0) = ktLm 0 := gKx_n (by omega)
      have LKn : LK (gKx K 16 ktLm) K.2 := by
        unfold LK
        rw [gKx_n (K := K) (i := 1) (by omega), gKx_n (K := K) (i := 2) (by omega), gKx_n (K := K) (i := 3) (by omega), gKx_n (K := K) (i := 4) (by omega), gKx_n (K := K) (i := 5) (by omega), gKx_n (K := K) (i := 6) (by omega), gKx_n (K := K) (i := 7) (by omega), gKx_n (K := K) (i := 8) (by omega), gKx_n (K := K) (i := 9) (by omega), gKx_n (K := K) (i := 10) (by omega), gKx_n (K := K) (i := 11) (by omega), gKx_n (K := K) (i := 12) (by omega), gKx_n (K := K) (i := 13) (by omega), gKx_n (K := K) (i := 14) (by omega), gKx_n (K := K) (i := 15) (by omega)]
        exact ⟨hk, rfl, rfl, rfl, rfl, rfl, rfl, rfl, rfl, rfl, rfl, rfl, rfl, rfl, rfl, rfl⟩
      have hL' : LYT (gKx K 16 ktLm) B := hL.add (fun i hi h2 => absurd h2 (kt_lm i hi).1) (fun i hi h5 => ⟨(kt_lm i hi).2 h5, by omega⟩) (fun _ _ => LKn)
      have hS' : SIM (gKx K 16 ktLm) (gGx g K.2 giLm (fun _ _ => none)) S B := hS.gro gro_gKx old_gGx hL'
      have kn : gkd (gKx K 16 ktLm) K.2 = 5 := by unfold gkd; rw [show K.2 = K.2 + 0 from rfl, hk]; rfl
      have k8' : gkd (gKx K 16 ktLm) B = 8 := ((gro_gKx (K := K)).kd (by have := hL.2.1; omega)).1.trans k8
      obtain ⟨g', c, S', q1, q2, q3⟩ := save33 hS' hj kn hL.2.1 (fun i hi hij z => by
        rw [gGx_r (by have := hL.2.1; omega)] at z
        rcases hS.2.2.2.1.1 i hi with ⟨y1, -⟩ | ⟨b, y1, y2, -⟩
        · rw [y1] at z; cases z
        · rw [y1] at z
          cases z
          have := hL.kd (q := K.2) (by rw [y2]; decide)
          omega)
      refine ⟨gKx K 16 ktLm, g', S', nI c, ?_, q2, q3⟩
      rw [t1]
      unfold fnLm
      simp (disch := omega) only [EV, pu_gl, k8', kn, decide_true]
      exact q1
    · obtain ⟨g', c, S', q1, q2, q3⟩ := save33 hS hj t2 t3 (fun i hi hij z => by
        rcases (by omega : (i = 0 ∧ j = 1) ∨ (i = 1 ∧ j = 0)) with ⟨z1, z2⟩ | ⟨z1, z2⟩ <;> subst z1 <;> subst z2
        · exact hS.2.2.2.1.2 a z t1
        · exact hS.2.2.2.1.2 a t1 z)
      rw [gsR_self t1] at q1
      refine ⟨K, g', S', nI c, ?_, q2, q3⟩
      rw [t1]
      exact q1
/-! a card gets the text of the pad -/
theorem ARR.mo {p : Nat} {T D I Bh T' D' I' Bh' : Nat → Int32} (h : ARR sn p T D I Bh) (h9 : cc sn p ≠ 9) (eT : ∀ k, k < p → T' k = T k) (eD : ∀ k, k < p → D' k = D k) (eI : ∀ k, k < p → I' k = I k) (eB : ∀ k, k < p → Bh' k = Bh k) : ARR sn p T' D' I' Bh' := by
  refine ⟨fun k hk => ?_, fun r hr h41 e st hks => ?_⟩
  · obtain ⟨a1, a2, a3, a4⟩ := h.1 k hk
    refine ⟨?_, ?_, ?_, ?_⟩
    · rw [eD k hk, eB k hk]; exact a1
    · rw [eT k hk, eB k hk]; exact a2
    · rw [eT k hk, eI k hk]; exact a3
    · rw [eT k hk, eI k hk]; exact a4
  · have := ((au h9).2.2.2.2.1 r hr h41 e st hks).1
    rw [eB e (by omega)]
    exact h.2 r hr h41 e st hks
/-- steps of a text -/
theorem re_steps (hk : k < 10) (h43 : s (43 + k) = nI n) (h80 : n ≤ 80) (hs : ∀ x, x < n → s (53 + 80 * k + x) = nI (sn x)) (hc : ∀ x, x < n → sn x < 128) : f8_steps (rw1 S s) (nI k) = some (nI (stN sn n)) := by
  have L : ∀ w x f, x + w = n → f8_steps_4 (rw1 S s) (nI k) (w + (f + 1)) (nI (stN sn x)) (nI x) = some (nI (stN sn n)) := by
    intro w
    induction w with
    | zero =>
      intro x f hw
      have : x = n := by omega
      subst this
      rw [Nat.zero_add, f8_steps_4]
      simp (disch := omega) only [EV, NUM, pu_lit, pu_gok, pu_cl, rw1_1, h43, pu_le]
      simp
    | succ w ih =>
      intro x f hw
      have hx : ¬ n ≤ x := by omega
      have hsx := hs x (by omega)
      have hcx := hc x (by omega)
      have hst := stN_le sn x
      rw [← ih (x + 1) f (by omega), show w + 1 + (f + 1) = (w + (f + 1)) + 1 by omega, f8_steps_4]
      unfold f8_textAt f8_isLetter f8_within f8_within_14 f8_steps_35
      have e : stN sn (x + 1) = stN sn x + (if 97 ≤ sn x ∧ sn x ≤ 122 then 1 else 0) := rfl
      rw [e]
      simp (disch := omega) only [EV, NUM, pu_lit, pu_gok, pu_cl, rw1_1, h43, pu_le, hx, if_false, hsx, pu_lt]
      by_cases c1 : sn x < 97
      · rw [show (if 97 ≤ sn x ∧ sn x ≤ 122 then 1 else 0) = 0 from if_neg (fun z => by omega)]
        simp (disch := omega) [EV, NUM, pu_eq, c1, gb0]
      · by_cases c2 : 122 < sn x
        · rw [show (if 97 ≤ sn x ∧ sn x ≤ 122 then 1 else 0) = 0 from if_neg (fun z => by omega)]
          simp (disch := omega) [EV, NUM, pu_eq, c1, c2, gb0]
        · rw [show (if 97 ≤ sn x ∧ sn x ≤ 122 then 1 else 0) = 1 from if_pos ⟨by omega, by omega⟩]
          simp (disch := omega) [EV, NUM, pu_eq, c1, c2, gb1]
  unfold f8_steps
  have := L n 0 (FU - n - 1) (by omega)
  rwa [show n + (FU - n - 1 + 1) = FU by unfold FU; omega] at this
theorem rl_card (hk : k < 10) (h80 : n ≤ 80) : ∀ w x S f, x + w = n → S 0 7 = nI n → ∃ S', f8_card_40 (nI k) (w + f) S (nI x) = f8_card_40 (nI k) f S' (nI n) ∧ (∀ j, j ≠ 1 → S' j = S j) ∧ (∀ y, x ≤ y → y < n → S' 1 (53 + 80 * k + y) = S 6 y) ∧ ∀ z, z < 53 + 80 * k + x ∨ 53 + 80 * k + n ≤ z → S' 1 z = S 1 z := by
  intro w
  induction w with
  | zero =>
    intro x S f hw h7
    have : x = n := by omega
    subst this
    exact ⟨S, by rw [Nat.zero_add], fun _ _ => rfl, fun y h1 h2 => absurd h1 (by omega), fun _ _ => rfl⟩
  | succ w ih =>
    intro x S f hw h7
    have hx : ¬ n ≤ x := by omega
    obtain ⟨S', e, e1, e2, e3⟩ := ih (x + 1) (ssI S 1 (53 + 80 * k + x) (S 6 x)) f (by omega) (by rw [ss_n _ _ _ _ _ (by decide)]; exact h7)
    refine ⟨S', ?_, fun j hj => by rw [e1 j hj, ss_n _ _ _ _ _ hj], fun y h1 h2 => ?_, fun z hz => by rw [e3 z (by omega), ss_at, if_neg (by omega)]⟩
    · rw [← e, show w + 1 + f = (w + f) + 1 by omega, f8_card_40, h7]
      simp (disch := omega) only [EV, NUM, pu_lit, pu_le, pu_gok, pu_cl, hx, if_false]
    · by_cases hyx : y = x
      · subst hyx
        rw [e3 _ (by omega), ss_at, if_pos ⟨rfl, rfl⟩]
      · rw [e2 y (by omega) h2, ss_n _ _ _ _ _ (by decide)]
theorem op_card (hS : SIM K g S B) (x : Int32) : OPK B (f7_card K g B x) (f8_card S x) := by
  have hL := hS.1
  have hB := hL.2.1
  have k8 : gkd K B = 8 := by unfold gkd; rw [show B = B + 0 from rfl, hL.1 0 (by omega)]; rfl
  have k7 : gkd K (B + 3) = 7 := by unfold gkd; rw [hL.1 3 (by omega)]; rfl
  unfold f7_card f8_card f8_isCard
  rcases rg x (n := 10) (by omega) (by omega) with ⟨e1, e2⟩ | ⟨j, hj, rfl, e1, e2⟩
  · refine ⟨K, g, S, -1, ?_, ?_, hS⟩
    · rw [show (10 : Int32) = nI 10 from rfl, e1]; rfl
    · rw [show f8_within x 0 9 = f8_within x (nI 0) (nI (10 - 1)) from rfl, e2]; rfl
  · rw [show (10 : Int32) = nI 10 from rfl, show f8_within (nI j) 0 9 = f8_within (nI j) (nI 0) (nI (10 - 1)) from rfl, e1, e2]
    simp (disch := omega) only [EV, if_neg z10, gb1, pu_gok, pu_cl]
    obtain ⟨sn, L, hP, hR⟩ := hS.2.2.2.2
    have l80 := hR.1
    obtain ⟨g0, r, f1, ff, ag0, fin⟩ := faultOf (K := K) (g := g) (a := B + 3) (p0 := B + 1) (by omega) hP
    obtain ⟨u, v, r', f2, ff2⟩ := findFault hR
    have : r' = r := flt_u ff2 ff
    subst this
    rw [f1, f2]
    simp only [EV]
    have S0 : SIM K g0 (rb S u v) B := hS.free ag0 (fun q hq => by omega) (fun i hi => by unfold rb; rw [ss_at, if_neg (by omega), ss_at, if_neg (by omega)]) (fun y hy => by unfold rb; rw [ss_n _ _ _ _ _ (by decide), ss_n _ _ _ _ _ (by decide)]) (fun k k3 k6 => by unfold rb; rw [ss_n _ _ _ _ _ (by omega), ss_n _ _ _ _ _ (by omega)])
    by_cases hr : r' = -6
    · rw [if_pos hr, if_pos hr]
      obtain ⟨⟨rx, r5, rs⟩, vc, h9⟩ := fin (by rw [hr]; rfl)
      have hv : VT sn L := ⟨l80, vc.2, vc.1, fun k hk => (hR.2.2 k hk).2⟩
      obtain ⟨g1, S1, k1, k2, k3, k4, k5, k6, k0⟩ := S0.keep
      have u1 : ∀ q, q ≤ B + 41 → gI g1 q = gI g0 q := fun q hq => funext fun k => k4.i (by omega) k
      obtain ⟨x1, x2, x3, x4, x5, x6, x7, x8⟩ := rx
      have w5 : gI g1 (B + 3) 5 = nI L := by rw [u1 _ (by omega)]; exact r5
      have ws : ∀ k, k < L → gI g1 (B + 4) k = nI (sn k) := fun k hk => by rw [u1 _ (by omega)]; exact rs k hk
      let K' := gKx K 6 (ktCT L)
      let g2 := gGx g1 K.2 (giCT g1 (B + 3)) (fun _ _ => none)
      have F : fnCT K g1 (B + 3) = some (K', g2) := by
        unfold fnCT
        rw [k7, w5, pu_gok (by omega) (by omega), show gft .char (g1.1 (B + 3 + 1)) 0 (nI L) = true from gft0 (by omega) (fun k hk => ⟨sn k, (hR.2.2 k hk).2, ws k hk⟩), pu_cl (by omega)]
        rfl
      have hL' : LYT K' B := hL.add (fun i hi h2 => ⟨(kt_ct L i hi).2 h2, by omega⟩) (fun i hi h5 => absurd h5 (kt_ct L i hi).1) (fun h5 _ => absurd (show (2 : Nat) = 5 from h5) (by decide))
      have S2 : SIM K' g2 S1 B := k3.gro gro_gKx old_gGx hL'
      have kt2 : gkd K' K.2 = 2 ∧ gkn K' K.2 = L := by
        have : K'.1 (K.2 + 0) = ktCT L 0 := gKx_n (by omega)
        unfold gkd gkn
        rw [show K.2 = K.2 + 0 from rfl, this]
        exact ⟨rfl, rfl⟩
      have k8' : gkd K' B = 8 := ((gro_gKx (K := K) (m := 6) (kt := ktCT L)).kd (by omega)).1.trans k8
      have gn : ∀ i k, gI g2 (K.2 + i) k = giCT g1 (B + 3) i k := fun i k => gGx_n
      have cpy : ∀ (f : Nat → Int32) k, k < L → va_cpy f (fun _ => 0) 0 0 (gI g1 (B + 3) 5).toNatClampNeg k = f k := fun f k hk => by
        rw [w5, pu_cl (by omega), pk_cpy_in (by omega) (by omega), Nat.zero_add, Nat.sub_zero]
      have TXn : TX K' g2 K.2 L sn := by
        refine ⟨kt2.1, kt2.2, ?_, hv, fun k hk => ?_, ?_, ?_, ?_, ?_⟩
        · rw [show K.2 = K.2 + 0 from rfl, gn]; exact w5
        · rw [gn]
          show va_cpy (g1.1 (B + 3 + 1)) (fun _ => 0) 0 0 _ k = _
          rw [cpy _ k hk]; exact ws k hk
        · refine ARR.mo x7 h9 (fun k hk => ?_) (fun k hk => ?_) (fun k hk => ?_) (fun k hk => ?_) <;> rw [gn]
          · show va_cpy (g1.1 (B + 3 + 2)) (fun _ => 0) 0 0 _ k = _
            rw [cpy _ k hk]; exact congrFun (u1 (B + 5) (by omega)) k
          · show va_cpy (g1.1 (B + 3 + 3)) (fun _ => 0) 0 0 _ k = _
            rw [cpy _ k hk]; exact congrFun (u1 (B + 6) (by omega)) k
          · show va_cpy (g1.1 (B + 3 + 4)) (fun _ => 0) 0 0 _ k = _
            rw [cpy _ k hk]; exact congrFun (u1 (B + 7) (by omega)) k
          · show va_cpy (g1.1 (B + 3 + 5)) (fun _ => 0) 0 0 _ k = _
            rw [cpy _ k hk]; exact congrFun (u1 (B + 8) (by omega)) k
        · rw [show K.2 = K.2 + 0 from rfl, gn]; show gI g1 (B + 3) 6 = _; rw [u1 _ (by omega)]; exact x1
        · rw [show K.2 = K.2 + 0 from rfl, gn]; show gI g1 (B + 3) 7 = _; rw [u1 _ (by omega)]; exact x2
        · rw [show K.2 = K.2 + 0 from rfl, gn]; show gI g1 (B + 3) 8 = _; rw [u1 _ (by omega)]; exact x3
      -- the row
      have h7 : S1 0 7 = nI L := by rw [k0 7 (by decide), rb_7]; exact hR.2.1
      have h6 : ∀ y, y < L → S1 6 y = nI (sn y) := fun y hy => by rw [k6, rb_6]; exact (hR.2.2 y hy).1
      let S1' := ssI S1 1 (43 + j) (nI L)
      obtain ⟨S2', e3, y1, y2, y3⟩ := rl_card (n := L) hj l80 L 0 S1' (FU - L) (by omega) (by show ssI S1 _ _ _ _ _ = _; rw [ss_n _ _ _ _ _ (by decide)]; exact h7)
      rw [show L + (FU - L) = FU by unfold FU; omega] at e3
      have sL : S2' 1 (43 + j) = nI L := by
        rw [y3 _ (by omega)]
        show ssI S1 1 _ _ 1 _ = _
        rw [ss_at, if_pos ⟨rfl, rfl⟩]
      have sT : ∀ y, y < L → S2' 1 (53 + 80 * j + y) = nI (sn y) := fun y hy => by
        rw [y2 y (Nat.zero_le _) hy]
        show ssI S1 1 _ _ 6 _ = _
        rw [ss_n _ _ _ _ _ (by decide)]
        exact h6 y hy
      have sO : ∀ z, z ≠ 43 + j → (z < 53 + 80 * j ∨ 53 + 80 * j + L ≤ z) → S2' 1 z = S1 1 z := fun z z1 z2 => by
        rw [y3 z (by omega)]
        show ssI S1 1 _ _ 1 z = _
        rw [ss_at, if_neg (fun q => z1 q.2)]
      have hA := hL'.sa hL'.l1
      let g3 := gsR g2 (B + 11) j (some K.2)
      have ag3 : AG (fun q => q = B + 11) g2 g3 := AG.rf.ar rfl
      have ta3 : TA K' g2 g3 := hL'.ta ag3 (fun q hq => by omega)
      have F3 : LRF K' g3 (B + 10) (S2' 1) := by
        obtain ⟨c, d, ⟨b1, ⟨w, w9, b2⟩, b3, b4, b5⟩, ⟨s1, s2, s3, s4, s5⟩, h8, h9'⟩ := S2.2.1
        have gi : ∀ q k, gI g3 q k = gI g2 q k := fun _ _ => rfl
        have fr : ∀ t n sn p m i, i < 9 → FR1 K' g2 (B + 10 + 9) (S1 1) i t n sn p m → FR1 K' g3 (B + 10 + 9) (S2' 1) i t n sn p m := fun t n sn p m i hi hf => hf.mo ta3 (ag3.r (by omega) _) rfl rfl rfl (fun _ _ => rfl) (fun _ _ => rfl) (fun k hk => sO _ (by show 1253 + 92 * i + k ≠ 43 + j; omega) (by right; show 53 + 80 * j + L ≤ 1253 + 92 * i + k; omega))
        refine ⟨c, d, ⟨b1.mo (fun _ _ _ => rfl) (fun y z1 _ _ => sO y (by omega) (by omega)), ⟨w, w9, by rw [sO 0 (by omega) (by omega)]; exact b2⟩, b3.mo (fun _ _ _ => rfl) (sO 4 (by omega) (by omega)) (fun y z1 z2 => sO y (by omega) (by omega)), by rw [sO 5 (by omega) (by omega)]; exact b4, fun k hk => ?_⟩, ⟨s1, by rw [sO 3 (by omega) (by omega)]; exact s2, s3, fun i hi => ?_, fun i hi => ?_⟩, by rw [sO 8 (by omega) (by omega)]; exact h8, h9'.mo (fun q => ag3.r (by omega) q)⟩
        · by_cases hkj : k = j
          · subst hkj
            refine Or.inr ⟨K.2, L, sn, ?_, TXn.mo ta3, sL, sT⟩
            show gR (gsR g2 (B + 11) k _) (B + 11) k = _
            rw [gR_R, if_pos ⟨rfl, rfl⟩]
          · have rr : gR g3 (B + 10 + 1) k = gR g2 (B + 10 + 1) k := by
              show gR (gsR g2 (B + 11) j _) (B + 11) k = _
              rw [gR_R, if_neg (fun z => hkj z.2)]
            rcases b5 k hk with ⟨z1, z2⟩ | ⟨t, n, sn', z1, z2, z3, z4⟩
            · exact Or.inl ⟨rr.trans z1, by rw [sO _ (by omega) (by omega)]; exact z2⟩
            · have n80 := z2.2.2.2.1.1
              refine Or.inr ⟨t, n, sn', rr.trans z1, z2.mo ta3, by rw [sO _ (by omega) (by omega)]; exact z3, fun y hy => ?_⟩
              rw [sO _ (by omega) ?_]
              · exact z4 y hy
              · rcases Nat.lt_or_ge k j with q | q
                · left; have : 80 * k + 80 ≤ 80 * j := by omega
                  omega
                · right; have : 80 * j + 80 ≤ 80 * k := by omega
                  omega
        · obtain ⟨t, n, sn, p, m, z1, z2⟩ := s4 i hi
          exact ⟨t, n, sn, p, m, fr _ _ _ _ _ i (by omega) z1, z2⟩
        · obtain ⟨t, n, sn, p, m, z1, z2⟩ := s5 i hi
          exact ⟨t, n, sn, p, m, fr _ _ _ _ _ i (by omega) z1, z2⟩
      have S3 : SIM K' g3 (rw1 S1 (S2' 1)) B := SIM.loom S2 (AG.mo ag3 (fun q hq => by omega)) F3
      let g4 := gsI g3 (B + 1) 1 (nI 0)
      have S4 : SIM K' g4 (ssI (rw1 S1 (S2' 1)) 0 7 (nI 0)) B := by
        obtain ⟨sn', L', ⟨q1, q2, q3, q4⟩, hR'⟩ := S3.2.2.2.2
        exact SIM.pad (sn := sn') (L := 0) S3 (AG.rf.ai (Or.inl rfl)) ⟨q1, by omega, gI_eq, fun k hk => absurd hk (Nat.not_lt_zero k)⟩ ⟨by omega, by rw [ss_at, if_pos ⟨rfl, rfl⟩], fun k hk => absurd hk (Nat.not_lt_zero k)⟩ (by rw [ss_at, if_neg (by decide)]) (fun k k1 _ => ss_n _ _ _ _ _ (by omega))
      have hS2' : S2' = rw1 S1 (S2' 1) := by
        funext q
        by_cases hq : q = 1
        · subst hq; rw [rw1_1]
        · rw [rw1_n _ _ hq, y1 q hq]
          exact ss_n _ _ _ _ _ hq
      refine ⟨K', g4, ssI (rw1 S1 (S2' 1)) 0 7 (nI 0), nI (stN sn L), ?_, ?_, S4⟩
      · rw [k1]
        simp only [EV]
        rw [F]
        simp (disch := omega) only [EV, k8', kt2.1, decide_true]
        show some (K', g4, gI g4 K.2 1) = _
        have : gI g4 K.2 1 = nI (stN sn L) := by
          show gI (gsI g3 _ _ _) _ _ = _
          rw [gI_ne (by omega)]
          exact TXn.2.2.2.2.2.2.1
        rw [this]
      · rw [k2]
        simp (disch := omega) only [EV, NUM, pu_lit, pu_gok, pu_cl, h7]
        show f8_card_40 (nI j) FU S1' (nI 0) = _
        have h7' : S2' 0 7 = nI L := by rw [y1 0 (by decide)]; show ssI S1 _ _ _ _ _ = _; rw [ss_n _ _ _ _ _ (by decide)]; exact h7
        rw [e3, show FU - L = (FU - L - 1) + 1 by unfold FU; omega, f8_card_40, h7']
        have st := re_steps (S := ssI S2' 0 7 (nI 0)) (s := S2' 1) hj sL l80 sT hv.2.2.2
        have e7 : rw1 (ssI S2' 0 7 (nI 0)) (S2' 1) = ssI S2' 0 7 (nI 0) := by
          have : (ssI S2' 0 7 (nI 0)) 1 = S2' 1 := ss_n _ _ _ _ _ (by decide)
          rw [← this, rw1_self]
        rw [e7] at st
        simp (disch := omega) only [EV, pu_lit, pu_le]
        rw [if_pos (Nat.le_refl _), st]
        simp only [EV]
        rw [← hS2']
    · rw [if_neg hr, if_neg hr]
      exact ⟨K, g0, rb S u v, -3, rfl, rfl, S0⟩
end CARDS
