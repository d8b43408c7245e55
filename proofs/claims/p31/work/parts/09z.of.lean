/-! THE PURE PART, z: of, count, blank, trouble -/
section OF
variable {K : GK} {g g' : GM} {S S' : GS} {B a b h c d L k n : Nat} {s s' : Nat → Int32} {sn : Nat → Nat}
/-- how deep the brackets are nested -/
theorem re_nested (hk : k < 10) (hv : VT sn n) (h43 : s (43 + k) = nI n) (hs : ∀ x, x < n → s (53 + 80 * k + x) = nI (sn x)) : f8_nested (rw1 S s) (nI k) = some (nI (nsN sn n)) := by
  have h80 := hv.1
  have hc := hv.2.2.2
  have L : ∀ w x f, x + w = n → f8_nested_7 (rw1 S s) (nI k) (w + (f + 1)) (nI (ks sn x).length) (nI (nsN sn x)) (nI x) = some (nI (nsN sn n)) := by
    intro w
    induction w with
    | zero =>
      intro x f hw
      have : x = n := by omega
      subst this
      rw [Nat.zero_add, f8_nested_7]
      simp (disch := omega) only [EV, NUM, pu_lit, pu_gok, pu_cl, rw1_1, h43, pu_le]
      simp
    | succ w ih =>
      intro x f hw
      have hx : ¬ n ≤ x := by omega
      have hsx := hs x (by omega)
      have hcx := hc x (by omega)
      have IH := ih (x + 1) f (by omega)
      have e : nsN sn (x + 1) = max (nsN sn x) (ks sn (x + 1)).length := rfl
      have l0 := nsN_le (hv.ne (p := x) (by omega))
      have l1 := nsN_le (hv.ne (p := x + 1) (by omega))
      obtain ⟨k40, k41, kne⟩ := ks_step hv (p := x) (by omega)
      have M : ∀ v : Nat, v = (ks sn (x + 1)).length → (if v ≤ nsN sn x then f8_nested_67 (f8_nested_7 (rw1 S s) (nI k) (w + (f + 1))) (rw1 S s) (nI k) (nI v) (nI x) (nI (nsN sn x)) else f8_nested_67 (f8_nested_7 (rw1 S s) (nI k) (w + (f + 1))) (rw1 S s) (nI k) (nI v) (nI x) (nI v)) = some (nI (nsN sn n)) := by
        intro v hv'
        unfold f8_nested_67
        simp (disch := omega) only [EV, NUM, pu_lit]
        by_cases hle : v ≤ nsN sn x
        · rw [if_pos hle, ← IH, e, hv', show max (nsN sn x) (ks sn (x + 1)).length = nsN sn x by omega]
        · rw [if_neg hle, ← IH, e, hv', show max (nsN sn x) (ks sn (x + 1)).length = (ks sn (x + 1)).length by omega]
      rw [show w + 1 + (f + 1) = (w + (f + 1)) + 1 by omega, f8_nested_7]
      unfold f8_textAt f8_nested_55
      simp (disch := omega) only [EV, NUM, pu_lit, pu_gok, pu_cl, rw1_1, h43, pu_le, hx, if_false, hsx, pu_eq]
      by_cases c1 : sn x = 40
      · simp only [c1, if_true]
        exact M ((ks sn x).length + 1) (by rw [k40 c1]; simp)
      · by_cases c2 : sn x = 41
        · obtain ⟨⟨e', he⟩, -⟩ := k41 c2
          have hl : (ks sn x).length = (ks sn (x + 1)).length + 1 := by rw [he]; rfl
          simp (disch := omega) only [c1, c2, if_false, if_true, pu_m1', pu_le]
          rw [if_neg (by decide)]
          exact M ((ks sn x).length - 1) (by omega)
        · simp only [c1, c2, if_false, Nat.add_zero]
          exact M (ks sn x).length (by rw [kne c1 c2])
  have := L n 0 (FU - n - 1) (by omega)
  rw [show n + (FU - n - 1 + 1) = FU by unfold FU; omega] at this
  unfold f8_nested
  simp only [pu_lit]
  exact this
theorem re_nested0 (hk : k < 10) (h43 : s (43 + k) = nI 0) : f8_nested (rw1 S s) (nI k) = some (nI 0) := by
  unfold f8_nested
  rw [show FU = (FU - 1) + 1 by unfold FU; omega, f8_nested_7]
  simp (disch := omega) only [EV, NUM, pu_lit, pu_gok, pu_cl, rw1_1, h43, pu_le]
  simp
/-- how often -/
def hit (P : Nat → Bool) : Nat → Nat
  | 0 => 0
  | x + 1 => hit P x + (if P x then 1 else 0)
theorem hit_le (P : Nat → Bool) (x : Nat) : hit P x ≤ x := by
  induction x with
  | zero => exact Nat.le_refl _
  | succ x ih => unfold hit; split <;> omega
theorem hit_rev (P : Nat → Bool) (d : Nat) : ∀ x, x ≤ d → hit (fun r => P (d - 1 - r)) x + hit P (d - x) = hit P d := by
  intro x
  induction x with
  | zero => intro _; show 0 + hit P (d - 0) = _; rw [Nat.sub_zero, Nat.zero_add]
  | succ x ih =>
    intro hx
    have h := ih (by omega)
    have e1 : hit (fun r => P (d - 1 - r)) (x + 1) = hit (fun r => P (d - 1 - r)) x + (if P (d - 1 - x) then 1 else 0) := rfl
    have e2 : hit P (d - x) = hit P (d - (x + 1)) + (if P (d - 1 - x) then 1 else 0) := by
      rw [show d - x = (d - (x + 1)) + 1 by omega, show d - 1 - x = d - (x + 1) by omega]
      rfl
    omega
theorem times_on (hT : STK K g (a + 9) s d atStep) (v : Int32) : ∃ m, f0_timesOn K g (a + 9) v = some (nI m) ∧ f8_timesOnStack (rw1 S s) v = some (nI m) := by
  obtain ⟨d6, d3, d9, h4, h5⟩ := hT
  have F : ∀ i, i < d → s (fb i) = gI g (a + 9 + 1) i := fun i hi => by
    by_cases e : i + 1 = d
    · obtain ⟨t, n, sn, p, m, z, -⟩ := h5 i e
      exact z.2.2.1
    · obtain ⟨t, n, sn, p, m, z, -⟩ := h4 i (by omega)
      exact z.2.2.1
  let P : Nat → Bool := fun i => decide (gI g (a + 9 + 1) i = v)
  have L1 : ∀ w x f, x + w = d → f0_timesOn_4 K g (a + 9) v (w + (f + 1)) (nI (hit P x)) (nI x) = some (nI (hit P d)) := by
    intro w
    induction w with
    | zero =>
      intro x f hw
      have : x = d := by omega
      subst this
      rw [Nat.zero_add, f0_timesOn_4]
      simp (disch := omega) only [d6, pu_le]
      simp
    | succ w ih =>
      intro x f hw
      have hx : ¬ d ≤ x := by omega
      have IH := ih (x + 1) f (by omega)
      have e : hit P (x + 1) = hit P x + (if P x then 1 else 0) := rfl
      rw [e] at IH
      rw [show w + 1 + (f + 1) = (w + (f + 1)) + 1 by omega, f0_timesOn_4]
      unfold f0_timesOn_25
      simp (disch := omega) only [EV, NUM, pu_lit, d6, pu_le, hx, if_false, pu_gok, pu_cl]
      by_cases hq : gI g (a + 9 + 1) x = v
      · have : P x = true := decide_eq_true hq
        rw [this] at IH
        rw [if_pos hq]
        exact IH
      · have : P x = false := decide_eq_false hq
        rw [this] at IH
        rw [if_neg hq]
        exact IH
  have L2 : ∀ w x f, x + w = d → f8_timesOnStack_4 (rw1 S s) v (w + (f + 1)) (nI (hit (fun r => P (d - 1 - r)) x)) (nI x) = some (nI (hit (fun r => P (d - 1 - r)) d)) := by
    intro w
    induction w with
    | zero =>
      intro x f hw
      have : x = d := by omega
      subst this
      rw [Nat.zero_add, f8_timesOnStack_4]
      simp (disch := omega) only [EV, pu_lit, pu_gok, pu_cl, rw1_1, d3, pu_le]
      simp
    | succ w ih =>
      intro x f hw
      have hx : ¬ d ≤ x := by omega
      have IH := ih (x + 1) f (by omega)
      have e : hit (fun r => P (d - 1 - r)) (x + 1) = hit (fun r => P (d - 1 - r)) x + (if P (d - 1 - x) then 1 else 0) := rfl
      rw [e] at IH
      have hF := F (d - 1 - x) (by omega)
      have bnd : 1253 + 92 * (d - 1 - x) < 2081 := by omega
      rw [show w + 1 + (f + 1) = (w + (f + 1)) + 1 by omega, f8_timesOnStack_4]
      unfold f8_timesOnStack_36 f8_frame
      simp (disch := omega) only [EV, NUM, pu_lit, pu_gok, pu_cl, rw1_1, d3, pu_le, hx, if_false, pk_sub, Nat.add_zero]
      have hF' : s (1253 + 92 * (d - 1 - x)) = gI g (a + 9 + 1) (d - 1 - x) := hF
      rw [hF']
      by_cases hq : gI g (a + 9 + 1) (d - 1 - x) = v
      · have : P (d - 1 - x) = true := decide_eq_true hq
        rw [this] at IH
        rw [if_pos hq]
        exact IH
      · have : P (d - 1 - x) = false := decide_eq_false hq
        rw [this] at IH
        rw [if_neg hq]
        exact IH
  refine ⟨hit P d, ?_, ?_⟩
  · have := L1 d 0 (FU - d - 1) (by omega)
    rw [show d + (FU - d - 1 + 1) = FU by unfold FU; omega] at this
    exact this
  · have := L2 d 0 (FU - d - 1) (by omega)
    rw [show d + (FU - d - 1 + 1) = FU by unfold FU; omega] at this
    have e := hit_rev P d d (Nat.le_refl _)
    rw [Nat.sub_self] at e
    have e0 : hit P 0 = 0 := rfl
    rw [show hit (fun r => P (d - 1 - r)) d = hit P d by omega] at this
    exact this
theorem op_of (hS : SIM K g S B) (x y : Int32) : ∃ r, f7_of K g B x y = some r ∧ f8_of S x y = some r := by
  obtain ⟨hG, h13⟩ := hS.gv
  obtain ⟨c, d, hB, hT, -⟩ := hS.2.1
  unfold f7_of f8_of f8_isCard
  rcases rg x (n := 10) (by omega) (by omega) with ⟨e1, e2⟩ | ⟨j, hj, rfl, e1, e2⟩
  · refine ⟨-1, ?_, ?_⟩
    · rw [show (10 : Int32) = nI 10 from rfl, e1]; rfl
    · rw [show f8_within x 0 9 = f8_within x (nI 0) (nI (10 - 1)) from rfl, e2]; rfl
  · rw [show (10 : Int32) = nI 10 from rfl, show f8_within (nI j) 0 9 = f8_within (nI j) (nI 0) (nI (10 - 1)) from rfl, e1, e2]
    obtain ⟨g1, g2, g3, g4, g5, g6⟩ := hG j hj
    obtain ⟨w1, w2⟩ := callers_eq hG hj
    obtain ⟨m, m1, m2⟩ := times_on (S := S) hT (nI j)
    rw [rw1_self] at m2
    have w1' : f2_callersOf K g (B + 11) (nI j) = some (nI (clN (CC g (B + 10)) j 10)) := w1
    have m1' : f0_timesOn K g (B + 19) (nI j) = some (nI m) := m1
    have b9 : S 1 (9 + j) = gI g (B + 12) j := hB.1.at (cm_beg hj).1 (cm_beg hj).2
    simp (disch := omega) only [EV, NUM, pu_lit, z10f, if_false, gb1, pu_gok, pu_cl]
    obtain ⟨l, st, ne, hl, hst, hne, hcls⟩ : ∃ l st ne : Int32, S 1 (43 + j) = l ∧ f8_steps S (nI j) = some st ∧ f8_nested S (nI j) = some ne ∧ ((gR g (B + 11) j = none ∧ l = nI 0 ∧ st = nI 0 ∧ ne = nI 0 ∧ CC g (B + 10) j = 0) ∨ ∃ t, gR g (B + 11) j = some t ∧ gkd K t = 2 ∧ gI g t 0 = l ∧ gI g t 1 = st ∧ gI g t 2 = nI (CC g (B + 10) j) ∧ gI g t 3 = ne) := by
      rcases hB.2.2.2.2 j hj with ⟨t1, t2⟩ | ⟨t, n, sn, t1, t2, t3, t4⟩
      · have q1 := re_steps (S := S) (sn := fun _ => 0) hj t2 (by omega) (fun x hx => absurd hx (Nat.not_lt_zero x)) (fun x hx => absurd hx (Nat.not_lt_zero x))
        have q2 := re_nested0 (S := S) hj t2
        rw [rw1_self] at q1 q2
        refine ⟨nI 0, nI 0, nI 0, t2, q1, q2, Or.inl ⟨t1, rfl, rfl, rfl, ?_⟩⟩
        unfold CC
        rw [t1]
      · have q1 := re_steps (S := S) hj t3 t2.2.2.2.1.1 t4 t2.2.2.2.1.2.2.2
        have q2 := re_nested (S := S) hj t2.2.2.2.1 t3 t4
        rw [rw1_self] at q1 q2
        obtain ⟨e1, e2⟩ := caN_eq (t2.2.2.2.1.ne (Nat.le_refl _))
        have ec : gI g t 2 = nI (caN sn n) := t2.2.2.2.2.2.2.2.1.trans e1
        refine ⟨nI n, _, _, t3, q1, q2, Or.inr ⟨t, t1, t2.1, t2.2.2.1, t2.2.2.2.2.2.2.1, ?_, t2.2.2.2.2.2.2.2.2⟩⟩
        unfold CC
        rw [t1]
        dsimp only
        rw [ec, pu_cl (by omega)]
    rw [hl, hst, hne, g3, w2, m2, b9]
    simp only [EV, w1', m1']
    rcases hcls with ⟨t1, rfl, rfl, rfl, cz⟩ | ⟨t, t1, t2, t3, t4, t5, t6⟩
    · rw [t1, cz]
      simp only [EV]
      by_cases y0 : y = nI 0
      · exact ⟨_, by simp only [y0, if_true]; rfl, by simp only [y0, if_true]⟩
      simp only [y0, if_false]
      by_cases y1 : y = nI 1
      · exact ⟨_, by simp only [y1, if_true]; rfl, by simp only [y1, if_true]⟩
      simp only [y1, if_false]
      by_cases y2 : y = nI 2
      · exact ⟨_, by simp only [y2, if_true]; rfl, by simp only [y2, if_true]⟩
      simp only [y2, if_false]
      by_cases y3 : y = nI 3
      · exact ⟨_, by simp only [y3, if_true]; rfl, by simp only [y3, if_true]⟩
      simp only [y3, if_false]
      by_cases y4 : y = nI 4
      · exact ⟨_, by simp only [y4, if_true]; rfl, by simp only [y4, if_true]⟩
      simp only [y4, if_false]
      by_cases y5 : y = nI 5
      · exact ⟨_, by simp only [y5, if_true]; rfl, by simp only [y5, if_true]⟩
      simp only [y5, if_false]
      by_cases y6 : y = nI 6
      · exact ⟨_, by simp only [y6, if_true]; rfl, by simp only [y6, if_true]⟩
      simp only [y6, if_false]
      exact ⟨_, rfl, rfl⟩
    · rw [t1]
      simp only [EV, t2, decide_true, t3, t4, t5, t6]
      by_cases y0 : y = nI 0
      · exact ⟨_, by simp only [y0, if_true]; rfl, by simp only [y0, if_true]⟩
      simp only [y0, if_false]
      by_cases y1 : y = nI 1
      · exact ⟨_, by simp only [y1, if_true]; rfl, by simp only [y1, if_true]⟩
      simp only [y1, if_false]
      by_cases y2 : y = nI 2
      · exact ⟨_, by simp only [y2, if_true]; rfl, by simp only [y2, if_true]⟩
      simp only [y2, if_false]
      by_cases y3 : y = nI 3
      · exact ⟨_, by simp only [y3, if_true]; rfl, by simp only [y3, if_true]⟩
      simp only [y3, if_false]
      by_cases y4 : y = nI 4
      · exact ⟨_, by simp only [y4, if_true]; rfl, by simp only [y4, if_true]⟩
      simp only [y4, if_false]
      by_cases y5 : y = nI 5
      · exact ⟨_, by simp only [y5, if_true]; rfl, by simp only [y5, if_true]⟩
      simp only [y5, if_false]
      by_cases y6 : y = nI 6
      · exact ⟨_, by simp only [y6, if_true]; rfl, by simp only [y6, if_true]⟩
      simp only [y6, if_false]
      exact ⟨_, rfl, rfl⟩
/-! count -/
theorem cl_sum {q : Nat} (h : K.1 q = (10, 6)) : f7_sum K g q = some (sum6 (gI g q)) := by
  have e : gkn K q = 6 := by unfold gkn; rw [h]
  have st : ∀ f acc x, x < 6 → f7_sum_10 K g q (f + 1) acc q (nI 6) (nI x) = f7_sum_10 K g q f (acc + gI g q x) q (nI 6) (nI (x + 1)) := fun f acc x hx => by
    have hx' : ¬ 6 ≤ x := by omega
    rw [f7_sum_10, h, e]
    simp (disch := omega) only [decide_true, EV, NUM, pu_lit, pu_le, pu_gok, pu_cl, hx', if_false]
  unfold f7_sum
  rw [h, e, show FU = (FU - 7) + 1 + 1 + 1 + 1 + 1 + 1 + 1 by unfold FU; omega]
  simp only [decide_true, EV, pu_lit]
  rw [st _ _ 0 (by omega), st _ _ 1 (by omega), st _ _ 2 (by omega), st _ _ 3 (by omega), st _ _ 4 (by omega), st _ _ 5 (by omega), f7_sum_10, if_pos (show nI 6 ≤ nI (5 + 1) from (nI_leI (by omega) (by omega)).mpr (Nat.le_refl _))]
  unfold sum6
  rw [show nI 0 = 0 from rfl, Int32.zero_add]
theorem re_sum {p : Nat} (hp : p < 2000) : f8_sumOf S (nI p) = some (sum6 (fun j => S 1 (p + j))) := by
  have st : ∀ f acc x, x < 6 → f8_sumOf_4 S (nI p) (f + 1) acc (nI x) = f8_sumOf_4 S (nI p) f (acc + S 1 (p + x)) (nI (x + 1)) := fun f acc x hx => by
    have hx' : ¬ 6 ≤ x := by omega
    rw [f8_sumOf_4]
    simp (disch := omega) only [EV, NUM, pu_lit, pu_le, pu_gok, pu_cl, hx', if_false]
  unfold f8_sumOf
  rw [show FU = (FU - 7) + 1 + 1 + 1 + 1 + 1 + 1 + 1 by unfold FU; omega]
  simp only [pu_lit]
  rw [st _ _ 0 (by omega), st _ _ 1 (by omega), st _ _ 2 (by omega), st _ _ 3 (by omega), st _ _ 4 (by omega), st _ _ 5 (by omega), f8_sumOf_4, if_pos (show (6 : Int32) ≤ nI (5 + 1) from (nI_leI (a := 6) (by omega) (by omega)).mpr (Nat.le_refl _))]
  unfold sum6
  rw [show nI 0 = 0 from rfl, Int32.zero_add]
theorem op_count (hS : SIM K g S B) (y : Int32) : ∃ r, f7_count K g B y = some r ∧ f8_count S y = some r := by
  obtain ⟨hG, h13⟩ := hS.gv
  obtain ⟨w1, w2⟩ := written_eq hG h13
  obtain ⟨c, d, hB, hT, h8, -⟩ := hS.2.1
  obtain ⟨h, σ, hH⟩ := hS.2.2.1
  obtain ⟨sn, L, hP, hR⟩ := hS.2.2.2.2
  have lk := (hS.1.2.2.2.2.1 _ hS.1.l1).1
  obtain ⟨l0, l1, l2, l3, l4, l5, l6, l7, -⟩ := lk
  have s7 := cl_sum (g := g) (q := B + 17) l7
  have s6 := cl_sum (g := g) (q := B + 16) l6
  have s4 := cl_sum (g := g) (q := B + 14) l4
  have r31 : f8_sumOf S (nI 31) = some (sum6 (gI g (B + 16))) := by
    rw [re_sum (by omega)]
    unfold sum6
    dsimp only
    rw [show S 1 (31 + 0) = gI g (B + 16) 0 from hB.1.at (cm_ell (k := 0) (by omega)).2.2.1.1 (cm_ell (k := 0) (by omega)).2.2.1.2, show S 1 (31 + 1) = gI g (B + 16) 1 from hB.1.at (cm_ell (k := 1) (by omega)).2.2.1.1 (cm_ell (k := 1) (by omega)).2.2.1.2, show S 1 (31 + 2) = gI g (B + 16) 2 from hB.1.at (cm_ell (k := 2) (by omega)).2.2.1.1 (cm_ell (k := 2) (by omega)).2.2.1.2, show S 1 (31 + 3) = gI g (B + 16) 3 from hB.1.at (cm_ell (k := 3) (by omega)).2.2.1.1 (cm_ell (k := 3) (by omega)).2.2.1.2, show S 1 (31 + 4) = gI g (B + 16) 4 from hB.1.at (cm_ell (k := 4) (by omega)).2.2.1.1 (cm_ell (k := 4) (by omega)).2.2.1.2, show S 1 (31 + 5) = gI g (B + 16) 5 from hB.1.at (cm_ell (k := 5) (by omega)).2.2.1.1 (cm_ell (k := 5) (by omega)).2.2.1.2]
  have r19 : f8_sumOf S (nI 19) = some (sum6 (gI g (B + 14))) := by
    rw [re_sum (by omega)]
    unfold sum6
    dsimp only
    rw [show S 1 (19 + 0) = gI g (B + 14) 0 from hB.1.at (cm_ell (k := 0) (by omega)).1.1 (cm_ell (k := 0) (by omega)).1.2, show S 1 (19 + 1) = gI g (B + 14) 1 from hB.1.at (cm_ell (k := 1) (by omega)).1.1 (cm_ell (k := 1) (by omega)).1.2, show S 1 (19 + 2) = gI g (B + 14) 2 from hB.1.at (cm_ell (k := 2) (by omega)).1.1 (cm_ell (k := 2) (by omega)).1.2, show S 1 (19 + 3) = gI g (B + 14) 3 from hB.1.at (cm_ell (k := 3) (by omega)).1.1 (cm_ell (k := 3) (by omega)).1.2, show S 1 (19 + 4) = gI g (B + 14) 4 from hB.1.at (cm_ell (k := 4) (by omega)).1.1 (cm_ell (k := 4) (by omega)).1.2, show S 1 (19 + 5) = gI g (B + 14) 5 from hB.1.at (cm_ell (k := 5) (by omega)).1.1 (cm_ell (k := 5) (by omega)).1.2]
  have t0 : S 1 0 = gI g (B + 13) 0 := hB.1.at (cm_s (k := 0) (by omega)).1 (cm_s (k := 0) (by omega)).2
  have t1 : S 1 1 = gI g (B + 13) 1 := hB.1.at (cm_s (k := 1) (by omega)).1 (cm_s (k := 1) (by omega)).2
  have t2 : S 1 2 = gI g (B + 13) 2 := hB.1.at (cm_s (k := 2) (by omega)).1 (cm_s (k := 2) (by omega)).2
  have t6 : S 1 6 = gI g (B + 10) 10 := hB.1.at cm_6.1 cm_6.2
  have t7 : S 1 7 = gI g (B + 10) 11 := hB.1.at cm_7.1 cm_7.2
  have t5 : S 1 5 = sum6 (gI g (B + 17)) := hB.2.2.2.1
  have a3 : gI g (B + 19) 6 = nI d := hT.1
  have b3 := hT.2.1
  have a4 := hB.2.2.1.2.1
  have b4 := hB.2.2.1.2.2.1
  have w1' : f2_written K g (B + 11) = some (nI (wrN (HH g (B + 10)) 10)) := w1
  unfold f7_count f8_count
  have q12 := hP.2.2.1
  have q12' := hR.2.1
  have q13 := hH.2.1
  have q13' := hH.2.2.1
  simp only [pu_lit]
  by_cases y0 : y = nI 0
  · refine ⟨nI (wrN (HH g (B + 10)) 10), ?_, ?_⟩
    · simp only [y0, if_true]
      try simp (disch := omega) only [EV, pu_gok, pu_cl, w1', w2]
    · simp only [y0, if_true]
      try simp (disch := omega) only [EV, pk_sub, pu_gok, pu_cl, Nat.reduceSub, w1', w2]
  simp only [y0, if_false]
  by_cases y1 : y = nI 1
  · refine ⟨nI d, ?_, ?_⟩
    · simp only [y1, if_true]
      try simp (disch := omega) only [EV, pu_gok, pu_cl, a3, b3]
    · simp only [y1, if_true]
      try simp (disch := omega) only [EV, pk_sub, pu_gok, pu_cl, Nat.reduceSub, a3, b3]
  simp only [y1, if_false]
  by_cases y2 : y = nI 2
  · refine ⟨nI c, ?_, ?_⟩
    · simp only [y2, if_true]
      try simp (disch := omega) only [EV, pu_gok, pu_cl, a4, b4]
    · simp only [y2, if_true]
      try simp (disch := omega) only [EV, pk_sub, pu_gok, pu_cl, Nat.reduceSub, a4, b4]
  simp only [y2, if_false]
  by_cases y3 : y = nI 3
  · refine ⟨sum6 (gI g (B + 17)), ?_, ?_⟩
    · simp only [y3, if_true]
      try simp (disch := omega) only [EV, pu_gok, pu_cl, s7, t5]
    · simp only [y3, if_true]
      try simp (disch := omega) only [EV, pk_sub, pu_gok, pu_cl, Nat.reduceSub, s7, t5]
  simp only [y3, if_false]
  by_cases y4 : y = nI 4
  · refine ⟨gI g (B + 10) 10, ?_, ?_⟩
    · simp only [y4, if_true]
      try simp (disch := omega) only [EV, pu_gok, pu_cl, t6]
    · simp only [y4, if_true]
      try simp (disch := omega) only [EV, pk_sub, pu_gok, pu_cl, Nat.reduceSub, t6]
  simp only [y4, if_false]
  by_cases y5 : y = nI 5
  · refine ⟨gI g (B + 10) 11, ?_, ?_⟩
    · simp only [y5, if_true]
      try simp (disch := omega) only [EV, pu_gok, pu_cl, t7]
    · simp only [y5, if_true]
      try simp (disch := omega) only [EV, pk_sub, pu_gok, pu_cl, Nat.reduceSub, t7]
  simp only [y5, if_false]
  by_cases y6 : y = nI 6
  · refine ⟨gI g (B + 10) 12, ?_, ?_⟩
    · simp only [y6, if_true]
      try simp (disch := omega) only [EV, pu_gok, pu_cl, h8]
    · simp only [y6, if_true]
      try simp (disch := omega) only [EV, pk_sub, pu_gok, pu_cl, Nat.reduceSub, h8]
  simp only [y6, if_false]
  by_cases y7 : y = nI 7
  · refine ⟨sum6 (gI g (B + 16)), ?_, ?_⟩
    · simp only [y7, if_true]
      try simp (disch := omega) only [EV, pu_gok, pu_cl, s6, r31]
    · simp only [y7, if_true]
      try simp (disch := omega) only [EV, pk_sub, pu_gok, pu_cl, Nat.reduceSub, s6, r31]
  simp only [y7, if_false]
  by_cases y8 : y = nI 8
  · refine ⟨sum6 (gI g (B + 14)), ?_, ?_⟩
    · simp only [y8, if_true]
      try simp (disch := omega) only [EV, pu_gok, pu_cl, s4, r19]
    · simp only [y8, if_true]
      try simp (disch := omega) only [EV, pk_sub, pu_gok, pu_cl, Nat.reduceSub, s4, r19]
  simp only [y8, if_false]
  by_cases y9 : y = nI 9
  · refine ⟨gI g (B + 13) 0, ?_, ?_⟩
    · simp only [y9, if_true]
      try simp (disch := omega) only [EV, pu_gok, pu_cl, t0]
    · simp only [y9, if_true]
      try simp (disch := omega) only [EV, pk_sub, pu_gok, pu_cl, Nat.reduceSub, t0]
  simp only [y9, if_false]
  by_cases y10 : y = nI 10
  · refine ⟨gI g (B + 13) 1, ?_, ?_⟩
    · simp only [y10, if_true]
      try simp (disch := omega) only [EV, pu_gok, pu_cl, t1]
    · simp only [y10, if_true]
      try simp (disch := omega) only [EV, pk_sub, pu_gok, pu_cl, Nat.reduceSub, t1]
  simp only [y10, if_false]
  by_cases y11 : y = nI 11
  · refine ⟨gI g (B + 13) 2, ?_, ?_⟩
    · simp only [y11, if_true]
      try simp (disch := omega) only [EV, pu_gok, pu_cl, t2]
    · simp only [y11, if_true]
      try simp (disch := omega) only [EV, pk_sub, pu_gok, pu_cl, Nat.reduceSub, t2]
  simp only [y11, if_false]
  by_cases y12 : y = nI 12
  · refine ⟨nI L, ?_, ?_⟩
    · simp only [y12, if_true]
      try simp (disch := omega) only [EV, pu_gok, pu_cl, q12, q12']
    · simp only [y12, if_true]
      try simp (disch := omega) only [EV, pk_sub, pu_gok, pu_cl, Nat.reduceSub, q12, q12']
  simp only [y12, if_false]
  by_cases y13 : y = nI 13
  · refine ⟨nI h, ?_, ?_⟩
    · simp only [y13, if_true]
      try simp (disch := omega) only [EV, pu_gok, pu_cl, q13, q13']
    · simp only [y13, if_true]
      try simp (disch := omega) only [EV, pk_sub, pu_gok, pu_cl, Nat.reduceSub, q13, q13']
  simp only [y13, if_false]
  exact ⟨_, rfl, rfl⟩
theorem op_blank (hS : SIM K g S B) (x : Int32) : OPR K B (f7_blank K g B x) (f8_blank S x) := by
  have hL := hS.1
  have hA := hL.sa hL.l1
  unfold f7_blank f8_blank f8_isCard f8_hasText
  rcases rg x (n := 10) (by omega) (by omega) with ⟨e1, e2⟩ | ⟨j, hj, rfl, e1, e2⟩
  · refine ⟨g, S, -1, ?_, ?_, hS⟩
    · rw [show (10 : Int32) = nI 10 from rfl, e1]; rfl
    · rw [show f8_within x 0 9 = f8_within x (nI 0) (nI (10 - 1)) from rfl, e2]; rfl
  · rw [show (10 : Int32) = nI 10 from rfl, show f8_within (nI j) 0 9 = f8_within (nI j) (nI 0) (nI (10 - 1)) from rfl, e1, e2]
    simp (disch := omega) only [EV, if_neg z10, gb1, pu_gok, pu_cl, NUM, pu_lit]
    obtain ⟨c0, d0, hB0, -⟩ := hS.2.1
    rcases hB0.2.2.2.2 j hj with ⟨t1, t2⟩ | ⟨t', n', sn', t1, t2, t3, -⟩
    · refine ⟨g, S, -5, ?_, ?_, hS⟩
      · rw [show gR g (B + 11) j = none from t1]; rfl
      · rw [t2]; rfl
    · have np := (vt_pos t2.2.2.2.1).1
      have n80 := t2.2.2.2.1.1
      obtain ⟨g1, S1, k1, k2, k3, k4, k5, -⟩ := hS.keep
      obtain ⟨c, d, ⟨b1, ⟨w, w9, b2⟩, b3, b4, b5⟩, h2, h3, h4⟩ := k3.2.1
      let g2 := gsR g1 (B + 11) j none
      let s2 := upd (S1 1) (43 + j) (nI 0)
      have ag2 : AG (fun q => q = B + 11) g1 g2 := AG.rf.ar rfl
      have ta2 : TA K g1 g2 := hL.ta ag2 (fun q hq => by omega)
      have F2 : LRF K g2 (B + 10) s2 := by
        refine ⟨c, d, ⟨b1.mo (fun _ _ _ => rfl) (fun y z1 _ _ => pk_un (by omega)), ⟨w, w9, (pk_un (by omega)).trans b2⟩, b3.mo (fun _ _ _ => rfl) (pk_un (by omega)) (fun y z1 z2 => pk_un (by omega)), (pk_un (by omega)).trans b4, fun k hk => ?_⟩, h2.base (g' := g2) hA (AG.mo ag2 (fun q hq => by omega)) (pk_un (by omega)) (fun y hy => pk_un (by omega)), (pk_un (by omega)).trans h3, h4.mo (fun q => ag2.r (by omega) q)⟩
        by_cases hkj : k = j
        · subst hkj
          refine Or.inl ⟨?_, pk_us⟩
          show gR (gsR g1 (B + 11) k none) (B + 11) k = none
          rw [gR_R, if_pos ⟨rfl, rfl⟩]
        · have rr : gR g2 (B + 10 + 1) k = gR g1 (B + 10 + 1) k := by
            show gR (gsR g1 (B + 11) j none) (B + 11) k = _
            rw [gR_R, if_neg (fun z => hkj z.2)]
          rcases b5 k hk with ⟨z1, z2⟩ | ⟨t, n, sn, z1, z2, z3, z4⟩
          · exact Or.inl ⟨rr.trans z1, (pk_un (by omega)).trans z2⟩
          · exact Or.inr ⟨t, n, sn, rr.trans z1, z2.mo ta2, (pk_un (by omega)).trans z3, fun y hy => (pk_un (by omega)).trans (z4 y hy)⟩
      have S2 : SIM K g2 (rw1 S1 s2) B := SIM.loom k3 (AG.mo ag2 (fun q hq => by omega)) F2
      obtain ⟨hG, -⟩ := S2.gv
      obtain ⟨w1, w2⟩ := callers_eq hG hj
      refine ⟨g2, rw1 S1 s2, nI (clN (CC g2 (B + 10)) j 10), ?_, ?_, S2⟩
      · rw [show gR g (B + 11) j = some t' from t1]
        simp only [EV, k1]
        rw [show f2_callersOf K (gsR g1 (B + 11) j none) (B + 11) (nI j) = some (nI (clN (CC g2 (B + 10)) j 10)) from w1]
        rfl
      · rw [t3]
        have nle : ¬ n' ≤ 0 := by omega
        simp (disch := omega) only [pu_le, nle, if_false, EV, k2, pu_gok, pu_cl, z10f]
        rw [show ssI S1 1 (43 + j) (nI 0) = rw1 S1 s2 by rw [← ss_rw, rw1_self], w2]
        rfl
/-! trouble -/
theorem trouble_eq {C : Nat → Nat} {H : Nat → Bool} (hG : GV K g a S C H) (h13 : K.1 (a + 1) = (13, 10)) (hk : k < 10) : ∃ r, f2_troubleOf K g (a + 1) (nI k) = some r ∧ f8_whyNot S (nI k) = some r ∧ (r = 0 → (∀ j, j < 10 → (rch C k ||| 2 ^ k).testBit j = true → H j = true ∧ (rch C j).testBit j = false)) := by
  have hC : ∀ k, k < 10 → C k < 1024 := fun k hk => (hG k hk).1
  obtain ⟨r1, r2⟩ := reach_eq hG hk
  obtain ⟨w1, w2⟩ := written_eq hG h13
  let A := rch C k ||| 2 ^ k
  have hA : A < 1024 := or_lt (rch_lt hC hk) (pow_lt hk)
  have wl := wrN_lt H 10 (by omega)
  -- the class's test of texts
  have SUB : (nI A &&& (nI (wrN H 10) ^^^ (-1)) = 0) ↔ ∀ j, j < 10 → A.testBit j = true → H j = true := by
    have e1 : nI (wrN H 10) ^^^ (-1) = ~~~ nI (wrN H 10) := by
      apply Int32.toBitVec_inj.mp
      show (nI (wrN H 10)).toBitVec ^^^ (-1 : Int32).toBitVec = ~~~ (nI (wrN H 10)).toBitVec
      rw [show (-1 : Int32).toBitVec = BitVec.allOnes 32 from rfl, BitVec.xor_allOnes]
    rw [e1]
    constructor
    · intro h j hj hb
      have h2 : (nI A).toBitVec &&& ~~~ (nI (wrN H 10)).toBitVec = 0#32 := congrArg Int32.toBitVec h
      have h3 := congrArg (fun v => BitVec.getLsbD v j) h2
      have e2 : (nI A).toBitVec.getLsbD j = A.testBit j := by
        show (BitVec.ofNat 32 A).getLsbD j = _
        rw [BitVec.getLsbD_ofNat]
        simp; omega
      have e3 : (nI (wrN H 10)).toBitVec.getLsbD j = (wrN H 10).testBit j := by
        show (BitVec.ofNat 32 (wrN H 10)).getLsbD j = _
        rw [BitVec.getLsbD_ofNat]
        simp; omega
      simp only [BitVec.getLsbD_and, BitVec.getLsbD_not, e2, e3, hb, wrN_bit] at h3
      cases hH : H j with
      | true => rfl
      | false =>
        rw [hH] at h3
        simp [hj] at h3
        omega
    · intro h
      apply Int32.toBitVec_inj.mp
      show (nI A).toBitVec &&& ~~~ (nI (wrN H 10)).toBitVec = 0#32
      apply BitVec.eq_of_getLsbD_eq
      intro j hj
      have e2 : (nI A).toBitVec.getLsbD j = A.testBit j := by
        show (BitVec.ofNat 32 A).getLsbD j = _
        rw [BitVec.getLsbD_ofNat]
        simp; omega
      have e3 : (nI (wrN H 10)).toBitVec.getLsbD j = (wrN H 10).testBit j := by
        show (BitVec.ofNat 32 (wrN H 10)).getLsbD j = _
        rw [BitVec.getLsbD_ofNat]
        simp; omega
      simp only [BitVec.getLsbD_and, BitVec.getLsbD_not, e2, e3, wrN_bit]
      by_cases hj10 : j < 10
      · cases hb : A.testBit j with
        | false => simp
        | true => rw [h j hj10 hb]; simp [hj10]
      · have : A.testBit j = false := Nat.testBit_lt_two_pow (Nat.lt_of_lt_of_le hA (Nat.pow_le_pow_right (by decide : 0 < 2) (show 10 ≤ j by omega)))
        rw [this]
        simp
  unfold f2_troubleOf f8_whyNot
  rw [r1, r2]
  simp only [EV, pu_lit, (pu_sh hk).1, pu_or, w1]
  -- the class's search
  have LC : ∀ w x f, x + w = 10 → (f2_troubleOf_26 K g (a + 1) (nI k) (w + (f + 1)) (nI A) (nI x) = some 0 ∧ ∀ j, x ≤ j → j < 10 → A.testBit j = true → (rch C j).testBit j = false) ∨ (f2_troubleOf_26 K g (a + 1) (nI k) (w + (f + 1)) (nI A) (nI x) = some (-6) ∧ ∃ j, x ≤ j ∧ j < 10 ∧ A.testBit j = true ∧ (rch C j).testBit j = true) := by
    intro w
    induction w with
    | zero =>
      intro x f hw
      have : x = 10 := by omega
      subst this
      left
      rw [Nat.zero_add, f2_troubleOf_26]
      exact ⟨rfl, fun j h1 h2 => by omega⟩
    | succ w ih =>
      intro x f hw
      have hx : ¬ 10 ≤ x := by omega
      obtain ⟨q1, q2⟩ := reach_eq hG (k := x) (by omega)
      have hh := pu_holds hA (j := x) (by omega)
      have hh2 := pu_holds (rch_lt hC (k := x) (by omega)) (j := x) (by omega)
      rw [show w + 1 + (f + 1) = (w + (f + 1)) + 1 by omega, f2_troubleOf_26]
      unfold f2_troubleOf_55
      simp (disch := omega) only [EV, NUM, pu_lit, pu_le, hx, if_false, hh, q1, hh2]
      cases hb : A.testBit x with
      | false =>
        simp only [Bool.false_eq_true, if_false, if_true]
        rcases ih (x + 1) f (by omega) with ⟨i1, i2⟩ | ⟨i1, j, i2, i3, i4⟩
        · exact Or.inl ⟨i1, fun j h1 h2 h3 => i2 j (by
            rcases Nat.eq_or_lt_of_le h1 with q | q
            · rw [← q, hb] at h3; cases h3
            · exact q) h2 h3⟩
        · exact Or.inr ⟨i1, j, by omega, i3, i4⟩
      | true =>
        simp only [if_true, z10f, if_false]
        cases hb2 : (rch C x).testBit x with
        | false =>
          simp only [Bool.false_eq_true, if_false, if_true]
          rcases ih (x + 1) f (by omega) with ⟨i1, i2⟩ | ⟨i1, j, i2, i3, i4⟩
          · exact Or.inl ⟨i1, fun j h1 h2 h3 => by
              rcases Nat.eq_or_lt_of_le h1 with q | q
              · rw [← q]; exact hb2
              · exact i2 j q h2 h3⟩
          · exact Or.inr ⟨i1, j, by omega, i3, i4⟩
        | true =>
          simp only [if_true, z10f, if_false]
          exact Or.inr ⟨trivial, x, Nat.le_refl _, by omega, hb, hb2⟩
  -- the reference's search
  have LR : ∀ w x f cf, x + w = 10 → cf ≤ 1 → (f8_whyNot_15 S (nI k) (w + (f + 1)) (nI A) (nI cf) (nI x) = some (-5) ∧ ∃ j, x ≤ j ∧ j < 10 ∧ A.testBit j = true ∧ H j = false) ∨ ((∀ j, x ≤ j → j < 10 → A.testBit j = true → H j = true) ∧ ((f8_whyNot_15 S (nI k) (w + (f + 1)) (nI A) (nI cf) (nI x) = some 0 ∧ cf = 0 ∧ ∀ j, x ≤ j → j < 10 → A.testBit j = true → (rch C j).testBit j = false) ∨ (f8_whyNot_15 S (nI k) (w + (f + 1)) (nI A) (nI cf) (nI x) = some (-6) ∧ (cf = 1 ∨ ∃ j, x ≤ j ∧ j < 10 ∧ A.testBit j = true ∧ (rch C j).testBit j = true)))) := by
    intro w
    induction w with
    | zero =>
      intro x f cf hw hcf
      have : x = 10 := by omega
      subst this
      right
      refine ⟨fun j h1 h2 => by omega, ?_⟩
      rw [Nat.zero_add, f8_whyNot_15]
      by_cases h0 : cf = 0
      · subst h0
        exact Or.inl ⟨rfl, rfl, fun j h1 h2 => by omega⟩
      · have : cf = 1 := by omega
        subst this
        exact Or.inr ⟨rfl, Or.inl rfl⟩
    | succ w ih =>
      intro x f cf hw hcf
      have hx : ¬ 10 ≤ x := by omega
      obtain ⟨q1, q2⟩ := reach_eq hG (k := x) (by omega)
      obtain ⟨-, -, -, g4, -⟩ := hG x (by omega)
      have hh := pu_bit hA (j := x) (by omega)
      have hh2 := pu_bit (rch_lt hC (k := x) (by omega)) (j := x) (by omega)
      have z01f : (nI 0 = nI 1) = False := eq_false (by decide)
      rw [show w + 1 + (f + 1) = (w + (f + 1)) + 1 by omega, f8_whyNot_15]
      unfold f8_whyNot_44 f8_whyNot_73 f8_whyNot_77 f8_whyNot_78
      simp (disch := omega) only [EV, NUM, pu_lit, pu_le, hx, if_false, hh, q2, hh2, g4]
      cases hb : A.testBit x with
      | false =>
        simp only [Bool.false_eq_true, if_false, z01f]
        have STEP : ∀ cf', cf' = cf → (if nI cf = nI 0 then f8_whyNot_15 S (nI k) (w + (f + 1)) (nI A) (nI 0) (nI (x + 1)) else f8_whyNot_15 S (nI k) (w + (f + 1)) (nI A) (nI 1) (nI (x + 1))) = f8_whyNot_15 S (nI k) (w + (f + 1)) (nI A) (nI cf') (nI (x + 1)) := fun cf' e => by
          subst e
          rcases (by omega : cf' = 0 ∨ cf' = 1) with h | h <;> subst h
          · rw [if_pos rfl]
          · rw [if_neg (show ¬ nI 1 = nI 0 from z10)]
        rw [STEP cf rfl]
        rcases ih (x + 1) f cf (by omega) hcf with ⟨i1, j, i2, i3, i4⟩ | ⟨i0, ⟨i1, i2, i3⟩ | ⟨i1, i2⟩⟩
        · exact Or.inl ⟨i1, j, by omega, i3, i4⟩
        · refine Or.inr ⟨fun j h1 h2 h3 => ?_, Or.inl ⟨i1, i2, fun j h1 h2 h3 => ?_⟩⟩
          · rcases Nat.eq_or_lt_of_le h1 with q | q
            · rw [← q, hb] at h3; cases h3
            · exact i0 j q h2 h3
          · rcases Nat.eq_or_lt_of_le h1 with q | q
            · rw [← q, hb] at h3; cases h3
            · exact i3 j q h2 h3
        · refine Or.inr ⟨fun j h1 h2 h3 => ?_, Or.inr ⟨i1, ?_⟩⟩
          · rcases Nat.eq_or_lt_of_le h1 with q | q
            · rw [← q, hb] at h3; cases h3
            · exact i0 j q h2 h3
          · rcases i2 with i2 | ⟨j, i2, i3⟩
            · exact Or.inl i2
            · exact Or.inr ⟨j, by omega, i3⟩
      | true =>
        simp only [if_true]
        cases hH : H x with
        | false =>
          simp only [Bool.false_eq_true, if_false, if_true]
          exact Or.inl ⟨trivial, x, Nat.le_refl _, by omega, hb, hH⟩
        | true =>
          simp only [if_true, z10f, if_false]
          have STEP : (if nI cf = nI 0 then (if nI (if (rch C x).testBit x = true then 1 else 0) = nI 1 then f8_whyNot_15 S (nI k) (w + (f + 1)) (nI A) (nI 1) (nI (x + 1)) else f8_whyNot_15 S (nI k) (w + (f + 1)) (nI A) (nI 0) (nI (x + 1))) else f8_whyNot_15 S (nI k) (w + (f + 1)) (nI A) (nI 1) (nI (x + 1))) = f8_whyNot_15 S (nI k) (w + (f + 1)) (nI A) (nI (if cf = 1 ∨ (rch C x).testBit x = true then 1 else 0)) (nI (x + 1)) := by
            rcases (by omega : cf = 0 ∨ cf = 1) with h | h <;> subst h
            · rw [if_pos rfl]
              cases (rch C x).testBit x with
              | false => rfl
              | true => rfl
            · rw [if_neg (show ¬ nI 1 = nI 0 from z10), if_pos (Or.inl rfl)]
          rw [STEP]
          have mem : ∀ j, x ≤ j → (x + 1 ≤ j → H j = true) → H j = true := fun j h1 h2 => by
            rcases Nat.eq_or_lt_of_le h1 with q | q
            · rw [← q]; exact hH
            · exact h2 q
          by_cases hc1 : cf = 1 ∨ (rch C x).testBit x = true
          · rw [if_pos hc1]
            have bad : cf = 1 ∨ ∃ j, x ≤ j ∧ j < 10 ∧ A.testBit j = true ∧ (rch C j).testBit j = true := by
              rcases hc1 with q | q
              · exact Or.inl q
              · exact Or.inr ⟨x, Nat.le_refl _, by omega, hb, q⟩
            rcases ih (x + 1) f 1 (by omega) (by omega) with ⟨i1, j, i2, i3, i4⟩ | ⟨i0, ⟨i1, i2, i3⟩ | ⟨i1, i2⟩⟩
            · exact Or.inl ⟨i1, j, by omega, i3, i4⟩
            · omega
            · exact Or.inr ⟨fun j h1 h2 h3 => mem j h1 (fun q => i0 j q h2 h3), Or.inr ⟨i1, bad⟩⟩
          · rw [if_neg hc1]
            have cf0 : cf = 0 := by
              rcases (by omega : cf = 0 ∨ cf = 1) with h | h
              · exact h
              · exact absurd (Or.inl h) hc1
            have nb : (rch C x).testBit x = false := by
              cases hq : (rch C x).testBit x with
              | false => rfl
              | true => exact absurd (Or.inr hq) hc1
            rcases ih (x + 1) f 0 (by omega) (by omega) with ⟨i1, j, i2, i3, i4⟩ | ⟨i0, ⟨i1, i2, i3⟩ | ⟨i1, i2⟩⟩
            · exact Or.inl ⟨i1, j, by omega, i3, i4⟩
            · refine Or.inr ⟨fun j h1 h2 h3 => mem j h1 (fun q => i0 j q h2 h3), Or.inl ⟨i1, cf0, fun j h1 h2 h3 => ?_⟩⟩
              rcases Nat.eq_or_lt_of_le h1 with q | q
              · rw [← q]; exact nb
              · exact i3 j q h2 h3
            · refine Or.inr ⟨fun j h1 h2 h3 => mem j h1 (fun q => i0 j q h2 h3), Or.inr ⟨i1, ?_⟩⟩
              rcases i2 with i2 | ⟨j, i2, i3⟩
              · omega
              · exact Or.inr ⟨j, by omega, i3⟩
  have lc := LC 10 0 (FU - 11) rfl
  have lr := LR 10 0 (FU - 11) 0 rfl (by omega)
  rw [show 10 + (FU - 11 + 1) = FU by unfold FU; omega] at lc lr
  have SUB' : (nI (rch C k ||| 2 ^ k) &&& (nI (wrN H 10) ^^^ -nI 1) = nI 0) ↔ ∀ j, j < 10 → A.testBit j = true → H j = true := SUB
  rcases lr with ⟨i1, j, -, i3, i4, i5⟩ | ⟨i0, lr⟩
  · refine ⟨-5, ?_, i1, fun z => absurd z (by decide)⟩
    rw [if_neg (fun z => by have := SUB'.mp z j i3 i4; rw [i5] at this; cases this)]
    rfl
  · have sub : ∀ j, j < 10 → A.testBit j = true → H j = true := fun j h1 h2 => i0 j (Nat.zero_le _) h1 h2
    rw [if_pos (SUB'.mpr sub)]
    rcases lr with ⟨i1, -, i3⟩ | ⟨i1, i2⟩
    · refine ⟨0, ?_, i1, fun _ j h1 h2 => ⟨sub j h1 h2, i3 j (Nat.zero_le _) h1 h2⟩⟩
      rcases lc with ⟨l1, -⟩ | ⟨-, j, -, l2, l3, l4⟩
      · exact l1
      · have := i3 j (Nat.zero_le _) l2 l3
        rw [this] at l4; cases l4
    · refine ⟨-6, ?_, i1, fun z => absurd z (by decide)⟩
      rcases lc with ⟨-, l2⟩ | ⟨l1, -⟩
      · rcases i2 with z | ⟨j, -, z1, z2, z3⟩
        · omega
        · have := l2 j (Nat.zero_le _) z1 z2
          rw [this] at z3; cases z3
      · exact l1
end OF
