/-! THE LAW'S LOOM, o: a card is as it should be -/
section LCARD
variable {K : GK} {g : GM} {B : Nat} {L L' L1 L2 : GS} {S S' S1 : GS} {s s' s1 s2 : Nat → Int32} {i j k n p m q c u l e T d r : Nat} {sn : Nat → Nat} {v : Int32} {E : Nat → Nat}
theorem ch_le (hv : VT sn n) {x : Nat} (hx : x < n) : sn x ≤ 120 := by
  rcases tcase (hv.ne (p := x + 1) (by omega)) with ⟨-, z, -⟩ | ⟨-, z, -⟩ | ⟨-, -, z, -⟩ | ⟨-, -, z, -⟩ | ⟨-, -, z, -⟩ | ⟨-, -, z, -⟩ | ⟨-, z, -⟩
  · unfold isLet at z; omega
  all_goals omega
theorem l_steps (hk : k < 5) (hn : n ≤ 24) (h3 : L 3 k = nI n) (hat : ∀ x, x < n → f9_at2 L (nI k) (nI x) = some (nI (sn x))) (hc : ∀ x, x < n → sn x ≤ 120) : f9_steps L (nI k) = some (nI (stN sn n)) := by
  have F : ∀ w x f, x + w = n → f9_steps_5 L (nI k) (w + (f + 1)) (nI (stN sn x)) (nI x) = some (nI (stN sn n)) := by
    intro w
    induction w with
    | zero =>
      intro x f hw
      have : x = n := by omega
      subst this
      rw [Nat.zero_add, f9_steps_5]
      simp (disch := omega) only [EV, pu_lit, pu_gok, pu_cl, h3, pu_le]
      rw [if_pos (Nat.le_refl _)]
    | succ w ih =>
      intro x f hw
      have hx : ¬ n ≤ x := by omega
      have hsx := hat x (by omega)
      have hcx := hc x (by omega)
      rw [← ih (x + 1) f (by omega), show w + 1 + (f + 1) = (w + (f + 1)) + 1 by omega, f9_steps_5]
      unfold f9_steps_31
      have e : stN sn (x + 1) = stN sn x + (if 97 ≤ sn x ∧ sn x ≤ 122 then 1 else 0) := rfl
      rw [e]
      simp (disch := omega) only [EV, NUM, pu_lit, pu_gok, pu_cl, h3, pu_le, hx, if_false, hsx, pu_lt]
      by_cases c1 : sn x < 97
      · rw [if_pos c1, if_neg (by omega)]
      · rw [if_neg c1, if_pos (by omega)]
  unfold f9_steps
  have := F n 0 (FU - n - 1) (by omega)
  rwa [show n + (FU - n - 1 + 1) = FU by unfold FU; omega] at this
/-- how often a card is on the stack -/
theorem r_times (hST : STL L s d atStep) (v : Int32) : f8_timesOnStack (rw1 S s) v = some (nI (hit (fun e => decide (L 4 (6 * e) = v)) d)) := by
  obtain ⟨q1, q2, d9, q4, q5⟩ := hST
  have F : ∀ i, i < d → s (fb i) = L 4 (6 * i) := fun i hi => by
    have A : ∀ {n sn p m}, FL L s i n sn p m → s (fb i) = L 4 (6 * i) := fun z => by
      have := z.2.2 0 (Or.inl (by omega))
      rwa [vf_4 (by omega), Nat.add_zero, Nat.add_zero] at this
    by_cases e : i + 1 = d
    · obtain ⟨n, sn, p, m, z, -⟩ := q5 i e
      exact A z
    · obtain ⟨n, sn, p, m, z, -⟩ := q4 i (by omega)
      exact A z
  let P : Nat → Bool := fun e => decide (L 4 (6 * e) = v)
  have L2 : ∀ w x f, x + w = d → f8_timesOnStack_4 (rw1 S s) v (w + (f + 1)) (nI (hit (fun r => P (d - 1 - r)) x)) (nI x) = some (nI (hit (fun r => P (d - 1 - r)) d)) := by
    intro w
    induction w with
    | zero =>
      intro x f hw
      have : x = d := by omega
      subst this
      rw [Nat.zero_add, f8_timesOnStack_4]
      simp (disch := omega) only [EV, pu_lit, pu_gok, pu_cl, rw1_1, q2, pu_le]
      rw [if_pos (Nat.le_refl _)]
    | succ w ih =>
      intro x f hw
      have hx : ¬ d ≤ x := by omega
      have IH := ih (x + 1) f (by omega)
      have e : hit (fun r => P (d - 1 - r)) (x + 1) = hit (fun r => P (d - 1 - r)) x + (if P (d - 1 - x) then 1 else 0) := rfl
      rw [e] at IH
      have hF := F (d - 1 - x) (by omega)
      have bnd : 1253 + 92 * (d - 1 - x) < 2081 := by omega
      rw [show w + 1 + (f + 1) = (w + (f + 1)) + 1 by omega, f8_timesOnStack_4]
      unfold f8_timesOnStack_36 f8_frame
      simp (disch := omega) only [EV, NUM, pu_lit, pu_gok, pu_cl, rw1_1, q2, pu_le, hx, if_false, pk_sub, Nat.add_zero]
      have hF' : s (1253 + 92 * (d - 1 - x)) = L 4 (6 * (d - 1 - x)) := hF
      rw [hF']
      by_cases hq : L 4 (6 * (d - 1 - x)) = v
      · have : P (d - 1 - x) = true := decide_eq_true hq
        rw [this] at IH
        rw [if_pos hq]
        exact IH
      · have : P (d - 1 - x) = false := decide_eq_false hq
        rw [this] at IH
        rw [if_neg hq]
        exact IH
  have := L2 d 0 (FU - d - 1) (by omega)
  rw [show d + (FU - d - 1 + 1) = FU by unfold FU; omega] at this
  have e := hit_rev P d d (Nat.le_refl _)
  rw [Nat.sub_self] at e
  have e0 : hit P 0 = 0 := rfl
  rw [show hit (fun r => P (d - 1 - r)) d = hit P d by omega] at this
  exact this
theorem l_isCard (hS : SIM K g S B) (h : LR L (S 1) T) (hk : k < 5) : f9_isCard K g L B (nI k) = some 1 := by
  have hV := view hS h
  obtain ⟨c, d, hB, hST, h8⟩ := h
  have eS : rw1 S (S 1) = S := rw1_self S
  obtain ⟨n, sn, y1, y2, y3, y4, y5⟩ := hB.2.2.2.2.2.2.2.1 k hk
  have hat := CD.at y5 hk y3
  obtain ⟨C, g1, g2⟩ := l_graph hS hB
  obtain ⟨C1, C2, C3⟩ := g1 k hk
  obtain ⟨D1, D2⟩ := g2 k hk
  have d9 := hST.2.2.1
  have q1 := hST.1
  let Q : Nat → Bool := fun e => decide (L 4 (6 * e) = nI k)
  have RT : f8_timesOnStack S (nI k) = some (nI (hit Q d)) := by
    have := r_times (S := S) hST (nI k)
    rwa [eS] at this
  -- what the class answers
  have OF : ∀ w : Nat, ∀ v, f8_of S (nI k) (nI w) = some v → f7_of K g B (nI k) (nI w) = some v := fun w v hv => of_f8 (op_of hS _ _) hv
  have I1 : ∀ w : Nat, f8_of S (nI k) (nI w) = if nI w = 0 then gd (gok (nI (43 + k)) 2081) (some (S 1 (nI (43 + k)).toNatClampNeg)) else if nI w = 1 then (f8_steps S (nI k)).bind (fun v8 => some v8) else if nI w = 2 then (f8_calls S (nI k)).bind (fun v11 => some v11) else if nI w = 3 then (f8_callers S (nI k)).bind (fun v14 => some v14) else if nI w = 4 then gd (gok (nI (9 + k)) 2081) (some (S 1 (nI (9 + k)).toNatClampNeg)) else if nI w = 5 then (f8_timesOnStack S (nI k)).bind (fun v20 => some v20) else if nI w = 6 then (f8_nested S (nI k)).bind (fun v23 => some v23) else some (-2) := fun w => by
    unfold f8_of f8_isCard
    rw [show f8_within (nI k) 0 9 = f8_within (nI k) (nI 0) (nI 9) from rfl, within_1 (Nat.zero_le _) (by omega) (by omega)]
    simp only [EV, gbl1, if_neg n1ne]
    rw [show (43 : Int32) + nI k = nI (43 + k) from nI_add 43 k, show (9 : Int32) + nI k = nI (9 + k) from nI_add 9 k]
  have o0 : f7_of K g B (nI k) (nI 0) = some (nI n) := by
    rw [hV.2.2.2.2 k 0 hk (Or.inl rfl)]
    exact congrArg some y1
  have o2 : f7_of K g B (nI k) (nI 2) = some (nI (C k)) := OF 2 _ (by rw [I1, if_neg (by decide), if_neg (by decide), if_pos (show nI 2 = 2 from rfl), C3]; rfl)
  have o3 : f7_of K g B (nI k) (nI 3) = some (nI (clN C k 10)) := OF 3 _ (by rw [I1, if_neg (by decide), if_neg (by decide), if_neg (by decide), if_pos (show nI 3 = 3 from rfl), D2]; rfl)
  have o4 : f7_of K g B (nI k) (nI 4) = some (L 3 (5 + k)) := hV.2.2.2.2 k 4 hk (Or.inr (Or.inr rfl))
  have o5 : f7_of K g B (nI k) (nI 5) = some (nI (hit Q d)) := OF 5 _ (by rw [I1, if_neg (by decide), if_neg (by decide), if_neg (by decide), if_neg (by decide), if_neg (by decide), if_pos (show nI 5 = 5 from rfl), RT]; rfl)
  have hc : ∀ x, x < n → sn x ≤ 120 := fun x hx => ch_le (y4 (by omega)) hx
  have ST8 : f8_steps S (nI k) = some (nI (stN sn n)) := by
    have := re_steps (S := S) (k := k) (by omega) y2 (by omega) (fun x hx => (y5 x hx).1) (fun x hx => by have := hc x hx; omega)
    rwa [eS] at this
  have o1 : f7_of K g B (nI k) (nI 1) = some (nI (stN sn n)) := OF 1 _ (by rw [I1, if_neg (by decide), if_pos (show nI 1 = 1 from rfl), ST8]; rfl)
  have ST9 := l_steps hk y3 y1 hat hc
  -- nesting
  have NS : ∃ N, f8_nested S (nI k) = some (nI N) ∧ ∀ f x6, ∃ z7, f9_isCard_51 K g L B (nI k) (n + (f + 1)) x6 (nI 0) (nI 0) (nI 0) = f9_isCard_51 K g L B (nI k) (f + 1) x6 z7 (nI N) (nI n) := by
    by_cases n0 : n = 0
    · subst n0
      refine ⟨0, ?_, fun f x6 => ⟨nI 0, by rw [Nat.zero_add]⟩⟩
      have := re_nested0 (S := S) (k := k) (by omega) y2
      rwa [eS] at this
    · have hv := y4 (by omega)
      have h80 := hv.1
      have hc' := hv.2.2.2
      refine ⟨nsN sn n, ?_, fun f x6 => ⟨nI (ks sn n).length, ?_⟩⟩
      · have := re_nested (S := S) (k := k) (by omega) hv y2 (fun x hx => (y5 x hx).1)
        rwa [eS] at this
      · have F : ∀ w x, x + w = n → f9_isCard_51 K g L B (nI k) (w + (f + 1)) x6 (nI (ks sn x).length) (nI (nsN sn x)) (nI x) = f9_isCard_51 K g L B (nI k) (f + 1) x6 (nI (ks sn n).length) (nI (nsN sn n)) (nI n) := by
          intro w
          induction w with
          | zero =>
            intro x hw
            have : x = n := by omega
            subst this
            rw [Nat.zero_add]
          | succ w ih =>
            intro x hw
            have hx : ¬ n ≤ x := by omega
            have hsx := hat x (by omega)
            have hcx := hc' x (by omega)
            have IH := ih (x + 1) (by omega)
            have e : nsN sn (x + 1) = max (nsN sn x) (ks sn (x + 1)).length := rfl
            have l0 := nsN_le (hv.ne (p := x) (by omega))
            have l1 := nsN_le (hv.ne (p := x + 1) (by omega))
            obtain ⟨k40, k41, kne⟩ := ks_step hv (p := x) (by omega)
            have M : ∀ v : Nat, v = (ks sn (x + 1)).length → (if v ≤ nsN sn x then f9_isCard_112 (f9_isCard_51 K g L B (nI k) (w + (f + 1))) K g L B (nI k) x6 (nI v) (nI x) (nI (nsN sn x)) else f9_isCard_112 (f9_isCard_51 K g L B (nI k) (w + (f + 1))) K g L B (nI k) x6 (nI v) (nI x) (nI v)) = f9_isCard_51 K g L B (nI k) (f + 1) x6 (nI (ks sn n).length) (nI (nsN sn n)) (nI n) := by
              intro v hv'
              unfold f9_isCard_112
              simp (disch := omega) only [EV, NUM, pu_lit]
              by_cases hle : v ≤ nsN sn x
              · rw [if_pos hle, ← IH, e, hv', show max (nsN sn x) (ks sn (x + 1)).length = nsN sn x by omega]
              · rw [if_neg hle, ← IH, e, hv', show max (nsN sn x) (ks sn (x + 1)).length = (ks sn (x + 1)).length by omega]
            rw [show w + 1 + (f + 1) = (w + (f + 1)) + 1 by omega, f9_isCard_51]
            unfold f9_isCard_95
            simp (disch := omega) only [EV, NUM, pu_lit, pu_gok, pu_cl, y1, pu_le, hx, if_false, hsx, pu_eq]
            by_cases c1 : sn x = 40
            · simp only [c1, if_true]
              exact M ((ks sn x).length + 1) (by rw [k40 c1]; simp)
            · by_cases c2 : sn x = 41
              · obtain ⟨⟨e', he⟩, -⟩ := k41 c2
                have hl : (ks sn x).length = (ks sn (x + 1)).length + 1 := by rw [he]; rfl
                simp (disch := omega) only [c1, c2, if_false, if_true, pu_m1', pu_le]
                rw [if_neg (by decide)]
                exact M ((ks sn x).length - 1) (by omega)
              · simp only [c1, c2, if_false, Nat.add_zero]
                exact M (ks sn x).length (by rw [kne c1 c2])
        exact F n 0 (by omega)
  obtain ⟨N, NS8, NS9⟩ := NS
  have o6 : f7_of K g B (nI k) (nI 6) = some (nI N) := OF 6 _ (by rw [I1, if_neg (by decide), if_neg (by decide), if_neg (by decide), if_neg (by decide), if_neg (by decide), if_neg (by decide), if_pos (show nI 6 = 6 from rfl), NS8]; rfl)
  -- the loop over the stack
  have G : ∀ w x f, x + w = d → f9_isCard_12 K g L B (nI k) (w + (f + 1)) (nI (hit Q x)) (nI 0) (nI 0) (nI x) = f9_isCard_51 K g L B (nI k) FU (nI (hit Q d)) (nI 0) (nI 0) (nI 0) := by
    intro w
    induction w with
    | zero =>
      intro x f hw
      have : x = d := by omega
      subst this
      rw [Nat.zero_add, f9_isCard_12]
      simp (disch := omega) only [EV, pu_lit, pu_gok, pu_cl, q1, pu_le]
      rw [if_pos (Nat.le_refl _)]
    | succ w ih =>
      intro x f hw
      have hx : ¬ d ≤ x := by omega
      have IH := ih (x + 1) f (by omega)
      have e : hit Q (x + 1) = hit Q x + (if Q x then 1 else 0) := rfl
      rw [e] at IH
      rw [show w + 1 + (f + 1) = (w + (f + 1)) + 1 by omega, f9_isCard_12, ← IH]
      unfold f9_isCard_39
      simp (disch := omega) only [EV, NUM, pu_lit, pu_gok, pu_cl, q1, pu_le, hx, if_false]
      by_cases z : L 4 (6 * x) = nI k
      · have : Q x = true := decide_eq_true z
        rw [if_pos z, this]
        rfl
      · have : Q x = false := decide_eq_false z
        rw [if_neg z, this]
        rfl
  have := G d 0 (FU - d - 1) (by omega)
  rw [show d + (FU - d - 1 + 1) = FU by unfold FU; omega] at this
  unfold f9_isCard
  have e0 : f9_isCard_12 K g L B (nI k) FU 0 0 0 0 = f9_isCard_12 K g L B (nI k) FU (nI (hit Q 0)) (nI 0) (nI 0) (nI 0) := rfl
  rw [e0, this]
  obtain ⟨z7, N9⟩ := NS9 (FU - n - 1) (nI (hit Q d))
  rw [show n + (FU - n - 1 + 1) = FU by unfold FU; omega] at N9
  rw [N9, f9_isCard_51]
  simp (disch := omega) only [EV, NUM, pu_lit, pu_gok, pu_cl, y1, pu_le, hV.1, decide_true, o0, o1, o2, o3, o4, o5, o6, ST9, C2, D1, if_true]
  rw [if_pos (Nat.le_refl _)]
end LCARD
