/-! THE LAW'S LOOM, l: what the loom tells, by the law's rows -/
theorem n1ne' : ¬ nI 1 = nI 0 := by decide
def wtN (P : Nat → Bool) : Nat → Nat
  | 0 => 0
  | x + 1 => wtN P x ||| (if P x then 2 ^ x else 0)
/-- rows of picks: the one that goes on, the longest -/
def lgN (P : Nat → Bool) : Nat → Nat × Nat
  | 0 => (0, 0)
  | x + 1 => (if P x then (lgN P x).1 + 1 else 0, if (if P x then (lgN P x).1 + 1 else 0) ≤ (lgN P x).2 then (lgN P x).2 else (if P x then (lgN P x).1 + 1 else 0))
theorem lgN_le (P : Nat → Bool) (x : Nat) : (lgN P x).1 ≤ x ∧ (lgN P x).2 ≤ x := by
  induction x with
  | zero => exact ⟨Nat.le_refl _, Nat.le_refl _⟩
  | succ x ih =>
    have h : (if P x then (lgN P x).1 + 1 else 0) ≤ x + 1 := by split <;> omega
    refine ⟨h, ?_⟩
    show (if (if P x then (lgN P x).1 + 1 else 0) ≤ (lgN P x).2 then (lgN P x).2 else (if P x then (lgN P x).1 + 1 else 0)) ≤ x + 1
    generalize (if P x = true then (lgN P x).1 + 1 else 0) = r at h ⊢
    by_cases z : r ≤ (lgN P x).2
    · rw [if_pos z]; omega
    · rw [if_neg z]; exact h
theorem hit_eq {P Q : Nat → Bool} {n : Nat} (h : ∀ x, x < n → P x = Q x) : hit P n = hit Q n := by
  induction n with
  | zero => rfl
  | succ n ih =>
    show hit P n + _ = hit Q n + _
    rw [ih (fun x hx => h x (by omega)), h n (by omega)]
theorem lgN_eq {P Q : Nat → Bool} {n : Nat} (h : ∀ x, x < n → P x = Q x) : lgN P n = lgN Q n := by
  induction n with
  | zero => rfl
  | succ n ih =>
    unfold lgN
    rw [ih (fun x hx => h x (by omega)), h n (by omega)]
theorem wtN_eq {P Q : Nat → Bool} {n : Nat} (h : ∀ x, x < n → P x = Q x) : wtN P n = wtN Q n := by
  induction n with
  | zero => rfl
  | succ n ih =>
    show wtN P n ||| _ = wtN Q n ||| _
    rw [ih (fun x hx => h x (by omega)), h n (by omega)]
def cL (L : GS) (k : Nat) : Int32 := match k with
  | 0 => nI (wtN (fun x => decide (¬ L 3 x ≤ nI 0)) 5)
  | 1 => L 0 3 | 2 => L 0 4 | 3 => L 0 5 | 4 => L 0 6 | 5 => L 0 7 | 6 => L 0 8
  | 7 => sum6 (fun j => L 1 (12 + j))
  | 8 => sum6 (fun j => L 1 j)
  | 9 => L 0 0 | 10 => L 0 1 | _ => L 0 2
def pL (L : GS) (k : Nat) : Nat → Bool := fun e => decide (PK L e = nI k)
def tL (L : GS) (k w : Nat) : Int32 := if w < 4 then L 1 (6 * w + k) else if w = 4 then nI (hit (pL L k) (L 0 4).toNatClampNeg) else nI (lgN (pL L k) (L 0 4).toNatClampNeg).2
def sL (L : GS) (r w : Nat) : Int32 := if r < (L 0 3).toNatClampNeg then L 4 (6 * ((L 0 3).toNatClampNeg - 1 - r) + (if w = 3 then 4 else w)) else -1
def oL (L : GS) (k w : Nat) : Int32 := if w = 0 then L 3 k else if w = 2 then (f9_calls L (nI k)).getD 0 else L 3 (5 + k)
def VIEW (K : GK) (g : GM) (B : Nat) (L : GS) : Prop :=
  gkd K B = 8 ∧ (∀ k, k < 12 → f7_count K g B (nI k) = some (cL L k)) ∧ (∀ k w, k < 6 → w < 6 → f7_thread K g B (nI k) (nI w) = some (tL L k w)) ∧ (∀ r w, r < 10 → w < 4 → f7_stack K g B (nI r) (nI w) = some (sL L r w)) ∧ ∀ k w, k < 5 → (w = 0 ∨ w = 2 ∨ w = 4) → f7_of K g B (nI k) (nI w) = some (oL L k w)
section LVIEW
variable {K : GK} {g : GM} {B : Nat} {L L' L1 L2 : GS} {S S' S1 : GS} {s s' s1 s2 : Nat → Int32} {i j k n p m q c u l e T d : Nat} {sn : Nat → Nat} {v : Int32}
theorem r_with : f8_withTexts (rw1 S s) = some (nI (wtN (fun x => decide (¬ s (43 + x) ≤ nI 0)) 10)) := by
  have F : ∀ w x f, x + w = 10 → f8_withTexts_4 (rw1 S s) (w + (f + 1)) (nI (wtN (fun x => decide (¬ s (43 + x) ≤ nI 0)) x)) (nI x) = some (nI (wtN (fun x => decide (¬ s (43 + x) ≤ nI 0)) 10)) := by
    intro w
    induction w with
    | zero =>
      intro x f hw
      have : x = 10 := by omega
      subst this
      rw [Nat.zero_add, f8_withTexts_4]
      simp (disch := omega) only [pu_lit, pu_le]
      rw [if_pos (Nat.le_refl _)]
    | succ w ih =>
      intro x f hw
      have hx : ¬ 10 ≤ x := by omega
      have IH := ih (x + 1) f (by omega)
      have e : wtN (fun x => decide (¬ s (43 + x) ≤ nI 0)) (x + 1) = wtN (fun x => decide (¬ s (43 + x) ≤ nI 0)) x ||| (if decide (¬ s (43 + x) ≤ nI 0) then 2 ^ x else 0) := rfl
      rw [e] at IH
      rw [show w + 1 + (f + 1) = (w + (f + 1)) + 1 by omega, f8_withTexts_4, ← IH]
      unfold f8_hasText f8_withTexts_26
      simp (disch := omega) only [EV, NUM, pu_lit, pu_le, hx, if_false, pu_gok, pu_cl, rw1_1]
      by_cases z : s (43 + x) ≤ nI 0
      · rw [if_pos z]
        simp (disch := omega) only [EV, pu_eq, if_true, decide_not, decide_eq_true z, Bool.not_true, Bool.false_eq_true, if_false, pu_or]
      · rw [if_neg z]
        simp (disch := omega) only [EV, decide_not, decide_eq_false z, Bool.not_false, if_true]
        rw [if_neg n1ne', (pu_sh (j := x) (by omega)).1, pu_or]
  have := F 10 0 (FU - 11) rfl
  rw [show 10 + (FU - 11 + 1) = FU by unfold FU; omega] at this
  unfold f8_withTexts
  simp only [pu_lit]
  exact this
theorem r_in (h4 : s 4 = nI c) (hc : c ≤ 400) (v : Int32) : f8_inCloth (rw1 S s) v = some (nI (hit (fun e => decide (s (853 + e) = v)) c)) := by
  have F : ∀ w x f, x + w = c → f8_inCloth_4 (rw1 S s) v (w + (f + 1)) (nI (hit (fun e => decide (s (853 + e) = v)) x)) (nI x) = some (nI (hit (fun e => decide (s (853 + e) = v)) c)) := by
    intro w
    induction w with
    | zero =>
      intro x f hw
      have : x = c := by omega
      subst this
      rw [Nat.zero_add, f8_inCloth_4]
      simp (disch := omega) only [EV, pu_lit, pu_le, pu_gok, pu_cl, rw1_1, h4]
      rw [if_pos (Nat.le_refl _)]
    | succ w ih =>
      intro x f hw
      have hx : ¬ c ≤ x := by omega
      have IH := ih (x + 1) f (by omega)
      have e : hit (fun e => decide (s (853 + e) = v)) (x + 1) = hit (fun e => decide (s (853 + e) = v)) x + (if decide (s (853 + x) = v) then 1 else 0) := rfl
      rw [e] at IH
      rw [show w + 1 + (f + 1) = (w + (f + 1)) + 1 by omega, f8_inCloth_4, ← IH]
      unfold f8_inCloth_34
      simp (disch := omega) only [EV, NUM, pu_lit, pu_le, hx, if_false, pu_gok, pu_cl, rw1_1, h4]
      by_cases z : s (853 + x) = v
      · rw [if_pos z, decide_eq_true z]
        rfl
      · rw [if_neg z, decide_eq_false z]
        rfl
  have := F c 0 (FU - c - 1) (by omega)
  rw [show c + (FU - c - 1 + 1) = FU by unfold FU; omega] at this
  unfold f8_inCloth
  simp only [pu_lit]
  exact this
theorem r_long (h4 : s 4 = nI c) (hc : c ≤ 400) (v : Int32) : f8_longestRow (rw1 S s) v = some (nI (lgN (fun e => decide (s (853 + e) = v)) c).2) := by
  generalize hP : (fun e => decide (s (853 + e) = v)) = P
  have F : ∀ w x f, x + w = c → f8_longestRow_7 (rw1 S s) v (w + (f + 1)) (nI (lgN P x).2) (nI (lgN P x).1) (nI x) = some (nI (lgN P c).2) := by
    intro w
    induction w with
    | zero =>
      intro x f hw
      have : x = c := by omega
      subst this
      rw [Nat.zero_add, f8_longestRow_7]
      simp (disch := omega) only [EV, pu_lit, pu_le, pu_gok, pu_cl, rw1_1, h4]
      rw [if_pos (Nat.le_refl _)]
    | succ w ih =>
      intro x f hw
      have hx : ¬ c ≤ x := by omega
      have IH := ih (x + 1) f (by omega)
      obtain ⟨l1, l2⟩ := lgN_le P x
      have e : lgN P (x + 1) = (if P x then (lgN P x).1 + 1 else 0, if (if P x then (lgN P x).1 + 1 else 0) ≤ (lgN P x).2 then (lgN P x).2 else (if P x then (lgN P x).1 + 1 else 0)) := rfl
      rw [e] at IH
      rw [show w + 1 + (f + 1) = (w + (f + 1)) + 1 by omega, f8_longestRow_7, ← IH]
      unfold f8_longestRow_40 f8_longestRow_51
      simp (disch := omega) only [EV, NUM, pu_lit, pu_le, hx, if_false, pu_gok, pu_cl, rw1_1, h4]
      have hPx : P x = decide (s (853 + x) = v) := by rw [← hP]
      by_cases z : s (853 + x) = v
      · rw [if_pos z, hPx, decide_eq_true z]
        simp only [if_true]
        by_cases y : (lgN P x).1 + 1 ≤ (lgN P x).2
        · rw [if_pos y, if_pos y]
        · rw [if_neg y, if_neg y]
      · rw [if_neg z, hPx, decide_eq_false z]
        simp only [Bool.false_eq_true, if_false]
        rw [if_pos (Nat.zero_le _), if_pos (Nat.zero_le _)]
  have := F c 0 (FU - c - 1) (by omega)
  rw [show c + (FU - c - 1 + 1) = FU by unfold FU; omega] at this
  unfold f8_longestRow
  simp only [pu_lit]
  exact this
theorem CLO.pp (h : CLO L s c) (hk : k < 6) : ∀ e, e < c → decide (s (853 + e) = nI k) = pL L k e := fun e he => by
  obtain ⟨v, v6, z1, z2⟩ := h.2.2.2.2 e he
  unfold pL
  rw [z1, z2]
theorem v_count (h : LR L (S 1) T) (hk : k < 12) : f8_count S (nI k) = some (cL L k) := by
  obtain ⟨c, d, hB, hST, h8⟩ := h
  have eS : S = rw1 S (S 1) := (rw1_self S).symm
  have a1 := hB.1
  have a3 := hB.2.2.1
  obtain ⟨c400, c1, c2, -⟩ := hB.2.2.2.2.2.2.1
  rcases (by omega : k = 0 ∨ k = 1 ∨ k = 2 ∨ k = 3 ∨ k = 4 ∨ k = 5 ∨ k = 6 ∨ k = 7 ∨ k = 8 ∨ k = 9 ∨ k = 10 ∨ k = 11) with z | z | z | z | z | z | z | z | z | z | z | z <;> subst z <;> unfold f8_count
  · rw [if_pos (show nI 0 = 0 from rfl)]
    rw [eS, r_with]
    simp only [EV]
    refine congrArg (fun q => some (nI q)) ?_
    have z5 : ∀ x, 5 ≤ x → x < 10 → wtN (fun x => decide (¬ S 1 (43 + x) ≤ nI 0)) (x + 1) = wtN (fun x => decide (¬ S 1 (43 + x) ≤ nI 0)) x := fun x h1 h2 => by
      show wtN _ x ||| (if decide (¬ S 1 (43 + x) ≤ nI 0) then 2 ^ x else 0) = _
      rw [hB.2.2.2.2.2.2.2.2 x h1 h2, decide_eq_false (fun z => z (Int32.le_refl _))]
      simp
    rw [z5 9 (by omega) (by omega), z5 8 (by omega) (by omega), z5 7 (by omega) (by omega), z5 6 (by omega) (by omega), z5 5 (by omega) (by omega)]
    refine wtN_eq fun x hx => ?_
    obtain ⟨n, sn, y1, y2, -⟩ := hB.2.2.2.2.2.2.2.1 x hx
    rw [y1, y2]
  · rw [if_neg (by decide), if_pos (show nI 1 = 1 from rfl)]
    simp (disch := omega) only [EV, pu_lit, pu_gok, pu_cl]
    exact congrArg some (hST.2.1.trans hST.1.symm)
  · rw [if_neg (by decide), if_neg (by decide), if_pos (show nI 2 = 2 from rfl)]
    simp (disch := omega) only [EV, pu_lit, pu_gok, pu_cl]
    exact congrArg some (c2.trans c1.symm)
  · rw [if_neg (by decide), if_neg (by decide), if_neg (by decide), if_pos (show nI 3 = 3 from rfl)]
    simp (disch := omega) only [EV, pu_lit, pu_gok, pu_cl]
    exact congrArg some (a3 5 (by omega) (by omega)).symm
  · rw [if_neg (by decide), if_neg (by decide), if_neg (by decide), if_neg (by decide), if_pos (show nI 4 = 4 from rfl)]
    simp (disch := omega) only [EV, pu_lit, pu_gok, pu_cl]
    exact congrArg some (a3 6 (by omega) (by omega)).symm
  · rw [if_neg (by decide), if_neg (by decide), if_neg (by decide), if_neg (by decide), if_neg (by decide), if_pos (show nI 5 = 5 from rfl)]
    simp (disch := omega) only [EV, pu_lit, pu_gok, pu_cl]
    exact congrArg some (a3 7 (by omega) (by omega)).symm
  · rw [if_neg (by decide), if_neg (by decide), if_neg (by decide), if_neg (by decide), if_neg (by decide), if_neg (by decide), if_pos (show nI 6 = 6 from rfl)]
    simp (disch := omega) only [EV, pu_lit, pu_gok, pu_cl]
    exact congrArg some h8.symm
  · rw [if_neg (by decide), if_neg (by decide), if_neg (by decide), if_neg (by decide), if_neg (by decide), if_neg (by decide), if_neg (by decide), if_pos (show nI 7 = 7 from rfl)]
    rw [show f8_sumOf S 31 = f8_sumOf S (nI 31) from rfl, re_sum (by omega)]
    simp only [EV]
    refine congrArg some ?_
    have a5 := hB.2.2.2.2.1
    show sum6 _ = sum6 (fun j => L 1 (12 + j))
    unfold sum6
    dsimp only
    rw [a5 _ (by omega), a5 _ (by omega), a5 _ (by omega), a5 _ (by omega), a5 _ (by omega), a5 _ (by omega)]
  · rw [if_neg (by decide), if_neg (by decide), if_neg (by decide), if_neg (by decide), if_neg (by decide), if_neg (by decide), if_neg (by decide), if_neg (by decide), if_pos (show nI 8 = 8 from rfl)]
    rw [show f8_sumOf S 19 = f8_sumOf S (nI 19) from rfl, re_sum (by omega)]
    simp only [EV]
    refine congrArg some ?_
    have a5 := hB.2.2.2.2.1
    show sum6 _ = sum6 (fun j => L 1 j)
    unfold sum6
    dsimp only
    rw [a5 _ (by omega), a5 _ (by omega), a5 _ (by omega), a5 _ (by omega), a5 _ (by omega), a5 _ (by omega)]
  · rw [if_neg (by decide), if_neg (by decide), if_neg (by decide), if_neg (by decide), if_neg (by decide), if_neg (by decide), if_neg (by decide), if_neg (by decide), if_neg (by decide), if_pos (show nI 9 = 9 from rfl)]
    simp (disch := omega) only [EV, pu_lit, pu_gok, pu_cl, pk_sub, Nat.sub_self]
    exact congrArg some (a1 0 (by omega)).symm
  · rw [if_neg (by decide), if_neg (by decide), if_neg (by decide), if_neg (by decide), if_neg (by decide), if_neg (by decide), if_neg (by decide), if_neg (by decide), if_neg (by decide), if_neg (by decide), if_pos (show nI 10 = 10 from rfl)]
    simp (disch := omega) only [EV, pu_lit, pu_gok, pu_cl, pk_sub]
    exact congrArg some (a1 1 (by omega)).symm
  · rw [if_neg (by decide), if_neg (by decide), if_neg (by decide), if_neg (by decide), if_neg (by decide), if_neg (by decide), if_neg (by decide), if_neg (by decide), if_neg (by decide), if_neg (by decide), if_neg (by decide), if_pos (show nI 11 = 11 from rfl)]
    simp (disch := omega) only [EV, pu_lit, pu_gok, pu_cl, pk_sub]
    exact congrArg some (a1 2 (by omega)).symm
theorem v_thread {w : Nat} (h : LR L (S 1) T) (hk : k < 6) (hw : w < 6) : f8_thread S (nI k) (nI w) = some (tL L k w) := by
  obtain ⟨c, d, hB, hST, h8⟩ := h
  have eS : S = rw1 S (S 1) := (rw1_self S).symm
  have hC := hB.2.2.2.2.2.2.1
  obtain ⟨c400, c1, c2, -⟩ := id hC
  have a5 := hB.2.2.2.2.1
  have cl : (L 0 4).toNatClampNeg = c := by rw [c1, pu_cl (by omega)]
  unfold f8_thread f8_isColour
  rw [show f8_within (nI k) 0 5 = f8_within (nI k) (nI 0) (nI 5) from rfl, within_1 (Nat.zero_le _) (by omega) (by omega)]
  simp only [EV, gbl1, if_neg n1ne]
  rcases (by omega : w = 0 ∨ w = 1 ∨ w = 2 ∨ w = 3 ∨ w = 4 ∨ w = 5) with z | z | z | z | z | z <;> subst z
  · rw [if_pos (show nI 0 = 0 from rfl)]
    simp (disch := omega) only [EV, NUM, pu_lit, pu_gok, pu_cl]
    exact congrArg some ((congrArg (S 1) (by omega)).trans (a5 (6 * 0 + k) (by omega)).symm)
  · rw [if_neg (by decide), if_pos (show nI 1 = 1 from rfl)]
    simp (disch := omega) only [EV, NUM, pu_lit, pu_gok, pu_cl]
    exact congrArg some ((congrArg (S 1) (by omega)).trans (a5 _ (by omega)).symm)
  · rw [if_neg (by decide), if_neg (by decide), if_pos (show nI 2 = 2 from rfl)]
    simp (disch := omega) only [EV, NUM, pu_lit, pu_gok, pu_cl]
    exact congrArg some ((congrArg (S 1) (by omega)).trans (a5 _ (by omega)).symm)
  · rw [if_neg (by decide), if_neg (by decide), if_neg (by decide), if_pos (show nI 3 = 3 from rfl)]
    simp (disch := omega) only [EV, NUM, pu_lit, pu_gok, pu_cl]
    exact congrArg some ((congrArg (S 1) (by omega)).trans (a5 _ (by omega)).symm)
  · rw [if_neg (by decide), if_neg (by decide), if_neg (by decide), if_neg (by decide), if_pos (show nI 4 = 4 from rfl), eS, r_in c2 c400]
    simp only [EV]
    show some (nI _) = some (nI (hit (pL L k) (L 0 4).toNatClampNeg))
    rw [cl, hit_eq (hC.pp hk)]
  · rw [if_neg (by decide), if_neg (by decide), if_neg (by decide), if_neg (by decide), if_neg (by decide), if_pos (show nI 5 = 5 from rfl), eS, r_long c2 c400]
    simp only [EV]
    show some (nI _) = some (nI (lgN (pL L k) (L 0 4).toNatClampNeg).2)
    rw [cl, lgN_eq (hC.pp hk)]
theorem within_d {r d : Nat} (hr : r < 2 ^ 20) (hd : d < 2 ^ 20) : f8_within (nI r) 0 (nI d - 1) = some (nI (if r < d then 1 else 0)) := by
  unfold f8_within f8_within_14
  have e := pk_sub_toInt (a := d) (b := 1) (by omega) (by omega)
  have c2 : (nI d - 1 < nI r) = ¬ (r < d) := propext (by rw [Int32.lt_iff_toInt_lt, show nI d - 1 = nI d - nI 1 from rfl, e, nI_toInt (by omega)]; omega)
  rw [if_neg (show ¬ nI r < 0 from nI_pos (by omega))]
  simp only [c2]
  by_cases z : r < d
  · rw [if_neg (fun y => y z), if_pos z]; rfl
  · rw [if_pos z, if_neg z]; rfl
theorem v_stack {r w : Nat} (h : LR L (S 1) T) (hr : r < 10) (hw : w < 4) : f8_stack S (nI r) (nI w) = some (sL L r w) := by
  obtain ⟨c, d, hB, hST, h8⟩ := h
  obtain ⟨q1, q2, q3, q4, q5⟩ := hST
  have cl : (L 0 3).toNatClampNeg = d := by rw [q1, pu_cl (by omega)]
  unfold f8_stack sL
  rw [cl]
  simp (disch := omega) only [EV, pu_gok, show (3 : Int32) = nI 3 from rfl, pu_cl, q2]
  rw [within_d (by omega) (by omega)]
  simp only [EV]
  by_cases z : r < d
  · rw [if_pos z, if_pos z, if_neg n1ne]
    have FR : f8_frame S (nI r) = some (nI (fb (d - 1 - r))) := by
      unfold f8_frame
      simp (disch := omega) only [EV, NUM, pu_lit, pu_gok, pu_cl, q2, pk_sub]
    obtain ⟨n, sn, p, m, hf⟩ : ∃ n sn p m, FL L (S 1) (d - 1 - r) n sn p m := by
      by_cases r0 : r = 0
      · obtain ⟨n, sn, p, m, z1, -⟩ := q5 (d - 1 - r) (by omega)
        exact ⟨n, sn, p, m, z1⟩
      · obtain ⟨n, sn, p, m, z1, -⟩ := q4 (d - 1 - r) (by omega)
        exact ⟨n, sn, p, m, z1⟩
    have V : ∀ x, x < 5 → S 1 (fb (d - 1 - r) + x) = L 4 (6 * (d - 1 - r) + x) := fun x hx => by
      have := hf.2.2 x (Or.inl hx)
      rwa [vf_4 hx] at this
    have hb : fb (d - 1 - r) + 4 < 2081 := by show 1253 + 92 * (d - 1 - r) + 4 < 2081; omega
    rcases (by omega : w = 0 ∨ w = 1 ∨ w = 2 ∨ w = 3) with y | y | y | y <;> subst y
    · rw [if_pos (show nI 0 = 0 from rfl), FR]
      simp (disch := omega) only [EV, NUM, pu_lit, pu_gok, pu_cl]
      exact congrArg some (V 0 (by omega))
    · rw [if_neg (by decide), if_pos (show nI 1 = 1 from rfl), FR]
      simp (disch := omega) only [EV, NUM, pu_lit, pu_gok, pu_cl]
      exact congrArg some (V 1 (by omega))
    · rw [if_neg (by decide), if_neg (by decide), if_pos (show nI 2 = 2 from rfl), FR]
      simp (disch := omega) only [EV, NUM, pu_lit, pu_gok, pu_cl]
      exact congrArg some (V 2 (by omega))
    · rw [if_neg (by decide), if_neg (by decide), if_neg (by decide), if_pos rfl, FR]
      simp (disch := omega) only [EV, NUM, pu_lit, pu_gok, pu_cl]
      exact congrArg some (V 4 (by omega))
  · rw [if_neg z, if_neg z, if_pos nI_0]
theorem v_of {w : Nat} (hS : SIM K g S B) (h : LR L (S 1) T) (hk : k < 5) (hw : w = 0 ∨ w = 2 ∨ w = 4) : f8_of S (nI k) (nI w) = some (oL L k w) := by
  obtain ⟨c, d, hB, hST, h8⟩ := h
  unfold f8_of f8_isCard
  rw [show f8_within (nI k) 0 9 = f8_within (nI k) (nI 0) (nI 9) from rfl, within_1 (Nat.zero_le _) (by omega) (by omega)]
  simp only [EV, gbl1, if_neg n1ne]
  rcases hw with y | y | y <;> subst y
  · obtain ⟨n, sn, y1, y2, -⟩ := hB.2.2.2.2.2.2.2.1 k hk
    rw [if_pos (show nI 0 = 0 from rfl)]
    simp (disch := omega) only [EV, NUM, pu_lit, pu_gok, pu_cl, y2]
    exact congrArg some y1.symm
  · obtain ⟨C, c1, -⟩ := l_graph hS hB
    obtain ⟨-, c2, c3⟩ := c1 k hk
    rw [if_neg (by decide), if_neg (by decide), if_pos (show nI 2 = 2 from rfl), c3]
    simp only [EV]
    show _ = some ((f9_calls L (nI k)).getD 0)
    rw [c2]
    rfl
  · rw [if_neg (by decide), if_neg (by decide), if_neg (by decide), if_neg (by decide), if_pos (show nI 4 = 4 from rfl)]
    simp (disch := omega) only [EV, NUM, pu_lit, pu_gok, pu_cl]
    exact congrArg some (hB.2.2.2.2.2.1 k hk).symm
theorem of_f8 {X Y : Option Int32} (h : ∃ r, X = some r ∧ Y = some r) {v : Int32} (hY : Y = some v) : X = some v := by
  obtain ⟨r, h1, h2⟩ := h
  rw [h1, ← h2, hY]
theorem view (hS : SIM K g S B) (h : LR L (S 1) T) : VIEW K g B L := by
  refine ⟨?_, fun k hk => of_f8 (op_count hS _) (v_count h hk), fun k w hk hw => of_f8 (op_thread hS _ _) (v_thread h hk hw), fun r w hr hw => of_f8 (op_stack hS _ _) (v_stack h hr hw), fun k w hk hw => of_f8 (op_of hS _ _) (v_of hS h hk hw)⟩
  unfold gkd
  rw [show B = B + 0 from rfl, hS.1.1 0 (by omega)]
  rfl
/-- what is told depends on the view alone -/
def toldC (F : Nat → Int32) : Nat → Nat → Int64 → Int64
  | 0, _, v => v
  | w + 1, x, v => toldC F w (x + 1) (31 * v + (F x).toInt64)
def toldT (F G : Nat → Int32) : Nat → Nat → Int64 → Int64
  | 0, _, v => v
  | w + 1, x, v => toldT F G w (x + 1) (31 * (31 * v + (F x).toInt64) + (G x).toInt64)
def toldO (F G H : Nat → Int32) : Nat → Nat → Int64 → Int64
  | 0, _, v => v
  | w + 1, x, v => toldO F G H w (x + 1) (31 * (31 * v + (F x).toInt64) + 100 * (G x).toInt64 + (H x).toInt64)
def toldL (L : GS) : Int64 := toldO (fun x => oL L x 0) (fun x => oL L x 2) (fun x => oL L x 4) 5 0 (toldT (fun x => tL L (x % 6) (x / 6)) (fun x => sL L (x / 4) (x % 4)) 36 0 (toldC (cL L) 12 0 193))
theorem told_83 (hV : VIEW K g B L) : ∀ w x f v, x + w = 5 → f9_told_83 K g B (w + (f + 1)) v (nI x) = some (toldO (fun x => oL L x 0) (fun x => oL L x 2) (fun x => oL L x 4) w x v) := by
  intro w
  induction w with
  | zero =>
    intro x f v hw
    have : x = 5 := by omega
    subst this
    rw [Nat.zero_add, f9_told_83]
    simp (disch := omega) only [pu_lit, pu_le]
    rw [if_pos (Nat.le_refl _)]
    rfl
  | succ w ih =>
    intro x f v hw
    have hx : ¬ 5 ≤ x := by omega
    have e0 := hV.2.2.2.2 x 0 (by omega) (Or.inl rfl)
    have e2 := hV.2.2.2.2 x 2 (by omega) (Or.inr (Or.inl rfl))
    have e4 := hV.2.2.2.2 x 4 (by omega) (Or.inr (Or.inr rfl))
    rw [show w + 1 + (f + 1) = (w + (f + 1)) + 1 by omega, f9_told_83]
    simp (disch := omega) only [EV, NUM, pu_lit, pu_le, hx, if_false, hV.1, decide_true, e0, e2, e4, pu_gl]
    exact ih (x + 1) f _ (by omega)
theorem told_33 (hV : VIEW K g B L) : ∀ w x f v, x + w = 36 → f9_told_33 K g B (w + (f + 1)) v (nI x) = some (toldO (fun x => oL L x 0) (fun x => oL L x 2) (fun x => oL L x 4) 5 0 (toldT (fun x => tL L (x % 6) (x / 6)) (fun x => sL L (x / 4) (x % 4)) w x v)) := by
  intro w
  induction w with
  | zero =>
    intro x f v hw
    have : x = 36 := by omega
    subst this
    rw [Nat.zero_add, f9_told_33]
    simp (disch := omega) only [pu_lit, pu_le]
    rw [if_pos (Nat.le_refl _)]
    have := told_83 hV 5 0 (FU - 6) v rfl
    rw [show 5 + (FU - 6 + 1) = FU by unfold FU; omega] at this
    exact this
  | succ w ih =>
    intro x f v hw
    have hx : ¬ 36 ≤ x := by omega
    have e0 := hV.2.2.1 (x % 6) (x / 6) (by omega) (by omega)
    have e2 := hV.2.2.2.1 (x / 4) (x % 4) (by omega) (by omega)
    rw [show w + 1 + (f + 1) = (w + (f + 1)) + 1 by omega, f9_told_33]
    rw [show nI x - nI x / (6 : Int32) * (6 : Int32) = nI (x % 6) from pk_rem (d := 6) (by omega) (by omega) (by omega), show nI x / (6 : Int32) = nI (x / 6) from pk_div (d := 6) (by omega) (by omega) (by omega), show nI x - nI x / (4 : Int32) * (4 : Int32) = nI (x % 4) from pk_rem (d := 4) (by omega) (by omega) (by omega), show nI x / (4 : Int32) = nI (x / 4) from pk_div (d := 4) (by omega) (by omega) (by omega)]
    simp (disch := omega) only [EV, NUM, pu_lit, pu_le, hx, if_false, hV.1, decide_true, e0, e2, pu_gl]
    exact ih (x + 1) f _ (by omega)
theorem told_6 (hV : VIEW K g B L) : ∀ w x f v, x + w = 12 → f9_told_6 K g B (w + (f + 1)) v (nI x) = some (toldO (fun x => oL L x 0) (fun x => oL L x 2) (fun x => oL L x 4) 5 0 (toldT (fun x => tL L (x % 6) (x / 6)) (fun x => sL L (x / 4) (x % 4)) 36 0 (toldC (cL L) w x v))) := by
  intro w
  induction w with
  | zero =>
    intro x f v hw
    have : x = 12 := by omega
    subst this
    rw [Nat.zero_add, f9_told_6]
    simp (disch := omega) only [pu_lit, pu_le]
    rw [if_pos (Nat.le_refl _)]
    have := told_33 hV 36 0 (FU - 37) v rfl
    rw [show 36 + (FU - 37 + 1) = FU by unfold FU; omega] at this
    exact this
  | succ w ih =>
    intro x f v hw
    have hx : ¬ 12 ≤ x := by omega
    have e0 := hV.2.1 x (by omega)
    rw [show w + 1 + (f + 1) = (w + (f + 1)) + 1 by omega, f9_told_6]
    simp (disch := omega) only [EV, NUM, pu_lit, pu_le, hx, if_false, hV.1, decide_true, e0, pu_gl]
    exact ih (x + 1) f _ (by omega)
theorem told_eq (hV : VIEW K g B L) : f9_told K g B = some (toldL L) := by
  unfold f9_told
  have := told_6 hV 12 0 (FU - 13) 193 rfl
  rw [show 12 + (FU - 13 + 1) = FU by unfold FU; omega] at this
  exact this
end LVIEW
