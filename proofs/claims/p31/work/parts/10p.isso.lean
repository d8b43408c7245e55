/-! THE LAW'S LOOM, p: all that is told is as it should be -/
def sumI (F : Nat → Int32) : Nat → Int32
  | 0 => nI 0
  | x + 1 => sumI F x + F x
theorem sumI_6 (F : Nat → Int32) : sumI F 6 = sum6 F := by
  unfold sumI sumI sumI sumI sumI sumI sumI sum6
  rw [nI_0, Int32.zero_add]
section LISSO
variable {K : GK} {g : GM} {B : Nat} {L L' L1 L2 : GS} {S S' S1 : GS} {s s' s1 s2 : Nat → Int32} {i j k n p m q c u l e T d r : Nat} {sn : Nat → Nat} {v : Int32} {E : Nat → Nat}
theorem low_eq (v : Int32) {n : Nat} (h0 : 0 < n) (hn : n < 2 ^ 31) : ∃ j, j < n ∧ f9_low v (nI n) = some (nI j) := by
  have e := pk_and v (m := 2147483647) 31 (by decide +kernel)
  refine ⟨v.toBitVec.toNat % 2 ^ 31 % n, Nat.mod_lt _ h0, ?_⟩
  unfold f9_low
  rw [e, decide_eq_true (nI_ne0 h0 hn)]
  simp only [EV]
  rw [pk_rem (Nat.mod_lt _ (by decide)) h0 hn]
theorem v_pick (h : LR L (S 1) T) (hj : j < 2 ^ 20) : f8_pick S (nI j) = some (if j < (L 0 4).toNatClampNeg then PK L j else -1) := by
  obtain ⟨c, d, hB, hST, h8⟩ := h
  obtain ⟨c400, x1, x2, -, x4⟩ := hB.2.2.2.2.2.2.1
  have cl : (L 0 4).toNatClampNeg = c := by rw [x1, pu_cl (by omega)]
  rw [cl]
  unfold f8_pick
  simp (disch := omega) only [EV, pu_gok, show (4 : Int32) = nI 4 from rfl, pu_cl, x2]
  rw [within_d hj (by omega)]
  simp only [EV]
  by_cases z : j < c
  · obtain ⟨v, v6, z1, z2⟩ := x4 j z
    rw [if_pos z, if_pos z, if_neg n1ne]
    simp (disch := omega) only [EV, NUM, pu_lit, pu_gok, pu_cl]
    rw [z1, z2]
  · rw [if_neg z, if_neg z, if_pos nI_0]
theorem l_isSo (hS : SIM K g S B) (h : LR L (S 1) T) (v : Int32) : f9_isSo K g L B v = some 1 := by
  have hV := view hS h
  have hT : ∀ k r, k < 6 → r < 6 → f9_isThread K g L B (nI k) (nI r) = some 1 := fun k r hk hr => l_isThread hS h hk hr
  have hCd : ∀ k, k < 5 → f9_isCard K g L B (nI k) = some 1 := fun k hk => l_isCard hS h hk
  have hP : ∀ j, j < 2 ^ 20 → f7_pick K g B (nI j) = some (if j < (L 0 4).toNatClampNeg then PK L j else -1) := fun j hj => of_f8 (op_pick hS _) (v_pick h hj)
  obtain ⟨c, d, hB, hST, h8⟩ := h
  obtain ⟨c400, x1, x2, -, x4⟩ := hB.2.2.2.2.2.2.1
  have cl : (L 0 4).toNatClampNeg = c := by rw [x1, pu_cl (by omega)]
  obtain ⟨q1, q2, d9, -⟩ := hST
  have dl : (L 0 3).toNatClampNeg = d := by rw [q1, pu_cl (by omega)]
  have X422 : f9_isSo_422 K g L B v (nI 1) = some (nI 1) := by
    unfold f9_isSo_422
    rw [if_neg n1ne]
    obtain ⟨a, a6, ha⟩ := low_eq (v >>> (4 &&& 31)) (n := 6) (by omega) (by omega)
    obtain ⟨b, b6, hb⟩ := low_eq (v >>> (7 &&& 31)) (n := 6) (by omega) (by omega)
    obtain ⟨e, e5, he⟩ := low_eq (v >>> (10 &&& 31)) (n := 5) (by omega) (by omega)
    rw [show f9_low (v >>> (4 &&& 31)) 6 = some (nI a) from ha, show f9_low (v >>> (7 &&& 31)) 6 = some (nI b) from hb, show f9_low (v >>> (10 &&& 31)) 5 = some (nI e) from he]
    simp only [EV, hT a b a6 b6, hCd e e5]
    rw [if_neg (by decide), if_neg (by decide)]
    rfl
  have X386 : ∀ z, f9_isSo_386 K g L B v z z = some (nI 1) := fun z => by
    unfold f9_isSo_386 f9_isSo_417
    rw [if_pos rfl]
    simp (disch := omega) only [EV, pu_lit, pu_gok, pu_cl, x1, pu_eq]
    by_cases c0 : c = 0
    · rw [if_pos c0]; exact X422
    · rw [if_neg c0]
      have := hP (c - 1) (by omega)
      rw [cl, if_pos (by omega)] at this
      simp (disch := omega) only [EV, hV.1, decide_true, pk_sub, this, l_pickAt (show c - 1 < 400 by omega), if_true]
      exact X422
  have F3 : ∀ w x f, x + w = d → f9_isSo_230 K g L B v (w + (f + 1)) (nI 1) (nI x) = some (nI 1) := by
    intro w
    induction w with
    | zero =>
      intro x f hw
      have : x = d := by omega
      subst this
      rw [Nat.zero_add, f9_isSo_230]
      obtain ⟨j, j4, hj⟩ := low_eq v (n := 401) (by omega) (by omega)
      have st := hV.2.2.2.1 x 0 (by omega) (by omega)
      have st' : f7_stack K g B (nI x) (nI 0) = some (-1) := by
        rw [st]
        unfold sL
        rw [dl, if_neg (Nat.lt_irrefl _)]
      have pj := hP j (by omega)
      rw [cl] at pj
      simp (disch := omega) only [EV, pu_gok, show (3 : Int32) = nI 3 from rfl, show (4 : Int32) = nI 4 from rfl, pu_cl, q1, pu_le]
      rw [if_pos (Nat.le_refl _), show f9_low v 401 = some (nI j) from hj]
      simp only [EV, hV.1, decide_true]
      rw [if_neg n1ne, show f7_stack K g B (nI x) 0 = some (-1) from st']
      simp (disch := omega) only [EV, pj, x1, pu_le, if_true]
      by_cases z : j < c
      · rw [if_pos z, if_neg (by omega), l_pickAt (by omega)]
        exact X386 _
      · rw [if_neg z, if_pos (by omega)]
        exact X386 _
    | succ w ih =>
      intro x f hw
      have hx : ¬ d ≤ x := by omega
      have IH := ih (x + 1) f (by omega)
      have st : ∀ w', w' < 4 → f7_stack K g B (nI x) (nI w') = some (L 4 (6 * (d - 1 - x) + (if w' = 3 then 4 else w'))) := fun w' hw' => by
        rw [hV.2.2.2.1 x w' (by omega) hw']
        unfold sL
        rw [dl, if_pos (by omega)]
      have s0 : f7_stack K g B (nI x) (nI 0) = some (L 4 (6 * (d - 1 - x))) := st 0 (by omega)
      have s1 : f7_stack K g B (nI x) (nI 1) = some (L 4 (6 * (d - 1 - x) + 1)) := st 1 (by omega)
      have s2 : f7_stack K g B (nI x) (nI 2) = some (L 4 (6 * (d - 1 - x) + 2)) := st 2 (by omega)
      have s3 : f7_stack K g B (nI x) (nI 3) = some (L 4 (6 * (d - 1 - x) + 4)) := st 3 (by omega)
      rw [show w + 1 + (f + 1) = (w + (f + 1)) + 1 by omega, f9_isSo_230]
      unfold f9_isSo_327
      simp (disch := omega) only [EV, NUM, pu_lit, pu_gok, pu_cl, q1, pu_le, hx, if_false, pk_sub, hV.1, decide_true, s0, s1, s2, s3, if_true]
      rw [if_neg n1ne']
      exact IH
  have X225 : f9_isSo_225 K g L B v (nI 1) = some (nI 1) := by
    unfold f9_isSo_225
    have := F3 d 0 (FU - d - 1) (by omega)
    rw [show d + (FU - d - 1 + 1) = FU by unfold FU; omega] at this
    exact this
  have C : ∀ k, k < 12 → f7_count K g B (nI k) = some (cL L k) := hV.2.1
  have c0 : f7_count K g B (nI 0) = some (nI (wtN (fun x => decide (¬ L 3 x ≤ nI 0)) 5)) := C 0 (by omega)
  have c1 : f7_count K g B (nI 1) = some (L 0 3) := C 1 (by omega)
  have c2 : f7_count K g B (nI 2) = some (L 0 4) := C 2 (by omega)
  have c3 : f7_count K g B (nI 3) = some (L 0 5) := C 3 (by omega)
  have c4 : f7_count K g B (nI 4) = some (L 0 6) := C 4 (by omega)
  have c5 : f7_count K g B (nI 5) = some (L 0 7) := C 5 (by omega)
  have c6 : f7_count K g B (nI 6) = some (L 0 8) := C 6 (by omega)
  have c7 : f7_count K g B (nI 7) = some (sumI (fun j => L 1 (12 + j)) 6) := by rw [sumI_6]; exact C 7 (by omega)
  have c8 : f7_count K g B (nI 8) = some (sumI (fun j => L 1 j) 6) := by rw [sumI_6]; exact C 8 (by omega)
  have c9 : f7_count K g B (nI 9) = some (L 0 0) := C 9 (by omega)
  have c10 : f7_count K g B (nI 10) = some (L 0 1) := C 10 (by omega)
  have c11 : f7_count K g B (nI 11) = some (L 0 2) := C 11 (by omega)
  have F2 : ∀ w x f, x + w = 6 → f9_isSo_48 K g L B v (w + (f + 1)) (nI (wtN (fun x => decide (¬ L 3 x ≤ nI 0)) 5)) (sumI (fun j => L 1 j) x) (sumI (fun j => L 1 (12 + j)) x) (nI x) = some (nI 1) := by
    intro w
    induction w with
    | zero =>
      intro x f hw
      have : x = 6 := by omega
      subst this
      rw [Nat.zero_add, f9_isSo_48]
      simp (disch := omega) only [EV, pu_lit, pu_le, pu_gok, pu_cl, hV.1, decide_true, c0, c1, c2, c3, c4, c5, c6, c7, c8, c9, c10, c11, if_true]
      rw [if_pos (Nat.le_refl _)]
      exact X225
    | succ w ih =>
      intro x f hw
      have hx : ¬ 6 ≤ x := by omega
      have IH := ih (x + 1) f (by omega)
      rw [show w + 1 + (f + 1) = (w + (f + 1)) + 1 by omega, f9_isSo_48, if_neg (show ¬ (6 : Int32) ≤ nI x from fun z => by have := (nI_leI (a := 6) (b := x) (by omega) (by omega)).mp z; omega)]
      have g1 : gok (nI x) 24 = true := pu_gok (by omega) (by omega)
      have g2 : gok (12 + nI x) 24 = true := by rw [show (12 : Int32) + nI x = nI (12 + x) from nI_add 12 x]; exact pu_gok (by omega) (by omega)
      have k1 : (nI x).toNatClampNeg = x := pu_cl (by omega)
      have k2 : ((12 : Int32) + nI x).toNatClampNeg = 12 + x := by rw [show (12 : Int32) + nI x = nI (12 + x) from nI_add 12 x]; exact pu_cl (by omega)
      rw [g1, g2, k1, k2]
      show f9_isSo_48 K g L B v (w + (f + 1)) (nI (wtN (fun x => decide (¬ L 3 x ≤ nI 0)) 5)) (sumI (fun j => L 1 j) x + L 1 x) (sumI (fun j => L 1 (12 + j)) x + L 1 (12 + x)) (nI x + nI 1) = _
      rw [nI_add]
      exact IH
  have F1 : ∀ w x f, x + w = 5 → f9_isSo_12 K g L B v (w + (f + 1)) (nI (wtN (fun x => decide (¬ L 3 x ≤ nI 0)) x)) (nI 0) (nI 0) (nI x) = some (nI 1) := by
    intro w
    induction w with
    | zero =>
      intro x f hw
      have : x = 5 := by omega
      subst this
      rw [Nat.zero_add, f9_isSo_12]
      simp (disch := omega) only [pu_lit, pu_le]
      rw [if_pos (Nat.le_refl _)]
      have := F2 6 0 (FU - 7) rfl
      rw [show 6 + (FU - 7 + 1) = FU by unfold FU; omega] at this
      exact this
    | succ w ih =>
      intro x f hw
      have hx : ¬ 5 ≤ x := by omega
      have IH := ih (x + 1) f (by omega)
      have e : wtN (fun x => decide (¬ L 3 x ≤ nI 0)) (x + 1) = wtN (fun x => decide (¬ L 3 x ≤ nI 0)) x ||| (if decide (¬ L 3 x ≤ nI 0) then 2 ^ x else 0) := rfl
      rw [e] at IH
      rw [show w + 1 + (f + 1) = (w + (f + 1)) + 1 by omega, f9_isSo_12, ← IH]
      unfold f9_isSo_36
      simp (disch := omega) only [EV, NUM, pu_lit, pu_le, hx, if_false, pu_gok, pu_cl]
      by_cases z : L 3 x ≤ nI 0
      · rw [if_pos z]
        simp only [decide_not, decide_eq_true z, Bool.not_true, Bool.false_eq_true, if_false, pu_or]
      · rw [if_neg z, (pu_sh (j := x) (by omega)).1, pu_or]
        simp only [decide_not, decide_eq_false z, Bool.not_false, if_true]
  have := F1 5 0 (FU - 6) rfl
  rw [show 5 + (FU - 6 + 1) = FU by unfold FU; omega] at this
  exact this
end LISSO
