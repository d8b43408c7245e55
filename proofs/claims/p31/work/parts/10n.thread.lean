/-! THE LAW'S LOOM, n: a thread is as it should be -/
section LTHREAD
variable {K : GK} {g : GM} {B : Nat} {L L' L1 L2 : GS} {S S' S1 : GS} {s s' s1 s2 : Nat → Int32} {i j k n p m q c u l e T d r : Nat} {sn : Nat → Nat} {v : Int32} {E : Nat → Nat}
theorem l_pickAt (he : e < 400) : f9_pickAt L (nI e) = some (PK L e) := by
  unfold f9_pickAt PK
  simp (disch := omega) only [EV, NUM, pu_lit, pk_div, pk_sub, pu_gok, pu_cl]
theorem neg1 : ((-1 : Int32) < 0) ∧ ¬ (0 ≤ (-1 : Int32)) ∧ ¬ (nI 1 = 0) := by decide
/-- the ranks of the ends -/
theorem i_end (hS : SIM K g S B) (h : LR L (S 1) T) (hr : r < 6) : ∃ c1, c1 < 6 ∧ f7_byEnd K g B (nI r) = some (nI c1) ∧ ((r = 5 ∧ f7_byEnd K g B (nI (r + 1)) = some (-1)) ∨ (r ≠ 5 ∧ ∃ c2, c2 < 6 ∧ f7_byEnd K g B (nI (r + 1)) = some (nI c2) ∧ (L 1 c1 < L 1 c2 ∨ (¬ L 1 c1 < L 1 c2 ∧ L 1 c1 = L 1 c2 ∧ c1 < c2)))) := by
  obtain ⟨c, d, hB, hST, h8⟩ := h
  have nb := hB.2.1.2.1
  let E : Nat → Nat := fun x => (S 1 (19 + x)).toNatClampNeg
  have hE : ∀ x, x < 6 → E x ≤ 999 ∧ S 1 (19 + x) = nI (E x) := fun x hx => by
    obtain ⟨v, v9, hv⟩ := nb x hx
    have : E x = v := by show (S 1 (19 + x)).toNatClampNeg = v; rw [hv, pu_cl (by omega)]
    rw [this]
    exact ⟨v9, hv⟩
  have eS : rw1 S (S 1) = S := rw1_self S
  obtain ⟨c1, a1, a2, a3⟩ := r_byEnd_lt (S := S) hE hr
  rw [eS] at a3
  refine ⟨c1, a1, of_f8 (op_byEnd hS _) a3, ?_⟩
  by_cases r5 : r = 5
  · have := r_byEnd (S := S) hE (r := r + 1) (by omega)
    rw [eS, if_pos (by omega)] at this
    exact Or.inl ⟨r5, of_f8 (op_byEnd hS _) this⟩
  · obtain ⟨c2, b1, b2, b3⟩ := r_byEnd_lt (S := S) hE (r := r + 1) (by omega)
    rw [eS] at b3
    refine Or.inr ⟨r5, c2, b1, of_f8 (op_byEnd hS _) b3, ?_⟩
    have o := rk_ord (E := E) a1 b1 (by omega)
    have a5 := hB.2.2.2.2.1
    obtain ⟨x1, x2⟩ := hE c1 a1
    obtain ⟨y1, y2⟩ := hE c2 b1
    rw [a5 c1 (by omega), a5 c2 (by omega), x2, y2]
    rw [nI_ltI (by omega) (by omega), nI_eq (by omega) (by omega)]
    unfold ord at o
    omega
/-- the ranks of the cloth -/
theorem i_cloth (hS : SIM K g S B) (h : LR L (S 1) T) (hr : r < 6) : ∃ v1 v2, f7_byCloth K g B (nI r) = some v1 ∧ f7_byCloth K g B (nI (r + 1)) = some v2 ∧ ((v1 = -1 ∧ v2 = -1) ∨ ∃ c1 H1, c1 < 6 ∧ 0 < H1 ∧ H1 ≤ 400 ∧ v1 = nI c1 ∧ f7_thread K g B (nI c1) (nI 4) = some (nI H1) ∧ (v2 = -1 ∨ ∃ c2 H2, c2 < 6 ∧ 0 < H2 ∧ H2 ≤ 400 ∧ v2 = nI c2 ∧ f7_thread K g B (nI c2) (nI 4) = some (nI H2) ∧ (H2 < H1 ∨ (H1 = H2 ∧ c1 < c2)))) := by
  have hV := view hS h
  obtain ⟨c, d, hB, hST, h8⟩ := h
  obtain ⟨c400, x1, x2, -⟩ := hB.2.2.2.2.2.2.1
  have hC := hB.2.2.2.2.2.2.1
  have eS : rw1 S (S 1) = S := rw1_self S
  have cl : (L 0 4).toNatClampNeg = c := by rw [x1, pu_cl (by omega)]
  let H : Nat → Nat := fun x => hit (pL L x) c
  have hH : ∀ x, x < 6 → H x ≤ 400 ∧ f8_inCloth (rw1 S (S 1)) (nI x) = some (nI (H x)) := fun x hx => by
    have := hit_le (pL L x) c
    refine ⟨by show hit (pL L x) c ≤ 400; omega, ?_⟩
    rw [r_in x2 c400, hit_eq (hC.pp hx)]
  have t4 : ∀ x, x < 6 → f7_thread K g B (nI x) (nI 4) = some (nI (H x)) := fun x hx => by
    rw [hV.2.2.1 x 4 hx (by omega)]
    show some (nI (hit (pL L x) (L 0 4).toNatClampNeg)) = _
    rw [cl]
  obtain ⟨v1, a1, a2⟩ := r_byCloth (S := S) hH (r := r) (by omega)
  obtain ⟨v2, b1, b2⟩ := r_byCloth (S := S) hH (r := r + 1) (by omega)
  rw [eS] at a1 b1
  refine ⟨v1, v2, of_f8 (op_byCloth hS _) a1, of_f8 (op_byCloth hS _) b1, ?_⟩
  rcases a2 with ⟨c1, a3, a4, a5, a6⟩ | ⟨a3, a4⟩
  · refine Or.inr ⟨c1, H c1, a3, a5, (hH c1 a3).1, a6, t4 c1 a3, ?_⟩
    rcases b2 with ⟨c2, b3, b4, b5, b6⟩ | ⟨b3, -⟩
    · refine Or.inr ⟨c2, H c2, b3, b5, (hH c2 b3).1, b6, t4 c2 b3, ?_⟩
      have o := rk_ord (E := fun x => 400 - H x) a3 b3 (by omega)
      have h1 := (hH c1 a3).1
      have h2 := (hH c2 b3).1
      unfold ord at o
      dsimp only at o
      omega
    · exact Or.inl b3
  · refine Or.inl ⟨a3, ?_⟩
    rcases b2 with ⟨c2, b3, b4, b5, b6⟩ | ⟨b3, -⟩
    · exfalso
      obtain ⟨c1, y1, y2⟩ := rk_sur (fun x => 400 - H x) hr
      have z := a4 c1 y1 y2
      have o := rk_ord (E := fun x => 400 - H x) y1 b3 (by omega)
      have h2 := (hH c2 b3).1
      unfold ord at o
      dsimp only at o
      omega
    · exact b3
theorem l_isThread (hS : SIM K g S B) (h : LR L (S 1) T) (hk : k < 6) (hr : r < 6) : f9_isThread K g L B (nI k) (nI r) = some 1 := by
  have hV := view hS h
  obtain ⟨e1, e2, e3, e4⟩ := i_end hS h hr
  obtain ⟨w1, w2, g1, g2, g3⟩ := i_cloth hS h hr
  obtain ⟨c, d, hB, hST, h8⟩ := h
  obtain ⟨c400, x1, x2, -⟩ := hB.2.2.2.2.2.2.1
  have cl : (L 0 4).toNatClampNeg = c := by rw [x1, pu_cl (by omega)]
  generalize hP : pL L k = P
  have F : ∀ w x f, x + w = c → f9_isThread_12 K g L B (nI k) (nI r) (w + (f + 1)) (nI (hit P x)) (nI (lgN P x).1) (nI (lgN P x).2) (nI x) = f9_isThread_12 K g L B (nI k) (nI r) (f + 1) (nI (hit P c)) (nI (lgN P c).1) (nI (lgN P c).2) (nI c) := by
    intro w
    induction w with
    | zero =>
      intro x f hw
      have : x = c := by omega
      subst this
      rw [Nat.zero_add]
    | succ w ih =>
      intro x f hw
      have hx : ¬ c ≤ x := by omega
      have IH := ih (x + 1) f (by omega)
      obtain ⟨l1, l2⟩ := lgN_le P x
      have e : lgN P (x + 1) = (if P x then (lgN P x).1 + 1 else 0, if (if P x then (lgN P x).1 + 1 else 0) ≤ (lgN P x).2 then (lgN P x).2 else (if P x then (lgN P x).1 + 1 else 0)) := rfl
      have e' : hit P (x + 1) = hit P x + (if P x then 1 else 0) := rfl
      rw [e, e'] at IH
      rw [show w + 1 + (f + 1) = (w + (f + 1)) + 1 by omega, f9_isThread_12, ← IH]
      unfold f9_isThread_36 f9_isThread_50 f9_isThread_66 f9_isThread_82
      simp (disch := omega) only [EV, NUM, pu_lit, pu_le, hx, if_false, pu_gok, pu_cl, x1, l_pickAt (show x < 400 by omega)]
      have hPx : P x = decide (PK L x = nI k) := by rw [← hP]; rfl
      by_cases z : PK L x = nI k
      · rw [if_pos z, hPx, decide_eq_true z, if_neg n1ne', if_neg n1ne']
        simp only [if_true]
        by_cases y : (lgN P x).1 + 1 ≤ (lgN P x).2
        · rw [if_pos y, if_pos y]
        · rw [if_neg y, if_neg y]
      · rw [if_neg z, hPx, decide_eq_false z, if_pos trivial, if_pos trivial]
        simp only [Bool.false_eq_true, if_false]
        rw [if_pos (Nat.zero_le _), if_pos (Nat.zero_le _)]
  have := F c 0 (FU - c - 1) (by omega)
  rw [show c + (FU - c - 1 + 1) = FU by unfold FU; omega] at this
  have t0 : f7_thread K g B (nI k) (nI 0) = some (L 1 k) := by
    rw [hV.2.2.1 k 0 hk (by omega)]
    show some (L 1 (6 * 0 + k)) = _
    rw [Nat.mul_zero, Nat.zero_add]
  have t1 : f7_thread K g B (nI k) (nI 1) = some (L 1 (6 + k)) := hV.2.2.1 k 1 hk (by omega)
  have t2 : f7_thread K g B (nI k) (nI 2) = some (L 1 (12 + k)) := hV.2.2.1 k 2 hk (by omega)
  have t3 : f7_thread K g B (nI k) (nI 3) = some (L 1 (18 + k)) := hV.2.2.1 k 3 hk (by omega)
  have t4 : f7_thread K g B (nI k) (nI 4) = some (nI (hit P c)) := by
    rw [hV.2.2.1 k 4 hk (by omega)]
    show some (nI (hit (pL L k) (L 0 4).toNatClampNeg)) = _
    rw [cl, hP]
  have t5 : f7_thread K g B (nI k) (nI 5) = some (nI (lgN P c).2) := by
    rw [hV.2.2.1 k 5 hk (by omega)]
    show some (nI (lgN (pL L k) (L 0 4).toNatClampNeg).2) = _
    rw [cl, hP]
  have X258 : f9_isThread_258 K g L B (nI k) (nI r) (nI 1) = some 1 := by
    unfold f9_isThread_258 f9_isThread_292
    simp (disch := omega) only [EV, NUM, hV.1, decide_true, pu_lit, g1, g2]
    rcases g3 with ⟨z1, z2⟩ | ⟨c1, H1, z1, z2, z2', z3, z4, z5⟩
    · rw [z1, z2, if_neg (show ¬ nI 0 ≤ -1 by decide), if_neg (show ¬ nI 0 ≤ -1 by decide)]
      unfold f9_isThread_310 f9_isThread_367
      rw [if_neg neg1.2.2, if_neg neg1.2.1, if_pos rfl]
      rfl
    · rw [z3, if_pos (show nI 0 ≤ nI c1 from nI_pos' (by omega)), z4]
      simp only [EV]
      have nH1 : ¬ nI H1 ≤ 0 := nI_nle z2 (by omega)
      rcases z5 with z5 | ⟨c2, H2, y1, y2, y2', y3, y4, y5⟩
      · rw [z5, if_neg (show ¬ nI 0 ≤ -1 by decide)]
        unfold f9_isThread_310 f9_isThread_367
        rw [if_neg neg1.2.2, if_pos (nI_pos' (by omega)), if_neg nH1, if_pos neg1.1]
        rfl
      · rw [y3, if_pos (show nI 0 ≤ nI c2 from nI_pos' (by omega)), y4]
        simp only [EV]
        have nH2 : ¬ nI H2 ≤ 0 := nI_nle y2 (by omega)
        unfold f9_isThread_310 f9_isThread_367
        rw [if_neg neg1.2.2, if_pos (nI_pos' (by omega)), if_neg nH1, if_neg (nI_pos (by omega)), if_neg nH2]
        rcases y5 with y5 | ⟨y5, y6⟩
        · rw [if_pos ((nI_ltI (by omega) (by omega)).mpr y5)]
          rfl
        · rw [if_neg (fun z => by have := (nI_ltI (by omega) (by omega)).mp z; omega), if_pos (by rw [y5]), if_neg (fun z => by have := (nI_leI (by omega) (by omega)).mp z; omega)]
          rfl
  have X178 : f9_isThread_178 K g L B (nI k) (nI r) (nI 1) = some 1 := by
    unfold f9_isThread_178 f9_isThread_253
    simp (disch := omega) only [EV, NUM, hV.1, decide_true, pu_lit, e3]
    rcases e4 with ⟨z1, z2⟩ | ⟨z1, c2, z2, z3, z4⟩
    · rw [z2]
      simp (disch := omega) only [EV, pu_eq]
      rw [if_neg (by decide), if_neg (show ¬ nI e1 < nI 0 from nI_pos (by omega)), if_pos z1]
      exact (if_pos (c := (-1 : Int32) = -1) rfl).trans X258
    · rw [z3]
      simp (disch := omega) only [EV, pu_eq, pu_gok, pu_cl]
      rw [if_neg (by decide), if_neg (show ¬ nI e1 < nI 0 from nI_pos (by omega)), if_neg z1]
      rcases z4 with z4 | ⟨z4, z5, z6⟩
      · rw [if_pos z4]; exact X258
      · rw [if_neg z4, if_pos z5]
        simp (disch := omega) only [pu_le]
        rw [if_neg (by omega)]; exact X258
  unfold f9_isThread
  have e0 : f9_isThread_12 K g L B (nI k) (nI r) FU 0 0 0 0 = f9_isThread_12 K g L B (nI k) (nI r) FU (nI (hit P 0)) (nI (lgN P 0).1) (nI (lgN P 0).2) (nI 0) := rfl
  rw [e0, this, f9_isThread_12]
  simp (disch := omega) only [EV, NUM, pu_lit, pu_le, pu_gok, pu_cl, x1, hV.1, decide_true, t0, t1, t2, t3, t4, t5, if_true]
  rw [if_pos (Nat.le_refl _)]
  exact X178
end LTHREAD
