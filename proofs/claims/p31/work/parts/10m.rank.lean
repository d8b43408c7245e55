/-! THE LAW'S LOOM, m: ranks -/
theorem hit_add {P Q R : Nat → Bool} {n : Nat} (h : ∀ x, x < n → (if R x then 1 else 0) = (if P x then 1 else 0) + (if Q x then 1 else 0)) : hit R n = hit P n + hit Q n := by
  induction n with
  | zero => rfl
  | succ n ih =>
    have h1 := ih (fun x hx => h x (by omega))
    have h2 := h n (by omega)
    show hit R n + (if R n then 1 else 0) = hit P n + (if P n then 1 else 0) + (hit Q n + (if Q n then 1 else 0))
    omega
theorem hit_0 {P : Nat → Bool} {n : Nat} (h : ∀ x, x < n → P x = false) : hit P n = 0 := by
  induction n with
  | zero => rfl
  | succ n ih =>
    show hit P n + (if P n then 1 else 0) = 0
    rw [ih (fun x hx => h x (by omega)), h n (by omega)]
    rfl
theorem hit_all {P : Nat → Bool} {n : Nat} (h : ∀ x, x < n → P x = true) : hit P n = n := by
  induction n with
  | zero => rfl
  | succ n ih =>
    show hit P n + (if P n then 1 else 0) = n + 1
    rw [ih (fun x hx => h x (by omega)), h n (by omega)]
    rfl
theorem hit_le1 {P : Nat → Bool} {n : Nat} (h : ∀ x y, x < n → y < n → P x = true → P y = true → x = y) : hit P n ≤ 1 := by
  induction n with
  | zero => exact Nat.zero_le _
  | succ n ih =>
    show hit P n + (if P n then 1 else 0) ≤ 1
    by_cases z : P n = true
    · have : hit P n = 0 := hit_0 fun x hx => by
        cases hq : P x with
        | false => rfl
        | true => have := h x n (by omega) (by omega) hq z; omega
      rw [this, if_pos z]
      exact Nat.le_refl _
    · rw [if_neg z]
      exact ih (fun x y hx hy => h x y (by omega) (by omega))
theorem hit_ex {P : Nat → Bool} {n : Nat} (h : 0 < hit P n) : ∃ x, x < n ∧ P x = true := by
  apply Classical.byContradiction
  intro z
  have : hit P n = 0 := hit_0 fun x hx => by
    cases hq : P x with
    | false => rfl
    | true => exact absurd ⟨x, hx, hq⟩ z
  omega
theorem hit_sub {P Q : Nat → Bool} {n : Nat} (h : ∀ x, x < n → P x = true → Q x = true) : hit P n ≤ hit Q n := by
  induction n with
  | zero => exact Nat.le_refl _
  | succ n ih =>
    have h1 := ih (fun x hx => h x (by omega))
    have h2 := h n (by omega)
    show hit P n + (if P n then 1 else 0) ≤ hit Q n + (if Q n then 1 else 0)
    by_cases z : P n = true
    · rw [if_pos z, if_pos (h2 z)]; omega
    · rw [if_neg z]; omega
theorem hit_lt {P Q : Nat → Bool} {n k : Nat} (h : ∀ x, x < n → P x = true → Q x = true) (hk : k < n) (h1 : P k = false) (h2 : Q k = true) : hit P n < hit Q n := by
  induction n with
  | zero => omega
  | succ n ih =>
    have hn := h n (by omega)
    show hit P n + (if P n then 1 else 0) < hit Q n + (if Q n then 1 else 0)
    by_cases e : k = n
    · subst e
      have := hit_sub (P := P) (Q := Q) (n := k) (fun x hx => h x (by omega))
      rw [h1, h2]
      simp only [Bool.false_eq_true, if_false, if_true]
      omega
    · have := ih (fun x hx => h x (by omega)) (by omega)
      by_cases z : P n = true
      · rw [if_pos z, if_pos (hn z)]; omega
      · rw [if_neg z]; omega
/-- one comes ahead of another -/
def ord (E : Nat → Nat) (x k : Nat) : Prop := E x < E k ∨ (E x = E k ∧ x < k)
def ordB (E : Nat → Nat) (k x : Nat) : Bool := decide (E x < E k ∨ (E x = E k ∧ x < k))
theorem ordB_t {E : Nat → Nat} {k x : Nat} : ordB E k x = true ↔ ord E x k := by
  unfold ordB ord
  exact decide_eq_true_iff
theorem ordB_f {E : Nat → Nat} {k x : Nat} (h : ¬ ord E x k) : ordB E k x = false := by
  unfold ordB
  exact decide_eq_false h
def rkN (E : Nat → Nat) (k : Nat) : Nat := hit (ordB E k) 6
theorem rk_mono {E : Nat → Nat} {x k : Nat} (hx : x < 6) (h : ord E x k) : rkN E x < rkN E k := by
  refine hit_lt (k := x) (fun y _ hy => ?_) hx (ordB_f ?_) (ordB_t.mpr h)
  · have h1 := ordB_t.mp hy
    refine ordB_t.mpr ?_
    unfold ord at h1 h ⊢
    omega
  · unfold ord
    omega
theorem ord_tot {E : Nat → Nat} {x k : Nat} (h : x ≠ k) : ord E x k ∨ ord E k x := by
  unfold ord
  omega
theorem rk_inj {E : Nat → Nat} {x k : Nat} (hx : x < 6) (hk : k < 6) (h : rkN E x = rkN E k) : x = k := by
  apply Classical.byContradiction
  intro z
  rcases ord_tot (E := E) z with y | y
  · have := rk_mono hx y; omega
  · have := rk_mono hk y; omega
theorem rk_ord {E : Nat → Nat} {x k : Nat} (hx : x < 6) (hk : k < 6) (h : rkN E x < rkN E k) : ord E x k := by
  rcases ord_tot (E := E) (show x ≠ k from fun z => by subst z; omega) with y | y
  · exact y
  · have := rk_mono hk y; omega
theorem rk_lt {E : Nat → Nat} {k : Nat} (hk : k < 6) : rkN E k < 6 := by
  have h := hit_lt (P := ordB E k) (Q := fun _ => true) (n := 6) (k := k) (fun _ _ _ => rfl) hk (ordB_f (by unfold ord; omega)) rfl
  rw [hit_all (P := fun _ => true) (fun _ _ => rfl)] at h
  exact h
theorem rk_sur (E : Nat → Nat) {r : Nat} (hr : r < 6) : ∃ k, k < 6 ∧ rkN E k = r := by
  have M1 : ∀ q, hit (fun k => decide (rkN E k = q)) 6 ≤ 1 := fun q => hit_le1 fun x y hx hy h1 h2 => rk_inj hx hy ((of_decide_eq_true h1).trans (of_decide_eq_true h2).symm)
  have A : ∀ q, hit (fun k => decide (rkN E k < q + 1)) 6 = hit (fun k => decide (rkN E k < q)) 6 + hit (fun k => decide (rkN E k = q)) 6 := fun q => hit_add fun x _ => by
    by_cases z1 : rkN E x < q
    · rw [decide_eq_true z1, decide_eq_true (show rkN E x < q + 1 by omega), decide_eq_false (show ¬ rkN E x = q by omega)]; rfl
    · by_cases z2 : rkN E x = q
      · rw [decide_eq_false z1, decide_eq_true (show rkN E x < q + 1 by omega), decide_eq_true z2]; rfl
      · rw [decide_eq_false z1, decide_eq_false (show ¬ rkN E x < q + 1 by omega), decide_eq_false z2]; rfl
  have Z : hit (fun k => decide (rkN E k < 0)) 6 = 0 := hit_0 fun x _ => decide_eq_false (Nat.not_lt_zero _)
  have T : hit (fun k => decide (rkN E k < 6)) 6 = 6 := hit_all fun x hx => decide_eq_true (rk_lt hx)
  have a0 : hit (fun k => decide (rkN E k < 1)) 6 = hit (fun k => decide (rkN E k < 0)) 6 + hit (fun k => decide (rkN E k = 0)) 6 := A 0
  have a1 : hit (fun k => decide (rkN E k < 2)) 6 = hit (fun k => decide (rkN E k < 1)) 6 + hit (fun k => decide (rkN E k = 1)) 6 := A 1
  have a2 : hit (fun k => decide (rkN E k < 3)) 6 = hit (fun k => decide (rkN E k < 2)) 6 + hit (fun k => decide (rkN E k = 2)) 6 := A 2
  have a3 : hit (fun k => decide (rkN E k < 4)) 6 = hit (fun k => decide (rkN E k < 3)) 6 + hit (fun k => decide (rkN E k = 3)) 6 := A 3
  have a4 : hit (fun k => decide (rkN E k < 5)) 6 = hit (fun k => decide (rkN E k < 4)) 6 + hit (fun k => decide (rkN E k = 4)) 6 := A 4
  have a5 : hit (fun k => decide (rkN E k < 6)) 6 = hit (fun k => decide (rkN E k < 5)) 6 + hit (fun k => decide (rkN E k = 5)) 6 := A 5
  have m0 : hit (fun k => decide (rkN E k = 0)) 6 ≤ 1 := M1 0
  have m1 : hit (fun k => decide (rkN E k = 1)) 6 ≤ 1 := M1 1
  have m2 : hit (fun k => decide (rkN E k = 2)) 6 ≤ 1 := M1 2
  have m3 : hit (fun k => decide (rkN E k = 3)) 6 ≤ 1 := M1 3
  have m4 : hit (fun k => decide (rkN E k = 4)) 6 ≤ 1 := M1 4
  have m5 : hit (fun k => decide (rkN E k = 5)) 6 ≤ 1 := M1 5
  have : 0 < hit (fun k => decide (rkN E k = r)) 6 := by
    rcases (by omega : r = 0 ∨ r = 1 ∨ r = 2 ∨ r = 3 ∨ r = 4 ∨ r = 5) with h | h | h | h | h | h <;> subst h <;> omega
  obtain ⟨k, h1, h2⟩ := hit_ex this
  exact ⟨k, h1, of_decide_eq_true h2⟩
section LRANK
variable {K : GK} {g : GM} {B : Nat} {L L' L1 L2 : GS} {S S' S1 : GS} {s s' s1 s2 : Nat → Int32} {i j k n p m q c u l e T d : Nat} {sn : Nat → Nat} {v : Int32} {E : Nat → Nat}
theorem r_aheadE (hE : ∀ x, x < 6 → E x ≤ 999 ∧ s (19 + x) = nI (E x)) (hk : k < 6) : f8_aheadByEnd (rw1 S s) (nI k) = some (nI (rkN E k)) := by
  have F : ∀ w x f, x + w = 6 → f8_aheadByEnd_15 (rw1 S s) (nI k) (w + (f + 1)) (nI (hit (ordB E k) x)) (nI (E k)) (nI x) = some (nI (rkN E k)) := by
    intro w
    induction w with
    | zero =>
      intro x f hw
      have : x = 6 := by omega
      subst this
      rw [Nat.zero_add, f8_aheadByEnd_15]
      simp (disch := omega) only [pu_lit, pu_le]
      rw [if_pos (Nat.le_refl _)]
      rfl
    | succ w ih =>
      intro x f hw
      have hx : ¬ 6 ≤ x := by omega
      obtain ⟨e1, e2⟩ := hE x (by omega)
      obtain ⟨e3, e4⟩ := hE k hk
      have IH := ih (x + 1) f (by omega)
      have e : hit (ordB E k) (x + 1) = hit (ordB E k) x + (if ordB E k x then 1 else 0) := rfl
      rw [e] at IH
      rw [show w + 1 + (f + 1) = (w + (f + 1)) + 1 by omega, f8_aheadByEnd_15, ← IH]
      unfold f8_aheadByEnd_57 f8_aheadByEnd_61 f8_aheadByEnd_62
      simp (disch := omega) only [EV, NUM, pu_lit, pu_le, hx, if_false, pu_gok, pu_cl, rw1_1, e2, pu_lt, pu_eq]
      by_cases z1 : E x < E k
      · rw [if_pos z1, ordB_t.mpr (Or.inl z1)]; rfl
      · rw [if_neg z1]
        by_cases z2 : E x = E k
        · rw [if_pos z2]
          by_cases z3 : k ≤ x
          · rw [if_pos z3, ordB_f (by unfold ord; omega)]; rfl
          · rw [if_neg z3, ordB_t.mpr (Or.inr ⟨z2, by omega⟩)]; rfl
        · rw [if_neg z2, ordB_f (by unfold ord; omega)]; rfl
  have := F 6 0 (FU - 7) rfl
  rw [show 6 + (FU - 7 + 1) = FU by unfold FU; omega] at this
  obtain ⟨e3, e4⟩ := hE k hk
  unfold f8_aheadByEnd
  simp (disch := omega) only [EV, NUM, pu_lit, pu_gok, pu_cl, rw1_1, e4]
  exact this
theorem r_byEnd (hE : ∀ x, x < 6 → E x ≤ 999 ∧ s (19 + x) = nI (E x)) {r : Nat} (hr : r ≤ 6) : f8_byEnd (rw1 S s) (nI r) = some (if r = 6 then -1 else nI (Classical.epsilon fun k => k < 6 ∧ rkN E k = r)) := by
  have F : ∀ w x f, x + w = 6 → (∀ y, y < x → rkN E y ≠ r) → f8_byEnd_2 (rw1 S s) (nI r) (w + (f + 1)) (nI x) = some (if r = 6 then -1 else nI (Classical.epsilon fun k => k < 6 ∧ rkN E k = r)) := by
    intro w
    induction w with
    | zero =>
      intro x f hw hn
      have : x = 6 := by omega
      subst this
      rw [Nat.zero_add, f8_byEnd_2]
      simp (disch := omega) only [pu_lit, pu_le]
      have r6 : r = 6 := by
        apply Classical.byContradiction
        intro z
        obtain ⟨k, h1, h2⟩ := rk_sur E (r := r) (by omega)
        exact hn k h1 h2
      rw [if_pos (Nat.le_refl _), if_pos r6]
    | succ w ih =>
      intro x f hw hn
      have hx : ¬ 6 ≤ x := by omega
      have lt := rk_lt (E := E) (k := x) (by omega)
      rw [show w + 1 + (f + 1) = (w + (f + 1)) + 1 by omega, f8_byEnd_2]
      simp (disch := omega) only [EV, NUM, pu_lit, pu_le, hx, if_false, r_aheadE hE (show x < 6 by omega), pu_eq]
      by_cases z : rkN E x = r
      · have r6 : ¬ r = 6 := by omega
        have ep : (fun k => k < 6 ∧ rkN E k = r) (Classical.epsilon fun k => k < 6 ∧ rkN E k = r) := Classical.epsilon_spec (p := fun k => k < 6 ∧ rkN E k = r) ⟨x, by omega, z⟩
        have := rk_inj (E := E) ep.1 (show x < 6 by omega) (ep.2.trans z.symm)
        rw [if_pos z, if_neg r6, this]
      · rw [if_neg z]
        exact ih (x + 1) f (by omega) (fun y hy => by
          by_cases e : y = x
          · subst e; exact z
          · exact hn y (by omega))
  have := F 6 0 (FU - 7) rfl (fun y hy => absurd hy (Nat.not_lt_zero y))
  rw [show 6 + (FU - 7 + 1) = FU by unfold FU; omega] at this
  unfold f8_byEnd
  simp only [pu_lit] at this ⊢
  exact this
/-- the colour of a rank -/
theorem r_byEnd_lt (hE : ∀ x, x < 6 → E x ≤ 999 ∧ s (19 + x) = nI (E x)) {r : Nat} (hr : r < 6) : ∃ k, k < 6 ∧ rkN E k = r ∧ f8_byEnd (rw1 S s) (nI r) = some (nI k) := by
  have ep : (fun k => k < 6 ∧ rkN E k = r) (Classical.epsilon fun k => k < 6 ∧ rkN E k = r) := Classical.epsilon_spec (p := fun k => k < 6 ∧ rkN E k = r) (rk_sur E hr)
  refine ⟨_, ep.1, ep.2, ?_⟩
  rw [r_byEnd hE (by omega), if_neg (by omega)]
theorem r_aheadC {H : Nat → Nat} (hH : ∀ x, x < 6 → H x ≤ 400 ∧ f8_inCloth (rw1 S s) (nI x) = some (nI (H x))) (hk : k < 6) : f8_aheadByCloth (rw1 S s) (nI k) = some (nI (rkN (fun x => 400 - H x) k)) := by
  have F : ∀ w x f, x + w = 6 → f8_aheadByCloth_11 (rw1 S s) (nI k) (w + (f + 1)) (nI (hit (ordB (fun x => 400 - H x) k) x)) (nI (H k)) (nI x) = some (nI (rkN (fun x => 400 - H x) k)) := by
    intro w
    induction w with
    | zero =>
      intro x f hw
      have : x = 6 := by omega
      subst this
      rw [Nat.zero_add, f8_aheadByCloth_11]
      simp (disch := omega) only [pu_lit, pu_le]
      rw [if_pos (Nat.le_refl _)]
      rfl
    | succ w ih =>
      intro x f hw
      have hx : ¬ 6 ≤ x := by omega
      obtain ⟨e1, e2⟩ := hH x (by omega)
      obtain ⟨e3, e4⟩ := hH k hk
      have IH := ih (x + 1) f (by omega)
      have e : hit (ordB (fun x => 400 - H x) k) (x + 1) = hit (ordB (fun x => 400 - H x) k) x + (if ordB (fun x => 400 - H x) k x then 1 else 0) := rfl
      rw [e] at IH
      rw [show w + 1 + (f + 1) = (w + (f + 1)) + 1 by omega, f8_aheadByCloth_11, ← IH]
      unfold f8_aheadByCloth_45 f8_aheadByCloth_49 f8_aheadByCloth_50
      simp (disch := omega) only [EV, NUM, pu_lit, pu_le, hx, if_false, e2, pu_eq, pu_lt]
      by_cases z1 : H k < H x
      · rw [if_pos z1, (ordB_t (E := fun x => 400 - H x) (k := k) (x := x)).mpr (Or.inl (show 400 - H x < 400 - H k by omega))]; rfl
      · rw [if_neg z1]
        by_cases z2 : H x = H k
        · rw [if_pos z2]
          by_cases z3 : k ≤ x
          · rw [if_pos z3, ordB_f (E := fun x => 400 - H x) (k := k) (x := x) (by unfold ord; dsimp only; omega)]; rfl
          · rw [if_neg z3, (ordB_t (E := fun x => 400 - H x) (k := k) (x := x)).mpr (Or.inr ⟨show 400 - H x = 400 - H k by omega, by omega⟩)]; rfl
        · rw [if_neg z2, ordB_f (E := fun x => 400 - H x) (k := k) (x := x) (by unfold ord; dsimp only; omega)]; rfl
  have := F 6 0 (FU - 7) rfl
  rw [show 6 + (FU - 7 + 1) = FU by unfold FU; omega] at this
  obtain ⟨e3, e4⟩ := hH k hk
  unfold f8_aheadByCloth
  rw [e4]
  simp only [EV, pu_lit]
  exact this
theorem r_byCloth {H : Nat → Nat} (hH : ∀ x, x < 6 → H x ≤ 400 ∧ f8_inCloth (rw1 S s) (nI x) = some (nI (H x))) {r : Nat} (hr : r ≤ 6) : ∃ v, f8_byCloth (rw1 S s) (nI r) = some v ∧ ((∃ k, k < 6 ∧ rkN (fun x => 400 - H x) k = r ∧ 0 < H k ∧ v = nI k) ∨ (v = -1 ∧ ∀ k, k < 6 → rkN (fun x => 400 - H x) k = r → H k = 0)) := by
  have F : ∀ w x f, x + w = 6 → (∀ y, y < x → rkN (fun x => 400 - H x) y = r → H y = 0) → ∃ v, f8_byCloth_2 (rw1 S s) (nI r) (w + (f + 1)) (nI x) = some v ∧ ((∃ k, k < 6 ∧ rkN (fun x => 400 - H x) k = r ∧ 0 < H k ∧ v = nI k) ∨ (v = -1 ∧ ∀ k, k < 6 → rkN (fun x => 400 - H x) k = r → H k = 0)) := by
    intro w
    induction w with
    | zero =>
      intro x f hw hn
      have : x = 6 := by omega
      subst this
      refine ⟨-1, ?_, Or.inr ⟨rfl, hn⟩⟩
      rw [Nat.zero_add, f8_byCloth_2]
      simp (disch := omega) only [pu_lit, pu_le]
      rw [if_pos (Nat.le_refl _)]
    | succ w ih =>
      intro x f hw hn
      have hx : ¬ 6 ≤ x := by omega
      have lt := rk_lt (E := fun x => 400 - H x) (k := x) (by omega)
      obtain ⟨e1, e2⟩ := hH x (by omega)
      rw [show w + 1 + (f + 1) = (w + (f + 1)) + 1 by omega, f8_byCloth_2]
      unfold f8_byCloth_27
      simp (disch := omega) only [EV, NUM, pu_lit, pu_le, hx, if_false, r_aheadC hH (show x < 6 by omega), pu_eq, e2]
      by_cases z : rkN (fun x => 400 - H x) x = r
      · rw [if_pos z]
        by_cases y : H x ≤ 0
        · rw [if_pos y]
          exact ih (x + 1) f (by omega) (fun q hq hr' => by
            by_cases e : q = x
            · subst e; omega
            · exact hn q (by omega) hr')
        · rw [if_neg y]
          exact ⟨nI x, rfl, Or.inl ⟨x, by omega, z, by omega, rfl⟩⟩
      · rw [if_neg z]
        exact ih (x + 1) f (by omega) (fun q hq hr' => by
          by_cases e : q = x
          · subst e; exact absurd hr' z
          · exact hn q (by omega) hr')
  obtain ⟨v, h1, h2⟩ := F 6 0 (FU - 7) rfl (fun y hy => absurd hy (Nat.not_lt_zero y))
  rw [show 6 + (FU - 7 + 1) = FU by unfold FU; omega] at h1
  refine ⟨v, ?_, h2⟩
  unfold f8_byCloth
  simp only [pu_lit]
  exact h1
end LRANK
