/-! THE PURE PART, zd: cards that don't reach themselves have ranks -/
def sub (m m' : Nat) : Prop := ∀ j, j < 10 → m.testBit j = true → m'.testBit j = true
theorem sub.rf {m : Nat} : sub m m := fun _ _ h => h
theorem sub.tr {a b c : Nat} (h : sub a b) (h2 : sub b c) : sub a c := fun j hj hb => h2 j hj (h j hj hb)
def clo (C : Nat → Nat) (m : Nat) : Prop := ∀ j, j < 10 → m.testBit j = true → sub (C j) m
abbrev cnt (m : Nat) : Nat := hit (fun j => m.testBit j) 10
theorem hit_mo {P Q : Nat → Bool} : ∀ x, (∀ j, j < x → P j = true → Q j = true) → hit P x ≤ hit Q x := by
  intro x
  induction x with
  | zero => intro _; exact Nat.le_refl _
  | succ x ih =>
    intro h
    have i := ih (fun j hj => h j (by omega))
    have hx := h x (by omega)
    unfold hit
    cases hP : P x with
    | false => simp only [Bool.false_eq_true, if_false]; omega
    | true => rw [hx hP]; simp only [if_true]; omega
theorem hit_lt {P Q : Nat → Bool} : ∀ x, (∀ j, j < x → P j = true → Q j = true) → (∃ j, j < x ∧ P j = false ∧ Q j = true) → hit P x < hit Q x := by
  intro x
  induction x with
  | zero => intro _ ⟨j, hj, _⟩; omega
  | succ x ih =>
    intro h ⟨j, hj, h1, h2⟩
    have hx := h x (by omega)
    unfold hit
    by_cases e : j = x
    · subst e
      have i := hit_mo j (fun i hi => h i (by omega))
      rw [h1, h2]
      simp only [Bool.false_eq_true, if_false, if_true]
      omega
    · have i := ih (fun i hi => h i (by omega)) ⟨j, by omega, h1, h2⟩
      cases hP : P x with
      | false => simp only [Bool.false_eq_true, if_false]; omega
      | true => rw [hx hP]; simp only [if_true]; omega
theorem cnt_lt {m m' : Nat} (h : sub m m') {j : Nat} (hj : j < 10) (h1 : m.testBit j = false) (h2 : m'.testBit j = true) : cnt m < cnt m' := hit_lt 10 h ⟨j, hj, h1, h2⟩
theorem cnt_10 {m : Nat} (h : 10 ≤ cnt m) {j : Nat} (hj : j < 10) : m.testBit j = true := by
  cases hb : m.testBit j with
  | true => rfl
  | false =>
    have h1 := hit_lt (P := fun j => m.testBit j) (Q := fun _ => true) 10 (fun _ _ _ => rfl) ⟨j, hj, hb, rfl⟩
    have h2 := hit_le (fun _ => true) 10
    unfold cnt at h
    omega
section RANK
variable {C : Nat → Nat} {m D : Nat}
theorem rst_up (j : Nat) : sub m (rst C m j) := by
  intro i _ h
  unfold rst
  split
  · rw [Nat.testBit_or, h]; rfl
  · exact h
theorem rst_in (hD : clo C D) (hm : sub m D) {j : Nat} (hj : j < 10) : sub (rst C m j) D := by
  intro i hi h
  unfold rst at h
  split at h
  · rename_i hb
    rw [Nat.testBit_or] at h
    rcases Bool.or_eq_true _ _ |>.mp h with z | z
    · exact hm i hi z
    · exact hD j hj (hm j hj hb) i hi z
  · exact hm i hi h
theorem rrow_up : ∀ w x m, sub m (rrow C w x m) := by
  intro w
  induction w with
  | zero => intro x m; exact sub.rf
  | succ w ih => intro x m; exact (rst_up x).tr (ih (x + 1) _)
theorem rrow_in (hD : clo C D) : ∀ w x m, x + w ≤ 10 → sub m D → sub (rrow C w x m) D := by
  intro w
  induction w with
  | zero => intro x m _ h; exact h
  | succ w ih => intro x m hx h; exact ih (x + 1) _ (by omega) (rst_in hD h (by omega))
theorem rrow_fix : ∀ w x m, x + w ≤ 10 → sub (rrow C w x m) m → ∀ j, x ≤ j → j < x + w → m.testBit j = true → sub (C j) m := by
  intro w
  induction w with
  | zero => intro x m _ _ j h1 h2; omega
  | succ w ih =>
    intro x m hx h j h1 h2 hb
    have r1 : sub (rst C m x) m := (rrow_up (C := C) w (x + 1) (rst C m x)).tr h
    rcases Nat.eq_or_lt_of_le h1 with q | q
    · subst q
      refine sub.tr (fun i hi hc => ?_) r1
      unfold rst
      rw [if_pos hb, Nat.testBit_or, hc, Bool.or_true]
    · have := ih (x + 1) (rst C m x) (by omega) (h.tr (rst_up x)) j q (by omega) (rst_up x j (by omega) hb)
      exact this.tr r1
theorem clo_rnd (hD : clo C D) : ∀ r m, sub m D → sub (rrnd C r m) D := by
  intro r
  induction r with
  | zero => intro m h; exact h
  | succ r ih => intro m h; exact ih _ (rrow_in hD 10 0 m (by omega) h)
theorem rnd_up : ∀ r m, sub m (rrnd C r m) := by
  intro r
  induction r with
  | zero => intro m; exact sub.rf
  | succ r ih => intro m; exact (rrow_up 10 0 m).tr (ih _)
theorem clo_eq {m' : Nat} (h : clo C m) (h1 : sub m m') (h2 : sub m' m) : clo C m' := fun j hj hb => (h j hj (h2 j hj hb)).tr h1
theorem clo_of : ∀ r m, clo C (rrnd C r m) ∨ cnt m + r ≤ cnt (rrnd C r m) := by
  intro r
  induction r with
  | zero => intro m; exact Or.inr (Nat.le_refl _)
  | succ r ih =>
    intro m
    by_cases h : sub (rrow C 10 0 m) m
    · left
      have hc : clo C m := fun j hj hb => rrow_fix 10 0 m (by omega) h j (Nat.zero_le _) (by omega) hb
      exact clo_eq hc (rnd_up (r + 1) m) (clo_rnd hc (r + 1) m sub.rf)
    · have hlt : cnt m < cnt (rrow C 10 0 m) := by
        have : ∃ j, j < 10 ∧ (rrow C 10 0 m).testBit j = true ∧ m.testBit j = false := by
          apply Classical.byContradiction
          intro hn
          apply h
          intro j hj hb
          cases hm : m.testBit j with
          | true => rfl
          | false => exact absurd ⟨j, hj, hb, hm⟩ hn
        obtain ⟨j, h1, h2, h3⟩ := this
        exact cnt_lt (rrow_up 10 0 m) h1 h3 h2
      rcases ih (rrow C 10 0 m) with z | z
      · exact Or.inl z
      · right
        show cnt m + (r + 1) ≤ cnt (rrnd C r (rrow C 10 0 m))
        omega
theorem rch_clo (k : Nat) : clo C (rch C k) := by
  rcases clo_of (C := C) 10 (C k) with z | z
  · exact z
  · intro j hj _ i hi _
    exact cnt_10 (m := rch C k) (by show 10 ≤ cnt (rrnd C 10 (C k)); omega) hi
/-- ranks -/
theorem ranks {H : Nat → Bool} {k : Nat} (hk : k < 10) (h : ∀ j, j < 10 → (rch C k ||| 2 ^ k).testBit j = true → H j = true ∧ (rch C j).testBit j = false) : ∃ ρ : Nat → Nat, ∀ j, j < 10 → (rch C k ||| 2 ^ k).testBit j = true → ρ j ≤ 9 ∧ ∀ i, i < 10 → (C j).testBit i = true → (rch C k ||| 2 ^ k).testBit i = true ∧ ρ i < ρ j := by
  have SUBK : ∀ j, j < 10 → (rch C k ||| 2 ^ k).testBit j = true → sub (C j) (rch C k) := by
    intro j hj hb
    rw [Nat.testBit_or] at hb
    rcases Bool.or_eq_true _ _ |>.mp hb with z | z
    · exact rch_clo k j hj z
    · have : k = j := by
        rw [Nat.testBit_two_pow] at z
        exact of_decide_eq_true z
      subst this
      exact rnd_up 10 (C k)
  refine ⟨fun j => cnt (rch C j), fun j hj hb => ⟨?_, fun i hi hc => ?_⟩⟩
  · have := cnt_lt (m := rch C j) (m' := 1023) (fun i hi _ => by
      rcases (by omega : i = 0 ∨ i = 1 ∨ i = 2 ∨ i = 3 ∨ i = 4 ∨ i = 5 ∨ i = 6 ∨ i = 7 ∨ i = 8 ∨ i = 9) with z | z | z | z | z | z | z | z | z | z <;> subst z <;> decide) hj (h j hj hb).2 (by
      rcases (by omega : j = 0 ∨ j = 1 ∨ j = 2 ∨ j = 3 ∨ j = 4 ∨ j = 5 ∨ j = 6 ∨ j = 7 ∨ j = 8 ∨ j = 9) with z | z | z | z | z | z | z | z | z | z <;> subst z <;> decide)
    have h2 := hit_le (fun j => (1023 : Nat).testBit j) 10
    show cnt (rch C j) ≤ 9
    unfold cnt at this ⊢
    omega
  · have hiA : (rch C k ||| 2 ^ k).testBit i = true := by
      rw [Nat.testBit_or, SUBK j hj hb i hi hc]
      rfl
    refine ⟨hiA, ?_⟩
    have s1 : sub (C j) (rch C j) := rnd_up 10 (C j)
    have hij : (rch C j).testBit i = true := s1 i hi hc
    have s2 : sub (rch C i) (rch C j) := clo_rnd (rch_clo j) 10 (C i) (rch_clo j i hi hij)
    exact cnt_lt s2 hi (h i hi hiA).2 hij
end RANK
/-- the greatest of a set -/
def mx (m : Nat) (v : Nat → Nat) : Nat → Nat
  | 0 => 0
  | x + 1 => if m.testBit x = true ∧ mx m v x < v x then v x else mx m v x
theorem mx_cg {m : Nat} {v v' : Nat → Nat} : ∀ x, (∀ j, j < x → m.testBit j = true → v j = v' j) → mx m v x = mx m v' x := by
  intro x
  induction x with
  | zero => intro _; rfl
  | succ x ih =>
    intro h
    unfold mx
    rw [ih (fun j hj => h j (by omega))]
    by_cases hb : m.testBit x = true
    · rw [h x (by omega) hb]
    · rw [if_neg (fun z => hb z.1), if_neg (fun z => hb z.1)]
theorem mx_ge {m : Nat} {v : Nat → Nat} : ∀ x j, j < x → m.testBit j = true → v j ≤ mx m v x := by
  intro x
  induction x with
  | zero => intro j h; omega
  | succ x ih =>
    intro j hj hb
    unfold mx
    by_cases e : j = x
    · subst e
      by_cases h : m.testBit j = true ∧ mx m v j < v j
      · rw [if_pos h]; exact Nat.le_refl _
      · rw [if_neg h]
        have : ¬ mx m v j < v j := fun z => h ⟨hb, z⟩
        omega
    · have := ih j (by omega) hb
      split <;> omega
theorem mx_le {m b : Nat} {v : Nat → Nat} : ∀ x, (∀ j, j < x → v j ≤ b) → mx m v x ≤ b := by
  intro x
  induction x with
  | zero => intro _; exact Nat.zero_le _
  | succ x ih =>
    intro h
    have := ih (fun j hj => h j (by omega))
    have := h x (by omega)
    unfold mx
    split <;> omega
