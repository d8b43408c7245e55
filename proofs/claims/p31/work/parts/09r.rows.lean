/-! THE PURE PART, r: the reference's rows are copied: by program (wip/whole/gen/rloops.py) -/
theorem rl_put  : ∀ w x S f, x + w = 2081 → ∃ S', f8_putAside_2 (w + f) S (nI x) = f8_putAside_2 f S' (nI 2081) ∧ (∀ k, k ≠ 2 → S' k = S k) ∧ (∀ y, x ≤ y → y < 2081 → S' 2 (0 + y) = S 1 (0 + y)) ∧ ∀ z, z < 0 + x ∨ 0 + 2081 ≤ z → S' 2 z = S 2 z := by
  intro w
  induction w with
  | zero =>
    intro x S f hw 
    have : x = 2081 := by omega
    subst this
    exact ⟨S, by rw [Nat.zero_add], fun _ _ => rfl, fun y h1 h2 => absurd h1 (by omega), fun _ _ => rfl⟩
  | succ w ih =>
    intro x S f hw 
    have hx : ¬ 2081 ≤ x := by omega
    obtain ⟨S', e, e1, e2, e3⟩ := ih (x + 1) (ssI S 2 (0 + x) (S 1 (0 + x))) f (by omega)
    refine ⟨S', ?_, fun k hk => ?_, fun y h1 h2 => ?_, fun z hz => ?_⟩
    · rw [← e, show w + 1 + f = (w + f) + 1 by omega, f8_putAside_2]
      simp (disch := omega) only [EV, NUM, pu_lit, pu_le, pu_gok, pu_cl, hx, if_false, Nat.zero_add]
    · rw [e1 k hk, ss_n _ _ _ _ _ hk]
    · by_cases hyx : y = x
      · subst hyx
        rw [e3 _ (by omega), ss_at, if_pos ⟨rfl, rfl⟩]
      · rw [e2 y (by omega) h2, ss_at, if_neg (by omega)]
    · rw [e3 z (by omega), ss_at, if_neg (by omega)]
theorem rl_take  : ∀ w x S f, x + w = 2081 → ∃ S', f8_takeBack_2 (w + f) S (nI x) = f8_takeBack_2 f S' (nI 2081) ∧ (∀ k, k ≠ 1 → S' k = S k) ∧ (∀ y, x ≤ y → y < 2081 → S' 1 (0 + y) = S 2 (0 + y)) ∧ ∀ z, z < 0 + x ∨ 0 + 2081 ≤ z → S' 1 z = S 1 z := by
  intro w
  induction w with
  | zero =>
    intro x S f hw 
    have : x = 2081 := by omega
    subst this
    exact ⟨S, by rw [Nat.zero_add], fun _ _ => rfl, fun y h1 h2 => absurd h1 (by omega), fun _ _ => rfl⟩
  | succ w ih =>
    intro x S f hw 
    have hx : ¬ 2081 ≤ x := by omega
    obtain ⟨S', e, e1, e2, e3⟩ := ih (x + 1) (ssI S 1 (0 + x) (S 2 (0 + x))) f (by omega)
    refine ⟨S', ?_, fun k hk => ?_, fun y h1 h2 => ?_, fun z hz => ?_⟩
    · rw [← e, show w + 1 + f = (w + f) + 1 by omega, f8_takeBack_2]
      simp (disch := omega) only [EV, NUM, pu_lit, pu_le, pu_gok, pu_cl, hx, if_false, Nat.zero_add]
    · rw [e1 k hk, ss_n _ _ _ _ _ hk]
    · by_cases hyx : y = x
      · subst hyx
        rw [e3 _ (by omega), ss_at, if_pos ⟨rfl, rfl⟩]
      · rw [e2 y (by omega) h2, ss_at, if_neg (by omega)]
    · rw [e3 z (by omega), ss_at, if_neg (by omega)]
theorem rl_shift  : ∀ w x S f, x + w = 10405 → ∃ S', f8_push_11 (w + f) S (nI x) = f8_push_11 f S' (nI 10405) ∧ (∀ k, k ≠ 3 → S' k = S k) ∧ (∀ y, x ≤ y → y < 10405 → S' 3 (0 + y) = S 3 (2081 + y)) ∧ ∀ z, z < 0 + x ∨ 0 + 10405 ≤ z → S' 3 z = S 3 z := by
  intro w
  induction w with
  | zero =>
    intro x S f hw 
    have : x = 10405 := by omega
    subst this
    exact ⟨S, by rw [Nat.zero_add], fun _ _ => rfl, fun y h1 h2 => absurd h1 (by omega), fun _ _ => rfl⟩
  | succ w ih =>
    intro x S f hw 
    have hx : ¬ 10405 ≤ x := by omega
    obtain ⟨S', e, e1, e2, e3⟩ := ih (x + 1) (ssI S 3 (0 + x) (S 3 (2081 + x))) f (by omega)
    refine ⟨S', ?_, fun k hk => ?_, fun y h1 h2 => ?_, fun z hz => ?_⟩
    · rw [← e, show w + 1 + f = (w + f) + 1 by omega, f8_push_11]
      simp (disch := omega) only [EV, NUM, pu_lit, pu_le, pu_gok, pu_cl, hx, if_false, Nat.zero_add, Nat.add_comm x 2081]
    · rw [e1 k hk, ss_n _ _ _ _ _ hk]
    · by_cases hyx : y = x
      · subst hyx
        rw [e3 _ (by omega), ss_at, if_pos ⟨rfl, rfl⟩]
      · rw [e2 y (by omega) h2, ss_at, if_neg (by omega)]
    · rw [e3 z (by omega), ss_at, if_neg (by omega)]
theorem rl_push {h : Nat} (hh : h < 6) : ∀ w x S f, x + w = 2081 → S 0 3 = nI h → ∃ S', f8_push_52 (w + f) S (nI x) = f8_push_52 f S' (nI 2081) ∧ (∀ k, k ≠ 3 → S' k = S k) ∧ (∀ y, x ≤ y → y < 2081 → S' 3 (h * 2081 + y) = S 2 (0 + y)) ∧ ∀ z, z < h * 2081 + x ∨ h * 2081 + 2081 ≤ z → S' 3 z = S 3 z := by
  intro w
  induction w with
  | zero =>
    intro x S f hw h3
    have : x = 2081 := by omega
    subst this
    exact ⟨S, by rw [Nat.zero_add], fun _ _ => rfl, fun y h1 h2 => absurd h1 (by omega), fun _ _ => rfl⟩
  | succ w ih =>
    intro x S f hw h3
    have hx : ¬ 2081 ≤ x := by omega
    obtain ⟨S', e, e1, e2, e3⟩ := ih (x + 1) (ssI S 3 (h * 2081 + x) (S 2 (0 + x))) f (by omega) (by rw [ss_n _ _ _ _ _ (by decide)]; exact h3)
    refine ⟨S', ?_, fun k hk => ?_, fun y h1 h2 => ?_, fun z hz => ?_⟩
    · rw [← e, show w + 1 + f = (w + f) + 1 by omega, f8_push_52]
      simp (disch := omega) only [EV, NUM, pu_lit, pu_le, pu_gok, pu_cl, hx, if_false, h3, Nat.zero_add]
    · rw [e1 k hk, ss_n _ _ _ _ _ hk]
    · by_cases hyx : y = x
      · subst hyx
        rw [e3 _ (by omega), ss_at, if_pos ⟨rfl, rfl⟩]
      · rw [e2 y (by omega) h2, ss_at, if_neg (by omega)]
    · rw [e3 z (by omega), ss_at, if_neg (by omega)]
theorem rl_undo {h : Nat} (hh : h < 6) : ∀ w x S f, x + w = 2081 → S 0 3 = nI h → ∃ S', f8_undo_22 (w + f) S (nI x) = f8_undo_22 f S' (nI 2081) ∧ (∀ k, k ≠ 1 → S' k = S k) ∧ (∀ y, x ≤ y → y < 2081 → S' 1 (0 + y) = S 3 (h * 2081 + y)) ∧ ∀ z, z < 0 + x ∨ 0 + 2081 ≤ z → S' 1 z = S 1 z := by
  intro w
  induction w with
  | zero =>
    intro x S f hw h3
    have : x = 2081 := by omega
    subst this
    exact ⟨S, by rw [Nat.zero_add], fun _ _ => rfl, fun y h1 h2 => absurd h1 (by omega), fun _ _ => rfl⟩
  | succ w ih =>
    intro x S f hw h3
    have hx : ¬ 2081 ≤ x := by omega
    obtain ⟨S', e, e1, e2, e3⟩ := ih (x + 1) (ssI S 1 (0 + x) (S 3 (h * 2081 + x))) f (by omega) (by rw [ss_n _ _ _ _ _ (by decide)]; exact h3)
    refine ⟨S', ?_, fun k hk => ?_, fun y h1 h2 => ?_, fun z hz => ?_⟩
    · rw [← e, show w + 1 + f = (w + f) + 1 by omega, f8_undo_22]
      simp (disch := omega) only [EV, NUM, pu_lit, pu_le, pu_gok, pu_cl, hx, if_false, h3, Nat.zero_add]
    · rw [e1 k hk, ss_n _ _ _ _ _ hk]
    · by_cases hyx : y = x
      · subst hyx
        rw [e3 _ (by omega), ss_at, if_pos ⟨rfl, rfl⟩]
      · rw [e2 y (by omega) h2, ss_at, if_neg (by omega)]
    · rw [e3 z (by omega), ss_at, if_neg (by omega)]
theorem rl_save {h : Nat} (hh : h < 2) : ∀ w x S f, x + w = 2081 → ∃ S', f8_save_12 (nI h) (w + f) S (nI x) = f8_save_12 (nI h) f S' (nI 2081) ∧ (∀ k, k ≠ 4 → S' k = S k) ∧ (∀ y, x ≤ y → y < 2081 → S' 4 (h * 2081 + y) = S 1 (0 + y)) ∧ ∀ z, z < h * 2081 + x ∨ h * 2081 + 2081 ≤ z → S' 4 z = S 4 z := by
  intro w
  induction w with
  | zero =>
    intro x S f hw 
    have : x = 2081 := by omega
    subst this
    exact ⟨S, by rw [Nat.zero_add], fun _ _ => rfl, fun y h1 h2 => absurd h1 (by omega), fun _ _ => rfl⟩
  | succ w ih =>
    intro x S f hw 
    have hx : ¬ 2081 ≤ x := by omega
    obtain ⟨S', e, e1, e2, e3⟩ := ih (x + 1) (ssI S 4 (h * 2081 + x) (S 1 (0 + x))) f (by omega)
    refine ⟨S', ?_, fun k hk => ?_, fun y h1 h2 => ?_, fun z hz => ?_⟩
    · rw [← e, show w + 1 + f = (w + f) + 1 by omega, f8_save_12]
      simp (disch := omega) only [EV, NUM, pu_lit, pu_le, pu_gok, pu_cl, hx, if_false, Nat.zero_add]
    · rw [e1 k hk, ss_n _ _ _ _ _ hk]
    · by_cases hyx : y = x
      · subst hyx
        rw [e3 _ (by omega), ss_at, if_pos ⟨rfl, rfl⟩]
      · rw [e2 y (by omega) h2, ss_at, if_neg (by omega)]
    · rw [e3 z (by omega), ss_at, if_neg (by omega)]
theorem rl_rest {h : Nat} (hh : h < 2) : ∀ w x S f, x + w = 2081 → ∃ S', f8_restore_28 (nI h) (w + f) S (nI x) = f8_restore_28 (nI h) f S' (nI 2081) ∧ (∀ k, k ≠ 1 → S' k = S k) ∧ (∀ y, x ≤ y → y < 2081 → S' 1 (0 + y) = S 4 (h * 2081 + y)) ∧ ∀ z, z < 0 + x ∨ 0 + 2081 ≤ z → S' 1 z = S 1 z := by
  intro w
  induction w with
  | zero =>
    intro x S f hw 
    have : x = 2081 := by omega
    subst this
    exact ⟨S, by rw [Nat.zero_add], fun _ _ => rfl, fun y h1 h2 => absurd h1 (by omega), fun _ _ => rfl⟩
  | succ w ih =>
    intro x S f hw 
    have hx : ¬ 2081 ≤ x := by omega
    obtain ⟨S', e, e1, e2, e3⟩ := ih (x + 1) (ssI S 1 (0 + x) (S 4 (h * 2081 + x))) f (by omega)
    refine ⟨S', ?_, fun k hk => ?_, fun y h1 h2 => ?_, fun z hz => ?_⟩
    · rw [← e, show w + 1 + f = (w + f) + 1 by omega, f8_restore_28]
      simp (disch := omega) only [EV, NUM, pu_lit, pu_le, pu_gok, pu_cl, hx, if_false, Nat.zero_add]
    · rw [e1 k hk, ss_n _ _ _ _ _ hk]
    · by_cases hyx : y = x
      · subst hyx
        rw [e3 _ (by omega), ss_at, if_pos ⟨rfl, rfl⟩]
      · rw [e2 y (by omega) h2, ss_at, if_neg (by omega)]
    · rw [e3 z (by omega), ss_at, if_neg (by omega)]
