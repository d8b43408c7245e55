/-! THE LAW'S LOOM, u: the start; the law -/
theorem lr_0 {L : GS} (h0 : ∀ x, L 0 x = if x = 0 then nI 5 else if x = 1 then nI 20 else if x = 2 then nI 10 else nI 0) (h1 : ∀ y, L 1 y = if y < 6 then nI 50 else nI 0) (hr : ∀ r, r ≠ 0 → r ≠ 1 → L r = fun _ => nI 0) : LR L (S0 1) 0 := by
  have s19 : ∀ k, k < 24 → S0 1 (19 + k) = if k < 6 then nI 50 else nI 0 := by decide +kernel
  have s9 : ∀ k, k < 5 → S0 1 (9 + k) = nI 0 := by decide +kernel
  have s0 : S0 1 0 = nI 5 ∧ S0 1 1 = nI 20 ∧ S0 1 2 = nI 10 ∧ S0 1 5 = nI 0 ∧ S0 1 6 = nI 0 ∧ S0 1 7 = nI 0 ∧ S0 1 8 = nI 0 ∧ S0 1 3 = nI 0 ∧ S0 1 4 = nI 0 := by decide +kernel
  obtain ⟨x0, x1, x2, x5, x6, x7, x8, x3, x4⟩ := s0
  refine ⟨0, 0, ⟨fun x hx => ?_, ⟨⟨5, by omega, x0⟩, fun k hk => ⟨50, by omega, by rw [s19 k (by omega), if_pos hk]⟩, fun x hx => ?_⟩, fun x y1 y2 => ?_, ⟨0, by omega, x5⟩, fun k hk => by rw [h1, s19 k hk], fun k hk => by rw [hr 3 (by decide) (by decide), s9 k hk], ⟨by omega, by rw [h0]; rfl, x4, fun x hx => ⟨0, by omega, by rw [hr 7 (by decide) (by decide)]⟩, fun k hk => absurd hk (Nat.not_lt_zero k)⟩, fun k hk => ⟨0, fun _ => 0, by rw [hr 3 (by decide) (by decide)], row_z _ (by omega), by omega, fun z => absurd z (Nat.lt_irrefl 0), fun x hx => absurd hx (Nat.not_lt_zero x)⟩, fun k y1 y2 => row_z _ (by omega)⟩, ⟨by rw [h0]; rfl, x3, by omega, fun j hj => absurd hj (Nat.not_lt_zero _), fun j hj => absurd hj (by omega)⟩, by rw [h0, x8]; rfl⟩
  · rcases (by omega : x = 0 ∨ x = 1 ∨ x = 2) with z | z | z <;> subst z
    · rw [h0, x0]; rfl
    · rw [h0, x1]; rfl
    · rw [h0, x2]; rfl
  · rcases (by omega : x = 0 ∨ x = 1 ∨ x = 2) with z | z | z <;> subst z
    · exact ⟨5, by omega, x0⟩
    · exact ⟨20, by omega, x1⟩
    · exact ⟨10, by omega, x2⟩
  · rcases (by omega : x = 5 ∨ x = 6 ∨ x = 7) with z | z | z <;> subst z
    · rw [h0, x5]; rfl
    · rw [h0, x6]; rfl
    · rw [h0, x7]; rfl
def L3 : GS := ssI (ssI (ssI L0 0 0 (nI 5)) 0 1 (nI 20)) 0 2 (nI 10)
theorem law_71 (xs : Nat → Int32) (xl B : Nat) (K : GK) (g : GM) : f9_law K g L0 xs xl B = f9_law_71 xs xl B 60 K g L3 (nI 0) := by
  unfold f9_law
  rw [show gok 0 10 = true from rfl, show gok 1 10 = true from rfl, show gok 2 10 = true from rfl]
  simp only [EV]
  rfl
theorem law_pure (xs : Nat → Int32) (xl B : Nat) (hl : xl ≤ 260) : f9_law (k0 B) (g0 B) L0 xs xl B = some 1 := by
  obtain ⟨L4, e, e1, e2⟩ := l_71 (K := k0 B) (g := g0 B) (B := B) (xs := xs) hl 6 0 53 L3 rfl
  rw [law_71]
  have e' : f9_law_71 xs xl B 60 (k0 B) (g0 B) L3 (nI 0) = f9_law_93 xs xl B 60 (k0 B) (g0 B) L4 (nI 0) := e
  rw [e']
  clear e e'
  have l3 : ∀ r x, L3 r x = if r = 0 then (if x = 0 then nI 5 else if x = 1 then nI 20 else if x = 2 then nI 10 else nI 0) else nI 0 := fun r x => by
    by_cases r0 : r = 0
    · subst r0
      rw [if_pos rfl]
      show ssI (ssI (ssI L0 _ _ _) _ _ _) _ _ _ 0 x = _
      rw [ss_1]
      by_cases z2 : x = 2
      · subst z2; rw [pk_us]; rfl
      rw [pk_un z2, ss_1]
      by_cases z1 : x = 1
      · subst z1; rw [pk_us]; rfl
      rw [pk_un z1, ss_1]
      by_cases z0 : x = 0
      · subst z0; rw [pk_us]; rfl
      rw [pk_un z0, if_neg z0, if_neg z1, if_neg z2]
      rfl
    · rw [if_neg r0]
      show ssI (ssI (ssI L0 _ _ _) _ _ _) _ _ _ r x = _
      rw [ss_n _ _ _ _ _ r0, ss_n _ _ _ _ _ r0, ss_n _ _ _ _ _ r0]
      rfl
  have hL : LR L4 (S0 1) 0 := lr_0 (fun x => by rw [e1 0 (by decide), l3, if_pos rfl]) (fun y => by
    rw [e2 y, show L3 1 y = nI 0 from (l3 1 y).trans (if_neg (by decide))]
    by_cases z : y < 6
    · rw [if_pos ⟨Nat.zero_le _, z⟩, if_pos z]
    · rw [if_neg (fun q => z q.2), if_neg z]) (fun r r0 r1 => by
    rw [e1 r r1]
    funext x
    rw [l3, if_neg r0])
  have := l_93 (xs := xs) (B := B) hl 44 0 15 (k0 B) (g0 B) S0 L4 rfl sim_0 hL
  exact this
