/-! THE PURE PART, zf: picks of all colours, and of one -/
def sm (f : Nat → Nat) : Nat := f 0 + f 1 + f 2 + f 3 + f 4 + f 5
theorem sm_add (f h : Nat → Nat) : sm (fun e => f e + h e) = sm f + sm h := by unfold sm; dsimp only; omega
theorem sm_mul (k : Nat) (f : Nat → Nat) : sm (fun e => k * f e) = k * sm f := by unfold sm; dsimp only; simp only [Nat.mul_add]
theorem sm_cg {f h : Nat → Nat} (e : ∀ i, i < 6 → f i = h i) : sm f = sm h := by
  unfold sm
  rw [e 0 (by omega), e 1 (by omega), e 2 (by omega), e 3 (by omega), e 4 (by omega), e 5 (by omega)]
theorem sm_tr {f h : Nat → Nat} (e : ∀ i, i < 6 → f i = h i ∨ (1000000 ≤ f i ∧ 1000000 ≤ h i)) : min (sm f) 1000000 = min (sm h) 1000000 := by
  have step : ∀ a b x y : Nat, min a 1000000 = min b 1000000 → (x = y ∨ (1000000 ≤ x ∧ 1000000 ≤ y)) → min (a + x) 1000000 = min (b + y) 1000000 := fun a b x y h1 h2 => by omega
  unfold sm
  have e0 := e 0 (by omega)
  exact step _ _ _ _ (step _ _ _ _ (step _ _ _ _ (step _ _ _ _ (step _ _ _ _ (by omega) (e 1 (by omega))) (e 2 (by omega))) (e 3 (by omega))) (e 4 (by omega))) (e 5 (by omega))
section LIN
variable {sn : Nat → Nat} {n : Nat}
/-- picks of several colours are the sum of theirs -/
theorem evt_lin (hv : VT sn n) (a : Nat → Nat) (W : Nat → Nat → Nat → Nat) {pw : Nat → Nat} (hpw : ∀ c, c < 6 → pw c = sm (fun e => a e * pwe e c)) : ∀ f p c, SP sn n p → n - p < f → c < 6 → evt sn n pw (fun j c => sm (fun e => a e * W e j c)) f p c = sm (fun e => a e * evt sn n (pwe e) (W e) f p c) := by
  intro f
  induction f with
  | zero => intro p c _ h; omega
  | succ f ih =>
    intro p c hs hf hc
    have hpn := hs.1
    simp only [evt]
    by_cases h0 : n ≤ p ∨ sn p = 41
    · simp only [if_pos h0, Nat.mul_zero]
      rfl
    simp only [if_neg h0]
    have hp : p < n := by omega
    by_cases h1 : sn p = 99
    · obtain ⟨a1, a2, a3, a4, -⟩ := hs.c hv hp h1
      simp only [if_pos h1]
      exact ih _ _ a4 (by omega) (by omega)
    simp only [if_neg h1]
    by_cases h2 : sn p = 107
    · obtain ⟨a1, a2, a3, a4, -⟩ := hs.k hv hp h2
      simp only [if_pos h2, Nat.mul_add]
      rw [sm_add, ih _ _ a4 (by omega) hc]
    simp only [if_neg h2]
    by_cases h3 : sn p = 119
    · obtain ⟨q1, q2⟩ := hs.w hv hp h3
      have := wNx_gt (sn := sn) (n := n) (p := p)
      simp only [if_pos h3, Nat.mul_add]
      rw [sm_add, ih _ _ q1 (by omega) hc, hpw c hc, ← sm_mul]
      congr 1
      exact sm_cg (fun e _ => Nat.mul_left_comm _ _ _)
    simp only [if_neg h3]
    have hl : sn p = 120 ∨ sn p = 108 ∨ sn p = 115 := by
      rcases hs.kinds hv hp with ⟨z, -⟩ | z | z | z | z | z | z <;> omega
    obtain ⟨b1, b2, b3, b4, b5, b6, b7⟩ := bh_ok hv hs hp hl (f := f) (by omega)
    obtain ⟨a1, a2, a3, a4⟩ := hs.ins hv hp hl
    by_cases h4 : sn p = 115
    · simp only [if_pos h4]
      exact ih _ _ b5 (by omega) hc
    simp only [if_neg h4]
    have c2 := ecl_lt hv f _ c a2 (by omega) hc
    simp only [Nat.mul_add]
    rw [sm_add, sm_add, ih _ _ a2 (by omega) hc, ih _ _ a2 (by omega) c2, ih _ _ b5 (by omega) c2, ← sm_mul]
    congr 2
    exact sm_cg (fun e _ => Nat.mul_left_comm _ _ _)
theorem tr_add {a b x y : Nat} (h1 : min a 1000000 = min b 1000000) (h2 : min x 1000000 = min y 1000000) : min (a + x) 1000000 = min (b + y) 1000000 := by omega
theorem tr_mul {k x y : Nat} (h : min x 1000000 = min y 1000000) : min (k * x) 1000000 = min (k * y) 1000000 := by
  have h1 := minT 0 k x
  have h2 := minT 0 k y
  rw [h] at h1
  rw [Nat.zero_add, Nat.zero_add] at h1 h2
  rw [← h1, ← h2]
/-- calls count up to the limit -/
theorem evt_tr (hv : VT sn n) {pw : Nat → Nat} {W W' : Nat → Nat → Nat} (h : ∀ x c, x + 1 < n → sn x = 107 → c < 6 → min (W (sn (x + 1) - 48) c) 1000000 = min (W' (sn (x + 1) - 48) c) 1000000) : ∀ f p c, SP sn n p → n - p < f → c < 6 → min (evt sn n pw W f p c) 1000000 = min (evt sn n pw W' f p c) 1000000 := by
  intro f
  induction f with
  | zero => intro p c _ h; omega
  | succ f ih =>
    intro p c hs hf hc
    have hpn := hs.1
    simp only [evt]
    by_cases h0 : n ≤ p ∨ sn p = 41
    · simp only [if_pos h0]
    simp only [if_neg h0]
    have hp : p < n := by omega
    by_cases h1 : sn p = 99
    · obtain ⟨a1, a2, a3, a4, -⟩ := hs.c hv hp h1
      simp only [if_pos h1]
      exact ih _ _ a4 (by omega) (by omega)
    simp only [if_neg h1]
    by_cases h2 : sn p = 107
    · obtain ⟨a1, a2, a3, a4, -⟩ := hs.k hv hp h2
      simp only [if_pos h2]
      exact tr_add (h p c a1 h2 hc) (ih _ _ a4 (by omega) hc)
    simp only [if_neg h2]
    by_cases h3 : sn p = 119
    · obtain ⟨q1, q2⟩ := hs.w hv hp h3
      have := wNx_gt (sn := sn) (n := n) (p := p)
      simp only [if_pos h3]
      exact tr_add rfl (ih _ _ q1 (by omega) hc)
    simp only [if_neg h3]
    have hl : sn p = 120 ∨ sn p = 108 ∨ sn p = 115 := by
      rcases hs.kinds hv hp with ⟨z, -⟩ | z | z | z | z | z | z <;> omega
    obtain ⟨b1, b2, b3, b4, b5, b6, b7⟩ := bh_ok hv hs hp hl (f := f) (by omega)
    obtain ⟨a1, a2, a3, a4⟩ := hs.ins hv hp hl
    by_cases h4 : sn p = 115
    · simp only [if_pos h4]
      exact ih _ _ b5 (by omega) hc
    simp only [if_neg h4]
    have c2 := ecl_lt hv f _ c a2 (by omega) hc
    exact tr_add (tr_add (ih _ _ a2 (by omega) hc) (tr_mul (ih _ _ a2 (by omega) c2))) (ih _ _ b5 (by omega) c2)
theorem pwn_sm (w : Int32) {c : Nat} (hc : c < 6) : pwn w c = sm (fun e => pwn w e * pwe e c) := by
  unfold sm pwe
  rcases (by omega : c = 0 ∨ c = 1 ∨ c = 2 ∨ c = 3 ∨ c = 4 ∨ c = 5) with h | h | h | h | h | h <;> subst h <;> simp
theorem pwn_le (w : Int32) (c : Nat) : pwn w c ≤ 1 := by
  unfold pwn
  split
  · exact Nat.le_refl _
  · split <;> omega
/-- one card, both ways -/
theorem one_card (hv : VT sn n) {U : Nat → Nat → Nat} {V : Nat → Nat} {w : Int32} {c : Nat} (hc : c < 6) (h : ∀ x c, x + 1 < n → sn x = 107 → c < 6 → U (sn (x + 1) - 48) c = min (sm (fun e => pwn w e * V (36 * (sn (x + 1) - 48) + 6 * c + e))) 1000000) : min (evt sn n (pwn w) U (n + 1) 0 c) 1000000 = min (sm (fun e => pwn w e * min (evt sn n (pwe e) (Wv V e) (n + 1) 0 c) 1000001)) 1000000 := by
  rw [evt_tr hv (W' := fun j c => sm (fun e => pwn w e * Wv V e j c)) (fun x c' hx h107 hc' => by
    rw [h x c' hx h107 hc']
    show min (min _ _) _ = min _ _
    unfold Wv
    omega) (n + 1) 0 c SP.zero (by omega) hc, evt_lin hv (pwn w) (fun e => Wv V e) (fun c hc => pwn_sm w hc) (n + 1) 0 c SP.zero (by omega) hc]
  refine sm_tr (fun e _ => ?_)
  have := pwn_le w e
  rcases (by omega : pwn w e = 0 ∨ pwn w e = 1) with z | z
  · rw [z, Nat.zero_mul, Nat.zero_mul]
    exact Or.inl rfl
  · rw [z, Nat.one_mul, Nat.one_mul]
    omega
end LIN
