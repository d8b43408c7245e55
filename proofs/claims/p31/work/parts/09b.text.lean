/-! THE PURE PART, b: texts of cards as runs of an automaton: (what is wanted, opened steps, latest step); 0 a step, 1 a step or an end, 2 .. or a count, 3 a count of parts, 4 a colour, 5 a card, 6 a bracket, 9 nothing -/
def isCnt (c : Nat) : Prop := 50 ≤ c ∧ c ≤ 57
abbrev TQ : Type := Nat × List Nat × Nat
def tLet (c p : Nat) (st : List Nat) : TQ := if c = 99 then (4, st, p) else if c = 107 then (5, st, p) else if c = 108 then (6, st, p) else if c = 115 then (6, st, p) else if c = 119 then (2, st, p) else if c = 120 then (3, st, p) else (9, st, p)
def tEnd (st : List Nat) (sp : Nat) : TQ := match st with
  | [] => (9, [], sp)
  | _ :: r => (1, r, sp)
def tstep (c p : Nat) (q : TQ) : TQ :=
  if q.1 = 0 then tLet c p q.2.1
  else if q.1 = 1 then (if c = 41 then tEnd q.2.1 q.2.2 else tLet c p q.2.1)
  else if q.1 = 2 then (if 50 ≤ c ∧ c ≤ 57 then (1, q.2) else if c = 41 then tEnd q.2.1 q.2.2 else tLet c p q.2.1)
  else if q.1 = 3 then (if 50 ≤ c ∧ c ≤ 57 then (6, q.2) else (9, q.2))
  else if q.1 = 4 then (if 48 ≤ c ∧ c < 54 then (1, q.2) else (9, q.2))
  else if q.1 = 5 then (if 48 ≤ c ∧ c < 58 then (1, q.2) else (9, q.2))
  else if q.1 = 6 then (if c = 40 ∧ q.2.1.length < 3 then (0, q.2.2 :: q.2.1, q.2.2) else (9, q.2))
  else (9, q.2)
def tq (sn : Nat → Nat) : Nat → TQ
  | 0 => (0, [], 0)
  | p + 1 => tstep (sn p) p (tq sn p)
abbrev cc (sn : Nat → Nat) (p : Nat) : Nat := (tq sn p).1
abbrev ks (sn : Nat → Nat) (p : Nat) : List Nat := (tq sn p).2.1
abbrev lp (sn : Nat → Nat) (p : Nat) : Nat := (tq sn p).2.2
theorem tq_s (sn : Nat → Nat) (p : Nat) : tq sn (p + 1) = tstep (sn p) p (tq sn p) := rfl
theorem tstep_9 (c p : Nat) (q : TQ) (h : q.1 = 9) : (tstep c p q).1 = 9 := by
  unfold tstep
  simp [h]
theorem no9 {sn : Nat → Nat} {n : Nat} (h : cc sn n ≠ 9) : ∀ p, p ≤ n → cc sn p ≠ 9 := by
  intro p hp e
  apply h
  obtain ⟨d, rfl⟩ : ∃ d, n = p + d := ⟨n - p, by omega⟩
  clear h hp
  induction d with
  | zero => exact e
  | succ d ih => exact tstep_9 _ _ _ ih
/-- a text that has no fault -/
def VT (sn : Nat → Nat) (n : Nat) : Prop := n ≤ 80 ∧ (cc sn n = 1 ∨ cc sn n = 2) ∧ ks sn n = [] ∧ ∀ k, k < n → sn k < 128
theorem VT.ne {sn : Nat → Nat} {n : Nat} (h : VT sn n) {p : Nat} (hp : p ≤ n) : cc sn p ≠ 9 := no9 (by rcases h.2.1 with h | h <;> rw [h] <;> decide) p hp
/-- a place where a step or an end stands -/
def SP (sn : Nat → Nat) (n p : Nat) : Prop := p ≤ n ∧ (cc sn p = 0 ∨ cc sn p = 1 ∨ (cc sn p = 2 ∧ (p < n → ¬ (50 ≤ sn p ∧ sn p ≤ 57))))
theorem SP.zero {sn : Nat → Nat} {n : Nat} : SP sn n 0 := ⟨Nat.zero_le _, Or.inl rfl⟩
section TEXT
variable {sn : Nat → Nat} {n p : Nat}
theorem tLet_sn {c p : Nat} {st : List Nat} (h : (tLet c p st).1 ≠ 9) : c = 99 ∨ c = 107 ∨ c = 108 ∨ c = 115 ∨ c = 119 ∨ c = 120 := by
  unfold tLet at h
  by_cases h1 : c = 99
  · exact Or.inl h1
  by_cases h2 : c = 107
  · exact Or.inr (Or.inl h2)
  by_cases h3 : c = 108
  · exact Or.inr (Or.inr (Or.inl h3))
  by_cases h4 : c = 115
  · exact Or.inr (Or.inr (Or.inr (Or.inl h4)))
  by_cases h5 : c = 119
  · exact Or.inr (Or.inr (Or.inr (Or.inr (Or.inl h5))))
  by_cases h6 : c = 120
  · exact Or.inr (Or.inr (Or.inr (Or.inr (Or.inr h6))))
  simp [h1, h2, h3, h4, h5, h6] at h
theorem SP.run (h : SP sn n p) (hp : p < n) : tq sn (p + 1) = if sn p = 41 ∧ cc sn p ≠ 0 then tEnd (ks sn p) (lp sn p) else tLet (sn p) p (ks sn p) := by
  rw [tq_s]
  unfold tstep
  rcases h.2 with h | h | ⟨h, hc⟩
  · simp [h]
  · simp [h]
  · have hc := hc hp
    by_cases h41 : sn p = 41
    · simp [h, h41]
    · simp [h, h41, hc]
/-- what may stand there -/
theorem SP.kinds (hv : VT sn n) (h : SP sn n p) (hp : p < n) : (sn p = 41 ∧ ∃ k, ks sn p = k :: ks sn (p + 1) ∧ SP sn n (p + 1)) ∨ sn p = 99 ∨ sn p = 107 ∨ sn p = 108 ∨ sn p = 115 ∨ sn p = 119 ∨ sn p = 120 := by
  have hr := h.run hp
  have h9 := hv.ne (p := p + 1) (by omega)
  unfold cc at h9
  by_cases hc : sn p = 41 ∧ cc sn p ≠ 0
  · left
    rw [if_pos hc] at hr
    refine ⟨hc.1, ?_⟩
    cases hk : ks sn p with
    | nil =>
      rw [hk] at hr
      rw [hr] at h9
      exact absurd rfl h9
    | cons k st =>
      rw [hk] at hr
      have e1 : tq sn (p + 1) = (1, st, lp sn p) := hr
      refine ⟨k, by unfold ks; rw [e1], by omega, Or.inr (Or.inl ?_)⟩
      unfold cc
      rw [e1]
  · right
    rw [if_neg hc] at hr
    rw [hr] at h9
    exact tLet_sn h9
theorem SP.let (hv : VT sn n) (h : SP sn n p) (hp : p < n) (h41 : sn p ≠ 41) : tq sn (p + 1) = tLet (sn p) p (ks sn p) := by
  rw [h.run hp, if_neg (fun z => h41 z.1)]
theorem VT.last (hv : VT sn n) {c : Nat} {q : List Nat × Nat} (hp : p + 1 ≤ n) (h : tq sn (p + 1) = (c, q)) (h1 : c ≠ 1) (h2 : c ≠ 2) : p + 1 < n := by
  apply Classical.byContradiction
  intro hn
  have e : p + 1 = n := by omega
  have := hv.2.1
  unfold cc at this
  rw [← e, h] at this
  simp at this
  omega
theorem SP.c (hv : VT sn n) (h : SP sn n p) (hp : p < n) (hs : sn p = 99) : p + 1 < n ∧ 48 ≤ sn (p + 1) ∧ sn (p + 1) < 54 ∧ SP sn n (p + 2) ∧ ks sn (p + 2) = ks sn p := by
  have e := h.let hv hp (by rw [hs]; decide)
  rw [hs] at e
  have e1 : tq sn (p + 1) = (4, ks sn p, p) := e
  have hl := hv.last (by omega) e1 (by decide) (by decide)
  have e2 : tq sn (p + 2) = tstep (sn (p + 1)) (p + 1) (4, ks sn p, p) := by rw [tq_s, e1]
  have h9 := hv.ne (p := p + 2) (by omega)
  unfold cc at h9
  unfold tstep at e2
  simp at e2
  by_cases hc : 48 ≤ sn (p + 1) ∧ sn (p + 1) < 54
  · rw [if_pos hc] at e2
    exact ⟨hl, hc.1, hc.2, ⟨by omega, Or.inr (Or.inl (by unfold cc; rw [e2]))⟩, by unfold ks; rw [e2]⟩
  · rw [if_neg hc] at e2
    rw [e2] at h9
    exact absurd rfl h9
theorem SP.k (hv : VT sn n) (h : SP sn n p) (hp : p < n) (hs : sn p = 107) : p + 1 < n ∧ 48 ≤ sn (p + 1) ∧ sn (p + 1) < 58 ∧ SP sn n (p + 2) ∧ ks sn (p + 2) = ks sn p := by
  have e := h.let hv hp (by rw [hs]; decide)
  rw [hs] at e
  have e1 : tq sn (p + 1) = (5, ks sn p, p) := e
  have hl := hv.last (by omega) e1 (by decide) (by decide)
  have e2 : tq sn (p + 2) = tstep (sn (p + 1)) (p + 1) (5, ks sn p, p) := by rw [tq_s, e1]
  have h9 := hv.ne (p := p + 2) (by omega)
  unfold cc at h9
  unfold tstep at e2
  simp at e2
  by_cases hc : 48 ≤ sn (p + 1) ∧ sn (p + 1) < 58
  · rw [if_pos hc] at e2
    exact ⟨hl, hc.1, hc.2, ⟨by omega, Or.inr (Or.inl (by unfold cc; rw [e2]))⟩, by unfold ks; rw [e2]⟩
  · rw [if_neg hc] at e2
    rw [e2] at h9
    exact absurd rfl h9
/-- how many times -/
def cntN (sn : Nat → Nat) (n p : Nat) : Nat := if p + 1 < n ∧ 50 ≤ sn (p + 1) ∧ sn (p + 1) ≤ 57 then sn (p + 1) - 48 else 1
/-- behind a 'w' -/
def wNx (sn : Nat → Nat) (n p : Nat) : Nat := if p + 1 < n ∧ 50 ≤ sn (p + 1) ∧ sn (p + 1) ≤ 57 then p + 2 else p + 1
theorem cntN_pos : 1 ≤ cntN sn n p ∧ cntN sn n p ≤ 9 := by
  unfold cntN
  by_cases h : p + 1 < n ∧ 50 ≤ sn (p + 1) ∧ sn (p + 1) ≤ 57
  · rw [if_pos h]; omega
  · rw [if_neg h]; omega
theorem wNx_cnt : wNx sn n p = if cntN sn n p ≤ 1 then p + 1 else p + 2 := by
  unfold cntN wNx
  by_cases h : p + 1 < n ∧ 50 ≤ sn (p + 1) ∧ sn (p + 1) ≤ 57
  · rw [if_pos h, if_pos h, if_neg (by omega)]
  · rw [if_neg h, if_neg h, if_pos (by omega)]
theorem SP.w (hv : VT sn n) (h : SP sn n p) (hp : p < n) (hs : sn p = 119) : SP sn n (wNx sn n p) ∧ ks sn (wNx sn n p) = ks sn p := by
  have e := h.let hv hp (by rw [hs]; decide)
  rw [hs] at e
  have e1 : tq sn (p + 1) = (2, ks sn p, p) := e
  unfold wNx
  by_cases hc : p + 1 < n ∧ 50 ≤ sn (p + 1) ∧ sn (p + 1) ≤ 57
  · rw [if_pos hc]
    have e2 : tq sn (p + 2) = tstep (sn (p + 1)) (p + 1) (2, ks sn p, p) := by rw [tq_s, e1]
    unfold tstep at e2
    simp [hc.2] at e2
    exact ⟨⟨by omega, Or.inr (Or.inl (by unfold cc; rw [e2]))⟩, by unfold ks; rw [e2]⟩
  · rw [if_neg hc]
    exact ⟨⟨by omega, Or.inr (Or.inr ⟨by unfold cc; rw [e1], fun hn z => hc ⟨hn, z⟩⟩)⟩, by unfold ks; rw [e1]⟩
theorem SP.br (hv : VT sn n) {q : Nat} {st : List Nat} {k : Nat} (hq : q + 1 ≤ n) (e1 : tq sn (q + 1) = (6, st, k)) : q + 1 < n ∧ sn (q + 1) = 40 ∧ st.length < 3 ∧ SP sn n (q + 2) ∧ ks sn (q + 2) = k :: st := by
  have hl := hv.last hq e1 (by decide) (by decide)
  have e2 : tq sn (q + 2) = tstep (sn (q + 1)) (q + 1) (6, st, k) := by rw [tq_s, e1]
  have h9 := hv.ne (p := q + 2) (by omega)
  unfold cc at h9
  unfold tstep at e2
  simp at e2
  by_cases hc : sn (q + 1) = 40 ∧ st.length < 3
  · rw [if_pos hc] at e2
    exact ⟨hl, hc.1, hc.2, ⟨by omega, Or.inl (by unfold cc; rw [e2])⟩, by unfold ks; rw [e2]⟩
  · rw [if_neg hc] at e2
    rw [e2] at h9
    exact absurd rfl h9
theorem SP.sl (hv : VT sn n) (h : SP sn n p) (hp : p < n) (hs : sn p = 108 ∨ sn p = 115) : p + 1 < n ∧ sn (p + 1) = 40 ∧ (ks sn p).length < 3 ∧ SP sn n (p + 2) ∧ ks sn (p + 2) = p :: ks sn p := by
  have e := h.let hv hp (by rcases hs with h | h <;> rw [h] <;> decide)
  have e1 : tq sn (p + 1) = (6, ks sn p, p) := by
    rcases hs with h | h <;> rw [h] at e <;> exact e
  exact SP.br hv (by omega) e1
theorem SP.x (hv : VT sn n) (h : SP sn n p) (hp : p < n) (hs : sn p = 120) : p + 2 < n ∧ 50 ≤ sn (p + 1) ∧ sn (p + 1) ≤ 57 ∧ sn (p + 2) = 40 ∧ (ks sn p).length < 3 ∧ SP sn n (p + 3) ∧ ks sn (p + 3) = p :: ks sn p := by
  have e := h.let hv hp (by rw [hs]; decide)
  rw [hs] at e
  have e1 : tq sn (p + 1) = (3, ks sn p, p) := e
  have hl := hv.last (by omega) e1 (by decide) (by decide)
  have e2 : tq sn (p + 2) = tstep (sn (p + 1)) (p + 1) (3, ks sn p, p) := by rw [tq_s, e1]
  have h9 := hv.ne (p := p + 2) (by omega)
  unfold cc at h9
  unfold tstep at e2
  simp at e2
  by_cases hc : 50 ≤ sn (p + 1) ∧ sn (p + 1) ≤ 57
  · rw [if_pos hc] at e2
    obtain ⟨a, b, c, d, f⟩ := SP.br hv (q := p + 1) (by omega) e2
    exact ⟨a, hc.1, hc.2, b, c, d, f⟩
  · rw [if_neg hc] at e2
    rw [e2] at h9
    exact absurd rfl h9
theorem SP.fin (hv : VT sn n) (h : SP sn n p) (hk : ks sn p ≠ []) : p < n := by
  apply Classical.byContradiction
  intro hn
  have : p = n := by have := h.1; omega
  rw [this] at hk
  exact hk hv.2.2.1
/-- brackets open and close parts, nothing else does -/
theorem ks_step (hv : VT sn n) (hp : p < n) : (sn p = 40 → ks sn (p + 1) = lp sn p :: ks sn p) ∧ (sn p = 41 → (∃ k, ks sn p = k :: ks sn (p + 1)) ∧ SP sn n p) ∧ (sn p ≠ 40 → sn p ≠ 41 → ks sn (p + 1) = ks sn p) := by
  have h9 := hv.ne (p := p + 1) (by omega)
  have hp9 := hv.ne (p := p) (by omega)
  have e := tq_s sn p
  unfold cc at h9 hp9
  have HL : tq sn (p + 1) = tLet (sn p) p (ks sn p) → sn p ≠ 40 ∧ sn p ≠ 41 ∧ ks sn (p + 1) = ks sn p := by
    intro e
    rw [e] at h9
    have hs := tLet_sn h9
    refine ⟨by omega, by omega, ?_⟩
    unfold ks at e ⊢
    rw [e]
    rcases hs with h | h | h | h | h | h <;> rw [h] <;> rfl
  have HE : sn p = 41 → tq sn (p + 1) = tEnd (ks sn p) (lp sn p) → ∃ k, ks sn p = k :: ks sn (p + 1) := by
    intro h41 e
    cases hk : ks sn p with
    | nil =>
      rw [hk] at e
      rw [e] at h9
      exact absurd rfl h9
    | cons k st =>
      rw [hk] at e
      have e1 : tq sn (p + 1) = (1, st, lp sn p) := e
      exact ⟨k, by unfold ks; rw [e1]⟩
  have HO : ∀ c, tq sn (p + 1) = (c, (tq sn p).2) → ks sn (p + 1) = ks sn p := fun c e => by unfold ks; rw [e]
  unfold tstep at e
  by_cases h0 : (tq sn p).1 = 0
  · rw [if_pos h0] at e
    obtain ⟨a, b, c⟩ := HL e
    exact ⟨fun h => absurd h a, fun h => absurd h b, fun _ _ => c⟩
  rw [if_neg h0] at e
  by_cases h1 : (tq sn p).1 = 1
  · rw [if_pos h1] at e
    by_cases h41 : sn p = 41
    · rw [if_pos h41] at e
      exact ⟨fun h => by omega, fun h => ⟨HE h41 e, by omega, Or.inr (Or.inl h1)⟩, fun _ h => absurd h41 h⟩
    · rw [if_neg h41] at e
      obtain ⟨a, b, c⟩ := HL e
      exact ⟨fun h => absurd h a, fun h => absurd h b, fun _ _ => c⟩
  rw [if_neg h1] at e
  by_cases h2 : (tq sn p).1 = 2
  · rw [if_pos h2] at e
    by_cases hc : 50 ≤ sn p ∧ sn p ≤ 57
    · rw [if_pos hc] at e
      exact ⟨fun h => by omega, fun h => by omega, fun _ _ => HO _ e⟩
    rw [if_neg hc] at e
    by_cases h41 : sn p = 41
    · rw [if_pos h41] at e
      exact ⟨fun h => by omega, fun h => ⟨HE h41 e, by omega, Or.inr (Or.inr ⟨h2, fun _ => hc⟩)⟩, fun _ h => absurd h41 h⟩
    · rw [if_neg h41] at e
      obtain ⟨a, b, c⟩ := HL e
      exact ⟨fun h => absurd h a, fun h => absurd h b, fun _ _ => c⟩
  rw [if_neg h2] at e
  by_cases h3 : (tq sn p).1 = 3
  · rw [if_pos h3] at e
    by_cases hc : 50 ≤ sn p ∧ sn p ≤ 57
    · rw [if_pos hc] at e
      exact ⟨fun h => by omega, fun h => by omega, fun _ _ => HO _ e⟩
    · rw [if_neg hc] at e
      rw [e] at h9
      exact absurd rfl h9
  rw [if_neg h3] at e
  by_cases h4 : (tq sn p).1 = 4
  · rw [if_pos h4] at e
    by_cases hc : 48 ≤ sn p ∧ sn p < 54
    · rw [if_pos hc] at e
      exact ⟨fun h => by omega, fun h => by omega, fun _ _ => HO _ e⟩
    · rw [if_neg hc] at e
      rw [e] at h9
      exact absurd rfl h9
  rw [if_neg h4] at e
  by_cases h5 : (tq sn p).1 = 5
  · rw [if_pos h5] at e
    by_cases hc : 48 ≤ sn p ∧ sn p < 58
    · rw [if_pos hc] at e
      exact ⟨fun h => by omega, fun h => by omega, fun _ _ => HO _ e⟩
    · rw [if_neg hc] at e
      rw [e] at h9
      exact absurd rfl h9
  rw [if_neg h5] at e
  by_cases h6 : (tq sn p).1 = 6
  · rw [if_pos h6] at e
    by_cases hc : sn p = 40 ∧ (tq sn p).2.1.length < 3
    · rw [if_pos hc] at e
      exact ⟨fun _ => by unfold ks; rw [e], fun h => by omega, fun h => absurd hc.1 h⟩
    · rw [if_neg hc] at e
      rw [e] at h9
      exact absurd rfl h9
  · rw [if_neg h6] at e
    rw [e] at h9
    exact absurd rfl h9
/-- where an opened part closes -/
theorem closes (hv : VT sn n) (k : Nat) (st : List Nat) : ∀ m u (l : List Nat), n - u ≤ m → u ≤ n → ks sn u = l ++ k :: st → ∃ r, u ≤ r ∧ r < n ∧ sn r = 41 ∧ ks sn r = k :: st ∧ ks sn (r + 1) = st ∧ SP sn n r ∧ SP sn n (r + 1) ∧ ∀ v, u ≤ v → v ≤ r → st.length < (ks sn v).length := by
  intro m
  induction m with
  | zero =>
    intro u l hm hu hk
    have : u = n := by omega
    rw [this, hv.2.2.1] at hk
    cases l <;> cases hk
  | succ m ih =>
    intro u l hm hu hk
    have hun : u < n := by
      apply Classical.byContradiction
      intro hn
      have : u = n := by omega
      rw [this, hv.2.2.1] at hk
      cases l <;> cases hk
    obtain ⟨h40, h41, hne⟩ := ks_step hv hun
    have hlen : st.length < (ks sn u).length := by rw [hk, List.length_append, List.length_cons]; omega
    have go : ∀ l', ks sn (u + 1) = l' ++ k :: st → ∃ r, u ≤ r ∧ r < n ∧ sn r = 41 ∧ ks sn r = k :: st ∧ ks sn (r + 1) = st ∧ SP sn n r ∧ SP sn n (r + 1) ∧ ∀ v, u ≤ v → v ≤ r → st.length < (ks sn v).length := by
      intro l' hl'
      obtain ⟨r, h1, h2, h3, h4, h5, h6, h7, h8⟩ := ih (u + 1) l' (by omega) (by omega) hl'
      refine ⟨r, by omega, h2, h3, h4, h5, h6, h7, fun v hv1 hv2 => ?_⟩
      by_cases e : v = u
      · rw [e]; exact hlen
      · exact h8 v (by omega) hv2
    by_cases c40 : sn u = 40
    · exact go (lp sn u :: l) (by rw [h40 c40, hk]; rfl)
    by_cases c41 : sn u = 41
    · obtain ⟨⟨k', hk'⟩, hsp⟩ := h41 c41
      cases l with
      | nil =>
        have hk2 : k' :: ks sn (u + 1) = k :: st := by rw [← hk', hk]; rfl
        have e1 : ks sn (u + 1) = st := (List.cons.inj hk2).2
        refine ⟨u, Nat.le_refl _, hun, c41, hk, e1, hsp, ?_, fun v h1 h2 => ?_⟩
        · rcases hsp.kinds hv hun with ⟨_, _, _, h⟩ | h | h | h | h | h | h
          · exact h
          all_goals omega
        · rw [show v = u by omega]; exact hlen
      | cons a l =>
        have hk2 : k' :: ks sn (u + 1) = a :: (l ++ k :: st) := by rw [← hk', hk]; rfl
        exact go l (List.cons.inj hk2).2
    · exact go l (by rw [hne c40 c41, hk])
end TEXT
