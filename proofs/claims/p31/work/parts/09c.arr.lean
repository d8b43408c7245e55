/-! THE PURE PART, c: what the reader writes into its rows -/
def tcl (c : Nat) : Nat := if c = 99 then 4 else if c = 107 then 5 else if c = 119 then 2 else if c = 120 then 3 else 6
def isLet (c : Nat) : Prop := c = 99 ∨ c = 107 ∨ c = 108 ∨ c = 115 ∨ c = 119 ∨ c = 120
theorem tLet_is {c p : Nat} {st : List Nat} (h : isLet c) : tLet c p st = (tcl c, st, p) := by
  rcases h with h | h | h | h | h | h <;> subst h <;> rfl
theorem tEnd_cases {st : List Nat} {sp : Nat} (h : (tEnd st sp).1 ≠ 9) : ∃ k r, st = k :: r ∧ tEnd st sp = (1, r, sp) := by
  cases st with
  | nil => exact absurd rfl h
  | cons k r => exact ⟨k, r, rfl, rfl⟩
section ARRS
variable {sn : Nat → Nat} {n p : Nat}
/-- what one sign does -/
theorem tcase (h9 : cc sn (p + 1) ≠ 9) :
    (cc sn p ≤ 2 ∧ isLet (sn p) ∧ tq sn (p + 1) = (tcl (sn p), ks sn p, p)) ∨
    ((cc sn p = 1 ∨ cc sn p = 2) ∧ sn p = 41 ∧ ∃ k st, ks sn p = k :: st ∧ tq sn (p + 1) = (1, st, lp sn p)) ∨
    (cc sn p = 2 ∧ 50 ≤ sn p ∧ sn p ≤ 57 ∧ tq sn (p + 1) = (1, ks sn p, lp sn p)) ∨
    (cc sn p = 3 ∧ 50 ≤ sn p ∧ sn p ≤ 57 ∧ tq sn (p + 1) = (6, ks sn p, lp sn p)) ∨
    (cc sn p = 4 ∧ 48 ≤ sn p ∧ sn p < 54 ∧ tq sn (p + 1) = (1, ks sn p, lp sn p)) ∨
    (cc sn p = 5 ∧ 48 ≤ sn p ∧ sn p < 58 ∧ tq sn (p + 1) = (1, ks sn p, lp sn p)) ∨
    (cc sn p = 6 ∧ sn p = 40 ∧ (ks sn p).length < 3 ∧ tq sn (p + 1) = (0, lp sn p :: ks sn p, lp sn p)) := by
  have e := tq_s sn p
  unfold cc at h9
  have HL : tq sn (p + 1) = tLet (sn p) p (ks sn p) → isLet (sn p) ∧ tq sn (p + 1) = (tcl (sn p), ks sn p, p) := by
    intro e
    rw [e] at h9
    have hs : isLet (sn p) := tLet_sn h9
    exact ⟨hs, by rw [e, tLet_is hs]⟩
  have HE : tq sn (p + 1) = tEnd (ks sn p) (lp sn p) → ∃ k st, ks sn p = k :: st ∧ tq sn (p + 1) = (1, st, lp sn p) := by
    intro e
    rw [e] at h9
    obtain ⟨k, r, h1, h2⟩ := tEnd_cases h9
    exact ⟨k, r, h1, by rw [e, h2]⟩
  have H9 : tq sn (p + 1) = (9, (tq sn p).2) → False := fun e => by rw [e] at h9; exact h9 rfl
  unfold tstep at e
  by_cases h0 : (tq sn p).1 = 0
  · rw [if_pos h0] at e
    exact Or.inl ⟨by unfold cc; omega, HL e⟩
  rw [if_neg h0] at e
  by_cases h1 : (tq sn p).1 = 1
  · rw [if_pos h1] at e
    by_cases h41 : sn p = 41
    · rw [if_pos h41] at e
      exact Or.inr (Or.inl ⟨Or.inl h1, h41, HE e⟩)
    · rw [if_neg h41] at e
      exact Or.inl ⟨by unfold cc; omega, HL e⟩
  rw [if_neg h1] at e
  by_cases h2 : (tq sn p).1 = 2
  · rw [if_pos h2] at e
    by_cases hc : 50 ≤ sn p ∧ sn p ≤ 57
    · rw [if_pos hc] at e
      exact Or.inr (Or.inr (Or.inl ⟨h2, hc.1, hc.2, e⟩))
    rw [if_neg hc] at e
    by_cases h41 : sn p = 41
    · rw [if_pos h41] at e
      exact Or.inr (Or.inl ⟨Or.inr h2, h41, HE e⟩)
    · rw [if_neg h41] at e
      exact Or.inl ⟨by unfold cc; omega, HL e⟩
  rw [if_neg h2] at e
  by_cases h3 : (tq sn p).1 = 3
  · rw [if_pos h3] at e
    by_cases hc : 50 ≤ sn p ∧ sn p ≤ 57
    · rw [if_pos hc] at e
      exact Or.inr (Or.inr (Or.inr (Or.inl ⟨h3, hc.1, hc.2, e⟩)))
    · rw [if_neg hc] at e
      exact (H9 e).elim
  rw [if_neg h3] at e
  by_cases h4 : (tq sn p).1 = 4
  · rw [if_pos h4] at e
    by_cases hc : 48 ≤ sn p ∧ sn p < 54
    · rw [if_pos hc] at e
      exact Or.inr (Or.inr (Or.inr (Or.inr (Or.inl ⟨h4, hc.1, hc.2, e⟩))))
    · rw [if_neg hc] at e
      exact (H9 e).elim
  rw [if_neg h4] at e
  by_cases h5 : (tq sn p).1 = 5
  · rw [if_pos h5] at e
    by_cases hc : 48 ≤ sn p ∧ sn p < 58
    · rw [if_pos hc] at e
      exact Or.inr (Or.inr (Or.inr (Or.inr (Or.inr (Or.inl ⟨h5, hc.1, hc.2, e⟩)))))
    · rw [if_neg hc] at e
      exact (H9 e).elim
  rw [if_neg h5] at e
  by_cases h6 : (tq sn p).1 = 6
  · rw [if_pos h6] at e
    by_cases hc : sn p = 40 ∧ (tq sn p).2.1.length < 3
    · rw [if_pos hc] at e
      exact Or.inr (Or.inr (Or.inr (Or.inr (Or.inr (Or.inr ⟨h6, hc.1, hc.2, e⟩)))))
    · rw [if_neg hc] at e
      exact (H9 e).elim
  · rw [if_neg h6] at e
    exact (H9 e).elim
theorem tcl_l {c : Nat} (h : c = 108 ∨ c = 115) : tcl c = 6 := by rcases h with h | h <;> subst h <;> rfl
/-- how a letter is taken -/
theorem cc_of {k : Nat} (h9 : cc sn (k + 1) ≠ 9) (h : isLet (sn k)) : tq sn (k + 1) = (tcl (sn k), ks sn k, k) := by
  rcases tcase h9 with h1 | h1 | h1 | h1 | h1 | h1 | h1
  · exact h1.2.2
  all_goals (unfold isLet at h; omega)
/-- what holds of every run -/
def AU (sn : Nat → Nat) (p : Nat) : Prop :=
  (∀ e, e ∈ ks sn p → e < p) ∧ (ks sn p).Pairwise (fun a b => b < a) ∧ (ks sn p).length ≤ 3 ∧
  (2 ≤ cc sn p → lp sn p < p ∧ (∀ e, e ∈ ks sn p → e < lp sn p) ∧ (cc sn p = 2 → lp sn p + 1 = p ∧ sn (lp sn p) = 119) ∧ (cc sn p = 3 → lp sn p + 1 = p ∧ sn (lp sn p) = 120) ∧ (cc sn p = 4 → lp sn p + 1 = p ∧ sn (lp sn p) = 99) ∧ (cc sn p = 5 → lp sn p + 1 = p ∧ sn (lp sn p) = 107) ∧ (cc sn p = 6 → (lp sn p + 1 = p ∧ (sn (lp sn p) = 108 ∨ sn (lp sn p) = 115)) ∨ (lp sn p + 2 = p ∧ sn (lp sn p) = 120 ∧ 50 ≤ sn (lp sn p + 1) ∧ sn (lp sn p + 1) ≤ 57))) ∧
  (∀ r, r < p → sn r = 41 → ∀ k st, ks sn r = k :: st → k < r ∧ k ∉ ks sn p) ∧ cc sn p ≤ 6
theorem tcl_le (c : Nat) : 2 ≤ tcl c ∧ tcl c ≤ 6 := by
  unfold tcl
  repeat (first | omega | split)
theorem auN (hp : AU sn p) (h9 : cc sn (p + 1) ≠ 9) : AU sn (p + 1) := by
  obtain ⟨a1, a2, a3, a4, a5, a6⟩ := hp
  have mem : ∀ (st : List Nat), (∀ e, e ∈ st → e ∈ ks sn p) → ∀ e, e ∈ st → e < p + 1 := fun st h e he => by have := a1 e (h e he); omega
  rcases tcase h9 with ⟨hc, hl, e⟩ | ⟨hc, h41, k, st, hk, e⟩ | ⟨hc, hl, hl2, e⟩ | ⟨hc, hl, hl2, e⟩ | ⟨hc, hl, hl2, e⟩ | ⟨hc, hl, hl2, e⟩ | ⟨hc, hl, hl2, e⟩
  · have ek : ks sn (p + 1) = ks sn p := by unfold ks; rw [e]
    have ec : cc sn (p + 1) = tcl (sn p) := by unfold cc; rw [e]
    have el : lp sn (p + 1) = p := by unfold lp; rw [e]
    refine ⟨by rw [ek]; exact mem _ (fun _ h => h), by rw [ek]; exact a2, by rw [ek]; exact a3, fun _ => ?_, ?_, by rw [ec]; exact (tcl_le _).2⟩
    · rw [ek, ec, el]
      refine ⟨by omega, a1, ?_⟩
      unfold tcl
      unfold isLet at hl
      refine ⟨fun h => ⟨rfl, ?_⟩, fun h => ⟨rfl, ?_⟩, fun h => ⟨rfl, ?_⟩, fun h => ⟨rfl, ?_⟩, fun h => Or.inl ⟨rfl, ?_⟩⟩
      all_goals (rcases hl with hl | hl | hl | hl | hl | hl <;> rw [hl] at h ⊢ <;> simp at h ⊢)
    · intro r hr h41 k st hk
      rw [ek]
      have : r ≠ p := by intro z; subst z; unfold isLet at hl; omega
      exact a5 r (by omega) h41 k st hk
  · have ek : ks sn (p + 1) = st := by unfold ks; rw [e]
    have ec : cc sn (p + 1) = 1 := by unfold cc; rw [e]
    rw [hk] at a2 a3 a1
    refine ⟨by rw [ek]; exact fun e he => by have := a1 e (List.mem_cons_of_mem _ he); omega, by rw [ek]; exact (List.pairwise_cons.mp a2).2, by rw [ek]; simp at a3; omega, fun h => by rw [ec] at h; omega, ?_, by rw [ec]; omega⟩
    intro r hr hr41 k' st' hk'
    rw [ek]
    by_cases hrp : r = p
    · subst hrp
      rw [hk] at hk'
      cases hk'
      refine ⟨a1 _ (List.mem_cons_self), fun hm => ?_⟩
      have := (List.pairwise_cons.mp a2).1 _ hm
      omega
    · have h := a5 r (by omega) hr41 k' st' hk'
      rw [hk] at h
      exact ⟨h.1, fun hm => h.2 (List.mem_cons_of_mem _ hm)⟩
  all_goals first
    | (have ek : ks sn (p + 1) = ks sn p := by unfold ks; rw [e]
       have h5 : ∀ r, r < p + 1 → sn r = 41 → ∀ k st, ks sn r = k :: st → k < r ∧ k ∉ ks sn (p + 1) := by
         intro r hr h41 k st hk
         rw [ek]
         exact a5 r (by have : r ≠ p := (by intro z; subst z; omega); omega) h41 k st hk
       have h1 : ∀ e, e ∈ ks sn (p + 1) → e < p + 1 := by rw [ek]; exact mem _ (fun _ h => h)
       first
         | (have ec : cc sn (p + 1) = 1 := by unfold cc; rw [e]
            exact ⟨h1, by rw [ek]; exact a2, by rw [ek]; exact a3, fun h => by rw [ec] at h; omega, h5, by rw [ec]; omega⟩)
         | (have ec : cc sn (p + 1) = 6 := by unfold cc; rw [e]
            have el : lp sn (p + 1) = lp sn p := by unfold lp; rw [e]
            obtain ⟨b1, b2, b3, b4, b5, b6, b7⟩ := a4 (by omega)
            obtain ⟨b8, b9⟩ := b4 hc
            refine ⟨h1, by rw [ek]; exact a2, by rw [ek]; exact a3, fun h => ?_, h5, by rw [ec]; omega⟩
            rw [ec, el, ek]
            exact ⟨by omega, b2, fun z => by omega, fun z => by omega, fun z => by omega, fun z => by omega, fun _ => Or.inr ⟨by omega, b9, by rw [b8]; exact hl, by rw [b8]; exact hl2⟩⟩))
    | skip
  have ek : ks sn (p + 1) = lp sn p :: ks sn p := by unfold ks; rw [e]
  have ec : cc sn (p + 1) = 0 := by unfold cc; rw [e]
  obtain ⟨b1, b2, b3, b4, b5, b6, b7⟩ := a4 (by omega)
  refine ⟨?_, ?_, by rw [ek]; simp; omega, fun h => by rw [ec] at h; omega, ?_, by rw [ec]; omega⟩
  · rw [ek]
    intro e he
    rcases List.mem_cons.mp he with h | h
    · omega
    · have := a1 e h; omega
  · rw [ek]
    exact List.pairwise_cons.mpr ⟨b2, a2⟩
  · intro r hr h41 k st hk
    have hrp : r ≠ p := by intro z; subst z; omega
    have h := a5 r (by omega) h41 k st hk
    refine ⟨h.1, ?_⟩
    rw [ek]
    intro hm
    rcases List.mem_cons.mp hm with h2 | h2
    · have h6 := b7 hc
      have : r ≠ lp sn p := by intro z; subst z; omega
      have : r ≠ lp sn p + 1 := by intro z; subst z; omega
      omega
    · exact h.2 h2
theorem au (h9 : cc sn p ≠ 9) : AU sn p := by
  induction p with
  | zero =>
    have h0 : cc sn 0 = 0 := rfl
    exact ⟨fun e h => (List.not_mem_nil h).elim, List.Pairwise.nil, Nat.zero_le _, fun h => by omega, fun r h => absurd h (Nat.not_lt_zero r), by omega⟩
  | succ p ih => exact auN (ih (no9 h9 p (by omega))) h9
/-- parts belong to an 'l', an 's', an 'x' -/
theorem ksL (h9 : cc sn p ≠ 9) : ∀ e, e ∈ ks sn p → sn e = 108 ∨ sn e = 115 ∨ sn e = 120 := by
  induction p with
  | zero => exact fun e h => (List.not_mem_nil h).elim
  | succ p ih =>
    have hp9 := no9 h9 p (by omega)
    have ih := ih hp9
    have ha := au hp9
    rcases tcase h9 with ⟨hc, hl, e⟩ | ⟨hc, h41, k, st, hk, e⟩ | ⟨hc, hl, hl2, e⟩ | ⟨hc, hl, hl2, e⟩ | ⟨hc, hl, hl2, e⟩ | ⟨hc, hl, hl2, e⟩ | ⟨hc, hl, hl2, e⟩
    · have ek : ks sn (p + 1) = ks sn p := by unfold ks; rw [e]
      rw [ek]; exact ih
    · have ek : ks sn (p + 1) = st := by unfold ks; rw [e]
      rw [ek]
      exact fun e he => ih e (by rw [hk]; exact List.mem_cons_of_mem _ he)
    all_goals first
      | (have ek : ks sn (p + 1) = ks sn p := by unfold ks; rw [e]
         rw [ek]; exact ih)
      | skip
    have ek : ks sn (p + 1) = lp sn p :: ks sn p := by unfold ks; rw [e]
    rw [ek]
    intro e he
    rcases List.mem_cons.mp he with h | h
    · obtain ⟨-, -, -, -, -, -, b7⟩ := ha.2.2.2.1 (by omega)
      rcases b7 hc with ⟨-, h1⟩ | ⟨-, h1, -, -⟩
      · rw [h]; omega
      · rw [h]; omega
    · exact ih e h
/-- the first signs of a step -/
theorem let1 {k : Nat} (h9 : cc sn p ≠ 9) (hl : isLet (sn k)) (hk : k < p) : (k + 1 = p → tq sn p = (tcl (sn k), ks sn k, k)) ∧ (sn k = 120 → k + 2 = p → cc sn p = 6 ∧ lp sn p = k ∧ 50 ≤ sn (k + 1) ∧ sn (k + 1) ≤ 57) := by
  have e1 := cc_of (no9 h9 (k + 1) (by omega)) hl
  refine ⟨fun h => by subst h; exact e1, fun hx h => ?_⟩
  subst h
  rw [hx] at e1
  have e1 : tq sn (k + 1) = (3, ks sn k, k) := e1
  have ec : cc sn (k + 1) = 3 := by unfold cc; rw [e1]
  rcases tcase h9 with h | h | h | h | h | h | h
  · omega
  · omega
  · omega
  · have e2 : tq sn (k + 2) = (6, ks sn (k + 1), lp sn (k + 1)) := h.2.2.2
    refine ⟨by unfold cc; rw [e2], ?_, h.2.1, h.2.2.1⟩
    have : lp sn (k + 2) = lp sn (k + 1) := by unfold lp; rw [e2]
    rw [this]
    unfold lp
    rw [e1]
  · omega
  · omega
  · omega
/-- what the rows say of a step -/
def AK (sn : Nat → Nat) (p k : Nat) (T D I Bh : Nat → Int32) : Prop :=
  (sn k = 99 ∨ sn k = 107 → k + 1 < p → D k = nI (sn (k + 1) - 48) ∧ Bh k = nI (k + 2)) ∧
  (sn k = 119 → T k = nI (cntN sn p k) ∧ Bh k = nI (wNx sn p k)) ∧
  (sn k = 120 → (k + 1 < p → T k = nI (sn (k + 1) - 48)) ∧ (k + 2 < p → I k = nI (k + 3))) ∧
  (sn k = 108 ∨ sn k = 115 → T k = nI 1 ∧ (k + 1 < p → I k = nI (k + 2)))
def ARR (sn : Nat → Nat) (p : Nat) (T D I Bh : Nat → Int32) : Prop :=
  (∀ k, k < p → AK sn p k T D I Bh) ∧ ∀ r, r < p → sn r = 41 → ∀ e st, ks sn r = e :: st → Bh e = nI (r + 1)
theorem cntN_s {k : Nat} (h : k + 1 ≠ p ∨ ¬ (50 ≤ sn p ∧ sn p ≤ 57)) : cntN sn (p + 1) k = cntN sn p k ∧ wNx sn (p + 1) k = wNx sn p k := by
  unfold cntN wNx
  by_cases hk : k + 1 < p
  · constructor <;> simp only [show (k + 1 < p + 1) = (k + 1 < p) from propext ⟨fun _ => hk, fun _ => by omega⟩]
  · by_cases e : k + 1 = p
    · subst e
      have hn : ¬ (50 ≤ sn (k + 1) ∧ sn (k + 1) ≤ 57) := h.resolve_left (fun z => z rfl)
      rw [if_neg (fun z => hn z.2), if_neg (fun z => absurd z.1 (by omega)), if_neg (fun z => hn z.2), if_neg (fun z => absurd z.1 (by omega))]
      exact ⟨rfl, rfl⟩
    · rw [if_neg (fun z => absurd z.1 (by omega)), if_neg (fun z => absurd z.1 (by omega)), if_neg (fun z => absurd z.1 (by omega)), if_neg (fun z => absurd z.1 (by omega))]
      exact ⟨rfl, rfl⟩
variable {T D I Bh T' D' I' Bh' : Nat → Int32}
/-- a step further back -/
theorem akN {k : Nat} (h9 : cc sn p ≠ 9) (hk : k < p) (hx : k ≠ lp sn p ∨ (cc sn p ≤ 2 ∧ ¬ (50 ≤ sn p ∧ sn p ≤ 57))) (h : AK sn p k T D I Bh) (eT : T' k = T k) (eD : isLet (sn k) → D' k = D k) (eI : isLet (sn k) → I' k = I k) (eB : sn k = 99 ∨ sn k = 107 ∨ sn k = 119 → Bh' k = Bh k) : AK sn (p + 1) k T' D' I' Bh' := by
  have F1 : isLet (sn k) → k + 1 = p → lp sn p = k ∧ cc sn p = tcl (sn k) := fun hl e => by
    have := (let1 h9 hl hk).1 e
    exact ⟨by unfold lp; rw [this], by unfold cc; rw [this]⟩
  refine ⟨fun hs h1 => ?_, fun hs => ?_, fun hs => ⟨fun h1 => ?_, fun h2 => ?_⟩, fun hs => ⟨?_, fun h1 => ?_⟩⟩
  · have hl : isLet (sn k) := by unfold isLet; omega
    rw [eD hl, eB (by omega)]
    refine h.1 hs ?_
    have : k + 1 ≠ p := fun e => by
      obtain ⟨a, b⟩ := F1 hl e
      rcases hx with hx | hx
      · exact hx a.symm
      · rcases hs with hs | hs <;> rw [hs] at b <;> have := hx.1 <;> rw [b] at this <;> revert this <;> decide
    omega
  · have hl : isLet (sn k) := by unfold isLet; omega
    rw [eT, eB (by omega)]
    have : k + 1 ≠ p ∨ ¬ (50 ≤ sn p ∧ sn p ≤ 57) := by
      by_cases e : k + 1 = p
      · rcases hx with hx | hx
        · exact absurd (F1 hl e).1.symm hx
        · exact Or.inr hx.2
      · exact Or.inl e
    obtain ⟨a, b⟩ := cntN_s (sn := sn) this
    rw [a, b]
    exact h.2.1 hs
  · have hl : isLet (sn k) := by unfold isLet; omega
    rw [eT]
    refine (h.2.2.1 hs).1 ?_
    have : k + 1 ≠ p := fun e => by
      obtain ⟨a, b⟩ := F1 hl e
      rcases hx with hx | hx
      · exact hx a.symm
      · rw [hs] at b; have := hx.1; rw [b] at this; revert this; decide
    omega
  · have hl : isLet (sn k) := by unfold isLet; omega
    rw [eI hl]
    refine (h.2.2.1 hs).2 ?_
    have : k + 2 ≠ p := fun e => by
      obtain ⟨a, b, -⟩ := (let1 h9 hl hk).2 hs e
      rcases hx with hx | hx
      · exact hx b.symm
      · omega
    omega
  · have hl : isLet (sn k) := by unfold isLet; omega
    rw [eT]
    exact (h.2.2.2 hs).1
  · have hl : isLet (sn k) := by unfold isLet; omega
    rw [eI hl]
    refine (h.2.2.2 hs).2 ?_
    have : k + 1 ≠ p := fun e => by
      obtain ⟨a, b⟩ := F1 hl e
      rcases hx with hx | hx
      · exact hx a.symm
      · rcases hs with hs | hs <;> rw [hs] at b <;> have := hx.1 <;> rw [b] at this <;> revert this <;> decide
    omega
theorem AK.no (h : ¬ isLet (sn p)) {q : Nat} : AK sn q p T D I Bh := by
  unfold isLet at h
  exact ⟨fun h1 => by omega, fun h1 => by omega, fun h1 => by omega, fun h1 => by omega⟩
/-- a letter -/
theorem arr1 (h9 : cc sn (p + 1) ≠ 9) (hA : ARR sn p T D I Bh) (hl : isLet (sn p)) (hc : cc sn p ≤ 2) (eT : ∀ k, k ≠ p → T' k = T k) (eD : ∀ k, k ≠ p → D' k = D k) (eI : ∀ k, k ≠ p → I' k = I k) (eB : ∀ k, k ≠ p → Bh' k = Bh k) (t1 : T' p = nI 1) (b1 : Bh' p = nI (p + 1)) : ARR sn (p + 1) T' D' I' Bh' := by
  have hp9 := no9 h9 p (by omega)
  refine ⟨fun k hk => ?_, fun r hr h41 e st hks => ?_⟩
  · by_cases hkp : k = p
    · subst hkp
      have e1 : cntN sn (k + 1) k = 1 := by unfold cntN; rw [if_neg (fun z => absurd z.1 (by omega))]
      have e2 : wNx sn (k + 1) k = k + 1 := by unfold wNx; rw [if_neg (fun z => absurd z.1 (by omega))]
      exact ⟨fun _ h => absurd h (by omega), fun _ => by rw [e1, e2]; exact ⟨t1, b1⟩, fun _ => ⟨fun h => absurd h (by omega), fun h => absurd h (by omega)⟩, fun _ => ⟨t1, fun h => absurd h (by omega)⟩⟩
    · refine akN hp9 (by omega) (Or.inr ⟨hc, ?_⟩) (hA.1 k (by omega)) (eT k hkp) (fun _ => eD k hkp) (fun _ => eI k hkp) (fun _ => eB k hkp)
      unfold isLet at hl
      omega
  · have hrp : r ≠ p := by intro z; subst z; unfold isLet at hl; omega
    have := ((au hp9).2.2.2.2.1 r (by omega) h41 e st hks).1
    rw [eB e (by omega)]
    exact hA.2 r (by omega) h41 e st hks
/-- an end -/
theorem arr2 (h9 : cc sn (p + 1) ≠ 9) (hA : ARR sn p T D I Bh) (h41 : sn p = 41) (hc : cc sn p ≤ 2) {e : Nat} {st : List Nat} (hk : ks sn p = e :: st) (eB : ∀ k, k ≠ e → Bh' k = Bh k) (b1 : Bh' e = nI (p + 1)) : ARR sn (p + 1) T D I Bh' := by
  have hp9 := no9 h9 p (by omega)
  refine ⟨fun k hkp => ?_, fun r hr hr41 e' st' hks => ?_⟩
  · by_cases hkp' : k = p
    · subst hkp'
      exact AK.no (by unfold isLet; omega)
    · refine akN hp9 (by omega) (Or.inr ⟨hc, by omega⟩) (hA.1 k (by omega)) rfl (fun _ => rfl) (fun _ => rfl) (fun hs => eB k ?_)
      intro z
      subst z
      have := ksL hp9 k (by rw [hk]; exact List.mem_cons_self)
      omega
  · by_cases hrp : r = p
    · subst hrp
      rw [hk] at hks
      cases hks
      exact b1
    · have := ((au hp9).2.2.2.2.1 r (by omega) hr41 e' st' hks).2
      rw [eB e' (fun z => this (by rw [hk, z]; exact List.mem_cons_self))]
      exact hA.2 r (by omega) hr41 e' st' hks
/-- one more sign of a step -/
theorem arr3 (h9 : cc sn (p + 1) ≠ 9) (hA : ARR sn p T D I Bh) (hl : ¬ isLet (sn p)) (h41 : sn p ≠ 41) (hc : 2 ≤ cc sn p) (eT : ∀ k, k ≠ lp sn p → T' k = T k) (eD : ∀ k, k ≠ lp sn p → D' k = D k) (eI : ∀ k, k ≠ lp sn p → I' k = I k) (eB : ∀ k, k ≠ lp sn p → Bh' k = Bh k) (h : AK sn (p + 1) (lp sn p) T' D' I' Bh') : ARR sn (p + 1) T' D' I' Bh' := by
  have hp9 := no9 h9 p (by omega)
  have ha := au hp9
  refine ⟨fun k hkp => ?_, fun r hr hr41 e' st' hks => ?_⟩
  · by_cases hkp' : k = p
    · subst hkp'
      exact AK.no hl
    · by_cases hkl : k = lp sn p
      · rw [hkl]; exact h
      · exact akN hp9 (by omega) (Or.inl hkl) (hA.1 k (by omega)) (eT k hkl) (fun _ => eD k hkl) (fun _ => eI k hkl) (fun _ => eB k hkl)
  · have hrp : r ≠ p := fun z => h41 (z ▸ hr41)
    have hz := ha.2.2.2.2.1 r (by omega) hr41 e' st' hks
    have : e' ≠ lp sn p := by
      intro z
      obtain ⟨b1, b2, b3, b4, b5, b6, b7⟩ := ha.2.2.2.1 hc
      have h6 := ha.2.2.2.2.2
      have h2 : lp sn p + 1 = p ∨ (lp sn p + 2 = p ∧ 50 ≤ sn (lp sn p + 1)) := by
        by_cases c6 : cc sn p = 6
        · rcases b7 c6 with h | h
          · exact Or.inl h.1
          · exact Or.inr ⟨h.1, h.2.2.1⟩
        · left
          by_cases c2 : cc sn p = 2
          · exact (b3 c2).1
          by_cases c3 : cc sn p = 3
          · exact (b4 c3).1
          by_cases c4 : cc sn p = 4
          · exact (b5 c4).1
          · exact (b6 (by omega)).1
      rcases h2 with h2 | h2
      · omega
      · have : r = lp sn p + 1 := by omega
        rw [this] at hr41
        omega
    rw [eB e' this]
    exact hA.2 r (by omega) hr41 e' st' hks
theorem arr0 : ARR sn 0 T D I Bh := ⟨fun k h => absurd h (Nat.not_lt_zero k), fun r h => absurd h (Nat.not_lt_zero r)⟩
end ARRS
