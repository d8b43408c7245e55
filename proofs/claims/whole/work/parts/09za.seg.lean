/-! THE PURE PART, za: what a text weaves: its end, its colour, its picks -/
def insd (sn : Nat → Nat) (p : Nat) : Nat := if sn p = 120 then p + 3 else p + 2
/-- where a segment ends -/
def sge (sn : Nat → Nat) (n : Nat) : Nat → Nat → Nat
  | 0, p => p
  | f + 1, p => if n ≤ p ∨ sn p = 41 then p else if sn p = 99 ∨ sn p = 107 then sge sn n f (p + 2) else if sn p = 119 then sge sn n f (wNx sn n p) else sge sn n f (sge sn n f (insd sn p) + 1)
/-- the colour at its end -/
def ecl (sn : Nat → Nat) (n : Nat) : Nat → Nat → Nat → Nat
  | 0, _, c => c
  | f + 1, p, c => if n ≤ p ∨ sn p = 41 then c else if sn p = 99 then ecl sn n f (p + 2) (sn (p + 1) - 48) else if sn p = 107 then ecl sn n f (p + 2) c else if sn p = 119 then ecl sn n f (wNx sn n p) c else if sn p = 115 then ecl sn n f (sge sn n f (insd sn p) + 1) c else ecl sn n f (sge sn n f (insd sn p) + 1) (ecl sn n f (insd sn p) c)
/-- its picks -/
def evt (sn : Nat → Nat) (n : Nat) (pw : Nat → Nat) (W : Nat → Nat → Nat) : Nat → Nat → Nat → Nat
  | 0, _, _ => 0
  | f + 1, p, c => if n ≤ p ∨ sn p = 41 then 0 else if sn p = 99 then evt sn n pw W f (p + 2) (sn (p + 1) - 48) else if sn p = 107 then W (sn (p + 1) - 48) c + evt sn n pw W f (p + 2) c else if sn p = 119 then cntN sn n p * pw c + evt sn n pw W f (wNx sn n p) c else if sn p = 115 then evt sn n pw W f (sge sn n f (insd sn p) + 1) c else (evt sn n pw W f (insd sn p) c + (cntN sn n p - 1) * evt sn n pw W f (insd sn p) (ecl sn n f (insd sn p) c)) + evt sn n pw W f (sge sn n f (insd sn p) + 1) (ecl sn n f (insd sn p) c)
section SEG
variable {K : GK} {g : GM} {sn : Nat → Nat} {n p t : Nat}
theorem SP.ins (hv : VT sn n) (h : SP sn n p) (hp : p < n) (hl : sn p = 120 ∨ sn p = 108 ∨ sn p = 115) : p + 2 ≤ insd sn p ∧ SP sn n (insd sn p) ∧ ks sn (insd sn p) = p :: ks sn p ∧ (ks sn p).length < 3 := by
  unfold insd
  rcases hl with hl | hl
  · obtain ⟨a1, a2, a3, a4, a5, a6, a7⟩ := h.x hv hp hl
    rw [if_pos hl]
    exact ⟨by omega, a6, a7, a5⟩
  · obtain ⟨a1, a2, a3, a6, a7⟩ := h.sl hv hp hl
    rw [if_neg (by omega)]
    exact ⟨by omega, a6, a7, a3⟩
theorem wNx_gt : p < wNx sn n p := by unfold wNx; split <;> omega
theorem sge_ok (hv : VT sn n) : ∀ f p, SP sn n p → n - p < f → p ≤ sge sn n f p ∧ SP sn n (sge sn n f p) ∧ ks sn (sge sn n f p) = ks sn p ∧ (sge sn n f p = n ∨ (sge sn n f p < n ∧ sn (sge sn n f p) = 41)) := by
  intro f
  induction f with
  | zero => intro p _ h; omega
  | succ f ih =>
    intro p hs hf
    have hpn := hs.1
    rw [sge]
    by_cases h0 : n ≤ p ∨ sn p = 41
    · simp only [if_pos h0]
      refine ⟨Nat.le_refl _, hs, trivial, ?_⟩
      by_cases hn : p = n
      · exact Or.inl hn
      · exact Or.inr ⟨by omega, by omega⟩
    · simp only [if_neg h0]
      have hp : p < n := by omega
      have h41 : sn p ≠ 41 := by omega
      by_cases h1 : sn p = 99 ∨ sn p = 107
      · simp only [if_pos h1]
        obtain ⟨q1, q2⟩ : SP sn n (p + 2) ∧ ks sn (p + 2) = ks sn p := by
          rcases h1 with z | z
          · obtain ⟨-, -, -, a, b⟩ := hs.c hv hp z; exact ⟨a, b⟩
          · obtain ⟨-, -, -, a, b⟩ := hs.k hv hp z; exact ⟨a, b⟩
        obtain ⟨i1, i2, i3, i4⟩ := ih (p + 2) q1 (by omega)
        exact ⟨by omega, i2, i3.trans q2, i4⟩
      · simp only [if_neg h1]
        by_cases h2 : sn p = 119
        · simp only [if_pos h2]
          obtain ⟨q1, q2⟩ := hs.w hv hp h2
          have := wNx_gt (sn := sn) (n := n) (p := p)
          obtain ⟨i1, i2, i3, i4⟩ := ih _ q1 (by omega)
          exact ⟨by omega, i2, i3.trans q2, i4⟩
        · simp only [if_neg h2]
          have hl : sn p = 120 ∨ sn p = 108 ∨ sn p = 115 := by
            rcases hs.kinds hv hp with ⟨z, -⟩ | z | z | z | z | z | z <;> omega
          obtain ⟨a1, a2, a3, a4⟩ := hs.ins hv hp hl
          obtain ⟨i1, i2, i3, i4⟩ := ih _ a2 (by omega)
          have hr : sge sn n f (insd sn p) < n ∧ sn (sge sn n f (insd sn p)) = 41 := by
            rcases i4 with z | z
            · rw [z, hv.2.2.1, a3] at i3; cases i3
            · exact z
          obtain ⟨k', hk', hs'⟩ : ∃ k, ks sn (sge sn n f (insd sn p)) = k :: ks sn (sge sn n f (insd sn p) + 1) ∧ SP sn n (sge sn n f (insd sn p) + 1) := by
            rcases i2.kinds hv hr.1 with ⟨-, z⟩ | z | z | z | z | z | z
            · exact z
            all_goals omega
          have e : ks sn (sge sn n f (insd sn p) + 1) = ks sn p := by
            rw [i3, a3] at hk'
            exact (List.cons.inj hk').2.symm
          obtain ⟨j1, j2, j3, j4⟩ := ih _ hs' (by omega)
          exact ⟨by omega, j2, j3.trans e, j4⟩
/-- behind a part -/
theorem bh_ok (hv : VT sn n) (hs : SP sn n p) (hp : p < n) (hl : sn p = 120 ∨ sn p = 108 ∨ sn p = 115) {f : Nat} (hf : n - p ≤ f) : insd sn p ≤ sge sn n f (insd sn p) ∧ sge sn n f (insd sn p) < n ∧ sn (sge sn n f (insd sn p)) = 41 ∧ ks sn (sge sn n f (insd sn p)) = p :: ks sn p ∧ SP sn n (sge sn n f (insd sn p) + 1) ∧ ks sn (sge sn n f (insd sn p) + 1) = ks sn p ∧ p + 2 ≤ insd sn p := by
  obtain ⟨a1, a2, a3, a4⟩ := hs.ins hv hp hl
  obtain ⟨i1, i2, i3, i4⟩ := sge_ok hv f _ a2 (by omega)
  have hr : sge sn n f (insd sn p) < n ∧ sn (sge sn n f (insd sn p)) = 41 := by
    rcases i4 with z | z
    · rw [z, hv.2.2.1, a3] at i3; cases i3
    · exact z
  obtain ⟨k', hk', hs'⟩ : ∃ k, ks sn (sge sn n f (insd sn p)) = k :: ks sn (sge sn n f (insd sn p) + 1) ∧ SP sn n (sge sn n f (insd sn p) + 1) := by
    rcases i2.kinds hv hr.1 with ⟨-, z⟩ | z | z | z | z | z | z
    · exact z
    all_goals omega
  refine ⟨i1, hr.1, hr.2, i3.trans a3, hs', ?_, a1⟩
  rw [i3, a3] at hk'
  exact (List.cons.inj hk').2.symm
/-- the colour at the end is the one at the beginning, or the same for all -/
theorem ecl_ic (sn : Nat → Nat) (n : Nat) : ∀ f p, (∀ c, ecl sn n f p c = c) ∨ ∃ d, ∀ c, ecl sn n f p c = d := by
  intro f
  induction f with
  | zero => intro p; exact Or.inl fun _ => rfl
  | succ f ih =>
    intro p
    unfold ecl
    by_cases h0 : n ≤ p ∨ sn p = 41
    · simp only [if_pos h0]
      exact Or.inl fun _ => by first | rfl | trivial
    simp only [if_neg h0]
    by_cases h1 : sn p = 99
    · simp only [if_pos h1]
      exact Or.inr ⟨ecl sn n f (p + 2) (sn (p + 1) - 48), fun _ => by first | rfl | trivial⟩
    simp only [if_neg h1]
    by_cases h2 : sn p = 107
    · simp only [if_pos h2]; exact ih _
    simp only [if_neg h2]
    by_cases h3 : sn p = 119
    · simp only [if_pos h3]; exact ih _
    simp only [if_neg h3]
    by_cases h4 : sn p = 115
    · simp only [if_pos h4]; exact ih _
    simp only [if_neg h4]
    rcases ih (sge sn n f (insd sn p) + 1) with a | ⟨d, a⟩
    · rcases ih (insd sn p) with b | ⟨d, b⟩
      · exact Or.inl fun c => by rw [b, a]
      · exact Or.inr ⟨d, fun c => by rw [b, a]⟩
    · exact Or.inr ⟨d, fun c => a _⟩
theorem ecl_2 (f p c : Nat) : ecl sn n f p (ecl sn n f p c) = ecl sn n f p c := by
  rcases ecl_ic sn n f p with a | ⟨d, a⟩
  · rw [a, a]
  · rw [a, a]
theorem ecl_lt (hv : VT sn n) : ∀ f p c, SP sn n p → n - p < f → c < 6 → ecl sn n f p c < 6 := by
  intro f
  induction f with
  | zero => intro p c _ h; omega
  | succ f ih =>
    intro p c hs hf hc
    have hpn := hs.1
    unfold ecl
    by_cases h0 : n ≤ p ∨ sn p = 41
    · rw [if_pos h0]; exact hc
    rw [if_neg h0]
    have hp : p < n := by omega
    by_cases h1 : sn p = 99
    · rw [if_pos h1]
      obtain ⟨a1, a2, a3, a4, -⟩ := hs.c hv hp h1
      exact ih _ _ a4 (by omega) (by omega)
    rw [if_neg h1]
    by_cases h2 : sn p = 107
    · rw [if_pos h2]
      obtain ⟨a1, a2, a3, a4, -⟩ := hs.k hv hp h2
      exact ih _ _ a4 (by omega) hc
    rw [if_neg h2]
    by_cases h3 : sn p = 119
    · rw [if_pos h3]
      obtain ⟨q1, q2⟩ := hs.w hv hp h3
      have := wNx_gt (sn := sn) (n := n) (p := p)
      exact ih _ _ q1 (by omega) hc
    rw [if_neg h3]
    have hl : sn p = 120 ∨ sn p = 108 ∨ sn p = 115 := by
      rcases hs.kinds hv hp with ⟨z, -⟩ | z | z | z | z | z | z <;> omega
    obtain ⟨b1, b2, b3, b4, b5, b6, b7⟩ := bh_ok hv hs hp hl (f := f) (by omega)
    obtain ⟨a1, a2, a3, a4⟩ := hs.ins hv hp hl
    by_cases h4 : sn p = 115
    · rw [if_pos h4]
      exact ih _ _ b5 (by omega) hc
    rw [if_neg h4]
    exact ih _ _ b5 (by omega) (ih _ _ a2 (by omega) hc)
/-! the class: the colour behind a part -/
theorem cb_run (h2 : TX K g t n sn) {p1 p2 : Int32} : ∀ f p c o i, SP sn n p → n - p < f → c < 6 → o + (n - p) < 200 → i + (n - p) ≤ 80 → ∃ N, N ≤ sge sn n f p - p ∧ ∀ fu, f2_colourBehind_11 K g p1 p2 t (N + fu) (nI c) (nI p) (nI o) (nI i) = f2_colourBehind_11 K g p1 p2 t fu (nI (ecl sn n f p c)) (nI (sge sn n f p)) (nI o) (nI (i + N)) := by
  have hv := h2.2.2.2.1
  have k2 := h2.1
  have n80 := hv.1
  intro f
  induction f with
  | zero => intro p c o i _ h; omega
  | succ f ih =>
    intro p c o i hs hf hc ho hi
    have hpn := hs.1
    unfold sge ecl
    by_cases h0 : n ≤ p ∨ sn p = 41
    · simp only [if_pos h0]
      exact ⟨0, Nat.zero_le _, fun fu => by rw [Nat.zero_add, Nat.add_zero]⟩
    simp only [if_neg h0]
    have hp : p < n := by omega
    have h41 : sn p ≠ 41 := by omega
    have hsn := hv.2.2.2 p hp
    have SG := tx_sign h2 (p := p) (by omega)
    rw [if_pos hp] at SG
    have i80 : ¬ 80 ≤ i := by omega
    have ne0 : sn p ≠ 0 := by
      rcases hs.kinds hv hp with ⟨z, -⟩ | z | z | z | z | z | z <;> omega
    have HEAD : ∀ fu, f2_colourBehind_11 K g p1 p2 t (fu + 1) (nI c) (nI p) (nI o) (nI i) = f2_colourBehind_46 (f2_colourBehind_11 K g p1 p2 t fu) K g p1 p2 t (nI c) (nI p) (nI o) (nI i) (nI (sn p)) := fun fu => by
      rw [f2_colourBehind_11]
      simp (disch := omega) only [EV, pu_lit, pu_le, pu_eq, i80, if_false, k2, decide_true, SG, ne0, h41]
    by_cases h1 : sn p = 99
    · obtain ⟨a1, a2, a3, a4, -⟩ := hs.c hv hp h1
      obtain ⟨d1, d2⟩ := tx_ck h2 hs hp (Or.inl h1)
      have DG := tx_digit h2 hp
      have BH := tx_behind h2 hp
      rw [d1] at DG
      rw [d2] at BH
      have IH := ih (p + 2) (sn (p + 1) - 48) o (i + 1) a4 (by omega) (by omega) (by omega) (by omega)
      obtain ⟨N, n1, n2⟩ := IH
      have := (sge_ok hv f (p + 2) a4 (by omega)).1
      rw [if_pos (Or.inl h1), if_pos h1]
      refine ⟨N + 1, by omega, fun fu => ?_⟩
      rw [show N + 1 + fu = (N + fu) + 1 by omega, HEAD]
      unfold f2_colourBehind_46 f2_colourBehind_60 f2_colourBehind_112
      have x1 : ¬ sn p = 120 := by omega
      have x2 : ¬ sn p = 108 := by omega
      simp (disch := omega) only [EV, NUM, pu_lit, pu_eq, h1, k2, decide_true, if_true, DG, BH]
      rw [if_neg (by decide), if_neg (by decide), if_neg (by decide), n2 fu, show i + 1 + N = i + (N + 1) by omega]
    by_cases h2' : sn p = 107
    · obtain ⟨a1, a2, a3, a4, -⟩ := hs.k hv hp h2'
      obtain ⟨d1, d2⟩ := tx_ck h2 hs hp (Or.inr h2')
      have BH := tx_behind h2 hp
      rw [d2] at BH
      obtain ⟨N, n1, n2⟩ := ih (p + 2) c o (i + 1) a4 (by omega) hc (by omega) (by omega)
      have := (sge_ok hv f (p + 2) a4 (by omega)).1
      rw [if_pos (Or.inr h2'), if_neg h1, if_pos h2']
      refine ⟨N + 1, by omega, fun fu => ?_⟩
      rw [show N + 1 + fu = (N + fu) + 1 by omega, HEAD]
      unfold f2_colourBehind_46 f2_colourBehind_60 f2_colourBehind_112
      simp (disch := omega) only [EV, NUM, pu_lit, pu_eq, h2', k2, decide_true, BH]
      rw [if_neg (by decide), if_neg (by decide), if_neg (by decide), if_neg (by decide), n2 fu, show i + 1 + N = i + (N + 1) by omega]
    rw [if_neg (show ¬ (sn p = 99 ∨ sn p = 107) by omega), if_neg h1, if_neg h2']
    by_cases h3 : sn p = 119
    · obtain ⟨q1, q2⟩ := hs.w hv hp h3
      have gt := wNx_gt (sn := sn) (n := n) (p := p)
      have BH := tx_behind h2 hp
      rw [(tx_w h2 hp h3).2] at BH
      obtain ⟨N, n1, n2⟩ := ih (wNx sn n p) c o (i + 1) q1 (by omega) hc (by omega) (by omega)
      have := (sge_ok hv f _ q1 (by omega)).1
      rw [if_pos h3, if_pos h3]
      refine ⟨N + 1, by omega, fun fu => ?_⟩
      rw [show N + 1 + fu = (N + fu) + 1 by omega, HEAD]
      unfold f2_colourBehind_46 f2_colourBehind_60 f2_colourBehind_112
      simp (disch := omega) only [EV, NUM, pu_lit, pu_eq, h3, k2, decide_true, BH]
      rw [if_neg (by decide), if_neg (by decide), if_neg (by decide), if_neg (by decide), n2 fu, show i + 1 + N = i + (N + 1) by omega]
    rw [if_neg h3, if_neg h3]
    have hl : sn p = 120 ∨ sn p = 108 ∨ sn p = 115 := by
      rcases hs.kinds hv hp with ⟨z, -⟩ | z | z | z | z | z | z <;> omega
    obtain ⟨b1, b2, b3, b4, b5, b6, b7⟩ := bh_ok hv hs hp hl (f := f) (by omega)
    obtain ⟨a1, a2, a3, a4⟩ := hs.ins hv hp hl
    have BH := tx_behind h2 hp
    rw [tx_cl h2 b2 b3 b4] at BH
    by_cases h4 : sn p = 115
    · obtain ⟨N, n1, n2⟩ := ih (sge sn n f (insd sn p) + 1) c o (i + 1) b5 (by omega) hc (by omega) (by omega)
      have := (sge_ok hv f _ b5 (by omega)).1
      rw [if_pos h4]
      refine ⟨N + 1, by omega, fun fu => ?_⟩
      rw [show N + 1 + fu = (N + fu) + 1 by omega, HEAD]
      unfold f2_colourBehind_46 f2_colourBehind_60 f2_colourBehind_112
      simp (disch := omega) only [EV, NUM, pu_lit, pu_eq, h4, k2, decide_true, BH]
      rw [if_neg (by decide), if_neg (by decide), if_neg (by decide), if_neg (by decide), n2 fu, show i + 1 + N = i + (N + 1) by omega]
    · rw [if_neg h4]
      have INS : f1_insideOf K g t (nI p) = some (nI (insd sn p)) := by
        rw [tx_inside h2 hp]
        unfold insd
        rcases hl with z | z | z
        · rw [if_pos z, (tx_x h2 hs hp z).2]
        · rw [if_neg (by omega), (tx_sl h2 hs hp (Or.inl z)).2.1]
        · omega
      have c2 := ecl_lt hv f _ c a2 (by omega) hc
      obtain ⟨N1, n1, n2⟩ := ih (insd sn p) c (o + 1) (i + 1) a2 (by omega) hc (by omega) (by omega)
      obtain ⟨N2, m1, m2⟩ := ih (sge sn n f (insd sn p) + 1) (ecl sn n f (insd sn p) c) o (i + 1 + N1 + 1) b5 (by omega) c2 (by omega) (by omega)
      have le2 := (sge_ok hv f _ b5 (by omega)).1
      refine ⟨N1 + N2 + 2, by omega, fun fu => ?_⟩
      rw [show N1 + N2 + 2 + fu = (N1 + (N2 + 1 + fu)) + 1 by omega, HEAD]
      have E1 : f2_colourBehind_46 (f2_colourBehind_11 K g p1 p2 t (N1 + (N2 + 1 + fu))) K g p1 p2 t (nI c) (nI p) (nI o) (nI i) (nI (sn p)) = f2_colourBehind_11 K g p1 p2 t (N1 + (N2 + 1 + fu)) (nI c) (nI (insd sn p)) (nI (o + 1)) (nI (i + 1)) := by
        unfold f2_colourBehind_46 f2_colourBehind_60 f2_colourBehind_90 f2_colourBehind_112
        rcases (by omega : sn p = 120 ∨ sn p = 108) with z | z
        · simp (disch := omega) only [EV, NUM, pu_lit, pu_eq, z, k2, decide_true, if_true, INS]
          rw [if_neg (by decide), if_neg (by decide)]
        · simp (disch := omega) only [EV, NUM, pu_lit, pu_eq, z, k2, decide_true, if_true, INS]
          rw [if_neg (by decide), if_neg (by decide), if_neg (by decide)]
      rw [E1, n2 (N2 + 1 + fu), show N2 + 1 + fu = (N2 + fu) + 1 by omega, f2_colourBehind_11]
      have SG2 := tx_sign h2 (p := sge sn n f (insd sn p)) (by omega)
      rw [if_pos b2, b3] at SG2
      have i2 : ¬ 80 ≤ i + 1 + N1 := by omega
      have o1 : ¬ o + 1 = 0 := by omega
      unfold f2_colourBehind_46 f2_colourBehind_60 f2_colourBehind_112
      simp (disch := omega) only [EV, NUM, pu_lit, pu_le, pu_eq, i2, if_false, k2, decide_true, SG2, o1, if_true, pu_m1', Nat.add_sub_cancel]
      rw [if_neg (by decide), if_neg (by decide), m2 fu, show i + 1 + N1 + 1 + N2 = i + (N1 + N2 + 2) by omega]
theorem cb_eq (h2 : TX K g t n sn) {f c : Nat} (hs : SP sn n p) (hf : n - p < f) (hc : c < 6) : f2_colourBehind K g (some t) (nI p) (nI c) = some (nI (ecl sn n f p c)) := by
  have hv := h2.2.2.2.1
  have n80 := hv.1
  have hpn := hs.1
  obtain ⟨N, n1, n2⟩ := cb_run h2 (p1 := nI p) (p2 := nI c) f p c 0 0 hs hf hc (by omega) (by omega)
  obtain ⟨r1, r2, r3, r4⟩ := sge_ok hv f p hs hf
  have N80 : N ≤ 80 := by rcases r4 with z | z <;> omega
  unfold f2_colourBehind
  show f2_colourBehind_11 K g (nI p) (nI c) t FU (nI c) (nI p) (nI 0) (nI 0) = _
  rw [show FU = N + ((FU - N - 1) + 1) by unfold FU; omega, n2, f2_colourBehind_11]
  have SG2 := tx_sign h2 (p := sge sn n f p) r2.1
  by_cases i2 : 80 ≤ 0 + N
  · rw [if_pos (show (80 : Int32) ≤ nI (0 + N) from (nI_leI (a := 80) (by omega) (by omega)).mpr i2)]
  · rcases r4 with z | ⟨z1, z2⟩
    · rw [if_neg (show ¬ sge sn n f p < n by omega)] at SG2
      simp (disch := omega) only [EV, pu_lit, pu_le, i2, if_false, h2.1, decide_true, SG2, if_true]
    · rw [if_pos z1, z2] at SG2
      simp (disch := omega) only [EV, pu_lit, pu_le, pu_eq, i2, if_false, h2.1, decide_true, SG2, if_true]
      rw [if_neg (by decide)]
end SEG
