/-! THE LAW'S LOOM, a: bytes, rows, the card on top -/
section LROWS
variable {L L' L1 L2 : GS} {S : GS} {s s' s1 s2 : Nat → Int32} {i j k n p m q c : Nat} {sn : Nat → Nat}
/-- the sign at a place of a packed row -/
def AT (L : GS) (r b k : Nat) : Int32 := (L r (6 * b + k / 4) >>> (nI (8 * (k - k / 4 * 4)) &&& nI 31)) &&& nI 255
theorem at6 (hi : i < 9) (hk : k < 24) : f9_at6 L (nI i) (nI k) = some (AT L 6 i k) := by
  unfold f9_at6 AT
  simp (disch := omega) only [EV, NUM, pu_lit, pk_div, pk_sub, pu_gok, pu_cl]
theorem at2 (hi : i < 5) (hk : k < 24) : f9_at2 L (nI i) (nI k) = some (AT L 2 i k) := by
  unfold f9_at2 AT
  simp (disch := omega) only [EV, NUM, pu_lit, pk_div, pk_sub, pu_gok, pu_cl]
/-- the law's rows, told as the reference's frame -/
def vf (L : GS) (i k : Nat) : Int32 := if k < 5 then L 4 (6 * i + k) else if k < 11 then L 5 (6 * i + (k - 5)) else if k = 11 then L 4 (6 * i + 5) else AT L 6 i (k - 12)
theorem vf_4 (hk : k < 5) : vf L i k = L 4 (6 * i + k) := if_pos hk
theorem vf_5 (h1 : 5 ≤ k) (hk : k < 11) : vf L i k = L 5 (6 * i + (k - 5)) := by unfold vf; rw [if_neg (by omega), if_pos hk]
theorem vf_11 : vf L i 11 = L 4 (6 * i + 5) := rfl
theorem vf_6 (hk : 12 ≤ k) : vf L i k = AT L 6 i (k - 12) := by unfold vf; rw [if_neg (by omega), if_neg (by omega), if_neg (by omega)]
/-- what counts in a frame -/
def live (m n k : Nat) : Prop := k < 5 ∨ (5 ≤ k ∧ k < 5 + 2 * m) ∨ k = 11 ∨ (12 ≤ k ∧ k < 12 + n)
def LFR (sn : Nat → Nat) (n p : Nat) (v : Int32) : Prop := v = nI 0 ∨ ∃ l, 1 ≤ l ∧ l ≤ 9 ∧ v = nI l ∧ p < n ∧ (sn p = 119 ∨ sn p = 120)
/-- a frame of the reference's row -/
def FRR (s : Nat → Int32) (i n : Nat) (sn : Nat → Nat) (p m : Nat) : Prop :=
  VT sn n ∧ (∃ c, c < 6 ∧ s (fb i + 1) = nI c) ∧ (ks sn p).length = m ∧ s (fb i + 4) = nI m ∧ s (fb i + 2) = nI p ∧ SP sn n p ∧ LFR sn n p (s (fb i + 3)) ∧ s (fb i + 11) = nI n ∧ (∀ k, k < n → s (fb i + 12 + k) = nI (sn k)) ∧
  ∀ j, j < m → ∃ l, l ≤ 8 ∧ s (fb i + 5 + 2 * j) = nI (opn (ks sn p) j) ∧ s (fb i + 6 + 2 * j) = nI l ∧ (0 < l → sn (opn (ks sn p) j) = 120)
/-- the law's frame is the reference's -/
def FL (L : GS) (s : Nat → Int32) (i n : Nat) (sn : Nat → Nat) (p m : Nat) : Prop := FRR s i n sn p m ∧ n ≤ 24 ∧ ∀ k, live m n k → s (fb i + k) = vf L i k
theorem FL.m3 (h : FL L s i n sn p m) : m ≤ 3 := by
  have := (au (h.1.1.ne h.1.2.2.2.2.2.1.1)).2.2.1
  have := h.1.2.2.1
  omega
theorem FL.pn (h : FL L s i n sn p m) : p ≤ n := h.1.2.2.2.2.2.1.1
theorem FL.l1 (h : FL L s i n sn p m) : ∃ c, c < 6 ∧ s (fb i + 1) = nI c ∧ L 4 (6 * i + 1) = nI c := by
  obtain ⟨c, c6, hc⟩ := h.1.2.1
  refine ⟨c, c6, hc, ?_⟩
  have := h.2.2 1 (Or.inl (by omega))
  rw [vf_4 (by omega), hc] at this
  exact this.symm
theorem FL.l2 (h : FL L s i n sn p m) : L 4 (6 * i + 2) = nI p := by
  have := h.2.2 2 (Or.inl (by omega))
  rw [vf_4 (by omega), h.1.2.2.2.2.1] at this
  exact this.symm
theorem FL.l3 (h : FL L s i n sn p m) : L 4 (6 * i + 3) = s (fb i + 3) := by
  have := h.2.2 3 (Or.inl (by omega))
  rw [vf_4 (by omega)] at this
  exact this.symm
theorem FL.l4 (h : FL L s i n sn p m) : L 4 (6 * i + 4) = nI m := by
  have := h.2.2 4 (Or.inl (by omega))
  rw [vf_4 (by omega), h.1.2.2.2.1] at this
  exact this.symm
theorem FL.l5 (h : FL L s i n sn p m) : L 4 (6 * i + 5) = nI n := by
  have := h.2.2 11 (Or.inr (Or.inr (Or.inl rfl)))
  rw [vf_11, h.1.2.2.2.2.2.2.2.1] at this
  exact this.symm
theorem FL.l6 (h : FL L s i n sn p m) (hk : k < n) : AT L 6 i k = nI (sn k) := by
  have := h.2.2 (12 + k) (Or.inr (Or.inr (Or.inr ⟨by omega, by omega⟩)))
  rw [vf_6 (by omega), show fb i + (12 + k) = fb i + 12 + k by omega, h.1.2.2.2.2.2.2.2.2.1 k hk, Nat.add_sub_cancel_left] at this
  exact this.symm
theorem FL.at (h : FL L s i n sn p m) (hi : i < 9) (hk : k < n) : f9_at6 L (nI i) (nI k) = some (nI (sn k)) := by
  have := h.2.1
  rw [at6 hi (by omega), h.l6 hk]
/-- a part that is at work -/
theorem FL.op (h : FL L s i n sn p m) (hj : j < m) : ∃ l, l ≤ 8 ∧ s (fb i + 5 + 2 * j) = nI (opn (ks sn p) j) ∧ s (fb i + 6 + 2 * j) = nI l ∧ (0 < l → sn (opn (ks sn p) j) = 120) ∧ L 5 (6 * i + 2 * j) = nI (opn (ks sn p) j) ∧ L 5 (6 * i + 2 * j + 1) = nI l := by
  have hm := h.m3
  obtain ⟨l, l8, a1, a2, a3⟩ := h.1.2.2.2.2.2.2.2.2.2 j hj
  have e1 := h.2.2 (5 + 2 * j) (Or.inr (Or.inl ⟨by omega, by omega⟩))
  have e2 := h.2.2 (6 + 2 * j) (Or.inr (Or.inl ⟨by omega, by omega⟩))
  rw [vf_5 (by omega) (by omega), show fb i + (5 + 2 * j) = fb i + 5 + 2 * j by omega, a1, show 6 * i + (5 + 2 * j - 5) = 6 * i + 2 * j by omega] at e1
  rw [vf_5 (by omega) (by omega), show fb i + (6 + 2 * j) = fb i + 6 + 2 * j by omega, a2, show 6 * i + (6 + 2 * j - 5) = 6 * i + 2 * j + 1 by omega] at e2
  exact ⟨l, l8, a1, a2, a3, e1.symm, e2.symm⟩
/-- what a change of the card on top leaves -/
def MVL (L L' : GS) (s s' : Nat → Int32) (i : Nat) : Prop :=
  (∀ r, r ≠ 0 → r ≠ 4 → r ≠ 5 → L' r = L r) ∧ (∀ x, x ≠ 3 → L' 0 x = L 0 x) ∧ (∀ x, x < 6 * i → L' 4 x = L 4 x ∧ L' 5 x = L 5 x) ∧ ∀ x, x < fb i → x ≠ 3 → s' x = s x
theorem MVL.rf : MVL L L s s i := ⟨fun _ _ _ _ => rfl, fun _ _ => rfl, fun _ _ => ⟨rfl, rfl⟩, fun _ _ _ => rfl⟩
theorem MVL.tr (h : MVL L L1 s s1 i) (h2 : MVL L1 L2 s1 s2 i) : MVL L L2 s s2 i :=
  ⟨fun r a b c => (h2.1 r a b c).trans (h.1 r a b c), fun x hx => (h2.2.1 x hx).trans (h.2.1 x hx), fun x hx => ⟨(h2.2.2.1 x hx).1.trans (h.2.2.1 x hx).1, (h2.2.2.1 x hx).2.trans (h.2.2.1 x hx).2⟩, fun x a b => (h2.2.2.2 x a b).trans (h.2.2.2 x a b)⟩
theorem MVL.dn (h : MVL L L' s s' i) (hj : j ≤ i) : MVL L L' s s' j :=
  ⟨h.1, h.2.1, fun x hx => h.2.2.1 x (by omega), fun x a b => h.2.2.2 x (by show x < 1253 + 92 * i; have : x < 1253 + 92 * j := a; omega) b⟩
theorem MVL.s4 {x : Nat} {v : Int32} (hx : 6 * i ≤ x) : MVL L (ssI L 4 x v) s s i :=
  ⟨fun r _ b _ => ss_n _ _ _ _ _ b, fun x _ => by rw [ss_n _ _ _ _ _ (by decide)], fun y hy => ⟨by rw [ss_1, pk_un (by omega)], by rw [ss_n _ _ _ _ _ (by decide)]⟩, fun _ _ _ => rfl⟩
theorem MVL.s5 {x : Nat} {v : Int32} (hx : 6 * i ≤ x) : MVL L (ssI L 5 x v) s s i :=
  ⟨fun r _ _ b => ss_n _ _ _ _ _ b, fun x _ => by rw [ss_n _ _ _ _ _ (by decide)], fun y hy => ⟨by rw [ss_n _ _ _ _ _ (by decide)], by rw [ss_1, pk_un (by omega)]⟩, fun _ _ _ => rfl⟩
theorem MVL.s3 {v : Int32} : MVL L (ssI L 0 3 v) s s i :=
  ⟨fun r b _ _ => ss_n _ _ _ _ _ b, fun x hx => by rw [ss_1, pk_un hx], fun y hy => ⟨by rw [ss_n _ _ _ _ _ (by decide)], by rw [ss_n _ _ _ _ _ (by decide)]⟩, fun _ _ _ => rfl⟩
theorem MVL.su {x : Nat} {v : Int32} (h : x = 3 ∨ fb i ≤ x) : MVL L L s (upd s x v) i :=
  ⟨fun _ _ _ _ => rfl, fun _ _ => rfl, fun _ _ => ⟨rfl, rfl⟩, fun y h1 h3 => pk_un (by omega)⟩
theorem FRR.mo (h : FRR s i n sn p m) (es : ∀ k, k < 92 → s' (fb i + k) = s (fb i + k)) : FRR s' i n sn p m := by
  obtain ⟨h1, ⟨c, c6, h2⟩, h3, h4, h5, h6, h7, h8, h9, h10⟩ := h
  have hm : m ≤ 3 := by
    have := (au (h1.ne h6.1)).2.2.1
    omega
  have hn := h1.1
  refine ⟨h1, ⟨c, c6, by rw [es 1 (by omega)]; exact h2⟩, h3, by rw [es 4 (by omega)]; exact h4, by rw [es 2 (by omega)]; exact h5, h6, by rw [es 3 (by omega)]; exact h7, by rw [es 11 (by omega)]; exact h8, fun k hk => ?_, fun j hj => ?_⟩
  · rw [Nat.add_assoc, es _ (by omega), ← Nat.add_assoc]
    exact h9 k hk
  · obtain ⟨l, l8, a1, a2, a3⟩ := h10 j hj
    exact ⟨l, l8, by rw [Nat.add_assoc, es _ (by omega), ← Nat.add_assoc]; exact a1, by rw [Nat.add_assoc, es _ (by omega), ← Nat.add_assoc]; exact a2, a3⟩
/-- rows that show the same frame -/
def VE (L L' : GS) (i : Nat) : Prop := ∀ k, k < 36 → vf L' i k = vf L i k
theorem VE.mk4 (h4 : ∀ x, x < 6 → L' 4 (6 * i + x) = L 4 (6 * i + x)) (h5 : ∀ x, x < 6 → L' 5 (6 * i + x) = L 5 (6 * i + x)) (h6 : ∀ x, x < 6 → L' 6 (6 * i + x) = L 6 (6 * i + x)) : VE L L' i := fun k hk => by
  unfold vf AT
  by_cases a1 : k < 5
  · rw [if_pos a1, if_pos a1, h4 _ (by omega)]
  rw [if_neg a1, if_neg a1]
  by_cases a2 : k < 11
  · rw [if_pos a2, if_pos a2, h5 _ (by omega)]
  rw [if_neg a2, if_neg a2]
  by_cases a3 : k = 11
  · rw [if_pos a3, if_pos a3, h4 _ (by omega)]
  rw [if_neg a3, if_neg a3, h6 _ (by omega)]
theorem FL.mo (h : FL L s i n sn p m) (ev : VE L L' i) (es : ∀ k, k < 92 → s' (fb i + k) = s (fb i + k)) : FL L' s' i n sn p m := by
  have hm := h.m3
  have hn := h.2.1
  exact ⟨h.1.mo es, hn, fun k hk => by
    have k92 : k < 92 := by unfold live at hk; omega
    rw [es k k92, ev k (by unfold live at hk; omega)]
    exact h.2.2 k hk⟩
theorem MVL.low (h : MVL L L' s s' i) (hj : j < i) (hf : FL L s j n sn p m) : FL L' s' j n sn p m :=
  hf.mo (VE.mk4 (fun x hx => (h.2.2.1 _ (by omega)).1) (fun x hx => (h.2.2.1 _ (by omega)).2) (fun x hx => by rw [h.1 6 (by decide) (by decide) (by decide)])) (fun k hk => h.2.2.2 _ (by show 1253 + 92 * j + k < 1253 + 92 * i; omega) (by show 1253 + 92 * j + k ≠ 3; omega))
/-- another place in the same text -/
theorem FL.arr (h : FL L s i n sn p m) (hq : SP sn n q) (hks : ks sn q = ks sn p) (es : ∀ k, k < 92 → k ≠ 2 → k ≠ 3 → s' (fb i + k) = s (fb i + k)) (e2 : s' (fb i + 2) = nI q) (hl : LFR sn n q (s' (fb i + 3))) (h4 : ∀ x, x ≠ 6 * i + 2 → x ≠ 6 * i + 3 → L' 4 x = L 4 x) (h5 : L' 5 = L 5) (h6 : L' 6 = L 6) (v2 : L' 4 (6 * i + 2) = nI q) (v3 : L' 4 (6 * i + 3) = s' (fb i + 3)) : FL L' s' i n sn q m := by
  have hm := h.m3
  obtain ⟨⟨a1, ⟨c, c6, a2⟩, a3, a4, a5, a6, a7, a8, a9, a10⟩, b1, b2⟩ := h
  refine ⟨⟨a1, ⟨c, c6, by rw [es 1 (by omega) (by omega) (by omega)]; exact a2⟩, by rw [hks]; exact a3, by rw [es 4 (by omega) (by omega) (by omega)]; exact a4, e2, hq, hl, by rw [es 11 (by omega) (by omega) (by omega)]; exact a8, fun k hk => ?_, fun j hj => ?_⟩, b1, fun k hk => ?_⟩
  · rw [Nat.add_assoc, es _ (by omega) (by omega) (by omega), ← Nat.add_assoc]
    exact a9 k hk
  · rw [hks]
    obtain ⟨l, l8, z1, z2, z3⟩ := a10 j hj
    exact ⟨l, l8, by rw [Nat.add_assoc, es _ (by omega) (by omega) (by omega), ← Nat.add_assoc]; exact z1, by rw [Nat.add_assoc, es _ (by omega) (by omega) (by omega), ← Nat.add_assoc]; exact z2, z3⟩
  · by_cases k2 : k = 2
    · subst k2
      rw [vf_4 (by omega), v2, e2]
    by_cases k3 : k = 3
    · subst k3
      rw [vf_4 (by omega), v3]
    have k92 : k < 92 := by unfold live at hk; omega
    rw [es k k92 k2 k3, b2 k hk]
    unfold vf AT
    rw [h5, h6]
    by_cases z1 : k < 5
    · rw [if_pos z1, if_pos z1, h4 _ (by omega) (by omega)]
    rw [if_neg z1, if_neg z1]
    by_cases z2 : k < 11
    · rw [if_pos z2, if_pos z2]
    rw [if_neg z2, if_neg z2]
    by_cases z3 : k = 11
    · rw [if_pos z3, if_pos z3, h4 _ (by omega) (by omega)]
    rw [if_neg z3, if_neg z3]
/-- how a change of the card on top ends -/
def RESL (L : GS) (s : Nat → Int32) (i n : Nat) (sn : Nat → Nat) (L' : GS) (s' : Nat → Int32) : Prop :=
  (∃ p m, FL L' s' i n sn p m) ∧ MVL L L' s s' i ∧ s' 3 = nI (i + 1) ∧ L' 0 3 = nI (i + 1)
theorem RESL.tr (h : MVL L L1 s s1 i) (h2 : RESL L1 s1 i n sn L2 s2) : RESL L s i n sn L2 s2 := ⟨h2.1, h.tr h2.2.1, h2.2.2⟩
/-- the number behind a sign -/
theorem l_digit (h : FL L s i n sn p m) (hi : i < 9) (hp : p < n) : f9_digit L (nI i) (nI p) = some (nI (cntN sn n p)) := by
  have n24 := h.2.1
  have hv := h.1.1
  unfold f9_digit
  simp (disch := omega) only [EV, NUM, pu_lit, pu_gok, pu_cl, h.l5, pu_le]
  by_cases hn : n ≤ p + 1
  · have e : cntN sn n p = 1 := by unfold cntN; rw [if_neg (by omega)]
    rw [if_pos hn, e]
    unfold f9_digit_29 f9_digit_49
    simp (disch := omega) only [pu_lit, pu_le]
    rfl
  · have hc := hv.2.2.2 (p + 1) (by omega)
    have e := pk_sub_toInt (a := sn (p + 1)) (b := 48) (by omega) (by omega)
    have c1 : (nI (sn (p + 1)) - nI 48 ≤ nI 1) = (sn (p + 1) < 50) := propext (by rw [Int32.le_iff_toInt_le, e, nI_toInt (by omega)]; omega)
    have c2 : (nI 10 ≤ nI (sn (p + 1)) - nI 48) = (58 ≤ sn (p + 1)) := propext (by rw [Int32.le_iff_toInt_le, e, nI_toInt (by omega)]; omega)
    rw [if_neg hn, h.at hi (k := p + 1) (by omega)]
    unfold f9_digit_29 f9_digit_49 cntN
    simp only [EV, pu_lit, c1, c2]
    by_cases z1 : sn (p + 1) < 50
    · rw [if_pos z1, if_neg (by omega)]
    · rw [if_neg z1]
      by_cases z2 : 58 ≤ sn (p + 1)
      · rw [if_pos z2, if_neg (by omega)]
      · rw [if_neg z2, if_pos (by omega), pk_sub (by omega)]
end LROWS
