/-! THE PURE PART, g: layout, texts, frames of the stack -/
/-- a text's object and its rows -/
def LT (K : GK) (t : Nat) : Prop := K.1 (t + 1) = (11, gkn K t) ∧ ∀ i, 2 ≤ i → i ≤ 5 → K.1 (t + i) = (10, gkn K t)
/-- a loom's object and its rows -/
def LK (K : GK) (a : Nat) : Prop := K.1 a = (5, 0) ∧ K.1 (a + 1) = (13, 10) ∧ K.1 (a + 2) = (10, 10) ∧ K.1 (a + 3) = (10, 3) ∧ K.1 (a + 4) = (10, 6) ∧ K.1 (a + 5) = (10, 6) ∧ K.1 (a + 6) = (10, 6) ∧ K.1 (a + 7) = (10, 6) ∧ K.1 (a + 8) = (12, 400) ∧ K.1 (a + 9) = (1, 0) ∧ K.1 (a + 10) = (10, 9) ∧ K.1 (a + 11) = (10, 9) ∧ K.1 (a + 12) = (10, 9) ∧ K.1 (a + 13) = (10, 36) ∧ K.1 (a + 14) = (10, 36) ∧ K.1 (a + 15) = (13, 9)
/-- the texts are as they were -/
def TA (K : GK) (g g' : GM) : Prop := ∀ t, gkd K t = 2 → ∀ i, i ≤ 5 → g'.1 (t + i) = g.1 (t + i)
theorem TA.rf {K : GK} {g : GM} : TA K g g := fun _ _ _ _ => rfl
theorem TA.tr {K : GK} {g g1 g2 : GM} (h : TA K g g1) (h2 : TA K g1 g2) : TA K g g2 := fun t ht i hi => (h2 t ht i hi).trans (h t ht i hi)
theorem TA.ag {K : GK} {g g1 : GM} {P : Nat → Prop} (h : AG P g g1) (hp : ∀ t, gkd K t = 2 → ∀ i, i ≤ 5 → ¬ P (t + i)) : TA K g g1 := fun t ht i hi => (h (t + i) (hp t ht i hi)).1
/-- a text -/
def TX (K : GK) (g : GM) (t n : Nat) (sn : Nat → Nat) : Prop :=
  gkd K t = 2 ∧ gkn K t = n ∧ gI g t 0 = nI n ∧ VT sn n ∧ (∀ k, k < n → gI g (t + 1) k = nI (sn k)) ∧ ARR sn n (gI g (t + 2)) (gI g (t + 3)) (gI g (t + 4)) (gI g (t + 5)) ∧ gI g t 1 = nI (stN sn n) ∧ gI g t 2 = caI sn n ∧ gI g t 3 = nI (nsN sn n)
theorem TX.mo {K : GK} {g g' : GM} {t n : Nat} {sn : Nat → Nat} (h : TX K g t n sn) (ha : TA K g g') : TX K g' t n sn := by
  obtain ⟨h1, h2, h3, h4, h5, h6, h7, h8, h9⟩ := h
  have e : ∀ i, i ≤ 5 → gI g' (t + i) = gI g (t + i) := fun i hi => ha t h1 i hi
  have e0 : gI g' t = gI g t := e 0 (by omega)
  refine ⟨h1, h2, by rw [e0]; exact h3, h4, by rw [e 1 (by omega)]; exact h5, ?_, by rw [e0]; exact h7, by rw [e0]; exact h8, by rw [e0]; exact h9⟩
  rw [e 2 (by omega), e 3 (by omega), e 4 (by omega), e 5 (by omega)]
  exact h6
/-- the marks: times left, in the row and in the class -/
def LF (sn : Nat → Nat) (n p : Nat) (v w : Int32) : Prop :=
  (v = nI 0 ∧ (p < n → sn p = 119 ∨ sn p = 120 ∨ sn p = 108 ∨ sn p = 115 → w = nI (cntN sn n p))) ∨ (∃ l, 1 ≤ l ∧ l ≤ 9 ∧ v = nI l ∧ w = nI l ∧ p < n ∧ (sn p = 119 ∨ sn p = 120))
abbrev fb (i : Nat) : Nat := 1253 + 92 * i
/-- a part that is at work -/
def OP1 (g : GM) (b : Nat) (s : Nat → Int32) (i j e : Nat) (sn : Nat → Nat) : Prop :=
  ∃ l, l ≤ 8 ∧ gI g (b + 4) (4 * i + j) = nI e ∧ s (fb i + 5 + 2 * j) = nI e ∧ gI g (b + 5) (4 * i + j) = nI l ∧ s (fb i + 6 + 2 * j) = nI l ∧ (0 < l → sn e = 120)
/-- a card on the stack -/
def FR1 (K : GK) (g : GM) (b : Nat) (s : Nat → Int32) (i t n : Nat) (sn : Nat → Nat) (p m : Nat) : Prop :=
  gR g (b + 6) i = some t ∧ TX K g t n sn ∧ s (fb i) = gI g (b + 1) i ∧ (∃ c, c < 6 ∧ gI g (b + 2) i = nI c ∧ s (fb i + 1) = nI c) ∧
  (ks sn p).length = m ∧ gI g (b + 3) i = nI m ∧ s (fb i + 4) = nI m ∧ gI g (b + 4) (4 * i + m) = nI p ∧ s (fb i + 2) = nI p ∧ SP sn n p ∧
  LF sn n p (s (fb i + 3)) (gI g (b + 5) (4 * i + m)) ∧ s (fb i + 11) = nI n ∧ (∀ k, k < n → s (fb i + 12 + k) = nI (sn k)) ∧
  ∀ j, j < m → OP1 g b s i j (opn (ks sn p) j) sn
section FRAMES
variable {K : GK} {g g' : GM} {S : GS} {b b' t n p m i q : Nat} {s s' : Nat → Int32} {sn : Nat → Nat}
theorem FR1.mo (h : FR1 K g b s i t n sn p m) (ha : TA K g g') (e6 : gR g' (b' + 6) i = gR g (b + 6) i) (e1 : gI g' (b' + 1) i = gI g (b + 1) i) (e2 : gI g' (b' + 2) i = gI g (b + 2) i) (e3 : gI g' (b' + 3) i = gI g (b + 3) i) (e4 : ∀ j, j < 4 → gI g' (b' + 4) (4 * i + j) = gI g (b + 4) (4 * i + j)) (e5 : ∀ j, j < 4 → gI g' (b' + 5) (4 * i + j) = gI g (b + 5) (4 * i + j)) (es : ∀ k, k < 92 → s' (fb i + k) = s (fb i + k)) : FR1 K g' b' s' i t n sn p m := by
  obtain ⟨h1, h2, h3, ⟨c, hc, h4, h4'⟩, h5, h6, h7, h8, h9, h10, h11, h12, h13, h14⟩ := h
  have hm : m ≤ 3 := by
    have := (au (h2.2.2.2.1.ne h10.1)).2.2.1
    omega
  have hn : n ≤ 80 := h2.2.2.2.1.1
  have es0 : s' (fb i) = s (fb i) := es 0 (by omega)
  refine ⟨by rw [e6]; exact h1, h2.mo ha, by rw [es0, e1]; exact h3, ⟨c, hc, by rw [e2]; exact h4, by rw [es 1 (by omega)]; exact h4'⟩, h5, by rw [e3]; exact h6, by rw [es 4 (by omega)]; exact h7, by rw [e4 m (by omega)]; exact h8, by rw [es 2 (by omega)]; exact h9, h10, by rw [es 3 (by omega), e5 m (by omega)]; exact h11, by rw [es 11 (by omega)]; exact h12, fun k hk => ?_, fun j hj => ?_⟩
  · rw [show fb i + 12 + k = fb i + (12 + k) by omega, es (12 + k) (by omega), show fb i + (12 + k) = fb i + 12 + k by omega]
    exact h13 k hk
  · obtain ⟨l, l8, a1, a2, a3, a4, a5⟩ := h14 j hj
    refine ⟨l, l8, by rw [e4 j (by omega)]; exact a1, ?_, by rw [e5 j (by omega)]; exact a3, ?_, a5⟩
    · rw [show fb i + 5 + 2 * j = fb i + (5 + 2 * j) by omega, es _ (by omega), show fb i + (5 + 2 * j) = fb i + 5 + 2 * j by omega]
      exact a2
    · rw [show fb i + 6 + 2 * j = fb i + (6 + 2 * j) by omega, es _ (by omega), show fb i + (6 + 2 * j) = fb i + 6 + 2 * j by omega]
      exact a4
/-! texts, looked at -/
theorem tx_sign (h : TX K g t n sn) (hp : p ≤ n) : f1_signAt K g t (nI p) = some (nI (if p < n then sn p else 0)) := by
  obtain ⟨h1, h2, h3, h4, h5, -⟩ := h
  have := h4.1
  unfold f1_signAt f1_signAt_21
  by_cases hpn : p < n
  · have n1 : ¬ n ≤ p := by omega
    simp (disch := omega) [EV, pu_lit, pu_lt, pu_le, pu_gok, pu_cl, h3, h2, hpn, n1, h5 p hpn]
  · have n1 : n ≤ p := by omega
    simp (disch := omega) [EV, pu_lit, pu_lt, pu_le, pu_gok, pu_cl, h3, h2, hpn, n1]
theorem tx_times (h : TX K g t n sn) (hp : p ≤ n) : f1_timesAt K g t (nI p) = some (if p < n then gI g (t + 2) p else nI 0) := by
  obtain ⟨h1, h2, h3, h4, h5, -⟩ := h
  have := h4.1
  unfold f1_timesAt f1_timesAt_21
  by_cases hpn : p < n
  · have n1 : ¬ n ≤ p := by omega
    simp (disch := omega) [EV, pu_lit, pu_lt, pu_le, pu_gok, pu_cl, h3, h2, hpn, n1]
  · have n1 : n ≤ p := by omega
    simp (disch := omega) [EV, pu_lit, pu_lt, pu_le, pu_gok, pu_cl, h3, h2, hpn, n1]
theorem tx_digit (h : TX K g t n sn) (hp : p < n) : f1_digitAt K g t (nI p) = some (gI g (t + 3) p) := by
  obtain ⟨h1, h2, h3, h4, h5, -⟩ := h
  have := h4.1
  unfold f1_digitAt
  have n1 : ¬ n ≤ p := by omega
  simp (disch := omega) [EV, pu_lit, pu_lt, pu_le, pu_gok, pu_cl, h3, h2, n1]
theorem tx_inside (h : TX K g t n sn) (hp : p < n) : f1_insideOf K g t (nI p) = some (gI g (t + 4) p) := by
  obtain ⟨h1, h2, h3, h4, h5, -⟩ := h
  have := h4.1
  unfold f1_insideOf
  have n1 : ¬ n ≤ p := by omega
  simp (disch := omega) [EV, pu_lit, pu_lt, pu_le, pu_gok, pu_cl, h3, h2, n1]
theorem tx_behind (h : TX K g t n sn) (hp : p < n) : f1_behind K g t (nI p) = some (gI g (t + 5) p) := by
  obtain ⟨h1, h2, h3, h4, h5, -⟩ := h
  have := h4.1
  unfold f1_behind
  have n1 : ¬ n ≤ p := by omega
  simp (disch := omega) [EV, pu_lit, pu_lt, pu_le, pu_gok, pu_cl, h3, h2, n1]
theorem tx_ck (h : TX K g t n sn) (hs : SP sn n p) (hp : p < n) (hl : sn p = 99 ∨ sn p = 107) : gI g (t + 3) p = nI (sn (p + 1) - 48) ∧ gI g (t + 5) p = nI (p + 2) := by
  have hv := h.2.2.2.1
  have : p + 1 < n := by
    rcases hl with hl | hl
    · exact (hs.c hv hp hl).1
    · exact (hs.k hv hp hl).1
  exact (h.2.2.2.2.2.1.1 p hp).1 hl this
theorem tx_w (h : TX K g t n sn) (hp : p < n) (hl : sn p = 119) : gI g (t + 2) p = nI (cntN sn n p) ∧ gI g (t + 5) p = nI (wNx sn n p) := (h.2.2.2.2.2.1.1 p hp).2.1 hl
theorem tx_x (h : TX K g t n sn) (hs : SP sn n p) (hp : p < n) (hl : sn p = 120) : gI g (t + 2) p = nI (cntN sn n p) ∧ gI g (t + 4) p = nI (p + 3) := by
  obtain ⟨a1, a2, a3, -⟩ := hs.x h.2.2.2.1 hp hl
  have := (h.2.2.2.2.2.1.1 p hp).2.2.1 hl
  refine ⟨?_, this.2 a1⟩
  rw [this.1 (by omega)]
  unfold cntN
  rw [if_pos ⟨by omega, a2, a3⟩]
theorem tx_sl (h : TX K g t n sn) (hs : SP sn n p) (hp : p < n) (hl : sn p = 108 ∨ sn p = 115) : gI g (t + 2) p = nI (cntN sn n p) ∧ gI g (t + 4) p = nI (p + 2) ∧ cntN sn n p = 1 := by
  obtain ⟨a1, a2, -⟩ := hs.sl h.2.2.2.1 hp hl
  have := (h.2.2.2.2.2.1.1 p hp).2.2.2 hl
  have e : cntN sn n p = 1 := by
    unfold cntN
    rw [if_neg (fun z => by omega)]
  exact ⟨by rw [e]; exact this.1, this.2 a1, e⟩
theorem tx_cl (h : TX K g t n sn) {r e : Nat} {st : List Nat} (hr : r < n) (h41 : sn r = 41) (hk : ks sn r = e :: st) : gI g (t + 5) e = nI (r + 1) := h.2.2.2.2.2.1.2 r hr h41 e st hk
/-- the times of a step at its place -/
theorem tx_lf (h : TX K g t n sn) (hs : SP sn n p) : LF sn n p (nI 0) (if p < n then gI g (t + 2) p else nI 0) := by
  refine Or.inl ⟨rfl, fun hp hl => ?_⟩
  rw [if_pos hp]
  rcases hl with hl | hl | hl | hl
  · exact (tx_w h hp hl).1
  · exact (tx_x h hs hp hl).1
  · exact (tx_sl h hs hp (Or.inl hl)).1
  · exact (tx_sl h hs hp (Or.inr hl)).1
/-! the class's stack, looked at -/
theorem FR1.m3 (h : FR1 K g b s i t n sn p m) : m ≤ 3 ∧ n ≤ 80 ∧ p ≤ n := by
  have hv := h.2.1.2.2.2.1
  have h10 := h.2.2.2.2.2.2.2.2.2.1
  have := (au (hv.ne h10.1)).2.2.1
  have h5 := h.2.2.2.2.1
  have := hv.1
  have := h10.1
  omega
theorem cl_spot (h : FR1 K g b s i t n sn p m) (hi : i < 9) : f0_spotOf K g b (nI i) = some (nI (4 * i + m)) := by
  have h6 := h.2.2.2.2.2.1
  unfold f0_spotOf
  simp (disch := omega) [EV, NUM, pu_lit, pu_gok, pu_cl, h6, Nat.mul_comm]
theorem cl_letter (h : FR1 K g b s i t n sn p m) (hi : i < 9) (hd : gI g b 6 = nI (i + 1)) : f0_stepLetter K g b = some (nI (if p < n then sn p else 0)) := by
  have hm := h.m3
  have h1 := h.1
  have h2 := h.2.1
  have h21 := h2.1
  have h8 := h.2.2.2.2.2.2.2.1
  unfold f0_stepLetter
  simp (disch := omega) [EV, NUM, pu_lit, pu_gok, pu_cl, pu_le, pk_sub, hd, h1, cl_spot h hi, h21, h8, tx_sign h2 hm.2.2]
theorem cl_digit (h : FR1 K g b s i t n sn p m) (hi : i < 9) (hd : gI g b 6 = nI (i + 1)) (hp : p < n) : f0_stepDigit K g b = some (gI g (t + 3) p) := by
  have hm := h.m3
  have h1 := h.1
  have h2 := h.2.1
  have h21 := h2.1
  have h8 := h.2.2.2.2.2.2.2.1
  unfold f0_stepDigit
  simp (disch := omega) [EV, NUM, pu_lit, pu_gok, pu_cl, pu_le, pk_sub, hd, h1, cl_spot h hi, h21, h8, tx_digit h2 hp]
theorem cl_behind (h : FR1 K g b s i t n sn p m) (hi : i < 9) (hd : gI g b 6 = nI (i + 1)) (hp : p < n) : f0_placeBehind K g b = some (gI g (t + 5) p) := by
  have hm := h.m3
  have h1 := h.1
  have h2 := h.2.1
  have h21 := h2.1
  have h8 := h.2.2.2.2.2.2.2.1
  unfold f0_placeBehind
  simp (disch := omega) [EV, NUM, pu_lit, pu_gok, pu_cl, pu_le, pk_sub, hd, h1, cl_spot h hi, h21, h8, tx_behind h2 hp]
theorem cl_colour (h : FR1 K g b s i t n sn p m) (hi : i < 9) (hd : gI g b 6 = nI (i + 1)) : f0_topColour K g b = some (gI g (b + 2) i) := by
  unfold f0_topColour
  simp (disch := omega) [EV, NUM, pu_lit, pu_gok, pu_cl, pu_le, pk_sub, hd]
/-- where an arrival writes -/
def gA (g : GM) (b k q : Nat) (v : Int32) : GM := gsI (gsI g (b + 4) k (nI q)) (b + 5) k v
theorem cl_arrive (hi : i < 9) (hm : m ≤ 3) (hd : gI g b 6 = nI (i + 1)) (h3 : gI g (b + 3) i = nI m) (h1 : gR g (b + 6) i = some t) (h2 : TX K g t n sn) (hq : q ≤ n) (hk : ∀ t, gkd K t = 2 → ∀ i, i ≤ 5 → ∀ j, j ≤ 6 → t + i ≠ b + j) : f0_arriveAt K g b (nI q) = some (gA g b (4 * i + m) q (if q < n then gI g (t + 2) q else nI 0)) := by
  have n80 := h2.2.2.2.1.1
  have h21 := h2.1
  have hs : f0_spotOf K g b (nI i) = some (nI (4 * i + m)) := by
    unfold f0_spotOf
    simp (disch := omega) [EV, NUM, pu_lit, pu_gok, pu_cl, h3, Nat.mul_comm]
  have ta : TA K g (gsI g (b + 4) (4 * i + m) (nI q)) := TA.ag (P := fun x => x = b + 4) (AG.I rfl) (fun t ht i hi => hk t ht i hi 4 (by omega))
  have e2 : gI (gsI g (b + 4) (4 * i + m) (nI q)) (t + 2) q = gI g (t + 2) q := congrFun (ta t h21 2 (by omega)) q
  have tt := tx_times (h2.mo ta) hq
  rw [e2] at tt
  unfold f0_arriveAt gA
  simp (disch := omega) [EV, NUM, pu_lit, pu_gok, pu_cl, pu_eq, pk_sub, hd, hs, gI_I, gR_I, h1, h21, tt]
end FRAMES
