/-! THE PURE PART, d: the class's reader -/
theorem pu_char {c : Nat} (h : c < 65536) : vp_nar .char (nI c) = nI c := Value.int.inj (pk_charN h).1
def stN (sn : Nat → Nat) : Nat → Nat
  | 0 => 0
  | p + 1 => stN sn p + (if 97 ≤ sn p ∧ sn p ≤ 122 then 1 else 0)
def caI (sn : Nat → Nat) : Nat → Int32
  | 0 => 0
  | p + 1 => caI sn p ||| (if 0 < p ∧ sn (p - 1) = 107 then nI 1 <<< (nI (sn p - 48) &&& nI 31) else 0)
def nsN (sn : Nat → Nat) : Nat → Nat
  | 0 => 0
  | p + 1 => max (nsN sn p) (ks sn (p + 1)).length
def opn (l : List Nat) (j : Nat) : Nat := l.getD (l.length - 1 - j) 0
theorem opn_top (e : Nat) (st : List Nat) : opn (e :: st) st.length = e := by
  unfold opn
  rw [show (e :: st).length - 1 - st.length = 0 by simp]
  rfl
theorem opn_old (e : Nat) (st : List Nat) {j : Nat} (h : j < st.length) : opn (e :: st) j = opn st j := by
  unfold opn
  rw [show (e :: st).length - 1 - j = (st.length - 1 - j) + 1 by simp; omega]
  rfl
theorem stN_le (sn : Nat → Nat) (p : Nat) : stN sn p ≤ p := by
  induction p with
  | zero => exact Nat.le_refl _
  | succ p ih =>
    unfold stN
    split <;> omega
theorem nsN_le {sn : Nat → Nat} {p : Nat} (h : cc sn p ≠ 9) : nsN sn p ≤ 3 ∧ (ks sn p).length ≤ nsN sn p := by
  induction p with
  | zero => exact ⟨Nat.zero_le _, Nat.le_refl _⟩
  | succ p ih =>
    have h1 := (ih (no9 h p (by omega))).1
    have h2 := (au h).2.2.1
    unfold nsN
    omega
/-- what the reader holds behind p signs, without the signs -/
def RDx (g : GM) (a : Nat) (sn : Nat → Nat) (p : Nat) : Prop :=
  gI g a 6 = nI (stN sn p) ∧ gI g a 7 = caI sn p ∧ gI g a 8 = nI (nsN sn p) ∧ gI g a 10 = nI (ks sn p).length ∧ gI g a 11 = nI (cc sn p) ∧ gI g a 12 = nI (lp sn p) ∧ ARR sn p (gI g (a + 2)) (gI g (a + 3)) (gI g (a + 4)) (gI g (a + 5)) ∧ ∀ j, j < (ks sn p).length → gI g (a + 6) j = nI (opn (ks sn p) j)
section READ
variable {K : GK} {g : GM} {a p c : Nat} {sn : Nat → Nat}
def gS (g : GM) (a p w : Nat) : GM := gsI (gsI (gsI (gsI (gsI (gsI (gsI g a 11 (nI w)) a 12 (nI p)) (a + 2) p (nI 1)) (a + 3) p (nI 0)) (a + 4) p (nI (p + 1))) (a + 5) p (nI (p + 1))) a 6 (gI g a 6 + nI 1)
theorem tk_step (hl : isLet c) (hp : p < 80) : f6_takesStep K g a (nI c) (nI p) = some (gS g a p (tcl c), 1) := by
  have E : ∀ w : Nat, f6_takesStep_103 K a (nI c) (nI p) (gsI g a 11 (nI w)) = some (gS g a p w, 1) := by
    intro w
    unfold f6_takesStep_103 gS
    simp (disch := omega) [EV, NUM, pu_lit, pu_gok, pu_cl, gI_I]
  unfold f6_takesStep
  rcases hl with h | h | h | h | h | h <;> subst h <;> simp (disch := omega) [EV, pu_lit, pu_eq, E] <;> rfl
theorem tk_no (hl : ¬ isLet c) (hc : c < 128) : f6_takesStep K g a (nI c) (nI p) = some (g, 0) := by
  unfold isLet at hl
  unfold f6_takesStep
  simp (disch := omega) only [EV, pu_lit, pu_eq]
  rw [if_neg (by omega), if_neg (by omega), if_neg (by omega), if_neg (by omega), if_neg (by omega), if_neg (by omega)]
theorem tk_cnt (hc : c < 128) : f6_isCount (nI c) = some (if 50 ≤ c ∧ c ≤ 57 then 1 else 0) := by
  unfold f6_isCount f6_isCount_16
  simp (disch := omega) only [pu_lit, pu_lt]
  by_cases h1 : c < 50
  · rw [if_pos h1, if_neg (fun z => by omega)]
  · by_cases h2 : 57 < c
    · rw [if_neg h1, if_pos h2, if_neg (fun z => by omega)]
    · rw [if_neg h1, if_neg h2, if_pos ⟨by omega, by omega⟩]
theorem ca_no (h9 : cc sn p ≠ 9) (h5 : cc sn p ≠ 5) : caI sn (p + 1) = caI sn p := by
  show caI sn p ||| _ = _
  rw [if_neg, Int32.or_zero]
  intro ⟨h0, h1⟩
  obtain ⟨q, rfl⟩ : ∃ q, p = q + 1 := ⟨p - 1, by omega⟩
  have h1 : sn q = 107 := h1
  have := (let1 h9 (k := q) (by unfold isLet; omega) (by omega)).1 rfl
  rw [h1] at this
  exact h5 (by unfold cc; rw [this]; rfl)
theorem ca_5 (h9 : cc sn p ≠ 9) (h5 : cc sn p = 5) : caI sn (p + 1) = caI sn p ||| nI 1 <<< (nI (sn p - 48) &&& nI 31) := by
  show caI sn p ||| _ = _
  obtain ⟨-, -, -, -, -, h6, -⟩ := (au h9).2.2.2.1 (by omega)
  obtain ⟨e, e2⟩ := h6 h5
  rw [if_pos ⟨by omega, by rw [show p - 1 = lp sn p by omega]; exact e2⟩]
theorem rd_let (h : RDx g a sn p) (h9 : cc sn (p + 1) ≠ 9) (hc : cc sn p ≤ 2) (hl : isLet (sn p)) (e : tq sn (p + 1) = (tcl (sn p), ks sn p, p)) : RDx (gS g a p (tcl (sn p))) a sn (p + 1) := by
  obtain ⟨h1, h2, h3, h4, h5, h6, h7, h8⟩ := h
  have hp9 := no9 h9 p (by omega)
  have ek : ks sn (p + 1) = ks sn p := by unfold ks; rw [e]
  have ec : cc sn (p + 1) = tcl (sn p) := by unfold cc; rw [e]
  have el : lp sn (p + 1) = p := by unfold lp; rw [e]
  have es : stN sn (p + 1) = stN sn p + 1 := by
    show _ + _ = _
    rw [if_pos (by unfold isLet at hl; omega)]
  have en : nsN sn (p + 1) = nsN sn p := by
    show max _ _ = _
    rw [ek]
    have := (nsN_le hp9).2
    omega
  refine ⟨?_, ?_, ?_, ?_, ?_, ?_, ?_, ?_⟩
  · rw [es, ← nI_add, ← h1]; simp [gS, gI_I]
  · rw [ca_no hp9 (by omega), ← h2]; simp [gS, gI_I]
  · rw [en, ← h3]; simp [gS, gI_I]
  · rw [ek, ← h4]; simp [gS, gI_I]
  · rw [ec]; simp [gS, gI_I]
  · rw [el]; simp [gS, gI_I]
  · refine arr1 h9 h7 hl hc ?_ ?_ ?_ ?_ ?_ ?_ <;> simp +contextual [gS, gI_I]
  · rw [ek]
    intro j hj
    rw [← h8 j hj]
    simp [gS, gI_I]
theorem tk_pick {l : Nat} (hl : gI g a 12 = nI l) (h80 : l < 80) (hc : 48 ≤ c) : f6_takesPickCount K g a (nI c) (nI p) = some (gsI (gsI (gsI g (a + 2) l (nI (c - 48))) (a + 5) l (nI (p + 1))) a 11 (nI 1), 1) := by
  unfold f6_takesPickCount
  simp (disch := omega) [EV, NUM, pu_lit, pu_gok, pu_cl, gI_I, hl, pk_sub]
theorem tk_part {l : Nat} (hl : gI g a 12 = nI l) (h80 : l < 80) (hc : 50 ≤ c) (hc2 : c ≤ 57) : f6_takesPartCount K g a (nI c) = some (gsI (gsI g (a + 2) l (nI (c - 48))) a 11 (nI 6), 1) := by
  unfold f6_takesPartCount
  rw [tk_cnt (by omega), if_pos ⟨hc, hc2⟩]
  simp (disch := omega) [EV, NUM, pu_lit, pu_gok, pu_cl, gI_I, hl, pk_sub, pu_eq]
theorem tk_dig {l : Nat} (hl : gI g a 12 = nI l) (h80 : l < 80) (hc : 48 ≤ c) : f6_takesDigit K g a (nI c) (nI p) = some (gsI (gsI (gsI g (a + 3) l (nI (c - 48))) (a + 5) l (nI (p + 1))) a 11 (nI 1), 1) := by
  unfold f6_takesDigit
  simp (disch := omega) [EV, NUM, pu_lit, pu_gok, pu_cl, gI_I, hl, pk_sub]
def gB (g : GM) (a p l o : Nat) : GM := gsI (gsI (gsI (gsI (gsI g (a + 4) l (nI (p + 1))) (a + 6) o (nI l)) a 10 (nI (o + 1))) a 8 (if gI g a 8 < nI (o + 1) then nI (o + 1) else gI g a 8)) a 11 (nI 0)
theorem tk_brk {l o : Nat} (hl : gI g a 12 = nI l) (ho : gI g a 10 = nI o) (h80 : l < 80) (ho3 : o < 3) : f6_takesBracket K g a (nI 40) (nI p) = some (gB g a p l o, 1) := by
  unfold f6_takesBracket gB
  simp (disch := omega) [EV, NUM, pu_lit, pu_gok, pu_cl, gI_I, hl, ho, pu_lt]
  omega
theorem tk_end {l o : Nat} (ho : gI g a 10 = nI (o + 1)) (ho3 : o < 3) (hl : gI g (a + 6) o = nI l) (h80 : l < 80) : f6_takesEnd K g a (nI p) = some (gsI (gsI (gsI g a 10 (nI o)) (a + 5) l (nI (p + 1))) a 11 (nI 1), 1) := by
  unfold f6_takesEnd
  simp (disch := omega) [EV, NUM, pu_lit, pu_gok, pu_cl, gI_I, hl, ho, pu_lt, pk_sub]
theorem tk_end0 (ho : gI g a 10 = nI 0) : f6_takesEnd K g a (nI p) = some (g, 0) := by
  unfold f6_takesEnd
  simp (disch := omega) [EV, NUM, pu_lit, ho, pu_lt]
/-- the numbers of a sign that is no letter -/
theorem rd_n (h9 : cc sn (p + 1) ≠ 9) (hl : ¬ (97 ≤ sn p ∧ sn p ≤ 122)) (ek : (ks sn (p + 1)).length ≤ (ks sn p).length) : stN sn (p + 1) = stN sn p ∧ nsN sn (p + 1) = nsN sn p := by
  have hp9 := no9 h9 p (by omega)
  constructor
  · show _ + _ = _
    rw [if_neg hl]
    rfl
  · show max _ _ = _
    have := (nsN_le hp9).2
    omega
theorem rd_pick (h : RDx g a sn p) (h9 : cc sn (p + 1) ≠ 9) (hc : cc sn p = 2) (hd : 50 ≤ sn p ∧ sn p ≤ 57) (e : tq sn (p + 1) = (1, ks sn p, lp sn p)) : RDx (gsI (gsI (gsI g (a + 2) (lp sn p) (nI (sn p - 48))) (a + 5) (lp sn p) (nI (p + 1))) a 11 (nI 1)) a sn (p + 1) := by
  obtain ⟨h1, h2, h3, h4, h5, h6, h7, h8⟩ := h
  have hp9 := no9 h9 p (by omega)
  have ek : ks sn (p + 1) = ks sn p := by unfold ks; rw [e]
  have ec : cc sn (p + 1) = 1 := by unfold cc; rw [e]
  have el : lp sn (p + 1) = lp sn p := by unfold lp; rw [e]
  obtain ⟨es, en⟩ := rd_n h9 (by omega) (by rw [ek]; exact Nat.le_refl _)
  obtain ⟨-, -, b2, -, -, -, -⟩ := (au hp9).2.2.2.1 (by omega)
  obtain ⟨b2, b3⟩ := b2 hc
  refine ⟨by rw [es, ← h1]; simp [gI_I], by rw [ca_no hp9 (by omega), ← h2]; simp [gI_I], by rw [en, ← h3]; simp [gI_I], by rw [ek, ← h4]; simp [gI_I], by rw [ec]; simp [gI_I], by rw [el, ← h6]; simp [gI_I], ?_, ?_⟩
  · refine arr3 h9 h7 (by unfold isLet; omega) (by omega) (by omega) ?_ ?_ ?_ ?_ ?_
    · simp +contextual [gI_I]
    · simp +contextual [gI_I]
    · simp +contextual [gI_I]
    · simp +contextual [gI_I]
    · have e1 : cntN sn (p + 1) (lp sn p) = sn p - 48 := by unfold cntN; rw [b2, if_pos ⟨by omega, hd⟩]
      have e2 : wNx sn (p + 1) (lp sn p) = p + 1 := by unfold wNx; rw [b2, if_pos ⟨by omega, hd⟩]; omega
      refine ⟨fun z => by omega, fun _ => ?_, fun z => by omega, fun z => by omega⟩
      rw [e1, e2]
      simp [gI_I]
  · rw [ek]
    intro j hj
    rw [← h8 j hj]
    simp [gI_I]
theorem rd_part (h : RDx g a sn p) (h9 : cc sn (p + 1) ≠ 9) (hc : cc sn p = 3) (hd : 50 ≤ sn p ∧ sn p ≤ 57) (e : tq sn (p + 1) = (6, ks sn p, lp sn p)) : RDx (gsI (gsI g (a + 2) (lp sn p) (nI (sn p - 48))) a 11 (nI 6)) a sn (p + 1) := by
  obtain ⟨h1, h2, h3, h4, h5, h6, h7, h8⟩ := h
  have hp9 := no9 h9 p (by omega)
  have ek : ks sn (p + 1) = ks sn p := by unfold ks; rw [e]
  have ec : cc sn (p + 1) = 6 := by unfold cc; rw [e]
  have el : lp sn (p + 1) = lp sn p := by unfold lp; rw [e]
  obtain ⟨es, en⟩ := rd_n h9 (by omega) (by rw [ek]; exact Nat.le_refl _)
  obtain ⟨-, -, -, b2, -, -, -⟩ := (au hp9).2.2.2.1 (by omega)
  obtain ⟨b2, b3⟩ := b2 hc
  refine ⟨by rw [es, ← h1]; simp [gI_I], by rw [ca_no hp9 (by omega), ← h2]; simp [gI_I], by rw [en, ← h3]; simp [gI_I], by rw [ek, ← h4]; simp [gI_I], by rw [ec]; simp [gI_I], by rw [el, ← h6]; simp [gI_I], ?_, ?_⟩
  · refine arr3 h9 h7 (by unfold isLet; omega) (by omega) (by omega) ?_ ?_ ?_ ?_ ?_
    · simp +contextual [gI_I]
    · simp +contextual [gI_I]
    · simp +contextual [gI_I]
    · simp +contextual [gI_I]
    · refine ⟨fun z => by omega, fun z => by omega, fun _ => ⟨fun _ => ?_, fun z => by omega⟩, fun z => by omega⟩
      rw [b2]
      simp [gI_I]
  · rw [ek]
    intro j hj
    rw [← h8 j hj]
    simp [gI_I]
theorem rd_col (h : RDx g a sn p) (h9 : cc sn (p + 1) ≠ 9) (hc : cc sn p = 4) (hd : 48 ≤ sn p ∧ sn p < 54) (e : tq sn (p + 1) = (1, ks sn p, lp sn p)) : RDx (gsI (gsI (gsI g (a + 3) (lp sn p) (nI (sn p - 48))) (a + 5) (lp sn p) (nI (p + 1))) a 11 (nI 1)) a sn (p + 1) := by
  obtain ⟨h1, h2, h3, h4, h5, h6, h7, h8⟩ := h
  have hp9 := no9 h9 p (by omega)
  have ek : ks sn (p + 1) = ks sn p := by unfold ks; rw [e]
  have ec : cc sn (p + 1) = 1 := by unfold cc; rw [e]
  have el : lp sn (p + 1) = lp sn p := by unfold lp; rw [e]
  obtain ⟨es, en⟩ := rd_n h9 (by omega) (by rw [ek]; exact Nat.le_refl _)
  obtain ⟨-, -, -, -, b2, -, -⟩ := (au hp9).2.2.2.1 (by omega)
  obtain ⟨b2, b3⟩ := b2 hc
  refine ⟨by rw [es, ← h1]; simp [gI_I], by rw [ca_no hp9 (by omega), ← h2]; simp [gI_I], by rw [en, ← h3]; simp [gI_I], by rw [ek, ← h4]; simp [gI_I], by rw [ec]; simp [gI_I], by rw [el, ← h6]; simp [gI_I], ?_, ?_⟩
  · refine arr3 h9 h7 (by unfold isLet; omega) (by omega) (by omega) ?_ ?_ ?_ ?_ ?_
    · simp +contextual [gI_I]
    · simp +contextual [gI_I]
    · simp +contextual [gI_I]
    · simp +contextual [gI_I]
    · refine ⟨fun _ _ => ?_, fun z => by omega, fun z => by omega, fun z => by omega⟩
      rw [b2, show lp sn p + 2 = p + 1 by omega]
      simp [gI_I]
  · rw [ek]
    intro j hj
    rw [← h8 j hj]
    simp [gI_I]
theorem rd_dig (h : RDx g a sn p) (h9 : cc sn (p + 1) ≠ 9) (hc : cc sn p = 5) (hd : 48 ≤ sn p ∧ sn p < 58) (e : tq sn (p + 1) = (1, ks sn p, lp sn p)) : RDx (gsI (gsI (gsI (gsI g a 7 (gI g a 7 ||| nI 1 <<< (nI (sn p - 48) &&& nI 31))) (a + 3) (lp sn p) (nI (sn p - 48))) (a + 5) (lp sn p) (nI (p + 1))) a 11 (nI 1)) a sn (p + 1) := by
  obtain ⟨h1, h2, h3, h4, h5, h6, h7, h8⟩ := h
  have hp9 := no9 h9 p (by omega)
  have ek : ks sn (p + 1) = ks sn p := by unfold ks; rw [e]
  have ec : cc sn (p + 1) = 1 := by unfold cc; rw [e]
  have el : lp sn (p + 1) = lp sn p := by unfold lp; rw [e]
  obtain ⟨es, en⟩ := rd_n h9 (by omega) (by rw [ek]; exact Nat.le_refl _)
  obtain ⟨-, -, -, -, -, b2, -⟩ := (au hp9).2.2.2.1 (by omega)
  obtain ⟨b2, b3⟩ := b2 hc
  refine ⟨by rw [es, ← h1]; simp [gI_I], by rw [ca_5 hp9 hc, ← h2]; simp [gI_I], by rw [en, ← h3]; simp [gI_I], by rw [ek, ← h4]; simp [gI_I], by rw [ec]; simp [gI_I], by rw [el, ← h6]; simp [gI_I], ?_, ?_⟩
  · refine arr3 h9 h7 (by unfold isLet; omega) (by omega) (by omega) ?_ ?_ ?_ ?_ ?_
    · simp +contextual [gI_I]
    · simp +contextual [gI_I]
    · simp +contextual [gI_I]
    · simp +contextual [gI_I]
    · refine ⟨fun _ _ => ?_, fun z => by omega, fun z => by omega, fun z => by omega⟩
      rw [b2, show lp sn p + 2 = p + 1 by omega]
      simp [gI_I]
  · rw [ek]
    intro j hj
    rw [← h8 j hj]
    simp [gI_I]
theorem rd_brk (h : RDx g a sn p) (h9 : cc sn (p + 1) ≠ 9) (hc : cc sn p = 6) (hd : sn p = 40) (e : tq sn (p + 1) = (0, lp sn p :: ks sn p, lp sn p)) : RDx (gB g a p (lp sn p) (ks sn p).length) a sn (p + 1) := by
  obtain ⟨h1, h2, h3, h4, h5, h6, h7, h8⟩ := h
  have hp9 := no9 h9 p (by omega)
  have ek : ks sn (p + 1) = lp sn p :: ks sn p := by unfold ks; rw [e]
  have ec : cc sn (p + 1) = 0 := by unfold cc; rw [e]
  have el : lp sn (p + 1) = lp sn p := by unfold lp; rw [e]
  have es : stN sn (p + 1) = stN sn p := by
    show _ + _ = _
    rw [if_neg (by omega)]
    rfl
  have en : nsN sn (p + 1) = max (nsN sn p) ((ks sn p).length + 1) := by
    show max _ _ = _
    rw [ek]
    rfl
  have hn3 := nsN_le hp9
  obtain ⟨-, -, -, -, -, -, b2⟩ := (au hp9).2.2.2.1 (by omega)
  have b2 := b2 hc
  refine ⟨by rw [es, ← h1]; simp [gB, gI_I], by rw [ca_no hp9 (by omega), ← h2]; simp [gB, gI_I], ?_, by rw [ek]; simp [gB, gI_I], by rw [ec]; simp [gB, gI_I], by rw [el, ← h6]; simp [gB, gI_I], ?_, ?_⟩
  · rw [en]
    have : gI (gB g a p (lp sn p) (ks sn p).length) a 8 = if gI g a 8 < nI ((ks sn p).length + 1) then nI ((ks sn p).length + 1) else gI g a 8 := by simp [gB, gI_I]
    have z := nI_ltI (a := nsN sn p) (b := (ks sn p).length + 1) (by omega) (by omega)
    rw [this, h3]
    by_cases hlt : nsN sn p < (ks sn p).length + 1
    · rw [if_pos (z.mpr hlt)]; congr 1; omega
    · rw [if_neg (fun q => hlt (z.mp q))]; congr 1; omega
  · refine arr3 h9 h7 (by unfold isLet; omega) (by omega) (by omega) ?_ ?_ ?_ ?_ ?_
    · simp +contextual [gB, gI_I]
    · simp +contextual [gB, gI_I]
    · simp +contextual [gB, gI_I]
    · simp +contextual [gB, gI_I]
    · have old : AK sn p (lp sn p) (gI g (a + 2)) (gI g (a + 3)) (gI g (a + 4)) (gI g (a + 5)) := h7.1 _ (by omega)
      refine ⟨fun z => by omega, fun z => by omega, fun z => ⟨fun _ => ?_, fun _ => ?_⟩, fun z => ⟨?_, fun _ => ?_⟩⟩
      · rw [← (old.2.2.1 z).1 (by omega)]
        simp [gB, gI_I]
      · have : p + 1 = lp sn p + 3 := by omega
        rw [← this]
        simp [gB, gI_I]
      · rw [← (old.2.2.2 z).1]
        simp [gB, gI_I]
      · have : p + 1 = lp sn p + 2 := by omega
        rw [← this]
        simp [gB, gI_I]
  · rw [ek]
    intro j hj
    by_cases hj2 : j = (ks sn p).length
    · rw [hj2, opn_top]
      simp [gB, gI_I]
    · have hj3 : j < (ks sn p).length := by simp at hj; omega
      rw [opn_old _ _ hj3, ← h8 j hj3]
      simp [gB, gI_I, hj2]
theorem rd_end (h : RDx g a sn p) (h9 : cc sn (p + 1) ≠ 9) (hc : cc sn p ≤ 2) (hd : sn p = 41) {k : Nat} {st : List Nat} (hk : ks sn p = k :: st) (e : tq sn (p + 1) = (1, st, lp sn p)) : RDx (gsI (gsI (gsI g a 10 (nI st.length)) (a + 5) k (nI (p + 1))) a 11 (nI 1)) a sn (p + 1) := by
  obtain ⟨h1, h2, h3, h4, h5, h6, h7, h8⟩ := h
  have hp9 := no9 h9 p (by omega)
  have ek : ks sn (p + 1) = st := by unfold ks; rw [e]
  have ec : cc sn (p + 1) = 1 := by unfold cc; rw [e]
  have el : lp sn (p + 1) = lp sn p := by unfold lp; rw [e]
  obtain ⟨es, en⟩ := rd_n h9 (by omega) (by rw [ek, hk]; simp)
  refine ⟨by rw [es, ← h1]; simp [gI_I], by rw [ca_no hp9 (by omega), ← h2]; simp [gI_I], by rw [en, ← h3]; simp [gI_I], by rw [ek]; simp [gI_I], by rw [ec]; simp [gI_I], by rw [el, ← h6]; simp [gI_I], ?_, ?_⟩
  · have : ∀ j, gI (gsI (gsI (gsI g a 10 (nI st.length)) (a + 5) k (nI (p + 1))) a 11 (nI 1)) (a + 2) j = gI g (a + 2) j := fun j => by simp [gI_I]
    rw [show gI (gsI (gsI (gsI g a 10 (nI st.length)) (a + 5) k (nI (p + 1))) a 11 (nI 1)) (a + 2) = gI g (a + 2) from funext this]
    have : ∀ j, gI (gsI (gsI (gsI g a 10 (nI st.length)) (a + 5) k (nI (p + 1))) a 11 (nI 1)) (a + 3) j = gI g (a + 3) j := fun j => by simp [gI_I]
    rw [show gI (gsI (gsI (gsI g a 10 (nI st.length)) (a + 5) k (nI (p + 1))) a 11 (nI 1)) (a + 3) = gI g (a + 3) from funext this]
    have : ∀ j, gI (gsI (gsI (gsI g a 10 (nI st.length)) (a + 5) k (nI (p + 1))) a 11 (nI 1)) (a + 4) j = gI g (a + 4) j := fun j => by simp [gI_I]
    rw [show gI (gsI (gsI (gsI g a 10 (nI st.length)) (a + 5) k (nI (p + 1))) a 11 (nI 1)) (a + 4) = gI g (a + 4) from funext this]
    refine arr2 h9 h7 hd hc hk ?_ ?_ <;> simp +contextual [gI_I]
  · rw [ek]
    intro j hj
    rw [← opn_old k st hj, ← hk, ← h8 j (by rw [hk]; simp; omega)]
    simp [gI_I]
theorem tLet_no {c p : Nat} {st : List Nat} (h : ¬ isLet c) : (tLet c p st).1 = 9 := by
  apply Classical.byContradiction
  intro hn
  exact h (tLet_sn hn)
def TK (K : GK) (g : GM) (a : Nat) (sn : Nat → Nat) (p : Nat) : Prop :=
    (cc sn (p + 1) = 9 ∧ f6_takes K g a (nI (sn p)) (nI p) = some (g, 0)) ∨
    (cc sn (p + 1) ≠ 9 ∧ ∃ g', f6_takes K g a (nI (sn p)) (nI p) = some (g', 1) ∧ RDx g' a sn (p + 1) ∧ AG (fun q => q = a ∨ (a + 2 ≤ q ∧ q ≤ a + 6)) g g')
/-- one sign -/
theorem takes (h : RDx g a sn p) (h9 : cc sn p ≠ 9) (hp : p < 80) (hc : sn p < 128) : TK K g a sn p := by
  have h' := h
  obtain ⟨h1, h2, h3, h4, h5, h6, h7, h8⟩ := h'
  have ha := au h9
  have he := tq_s sn p
  have cle : cc sn p ≤ 6 := ha.2.2.2.2.2
  have b0 : gbl 0 = true := rfl
  have b1 : gbl 1 = true := rfl
  have AL : AG (fun q => q = a ∨ (a + 2 ≤ q ∧ q ≤ a + 6)) g (gS g a p (tcl (sn p))) := by
    unfold gS
    refine AG.ai (AG.ai (AG.ai (AG.ai (AG.ai (AG.ai (AG.ai AG.rf ?_) ?_) ?_) ?_) ?_) ?_) ?_ <;> omega
  -- a letter is wanted
  have LET : cc sn p ≤ 2 → tq sn (p + 1) = tLet (sn p) p (ks sn p) → (∀ x, x = f6_takesStep K g a (nI (sn p)) (nI p) → (x.bind (fun r => gd (gbl r.2) (some (r.1, r.2)))) = f6_takes K g a (nI (sn p)) (nI p)) → TK K g a sn p := by
    intro c2 e hx
    have hx := hx _ rfl
    by_cases hl : isLet (sn p)
    · right
      rw [tLet_is hl] at e
      have ec : cc sn (p + 1) = tcl (sn p) := by unfold cc; rw [e]
      have h9' : cc sn (p + 1) ≠ 9 := by rw [ec]; have := tcl_le (sn p); omega
      refine ⟨h9', _, ?_, rd_let h h9' c2 hl e, AL⟩
      rw [← hx, tk_step hl hp]
      rfl
    · left
      refine ⟨by unfold cc; rw [e]; exact tLet_no hl, ?_⟩
      rw [← hx, tk_no hl hc]
      rfl
  -- an end
  have END : cc sn p ≤ 2 → sn p = 41 → tq sn (p + 1) = tEnd (ks sn p) (lp sn p) → (∀ x, x = f6_takesEnd K g a (nI p) → (x.bind (fun r => gd (gbl r.2) (some (r.1, r.2)))) = f6_takes K g a (nI (sn p)) (nI p)) → TK K g a sn p := by
    intro c2 h41 e hx
    have hx := hx _ rfl
    cases hk : ks sn p with
    | nil =>
      left
      rw [hk] at e h4
      refine ⟨by unfold cc; rw [e]; rfl, ?_⟩
      rw [← hx, tk_end0 h4]
      rfl
    | cons k st =>
      right
      rw [hk] at e
      have e : tq sn (p + 1) = (1, st, lp sn p) := e
      have ec : cc sn (p + 1) = 1 := by unfold cc; rw [e]
      have h9' : cc sn (p + 1) ≠ 9 := by omega
      have l3 := ha.2.2.1
      have m3 := ha.1 k (by rw [hk]; exact List.mem_cons_self)
      rw [hk] at l3
      simp at l3
      refine ⟨h9', _, ?_, rd_end h h9' c2 h41 hk e, ?_⟩
      · have := h8 st.length (by rw [hk]; simp)
        rw [hk, opn_top] at this
        rw [← hx, tk_end (o := st.length) (l := k) (by rw [h4, hk]; rfl) (by omega) this (by omega)]
        rfl
      · refine AG.ai (AG.ai (AG.ai AG.rf ?_) ?_) ?_ <;> omega
  unfold tstep at he
  rcases (by omega : cc sn p = 0 ∨ cc sn p = 1 ∨ cc sn p = 2 ∨ cc sn p = 3 ∨ cc sn p = 4 ∨ cc sn p = 5 ∨ cc sn p = 6) with c | c | c | c | c | c | c
  · have c' : (tq sn p).1 = 0 := c
    rw [if_pos c'] at he
    refine LET (by omega) he (fun x hx => ?_)
    rw [hx]
    unfold f6_takes
    rw [h5, c]
    rfl
  · have c' : (tq sn p).1 = 1 := c
    rw [if_neg (by omega), if_pos c'] at he
    by_cases h41 : sn p = 41
    · rw [if_pos h41] at he
      refine END (by omega) h41 he (fun x hx => ?_)
      rw [hx]
      unfold f6_takes
      rw [h5, c, h41]
      simp (disch := omega) [EV, pu_lit, pu_eq]
    · rw [if_neg h41] at he
      refine LET (by omega) he (fun x hx => ?_)
      rw [hx]
      unfold f6_takes
      rw [h5, c]
      simp (disch := omega) [EV, pu_lit, pu_eq, h41]
  · have c' : (tq sn p).1 = 2 := c
    rw [if_neg (by omega), if_neg (by omega), if_pos c'] at he
    by_cases hd : 50 ≤ sn p ∧ sn p ≤ 57
    · rw [if_pos hd] at he
      right
      have e : tq sn (p + 1) = (1, ks sn p, lp sn p) := he
      have ec : cc sn (p + 1) = 1 := by unfold cc; rw [e]
      have h9' : cc sn (p + 1) ≠ 9 := by omega
      have hl := (ha.2.2.2.1 (by omega)).1
      refine ⟨h9', _, ?_, rd_pick h h9' c hd e, ?_⟩
      · unfold f6_takes
        rw [h5, c, tk_cnt hc, if_pos hd, tk_pick h6 (by omega) (by omega)]
        simp (disch := omega) [EV, pu_lit, pu_eq]
        rfl
      · refine AG.ai (AG.ai (AG.ai AG.rf ?_) ?_) ?_ <;> omega
    · rw [if_neg hd] at he
      by_cases h41 : sn p = 41
      · rw [if_pos h41] at he
        refine END (by omega) h41 he (fun x hx => ?_)
        rw [hx]
        unfold f6_takes
        rw [h5, c, tk_cnt hc, if_neg hd, h41]
        simp (disch := omega) [EV, pu_lit, pu_eq]
      · rw [if_neg h41] at he
        refine LET (by omega) he (fun x hx => ?_)
        rw [hx]
        unfold f6_takes
        rw [h5, c, tk_cnt hc, if_neg hd]
        simp (disch := omega) [EV, pu_lit, pu_eq, h41]
  · have c' : (tq sn p).1 = 3 := c
    rw [if_neg (by omega), if_neg (by omega), if_neg (by omega), if_pos c'] at he
    by_cases hd : 50 ≤ sn p ∧ sn p ≤ 57
    · rw [if_pos hd] at he
      right
      have e : tq sn (p + 1) = (6, ks sn p, lp sn p) := he
      have ec : cc sn (p + 1) = 6 := by unfold cc; rw [e]
      have h9' : cc sn (p + 1) ≠ 9 := by omega
      have hl := (ha.2.2.2.1 (by omega)).1
      refine ⟨h9', _, ?_, rd_part h h9' c hd e, ?_⟩
      · unfold f6_takes
        rw [h5, c, tk_part h6 (by omega) hd.1 hd.2]
        simp (disch := omega) [EV, pu_lit, pu_eq]
        rfl
      · refine AG.ai (AG.ai AG.rf ?_) ?_ <;> omega
    · rw [if_neg hd] at he
      left
      refine ⟨by unfold cc; rw [he], ?_⟩
      unfold f6_takes f6_takesPartCount
      rw [h5, c, tk_cnt hc, if_neg hd]
      simp (disch := omega) [EV, pu_lit, pu_eq]
      rfl
  · have c' : (tq sn p).1 = 4 := c
    rw [if_neg (by omega), if_neg (by omega), if_neg (by omega), if_neg (by omega), if_pos c'] at he
    by_cases hd : 48 ≤ sn p ∧ sn p < 54
    · rw [if_pos hd] at he
      right
      have e : tq sn (p + 1) = (1, ks sn p, lp sn p) := he
      have ec : cc sn (p + 1) = 1 := by unfold cc; rw [e]
      have h9' : cc sn (p + 1) ≠ 9 := by omega
      have hl := (ha.2.2.2.1 (by omega)).1
      refine ⟨h9', _, ?_, rd_col h h9' c hd e, ?_⟩
      · unfold f6_takes
        rw [h5, c, tk_dig h6 (by omega) hd.1]
        have n1 : ¬ sn p < 48 := by omega
        have n2 : ¬ 54 ≤ sn p := by omega
        simp (disch := omega) [EV, pu_lit, pu_eq, pu_lt, pu_le, n1, n2]
      · refine AG.ai (AG.ai (AG.ai AG.rf ?_) ?_) ?_ <;> omega
    · rw [if_neg hd] at he
      left
      refine ⟨by unfold cc; rw [he], ?_⟩
      unfold f6_takes f6_takes_138
      rw [h5, c]
      by_cases n1 : sn p < 48
      · simp (disch := omega) [EV, pu_lit, pu_eq, pu_lt, pu_le, n1]
      · have n2 : 54 ≤ sn p := by omega
        simp (disch := omega) [EV, pu_lit, pu_eq, pu_lt, pu_le, n1, n2]
  · have c' : (tq sn p).1 = 5 := c
    rw [if_neg (by omega), if_neg (by omega), if_neg (by omega), if_neg (by omega), if_neg (by omega), if_pos c'] at he
    by_cases hd : 48 ≤ sn p ∧ sn p < 58
    · rw [if_pos hd] at he
      right
      have e : tq sn (p + 1) = (1, ks sn p, lp sn p) := he
      have ec : cc sn (p + 1) = 1 := by unfold cc; rw [e]
      have h9' : cc sn (p + 1) ≠ 9 := by omega
      have hl := (ha.2.2.2.1 (by omega)).1
      refine ⟨h9', _, ?_, rd_dig h h9' c hd e, ?_⟩
      · have n1 : ¬ sn p < 48 := by omega
        have n2 : sn p < 58 := by omega
        have E := tk_dig (K := K) (g := gsI g a 7 (gI g a 7 ||| nI 1 <<< (nI (sn p - 48) &&& nI 31))) (a := a) (p := p) (c := sn p) (l := lp sn p) (by rw [← h6]; simp [gI_I]) (by omega) hd.1
        unfold f6_takes
        rw [h5, c]
        simp (disch := omega) [EV, pu_lit, pu_eq, pu_lt, pu_le, n1, n2, pk_sub, E]
        rfl
      · refine AG.ai (AG.ai (AG.ai (AG.ai AG.rf ?_) ?_) ?_) ?_ <;> omega
    · rw [if_neg hd] at he
      left
      refine ⟨by unfold cc; rw [he], ?_⟩
      unfold f6_takes
      rw [h5, c]
      by_cases n1 : sn p < 48
      · simp (disch := omega) [EV, pu_lit, pu_eq, pu_lt, pu_le, n1]
      · have n2 : ¬ sn p < 58 := by omega
        simp (disch := omega) [EV, pu_lit, pu_eq, pu_lt, pu_le, n1, n2]
  · have c' : (tq sn p).1 = 6 := c
    rw [if_neg (by omega), if_neg (by omega), if_neg (by omega), if_neg (by omega), if_neg (by omega), if_neg (by omega), if_pos c'] at he
    by_cases hd : sn p = 40 ∧ (ks sn p).length < 3
    · rw [if_pos hd] at he
      right
      have e : tq sn (p + 1) = (0, lp sn p :: ks sn p, lp sn p) := he
      have ec : cc sn (p + 1) = 0 := by unfold cc; rw [e]
      have h9' : cc sn (p + 1) ≠ 9 := by omega
      have hl := (ha.2.2.2.1 (by omega)).1
      refine ⟨h9', _, ?_, rd_brk h h9' c hd.1 e, ?_⟩
      · unfold f6_takes
        rw [h5, c, hd.1, tk_brk h6 h4 (by omega) hd.2]
        simp (disch := omega) [EV, pu_lit, pu_eq]
        rfl
      · unfold gB
        refine AG.ai (AG.ai (AG.ai (AG.ai (AG.ai AG.rf ?_) ?_) ?_) ?_) ?_ <;> omega
    · rw [if_neg hd] at he
      left
      refine ⟨by unfold cc; rw [he], ?_⟩
      unfold f6_takes f6_takesBracket
      rw [h5, c, h4]
      have l3 := ha.2.2.1
      by_cases h40 : sn p = 40
      · have n2 : ¬ (ks sn p).length < 3 := fun z => hd ⟨h40, z⟩
        simp (disch := omega) [EV, pu_lit, pu_eq, pu_lt, h40, n2]
        rfl
      · simp (disch := omega) [EV, pu_lit, pu_eq, h40]
        rfl
end READ
