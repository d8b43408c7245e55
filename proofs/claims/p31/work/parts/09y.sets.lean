/-! THE PURE PART, y: sets of cards -/
section SETS
variable {K : GK} {g g' : GM} {S S' : GS} {B a b h c d L k n : Nat} {s s' : Nat → Int32} {sn : Nat → Nat}
theorem pu_or (x y : Nat) : nI x ||| nI y = nI (x ||| y) := by
  apply Int32.toBitVec_inj.mp
  show BitVec.ofNat 32 x ||| BitVec.ofNat 32 y = BitVec.ofNat 32 (x ||| y)
  rw [BitVec.ofNat_or]
theorem pu_and (x y : Nat) : nI x &&& nI y = nI (x &&& y) := by
  apply Int32.toBitVec_inj.mp
  show BitVec.ofNat 32 x &&& BitVec.ofNat 32 y = BitVec.ofNat 32 (x &&& y)
  rw [BitVec.ofNat_and]
theorem pu_sh {j : Nat} (h : j < 10) : nI 1 <<< (nI j &&& nI 31) = nI (2 ^ j) ∧ nI 0 <<< (nI j &&& nI 31) = nI 0 := by
  rcases (by omega : j = 0 ∨ j = 1 ∨ j = 2 ∨ j = 3 ∨ j = 4 ∨ j = 5 ∨ j = 6 ∨ j = 7 ∨ j = 8 ∨ j = 9) with h | h | h | h | h | h | h | h | h | h <;> subst h <;> exact ⟨by decide, by decide⟩
theorem pu_bit {m j : Nat} (hm : m < 1024) (h : j < 10) : (nI m >>> (nI j &&& nI 31)) &&& nI 1 = nI (if m.testBit j then 1 else 0) := by
  have hs : ((nI j &&& nI 31).toBitVec.smod 32).toNat = j := by
    rcases (by omega : j = 0 ∨ j = 1 ∨ j = 2 ∨ j = 3 ∨ j = 4 ∨ j = 5 ∨ j = 6 ∨ j = 7 ∨ j = 8 ∨ j = 9) with h | h | h | h | h | h | h | h | h | h <;> subst h <;> decide
  rw [pk_shrN (by omega) _ j hs, pu_and, Nat.and_one_is_mod, Nat.testBit_eq_decide_div_mod_eq]
  by_cases hb : m / 2 ^ j % 2 = 1
  · rw [hb]
    rfl
  · have : m / 2 ^ j % 2 = 0 := by omega
    rw [this]
    rfl
theorem pu_holds {m j : Nat} (hm : m < 1024) (h : j < 10) : f2_holds (nI m) (nI j) = some (nI (if m.testBit j then 1 else 0)) := by
  have z01f : (nI 0 = nI 1) = False := eq_false (by decide)
  unfold f2_holds
  simp only [pu_lit, pu_bit hm h]
  cases m.testBit j with
  | true => simp only [if_true]
  | false => simp only [Bool.false_eq_true, if_false, z01f]
theorem or_lt {x y : Nat} (hx : x < 1024) (hy : y < 1024) : x ||| y < 1024 := Nat.or_lt_two_pow (n := 10) hx hy
theorem pow_lt {j : Nat} (h : j < 10) : 2 ^ j < 1024 := Nat.pow_lt_pow_right (a := 2) (by decide) h
/-- the calls of a text, a natural -/
def caN (sn : Nat → Nat) : Nat → Nat
  | 0 => 0
  | p + 1 => caN sn p ||| (if 0 < p ∧ sn (p - 1) = 107 then 2 ^ (sn p - 48) else 0)
theorem ca_dig {p : Nat} (h9 : cc sn (p + 1) ≠ 9) (h : 0 < p ∧ sn (p - 1) = 107) : 48 ≤ sn p ∧ sn p < 58 := by
  obtain ⟨q, rfl⟩ : ∃ q, p = q + 1 := ⟨p - 1, by omega⟩
  have h1 : sn q = 107 := h.2
  have := (let1 (no9 h9 (q + 1) (by omega)) (k := q) (by unfold isLet; omega) (by omega)).1 rfl
  rw [h1] at this
  have hc : cc sn (q + 1) = 5 := by unfold cc; rw [this]; rfl
  rcases tcase h9 with z | z | z | z | z | z | z <;> omega
theorem caN_eq {p : Nat} (h9 : cc sn p ≠ 9) : caI sn p = nI (caN sn p) ∧ caN sn p < 1024 := by
  induction p with
  | zero => exact ⟨rfl, by show 0 < 1024; omega⟩
  | succ p ih =>
    obtain ⟨i1, i2⟩ := ih (no9 h9 p (by omega))
    show caI sn p ||| _ = nI (caN sn p ||| _) ∧ caN sn p ||| _ < 1024
    by_cases hz : 0 < p ∧ sn (p - 1) = 107
    · have hd := ca_dig h9 hz
      rw [if_pos hz, if_pos hz, i1, (pu_sh (j := sn p - 48) (by omega)).1, pu_or]
      exact ⟨rfl, or_lt i2 (pow_lt (by omega))⟩
    · rw [if_neg hz, if_neg hz, i1, Int32.or_zero, Nat.or_zero]
      exact ⟨rfl, i2⟩
/-- the reference's calls -/
theorem re_calls (hk : k < 10) (hv : VT sn n) (h43 : s (43 + k) = nI n) (hs : ∀ x, x < n → s (53 + 80 * k + x) = nI (sn x)) : f8_calls (rw1 S s) (nI k) = some (nI (caN sn n)) := by
  have h80 := hv.1
  have hc := hv.2.2.2
  have LST : caN sn (n + 1) = caN sn n := by
    show caN sn n ||| _ = _
    rw [if_neg, Nat.or_zero]
    intro ⟨h0, h1⟩
    obtain ⟨q, rfl⟩ : ∃ q, n = q + 1 := ⟨n - 1, by omega⟩
    have h1 : sn q = 107 := h1
    have := (let1 (hv.ne (Nat.le_refl _)) (k := q) (by unfold isLet; omega) (by omega)).1 rfl
    rw [h1] at this
    have hc : cc sn (q + 1) = 5 := by unfold cc; rw [this]; rfl
    have := hv.2.1
    omega
  have L : ∀ w x f, x + w = n → f8_calls_4 (rw1 S s) (nI k) (w + (f + 1)) (nI (caN sn (x + 1))) (nI x) = some (nI (caN sn n)) := by
    intro w
    induction w with
    | zero =>
      intro x f hw
      have : x = n := by omega
      subst this
      rw [Nat.zero_add, f8_calls_4, LST]
      simp (disch := omega) only [EV, NUM, pu_lit, pu_gok, pu_cl, rw1_1, h43, pu_le]
      simp
    | succ w ih =>
      intro x f hw
      have hx : ¬ n ≤ x := by omega
      have hsx := hs x (by omega)
      have hcx := hc x (by omega)
      have IH := ih (x + 1) f (by omega)
      have e : caN sn (x + 2) = caN sn (x + 1) ||| (if 0 < x + 1 ∧ sn x = 107 then 2 ^ (sn (x + 1) - 48) else 0) := rfl
      rw [show x + 1 + 1 = x + 2 from rfl, e] at IH
      rw [show w + 1 + (f + 1) = (w + (f + 1)) + 1 by omega, f8_calls_4]
      unfold f8_textAt f8_calls_46
      simp (disch := omega) only [EV, NUM, pu_lit, pu_gok, pu_cl, rw1_1, h43, pu_le, hx, if_false, hsx, pu_eq]
      by_cases c1 : sn x = 107
      · have hx1 : x + 1 < n := by
          apply Classical.byContradiction
          intro z
          have hxn : x + 1 = n := by omega
          have := (let1 (hv.ne (Nat.le_refl _)) (k := x) (by unfold isLet; omega) (by omega)).1 hxn
          rw [c1] at this
          have hc : cc sn n = 5 := by unfold cc; rw [this]; rfl
          have := hv.2.1
          omega
        have hd := ca_dig (p := x + 1) (hv.ne (p := x + 2) (by omega)) ⟨by omega, c1⟩
        have hsx1 := hs (x + 1) hx1
        rw [if_pos ⟨by omega, c1⟩] at IH
        simp (disch := omega) only [c1, if_true, NUM, EV, pu_gok, pu_cl, pk_sub]
        rw [show 53 + 80 * k + (x + 1) = 53 + 80 * k + (x + 1) from rfl, hsx1, pk_sub (by omega), (pu_sh (j := sn (x + 1) - 48) (by omega)).1, pu_or]
        exact IH
      · rw [if_neg (fun z => c1 z.2), Nat.or_zero] at IH
        simp only [c1, if_false, pu_or, Nat.or_zero]
        exact IH
  have e1 : caN sn (0 + 1) = 0 := by
    show 0 ||| (if 0 < 0 ∧ sn (0 - 1) = 107 then 2 ^ (sn 0 - 48) else 0) = 0
    rw [if_neg (fun z => absurd z.1 (by omega))]
    rfl
  have := L n 0 (FU - n - 1) (by omega)
  rw [show n + (FU - n - 1 + 1) = FU by unfold FU; omega, e1] at this
  unfold f8_calls
  simp only [pu_lit]
  exact this
/-- what the loom's texts tell -/
def CC (g : GM) (a k : Nat) : Nat := match gR g (a + 1) k with
  | none => 0
  | some t => (gI g t 2).toNatClampNeg
def HH (g : GM) (a k : Nat) : Bool := (gR g (a + 1) k).isSome
theorem cs_of (hB : LRB K g a s c) (hk : k < 10) (h13 : K.1 (a + 1) = (13, 10)) : CC g a k < 1024 ∧ f2_calledBy K g (a + 1) (nI k) = some (nI (CC g a k)) ∧ f8_calls (rw1 S s) (nI k) = some (nI (CC g a k)) ∧ f8_hasText (rw1 S s) (nI k) = some (nI (if HH g a k then 1 else 0)) ∧ (HH g a k = false → CC g a k = 0) := by
  have e13 : gkn K (a + 1) = 10 := by unfold gkn; rw [h13]
  unfold CC HH f2_calledBy f8_hasText
  rw [h13, e13]
  rcases hB.2.2.2.2 k hk with ⟨t1, t2⟩ | ⟨t, n, sn, t1, t2, t3, t4⟩
  · rw [t1]
    refine ⟨by show 0 < 1024; omega, ?_, ?_, ?_, fun _ => rfl⟩
    · simp (disch := omega) only [EV, decide_true, pu_gok, pu_cl, t1, pu_lit]
    · unfold f8_calls
      rw [show FU = (FU - 1) + 1 by unfold FU; omega, f8_calls_4]
      simp (disch := omega) only [EV, NUM, pu_lit, pu_gok, pu_cl, rw1_1, t2, pu_le]
      simp
    · simp (disch := omega) only [EV, NUM, pu_lit, pu_gok, pu_cl, rw1_1, t2, pu_le]
      simp
  · obtain ⟨e1, e2⟩ := caN_eq (t2.2.2.2.1.ne (Nat.le_refl _))
    have ec : gI g t 2 = nI (caN sn n) := t2.2.2.2.2.2.2.2.1.trans e1
    have np := (vt_pos t2.2.2.2.1).1
    have n80 := t2.2.2.2.1.1
    rw [t1]
    dsimp only
    rw [ec, pu_cl (by omega)]
    refine ⟨e2, ?_, re_calls hk t2.2.2.2.1 t3 t4, ?_, fun z => by cases z⟩
    · simp (disch := omega) only [EV, decide_true, pu_gok, pu_cl, t1, t2.1, ec]
    · have : ¬ n ≤ 0 := by omega
      simp (disch := omega) only [EV, NUM, pu_lit, pu_gok, pu_cl, rw1_1, t3, pu_le, this, if_false]
      rfl
/-! the loom as a graph; G: the class's and the reference's views -/
def GV (K : GK) (g : GM) (a : Nat) (S : GS) (C : Nat → Nat) (H : Nat → Bool) : Prop := ∀ k, k < 10 → C k < 1024 ∧ f2_calledBy K g (a + 1) (nI k) = some (nI (C k)) ∧ f8_calls S (nI k) = some (nI (C k)) ∧ f8_hasText S (nI k) = some (nI (if H k then 1 else 0)) ∧ (H k = false → C k = 0) ∧ (H k = true ↔ ∃ t, gR g (a + 1) k = some t)
theorem gv_of (hB : LRB K g a (S 1) c) (h13 : K.1 (a + 1) = (13, 10)) : GV K g a S (CC g a) (HH g a) := fun k hk => by
  obtain ⟨h1, h2, h3, h4, h5⟩ := cs_of (S := S) hB hk h13
  rw [rw1_self] at h3 h4
  refine ⟨h1, h2, h3, h4, h5, ?_⟩
  unfold HH
  rw [Option.isSome_iff_exists]
/-- the callers, by bits -/
def clN (C : Nat → Nat) (k : Nat) : Nat → Nat
  | 0 => 0
  | x + 1 => clN C k x ||| (if (C x).testBit k then 2 ^ x else 0)
theorem clN_lt (C : Nat → Nat) (k : Nat) : ∀ x, x ≤ 10 → clN C k x < 1024 := by
  intro x
  induction x with
  | zero => intro _; show 0 < 1024; omega
  | succ x ih =>
    intro hx
    refine or_lt (ih (by omega)) ?_
    split
    · exact pow_lt (by omega)
    · omega
theorem callers_eq {C : Nat → Nat} {H : Nat → Bool} (hG : GV K g a S C H) (hk : k < 10) : f2_callersOf K g (a + 1) (nI k) = some (nI (clN C k 10)) ∧ f8_callers S (nI k) = some (nI (clN C k 10)) := by
  have L : ∀ w x f, x + w = 10 → f2_callersOf_4 K g (a + 1) (nI k) (w + (f + 1)) (nI (clN C k x)) (nI x) = some (nI (clN C k 10)) ∧ f8_callers_4 S (nI k) (w + (f + 1)) (nI (clN C k x)) (nI x) = some (nI (clN C k 10)) := by
    intro w
    induction w with
    | zero =>
      intro x f hw
      have : x = 10 := by omega
      subst this
      rw [Nat.zero_add, f2_callersOf_4, f8_callers_4]
      exact ⟨rfl, rfl⟩
    | succ w ih =>
      intro x f hw
      have hx : ¬ 10 ≤ x := by omega
      obtain ⟨c1, c2, c3, -⟩ := hG x (by omega)
      obtain ⟨i1, i2⟩ := ih (x + 1) f (by omega)
      have e : clN C k (x + 1) = clN C k x ||| (if (C x).testBit k then 2 ^ x else 0) := rfl
      rw [e] at i1 i2
      rw [show w + 1 + (f + 1) = (w + (f + 1)) + 1 by omega, f2_callersOf_4, f8_callers_4]
      unfold f2_callersOf_28
      have hh := pu_holds c1 hk
      have hb := pu_bit c1 hk
      simp (disch := omega) only [EV, NUM, pu_lit, pu_le, hx, if_false, c2, c3, hh, hb]
      cases hz : (C x).testBit k with
      | true =>
        rw [hz] at i1 i2
        simp only [if_true] at i1 i2
        simp only [if_true, z10f, if_false]
        rw [(pu_sh (j := x) (by omega)).1, pu_or]
        exact ⟨i1, i2⟩
      | false =>
        rw [hz] at i1 i2
        simp only [Bool.false_eq_true, if_false, Nat.or_zero] at i1 i2
        simp only [Bool.false_eq_true, if_false, if_true]
        rw [(pu_sh (j := x) (by omega)).2, pu_or, Nat.or_zero]
        exact ⟨i1, i2⟩
  obtain ⟨l1, l2⟩ := L 10 0 (FU - 11) rfl
  rw [show 10 + (FU - 11 + 1) = FU by unfold FU; omega] at l1 l2
  exact ⟨l1, l2⟩
/-- the cards with texts -/
def wrN (H : Nat → Bool) : Nat → Nat
  | 0 => 0
  | x + 1 => wrN H x ||| (if H x then 2 ^ x else 0)
theorem wrN_lt (H : Nat → Bool) : ∀ x, x ≤ 10 → wrN H x < 1024 := by
  intro x
  induction x with
  | zero => intro _; show 0 < 1024; omega
  | succ x ih =>
    intro hx
    refine or_lt (ih (by omega)) ?_
    split
    · exact pow_lt (by omega)
    · omega
theorem wrN_bit (H : Nat → Bool) (j : Nat) : ∀ x, (wrN H x).testBit j = (decide (j < x) && H j) := by
  intro x
  induction x with
  | zero => show (0 : Nat).testBit j = _; simp
  | succ x ih =>
    show (wrN H x ||| _).testBit j = _
    rw [Nat.testBit_or, ih]
    by_cases hj : j = x
    · subst hj
      cases hH : H j <;> simp [Nat.testBit_two_pow]
    · have e : decide (j < x + 1) = decide (j < x) := by simp; omega
      rw [e]
      cases hH : H x
      · simp
      · simp [Nat.testBit_two_pow, Ne.symm hj]
theorem written_eq {C : Nat → Nat} {H : Nat → Bool} (hG : GV K g a S C H) (h13 : K.1 (a + 1) = (13, 10)) : f2_written K g (a + 1) = some (nI (wrN H 10)) ∧ f8_withTexts S = some (nI (wrN H 10)) := by
  have e13 : gkn K (a + 1) = 10 := by unfold gkn; rw [h13]
  have L : ∀ w x f, x + w = 10 → f2_written_4 K g (a + 1) (w + (f + 1)) (nI (wrN H x)) (nI x) = some (nI (wrN H 10)) ∧ f8_withTexts_4 S (w + (f + 1)) (nI (wrN H x)) (nI x) = some (nI (wrN H 10)) := by
    intro w
    induction w with
    | zero =>
      intro x f hw
      have : x = 10 := by omega
      subst this
      rw [Nat.zero_add, f2_written_4, f8_withTexts_4]
      exact ⟨rfl, rfl⟩
    | succ w ih =>
      intro x f hw
      have hx : ¬ 10 ≤ x := by omega
      obtain ⟨c1, c2, c3, c4, c5, c6⟩ := hG x (by omega)
      obtain ⟨i1, i2⟩ := ih (x + 1) f (by omega)
      have e : wrN H (x + 1) = wrN H x ||| (if H x then 2 ^ x else 0) := rfl
      rw [e] at i1 i2
      rw [show w + 1 + (f + 1) = (w + (f + 1)) + 1 by omega, f2_written_4, f8_withTexts_4]
      unfold f2_written_22 f8_withTexts_26
      simp (disch := omega) only [EV, NUM, pu_lit, pu_le, hx, if_false, h13, e13, decide_true, pu_gok, pu_cl, c4]
      cases hz : H x with
      | true =>
        obtain ⟨t, ht⟩ := c6.mp hz
        rw [hz] at i1 i2
        simp only [if_true] at i1 i2
        simp only [ht, EV, if_true, z10f, if_false]
        rw [(pu_sh (j := x) (by omega)).1, pu_or]
        exact ⟨i1, i2⟩
      | false =>
        have ht : gR g (a + 1) x = none := by
          cases hq : gR g (a + 1) x with
          | none => rfl
          | some t => have := c6.mpr ⟨t, hq⟩; rw [hz] at this; cases this
        rw [hz] at i1 i2
        simp only [Bool.false_eq_true, if_false, Nat.or_zero] at i1 i2
        simp only [ht, EV, Bool.false_eq_true, if_false, if_true]
        rw [pu_or, Nat.or_zero]
        exact ⟨i1, i2⟩
  obtain ⟨l1, l2⟩ := L 10 0 (FU - 11) rfl
  rw [show 10 + (FU - 11 + 1) = FU by unfold FU; omega] at l1 l2
  exact ⟨l1, l2⟩
/-! what is reached -/
def rst (C : Nat → Nat) (m j : Nat) : Nat := if m.testBit j then m ||| C j else m
def rrow (C : Nat → Nat) : Nat → Nat → Nat → Nat
  | 0, _, m => m
  | w + 1, x, m => rrow C w (x + 1) (rst C m x)
def rrnd (C : Nat → Nat) : Nat → Nat → Nat
  | 0, m => m
  | r + 1, m => rrnd C r (rrow C 10 0 m)
def rch (C : Nat → Nat) (k : Nat) : Nat := rrnd C 10 (C k)
section RCH
variable {C : Nat → Nat} {H : Nat → Bool}
theorem rst_lt (hC : ∀ k, k < 10 → C k < 1024) {m j : Nat} (hm : m < 1024) (hj : j < 10) : rst C m j < 1024 := by
  unfold rst
  split
  · exact or_lt hm (hC j hj)
  · exact hm
theorem rrow_lt (hC : ∀ k, k < 10 → C k < 1024) : ∀ w x m, x + w ≤ 10 → m < 1024 → rrow C w x m < 1024 := by
  intro w
  induction w with
  | zero => intro x m _ hm; exact hm
  | succ w ih => intro x m hx hm; exact ih (x + 1) _ (by omega) (rst_lt hC hm (by omega))
theorem rrnd_lt (hC : ∀ k, k < 10 → C k < 1024) : ∀ r m, m < 1024 → rrnd C r m < 1024 := by
  intro r
  induction r with
  | zero => intro m hm; exact hm
  | succ r ih => intro m hm; exact ih _ (rrow_lt hC 10 0 m (by omega) hm)
theorem rch_lt (hC : ∀ k, k < 10 → C k < 1024) (hk : k < 10) : rch C k < 1024 := rrnd_lt hC 10 _ (hC k hk)
theorem reach_eq (hG : GV K g a S C H) (hk : k < 10) : f2_reachedFrom K g (a + 1) (nI k) = some (nI (rch C k)) ∧ f8_reached S (nI k) = some (nI (rch C k)) := by
  have hC : ∀ k, k < 10 → C k < 1024 := fun k hk => (hG k hk).1
  have I : ∀ w x m r f k1 k2, x + w = 10 → m < 1024 → f2_reachedFrom_17 k1 K g (a + 1) (nI k) (w + (f + 1)) (nI m) (nI r) (nI x) = k1 (nI (rrow C w x m)) (nI (r + 1)) ∧ f8_reached_17 k2 S (nI k) (w + (f + 1)) (nI m) (nI r) (nI x) = k2 (nI (rrow C w x m)) (nI (r + 1)) := by
    intro w
    induction w with
    | zero =>
      intro x m r f k1 k2 hw hm
      have : x = 10 := by omega
      subst this
      rw [Nat.zero_add, f2_reachedFrom_17, f8_reached_17]
      simp (disch := omega) only [EV, NUM, pu_lit, pu_le]
      simp [rrow]
    | succ w ih =>
      intro x m r f k1 k2 hw hm
      have hx : ¬ 10 ≤ x := by omega
      obtain ⟨c1, c2, c3, -⟩ := hG x (by omega)
      have hh := pu_holds hm (j := x) (by omega)
      have hb := pu_bit hm (j := x) (by omega)
      obtain ⟨i1, i2⟩ := ih (x + 1) (rst C m x) r f k1 k2 (by omega) (rst_lt hC hm (by omega))
      rw [show rrow C (w + 1) x m = rrow C w (x + 1) (rst C m x) from rfl, ← i1, ← i2]
      rw [show w + 1 + (f + 1) = (w + (f + 1)) + 1 by omega, f2_reachedFrom_17, f8_reached_17]
      unfold f2_reachedFrom_42 f8_reached_45 rst
      simp (disch := omega) only [EV, NUM, pu_lit, pu_le, hx, if_false, hh, hb]
      cases hz : m.testBit x with
      | true =>
        simp only [if_true, z10f, if_false, c2, c3, EV, pu_or]
        exact ⟨trivial, trivial⟩
      | false =>
        simp only [Bool.false_eq_true, if_false, if_true, pu_or, Nat.or_zero]
        rw [if_neg (show ¬ nI 0 = nI 1 by decide)]
        exact ⟨trivial, rfl⟩
  have O : ∀ w r m f, r + w = 10 → m < 1024 → f2_reachedFrom_8 K g (a + 1) (nI k) (w + (f + 1)) (nI m) (nI r) = some (nI (rrnd C w m)) ∧ f8_reached_8 S (nI k) (w + (f + 1)) (nI m) (nI r) = some (nI (rrnd C w m)) := by
    intro w
    induction w with
    | zero =>
      intro r m f hw hm
      have : r = 10 := by omega
      subst this
      rw [Nat.zero_add, f2_reachedFrom_8, f8_reached_8]
      exact ⟨rfl, rfl⟩
    | succ w ih =>
      intro r m f hw hm
      have hx : ¬ 10 ≤ r := by omega
      obtain ⟨i1, i2⟩ := ih (r + 1) (rrow C 10 0 m) f (by omega) (rrow_lt hC 10 0 m (by omega) hm)
      rw [show rrnd C (w + 1) m = rrnd C w (rrow C 10 0 m) from rfl, ← i1]
      rw [i1, ← i2, i2]
      rw [show w + 1 + (f + 1) = (w + (f + 1)) + 1 by omega, f2_reachedFrom_8, f8_reached_8]
      simp (disch := omega) only [EV, NUM, pu_lit, pu_le, hx, if_false]
      obtain ⟨j1, j2⟩ := I 10 0 m r (FU - 11) (f2_reachedFrom_8 K g (a + 1) (nI k) (w + (f + 1))) (f8_reached_8 S (nI k) (w + (f + 1))) rfl hm
      rw [show 10 + (FU - 11 + 1) = FU by unfold FU; omega] at j1 j2
      rw [j1, j2, i1, i2]
      exact ⟨rfl, rfl⟩
  obtain ⟨c1, c2, c3, -⟩ := hG k hk
  obtain ⟨l1, l2⟩ := O 10 0 (C k) (FU - 11) rfl c1
  rw [show 10 + (FU - 11 + 1) = FU by unfold FU; omega] at l1 l2
  unfold f2_reachedFrom f8_reached
  rw [c2, c3]
  exact ⟨l1, l2⟩
end RCH
theorem SIM.gv (hS : SIM K g S B) : GV K g (B + 10) S (CC g (B + 10)) (HH g (B + 10)) ∧ K.1 (B + 10 + 1) = (13, 10) := by
  obtain ⟨c, d, hB, -⟩ := hS.2.1
  have h13 : K.1 (B + 10 + 1) = (13, 10) := (hS.1.2.2.2.2.1 _ hS.1.l1).1.2.1
  exact ⟨gv_of hB h13, h13⟩
theorem op_reaches (hS : SIM K g S B) (x : Int32) : ∃ r, f7_reaches K g B x = some r ∧ f8_reaches S x = some r := by
  obtain ⟨hG, h13⟩ := hS.gv
  unfold f7_reaches f8_reaches f8_isCard
  rcases rg x (n := 10) (by omega) (by omega) with ⟨e1, e2⟩ | ⟨j, hj, rfl, e1, e2⟩
  · refine ⟨-1, ?_, ?_⟩
    · rw [show (10 : Int32) = nI 10 from rfl, e1]; rfl
    · rw [show f8_within x 0 9 = f8_within x (nI 0) (nI (10 - 1)) from rfl, e2]; rfl
  · obtain ⟨r1, r2⟩ := reach_eq hG hj
    refine ⟨nI (rch (CC g (B + 10)) j), ?_, ?_⟩
    · rw [show (10 : Int32) = nI 10 from rfl, e1]
      simp only [EV, if_neg z10]
      rw [show f2_reachedFrom K g (B + 11) (nI j) = f2_reachedFrom K g (B + 10 + 1) (nI j) from rfl, r1]
      rfl
    · rw [show f8_within (nI j) 0 9 = f8_within (nI j) (nI 0) (nI (10 - 1)) from rfl, e2]
      simp only [EV, if_neg z10, gb1]
      rw [r2]
      rfl
end SETS
