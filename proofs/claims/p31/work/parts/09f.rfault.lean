/-! THE PURE PART, f: the fault of the pad, the reference -/
def rb (S : GS) (u v : Int32) : GS := ssI (ssI S 0 8 u) 0 9 v
theorem rb_7 (S : GS) (u v : Int32) : rb S u v 0 7 = S 0 7 := by unfold rb; rw [ss_at, if_neg (by decide), ss_at, if_neg (by decide)]
theorem rb_8 (S : GS) (u v : Int32) : rb S u v 0 8 = u := by unfold rb; rw [ss_at, if_neg (by decide), ss_at, if_pos (by decide)]
theorem rb_9 (S : GS) (u v : Int32) : rb S u v 0 9 = v := by unfold rb; rw [ss_at, if_pos (by decide)]
theorem rb_6 (S : GS) (u v : Int32) : rb S u v 6 = S 6 := by unfold rb; rw [ss_n _ _ _ _ _ (by decide), ss_n _ _ _ _ _ (by decide)]
theorem ss_ss (S : GS) (k i j : Nat) (v w : Int32) (h : i ≠ j) : ssI (ssI S k i v) k j w = ssI (ssI S k j w) k i v := by
  funext x y
  rw [ss_at, ss_at, ss_at, ss_at]
  by_cases h1 : x = k ∧ y = j
  · have h2 : ¬ (x = k ∧ y = i) := fun z => by omega
    rw [if_pos h1, if_neg h2, if_pos h1]
  · rw [if_neg h1]
    by_cases h2 : x = k ∧ y = i
    · rw [if_pos h2, if_pos h2]
    · rw [if_neg h2, if_neg h2, if_neg h1]
theorem ss_2 (S : GS) (k i : Nat) (v w : Int32) : ssI (ssI S k i v) k i w = ssI S k i w := by
  funext x y
  rw [ss_at, ss_at, ss_at]
  by_cases h : x = k ∧ y = i
  · rw [if_pos h, if_pos h]
  · rw [if_neg h, if_neg h, if_neg h]
theorem rb_s8 (S : GS) (u v w : Int32) : ssI (rb S u v) 0 8 w = rb S w v := by unfold rb; rw [ss_ss _ _ _ _ _ _ (by decide), ss_2]
theorem rb_s9 (S : GS) (u v w : Int32) : ssI (rb S u v) 0 9 w = rb S u w := by unfold rb; rw [ss_2]
theorem i_lt_nI {x : Int32} {n : Nat} (h : x < 0) (hn : n < 2 ^ 31) : x < nI n := by
  have h1 := Int32.lt_iff_toInt_lt.mp h
  have h2 := nI_toInt hn
  have h3 : (0 : Int32).toInt = 0 := rfl
  exact Int32.lt_iff_toInt_lt.mpr (by omega)
theorem within_dig {c lo hi : Nat} (hc : c < 128) (hl : lo ≤ hi) (hh : hi ≤ 9) : f8_within (nI c - nI 48) (nI lo) (nI hi) = some (if lo + 48 ≤ c ∧ c ≤ hi + 48 then 1 else 0) := by
  unfold f8_within f8_within_14
  by_cases h : c < 48
  · rw [if_pos (i_lt_nI (pk_sneg (by omega) h) (by omega)), if_neg (fun z => by omega)]
  · rw [pk_sub (by omega)]
    simp (disch := omega) only [pu_lt]
    by_cases h1 : c - 48 < lo
    · rw [if_pos h1, if_neg (fun z => by omega)]
    · by_cases h2 : hi < c - 48
      · rw [if_neg h1, if_pos h2, if_neg (fun z => by omega)]
      · rw [if_neg h1, if_neg h2, if_pos ⟨by omega, by omega⟩]
section RF
variable {S : GS} {sn : Nat → Nat} {L p b : Nat}
/-- the pad of the reference -/
def RPAD (S : GS) (sn : Nat → Nat) (L : Nat) : Prop := L ≤ 80 ∧ S 0 7 = nI L ∧ ∀ k, k < L → S 6 k = nI (sn k) ∧ sn k < 128
theorem rf_code (h : RPAD S sn L) (hp : p ≤ L) (v : Int32) : f8_code (rb S (nI p) v) = some (nI (if p < L then sn p else 0)) := by
  obtain ⟨l80, h7, h6⟩ := h
  unfold f8_code
  rw [rb_7, rb_8, rb_6, h7]
  simp (disch := omega) only [pu_le]
  by_cases hp : p < L
  · rw [if_neg (by omega), if_pos hp]
    simp (disch := omega) [EV, pu_gok, pu_cl, (h6 p hp).1]
  · rw [if_pos (by omega), if_neg hp]
    rfl
theorem rf_dig (h : RPAD S sn L) (hp : p ≤ L) (v : Int32) {lo hi : Nat} (hl : lo ≤ hi) (hh : hi ≤ 9) : f8_takesDigit (rb S (nI p) v) (nI lo) (nI hi) = if p < L ∧ lo + 48 ≤ sn p ∧ sn p ≤ hi + 48 then some (rb S (nI (p + 1)) v, 1) else some (rb S (nI p) v, 0) := by
  have l80 := h.1
  have hc : (if p < L then sn p else 0) < 128 := by
    split
    · exact (h.2.2 p (by omega)).2
    · omega
  unfold f8_takesDigit
  rw [rf_code h hp v]
  show (f8_within (nI _ - nI 48) (nI lo) (nI hi)).bind _ = _
  rw [within_dig hc hl hh]
  by_cases h1 : p < L ∧ lo + 48 ≤ sn p ∧ sn p ≤ hi + 48
  · rw [if_pos h1, if_pos (by rw [if_pos h1.1]; exact h1.2)]
    simp (disch := omega) [EV, rb_8, rb_s8, NUM, pu_lit, gbl, pu_eq]
  · rw [if_neg h1, if_neg (fun z => h1 (by
      by_cases hpl : p < L
      · rw [if_pos hpl] at z; exact ⟨hpl, z⟩
      · rw [if_neg hpl] at z; omega))]
    simp (disch := omega) [EV, rb_8, rb_s8, NUM, pu_lit, gbl, pu_eq]
theorem rf_open (h : RPAD S sn L) (hp : p ≤ L) (hb : b ≤ 3) : f8_opens (rb S (nI p) (nI b)) = if p < L ∧ sn p = 40 ∧ b < 3 then some (rb S (nI (p + 1)) (nI (b + 1)), 1) else some (rb S (nI p) (nI b), 0) := by
  have l80 := h.1
  have hc : (if p < L then sn p else 0) < 128 := by
    split
    · exact (h.2.2 p (by omega)).2
    · omega
  unfold f8_opens f8_opens_21 f8_opens_22 f8_opens_37
  rw [rf_code h hp]
  by_cases hpl : p < L
  · rw [if_pos hpl] at hc
    by_cases h40 : sn p = 40
    · by_cases h3 : b < 3
      · have n : ¬ 3 ≤ b := by omega
        simp (disch := omega) [EV, rb_8, rb_9, rb_s8, rb_s9, NUM, pu_lit, gbl, pu_eq, pu_le, hpl, h40, h3, n]
      · have n : 3 ≤ b := by omega
        simp (disch := omega) [EV, rb_8, rb_9, rb_s8, rb_s9, NUM, pu_lit, gbl, pu_eq, pu_le, hpl, h40, h3, n]
    · simp (disch := omega) [EV, rb_8, rb_9, rb_s8, rb_s9, NUM, pu_lit, gbl, pu_eq, pu_le, hpl, h40]
  · simp (disch := omega) [EV, rb_8, rb_9, rb_s8, rb_s9, NUM, pu_lit, gbl, pu_eq, pu_le, hpl]
theorem flt1 (hp : p < L) (h9 : cc sn p ≠ 9) (h : cc sn (p + 1) = 9) : FLT sn L (nI p) := Or.inl ⟨p, hp, h9, h, rfl⟩
theorem flt2 (hp : p ≤ L) (h9 : cc sn p ≠ 9) (h3 : cc sn p = 0 ∨ 3 ≤ cc sn p) (h : p < L → cc sn (p + 1) = 9) : FLT sn L (nI p) := by
  by_cases hpl : p < L
  · exact flt1 hpl h9 (h hpl)
  · have : p = L := by omega
    subst this
    exact Or.inr (Or.inr ⟨h9, fun hv => by have := hv.2; omega, rfl⟩)
/-- the place of a step in what is read -/
def HD (sn : Nat → Nat) (L p nd : Nat) : Prop := p ≤ L ∧ ((nd = 1 ∧ cc sn p = 0) ∨ (nd = 0 ∧ (cc sn p = 1 ∨ (cc sn p = 2 ∧ (p < L → ¬ (50 ≤ sn p ∧ sn p ≤ 57))))))
theorem HD.sp {nd : Nat} (h : HD sn L p nd) : SP sn L p := by
  refine ⟨h.1, ?_⟩
  rcases h.2 with h | ⟨-, h | h⟩
  · exact Or.inl h.2
  · exact Or.inr (Or.inl h)
  · exact Or.inr (Or.inr h)
/-- reading a step: how it ends -/
def RS (S : GS) (sn : Nat → Nat) (L p : Nat) : Prop :=
  (∃ q v, f8_readsStep (rb S (nI p) (nI (ks sn p).length)) = some (rb S (nI q) v, 0) ∧ FLT sn L (nI q)) ∨
  (∃ q nd, p < q ∧ f8_readsStep (rb S (nI p) (nI (ks sn p).length)) = some (rb S (nI q) (nI (ks sn q).length), 1) ∧ HD sn L q nd ∧ cc sn q ≠ 9 ∧ (nd = 1 ↔ sn (q - 1) = 40) ∧ nd ≤ 1)
theorem reads (h : RPAD S sn L) (hp : p < L) (h9 : cc sn p ≠ 9) (e : tq sn (p + 1) = tLet (sn p) p (ks sn p)) : RS S sn L p := by
  have l80 := h.1
  have hc := (h.2.2 p hp).2
  have E0 : f8_code (rb S (nI p) (nI (ks sn p).length)) = some (nI (sn p)) := by rw [rf_code h (by omega), if_pos hp]
  have l3 := (au h9).2.2.1
  by_cases hl : isLet (sn p)
  · rw [tLet_is hl] at e
    have ek : ks sn (p + 1) = ks sn p := by unfold ks; rw [e]
    have ec : cc sn (p + 1) = tcl (sn p) := by unfold cc; rw [e]
    have el : lp sn (p + 1) = p := by unfold lp; rw [e]
    have ht := tcl_le (sn p)
    have h91 : cc sn (p + 1) ≠ 9 := by omega
    have ES : f8_readsStep (rb S (nI p) (nI (ks sn p).length)) = f8_readsStep_43 (rb S (nI p) (nI (ks sn p).length)) (nI (sn p)) := by
      unfold f8_readsStep
      rw [E0]
      rcases hl with z | z | z | z | z | z <;> rw [z] <;> simp (disch := omega) [EV, pu_lit, pu_eq]
    have OP : ∀ q, q ≤ L → ks sn q = ks sn p → cc sn q = 6 → (f8_opens (rb S (nI q) (nI (ks sn p).length)) = some (rb S (nI q) (nI (ks sn p).length), 0) ∧ FLT sn L (nI q)) ∨ (f8_opens (rb S (nI q) (nI (ks sn p).length)) = some (rb S (nI (q + 1)) (nI (ks sn (q + 1)).length), 1) ∧ HD sn L (q + 1) 1 ∧ cc sn (q + 1) ≠ 9 ∧ sn q = 40) := by
      intro q hq ekq ecq
      rw [rf_open h hq (by omega)]
      have e2 := tq_s sn q
      unfold tstep at e2
      have c' : (tq sn q).1 = 6 := ecq
      rw [if_neg (by omega), if_neg (by omega), if_neg (by omega), if_neg (by omega), if_neg (by omega), if_neg (by omega), if_pos c'] at e2
      by_cases hz : q < L ∧ sn q = 40 ∧ (ks sn p).length < 3
      · right
        rw [if_pos hz]
        rw [if_pos ⟨hz.2.1, by show (ks sn q).length < 3; rw [ekq]; exact hz.2.2⟩] at e2
        have e3 : ks sn (q + 1) = lp sn q :: ks sn q := by unfold ks; rw [e2]
        have e4 : cc sn (q + 1) = 0 := by unfold cc; rw [e2]
        refine ⟨?_, ⟨by omega, Or.inl ⟨rfl, e4⟩⟩, by omega, hz.2.1⟩
        rw [e3, ekq]
        rfl
      · left
        rw [if_neg hz]
        refine ⟨rfl, flt2 hq (by omega) (by omega) (fun hql => ?_)⟩
        rw [if_neg (fun z => hz ⟨hql, z.1, by have := z.2; rw [← ekq]; exact this⟩)] at e2
        unfold cc
        rw [e2]
    unfold RS
    rw [ES]
    unfold f8_readsStep_43 f8_readsStep_144
    rw [rb_8]
    rcases hl with z | z | z | z | z | z
    -- 'c'
    · have e1 : tq sn (p + 1) = (4, ks sn p, p) := by rw [e, z]; rfl
      have ec1 : cc sn (p + 1) = 4 := by unfold cc; rw [e1]
      have e2 := tq_s sn (p + 1)
      rw [e1] at e2
      unfold tstep at e2
      simp at e2
      have D := rf_dig h (p := p + 1) (by omega) (nI (ks sn p).length) (lo := 0) (hi := 5) (by decide) (by decide)
      by_cases hz : p + 1 < L ∧ 0 + 48 ≤ sn (p + 1) ∧ sn (p + 1) ≤ 5 + 48
      · right
        rw [if_pos hz] at D
        rw [if_pos (by omega)] at e2
        have e3 : ks sn (p + 2) = ks sn p := by unfold ks; rw [e2]
        have e4 : cc sn (p + 2) = 1 := by unfold cc; rw [e2]
        refine ⟨p + 2, 0, by omega, ?_, ⟨by omega, Or.inr ⟨rfl, Or.inl e4⟩⟩, by omega, ?_, by decide⟩
        · rw [e3, z]
          simp (disch := omega) [EV, pu_lit, pu_eq, NUM, rb_s8, D]
          rfl
        · show 0 = 1 ↔ sn (p + 1) = 40
          omega
      · left
        rw [if_neg hz] at D
        refine ⟨p + 1, nI (ks sn p).length, ?_, flt2 (by omega) (by omega) (by omega) (fun hql => ?_)⟩
        · rw [z]
          simp (disch := omega) [EV, pu_lit, pu_eq, NUM, rb_s8, D]
          rfl
        · rw [if_neg (fun w => hz ⟨hql, by omega, by omega⟩)] at e2
          unfold cc
          rw [e2]
    -- 'k'
    · have e1 : tq sn (p + 1) = (5, ks sn p, p) := by rw [e, z]; rfl
      have ec1 : cc sn (p + 1) = 5 := by unfold cc; rw [e1]
      have e2 := tq_s sn (p + 1)
      rw [e1] at e2
      unfold tstep at e2
      simp at e2
      have D := rf_dig h (p := p + 1) (by omega) (nI (ks sn p).length) (lo := 0) (hi := 9) (by decide) (by decide)
      by_cases hz : p + 1 < L ∧ 0 + 48 ≤ sn (p + 1) ∧ sn (p + 1) ≤ 9 + 48
      · right
        rw [if_pos hz] at D
        rw [if_pos (by omega)] at e2
        have e3 : ks sn (p + 2) = ks sn p := by unfold ks; rw [e2]
        have e4 : cc sn (p + 2) = 1 := by unfold cc; rw [e2]
        refine ⟨p + 2, 0, by omega, ?_, ⟨by omega, Or.inr ⟨rfl, Or.inl e4⟩⟩, by omega, ?_, by decide⟩
        · rw [e3, z]
          simp (disch := omega) [EV, pu_lit, pu_eq, NUM, rb_s8, D]
          rfl
        · show 0 = 1 ↔ sn (p + 1) = 40
          omega
      · left
        rw [if_neg hz] at D
        refine ⟨p + 1, nI (ks sn p).length, ?_, flt2 (by omega) (by omega) (by omega) (fun hql => ?_)⟩
        · rw [z]
          simp (disch := omega) [EV, pu_lit, pu_eq, NUM, rb_s8, D]
          rfl
        · rw [if_neg (fun w => hz ⟨hql, by omega, by omega⟩)] at e2
          unfold cc
          rw [e2]
    -- 'l'
    · have e1 : tq sn (p + 1) = (6, ks sn p, p) := by rw [e, z]; rfl
      rcases OP (p + 1) (by omega) ek (by unfold cc; rw [e1]) with ⟨D, hf⟩ | ⟨D, hh, h92, h40⟩
      · left
        refine ⟨p + 1, nI (ks sn p).length, ?_, hf⟩
        rw [z]
        simp (disch := omega) [EV, pu_lit, pu_eq, NUM, rb_s8, D]
        rfl
      · right
        refine ⟨p + 2, 1, by omega, ?_, hh, h92, ⟨fun _ => h40, fun _ => rfl⟩, by decide⟩
        rw [z]
        simp (disch := omega) [EV, pu_lit, pu_eq, NUM, rb_s8, D]
        rfl
    -- 's'
    · have e1 : tq sn (p + 1) = (6, ks sn p, p) := by rw [e, z]; rfl
      rcases OP (p + 1) (by omega) ek (by unfold cc; rw [e1]) with ⟨D, hf⟩ | ⟨D, hh, h92, h40⟩
      · left
        refine ⟨p + 1, nI (ks sn p).length, ?_, hf⟩
        rw [z]
        simp (disch := omega) [EV, pu_lit, pu_eq, NUM, rb_s8, D]
        rfl
      · right
        refine ⟨p + 2, 1, by omega, ?_, hh, h92, ⟨fun _ => h40, fun _ => rfl⟩, by decide⟩
        rw [z]
        simp (disch := omega) [EV, pu_lit, pu_eq, NUM, rb_s8, D]
        rfl
    -- 'w'
    · have e1 : tq sn (p + 1) = (2, ks sn p, p) := by rw [e, z]; rfl
      have ec1 : cc sn (p + 1) = 2 := by unfold cc; rw [e1]
      have D := rf_dig h (p := p + 1) (by omega) (nI (ks sn p).length) (lo := 2) (hi := 9) (by decide) (by decide)
      right
      by_cases hz : p + 1 < L ∧ 2 + 48 ≤ sn (p + 1) ∧ sn (p + 1) ≤ 9 + 48
      · have e2 := tq_s sn (p + 1)
        rw [e1] at e2
        unfold tstep at e2
        simp at e2
        rw [if_pos (by omega)] at e2
        rw [if_pos hz] at D
        have e3 : ks sn (p + 2) = ks sn p := by unfold ks; rw [e2]
        have e4 : cc sn (p + 2) = 1 := by unfold cc; rw [e2]
        refine ⟨p + 2, 0, by omega, ?_, ⟨by omega, Or.inr ⟨rfl, Or.inl e4⟩⟩, by omega, ?_, by decide⟩
        · rw [e3, z]
          simp (disch := omega) [EV, pu_lit, pu_eq, NUM, rb_s8, D]
        · show 0 = 1 ↔ sn (p + 1) = 40
          omega
      · rw [if_neg hz] at D
        refine ⟨p + 1, 0, by omega, ?_, ⟨by omega, Or.inr ⟨rfl, Or.inr ⟨ec1, fun hq w => hz ⟨hq, by omega, by omega⟩⟩⟩⟩, by omega, ?_, by decide⟩
        · rw [ek, z]
          simp (disch := omega) [EV, pu_lit, pu_eq, NUM, rb_s8, D]
        · show 0 = 1 ↔ sn p = 40
          omega
    -- 'x'
    · have e1 : tq sn (p + 1) = (3, ks sn p, p) := by rw [e, z]; rfl
      have ec1 : cc sn (p + 1) = 3 := by unfold cc; rw [e1]
      have e2 := tq_s sn (p + 1)
      rw [e1] at e2
      unfold tstep at e2
      simp at e2
      have D := rf_dig h (p := p + 1) (by omega) (nI (ks sn p).length) (lo := 2) (hi := 9) (by decide) (by decide)
      by_cases hz : p + 1 < L ∧ 2 + 48 ≤ sn (p + 1) ∧ sn (p + 1) ≤ 9 + 48
      · rw [if_pos hz] at D
        rw [if_pos (by omega)] at e2
        have e3 : ks sn (p + 2) = ks sn p := by unfold ks; rw [e2]
        have e4 : cc sn (p + 2) = 6 := by unfold cc; rw [e2]
        rcases OP (p + 2) (by omega) e3 e4 with ⟨D2, hf⟩ | ⟨D2, hh, h92, h40⟩
        · left
          refine ⟨p + 2, nI (ks sn p).length, ?_, hf⟩
          rw [z]
          simp (disch := omega) [EV, pu_lit, pu_eq, NUM, rb_s8, D, D2]
        · right
          refine ⟨p + 3, 1, by omega, ?_, hh, h92, ⟨fun _ => h40, fun _ => rfl⟩, by decide⟩
          rw [z]
          simp (disch := omega) [EV, pu_lit, pu_eq, NUM, rb_s8, D, D2]
      · left
        rw [if_neg hz] at D
        refine ⟨p + 1, nI (ks sn p).length, ?_, flt2 (by omega) (by omega) (by omega) (fun hql => ?_)⟩
        · rw [z]
          simp (disch := omega) [EV, pu_lit, pu_eq, NUM, rb_s8, D]
        · rw [if_neg (fun w => hz ⟨hql, by omega, by omega⟩)] at e2
          unfold cc
          rw [e2]
  · left
    refine ⟨p, nI (ks sn p).length, ?_, flt1 hp h9 (by unfold cc; rw [e]; exact tLet_no hl)⟩
    unfold isLet at hl
    have n1 : ¬ sn p = 99 := by omega
    have n2 : ¬ sn p = 107 := by omega
    have n3 : ¬ sn p = 108 := by omega
    have n4 : ¬ sn p = 115 := by omega
    have n5 : ¬ sn p = 119 := by omega
    have n6 : ¬ sn p = 120 := by omega
    unfold f8_readsStep
    rw [E0]
    simp (disch := omega) [EV, pu_lit, pu_eq, n1, n2, n3, n4, n5, n6]
theorem rf_loop (h : RPAD S sn L) : ∀ m p nd n, L - p ≤ m → m < n → HD sn L p nd → nd ≤ 1 → cc sn p ≠ 9 → ∃ u v r, f8_findFault_12 n (rb S (nI p) (nI (ks sn p).length)) (nI nd) = some (rb S u v, r) ∧ FLT sn L r := by
  have l80 := h.1
  intro m
  induction m with
  | zero =>
    intro p nd n hm hn hd hnd h9
    obtain ⟨n, rfl⟩ : ∃ k, n = k + 1 := ⟨n - 1, by omega⟩
    have := hd.1
    have hpL : p = L := by omega
    subst hpL
    have l3 := (au h9).2.2.1
    unfold f8_findFault_12 f8_findFault_114
    rw [rb_7, rb_8, rb_9, h.2.1, if_pos (show nI p ≤ nI p from (nI_leI (by omega) (by omega)).mpr (Nat.le_refl _))]
    by_cases hn0 : nd = 0
    · subst hn0
      by_cases k0 : (ks sn p).length = 0
      · refine ⟨nI p, nI (ks sn p).length, -nI 6, ?_, Or.inr (Or.inl ⟨h9, ⟨List.eq_nil_of_length_eq_zero k0, ?_⟩, rfl⟩)⟩
        · simp (disch := omega) [EV, pu_lit, pu_eq, pu_le, k0]
        · rcases hd.2 with z | z
          · omega
          · omega
      · refine ⟨nI p, nI (ks sn p).length, nI p, ?_, Or.inr (Or.inr ⟨h9, fun hv => k0 (by rw [hv.1]; rfl), rfl⟩)⟩
        simp (disch := omega) only [EV, pu_lit, pu_eq, pu_le]
        rw [if_pos (by trivial), if_neg (by omega)]
    · refine ⟨nI p, nI (ks sn p).length, nI p, ?_, Or.inr (Or.inr ⟨h9, fun hv => ?_, rfl⟩)⟩
      · simp (disch := omega) only [EV, pu_lit, pu_eq, pu_le]
        rw [if_neg hn0]
      · have := hv.2
        rcases hd.2 with z | z
        · omega
        · omega
  | succ m ih =>
    intro p nd n hm hn hd hnd h9
    obtain ⟨n, rfl⟩ : ∃ k, n = k + 1 := ⟨n - 1, by omega⟩
    by_cases hpL : p = L
    · exact ih p nd (n + 1) (by omega) (by omega) hd hnd h9
    have hp : p < L := by have := hd.1; omega
    have hc := (h.2.2 p hp).2
    have l3 := (au h9).2.2.1
    have hr := hd.sp.run hp
    have E0 : f8_code (rb S (nI p) (nI (ks sn p).length)) = some (nI (sn p)) := by rw [rf_code h (by omega), if_pos hp]
    have STEP : tq sn (p + 1) = tLet (sn p) p (ks sn p) → f8_findFault_12 (n + 1) (rb S (nI p) (nI (ks sn p).length)) (nI nd) = f8_findFault_66 (f8_findFault_12 n) (rb S (nI p) (nI (ks sn p).length)) → ∃ u v r, f8_findFault_12 (n + 1) (rb S (nI p) (nI (ks sn p).length)) (nI nd) = some (rb S u v, r) ∧ FLT sn L r := by
      intro e e2
      rw [e2]
      unfold f8_findFault_66 f8_findFault_99
      rcases reads h hp h9 e with ⟨q, v, e3, hf⟩ | ⟨q, nd', hq, e3, hh, h9q, hnd', hle⟩
      · refine ⟨nI q, v, nI q, ?_, hf⟩
        rw [e3]
        simp (disch := omega) [EV, rb_8]
      · have := hh.1
        obtain ⟨u, v, r, e4, hf⟩ := ih q nd' n (by omega) (by omega) hh hle h9q
        refine ⟨u, v, r, ?_, hf⟩
        rw [e3, ← e4]
        have e5 := (h.2.2 (q - 1) (by omega)).1
        have e6 := (h.2.2 (q - 1) (by omega)).2
        by_cases h40 : sn (q - 1) = 40
        · have : nd' = 1 := hnd'.mpr h40
          simp (disch := omega) [EV, rb_8, rb_6, pu_lit, pk_sub, pu_gok, pu_cl, e5, pu_eq, h40, this]
        · have : nd' = 0 := by
            have : nd' ≠ 1 := fun z => h40 (hnd'.mp z)
            omega
          simp (disch := omega) [EV, rb_8, rb_6, pu_lit, pk_sub, pu_gok, pu_cl, e5, pu_eq, h40, this]
    have n1 : ¬ nI L ≤ nI p := fun z => by have := (nI_leI (by omega) (by omega)).mp z; omega
    by_cases h41 : sn p = 41
    · by_cases k0 : (ks sn p).length = 0
      · have kn : ks sn p = [] := List.eq_nil_of_length_eq_zero k0
        by_cases c0 : cc sn p = 0
        · refine STEP (by rw [hr, if_neg (fun z => z.2 c0)]) ?_
          unfold f8_findFault_12
          rw [rb_7, rb_8, rb_9, h.2.1, if_neg n1, E0, h41, kn]
          simp (disch := omega) [EV, pu_lit, pu_eq, pu_le]
        · refine ⟨nI p, nI (ks sn p).length, nI p, ?_, flt1 hp h9 (by unfold cc; rw [hr, if_pos ⟨h41, c0⟩, kn]; rfl)⟩
          unfold f8_findFault_12
          rw [rb_7, rb_8, rb_9, h.2.1, if_neg n1, E0, h41, kn]
          have ER : f8_readsStep (rb S (nI p) (nI 0)) = some (rb S (nI p) (nI 0), 0) := by
            unfold f8_readsStep
            rw [kn] at E0
            rw [show f8_code (rb S (nI p) (nI 0)) = some (nI (sn p)) from E0, h41]
            simp (disch := omega) [EV, pu_lit, pu_eq]
          unfold f8_findFault_66
          simp (disch := omega) [EV, pu_lit, pu_eq, pu_le, ER, rb_8]
      · by_cases hn0 : nd = 0
        · have c0 : cc sn p ≠ 0 := by
            rcases hd.2 with z | z <;> omega
          rw [if_pos ⟨h41, c0⟩] at hr
          cases hk : ks sn p with
          | nil => rw [hk] at k0; exact absurd rfl k0
          | cons k st =>
            rw [hk] at hr
            have hr : tq sn (p + 1) = (1, st, lp sn p) := hr
            have ek : ks sn (p + 1) = st := by unfold ks; rw [hr]
            have ec : cc sn (p + 1) = 1 := by unfold cc; rw [hr]
            obtain ⟨u, v, r, e4, hf⟩ := ih (p + 1) 0 n (by omega) (by omega) ⟨by omega, Or.inr ⟨rfl, Or.inl ec⟩⟩ (by decide) (by omega)
            refine ⟨u, v, r, ?_, hf⟩
            rw [hk] at E0 l3
            simp at l3
            rw [← e4, ek, f8_findFault_12]
            rw [rb_7, rb_8, rb_9, h.2.1, if_neg n1, E0, h41]
            simp (disch := omega) [EV, pu_lit, pu_eq, pu_le, hn0, rb_s9, rb_s8, rb_9, rb_8, NUM, pk_sub]
        · have c0 : cc sn p = 0 := by
            rcases hd.2 with z | z <;> omega
          refine STEP (by rw [hr, if_neg (fun z => z.2 c0)]) ?_
          have nk : ¬ (ks sn p).length ≤ 0 := by omega
          rw [f8_findFault_12]
          rw [rb_7, rb_8, rb_9, h.2.1, if_neg n1, E0, h41]
          simp (disch := omega) only [EV, pu_lit, pu_eq, pu_le]
          rw [if_pos (by trivial), if_neg nk, if_neg hn0]
    · refine STEP (by rw [hr, if_neg (fun z => h41 z.1)]) ?_
      rw [f8_findFault_12]
      rw [rb_7, rb_8, rb_9, h.2.1, if_neg n1, E0]
      simp (disch := omega) [EV, pu_lit, pu_eq, pu_le, h41]
theorem findFault (h : RPAD S sn L) : ∃ u v r, f8_findFault S = some (rb S u v, r) ∧ FLT sn L r := by
  obtain ⟨u, v, r, h1, h2⟩ := rf_loop h L 0 1 FU (by omega) (by have := h.1; unfold FU; omega) ⟨Nat.zero_le _, Or.inl ⟨rfl, rfl⟩⟩ (by decide) (show (0 : Nat) ≠ 9 by decide)
  have e0 : ks sn 0 = [] := rfl
  rw [e0] at h1
  refine ⟨u, v, r, ?_, h2⟩
  unfold f8_findFault
  simp only [EV, pu_lit]
  exact h1
end RF
