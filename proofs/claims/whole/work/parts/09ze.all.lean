/-! THE PURE PART, ze: all cards are counted -/
section ALL
variable {K : GK} {g : GM} {a : Nat} {S : GS} {C : Nat → Nat} {H : Nat → Bool} {V D : Nat → Nat}
/-- the texts of the cards -/
def TXS (s : Nat → Int32) (C : Nat → Nat) (H : Nat → Bool) (nn : Nat → Nat) (ss : Nat → Nat → Nat) : Prop := ∀ k, k < 10 → H k = true → VT (ss k) (nn k) ∧ s (43 + k) = nI (nn k) ∧ (∀ x, x < nn k → s (53 + 80 * k + x) = nI (ss k x)) ∧ ∀ x, x + 1 < nn k → ss k x = 107 → ss k (x + 1) - 48 < 10 ∧ (C k).testBit (ss k (x + 1) - 48) = true
/-- the called cards of a text, by bits -/
theorem caN_bit {sn : Nat → Nat} {n : Nat} (hv : VT sn n) : ∀ p, p ≤ n → ∀ x, x + 1 < p → sn x = 107 → sn (x + 1) - 48 < 10 ∧ (caN sn p).testBit (sn (x + 1) - 48) = true := by
  intro p
  induction p with
  | zero => intro _ x h; omega
  | succ p ih =>
    intro hp x hx h107
    have hd := ca_dig (p := x + 1) (hv.ne (p := x + 2) (by omega)) ⟨by omega, h107⟩
    refine ⟨by omega, ?_⟩
    show (caN sn p ||| _).testBit _ = true
    rw [Nat.testBit_or]
    by_cases e : x + 1 = p
    · subst e
      rw [if_pos ⟨by omega, h107⟩, Nat.testBit_two_pow_self, Bool.or_true]
    · rw [(ih (by omega) x (by omega) h107).2]
      rfl
/-- a card is counted, for a colour -/
theorem re_cc {nn : Nat → Nat} {ss : Nat → Nat → Nat} {k c : Nat} (hT : TXS (S 1) C H nn ss) (hk : k < 10) (hH : H k = true) (hkk : (C k).testBit k = false) (hc : c < 6) (hC : CN S V) : ∃ S', f8_countCard S (nI k) (nI c) = some S' ∧ CN S' (Vn V (36 * k + 6 * c) (fun e => evt (ss k) (nn k) (pwe e) (Wv V e) (nn k + 1) 0 c)) ∧ ∀ j, j ≠ 7 → j ≠ 9 → j ≠ 10 → S' j = S j := by
  obtain ⟨hv, h43, hs, hcl⟩ := hT k hk hH
  have n80 := hv.1
  obtain ⟨N, S', i1, i2, i3⟩ := cr (fi := nI c) hk hc (base := 36 * k + 6 * c) rfl hv (fun x hx h107 z => by
    obtain ⟨_, q⟩ := hcl x hx h107
    rw [z, hkk] at q
    cases q) (nn k + 1) 0 c S V ⟨hk, hv, h43, hs⟩ SP.zero (by omega) hc hC
  obtain ⟨r1, r2, r3, r4⟩ := sge_ok hv (nn k + 1) 0 SP.zero (by omega)
  have re : sge (ss k) (nn k) (nn k + 1) 0 = nn k := by
    rcases r4 with z | ⟨z1, z2⟩
    · exact z
    · rcases r2.kinds hv z1 with ⟨-, k', q, -⟩ | q | q | q | q | q | q
      · rw [r3] at q; cases q
      all_goals omega
  have hN : N ≤ 80 * 1000 := by
    refine Nat.le_trans i1 (Nat.mul_le_mul (by omega) ?_)
    exact Nat.pow_le_pow_right (n := 10) (by decide) (show 3 - (ks (ss k) 0).length ≤ 3 by omega)
  refine ⟨S', ?_, i3.2.2, i3.1⟩
  have h43' : S' 1 (43 + k) = nI (nn k) := by rw [i3.1 1 (by decide) (by decide) (by decide)]; exact h43
  unfold f8_countCard
  simp only [EV, NUM, pu_lit]
  have := i2 (FU - N)
  rw [show N + (FU - N) = FU by unfold FU; omega, re] at this
  rw [show f8_countCard_19 (nI k) (nI c) FU S (nI (36 * k + 6 * c)) (nI c) (nI 0) (nI 0) = f8_countCard_19 (nI k) (nI c) FU S (nI (36 * k + 6 * c)) (nI c) (nI (ks (ss k) 0).length) (nI 0) from rfl, this, show FU - N = (FU - N - 1) + 1 by unfold FU; omega, f8_countCard_19]
  simp (disch := omega) only [EV, NUM, pu_lit, pu_gok, pu_cl, h43', pu_le]
  rw [if_pos (Nat.le_refl _)]
/-- the greatest of known depths -/
theorem re_dp {m : Nat} (hm : m < 1024) (h8 : ∀ j, j < 10 → S 8 j = nI (D j)) (hD : ∀ j, j < 10 → D j < 1000) : f8_deepest S (nI m) = some (nI (mx m D 10)) := by
  have L : ∀ w x f, x + w = 10 → f8_deepest_4 S (nI m) (w + (f + 1)) (nI (mx m D x)) (nI x) = some (nI (mx m D 10)) := by
    intro w
    induction w with
    | zero =>
      intro x f hw
      have : x = 10 := by omega
      subst this
      rw [Nat.zero_add, f8_deepest_4]
      exact if_pos (show (10 : Int32) ≤ nI 10 by decide)
    | succ w ih =>
      intro x f hw
      have hx : ¬ 10 ≤ x := by omega
      have e8 := h8 x (by omega)
      have d1 := hD x (by omega)
      have ml : mx m D x ≤ 999 := mx_le x (fun j hj => by have := hD j (by omega); omega)
      have hb := pu_bit hm (j := x) (by omega)
      have e : mx m D (x + 1) = if m.testBit x = true ∧ mx m D x < D x then D x else mx m D x := rfl
      rw [← ih (x + 1) f (by omega), show w + 1 + (f + 1) = (w + (f + 1)) + 1 by omega, f8_deepest_4, e]
      unfold f8_deepest_38 f8_deepest_39
      simp (disch := omega) only [EV, NUM, pu_lit, pu_le, hx, if_false, hb, pu_gok, pu_cl, e8]
      cases hz : m.testBit x with
      | true =>
        simp only [if_true, true_and]
        by_cases hl : D x ≤ mx m D x
        · rw [if_pos hl, if_neg (by omega)]
        · rw [if_neg hl, if_pos (by omega)]
      | false =>
        simp only [Bool.false_eq_true, if_false, false_and]
        rw [if_neg (show ¬ nI 0 = nI 1 by decide)]
  unfold f8_deepest
  have := L 10 0 (FU - 11) rfl
  rw [show 10 + (FU - 11 + 1) = FU by unfold FU; omega] at this
  exact this
theorem re_kn {m : Nat} (hm : m < 1024) (h8 : ∀ j, j < 10 → S 8 j = nI (D j)) (hD : ∀ j, j < 10 → D j < 1000) : ∃ v : Nat, v ≤ 1 ∧ f8_areKnown S (nI m) = some (nI v) ∧ (v = 1 ↔ ∀ j, j < 10 → m.testBit j = true → 0 < D j) := by
  have L : ∀ w x f v, x + w = 10 → v ≤ 1 → ∃ v' : Nat, v' ≤ 1 ∧ f8_areKnown_4 S (nI m) (w + (f + 1)) (nI v) (nI x) = some (nI v') ∧ (v' = 1 ↔ v = 1 ∧ ∀ j, x ≤ j → j < 10 → m.testBit j = true → 0 < D j) := by
    intro w
    induction w with
    | zero =>
      intro x f v hw hv
      have : x = 10 := by omega
      subst this
      refine ⟨v, hv, ?_, ⟨fun z => ⟨z, fun j h1 h2 => by omega⟩, fun z => z.1⟩⟩
      rw [Nat.zero_add, f8_areKnown_4, if_pos (show (10 : Int32) ≤ nI 10 by decide)]
      rcases (by omega : v = 0 ∨ v = 1) with z | z <;> subst z <;> rfl
    | succ w ih =>
      intro x f v hw hv
      have hx : ¬ 10 ≤ x := by omega
      have e8 := h8 x (by omega)
      have d1 := hD x (by omega)
      have hb := pu_bit hm (j := x) (by omega)
      rw [show w + 1 + (f + 1) = (w + (f + 1)) + 1 by omega, f8_areKnown_4]
      unfold f8_areKnown_31 f8_areKnown_35 f8_areKnown_36
      simp (disch := omega) only [EV, NUM, pu_lit, pu_le, hx, if_false, hb, pu_gok, pu_cl, e8, pu_eq]
      by_cases hv0 : v = 0
      · rw [if_pos hv0]
        obtain ⟨v', i1, i2, i3⟩ := ih (x + 1) f 0 (by omega) (by omega)
        exact ⟨v', i1, i2, ⟨fun z => by have := (i3.mp z).1; omega, fun z => by omega⟩⟩
      · rw [if_neg hv0]
        have hv1 : v = 1 := by omega
        cases hz : m.testBit x with
        | false =>
          simp only [Bool.false_eq_true, if_false, if_true]
          obtain ⟨v', i1, i2, i3⟩ := ih (x + 1) f 1 (by omega) (by omega)
          refine ⟨v', i1, i2, ⟨fun z => ⟨hv1, fun j h1 h2 h3 => ?_⟩, fun z => i3.mpr ⟨rfl, fun j h1 h2 h3 => z.2 j (by omega) h2 h3⟩⟩⟩
          rcases Nat.eq_or_lt_of_le h1 with q | q
          · rw [← q, hz] at h3; cases h3
          · exact (i3.mp z).2 j q h2 h3
        | true =>
          simp only [if_true, z10f, if_false]
          by_cases hd : D x ≤ 0
          · rw [if_pos hd]
            obtain ⟨v', i1, i2, i3⟩ := ih (x + 1) f 0 (by omega) (by omega)
            refine ⟨v', i1, i2, ⟨fun z => by have := (i3.mp z).1; omega, fun z => ?_⟩⟩
            have := z.2 x (Nat.le_refl _) (by omega) hz
            omega
          · rw [if_neg hd]
            obtain ⟨v', i1, i2, i3⟩ := ih (x + 1) f 1 (by omega) (by omega)
            refine ⟨v', i1, i2, ⟨fun z => ⟨hv1, fun j h1 h2 h3 => ?_⟩, fun z => i3.mpr ⟨rfl, fun j h1 h2 h3 => z.2 j (by omega) h2 h3⟩⟩⟩
            rcases Nat.eq_or_lt_of_le h1 with q | q
            · rw [← q]; omega
            · exact (i3.mp z).2 j q h2 h3
  obtain ⟨v, i1, i2, i3⟩ := L 10 0 (FU - 11) 1 rfl (by omega)
  rw [show 10 + (FU - 11 + 1) = FU by unfold FU; omega] at i2
  exact ⟨v, i1, i2, ⟨fun z j hj hb => (i3.mp z).2 j (Nat.zero_le _) hj hb, fun z => i3.mpr ⟨rfl, fun j _ hj hb => z j hj hb⟩⟩⟩
/-- what is known -/
def RI (S : GS) (C : Nat → Nat) (H : Nat → Bool) (nn : Nat → Nat) (ss : Nat → Nat → Nat) (D V : Nat → Nat) (bd : Nat) : Prop :=
  CN S V ∧ (∀ j, j < 10 → S 8 j = nI (D j) ∧ D j ≤ bd) ∧ (∀ j, j < 10 → 0 < D j → H j = true ∧ (∀ i, i < 10 → (C j).testBit i = true → 0 < D i) ∧ D j = 1 + mx (C j) D 10 ∧ ∀ c e, c < 6 → e < 6 → V (36 * j + 6 * c + e) = min (evt (ss j) (nn j) (pwe e) (Wv V e) (nn j + 1) 0 c) 1000001) ∧ ∀ j, j < 10 → D j = 0 → ∀ c e, c < 6 → e < 6 → V (36 * j + 6 * c + e) = 0
/-- six colours of a card -/
theorem re_six {nn : Nat → Nat} {ss : Nat → Nat → Nat} {k : Nat} {k45 : GS → Int32 → Option GS} {k53 : GS → Int32 → Int32 → Option GS} {x1 : Int32} (hG : ∀ j, j < 10 → C j < 1024) (hcalls : f8_calls S (nI k) = some (nI (C k))) (hcg : ∀ S' : GS, S' 1 = S 1 → f8_calls S' (nI k) = some (nI (C k))) (hk : k < 10) (hT : TXS (S 1) C H nn ss) (hH : H k = true) (hkk : (C k).testBit k = false) {bd : Nat} (hbd : bd < 900) (h8 : ∀ j, j < 10 → S 8 j = nI (D j) ∧ D j ≤ bd) : ∀ w c S2 V2 f, c + w = 6 → (∀ j, j ≠ 7 → j ≠ 9 → j ≠ 10 → S2 j = S j) → CN S2 V2 → (∀ i, i < 360 → ¬ (36 * k ≤ i ∧ i < 36 * k + 6 * c) → V2 i = V i) → (∀ c' e, c' < c → e < 6 → V2 (36 * k + 6 * c' + e) = min (evt (ss k) (nn k) (pwe e) (Wv V e) (nn k + 1) 0 c') 1000001) → (∀ c' e, c' < 6 → e < 6 → V (36 * k + 6 * c' + e) = 0) → ∃ S3 V3, f8_countAll_90 k45 k53 (w + (f + 1)) S2 x1 (nI k) (nI c) = k53 S3 x1 (nI (k + 1)) ∧ (∀ j, j ≠ 7 → j ≠ 8 → j ≠ 9 → j ≠ 10 → S3 j = S j) ∧ CN S3 V3 ∧ (∀ i, i < 360 → ¬ (36 * k ≤ i ∧ i < 36 * k + 36) → V3 i = V i) ∧ (∀ c' e, c' < 6 → e < 6 → V3 (36 * k + 6 * c' + e) = min (evt (ss k) (nn k) (pwe e) (Wv V e) (nn k + 1) 0 c') 1000001) ∧ ∀ j, j < 10 → S3 8 j = nI (if j = k then 1 + mx (C k) D 10 else D j) := by
  intro w
  induction w with
  | zero =>
    intro c S2 V2 f hw hSj hC ho hd hz
    have : c = 6 := by omega
    subst this
    have e8 : ∀ j, j < 10 → S2 8 j = nI (D j) := fun j hj => by rw [hSj 8 (by decide) (by decide) (by decide)]; exact (h8 j hj).1
    have dp := re_dp (hG k hk) e8 (fun j hj => by have := (h8 j hj).2; omega)
    have cl := hcg S2 (hSj 1 (by decide) (by decide) (by decide))
    refine ⟨ssI S2 8 k (nI (1 + mx (C k) D 10)), V2, ?_, fun j z1 z2 z3 z4 => by rw [ss_n _ _ _ _ _ z2]; exact hSj j z1 z3 z4, fun i hi => by rw [ss_n _ _ _ _ _ (by decide)]; exact hC i hi, fun i hi hn => ho i hi (by omega), fun c' e hc' he => hd c' e hc' he, fun j hj => ?_⟩
    · rw [Nat.zero_add, f8_countAll_90, if_pos (show (6 : Int32) ≤ nI 6 by decide), cl]
      unfold f8_countAll_125
      simp (disch := omega) only [EV, NUM, pu_lit, dp, pu_gok, pu_cl]
    · rw [ss_at]
      by_cases e : j = k
      · rw [if_pos ⟨rfl, e⟩, if_pos e]
      · rw [if_neg (fun z => e z.2), if_neg e]
        exact e8 j hj
  | succ w ih =>
    intro c S2 V2 f hw hSj hC ho hd hz
    have hx : ¬ 6 ≤ c := by omega
    obtain ⟨hv, h43, hs, hcl⟩ := hT k hk hH
    have e1 : S2 1 = S 1 := hSj 1 (by decide) (by decide) (by decide)
    obtain ⟨S3, q1, q2, q3⟩ := re_cc (k := k) (c := c) (by rw [e1]; exact hT) hk hH hkk (by omega) hC
    have same : ∀ e, e < 6 → evt (ss k) (nn k) (pwe e) (Wv V2 e) (nn k + 1) 0 c = evt (ss k) (nn k) (pwe e) (Wv V e) (nn k + 1) 0 c := fun e he => by
      refine evt_cg hv (fun x c' hx' h107 hc' => ?_) _ 0 c SP.zero (by omega) (by omega)
      obtain ⟨y1, y2⟩ := hcl x hx' h107
      have hne : ss k (x + 1) - 48 ≠ k := fun z => by rw [z, hkk] at y2; cases y2
      unfold Wv
      refine ho _ (by omega) ?_
      rcases Nat.lt_or_ge (ss k (x + 1) - 48) k with q | q <;> omega
    obtain ⟨S4, V4, i1, i2, i3, i4, i5, i6⟩ := ih (c + 1) S3 _ f (by omega) (fun j z1 z2 z3 => (q3 j z1 z2 z3).trans (hSj j z1 z2 z3)) q2 (fun i hi hn => by
      unfold Vn
      rw [if_neg (by omega)]
      exact ho i hi (by omega)) (fun c' e hc' he => by
      unfold Vn
      by_cases ec : c' = c
      · subst ec
        rw [if_pos (by omega), show 36 * k + 6 * c' + e - (36 * k + 6 * c') = e by omega]
        dsimp only
        rw [same e he, ho _ (by omega) (by omega), hz c' e (by omega) he, Nat.zero_add]
      · rw [if_neg (by omega)]
        exact hd c' e (by omega) he) hz
    refine ⟨S4, V4, ?_, i2, i3, i4, i5, i6⟩
    rw [← i1, show w + 1 + (f + 1) = (w + (f + 1)) + 1 by omega, f8_countAll_90]
    simp (disch := omega) only [EV, NUM, pu_lit, pu_le, hx, if_false, q1]
/-- a round -/
theorem re_round {nn : Nat → Nat} {ss : Nat → Nat → Nat} {s1 : Nat → Int32} (hG : ∀ j, j < 10 → C j < 1024) (hcg : ∀ S' : GS, S' 1 = s1 → ∀ k, k < 10 → f8_calls S' (nI k) = some (nI (C k)) ∧ f8_hasText S' (nI k) = some (nI (if H k then 1 else 0))) (hT : TXS s1 C H nn ss) {k45 : GS → Int32 → Option GS} {r : Nat} : ∀ w x S D V f, x + w = 10 → S 1 = s1 → RI S C H nn ss D V (10 * r + x) → r < 20 → ∃ S' D' V', f8_countAll_53 k45 (w + (f + 1)) S (nI r) (nI x) = k45 S' (nI (r + 1)) ∧ (∀ j, j ≠ 7 → j ≠ 8 → j ≠ 9 → j ≠ 10 → S' j = S j) ∧ RI S' C H nn ss D' V' (10 * r + 10) ∧ (∀ j, j < 10 → 0 < D j → D' j = D j) ∧ ∀ j, x ≤ j → j < 10 → H j = true → (∀ i, i < 10 → (C j).testBit i = true → 0 < D i) → 0 < D' j := by
  intro w
  induction w with
  | zero =>
    intro x S D V f hw h1 hR hr
    have : x = 10 := by omega
    subst this
    refine ⟨S, D, V, ?_, fun _ _ _ _ _ => rfl, hR, fun _ _ _ => rfl, fun j h1 h2 => by omega⟩
    rw [Nat.zero_add, f8_countAll_53, if_pos (show (10 : Int32) ≤ nI 10 by decide)]
    simp only [EV, NUM, pu_lit]
  | succ w ih =>
    intro x S D V f hw h1 hR hr
    have hx : ¬ 10 ≤ x := by omega
    have hRR := hR
    obtain ⟨r1, r2, r3, r4⟩ := hRR
    obtain ⟨c1, c2⟩ := hcg S h1 x (by omega)
    obtain ⟨e8, d8⟩ := r2 x (by omega)
    have STAY : (0 < D x ∨ H x = false ∨ ∃ i, i < 10 ∧ (C x).testBit i = true ∧ D i = 0) → f8_countAll_53 k45 (w + 1 + (f + 1)) S (nI r) (nI x) = f8_countAll_53 k45 (w + (f + 1)) S (nI r) (nI (x + 1)) → ∃ S' D' V', f8_countAll_53 k45 (w + 1 + (f + 1)) S (nI r) (nI x) = k45 S' (nI (r + 1)) ∧ (∀ j, j ≠ 7 → j ≠ 8 → j ≠ 9 → j ≠ 10 → S' j = S j) ∧ RI S' C H nn ss D' V' (10 * r + 10) ∧ (∀ j, j < 10 → 0 < D j → D' j = D j) ∧ ∀ j, x ≤ j → j < 10 → H j = true → (∀ i, i < 10 → (C j).testBit i = true → 0 < D i) → 0 < D' j := by
      intro hst he
      obtain ⟨S', D', V', i1, i2, i3, i4, i5⟩ := ih (x + 1) S D V f (by omega) h1 ⟨r1, fun j hj => ⟨(r2 j hj).1, by have := (r2 j hj).2; omega⟩, r3, r4⟩ hr
      refine ⟨S', D', V', he.trans i1, i2, i3, i4, fun j hj1 hj2 hj3 hj4 => ?_⟩
      rcases Nat.eq_or_lt_of_le hj1 with q | q
      · subst q
        rcases hst with z | z | ⟨i, z1, z2, z3⟩
        · rw [i4 x hj2 z]; exact z
        · rw [z] at hj3; cases hj3
        · have := hj4 i z1 z2; omega
      · exact i5 j q hj2 hj3 hj4
    have HD : f8_countAll_53 k45 (w + 1 + (f + 1)) S (nI r) (nI x) = if D x = 0 then (if (nI (if H x then 1 else 0)) = nI 0 then f8_countAll_53 k45 (w + (f + 1)) S (nI r) (nI (x + 1)) else (f8_areKnown S (nI (C x))).bind (fun v23 => if v23 = nI 0 then f8_countAll_53 k45 (w + (f + 1)) S (nI r) (nI (x + 1)) else f8_countAll_90 k45 (f8_countAll_53 k45 (w + (f + 1))) FU S (nI r) (nI x) (nI 0))) else f8_countAll_53 k45 (w + (f + 1)) S (nI r) (nI (x + 1)) := by
      rw [show w + 1 + (f + 1) = (w + (f + 1)) + 1 by omega, f8_countAll_53]
      unfold f8_countAll_125
      simp (disch := omega) only [EV, NUM, pu_lit, pu_le, hx, if_false, pu_gok, pu_cl, e8, pu_eq, c1, c2]
    by_cases hd0 : D x = 0
    · rw [if_pos hd0] at HD
      cases hH : H x with
      | false =>
        rw [hH] at HD
        simp only [Bool.false_eq_true, if_false, if_true] at HD
        exact STAY (Or.inr (Or.inl hH)) HD
      | true =>
        rw [hH] at HD
        simp only [if_true, z10f, if_false] at HD
        obtain ⟨v, v1, v2, v3⟩ := re_kn (hG x (by omega)) (fun j hj => (r2 j hj).1) (fun j hj => by have := (r2 j hj).2; omega)
        rw [v2] at HD
        simp only [EV] at HD
        rcases (by omega : v = 0 ∨ v = 1) with hv0 | hv1
        · subst hv0
          simp only [if_true] at HD
          refine STAY (Or.inr (Or.inr ?_)) HD
          apply Classical.byContradiction
          intro hn
          have : (0 : Nat) = 1 := v3.mpr (fun j hj hb => by
            rcases Nat.eq_zero_or_pos (D j) with z | z
            · exact absurd ⟨j, hj, hb, z⟩ hn
            · exact z)
          omega
        · subst hv1
          simp only [z10f, if_false] at HD
          have known := v3.mp rfl
          have hkk : (C x).testBit x = false := by
            cases hb : (C x).testBit x with
            | false => rfl
            | true => have := known x (by omega) hb; omega
          obtain ⟨S3, V3, q1, q2, q3, q4, q5, q6⟩ := re_six (S := S) (V := V) (D := D) (k45 := k45) (k53 := f8_countAll_53 k45 (w + (f + 1))) (x1 := nI r) hG c1 (fun S' hS' => (hcg S' (hS'.trans h1) x (by omega)).1) (show x < 10 by omega) (by rw [h1]; exact hT) hH hkk (bd := 10 * r + x) (by omega) r2 6 0 S V (FU - 7) rfl (fun _ _ _ _ => rfl) r1 (fun _ _ _ => rfl) (fun c' e hc' => by omega) (r4 x (by omega) hd0)
          rw [show 6 + (FU - 7 + 1) = FU by unfold FU; omega] at q1
          let D3 : Nat → Nat := fun j => if j = x then 1 + mx (C x) D 10 else D j
          have mxl : mx (C x) D 10 ≤ 10 * r + x := mx_le 10 (fun j hj => (r2 j hj).2)
          have cgV : ∀ j, j < 10 → j ≠ x → 0 < D j → ∀ c e, c < 6 → e < 6 → evt (ss j) (nn j) (pwe e) (Wv V3 e) (nn j + 1) 0 c = evt (ss j) (nn j) (pwe e) (Wv V e) (nn j + 1) 0 c := fun j hj hjx hdj c e hc he => by
            obtain ⟨y1, y2, y3, y4⟩ := r3 j hj hdj
            obtain ⟨hv, -, -, hcl⟩ := hT j hj y1
            refine evt_cg hv (fun z c' hz h107 hc' => ?_) _ 0 c SP.zero (by omega) hc
            obtain ⟨w1, w2⟩ := hcl z hz h107
            have hne : ss j (z + 1) - 48 ≠ x := fun q => by
              rw [q] at w2
              have := y2 x (by omega) w2
              omega
            unfold Wv
            refine q4 _ (by omega) ?_
            rcases Nat.lt_or_ge (ss j (z + 1) - 48) x with q | q <;> omega
          have cgx : ∀ c e, c < 6 → e < 6 → evt (ss x) (nn x) (pwe e) (Wv V3 e) (nn x + 1) 0 c = evt (ss x) (nn x) (pwe e) (Wv V e) (nn x + 1) 0 c := fun c e hc he => by
            obtain ⟨hv, -, -, hcl⟩ := hT x (by omega) hH
            refine evt_cg hv (fun z c' hz h107 hc' => ?_) _ 0 c SP.zero (by omega) hc
            obtain ⟨w1, w2⟩ := hcl z hz h107
            have hne : ss x (z + 1) - 48 ≠ x := fun q => by
              rw [q, hkk] at w2
              cases w2
            unfold Wv
            refine q4 _ (by omega) ?_
            rcases Nat.lt_or_ge (ss x (z + 1) - 48) x with q | q <;> omega
          have mxD : ∀ m, m < 1024 → m.testBit x = false → mx m D3 10 = mx m D 10 := fun m _ hb => mx_cg 10 (fun j hj hbj => by
            show (if j = x then _ else D j) = D j
            rw [if_neg (fun z => by rw [z, hb] at hbj; cases hbj)])
          have R3 : RI S3 C H nn ss D3 V3 (10 * r + (x + 1)) := by
            refine ⟨q3, fun j hj => ⟨q6 j hj, ?_⟩, fun j hj hdj => ?_, fun j hj hdj c e hc he => ?_⟩
            · show (if j = x then _ else D j) ≤ _
              split
              · omega
              · have := (r2 j hj).2; omega
            · by_cases e : j = x
              · subst e
                refine ⟨hH, fun i hi hb => ?_, ?_, fun c e hc he => ?_⟩
                · show 0 < (if i = j then _ else D i)
                  split
                  · omega
                  · exact known i hi hb
                · show (if j = j then _ else D j) = _
                  rw [if_pos rfl, mxD _ (hG j hj) hkk]
                · rw [q5 c e hc he, cgx c e hc he]
              · have hdj' : 0 < D j := by
                  have : D3 j = D j := if_neg e
                  omega
                obtain ⟨y1, y2, y3, y4⟩ := r3 j hj hdj'
                have jx : (C j).testBit x = false := by
                  cases hb : (C j).testBit x with
                  | false => rfl
                  | true => have := y2 x (by omega) hb; omega
                refine ⟨y1, fun i hi hb => ?_, ?_, fun c e' hc he => ?_⟩
                · show 0 < (if i = x then _ else D i)
                  split
                  · omega
                  · exact y2 i hi hb
                · show (if j = x then _ else D j) = _
                  rw [if_neg e, mxD _ (hG j hj) jx]
                  exact y3
                · rw [cgV j hj e hdj' c e' hc he, q4 _ (by omega) (by rcases Nat.lt_or_ge j x with q | q <;> omega)]
                  exact y4 c e' hc he
            · have hjx : j ≠ x := fun z => by
                have : D3 j = 1 + mx (C x) D 10 := if_pos z
                omega
              have : D3 j = D j := if_neg hjx
              rw [q4 _ (by omega) (by rcases Nat.lt_or_ge j x with q | q <;> omega)]
              exact r4 j hj (by omega) c e hc he
          obtain ⟨S', D', V', i1, i2, i3, i4, i5⟩ := ih (x + 1) S3 D3 V3 f (by omega) ((q2 1 (by decide) (by decide) (by decide) (by decide)).trans h1) R3 hr
          have D3o : ∀ j, 0 < D j → D3 j = D j := fun j hj => if_neg (fun z => by rw [z] at hj; omega)
          refine ⟨S', D', V', (HD.trans q1).trans i1, fun j z1 z2 z3 z4 => (i2 j z1 z2 z3 z4).trans (q2 j z1 z2 z3 z4), i3, fun j hj hdj => ?_, fun j hj1 hj2 hj3 hj4 => ?_⟩
          · rw [i4 j hj (by rw [D3o j hdj]; exact hdj), D3o j hdj]
          · rcases Nat.eq_or_lt_of_le hj1 with q | q
            · subst q
              have : 0 < D3 x := by
                show 0 < (if x = x then _ else _)
                rw [if_pos rfl]
                omega
              rw [i4 x hj2 this]
              exact this
            · exact i5 j q hj2 hj3 (fun i hi hb => by rw [D3o i (hj4 i hi hb)]; exact hj4 i hi hb)
    · rw [if_neg hd0] at HD
      exact STAY (Or.inl (by omega)) HD
end ALL
