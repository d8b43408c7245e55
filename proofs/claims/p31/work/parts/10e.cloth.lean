/-! THE LAW'S LOOM, e: the cloth's packed picks; what hinders -/
theorem pu_xor (x y : Nat) : nI x ^^^ nI y = nI (x ^^^ y) := by
  apply Int32.toBitVec_inj.mp
  apply BitVec.eq_of_toNat_eq
  show (x % 2 ^ 32) ^^^ (y % 2 ^ 32) = (x ^^^ y) % 2 ^ 32
  rw [Nat.xor_mod_two_pow]
theorem sh3 : ∀ j, j < 10 → nI (3 * j) &&& nI 31 = nI (3 * j) ∧ ((nI (3 * j)).toBitVec.smod 32).toNat = 3 * j := by decide +kernel
theorem pk3 {V i : Nat} (hV : V < 2 ^ 31) (hi : i < 10) : (nI V >>> (nI (3 * i) &&& nI 31)) &&& nI 7 = nI (V / 2 ^ (3 * i) % 2 ^ 3) := by
  obtain ⟨a, b⟩ := sh3 i hi
  rw [a, pk_shrN hV _ _ b]
  exact pk_andN (Nat.lt_of_le_of_lt (Nat.div_le_self _ _) (by omega)) 3 rfl
theorem p2_30 {j : Nat} (hj : j < 10) : 2 ^ (3 * j) ≤ 2 ^ 27 := Nat.pow_le_pow_right (by decide) (by omega)
theorem cl_put {V col j : Nat} (hV : V < 2 ^ 30) (hc : col < 8) (hj : j < 10) : ∃ V', V' < 2 ^ 30 ∧ ((nI V &&& ((nI 7 <<< (nI (3 * j) &&& nI 31)) ^^^ (-1))) ||| (nI col <<< (nI (3 * j) &&& nI 31))) = nI V' ∧ ∀ i, i < 10 → (nI V' >>> (nI (3 * i) &&& nI 31)) &&& nI 7 = if i = j then nI col else (nI V >>> (nI (3 * i) &&& nI 31)) &&& nI 7 := by
  obtain ⟨a, b⟩ := sh3 j hj
  have pj := p2_30 hj
  have h7 : 7 * 2 ^ (3 * j) < 2 ^ 30 := by omega
  have hcol : col * 2 ^ (3 * j) < 2 ^ 30 := Nat.lt_of_le_of_lt (Nat.mul_le_mul_right _ (show col ≤ 7 by omega)) h7
  have e1 : nI 7 <<< nI (3 * j) = nI (7 * 2 ^ (3 * j)) := pk_shlN _ _ b (by omega)
  have e2 : nI col <<< nI (3 * j) = nI (col * 2 ^ (3 * j)) := pk_shlN _ _ b (by omega)
  have hV' : (V &&& (7 * 2 ^ (3 * j) ^^^ (2 ^ 32 - 1)) ||| col * 2 ^ (3 * j)) < 2 ^ 30 := Nat.or_lt_two_pow (Nat.lt_of_le_of_lt Nat.and_le_left hV) hcol
  refine ⟨V &&& (7 * 2 ^ (3 * j) ^^^ (2 ^ 32 - 1)) ||| col * 2 ^ (3 * j), hV', ?_, fun i hi => ?_⟩
  · rw [a, e1, e2, show (-1 : Int32) = nI (2 ^ 32 - 1) from by decide +kernel, pu_xor, pu_and, pu_or]
  · rw [pk3 (by omega) hi, pk3 (by omega) hi]
    have T : ∀ t, (V &&& (7 * 2 ^ (3 * j) ^^^ (2 ^ 32 - 1)) ||| col * 2 ^ (3 * j)).testBit t = (V.testBit t && ((decide (3 * j ≤ t) && Nat.testBit 7 (t - 3 * j)) ^^ decide (t < 32)) || (decide (3 * j ≤ t) && col.testBit (t - 3 * j))) := fun t => by
      rw [Nat.testBit_or, Nat.testBit_and, Nat.testBit_xor, Nat.testBit_mul_two_pow, Nat.testBit_mul_two_pow, Nat.testBit_two_pow_sub_one]
    by_cases hij : i = j
    · subst hij
      rw [if_pos rfl]
      refine congrArg nI (Nat.eq_of_testBit_eq fun q => ?_)
      rw [Nat.testBit_mod_two_pow, Nat.testBit_div_two_pow, T]
      by_cases hq : q < 3
      · have h7q : Nat.testBit 7 q = true := by
          rcases (by omega : q = 0 ∨ q = 1 ∨ q = 2) with h | h | h <;> subst h <;> rfl
        rw [show q + 3 * i - 3 * i = q by omega, h7q]
        simp [hq]
        intro h1 h2
        omega
      · have : col.testBit q = false := Nat.testBit_lt_two_pow (Nat.lt_of_lt_of_le hc (show 2 ^ 3 ≤ 2 ^ q from Nat.pow_le_pow_right (by decide) (by omega)))
        rw [this]
        simp [hq]
    · rw [if_neg hij]
      refine congrArg nI (Nat.eq_of_testBit_eq fun q => ?_)
      rw [Nat.testBit_mod_two_pow, Nat.testBit_div_two_pow, T, Nat.testBit_mod_two_pow, Nat.testBit_div_two_pow]
      by_cases hq : q < 3
      · by_cases hge : 3 * j ≤ q + 3 * i
        · have g3 : 3 ≤ q + 3 * i - 3 * j := by omega
          have c7 : Nat.testBit 7 (q + 3 * i - 3 * j) = false := Nat.testBit_lt_two_pow (Nat.lt_of_lt_of_le (show 7 < 2 ^ 3 by decide) (Nat.pow_le_pow_right (by decide) g3))
          have cc : col.testBit (q + 3 * i - 3 * j) = false := Nat.testBit_lt_two_pow (Nat.lt_of_lt_of_le hc (show 2 ^ 3 ≤ _ from Nat.pow_le_pow_right (by decide) g3))
          rw [c7, cc]
          simp [hq, show q + 3 * i < 32 by omega]
        · simp [hq, hge, show q + 3 * i < 32 by omega]
      · simp [hq]
theorem ite_i {α : Type} {P : Prop} {i1 i2 : Decidable P} {x y x' y' : α} (hx : x = x') (hy : y = y') : @ite α P i1 x y = @ite α P i2 x' y' := by
  subst hx
  subst hy
  rw [Subsingleton.elim i1 i2]
section LCLOTH
variable {L L' L1 L2 : GS} {S : GS} {s s' s1 s2 : Nat → Int32} {i j k n p m q c u l e T d : Nat} {sn : Nat → Nat} {v : Int32}
/-- what may be done -/
def OKL (L : GS) (s : Nat → Int32) (c d st : Nat) : Prop :=
  ∃ i n sn p m, d = i + 1 ∧ FL L s i n sn p m ∧ p < n ∧ sn p ≠ 41 ∧ st < 500 ∧ (sn p = 119 → c < 400 ∧ ∃ col, col < 6 ∧ s (fb i + 1) = nI col ∧ s (19 + col) ≠ 0) ∧ (sn p = 107 → ∃ k, k < 5 ∧ sn (p + 1) = k + 48 ∧ s (43 + k) ≠ nI 0 ∧ i + 1 < 9)
theorem w185 {st : Nat} (hst : st ≤ 500) : f9_why_185 L (nI st) = some (nI (if st < 500 then 0 else 7)) := by
  unfold f9_why_185
  simp (disch := omega) only [pu_lit, pu_lt]
  by_cases h : st < 500
  · rw [if_pos h, if_pos h]
  · rw [if_neg h, if_neg h]
theorem r48 {st : Nat} (hst : st ≤ 500) : f8_reason_48 S (nI st) (nI 0) = some (nI (if st < 500 then 0 else 7)) := by
  unfold f8_reason_48 f8_reason_65
  simp (disch := omega) only [pu_lit, pu_lt, if_true]
  by_cases h : st < 500
  · rw [if_pos h, if_pos h]
  · rw [if_neg h, if_neg h]
theorem r48n {st v : Nat} (hv : 0 < v) (hv8 : v < 8) : f8_reason_48 S (nI st) (nI v) = some (nI v) := by
  unfold f8_reason_48 f8_reason_65
  rw [if_neg (nI_ne0 hv (by omega))]
theorem l_why (hB : BAL L s c T) (hS : STL L s d atStep) {st : Nat} (hst : st ≤ 500) : ∃ v : Nat, v < 8 ∧ f9_why L (nI st) = some (nI v) ∧ f8_reason (rw1 S s) (nI st) = some (nI v) ∧ (v = 0 → OKL L s c d st) := by
  obtain ⟨q1, q2, q3, q4, q5⟩ := hS
  cases d with
  | zero =>
    refine ⟨1, by omega, ?_, ?_, fun z => by omega⟩
    · unfold f9_why
      simp (disch := omega) only [EV, pu_lit, pu_gok, pu_cl, q1, if_true]
    · unfold f8_reason
      simp (disch := omega) only [EV, pu_lit, pu_gok, pu_cl, rw1_1, q2, if_true]
  | succ i =>
    obtain ⟨n, sn, p, m, h, hp, h41⟩ := q5 i rfl
    have hi : i < 9 := by omega
    have n24 := h.2.1
    have hv := h.1.1
    have hs := h.1.2.2.2.2.2.1
    obtain ⟨col, c6, hc1, hc2⟩ := h.l1
    have hcp := hv.2.2.2 p hp
    have A6 := h.at hi hp
    have RT2 := re_top (S := S) (k := 2) hi q2 (by omega)
    have RT1 := re_top (S := S) (k := 1) hi q2 (by omega)
    rw [h.1.2.2.2.2.1] at RT2
    rw [hc1] at RT1
    have RS := re_sign (S := S) (k := p) hi q2 (by omega)
    rw [h.1.2.2.2.2.2.2.2.2.1 p hp] at RS
    have T0 := hB.2.2.2.2.1 col (by omega)
    have T1 := hB.2.2.2.2.1 (6 + col) (by omega)
    rw [show 19 + (6 + col) = 25 + col by omega] at T1
    have S1 := hB.1 1 (by omega)
    have S0 := hB.1 0 (by omega)
    obtain ⟨c400, C4, C4', -⟩ := hB.2.2.2.2.2.2.1
    have i1 : ¬ i + 1 = 0 := by omega
    have E9 : f9_why L (nI st) = if sn p = 119 then (if s (19 + col) = 0 then f9_why_82 L (nI st) (nI col) else if s 1 ≤ s (25 + col) then f9_why_82 L (nI st) (nI col) else if c = 400 then f9_why_82 L (nI st) (nI col) else f9_why_112 L (nI st) (nI (6 * i)) (nI (sn p))) else f9_why_112 L (nI st) (nI (6 * i)) (nI (sn p)) := by
      unfold f9_why
      simp (disch := omega) only [EV, NUM, pu_lit, pu_eq, pu_gok, pu_cl, q1, pk_sub, Nat.add_sub_cancel, h.l2, hc2, A6, T0, T1, S1, C4, i1, if_false]
      repeat' (first | rfl | refine ite_i ?_ ?_)
    have E8 : f8_reason (rw1 S s) (nI st) = if sn p = 119 then (f8_reasonOfPick (rw1 S s)).bind (fun v => f8_reason_48 (rw1 S s) (nI st) v) else if sn p = 107 then (f8_reasonOfCall (rw1 S s)).bind (fun v => f8_reason_48 (rw1 S s) (nI st) v) else f8_reason_48 (rw1 S s) (nI st) (nI 0) := by
      unfold f8_reason
      simp (disch := omega) only [EV, NUM, pu_lit, pu_eq, pu_gok, pu_cl, rw1_1, q2, RT2, RS, i1, if_false]
    rw [E9, E8]
    have W0 : ∀ st, st ≤ 500 → (if st < 500 then 0 else 7) < 8 := fun st _ => by split <;> omega
    by_cases h119 : sn p = 119
    · rw [if_pos h119, if_pos h119]
      have RP : f8_reasonOfPick (rw1 S s) = if s (19 + col) = 0 then some (nI 2) else if s (25 + col) < s 1 then (if c = 400 then some (nI 4) else some (nI 0)) else some (nI 3) := by
        unfold f8_reasonOfPick
        simp (disch := omega) only [EV, NUM, pu_lit, pu_eq, pu_gok, pu_cl, rw1_1, RT1, C4']
        repeat' (first | rfl | refine ite_i ?_ ?_)
      have W82 : f9_why_82 L (nI st) (nI col) = if s (19 + col) = 0 then some (nI 2) else if s (25 + col) < s 1 then some (nI 4) else some (nI 3) := by
        unfold f9_why_82
        simp (disch := omega) only [EV, NUM, pu_lit, pu_gok, pu_cl, T0, T1, S1]
        repeat' (first | rfl | refine ite_i ?_ ?_)
      rw [RP, W82]
      by_cases z0 : s (19 + col) = 0
      · refine ⟨2, by omega, ?_, ?_, fun z => by omega⟩
        · rw [if_pos z0, if_pos z0]
        · rw [if_pos z0]; exact r48n (by omega) (by omega)
      · by_cases z1 : s 1 ≤ s (25 + col)
        · have z1' : ¬ s (25 + col) < s 1 := Int32.not_lt.mpr z1
          refine ⟨3, by omega, ?_, ?_, fun z => by omega⟩
          · rw [if_neg z0, if_pos z1, if_neg z0, if_neg z1']
          · rw [if_neg z0, if_neg z1']; exact r48n (by omega) (by omega)
        · have z1' : s (25 + col) < s 1 := Int32.not_le.mp z1
          by_cases z2 : c = 400
          · refine ⟨4, by omega, ?_, ?_, fun z => by omega⟩
            · rw [if_neg z0, if_neg z1, if_pos z2, if_neg z0, if_pos z1']
            · rw [if_neg z0, if_pos z1', if_pos z2]; exact r48n (by omega) (by omega)
          · refine ⟨if st < 500 then 0 else 7, W0 st hst, ?_, ?_, fun z => ⟨i, n, sn, p, m, rfl, h, hp, h41, by split at z <;> omega, fun _ => ⟨by omega, col, c6, hc1, z0⟩, fun z => by omega⟩⟩
            · rw [if_neg z0, if_neg z1, if_neg z2]
              unfold f9_why_112
              rw [h119, if_neg (by decide)]
              exact w185 hst
            · rw [if_neg z0, if_pos z1', if_neg z2]; exact r48 hst
    · rw [if_neg h119, if_neg h119]
      by_cases h107 : sn p = 107
      · rw [if_pos h107]
        obtain ⟨k1, k2, k3, k4, k5⟩ := hs.k hv hp h107
        have A7 := h.at hi k1
        have RS1 := re_sign (S := S) (k := p + 1) hi q2 (by omega)
        rw [h.1.2.2.2.2.2.2.2.2.1 (p + 1) k1] at RS1
        obtain ⟨k, hk⟩ : ∃ k, sn (p + 1) = k + 48 := ⟨sn (p + 1) - 48, by omega⟩
        rw [hk] at A7 RS1
        have hk10 : k < 10 := by omega
        obtain ⟨v0, v9, hv0⟩ := hB.2.1.1
        have W112 : f9_why_112 L (nI st) (nI (6 * i)) (nI (sn p)) = if 4 < k then f9_why_165 L (nI st) (nI k) else if L 3 k = 0 then f9_why_165 L (nI st) (nI k) else if i + 1 < v0 then f9_why_185 L (nI st) else f9_why_165 L (nI st) (nI k) := by
          unfold f9_why_112
          rw [h107]
          simp (disch := omega) only [EV, NUM, pu_lit, pu_eq, pu_lt, pu_gok, pu_cl, q1, pk_sub, Nat.add_sub_cancel, h.l2, A7, S0, hv0, if_true]
          repeat' (first | rfl | refine ite_i ?_ ?_)
        have RC : f8_reasonOfCall (rw1 S s) = if s (43 + k) ≤ nI 0 then some (nI 5) else if i + 1 < v0 then some (nI 0) else some (nI 6) := by
          unfold f8_reasonOfCall f8_hasText
          simp (disch := omega) only [EV, NUM, pu_lit, pu_eq, pu_lt, pu_gok, pu_cl, rw1_1, q2, RT2, RS1, pk_sub, Nat.add_sub_cancel, hv0]
          by_cases z : s (43 + k) ≤ nI 0
          · simp (disch := omega) only [if_pos z, EV, pu_eq, pu_lit, if_true]
          · simp (disch := omega) only [if_neg z, EV, pu_eq, pu_lit]
            rw [if_neg (by decide)]
        rw [W112, RC]
        by_cases k4 : 4 < k
        · have z := hB.2.2.2.2.2.2.2.2 k (by omega) hk10
          refine ⟨5, by omega, ?_, ?_, fun z => by omega⟩
          · rw [if_pos k4]
            unfold f9_why_165 f9_why_178
            simp (disch := omega) only [pu_lit, pu_lt]
            rw [if_pos k4]
          · rw [z, if_pos ((nI_leI (by omega) (by omega)).mpr (Nat.le_refl _))]
            exact r48n (by omega) (by omega)
        · obtain ⟨nk, snk, y1, y2, y3, y4, y5⟩ := hB.2.2.2.2.2.2.2.1 k (by omega)
          have X165 : f9_why_165 L (nI st) (nI k) = if nk = 0 then some (nI 5) else some (nI 6) := by
            unfold f9_why_165 f9_why_178
            simp (disch := omega) only [EV, pu_lit, pu_lt, pu_gok, pu_cl, y1, pu_eq]
            rw [if_neg k4]
          rw [if_neg k4, y1, y2, X165]
          by_cases z0 : nk = 0
          · subst z0
            refine ⟨5, by omega, ?_, ?_, fun z => by omega⟩
            · rw [if_pos nI_0, if_pos rfl]
            · rw [if_pos ((nI_leI (by omega) (by omega)).mpr (Nat.le_refl _))]
              exact r48n (by omega) (by omega)
          · have e1 : ¬ nI nk = 0 := nI_ne0 (by omega) (by omega)
            have e2 : ¬ nI nk ≤ nI 0 := fun z => by have := (nI_leI (by omega) (by omega)).mp z; omega
            rw [if_neg e1, if_neg e2, if_neg z0]
            by_cases zd : i + 1 < v0
            · refine ⟨if st < 500 then 0 else 7, W0 st hst, ?_, ?_, fun z => ⟨i, n, sn, p, m, rfl, h, hp, h41, by split at z <;> omega, fun z => by omega, fun _ => ⟨k, by omega, hk, by rw [y2]; exact e1, by omega⟩⟩⟩
              · rw [if_pos zd]; exact w185 hst
              · rw [if_pos zd]; exact r48 hst
            · refine ⟨6, by omega, ?_, ?_, fun z => by omega⟩
              · rw [if_neg zd]
              · rw [if_neg zd]; exact r48n (by omega) (by omega)
      · rw [if_neg h107]
        refine ⟨if st < 500 then 0 else 7, W0 st hst, ?_, ?_, fun z => ⟨i, n, sn, p, m, rfl, h, hp, h41, by split at z <;> omega, fun z => by omega, fun z => by omega⟩⟩
        · unfold f9_why_112
          simp (disch := omega) only [pu_lit, pu_eq, h107, if_false]
          exact w185 hst
        · exact r48 hst
end LCLOTH
