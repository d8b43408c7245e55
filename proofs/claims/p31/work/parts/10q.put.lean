/-! THE LAW'S LOOM, q: a sign is put -/
theorem sh8 : ∀ j, j < 4 → nI (8 * j) &&& nI 31 = nI (8 * j) ∧ ((nI (8 * j)).toBitVec.smod 32).toNat = 8 * j := by decide +kernel
theorem pk8 {V i : Nat} (hV : V < 2 ^ 31) (hi : i < 4) : (nI V >>> (nI (8 * i) &&& nI 31)) &&& nI 255 = nI (V / 2 ^ (8 * i) % 2 ^ 8) := by
  obtain ⟨a, b⟩ := sh8 i hi
  rw [a, pk_shrN hV _ _ b]
  exact pk_andN (Nat.lt_of_le_of_lt (Nat.div_le_self _ _) (by omega)) 8 rfl
theorem by_put {V c j : Nat} (hV : V < 2 ^ 31) (hc : c < 128) (hj : j < 4) (hz : V / 2 ^ (8 * j) % 2 ^ 8 = 0) : ∃ V', V' < 2 ^ 31 ∧ (nI V ||| (nI c <<< (nI (8 * j) &&& nI 31))) = nI V' ∧ ∀ i, i < 4 → V' / 2 ^ (8 * i) % 2 ^ 8 = if i = j then c else V / 2 ^ (8 * i) % 2 ^ 8 := by
  obtain ⟨a, b⟩ := sh8 j hj
  have pj : 2 ^ (8 * j) ≤ 2 ^ 24 := Nat.pow_le_pow_right (by decide) (by omega)
  have hcol : c * 2 ^ (8 * j) < 2 ^ 31 := Nat.lt_of_le_of_lt (Nat.mul_le_mul (show c ≤ 127 by omega) pj) (by decide)
  have e2 : nI c <<< nI (8 * j) = nI (c * 2 ^ (8 * j)) := pk_shlN _ _ b (by omega)
  refine ⟨V ||| c * 2 ^ (8 * j), Nat.or_lt_two_pow hV hcol, by rw [a, e2, pu_or], fun i hi => ?_⟩
  have T : ∀ t, (V ||| c * 2 ^ (8 * j)).testBit t = (V.testBit t || (decide (8 * j ≤ t) && c.testBit (t - 8 * j))) := fun t => by
    rw [Nat.testBit_or, Nat.testBit_mul_two_pow]
  by_cases hij : i = j
  · subst hij
    rw [if_pos rfl]
    refine Nat.eq_of_testBit_eq fun q => ?_
    rw [Nat.testBit_mod_two_pow, Nat.testBit_div_two_pow, T]
    by_cases hq : q < 8
    · have hb : (V / 2 ^ (8 * i) % 2 ^ 8).testBit q = false := by rw [hz]; exact Nat.zero_testBit q
      rw [Nat.testBit_mod_two_pow, Nat.testBit_div_two_pow] at hb
      simp [hq] at hb
      rw [show q + 8 * i - 8 * i = q by omega, hb]
      simp [hq]
    · have : c.testBit q = false := Nat.testBit_lt_two_pow (Nat.lt_of_lt_of_le (show c < 2 ^ 8 by omega) (Nat.pow_le_pow_right (by decide) (by omega)))
      rw [this]
      simp [hq]
  · rw [if_neg hij]
    refine Nat.eq_of_testBit_eq fun q => ?_
    rw [Nat.testBit_mod_two_pow, Nat.testBit_div_two_pow, T, Nat.testBit_mod_two_pow, Nat.testBit_div_two_pow]
    by_cases hq : q < 8
    · by_cases hge : 8 * j ≤ q + 8 * i
      · have cc : c.testBit (q + 8 * i - 8 * j) = false := Nat.testBit_lt_two_pow (Nat.lt_of_lt_of_le (show c < 2 ^ 7 from hc) (Nat.pow_le_pow_right (by decide) (by omega)))
        rw [cc]
        simp
      · simp [hge]
    · simp [hq]
theorem uv_c : ∀ c, c < 127 → uv (nI c).toInt64 = c := by decide +kernel
theorem ch_1 {c : Nat} (h1 : 33 ≤ c) (h2 : c ≤ 126) : f8_charactersIn (nI c).toInt64 = some (nI 1) := by
  have hu := uv_c c (by omega)
  have L : ∀ n y, uv y = 0 → f8_charactersIn_4 (nI c).toInt64 (n + 1) (nI 1) y = some (nI 1) := fun n y hy => by
    rw [f8_charactersIn_4, if_neg (by decide), uv_and y, if_pos ((lN_0 (Nat.mod_lt _ (by decide))).mpr (by rw [hy]))]
    unfold f8_charactersIn_45
    rw [if_pos ((uv_0 y).mpr hy)]
  unfold f8_charactersIn
  rw [show FU = (FU - 2 + 1) + 1 by unfold FU; omega, f8_charactersIn_4, if_neg (by decide), uv_and, hu, Nat.mod_eq_of_lt (show c < 256 by omega), if_neg (fun z => by have := (lN_0 (by omega)).mp z; omega), lN_i]
  unfold f8_isCharacter f8_within f8_within_14
  rw [if_neg (fun z => by have := (nI_ltI (b := 33) (by omega) (by omega)).mp z; omega), if_neg (fun z => by have := (nI_ltI (a := 126) (by omega) (by omega)).mp z; omega)]
  simp only [EV, gbl1, n1ne]
  exact L _ _ (by rw [uv_sh8, hu]; exact Nat.div_eq_of_lt (by omega))
section LPUT
variable {K : GK} {g : GM} {B : Nat} {L L' L0 : GS} {S S' S0 : GS} {i j k n c a o : Nat} {sn : Nat → Nat} {v : Int32} {q : TQ}
theorem r_put (h1 : 33 ≤ c) (h2 : c ≤ 126) (hn : n < 80) (h7 : S 0 7 = nI n) : ∃ S', f8_put S (nI c).toInt64 = some (S', nI (n + 1)) ∧ (∀ k, k ≠ 0 → k ≠ 6 → S' k = S k) ∧ (∀ j, j ≠ 7 → S' 0 j = S 0 j) ∧ S' 0 7 = nI (n + 1) ∧ S' 6 n = nI c ∧ ∀ j, j < n → S' 6 j = S 6 j := by
  obtain ⟨S', a1, -, a3, a4, a5, a6, a7⟩ := re_app (x := (nI c).toInt64) (m := 1) (by omega) (L := n) (by omega) 1 0 S (FU - 2) rfl h7 (Or.inr (by omega))
  refine ⟨S', ?_, a3, a4, a5, ?_, fun j hj => a7 j (by omega)⟩
  · unfold f8_put
    rw [ch_1 h1 h2, h7]
    simp (disch := omega) only [EV, NUM, pu_lit, pu_le, pk_sub, n1ne, if_false]
    rw [if_neg (by decide), if_pos (by omega)]
    have := a1 (by omega)
    rwa [show 1 + (FU - 2 + 1) = FU by unfold FU; omega] at this
  · have := a6 0 (by omega) (by omega)
    rw [Nat.add_zero] at this
    rw [this, uv_c c (by omega)]
    simp [Nat.mod_eq_of_lt (show c < 256 by omega)]
/-- a text is being made -/
def MK (K : GK) (g : GM) (S : GS) (B : Nat) (L : GS) (a n : Nat) (q : TQ) (S0 L0 : GS) : Prop :=
  SIM K g S B ∧ S 1 = S0 1 ∧ S 0 7 = nI n ∧ n ≤ 24 ∧ (∃ sn, (∀ x, x < n → S 6 x = nI (sn x) ∧ sn x < 128 ∧ AT L 2 a x = nI (sn x)) ∧ tq sn n = q) ∧
  (∀ w, w < 6 → ∃ V, V < 2 ^ 31 ∧ L 2 (6 * a + w) = nI V ∧ ∀ r, r < 4 → n ≤ 4 * w + r → V / 2 ^ (8 * r) % 2 ^ 8 = 0) ∧ L 0 9 = nI n ∧
  (∀ r, r ≠ 0 → r ≠ 2 → L r = L0 r) ∧ (∀ x, x ≠ 9 → L 0 x = L0 0 x) ∧ ∀ x, x < 6 * a ∨ 6 * a + 6 ≤ x → L 2 x = L0 2 x
theorem tq_ext {sn sn' : Nat → Nat} : ∀ n, (∀ x, x < n → sn' x = sn x) → tq sn' n = tq sn n := by
  intro n
  induction n with
  | zero => intro _; rfl
  | succ n ih =>
    intro h
    rw [tq_s, tq_s, ih (fun x hx => h x (by omega)), h n (by omega)]
theorem l_put (h : MK K g S B L a n q S0 L0) (ha : a < 5) (hn : n < 24) (h1 : 33 ≤ c) (h2 : c ≤ 126) : ∃ g' L' S', f9_puts K g L (nI c) B (nI a) = some (g', L') ∧ MK K g' S' B L' a (n + 1) (tstep c n q) S0 L0 := by
  obtain ⟨m1, m2, m3, m4, ⟨sn, m5, m5'⟩, m6, m7, m8, m9, m10⟩ := h
  obtain ⟨g', S', r, e1, e2, hS'⟩ := op_put m1 (nI c).toInt64
  obtain ⟨S1, x0, x1, x2, x3, x4, x5⟩ := r_put h1 h2 (show n < 80 by omega) m3
  rw [x0] at e2
  cases e2
  have k8 : gkd K B = 8 := by unfold gkd; rw [show B = B + 0 from rfl, m1.1.1 0 (by omega)]; rfl
  obtain ⟨V, V31, y1, y2⟩ := m6 (n / 4) (by omega)
  have hj : n - n / 4 * 4 < 4 := by omega
  obtain ⟨V', V31', y3, y4⟩ := by_put (c := c) V31 (by omega) hj (y2 _ hj (by omega))
  let L1 := ssI (ssI L 2 (6 * a + n / 4) (nI V')) 0 9 (nI (n + 1))
  have l2 : ∀ x, L1 2 x = if x = 6 * a + n / 4 then nI V' else L 2 x := fun x => by
    show ssI (ssI L _ _ _) _ _ _ 2 x = _
    rw [ss_n _ _ _ _ _ (by decide), ss_1]
    by_cases z : x = 6 * a + n / 4
    · rw [if_pos z, z, pk_us]
    · rw [if_neg z, pk_un z]
  refine ⟨g', L1, S', ?_, hS', (x1 1 (by decide) (by decide)).trans m2, x3, by omega, ⟨fun x => if x = n then c else sn x, fun x hx => ?_, ?_⟩, fun w hw => ?_, ?_, fun r r0 r2 => ?_, fun x hx => ?_, fun x hx => ?_⟩
  · unfold f9_puts
    simp (disch := omega) only [EV, NUM, pu_lit, m7, pk_div, pk_sub, pu_gok, pu_cl, y1, y3, k8, decide_true, e1]
    have : ssI L 2 (6 * a + n / 4) (nI V') 0 9 = nI n := by rw [ss_n _ _ _ _ _ (by decide)]; exact m7
    rw [this]
    simp only [NUM]
    rfl
  · dsimp only
    by_cases z : x = n
    · subst z
      rw [if_pos rfl]
      refine ⟨x4, by omega, ?_⟩
      unfold AT
      rw [l2, if_pos rfl, pk8 V31' hj, y4 _ hj, if_pos rfl]
    · rw [if_neg z]
      obtain ⟨z1, z2, z3⟩ := m5 x (by omega)
      refine ⟨(x5 x (by omega)).trans z1, z2, ?_⟩
      by_cases zw : x / 4 = n / 4
      · unfold AT at z3 ⊢
        rw [zw] at z3 ⊢
        have hx4 : x - n / 4 * 4 < 4 := by omega
        rw [l2, if_pos rfl, pk8 V31' hx4, y4 _ hx4, if_neg (by omega), ← pk8 V31 hx4, ← y1]
        exact z3
      · unfold AT at z3 ⊢
        rw [l2, if_neg (by omega)]
        exact z3
  · rw [tq_s, tq_ext (sn := sn) n (fun x hx => if_neg (by omega)), m5', if_pos rfl]
  · obtain ⟨V2, z1, z2, z3⟩ := m6 w hw
    by_cases zw : w = n / 4
    · refine ⟨V', V31', by rw [l2, if_pos (by omega)], fun r hr hrn => ?_⟩
      rw [y4 r hr, if_neg (by omega)]
      exact y2 r hr (by omega)
    · exact ⟨V2, z1, by rw [l2, if_neg (by omega)]; exact z2, fun r hr hrn => z3 r hr (by omega)⟩
  · show ssI (ssI L _ _ _) _ _ _ 0 9 = _
    rw [ss_1, pk_us]
  · show ssI (ssI L _ _ _) _ _ _ r = _
    rw [ss_n _ _ _ _ _ r0, ss_n _ _ _ _ _ r2]
    exact m8 r r0 r2
  · show ssI (ssI L _ _ _) _ _ _ 0 x = _
    rw [ss_1, pk_un hx, ss_n _ _ _ _ _ (by decide)]
    exact m9 x hx
  · rw [l2, if_neg (by omega)]
    exact m10 x hx
end LPUT
