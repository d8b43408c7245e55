/-! THE PURE PART, zi: characters are put -/
section PUT
variable {K : GK} {g g' : GM} {S : GS} {B : Nat}
/-- a long as a natural -/
abbrev uv (x : Int64) : Nat := x.toUInt64.toNat
theorem uv_lt (x : Int64) : uv x < 2 ^ 64 := x.toUInt64.toNat_lt
theorem uv_and (x : Int64) : x &&& 255 = lN (uv x % 256) := by
  apply Int64.toBitVec_inj.mp
  apply BitVec.eq_of_toNat_eq
  show (x.toBitVec &&& (255 : Int64).toBitVec).toNat = (BitVec.ofNat 64 (uv x % 256)).toNat
  rw [BitVec.toNat_and, BitVec.toNat_ofNat]
  show uv x &&& 255 = _
  rw [show (255 : Nat) = 2 ^ 8 - 1 from rfl, Nat.and_two_pow_sub_one_eq_mod]
  have := Nat.mod_lt (uv x) (show 0 < 2 ^ 8 by decide)
  exact (Nat.mod_eq_of_lt (show uv x % 2 ^ 8 < 2 ^ 64 by omega)).symm
theorem uv_0 (x : Int64) : (lg_cmp x 0 = 0) ↔ uv x = 0 := by
  rw [lg_cmp_eq]
  constructor
  · intro h; subst h; rfl
  · intro h
    apply Int64.toBitVec_inj.mp
    apply BitVec.eq_of_toNat_eq
    exact h
theorem lN_0 {n : Nat} (h : n < 256) : (lg_cmp (lN n) 0 = 0) ↔ n = 0 := by
  rw [lg_cmp_eq]
  exact lN_eq (b := 0) (by omega) (by omega)
theorem uv_sh8 (x : Int64) : uv (x.toUInt64 >>> (((8 : Int32)).toInt64.toUInt64 &&& Int64.toUInt64 63)).toInt64 = uv x / 256 := by
  show (x.toUInt64 >>> (((8 : Int32)).toInt64.toUInt64 &&& Int64.toUInt64 63)).toNat = _
  rw [UInt64.toNat_shiftRight, show (((8 : Int32)).toInt64.toUInt64 &&& Int64.toUInt64 63).toNat % 64 = 8 from by decide, Nat.shiftRight_eq_div_pow]
theorem chars_eq (x : Int64) : ∃ r, r ≤ 8 ∧ f5_charactersIn x = some (nI r) ∧ f8_charactersIn x = some (nI r) ∧ ∀ j, j < r → 33 ≤ uv x / 256 ^ j % 256 ∧ uv x / 256 ^ j % 256 ≤ 126 := by
  have L : ∀ w m y f, m + w = 8 → uv y = uv x / 256 ^ m → (∀ j, j < m → 33 ≤ uv x / 256 ^ j % 256 ∧ uv x / 256 ^ j % 256 ≤ 126) → ∃ r, r ≤ 8 ∧ f5_charactersIn_8 x (w + (f + 1)) y (nI m) (nI m) = some (nI r) ∧ f8_charactersIn_4 x (w + (f + 1)) (nI m) y = some (nI r) ∧ ∀ j, j < r → 33 ≤ uv x / 256 ^ j % 256 ∧ uv x / 256 ^ j % 256 ≤ 126 := by
    intro w
    induction w with
    | zero =>
      intro m y f hw hy hb
      have : m = 8 := by omega
      subst this
      have h0 : uv y = 0 := by
        rw [hy]
        exact Nat.div_eq_of_lt (uv_lt x)
      refine ⟨8, Nat.le_refl _, ?_, ?_, hb⟩
      · rw [Nat.zero_add, f5_charactersIn_8, if_pos (show (8 : Int32) ≤ nI 8 by decide)]
      · rw [Nat.zero_add, f8_charactersIn_4, if_pos (show (8 : Int32) ≤ nI 8 by decide)]
        unfold f8_charactersIn_45
        rw [if_pos ((uv_0 y).mpr h0)]
    | succ w ih =>
      intro m y f hw hy hb
      have hm : ¬ (8 : Int32) ≤ nI m := fun z => by have := (nI_leI (a := 8) (by omega) (by omega)).mp z; omega
      have c256 : uv y % 256 < 256 := Nat.mod_lt _ (by decide)
      rw [show w + 1 + (f + 1) = (w + (f + 1)) + 1 by omega, f5_charactersIn_8, f8_charactersIn_4, if_neg hm, if_neg hm, uv_and y]
      unfold f8_charactersIn_45
      by_cases h0 : uv y = 0
      · refine ⟨m, by omega, ?_, ?_, hb⟩
        · rw [if_pos ((uv_0 y).mpr h0)]
        · rw [if_pos ((lN_0 c256).mpr (by rw [h0])), if_pos ((uv_0 y).mpr h0)]
      · rw [if_neg (fun z => h0 ((uv_0 y).mp z))]
        rw [lN_i]
        by_cases h1 : uv y % 256 = 0
        · refine ⟨0, by omega, ?_, ?_, fun j hj => absurd hj (Nat.not_lt_zero j)⟩
          · simp only [EV]
            rw [if_pos (show nI (uv y % 256) < 33 from (nI_ltI (b := 33) (by omega) (by omega)).mpr (by omega))]
            rfl
          · rw [if_pos ((lN_0 c256).mpr h1), if_neg (fun z => h0 ((uv_0 y).mp z))]
            rfl
        · rw [if_neg (fun z => h1 ((lN_0 c256).mp z))]
          unfold f8_isCharacter f8_within f8_within_14
          by_cases h33 : uv y % 256 < 33
          · refine ⟨0, by omega, ?_, ?_, fun j hj => absurd hj (Nat.not_lt_zero j)⟩
            · simp only [EV]
              rw [if_pos (show nI (uv y % 256) < 33 from (nI_ltI (b := 33) (by omega) (by omega)).mpr h33)]
              rfl
            · rw [if_pos (show nI (uv y % 256) < 33 from (nI_ltI (b := 33) (by omega) (by omega)).mpr h33)]
              rfl
          · have n33 : ¬ nI (uv y % 256) < 33 := fun z => h33 ((nI_ltI (b := 33) (by omega) (by omega)).mp z)
            by_cases h126 : uv y % 256 ≤ 126
            · have p126 : nI (uv y % 256) ≤ 126 := (nI_leI (b := 126) (by omega) (by omega)).mpr h126
              have hb' : ∀ j, j < m + 1 → 33 ≤ uv x / 256 ^ j % 256 ∧ uv x / 256 ^ j % 256 ≤ 126 := fun j hj => by
                by_cases e : j = m
                · subst e
                  rw [← hy]
                  omega
                · exact hb j (by omega)
              obtain ⟨r, r8, i1, i2, i3⟩ := ih (m + 1) ((y.toUInt64 >>> (((8 : Int32)).toInt64.toUInt64 &&& Int64.toUInt64 63)).toInt64) f (by omega) (by rw [uv_sh8, hy, Nat.div_div_eq_div_mul, Nat.pow_succ]) hb'
              refine ⟨r, r8, ?_, ?_, i3⟩
              · simp only [EV]
                rw [if_neg n33, if_pos p126]
                simp only [gl]
                rw [show nI m + 1 = nI (m + 1) from nI_add m 1]
                exact i1
              · rw [if_neg n33, if_neg (fun z => i_ne z p126)]
                simp only [EV, gl]
                rw [show gbl 1 = true from rfl]
                simp only [EV]
                rw [if_neg (show ¬ (1 : Int32) = 0 by decide), show nI m + 1 = nI (m + 1) from nI_add m 1]
                exact i2
            · have n126 : ¬ nI (uv y % 256) ≤ 126 := fun z => h126 ((nI_leI (b := 126) (by omega) (by omega)).mp z)
              refine ⟨0, by omega, ?_, ?_, fun j hj => absurd hj (Nat.not_lt_zero j)⟩
              · simp only [EV]
                rw [if_neg n33, if_neg n126]
                rfl
              · have p126 : 126 < nI (uv y % 256) := by
                  rcases Classical.em (126 < nI (uv y % 256)) with z | z
                  · exact z
                  · exact absurd (Int32.not_lt.mp z) n126
                rw [if_neg n33, if_pos p126]
                rfl
  obtain ⟨r, r8, i1, i2, i3⟩ := L 8 0 x (FU - 9) rfl (by rw [Nat.pow_zero, Nat.div_one]) (fun j hj => absurd hj (Nat.not_lt_zero j))
  rw [show 8 + (FU - 9 + 1) = FU by unfold FU; omega] at i1 i2
  exact ⟨r, r8, i1, i2, i3⟩
/-- one character, the class -/
theorem cl_ch (x : Int64) {b : Nat} (hb : b < 8) : vp_nar .char ((((((x.toUInt64 >>> ((nI (8 * b)).toInt64.toUInt64 &&& Int64.toUInt64 63)).toInt64) &&& ((255 : Int64))).toInt32).toUInt32 % 65536).toInt32) = nI (uv x / 256 ^ b % 256) := by
  have e : uv (x.toUInt64 >>> ((nI (8 * b)).toInt64.toUInt64 &&& Int64.toUInt64 63)).toInt64 = uv x / 256 ^ b := by
    show (x.toUInt64 >>> ((nI (8 * b)).toInt64.toUInt64 &&& Int64.toUInt64 63)).toNat = _
    rw [UInt64.toNat_shiftRight, Nat.shiftRight_eq_div_pow]
    congr 1
    rcases (by omega : b = 0 ∨ b = 1 ∨ b = 2 ∨ b = 3 ∨ b = 4 ∨ b = 5 ∨ b = 6 ∨ b = 7) with h | h | h | h | h | h | h | h <;> subst h <;> decide
  have c256 := Nat.mod_lt (uv x / 256 ^ b) (show 0 < 256 by decide)
  rw [uv_and, e, lN_i, pk_char]
  have : (nI (uv x / 256 ^ b % 256)).toBitVec.toNat = uv x / 256 ^ b % 256 := by
    show (BitVec.ofNat 32 _).toNat = _
    rw [BitVec.toNat_ofNat, Nat.mod_eq_of_lt (by omega)]
  rw [this, Nat.mod_eq_of_lt (by omega), pu_char (by omega)]
/-- one character, the reference -/
theorem re_ch (x : Int64) {b : Nat} (hb : b < 8) : ((x >>> ((nI (8 * b)).toInt64 &&& 63)) &&& ((255 : Int64))).toInt32 = nI (uv x / 256 ^ b % 256) := by
  have e : uv (x >>> ((nI (8 * b)).toInt64 &&& 63)) % 256 = uv x / 256 ^ b % 256 := by
    have hs : (((nI (8 * b)).toInt64 &&& 63).toBitVec.smod 64#64).toNat = 8 * b := by
      rcases (by omega : b = 0 ∨ b = 1 ∨ b = 2 ∨ b = 3 ∨ b = 4 ∨ b = 5 ∨ b = 6 ∨ b = 7) with h | h | h | h | h | h | h | h <;> subst h <;> decide
    have e1 : (x >>> ((nI (8 * b)).toInt64 &&& 63)).toBitVec = x.toBitVec.sshiftRight (8 * b) := by
      show x.toBitVec.sshiftRight (((nI (8 * b)).toInt64 &&& 63).toBitVec.smod 64#64).toNat = _
      rw [hs]
    show (x >>> ((nI (8 * b)).toInt64 &&& 63)).toBitVec.toNat % 256 = x.toBitVec.toNat / 256 ^ b % 256
    rw [e1]
    apply Nat.eq_of_testBit_eq
    intro i
    rw [show (256 : Nat) = 2 ^ 8 from rfl, Nat.testBit_mod_two_pow, Nat.testBit_mod_two_pow]
    by_cases hi : i < 8
    · have h1 : (x.toBitVec.sshiftRight (8 * b)).toNat.testBit i = x.toBitVec.getLsbD (8 * b + i) := by
        show (x.toBitVec.sshiftRight (8 * b)).getLsbD i = _
        rw [BitVec.getLsbD_sshiftRight]
        rw [if_pos (by omega)]
        simp
        omega
      have h2 : (x.toBitVec.toNat / (2 ^ 8) ^ b).testBit i = x.toBitVec.getLsbD (8 * b + i) := by
        rw [← Nat.pow_mul, ← Nat.shiftRight_eq_div_pow, Nat.testBit_shiftRight]
        rfl
      rw [h1, h2]
    · simp [hi]
  rw [uv_and, e, lN_i]
/-- characters are appended, the class -/
theorem cl_app {x : Int64} {a L m : Nat} (hm : m ≤ 8) (hL : L + m ≤ 80) : ∀ w i g f, i + w = m → gI g a 1 = nI L → ∃ g', f5_append_25 K a x (nI m) (w + (f + 1)) g (nI i) = some g' ∧ AG (fun q => q = a ∨ q = a + 1) g g' ∧ gI g' a 1 = nI (L + m) ∧ (∀ j, i ≤ j → j < m → gI g' (a + 1) (L + j) = nI (uv x / 256 ^ (m - 1 - j) % 256)) ∧ ∀ j, j < L + i → gI g' (a + 1) j = gI g (a + 1) j := by
  intro w
  induction w with
  | zero =>
    intro i g f hw h1
    have : i = m := by omega
    subst this
    refine ⟨gsI g a 1 (nI (L + i)), ?_, AG.rf.ai (Or.inl rfl), gI_eq, fun j h1 h2 => by omega, fun j hj => gI_ne (by omega)⟩
    rw [Nat.zero_add, f5_append_25, if_pos (show nI i ≤ nI i from (nI_leI (by omega) (by omega)).mpr (Nat.le_refl _))]
    simp only [EV, h1, NUM]
  | succ w ih =>
    intro i g f hw h1
    have hi : ¬ nI m ≤ nI i := fun z => by have := (nI_leI (by omega) (by omega)).mp z; omega
    have ch := cl_ch x (b := m - 1 - i) (by omega)
    obtain ⟨g', e, a1, a2, a3, a4⟩ := ih (i + 1) (gsI g (a + 1) (L + i) (nI (uv x / 256 ^ (m - 1 - i) % 256))) f (by omega) (by rw [gI_ne (by omega)]; exact h1)
    refine ⟨g', ?_, (AG.rf.ai (Or.inr rfl)).tr a1, a2, fun j h1 h2 => ?_, fun j hj => by rw [a4 j (by omega), gI_ne (by omega)]⟩
    · rw [show w + 1 + (f + 1) = (w + (f + 1)) + 1 by omega, f5_append_25, if_neg hi, h1]
      have e8 : (8 : Int32) * ((nI m - 1) - nI i) = nI (8 * (m - 1 - i)) := by
        rw [show nI m - 1 = nI m - nI 1 from rfl, pk_sub (by omega), pk_sub (by omega)]
        exact pk_mul 8 _
      rw [e8, ch]
      simp (disch := omega) only [EV, NUM, pu_gok, pu_cl]
      rw [show nI i + 1 = nI (i + 1) from nI_add i 1]
      exact e
    · by_cases hji : j = i
      · subst hji
        rw [a4 _ (by omega), gI_eq]
      · exact a3 j (by omega) h2
theorem re_app {x : Int64} {m : Nat} (hm : m ≤ 8) {L : Nat} (hL : L + m ≤ 80) : ∀ w i S f, i + w = m → S 0 7 = nI (L + i) → w = 0 ∨ 0 < w → ∃ S', (0 < w → f8_put_31 x (w + (f + 1)) S (nI (w - 1)) = some (S', nI (L + m))) ∧ (w = 0 → f8_put_31 x (w + (f + 1)) S (-1) = some (S', nI (L + m))) ∧ (∀ k, k ≠ 0 → k ≠ 6 → S' k = S k) ∧ (∀ j, j ≠ 7 → S' 0 j = S 0 j) ∧ S' 0 7 = nI (L + m) ∧ (∀ j, i ≤ j → j < m → S' 6 (L + j) = nI (uv x / 256 ^ (m - 1 - j) % 256)) ∧ ∀ j, j < L + i → S' 6 j = S 6 j := by
  intro w
  induction w with
  | zero =>
    intro i S f hw h7 _
    have : i = m := by omega
    subst this
    refine ⟨S, fun h => absurd h (Nat.lt_irrefl 0), fun _ => ?_, fun _ _ _ => rfl, fun _ _ => rfl, h7, fun j h1 h2 => by omega, fun _ _ => rfl⟩
    rw [Nat.zero_add, f8_put_31, if_pos (by decide), h7]
  | succ w ih =>
    intro i S f hw h7 _
    have ch := re_ch x (b := w) (by omega)
    let S1 := ssI (ssI S 6 (L + i) (nI (uv x / 256 ^ w % 256))) 0 7 (nI (L + i + 1))
    obtain ⟨S', i1, i2, i3, i4, i5, i6, i7⟩ := ih (i + 1) S1 f (by omega) (by show ssI (ssI S _ _ _) _ _ _ 0 7 = _; rw [ss_at, if_pos ⟨rfl, rfl⟩, Nat.add_assoc]) (by omega)
    refine ⟨S', fun _ => ?_, fun h => by omega, fun k k0 k6 => ?_, fun j hj => ?_, i5, fun j h1 h2 => ?_, fun j hj => ?_⟩
    · have n0 : ¬ nI w < 0 := fun z => by have := (nI_ltI (a := w) (b := 0) (by omega) (by omega)).mp z; omega
      rw [show w + 1 + (f + 1) = (w + (f + 1)) + 1 by omega, f8_put_31, show w + 1 - 1 = w from rfl, if_neg n0, h7, show (8 : Int32) * nI w = nI (8 * w) from pk_mul 8 w, ch, pu_gok (by omega) (by omega), pu_cl (by omega)]
      simp only [EV]
      have e7 : ssI S 6 (L + i) (nI (uv x / 256 ^ w % 256)) 0 7 = nI (L + i) := by rw [ss_n _ _ _ _ _ (by decide)]; exact h7
      rw [e7, show nI (L + i) + 1 = nI (L + i + 1) from nI_add _ 1]
      show f8_put_31 x (w + (f + 1)) S1 (nI w + -1) = _
      rcases Nat.eq_zero_or_pos w with z | z
      · rw [← i2 z, z]
        rfl
      · rw [pu_m1 z]
        exact i1 z
    · rw [i3 k k0 k6]
      show ssI (ssI S _ _ _) _ _ _ k = _
      rw [ss_n _ _ _ _ _ k0, ss_n _ _ _ _ _ k6]
    · rw [i4 j hj]
      show ssI (ssI S _ _ _) _ _ _ 0 j = _
      rw [ss_at, if_neg (fun z => hj z.2), ss_n _ _ _ _ _ (by decide)]
    · by_cases hji : j = i
      · subst hji
        rw [i7 _ (by omega)]
        show ssI (ssI S _ _ _) _ _ _ 6 _ = _
        rw [ss_n _ _ _ _ _ (by decide), ss_at, if_pos ⟨rfl, rfl⟩, show m - 1 - j = w by omega]
      · exact i6 j (by omega) h2
    · rw [i7 j (by omega)]
      show ssI (ssI S _ _ _) _ _ _ 6 j = _
      rw [ss_n _ _ _ _ _ (by decide), ss_at, if_neg (by omega)]
theorem op_put (hS : SIM K g S B) (x : Int64) : OPR K B (f7_put K g B x) (f8_put S x) := by
  obtain ⟨sn, L, ⟨p1, p2, p3, p4⟩, r1, r2, r3⟩ := hS.2.2.2.2
  obtain ⟨m, m8, c1, c2, c3⟩ := chars_eq x
  unfold f7_put f8_put
  rw [c1, c2]
  simp only [EV]
  by_cases hm0 : m = 0
  · subst hm0
    exact ⟨g, S, -2, rfl, rfl, hS⟩
  · have n0 : ¬ nI m = 0 := fun z => hm0 ((nI_eq (b := 0) (by omega) (by omega)).mp z)
    rw [if_neg n0, if_neg n0, p3, r2]
    by_cases hl : L + m ≤ 80
    · have q1 : nI m ≤ 80 - nI L := by
        rw [show (80 : Int32) = nI 80 from rfl, pk_sub (by omega)]
        exact (nI_leI (by omega) (by omega)).mpr (by omega)
      have q2 : nI L + nI m ≤ 80 := by
        rw [nI_add]
        exact (nI_leI (b := 80) (by omega) (by omega)).mpr hl
      obtain ⟨g', e1, ag, a1, a2, a3⟩ := cl_app (K := K) (x := x) (a := B + 1) m8 hl m 0 g (FU - m - 1) (by omega) p3
      rw [show m + (FU - m - 1 + 1) = FU by unfold FU; omega] at e1
      obtain ⟨S', e2, -, k1, k0, b1, b2, b3⟩ := re_app (x := x) m8 hl m 0 S (FU - m - 1) (by omega) r2 (by omega)
      have e2 := e2 (by omega)
      rw [show m + (FU - m - 1 + 1) = FU by unfold FU; omega] at e2
      let sn' : Nat → Nat := fun j => if j < L then sn j else uv x / 256 ^ (m - 1 - (j - L)) % 256
      have new : ∀ j, L ≤ j → j < L + m → sn' j < 128 := fun j h1 h2 => by
        have := c3 (m - 1 - (j - L)) (by omega)
        show (if j < L then _ else _) < 128
        rw [if_neg (by omega)]
        omega
      refine ⟨g', S', nI (L + m), ?_, ?_, SIM.pad (sn := sn') (L := L + m) hS ag ⟨p1, hl, a1, fun j hj => ?_⟩ ⟨hl, b1, fun j hj => ?_⟩ (k0 3 (by decide)) (fun k h1 h5 => k1 k (by omega) (by omega))⟩
      · rw [if_pos q1]
        have : f5_append K g (B + 1) x (nI m) = some g' := by
          unfold f5_append
          rw [if_neg (show ¬ nI m < 0 from fun z => by have := (nI_ltI (a := m) (b := 0) (by omega) (by omega)).mp z; omega), if_neg (show ¬ 8 < nI m from fun z => by have := (nI_ltI (a := 8) (b := m) (by omega) (by omega)).mp z; omega), p3, if_pos q1]
          exact e1
        rw [this]
        simp only [EV]
        rw [a1]
      · rw [if_pos q2]
        rw [show nI m - 1 = nI (m - 1) from pk_sub (b := 1) (by omega)]
        exact e2
      · by_cases h : j < L
        · have : sn' j = sn j := if_pos h
          rw [this, a3 j (by omega)]
          exact p4 j h
        · have e : sn' j = uv x / 256 ^ (m - 1 - (j - L)) % 256 := if_neg h
          refine ⟨?_, new j (by omega) hj⟩
          have := a2 (j - L) (Nat.zero_le _) (by omega)
          rw [show L + (j - L) = j by omega] at this
          rw [this, e]
      · by_cases h : j < L
        · have : sn' j = sn j := if_pos h
          rw [this, b3 j (by omega)]
          exact r3 j h
        · have e : sn' j = uv x / 256 ^ (m - 1 - (j - L)) % 256 := if_neg h
          refine ⟨?_, new j (by omega) hj⟩
          have := b2 (j - L) (Nat.zero_le _) (by omega)
          rw [show L + (j - L) = j by omega] at this
          rw [this, e]
    · refine ⟨g, S, -4, ?_, ?_, hS⟩
      · rw [if_neg]
        intro z
        rw [show (80 : Int32) = nI 80 from rfl, pk_sub (by omega)] at z
        have := (nI_leI (by omega) (by omega)).mp z
        omega
      · rw [if_neg]
        intro z
        rw [nI_add] at z
        have := (nI_leI (b := 80) (by omega) (by omega)).mp z
        omega
end PUT
