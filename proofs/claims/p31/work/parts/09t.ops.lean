/-! THE PURE PART, t: the changes -/
section OPS
variable {K : GK} {g g' : GM} {S S' : GS} {B a b h c d : Nat} {s s' : Nat → Int32}
theorem lt_pred {n : Nat} {x : Int32} (h0 : 0 < n) (hn : n < 2 ^ 31) : nI (n - 1) < x ↔ nI n ≤ x := by
  rw [Int32.lt_iff_toInt_lt, Int32.le_iff_toInt_le, nI_toInt (n := n - 1) (by omega), nI_toInt hn]
  omega
theorem i_ne {x y : Int32} (h : x < y) : ¬ y ≤ x := fun z => Int32.not_lt.mpr z h
/-- ranges on both sides -/
theorem rg (x : Int32) {n : Nat} (h0 : 0 < n) (hn : n < 2 ^ 31) : (f7_inRange x (nI n) = some (nI 0) ∧ f8_within x (nI 0) (nI (n - 1)) = some (nI 0)) ∨ ∃ j, j < n ∧ x = nI j ∧ f7_inRange x (nI n) = some (nI 1) ∧ f8_within x (nI 0) (nI (n - 1)) = some (nI 1) := by
  unfold f7_inRange f7_inRange_13 f8_within f8_within_14
  rcases pk_ix x hn with h | h | ⟨j, hj, rfl⟩
  · left
    exact ⟨by rw [if_pos h]; rfl, by rw [if_pos (show x < nI 0 from h)]; rfl⟩
  · left
    have hx : ¬ x < 0 := fun z => by
      have h1 := Int32.lt_iff_toInt_lt.mp z
      have h2 := Int32.le_iff_toInt_le.mp h
      rw [nI_toInt hn] at h2
      have h3 : (0 : Int32).toInt = 0 := rfl
      omega
    exact ⟨by rw [if_neg hx, if_pos h]; rfl, by rw [if_neg (show ¬ x < nI 0 from hx), if_pos ((lt_pred h0 hn).mpr h)]; rfl⟩
  · right
    have n1 : ¬ nI j < 0 := fun z => by have := (nI_ltI (a := j) (b := 0) (by omega) (by omega)).mp z; omega
    have n2 : ¬ nI n ≤ nI j := fun z => by have := (nI_leI hn (by omega)).mp z; omega
    have n3 : ¬ nI (n - 1) < nI j := fun z => n2 ((lt_pred h0 hn).mp z)
    exact ⟨j, hj, rfl, by rw [if_neg n1, if_neg n2]; rfl, by rw [if_neg (show ¬ nI j < nI 0 from n1), if_neg n3]; rfl⟩
theorem rg0 (x : Int32) : f7_inRange x (nI 0) = some (nI 0) := by
  unfold f7_inRange f7_inRange_13
  by_cases h : x < 0
  · rw [if_pos h]; rfl
  · rw [if_neg h, if_pos (show nI 0 ≤ x from Int32.not_lt.mp h)]; rfl
/-- from 1 to n -/
theorem rg1 (x : Int32) {n : Nat} (h0 : 0 < n) (hn : n < 2 ^ 30) : (x < nI 1 ∧ f8_within x (nI 1) (nI n) = some (nI 0)) ∨ (¬ x < nI 1 ∧ ¬ x ≤ nI n ∧ f8_within x (nI 1) (nI n) = some (nI 0)) ∨ ∃ j, 1 ≤ j ∧ j ≤ n ∧ x = nI j ∧ f8_within x (nI 1) (nI n) = some (nI 1) := by
  unfold f8_within f8_within_14
  by_cases h1 : x < nI 1
  · exact Or.inl ⟨h1, by rw [if_pos h1]; rfl⟩
  · by_cases h2 : x ≤ nI n
    · right; right
      rcases pk_ix x (n := n + 1) (by omega) with z | z | ⟨j, hj, rfl⟩
      · exact absurd (i_lt_nI z (by omega)) h1
      · have := (lt_pred (n := n + 1) (by omega) (by omega)).mpr z
        exact absurd h2 (i_ne this)
      · have j1 : 1 ≤ j := by
          apply Classical.byContradiction
          intro z
          exact h1 ((nI_ltI (by omega) (by omega)).mpr (by omega))
        exact ⟨j, j1, by omega, rfl, by rw [if_neg h1, if_neg (fun z => i_ne z h2)]; rfl⟩
    · right; left
      exact ⟨h1, h2, by rw [if_neg h1, if_pos (by
        rcases Classical.em (nI n < x) with z | z
        · exact z
        · exact absurd (Int32.not_lt.mp z) h2)]; rfl⟩
/-- one number of the loom changes -/
theorem LRB.up1 {j x k : Nat} {v : Int32} (hB : LRB K g a s c) (hA : SA K a) (hj : stat j) (hc : cm j = (x, k)) (hx : x ≠ 7) (h0 : j = 0 → ∃ w : Nat, w ≤ 9 ∧ v = nI w) : LRB K (gsI g (a + x) k v) a (upd s j v) c := by
  obtain ⟨b1, ⟨u, v9, b2⟩, ⟨c4, c9, cs4, cl⟩, b4, b5⟩ := hB
  have rgx := cm_rg hj
  rw [hc] at rgx
  dsimp only at rgx
  have hj' := hj
  unfold stat at hj'
  have ag : AG (fun q => a ≤ q ∧ q ≤ a + 8) g (gsI g (a + x) k v) := AG.rf.ai (by omega)
  refine ⟨b1.uq hj hc, ?_, ⟨c4, by rw [gI_ne (by omega)]; exact c9, by rw [pk_un (by omega)]; exact cs4, fun q hq => ?_⟩, ?_, fun q hq => (b5 q hq).mo hq (hA.ta ag (fun q hq => by omega)) rfl (fun y h1 h2 => pk_un (by omega))⟩
  · by_cases e : j = 0
    · subst e
      obtain ⟨w, w9, hw⟩ := h0 rfl
      exact ⟨w, w9, by rw [pk_us, hw]⟩
    · exact ⟨u, v9, by rw [pk_un (by omega)]; exact b2⟩
  · obtain ⟨w, w6, z1, z2⟩ := cl q hq
    exact ⟨w, w6, by rw [gI_ne (by omega)]; exact z1, by rw [pk_un (by omega)]; exact z2⟩
  · clear h0
    rw [pk_un (by omega), b4]
    congr 1
    funext y
    rw [gI_ne (by omega)]
theorem LRF.up1 {j x k : Nat} {v : Int32} (hF : LRF K g a s) (hA : SA K a) (hj : stat j) (hc : cm j = (x, k)) (hx : x ≠ 7) (h0 : j = 0 → ∃ w : Nat, w ≤ 9 ∧ v = nI w) : LRF K (gsI g (a + x) k v) a (upd s j v) := by
  obtain ⟨c, d, h1, h2, h3, h4⟩ := hF
  have rgx := cm_rg hj
  rw [hc] at rgx
  dsimp only at rgx
  have hj' := hj
  unfold stat at hj'
  have ag : AG (fun q => a ≤ q ∧ q ≤ a + 8) g (gsI g (a + x) k v) := AG.rf.ai (by omega)
  exact ⟨c, d, h1.up1 hA hj hc hx h0, h2.base hA ag (pk_un (by omega)) (fun y hy => pk_un (by omega)), by rw [pk_un (by omega), gI_ne (by omega)]; exact h3, h4.mo (fun _ => rfl)⟩
/-- a call that changes: how it ends -/
def OPR (K : GK) (B : Nat) (X : Option (GM × Int32)) (Y : Option (GS × Int32)) : Prop := ∃ g' S' r, X = some (g', r) ∧ Y = some (S', r) ∧ SIM K g' S' B
theorem rw1_of (h : S' 1 = s) : S' = rw1 S' s := by rw [← h, rw1_self]
set_option maxRecDepth 16384 in
theorem op_set (hS : SIM K g S B) (x v : Int32) : OPR K B (f7_set K g B x v) (f8_set S x v) := by
  have hL := hS.1
  unfold f7_set f8_set
  rcases rg x (n := 3) (by omega) (by omega) with ⟨e1, e2⟩ | ⟨j, hj, rfl, e1, e2⟩
  · refine ⟨g, S, -2, ?_, ?_, hS⟩
    · rw [show (3 : Int32) = nI 3 from rfl, e1]; rfl
    · rw [show f8_within x 0 2 = f8_within x (nI 0) (nI (3 - 1)) from rfl, e2]; rfl
  · obtain ⟨g1, S1, k1, k2, k3, k4, k5, -⟩ := hS.keep
    obtain ⟨lo, hi, hlo, hhi, hl9, hh, hle⟩ : ∃ lo hi : Nat, gLow j = nI lo ∧ gHigh j = nI hi ∧ f8_leastOf (nI j) = some (nI lo) ∧ (hi = if j = 0 then 9 else 99) ∧ lo ≤ hi := by
      rcases (by omega : j = 0 ∨ j = 1 ∨ j = 2) with h | h | h <;> subst h
      · exact ⟨1, 9, rfl, rfl, rfl, rfl, by omega⟩
      · exact ⟨2, 99, rfl, rfl, rfl, rfl, by omega⟩
      · exact ⟨0, 99, rfl, rfl, rfl, rfl, by omega⟩
    have hi99 : hi ≤ 99 := by rw [hh]; split <;> omega
    have E1 : (f7_inRange (nI j) 3).bind (fun v1 => if v1 = 0 then some (g, (-2 : Int32)) else gd (gok (nI j) 3) (if v < (gLow (nI j).toNatClampNeg) then some (g, (-2)) else if v ≤ (gHigh (nI j).toNatClampNeg) then (f3_keep K g (B + 42) (B + 10)).bind (fun g11 => gd (gok (nI j) 3) (gl (gI g11 (B + 13) (nI j).toNatClampNeg) (fun v16 => gl (gsI g11 (B + 13) (nI j).toNatClampNeg v) (fun g18 => some (g18, v16))))) else some (g, (-2)))) = if v < nI lo then some (g, (-2 : Int32)) else if v ≤ nI hi then some (gsI g1 (B + 13) j v, gI g1 (B + 13) j) else some (g, (-2)) := by
      rw [show (3 : Int32) = nI 3 from rfl, e1]
      simp (disch := omega) only [EV, pu_gok, pu_cl, hlo, hhi, k1]
      rw [if_neg (show ¬ nI 1 = 0 from by decide)]
    rw [E1]
    have E2 : (f8_within (nI j) 0 2).bind (fun v11 => if v11 = 0 then some (S, (-2 : Int32)) else (f8_leastOf (nI j)).bind (fun v14 => if nI j = 0 then f8_set_25 (nI j) v S v v14 9 else f8_set_25 (nI j) v S v v14 99)) = f8_set_25 (nI j) v S v (nI lo) (nI hi) := by
      rw [show f8_within (nI j) 0 2 = f8_within (nI j) (nI 0) (nI (3 - 1)) from rfl, e2]
      simp (disch := omega) only [EV, hl9]
      rw [if_neg (show ¬ nI 1 = 0 from by decide), hh]
      by_cases hj0 : j = 0
      · subst hj0; rfl
      · rw [if_neg (show ¬ nI j = 0 from fun z => hj0 ((nI_eq (a := j) (b := 0) (by omega) (by omega)).mp z)), if_neg hj0]; rfl
    rw [E2]
    unfold f8_set_25 f8_within f8_within_14
    by_cases h1 : v < nI lo
    · refine ⟨g, S, -2, by rw [if_pos h1], ?_, hS⟩
      rw [if_pos h1]; rfl
    · by_cases h2 : v ≤ nI hi
      · have h2' : ¬ nI hi < v := fun z => i_ne z h2
        have hv : ∃ w : Nat, w ≤ hi ∧ v = nI w := by
          rcases pk_ix v (n := hi + 1) (by omega) with z | z | ⟨w, hw, e⟩
          · exact absurd (i_lt_nI z (by omega)) h1
          · exact absurd ((lt_pred (n := hi + 1) (by omega) (by omega)).mpr z) h2'
          · exact ⟨w, by omega, e⟩
        obtain ⟨w, w9, hw⟩ := hv
        have hF := k3.2.1
        have F2 := hF.up1 (v := v) (hL.sa hL.l1) (cm_s hj).1 (cm_s hj).2 (by omega) (fun z => ⟨w, by rw [hh, if_pos z] at w9; exact w9, hw⟩)
        have hold : S1 1 j = gI g1 (B + 13) j := by
          obtain ⟨c, d, y1, -⟩ := hF
          exact y1.1.at (cm_s hj).1 (cm_s hj).2
        refine ⟨gsI g1 (B + 13) j v, ssI S1 1 j v, gI g1 (B + 13) j, by rw [if_neg h1, if_pos h2], ?_, ?_⟩
        · rw [if_neg h1, if_neg h2']
          simp (disch := omega) only [EV, pu_lit, pu_gok, pu_cl, k2, pu_eq, hold]
          rw [if_neg (by omega)]
        · have := SIM.loom (g' := gsI g1 (B + 13) j v) (s' := upd (S1 1) j v) k3 (AG.rf.ai (by omega)) F2
          rw [← ss_rw, rw1_self] at this
          exact this
      · have h2' : nI hi < v := by
          rcases Classical.em (nI hi < v) with z | z
          · exact z
          · exact absurd (Int32.not_lt.mp z) h2
        refine ⟨g, S, -2, by rw [if_neg h1, if_neg h2], ?_, hS⟩
        rw [if_neg h1, if_pos h2']; rfl
set_option maxRecDepth 16384 in
theorem op_cut (hS : SIM K g S B) : OPR K B (f7_cut K g B) (f8_cut S) := by
  have hL := hS.1
  obtain ⟨g1, S1, k1, k2, k3, k4, k5, -⟩ := hS.keep
  have hF := k3.2.1
  obtain ⟨c, d, h1, h2, h3, h4⟩ := hF
  have hA := hL.sa hL.l1
  obtain ⟨b1, b2, ⟨c4, c9, cs4, cl⟩, b4, b5⟩ := h1
  have ag : AG (fun q => B + 10 ≤ q ∧ q ≤ B + 10 + 8) g1 (gsI g1 (B + 10) 9 (nI 0)) := AG.rf.ai (by omega)
  have n4 : ¬ stat 4 := by unfold stat; omega
  have F2 : LRF K (gsI g1 (B + 10) 9 (nI 0)) (B + 10) (upd (S1 1) 4 (nI 0)) := by
    refine ⟨0, d, ⟨(b1.gi (x := 0) (k := 9) (by omega)).su n4, ?_, ⟨by omega, gI_eq, pk_us, fun k hk => absurd hk (Nat.not_lt_zero k)⟩, ?_, fun q hq => (b5 q hq).mo hq (hA.ta ag (fun q hq => by omega)) rfl (fun y h1 h2 => pk_un (by omega))⟩, h2.base hA ag (pk_un (by omega)) (fun y hy => pk_un (by omega)), by rw [pk_un (by omega), gI_ne (by omega)]; exact h3, h4.mo (fun _ => rfl)⟩
    · obtain ⟨v, v9, z⟩ := b2
      exact ⟨v, v9, by rw [pk_un (by omega)]; exact z⟩
    · rw [pk_un (by omega), b4]
      congr 1
      funext y
      rw [gI_ne (by omega)]
  refine ⟨gsI g1 (B + 10) 9 (nI 0), ssI S1 1 4 (nI 0), nI c, ?_, ?_, ?_⟩
  · unfold f7_cut
    simp only [EV, k1, c9, pu_lit]
  · unfold f8_cut
    simp (disch := omega) only [EV, k2, cs4, pu_lit, pu_gok, pu_cl]
  · have := SIM.loom (g' := gsI g1 (B + 10) 9 (nI 0)) (s' := upd (S1 1) 4 (nI 0)) k3 (AG.rf.ai (by omega)) F2
    rw [← ss_rw, rw1_self] at this
    exact this
set_option maxRecDepth 16384 in
theorem op_tie (hS : SIM K g S B) (x y : Int32) : OPR K B (f7_tie K g B x y) (f8_tie S x y) := by
  have hL := hS.1
  have hA := hL.sa hL.l1
  unfold f7_tie f8_tie f8_isColour
  rcases rg x (n := 6) (by omega) (by omega) with ⟨e1, e2⟩ | ⟨j, hj, rfl, e1, e2⟩
  · refine ⟨g, S, -1, ?_, ?_, hS⟩
    · rw [show (6 : Int32) = nI 6 from rfl, e1]; rfl
    · rw [show f8_within x 0 5 = f8_within x (nI 0) (nI (6 - 1)) from rfl, e2]; rfl
  · rw [show (6 : Int32) = nI 6 from rfl, show f8_within (nI j) 0 5 = f8_within (nI j) (nI 0) (nI (6 - 1)) from rfl, e1, e2]
    have z0 : ¬ nI 1 = 0 := by decide
    have gb : gbl (nI 1) = true := rfl
    simp only [EV, if_neg z0, gb]
    rcases rg1 y (n := 99) (by omega) (by omega) with ⟨f1, f2⟩ | ⟨f1, f2, f3⟩ | ⟨P, P1, P99, rfl, f3⟩
    · refine ⟨g, S, -2, ?_, ?_, hS⟩
      · rw [if_pos (show y < 1 from f1)]
      · rw [show f8_within y 1 99 = f8_within y (nI 1) (nI 99) from rfl, f2]; rfl
    · refine ⟨g, S, -2, ?_, ?_, hS⟩
      · rw [if_neg (show ¬ y < 1 from f1), if_neg (show ¬ y ≤ 99 from f2)]
      · rw [show f8_within y 1 99 = f8_within y (nI 1) (nI 99) from rfl, f3]; rfl
    · obtain ⟨g1, S1, k1, k2, k3, k4, k5, -⟩ := hS.keep
      have hF := k3.2.1
      obtain ⟨⟨q1, q2⟩, ⟨q3, q4⟩, ⟨q5, q6⟩, -⟩ := cm_ell hj
      have e4 : S1 1 (19 + j) = gI g1 (B + 14) j := by
        obtain ⟨c, d, y1, -⟩ := hF
        exact y1.1.at q1 q2
      let v : Int32 := if gI g1 (B + 14) j + nI P < 999 then gI g1 (B + 14) j + nI P else 999
      have F1 := hF.up1 (v := v) hA q1 q2 (by omega) (fun z => by omega)
      have F2 := F1.up1 (v := nI 0) hA q3 q4 (by omega) (fun z => by omega)
      let g2 := gsI (gsI g1 (B + 10 + 4) j v) (B + 10 + 5) j (nI 0)
      let s2 := upd (upd (S1 1) (19 + j) v) (25 + j) (nI 0)
      have e6 : s2 (31 + j) = gI g2 (B + 16) j := by
        obtain ⟨c, d, y1, -⟩ := F2
        exact y1.1.at q5 q6
      have F3 := F2.up1 (v := s2 (31 + j) + nI 1) hA q5 q6 (by omega) (fun z => by omega)
      refine ⟨gsI g2 (B + 16) j (s2 (31 + j) + nI 1), rw1 S1 (upd s2 (31 + j) (s2 (31 + j) + nI 1)), v, ?_, ?_, SIM.loom k3 (((AG.rf.ai (by omega)).ai (by omega)).ai (by omega)) F3⟩
      · have n1 : ¬ nI P < 1 := fun z => by have := (nI_ltI (a := P) (b := 1) (by omega) (by omega)).mp z; omega
        have n2 : nI P ≤ 99 := (nI_leI (a := P) (b := 99) (by omega) (by omega)).mpr P99
        rw [if_neg n1, if_pos n2, k1]
        unfold f4_tieThread
        simp (disch := omega) only [EV, pu_lit, pu_gok, pu_cl]
        have x1 : gI g2 (B + 16) j = gI (gsI (gsI g1 (B + 14) j v) (B + 15) j (nI 0)) (B + 16) j := rfl
        rw [e6]
        show some (gsI g2 (B + 16) j (gI g2 (B + 16) j + nI 1), gI (gsI g2 (B + 16) j (gI g2 (B + 16) j + nI 1)) (B + 14) j) = _
        have x2 : gI (gsI g2 (B + 16) j (gI g2 (B + 16) j + nI 1)) (B + 14) j = v := by
          rw [gI_ne (by omega)]
          show gI (gsI (gsI g1 (B + 14) j v) (B + 15) j _) (B + 14) j = v
          rw [gI_ne (by omega), gI_eq]
        rw [x2]
      · rw [show f8_within (nI P) 1 99 = f8_within (nI P) (nI 1) (nI 99) from rfl, f3]
        simp only [EV, if_neg z0, k2]
        have T : ∀ w : Int32, f8_tie_60 (nI j) (nI P) S1 (nI (19 + j)) w = some (rw1 S1 (upd (upd (upd (S1 1) (19 + j) w) (25 + j) (nI 0)) (31 + j) (S1 1 (31 + j) + nI 1)), w) := fun w => by
          have w1 : upd (upd (S1 1) (19 + j) w) (25 + j) (nI 0) (31 + j) = S1 1 (31 + j) := by rw [pk_un (by omega), pk_un (by omega)]
          have w2 : upd (upd (upd (S1 1) (19 + j) w) (25 + j) (nI 0)) (31 + j) (S1 1 (31 + j) + nI 1) (19 + j) = w := by rw [pk_un (by omega), pk_un (by omega), pk_us]
          unfold f8_tie_60
          rw [show ssI S1 1 (nI (19 + j)).toNatClampNeg w = rw1 S1 (upd (S1 1) (19 + j) w) by rw [pu_cl (by omega), ← ss_rw, rw1_self]]
          simp (disch := omega) only [EV, NUM, pu_lit, pu_gok, pu_cl, rw1_1, ss_rw, w1, w2]
        have s31 : s2 (31 + j) = S1 1 (31 + j) := by show upd (upd (S1 1) _ _) _ _ _ = _; rw [pk_un (by omega), pk_un (by omega)]
        rw [s31]
        simp (disch := omega) only [NUM, pu_lit, pu_gok, pu_cl, EV, T, e4]
        by_cases hv : gI g1 (B + 14) j + nI P < nI 999
        · have hle : gI g1 (B + 14) j + nI P ≤ nI 999 := Int32.le_of_lt hv
          rw [if_pos hle]
          have : v = gI g1 (B + 14) j + nI P := if_pos hv
          show _ = some (rw1 S1 (upd (upd (upd (S1 1) (19 + j) v) (25 + j) (nI 0)) (31 + j) _), v)
          rw [this]
        · have hv' : v = nI 999 := if_neg hv
          show _ = some (rw1 S1 (upd (upd (upd (S1 1) (19 + j) v) (25 + j) (nI 0)) (31 + j) _), v)
          rw [hv']
          by_cases hle : gI g1 (B + 14) j + nI P ≤ nI 999
          · rw [if_pos hle]
            have : gI g1 (B + 14) j + nI P = nI 999 := Int32.le_antisymm hle (Int32.not_lt.mp hv)
            rw [this]
          · rw [if_neg hle]
end OPS
