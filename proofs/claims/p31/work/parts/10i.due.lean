/-! THE LAW'S LOOM, i: calls that change the loom -/
section LDUE
variable {K : GK} {g : GM} {B : Nat} {L L' L1 L2 : GS} {S S' S1 : GS} {s s' s1 s2 : Nat → Int32} {i j k n p m q c u l e T d : Nat} {sn : Nat → Nat} {v : Int32}
theorem FL.row (h : FL L s i n sn p m) (hi : i < 9) (hs : ∀ x, x < 2081 → s' x = s x) : FL L s' i n sn p m :=
  h.mo (fun _ _ => rfl) (fun k hk => hs _ (fb_lt hi hk))
theorem LR.row (h : LR L s T) (hs : ∀ x, x < 2081 → s' x = s x) : LR L s' T := by
  obtain ⟨c, d, h1, ⟨b1, b2, b3, b4, b5⟩, h3⟩ := h
  have m : MVL L L s s' 0 := ⟨fun _ _ _ _ => rfl, fun _ _ => rfl, fun _ _ => ⟨rfl, rfl⟩, fun x hx _ => hs x (by have : x < 1253 + 92 * 0 := hx; omega)⟩
  refine ⟨c, d, h1.mv m, ⟨b1, by rw [hs 3 (by omega)]; exact b2, b3, fun j hj => ?_, fun j hj => ?_⟩, by rw [hs 8 (by omega)]; exact h3⟩
  · obtain ⟨n, sn, p, m, z1, z2⟩ := b4 j hj
    exact ⟨n, sn, p, m, z1.row (by omega) hs, z2⟩
  · obtain ⟨n, sn, p, m, z1, z2⟩ := b5 j hj
    exact ⟨n, sn, p, m, z1.row (by omega) hs, z2⟩
theorem BAL.le {T' : Nat} (h : BAL L s c T) (hT : T ≤ T') : BAL L s c T' := by
  obtain ⟨a1, a2, a3, ⟨W, WT, a4⟩, a5⟩ := h
  exact ⟨a1, a2, a3, ⟨W, by omega, a4⟩, a5⟩
/-- the state ahead of a call is kept -/
def KEEP (S S' : GS) : Prop := ∃ h, h < 6 ∧ S' 0 3 = nI (h + 1) ∧ ∀ y, y < 2081 → S' 3 (h * 2081 + y) = S 1 y
theorem rec_of (hS : SIM K g S B) : ∃ S1, f8_record S = some S1 ∧ S1 1 = S 1 ∧ KEEP S S1 := by
  obtain ⟨-, -, ⟨h, σ, b1, b2, b3, -⟩, -⟩ := hS
  obtain ⟨S1, e, e1, e2, e3, e4, e5⟩ := re_record b1 b3
  exact ⟨S1, e, e1 1 (by decide) (by decide) (by decide), hd5 h, by unfold hd5; split <;> omega, e3, e4⟩
theorem KEEP.rw (h : KEEP S S1) (s : Nat → Int32) : KEEP S (rw1 S1 s) := by
  obtain ⟨h, h6, e1, e2⟩ := h
  exact ⟨h, h6, by rw [rw1_n _ _ (by decide)]; exact e1, by rw [rw1_n _ _ (by decide)]; exact e2⟩
theorem undo_keep (h : KEEP S S') : ∃ S2 r, f8_undo S' = some (S2, nI r) ∧ r < 6 ∧ ∀ y, y < 2081 → S2 1 y = S 1 y := by
  obtain ⟨h, h6, e1, e2⟩ := h
  have s3 : ssI S' 0 3 (nI h) 0 3 = nI h := by rw [ss_1, pk_us]
  obtain ⟨S2, e3, y1, y2, y3⟩ := rl_undo (h := h) (by omega) 2081 0 (ssI S' 0 3 (nI h)) (FU - 2081) rfl s3
  rw [show 2081 + (FU - 2081) = FU by unfold FU; omega] at e3
  have S03 : S2 0 3 = nI h := by rw [y1 0 (by decide)]; exact s3
  refine ⟨S2, h, ?_, h6, fun y hy => ?_⟩
  · unfold f8_undo
    rw [e1, if_neg (nI_ne0 (by omega) (by omega))]
    simp (disch := omega) only [EV, pu_lit, pk_sub, Nat.add_sub_cancel]
    rw [e3, show FU - 2081 = (FU - 2082) + 1 by unfold FU; omega, f8_undo_22]
    simp (disch := omega) only [pu_lit, pu_le, S03]
    rw [if_pos (Nat.le_refl _)]
  · have := y2 y (Nat.zero_le _) hy
    rw [Nat.zero_add] at this
    rw [this, ss_n _ _ _ _ _ (by decide)]
    exact e2 y hy
/-- how a call ends on both sides -/
def LDU (S L : GS) (T : Nat) (X Y : Option (GS × Int32)) : Prop :=
  ∃ L' S' r, X = some (L', r) ∧ Y = some (S', r) ∧ LR L' (S' 1) (T + 99) ∧ ((r < 0 ∧ S' = S ∧ L' = L) ∨ (¬ r < 0 ∧ KEEP S S'))
theorem within_1 {a b : Nat} (ha : a ≤ j) (hb : j ≤ b) (hj : b < 2 ^ 31) : f8_within (nI j) (nI a) (nI b) = some (nI 1) := by
  unfold f8_within f8_within_14
  simp (disch := omega) only [pu_lt]
  rw [if_neg (by omega), if_neg (by omega)]
  rfl
theorem LR.up (h : LR L s T) : LR L s (T + 99) := by
  obtain ⟨c, d, h1, h2⟩ := h
  exact ⟨c, d, h1.le (by omega), h2⟩
theorem n1ne : ¬ nI 1 = 0 := by decide
theorem gbl1 : gbl (nI 1) = true := rfl
theorem m5neg : (-5 : Int32) < 0 := by decide
theorem d_weave {a : Int32} {P : Nat} (hS : SIM K g S B) (h : LR L (S 1) T) (hP1 : 1 ≤ P) (hP : P ≤ 99) (hT : T ≤ 2 ^ 19) : LDU S L T (f9_due L (nI 2) a (nI P)) (f8_weave S (nI P)) := by
  obtain ⟨S1, e1, e2, e3⟩ := rec_of hS
  obtain ⟨L', s', w', z1, z2, z3, w99⟩ := l_weaves (S := S1) hP hP1 h hT
  rw [← e2, rw1_self] at z2
  refine ⟨L', rw1 S1 s', nI w', ?_, ?_, by rw [rw1_1]; exact z3, Or.inr ⟨?_, e3.rw s'⟩⟩
  · unfold f9_due
    rw [if_neg (by decide), if_pos (show nI 2 = 2 from rfl), z1]
    rfl
  · unfold f8_weave
    rw [show f8_within (nI P) 1 99 = f8_within (nI P) (nI 1) (nI 99) from rfl, within_1 hP1 hP (by omega)]
    simp only [EV, if_neg n1ne, e1, z2]
  · exact nI_pos (by omega)
theorem d_begin {b : Int32} (hS : SIM K g S B) (h : LR L (S 1) T) (hk : k < 5) : LDU S L T (f9_due L (nI 1) (nI k) b) (f8_begin S (nI k)) := by
  obtain ⟨S1, e1, e2, e3⟩ := rec_of hS
  have h0 := h
  obtain ⟨c, d, hB, hST, h8⟩ := h
  obtain ⟨n, sn, y1, y2, y3, y4, y5⟩ := hB.2.2.2.2.2.2.2.1 k hk
  have d9 := hST.2.2.1
  have E9 : f9_due L (nI 1) (nI k) b = if n = 0 then some (L, -5) else (f9_lays (ssI L 0 3 (nI 0)) (nI k) (nI 0)).bind (fun L1 => some (L1, nI d)) := by
    unfold f9_due
    rw [if_pos (show nI 1 = 1 from rfl)]
    simp (disch := omega) only [EV, pu_lit, pu_gok, pu_cl, y1, hST.1, pu_eq]
  have HT : f8_hasText S (nI k) = some (nI (if n = 0 then 0 else 1)) := by
    unfold f8_hasText
    simp (disch := omega) only [EV, NUM, pu_lit, pu_gok, pu_cl, y2, pu_le]
    by_cases z : n = 0
    · rw [if_pos (by omega), if_pos z]
    · rw [if_neg (by omega), if_neg z]
  have E8 : f8_begin S (nI k) = if n = 0 then some (S, -5) else (f8_lay (rw1 S1 (upd (S 1) 3 (nI 0))) (nI k) (nI 0)).bind (fun g => some (g, nI d)) := by
    unfold f8_begin f8_isCard
    rw [show f8_within (nI k) 0 9 = f8_within (nI k) (nI 0) (nI 9) from rfl, within_1 (Nat.zero_le _) (by omega) (by omega)]
    simp only [EV, gbl1, if_neg n1ne, HT]
    by_cases z : n = 0
    · rw [if_pos z, if_pos z, if_pos nI_0]
    · rw [if_neg z, if_neg z, if_neg n1ne, e1]
      simp (disch := omega) only [EV, pu_lit, pu_gok, pu_cl]
      rw [show ssI S1 1 3 (nI 0) = rw1 S1 (upd (S 1) 3 (nI 0)) by rw [← ss_rw, ← e2, rw1_self], e2, hST.2.1]
  rw [E9, E8]
  by_cases z : n = 0
  · rw [if_pos z, if_pos z]
    exact ⟨L, S, -5, rfl, rfl, h0.up, Or.inl ⟨m5neg, rfl, rfl⟩⟩
  · rw [if_neg z, if_neg z]
    have m : MVL L (ssI L 0 3 (nI 0)) (S 1) (upd (S 1) 3 (nI 0)) 0 := MVL.s3.tr (MVL.su (Or.inl rfl))
    obtain ⟨L', s', z1, z2, z3, z4, z5, z6, -⟩ := l_lays (S := S1) (hB.mv m) (by rw [ss_1, pk_us]) pk_us (by omega) (fun j hj => absurd hj (Nat.not_lt_zero j)) hk (col := 0) (by omega) (by rw [pk_un (by omega), y2]; exact nI_ne0 (by omega) (by omega))
    refine ⟨L', rw1 S1 s', nI d, by rw [z1]; rfl, by rw [z2]; rfl, ⟨c, 1, by rw [rw1_1]; exact z3.le (by omega), by rw [rw1_1]; exact z4, ?_⟩, Or.inr ⟨nI_pos (by omega), e3.rw s'⟩⟩
    rw [rw1_1, z5, z6, ss_1, pk_un (by decide), pk_un (by decide)]
    exact h8
theorem d_cut {a b : Int32} (hS : SIM K g S B) (h : LR L (S 1) T) : LDU S L T (f9_due L (nI 6) a b) (f8_cut S) := by
  obtain ⟨S1, e1, e2, e3⟩ := rec_of hS
  obtain ⟨c, d, hB, hST, h8⟩ := h
  obtain ⟨c400, c1, c2, c3, c4⟩ := hB.2.2.2.2.2.2.1
  refine ⟨ssI L 0 4 (nI 0), rw1 S1 (upd (S 1) 4 (nI 0)), nI c, ?_, ?_, ⟨0, d, ?_, ?_, ?_⟩, Or.inr ⟨nI_pos (by omega), e3.rw _⟩⟩
  · unfold f9_due f9_due_307 f9_due_321
    rw [if_neg (by decide), if_neg (by decide), if_neg (by decide), if_neg (by decide), if_neg (by decide), if_pos (show nI 6 = 6 from rfl), if_pos (show nI 6 = 6 from rfl), if_pos (show nI 6 = 6 from rfl)]
    simp (disch := omega) only [EV, pu_lit, pu_gok, pu_cl, c1]
  · unfold f8_cut
    rw [e1]
    simp (disch := omega) only [EV, pu_lit, pu_gok, pu_cl]
    rw [show ssI S1 1 4 (nI 0) = rw1 S1 (upd (S 1) 4 (nI 0)) by rw [← ss_rw, ← e2, rw1_self], e2, c2]
  · rw [rw1_1]
    obtain ⟨a1, ⟨⟨v, v9, a2⟩, nb⟩, a3, ⟨W, WT, a4⟩, a5, a6, a7, a8, a9⟩ := hB
    exact ⟨fun x hx => by rw [ss_1, pk_un (by omega), pk_un (by omega)]; exact a1 x hx, ⟨⟨v, v9, by rw [pk_un (by omega)]; exact a2⟩, nb.mo (fun x hx => pk_un (by omega))⟩, fun x h1 h2 => by rw [ss_1, pk_un (by omega), pk_un (by omega)]; exact a3 x h1 h2, ⟨W, by omega, by rw [pk_un (by omega)]; exact a4⟩, fun k hk => by rw [ss_n _ _ _ _ _ (by decide), pk_un (by omega)]; exact a5 k hk, fun k hk => by rw [ss_n _ _ _ _ _ (by decide), pk_un (by omega)]; exact a6 k hk, ⟨by omega, by rw [ss_1, pk_us], pk_us, by rw [ss_n _ _ _ _ _ (by decide)]; exact c3, fun k hk => absurd hk (Nat.not_lt_zero k)⟩, fun k hk => (a8 k hk).mo hk (by rw [ss_n _ _ _ _ _ (by decide)]) (ss_n _ _ _ _ _ (by decide)) (fun x h1 h2 => pk_un (by omega)), fun k h1 h2 => by rw [pk_un (by omega)]; exact a9 k h1 h2⟩
  · rw [rw1_1]
    exact hST.beside (by rw [ss_1, pk_un (by decide)]) (pk_un (by decide)) (ss_n _ _ _ _ _ (by decide)) (ss_n _ _ _ _ _ (by decide)) (ss_n _ _ _ _ _ (by decide)) (fun x hx => pk_un (by omega))
  · rw [rw1_1, ss_1, pk_un (by decide), pk_un (by decide)]; exact h8
/-- a setting's least and most -/
def slo (j : Nat) : Nat := if j = 0 then 1 else if j = 1 then 2 else 0
def shi (j : Nat) : Nat := if j = 0 then 9 else 99
theorem d_set {w : Nat} (hS : SIM K g S B) (h : LR L (S 1) T) (hj : j < 3) (h1 : slo j ≤ w) (h2 : w ≤ shi j) : LDU S L T (f9_due L (nI 7) (nI j) (nI w)) (f8_set S (nI j) (nI w)) := by
  obtain ⟨S1, e1, e2, e3⟩ := rec_of hS
  obtain ⟨c, d, hB, hST, h8⟩ := h
  have s99 : shi j ≤ 99 := by unfold shi; split <;> omega
  obtain ⟨v, v99, hv⟩ := hB.2.1.2.2 j hj
  have Lj := hB.1 j hj
  have HL : f8_leastOf (nI j) = some (nI (slo j)) := by
    rcases (by omega : j = 0 ∨ j = 1 ∨ j = 2) with h | h | h <;> subst h <;> rfl
  have E8 : f8_set S (nI j) (nI w) = f8_set_25 (nI j) (nI w) S (nI w) (nI (slo j)) (nI (shi j)) := by
    unfold f8_set
    rw [show f8_within (nI j) 0 2 = f8_within (nI j) (nI 0) (nI 2) from rfl, within_1 (Nat.zero_le _) (by omega) (by omega)]
    simp only [EV, if_neg n1ne, HL]
    rcases (by omega : j = 0 ∨ j = 1 ∨ j = 2) with h | h | h <;> subst h <;> rfl
  refine ⟨ssI L 0 j (nI w), rw1 S1 (upd (S 1) j (nI w)), nI v, ?_, ?_, ⟨c, d, ?_, ?_, ?_⟩, Or.inr ⟨nI_pos (by omega), e3.rw _⟩⟩
  · unfold f9_due f9_due_307 f9_due_321
    rw [if_neg (by decide), if_neg (by decide), if_neg (by decide), if_neg (by decide), if_neg (by decide), if_neg (by decide), if_neg (by decide), if_neg (by decide)]
    simp (disch := omega) only [EV, pu_lit, pu_gok, pu_cl, Lj, hv]
  · rw [E8]
    unfold f8_set_25
    rw [within_1 h1 h2 (by omega)]
    simp (disch := omega) only [EV, if_neg n1ne, e1, pu_lit, pu_gok, pu_cl]
    rw [show ssI S1 1 j (nI w) = rw1 S1 (upd (S 1) j (nI w)) by rw [← ss_rw, ← e2, rw1_self], e2, hv, if_neg (show ¬ nI 1 = nI 0 by decide)]
  · rw [rw1_1]
    obtain ⟨a1, ⟨⟨v, v9, a2⟩, nb⟩, a3, ⟨W, WT, a4⟩, a5, a6, a7, a8, a9⟩ := hB
    refine ⟨fun x hx => ?_, ⟨?_, fun k hk => ?_, fun x hx => ?_⟩, fun x h1 h2 => by rw [ss_1, pk_un (by omega), pk_un (by omega)]; exact a3 x h1 h2, ⟨W, by omega, by rw [pk_un (by omega)]; exact a4⟩, fun k hk => by rw [ss_n _ _ _ _ _ (by decide), pk_un (by omega)]; exact a5 k hk, fun k hk => by rw [ss_n _ _ _ _ _ (by decide), pk_un (by omega)]; exact a6 k hk, a7.mo (by rw [ss_1, pk_un (by omega)]) (ss_n _ _ _ _ _ (by decide)) (pk_un (by omega)) (fun x h1 h2 => pk_un (by omega)), fun k hk => (a8 k hk).mo hk (by rw [ss_n _ _ _ _ _ (by decide)]) (ss_n _ _ _ _ _ (by decide)) (fun x h1 h2 => pk_un (by omega)), fun k h1 h2 => by rw [pk_un (by omega)]; exact a9 k h1 h2⟩
    · by_cases xj : x = j
      · subst xj
        rw [ss_1, pk_us, pk_us]
      · rw [ss_1, pk_un xj, pk_un xj]; exact a1 x hx
    · by_cases j0 : j = 0
      · subst j0
        exact ⟨w, h2, pk_us⟩
      · exact ⟨v, v9, by rw [pk_un (by omega)]; exact a2⟩
    · obtain ⟨v, z1, z2⟩ := nb.1 k hk
      exact ⟨v, z1, by rw [pk_un (by omega)]; exact z2⟩
    · by_cases xj : x = j
      · subst xj
        exact ⟨w, by omega, pk_us⟩
      · obtain ⟨v, z1, z2⟩ := nb.2 x hx
        exact ⟨v, z1, by rw [pk_un xj]; exact z2⟩
  · rw [rw1_1]
    exact hST.beside (by rw [ss_1, pk_un (by omega)]) (pk_un (by omega)) (ss_n _ _ _ _ _ (by decide)) (ss_n _ _ _ _ _ (by decide)) (ss_n _ _ _ _ _ (by decide)) (fun x hx => pk_un (by omega))
  · rw [rw1_1, ss_1, pk_un (by omega), pk_un (by omega)]; exact h8
theorem d_tie {P : Nat} (hS : SIM K g S B) (h : LR L (S 1) T) (hj : j < 6) (hP1 : 1 ≤ P) (hP : P ≤ 99) : LDU S L T (f9_due L (nI 3) (nI j) (nI P)) (f8_tie S (nI j) (nI P)) := by
  obtain ⟨S1, e1, e2, e3⟩ := rec_of hS
  obtain ⟨c, d, hB, hST, h8⟩ := h
  obtain ⟨v, v999, hv⟩ := hB.2.1.2.1 j hj
  have T0 := hB.2.2.2.2.1 j (by omega)
  have T2 := hB.2.2.2.2.1 (12 + j) (by omega)
  rw [show 19 + (12 + j) = 31 + j by omega] at T2
  rw [hv] at T0
  let r := if v + P ≤ 999 then v + P else 999
  have r9 : r ≤ 999 := by show (if v + P ≤ 999 then v + P else 999) ≤ 999; split <;> omega
  let L1 := ssI (ssI (ssI L 1 j (nI r)) 1 (6 + j) (nI 0)) 1 (12 + j) (L 1 (12 + j) + nI 1)
  let s1 := upd (upd (upd (S 1) (19 + j) (nI r)) (25 + j) (nI 0)) (31 + j) (S 1 (31 + j) + nI 1)
  have E9 : f9_due L (nI 3) (nI j) (nI P) = some (L1, nI r) := by
    have H : ∀ r, f9_due_98 (nI 3) (nI j) (nI P) L (nI j) (nI r) = some (ssI (ssI (ssI L 1 j (nI r)) 1 (6 + j) (nI 0)) 1 (12 + j) (L 1 (12 + j) + nI 1), nI r) := fun r => by
      unfold f9_due_98
      simp (disch := omega) only [EV, NUM, pu_lit, pu_gok, pu_cl, ss_1, pk_us, pk_un]
    unfold f9_due
    rw [if_neg (by decide), if_neg (by decide), if_pos (show nI 3 = 3 from rfl)]
    simp (disch := omega) only [EV, NUM, pu_lit, pu_gok, pu_cl, T0, pu_le]
    show (if v + P ≤ 999 then _ else _) = some (ssI (ssI (ssI L 1 j (nI (if v + P ≤ 999 then v + P else 999))) 1 (6 + j) (nI 0)) 1 (12 + j) (L 1 (12 + j) + nI 1), nI (if v + P ≤ 999 then v + P else 999))
    by_cases z : v + P ≤ 999
    · rw [if_pos z, if_pos z]; exact H _
    · rw [if_neg z, if_neg z]; exact H _
  have E8 : f8_tie S (nI j) (nI P) = some (rw1 S1 s1, nI r) := by
    have H : ∀ r, f8_tie_60 (nI j) (nI P) S1 (nI (19 + j)) (nI r) = some (rw1 S1 (upd (upd (upd (S 1) (19 + j) (nI r)) (25 + j) (nI 0)) (31 + j) (S 1 (31 + j) + nI 1)), nI r) := fun r => by
      have e : S1 = rw1 S1 (S 1) := by rw [← e2, rw1_self]
      rw [e]
      unfold f8_tie_60
      simp (disch := omega) only [EV, NUM, pu_lit, pu_gok, pu_cl, rw1_1, ss_rw, pk_us, pk_un, rw1_rw1]
    unfold f8_tie f8_isColour
    rw [show f8_within (nI j) 0 5 = f8_within (nI j) (nI 0) (nI 5) from rfl, within_1 (Nat.zero_le _) (by omega) (by omega), show f8_within (nI P) 1 99 = f8_within (nI P) (nI 1) (nI 99) from rfl, within_1 hP1 hP (by omega)]
    simp (disch := omega) only [EV, NUM, gbl1, if_neg n1ne, e1, pu_lit, pu_gok, pu_cl, e2, hv, pu_le]
    show (if v + P ≤ 999 then _ else _) = some (rw1 S1 (upd (upd (upd (S 1) (19 + j) (nI (if v + P ≤ 999 then v + P else 999))) (25 + j) (nI 0)) (31 + j) (S 1 (31 + j) + nI 1)), nI (if v + P ≤ 999 then v + P else 999))
    by_cases z : v + P ≤ 999
    · rw [if_pos z, if_pos z]; exact H _
    · rw [if_neg z, if_neg z]; exact H _
  have so : ∀ x, x ≠ 19 + j → x ≠ 25 + j → x ≠ 31 + j → s1 x = S 1 x := fun x h1 h2 h3 => by show upd (upd (upd (S 1) _ _) _ _) _ _ x = _; rw [pk_un h3, pk_un h2, pk_un h1]
  have lo : ∀ r, r ≠ 1 → L1 r = L r := fun r hr => by show ssI (ssI (ssI L 1 _ _) 1 _ _) 1 _ _ r = _; rw [ss_n _ _ _ _ _ hr, ss_n _ _ _ _ _ hr, ss_n _ _ _ _ _ hr]
  refine ⟨L1, rw1 S1 s1, nI r, E9, E8, ⟨c, d, ?_, ?_, ?_⟩, Or.inr ⟨nI_pos (by omega), e3.rw _⟩⟩
  · rw [rw1_1]
    obtain ⟨a1, ⟨⟨v', v9, a2⟩, nb⟩, a3, ⟨W, WT, a4⟩, a5, a6, a7, a8, a9⟩ := hB
    refine ⟨fun x hx => by rw [lo 0 (by decide), so x (by omega) (by omega) (by omega)]; exact a1 x hx, ⟨⟨v', v9, by rw [so 0 (by omega) (by omega) (by omega)]; exact a2⟩, fun k hk => ?_, fun x hx => ?_⟩, fun x h1 h2 => by rw [lo 0 (by decide), so x (by omega) (by omega) (by omega)]; exact a3 x h1 h2, ⟨W, by omega, by rw [so 5 (by omega) (by omega) (by omega)]; exact a4⟩, fun k hk => ?_, fun k hk => by rw [lo 3 (by decide), so _ (by omega) (by omega) (by omega)]; exact a6 k hk, a7.mo (by rw [lo 0 (by decide)]) (lo 7 (by decide)) (so 4 (by omega) (by omega) (by omega)) (fun x h1 h2 => so x (by omega) (by omega) (by omega)), fun k hk => (a8 k hk).mo hk (by rw [lo 3 (by decide)]) (lo 2 (by decide)) (fun x h1 h2 => so x (by omega) (by omega) (by omega)), fun k h1 h2 => by rw [so _ (by omega) (by omega) (by omega)]; exact a9 k h1 h2⟩
    · by_cases kj : k = j
      · subst kj
        refine ⟨r, r9, ?_⟩
        show upd (upd (upd (S 1) _ _) _ _) _ _ _ = _
        rw [pk_un (by omega), pk_un (by omega), pk_us]
      · obtain ⟨v, z1, z2⟩ := nb.1 k hk
        exact ⟨v, z1, by rw [so _ (by omega) (by omega) (by omega)]; exact z2⟩
    · obtain ⟨v, z1, z2⟩ := nb.2 x hx
      exact ⟨v, z1, by rw [so _ (by omega) (by omega) (by omega)]; exact z2⟩
    · show ssI (ssI (ssI L 1 _ _) 1 _ _) 1 _ _ 1 k = upd (upd (upd (S 1) _ _) _ _) _ _ _
      rw [ss_1, ss_1, ss_1]
      by_cases z1 : k = 12 + j
      · subst z1
        rw [pk_us, show 19 + (12 + j) = 31 + j by omega, pk_us, T2]
      rw [pk_un z1, pk_un (k := 31 + j) (by omega)]
      by_cases z2 : k = 6 + j
      · subst z2
        rw [pk_us, show 19 + (6 + j) = 25 + j by omega, pk_us]
      rw [pk_un z2, pk_un (k := 25 + j) (by omega)]
      by_cases z3 : k = j
      · subst z3
        rw [pk_us, pk_us]
      rw [pk_un z3, pk_un (k := 19 + j) (by omega)]
      exact a5 k hk
  · rw [rw1_1]
    exact hST.beside (by rw [lo 0 (by decide)]) (so 3 (by omega) (by omega) (by omega)) (lo 4 (by decide)) (lo 5 (by decide)) (lo 6 (by decide)) (fun x hx => so x (by omega) (by omega) (by omega))
  · rw [rw1_1, lo 0 (by decide), so 8 (by omega) (by omega) (by omega)]; exact h8
end LDUE
