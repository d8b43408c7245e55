/-! THE PURE PART, s: the simulation; history -/
/-- the layout of the whole -/
def LYT (K : GK) (B : Nat) : Prop :=
  (∀ i, i < 144 → K.1 (B + i) = kt7 i) ∧ B + 152 ≤ K.2 ∧ (∀ q, K.2 ≤ q → K.1 q = (0, 0)) ∧ (∀ t, gkd K t = 2 → B + 152 ≤ t ∧ t + 6 ≤ K.2) ∧ (∀ a, gkd K a = 5 → LK K a ∧ a + 16 ≤ K.2) ∧ (∀ a t, gkd K a = 5 → gkd K t = 2 → t + 6 ≤ a ∨ a + 16 ≤ t) ∧ (∀ a b, gkd K a = 5 → gkd K b = 5 → a ≠ b → a + 16 ≤ b ∨ b + 16 ≤ a)
def HIS (K : GK) (g : GM) (S : GS) (B h : Nat) (σ : Nat → Nat) : Prop :=
  h ≤ 6 ∧ gI g (B + 42) 1 = nI h ∧ S 0 3 = nI h ∧ (∀ j, j < 6 → gR g (B + 43) j = some (σ j) ∧ gkd K (σ j) = 5 ∧ B + 44 ≤ σ j ∧ σ j + 16 ≤ B + 140) ∧ (∀ i j, i < 6 → j < 6 → σ i = σ j → i = j) ∧ ∀ j, j < h → LRF K g (σ j) (fun y => S 3 (j * 2081 + y))
def SLO (K : GK) (g : GM) (S : GS) (B : Nat) : Prop :=
  (∀ i, i < 2 → (gR g (B + 140) i = none ∧ S 5 i = nI 0) ∨ ∃ a, gR g (B + 140) i = some a ∧ gkd K a = 5 ∧ B + 152 ≤ a ∧ S 5 i = nI 1 ∧ LRF K g a (fun y => S 4 (i * 2081 + y))) ∧ ∀ a, gR g (B + 140) 0 = some a → gR g (B + 140) 1 ≠ some a
def SIM (K : GK) (g : GM) (S : GS) (B : Nat) : Prop :=
  LYT K B ∧ LRF K g (B + 10) (S 1) ∧ (∃ h σ, HIS K g S B h σ) ∧ SLO K g S B ∧ ∃ sn L, PAD K g (B + 1) sn L ∧ RPAD S sn L
section SIMU
variable {K : GK} {g g' : GM} {S S' : GS} {B a b h : Nat} {s s' : Nat → Int32} {σ : Nat → Nat} {P : Nat → Prop}
theorem LYT.sa (hL : LYT K B) (ha : gkd K a = 5) : SA K a := fun t ht i hi j hj => by
  have := hL.2.2.2.2.2.1 a t ha ht
  omega
theorem LYT.ta (hL : LYT K B) (hg : AG P g g') (hp : ∀ q, P q → q < B + 152) : TA K g g' := TA.ag hg (fun t ht i hi hz => by
  have := (hL.2.2.2.1 t ht).1
  have := hp _ hz
  omega)
theorem LYT.l1 (hL : LYT K B) : gkd K (B + 10) = 5 := by unfold gkd; rw [hL.1 10 (by omega)]; rfl
theorem LYT.l2 (hL : LYT K B) : gkd K (B + 26) = 5 := by unfold gkd; rw [hL.1 26 (by omega)]; rfl
theorem FR1.row {i t n p m : Nat} {sn : Nat → Nat} (h : FR1 K g b s i t n sn p m) (hi : i < 9) (hs : ∀ x, x < 2081 → s' x = s x) : FR1 K g b s' i t n sn p m :=
  h.mo TA.rf rfl rfl rfl rfl (fun _ _ => rfl) (fun _ _ => rfl) (fun k hk => hs _ (fb_lt hi hk))
theorem LRF.row (h : LRF K g a s) (hs : ∀ x, x < 2081 → s' x = s x) : LRF K g a s' := by
  obtain ⟨c, d, h1, ⟨s1, s2, s3, s4, s5⟩, h3, h4⟩ := h
  refine ⟨c, d, h1.mo TA.rf (fun _ => rfl) (fun _ _ _ => rfl) (fun x z1 _ _ => hs x (by omega)), ⟨s1, by rw [hs 3 (by omega)]; exact s2, s3, fun j hj => ?_, fun j hj => ?_⟩, by rw [hs 8 (by omega)]; exact h3, h4⟩
  · obtain ⟨t, n, sn, p, m, z1, z2⟩ := s4 j hj
    exact ⟨t, n, sn, p, m, z1.row (by omega) hs, z2⟩
  · obtain ⟨t, n, sn, p, m, z1, z2⟩ := s5 j hj
    exact ⟨t, n, sn, p, m, z1.row (by omega) hs, z2⟩
theorem HIS.ag (hh : HIS K g S B h σ) (ag : AG P g g') (ta : TA K g g') (hp : ∀ q, B + 42 ≤ q → q < B + 140 → ¬ P q) (h0 : S' 0 3 = S 0 3) (h3 : S' 3 = S 3) : HIS K g' S' B h σ := by
  obtain ⟨a1, a2, a3, a4, a5, a6⟩ := hh
  refine ⟨a1, by rw [ag.i (hp _ (by omega) (by omega))]; exact a2, h0.trans a3, fun j hj => ?_, a5, fun j hj => ?_⟩
  · obtain ⟨z1, z2⟩ := a4 j hj
    exact ⟨by rw [ag.r (hp _ (by omega) (by omega))]; exact z1, z2⟩
  · obtain ⟨z1, z2, z3, z4⟩ := a4 j (by omega)
    rw [h3]
    exact (a6 j hj).ag ag ta (fun q hq => hp _ (by omega) (by omega))
theorem SLO.ag (hL : LYT K B) (hh : SLO K g S B) (ag : AG P g g') (ta : TA K g g') (hp : ∀ q, q = B + 140 ∨ B + 152 ≤ q → ¬ P q) (h4 : S' 4 = S 4) (h5 : S' 5 = S 5) : SLO K g' S' B := by
  refine ⟨fun i hi => ?_, fun a ha => ?_⟩
  · rw [ag.r (hp _ (Or.inl rfl)), h4, h5]
    rcases hh.1 i hi with z | ⟨a, z1, z2, z3, z4, z5⟩
    · exact Or.inl z
    · exact Or.inr ⟨a, z1, z2, z3, z4, z5.ag ag ta (fun j hj => hp _ (Or.inr (by omega)))⟩
  · rw [ag.r (hp _ (Or.inl rfl))] at ha ⊢
    exact hh.2 a ha
/-- the loom's own changes -/
theorem SIM.loom (h : SIM K g S B) (ag : AG (fun q => B + 10 ≤ q ∧ q ≤ B + 25) g g') (hF : LRF K g' (B + 10) s') : SIM K g' (rw1 S s') B := by
  obtain ⟨h1, h2, ⟨n, σ, h3⟩, h4, sn, L, h5, h6⟩ := h
  have ta := h1.ta ag (fun q hq => by omega)
  have r : ∀ k, k ≠ 1 → rw1 S s' k = S k := fun k hk => rw1_n S s' hk
  refine ⟨h1, by rw [rw1_1]; exact hF, ⟨n, σ, h3.ag ag ta (fun q _ _ => by omega) (by rw [r 0 (by decide)]) (r 3 (by decide))⟩, h4.ag h1 ag ta (fun q _ => by omega) (r 4 (by decide)) (r 5 (by decide)), sn, L, ?_, ?_⟩
  · obtain ⟨q1, q2, q3, q4⟩ := h5
    exact ⟨q1, q2, by rw [ag.i (by omega)]; exact q3, fun k hk => by rw [ag.i (by omega)]; exact q4 k hk⟩
  · obtain ⟨q1, q2, q3⟩ := h6
    exact ⟨q1, by rw [r 0 (by decide)]; exact q2, by rw [r 6 (by decide)]; exact q3⟩
/-- what lies nowhere in it -/
theorem SIM.free (h : SIM K g S B) (ag : AG P g g') (hp : ∀ q, P q → q = B ∨ (B + 3 ≤ q ∧ q ≤ B + 9) ∨ (B + 26 ≤ q ∧ q ≤ B + 41) ∨ (B + 141 ≤ q ∧ q < B + 152)) (h0 : ∀ j, j = 3 ∨ j = 7 → S' 0 j = S 0 j) (hS1 : ∀ y, y < 2081 → S' 1 y = S 1 y) (hS : ∀ k, 3 ≤ k → k ≤ 6 → S' k = S k) : SIM K g' S' B := by
  obtain ⟨h1, h2, ⟨n, σ, h3⟩, h4, sn, L, h5, h6⟩ := h
  have ta := h1.ta ag (fun q hq => by have := hp q hq; omega)
  refine ⟨h1, (h2.ag ag ta (fun j hj z => by have := hp _ z; omega)).row hS1, ⟨n, σ, h3.ag ag ta (fun q _ _ z => by have := hp q z; omega) (h0 3 (by omega)) (hS 3 (by omega) (by omega))⟩, h4.ag h1 ag ta (fun q _ z => by have := hp q z; omega) (hS 4 (by omega) (by omega)) (hS 5 (by omega) (by omega)), sn, L, ?_, ?_⟩
  · obtain ⟨q1, q2, q3, q4⟩ := h5
    exact ⟨q1, q2, by rw [ag.i (fun z => by have := hp _ z; omega)]; exact q3, fun k hk => by rw [ag.i (fun z => by have := hp _ z; omega)]; exact q4 k hk⟩
  · obtain ⟨q1, q2, q3⟩ := h6
    exact ⟨q1, by rw [h0 7 (by omega)]; exact q2, by rw [hS 6 (by omega) (by omega)]; exact q3⟩
/-! recording: the reference -/
theorem re_put (S : GS) : ∃ S', f8_putAside S = some S' ∧ (∀ k, k ≠ 2 → S' k = S k) ∧ ∀ y, y < 2081 → S' 2 y = S 1 y := by
  obtain ⟨S', e, e1, e2, -⟩ := rl_put 2081 0 S (FU - 2081) rfl
  rw [show 2081 + (FU - 2081) = FU by unfold FU; omega] at e
  refine ⟨S', ?_, e1, fun y hy => by have := e2 y (Nat.zero_le _) hy; rwa [Nat.zero_add] at this⟩
  unfold f8_putAside
  show f8_putAside_2 FU S (nI 0) = _
  rw [e, show FU - 2081 = (FU - 2082) + 1 by unfold FU; omega, f8_putAside_2]
  simp (disch := omega) only [pu_lit, pu_le]
  simp
theorem re_take (S : GS) : ∃ S', f8_takeBack S = some S' ∧ (∀ k, k ≠ 1 → S' k = S k) ∧ (∀ y, y < 2081 → S' 1 y = S 2 y) ∧ ∀ y, 2081 ≤ y → S' 1 y = S 1 y := by
  obtain ⟨S', e, e1, e2, e3⟩ := rl_take 2081 0 S (FU - 2081) rfl
  rw [show 2081 + (FU - 2081) = FU by unfold FU; omega] at e
  refine ⟨S', ?_, e1, fun y hy => by have := e2 y (Nat.zero_le _) hy; rwa [Nat.zero_add] at this, fun y hy => e3 y (by omega)⟩
  unfold f8_takeBack
  show f8_takeBack_2 FU S (nI 0) = _
  rw [e, show FU - 2081 = (FU - 2082) + 1 by unfold FU; omega, f8_takeBack_2]
  simp (disch := omega) only [pu_lit, pu_le]
  simp
theorem re_push (hh : h < 6) (h3 : S 0 3 = nI h) : ∃ S', f8_push_50 S = some S' ∧ (∀ k, k ≠ 0 → k ≠ 3 → S' k = S k) ∧ (∀ j, j ≠ 3 → S' 0 j = S 0 j) ∧ S' 0 3 = nI (h + 1) ∧ (∀ y, y < 2081 → S' 3 (h * 2081 + y) = S 2 y) ∧ ∀ z, z < h * 2081 → S' 3 z = S 3 z := by
  obtain ⟨S1, e, e1, e2, e3⟩ := rl_push (h := h) hh 2081 0 S (FU - 2081) rfl h3
  rw [show 2081 + (FU - 2081) = FU by unfold FU; omega] at e
  have h3' : S1 0 3 = nI h := by rw [e1 0 (by decide)]; exact h3
  refine ⟨ssI S1 0 3 (nI (h + 1)), ?_, fun k z1 z2 => by rw [ss_n _ _ _ _ _ z1, e1 k z2], fun j hj => by rw [ss_at, if_neg (fun z => hj z.2), e1 0 (by decide)], by rw [ss_at, if_pos ⟨rfl, rfl⟩], fun y hy => ?_, fun z hz => ?_⟩
  · unfold f8_push_50
    show f8_push_52 FU S (nI 0) = _
    rw [e, show FU - 2081 = (FU - 2082) + 1 by unfold FU; omega, f8_push_52]
    simp (disch := omega) only [EV, NUM, pu_lit, pu_le, h3']
    simp
  · rw [ss_n _ _ _ _ _ (by decide)]
    have := e2 y (Nat.zero_le _) hy
    rwa [Nat.zero_add] at this
  · rw [ss_n _ _ _ _ _ (by decide)]
    exact e3 z (by omega)
/-- how many states there are behind dropping one -/
abbrev hd5 (h : Nat) : Nat := if h = 6 then 5 else h
theorem re_record (hh : h ≤ 6) (h3 : S 0 3 = nI h) : ∃ S', f8_record S = some S' ∧ (∀ k, k ≠ 0 → k ≠ 2 → k ≠ 3 → S' k = S k) ∧ (∀ j, j ≠ 3 → S' 0 j = S 0 j) ∧ S' 0 3 = nI (hd5 h + 1) ∧ (∀ y, y < 2081 → S' 3 (hd5 h * 2081 + y) = S 1 y) ∧ ∀ j, j < hd5 h → ∀ y, y < 2081 → S' 3 (j * 2081 + y) = S 3 ((if h = 6 then j + 1 else j) * 2081 + y) := by
  obtain ⟨S1, e1, p1, p2⟩ := re_put S
  have h31 : S1 0 3 = nI h := by rw [p1 0 (by decide)]; exact h3
  unfold f8_record f8_push
  rw [e1]
  simp only [EV]
  rw [h31]
  by_cases h6 : h = 6
  · subst h6
    obtain ⟨S2, e2, q1, q2, q3⟩ := rl_shift 10405 0 S1 (FU - 10405) rfl
    rw [show 10405 + (FU - 10405) = FU by unfold FU; omega] at e2
    have h32 : S2 0 3 = nI 6 := by rw [q1 0 (by decide)]; exact h31
    obtain ⟨S3, e3, r1, r2, r3, r4, r5⟩ := re_push (S := ssI S2 0 3 (nI 5)) (h := 5) (by omega) (by rw [ss_at, if_pos ⟨rfl, rfl⟩])
    refine ⟨S3, ?_, fun k z1 z2 z3 => by rw [r1 k z1 z3, ss_n _ _ _ _ _ z1, q1 k z3, p1 k z2], fun j hj => by rw [r2 j hj, ss_at, if_neg (fun z => hj z.2), q1 0 (by decide), p1 0 (by decide)], r3, fun y hy => ?_, fun j hj y hy => ?_⟩
    · rw [if_pos (show nI 6 = 6 from rfl), show f8_push_11 FU S1 0 = f8_push_11 FU S1 (nI 0) from rfl, e2, show FU - 10405 = (FU - 10406) + 1 by unfold FU; omega, f8_push_11]
      simp (disch := omega) only [EV, NUM, pu_lit, pu_le, h32, pk_sub]
      simp
      rw [e3]
    · rw [show hd5 6 = 5 from rfl, r4 y hy, ss_n _ _ _ _ _ (by decide), q1 2 (by decide), p2 y hy]
    · have hj5 : j < 5 := hj
      rw [if_pos rfl, r5 _ (by omega), ss_n _ _ _ _ _ (by decide)]
      have := q2 (j * 2081 + y) (Nat.zero_le _) (by omega)
      rw [Nat.zero_add] at this
      rw [this, p1 3 (by decide), show 2081 + (j * 2081 + y) = (j + 1) * 2081 + y by omega]
  · have hd : hd5 h = h := if_neg h6
    rw [hd]
    obtain ⟨S3, e3, r1, r2, r3, r4, r5⟩ := re_push (S := S1) (h := h) (by omega) h31
    refine ⟨S3, ?_, fun k z1 z2 z3 => by rw [r1 k z1 z3, p1 k z2], fun j hj => by rw [r2 j hj, p1 0 (by decide)], r3, fun y hy => by rw [r4 y hy, p2 y hy], fun j hj y hy => ?_⟩
    · rw [if_neg (show ¬ nI h = 6 from fun z => h6 ((nI_eq (a := h) (b := 6) (by omega) (by omega)).mp z)), e3]
      rfl
    · rw [if_neg h6, r5 _ (by have : j * 2081 + 2081 ≤ h * 2081 := by have : (j + 1) * 2081 ≤ h * 2081 := Nat.mul_le_mul_right _ hj
                                                                      omega
                              omega), p1 3 (by decide)]
/-! recording: the class -/
theorem drop (hk : ∀ j, j < 6 → gkd K (σ j) = 5) : ∀ w x g f, x + w = 6 → 1 ≤ x → (∀ j, x ≤ j → j < 6 → gR g (B + 43) j = some (σ j)) → ∃ g', f3_dropOldest_9 K (B + 42) (w + (f + 1)) g (σ 0) (nI x) = some g' ∧ AG (fun q => q = B + 42 ∨ q = B + 43) g g' ∧ gI g' (B + 42) 1 = nI 5 ∧ (∀ j, x ≤ j → j < 6 → gR g' (B + 43) (j - 1) = some (σ j)) ∧ gR g' (B + 43) 5 = some (σ 0) ∧ ∀ j, j + 1 < x → gR g' (B + 43) j = gR g (B + 43) j := by
  intro w
  induction w with
  | zero =>
    intro x g f hw hx hr
    have : x = 6 := by omega
    subst this
    refine ⟨gsI (gsR g (B + 43) 5 (some (σ 0))) (B + 42) 1 (nI 5), ?_, (AG.rf.ar (Or.inr rfl)).ai (Or.inl rfl), gI_eq, fun j h1 h2 => by omega, ?_, fun j hj => ?_⟩
    · rw [Nat.zero_add, f3_dropOldest_9]
      simp (disch := omega) only [EV, NUM, pu_lit, pu_le, pu_gok, pu_cl, hk 0, decide_true]
      simp
    · rw [gR_I, gR_R, if_pos ⟨rfl, rfl⟩]
    · rw [gR_I, gR_R, if_neg (by omega)]
  | succ w ih =>
    intro x g f hw hx hr
    have hx6 : ¬ 6 ≤ x := by omega
    have hrx := hr x (Nat.le_refl _) (by omega)
    obtain ⟨g', e, a1, a2, a3, a4, a5⟩ := ih (x + 1) (gsR g (B + 43) (x - 1) (some (σ x))) f (by omega) (by omega) (fun j z1 z2 => by rw [gR_R, if_neg (by omega)]; exact hr j (by omega) z2)
    refine ⟨g', ?_, (AG.R (P := fun q => q = B + 42 ∨ q = B + 43) (Or.inr rfl)).tr a1, a2, fun j z1 z2 => ?_, a4, fun j hj => ?_⟩
    · rw [← e, show w + 1 + (f + 1) = (w + (f + 1)) + 1 by omega, f3_dropOldest_9]
      simp (disch := omega) only [EV, NUM, pu_lit, pu_le, pu_gok, pu_cl, pk_sub, hx6, if_false, hrx, hk x (by omega), decide_true]
    · by_cases hjx : j = x
      · subst hjx
        rw [a5 (j - 1) (by omega), gR_R, if_pos ⟨rfl, rfl⟩]
      · exact a3 j (by omega) z2
    · rw [a5 j (by omega), gR_R, if_neg (by omega)]
/-- a change is recorded -/
theorem SIM.keep (hS : SIM K g S B) : ∃ g' S', f3_keep K g (B + 42) (B + 10) = some g' ∧ f8_record S = some S' ∧ SIM K g' S' B ∧ AG (fun q => B + 42 ≤ q ∧ q < B + 140) g g' ∧ S' 1 = S 1 ∧ S' 6 = S 6 ∧ ∀ j, j ≠ 3 → S' 0 j = S 0 j := by
  obtain ⟨hL, hF, ⟨h, σ, hH⟩, hO, sn, L, hP, hR⟩ := hS
  obtain ⟨b1, b2, b3, b4, b5, b6⟩ := hH
  obtain ⟨S', e, r1, r2, r3, r4, r5⟩ := re_record b1 b3
  -- behind dropping
  obtain ⟨g1, σ1, e1, a1, a2, a3, a4, a5⟩ : ∃ (g1 : GM) (σ1 : Nat → Nat), f3_keep K g (B + 42) (B + 10) = f3_keep_13 K (B + 42) (B + 10) g1 ∧ AG (fun q => q = B + 42 ∨ q = B + 43) g g1 ∧ gI g1 (B + 42) 1 = nI (hd5 h) ∧ (∀ j, j < 6 → gR g1 (B + 43) j = some (σ1 j) ∧ gkd K (σ1 j) = 5 ∧ B + 44 ≤ σ1 j ∧ σ1 j + 16 ≤ B + 140) ∧ (∀ i j, i < 6 → j < 6 → σ1 i = σ1 j → i = j) ∧ ∀ j, j < hd5 h → LRF K g1 (σ1 j) (fun y => S' 3 (j * 2081 + y)) := by
    by_cases h6 : h = 6
    · subst h6
      obtain ⟨g1, e1, q1, q2, q3, q4, q5⟩ := drop (K := K) (B := B) (σ := σ) (fun j hj => (b4 j hj).2.1) 5 1 g (FU - 6) rfl (by omega) (fun j _ hj => (b4 j hj).1)
      rw [show 5 + (FU - 6 + 1) = FU by unfold FU; omega] at e1
      have ta := hL.ta q1 (fun q hq => by omega)
      refine ⟨g1, fun j => if j = 5 then σ 0 else σ (j + 1), ?_, q1, q2, fun j hj => ?_, fun i j hi hj hij => ?_, fun j hj => ?_⟩
      · unfold f3_keep f3_dropOldest
        rw [b2, if_pos (show nI 6 = 6 from rfl)]
        simp (disch := omega) only [EV, pu_lit, pu_gok, pu_cl, (b4 0 (by omega)).1]
        rw [e1]
        rfl
      · dsimp only
        by_cases hj5 : j = 5
        · rw [hj5, if_pos rfl]
          exact ⟨q4, (b4 0 (by omega)).2⟩
        · rw [if_neg hj5]
          exact ⟨by have := q3 (j + 1) (by omega) (by omega); rwa [Nat.add_sub_cancel] at this, (b4 (j + 1) (by omega)).2⟩
      · dsimp only at hij
        by_cases h5 : i = 5
        · by_cases h5' : j = 5
          · omega
          · rw [if_pos h5, if_neg h5'] at hij
            have := b5 0 (j + 1) (by omega) (by omega) hij
            omega
        · by_cases h5' : j = 5
          · rw [if_neg h5, if_pos h5'] at hij
            have := b5 (i + 1) 0 (by omega) (by omega) hij
            omega
          · rw [if_neg h5, if_neg h5'] at hij
            have := b5 (i + 1) (j + 1) (by omega) (by omega) hij
            omega
      · have hj5 : j < 5 := hj
        dsimp only
        rw [if_neg (by omega)]
        have z := (b4 (j + 1) (by omega)).2
        refine ((b6 (j + 1) (by omega)).ag q1 ta (fun k hk => by omega)).row (fun y hy => ?_)
        rw [r5 j hj y hy, if_pos rfl]
    · have hd : hd5 h = h := if_neg h6
      refine ⟨g, σ, ?_, AG.rf, by rw [hd]; exact b2, b4, b5, fun j hj => ?_⟩
      · unfold f3_keep
        rw [b2, if_neg (show ¬ nI h = 6 from fun z => h6 ((nI_eq (a := h) (b := 6) (by omega) (by omega)).mp z))]
      · rw [hd] at hj
        refine (b6 j hj).row (fun y hy => ?_)
        rw [r5 j (by rw [hd]; exact hj) y hy, if_neg h6]
  have h5 : hd5 h < 6 := by show (if h = 6 then 5 else h) < 6; split <;> omega
  obtain ⟨z1, z2, z3, z4⟩ := a3 (hd5 h) h5
  have ta1 := hL.ta a1 (fun q hq => by omega)
  have hF1 : LRF K g1 (B + 10) (S 1) := hF.ag a1 ta1 (fun j hj => by omega)
  obtain ⟨g2, e2, ag2, f1, f2⟩ := hF1.copy (hL.2.2.2.2.1 _ z2).1 (hL.2.2.2.2.1 _ hL.l1).1 (by omega) (hL.sa z2)
  let g3 := gsI g2 (B + 42) 1 (nI (hd5 h + 1))
  have s2 : gI g2 (B + 42) 1 = nI (hd5 h) := by rw [ag2.i (by omega)]; exact a2
  have ag3 : AG (fun q => q = B + 42) g2 g3 := AG.rf.ai rfl
  have agA : AG (fun q => B + 42 ≤ q ∧ q < B + 140) g g3 := ((AG.mo a1 (fun q hq => by omega)).tr (AG.mo ag2 (fun q hq => by omega))).tr (AG.mo ag3 (fun q hq => by omega))
  have taA := hL.ta agA (fun q hq => by omega)
  have ta2 : TA K g1 g2 := (hL.sa z2).ta ag2 (fun _ z => z)
  have ta3 := hL.ta ag3 (fun q hq => by omega)
  refine ⟨g3, S', ?_, e, ⟨hL, ?_, ⟨hd5 h + 1, σ1, by omega, gI_eq, r3, fun j hj => ?_, a4, fun j hj => ?_⟩, hO.ag hL agA taA (fun q _ => by omega) (r1 4 (by decide) (by decide) (by decide)) (r1 5 (by decide) (by decide) (by decide)), sn, L, ?_, ?_⟩, agA, r1 1 (by decide) (by decide) (by decide), r1 6 (by decide) (by decide) (by decide), r2⟩
  · rw [e1]
    unfold f3_keep_13
    simp (disch := omega) only [EV, pu_lit, pu_gok, pu_cl, a2, z1, z2, decide_true, e2, s2, NUM]
    rfl
  · rw [r1 1 (by decide) (by decide) (by decide)]
    exact f2.ag ag3 ta3 (fun j hj => by omega)
  · obtain ⟨y1, y2, y3, y4⟩ := a3 j hj
    refine ⟨?_, y2, y3, y4⟩
    rw [show gR g3 (B + 43) j = gR g2 (B + 43) j from ag3.r (by omega) j, ag2.r (by omega)]
    exact y1
  · obtain ⟨y1, y2, y3, y4⟩ := a3 j (by omega)
    by_cases hj' : j = hd5 h
    · rw [hj']
      refine (f1.ag ag3 ta3 (fun q hq => by omega)).row (fun y hy => ?_)
      rw [r4 y hy]
    · have hne : σ1 j ≠ σ1 (hd5 h) := fun z => hj' (a4 j (hd5 h) (by omega) h5 z)
      have := hL.2.2.2.2.2.2 _ _ y2 z2 hne
      exact ((a5 j (by omega)).ag ag2 ta2 (fun q hq => by omega)).ag ag3 ta3 (fun q hq => by omega)
  · obtain ⟨q1, q2, q3, q4⟩ := hP
    exact ⟨q1, q2, by rw [agA.i (by omega)]; exact q3, fun k hk => by rw [agA.i (by omega)]; exact q4 k hk⟩
  · obtain ⟨q1, q2, q3⟩ := hR
    exact ⟨q1, by rw [r2 7 (by decide)]; exact q2, by rw [r1 6 (by decide) (by decide) (by decide)]; exact q3⟩
end SIMU
