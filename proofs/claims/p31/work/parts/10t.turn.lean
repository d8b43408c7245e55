/-! THE LAW'S LOOM, t: a turn -/
def GOOD (kd a w : Nat) : Prop := (kd = 1 ∧ a < 5) ∨ (kd = 2 ∧ 1 ≤ w ∧ w ≤ 99) ∨ (kd = 3 ∧ a < 6 ∧ 1 ≤ w ∧ w ≤ 99) ∨ kd = 4 ∨ (kd = 5 ∧ a < 5) ∨ kd = 6 ∨ (kd = 7 ∧ a < 3 ∧ slo a ≤ w ∧ w ≤ shi a)
section LTURN
variable {K : GK} {g : GM} {B : Nat} {L L' : GS} {S S' : GS} {i j k n c a T kd w x xl : Nat} {v x11 x12 : Int32} {xs : Nat → Int32}
/-- a call on both sides -/
def CALL (K : GK) (g : GM) (B : Nat) (S L : GS) (T : Nat) (X : Option (GS × Int32)) (Y : Option (GK × GM × Int32)) : Prop :=
  ∃ L' S' g' r, X = some (L', r) ∧ Y = some (K, g', r) ∧ SIM K g' S' B ∧ LR L' (S' 1) (T + 99) ∧ ((r < 0 ∧ S' = S ∧ L' = L) ∨ (¬ r < 0 ∧ KEEP S S'))
theorem l_comb {X Y : Option (GS × Int32)} {Z : Option (GM × Int32)} {Z' : Option (GK × GM × Int32)} (h : LDU S L T X Y) (h2 : OPR K B Z Y) (hZ : ∀ g' r, Z = some (g', r) → Z' = some (K, g', r)) : CALL K g B S L T X Z' := by
  obtain ⟨L', S', r, e1, e2, e3, e4⟩ := h
  obtain ⟨g', S2, r2, f1, f2, f3⟩ := h2
  rw [f2] at e2
  cases e2
  exact ⟨L', S', g', r, e1, hZ _ _ f1, f3, e3, e4⟩
theorem l_call (hS : SIM K g S B) (h : LR L (S 1) T) (hT : T ≤ 2 ^ 19) (hG : GOOD kd a w) : CALL K g B S L T (f9_due L (nI kd) (nI a) (nI w)) (f9_call K g B (nI kd) (nI a) (nI w)) := by
  have k8 : gkd K B = 8 := by unfold gkd; rw [show B = B + 0 from rfl, hS.1.1 0 (by omega)]; rfl
  have D : decide (gkd K B = 8) = true := decide_eq_true k8
  unfold f9_call
  rcases hG with ⟨rfl, h1⟩ | ⟨rfl, h1, h2⟩ | ⟨rfl, h1, h2, h3⟩ | rfl | ⟨rfl, h1⟩ | rfl | ⟨rfl, h1, h2, h3⟩
  · rw [if_neg (by decide), if_pos (show nI 1 = 1 from rfl), D]
    exact l_comb (d_begin hS h h1) (op_begin hS _) (fun g' r e => by rw [e]; rfl)
  · rw [if_neg (by decide), if_neg (by decide), if_pos (show nI 2 = 2 from rfl), D]
    exact l_comb (d_weave hS h h1 h2 hT) (op_weave hS _) (fun g' r e => by rw [e]; rfl)
  · rw [if_neg (by decide), if_neg (by decide), if_neg (by decide), if_pos (show nI 3 = 3 from rfl), D]
    exact l_comb (d_tie hS h h1 h2 h3) (op_tie hS _ _) (fun g' r e => by rw [e]; rfl)
  · rw [if_neg (by decide), if_neg (by decide), if_neg (by decide), if_neg (by decide), if_pos (show nI 4 = 4 from rfl), D]
    exact l_comb (d_skip hS h) (op_skip hS) (fun g' r e => by rw [e]; rfl)
  · rw [if_neg (by decide), if_neg (by decide), if_neg (by decide), if_neg (by decide), if_neg (by decide), if_pos (show nI 5 = 5 from rfl), D]
    exact l_comb (d_blank hS h h1) (op_blank hS _) (fun g' r e => by rw [e]; rfl)
  · rw [if_neg (by decide), if_neg (by decide), if_neg (by decide), if_neg (by decide), if_neg (by decide), if_neg (by decide), if_pos (show nI 6 = 6 from rfl), D]
    exact l_comb (d_cut hS h) (op_cut hS) (fun g' r e => by rw [e]; rfl)
  · rw [if_neg (by decide), if_neg (by decide), if_neg (by decide), if_neg (by decide), if_neg (by decide), if_neg (by decide), if_neg (by decide), D]
    exact l_comb (d_set hS h h1 h2 h3) (op_set hS _ _) (fun g' r e => by rw [e]; rfl)
/-- what holds behind a turn -/
def NXT (kk : GK → GM → GS → Int32 → Option Int32) (B x T : Nat) : Prop := ∀ K g S L, SIM K g S B → LR L (S 1) (T + 99) → kk K g L (nI (x + 1)) = some 1
theorem l_555 {kk : GK → GM → GS → Int32 → Option Int32} (N : NXT kk B x T) (hS : SIM K g S B) (h : LR L (S 1) (T + 99)) : f9_law_555 kk xs xl B K g L (nI x) x11 = some 1 := by
  unfold f9_law_555
  rw [l_isSo hS h]
  simp only [EV]
  rw [if_neg (by decide), show nI x + 1 = nI (x + 1) from nI_add x 1]
  exact N K g S L hS h
theorem lg_0 (v : Int64) : lg_cmp v v = 0 := (lg_cmp_eq v v).mpr rfl
theorem l_393 {kk : GK → GM → GS → Int32 → Option Int32} (N : NXT kk B x T) (hS : SIM K g S B) (h : LR L (S 1) T) (hT : T ≤ 2 ^ 19) (hG : (kd = 0 ∧ a < 5) ∨ GOOD kd a w) : f9_law_393 kk xs xl B K g L (nI x) x11 x12 (nI kd) (nI a) (nI w) = some 1 := by
  have D8 : ∀ {K g S}, SIM K g S B → decide (gkd K B = 8) = true := fun {K g S} hS => decide_eq_true (by unfold gkd; rw [show B = B + 0 from rfl, hS.1.1 0 (by omega)]; rfl)
  have TL : ∀ {g S}, SIM K g S B → LR L (S 1) T → f9_told K g B = some (toldL L) := fun z1 z2 => told_eq (view z1 z2)
  unfold f9_law_393
  rw [TL hS h]
  simp only [EV]
  by_cases k0 : kd = 0
  · subst k0
    have a5 : a < 5 := by
      rcases hG with ⟨-, z⟩ | z
      · exact z
      · unfold GOOD at z; omega
    obtain ⟨g1, L1, n, e1, K', g', S', r, e2, hS', hL', e3⟩ := l_carded hS h a5 (x12 >>> (3 &&& 31))
    rw [if_pos nI_0, e1]
    simp (disch := omega) only [EV, pu_gok, pu_cl, e2, D8 hS', e3, if_true]
    exact l_555 N hS' hL'.up
  · rw [if_neg (nI_ne0 (by omega) (by unfold GOOD at hG; omega))]
    have hG : GOOD kd a w := by
      rcases hG with ⟨z, -⟩ | z
      · exact absurd z k0
      · exact z
    obtain ⟨L', S', g', r, e1, e2, hS', hL', hr⟩ := l_call hS h hT hG
    have F525 : ∀ g' S', SIM K g' S' B → LR L' (S' 1) (T + 99) → f9_law_525 kk xs xl B K g' L (nI x) x11 (nI kd) (nI a) (nI w) r = some 1 := fun g' S' z1 z2 => by
      unfold f9_law_525
      rw [e1]
      simp only [EV]
      rw [if_pos trivial]
      exact l_555 N z1 z2
    rw [e2]
    simp only [EV, D8 hS]
    rcases hr with ⟨h0, rfl, rfl⟩ | ⟨h0, hk⟩
    · rw [if_neg (fun z => Int32.not_lt.mpr z h0), TL hS' h]
      simp only [EV]
      rw [if_pos (lg_0 _)]
      exact F525 _ _ hS' hL'
    · rw [if_pos (Int32.not_lt.mp h0)]
      by_cases hz : ((x11 >>> (24 &&& 31)) &&& 3) = 0
      · rw [if_pos hz]
        obtain ⟨g2, S2, r2, f1, f2, f3⟩ := op_undo hS'
        obtain ⟨S3, r3, y1, y2, y3⟩ := undo_keep hk
        rw [y1] at f2
        cases f2
        have h2 : LR L (S2 1) T := h.row y3
        rw [f1]
        simp only [EV]
        rw [if_neg (nI_pos (by omega)), TL f3 h2]
        simp only [EV]
        rw [if_pos (lg_0 _)]
        obtain ⟨L4, S4, g4, r4, u1, u2, u3, u4, -⟩ := l_call f3 h2 hT hG
        rw [e1] at u1
        cases u1
        rw [u2]
        simp only [EV, D8 hS]
        rw [if_pos trivial]
        exact F525 _ _ u3 u4
      · rw [if_neg hz]
        exact F525 _ _ hS' hL'
theorem l_305 {kk : GK → GM → GS → Int32 → Option Int32} (N : NXT kk B x T) (hS : SIM K g S B) (h : LR L (S 1) T) (hT : T ≤ 2 ^ 19) (hk : kd ≤ 7) (h5 : kd < 2 ∨ kd = 5 → a < 5) (h3 : kd = 3 → a < 6) (h7 : kd = 7 → a < 3) : f9_law_305 kk xs xl B K g L (nI x) x11 x12 (nI kd) (nI a) = some 1 := by
  unfold f9_law_305
  by_cases k7 : kd = 7
  · subst k7
    have a3 := h7 rfl
    rw [if_pos (show nI 7 = 7 from rfl)]
    obtain ⟨j9, b9, l9⟩ := low_eq (x12 >>> (3 &&& 31)) (n := 9) (by omega) (by omega)
    obtain ⟨j98, b98, l98⟩ := low_eq (x12 >>> (3 &&& 31)) (n := 98) (by omega) (by omega)
    obtain ⟨j60, b60, l60⟩ := low_eq (x12 >>> (3 &&& 31)) (n := 60) (by omega) (by omega)
    rw [show f9_low (x12 >>> (3 &&& 31)) 9 = some (nI j9) from l9, show f9_low (x12 >>> (3 &&& 31)) 98 = some (nI j98) from l98, show f9_low (x12 >>> (3 &&& 31)) 60 = some (nI j60) from l60]
    simp only [EV]
    rcases (by omega : a = 0 ∨ a = 1 ∨ a = 2) with z | z | z <;> subst z
    · rw [if_pos nI_0, show (1 : Int32) + nI j9 = nI (1 + j9) from nI_add 1 j9]
      exact l_393 N hS h hT (Or.inr (by unfold GOOD slo shi; simp; omega))
    · rw [if_neg (by decide), if_pos (show nI 1 = 1 from rfl), show (2 : Int32) + nI j98 = nI (2 + j98) from nI_add 2 j98]
      exact l_393 N hS h hT (Or.inr (by unfold GOOD slo shi; simp; omega))
    · rw [if_neg (by decide), if_neg (by decide)]
      exact l_393 N hS h hT (Or.inr (by unfold GOOD slo shi; simp; omega))
  · rw [if_neg (show ¬ nI kd = 7 from fun z => k7 ((nI_eq (b := 7) (by omega) (by omega)).mp z))]
    obtain ⟨j3, b3, l3⟩ := low_eq (x12 >>> (20 &&& 31)) (n := 3) (by omega) (by omega)
    obtain ⟨j99, b99, l99⟩ := low_eq (x12 >>> (3 &&& 31)) (n := 99) (by omega) (by omega)
    obtain ⟨j12, b12, l12⟩ := low_eq (x12 >>> (3 &&& 31)) (n := 12) (by omega) (by omega)
    unfold f9_law_389
    rw [show f9_low (x12 >>> (20 &&& 31)) 3 = some (nI j3) from l3, show f9_low (x12 >>> (3 &&& 31)) 99 = some (nI j99) from l99, show f9_low (x12 >>> (3 &&& 31)) 12 = some (nI j12) from l12]
    simp only [EV]
    rw [show (1 : Int32) + nI j99 = nI (1 + j99) from nI_add 1 j99, show (1 : Int32) + nI j12 = nI (1 + j12) from nI_add 1 j12]
    have G : ∀ w, 1 ≤ w → w ≤ 99 → (kd = 0 ∧ a < 5) ∨ GOOD kd a w := fun w h1 h2 => by
      unfold GOOD
      rcases (by omega : kd = 0 ∨ kd = 1 ∨ kd = 2 ∨ kd = 3 ∨ kd = 4 ∨ kd = 5 ∨ kd = 6) with z | z | z | z | z | z | z <;> subst z
      · have := h5 (Or.inl (by omega)); omega
      · have := h5 (Or.inl (by omega)); omega
      · omega
      · have := h3 rfl; omega
      · omega
      · have := h5 (Or.inr rfl); omega
      · omega
    by_cases z : nI j3 = 0
    · rw [if_pos z]
      exact l_393 N hS h hT (G _ (by omega) (by omega))
    · rw [if_neg z]
      exact l_393 N hS h hT (G _ (by omega) (by omega))
theorem l_244 {kk : GK → GM → GS → Int32 → Option Int32} (N : NXT kk B x T) (hS : SIM K g S B) (h : LR L (S 1) T) (hT : T ≤ 2 ^ 19) (hx : x < 44) (hk : kd ≤ 7) : f9_law_244 kk xs xl B K g L (nI x) x11 x12 (nI kd) = some 1 := by
  obtain ⟨j5, b5, l5⟩ := low_eq x12 (n := 5) (by omega) (by omega)
  obtain ⟨j6, b6, l6⟩ := low_eq x12 (n := 6) (by omega) (by omega)
  obtain ⟨j3, b3, l3⟩ := low_eq x12 (n := 3) (by omega) (by omega)
  have A : f9_law_262 kk xs xl B K g L (nI x) x11 x12 (nI kd) = some 1 := by
    unfold f9_law_262 f9_law_274
    rw [show f9_low x12 5 = some (nI j5) from l5, show f9_low x12 6 = some (nI j6) from l6, show f9_low x12 3 = some (nI j3) from l3]
    simp (disch := omega) only [EV, pu_lit, pu_lt, pu_eq]
    by_cases c1 : kd < 2
    · rw [if_pos c1]
      exact l_305 N hS h hT hk (fun _ => b5) (fun _ => by omega) (fun _ => by omega)
    rw [if_neg c1]
    by_cases c2 : kd = 5
    · rw [if_pos c2]
      exact l_305 N hS h hT hk (fun _ => b5) (fun _ => by omega) (fun _ => by omega)
    rw [if_neg c2]
    by_cases c3 : kd = 3
    · rw [if_pos c3]
      exact l_305 N hS h hT hk (fun _ => by omega) (fun _ => b6) (fun _ => by omega)
    · rw [if_neg c3]
      exact l_305 N hS h hT hk (fun _ => by omega) (fun _ => by omega) (fun _ => b3)
  unfold f9_law_244
  by_cases k0 : kd = 0
  · subst k0
    rw [if_pos nI_0]
    by_cases x4 : (4 : Int32) ≤ nI x
    · rw [if_pos x4]
      exact A
    · rw [if_neg x4]
      have : x < 4 := by
        apply Classical.byContradiction
        intro z
        exact x4 ((nI_leI (a := 4) (by omega) (by omega)).mpr (by omega))
      exact l_305 N hS h hT hk (fun _ => by omega) (fun z => absurd z (by decide)) (fun z => absurd z (by decide))
  · rw [if_neg (nI_ne0 (by omega) (by omega))]
    exact A
theorem l_cell (hl : xl ≤ 260) (hj : j < 200) : ∃ v, f9_cell xs xl (nI j) = some v := by
  unfold f9_cell
  by_cases z : nI xl ≤ nI j
  · rw [if_pos z]
    exact ⟨_, rfl⟩
  · rw [if_neg z]
    have : j < xl := by
      apply Classical.byContradiction
      intro q
      exact z ((nI_leI (by omega) (by omega)).mpr (by omega))
    rw [pu_gok this (by omega)]
    exact ⟨_, rfl⟩
theorem l_93 (hl : xl ≤ 260) : ∀ w x f K g S L, x + w = 44 → SIM K g S B → LR L (S 1) (99 * x) → f9_law_93 xs xl B (w + (f + 1)) K g L (nI x) = some 1 := by
  intro w
  induction w with
  | zero =>
    intro x f K g S L hw hS h
    have : x = 44 := by omega
    subst this
    rw [Nat.zero_add, f9_law_93, if_pos (show (44 : Int32) ≤ nI 44 by decide)]
  | succ w ih =>
    intro x f K g S L hw hS h
    have h44 : ¬ (44 : Int32) ≤ nI x := fun z => by have := (nI_leI (a := 44) (by omega) (by omega)).mp z; omega
    have N : NXT (f9_law_93 xs xl B (w + (f + 1))) B x (99 * x) := fun K g S L z1 z2 => ih (x + 1) f K g S L (by omega) z1 (by rw [Nat.mul_add]; exact z2)
    obtain ⟨v1, c1⟩ := l_cell (xs := xs) (xl := xl) (j := 2 * x) hl (by omega)
    obtain ⟨v2, c2⟩ := l_cell (xs := xs) (xl := xl) (j := 2 * x + 1) hl (by omega)
    obtain ⟨j, b, l⟩ := low_eq v1 (n := 24) (by omega) (by omega)
    have H : ∀ kd, kd ≤ 7 → f9_law_244 (f9_law_93 xs xl B (w + (f + 1))) xs xl B K g L (nI x) v1 v2 (nI kd) = some 1 := fun kd hk => l_244 N hS h (by omega) (by omega) hk
    have m2 : (2 : Int32) * nI x = nI (2 * x) := pk_mul 2 x
    rw [show w + 1 + (f + 1) = (w + (f + 1)) + 1 by omega, f9_law_93, if_neg h44, m2, show nI (2 * x) + 1 = nI (2 * x + 1) from nI_add _ 1, c1, c2]
    simp only [EV]
    rw [show f9_low v1 24 = some (nI j) from l]
    simp only [EV]
    unfold f9_law_143 f9_law_160
    have H0 := H 0 (by omega)
    have H1 := H 1 (by omega)
    have H2 := H 2 (by omega)
    have H3 := H 3 (by omega)
    have H4 := H 4 (by omega)
    have H5 := H 5 (by omega)
    have H6 := H 6 (by omega)
    have H7 := H 7 (by omega)
    repeat' split
    all_goals first | exact H0 | exact H1 | exact H2 | exact H3 | exact H4 | exact H5 | exact H6 | exact H7
theorem l_71 (hl : xl ≤ 260) : ∀ w x f L, x + w = 6 → ∃ L', f9_law_71 xs xl B (w + (f + 1)) K g L (nI x) = f9_law_93 xs xl B 60 K g L' (nI 0) ∧ (∀ r, r ≠ 1 → L' r = L r) ∧ ∀ y, L' 1 y = if x ≤ y ∧ y < 6 then nI 50 else L 1 y := by
  intro w
  induction w with
  | zero =>
    intro x f L hw
    have : x = 6 := by omega
    subst this
    refine ⟨L, ?_, fun _ _ => rfl, fun y => by rw [if_neg (by omega)]⟩
    rw [Nat.zero_add, f9_law_71, if_pos (show (6 : Int32) ≤ nI 6 by decide)]
    rfl
  | succ w ih =>
    intro x f L hw
    obtain ⟨L', e, e1, e2⟩ := ih (x + 1) f (ssI L 1 x (nI 50)) (by omega)
    have n6 : ¬ 6 ≤ x := by omega
    refine ⟨L', ?_, fun r hr => (e1 r hr).trans (ss_n _ _ _ _ _ hr), fun y => ?_⟩
    · rw [← e, show w + 1 + (f + 1) = (w + (f + 1)) + 1 by omega, f9_law_71]
      simp (disch := omega) only [EV, NUM, pu_lit, pu_le, pu_gok, pu_cl, n6, if_false]
    · rw [e2 y]
      by_cases hyx : y = x
      · subst hyx
        rw [if_neg (by omega), if_pos (by omega), ss_1, pk_us]
      · rw [ss_1, pk_un hyx]
        by_cases z : x ≤ y ∧ y < 6
        · rw [if_pos (by omega), if_pos z]
        · rw [if_neg (by omega), if_neg z]
end LTURN
