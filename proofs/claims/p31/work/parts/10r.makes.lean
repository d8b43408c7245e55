/-! THE LAW'S LOOM, r: a text is made -/
def OKQ (q : TQ) (o nd : Nat) : Prop := q.2.1.length = o ∧ ((nd = 1 ∧ q.1 = 0) ∨ (nd = 0 ∧ (q.1 = 1 ∨ q.1 = 2)))
theorem t_let {q : TQ} {c : Nat} (n : Nat) (hq : q.1 ≤ 2) (hc : c = 99 ∨ c = 107 ∨ c = 108 ∨ c = 115 ∨ c = 119 ∨ c = 120) : tstep c n q = tLet c n q.2.1 := by
  unfold tstep
  rcases (by omega : q.1 = 0 ∨ q.1 = 1 ∨ q.1 = 2) with h | h | h
  · rw [if_pos h]
  · rw [if_neg (by omega), if_pos h, if_neg (by omega)]
  · rw [if_neg (by omega), if_neg (by omega), if_pos h, if_neg (by omega), if_neg (by omega)]
theorem t_end {q : TQ} {e : Nat} {st : List Nat} (n : Nat) (hq : q.1 = 1 ∨ q.1 = 2) (h : q.2.1 = e :: st) : tstep 41 n q = (1, st, q.2.2) := by
  unfold tstep
  rcases hq with z | z
  · rw [if_neg (by omega), if_pos z, if_pos rfl, h]
    rfl
  · rw [if_neg (by omega), if_neg (by omega), if_pos z, if_neg (by omega), if_pos rfl, h]
    rfl
theorem t_2 {c : Nat} (n : Nat) (st : List Nat) (l : Nat) (h1 : 50 ≤ c) (h2 : c ≤ 57) : tstep c n (2, st, l) = (1, st, l) := by
  unfold tstep
  rw [if_neg (by simp), if_neg (by simp), if_pos rfl, if_pos ⟨h1, h2⟩]
theorem t_3 {c : Nat} (n : Nat) (st : List Nat) (l : Nat) (h1 : 50 ≤ c) (h2 : c ≤ 57) : tstep c n (3, st, l) = (6, st, l) := by
  unfold tstep
  rw [if_neg (by simp), if_neg (by simp), if_neg (by simp), if_pos rfl, if_pos ⟨h1, h2⟩]
theorem t_4 {c : Nat} (n : Nat) (st : List Nat) (l : Nat) (h1 : 48 ≤ c) (h2 : c < 54) : tstep c n (4, st, l) = (1, st, l) := by
  unfold tstep
  rw [if_neg (by simp), if_neg (by simp), if_neg (by simp), if_neg (by simp), if_pos rfl, if_pos ⟨h1, h2⟩]
theorem t_5 {c : Nat} (n : Nat) (st : List Nat) (l : Nat) (h1 : 48 ≤ c) (h2 : c < 58) : tstep c n (5, st, l) = (1, st, l) := by
  unfold tstep
  rw [if_neg (by simp), if_neg (by simp), if_neg (by simp), if_neg (by simp), if_neg (by simp), if_pos rfl, if_pos ⟨h1, h2⟩]
theorem t_6 (n : Nat) (st : List Nat) (l : Nat) (h : st.length < 3) : tstep 40 n (6, st, l) = (0, l :: st, l) := by
  unfold tstep
  rw [if_neg (by simp), if_neg (by simp), if_neg (by simp), if_neg (by simp), if_neg (by simp), if_neg (by simp), if_pos rfl, if_pos ⟨rfl, h⟩]
section LMAKES
variable {K : GK} {g : GM} {B : Nat} {L L' L0 : GS} {S S' S0 : GS} {i j k n c a o nd kd x7 : Nat} {sn : Nat → Nat} {v x8 : Int32} {q : TQ}
/-- a text has been made -/
def MADE (K : GK) (B a : Nat) (S0 L0 : GS) (X : Option (GM × GS × Int32)) : Prop :=
  ∃ g' L' S' n q, X = some (g', L', nI n) ∧ MK K g' S' B L' a n q S0 L0 ∧ (q.1 = 1 ∨ q.1 = 2) ∧ q.2.1 = []
theorem l_335 (ha : a < 5) : ∀ o f g S L n q, MK K g S B L a n q S0 L0 → n + o ≤ 24 → q.2.1.length = o → (q.1 = 1 ∨ q.1 = 2) → MADE K B a S0 L0 (f9_makes_335 K (nI a) v B (o + (f + 1)) g L (nI o)) := by
  intro o
  induction o with
  | zero =>
    intro f g S L n q h hn hl hq
    refine ⟨g, L, S, n, q, ?_, h, hq, List.length_eq_zero_iff.mp hl⟩
    rw [Nat.zero_add, f9_makes_335]
    simp (disch := omega) only [EV, pu_lit, pu_gok, pu_cl, pu_le, h.2.2.2.2.2.2.1]
    rw [if_pos (Nat.le_refl _)]
  | succ o ih =>
    intro f g S L n q h hn hl hq
    cases hs : q.2.1 with
    | nil => rw [hs] at hl; simp at hl
    | cons e st =>
      obtain ⟨g1, L1, S1, e1, h1⟩ := l_put h ha (by omega) (c := 41) (by omega) (by omega)
      rw [t_end n hq hs] at h1
      have := ih f g1 S1 L1 (n + 1) _ h1 (by omega) (by rw [hs] at hl; simpa using hl) (Or.inl rfl)
      rw [show o + 1 + (f + 1) = (o + (f + 1)) + 1 by omega, f9_makes_335]
      simp (disch := omega) only [EV, pu_lit, pu_le, e1, pu_m1']
      rw [if_neg (by omega)]
      exact this
theorem l_320 (ha : a < 5) (h : MK K g S B L a n q S0 L0) (hn : n ≤ 17) (ho : o ≤ 3) (hq : OKQ q o nd) : MADE K B a S0 L0 (f9_makes_320 K (nI a) v B g L (nI o) (nI nd)) := by
  have F : o + (FU - o - 1 + 1) = FU := by unfold FU; omega
  unfold f9_makes_320
  rcases hq.2 with ⟨z, z0⟩ | ⟨z, z12⟩
  · subst z
    rw [if_neg (by decide)]
    obtain ⟨g1, L1, S1, e1, h1⟩ := l_put h ha (by omega) (c := 119) (by omega) (by omega)
    rw [t_let n (by omega) (by omega)] at h1
    have e1' : f9_puts K g L 119 B (nI a) = some (g1, L1) := e1
    rw [e1']
    have := l_335 (v := v) ha o (FU - o - 1) g1 S1 L1 (n + 1) _ h1 (by omega) hq.1 (Or.inr rfl)
    rw [F] at this
    exact this
  · subst z
    rw [if_pos nI_0]
    have := l_335 (v := v) ha o (FU - o - 1) g S L n q h (by omega) hq.1 z12
    rwa [F] at this
theorem l_221 {kk : GM → GS → Int32 → Int32 → Int32 → Option (GM × GS × Int32)} (ha : a < 5) (IH : ∀ g S L n q o nd, MK K g S B L a n q S0 L0 → n ≤ 17 → o ≤ 3 → OKQ q o nd → MADE K B a S0 L0 (kk g L (nI o) (nI nd) (nI (x7 + 1)))) (h : MK K g S B L a n q S0 L0) (hn : n < 15) (ho : o ≤ 3) (hq : OKQ q o nd) : MADE K B a S0 L0 (f9_makes_221 kk K (nI a) v B g L (nI o) (nI x7) x8 (nI kd)) := by
  have q2 : q.1 ≤ 2 := by rcases hq.2 with ⟨-, z⟩ | ⟨-, z⟩ <;> omega
  have L311 : ∀ {g S L n q}, MK K g S B L a n q S0 L0 → n ≤ 17 → q.2.1.length = o → (q.1 = 1 ∨ q.1 = 2) → MADE K B a S0 L0 (f9_makes_311 kk K (nI a) v B g L (nI o) (nI x7)) := fun {g S L n q} h1 h2 h3 h4 => by
    unfold f9_makes_311 f9_makes_314
    rw [show nI x7 + 1 = nI (x7 + 1) from nI_add x7 1]
    exact IH g S L n q o 0 h1 h2 ho ⟨h3, Or.inr ⟨rfl, h4⟩⟩
  have L303 : ∀ {g S L n q c}, MK K g S B L a n q S0 L0 → n ≤ 16 → q.2.1.length = o → 33 ≤ c → c ≤ 126 → tstep c n q = (1, q.2.1, q.2.2) → MADE K B a S0 L0 (f9_makes_303 kk K (nI a) v B g L (nI o) (nI x7) (nI c)) := fun {g S L n q c} h1 h2 h3 h4 h5 h6 => by
    obtain ⟨g1, L1, S1, e1, m1⟩ := l_put h1 ha (by omega) h4 h5
    rw [h6] at m1
    unfold f9_makes_303
    rw [e1]
    exact L311 m1 (by omega) h3 (Or.inl rfl)
  have P : ∀ c, c = 99 ∨ c = 107 ∨ c = 119 → ∃ g1 L1 S1, f9_puts K g L (nI c) B (nI a) = some (g1, L1) ∧ MK K g1 S1 B L1 a (n + 1) (tLet c n q.2.1) S0 L0 := fun c hc => by
    obtain ⟨g1, L1, S1, e1, m1⟩ := l_put h ha (by omega) (c := c) (by omega) (by omega)
    rw [t_let n q2 (by omega)] at m1
    exact ⟨g1, L1, S1, e1, m1⟩
  obtain ⟨j5, b5, l5⟩ := low_eq (x8 >>> (4 &&& 31)) (n := 5) (by omega) (by omega)
  obtain ⟨j6, b6, l6⟩ := low_eq (x8 >>> (4 &&& 31)) (n := 6) (by omega) (by omega)
  unfold f9_makes_221 f9_makes_245 f9_makes_271
  rw [show f9_low (x8 >>> (4 &&& 31)) 5 = some (nI j5) from l5, show f9_low (x8 >>> (4 &&& 31)) 6 = some (nI j6) from l6]
  by_cases k3 : nI kd = 3
  · obtain ⟨g1, L1, S1, e1, m1⟩ := P 99 (by omega)
    rw [if_pos k3, show f9_puts K g L 99 B (nI a) = some (g1, L1) from e1]
    simp only [EV]
    rw [if_pos k3, if_neg (by rw [k3]; decide), show (48 : Int32) + nI j6 = nI (48 + j6) from nI_add 48 j6]
    exact L303 m1 (by omega) hq.1 (by omega) (by omega) (t_4 _ _ _ (by omega) (by omega))
  rw [if_neg k3]
  by_cases k4 : nI kd = 4
  · obtain ⟨g1, L1, S1, e1, m1⟩ := P 107 (by omega)
    rw [if_pos k4, show f9_puts K g L 107 B (nI a) = some (g1, L1) from e1]
    simp only [EV]
    rw [if_neg k3, if_pos k4, if_neg (by rw [k4]; decide), show (48 : Int32) + nI j6 = nI (48 + j6) from nI_add 48 j6]
    exact L303 m1 (by omega) hq.1 (by omega) (by omega) (t_5 _ _ _ (by omega) (by omega))
  rw [if_neg k4]
  obtain ⟨g1, L1, S1, e1, m1⟩ := P 119 (by omega)
  rw [show f9_puts K g L 119 B (nI a) = some (g1, L1) from e1]
  simp only [EV]
  rw [if_neg k3, if_neg k4]
  by_cases k2 : nI kd = 2
  · rw [if_pos k2, if_pos k2, show (50 : Int32) + nI j5 = nI (50 + j5) from nI_add 50 j5]
    exact L303 m1 (by omega) hq.1 (by omega) (by omega) (t_2 _ _ _ (by omega) (by omega))
  · rw [if_neg k2]
    exact L311 m1 (by omega) hq.1 (Or.inr rfl)
theorem l_127 {kk : GM → GS → Int32 → Int32 → Int32 → Option (GM × GS × Int32)} (ha : a < 5) (IH : ∀ g S L n q o nd, MK K g S B L a n q S0 L0 → n ≤ 17 → o ≤ 3 → OKQ q o nd → MADE K B a S0 L0 (kk g L (nI o) (nI nd) (nI (x7 + 1)))) (h : MK K g S B L a n q S0 L0) (hn : n < 15) (ho : o ≤ 3) (hq : OKQ q o nd) : MADE K B a S0 L0 (f9_makes_127 kk K (nI a) v B g L (nI o) (nI x7) x8 (nI kd)) := by
  have q2 : q.1 ≤ 2 := by rcases hq.2 with ⟨-, z⟩ | ⟨-, z⟩ <;> omega
  have A := l_221 (v := v) (x8 := x8) (kd := kd) ha IH h hn ho hq
  unfold f9_makes_127
  by_cases c5 : nI kd ≤ 5
  · rw [if_pos c5]; exact A
  rw [if_neg c5]
  by_cases c3 : (3 : Int32) ≤ nI o
  · rw [if_pos c3]; exact A
  rw [if_neg c3]
  have o3 : o < 3 := by
    apply Classical.byContradiction
    intro z
    exact c3 ((nI_leI (a := 3) (by omega) (by omega)).mpr (by omega))
  have L202 : ∀ {g S L n l}, MK K g S B L a n (6, q.2.1, l) S0 L0 → n ≤ 16 → MADE K B a S0 L0 (f9_makes_202 kk K (nI a) v B g L (nI o) (nI x7)) := fun {g S L n l} h1 h2 => by
    obtain ⟨g1, L1, S1, e1, m1⟩ := l_put h1 ha (by omega) (c := 40) (by omega) (by omega)
    rw [t_6 n q.2.1 l (by rw [hq.1]; exact o3)] at m1
    unfold f9_makes_202 f9_makes_314
    rw [show f9_puts K g L 40 B (nI a) = some (g1, L1) from e1]
    simp only [EV]
    rw [show nI o + 1 = nI (o + 1) from nI_add o 1, show nI x7 + 1 = nI (x7 + 1) from nI_add x7 1]
    exact IH g1 S1 L1 (n + 1) _ (o + 1) 1 m1 (by omega) (by omega) ⟨by show q.2.1.length + 1 = _; rw [hq.1], Or.inl ⟨rfl, rfl⟩⟩
  have P : ∀ c, c = 108 ∨ c = 115 ∨ c = 120 → ∃ g1 L1 S1, f9_puts K g L (nI c) B (nI a) = some (g1, L1) ∧ MK K g1 S1 B L1 a (n + 1) (tLet c n q.2.1) S0 L0 := fun c hc => by
    obtain ⟨g1, L1, S1, e1, m1⟩ := l_put h ha (by omega) (c := c) (by omega) (by omega)
    rw [t_let n q2 (by omega)] at m1
    exact ⟨g1, L1, S1, e1, m1⟩
  unfold f9_makes_168
  by_cases k6 : nI kd = 6
  · rw [if_pos k6]
    obtain ⟨g1, L1, S1, e1, m1⟩ := P 120 (by omega)
    rw [show f9_puts K g L 120 B (nI a) = some (g1, L1) from e1]
    simp only [EV]
    obtain ⟨j, b, l⟩ := low_eq (x8 >>> (4 &&& 31)) (n := 3) (by omega) (by omega)
    rw [if_pos k6, show f9_low (x8 >>> (4 &&& 31)) 3 = some (nI j) from l]
    simp only [EV]
    obtain ⟨g2, L2, S2, e2, m2⟩ := l_put m1 ha (by omega) (c := 50 + j) (by omega) (by omega)
    rw [show tLet 120 n q.2.1 = (3, q.2.1, n) from rfl, t_3 _ _ _ (by omega) (by omega)] at m2
    rw [show (50 : Int32) + nI j = nI (50 + j) from nI_add 50 j, e2]
    exact L202 m2 (by omega)
  · simp only [if_neg k6]
    obtain ⟨g1, L1, S1, e1, m1⟩ := P 115 (by omega)
    obtain ⟨g2, L2, S2, e2, m2⟩ := P 108 (by omega)
    rw [show f9_puts K g L 115 B (nI a) = some (g1, L1) from e1, show f9_puts K g L 108 B (nI a) = some (g2, L2) from e2]
    simp only [EV]
    by_cases z : ((x8 >>> (5 &&& 31)) &&& 1) = 1
    · rw [if_pos z]
      exact L202 m1 (by omega)
    · rw [if_neg z]
      exact L202 m2 (by omega)
theorem l_46 (ha : a < 5) : ∀ w x7 f g S L n q o nd, x7 + w = 9 → MK K g S B L a n q S0 L0 → n ≤ 17 → o ≤ 3 → OKQ q o nd → MADE K B a S0 L0 (f9_makes_46 K (nI a) v B (w + (f + 1)) g L (nI o) (nI nd) (nI x7)) := by
  intro w
  induction w with
  | zero =>
    intro x7 f g S L n q o nd hw h hn ho hq
    have : x7 = 9 := by omega
    subst this
    rw [Nat.zero_add, f9_makes_46, if_pos (show (9 : Int32) ≤ nI 9 by decide)]
    exact l_320 ha h hn ho hq
  | succ w ih =>
    intro x7 f g S L n q o nd hw h hn ho hq
    have h9 : ¬ (9 : Int32) ≤ nI x7 := fun z => by have := (nI_leI (a := 9) (by omega) (by omega)).mp z; omega
    have E := h.2.2.2.2.2.2.1
    rw [show w + 1 + (f + 1) = (w + (f + 1)) + 1 by omega, f9_makes_46, if_neg h9]
    simp (disch := omega) only [EV, pu_gok, show (9 : Int32).toNatClampNeg = 9 from rfl, E, show gok 9 10 = true from rfl]
    by_cases n15 : 15 ≤ n
    · rw [if_pos (show (15 : Int32) ≤ nI n from (nI_leI (a := 15) (by omega) (by omega)).mpr n15)]
      exact l_320 ha h hn ho hq
    · rw [if_neg (show ¬ (15 : Int32) ≤ nI n from fun z => n15 ((nI_leI (a := 15) (by omega) (by omega)).mp z))]
      obtain ⟨kd, b, l⟩ := low_eq ((v >>> ((3 * (nI x7 - nI x7 / (9 : Int32) * (9 : Int32))) &&& 31)) + ((31 * nI x7) * (v &&& 255))) (n := 9) (by omega) (by omega)
      rw [show f9_low _ 9 = some (nI kd) from l]
      simp only [EV]
      have IH : ∀ g S L n q o nd, MK K g S B L a n q S0 L0 → n ≤ 17 → o ≤ 3 → OKQ q o nd → MADE K B a S0 L0 (f9_makes_46 K (nI a) v B (w + (f + 1)) g L (nI o) (nI nd) (nI (x7 + 1))) := fun g S L n q o nd h1 h2 h3 h4 => ih (x7 + 1) f g S L n q o nd (by omega) h1 h2 h3 h4
      have A := l_127 (kd := kd) (v := v) (x8 := (v >>> ((3 * (nI x7 - nI x7 / (9 : Int32) * (9 : Int32))) &&& 31)) + ((31 * nI x7) * (v &&& 255))) ha IH h (by omega) ho hq
      by_cases k8 : nI kd = 8
      · rw [if_pos k8]
        by_cases o0 : nI o ≤ 0
        · rw [if_pos o0]; exact A
        · rw [if_neg o0]
          by_cases n0 : nI nd = 0
          · rw [if_pos n0]
            have op : 0 < o := by
              apply Classical.byContradiction
              intro z
              exact o0 ((nI_leI (b := 0) (by omega) (by omega)).mpr (by omega))
            cases hs : q.2.1 with
            | nil => have := hq.1; rw [hs] at this; simp at this; omega
            | cons e st =>
              have nd0 : nd = 0 := by
                rcases hq.2 with ⟨z, -⟩ | ⟨z, -⟩
                · subst z; exact absurd n0 (by decide)
                · exact z
              have z12 : q.1 = 1 ∨ q.1 = 2 := by
                rcases hq.2 with ⟨z, -⟩ | ⟨-, z⟩
                · omega
                · exact z
              obtain ⟨g1, L1, S1, e1, m1⟩ := l_put h ha (by omega) (c := 41) (by omega) (by omega)
              rw [t_end n z12 hs] at m1
              rw [show f9_puts K g L 41 B (nI a) = some (g1, L1) from e1]
              unfold f9_makes_314
              simp only [EV]
              rw [show nI o + -1 = nI (o - 1) from pu_m1 op, show nI x7 + 1 = nI (x7 + 1) from nI_add x7 1]
              exact IH g1 S1 L1 (n + 1) _ (o - 1) nd m1 (by omega) (by omega) ⟨by have := hq.1; rw [hs] at this; simp at this; show st.length = _; omega, Or.inr ⟨nd0, Or.inl rfl⟩⟩
          · rw [if_neg n0]; exact A
      · rw [if_neg k8]; exact A
theorem l_zero (ha : a < 5) : ∀ w x f g L, x + w = 6 → ∃ L', f9_makes_3 K (nI a) v B (w + f) g L (nI x) = f9_makes_3 K (nI a) v B f g L' (nI 6) ∧ (∀ y, x ≤ y → y < 6 → L' 2 (6 * a + y) = nI 0) ∧ (∀ y, y < 6 * a + x ∨ 6 * a + 6 ≤ y → L' 2 y = L 2 y) ∧ ∀ r, r ≠ 2 → L' r = L r := by
  intro w
  induction w with
  | zero =>
    intro x f g L hw
    have : x = 6 := by omega
    subst this
    exact ⟨L, by rw [Nat.zero_add], fun y h1 h2 => absurd h1 (by omega), fun _ _ => rfl, fun _ _ => rfl⟩
  | succ w ih =>
    intro x f g L hw
    obtain ⟨L', e, e1, e2, e3⟩ := ih (x + 1) f g (ssI L 2 (6 * a + x) (nI 0)) (by omega)
    have n6 : ¬ 6 ≤ x := by omega
    refine ⟨L', ?_, fun y h1 h2 => ?_, fun y hy => ?_, fun r hr => (e3 r hr).trans (ss_n _ _ _ _ _ hr)⟩
    · rw [← e, show w + 1 + f = (w + f) + 1 by omega, f9_makes_3]
      simp (disch := omega) only [EV, NUM, pu_lit, pu_le, pu_gok, pu_cl, n6, if_false]
    · by_cases hyx : y = x
      · subst hyx
        rw [e2 _ (by omega), ss_1, pk_us]
      · rw [e1 y (by omega) h2]
    · rw [e2 y (by omega), ss_1, pk_un (by omega)]
theorem l_makes (hS : SIM K g S B) (ha : a < 5) (v : Int32) : MADE K B a S L (f9_makes K g L (nI a) v B) := by
  have k8 : gkd K B = 8 := by unfold gkd; rw [show B = B + 0 from rfl, hS.1.1 0 (by omega)]; rfl
  obtain ⟨L1, e, y1, y2, y3⟩ := l_zero (K := K) (B := B) (v := v) ha 6 0 (FU - 6) g L rfl
  rw [show 6 + (FU - 6) = FU by unfold FU; omega] at e
  obtain ⟨g', S', r, e1, e2, hS'⟩ := op_wipe hS
  have e2' := e2
  unfold f8_wipe at e2'
  simp only [EV] at e2'
  cases e2'
  let L2 := ssI L1 0 9 (nI 0)
  have MK0 : MK K g' (ssI S 0 7 0) B L2 a 0 (0, [], 0) S L := by
    refine ⟨hS', ss_n _ _ _ _ _ (by decide), ?_, by omega, ⟨fun _ => 0, fun x hx => absurd hx (Nat.not_lt_zero x), rfl⟩, fun w hw => ⟨0, by omega, ?_, fun r _ _ => by rw [Nat.zero_div]⟩, ?_, fun r r0 r2 => ?_, fun x hx => ?_, fun x hx => ?_⟩
    · rw [ss_1, pk_us]; rfl
    · show ssI L1 _ _ _ 2 _ = _
      rw [ss_n _ _ _ _ _ (by decide)]
      exact y1 w (Nat.zero_le _) hw
    · show ssI L1 _ _ _ 0 9 = _
      rw [ss_1, pk_us]
    · show ssI L1 _ _ _ r = _
      rw [ss_n _ _ _ _ _ r0]
      exact y3 r r2
    · show ssI L1 _ _ _ 0 x = _
      rw [ss_1, pk_un hx, y3 0 (by decide)]
    · show ssI L1 _ _ _ 2 x = _
      rw [ss_n _ _ _ _ _ (by decide)]
      exact y2 x (by omega)
  have A := l_46 (v := v) ha 9 0 (FU - 10) g' (ssI S 0 7 0) L2 0 _ 0 1 rfl MK0 (by omega) (by omega) ⟨rfl, Or.inl ⟨rfl, rfl⟩⟩
  rw [show 9 + (FU - 10 + 1) = FU by unfold FU; omega] at A
  unfold f9_makes
  rw [show f9_makes_3 K (nI a) v B FU g L 0 = _ from e, show FU - 6 = (FU - 7) + 1 by unfold FU; omega, f9_makes_3, if_pos (show (6 : Int32) ≤ nI 6 by decide), k8, e1]
  exact A
end LMAKES
