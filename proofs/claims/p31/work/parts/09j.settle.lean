/-! THE PURE PART, j: beginning a part; ends are left -/
section ELEM
variable {sn : Nat → Nat} {n p : Nat}
/-- an opened step: where it stands -/
theorem elem (h9 : cc sn p ≠ 9) : (∀ e st l, ks sn p = l ++ e :: st → e < p ∧ ks sn e = st ∧ cc sn e ≤ 2 ∧ isLet (sn e)) ∧ (2 ≤ cc sn p → lp sn p < p ∧ ks sn (lp sn p) = ks sn p ∧ cc sn (lp sn p) ≤ 2 ∧ isLet (sn (lp sn p))) := by
  induction p with
  | zero => exact ⟨fun e st l h => (by cases l <;> cases h), fun h => absurd h (by have : cc sn 0 = 0 := rfl; omega)⟩
  | succ p ih =>
    have hp9 := no9 h9 p (by omega)
    obtain ⟨i1, i2⟩ := ih hp9
    have W : ∀ (q : List Nat), q = ks sn p → ∀ e st l, q = l ++ e :: st → e < p + 1 ∧ ks sn e = st ∧ cc sn e ≤ 2 ∧ isLet (sn e) := fun q hq e st l h => by
      obtain ⟨a, b⟩ := i1 e st l (hq ▸ h)
      exact ⟨by omega, b⟩
    rcases tcase h9 with ⟨hc, hl, e⟩ | ⟨hc, h41, k, st, hk, e⟩ | ⟨hc, hl, hl2, e⟩ | ⟨hc, hl, hl2, e⟩ | ⟨hc, hl, hl2, e⟩ | ⟨hc, hl, hl2, e⟩ | ⟨hc, hl, hl2, e⟩
    · have ek : ks sn (p + 1) = ks sn p := by unfold ks; rw [e]
      have el : lp sn (p + 1) = p := by unfold lp; rw [e]
      exact ⟨W _ ek, fun _ => ⟨by omega, by rw [el, ek], by rw [el]; exact hc, by rw [el]; exact hl⟩⟩
    · have ek : ks sn (p + 1) = st := by unfold ks; rw [e]
      have ec : cc sn (p + 1) = 1 := by unfold cc; rw [e]
      refine ⟨fun e' st' l' h => ?_, fun z => by omega⟩
      obtain ⟨a, b⟩ := i1 e' st' (k :: l') (by rw [hk, ← ek, h]; rfl)
      exact ⟨by omega, b⟩
    · have ek : ks sn (p + 1) = ks sn p := by unfold ks; rw [e]
      have ec : cc sn (p + 1) = 1 := by unfold cc; rw [e]
      exact ⟨W _ ek, fun z => by omega⟩
    · have ek : ks sn (p + 1) = ks sn p := by unfold ks; rw [e]
      have el : lp sn (p + 1) = lp sn p := by unfold lp; rw [e]
      obtain ⟨a, b, c, d⟩ := i2 (by omega)
      exact ⟨W _ ek, fun z => ⟨by omega, by rw [el, ek]; exact b, by rw [el]; exact c, by rw [el]; exact d⟩⟩
    · have ek : ks sn (p + 1) = ks sn p := by unfold ks; rw [e]
      have ec : cc sn (p + 1) = 1 := by unfold cc; rw [e]
      exact ⟨W _ ek, fun z => by omega⟩
    · have ek : ks sn (p + 1) = ks sn p := by unfold ks; rw [e]
      have ec : cc sn (p + 1) = 1 := by unfold cc; rw [e]
      exact ⟨W _ ek, fun z => by omega⟩
    · have ek : ks sn (p + 1) = lp sn p :: ks sn p := by unfold ks; rw [e]
      have ec : cc sn (p + 1) = 0 := by unfold cc; rw [e]
      obtain ⟨a, b, c, d⟩ := i2 (by omega)
      refine ⟨fun e' st' l' h => ?_, fun z => by omega⟩
      cases l' with
      | nil =>
        rw [ek] at h
        obtain ⟨z1, z2⟩ := List.cons.inj h
        rw [← z1, ← z2]
        exact ⟨by omega, b, c, d⟩
      | cons x l' =>
        rw [ek] at h
        obtain ⟨z1, z2⟩ := List.cons.inj h
        obtain ⟨a', b'⟩ := i1 e' st' l' z2
        exact ⟨by omega, b'⟩
theorem elem_sp (hv : VT sn n) (hp : p ≤ n) {e : Nat} {st : List Nat} (h : ks sn p = e :: st) : e < n ∧ e < p ∧ ks sn e = st ∧ SP sn n e ∧ isLet (sn e) := by
  obtain ⟨a, b, c, d⟩ := (elem (hv.ne hp)).1 e st [] h
  refine ⟨by omega, a, b, ⟨by omega, ?_⟩, d⟩
  have d' := d
  unfold isLet at d'
  have : cc sn e = 0 ∨ cc sn e = 1 ∨ cc sn e = 2 := by omega
  rcases this with z | z | z
  · exact Or.inl z
  · exact Or.inr (Or.inl z)
  · exact Or.inr (Or.inr ⟨z, fun _ => by omega⟩)
end ELEM
section SETTLE
variable {K : GK} {g g' : GM} {S : GS} {b t n p m i q : Nat} {s s' : Nat → Int32} {sn : Nat → Nat}
theorem re_open {v : Nat} (hi : i < 9) (h3 : s 3 = nI (i + 1)) (h4 : s (fb i + 4) = nI m) (h2 : s (fb i + 2) = nI p) (hm : m < 3) : f8_open (rw1 S s) (nI v) = some (rw1 S (upd (upd (upd s (fb i + (5 + 2 * m)) (nI p)) (fb i + (5 + 2 * m + 1)) (nI v)) (fb i + 4) (nI (m + 1)))) := by
  have h3' : ∀ k w, upd s (fb i + k) w 3 = nI (i + 1) := fun k w => by rw [pk_un (by show 3 ≠ 1253 + 92 * i + k; omega)]; exact h3
  have h3'' : ∀ k w k' w', upd (upd s (fb i + k) w) (fb i + k') w' 3 = nI (i + 1) := fun k w k' w' => by rw [pk_un (by show 3 ≠ 1253 + 92 * i + k'; omega)]; exact h3' k w
  have h4' : ∀ w, upd s (fb i + (5 + 2 * m)) w (fb i + 4) = nI m := fun w => by rw [pk_un (by omega)]; exact h4
  have h4'' : ∀ w w', upd (upd s (fb i + (5 + 2 * m)) w) (fb i + (5 + 2 * m + 1)) w' (fb i + 4) = nI m := fun w w' => by rw [pk_un (by omega)]; exact h4' w
  unfold f8_open
  simp (disch := omega) only [EV, NUM, pu_lit, re_top hi h3, re_set hi h3, h4, h2, re_top hi (h3' _ _), re_set hi (h3' _ _), h4', re_top hi (h3'' _ _ _ _), re_set hi (h3'' _ _ _ _), h4'']
/-- a part begins -/
theorem begins (h : FR1 K g b s i t n sn p m) (hk : SE K b) (hi : i < 9) (hd : gI g b 6 = nI (i + 1)) (h3 : s 3 = nI (i + 1)) (hp : p < n) (hl : sn p = 120 ∨ sn p = 108 ∨ sn p = 115) : ∃ g' s1 l u, f0_beginPart K g b = some g' ∧ 1 ≤ l ∧ l ≤ 9 ∧ u ≤ n ∧ f8_leftHere (rw1 S s) = some (nI l) ∧ (sn p ≠ 120 → l = 1 ∧ s (fb i + 3) = nI 0) ∧ f8_open (rw1 S s) (nI (l - 1)) = some (rw1 S s1) ∧ s1 3 = nI (i + 1) ∧ s1 (fb i + 2) = nI p ∧ s1 (fb i + 3) = s (fb i + 3) ∧ (sn p = 120 → u = p + 3) ∧ (sn p ≠ 120 → u = p + 2) ∧ (∀ s', (∀ k, k < 92 → k ≠ 2 → k ≠ 3 → s' (fb i + k) = s1 (fb i + k)) → s' (fb i + 2) = nI u → s' (fb i + 3) = nI 0 → (∀ x, x < fb i → s' x = s1 x) → RES K g b s i t n sn g' s') := by
  have hs := h.2.2.2.2.2.2.2.2.2.1
  have h2 := h.2.1
  have h21 := h2.1
  have hv := h2.2.2.2.1
  have n80 := hv.1
  obtain ⟨l, l1, l9, c1, c2, c3⟩ := re_left (S := S) h hi h3 hp (by omega)
  obtain ⟨u, hu, hin, hm3, hsu, hku, hu1, hu2⟩ : ∃ u, u ≤ n ∧ gI g (t + 4) p = nI u ∧ (ks sn p).length < 3 ∧ SP sn n u ∧ ks sn u = p :: ks sn p ∧ (sn p = 120 → u = p + 3) ∧ (sn p ≠ 120 → u = p + 2) := by
    rcases hl with hl | hl
    · obtain ⟨a1, a2, a3, a4, a5, a6, a7⟩ := hs.x hv hp hl
      exact ⟨p + 3, by omega, (tx_x h2 hs hp hl).2, a5, a6, a7, fun _ => rfl, fun z => absurd hl z⟩
    · obtain ⟨a1, a2, a3, a6, a7⟩ := hs.sl hv hp hl
      exact ⟨p + 2, by omega, (tx_sl h2 hs hp hl).2.1, a3, a6, a7, fun z => by omega, fun _ => rfl⟩
  obtain ⟨h1, -, h3', ⟨c, c6, h4, h4'⟩, h5, h6, h7, h8, h9, h10, h11, h12, h13, h14⟩ := h
  have hm2 : m < 3 := by omega
  let g1 := gsI (gsI g (b + 5) (4 * i + m) (nI (l - 1))) (b + 3) i (nI (m + 1))
  let s1 := upd (upd (upd s (fb i + (5 + 2 * m)) (nI p)) (fb i + (5 + 2 * m + 1)) (nI (l - 1))) (fb i + 4) (nI (m + 1))
  have mv : MW g g1 b s s1 i := ((((MW.gi (x := 5) (by omega) (by omega)).tr (MW.gi (x := 3) (by omega) (by omega))).tr (MW.su (by omega))).tr (MW.su (by omega))).tr (MW.su (by omega))
  have ta := mv.ta hk
  have e1 : s1 3 = nI (i + 1) := by
    show upd (upd (upd s _ _) _ _) _ _ 3 = _
    rw [pk_un (by show 3 ≠ 1253 + 92 * i + 4; omega), pk_un (by show 3 ≠ 1253 + 92 * i + (5 + 2 * m + 1); omega), pk_un (by show 3 ≠ 1253 + 92 * i + (5 + 2 * m); omega)]; exact h3
  have es : ∀ k, k ≠ 4 → k ≠ 5 + 2 * m → k ≠ 5 + 2 * m + 1 → s1 (fb i + k) = s (fb i + k) := fun k z1 z2 z3 => by
    show upd (upd (upd s _ _) _ _) _ _ (fb i + k) = _
    rw [pk_un (by omega), pk_un (by omega), pk_un (by omega)]
  have hd1 : gI g1 b 6 = nI (i + 1) := by
    show gI (gsI (gsI g _ _ _) _ _ _) b 6 = _
    rw [gI_ne (by omega), gI_ne (by omega)]; exact hd
  have p1 : gI g1 (b + 3) i = nI (m + 1) := gI_eq
  have r1 : gR g1 (b + 6) i = some t := h1
  have f0 : FR0 K g1 b s1 i t n sn (p :: ks sn p) := by
    refine ⟨r1, h2.mo ta, ?_, ⟨c, c6, ?_, ?_⟩, ?_, ?_, ?_, fun k hk => ?_, fun j hj => ?_⟩
    · rw [show fb i = fb i + 0 from rfl, es 0 (by omega) (by omega) (by omega)]
      show _ = gI (gsI (gsI g _ _ _) _ _ _) (b + 1) i
      rw [gI_ne (by omega), gI_ne (by omega)]; exact h3'
    · show gI (gsI (gsI g _ _ _) _ _ _) (b + 2) i = _
      rw [gI_ne (by omega), gI_ne (by omega)]; exact h4
    · rw [es 1 (by omega) (by omega) (by omega)]; exact h4'
    · rw [p1]; simp [h5]
    · have : s1 (fb i + 4) = nI (m + 1) := pk_us
      rw [this]; simp [h5]
    · rw [es 11 (by omega) (by omega) (by omega)]; exact h12
    · rw [show fb i + 12 + k = fb i + (12 + k) by omega, es (12 + k) (by omega) (by omega) (by omega), show fb i + (12 + k) = fb i + 12 + k by omega]; exact h13 k hk
    · by_cases hjm : j = m
      · subst hjm
        rw [← h5, opn_top, h5]
        refine ⟨l - 1, by omega, ?_, ?_, ?_, ?_, fun z => ?_⟩
        · show gI (gsI (gsI g _ _ _) _ _ _) (b + 4) (4 * i + j) = _
          rw [gI_ne (by omega), gI_ne (by omega)]; exact h8
        · show upd (upd (upd s _ _) _ _) _ _ _ = _
          rw [pk_un (by omega), pk_un (by omega), show fb i + 5 + 2 * j = fb i + (5 + 2 * j) by omega, pk_us]
        · show gI (gsI (gsI g _ _ _) _ _ _) (b + 5) (4 * i + j) = _
          rw [gI_ne (by omega), gI_eq]
        · show upd (upd (upd s _ _) _ _) _ _ _ = _
          rw [pk_un (by omega), show fb i + 6 + 2 * j = fb i + (5 + 2 * j + 1) by omega, pk_us]
        · rcases hl with hl | hl
          · exact hl
          · have := c3 hl; omega
      · have hjm' : j < m := by simp at hj; omega
        rw [opn_old _ _ (by omega)]
        obtain ⟨l', l8, a1, a2, a3, a4, a5⟩ := h14 j hjm'
        refine ⟨l', l8, ?_, ?_, ?_, ?_, a5⟩
        · show gI (gsI (gsI g _ _ _) _ _ _) (b + 4) (4 * i + j) = _
          rw [gI_ne (by omega), gI_ne (by omega)]; exact a1
        · rw [show fb i + 5 + 2 * j = fb i + (5 + 2 * j) by omega, es _ (by omega) (by omega) (by omega), show fb i + (5 + 2 * j) = fb i + 5 + 2 * j by omega]; exact a2
        · show gI (gsI (gsI g _ _ _) _ _ _) (b + 5) (4 * i + j) = _
          rw [gI_ne (by omega), gI_ne (by omega)]; exact a3
        · rw [show fb i + 6 + 2 * j = fb i + (6 + 2 * j) by omega, es _ (by omega) (by omega) (by omega), show fb i + (6 + 2 * j) = fb i + 6 + 2 * j by omega]; exact a4
  have ti : gI g1 (t + 4) p = nI u := by rw [← hin]; exact congrFun (ta t h21 4 (by omega)) p
  have IN := tx_inside (h2.mo ta) hp
  have AR := cl_arrive (q := u) hi (show m + 1 ≤ 3 by omega) hd1 p1 r1 (h2.mo ta) hu hk
  refine ⟨gA g1 b (4 * i + (m + 1)) u (if u < n then gI g1 (t + 2) u else nI 0), s1, l, u, ?_, l1, l9, hu, c2, fun z => ⟨c3 (by omega), ?_⟩, re_open hi h3 h7 h9 hm2, e1, by rw [es 2 (by omega) (by omega) (by omega)]; exact h9, es 3 (by omega) (by omega) (by omega), hu1, hu2, fun s' y1 y2 y3 y4 => ?_⟩
  · have sp : f0_spotOf K g b (nI i) = some (nI (4 * i + m)) := by
      unfold f0_spotOf
      simp (disch := omega) [EV, NUM, pu_lit, pu_gok, pu_cl, h6, Nat.mul_comm]
    have w1 : gI (gsI g (b + 5) (4 * i + m) (nI (l - 1))) b 6 = nI (i + 1) := by rw [gI_ne (by omega)]; exact hd
    have w2 : gI (gsI g (b + 5) (4 * i + m) (nI (l - 1))) (b + 3) i = nI m := by rw [gI_ne (by omega)]; exact h6
    have w3 : gI g1 (b + 4) (4 * i + m) = nI p := by
      show gI (gsI (gsI g _ _ _) _ _ _) (b + 4) (4 * i + m) = _
      rw [gI_ne (by omega), gI_ne (by omega)]; exact h8
    unfold f0_beginPart
    simp (disch := omega) only [EV, NUM, pu_lit, pu_eq, pu_lt, pu_le, pu_gok, pu_cl, pk_sub, hd, h6, sp, c1, w1, w2, hm2, if_true, Nat.add_sub_cancel]
    rw [if_neg (by omega)]
    show gd (gok (gI g1 b 6 - nI 1) 9) (gopt (gR g1 (b + 6) (gI g1 b 6 - nI 1).toNatClampNeg) none fun t20 => gd (decide (gkd K t20 = 2)) ((f1_insideOf K g1 t20 (gI g1 (b + 4) (4 * i + m))).bind fun v27 => (f0_arriveAt K g1 b v27).bind fun g29 => some g29)) = _
    simp (disch := omega) only [EV, pu_gok, pu_cl, pk_sub, hd1, Nat.add_sub_cancel, r1, h21, w3, IN, ti, AR, decide_true]
  · exact LF.zero h11 (by omega) z
  · have f0' := f0
    rw [← hku] at f0'
    have A := f0'.arr (s' := s') hk hsu y1 y2 y3
    rw [hku, show (p :: ks sn p).length = m + 1 by simp [h5]] at A
    refine ⟨⟨_, _, A⟩, (mv.tr (gA_mv (by omega))).tr (MW.so y4), by rw [gA_6]; exact hd1, ?_⟩
    rw [y4 3 (by show 3 < 1253 + 92 * i; omega)]
    exact e1
theorem cl_behind' (hi : i < 9) (hd : gI g b 6 = nI (i + 1)) (h1 : gR g (b + 6) i = some t) (h2 : TX K g t n sn) (h3 : gI g (b + 3) i = nI m) (hm : m ≤ 3) (h4 : gI g (b + 4) (4 * i + m) = nI p) (hp : p < n) : f0_placeBehind K g b = some (gI g (t + 5) p) ∧ f0_spotOf K g b (nI i) = some (nI (4 * i + m)) := by
  have h21 := h2.1
  have n80 := h2.2.2.2.1.1
  have sp : f0_spotOf K g b (nI i) = some (nI (4 * i + m)) := by
    unfold f0_spotOf
    simp (disch := omega) [EV, NUM, pu_lit, pu_gok, pu_cl, h3, Nat.mul_comm]
  refine ⟨?_, sp⟩
  unfold f0_placeBehind
  simp (disch := omega) [EV, NUM, pu_lit, pu_gok, pu_cl, pu_le, pk_sub, hd, h1, sp, h21, h4, tx_behind h2 hp]
theorem pb_ar {α : Type} (h : f0_passOver_51 K b g = some g') (F : GM → Option α) : (f0_placeBehind K g b).bind (fun v => (f0_arriveAt K g b v).bind F) = F g' := by
  unfold f0_passOver_51 at h
  obtain ⟨v, h1, h2⟩ := gbind h
  obtain ⟨g1, h3, h4⟩ := gbind h2
  cases h4
  rw [h1]
  show (f0_arriveAt K g b v).bind F = _
  rw [h3]
  rfl
/-- a stack of d cards, each below the top at a call; T says of the top -/
def STK (K : GK) (g : GM) (b : Nat) (s : Nat → Int32) (d : Nat) (T : Nat → Nat → (Nat → Nat) → Prop) : Prop :=
  gI g b 6 = nI d ∧ s 3 = nI d ∧ d ≤ 9 ∧ (∀ j, j + 1 < d → ∃ t n sn p m, FR1 K g b s j t n sn p m ∧ p < n ∧ sn p = 107) ∧ ∀ j, j + 1 = d → ∃ t n sn p m, FR1 K g b s j t n sn p m ∧ T p n sn
abbrev atStep : Nat → Nat → (Nat → Nat) → Prop := fun p n sn => p < n ∧ sn p ≠ 41
/-- what a change of the stack leaves -/
def MB (g g' : GM) (b : Nat) (s s' : Nat → Int32) : Prop := AG (fun q => b ≤ q ∧ q ≤ b + 6) g g' ∧ (∀ x, x < 1253 → x ≠ 3 → s' x = s x) ∧ ∀ j, gR g' (b + 6) j = gR g (b + 6) j
theorem MW.mb (h : MW g g' b s s' i) : MB g g' b s s' := ⟨h.1.1, fun x h1 h3 => h.1.2.2.2 x (by show x < 1253 + 92 * i; omega) h3, h.2⟩
theorem MB.tr {g1 g2 : GM} {s1 s2 : Nat → Int32} (h : MB g g1 b s s1) (h2 : MB g1 g2 b s1 s2) : MB g g2 b s s2 := ⟨h.1.tr h2.1, fun x a c => (h2.2.1 x a c).trans (h.2.1 x a c), fun j => (h2.2.2 j).trans (h.2.2 j)⟩
end SETTLE
