/-! THE LAW'S LOOM, k: who calls whom; blank -/
section LCALLS
variable {K : GK} {g : GM} {B : Nat} {L L' L1 L2 : GS} {S S' S1 : GS} {s s' s1 s2 : Nat → Int32} {i j k n p m q c u l e T d : Nat} {sn : Nat → Nat} {v : Int32}
theorem CD.at (h : ∀ x, x < n → s (53 + 80 * k + x) = nI (sn x) ∧ AT L 2 k x = nI (sn x)) (hk : k < 5) (hn : n ≤ 24) : ∀ x, x < n → f9_at2 L (nI k) (nI x) = some (nI (sn x)) := fun x hx => by
  rw [at2 hk (by omega), (h x hx).2]
/-- a text's calls -/
theorem l_calls (hk : k < 5) (hv : VT sn n) (hn : n ≤ 24) (h3 : L 3 k = nI n) (hat : ∀ x, x < n → f9_at2 L (nI k) (nI x) = some (nI (sn x))) : f9_calls L (nI k) = some (nI (caN sn n)) := by
  have hc := hv.2.2.2
  have np := (vt_pos hv).1
  have F : ∀ w x f, x + w + 1 = n → f9_calls_5 L (nI k) (w + (f + 1)) (nI (caN sn (x + 1))) (nI x) = some (nI (caN sn n)) := by
    intro w
    induction w with
    | zero =>
      intro x f hw
      have : n = x + 1 := by omega
      subst this
      rw [Nat.zero_add, f9_calls_5]
      simp (disch := omega) only [EV, NUM, pu_lit, pu_gok, pu_cl, h3, pu_le]
      rw [if_pos (Nat.le_refl _)]
    | succ w ih =>
      intro x f hw
      have hx : ¬ n ≤ x + 1 := by omega
      have hsx := hat x (by omega)
      have hsx1 := hat (x + 1) (by omega)
      have hcx := hc x (by omega)
      have IH := ih (x + 1) f (by omega)
      have e : caN sn (x + 2) = caN sn (x + 1) ||| (if 0 < x + 1 ∧ sn x = 107 then 2 ^ (sn (x + 1) - 48) else 0) := rfl
      rw [show x + 1 + 1 = x + 2 from rfl, e] at IH
      rw [show w + 1 + (f + 1) = (w + (f + 1)) + 1 by omega, f9_calls_5]
      unfold f9_calls_46
      simp (disch := omega) only [EV, NUM, pu_lit, pu_gok, pu_cl, h3, pu_le, hx, if_false, hsx, pu_eq]
      by_cases c1 : sn x = 107
      · have hd := ca_dig (p := x + 1) (hv.ne (p := x + 2) (by omega)) ⟨by omega, c1⟩
        rw [if_pos ⟨by omega, c1⟩] at IH
        simp (disch := omega) only [c1, if_true, NUM, EV, hsx1]
        rw [pk_sub (by omega), (pu_sh (j := sn (x + 1) - 48) (by omega)).1, pu_or]
        exact IH
      · rw [if_neg (fun z => c1 z.2), Nat.or_zero] at IH
        simp only [c1, if_false, pu_or, Nat.or_zero]
        exact IH
  have e1 : caN sn (0 + 1) = 0 := by
    show 0 ||| (if 0 < 0 ∧ sn (0 - 1) = 107 then 2 ^ (sn 0 - 48) else 0) = 0
    rw [if_neg (fun z => absurd z.1 (by omega))]
    rfl
  have := F (n - 1) 0 (FU - n) (by omega)
  rw [show n - 1 + (FU - n + 1) = FU by unfold FU; omega, e1] at this
  unfold f9_calls
  simp only [pu_lit]
  exact this
theorem l_calls0 (hk : k < 5) (h3 : L 3 k = nI 0) : f9_calls L (nI k) = some (nI 0) := by
  unfold f9_calls
  rw [show FU = (FU - 1) + 1 by unfold FU; omega, f9_calls_5]
  simp (disch := omega) only [EV, NUM, pu_lit, pu_gok, pu_cl, h3, pu_le]
  rw [if_pos (by omega)]
theorem r_calls0 (hk : k < 10) (h43 : s (43 + k) = nI 0) : f8_calls (rw1 S s) (nI k) = some (nI 0) := by
  unfold f8_calls
  rw [show FU = (FU - 1) + 1 by unfold FU; omega, f8_calls_4]
  simp (disch := omega) only [EV, NUM, pu_lit, pu_gok, pu_cl, rw1_1, h43, pu_le]
  rw [if_pos (by omega)]
/-- the callers, by the law -/
theorem l_callers {C : Nat → Nat} (hC : ∀ x, x < 5 → C x < 1024 ∧ f9_calls L (nI x) = some (nI (C x))) (hk : k < 10) : f9_callers L (nI k) = some (nI (clN C k 5)) := by
  have F : ∀ w x f, x + w = 5 → f9_callers_5 L (nI k) (w + (f + 1)) (nI (clN C k x)) (nI x) = some (nI (clN C k 5)) := by
    intro w
    induction w with
    | zero =>
      intro x f hw
      have : x = 5 := by omega
      subst this
      rw [Nat.zero_add, f9_callers_5]
      simp (disch := omega) only [pu_lit, pu_le]
      rw [if_pos (Nat.le_refl _)]
    | succ w ih =>
      intro x f hw
      have hx : ¬ 5 ≤ x := by omega
      obtain ⟨c1, c2⟩ := hC x (by omega)
      have IH := ih (x + 1) f (by omega)
      have e : clN C k (x + 1) = clN C k x ||| (if (C x).testBit k then 2 ^ x else 0) := rfl
      rw [e] at IH
      rw [show w + 1 + (f + 1) = (w + (f + 1)) + 1 by omega, f9_callers_5]
      simp (disch := omega) only [EV, NUM, pu_lit, pu_le, hx, if_false, c2, pu_bit c1 hk]
      rw [← IH]
      cases (C x).testBit k with
      | true => simp only [if_true, (pu_sh (j := x) (by omega)).1, pu_or]
      | false => simp only [Bool.false_eq_true, if_false, (pu_sh (j := x) (by omega)).2, pu_or]
  have := F 5 0 (FU - 6) rfl
  rw [show 5 + (FU - 6 + 1) = FU by unfold FU; omega] at this
  unfold f9_callers
  simp only [pu_lit]
  exact this
/-- who calls whom, on both sides -/
theorem l_graph (hS : SIM K g S B) (hB : BAL L (S 1) c T) : ∃ C : Nat → Nat, (∀ x, x < 5 → C x < 1024 ∧ f9_calls L (nI x) = some (nI (C x)) ∧ f8_calls S (nI x) = some (nI (C x))) ∧ ∀ x, x < 5 → f9_callers L (nI x) = some (nI (clN C x 10)) ∧ f8_callers S (nI x) = some (nI (clN C x 10)) := by
  obtain ⟨hG, -⟩ := hS.gv
  have eS : S = rw1 S (S 1) := (rw1_self S).symm
  have A : ∀ x, x < 5 → f9_calls L (nI x) = some (nI (CC g (B + 10) x)) := fun x hx => by
    obtain ⟨c1, -, c3, -⟩ := hG x (by omega)
    obtain ⟨n, sn, a1, a2, a3, a4, a5⟩ := hB.2.2.2.2.2.2.2.1 x hx
    by_cases n0 : n = 0
    · subst n0
      have := r_calls0 (S := S) (k := x) (by omega) a2
      rw [← eS, c3] at this
      rw [l_calls0 hx a1]
      exact this.symm
    · have := re_calls (S := S) (k := x) (by omega) (a4 (by omega)) a2 (fun y hy => (a5 y hy).1)
      rw [← eS, c3] at this
      rw [l_calls hx (a4 (by omega)) a3 a1 (CD.at a5 hx a3)]
      exact this.symm
  refine ⟨CC g (B + 10), fun x hx => ⟨(hG x (by omega)).1, A x hx, (hG x (by omega)).2.2.1⟩, fun x hx => ⟨?_, (callers_eq hG (by omega)).2⟩⟩
  rw [l_callers (C := CC g (B + 10)) (fun y hy => ⟨(hG y (by omega)).1, A y hy⟩) (by omega)]
  have z : ∀ y, 5 ≤ y → y < 10 → CC g (B + 10) y = 0 := fun y h1 h2 => by
    obtain ⟨c1, -, c3, -⟩ := hG y h2
    have := r_calls0 (S := S) (k := y) h2 (hB.2.2.2.2.2.2.2.2 y h1 h2)
    rw [← eS, c3] at this
    exact (nI_eq (by omega) (by omega)).mp (Option.some.inj this)
  have s : ∀ y, 5 ≤ y → y < 10 → clN (CC g (B + 10)) x (y + 1) = clN (CC g (B + 10)) x y := fun y h1 h2 => by
    show clN _ x y ||| _ = _
    rw [z y h1 h2]
    simp
  rw [s 9 (by omega) (by omega), s 8 (by omega) (by omega), s 7 (by omega) (by omega), s 6 (by omega) (by omega), s 5 (by omega) (by omega)]
theorem d_blank {b : Int32} (hS : SIM K g S B) (h : LR L (S 1) T) (hk : k < 5) : LDU S L T (f9_due L (nI 5) (nI k) b) (f8_blank S (nI k)) := by
  obtain ⟨S1, e1, e2, e3⟩ := rec_of hS
  have h0 := h
  obtain ⟨c, d, hB, hST, h8⟩ := h
  obtain ⟨n, sn, y1, y2, y3, y4, y5⟩ := hB.2.2.2.2.2.2.2.1 k hk
  have E9 : f9_due L (nI 5) (nI k) b = if n = 0 then some (L, -5) else (f9_callers (ssI L 3 k (nI 0)) (nI k)).bind (fun v => some (ssI L 3 k (nI 0), v)) := by
    unfold f9_due
    rw [if_neg (by decide), if_neg (by decide), if_neg (by decide), if_neg (by decide), if_pos (show nI 5 = 5 from rfl)]
    simp (disch := omega) only [EV, pu_lit, pu_gok, pu_cl, y1, pu_eq]
  have HT : f8_hasText S (nI k) = some (nI (if n = 0 then 0 else 1)) := by
    unfold f8_hasText
    simp (disch := omega) only [EV, NUM, pu_lit, pu_gok, pu_cl, y2, pu_le]
    by_cases z : n = 0
    · rw [if_pos (by omega), if_pos z]
    · rw [if_neg (by omega), if_neg z]
  have E8 : f8_blank S (nI k) = if n = 0 then some (S, -5) else (f8_callers (rw1 S1 (upd (S 1) (43 + k) (nI 0))) (nI k)).bind (fun v => some (rw1 S1 (upd (S 1) (43 + k) (nI 0)), v)) := by
    unfold f8_blank f8_isCard
    rw [show f8_within (nI k) 0 9 = f8_within (nI k) (nI 0) (nI 9) from rfl, within_1 (Nat.zero_le _) (by omega) (by omega)]
    simp only [EV, gbl1, if_neg n1ne, HT]
    by_cases z : n = 0
    · rw [if_pos z, if_pos z, if_pos nI_0]
    · rw [if_neg z, if_neg z, if_neg n1ne, e1]
      simp (disch := omega) only [EV, NUM, pu_lit, pu_gok, pu_cl]
      rw [show ssI S1 1 (43 + k) (nI 0) = rw1 S1 (upd (S 1) (43 + k) (nI 0)) by rw [← ss_rw, ← e2, rw1_self]]
  by_cases z : n = 0
  · rw [E9, E8, if_pos z, if_pos z]
    exact ⟨L, S, -5, rfl, rfl, h0.up, Or.inl ⟨m5neg, rfl, rfl⟩⟩
  · obtain ⟨g2, S2, r, w1, w2, w3⟩ := op_blank hS (nI k)
    have hB2 : BAL (ssI L 3 k (nI 0)) (upd (S 1) (43 + k) (nI 0)) c T := by
      obtain ⟨a1, ⟨⟨v', v9, a2⟩, nb⟩, a3, ⟨W, WT, a4⟩, a5, a6, a7, a8, a9⟩ := hB
      refine ⟨fun x hx => by rw [ss_n _ _ _ _ _ (by decide), pk_un (by omega)]; exact a1 x hx, ⟨⟨v', v9, by rw [pk_un (by omega)]; exact a2⟩, nb.mo (fun x hx => pk_un (by omega))⟩, fun x h1 h2 => by rw [ss_n _ _ _ _ _ (by decide), pk_un (by omega)]; exact a3 x h1 h2, ⟨W, by omega, by rw [pk_un (by omega)]; exact a4⟩, fun x hx => by rw [ss_n _ _ _ _ _ (by decide), pk_un (by omega)]; exact a5 x hx, fun x hx => by rw [ss_1, pk_un (by omega), pk_un (by omega)]; exact a6 x hx, a7.mo (by rw [ss_n _ _ _ _ _ (by decide)]) (ss_n _ _ _ _ _ (by decide)) (pk_un (by omega)) (fun x h1 h2 => pk_un (by omega)), fun x hx => ?_, fun x h1 h2 => by rw [pk_un (by omega)]; exact a9 x h1 h2⟩
      by_cases xk : x = k
      · subst xk
        exact ⟨0, sn, by rw [ss_1, pk_us], pk_us, by omega, fun z => absurd z (Nat.lt_irrefl 0), fun y hy => absurd hy (Nat.not_lt_zero y)⟩
      · obtain ⟨n', sn', b1, b2, b3, b4, b5⟩ := a8 x hx
        refine ⟨n', sn', by rw [ss_1, pk_un xk]; exact b1, by rw [pk_un (by omega)]; exact b2, b3, b4, fun y hy => ⟨by rw [pk_un (by omega)]; exact (b5 y hy).1, ?_⟩⟩
        have := (b5 y hy).2
        unfold AT at this ⊢
        rw [ss_n _ _ _ _ _ (by decide)]
        exact this
    have w2' := w2
    rw [E8, if_neg z] at w2'
    obtain ⟨v, v1, v2⟩ := gbind w2'
    have eS2 : S2 = rw1 S1 (upd (S 1) (43 + k) (nI 0)) := (congrArg Prod.fst (Option.some.inj v2)).symm
    have er : v = r := congrArg Prod.snd (Option.some.inj v2)
    have S21 : S2 1 = upd (S 1) (43 + k) (nI 0) := by rw [eS2, rw1_1]
    obtain ⟨C, -, c2⟩ := l_graph (L := ssI L 3 k (nI 0)) w3 (by rw [S21]; exact hB2)
    obtain ⟨c3, c4⟩ := c2 k hk
    rw [← eS2, c4] at v1
    have hr : r = nI (clN C k 10) := er.symm.trans (Option.some.inj v1).symm
    have lt : clN C k 10 < 2 ^ 31 := by have := clN_lt C k 10 (Nat.le_refl _); omega
    refine ⟨ssI L 3 k (nI 0), S2, r, ?_, w2, ⟨c, d, by rw [S21]; exact hB2.le (by omega), ?_, ?_⟩, Or.inr ⟨by rw [hr]; exact nI_pos lt, by rw [eS2]; exact e3.rw _⟩⟩
    · rw [E9, if_neg z, c3, hr]
      rfl
    · rw [S21]
      exact hST.beside (by rw [ss_n _ _ _ _ _ (by decide)]) (pk_un (by omega)) (ss_n _ _ _ _ _ (by decide)) (ss_n _ _ _ _ _ (by decide)) (ss_n _ _ _ _ _ (by decide)) (fun x hx => pk_un (by omega))
    · rw [S21, ss_n _ _ _ _ _ (by decide), pk_un (by omega)]; exact h8
end LCALLS
