/-! THE LAW'S LOOM, b: passing over, beginning a part -/
section LPASS
variable {L L' L1 L2 : GS} {S : GS} {s s' s1 s2 : Nat → Int32} {i j k n p m q c u l : Nat} {sn : Nat → Nat}
theorem FRR.count (h : FRR s i n sn p m) (hi : i < 9) (h3 : s 3 = nI (i + 1)) : f8_countAt (rw1 S s) (nI p) = some (nI (cntN sn n p)) :=
  re_count hi h3 h.2.2.2.2.2.2.2.1 h.1.1 h.2.2.2.2.2.2.2.2.1 h.1.2.2.2 h.2.2.2.2.2.1.1
/-- times left here -/
theorem r_left (h : FRR s i n sn p m) (hi : i < 9) (h3 : s 3 = nI (i + 1)) : ∃ l, 1 ≤ l ∧ l ≤ 9 ∧ f8_leftHere (rw1 S s) = some (nI l) ∧ ((s (fb i + 3) = nI 0 ∧ l = cntN sn n p) ∨ s (fb i + 3) = nI l) := by
  rcases h.2.2.2.2.2.2.1 with a1 | ⟨l, a1, a2, a3, a5, a6⟩
  · refine ⟨cntN sn n p, cntN_pos.1, cntN_pos.2, ?_, Or.inl ⟨a1, rfl⟩⟩
    unfold f8_leftHere
    simp (disch := omega) [EV, pu_lit, re_top hi h3, a1, pu_le, h.2.2.2.2.1, h.count hi h3]
  · refine ⟨l, a1, a2, ?_, Or.inr a3⟩
    have : ¬ l ≤ 0 := by omega
    unfold f8_leftHere
    simp (disch := omega) [EV, pu_lit, re_top hi h3, a3, pu_le, this]
theorem p44 {x0 : Int32} {c u : Nat} (hi : i < 9) (hp : p < 100) (hc : c ≤ 9) (hu : u ≤ 9) (h2 : L 4 (6 * i + 2) = nI p) : f9_passes_44 x0 L (nI (6 * i)) (nI c) (nI (6 * i + 3)) (nI u) = some (ssI (ssI L 4 (6 * i + 3) (nI u)) 4 (6 * i + 2) (nI (if u ≤ 0 then (if c ≤ 1 then p + 1 else p + 2) else p))) := by
  unfold f9_passes_44
  simp (disch := omega) only [EV, NUM, pu_lit, pu_gok, pu_cl, ss_1, pk_us, pk_un, pu_le, h2]
  by_cases hu0 : u ≤ 0
  · rw [if_pos hu0, if_pos hu0]
    by_cases hc1 : c ≤ 1
    · rw [if_pos hc1, if_pos hc1]
    · rw [if_neg hc1, if_neg hc1]
  · rw [if_neg hu0, if_neg hu0]
    rfl
/-- a pick is done, or passed over -/
theorem l_passes (h : FL L s i n sn p m) (hi : i < 9) (h3 : s 3 = nI (i + 1)) (hL3 : L 0 3 = nI (i + 1)) (hp : p < n) (hl : sn p = 119) : ∃ L' s', f9_passes L (nI i) = some L' ∧ f8_donePick (rw1 S s) = some (rw1 S s') ∧ RESL L s i n sn L' s' := by
  have hv := h.1.1
  have hs := h.1.2.2.2.2.2.1
  have n24 := h.2.1
  have cp := cntN_pos (sn := sn) (n := n) (p := p)
  obtain ⟨l, l1, l9, c2, hl3⟩ := r_left (S := S) h.1 hi h3
  have e9 : f9_passes L (nI i) = some (ssI (ssI L 4 (6 * i + 3) (nI (l - 1))) 4 (6 * i + 2) (nI (if l - 1 ≤ 0 then (if cntN sn n p ≤ 1 then p + 1 else p + 2) else p))) := by
    rw [← p44 (x0 := nI i) (c := cntN sn n p) hi (by omega) (by omega) (by omega) h.l2]
    unfold f9_passes
    simp (disch := omega) only [EV, NUM, pu_lit, pu_gok, pu_cl, h.l2, l_digit h hi hp, h.l3]
    rcases hl3 with ⟨z1, z2⟩ | z1
    · rw [z1, if_pos ((nI_leI (by omega) (by omega)).mpr (Nat.le_refl _)), z2, pk_sub (by omega)]
    · rw [z1, if_neg (fun z => by have := (nI_leI (by omega) (by omega)).mp z; omega), pk_sub (by omega)]
  by_cases hl1 : l = 1
  · subst hl1
    obtain ⟨q1, q2⟩ := hs.w hv hp hl
    rw [if_pos (by omega)] at e9
    have h3' : upd s (fb i + 3) (nI 0) 3 = nI (i + 1) := by rw [pk_un (by show 3 ≠ 1253 + 92 * i + 3; omega)]; exact h3
    have A2 : upd s (fb i + 3) (nI 0) (fb i + 2) = nI p := by rw [pk_un (by omega)]; exact h.1.2.2.2.2.1
    have C := re_count (S := S) hi h3' (p := p) (n := n) (sn := sn) (by rw [pk_un (by omega)]; exact h.1.2.2.2.2.2.2.2.1) hv.1 (fun k hk => by rw [pk_un (by omega)]; exact h.1.2.2.2.2.2.2.2.2.1 k hk) hv.2.2.2 (by omega)
    have G1 := re_go (S := S) hi h3' (k := 1) A2
    have G2 := re_go (S := S) hi h3' (k := 2) A2
    refine ⟨_, upd (upd s (fb i + 3) (nI 0)) (fb i + 2) (nI (wNx sn n p)), e9, ?_, ⟨_, m, h.arr q1 q2 (fun k _ h2 h3 => by rw [pk_un (by omega), pk_un (by omega)]) pk_us (Or.inl (by rw [pk_un (by omega), pk_us])) (fun x h2 h3 => by rw [ss_1, pk_un h2, ss_1, pk_un h3]) (by rw [ss_n _ _ _ _ _ (by decide), ss_n _ _ _ _ _ (by decide)]) (by rw [ss_n _ _ _ _ _ (by decide), ss_n _ _ _ _ _ (by decide)]) (by rw [ss_1, pk_us, wNx_cnt]) (by rw [ss_1, pk_un (by omega), ss_1, pk_us, pk_un (by omega), pk_us])⟩, ?_, ?_, ?_⟩
    · unfold f8_donePick f8_donePick_36
      rw [wNx_cnt]
      by_cases c1' : cntN sn n p ≤ 1
      · simp (disch := omega) [EV, NUM, pu_lit, pu_eq, pu_le, pk_sub, c2, re_set hi h3, re_top hi h3', A2, C, G1, G2, c1']
      · simp (disch := omega) [EV, NUM, pu_lit, pu_eq, pu_le, pk_sub, c2, re_set hi h3, re_top hi h3', A2, C, G1, G2, c1']
    · exact ((MVL.s4 (by omega)).tr (MVL.s4 (by omega))).tr ((MVL.su (Or.inr (by omega))).tr (MVL.su (Or.inr (by omega))))
    · rw [pk_un (by show 3 ≠ 1253 + 92 * i + 2; omega)]; exact h3'
    · rw [ss_n _ _ _ _ _ (by decide), ss_n _ _ _ _ _ (by decide)]; exact hL3
  · have hn0 : ¬ l - 1 = 0 := by omega
    rw [if_neg (by omega)] at e9
    refine ⟨_, upd s (fb i + 3) (nI (l - 1)), e9, ?_, ⟨p, m, h.arr hs rfl (fun k _ h2 h3 => by rw [pk_un (by omega)]) (by rw [pk_un (by omega)]; exact h.1.2.2.2.2.1) (Or.inr ⟨l - 1, by omega, by omega, by rw [pk_us], hp, Or.inl hl⟩) (fun x h2 h3 => by rw [ss_1, pk_un h2, ss_1, pk_un h3]) (by rw [ss_n _ _ _ _ _ (by decide), ss_n _ _ _ _ _ (by decide)]) (by rw [ss_n _ _ _ _ _ (by decide), ss_n _ _ _ _ _ (by decide)]) (by rw [ss_1, pk_us]) (by rw [ss_1, pk_un (by omega), ss_1, pk_us, pk_us])⟩, ?_, ?_, ?_⟩
    · unfold f8_donePick
      simp (disch := omega) [EV, NUM, pu_lit, pu_eq, pu_le, pk_sub, c2, re_set hi h3, hn0]
    · exact ((MVL.s4 (by omega)).tr (MVL.s4 (by omega))).tr (MVL.su (Or.inr (by omega)))
    · rw [pk_un (by show 3 ≠ 1253 + 92 * i + 3; omega)]; exact h3
    · rw [ss_n _ _ _ _ _ (by decide), ss_n _ _ _ _ _ (by decide)]; exact hL3
/-- the closing bracket is found -/
theorem l_p22 (hv : VT sn n) (hat : ∀ k, k < n → f9_at6 L (nI i) (nI k) = some (nI (sn k))) {r Lk : Nat} {p1 : Int32} (hr : r < n) (h41 : sn r = 41) (hL : (ks sn (r + 1)).length = Lk) : ∀ w u f, r - (u + 1) = w → u + 1 ≤ r → w + 1 < f → (∀ x, u + 1 ≤ x → x ≤ r → Lk < (ks sn x).length) → f9_behind_22 L (nI i) p1 f (nI u) (nI ((ks sn (u + 1)).length - Lk)) = some (nI (r + 1)) := by
  have n80 := hv.1
  intro w
  induction w with
  | zero =>
    intro u f hw hvr hf hin
    obtain ⟨f, rfl⟩ : ∃ k, f = k + 2 := ⟨f - 2, by omega⟩
    have : r = u + 1 := by omega
    subst this
    have h1 := hin (u + 1) (Nat.le_refl _) (Nat.le_refl _)
    obtain ⟨⟨k, hk⟩, -⟩ := (ks_step hv hr).2.1 h41
    have e1 : (ks sn (u + 1)).length = (ks sn (u + 1 + 1)).length + 1 := by rw [hk]; rfl
    have e2 : (ks sn (u + 1)).length - Lk = 1 := by omega
    have hsv := hat (u + 1) hr
    rw [e2, f9_behind_22]
    simp (disch := omega) [EV, NUM, pu_lit, pu_le, pu_eq, hsv, h41, f9_behind_63, pu_m1']
    rw [f9_behind_22]
    simp (disch := omega) [EV, NUM, pu_lit, pu_le]
  | succ w ih =>
    intro u f hw hvr hf hin
    obtain ⟨f, rfl⟩ : ∃ k, f = k + 1 := ⟨f - 1, by omega⟩
    have h1 := hin (u + 1) (Nat.le_refl _) (by omega)
    have h2 := hin (u + 1 + 1) (by omega) (by omega)
    have l3 := (au (hv.ne (p := u + 1) (by omega))).2.2.1
    have l3' := (au (hv.ne (p := u + 1 + 1) (by omega))).2.2.1
    have hsv := hat (u + 1) (by omega)
    have hcv := hv.2.2.2 (u + 1) (by omega)
    obtain ⟨k40, k41, kne⟩ := ks_step hv (p := u + 1) (by omega)
    have hn0 : ¬ (ks sn (u + 1)).length - Lk ≤ 0 := by omega
    have IH := ih (u + 1) f (by omega) (by omega) (by omega) (fun x hx1 hx2 => hin x (by omega) hx2)
    rw [← IH, f9_behind_22]
    by_cases c40 : sn (u + 1) = 40
    · have e1 : (ks sn (u + 1 + 1)).length = (ks sn (u + 1)).length + 1 := by rw [k40 c40]; rfl
      rw [e1, show (ks sn (u + 1)).length + 1 - Lk = (ks sn (u + 1)).length - Lk + 1 by omega]
      simp (disch := omega) only [EV, NUM, pu_lit, pu_le, pu_eq, hsv, c40, f9_behind_63, hn0, if_false, if_true]
    · by_cases c41 : sn (u + 1) = 41
      · obtain ⟨⟨k, hk⟩, -⟩ := k41 c41
        have e1 : (ks sn (u + 1)).length = (ks sn (u + 1 + 1)).length + 1 := by rw [hk]; rfl
        rw [show (ks sn (u + 1 + 1)).length - Lk = (ks sn (u + 1)).length - Lk - 1 by omega]
        simp (disch := omega) only [EV, NUM, pu_lit, pu_le, pu_eq, hsv, c41, f9_behind_63, hn0, if_false, if_true, pu_m1']
        simp
      · rw [kne c40 c41]
        simp (disch := omega) only [EV, NUM, pu_lit, pu_le, pu_eq, hsv, c40, c41, f9_behind_63, hn0, if_false, if_true]
        simp
/-- the place behind a part, on both sides -/
theorem l_behind (hv : VT sn n) (hs : SP sn n p) (hat : ∀ k, k < n → f9_at6 L (nI i) (nI k) = some (nI (sn k))) (hi : i < 9) (h3 : s 3 = nI (i + 1)) (hr : ∀ k, k < n → s (fb i + 12 + k) = nI (sn k)) (hp : p < n) (hl : sn p = 120 ∨ sn p = 108 ∨ sn p = 115) : ∃ r, ks sn (r + 1) = ks sn p ∧ SP sn n (r + 1) ∧ f9_behind L (nI i) (nI p) = some (nI (r + 1)) ∧ f8_passPart (rw1 S s) (nI (p + if sn p = 120 then 2 else 1)) = some (rw1 S (upd (upd s (fb i + 2) (nI (r + 1))) (fb i + 3) (nI 0))) := by
  have n80 := hv.1
  have H : ∃ o, p < o ∧ o < n ∧ o = p + (if sn p = 120 then 2 else 1) ∧ ks sn (o + 1) = p :: ks sn p ∧ o + 1 ≤ n ∧ f9_behind L (nI i) (nI p) = f9_behind_22 L (nI i) (nI p) FU (nI o) (nI 1) := by
    have ap := hat p hp
    rcases hl with hl | hl
    · obtain ⟨a1, a2, a3, a4, a5, a6, a7⟩ := hs.x hv hp hl
      refine ⟨p + 2, by omega, a1, by rw [if_pos hl], a7, by omega, ?_⟩
      have b1 := hat (p + 1) (by omega)
      have b2 := hat (p + 2) a1
      have n1 : ¬ sn (p + 1) = 40 := by omega
      have hc1 := hv.2.2.2 (p + 1) (by omega)
      unfold f9_behind
      rw [show FU = 999997 + 3 from rfl, f9_behind_2]
      simp (disch := omega) only [EV, NUM, pu_lit, pu_eq, ap, hl]
      rw [f9_behind_2]
      simp (disch := omega) only [EV, NUM, pu_lit, pu_eq, b1, n1]
      rw [f9_behind_2]
      simp (disch := omega) only [EV, NUM, pu_lit, pu_eq, b2, a4]
      rfl
    · obtain ⟨a1, a2, a3, a6, a7⟩ := hs.sl hv hp hl
      refine ⟨p + 1, by omega, a1, by rw [if_neg (by omega)], a7, by omega, ?_⟩
      have b1 := hat (p + 1) a1
      have n1 : ¬ sn p = 40 := by omega
      have hc1 := hv.2.2.2 p (by omega)
      unfold f9_behind
      rw [show FU = 999997 + 3 from rfl, f9_behind_2]
      simp (disch := omega) only [EV, NUM, pu_lit, pu_eq, ap, n1]
      rw [f9_behind_2]
      simp (disch := omega) only [EV, NUM, pu_lit, pu_eq, b1, a2]
      rfl
  obtain ⟨o, o1, o2, o3, o4, o5, o6⟩ := H
  obtain ⟨r, a1, a2, a3, a4, a5, a6, a7, a8⟩ := closes hv p (ks sn p) (n - (o + 1)) (o + 1) [] (Nat.le_refl _) o5 o4
  refine ⟨r, a5, a7, ?_, ?_⟩
  · have := l_p22 (p1 := nI p) hv hat a2 a3 (by rw [a5]) (r - (o + 1)) o FU rfl a1 (by unfold FU; omega) a8
    rw [o6, ← this, o4]
    rw [show (p :: ks sn p).length - (ks sn p).length = 1 by simp]
  · have := re_pass (S := S) (p0 := nI o) hi h3 hv hr a2 a3 (by rw [a5]) (r - (o + 1)) (o + 1) FU rfl a1 (by unfold FU; omega) a8
    rw [← o3, ← this, o4]
    unfold f8_passPart
    simp only [EV, NUM, pu_lit]
    rw [show (p :: ks sn p).length - (ks sn p).length = 1 by simp]
/-- a part begins -/
theorem l_begins {by_ : Nat} (h : FL L s i n sn p m) (hi : i < 9) (hL3 : L 0 3 = nI (i + 1)) (hm : m < 3) (hl8 : l ≤ 8) (hlx : 0 < l → sn p = 120) (hu : SP sn n u) (hku : ks sn u = p :: ks sn p) (hub : u = p + by_) : ∃ L', f9_begins L (nI l) (nI by_) (nI (6 * i)) = some L' ∧ ∀ s', (∀ k, k < 92 → k ≠ 2 → k ≠ 3 → s' (fb i + k) = upd (upd (upd s (fb i + (5 + 2 * m)) (nI p)) (fb i + (5 + 2 * m + 1)) (nI l)) (fb i + 4) (nI (m + 1)) (fb i + k)) → s' (fb i + 2) = nI u → s' (fb i + 3) = nI 0 → (∀ x, x < fb i → s' x = s x) → s' 3 = nI (i + 1) → RESL L s i n sn L' s' := by
  have n24 := h.2.1
  have pn := h.pn
  refine ⟨ssI (ssI (ssI (ssI (ssI L 5 (6 * i + 2 * m) (nI p)) 5 (6 * i + 2 * m + 1) (nI l)) 4 (6 * i + 4) (nI (m + 1))) 4 (6 * i + 3) (nI 0)) 4 (6 * i + 2) (nI u), ?_, fun s' es e2 e3 eo e3' => ⟨⟨u, m + 1, ?_⟩, ?_, e3', ?_⟩⟩
  · unfold f9_begins
    simp (disch := omega) only [EV, NUM, pu_lit, pu_gok, pu_cl, ss_1, pk_us, pk_un, ss_n, h.l2, h.l4, ne_eq]
    simp (disch := omega) [EV, NUM, pu_lit, pu_gok, pu_cl, ss_1, pk_us, pk_un, ss_n, h.l2, h.l4, hub]
  · obtain ⟨⟨a1, ⟨c, c6, a2⟩, a3, a4, a5, a6, a7, a8, a9, a10⟩, b1, b2⟩ := h
    refine ⟨⟨a1, ⟨c, c6, by rw [es 1 (by omega) (by omega) (by omega), pk_un (by omega), pk_un (by omega), pk_un (by omega)]; exact a2⟩, by rw [hku, ← a3]; rfl, by rw [es 4 (by omega) (by omega) (by omega), pk_us], e2, hu, Or.inl e3, by rw [es 11 (by omega) (by omega) (by omega), pk_un (by omega), pk_un (by omega), pk_un (by omega)]; exact a8, fun k hk => ?_, fun j hj => ?_⟩, b1, fun k hk => ?_⟩
    · rw [Nat.add_assoc, es _ (by omega) (by omega) (by omega), pk_un (by omega), pk_un (by omega), pk_un (by omega), ← Nat.add_assoc]
      exact a9 k hk
    · rw [hku, Nat.add_assoc (fb i) 5, Nat.add_assoc (fb i) 6, es _ (by omega) (by omega) (by omega), es _ (by omega) (by omega) (by omega), pk_un (k := fb i + 4) (by omega), pk_un (k := fb i + 4) (by omega)]
      by_cases hjm : j = m
      · subst hjm
        refine ⟨l, hl8, ?_, ?_, ?_⟩
        · rw [pk_un (by omega), pk_us, ← a3, opn_top]
        · rw [show 6 + 2 * j = 5 + 2 * j + 1 by omega, pk_us]
        · rw [← a3, opn_top]; exact hlx
      · obtain ⟨l', l8, z1, z2, z3⟩ := a10 j (by omega)
        refine ⟨l', l8, ?_, ?_, ?_⟩
        · rw [pk_un (by omega), pk_un (by omega), opn_old _ _ (by omega), ← Nat.add_assoc]; exact z1
        · rw [pk_un (by omega), pk_un (by omega), ← Nat.add_assoc]; exact z2
        · rw [opn_old _ _ (by omega)]; exact z3
    · have k92 : k < 92 := by unfold live at hk; omega
      by_cases k2 : k = 2
      · subst k2
        rw [vf_4 (by omega), e2, ss_1, pk_us]
      by_cases k3 : k = 3
      · subst k3
        rw [vf_4 (by omega), e3, ss_1, pk_un (by omega), ss_1, pk_us]
      rw [es k k92 k2 k3]
      by_cases k4 : k = 4
      · subst k4
        rw [pk_us, vf_4 (by omega), ss_1, pk_un (by omega), ss_1, pk_un (by omega), ss_1, pk_us]
      rw [pk_un (by omega)]
      by_cases k5 : k = 5 + 2 * m + 1
      · subst k5
        rw [pk_us, vf_5 (by omega) (by omega), ss_n _ _ _ _ _ (by decide), ss_n _ _ _ _ _ (by decide), ss_n _ _ _ _ _ (by decide), ss_1, show 6 * i + (5 + 2 * m + 1 - 5) = 6 * i + 2 * m + 1 by omega, pk_us]
      rw [pk_un (by omega)]
      by_cases k6 : k = 5 + 2 * m
      · subst k6
        rw [pk_us, vf_5 (by omega) (by omega), ss_n _ _ _ _ _ (by decide), ss_n _ _ _ _ _ (by decide), ss_n _ _ _ _ _ (by decide), ss_1, show 6 * i + (5 + 2 * m - 5) = 6 * i + 2 * m by omega, pk_un (by omega), ss_1, pk_us]
      rw [pk_un (by omega), b2 k (by unfold live at hk ⊢; omega)]
      unfold vf AT
      rw [ss_n _ 4 _ 6 _ (by decide), ss_n _ 4 _ 6 _ (by decide), ss_n _ 4 _ 6 _ (by decide), ss_n _ 5 _ 6 _ (by decide), ss_n _ 5 _ 6 _ (by decide), ss_n _ 4 _ 5 _ (by decide), ss_n _ 4 _ 5 _ (by decide), ss_n _ 4 _ 5 _ (by decide), ss_1 _ 5, ss_1 _ 5, ss_1 _ 4, ss_1 _ 4, ss_1 _ 4, ss_n _ 5 _ 4 _ (by decide), ss_n _ 5 _ 4 _ (by decide)]
      by_cases z1 : k < 5
      · rw [if_pos z1, if_pos z1, pk_un (by omega), pk_un (by omega), pk_un (by omega)]
      rw [if_neg z1, if_neg z1]
      by_cases z2 : k < 11
      · rw [if_pos z2, if_pos z2, pk_un (by omega), pk_un (by omega)]
      rw [if_neg z2, if_neg z2]
      by_cases z3 : k = 11
      · rw [if_pos z3, if_pos z3, pk_un (by omega), pk_un (by omega), pk_un (by omega)]
      rw [if_neg z3, if_neg z3]
  · exact ((((MVL.s5 (by omega)).tr (MVL.s5 (by omega))).tr (MVL.s4 (by omega))).tr (MVL.s4 (by omega))).tr ((MVL.s4 (by omega)).tr ⟨fun _ _ _ _ => rfl, fun _ _ => rfl, fun _ _ => ⟨rfl, rfl⟩, fun x hx _ => eo x hx⟩)
  · rw [ss_n _ _ _ _ _ (by decide), ss_n _ _ _ _ _ (by decide), ss_n _ _ _ _ _ (by decide), ss_n _ _ _ _ _ (by decide), ss_n _ _ _ _ _ (by decide)]; exact hL3
end LPASS
