/-! THE PURE PART, zc: the reference counts a card's picks -/
def pwe (e c : Nat) : Nat := if c = e then 1 else 0
def Wv (V : Nat → Nat) (e j c : Nat) : Nat := V (36 * j + 6 * c + e)
def Vn (V : Nat → Nat) (base : Nat) (E : Nat → Nat) : Nat → Nat := fun i => if base ≤ i ∧ i < base + 6 then min (V i + E (i - base)) 1000001 else V i
theorem Vn_2 (V : Nat → Nat) (base : Nat) (E1 E2 : Nat → Nat) : Vn (Vn V base E1) base E2 = Vn V base (fun e => E1 e + E2 e) := by
  funext i
  unfold Vn
  by_cases h : base ≤ i ∧ i < base + 6
  · simp only [if_pos h]; omega
  · simp only [if_neg h]
theorem Vn_0 {V : Nat → Nat} {base : Nat} (hV : ∀ i, base ≤ i → i < base + 6 → V i ≤ 1000001) : Vn V base (fun _ => 0) = V := by
  funext i
  unfold Vn
  by_cases h : base ≤ i ∧ i < base + 6
  · simp only [if_pos h]; have := hV i h.1 h.2; omega
  · simp only [if_neg h]
theorem Vn_le {V : Nat → Nat} {base i : Nat} {E : Nat → Nat} (h : V i ≤ 1000001) : Vn V base E i ≤ 1000001 := by
  unfold Vn
  split
  · exact Nat.min_le_right _ _
  · exact h
/-- counts depend on the called cards alone -/
theorem evt_cg {sn : Nat → Nat} {n : Nat} (hv : VT sn n) {pw : Nat → Nat} {W W' : Nat → Nat → Nat} (h : ∀ x c, x + 1 < n → sn x = 107 → c < 6 → W (sn (x + 1) - 48) c = W' (sn (x + 1) - 48) c) : ∀ f p c, SP sn n p → n - p < f → c < 6 → evt sn n pw W f p c = evt sn n pw W' f p c := by
  intro f
  induction f with
  | zero => intro p c _ h; omega
  | succ f ih =>
    intro p c hs hf hc
    have hpn := hs.1
    unfold evt
    by_cases h0 : n ≤ p ∨ sn p = 41
    · rw [if_pos h0, if_pos h0]
    rw [if_neg h0, if_neg h0]
    have hp : p < n := by omega
    by_cases h1 : sn p = 99
    · obtain ⟨a1, a2, a3, a4, -⟩ := hs.c hv hp h1
      rw [if_pos h1, if_pos h1]
      exact ih _ _ a4 (by omega) (by omega)
    rw [if_neg h1, if_neg h1]
    by_cases h2 : sn p = 107
    · obtain ⟨a1, a2, a3, a4, -⟩ := hs.k hv hp h2
      rw [if_pos h2, if_pos h2, h p c a1 h2 hc, ih _ _ a4 (by omega) hc]
    rw [if_neg h2, if_neg h2]
    by_cases h3 : sn p = 119
    · obtain ⟨q1, q2⟩ := hs.w hv hp h3
      have := wNx_gt (sn := sn) (n := n) (p := p)
      rw [if_pos h3, if_pos h3, ih _ _ q1 (by omega) hc]
    rw [if_neg h3, if_neg h3]
    have hl : sn p = 120 ∨ sn p = 108 ∨ sn p = 115 := by
      rcases hs.kinds hv hp with ⟨z, -⟩ | z | z | z | z | z | z <;> omega
    obtain ⟨b1, b2, b3, b4, b5, b6, b7⟩ := bh_ok hv hs hp hl (f := f) (by omega)
    obtain ⟨a1, a2, a3, a4⟩ := hs.ins hv hp hl
    by_cases h4 : sn p = 115
    · rw [if_pos h4, if_pos h4]
      exact ih _ _ b5 (by omega) hc
    rw [if_neg h4, if_neg h4]
    have c2 := ecl_lt hv f _ c a2 (by omega) hc
    rw [ih _ _ a2 (by omega) hc, ih _ _ a2 (by omega) c2, ih _ _ b5 (by omega) c2]
section COUNT
variable {S : GS} {sn : Nat → Nat} {n p k base c : Nat} {V : Nat → Nat} {fi : Int32}
/-- the counts are small numbers -/
def CN (S : GS) (V : Nat → Nat) : Prop := ∀ i, i < 360 → S 7 i = nI (V i) ∧ V i ≤ 1000001
theorem re_cp (hC : CN S V) {v : Nat} (hb : base + 6 ≤ 360) (hc : c < 6) (hv : v ≤ 1000001) : ∃ S', f8_countPicks S (nI base) (nI c) (nI v) = some S' ∧ CN S' (Vn V base (fun e => v * pwe e c)) ∧ ∀ j, j ≠ 7 → S' j = S j := by
  obtain ⟨h1, h2⟩ := hC (base + c) (by omega)
  refine ⟨ssI S 7 (base + c) (nI (min (V (base + c) + v) 1000001)), ?_, fun i hi => ?_, fun j hj => ss_n _ _ _ _ _ hj⟩
  · unfold f8_countPicks f8_bounded
    simp (disch := omega) only [EV, NUM, pu_lit, pu_gok, pu_cl, h1, pu_le]
    by_cases hz : V (base + c) + v ≤ 1000000
    · rw [if_pos hz, show min (V (base + c) + v) 1000001 = V (base + c) + v by omega]
      simp only [EV]
    · rw [if_neg hz, show min (V (base + c) + v) 1000001 = 1000001 by omega]
      simp only [EV]
  · obtain ⟨g1, g2⟩ := hC i hi
    rw [ss_at]
    unfold Vn pwe
    by_cases hz : i = base + c
    · subst hz
      rw [if_pos ⟨rfl, rfl⟩, if_pos ⟨by omega, by omega⟩]
      dsimp only
      rw [if_pos (by omega), Nat.mul_one]
      exact ⟨rfl, Nat.min_le_right _ _⟩
    · rw [if_neg (fun z => hz z.2)]
      by_cases hw : base ≤ i ∧ i < base + 6
      · rw [if_pos hw]
        dsimp only
        rw [if_neg (by omega), Nat.mul_zero, Nat.add_zero, show min (V i) 1000001 = V i by omega]
        exact ⟨g1, g2⟩
      · rw [if_neg hw]
        exact ⟨g1, g2⟩
theorem re_ac (hC : CN S V) {o : Nat} (hb : base + 6 ≤ 360) (ho : o + 6 ≤ 360) (hd : o + 6 ≤ base ∨ base + 6 ≤ o) : ∃ S', f8_addCalled S (nI base) (nI o) = some S' ∧ CN S' (Vn V base (fun e => V (o + e))) ∧ ∀ j, j ≠ 7 → S' j = S j := by
  have H : ∀ w x S V f, x + w = 6 → CN S V → ∃ S', f8_addCalled_2 (nI base) (nI o) (w + (f + 1)) S (nI x) = some S' ∧ CN S' (Vn V base (fun e => if x ≤ e then V (o + e) else 0)) ∧ ∀ j, j ≠ 7 → S' j = S j := by
    intro w
    induction w with
    | zero =>
      intro x S V f hw hC
      have : x = 6 := by omega
      subst this
      refine ⟨S, ?_, fun i hi => ?_, fun _ _ => rfl⟩
      · rw [Nat.zero_add, f8_addCalled_2]
        exact if_pos (show (6 : Int32) ≤ nI 6 by decide)
      · obtain ⟨g1, g2⟩ := hC i hi
        unfold Vn
        by_cases hw : base ≤ i ∧ i < base + 6
        · rw [if_pos hw]
          dsimp only
          rw [if_neg (by omega), Nat.add_zero, show min (V i) 1000001 = V i by omega]
          exact ⟨g1, g2⟩
        · rw [if_neg hw]
          exact ⟨g1, g2⟩
    | succ w ih =>
      intro x S V f hw hC
      have hx : ¬ 6 ≤ x := by omega
      obtain ⟨h1, h2⟩ := hC (o + x) (by omega)
      obtain ⟨S1, e1, c1, k1⟩ := re_cp (c := x) hC hb (by omega) h2
      obtain ⟨S2, e2, c2, k2⟩ := ih (x + 1) S1 _ f (by omega) c1
      refine ⟨S2, ?_, ?_, fun j hj => (k2 j hj).trans (k1 j hj)⟩
      · rw [show w + 1 + (f + 1) = (w + (f + 1)) + 1 by omega, f8_addCalled_2]
        simp (disch := omega) only [EV, NUM, pu_lit, pu_le, hx, if_false, pu_gok, pu_cl, h1, e1, e2]
      · intro i hi
        obtain ⟨g1, g2⟩ := c2 i hi
        refine ⟨?_, Vn_le (hC i hi).2⟩
        rw [g1, Vn_2]
        congr 1
        unfold Vn
        by_cases hw' : base ≤ i ∧ i < base + 6
        · simp only [if_pos hw']
          rw [if_neg (show ¬ (base ≤ o + (i - base) ∧ o + (i - base) < base + 6) by omega)]
          unfold pwe
          by_cases q : x = i - base
          · rw [if_pos q, if_neg (by omega), if_pos (by omega), q]; omega
          · rw [if_neg q]
            by_cases r : x + 1 ≤ i - base
            · rw [if_pos r, if_pos (by omega)]; omega
            · rw [if_neg r, if_neg (by omega)]; omega
        · simp only [if_neg hw']
  obtain ⟨S', e1, c1, k1⟩ := H 6 0 S V (FU - 7) rfl hC
  rw [show 6 + (FU - 7 + 1) = FU by unfold FU; omega] at e1
  refine ⟨S', e1, ?_, k1⟩
  have : (fun e => if 0 ≤ e then V (o + e) else 0) = fun e => V (o + e) := by
    funext e
    exact if_pos (Nat.zero_le _)
  rw [← this]
  exact c1
/-- a card's text in the reference -/
def RTX (S : GS) (k n : Nat) (sn : Nat → Nat) : Prop := k < 10 ∧ VT sn n ∧ S 1 (43 + k) = nI n ∧ ∀ x, x < n → S 1 (53 + 80 * k + x) = nI (sn x)
theorem rt_at (h : RTX S k n sn) (hp : p < n) : f8_textAt S (nI k) (nI p) = some (nI (sn p)) := by
  obtain ⟨h1, h2, h3, h4⟩ := h
  have n80 := h2.1
  unfold f8_textAt
  simp (disch := omega) only [EV, NUM, pu_lit, pu_gok, pu_cl, h4 p hp]
theorem rt_dig (h : RTX S k n sn) : f8_digitAt S (nI k) (nI (p + 1)) = some (if p + 1 < n then nI (sn (p + 1)) - nI 48 else nI 0) ∨ 80 < p := by
  by_cases h80 : 80 < p
  · exact Or.inr h80
  left
  have n80 := h.2.1.1
  have h1 := h.1
  unfold f8_digitAt
  by_cases hp : p + 1 < n
  · have := rt_at h hp
    have hn : ¬ n ≤ p + 1 := by omega
    simp (disch := omega) only [EV, NUM, pu_lit, pu_gok, pu_cl, h.2.2.1, pu_le, hn, if_false, this]
    rw [if_pos hp]
  · have hn : n ≤ p + 1 := by omega
    simp (disch := omega) only [EV, NUM, pu_lit, pu_gok, pu_cl, h.2.2.1, pu_le, hn, if_true]
    rw [if_neg hp]
theorem re_bp (h : RTX S k n sn) {r L : Nat} {q0 : Int32} (hr : r < n) (h41 : sn r = 41) (hL : (ks sn (r + 1)).length = L) : ∀ w v f, r - v = w → v ≤ r → w + 1 < f → (∀ x, v ≤ x → x ≤ r → L < (ks sn x).length) → f8_behindPart_7 S (nI k) q0 f (nI ((ks sn v).length - L)) (nI v) = some (nI (r + 1)) := by
  have hv := h.2.1
  have n80 := hv.1
  intro w
  induction w with
  | zero =>
    intro v f hw hvr hf hin
    obtain ⟨f, rfl⟩ : ∃ k, f = k + 2 := ⟨f - 2, by omega⟩
    have : v = r := by omega
    subst this
    have h1 := hin v (Nat.le_refl _) (Nat.le_refl _)
    obtain ⟨⟨k', hk⟩, -⟩ := (ks_step hv hr).2.1 h41
    have e1 : (ks sn v).length = (ks sn (v + 1)).length + 1 := by rw [hk]; rfl
    have e2 : (ks sn v).length - L = 1 := by omega
    have T := rt_at h hr
    rw [h41] at T
    rw [e2, f8_behindPart_7]
    unfold f8_behindPart_45
    simp (disch := omega) only [EV, NUM, pu_lit, pu_le, pu_eq, T, if_true, pu_m1']
    rw [if_neg (by decide), if_neg (by decide), f8_behindPart_7]
    simp (disch := omega) only [EV, NUM, pu_lit, pu_le]
    simp
  | succ w ih =>
    intro v f hw hvr hf hin
    obtain ⟨f, rfl⟩ : ∃ k, f = k + 1 := ⟨f - 1, by omega⟩
    have h1 := hin v (Nat.le_refl _) (by omega)
    have h2 := hin (v + 1) (by omega) (by omega)
    have l3 := (au (hv.ne (p := v) (by omega))).2.2.1
    have l3' := (au (hv.ne (p := v + 1) (by omega))).2.2.1
    have T := rt_at h (p := v) (by omega)
    have hcv := hv.2.2.2 v (by omega)
    obtain ⟨k40, k41, kne⟩ := ks_step hv (p := v) (by omega)
    have hn0 : ¬ (ks sn v).length - L ≤ 0 := by omega
    have IH := ih (v + 1) f (by omega) (by omega) (by omega) (fun x hx1 hx2 => hin x (by omega) hx2)
    rw [← IH, f8_behindPart_7]
    unfold f8_behindPart_45
    by_cases c40 : sn v = 40
    · have e1 : (ks sn (v + 1)).length = (ks sn v).length + 1 := by rw [k40 c40]; rfl
      rw [e1, show (ks sn v).length + 1 - L = (ks sn v).length - L + 1 by omega]
      simp (disch := omega) only [EV, NUM, pu_lit, pu_le, pu_eq, T, c40, hn0, if_false, if_true]
    · by_cases c41 : sn v = 41
      · obtain ⟨⟨k', hk⟩, -⟩ := k41 c41
        have e1 : (ks sn v).length = (ks sn (v + 1)).length + 1 := by rw [hk]; rfl
        rw [show (ks sn (v + 1)).length - L = (ks sn v).length - L - 1 by omega]
        simp (disch := omega) only [EV, NUM, pu_lit, pu_le, pu_eq, T, c41, hn0, if_false, if_true, pu_m1']
        simp
      · rw [kne c40 c41]
        simp (disch := omega) only [EV, NUM, pu_lit, pu_le, pu_eq, T, c40, c41, hn0, if_false, if_true]
        simp
/-- the state behind a segment -/
def RE (S S' : GS) (V V' : Nat → Nat) (o : Nat) : Prop := (∀ j, j ≠ 7 → j ≠ 9 → j ≠ 10 → S' j = S j) ∧ (∀ j, j < o → S' 9 j = S 9 j ∧ S' 10 j = S 10 j) ∧ CN S' V'
theorem RE.tr {S1 S2 : GS} {V1 V2 : Nat → Nat} {o : Nat} (h : RE S S1 V V1 o) (h2 : RE S1 S2 V1 V2 o) : RE S S2 V V2 o := ⟨fun j a b c => (h2.1 j a b c).trans (h.1 j a b c), fun j hj => ⟨(h2.2.1 j hj).1.trans (h.2.1 j hj).1, (h2.2.1 j hj).2.trans (h.2.1 j hj).2⟩, h2.2.2⟩
theorem RE.mo {S1 : GS} {V1 : Nat → Nat} {o o' : Nat} (h : RE S S1 V V1 o) (ho : o' ≤ o) : RE S S1 V V1 o' := ⟨h.1, fun j hj => h.2.1 j (by omega), h.2.2⟩
theorem RTX.mo {S' : GS} (h : RTX S k n sn) (e : S' 1 = S 1) : RTX S' k n sn := by unfold RTX; rw [e]; exact h
abbrev EVT (sn : Nat → Nat) (n : Nat) (V : Nat → Nat) (f p c : Nat) : Nat → Nat := fun e => evt sn n (pwe e) (Wv V e) f p c
theorem pos10 (a : Nat) : 1 ≤ 10 ^ a := Nat.pow_le_pow_right (n := 10) (by decide) (Nat.zero_le a)
theorem bnd1 {e p p' P N : Nat} (h1 : p < p') (h2 : p' ≤ e) (hP : 1 ≤ P) (hN : N ≤ (e - p') * P) : N + 1 ≤ (e - p) * P := by
  have h3 : (e - p' + 1) * P ≤ (e - p) * P := Nat.mul_le_mul_right _ (by omega)
  rw [Nat.add_mul, Nat.one_mul] at h3
  omega
theorem EVT_Vn (hv : VT sn n) (hk : k < 10) (hcl : ∀ x, x + 1 < n → sn x = 107 → sn (x + 1) - 48 ≠ k) {fi' : Nat} (hfi : fi' < 6) (hb : base = 36 * k + 6 * fi') {E : Nat → Nat} {f p c e : Nat} (hs : SP sn n p) (hf : n - p < f) (hc : c < 6) (he : e < 6) : evt sn n (pwe e) (Wv (Vn V base E) e) f p c = evt sn n (pwe e) (Wv V e) f p c := by
  refine evt_cg hv (fun x c' hx h107 hc' => ?_) f p c hs hf hc
  have hne := hcl x hx h107
  unfold Wv Vn
  rw [if_neg]
  intro ⟨z1, z2⟩
  rcases Nat.lt_or_ge (sn (x + 1) - 48) k with q | q
  · omega
  · omega
/-- a part closes at one place -/
theorem cl_u (hv : VT sn n) {r r' : Nat} {st : List Nat} (hr : r < n) (hr' : r' < n) (h1 : sn r = 41) (h1' : sn r' = 41) (h2 : ks sn r = p :: st) (h2' : ks sn r' = p :: st) : r = r' := by
  rcases Nat.lt_trichotomy r r' with z | z | z
  · have := ((au (hv.ne (p := r') (by omega))).2.2.2.2.1 r z h1 p st h2).2
    rw [h2'] at this
    exact absurd List.mem_cons_self this
  · exact z
  · have := ((au (hv.ne (p := r) (by omega))).2.2.2.2.1 r' z h1' p st h2').2
    rw [h2] at this
    exact absurd List.mem_cons_self this
/-- a closing bracket -/
theorem cl_step (hR : RTX S k n sn) {r o m : Nat} {q : Nat} (hr : r < n) (h41 : sn r = 41) (ho : o < 3) (hm : m < 100) (hq : q < 100) (h10 : S 10 o = nI (m + 1)) (h9 : S 9 o = nI q) (fu : Nat) : f8_countCard_19 (nI k) fi (fu + 1) S (nI base) (nI c) (nI (o + 1)) (nI r) = f8_countCard_19 (nI k) fi fu (ssI S 10 o (nI m)) (nI base) (nI c) (nI (if m = 0 then o else o + 1)) (nI (if m = 0 then r + 1 else q)) := by
  have n80 := hR.2.1.1
  have k10 := hR.1
  have TA := rt_at hR hr
  have DG : f8_digitAt S (nI k) (nI (r + 1)) = some (if r + 1 < n then nI (sn (r + 1)) - nI 48 else nI 0) := (rt_dig hR).resolve_right (by omega)
  have n43 := hR.2.2.1
  have hnr : ¬ n ≤ r := by omega
  have e1 : ssI S 10 o (nI m) 10 o = nI m := by rw [ss_at, if_pos ⟨rfl, rfl⟩]
  have e2 : ssI S 10 o (nI m) 9 o = nI q := by rw [ss_n _ _ _ _ _ (by decide)]; exact h9
  rw [f8_countCard_19]
  unfold f8_countCard_233 f8_countCard_254 f8_countCard_324
  simp (maxSteps := 10000000) (disch := omega) only [EV, NUM, pu_lit, pu_gok, pu_cl, n43, pu_le, hnr, if_false, DG, TA, pu_eq, h41, if_true, pk_sub, Nat.add_sub_cancel, h10, e1, e2, Nat.sub_zero]
  by_cases hm0 : m = 0
  · subst hm0
    rw [if_pos (Nat.le_refl _), if_pos (Nat.le_refl _), if_pos rfl, if_pos rfl]
  · rw [if_neg (show ¬ m ≤ 0 by omega), if_neg (show ¬ m ≤ 0 by omega), if_neg hm0, if_neg hm0]
theorem cr (hk : k < 10) {fi' : Nat} (hfi : fi' < 6) (hb : base = 36 * k + 6 * fi') (hv : VT sn n) (hcl : ∀ x, x + 1 < n → sn x = 107 → sn (x + 1) - 48 ≠ k) : ∀ f p c S V, RTX S k n sn → SP sn n p → n - p < f → c < 6 → CN S V → ∃ N S', N ≤ (sge sn n f p - p) * 10 ^ (3 - (ks sn p).length) ∧ (∀ fu, f8_countCard_19 (nI k) fi (N + fu) S (nI base) (nI c) (nI (ks sn p).length) (nI p) = f8_countCard_19 (nI k) fi fu S' (nI base) (nI (ecl sn n f p c)) (nI (ks sn p).length) (nI (sge sn n f p))) ∧ RE S S' V (Vn V base (EVT sn n V f p c)) (ks sn p).length := by
  have n80 := hv.1
  have b360 : base + 6 ≤ 360 := by omega
  intro f
  induction f with
  | zero => intro p c S V _ _ h; omega
  | succ f ih =>
    intro p c S V hR hs hf hc hC
    have hpn := hs.1
    have lv3 := (au (hv.ne hpn)).2.2.1
    have V0 : Vn V base (fun _ => 0) = V := Vn_0 (fun i _ h2 => (hC i (by omega)).2)
    have P1 := pos10 (3 - (ks sn p).length)
    have E0 : (fun e => evt sn n (pwe e) (Wv V e) (f + 1) p c) = EVT sn n V (f + 1) p c := rfl
    rw [← E0, sge, ecl]
    simp only [evt]
    by_cases h0 : n ≤ p ∨ sn p = 41
    · simp only [if_pos h0]
      refine ⟨0, S, Nat.zero_le _, fun fu => by rw [Nat.zero_add], fun _ _ _ _ => rfl, fun _ _ => ⟨rfl, rfl⟩, ?_⟩
      rw [V0]
      exact hC
    simp only [if_neg h0]
    have hp : p < n := by omega
    have h41 : sn p ≠ 41 := by omega
    have hsn := hv.2.2.2 p hp
    have TA := rt_at hR hp
    have DG : f8_digitAt S (nI k) (nI (p + 1)) = some (if p + 1 < n then nI (sn (p + 1)) - nI 48 else nI 0) := (rt_dig hR).resolve_right (by omega)
    have n43 := hR.2.2.1
    have hnp : ¬ n ≤ p := by omega
    by_cases h1 : sn p = 99
    · obtain ⟨a1, a2, a3, a4, a5⟩ := hs.c hv hp h1
      rw [if_pos a1, pk_sub (by omega)] at DG
      obtain ⟨N, S', i1, i2, i3⟩ := ih (p + 2) (sn (p + 1) - 48) S V hR a4 (by omega) (by omega) hC
      have le := (sge_ok hv f (p + 2) a4 (by omega)).1
      rw [a5] at i1 i2 i3
      rw [if_pos (Or.inl h1), if_pos h1]
      simp only [if_pos h1]
      refine ⟨N + 1, S', bnd1 (by omega) le P1 i1, fun fu => ?_, i3⟩
      rw [show N + 1 + fu = (N + fu) + 1 by omega, f8_countCard_19, ← i2 fu]
      unfold f8_countCard_324
      simp (maxSteps := 10000000) (disch := omega) only [EV, NUM, pu_lit, pu_gok, pu_cl, n43, pu_le, hnp, if_false, DG, TA, pu_eq, h1, if_true]
      rw [if_neg (by decide)]
    by_cases h2 : sn p = 107
    · obtain ⟨a1, a2, a3, a4, a5⟩ := hs.k hv hp h2
      rw [if_pos a1, pk_sub (by omega)] at DG
      have hne := hcl p a1 h2
      obtain ⟨S1, e1, c1, k1⟩ := re_ac (base := base) (o := 36 * (sn (p + 1) - 48) + 6 * c) hC b360 (by omega) (by rcases Nat.lt_or_ge (sn (p + 1) - 48) k with q | q <;> omega)
      obtain ⟨N, S', i1, i2, i3⟩ := ih (p + 2) c S1 _ (hR.mo (k1 1 (by decide))) a4 (by omega) hc c1
      have le := (sge_ok hv f (p + 2) a4 (by omega)).1
      rw [a5] at i1 i2 i3
      rw [if_pos (Or.inr h2), if_neg h1, if_pos h2]
      simp only [if_neg h1, if_pos h2]
      refine ⟨N + 1, S', bnd1 (by omega) le P1 i1, fun fu => ?_, fun j z1 z2 z3 => (i3.1 j z1 z2 z3).trans (k1 j z1), fun j hj => ⟨(i3.2.1 j hj).1.trans (by rw [k1 9 (by decide)]), (i3.2.1 j hj).2.trans (by rw [k1 10 (by decide)])⟩, ?_⟩
      · rw [show N + 1 + fu = (N + fu) + 1 by omega, f8_countCard_19, ← i2 fu]
        unfold f8_countCard_324
        simp (maxSteps := 10000000) (disch := omega) only [EV, NUM, pu_lit, pu_gok, pu_cl, n43, pu_le, hnp, if_false, DG, TA, pu_eq, h2, if_true]
        rw [if_neg (by decide), if_neg (by decide), e1]
        simp only [EV]
      · intro i hi
        obtain ⟨g1, g2⟩ := i3.2.2 i hi
        refine ⟨?_, Vn_le (hC i hi).2⟩
        rw [g1, Vn_2]
        congr 1
        unfold Vn
        by_cases hw : base ≤ i ∧ i < base + 6
        · simp only [if_pos hw]
          have z := EVT_Vn (V := V) (E := fun e => V (36 * (sn (p + 1) - 48) + 6 * c + e)) hv hk hcl hfi hb a4 (show n - (p + 2) < f by omega) hc (show i - base < 6 by omega)
          unfold Vn at z
          unfold EVT
          rw [z]
          rfl
        · simp only [if_neg hw]
    rw [if_neg (show ¬ (sn p = 99 ∨ sn p = 107) by omega), if_neg h1, if_neg h2]
    simp only [if_neg h1, if_neg h2]
    by_cases h3 : sn p = 119
    · obtain ⟨q1, q2⟩ := hs.w hv hp h3
      have gt := wNx_gt (sn := sn) (n := n) (p := p)
      have cp := cntN_pos (sn := sn) (n := n) (p := p)
      obtain ⟨S1, e1, c1, k1⟩ := re_cp (base := base) (c := c) (v := cntN sn n p) hC b360 hc (by omega)
      obtain ⟨N, S', i1, i2, i3⟩ := ih (wNx sn n p) c S1 _ (hR.mo (k1 1 (by decide))) q1 (by omega) hc c1
      have le := (sge_ok hv f _ q1 (by omega)).1
      rw [q2] at i1 i2 i3
      rw [if_pos h3, if_pos h3]
      simp only [if_pos h3]
      refine ⟨N + 1, S', bnd1 gt le P1 i1, fun fu => ?_, fun j z1 z2 z3 => (i3.1 j z1 z2 z3).trans (k1 j z1), fun j hj => ⟨(i3.2.1 j hj).1.trans (by rw [k1 9 (by decide)]), (i3.2.1 j hj).2.trans (by rw [k1 10 (by decide)])⟩, ?_⟩
      · rw [show N + 1 + fu = (N + fu) + 1 by omega, f8_countCard_19, ← i2 fu]
        have WD : f8_within (if p + 1 < n then nI (sn (p + 1)) - nI 48 else nI 0) (nI 2) (nI 9) = some (if p + 1 < n ∧ 50 ≤ sn (p + 1) ∧ sn (p + 1) ≤ 57 then 1 else 0) := by
          by_cases hx : p + 1 < n
          · rw [if_pos hx, within_dig (hv.2.2.2 _ hx) (by omega) (by omega)]
            by_cases hz : 50 ≤ sn (p + 1) ∧ sn (p + 1) ≤ 57
            · rw [if_pos hz, if_pos ⟨hx, hz⟩]
            · rw [if_neg hz, if_neg (fun z => hz z.2)]
          · rw [if_neg hx, if_neg (fun z => hx z.1)]
            rfl
        unfold f8_countCard_125 f8_countCard_140 f8_countCard_324
        simp (maxSteps := 10000000) (disch := omega) only [EV, NUM, pu_lit, pu_gok, pu_cl, n43, pu_le, hnp, if_false, DG, TA, pu_eq, h3, if_true, WD]
        rw [if_neg (by decide), if_neg (by decide), if_neg (by decide), if_neg (by decide)]
        by_cases hz : p + 1 < n ∧ 50 ≤ sn (p + 1) ∧ sn (p + 1) ≤ 57
        · have ec : cntN sn n p = sn (p + 1) - 48 := if_pos hz
          have ew : wNx sn n p = p + 2 := if_pos hz
          rw [ec] at e1
          rw [if_pos hz, if_pos hz.1, pk_sub (by omega), ew]
          simp only [pu_lit, z10f, if_false]
          rw [e1]
          simp only [EV]
        · have ec : cntN sn n p = 1 := if_neg hz
          have ew : wNx sn n p = p + 1 := if_neg hz
          rw [ec] at e1
          rw [if_neg hz, ew]
          simp only [pu_lit, if_true]
          rw [e1]
          simp only [EV]
      · intro i hi
        obtain ⟨g1, g2⟩ := i3.2.2 i hi
        refine ⟨?_, Vn_le (hC i hi).2⟩
        rw [g1, Vn_2]
        congr 1
        unfold Vn
        by_cases hw : base ≤ i ∧ i < base + 6
        · simp only [if_pos hw]
          have z := EVT_Vn (V := V) (E := fun e => cntN sn n p * pwe e c) hv hk hcl hfi hb q1 (show n - wNx sn n p < f by omega) hc (show i - base < 6 by omega)
          unfold Vn at z
          unfold EVT
          rw [z]
        · simp only [if_neg hw]
    rw [if_neg h3, if_neg h3]
    simp only [if_neg h3]
    have hl : sn p = 120 ∨ sn p = 108 ∨ sn p = 115 := by
      rcases hs.kinds hv hp with ⟨z, -⟩ | z | z | z | z | z | z <;> omega
    obtain ⟨b1, b2, b3, b4, b5, b6, b7⟩ := bh_ok hv hs hp hl (f := f) (by omega)
    obtain ⟨a1, a2, a3, a4⟩ := hs.ins hv hp hl
    by_cases h4 : sn p = 115
    · obtain ⟨N, S', i1, i2, i3⟩ := ih (sge sn n f (insd sn p) + 1) c S V hR b5 (by omega) hc hC
      have le := (sge_ok hv f _ b5 (by omega)).1
      rw [b6] at i1 i2 i3
      rw [if_pos h4]
      simp only [if_pos h4]
      refine ⟨N + 1, S', bnd1 (by omega) le P1 i1, fun fu => ?_, i3⟩
      rw [show N + 1 + fu = (N + fu) + 1 by omega, f8_countCard_19, ← i2 fu]
      have hpin : insd sn p = p + 2 := by unfold insd; rw [if_neg (by omega)]
      obtain ⟨r, c1, c2, c3, c4, c5, c6, c7, c8⟩ := closes hv p (ks sn p) (n - (p + 2)) (p + 2) [] (Nat.le_refl _) (by have := a2.1; omega) (by rw [← hpin]; exact a3)
      have BP := re_bp hR (q0 := nI (p + 1)) c2 c3 (by rw [c5]) (r - (p + 2)) (p + 2) FU rfl c1 (by unfold FU; omega) c8
      have EQ : r = sge sn n f (insd sn p) := cl_u hv c2 b2 c3 b3 c4 b4
      rw [← hpin, a3, hpin, show (p :: ks sn p).length - (ks sn p).length = 1 by simp, EQ] at BP
      have BP' : f8_behindPart S (nI k) (nI (p + 1)) = some (nI (sge sn n f (insd sn p) + 1)) := by
        unfold f8_behindPart
        simp only [EV, NUM, pu_lit]
        exact BP
      unfold f8_countCard_324
      simp (maxSteps := 10000000) (disch := omega) only [EV, NUM, pu_lit, pu_gok, pu_cl, n43, pu_le, hnp, if_false, DG, TA, pu_eq, h4, if_true, BP']
      rw [if_neg (by decide), if_neg (by decide), if_neg (by decide)]
    rw [if_neg h4]
    simp only [if_neg h4]
    have lk : (ks sn (insd sn p)).length = (ks sn p).length + 1 := by rw [a3]; rfl
    have c2 := ecl_lt hv f _ c a2 (by omega) hc
    have XR : ∀ m c' S V, RTX S k n sn → CN S V → c' < 6 → S 10 (ks sn p).length = nI (m + 1) → S 9 (ks sn p).length = nI (insd sn p) → m < 9 → ∃ N S', N ≤ (m + 1) * ((sge sn n f (insd sn p) - insd sn p) * 10 ^ (3 - ((ks sn p).length + 1)) + 1) ∧ (∀ fu, f8_countCard_19 (nI k) fi (N + fu) S (nI base) (nI c') (nI ((ks sn p).length + 1)) (nI (insd sn p)) = f8_countCard_19 (nI k) fi fu S' (nI base) (nI (ecl sn n f (insd sn p) c')) (nI (ks sn p).length) (nI (sge sn n f (insd sn p) + 1))) ∧ RE S S' V (Vn V base (fun e => EVT sn n V f (insd sn p) c' e + m * EVT sn n V f (insd sn p) (ecl sn n f (insd sn p) c') e)) (ks sn p).length := by
      intro m
      induction m with
      | zero =>
        intro c' S V hR hC hc' h10 h9 hm
        obtain ⟨N, S1, i1, i2, i3⟩ := ih (insd sn p) c' S V hR a2 (by omega) hc' hC
        rw [lk] at i1 i2 i3
        have hR1 : RTX S1 k n sn := hR.mo (i3.1 1 (by decide) (by decide) (by decide))
        obtain ⟨o9, o10⟩ := i3.2.1 (ks sn p).length (by omega)
        refine ⟨N + 1, ssI S1 10 (ks sn p).length (nI 0), by omega, fun fu => ?_, ?_⟩
        · rw [show N + 1 + fu = N + (fu + 1) by omega, i2 (fu + 1), cl_step hR1 b2 b3 a4 (m := 0) (q := insd sn p) (by omega) (by have := a2.1; omega) (o10.trans h10) (o9.trans h9) fu, if_pos rfl, if_pos rfl]
        · refine ⟨fun j z1 z2 z3 => by rw [ss_n _ _ _ _ _ z3]; exact i3.1 j z1 z2 z3, fun j hj => ⟨by rw [ss_n _ _ _ _ _ (by decide)]; exact (i3.2.1 j (by omega)).1, by rw [ss_at, if_neg (by omega)]; exact (i3.2.1 j (by omega)).2⟩, fun i hi => ?_⟩
          rw [ss_n _ _ _ _ _ (by decide)]
          have := i3.2.2 i hi
          simp only [Nat.zero_mul, Nat.add_zero]
          exact this
      | succ m ihm =>
        intro c' S V hR hC hc' h10 h9 hm
        obtain ⟨N, S1, i1, i2, i3⟩ := ih (insd sn p) c' S V hR a2 (by omega) hc' hC
        rw [lk] at i1 i2 i3
        have hR1 : RTX S1 k n sn := hR.mo (i3.1 1 (by decide) (by decide) (by decide))
        obtain ⟨o9, o10⟩ := i3.2.1 (ks sn p).length (by omega)
        let S2 := ssI S1 10 (ks sn p).length (nI (m + 1))
        have r2 : RE S S2 V (Vn V base (EVT sn n V f (insd sn p) c')) (ks sn p).length := ⟨fun j z1 z2 z3 => by show ssI S1 _ _ _ j = _; rw [ss_n _ _ _ _ _ z3]; exact i3.1 j z1 z2 z3, fun j hj => ⟨by show ssI S1 _ _ _ 9 j = _; rw [ss_n _ _ _ _ _ (by decide)]; exact (i3.2.1 j (by omega)).1, by show ssI S1 _ _ _ 10 j = _; rw [ss_at, if_neg (by omega)]; exact (i3.2.1 j (by omega)).2⟩, fun i hi => by show ssI S1 _ _ _ 7 i = _ ∧ _; rw [ss_n _ _ _ _ _ (by decide)]; exact i3.2.2 i hi⟩
        have cc2 := ecl_lt hv f _ c' a2 (by omega) hc'
        obtain ⟨N2, S3, j1, j2, j3⟩ := ihm (ecl sn n f (insd sn p) c') S2 _ (hR1.mo (by show ssI S1 _ _ _ 1 = _; rw [ss_n _ _ _ _ _ (by decide)])) r2.2.2 cc2 (by show ssI S1 _ _ _ 10 _ = _; rw [ss_at, if_pos ⟨rfl, rfl⟩]) (by show ssI S1 _ _ _ 9 _ = _; rw [ss_n _ _ _ _ _ (by decide)]; exact o9.trans h9) (by omega)
        refine ⟨N + 1 + N2, S3, ?_, fun fu => ?_, ?_⟩
        · have : (m + 1 + 1) * ((sge sn n f (insd sn p) - insd sn p) * 10 ^ (3 - ((ks sn p).length + 1)) + 1) = (m + 1) * ((sge sn n f (insd sn p) - insd sn p) * 10 ^ (3 - ((ks sn p).length + 1)) + 1) + ((sge sn n f (insd sn p) - insd sn p) * 10 ^ (3 - ((ks sn p).length + 1)) + 1) := Nat.succ_mul _ _
          omega
        · rw [show N + 1 + N2 + fu = N + (N2 + fu + 1) by omega, i2 (N2 + fu + 1), cl_step hR1 b2 b3 a4 (m := m + 1) (q := insd sn p) (by omega) (by have := a2.1; omega) (o10.trans h10) (o9.trans h9) (N2 + fu), if_neg (by omega), if_neg (by omega)]
          have := j2 fu
          rw [ecl_2] at this
          exact this
        · refine r2.tr ⟨j3.1, j3.2.1, fun i hi => ?_⟩
          obtain ⟨g1, g2⟩ := j3.2.2 i hi
          refine ⟨?_, Vn_le (hC i hi).2⟩
          rw [g1, Vn_2, ecl_2]
          congr 1
          unfold Vn
          by_cases hw : base ≤ i ∧ i < base + 6
          · simp only [if_pos hw]
            have z := EVT_Vn (V := V) (E := EVT sn n V f (insd sn p) c') hv hk hcl hfi hb a2 (show n - insd sn p < f by omega) cc2 (show i - base < 6 by omega)
            unfold Vn at z
            unfold EVT at z ⊢
            rw [z, Nat.succ_mul]
            congr 2
            omega
          · simp only [if_neg hw]
    -- the step itself
    have cp := cntN_pos (sn := sn) (n := n) (p := p)
    have p80 := a2.1
    let S1 := ssI (ssI S 10 (ks sn p).length (nI (cntN sn n p))) 9 (ks sn p).length (nI (insd sn p))
    have HEAD : ∀ fu, f8_countCard_19 (nI k) fi (fu + 1) S (nI base) (nI c) (nI (ks sn p).length) (nI p) = f8_countCard_19 (nI k) fi fu S1 (nI base) (nI c) (nI ((ks sn p).length + 1)) (nI (insd sn p)) := fun fu => by
      rw [f8_countCard_19]
      unfold f8_countCard_277 f8_countCard_296 f8_countCard_309 f8_countCard_324
      rcases (by omega : sn p = 120 ∨ sn p = 108) with z | z
      · obtain ⟨y1, y2, y3, y4, y5, y6, y7⟩ := hs.x hv hp z
        have ec : cntN sn n p = sn (p + 1) - 48 := if_pos ⟨by omega, y2, y3⟩
        have ei : insd sn p = p + 3 := if_pos z
        rw [if_pos (by omega), pk_sub (by omega)] at DG
        simp (maxSteps := 10000000) (disch := omega) only [EV, NUM, pu_lit, pu_gok, pu_cl, n43, pu_le, hnp, if_false, DG, TA, pu_eq, z, if_true]
        rw [if_neg (by decide), if_neg (by decide), if_neg (by decide), if_neg (by decide), if_neg (by decide)]
        try simp only [z10f, if_false]
        show _ = f8_countCard_19 (nI k) fi fu (ssI (ssI S 10 (ks sn p).length (nI (cntN sn n p))) 9 (ks sn p).length (nI (insd sn p))) _ _ _ _
        rw [ec, ei, if_neg (by decide), if_neg (by decide)]
      · have ec := (show cntN sn n p = 1 by
          obtain ⟨y1, y2, -⟩ := hs.sl hv hp (Or.inl z)
          exact if_neg (fun q => by omega))
        have ei : insd sn p = p + 2 := if_neg (by omega)
        simp (maxSteps := 10000000) (disch := omega) only [EV, NUM, pu_lit, pu_gok, pu_cl, n43, pu_le, hnp, if_false, DG, TA, pu_eq, z, if_true]
        rw [if_neg (by decide), if_neg (by decide), if_neg (by decide), if_neg (by decide), if_neg (by decide), if_neg (by decide)]
        try simp only [if_true]
        show _ = f8_countCard_19 (nI k) fi fu (ssI (ssI S 10 (ks sn p).length (nI (cntN sn n p))) 9 (ks sn p).length (nI (insd sn p))) _ _ _ _
        rw [ec, ei]
    have r1 : RE S S1 V V (ks sn p).length := ⟨fun j z1 z2 z3 => by show ssI (ssI S _ _ _) _ _ _ j = _; rw [ss_n _ _ _ _ _ z2, ss_n _ _ _ _ _ z3], fun j hj => ⟨by show ssI (ssI S _ _ _) _ _ _ 9 j = _; rw [ss_at, if_neg (by omega), ss_n _ _ _ _ _ (by decide)], by show ssI (ssI S _ _ _) _ _ _ 10 j = _; rw [ss_n _ _ _ _ _ (by decide), ss_at, if_neg (by omega)]⟩, fun i hi => by show ssI (ssI S _ _ _) _ _ _ 7 i = _ ∧ _; rw [ss_n _ _ _ _ _ (by decide), ss_n _ _ _ _ _ (by decide)]; exact hC i hi⟩
    obtain ⟨N1, S2, x1, x2, x3⟩ := XR (cntN sn n p - 1) c S1 V (hR.mo (r1.1 1 (by decide) (by decide) (by decide))) r1.2.2 hc (by show ssI (ssI S _ _ _) _ _ _ 10 _ = _; rw [ss_n _ _ _ _ _ (by decide), ss_at, if_pos ⟨rfl, rfl⟩, show cntN sn n p - 1 + 1 = cntN sn n p by omega]) (by show ssI (ssI S _ _ _) _ _ _ 9 _ = _; rw [ss_at, if_pos ⟨rfl, rfl⟩]) (by omega)
    obtain ⟨N2, S3, y1, y2, y3⟩ := ih (sge sn n f (insd sn p) + 1) (ecl sn n f (insd sn p) c) S2 _ (hR.mo ((x3.1 1 (by decide) (by decide) (by decide)).trans (r1.1 1 (by decide) (by decide) (by decide)))) b5 (by omega) c2 x3.2.2
    rw [b6] at y1 y2 y3
    have le2 := (sge_ok hv f _ b5 (by omega)).1
    refine ⟨1 + N1 + N2, S3, ?_, fun fu => ?_, ?_⟩
    · -- how many rounds
      have e10 : 10 ^ (3 - (ks sn p).length) = 10 * 10 ^ (3 - ((ks sn p).length + 1)) := by
        rw [show 3 - (ks sn p).length = (3 - ((ks sn p).length + 1)) + 1 by omega, Nat.pow_succ, Nat.mul_comm]
      have PP := pos10 (3 - ((ks sn p).length + 1))
      generalize hX : 10 ^ (3 - ((ks sn p).length + 1)) = P at *
      generalize hA : (sge sn n f (insd sn p) - insd sn p) * P = X at *
      have z1 : (cntN sn n p - 1 + 1) * (X + 1) ≤ 9 * (X + 1) := Nat.mul_le_mul_right _ (by omega)
      rw [e10] at y1 ⊢
      have z2 : (sge sn n f (sge sn n f (insd sn p) + 1) - p) * (10 * P) = (sge sn n f (sge sn n f (insd sn p) + 1) - (sge sn n f (insd sn p) + 1)) * (10 * P) + (sge sn n f (insd sn p) + 1 - p) * (10 * P) := by
        rw [← Nat.add_mul]
        congr 1
        omega
      have z3 : ((sge sn n f (insd sn p) - insd sn p) + 3) * (10 * P) ≤ (sge sn n f (insd sn p) + 1 - p) * (10 * P) := Nat.mul_le_mul_right _ (by omega)
      have z4 : ((sge sn n f (insd sn p) - insd sn p) + 3) * (10 * P) = 10 * X + 30 * P := by
        rw [← hA, Nat.add_mul, Nat.mul_left_comm]
        omega
      omega
    · rw [show 1 + N1 + N2 + fu = (N1 + (N2 + fu)) + 1 by omega, HEAD, x2 (N2 + fu), y2 fu]
    · refine (r1.tr x3).tr ⟨y3.1, y3.2.1, fun i hi => ?_⟩
      obtain ⟨g1, g2⟩ := y3.2.2 i hi
      refine ⟨?_, Vn_le (hC i hi).2⟩
      rw [g1, Vn_2]
      congr 1
      unfold Vn
      by_cases hw : base ≤ i ∧ i < base + 6
      · simp only [if_pos hw]
        have z := EVT_Vn (V := V) (E := fun e => EVT sn n V f (insd sn p) c e + (cntN sn n p - 1) * EVT sn n V f (insd sn p) (ecl sn n f (insd sn p) c) e) hv hk hcl hfi hb b5 (show n - (sge sn n f (insd sn p) + 1) < f by omega) c2 (show i - base < 6 by omega)
        unfold Vn at z
        unfold EVT at z ⊢
        rw [z]
      · simp only [if_neg hw]
end COUNT
