/-! THE PURE PART, h: the card on top, on both sides -/
theorem gI_ne {g : GM} {a k b j : Nat} {v : Int32} (h : ¬ (b = a ∧ j = k)) : gI (gsI g a k v) b j = gI g b j := by rw [gI_I, if_neg h]
theorem gI_eq {g : GM} {a k : Nat} {v : Int32} : gI (gsI g a k v) a k = v := by rw [gI_I, if_pos ⟨rfl, rfl⟩]
/-- the addresses of a stack and of texts are apart -/
def SE (K : GK) (b : Nat) : Prop := ∀ t, gkd K t = 2 → ∀ i, i ≤ 5 → ∀ j, j ≤ 6 → t + i ≠ b + j
/-- what a change of the card on top leaves -/
def MV0 (g g' : GM) (b : Nat) (s s' : Nat → Int32) (i : Nat) : Prop :=
  AG (fun q => b ≤ q ∧ q ≤ b + 6) g g' ∧ (∀ j, j < i → gR g' (b + 6) j = gR g (b + 6) j ∧ gI g' (b + 1) j = gI g (b + 1) j ∧ gI g' (b + 2) j = gI g (b + 2) j ∧ gI g' (b + 3) j = gI g (b + 3) j) ∧ (∀ k, k < 4 * i → gI g' (b + 4) k = gI g (b + 4) k ∧ gI g' (b + 5) k = gI g (b + 5) k) ∧ ∀ x, x < fb i → x ≠ 3 → s' x = s x
theorem MV0.rf {g : GM} {b i : Nat} {s : Nat → Int32} : MV0 g g b s s i := ⟨AG.rf, fun _ _ => ⟨rfl, rfl, rfl, rfl⟩, fun _ _ => ⟨rfl, rfl⟩, fun _ _ _ => rfl⟩
theorem MV0.tr {g g1 g2 : GM} {b i : Nat} {s s1 s2 : Nat → Int32} (h : MV0 g g1 b s s1 i) (h2 : MV0 g1 g2 b s1 s2 i) : MV0 g g2 b s s2 i :=
  ⟨h.1.tr h2.1, fun j hj => ⟨(h2.2.1 j hj).1.trans (h.2.1 j hj).1, (h2.2.1 j hj).2.1.trans (h.2.1 j hj).2.1, (h2.2.1 j hj).2.2.1.trans (h.2.1 j hj).2.2.1, (h2.2.1 j hj).2.2.2.trans (h.2.1 j hj).2.2.2⟩, fun k hk => ⟨(h2.2.2.1 k hk).1.trans (h.2.2.1 k hk).1, (h2.2.2.1 k hk).2.trans (h.2.2.1 k hk).2⟩, fun x h1 h3 => (h2.2.2.2 x h1 h3).trans (h.2.2.2 x h1 h3)⟩
theorem MV0.ta {K : GK} {g g' : GM} {b i : Nat} {s s' : Nat → Int32} (h : MV0 g g' b s s' i) (hk : SE K b) : TA K g g' := TA.ag h.1 (fun t ht i hi hz => by
  have := hk t ht i hi (t + i - b) (by omega)
  omega)
/-- cards further down -/
theorem MV0.low {K : GK} {g g' : GM} {b i j t n p m : Nat} {s s' : Nat → Int32} {sn : Nat → Nat} (h : MV0 g g' b s s' i) (hk : SE K b) (hj : j < i) (hf : FR1 K g b s j t n sn p m) : FR1 K g' b s' j t n sn p m := by
  have ⟨_, h2, h3, h4⟩ := h
  obtain ⟨a1, a2, a3, a4⟩ := h2 j hj
  exact hf.mo (h.ta hk) a1 a2 a3 a4 (fun k hk => (h3 _ (by omega)).1) (fun k hk => (h3 _ (by omega)).2) (fun k hk => h4 _ (by show 1253 + 92 * j + k < 1253 + 92 * i; omega) (by show 1253 + 92 * j + k ≠ 3; omega))
/-- a change of the memory alone, or of the row alone -/
theorem MV0.gi {g : GM} {b i x k : Nat} {v : Int32} {s : Nat → Int32} (hx : x ≤ 6) (h : x = 0 ∨ x = 6 ∨ ((x = 1 ∨ x = 2 ∨ x = 3) ∧ i ≤ k) ∨ ((x = 4 ∨ x = 5) ∧ 4 * i ≤ k)) : MV0 g (gsI g (b + x) k v) b s s i := by
  refine ⟨AG.I ⟨by omega, by omega⟩, fun j hj => ⟨rfl, ?_, ?_, ?_⟩, fun j hj => ⟨?_, ?_⟩, fun _ _ _ => rfl⟩ <;> exact gI_ne (by omega)
theorem MV0.gr {g : GM} {b i k : Nat} {v : Option Nat} {s : Nat → Int32} (h : i ≤ k) : MV0 g (gsR g (b + 6) k v) b s s i := by
  refine ⟨AG.R ⟨by omega, by omega⟩, fun j hj => ⟨?_, rfl, rfl, rfl⟩, fun j hj => ⟨rfl, rfl⟩, fun _ _ _ => rfl⟩
  rw [gR_R, if_neg (by omega)]
theorem MV0.su {g : GM} {b i k : Nat} {v : Int32} {s : Nat → Int32} (h : k = 3 ∨ fb i ≤ k) : MV0 g g b s (upd s k v) i :=
  ⟨AG.rf, fun _ _ => ⟨rfl, rfl, rfl, rfl⟩, fun _ _ => ⟨rfl, rfl⟩, fun x h1 h3 => pk_un (by omega)⟩
/-- .. and the texts of the cards -/
def MW (g g' : GM) (b : Nat) (s s' : Nat → Int32) (i : Nat) : Prop := MV0 g g' b s s' i ∧ ∀ j, gR g' (b + 6) j = gR g (b + 6) j
theorem MW.rf {g : GM} {b i : Nat} {s : Nat → Int32} : MW g g b s s i := ⟨MV0.rf, fun _ => rfl⟩
theorem MW.tr {g g1 g2 : GM} {b i : Nat} {s s1 s2 : Nat → Int32} (h : MW g g1 b s s1 i) (h2 : MW g1 g2 b s1 s2 i) : MW g g2 b s s2 i := ⟨h.1.tr h2.1, fun j => (h2.2 j).trans (h.2 j)⟩
theorem MW.ta {K : GK} {g g' : GM} {b i : Nat} {s s' : Nat → Int32} (h : MW g g' b s s' i) (hk : SE K b) : TA K g g' := h.1.ta hk
theorem MW.low {K : GK} {g g' : GM} {b i j t n p m : Nat} {s s' : Nat → Int32} {sn : Nat → Nat} (h : MW g g' b s s' i) (hk : SE K b) (hj : j < i) (hf : FR1 K g b s j t n sn p m) : FR1 K g' b s' j t n sn p m := h.1.low hk hj hf
theorem MW.gi {g : GM} {b i x k : Nat} {v : Int32} {s : Nat → Int32} (hx : x ≤ 6) (h : x = 0 ∨ x = 6 ∨ ((x = 1 ∨ x = 2 ∨ x = 3) ∧ i ≤ k) ∨ ((x = 4 ∨ x = 5) ∧ 4 * i ≤ k)) : MW g (gsI g (b + x) k v) b s s i := ⟨MV0.gi hx h, fun _ => rfl⟩
theorem MW.su {g : GM} {b i k : Nat} {v : Int32} {s : Nat → Int32} (h : k = 3 ∨ fb i ≤ k) : MW g g b s (upd s k v) i := ⟨MV0.su h, fun _ => rfl⟩
theorem MW.so {g : GM} {b i : Nat} {s s' : Nat → Int32} (h : ∀ x, x < fb i → s' x = s x) : MW g g b s s' i := ⟨⟨AG.rf, fun _ _ => ⟨rfl, rfl, rfl, rfl⟩, fun _ _ => ⟨rfl, rfl⟩, fun x h1 _ => h x h1⟩, fun _ => rfl⟩
section TOP
variable {K : GK} {g g' : GM} {S : GS} {b t n p m i q : Nat} {s s' : Nat → Int32} {sn : Nat → Nat}
theorem fb_lt {k : Nat} (hi : i < 9) (hk : k < 92) : fb i + k < 2081 := by show 1253 + 92 * i + k < 2081; omega
theorem re_top {k : Nat} (hi : i < 9) (h3 : s 3 = nI (i + 1)) (hk : k < 92) : f8_onTop (rw1 S s) (nI k) = some (s (fb i + k)) := by
  have hb := fb_lt hi hk
  unfold f8_onTop f8_frame
  simp (disch := omega) only [EV, NUM, pu_lit, rw1_1, pu_gok, pu_cl, h3, pk_sub, Nat.sub_zero, Nat.add_sub_cancel]
theorem re_set {k : Nat} {v : Int32} (hi : i < 9) (h3 : s 3 = nI (i + 1)) (hk : k < 92) : f8_setTop (rw1 S s) (nI k) v = some (rw1 S (upd s (fb i + k) v)) := by
  have hb := fb_lt hi hk
  unfold f8_setTop f8_frame
  simp (disch := omega) only [EV, NUM, pu_lit, rw1_1, pu_gok, pu_cl, h3, pk_sub, Nat.sub_zero, Nat.add_sub_cancel, ss_rw]
theorem re_go {k : Nat} (hi : i < 9) (h3 : s 3 = nI (i + 1)) (h2 : s (fb i + 2) = nI p) : f8_go (rw1 S s) (nI k) = some (rw1 S (upd s (fb i + 2) (nI (p + k)))) := by
  unfold f8_go
  simp (disch := omega) only [EV, NUM, pu_lit, re_top hi h3, re_set hi h3, h2]
theorem re_sign {k : Nat} (hi : i < 9) (h3 : s 3 = nI (i + 1)) (hk : k < 80) : f8_signAt (rw1 S s) (nI k) = some (s (fb i + 12 + k)) := by
  unfold f8_signAt
  simp (disch := omega) only [EV, NUM, pu_lit, re_top hi h3]
  rw [show fb i + (12 + k) = fb i + 12 + k by omega]
theorem re_count (hi : i < 9) (h3 : s 3 = nI (i + 1)) (hn : s (fb i + 11) = nI n) (h80 : n ≤ 80) (hs : ∀ k, k < n → s (fb i + 12 + k) = nI (sn k)) (hc : ∀ k, k < n → sn k < 128) (hp : p ≤ n) : f8_countAt (rw1 S s) (nI p) = some (nI (cntN sn n p)) := by
  unfold f8_countAt f8_countAt_26
  have W0 : f8_within (nI 0) (nI 2) (nI 9) = some 0 := by
    unfold f8_within f8_within_14
    simp (disch := omega) [pu_lt]
  by_cases hpn : p + 1 < n
  · have n1 : ¬ n ≤ p + 1 := by omega
    have hs1 := hs (p + 1) hpn
    have hc1 := hc (p + 1) hpn
    simp (disch := omega) only [EV, NUM, pu_lit, re_top hi h3, re_sign hi h3, hn, pu_le, n1, hs1, if_false]
    rw [within_dig hc1 (by omega) (by omega)]
    unfold cntN
    by_cases hz : 2 + 48 ≤ sn (p + 1) ∧ sn (p + 1) ≤ 9 + 48
    · rw [if_pos hz, if_pos ⟨hpn, by omega⟩]
      simp (disch := omega) [EV, pu_lit, pu_eq, pk_sub]
    · rw [if_neg hz, if_neg (fun z => hz (by omega))]
      simp (disch := omega) [EV, pu_lit, pu_eq, pk_sub]
  · have n1 : n ≤ p + 1 := by omega
    have e : cntN sn n p = 1 := by unfold cntN; rw [if_neg (fun z => hpn z.1)]
    simp (disch := omega) only [EV, NUM, pu_lit, re_top hi h3, hn, pu_le, n1, if_true, W0]
    rw [e]
/-- the frame without its place -/
def FR0 (K : GK) (g : GM) (b : Nat) (s : Nat → Int32) (i t n : Nat) (sn : Nat → Nat) (l : List Nat) : Prop :=
  gR g (b + 6) i = some t ∧ TX K g t n sn ∧ s (fb i) = gI g (b + 1) i ∧ (∃ c, c < 6 ∧ gI g (b + 2) i = nI c ∧ s (fb i + 1) = nI c) ∧
  gI g (b + 3) i = nI l.length ∧ s (fb i + 4) = nI l.length ∧ s (fb i + 11) = nI n ∧ (∀ k, k < n → s (fb i + 12 + k) = nI (sn k)) ∧
  ∀ j, j < l.length → OP1 g b s i j (opn l j) sn
theorem FR1.fr0 (h : FR1 K g b s i t n sn p m) : FR0 K g b s i t n sn (ks sn p) := by
  obtain ⟨h1, h2, h3, h4, h5, h6, h7, h8, h9, h10, h11, h12, h13, h14⟩ := h
  subst h5
  exact ⟨h1, h2, h3, h4, h6, h7, h12, h13, h14⟩
theorem FR0.at (h : FR0 K g b s i t n sn (ks sn p)) (e4 : gI g (b + 4) (4 * i + (ks sn p).length) = nI p) (e2 : s (fb i + 2) = nI p) (hs : SP sn n p) (hl : LF sn n p (s (fb i + 3)) (gI g (b + 5) (4 * i + (ks sn p).length))) : FR1 K g b s i t n sn p (ks sn p).length := by
  obtain ⟨h1, h2, h3, h4, h6, h7, h12, h13, h14⟩ := h
  exact ⟨h1, h2, h3, h4, rfl, h6, h7, e4, e2, hs, hl, h12, h13, h14⟩
/-- an arrival, both sides -/
theorem FR0.arr (h : FR0 K g b s i t n sn (ks sn q)) (hk : SE K b) (hs : SP sn n q) (es : ∀ k, k < 92 → k ≠ 2 → k ≠ 3 → s' (fb i + k) = s (fb i + k)) (e2 : s' (fb i + 2) = nI q) (e3 : s' (fb i + 3) = nI 0) : FR1 K (gA g b (4 * i + (ks sn q).length) q (if q < n then gI g (t + 2) q else nI 0)) b s' i t n sn q (ks sn q).length := by
  obtain ⟨h1, h2, h3, ⟨c, c6, h4, h4'⟩, h6, h7, h12, h13, h14⟩ := h
  have hv := h2.2.2.2.1
  have l3 := (au (hv.ne hs.1)).2.2.1
  have n80 := hv.1
  have ta : TA K g (gA g b (4 * i + (ks sn q).length) q (if q < n then gI g (t + 2) q else nI 0)) := TA.ag (P := fun x => x = b + 4 ∨ x = b + 5) (AG.ai (AG.ai AG.rf (Or.inl rfl)) (Or.inr rfl)) (fun t ht i hi hz => by
    have a1 := hk t ht i hi 4 (by omega)
    have a2 := hk t ht i hi 5 (by omega)
    omega)
  refine FR0.at ⟨h1, h2.mo ta, ?_, ⟨c, c6, ?_, ?_⟩, ?_, ?_, ?_, fun k hk => ?_, fun j hj => ?_⟩ ?_ e2 hs ?_
  · rw [show fb i = fb i + 0 from rfl, es 0 (by omega) (by omega) (by omega)]
    unfold gA
    rw [gI_ne (by omega), gI_ne (by omega)]
    exact h3
  · unfold gA
    rw [gI_ne (by omega), gI_ne (by omega)]
    exact h4
  · rw [es 1 (by omega) (by omega) (by omega)]
    exact h4'
  · unfold gA
    rw [gI_ne (by omega), gI_ne (by omega)]
    exact h6
  · rw [es 4 (by omega) (by omega) (by omega)]
    exact h7
  · rw [es 11 (by omega) (by omega) (by omega)]
    exact h12
  · rw [show fb i + 12 + k = fb i + (12 + k) by omega, es _ (by omega) (by omega) (by omega), show fb i + (12 + k) = fb i + 12 + k by omega]
    exact h13 k hk
  · obtain ⟨l, l8, a1, a2, a3, a4, a5⟩ := h14 j hj
    refine ⟨l, l8, ?_, ?_, ?_, ?_, a5⟩
    · unfold gA
      rw [gI_ne (by omega), gI_ne (by omega)]
      exact a1
    · rw [show fb i + 5 + 2 * j = fb i + (5 + 2 * j) by omega, es _ (by omega) (by omega) (by omega), show fb i + (5 + 2 * j) = fb i + 5 + 2 * j by omega]
      exact a2
    · unfold gA
      rw [gI_ne (by omega), gI_ne (by omega)]
      exact a3
    · rw [show fb i + 6 + 2 * j = fb i + (6 + 2 * j) by omega, es _ (by omega) (by omega) (by omega), show fb i + (6 + 2 * j) = fb i + 6 + 2 * j by omega]
      exact a4
  · unfold gA
    rw [gI_ne (by omega), gI_eq]
  · rw [e3]
    unfold gA
    rw [gI_eq]
    exact tx_lf h2 hs
theorem gA_mv {k : Nat} {v : Int32} (hk : 4 * i ≤ k) : MW g (gA g b k q v) b s s i := MW.tr (MW.gi (x := 4) (by omega) (by omega)) (MW.gi (x := 5) (by omega) (by omega))
theorem gA_6 {k : Nat} {v : Int32} (x : Nat) : gI (gA g b k q v) b x = gI g b x := by
  unfold gA
  rw [gI_ne (by omega), gI_ne (by omega)]
/-- how a change of the card on top ends -/
def RES (K : GK) (g : GM) (b : Nat) (s : Nat → Int32) (i t n : Nat) (sn : Nat → Nat) (g' : GM) (s' : Nat → Int32) : Prop :=
  (∃ p m, FR1 K g' b s' i t n sn p m) ∧ MW g g' b s s' i ∧ gI g' b 6 = nI (i + 1) ∧ s' 3 = nI (i + 1)
theorem RES.tr {g1 g2 : GM} {s1 s2 : Nat → Int32} (h : MW g g1 b s s1 i) (h2 : RES K g1 b s1 i t n sn g2 s2) : RES K g b s i t n sn g2 s2 := ⟨h2.1, h.tr h2.2.1, h2.2.2⟩
/-- an arrival behind a step -/
theorem arrives (h : FR1 K g b s i t n sn p m) (hk : SE K b) (hi : i < 9) (hd : gI g b 6 = nI (i + 1)) (h3 : s 3 = nI (i + 1)) (hb : gI g (t + 5) p = nI q) (hp : p < n) (hq : SP sn n q) (hks : ks sn q = ks sn p) (es : ∀ k, k < 92 → k ≠ 2 → k ≠ 3 → s' (fb i + k) = s (fb i + k)) (e2 : s' (fb i + 2) = nI q) (e3 : s' (fb i + 3) = nI 0) (eo : ∀ x, x < fb i → s' x = s x) : ∃ g', f0_passOver_51 K b g = some g' ∧ RES K g b s i t n sn g' s' := by
  have hm := h.m3
  have h5 : (ks sn q).length = m := by rw [hks]; exact h.2.2.2.2.1
  have A := (show FR0 K g b s i t n sn (ks sn q) by rw [hks]; exact h.fr0).arr hk hq es e2 e3
  refine ⟨_, ?_, ⟨_, _, A⟩, (gA_mv (by omega)).tr (MW.so eo), by rw [gA_6]; exact hd, by rw [eo 3 (by show 3 < 1253 + 92 * i; omega)]; exact h3⟩
  unfold f0_passOver_51
  rw [cl_behind h hi hd hp, hb, h5]
  simp only [EV]
  rw [cl_arrive hi hm.1 hd h.2.2.2.2.2.1 h.1 h.2.1 hq.1 hk]
  rfl
end TOP
