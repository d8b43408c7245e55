/-! THE LAW'S LOOM, f: a step -/
section LSTEP
variable {L L' L1 L2 : GS} {S : GS} {s s' s1 s2 : Nat → Int32} {i j k n p m q c u l e T d : Nat} {sn : Nat → Nat} {v : Int32}
/-- what a step ends with -/
theorem l_after (h : RESL L s i n sn L' s') (hlow : ∀ j, j < i → ∃ n sn p m, FL L s j n sn p m ∧ p < n ∧ sn p = 107) (hi : i < 9) : ∃ L2 s2 d2, f9_settles L' = some L2 ∧ f8_settle (rw1 S s') = some (rw1 S s2) ∧ STL L2 s2 d2 atStep ∧ MVL L L2 s s2 0 := by
  obtain ⟨⟨p, m, h1⟩, h2, h3, h4⟩ := h
  have m3 := h1.m3
  obtain ⟨L2, s2, d2, a1, a2, a3, a4⟩ := l_ends (S := S) 36 i n sn p m L' s' FU FU h1 (fun j hj => by
    obtain ⟨n', sn', p', m', z1, z2⟩ := hlow j hj
    exact ⟨n', sn', p', m', h2.low hj z1, z2⟩) hi h3 h4 (by omega) (by unfold FU; omega) (by unfold FU; omega)
  exact ⟨L2, s2, d2, a1, a2, a3, (h2.dn (Nat.zero_le _)).tr a4⟩
theorem STL.low (h : STL L s (i + 1) atStep) : ∀ j, j < i → ∃ n sn p m, FL L s j n sn p m ∧ p < n ∧ sn p = 107 := fun j hj => h.2.2.2.1 j (by omega)
/-- the card on top takes a colour -/
theorem FL.dye (h : FL L s i n sn p m) {v : Nat} (hv : v < 6) : FL (ssI L 4 (6 * i + 1) (nI v)) (upd s (fb i + 1) (nI v)) i n sn p m := by
  have hm := h.m3
  obtain ⟨⟨a1, ⟨c, c6, a2⟩, a3, a4, a5, a6, a7, a8, a9, a10⟩, b1, b2⟩ := h
  refine ⟨⟨a1, ⟨v, hv, pk_us⟩, a3, by rw [pk_un (by omega)]; exact a4, by rw [pk_un (by omega)]; exact a5, a6, by rw [pk_un (by omega)]; exact a7, by rw [pk_un (by omega)]; exact a8, fun k hk => by rw [pk_un (by omega)]; exact a9 k hk, fun j hj => ?_⟩, b1, fun k hk => ?_⟩
  · obtain ⟨l, l8, z1, z2, z3⟩ := a10 j hj
    exact ⟨l, l8, by rw [pk_un (by omega)]; exact z1, by rw [pk_un (by omega)]; exact z2, z3⟩
  · by_cases k1 : k = 1
    · subst k1
      rw [pk_us, vf_4 (by omega), ss_1, pk_us]
    · rw [pk_un (by omega), b2 k hk]
      unfold vf AT
      rw [ss_n _ 4 _ 6 _ (by decide), ss_n _ 4 _ 5 _ (by decide), ss_1]
      by_cases z1 : k < 5
      · rw [if_pos z1, if_pos z1, pk_un (by omega)]
      rw [if_neg z1, if_neg z1]
      by_cases z2 : k < 11
      · rw [if_pos z2, if_pos z2]
      rw [if_neg z2, if_neg z2]
      by_cases z3 : k = 11
      · rw [if_pos z3, if_pos z3, pk_un (by omega)]
      rw [if_neg z3, if_neg z3]
/-- the rows beside the stack change alone -/
theorem FL.beside (h : FL L s i n sn p m) (h4 : L' 4 = L 4) (h5 : L' 5 = L 5) (h6 : L' 6 = L 6) (hs : ∀ x, 1253 ≤ x → s' x = s x) : FL L' s' i n sn p m :=
  h.mo (VE.mk4 (fun _ _ => by rw [h4]) (fun _ _ => by rw [h5]) (fun _ _ => by rw [h6])) (fun k _ => hs _ (by show 1253 ≤ 1253 + 92 * i + k; omega))
theorem STL.beside {TT : Nat → Nat → (Nat → Nat) → Prop} (h : STL L s d TT) (h0 : L' 0 3 = L 0 3) (h3 : s' 3 = s 3) (h4 : L' 4 = L 4) (h5 : L' 5 = L 5) (h6 : L' 6 = L 6) (hs : ∀ x, 1253 ≤ x → s' x = s x) : STL L' s' d TT := by
  obtain ⟨a1, a2, a3, a4, a5⟩ := h
  refine ⟨h0.trans a1, h3.trans a2, a3, fun j hj => ?_, fun j hj => ?_⟩
  · obtain ⟨n, sn, p, m, z1, z2⟩ := a4 j hj
    exact ⟨n, sn, p, m, z1.beside h4 h5 h6 hs, z2⟩
  · obtain ⟨n, sn, p, m, z1, z2⟩ := a5 j hj
    exact ⟨n, sn, p, m, z1.beside h4 h5 h6 hs, z2⟩
/-- a call is counted -/
theorem BAL.calls (h : BAL L s c T) : BAL (ssI L 0 7 (L 0 7 + nI 1)) (upd s 7 (s 7 + nI 1)) c T := by
  obtain ⟨a1, ⟨⟨v, v9, a2⟩, nb⟩, a3, ⟨W, WT, a4⟩, a5, a6, a7, a8, a9⟩ := h
  refine ⟨fun x hx => by rw [ss_1, pk_un (by omega), pk_un (by omega)]; exact a1 x hx, ⟨⟨v, v9, by rw [pk_un (by omega)]; exact a2⟩, nb.mo (fun x hx => pk_un (by omega))⟩, fun x h1 h2 => ?_, ⟨W, WT, by rw [pk_un (by omega)]; exact a4⟩, fun k hk => by rw [ss_n _ _ _ _ _ (by decide), pk_un (by omega)]; exact a5 k hk, fun k hk => by rw [ss_n _ _ _ _ _ (by decide), pk_un (by omega)]; exact a6 k hk, a7.mo (by rw [ss_1, pk_un (by decide)]) (ss_n _ _ _ _ _ (by decide)) (pk_un (by decide)) (fun x h1 h2 => pk_un (by omega)), fun k hk => (a8 k hk).mo hk (by rw [ss_n _ _ _ _ _ (by decide)]) (ss_n _ _ _ _ _ (by decide)) (fun x h1 h2 => pk_un (by omega)), fun k h1 h2 => by rw [pk_un (by omega)]; exact a9 k h1 h2⟩
  by_cases x7 : x = 7
  · subst x7
    rw [ss_1, pk_us, pk_us, a3 7 (by omega) (by omega)]
  · rw [ss_1, pk_un x7, pk_un x7]; exact a3 x h1 h2
/-- a pick onto the cloth: the law's rows, the reference's row -/
def Lw (L : GS) (col c : Nat) : GS := ssI (ssI (ssI (ssI (ssI (ssI L 1 col (L 1 col - nI 1)) 1 (6 + col) (L 1 (6 + col) + nI 1)) 1 (18 + col) (L 1 (18 + col) + nI 1)) 0 5 (L 0 5 + nI 1)) 7 (c / 10) ((L 7 (c / 10) &&& ((nI 7 <<< (nI (3 * (c - c / 10 * 10)) &&& nI 31)) ^^^ (-nI 1))) ||| (nI col <<< (nI (3 * (c - c / 10 * 10)) &&& nI 31)))) 0 4 (nI (c + 1))
def sw (s : Nat → Int32) (col c : Nat) : Nat → Int32 := upd (upd (upd (upd (upd (upd s (19 + col) (s (19 + col) - nI 1)) (25 + col) (s (25 + col) + nI 1)) (37 + col) (s (37 + col) + nI 1)) 5 (s 5 + nI 1)) (853 + c) (nI col)) 4 (nI (c + 1))
theorem Lw_o (col : Nat) {r : Nat} (h0 : r ≠ 0) (h1 : r ≠ 1) (h7 : r ≠ 7) : Lw L col c r = L r := by
  unfold Lw
  rw [ss_n _ _ _ _ _ h0, ss_n _ _ _ _ _ h7, ss_n _ _ _ _ _ h0, ss_n _ _ _ _ _ h1, ss_n _ _ _ _ _ h1, ss_n _ _ _ _ _ h1]
theorem Lw_0 (col x : Nat) : Lw L col c 0 x = if x = 4 then nI (c + 1) else if x = 5 then L 0 5 + nI 1 else L 0 x := by
  unfold Lw
  rw [ss_1, pu_upd, ss_n _ 7 _ 0 _ (by decide), ss_1, pu_upd, ss_n _ 1 _ 0 _ (by decide), ss_n _ 1 _ 0 _ (by decide), ss_n _ 1 _ 0 _ (by decide)]
theorem Lw_1 (col x : Nat) : Lw L col c 1 x = if x = 18 + col then L 1 (18 + col) + nI 1 else if x = 6 + col then L 1 (6 + col) + nI 1 else if x = col then L 1 col - nI 1 else L 1 x := by
  unfold Lw
  rw [ss_n _ 0 _ 1 _ (by decide), ss_n _ 7 _ 1 _ (by decide), ss_n _ 0 _ 1 _ (by decide), ss_1, pu_upd, ss_1, pu_upd, ss_1, pu_upd]
theorem Lw_7 (col x : Nat) : Lw L col c 7 x = if x = c / 10 then ((L 7 (c / 10) &&& ((nI 7 <<< (nI (3 * (c - c / 10 * 10)) &&& nI 31)) ^^^ (-nI 1))) ||| (nI col <<< (nI (3 * (c - c / 10 * 10)) &&& nI 31))) else L 7 x := by
  unfold Lw
  rw [ss_n _ 0 _ 7 _ (by decide), ss_1, pu_upd, ss_n _ 0 _ 7 _ (by decide), ss_n _ 1 _ 7 _ (by decide), ss_n _ 1 _ 7 _ (by decide), ss_n _ 1 _ 7 _ (by decide)]
theorem sw_at (col x : Nat) : sw s col c x = if x = 4 then nI (c + 1) else if x = 853 + c then nI col else if x = 5 then s 5 + nI 1 else if x = 37 + col then s (37 + col) + nI 1 else if x = 25 + col then s (25 + col) + nI 1 else if x = 19 + col then s (19 + col) - nI 1 else s x := by
  unfold sw
  rw [pu_upd, pu_upd, pu_upd, pu_upd, pu_upd, pu_upd]
theorem sw_o {col x : Nat} (h4 : x ≠ 4) (h5 : x ≠ 5) (hc : x ≠ 853 + c) (h1 : x ≠ 37 + col) (h2 : x ≠ 25 + col) (h3 : x ≠ 19 + col) : sw s col c x = s x := by
  rw [sw_at, if_neg h4, if_neg hc, if_neg h5, if_neg h1, if_neg h2, if_neg h3]
theorem BAL.pick (h : BAL L s c T) {col : Nat} (hcol : col < 6) (hc : c < 400) (hne : s (19 + col) ≠ 0) : BAL (Lw L col c) (sw s col c) (c + 1) (T + 1) := by
  obtain ⟨a1, ⟨⟨v, v9, a2⟩, nb⟩, a3, ⟨W, WT, a4⟩, a5, a6, ⟨b1, b2, b3, b4, b5⟩, a8, a9⟩ := h
  have so : ∀ x, x < 1253 → 43 ≤ x → x ≠ 853 + c → sw s col c x = s x := fun x _ h1 h2 => sw_o (by omega) (by omega) h2 (by omega) (by omega) (by omega)
  refine ⟨fun x hx => ?_, ⟨⟨v, v9, by rw [sw_o (by omega) (by omega) (by omega) (by omega) (by omega) (by omega)]; exact a2⟩, ?_⟩, fun x h1 h2 => ?_, ⟨W + 1, by omega, ?_⟩, fun k hk => ?_, fun k hk => ?_, ⟨by omega, ?_, ?_, fun x hx => ?_, fun k hk => ?_⟩, fun k hk => (a8 k hk).mo hk (by rw [Lw_o col (by decide) (by decide) (by decide)]) (Lw_o col (by decide) (by decide) (by decide)) (fun x h1 h2 => so x (by omega) h1 (by omega)), fun k h1 h2 => by rw [so _ (by omega) (by omega) (by omega)]; exact a9 k h1 h2⟩
  · rw [Lw_0, if_neg (by omega), if_neg (by omega), sw_o (by omega) (by omega) (by omega) (by omega) (by omega) (by omega)]; exact a1 x hx
  · refine ⟨fun k hk => ?_, fun x hx => ?_⟩
    · obtain ⟨v, z1, z2⟩ := nb.1 k hk
      by_cases hkc : k = col
      · subst hkc
        have v0 : v ≠ 0 := fun z => hne (by rw [z2, z]; exact nI_0)
        exact ⟨v - 1, by omega, by rw [sw_at, if_neg (by omega), if_neg (by omega), if_neg (by omega), if_neg (by omega), if_neg (by omega), if_pos rfl, z2, pk_sub (by omega)]⟩
      · exact ⟨v, z1, by rw [sw_o (by omega) (by omega) (by omega) (by omega) (by omega) (by omega)]; exact z2⟩
    · obtain ⟨v, z1, z2⟩ := nb.2 x hx
      exact ⟨v, z1, by rw [sw_o (by omega) (by omega) (by omega) (by omega) (by omega) (by omega)]; exact z2⟩
  · by_cases x5 : x = 5
    · subst x5
      rw [Lw_0, if_neg (by decide), if_pos rfl, sw_at, if_neg (by decide), if_neg (by omega), if_pos rfl, a3 5 (by omega) (by omega)]
    · rw [Lw_0, if_neg (by omega), if_neg x5, sw_o (by omega) x5 (by omega) (by omega) (by omega) (by omega)]; exact a3 x h1 h2
  · rw [sw_at, if_neg (by decide), if_neg (by omega), if_pos rfl, a4, nI_add]
  · rw [Lw_1]
    by_cases z1 : k = 18 + col
    · subst z1
      rw [if_pos rfl, sw_at, if_neg (by omega), if_neg (by omega), if_neg (by omega), if_pos (by omega), a5 _ hk, show 19 + (18 + col) = 37 + col by omega]
    rw [if_neg z1]
    by_cases z2 : k = 6 + col
    · subst z2
      rw [if_pos rfl, sw_at, if_neg (by omega), if_neg (by omega), if_neg (by omega), if_neg (by omega), if_pos (by omega), a5 _ hk, show 19 + (6 + col) = 25 + col by omega]
    rw [if_neg z2]
    by_cases z3 : k = col
    · subst z3
      rw [if_pos rfl, sw_at, if_neg (by omega), if_neg (by omega), if_neg (by omega), if_neg (by omega), if_neg (by omega), if_pos rfl, a5 _ hk]
    rw [if_neg z3, sw_o (by omega) (by omega) (by omega) (by omega) (by omega) (by omega)]
    exact a5 k hk
  · rw [Lw_o col (by decide) (by decide) (by decide), sw_o (by omega) (by omega) (by omega) (by omega) (by omega) (by omega)]; exact a6 k hk
  · rw [Lw_0, if_pos rfl]
  · rw [sw_at, if_pos rfl]
  · rw [Lw_7]
    by_cases z : x = c / 10
    · rw [if_pos z]
      obtain ⟨V, hV, e⟩ := b4 (c / 10) (by omega)
      obtain ⟨V', hV', e', -⟩ := cl_put (V := V) (col := col) (j := c - c / 10 * 10) hV (by omega) (by omega)
      exact ⟨V', hV', by rw [e]; exact e'⟩
    · rw [if_neg z]
      exact b4 x hx
  · obtain ⟨V, hV, e⟩ := b4 (c / 10) (by omega)
    obtain ⟨V', hV', e', e2⟩ := cl_put (V := V) (col := col) (j := c - c / 10 * 10) hV (by omega) (by omega)
    have P7 : Lw L col c 7 (c / 10) = nI V' := by rw [Lw_7, if_pos rfl, e]; exact e'
    by_cases kc : k = c
    · subst kc
      refine ⟨col, hcol, by rw [sw_at, if_neg (by omega), if_pos rfl], ?_⟩
      unfold PK
      rw [P7, e2 _ (by omega), if_pos rfl]
    · obtain ⟨v, v6, z1, z2⟩ := b5 k (by omega)
      refine ⟨v, v6, by rw [so _ (by omega) (by omega) (by omega)]; exact z1, ?_⟩
      unfold PK at z2 ⊢
      by_cases kd : k / 10 = c / 10
      · rw [kd, e] at z2
        rw [kd, P7, e2 _ (by omega), if_neg (by omega)]
        exact z2
      · rw [Lw_7, if_neg kd]
        exact z2
end LSTEP
