/-! THE PURE PART, i: passing over a step, beginning a part -/
section PASS
variable {K : GK} {g g' : GM} {S : GS} {b t n p m i q : Nat} {s s' : Nat → Int32} {sn : Nat → Nat}
theorem rw1_upd (S : GS) (s : Nat → Int32) : rw1 S s 1 = s := rw1_1 S s
/-- the closing bracket is found -/
theorem re_pass (hi : i < 9) (h3 : s 3 = nI (i + 1)) (hv : VT sn n) (hs : ∀ k, k < n → s (fb i + 12 + k) = nI (sn k)) {r L : Nat} {p0 : Int32} (hr : r < n) (h41 : sn r = 41) (hL : (ks sn (r + 1)).length = L) : ∀ w v f, r - v = w → v ≤ r → w + 1 < f → (∀ x, v ≤ x → x ≤ r → L < (ks sn x).length) → f8_passPart_6 p0 f (rw1 S s) (nI ((ks sn v).length - L)) (nI v) = some (rw1 S (upd (upd s (fb i + 2) (nI (r + 1))) (fb i + 3) (nI 0))) := by
  have n80 := hv.1
  intro w
  induction w with
  | zero =>
    intro v f hw hvr hf hin
    obtain ⟨f, rfl⟩ : ∃ k, f = k + 2 := ⟨f - 2, by omega⟩
    have : v = r := by omega
    subst this
    have h1 := hin v (Nat.le_refl _) (Nat.le_refl _)
    have l3 := (au (hv.ne (p := v) (by omega))).2.2.1
    obtain ⟨⟨k, hk⟩, -⟩ := (ks_step hv hr).2.1 h41
    have e1 : (ks sn v).length = (ks sn (v + 1)).length + 1 := by rw [hk]; rfl
    have e2 : (ks sn v).length - L = 1 := by omega
    have hsv := hs v hr
    have h3' : upd s (fb i + 2) (nI (v + 1)) 3 = nI (i + 1) := by rw [pk_un (by show 3 ≠ 1253 + 92 * i + 2; omega)]; exact h3
    rw [e2, f8_passPart_6]
    simp (disch := omega) [EV, NUM, pu_lit, pu_le, pu_eq, re_sign hi h3, hsv, h41, f8_passPart_40, pu_m1']
    rw [f8_passPart_6]
    simp (disch := omega) [EV, NUM, pu_lit, pu_le, pu_eq, re_set hi h3, re_set hi h3']
  | succ w ih =>
    intro v f hw hvr hf hin
    obtain ⟨f, rfl⟩ : ∃ k, f = k + 1 := ⟨f - 1, by omega⟩
    have h1 := hin v (Nat.le_refl _) (by omega)
    have h2 := hin (v + 1) (by omega) (by omega)
    have l3 := (au (hv.ne (p := v) (by omega))).2.2.1
    have l3' := (au (hv.ne (p := v + 1) (by omega))).2.2.1
    have hsv := hs v (by omega)
    have hcv := hv.2.2.2 v (by omega)
    obtain ⟨k40, k41, kne⟩ := ks_step hv (p := v) (by omega)
    have hn0 : ¬ (ks sn v).length - L ≤ 0 := by omega
    have IH := ih (v + 1) f (by omega) (by omega) (by omega) (fun x hx1 hx2 => hin x (by omega) hx2)
    rw [← IH, f8_passPart_6]
    by_cases c40 : sn v = 40
    · have e1 : (ks sn (v + 1)).length = (ks sn v).length + 1 := by rw [k40 c40]; rfl
      rw [e1, show (ks sn v).length + 1 - L = (ks sn v).length - L + 1 by omega]
      simp (disch := omega) only [EV, NUM, pu_lit, pu_le, pu_eq, re_sign hi h3, hsv, c40, f8_passPart_40, hn0, if_false, if_true]
    · by_cases c41 : sn v = 41
      · obtain ⟨⟨k, hk⟩, -⟩ := k41 c41
        have e1 : (ks sn v).length = (ks sn (v + 1)).length + 1 := by rw [hk]; rfl
        rw [show (ks sn (v + 1)).length - L = (ks sn v).length - L - 1 by omega]
        simp (disch := omega) only [EV, NUM, pu_lit, pu_le, pu_eq, re_sign hi h3, hsv, c41, f8_passPart_40, hn0, if_false, if_true, pu_m1']
        simp
      · rw [kne c40 c41]
        simp (disch := omega) only [EV, NUM, pu_lit, pu_le, pu_eq, re_sign hi h3, hsv, c40, c41, f8_passPart_40, hn0, if_false, if_true]
        simp
/-- a part is passed over -/
theorem part_cl (h2 : TX K g t n sn) {u : Nat} (hu : u ≤ n) (hku : ks sn u = p :: ks sn p) : ∃ r, u ≤ r ∧ r < n ∧ sn r = 41 ∧ ks sn (r + 1) = ks sn p ∧ SP sn n (r + 1) ∧ gI g (t + 5) p = nI (r + 1) ∧ ∀ v, u ≤ v → v ≤ r → (ks sn p).length < (ks sn v).length := by
  have hv := h2.2.2.2.1
  obtain ⟨r, a1, a2, a3, a4, a5, a6, a7, a8⟩ := closes hv p (ks sn p) (n - u) u [] (Nat.le_refl _) hu hku
  exact ⟨r, a1, a2, a3, a5, a7, tx_cl h2 a2 a3 a4, a8⟩
theorem cl_pass (h : FR1 K g b s i t n sn p m) (hi : i < 9) (hd : gI g b 6 = nI (i + 1)) (hp : p < n) (hl : sn p ≠ 119) : f0_passOver K g b = f0_passOver_51 K b g := by
  have hm := h.m3
  have hc := h.2.1.2.2.2.1.2.2.2 p hp
  unfold f0_passOver
  simp (disch := omega) [EV, NUM, pu_lit, pu_eq, pk_sub, hd, cl_spot h hi, cl_letter h hi hd, hp, hl]
theorem LF.zero {v w : Int32} (h : LF sn n p v w) (hl : sn p ≠ 119) (hl2 : sn p ≠ 120) : v = nI 0 := by
  rcases h with h | ⟨l, -, -, -, -, -, h⟩
  · exact h.1
  · omega
theorem upd_es {k v' : Nat} {v : Int32} (h : fb i ≤ k) : ∀ x, x < fb i → upd s k v x = s x := fun x hx => pk_un (by omega)
/-- 'c', 'k' -/
theorem pass_ck (h : FR1 K g b s i t n sn p m) (hk : SE K b) (hi : i < 9) (hd : gI g b 6 = nI (i + 1)) (h3 : s 3 = nI (i + 1)) (hp : p < n) (hl : sn p = 99 ∨ sn p = 107) : ∃ g' s', f0_passOver K g b = some g' ∧ f8_go (rw1 S s) (nI 2) = some (rw1 S s') ∧ RES K g b s i t n sn g' s' := by
  have hs := h.2.2.2.2.2.2.2.2.2.1
  have h2 := h.2.1
  have hq : SP sn n (p + 2) ∧ ks sn (p + 2) = ks sn p := by
    rcases hl with hl | hl
    · obtain ⟨-, -, -, a, b⟩ := hs.c h2.2.2.2.1 hp hl; exact ⟨a, b⟩
    · obtain ⟨-, -, -, a, b⟩ := hs.k h2.2.2.2.1 hp hl; exact ⟨a, b⟩
  have h0 : s (fb i + 3) = nI 0 := LF.zero h.2.2.2.2.2.2.2.2.2.2.1 (by omega) (by omega)
  obtain ⟨g', e, r⟩ := arrives (s' := upd s (fb i + 2) (nI (p + 2))) h hk hi hd h3 (tx_ck h2 hs hp hl).2 hp hq.1 hq.2 (fun k _ h2 _ => pk_un (by omega)) pk_us (by rw [pk_un (by omega)]; exact h0) (fun x hx => pk_un (by omega))
  exact ⟨g', _, by rw [cl_pass h hi hd hp (by omega)]; exact e, re_go hi h3 h.2.2.2.2.2.2.2.2.1, r⟩
/-- 'x' -/
theorem pass_x (h : FR1 K g b s i t n sn p m) (hk : SE K b) (hi : i < 9) (hd : gI g b 6 = nI (i + 1)) (h3 : s 3 = nI (i + 1)) (hp : p < n) (hl : sn p = 120) : ∃ g' s', f0_passOver K g b = some g' ∧ f8_passPart (rw1 S s) (nI (p + 2)) = some (rw1 S s') ∧ RES K g b s i t n sn g' s' := by
  have hs := h.2.2.2.2.2.2.2.2.2.1
  have h2 := h.2.1
  have hv := h2.2.2.2.1
  have n80 := hv.1
  obtain ⟨a1, a2, a3, a4, a5, a6, a7⟩ := hs.x hv hp hl
  obtain ⟨r, b1, b2, b3, b4, b5, b6, b7⟩ := part_cl h2 a6.1 a7
  obtain ⟨g', e, R⟩ := arrives (s' := upd (upd s (fb i + 2) (nI (r + 1))) (fb i + 3) (nI 0)) h hk hi hd h3 b6 hp b5 b4 (fun k _ h2 h3 => by rw [pk_un (by omega), pk_un (by omega)]) (by rw [pk_un (by omega), pk_us]) pk_us (fun x hx => by rw [pk_un (by omega), pk_un (by omega)])
  refine ⟨g', _, by rw [cl_pass h hi hd hp (by omega)]; exact e, ?_, R⟩
  have := re_pass (S := S) (p0 := nI (p + 2)) hi h3 hv h.2.2.2.2.2.2.2.2.2.2.2.2.1 b2 b3 (by rw [b4]) (r - (p + 3)) (p + 3) FU rfl b1 (by unfold FU; omega) b7
  rw [← this, a7]
  unfold f8_passPart
  simp only [EV, NUM, pu_lit]
  rw [show (p :: ks sn p).length - (ks sn p).length = 1 by simp]
/-- 's', 'l' -/
theorem pass_sl (h : FR1 K g b s i t n sn p m) (hk : SE K b) (hi : i < 9) (hd : gI g b 6 = nI (i + 1)) (h3 : s 3 = nI (i + 1)) (hp : p < n) (hl : sn p = 108 ∨ sn p = 115) : ∃ g' s', f0_passOver K g b = some g' ∧ f8_passPart (rw1 S s) (nI (p + 1)) = some (rw1 S s') ∧ RES K g b s i t n sn g' s' := by
  have hs := h.2.2.2.2.2.2.2.2.2.1
  have h2 := h.2.1
  have hv := h2.2.2.2.1
  have n80 := hv.1
  obtain ⟨a1, a2, a3, a6, a7⟩ := hs.sl hv hp hl
  obtain ⟨r, b1, b2, b3, b4, b5, b6, b7⟩ := part_cl h2 a6.1 a7
  obtain ⟨g', e, R⟩ := arrives (s' := upd (upd s (fb i + 2) (nI (r + 1))) (fb i + 3) (nI 0)) h hk hi hd h3 b6 hp b5 b4 (fun k _ h2 h3 => by rw [pk_un (by omega), pk_un (by omega)]) (by rw [pk_un (by omega), pk_us]) pk_us (fun x hx => by rw [pk_un (by omega), pk_un (by omega)])
  refine ⟨g', _, by rw [cl_pass h hi hd hp (by omega)]; exact e, ?_, R⟩
  have := re_pass (S := S) (p0 := nI (p + 1)) hi h3 hv h.2.2.2.2.2.2.2.2.2.2.2.2.1 b2 b3 (by rw [b4]) (r - (p + 2)) (p + 2) FU rfl b1 (by unfold FU; omega) b7
  rw [← this, a7]
  unfold f8_passPart
  simp only [EV, NUM, pu_lit]
  rw [show (p :: ks sn p).length - (ks sn p).length = 1 by simp]
/-- times left here -/
theorem re_left (h : FR1 K g b s i t n sn p m) (hi : i < 9) (h3 : s 3 = nI (i + 1)) (hp : p < n) (hl : sn p = 119 ∨ sn p = 120 ∨ sn p = 108 ∨ sn p = 115) : ∃ l, 1 ≤ l ∧ l ≤ 9 ∧ gI g (b + 5) (4 * i + m) = nI l ∧ f8_leftHere (rw1 S s) = some (nI l) ∧ (sn p = 108 ∨ sn p = 115 → l = 1) := by
  have hs := h.2.2.2.2.2.2.2.2.2.1
  have h2 := h.2.1
  have hv := h2.2.2.2.1
  rcases h.2.2.2.2.2.2.2.2.2.2.1 with ⟨a1, a2⟩ | ⟨l, a1, a2, a3, a4, a5, a6⟩
  · refine ⟨cntN sn n p, cntN_pos.1, cntN_pos.2, a2 hp hl, ?_, fun z => (tx_sl h2 hs hp z).2.2⟩
    unfold f8_leftHere
    simp (disch := omega) [EV, pu_lit, re_top hi h3, a1, pu_le, h.2.2.2.2.2.2.2.2.1, re_count hi h3 h.2.2.2.2.2.2.2.2.2.2.2.1 hv.1 h.2.2.2.2.2.2.2.2.2.2.2.2.1 hv.2.2.2]
  · refine ⟨l, a1, a2, a4, ?_, fun z => by omega⟩
    have : ¬ l ≤ 0 := by omega
    unfold f8_leftHere
    simp (disch := omega) [EV, pu_lit, re_top hi h3, a3, pu_le, this]
/-- 'w' -/
theorem pass_w (h : FR1 K g b s i t n sn p m) (hk : SE K b) (hi : i < 9) (hd : gI g b 6 = nI (i + 1)) (h3 : s 3 = nI (i + 1)) (hp : p < n) (hl : sn p = 119) : ∃ g' s', f0_passOver K g b = some g' ∧ f8_donePick (rw1 S s) = some (rw1 S s') ∧ RES K g b s i t n sn g' s' := by
  have hs := h.2.2.2.2.2.2.2.2.2.1
  have h2 := h.2.1
  have hv := h2.2.2.2.1
  have n80 := hv.1
  have hm := h.m3
  obtain ⟨l, l1, l9, c1, c2, -⟩ := re_left (S := S) h hi h3 hp (Or.inl hl)
  by_cases hl1 : l = 1
  · subst hl1
    obtain ⟨q1, q2⟩ := hs.w hv hp hl
    obtain ⟨g', e, R⟩ := arrives (s' := upd (upd s (fb i + 3) (nI 0)) (fb i + 2) (nI (wNx sn n p))) h hk hi hd h3 (tx_w h2 hp hl).2 hp q1 q2 (fun k _ h2 h3 => by rw [pk_un (by omega), pk_un (by omega)]) pk_us (by rw [pk_un (by omega), pk_us]) (fun x hx => by rw [pk_un (by omega), pk_un (by omega)])
    refine ⟨g', _, ?_, ?_, R⟩
    · unfold f0_passOver
      simp (disch := omega) [EV, NUM, pu_lit, pu_eq, pu_gok, pu_cl, pu_le, pk_sub, hd, cl_spot h hi, cl_letter h hi hd, hp, hl, c1]
      exact e
    · have h3' : upd s (fb i + 3) (nI 0) 3 = nI (i + 1) := by rw [pk_un (by show 3 ≠ 1253 + 92 * i + 3; omega)]; exact h3
      have A2 : upd s (fb i + 3) (nI 0) (fb i + 2) = nI p := by rw [pk_un (by omega)]; exact h.2.2.2.2.2.2.2.2.1
      have C := re_count (S := S) hi h3' (p := p) (n := n) (sn := sn) (by rw [pk_un (by omega)]; exact h.2.2.2.2.2.2.2.2.2.2.2.1) n80 (fun k hk => by rw [pk_un (by omega)]; exact h.2.2.2.2.2.2.2.2.2.2.2.2.1 k hk) hv.2.2.2 (by omega)
      have G1 := re_go (S := S) hi h3' (k := 1) A2
      have G2 := re_go (S := S) hi h3' (k := 2) A2
      have cp := cntN_pos (sn := sn) (n := n) (p := p)
      unfold f8_donePick f8_donePick_36
      rw [wNx_cnt]
      by_cases c1' : cntN sn n p ≤ 1
      · simp (disch := omega) [EV, NUM, pu_lit, pu_eq, pu_le, pk_sub, c2, re_set hi h3, re_top hi h3', A2, C, G1, G2, c1']
      · simp (disch := omega) [EV, NUM, pu_lit, pu_eq, pu_le, pk_sub, c2, re_set hi h3, re_top hi h3', A2, C, G1, G2, c1']
  · have f0 := h.fr0
    have h5 := h.2.2.2.2.1
    have hn1 : ¬ l ≤ 1 := by omega
    have hn0 : ¬ l - 1 = 0 := by omega
    have mv : MW g (gsI g (b + 5) (4 * i + m) (nI (l - 1))) b s (upd s (fb i + 3) (nI (l - 1))) i := (MW.gi (x := 5) (by omega) (by omega)).tr (MW.su (by omega))
    refine ⟨gsI g (b + 5) (4 * i + m) (nI (l - 1)), upd s (fb i + 3) (nI (l - 1)), ?_, ?_, ⟨p, m, ?_⟩, mv, ?_, ?_⟩
    · unfold f0_passOver
      simp (disch := omega) [EV, NUM, pu_lit, pu_eq, pu_gok, pu_cl, pu_le, pk_sub, hd, cl_spot h hi, cl_letter h hi hd, hp, hl, c1, hn1]
    · unfold f8_donePick
      simp (disch := omega) [EV, NUM, pu_lit, pu_eq, pu_le, pk_sub, c2, re_set hi h3, hn0]
    · obtain ⟨h1, -, h3', ⟨c, c6, h4, h4'⟩, -, h6, h7, h8, h9, h10, h11, h12, h13, h14⟩ := h
      refine ⟨h1, h2.mo (mv.ta hk), ?_, ⟨c, c6, ?_, ?_⟩, h5, ?_, ?_, ?_, ?_, h10, ?_, ?_, fun k hk => ?_, fun j hj => ?_⟩
      · rw [pk_un (by omega), gI_ne (by omega)]; exact h3'
      · rw [gI_ne (by omega)]; exact h4
      · rw [pk_un (by omega)]; exact h4'
      · rw [gI_ne (by omega)]; exact h6
      · rw [pk_un (by omega)]; exact h7
      · rw [gI_ne (by omega)]; exact h8
      · rw [pk_un (by omega)]; exact h9
      · exact Or.inr ⟨l - 1, by omega, by omega, pk_us, gI_eq, hp, Or.inl hl⟩
      · rw [pk_un (by omega)]; exact h12
      · rw [pk_un (by omega)]; exact h13 k hk
      · obtain ⟨l', l8, a1, a2, a3, a4, a5⟩ := h14 j hj
        exact ⟨l', l8, by rw [gI_ne (by omega)]; exact a1, by rw [pk_un (by omega)]; exact a2, by rw [gI_ne (by omega)]; exact a3, by rw [pk_un (by omega)]; exact a4, a5⟩
    · rw [gI_ne (by omega)]; exact hd
    · rw [pk_un (by show 3 ≠ 1253 + 92 * i + 3; omega)]; exact h3
end PASS
