/-! THE PURE PART, o: a step is done, both sides -/
section DOSTEP
variable {K : GK} {g g' : GM} {S : GS} {a t n p m i c d : Nat} {s s' : Nat → Int32} {sn : Nat → Nat}
theorem STK.low (h : STK K g (a + 9) s (i + 1) atStep) : LOW K g (a + 9) s i := fun j hj => h.2.2.2.1 j (by omega)
/-- dyeing -/
theorem dye1 {b v : Nat} (h : FR1 K g b s i t n sn p m) (hk : SE K b) (hi : i < 9) (hv : v < 6) (hd : gI g b 6 = nI (i + 1)) : f0_dye K g b (nI v) = some (gsI g (b + 2) i (nI v)) ∧ FR1 K (gsI g (b + 2) i (nI v)) b (upd s (fb i + 1) (nI v)) i t n sn p m ∧ MW g (gsI g (b + 2) i (nI v)) b s (upd s (fb i + 1) (nI v)) i := by
  have hm := h.m3
  have mv : MW g (gsI g (b + 2) i (nI v)) b s (upd s (fb i + 1) (nI v)) i := (MW.gi (x := 2) (by omega) (by omega)).tr (MW.su (by omega))
  refine ⟨?_, ?_, mv⟩
  · unfold f0_dye
    simp (disch := omega) only [EV, NUM, pu_lit, pu_le, pu_gok, pu_cl, pk_sub, hd, Nat.add_sub_cancel]
    rw [if_neg (by omega)]
  · obtain ⟨h1, h2, h3', ⟨c, c6, h4, h4'⟩, h5, h6, h7, h8, h9, h10, h11, h12, h13, h14⟩ := h
    refine ⟨h1, h2.mo (mv.ta hk), ?_, ⟨v, hv, gI_eq, pk_us⟩, h5, ?_, ?_, ?_, ?_, h10, ?_, ?_, fun k hk => ?_, fun j hj => ?_⟩
    · rw [pk_un (by omega), gI_ne (by omega)]; exact h3'
    · rw [gI_ne (by omega)]; exact h6
    · rw [pk_un (by omega)]; exact h7
    · rw [gI_ne (by omega)]; exact h8
    · rw [pk_un (by omega)]; exact h9
    · rw [pk_un (by omega), gI_ne (by omega)]; exact h11
    · rw [pk_un (by omega)]; exact h12
    · rw [pk_un (by omega)]; exact h13 k hk
    · obtain ⟨l', l8, a1, a2, a3, a4, a5⟩ := h14 j hj
      exact ⟨l', l8, by rw [gI_ne (by omega)]; exact a1, by rw [pk_un (by omega)]; exact a2, by rw [gI_ne (by omega)]; exact a3, by rw [pk_un (by omega)]; exact a4, a5⟩
theorem AGs {x : GM} (h : MB g x (a + 9) s s') : AG (fun q => a ≤ q ∧ q ≤ a + 15) g x := AG.mo h.1 (fun q hq => by omega)
/-- how a step ends -/
def STEPS (K : GK) (S : GS) (g : GM) (a : Nat) (s : Nat → Int32) (c : Nat) (g1 g2 : GM) (s2 : Nat → Int32) (d2 L : Nat) : Prop :=
  f0_stepLetter K g (a + 9) = some (nI L) ∧ L < 128 ∧ (L = 119 → f4_weavePick K g a = some g1) ∧ (L ≠ 119 → f4_doStep K g a (nI L) = some g1) ∧ f0_leaveEnds K g1 (a + 9) = some g2 ∧
  f8_doStep (rw1 S s) = some (rw1 S s2, nI (if L = 119 then 1 else 0)) ∧ LRB K g2 a s2 (if L = 119 then c + 1 else c) ∧ STK K g2 (a + 9) s2 d2 atStep ∧ AG (fun q => a ≤ q ∧ q ≤ a + 15) g g2 ∧ gI g2 a 12 = gI g a 12 ∧ (RT K g (a + 15) → RT K g2 (a + 15))
theorem dostep (hB : LRB K g a s c) (hA : SA K a) (hS : STK K g (a + 9) s d atStep) {st : Nat} (hO : OKS K g a s c d st) : ∃ g1 g2 s2 d2 L, STEPS K S g a s c g1 g2 s2 d2 L := by
  obtain ⟨i, t, n, sn, p, m, rfl, hf, hpn, h41, hst, hO1, hO2⟩ := hO
  have hl : LOW K g (a + 9) s i := hS.low
  obtain ⟨hd, h3, d9, -, -⟩ := hS
  have hi : i < 9 := by omega
  have hm := hf.m3
  have ht := hf.2.1
  have hv := ht.2.2.2.1
  have hsp := hf.2.2.2.2.2.2.2.2.2.1
  have hc := hv.2.2.2 p hpn
  have hse := hA.se
  have CL := cl_letter hf hi hd
  rw [if_pos hpn] at CL
  have f2 := hf.2.2.2.2.2.2.2.2.1
  have RT := re_top (S := S) (k := 2) hi h3 (by omega)
  rw [f2] at RT
  have RS := re_sign (S := S) (k := p) hi h3 (by omega)
  rw [hf.2.2.2.2.2.2.2.2.2.2.2.2.1 p hpn] at RS
  obtain ⟨col, col6, fc1, fc2⟩ := hf.2.2.2.1
  have TC := cl_colour hf hi hd
  rw [fc1] at TC
  have RC := re_top (S := S) (k := 1) hi h3 (by omega)
  rw [fc2] at RC
  have FIN : ∀ (g1 : GM) (s1 : Nat → Int32), RES K g (a + 9) s i t n sn g1 s1 → (sn p ≠ 119) → f4_doStep K g a (nI (sn p)) = some g1 → f8_doStep (rw1 S s) = f8_doStep_120 (rw1 S s1) (nI (sn p)) → ∃ g1 g2 s2 d2 L, STEPS K S g a s c g1 g2 s2 d2 L := by
    intro g1 s1 hR hw e1 e2
    obtain ⟨g2, s2, d2, q1, q2, q3, q4⟩ := after (S := S) hR hl hse hi
    refine ⟨g1, g2, s2, d2, sn p, CL, hc, fun z => absurd z hw, fun _ => e1, q1, ?_, ?_, q3, AGs q4, q4.1.i (by omega) 12, fun z => z.mo q4.2.2⟩
    · rw [e2, if_neg hw]
      unfold f8_doStep_120
      rw [q2]
      simp (disch := omega) [EV, pu_lit, pu_eq, hw]
    · rw [if_neg hw]
      exact hB.mb hA q4
  rcases hsp.kinds hv hpn with ⟨z, -⟩ | hx | hx | hx | hx | hx | hx
  · exact absurd z h41
  -- 'c'
  · obtain ⟨c1, c2, c3, -, -⟩ := hsp.c hv hpn hx
    have DG := cl_digit hf hi hd hpn
    rw [(tx_ck ht hsp hpn (Or.inl hx)).1] at DG
    have RS1 := re_sign (S := S) (k := p + 1) hi h3 (by omega)
    rw [hf.2.2.2.2.2.2.2.2.2.2.2.2.1 (p + 1) c1] at RS1
    obtain ⟨y1, y2, y3⟩ := dye1 (v := sn (p + 1) - 48) hf hse hi (by omega) hd
    have h3' : upd s (fb i + 1) (nI (sn (p + 1) - 48)) 3 = nI (i + 1) := by rw [pk_un (by show 3 ≠ 1253 + 92 * i + 1; omega)]; exact h3
    obtain ⟨g1, s1, e1, e2, hR⟩ := pass_ck (S := S) y2 hse hi (by rw [gI_ne (by omega)]; exact hd) h3' hpn (Or.inl hx)
    refine FIN g1 s1 (RES.tr y3 hR) (by omega) ?_ ?_
    · unfold f4_doStep
      rw [hx]
      simp (disch := omega) only [EV, pu_lit, pu_eq, DG, y1, e1, if_true]
    · unfold f8_doStep
      rw [hx] at RS ⊢
      simp (disch := omega) only [EV, NUM, pu_lit, pu_eq, pk_sub, RT, RS, RS1, re_set hi h3, e2, if_true]
  -- 'k'
  · obtain ⟨k1, k2, k3, -, -⟩ := hsp.k hv hpn hx
    obtain ⟨hi9, t', n', sn', x1, x2, x3, x4⟩ := hO2 hx
    have DG := cl_digit hf hi hd hpn
    rw [(tx_ck ht hsp hpn (Or.inr hx)).1] at DG
    have RS1 := re_sign (S := S) (k := p + 1) hi h3 (by omega)
    rw [hf.2.2.2.2.2.2.2.2.2.2.2.2.1 (p + 1) k1] at RS1
    let ga := gsI g (a + 0) 11 (gI g (a + 0) 11 + 1)
    let sa := upd s 7 (s 7 + 1)
    have ag : AG (fun q => a ≤ q ∧ q ≤ a + 8) g ga := AG.rf.ai (by omega)
    have sx : ∀ x, x ≠ 7 → sa x = s x := fun x hx => pk_un hx
    have hBa : LRB K ga a sa c := by
      obtain ⟨b1, ⟨v, v9, b2⟩, ⟨c4, c9, cs4, cl⟩, b4, b5⟩ := hB
      have e7 := b1.at cm_7.1 cm_7.2
      refine ⟨?_, ⟨v, v9, by rw [sx _ (by omega)]; exact b2⟩, ⟨c4, ?_, by rw [sx _ (by omega)]; exact cs4, fun k hk => ?_⟩, ?_, fun k hk => (b5 k hk).mo hk (hA.ta ag (fun q hq => by omega)) rfl (fun x h1 h2 => sx x (by omega))⟩
      · have := b1.uq (v := s 7 + 1) cm_7.1 cm_7.2
        show LRA (gsI g (a + 0) 11 (gI g (a + 0) 11 + 1)) a sa
        rw [← e7]
        exact this
      · show gI (gsI g _ _ _) a 9 = _
        rw [gI_ne (by omega)]; exact c9
      · obtain ⟨w, w6, z1, z2⟩ := cl k hk
        exact ⟨w, w6, by show gI (gsI g _ _ _) _ _ = _; rw [gI_ne (by omega)]; exact z1, by rw [sx _ (by omega)]; exact z2⟩
      · rw [sx _ (by omega), b4]
        congr 1
        funext x
        show _ = gI (gsI g _ _ _) _ _
        rw [gI_ne (by omega)]
    have hfa : FR1 K ga (a + 9) sa i t n sn p m := hf.base hA ag (fun k hk => sx _ (by show 1253 + 92 * i + k ≠ 7; omega))
    have hla : LOW K ga (a + 9) sa (i + 1) := fun j hj => by
      by_cases hji : j = i
      · subst hji
        exact ⟨t, n, sn, p, m, hfa, hpn, hx⟩
      · exact hl.base hA ag (fun x h1 _ => sx x (by omega)) j (by omega)
    have hda : gI ga (a + 9) 6 = nI (i + 1) := by rw [ag.i (by omega)]; exact hd
    have h3a : sa 3 = nI (i + 1) := by rw [sx _ (by omega)]; exact h3
    obtain ⟨g1, s1, l1, l2, l3, l4, l5, l6, l7, l8, l9, -⟩ := lays (S := S) hBa hA hda h3a hi9 hla (show sn (p + 1) - 48 < 10 by omega) col6 (show gR ga (a + 1) (sn (p + 1) - 48) = some t' from x1) (x2.mo (hA.ta ag (fun q hq => by omega))) (by rw [sx _ (by omega)]; exact x3) (fun x hx => by rw [sx _ (by omega)]; exact x4 x hx)
    obtain ⟨g2, s2, d2, q1, q2, q3, q4⟩ := after (S := S) (K := K) (g := g1) (g' := g1) (b := a + 9) (s := s1) (s' := s1) (i := i + 1) ⟨⟨0, 0, l6⟩, MW.rf, l4.1, l4.2.1⟩ l5 hse hi9
    have CLa := cl_digit hfa hi hda hpn
    have TXa := hfa.2.1
    rw [(tx_ck TXa hsp hpn (Or.inr hx)).1] at CLa
    have TCa := cl_colour hfa hi hda
    have fc1a : gI ga (a + 9 + 2) i = nI col := by rw [ag.i (by omega)]; exact fc1
    rw [fc1a] at TCa
    have RTa := re_top (S := S) (s := sa) (k := 2) hi h3a (by omega)
    rw [sx _ (by show 1253 + 92 * i + 2 ≠ 7; omega), f2] at RTa
    have RCa := re_top (S := S) (s := sa) (k := 1) hi h3a (by omega)
    rw [sx _ (by show 1253 + 92 * i + 1 ≠ 7; omega), fc2] at RCa
    have RSa := re_sign (S := S) (s := sa) (k := p + 1) hi h3a (by omega)
    rw [hfa.2.2.2.2.2.2.2.2.2.2.2.2.1 (p + 1) k1] at RSa
    refine ⟨g1, g2, s2, d2, sn p, CL, hc, fun z => by omega, fun _ => ?_, q1, ?_, ?_, q3, (AG.mo ag (fun q hq => by omega)).tr (l7.tr (AGs q4)), ?_, fun z => (l9 z).mo q4.2.2⟩
    · unfold f4_doStep
      rw [hx]
      simp (disch := omega) only [EV, pu_lit, pu_eq, if_true]
      rw [if_neg (by omega)]
      show (f0_stepDigit K ga (a + 9)).bind (fun v19 => (f0_topColour K ga (a + 9)).bind fun v21 => (f4_layOnStack K ga a v19 v21).bind fun g23 => some g23) = _
      rw [CLa]
      simp only [EV]
      rw [TCa]
      simp only [EV]
      rw [l1]
      rfl
    · rw [if_neg (by omega)]
      unfold f8_doStep f8_doStep_120
      rw [hx] at RS
      simp (disch := omega) only [EV, NUM, pu_lit, pu_eq, pu_gok, pu_cl, rw1_1, ss_rw, pk_sub, RT, RS, if_true]
      rw [if_neg (by omega)]
      rw [show upd s 7 (s 7 + nI 1) = sa from rfl]
      simp (disch := omega) only [EV, NUM, pu_lit, pu_eq, pk_sub, RTa, RSa, RCa, l2, q2]
      rw [if_neg (by omega)]
    · rw [if_neg (by omega)]
      exact l3.mb hA q4
    · rw [q4.1.i (by omega) 12, l8]
      show gI (gsI g _ _ _) a 12 = _
      rw [gI_ne (by omega)]
  -- 'l', 's'
  all_goals first
    | (have hsl : sn p = 108 ∨ sn p = 115 := by omega
       obtain ⟨b1, ⟨v, v9, b2⟩, ⟨c4, c9, cs4, cl⟩, b4, b5⟩ := hB
       obtain ⟨⟨q1, q2⟩, -, -, -⟩ := cm_ell col6
       have el := b1.at q1 q2
       have s2' := b1.at (cm_s (k := 2) (by omega)).1 (cm_s (k := 2) (by omega)).2
       have SH : ∃ v : Nat, v < 2 ∧ f4_isShort K g a (nI col) = some (nI v) ∧ f8_isShort (rw1 S s) = some (nI v) := by
         unfold f4_isShort f8_isShort
         simp (disch := omega) only [EV, NUM, pu_lit, pu_gok, pu_cl, rw1_1, RC, el, s2']
         by_cases hz : gI g (a + 3) 2 ≤ gI g (a + 4) col
         · exact ⟨0, by omega, by rw [if_pos hz], by rw [if_pos hz]⟩
         · exact ⟨1, by omega, by rw [if_neg hz], by rw [if_neg hz]⟩
       obtain ⟨sv, sv2, sh1, sh2⟩ := SH
       have F1 : f4_doStep K g a (nI (sn p)) = f4_doStep_123 K a (nI (sn p)) g (nI sv) (nI (if sn p = 115 then 1 else 0)) := by
         unfold f4_doStep
         rcases hsl with e | e <;> rw [e] <;> simp (disch := omega) [EV, pu_lit, pu_eq, TC, sh1]
       have F2 : f8_doStep (rw1 S s) = (f8_doPart_47 (nI (sn p)) (rw1 S s) (nI sv) (nI (if sn p = 115 then 1 else 0))).bind (fun g33 => f8_doStep_120 g33 (nI (sn p))) := by
         unfold f8_doStep f8_doPart
         rcases hsl with e | e <;> rw [e] at RS ⊢ <;> simp (disch := omega) [EV, pu_lit, pu_eq, RT, RS, sh2]
       by_cases hz : sv = (if sn p = 115 then 1 else 0)
       · obtain ⟨g1, s1, l, u, e1, l1, l9, un, e2, e3, e4, e5, e6, e7, e8, e9, e10⟩ := begins (S := S) hf hse hi hd h3 hpn (by omega)
         obtain ⟨l1', z0⟩ := e3 (by omega)
         subst l1'
         have hu := e9 (by omega)
         refine FIN g1 (upd s1 (fb i + 2) (nI (p + 2))) (e10 _ (fun k _ z2 z3 => pk_un (by omega)) (by rw [pk_us, hu]) (by rw [pk_un (by omega), e7]; exact z0) (fun x hx => pk_un (by omega))) (by omega) ?_ ?_
         · rw [F1, ← hz]
           unfold f4_doStep_123
           rw [if_pos rfl, e1]
           rfl
         · rw [F2, ← hz]
           unfold f8_doPart_47
           rw [if_pos rfl]
           simp (disch := omega) only [EV, pu_lit]
           rw [show nI 0 = nI (1 - 1) from rfl, e4]
           simp (disch := omega) only [EV, re_go hi e5 e6]
       · obtain ⟨g1, s1, e1, e2, hR⟩ := pass_sl (S := S) hf hse hi hd h3 hpn hsl
         have hz' : ¬ nI sv = nI (if sn p = 115 then 1 else 0) := fun q => hz ((nI_eq (by omega) (by split <;> omega)).mp q)
         refine FIN g1 s1 hR (by omega) ?_ ?_
         · rw [F1]
           unfold f4_doStep_123
           rw [if_neg hz', e1]
           rfl
         · rw [F2]
           unfold f8_doPart_47
           rw [if_neg hz']
           simp (disch := omega) only [EV, NUM, pu_lit, RT, e2])
    | skip
  -- 'w'
  · obtain ⟨g0, s0, w1, w2, w3, w4, w5, w6, w7, w8, w9⟩ := wpick (S := S) hB hA hl hi hd h3 hf (hO1 hx)
    obtain ⟨g1, s1, e1, e2, hR⟩ := pass_w (S := S) w4 hse hi w6 w7 hpn hx
    obtain ⟨g2, s2, d2, q1, q2, q3, q4⟩ := after (S := S) hR w5 hse hi
    refine ⟨g1, g2, s2, d2, sn p, CL, hc, fun z => by rw [w1]; exact e1, fun z => absurd hx z, q1, ?_, ?_, q3, (AG.mo w8 (fun q hq => by omega)).tr (AGs q4), by rw [q4.1.i (by omega) 12, w9], fun z => (z.mo (fun j => w8.r (by omega) j)).mo q4.2.2⟩
    · rw [if_pos hx]
      unfold f8_doStep f8_doStep_120
      rw [hx] at RS
      simp (disch := omega) only [EV, NUM, pu_lit, pu_eq, RT, RS, w2, e2, q2, if_true]
      rw [if_neg (by omega), if_neg (by omega)]
    · rw [if_pos hx]
      exact w3.mb hA q4
  -- 'x'
  · obtain ⟨g1, s1, l, u, e1, l1, l9, un, e2, e3, e4, e5, e6, e7, e8, e9, e10⟩ := begins (S := S) hf hse hi hd h3 hpn (by omega)
    have hu := e8 hx
    have h3' : upd s1 (fb i + 3) (nI 0) 3 = nI (i + 1) := by rw [pk_un (by show 3 ≠ 1253 + 92 * i + 3; omega)]; exact e5
    have a2 : upd s1 (fb i + 3) (nI 0) (fb i + 2) = nI p := by rw [pk_un (by omega)]; exact e6
    refine FIN g1 (upd (upd s1 (fb i + 3) (nI 0)) (fb i + 2) (nI (p + 3))) (e10 _ (fun k _ z2 z3 => by rw [pk_un (by omega), pk_un (by omega)]) (by rw [pk_us, hu]) (by rw [pk_un (by omega), pk_us]) (fun x hx => by rw [pk_un (by omega), pk_un (by omega)])) (by omega) ?_ ?_
    · unfold f4_doStep
      rw [hx]
      simp (disch := omega) only [EV, pu_lit, pu_eq, if_true]
      rw [if_neg (by omega), if_neg (by omega), e1]
      rfl
    · unfold f8_doStep f8_doPart
      rw [hx] at RS ⊢
      simp (disch := omega) only [EV, NUM, pu_lit, pu_eq, pk_sub, RT, RS, e2, e4, re_set hi e5, re_go hi h3' a2, if_true]
      rw [if_neg (by omega), if_neg (by omega), if_neg (by omega)]
end DOSTEP
