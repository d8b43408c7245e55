/-! THE PURE PART, n: what hinders, a pick, a step -/
section WEAVE
variable {K : GK} {g g' : GM} {S : GS} {a t n p m i c d : Nat} {s s' : Nat → Int32} {sn : Nat → Nat}
/-- the next step can be done -/
def OKS (K : GK) (g : GM) (a : Nat) (s : Nat → Int32) (c d st : Nat) : Prop :=
  ∃ i t n sn p m, d = i + 1 ∧ FR1 K g (a + 9) s i t n sn p m ∧ p < n ∧ sn p ≠ 41 ∧ st < 500 ∧ (sn p = 119 → c < 400) ∧ (sn p = 107 → i + 1 < 9 ∧ ∃ t' n' sn', gR g (a + 1) (sn (p + 1) - 48) = some t' ∧ TX K g t' n' sn' ∧ s (43 + (sn (p + 1) - 48)) = nI n' ∧ ∀ x, x < n' → s (53 + 80 * (sn (p + 1) - 48) + x) = nI (sn' x))
theorem hind (hB : LRB K g a s c) (hS : STK K g (a + 9) s d atStep) {st : Nat} (hst : st ≤ 500) : ∃ v : Nat, v < 8 ∧ f4_hindranceAfter K g a (nI st) = some (nI v) ∧ f8_reason (rw1 S s) (nI st) = some (nI v) ∧ (v = 0 → OKS K g a s c d st) := by
  obtain ⟨hd, h3, d9, hlow, htop⟩ := hS
  cases d with
  | zero =>
    refine ⟨1, by decide, ?_, ?_, fun z => by omega⟩
    · unfold f4_hindranceAfter
      simp (disch := omega) [EV, pu_lit, hd]
    · unfold f8_reason
      simp (disch := omega) [EV, pu_lit, pu_gok, pu_cl, rw1_1, h3]
  | succ i =>
    obtain ⟨t, n, sn, p, m, hf, hpn, h41⟩ := htop i rfl
    have hi : i < 9 := by omega
    have hm := hf.m3
    have ht := hf.2.1
    have hv := ht.2.2.2.1
    have hsp := hf.2.2.2.2.2.2.2.2.2.1
    have hc := hv.2.2.2 p hpn
    have CL := cl_letter hf hi hd
    rw [if_pos hpn] at CL
    have RT := re_top (S := S) (k := 2) hi h3 (by omega)
    rw [hf.2.2.2.2.2.2.2.2.1] at RT
    have RS := re_sign (S := S) (k := p) hi h3 (by omega)
    rw [hf.2.2.2.2.2.2.2.2.2.2.2.2.1 p hpn] at RS
    have D := hB.1
    obtain ⟨c4, c9, cs4, -⟩ := hB.2.2.1
    have n0 : ¬ i + 1 = 0 := by omega
    have F116 : ∀ x, x < 8 → f4_hindranceAfter_116 K g a (nI st) = some (nI (if st < 500 then 0 else 7)) := fun x _ => by
      unfold f4_hindranceAfter_116
      by_cases h5 : st < 500
      · simp (disch := omega) [pu_lit, pu_lt, h5]
      · simp (disch := omega) [pu_lit, pu_lt, h5]
    have F48 : f8_reason_48 (rw1 S s) (nI st) (nI 0) = some (nI (if st < 500 then 0 else 7)) := by
      unfold f8_reason_48 f8_reason_65
      by_cases h5 : st < 500
      · simp (disch := omega) [pu_lit, pu_lt, h5]
      · simp (disch := omega) [pu_lit, pu_lt, h5]
    have F48' : ∀ v : Nat, 0 < v → v < 8 → f8_reason_48 (rw1 S s) (nI st) (nI v) = some (nI v) := fun v h0 h8 => by
      unfold f8_reason_48 f8_reason_65
      have : ¬ v = 0 := by omega
      simp (disch := omega) [pu_lit, pu_eq, this]
    have L7 : (if st < 500 then 0 else 7) < 8 := by split <;> omega
    by_cases hw : sn p = 119
    · obtain ⟨col, col6, f1, f2⟩ := hf.2.2.2.1
      have TC := cl_colour hf hi hd
      rw [f1] at TC
      have RC := re_top (S := S) (k := 1) hi h3 (by omega)
      rw [f2] at RC
      obtain ⟨⟨q1, q2⟩, ⟨q3, q4⟩, -, -⟩ := cm_ell col6
      have el := D.at q1 q2
      have sr := D.at q3 q4
      have s1 := D.at (cm_s (k := 1) (by omega)).1 (cm_s (k := 1) (by omega)).2
      unfold f4_hindranceAfter f8_reason f8_reasonOfPick f4_hindranceAfter_74
      rw [hw] at CL RS
      simp (disch := omega) only [EV, NUM, pu_lit, pu_le, pu_lt, pu_eq, pu_gok, pu_cl, rw1_1, hd, h3, CL, RT, RS, TC, RC, n0, if_false, if_true, el, sr, s1, c9, cs4]
      by_cases e0 : gI g (a + 4) col = nI 0
      · refine ⟨2, by decide, ?_, ?_, fun z => by omega⟩
        · rw [if_pos e0]
        · simp (disch := omega) only [e0, EV, if_true, F48']
      · by_cases e1 : gI g (a + 5) col < gI g (a + 3) 1
        · by_cases e2 : c < 400
          · have e2' : ¬ c = 400 := by omega
            refine ⟨_, L7, ?_, ?_, fun z => ⟨i, t, n, sn, p, m, rfl, hf, hpn, h41, ?_, fun _ => e2, fun h => by omega⟩⟩
            · rw [if_neg e0, if_pos e1, if_pos e2, if_neg (by omega)]
              exact F116 0 (by omega)
            · simp (disch := omega) only [e0, e1, e2', EV, if_true, if_false, F48]
            · apply Classical.byContradiction
              intro h5
              rw [if_neg h5] at z
              omega
          · have e2' : c = 400 := by omega
            refine ⟨4, by decide, ?_, ?_, fun z => by omega⟩
            · rw [if_neg e0, if_pos e1, if_neg e2]
            · simp (disch := omega) only [e0, e1, e2', EV, if_true, if_false, F48']
        · refine ⟨3, by decide, ?_, ?_, fun z => by omega⟩
          · rw [if_neg e0, if_neg e1]
          · simp (disch := omega) only [e0, e1, EV, if_true, if_false, F48']
    · by_cases hk : sn p = 107
      · obtain ⟨k1, k2, k3, -, -⟩ := hsp.k hv hpn hk
        have DG := cl_digit hf hi hd hpn
        rw [(tx_ck ht hsp hpn (Or.inr hk)).1] at DG
        have RS1 := re_sign (S := S) (k := p + 1) hi h3 (by omega)
        rw [hf.2.2.2.2.2.2.2.2.2.2.2.2.1 (p + 1) k1] at RS1
        obtain ⟨v, v9, s0⟩ := hB.2.1
        have s0' := D.at (cm_s (k := 0) (by omega)).1 (cm_s (k := 0) (by omega)).2
        unfold f4_hindranceAfter f8_reason f8_reasonOfCall f4_hindranceAfter_74 f8_hasText
        rw [hk] at CL RS
        rw [s0] at s0'
        rcases hB.2.2.2.2 (sn (p + 1) - 48) (by omega) with ⟨t1, t2⟩ | ⟨t', n', sn', t1, t2, t3, t4⟩
        · refine ⟨5, by decide, ?_, ?_, fun z => by omega⟩
          · simp (disch := omega) [EV, NUM, pu_lit, pu_le, pu_lt, pu_eq, pu_gok, pu_cl, hd, CL, DG, n0, t1]
          · simp (disch := omega) [EV, NUM, pu_lit, pu_le, pu_lt, pu_eq, pu_gok, pu_cl, pk_sub, rw1_1, h3, RT, RS, RS1, n0, t2, F48']
        · have np := (vt_pos t2.2.2.2.1).1
          have n80 := t2.2.2.2.1.1
          have nle : ¬ n' ≤ 0 := by omega
          by_cases hv' : i + 1 < v
          · refine ⟨_, L7, ?_, ?_, fun z => ⟨i, t, n, sn, p, m, rfl, hf, hpn, h41, ?_, fun h => by omega, fun _ => ⟨by omega, t', n', sn', t1, t2, t3, t4⟩⟩⟩
            · simp (disch := omega) only [EV, NUM, pu_lit, pu_le, pu_lt, pu_eq, pu_gok, pu_cl, hd, CL, DG, n0, t1, ← s0', hv', if_true, if_false]
              rw [if_neg (by omega)]
              exact F116 0 (by omega)
            · simp (disch := omega) only [EV, NUM, pu_lit, pu_le, pu_lt, pu_eq, pu_gok, pu_cl, pk_sub, rw1_1, h3, RT, RS, RS1, n0, t3, nle, s0, hv', if_true, if_false]
              rw [if_neg (by omega), if_neg (by omega)]
              exact F48
            · apply Classical.byContradiction
              intro h5
              rw [if_neg h5] at z
              omega
          · refine ⟨6, by decide, ?_, ?_, fun z => by omega⟩
            · simp (disch := omega) only [EV, NUM, pu_lit, pu_le, pu_lt, pu_eq, pu_gok, pu_cl, hd, CL, DG, n0, t1, ← s0', hv', if_true, if_false]
              rw [if_neg (by omega)]
            · simp (disch := omega) only [EV, NUM, pu_lit, pu_le, pu_lt, pu_eq, pu_gok, pu_cl, pk_sub, rw1_1, h3, RT, RS, RS1, n0, t3, nle, s0, hv', if_true, if_false]
              rw [if_neg (by omega), if_neg (by omega)]
              exact F48' 6 (by omega) (by omega)
      · refine ⟨_, L7, ?_, ?_, fun z => ⟨i, t, n, sn, p, m, rfl, hf, hpn, h41, ?_, fun h => by omega, fun h => by omega⟩⟩
        · unfold f4_hindranceAfter f4_hindranceAfter_74
          simp (disch := omega) only [EV, NUM, pu_lit, pu_le, pu_lt, pu_eq, pu_gok, pu_cl, hd, CL, n0, hw, hk, if_true, if_false]
          exact F116 0 (by omega)
        · unfold f8_reason
          simp (disch := omega) only [EV, NUM, pu_lit, pu_le, pu_lt, pu_eq, pu_gok, pu_cl, rw1_1, h3, RT, RS, n0, hw, hk, if_true, if_false]
          exact F48
        · apply Classical.byContradiction
          intro h5
          rw [if_neg h5] at z
          omega
theorem sum6_up (f : Nat → Int32) {k : Nat} (hk : k < 6) (v : Int32) : sum6 (upd f k (f k + v)) = sum6 f + v := by
  unfold sum6
  rcases (by omega : k = 0 ∨ k = 1 ∨ k = 2 ∨ k = 3 ∨ k = 4 ∨ k = 5) with h | h | h | h | h | h <;> subst h <;> simp [upd] <;> ac_rfl
theorem pu_byte {v : Nat} (h : v < 6) : (nI v).toInt8.toInt32 = nI v := by
  rcases (by omega : v = 0 ∨ v = 1 ∨ v = 2 ∨ v = 3 ∨ v = 4 ∨ v = 5) with h | h | h | h | h | h <;> subst h <;> rfl
/-- a pick -/
theorem wpick (hB : LRB K g a s c) (hA : SA K a) (hl : LOW K g (a + 9) s i) (hi : i < 9) (hd : gI g (a + 9) 6 = nI (i + 1)) (h3 : s 3 = nI (i + 1)) (hf : FR1 K g (a + 9) s i t n sn p m) (hc : c < 400) : ∃ g1 s1, f4_weavePick K g a = f0_passOver K g1 (a + 9) ∧ f8_weavePick (rw1 S s) = f8_donePick (rw1 S s1) ∧ LRB K g1 a s1 (c + 1) ∧ FR1 K g1 (a + 9) s1 i t n sn p m ∧ LOW K g1 (a + 9) s1 i ∧ gI g1 (a + 9) 6 = nI (i + 1) ∧ s1 3 = nI (i + 1) ∧ AG (fun q => a ≤ q ∧ q ≤ a + 8) g g1 ∧ gI g1 a 12 = gI g a 12 := by
  obtain ⟨col, col6, f1, f2⟩ := hf.2.2.2.1
  have TC := cl_colour hf hi hd
  rw [f1] at TC
  have RC := re_top (S := S) (k := 1) hi h3 (by omega)
  rw [f2] at RC
  obtain ⟨b1, ⟨v, v9, b2⟩, ⟨c4, c9, cs4, cl⟩, b4, b5⟩ := hB
  obtain ⟨⟨q1, q2⟩, ⟨q3, q4⟩, -, ⟨q7, q8⟩⟩ := cm_ell col6
  have e1 := b1.at q1 q2
  have e2 := b1.at q3 q4
  have e3 := b1.at q7 q8
  let g1 := gsI (gsI (gsI (gsI (gsI g (a + 4) col (gI g (a + 4) col - 1)) (a + 5) col (gI g (a + 5) col + 1)) (a + 7) col (gI g (a + 7) col + 1)) (a + 8) c (nI col)) (a + 0) 9 (nI (c + 1))
  let s1 := upd (upd (upd (upd (upd (upd s (19 + col) (s (19 + col) - 1)) (25 + col) (s (25 + col) + 1)) (37 + col) (s (37 + col) + 1)) 5 (s 5 + 1)) (853 + c) (nI col)) 4 (nI (c + 1))
  have ag : AG (fun q => a ≤ q ∧ q ≤ a + 8) g g1 := by
    refine AG.ai (AG.ai (AG.ai (AG.ai (AG.ai AG.rf ?_) ?_) ?_) ?_) ?_ <;> omega
  have ss : ∀ x, 1253 ≤ x → s1 x = s x := fun x hx => by
    show upd (upd (upd (upd (upd (upd s _ _) _ _) _ _) _ _) _ _) _ _ x = _
    rw [pk_un (by omega), pk_un (by omega), pk_un (by omega), pk_un (by omega), pk_un (by omega), pk_un (by omega)]
  refine ⟨g1, s1, ?_, ?_, ?_, hf.base hA ag (fun k hk => ss _ (by show 1253 ≤ 1253 + 92 * i + k; omega)), hl.base hA ag (fun x h1 _ => ss x h1), by rw [ag.i (by omega)]; exact hd, ?_, ag, ?_⟩
  · have w9 : ∀ x y z : Int32, gI (gsI (gsI (gsI g (a + 4) col x) (a + 5) col y) (a + 7) col z) a 9 = nI c := fun x y z => by rw [gI_ne (by omega), gI_ne (by omega), gI_ne (by omega)]; exact c9
    have w9' : ∀ x y z u : Int32, gI (gsI (gsI (gsI (gsI g (a + 4) col x) (a + 5) col y) (a + 7) col z) (a + 8) c u) a 9 = nI c := fun x y z u => by rw [gI_ne (by omega)]; exact w9 x y z
    have w5 : ∀ x : Int32, gI (gsI g (a + 4) col x) (a + 5) col = gI g (a + 5) col := fun x => gI_ne (by omega)
    have w7 : ∀ x y : Int32, gI (gsI (gsI g (a + 4) col x) (a + 5) col y) (a + 7) col = gI g (a + 7) col := fun x y => by rw [gI_ne (by omega), gI_ne (by omega)]
    unfold f4_weavePick
    simp (disch := omega) only [EV, NUM, pu_lit, pu_gok, pu_cl, TC, w9, w9', w5, w7, pu_byte]
    show (f0_passOver K g1 (a + 9)).bind (fun g22 => some g22) = _
    cases f0_passOver K g1 (a + 9) <;> rfl
  · have u2 : ∀ x : Int32, upd s (19 + col) x (25 + col) = s (25 + col) := fun x => pk_un (by omega)
    have u3 : ∀ x y : Int32, upd (upd s (19 + col) x) (25 + col) y (37 + col) = s (37 + col) := fun x y => by rw [pk_un (by omega), pk_un (by omega)]
    have u4 : ∀ x y z : Int32, upd (upd (upd s (19 + col) x) (25 + col) y) (37 + col) z 5 = s 5 := fun x y z => by rw [pk_un (by omega), pk_un (by omega), pk_un (by omega)]
    have u5 : ∀ x y z u : Int32, upd (upd (upd (upd s (19 + col) x) (25 + col) y) (37 + col) z) 5 u 4 = nI c := fun x y z u => by rw [pk_un (by omega), pk_un (by omega), pk_un (by omega), pk_un (by omega)]; exact cs4
    have u6 : ∀ x y z u w : Int32, upd (upd (upd (upd (upd s (19 + col) x) (25 + col) y) (37 + col) z) 5 u) (853 + c) w 4 = nI c := fun x y z u w => by rw [pk_un (by omega)]; exact u5 x y z u
    unfold f8_weavePick
    simp (disch := omega) only [EV, NUM, pu_lit, pu_gok, pu_cl, rw1_1, ss_rw, RC, u2, u3, u4, u5, u6]
    show (f8_donePick (rw1 S s1)).bind (fun g27 => some g27) = _
    cases f8_donePick (rw1 S s1) <;> rfl
  · have so : ∀ x, x ≠ 19 + col → x ≠ 25 + col → x ≠ 37 + col → x ≠ 5 → x ≠ 853 + c → x ≠ 4 → s1 x = s x := fun x z1 z2 z3 z4 z5 z6 => by
      show upd (upd (upd (upd (upd (upd s _ _) _ _) _ _) _ _) _ _) _ _ x = _
      rw [pk_un z6, pk_un z5, pk_un z4, pk_un z3, pk_un z2, pk_un z1]
    refine ⟨?_, ⟨v, v9, by rw [so 0 (by omega) (by omega) (by omega) (by omega) (by omega) (by omega)]; exact b2⟩, ⟨by omega, gI_eq, pk_us, fun k hk => ?_⟩, ?_, fun k hk => (b5 k hk).mo hk (hA.ta ag (fun q hq => by omega)) rfl (fun x h1 h2 => so x (by omega) (by omega) (by omega) (by omega) (by omega) (by omega))⟩
    · have n5 : ¬ stat 5 := by unfold stat; omega
      have n4 : ¬ stat 4 := by unfold stat; omega
      have nc : ¬ stat (853 + c) := by unfold stat; omega
      have z := ((((((b1.uq (v := s (19 + col) - 1) q1 q2).uq (v := s (25 + col) + 1) q3 q4).uq (v := s (37 + col) + 1) q7 q8).su (v := s 5 + 1) n5).su (v := nI col) nc).su (v := nI (c + 1)) n4).gi (x := 8) (k := c) (v := nI col) (by omega) |>.gi (x := 0) (k := 9) (v := nI (c + 1)) (by omega)
      show LRA (gsI (gsI (gsI (gsI (gsI g (a + 4) col (gI g (a + 4) col - 1)) (a + 5) col (gI g (a + 5) col + 1)) (a + 7) col (gI g (a + 7) col + 1)) (a + 8) c (nI col)) (a + 0) 9 (nI (c + 1))) a s1
      rw [← e1, ← e2, ← e3]
      exact z
    · by_cases hkc : k = c
      · subst hkc
        refine ⟨col, col6, ?_, ?_⟩
        · show gI (gsI (gsI (gsI (gsI (gsI g _ _ _) _ _ _) _ _ _) _ _ _) _ _ _) (a + 8) k = _
          rw [gI_ne (by omega), gI_eq]
        · show upd (upd (upd (upd (upd (upd s _ _) _ _) _ _) _ _) _ _) _ _ _ = _
          rw [pk_un (by omega), pk_us]
      · obtain ⟨w, w6, y1, y2⟩ := cl k (by omega)
        refine ⟨w, w6, ?_, by rw [so _ (by omega) (by omega) (by omega) (by omega) (by omega) (by omega)]; exact y2⟩
        show gI (gsI (gsI (gsI (gsI (gsI g _ _ _) _ _ _) _ _ _) _ _ _) _ _ _) (a + 8) k = _
        rw [gI_ne (by omega), gI_ne (by omega), gI_ne (by omega), gI_ne (by omega), gI_ne (by omega)]
        exact y1
    · have z1 : s1 5 = s 5 + 1 := by
        show upd (upd (upd (upd (upd (upd s _ _) _ _) _ _) _ _) _ _) _ _ 5 = _
        rw [pk_un (by omega), pk_un (by omega), pk_us]
      have z2 : gI g1 (a + 7) = upd (gI g (a + 7)) col (gI g (a + 7) col + 1) := by
        funext x
        show gI (gsI (gsI (gsI (gsI (gsI g _ _ _) _ _ _) _ _ _) _ _ _) _ _ _) (a + 7) x = _
        rw [gI_ne (by omega), gI_ne (by omega)]
        by_cases hx : x = col
        · subst hx; rw [gI_eq, pk_us]
        · rw [gI_ne (by omega), gI_ne (by omega), gI_ne (by omega), pk_un hx]
      rw [z1, z2, sum6_up _ col6, b4]
  · show upd (upd (upd (upd (upd (upd s _ _) _ _) _ _) _ _) _ _) _ _ 3 = _
    rw [pk_un (by omega), pk_un (by omega), pk_un (by omega), pk_un (by omega), pk_un (by omega), pk_un (by omega)]
    exact h3
  · show gI (gsI (gsI (gsI (gsI (gsI g _ _ _) _ _ _) _ _ _) _ _ _) _ _ _) (a + 0) 12 = _
    rw [gI_ne (by omega), gI_ne (by omega), gI_ne (by omega), gI_ne (by omega), gI_ne (by omega)]
    rfl
end WEAVE
