/-! THE PURE PART, zb: the class weighs a part -/
theorem minT (x k b : Nat) : min (x + k * min b 1000000) 1000000 = min (x + k * b) 1000000 := by
  by_cases h : b ≤ 1000000
  · rw [show min b 1000000 = b by omega]
  · have hb : 1000000 ≤ b := by omega
    rw [show min b 1000000 = 1000000 by omega]
    cases k with
    | zero => omega
    | succ k =>
      have h1 : 1000000 ≤ (k + 1) * 1000000 := Nat.le_mul_of_pos_left _ (Nat.succ_pos k)
      have h2 : 1000000 ≤ (k + 1) * b := Nat.le_trans hb (Nat.le_mul_of_pos_left _ (Nat.succ_pos k))
      omega
theorem minA {acc A X Y E : Nat} (e : min (acc + min A 1000000 + X) 1000000 = min (acc + min A 1000000 + Y) 1000000) : min (min (acc + min A 1000000 + X) 1000000 + E) 1000000 = min (acc + ((A + Y) + E)) 1000000 := by omega
section WEIGH
variable {K : GK} {g : GM} {sn : Nat → Nat} {n p t q : Nat}
/-- a pick, told or not -/
def pwn (w : Int32) (c : Nat) : Nat := if w = -nI 6 then 1 else if w = nI c then 1 else 0
theorem w267 {k20 : Int32 → Int32 → Int32 → Int32 → Option Int32} {rc : Option Nat → Int32 → Int32 → Int32 → Nat → Int32 → Option Int32} {p1 p2 p3 : Int32} {p5 : Int32} {x7 : Int32} {x i b : Nat} (h2 : TX K g t n sn) (hp : p < n) (hb : gI g (t + 5) p = nI b) (hx : x < 2 ^ 30) : f2_weigh_267 k20 rc K g p1 p2 p3 q p5 t (nI x) x7 (nI p) (nI i) = k20 (nI (min x 1000000)) x7 (nI b) (nI (i + 1)) := by
  have BH := tx_behind h2 hp
  rw [hb] at BH
  have k2 := h2.1
  unfold f2_weigh_267
  by_cases hz : 1000000 < x
  · simp (disch := omega) only [EV, NUM, pu_lit, pu_lt, hz, if_true, k2, decide_true, BH]
    rw [show min x 1000000 = 1000000 by omega]
  · simp (disch := omega) only [EV, NUM, pu_lit, pu_lt, hz, if_false, k2, decide_true, BH]
    rw [show min x 1000000 = x by omega]
theorem cw (h2 : TX K g t n sn) (hq : K.1 q = (10, 60)) {U : Nat → Nat → Nat} (hU : ∀ x c, x + 1 < n → sn x = 107 → c < 6 → gI g q ((sn (x + 1) - 48) * 6 + c) = nI (U (sn (x + 1) - 48) c) ∧ U (sn (x + 1) - 48) c ≤ 1000000) {w : Int32} : ∀ f p c acc i (q1 q2 : Int32) fu, SP sn n p → n - p < f → c < 6 → acc ≤ 1000000 → i + (n - p) ≤ 80 → n - p < fu → f2_weigh_20 (fun p0 p1 p2 p3 p4 p5 => f2_weigh (4 - (ks sn p).length) K g p0 p1 p2 p3 p4 p5) K g q1 q2 w q (nI (ks sn p).length) t fu (nI acc) (nI c) (nI p) (nI i) = some (nI (min (acc + evt sn n (pwn w) U f p c) 1000000)) := by
  have hv := h2.2.2.2.1
  have k2 := h2.1
  have n80 := hv.1
  intro f
  induction f with
  | zero => intro p c acc i q1 q2 fu _ h; omega
  | succ f ih =>
    intro p c acc i q1 q2 fu hs hf hc hacc hi hfu
    obtain ⟨fu, rfl⟩ : ∃ k, fu = k + 1 := ⟨fu - 1, by omega⟩
    have hpn := hs.1
    have lv3 := (au (hv.ne hpn)).2.2.1
    have SG := tx_sign h2 (p := p) hpn
    rw [f2_weigh_20, evt]
    by_cases h0 : n ≤ p ∨ sn p = 41
    · rw [if_pos h0, show min (acc + 0) 1000000 = acc by omega]
      by_cases i80 : 80 ≤ i
      · rw [if_pos (show (80 : Int32) ≤ nI i from (nI_leI (a := 80) (by omega) (by omega)).mpr i80)]
      · by_cases hp : p < n
        · have h41 : sn p = 41 := by omega
          rw [if_pos hp, h41] at SG
          simp (maxSteps := 10000000) (disch := omega) only [EV, pu_lit, pu_le, pu_eq, i80, if_false, k2, decide_true, SG, if_true]
          rw [if_neg (by decide)]
        · rw [if_neg hp] at SG
          simp (maxSteps := 10000000) (disch := omega) only [EV, pu_lit, pu_le, pu_eq, i80, if_false, k2, decide_true, SG, if_true]
    rw [if_neg h0]
    have hp : p < n := by omega
    have h41 : sn p ≠ 41 := by omega
    have hsn := hv.2.2.2 p hp
    rw [if_pos hp] at SG
    have i80 : ¬ 80 ≤ i := by omega
    have ne0 : sn p ≠ 0 := by
      rcases hs.kinds hv hp with ⟨z, -⟩ | z | z | z | z | z | z <;> omega
    have INS0 := tx_inside h2 hp
    simp (maxSteps := 10000000) (disch := omega) only [EV, pu_lit, pu_le, pu_eq, i80, if_false, k2, decide_true, SG, ne0, h41, INS0]
    by_cases h1 : sn p = 99
    · obtain ⟨a1, a2, a3, a4, a5⟩ := hs.c hv hp h1
      obtain ⟨d1, d2⟩ := tx_ck h2 hs hp (Or.inl h1)
      have DG := tx_digit h2 hp
      rw [d1] at DG
      have IH := ih (p + 2) (sn (p + 1) - 48) acc (i + 1) q1 q2 fu a4 (by omega) (by omega) hacc (by omega) (by omega)
      rw [a5] at IH
      rw [if_pos h1, if_pos h1, DG]
      simp only [EV]
      rw [w267 h2 hp d2 (by omega), show min acc 1000000 = acc by omega]
      exact IH
    rw [if_neg h1, if_neg h1]
    by_cases h2' : sn p = 107
    · obtain ⟨a1, a2, a3, a4, a5⟩ := hs.k hv hp h2'
      obtain ⟨d1, d2⟩ := tx_ck h2 hs hp (Or.inr h2')
      have DG := tx_digit h2 hp
      rw [d1] at DG
      obtain ⟨u1, u2⟩ := hU p c a1 h2' hc
      have e60 : gkn K q = 60 := by unfold gkn; rw [hq]
      have IH := ih (p + 2) c (min (acc + U (sn (p + 1) - 48) c) 1000000) (i + 1) q1 q2 fu a4 (by omega) hc (by omega) (by omega) (by omega)
      rw [a5] at IH
      rw [if_pos h2', if_pos h2', DG]
      simp (disch := omega) only [EV, NUM, hq, e60, decide_true, pu_gok, pu_cl, u1]
      rw [w267 h2 hp d2 (by omega), IH]
      congr 2
      omega
    rw [if_neg h2', if_neg h2']
    by_cases h3 : sn p = 119
    · obtain ⟨a1, a2⟩ := hs.w hv hp h3
      have gt := wNx_gt (sn := sn) (n := n) (p := p)
      obtain ⟨d1, d2⟩ := tx_w h2 hp h3
      have cp := cntN_pos (sn := sn) (n := n) (p := p)
      have TM := tx_times h2 (p := p) hpn
      rw [if_pos hp, d1] at TM
      have IH := ih (wNx sn n p) c (min (acc + cntN sn n p * pwn w c) 1000000) (i + 1) q1 q2 fu a1 (by omega) hc (by omega) (by omega) (by omega)
      rw [a2] at IH
      rw [if_neg (show ¬ sn p = 108 by omega), if_pos h3, if_pos h3]
      have FIN : ∀ x, x < 2 ^ 30 → x = acc + cntN sn n p * pwn w c → f2_weigh_267 (f2_weigh_20 (fun p0 p1 p2 p3 p4 p5 => f2_weigh (4 - (ks sn p).length) K g p0 p1 p2 p3 p4 p5) K g q1 q2 w q (nI (ks sn p).length) t fu) (fun p0 p1 p2 p3 p4 p5 => f2_weigh (4 - (ks sn p).length) K g p0 p1 p2 p3 p4 p5) K g q1 q2 w q (nI (ks sn p).length) t (nI x) (nI c) (nI p) (nI i) = some (nI (min (acc + (cntN sn n p * pwn w c + evt sn n (pwn w) U f (wNx sn n p) c)) 1000000)) := fun x hx he => by
        rw [w267 h2 hp d2 hx, he, IH]
        congr 2
        omega
      unfold f2_weigh_124
      simp only [EV, k2, decide_true, TM, NUM]
      by_cases w6 : w = -nI 6
      · rw [if_pos w6]
        exact FIN _ (by omega) (by unfold pwn; rw [if_pos w6]; omega)
      · rw [if_neg w6]
        by_cases wc : w = nI c
        · rw [if_pos wc]
          exact FIN _ (by omega) (by unfold pwn; rw [if_neg w6, if_pos wc]; omega)
        · rw [if_neg wc]
          exact FIN _ (by omega) (by unfold pwn; rw [if_neg w6, if_neg wc]; omega)
    rw [if_neg h3]
    have hl : sn p = 120 ∨ sn p = 108 ∨ sn p = 115 := by
      rcases hs.kinds hv hp with ⟨z, -⟩ | z | z | z | z | z | z <;> omega
    obtain ⟨b1, b2, b3, b4, b5, b6, b7⟩ := bh_ok hv hs hp hl (f := f) (by omega)
    obtain ⟨a1, a2, a3, a4⟩ := hs.ins hv hp hl
    have BE := tx_cl h2 b2 b3 b4
    by_cases h4 : sn p = 115
    · have IH := ih (sge sn n f (insd sn p) + 1) c acc (i + 1) q1 q2 fu b5 (by omega) hc hacc (by omega) (by omega)
      rw [b6] at IH
      rw [if_neg (show ¬ sn p = 108 by omega), if_neg h3, if_neg (show ¬ sn p = 120 by omega), if_pos h4, w267 h2 hp BE (by omega), show min acc 1000000 = acc by omega]
      exact IH
    rw [if_neg h4]
    have INS : gI g (t + 4) p = nI (insd sn p) := by
      unfold insd
      rcases hl with z | z | z
      · rw [if_pos z, (tx_x h2 hs hp z).2]
      · rw [if_neg (by omega), (tx_sl h2 hs hp (Or.inl z)).2.1]
      · omega
    have c2 := ecl_lt hv f _ c a2 (by omega) hc
    have lk : (ks sn (insd sn p)).length = (ks sn p).length + 1 := by rw [a3]; rfl
    have RC : ∀ c', c' < 6 → f2_weigh (4 - (ks sn p).length) K g (some t) (nI (insd sn p)) (nI c') w q (nI (ks sn p).length + nI 1) = some (nI (min (evt sn n (pwn w) U f (insd sn p) c') 1000000)) := fun c' hc' => by
      have IH := ih (insd sn p) c' 0 0 (nI (insd sn p)) (nI c') FU a2 (by omega) hc' (by omega) (by omega) (by unfold FU; omega)
      rw [lk, Nat.zero_add] at IH
      rw [show 4 - (ks sn p).length = (4 - ((ks sn p).length + 1)) + 1 by omega, f2_weigh]
      unfold f2_weigh_s
      simp (disch := omega) only [EV, NUM, pu_lit, pu_le]
      rw [if_pos (by omega)]
      exact IH
    have CB := cb_eq h2 (p := insd sn p) (f := f) (c := c) a2 (by omega) hc
    have r1 := RC c hc
    have r2 := RC _ c2
    rw [INS]
    have IH := fun x (hx : x ≤ 1000000) => ih (sge sn n f (insd sn p) + 1) (ecl sn n f (insd sn p) c) x (i + 1) q1 q2 fu b5 (by omega) c2 hx (by omega) (by omega)
    rw [b6] at IH
    by_cases hx : sn p = 120
    · have cp := cntN_pos (sn := sn) (n := n) (p := p)
      have TM := tx_times h2 (p := p) hpn
      rw [if_pos hp, (tx_x h2 hs hp hx).1] at TM
      rw [if_neg (show ¬ sn p = 108 by omega), if_neg h3, if_pos hx, r1]
      simp only [EV]
      rw [CB]
      simp only [EV]
      rw [TM]
      simp only [EV]
      rw [r2]
      have mb : min (evt sn n (pwn w) U f (insd sn p) (ecl sn n f (insd sn p) c)) 1000000 ≤ 1000000 := Nat.min_le_right _ _
      have mb2 : (cntN sn n p - 1) * min (evt sn n (pwn w) U f (insd sn p) (ecl sn n f (insd sn p) c)) 1000000 ≤ 8 * 1000000 := Nat.mul_le_mul (by omega) mb
      simp (disch := omega) only [EV, NUM, pk_sub]
      rw [w267 h2 hp BE (by omega), IH _ (by omega)]
      have e := minT (acc + min (evt sn n (pwn w) U f (insd sn p) c) 1000000) (cntN sn n p - 1) (evt sn n (pwn w) U f (insd sn p) (ecl sn n f (insd sn p) c))
      exact congrArg (fun z => some (nI z)) (minA e)
    · have h108 : sn p = 108 := by omega
      have cn1 := (tx_sl h2 hs hp (Or.inl h108)).2.2
      rw [if_pos h108, r1]
      simp only [EV, NUM]
      rw [CB]
      simp only [EV]
      rw [w267 h2 hp BE (by omega), IH _ (by omega), if_neg h3, cn1, Nat.sub_self, Nat.zero_mul, Nat.add_zero]
      congr 2
      omega
/-- a card's weight -/
theorem cw0 (h2 : TX K g t n sn) (hq : K.1 q = (10, 60)) {U : Nat → Nat → Nat} (hU : ∀ x c, x + 1 < n → sn x = 107 → c < 6 → gI g q ((sn (x + 1) - 48) * 6 + c) = nI (U (sn (x + 1) - 48) c) ∧ U (sn (x + 1) - 48) c ≤ 1000000) {w : Int32} {c : Nat} (hc : c < 6) : f2_weigh 5 K g (some t) 0 (nI c) w q 0 = some (nI (min (evt sn n (pwn w) U (n + 1) 0 c) 1000000)) := by
  have n80 := h2.2.2.2.1.1
  have := cw h2 hq hU (w := w) (n + 1) 0 c 0 0 0 (nI c) FU SP.zero (by omega) hc (by omega) (by omega) (by unfold FU; omega)
  rw [Nat.zero_add] at this
  rw [f2_weigh]
  unfold f2_weigh_s
  simp only [EV]
  rw [if_pos (show (0 : Int32) ≤ 3 by decide)]
  exact this
end WEIGH
