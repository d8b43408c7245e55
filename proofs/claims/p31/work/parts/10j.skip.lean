/-! THE LAW'S LOOM, j: skip, blank; who calls -/
section LSKIP
variable {K : GK} {g : GM} {B : Nat} {L L' L1 L2 : GS} {S S' S1 : GS} {s s' s1 s2 : Nat → Int32} {i j k n p m q c u l e T d : Nat} {sn : Nat → Nat} {v : Int32}
theorem at_row (h : L' 6 = L 6) (x y : Int32) : f9_at6 L' x y = f9_at6 L x y := by
  unfold f9_at6
  rw [h]
theorem d249 {a b c : Int32} (h : f9_settles L1 = some L2) (h3 : L2 0 3 = nI d) : f9_due_249 a b c L1 = some (L2, nI d) := by
  unfold f9_due_249
  rw [h]
  simp (disch := omega) only [EV, pu_lit, pu_gok, pu_cl, h3]
theorem s100 (h : f8_settle (rw1 S s1) = some (rw1 S s2)) (h3 : s2 3 = nI d) : f8_skip_100 (rw1 S s1) = some (rw1 S s2, nI d) := by
  unfold f8_skip_100
  rw [h]
  simp (disch := omega) only [EV, pu_lit, pu_gok, pu_cl, rw1_1, h3]
theorem d_skip {a b : Int32} (hS : SIM K g S B) (h : LR L (S 1) T) : LDU S L T (f9_due L (nI 4) a b) (f8_skip S) := by
  obtain ⟨S1, e1, e2, e3⟩ := rec_of hS
  have h0 := h
  obtain ⟨c, d, hB, hST, h8⟩ := h
  cases d with
  | zero =>
    refine ⟨L, S, -5, ?_, ?_, h0.up, Or.inl ⟨m5neg, rfl, rfl⟩⟩
    · unfold f9_due
      rw [if_neg (by decide), if_neg (by decide), if_neg (by decide), if_pos (show nI 4 = 4 from rfl)]
      simp (disch := omega) only [EV, pu_lit, pu_gok, pu_cl, hST.1, if_true]
    · unfold f8_skip
      simp (disch := omega) only [EV, pu_lit, pu_gok, pu_cl, hST.2.1, if_true]
  | succ i =>
    have hlow := hST.low
    obtain ⟨q1, q2, q3, q4, q5⟩ := hST
    obtain ⟨n, sn, p, m, hf, hp, h41⟩ := q5 i rfl
    have hi : i < 9 := by omega
    have n24 := hf.2.1
    have hv := hf.1.1
    have hs := hf.1.2.2.2.2.2.1
    have hcp := hv.2.2.2 p hp
    have A6 := hf.at hi hp
    have at_ : ∀ k, k < n → f9_at6 L (nI i) (nI k) = some (nI (sn k)) := fun k hk => hf.at hi hk
    have b3 : 1253 ≤ fb i := by show 1253 ≤ 1253 + 92 * i; omega
    have RT2 := re_top (S := S1) (k := 2) hi q2 (by omega)
    rw [hf.1.2.2.2.2.1] at RT2
    have RS := re_sign (S := S1) (k := p) hi q2 (by omega)
    rw [hf.1.2.2.2.2.2.2.2.2.1 p hp] at RS
    have eS1 : S1 = rw1 S1 (S 1) := by rw [← e2, rw1_self]
    have F : ∀ (L1 : GS) (s1 : Nat → Int32), RESL L (S 1) i n sn L1 s1 → (∀ L2 d, f9_settles L1 = some L2 → L2 0 3 = nI d → f9_due L (nI 4) a b = some (L2, nI d)) → (∀ s2 d, f8_settle (rw1 S1 s1) = some (rw1 S1 s2) → s2 3 = nI d → f8_skip S = some (rw1 S1 s2, nI d)) → LDU S L T (f9_due L (nI 4) a b) (f8_skip S) := fun L1 s1 hR hX hY => by
      obtain ⟨L2, s2, d2, a1, a2, a3, a4⟩ := l_after (S := S1) hR hlow hi
      have d9 := a3.2.2.1
      refine ⟨L2, rw1 S1 s2, nI d2, hX L2 d2 a1 a3.1, hY s2 d2 a2 a3.2.1, ⟨c, d2, by rw [rw1_1]; exact (hB.mv a4).le (by omega), by rw [rw1_1]; exact a3, ?_⟩, Or.inr ⟨nI_pos (by omega), e3.rw s2⟩⟩
      rw [rw1_1, a4.2.1 8 (by decide), a4.2.2.2 8 (by show 8 < 1253 + 92 * 0; omega) (by decide)]
      exact h8
    have E8 : f8_skip S = if sn p = 99 then (f8_go (rw1 S1 (S 1)) 2).bind f8_skip_100 else if sn p = 107 then (f8_go (rw1 S1 (S 1)) 2).bind f8_skip_100 else if sn p = 119 then (f8_donePick (rw1 S1 (S 1))).bind f8_skip_100 else if sn p = 120 then (f8_passPart (rw1 S1 (S 1)) (nI (p + 2))).bind f8_skip_100 else (f8_passPart (rw1 S1 (S 1)) (nI (p + 1))).bind f8_skip_100 := by
      unfold f8_skip
      simp (disch := omega) only [EV, pu_lit, pu_gok, pu_cl, q2, pu_eq]
      rw [if_neg (by omega), e1]
      simp only [EV]
      rw [eS1]
      simp (disch := omega) only [EV, NUM, pu_lit, RT2, RS, pu_eq, rw1_1, rw1_rw1]
      repeat' (first | rfl | refine ite_i ?_ ?_)
    have E9 : f9_due L (nI 4) a b = if sn p = 119 then (f9_passes L (nI i)).bind (fun S => f9_due_249 (nI 4) a b S) else if sn p = 99 then f9_due_216 (nI 4) a b (ssI L 4 (6 * i + 3) (nI 0)) (nI i) (nI (6 * i + 2)) else if sn p = 107 then f9_due_216 (nI 4) a b (ssI L 4 (6 * i + 3) (nI 0)) (nI i) (nI (6 * i + 2)) else (f9_behind (ssI L 4 (6 * i + 3) (nI 0)) (nI i) (nI p)).bind (fun v => f9_due_248 (nI 4) a b (ssI L 4 (6 * i + 3) (nI 0)) (nI (6 * i + 2)) v) := by
      unfold f9_due
      rw [if_neg (by decide), if_neg (by decide), if_neg (by decide), if_pos (show nI 4 = 4 from rfl)]
      simp (disch := omega) only [EV, NUM, pu_lit, pu_eq, pu_gok, pu_cl, q1, pk_sub, Nat.add_sub_cancel, hf.l2, A6, ss_1, pk_un]
      rw [if_neg (by omega)]
      repeat' (first | rfl | refine ite_i ?_ ?_)
    let L0' := ssI L 4 (6 * i + 3) (nI 0)
    have SPX : sn p = 120 ∨ sn p = 108 ∨ sn p = 115 → LDU S L T (f9_due L (nI 4) a b) (f8_skip S) := fun z => by
      obtain ⟨r, r1, r2, r3, r4⟩ := l_behind (S := S1) (L := L0') hv hs (fun k hk => (at_row (L := L) (L' := L0') rfl _ _).trans (at_ k hk)) hi q2 hf.1.2.2.2.2.2.2.2.2.1 hp z
      refine F (ssI L0' 4 (6 * i + 2) (nI (r + 1))) (upd (upd (S 1) (fb i + 2) (nI (r + 1))) (fb i + 3) (nI 0)) ⟨⟨_, _, hf.arr r2 r1 (fun k _ h2 h3 => by rw [pk_un (by omega), pk_un (by omega)]) (by rw [pk_un (by omega), pk_us]) (Or.inl pk_us) (fun x h2 h3 => by show ssI (ssI L 4 _ _) 4 _ _ 4 x = _; rw [ss_1, pk_un h2, ss_1, pk_un h3]) rfl rfl (by rw [ss_1, pk_us]) (by show ssI (ssI L 4 _ _) 4 _ _ 4 _ = _; rw [pk_us, ss_1, pk_un (by omega), ss_1, pk_us])⟩, ((MVL.s4 (by omega)).tr (MVL.s4 (by omega))).tr ((MVL.su (Or.inr (by omega))).tr (MVL.su (Or.inr (by omega)))), by rw [pk_un (by omega), pk_un (by omega)]; exact q2, q1⟩ (fun L2 d y1 y2 => ?_) (fun s2 d y1 y2 => ?_)
      · rw [E9, if_neg (by omega), if_neg (by omega), if_neg (by omega), r3]
        unfold f9_due_248
        simp (disch := omega) only [EV, NUM, pu_lit, pu_gok, pu_cl]
        exact d249 y1 y2
      · rw [E8, if_neg (by omega), if_neg (by omega), if_neg (by omega)]
        by_cases zx : sn p = 120
        · rw [if_pos zx] at r4 ⊢
          rw [r4]
          exact s100 y1 y2
        · rw [if_neg zx] at r4 ⊢
          rw [r4]
          exact s100 y1 y2
    rcases hs.kinds hv hp with ⟨z, -⟩ | z | z | z | z | z | z
    · exact absurd z h41
    · -- c
      obtain ⟨k1, k2, k3, k4, k5⟩ := hs.c hv hp z
      have z0 : S 1 (fb i + 3) = nI 0 := hf.1.2.2.2.2.2.2.1.zero (by omega) (by omega)
      refine F (ssI L0' 4 (6 * i + 2) (nI (p + 2))) (upd (S 1) (fb i + 2) (nI (p + 2))) ⟨⟨_, _, hf.arr k4 k5 (fun k _ h2 h3 => pk_un (by omega)) pk_us (Or.inl (by rw [pk_un (by omega)]; exact z0)) (fun x h2 h3 => by show ssI (ssI L 4 _ _) 4 _ _ 4 x = _; rw [ss_1, pk_un h2, ss_1, pk_un h3]) rfl rfl (by rw [ss_1, pk_us]) (by show ssI (ssI L 4 _ _) 4 _ _ 4 _ = _; rw [pk_un (by omega), z0, ss_1, pk_un (by omega), ss_1, pk_us])⟩, ((MVL.s4 (by omega)).tr (MVL.s4 (by omega))).tr (MVL.su (Or.inr (by omega))), by rw [pk_un (by omega)]; exact q2, q1⟩ (fun L2 d y1 y2 => ?_) (fun s2 d y1 y2 => ?_)
      · rw [E9, if_neg (by omega), if_pos z]
        unfold f9_due_216 f9_due_248
        simp (disch := omega) only [EV, NUM, pu_lit, pu_gok, pu_cl, ss_1, pk_un, hf.l2]
        exact d249 y1 y2
      · rw [E8, if_pos z, show f8_go (rw1 S1 (S 1)) 2 = some (rw1 S1 (upd (S 1) (fb i + 2) (nI (p + 2)))) from re_go (k := 2) hi q2 hf.1.2.2.2.2.1]
        exact s100 y1 y2
    · -- k
      obtain ⟨k1, k2, k3, k4, k5⟩ := hs.k hv hp z
      have z0 : S 1 (fb i + 3) = nI 0 := hf.1.2.2.2.2.2.2.1.zero (by omega) (by omega)
      refine F (ssI L0' 4 (6 * i + 2) (nI (p + 2))) (upd (S 1) (fb i + 2) (nI (p + 2))) ⟨⟨_, _, hf.arr k4 k5 (fun k _ h2 h3 => pk_un (by omega)) pk_us (Or.inl (by rw [pk_un (by omega)]; exact z0)) (fun x h2 h3 => by show ssI (ssI L 4 _ _) 4 _ _ 4 x = _; rw [ss_1, pk_un h2, ss_1, pk_un h3]) rfl rfl (by rw [ss_1, pk_us]) (by show ssI (ssI L 4 _ _) 4 _ _ 4 _ = _; rw [pk_un (by omega), z0, ss_1, pk_un (by omega), ss_1, pk_us])⟩, ((MVL.s4 (by omega)).tr (MVL.s4 (by omega))).tr (MVL.su (Or.inr (by omega))), by rw [pk_un (by omega)]; exact q2, q1⟩ (fun L2 d y1 y2 => ?_) (fun s2 d y1 y2 => ?_)
      · rw [E9, if_neg (by omega), if_neg (by omega), if_pos z]
        unfold f9_due_216 f9_due_248
        simp (disch := omega) only [EV, NUM, pu_lit, pu_gok, pu_cl, ss_1, pk_un, hf.l2]
        exact d249 y1 y2
      · rw [E8, if_neg (by omega), if_pos z, show f8_go (rw1 S1 (S 1)) 2 = some (rw1 S1 (upd (S 1) (fb i + 2) (nI (p + 2)))) from re_go (k := 2) hi q2 hf.1.2.2.2.2.1]
        exact s100 y1 y2
    · exact SPX (Or.inr (Or.inl z))
    · exact SPX (Or.inr (Or.inr z))
    · -- w
      obtain ⟨L1, s1, f1, f2, R⟩ := l_passes (S := S1) hf hi q2 q1 hp z
      refine F L1 s1 R (fun L2 d y1 y2 => ?_) (fun s2 d y1 y2 => ?_)
      · rw [E9, if_pos z, f1]
        exact d249 (a := nI 4) (b := a) (c := b) y1 y2
      · rw [E8, if_neg (by omega), if_neg (by omega), if_pos z, f2]
        exact s100 y1 y2
    · exact SPX (Or.inl z)
end LSKIP
