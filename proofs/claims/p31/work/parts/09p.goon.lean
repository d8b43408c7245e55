/-! THE PURE PART, p: weaving goes on -/
section GOON
variable {K : GK} {g g' : GM} {S : GS} {a t n p m i c d : Nat} {s s' : Nat → Int32} {sn : Nat → Nat}
theorem STK.base {T : Nat → Nat → (Nat → Nat) → Prop} (h : STK K g (a + 9) s d T) (hA : SA K a) (hg : AG (fun q => a ≤ q ∧ q ≤ a + 8) g g') (h3 : s' 3 = s 3) (hs : ∀ x, 1253 ≤ x → s' x = s x) : STK K g' (a + 9) s' d T := by
  obtain ⟨h1, h2, h4, h5, h6⟩ := h
  refine ⟨by rw [hg.i (by omega)]; exact h1, by rw [h3]; exact h2, h4, fun j hj => ?_, fun j hj => ?_⟩
  · obtain ⟨t, n, sn, p, m, z1, z2⟩ := h5 j hj
    exact ⟨t, n, sn, p, m, z1.base hA hg (fun k hk => hs _ (by show 1253 ≤ 1253 + 92 * j + k; omega)), z2⟩
  · obtain ⟨t, n, sn, p, m, z1, z2⟩ := h6 j hj
    exact ⟨t, n, sn, p, m, z1.base hA hg (fun k hk => hs _ (by show 1253 ≤ 1253 + 92 * j + k; omega)), z2⟩
/-- the reason is no part of it -/
theorem LRB.r12 {v w : Int32} (h : LRB K g a s c) (hA : SA K a) : LRB K (gsI g a 12 v) a (upd s 8 w) c := by
  obtain ⟨b1, ⟨u, v9, b2⟩, ⟨c4, c9, cs4, cl⟩, b4, b5⟩ := h
  have ag : AG (fun q => a ≤ q ∧ q ≤ a + 8) g (gsI g a 12 v) := AG.rf.ai (by omega)
  have n8 : ¬ stat 8 := by unfold stat; omega
  refine ⟨(b1.gi (x := 0) (k := 12) (by omega)).su n8, ⟨u, v9, by rw [pk_un (by omega)]; exact b2⟩, ⟨c4, by rw [gI_ne (by omega)]; exact c9, by rw [pk_un (by omega)]; exact cs4, fun k hk => ?_⟩, ?_, fun k hk => (b5 k hk).mo hk (hA.ta ag (fun q hq => by omega)) rfl (fun x h1 h2 => pk_un (by omega))⟩
  · obtain ⟨w, w6, z1, z2⟩ := cl k hk
    exact ⟨w, w6, by rw [gI_ne (by omega)]; exact z1, by rw [pk_un (by omega)]; exact z2⟩
  · rw [pk_un (by omega), b4]
    congr 1
    funext x
    rw [gI_ne (by omega)]
theorem LRB.r12g {v : Int32} (h : LRB K g a s c) (hA : SA K a) : LRB K (gsI g a 12 v) a s c := by
  have := h.r12 (v := v) (w := s 8) hA
  rwa [show upd s 8 (s 8) = s from funext fun x => by
    by_cases e : x = 8
    · rw [e, pk_us]
    · rw [pk_un e]] at this
/-- how weaving ends -/
def WEND (K : GK) (S : GS) (g : GM) (a : Nat) (c P w : Nat) (X : Option (GM × Int32)) (Y : Option (GS × Int32)) : Prop :=
  ∃ g' s' c' d' w', X = some (g', nI w') ∧ Y = some (rw1 S s', nI w') ∧ LRB K g' a s' c' ∧ STK K g' (a + 9) s' d' atStep ∧ s' 8 = gI g' a 12 ∧ AG (fun q => a ≤ q ∧ q ≤ a + 15) g g' ∧ c' + w = c + w' ∧ w ≤ w' ∧ w' ≤ P ∧ (RT K g (a + 15) → RT K g' (a + 15))
set_option maxRecDepth 16384 in
theorem goon (hA : SA K a) {P : Nat} (hP : P ≤ 999) : ∀ (M w st fi fo fr : Nat) (g : GM) (s : Nat → Int32) (c d : Nat), LRB K g a s c → STK K g (a + 9) s d atStep → w < P → st ≤ 500 → (P - w) * 502 + (501 - st) ≤ M → 501 - st < fi → P - w < fo → M + 1 < fr → WEND K S g a c P w ((f4_weaveNext_2 K a fi g (nI st)).bind (fun r2 => gl (gsI r2.1 a 12 r2.2) (fun g4 => if (gI g4 a 12) = 0 then gl (nI w + 1) (fun v6 => f4_goOn_2 K a (nI P) fo g4 v6) else some (g4, nI w)))) (f8_weaves_7 (nI P) fr (rw1 S s) (nI w) (nI st) (nI 0)) := by
  intro M
  induction M with
  | zero => intro w st fi fo fr g s c d hB hS hw hst hM; omega
  | succ M ih =>
    intro w st fi fo fr g s c d hB hS hw hst hM hfi hfo hfr
    obtain ⟨fi, rfl⟩ : ∃ k, fi = k + 1 := ⟨fi - 1, by omega⟩
    obtain ⟨fr, rfl⟩ : ∃ k, fr = k + 2 := ⟨fr - 2, by omega⟩
    obtain ⟨fo, rfl⟩ : ∃ k, fo = k + 1 := ⟨fo - 1, by omega⟩
    obtain ⟨v, v8, h1, h2, h3⟩ := hind (S := S) hB hS hst
    have n5 : ¬ 500 < st := by omega
    have nP : ¬ P ≤ w := by omega
    by_cases hv : v = 0
    · subst hv
      obtain ⟨g1, g2, s2, d2, L, q1, q2, q3, q4, q5, q6, q7, q8, q9, q10, q11⟩ := dostep (S := S) hB hA hS (h3 rfl)
      by_cases hL : L = 119
      · subst hL
        have E1 : f4_weaveNext_2 K a (fi + 1) g (nI st) = some (g2, nI 0) := by
          rw [f4_weaveNext_2]
          unfold f4_weaveNext_47
          simp (disch := omega) only [EV, NUM, pu_lit, pu_lt, pu_eq, h1, q1, q3 rfl, q5, n5, if_true, if_false]
        have E2 : f8_weaves_7 (nI P) (fr + 2) (rw1 S s) (nI w) (nI st) (nI 0) = f8_weaves_7 (nI P) (fr + 1) (rw1 S s2) (nI (w + 1)) (nI 0) (nI 0) := by
          rw [f8_weaves_7]
          unfold f8_weaves_46 f8_weaves_60
          simp (disch := omega) only [EV, NUM, pu_lit, pu_le, pu_eq, h2, q6, nP, if_true, if_false]
          simp
        rw [if_pos rfl] at q7
        have ag8 : AG (fun q => a ≤ q ∧ q ≤ a + 8) g2 (gsI g2 a 12 (nI 0)) := AG.rf.ai (by omega)
        rw [E1, E2]
        by_cases hPw : P ≤ w + 1
        · have hPe : P = w + 1 := by omega
          refine ⟨gsI g2 a 12 (nI 0), upd s2 8 (nI 0), c + 1, d2, w + 1, ?_, ?_, q7.r12 hA, q8.base hA ag8 (pk_un (by omega)) (fun x hx => pk_un (by omega)), ?_, q9.tr (AG.rf.ai (by omega)), by omega, by omega, by omega, fun z => (q11 z).mo (fun _ => rfl)⟩
          · simp (disch := omega) only [EV, NUM, pu_lit, gI_eq, pu_eq, if_true]
            rw [f4_goOn_2]
            simp (disch := omega) only [pu_le, hPw, if_true]
            rw [hPe]
          · rw [f8_weaves_7]
            unfold f8_weaves_64
            simp (disch := omega) only [EV, NUM, pu_lit, pu_le, pu_gok, pu_cl, ss_rw, hPw, if_true]
          · rw [pk_us, gI_eq]
        · obtain ⟨g', s', c', d', w', z1, z2, z3, z4, z5, z6, z7, z8, z9, z10⟩ := ih (w + 1) 0 FU fo (fr + 1) (gsI g2 a 12 (nI 0)) s2 (c + 1) d2 (q7.r12g hA) (q8.base hA ag8 rfl (fun _ _ => rfl)) (by omega) (by omega) (by omega) (by unfold FU; omega) (by omega) (by omega)
          refine ⟨g', s', c', d', w', ?_, z2, z3, z4, z5, (q9.tr (AG.rf.ai (by omega))).tr z6, by omega, by omega, z9, fun z => z10 ((q11 z).mo (fun _ => rfl))⟩
          rw [← z1]
          simp (disch := omega) only [EV, NUM, pu_lit, gI_eq, pu_eq, if_true]
          rw [f4_goOn_2]
          unfold f4_weaveNext
          simp (disch := omega) only [EV, NUM, pu_lit, pu_le, hPw, if_false, gI_eq]
      · have E1 : f4_weaveNext_2 K a (fi + 1) g (nI st) = f4_weaveNext_2 K a fi g2 (nI (st + 1)) := by
          rw [f4_weaveNext_2]
          unfold f4_weaveNext_47
          have := q2
          have hq4 := q4 hL
          simp (disch := omega) only [EV, NUM, pu_lit, pu_lt, pu_eq, h1, q1, hq4, q5, n5, hL, if_true, if_false]
        have E2 : f8_weaves_7 (nI P) (fr + 2) (rw1 S s) (nI w) (nI st) (nI 0) = f8_weaves_7 (nI P) (fr + 1) (rw1 S s2) (nI w) (nI (st + 1)) (nI 0) := by
          rw [f8_weaves_7]
          unfold f8_weaves_46 f8_weaves_60
          simp (disch := omega) only [EV, NUM, pu_lit, pu_le, pu_eq, h2, q6, nP, hL, if_true, if_false, Nat.add_zero]
        rw [if_neg hL] at q7
        rw [E1, E2]
        have hst2 : st < 500 := by
          obtain ⟨_, _, _, _, _, _, _, _, _, _, z, _⟩ := h3 rfl
          exact z
        obtain ⟨g', s', c', d', w', z1, z2, z3, z4, z5, z6, z7, z8, z9, z10⟩ := ih w (st + 1) fi (fo + 1) (fr + 1) g2 s2 c d2 q7 q8 hw (by omega) (by omega) (by omega) (by omega) (by omega)
        exact ⟨g', s', c', d', w', z1, z2, z3, z4, z5, q9.tr z6, z7, z8, z9, fun z => z10 (q11 z)⟩
    · have E1 : f4_weaveNext_2 K a (fi + 1) g (nI st) = some (g, nI v) := by
        rw [f4_weaveNext_2]
        simp (disch := omega) only [EV, NUM, pu_lit, pu_lt, pu_eq, h1, n5, hv, if_false]
      have ag8 : AG (fun q => a ≤ q ∧ q ≤ a + 8) g (gsI g a 12 (nI v)) := AG.rf.ai (by omega)
      rw [E1]
      refine ⟨gsI g a 12 (nI v), upd s 8 (nI v), c, d, w, ?_, ?_, hB.r12 hA, hS.base hA ag8 (pk_un (by omega)) (fun x hx => pk_un (by omega)), by rw [pk_us, gI_eq], AG.rf.ai (by omega), by omega, by omega, by omega, fun z => z.mo (fun _ => rfl)⟩
      · simp (disch := omega) only [EV, NUM, pu_lit, gI_eq, pu_eq, hv, if_false]
      · rw [f8_weaves_7]
        simp (disch := omega) only [EV, NUM, pu_lit, pu_le, pu_eq, h2, nP, hv, if_true, if_false]
        rw [f8_weaves_7]
        unfold f8_weaves_64
        simp (disch := omega) only [EV, NUM, pu_lit, pu_le, pu_eq, pu_gok, pu_cl, ss_rw, nP, hv, if_true, if_false]
theorem weaving (hA : SA K a) {P : Nat} (hP : P ≤ 999) (hP1 : 1 ≤ P) (hB : LRB K g a s c) (hS : STK K g (a + 9) s d atStep) : WEND K S g a c P 0 (f4_goOn K g a (nI P)) (f8_weaves (rw1 S s) (nI P)) := by
  have h := goon (S := S) hA hP (P * 502 + 501) 0 0 FU (FU - 1) FU g s c d hB hS (by omega) (by omega) (by omega) (by unfold FU; omega) (by unfold FU; omega) (by unfold FU; omega)
  have e1 : f4_goOn K g a (nI P) = (f4_weaveNext_2 K a FU g (nI 0)).bind (fun r2 => gl (gsI r2.1 a 12 r2.2) (fun g4 => if (gI g4 a 12) = 0 then gl (nI 0 + 1) (fun v6 => f4_goOn_2 K a (nI P) (FU - 1) g4 v6) else some (g4, nI 0))) := by
    unfold f4_goOn
    rw [show f4_goOn_2 K a (nI P) FU g 0 = f4_goOn_2 K a (nI P) ((FU - 1) + 1) g 0 by rw [show FU - 1 + 1 = FU by unfold FU; omega], f4_goOn_2]
    have nP : ¬ P ≤ 0 := by omega
    unfold f4_weaveNext
    simp (disch := omega) only [pu_lit, pu_le, nP, if_false]
  rw [e1]
  exact h
end GOON
