/-! THE LAW'S LOOM, h: weaving -/
section LWEAVE
variable {L L' L1 L2 : GS} {S : GS} {s s' s1 s2 : Nat → Int32} {i j k n p m q c u l e T d : Nat} {sn : Nat → Nat} {v : Int32}
theorem ssI_self (k j : Nat) : ssI S k j (S k j) = S := by
  funext a
  by_cases ha : a = k
  · subst ha
    rw [ss_1]
    funext b
    rw [pu_upd]
    by_cases hb : b = j
    · rw [if_pos hb, hb]
    · rw [if_neg hb]
  · rw [ss_n _ _ _ _ _ ha]
theorem BAL.r8 {v w : Int32} (h : BAL L s c T) : BAL (ssI L 0 8 v) (upd s 8 w) c T := by
  obtain ⟨a1, ⟨⟨z, z9, a2⟩, nb⟩, a3, ⟨W, WT, a4⟩, a5, a6, a7, a8, a9⟩ := h
  exact ⟨fun x hx => by rw [ss_1, pk_un (by omega), pk_un (by omega)]; exact a1 x hx, ⟨⟨z, z9, by rw [pk_un (by omega)]; exact a2⟩, nb.mo (fun x hx => pk_un (by omega))⟩, fun x h1 h2 => by rw [ss_1, pk_un (by omega), pk_un (by omega)]; exact a3 x h1 h2, ⟨W, WT, by rw [pk_un (by omega)]; exact a4⟩, fun k hk => by rw [ss_n _ _ _ _ _ (by decide), pk_un (by omega)]; exact a5 k hk, fun k hk => by rw [ss_n _ _ _ _ _ (by decide), pk_un (by omega)]; exact a6 k hk, a7.mo (by rw [ss_1, pk_un (by decide)]) (ss_n _ _ _ _ _ (by decide)) (pk_un (by decide)) (fun x h1 h2 => pk_un (by omega)), fun k hk => (a8 k hk).mo hk (by rw [ss_n _ _ _ _ _ (by decide)]) (ss_n _ _ _ _ _ (by decide)) (fun x h1 h2 => pk_un (by omega)), fun k h1 h2 => by rw [pk_un (by omega)]; exact a9 k h1 h2⟩
theorem STL.r8 {v w : Int32} {TT : Nat → Nat → (Nat → Nat) → Prop} (h : STL L s d TT) : STL (ssI L 0 8 v) (upd s 8 w) d TT :=
  h.beside (by rw [ss_1, pk_un (by decide)]) (pk_un (by decide)) (ss_n _ _ _ _ _ (by decide)) (ss_n _ _ _ _ _ (by decide)) (ss_n _ _ _ _ _ (by decide)) (fun x hx => pk_un (by omega))
theorem i_asc (x y : Int32) : x + y - x = y := by
  rw [Int32.add_comm, Int32.add_sub_cancel]
/-- how weaving ends -/
def WENDL (S : GS) (T P w : Nat) (X Y : Option (GS × Int32)) : Prop :=
  ∃ L' s' c' d' w', X = some (L', nI w') ∧ Y = some (rw1 S s', nI w') ∧ BAL L' s' c' (T + (w' - w)) ∧ STL L' s' d' atStep ∧ L' 0 8 = s' 8 ∧ w ≤ w' ∧ w' ≤ P
set_option maxRecDepth 16384 in
theorem l_goon {P : Nat} (hP : P ≤ 99) : ∀ (M w st fL fR : Nat) (L : GS) (s : Nat → Int32) (c d T : Nat) (x9 : Int32), BAL L s c T → STL L s d atStep → L 0 8 = nI 0 → T + P ≤ 2 ^ 20 + w → L 0 5 = x9 + nI w → w < P → st ≤ 500 → (P - w) * 502 + (501 - st) ≤ M → M + 1 < fL → M + 1 < fR → WENDL S T P w (f9_weaves_13 (nI P) fL L x9 (nI st)) (f8_weaves_7 (nI P) fR (rw1 S s) (nI w) (nI st) (nI 0)) := by
  intro M
  induction M with
  | zero => intro w st fL fR L s c d T x9 hB hS h8 hT h5 hw hst hM; omega
  | succ M ih =>
    intro w st fL fR L s c d T x9 hB hS h8 hT h5 hw hst hM hfL hfR
    obtain ⟨fL, rfl⟩ : ∃ k, fL = k + 2 := ⟨fL - 2, by omega⟩
    obtain ⟨fR, rfl⟩ : ∃ k, fR = k + 2 := ⟨fR - 2, by omega⟩
    obtain ⟨v, v8, h1, h2, h3⟩ := l_why (S := S) hB hS hst
    have nP : ¬ P ≤ w := by omega
    have SS : ssI L 0 8 (nI 0) = L := by
      have := ssI_self (S := L) 0 8
      rwa [h8] at this
    by_cases hv : v = 0
    · subst hv
      have hO := h3 rfl
      obtain ⟨L2, s2, d2, b, b1, q1, q2, q3, q4, q5, q6, q7⟩ := l_step (S := S) hB hS hO
      have st5 : st < 500 := by
        obtain ⟨_, _, _, _, _, _, _, _, _, z, _⟩ := hO
        exact z
      obtain ⟨W, WT, hW⟩ := hB.2.2.2.1
      have hL5 : L 0 5 = nI W := by rw [hB.2.2.1 5 (by omega) (by omega)]; exact hW
      have E1 : f9_weaves_13 (nI P) (fL + 2) L x9 (nI st) = f9_weaves_13 (nI P) (fL + 1) L2 x9 (nI (if b = 0 then st + 1 else 0)) := by
        rw [f9_weaves_13]
        unfold f9_weaves_75 f9_weaves_91
        simp (disch := omega) only [EV, NUM, pu_lit, pu_le, pu_gok, pu_cl, h5, i_asc, nP, h8, if_true, if_false, h1, SS, q1, q7]
        rw [← h5, hL5, nI_add]
        simp (disch := omega) only [pu_le]
        by_cases hb : b = 0
        · rw [if_pos (by omega), if_pos hb]
        · rw [if_neg (by omega), if_neg hb]
      have E2 : f8_weaves_7 (nI P) (fR + 2) (rw1 S s) (nI w) (nI st) (nI 0) = f8_weaves_7 (nI P) (fR + 1) (rw1 S s2) (nI (w + b)) (nI (if b = 0 then st + 1 else 0)) (nI 0) := by
        rw [f8_weaves_7]
        unfold f8_weaves_46 f8_weaves_60
        simp (disch := omega) only [EV, NUM, pu_lit, pu_le, pu_eq, h2, q2, nP, if_true, if_false]
        by_cases hb : b = 0
        · subst hb
          simp
        · have : b = 1 := by omega
          subst this
          simp
      have L85 : L2 0 8 = nI 0 := q5.trans h8
      have h5' : L2 0 5 = x9 + nI (w + b) := by rw [q7, h5, Int32.add_assoc, nI_add]
      rw [E1, E2]
      by_cases hPw : P ≤ w + b
      · have hb : b = 1 := by omega
        subst hb
        have hPe : P = w + 1 := by omega
        refine ⟨L2, upd s2 8 (nI 0), c + 1, d2, w + 1, ?_, ?_, ?_, ?_, ?_, by omega, by omega⟩
        · rw [f9_weaves_13]
          unfold f9_weaves_96
          simp (disch := omega) only [EV, NUM, pu_lit, pu_le, pu_gok, pu_cl, h5', i_asc, hPw, if_true]
        · rw [f8_weaves_7]
          unfold f8_weaves_64
          simp (disch := omega) only [EV, NUM, pu_lit, pu_le, pu_gok, pu_cl, rw1_1, ss_rw, hPw, if_true]
        · have := q3.r8 (v := nI 0) (w := nI 0)
          rw [show ssI L2 0 8 (nI 0) = L2 by have := ssI_self (S := L2) 0 8; rwa [L85] at this] at this
          rw [show w + 1 - w = 1 by omega]
          exact this
        · have := q4.r8 (v := nI 0) (w := nI 0)
          rwa [show ssI L2 0 8 (nI 0) = L2 by have := ssI_self (S := L2) 0 8; rwa [L85] at this] at this
        · rw [pk_us, L85]
      · obtain ⟨L', s', c', d', w', z1, z2, z3, z4, z5, z6, z7⟩ := ih (w + b) (if b = 0 then st + 1 else 0) (fL + 1) (fR + 1) L2 s2 (c + b) d2 (T + b) x9 q3 q4 L85 (by omega) h5' (by omega) (by split <;> omega) (by split <;> omega) (by omega) (by omega)
        refine ⟨L', s', c', d', w', z1, z2, ?_, z4, z5, by omega, z7⟩
        rw [show T + (w' - w) = T + b + (w' - (w + b)) by omega]
        exact z3
    · have hv0 : ¬ nI v = nI 0 := nI_ne0 (by omega) (by omega)
      refine ⟨ssI L 0 8 (nI v), upd s 8 (nI v), c, d, w, ?_, ?_, by rw [Nat.sub_self]; exact hB.r8, hS.r8, by rw [ss_1, pk_us, pk_us], by omega, by omega⟩
      · have g5 : ssI L 0 8 (nI v) 0 5 = x9 + nI w := by rw [ss_1, pk_un (by decide)]; exact h5
        have g8 : ssI L 0 8 (nI v) 0 8 = nI v := by rw [ss_1, pk_us]
        have E1 : f9_weaves_13 (nI P) (fL + 2) L x9 (nI st) = f9_weaves_13 (nI P) (fL + 1) (ssI L 0 8 (nI v)) x9 (nI (st + 1)) := by
          rw [f9_weaves_13]
          unfold f9_weaves_75 f9_weaves_91
          simp (disch := omega) only [EV, NUM, pu_lit, pu_le, pu_gok, pu_cl, h5, i_asc, nP, h8, if_true, if_false, h1, g8, g5]
          rw [if_neg hv0, if_pos (Int32.le_refl _)]
        rw [E1, f9_weaves_13]
        unfold f9_weaves_96
        simp (disch := omega) only [EV, NUM, pu_lit, pu_le, pu_gok, pu_cl, g5, i_asc, nP, if_false, g8]
        rw [if_neg hv0]
      · rw [f8_weaves_7]
        simp (disch := omega) only [EV, NUM, pu_lit, pu_le, pu_eq, h2, nP, hv, if_true, if_false]
        rw [f8_weaves_7]
        unfold f8_weaves_64
        simp (disch := omega) only [EV, NUM, pu_lit, pu_le, pu_eq, pu_gok, pu_cl, rw1_1, ss_rw, nP, hv, if_true, if_false]
/-- the law's loom and the reference's row are alike -/
def LR (L : GS) (s : Nat → Int32) (T : Nat) : Prop := ∃ c d, BAL L s c T ∧ STL L s d atStep ∧ L 0 8 = s 8
theorem l_weaves {P : Nat} (hP : P ≤ 99) (hP1 : 1 ≤ P) (h : LR L s T) (hT : T ≤ 2 ^ 19) : ∃ L' s' w', f9_weaves L (nI P) = some (L', nI w') ∧ f8_weaves (rw1 S s) (nI P) = some (rw1 S s', nI w') ∧ LR L' s' (T + 99) ∧ w' ≤ 99 := by
  obtain ⟨c, d, h1, h2, h3⟩ := h
  have hB := h1.r8 (v := nI 0) (w := s 8)
  have hS := h2.r8 (v := nI 0) (w := s 8)
  rw [show upd s 8 (s 8) = s from funext fun x => by rw [pu_upd]; by_cases hx : x = 8 <;> simp [hx]] at hB hS
  obtain ⟨L', s', c', d', w', z1, z2, z3, z4, z5, z6, z7⟩ := l_goon (S := S) hP (P * 502 + 501) 0 0 FU FU (ssI L 0 8 (nI 0)) s c d T (L 0 5) hB hS (by rw [ss_1, pk_us]) (by omega) (by rw [ss_1, pk_un (by decide), nI_0, Int32.add_zero]) (by omega) (by omega) (by omega) (by unfold FU; omega) (by unfold FU; omega)
  refine ⟨L', s', w', ?_, z2, ⟨c', d', ?_, z4, z5⟩, by omega⟩
  · unfold f9_weaves
    simp (disch := omega) only [EV, pu_lit, pu_gok, pu_cl]
    exact z1
  · obtain ⟨a1, a2, a3, ⟨W, WT, a4⟩, a5⟩ := z3
    exact ⟨a1, a2, a3, ⟨W, by omega, a4⟩, a5⟩
end LWEAVE
