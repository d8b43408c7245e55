/-! THE PURE PART, e: the fault of the pad, on both sides -/
/-- no fault -/
def VC (sn : Nat → Nat) (L : Nat) : Prop := ks sn L = [] ∧ (cc sn L = 1 ∨ cc sn L = 2)
def FLT (sn : Nat → Nat) (L : Nat) (r : Int32) : Prop := (∃ p, p < L ∧ cc sn p ≠ 9 ∧ cc sn (p + 1) = 9 ∧ r = nI p) ∨ (cc sn L ≠ 9 ∧ VC sn L ∧ r = -nI 6) ∨ (cc sn L ≠ 9 ∧ ¬ VC sn L ∧ r = nI L)
theorem flt_u {sn : Nat → Nat} {L : Nat} {r r' : Int32} (h : FLT sn L r) (h' : FLT sn L r') : r = r' := by
  have ex : ∀ p q, p < q → cc sn (p + 1) = 9 → cc sn q ≠ 9 → False := fun p q h1 h2 h3 => no9 h3 (p + 1) (by omega) h2
  rcases h with ⟨p, h1, h2, h3, h4⟩ | ⟨h1, h2, h3⟩ | ⟨h1, h2, h3⟩ <;> rcases h' with ⟨p', h1', h2', h3', h4'⟩ | ⟨h1', h2', h3'⟩ | ⟨h1', h2', h3'⟩
  · rcases Nat.lt_trichotomy p p' with z | z | z
    · exact (ex p p' z h3 h2').elim
    · rw [h4, h4', z]
    · exact (ex p' p z h3' h2).elim
  · exact (ex p L h1 h3 h1').elim
  · exact (ex p L h1 h3 h1').elim
  · exact (ex p' L h1' h3' h1).elim
  · rw [h3, h3']
  · exact (h2' h2).elim
  · exact (ex p' L h1' h3' h1).elim
  · exact (h2 h2').elim
  · rw [h3, h3']
section FAULT
variable {K : GK} {g g' : GM} {a p0 p L : Nat} {sn : Nat → Nat}
theorem RDx.mo (h : RDx g a sn p) (e0 : ∀ k, k ≠ 5 → gI g' a k = gI g a k) (e : ∀ i, 2 ≤ i → i ≤ 6 → ∀ k, gI g' (a + i) k = gI g (a + i) k) : RDx g' a sn p := by
  obtain ⟨h1, h2, h3, h4, h5, h6, h7, h8⟩ := h
  refine ⟨by rw [e0 _ (by decide)]; exact h1, by rw [e0 _ (by decide)]; exact h2, by rw [e0 _ (by decide)]; exact h3, by rw [e0 _ (by decide)]; exact h4, by rw [e0 _ (by decide)]; exact h5, by rw [e0 _ (by decide)]; exact h6, ?_, fun j hj => by rw [e 6 (by decide) (by decide)]; exact h8 j hj⟩
  rw [show gI g' (a + 2) = gI g (a + 2) from funext (e 2 (by decide) (by decide)), show gI g' (a + 3) = gI g (a + 3) from funext (e 3 (by decide) (by decide)), show gI g' (a + 4) = gI g (a + 4) from funext (e 4 (by decide) (by decide)), show gI g' (a + 5) = gI g (a + 5) from funext (e 5 (by decide) (by decide))]
  exact h7
/-- the reader behind p signs -/
def RD (g : GM) (a : Nat) (sn : Nat → Nat) (p : Nat) : Prop := RDx g a sn p ∧ gI g a 5 = nI p ∧ ∀ k, k < p → gI g (a + 1) k = nI (sn k)
/-- the pad -/
def PAD (K : GK) (g : GM) (p0 : Nat) (sn : Nat → Nat) (L : Nat) : Prop := gkd K p0 = 6 ∧ L ≤ 80 ∧ gI g p0 1 = nI L ∧ ∀ k, k < L → gI g (p0 + 1) k = nI (sn k) ∧ sn k < 128
theorem fault_loop (hpa : p0 + 1 < a) : ∀ m p g n, L - p = m → p ≤ L → m < n → PAD K g p0 sn L → RD g a sn p → cc sn p ≠ 9 → ∃ g' r, f6_faultOf_47 K a p0 n g (nI L) (nI p) = some (g', r) ∧ FLT sn L r ∧ AG (fun q => a ≤ q ∧ q ≤ a + 6) g g' ∧ (r = -nI 6 → RD g' a sn L ∧ VC sn L ∧ cc sn L ≠ 9) := by
  intro m
  induction m with
  | zero =>
    intro p g n hm hp hn hP hR h9
    obtain ⟨n, rfl⟩ : ∃ k, n = k + 1 := ⟨n - 1, by omega⟩
    have hpL : p = L := by omega
    subst hpL
    obtain ⟨k6, l80, -, -⟩ := hP
    have h4 := hR.1.2.2.2.1
    have h5 := hR.1.2.2.2.2.1
    have l3 := (au h9).2.2.1
    have c6 := (au h9).2.2.2.2.2
    unfold f6_faultOf_47
    by_cases hv : VC sn p
    · refine ⟨g, -nI 6, ?_, Or.inr (Or.inl ⟨h9, hv, rfl⟩), AG.rf, fun _ => ⟨hR, hv, h9⟩⟩
      unfold f6_faultOf_116 f6_faultOf_121
      rw [h4, h5, hv.1]
      rcases hv.2 with h | h <;> rw [h] <;> simp (disch := omega) [EV, pu_lit, pu_eq]
    · refine ⟨g, nI p, ?_, Or.inr (Or.inr ⟨h9, hv, rfl⟩), AG.rf, fun h => by rw [pu_neg (by omega) 6 (by decide) (by decide)] at h; exact h.elim⟩
      unfold f6_faultOf_116 f6_faultOf_120 f6_faultOf_121
      rw [h4, h5]
      by_cases k0 : (ks sn p).length = 0
      · have kn : ks sn p = [] := List.eq_nil_of_length_eq_zero k0
        have n1 : ¬ cc sn p = 1 := fun z => hv ⟨kn, Or.inl z⟩
        have n2 : ¬ cc sn p = 2 := fun z => hv ⟨kn, Or.inr z⟩
        simp (disch := omega) [EV, pu_lit, pu_eq, kn, n1, n2]
      · simp (disch := omega) only [EV, pu_lit, pu_eq]
        rw [if_pos (show nI p ≤ nI p from (nI_leI (by omega) (by omega)).mpr (Nat.le_refl _)), if_neg k0]
        simp
  | succ m ih =>
    intro p g n hm hp hn hP hR h9
    obtain ⟨n, rfl⟩ : ∃ k, n = k + 1 := ⟨n - 1, by omega⟩
    have hP' := hP
    obtain ⟨k6, l80, hl, hs⟩ := hP'
    obtain ⟨hs1, hs2⟩ := hs p (by omega)
    unfold f6_faultOf_47
    rw [if_neg (show ¬ nI L ≤ nI p from fun z => by have := (nI_leI (by omega) (by omega)).mp z; omega), k6]
    rcases takes (K := K) hR.1 h9 (by omega) hs2 with ⟨c9, e⟩ | ⟨c9, g1, e, hx, hag⟩
    · refine ⟨g, nI p, ?_, Or.inl ⟨p, by omega, h9, c9, rfl⟩, AG.rf, fun h => by rw [pu_neg (by omega) 6 (by decide) (by decide)] at h; exact h.elim⟩
      simp (disch := omega) [EV, pu_lit, pu_gok, pu_cl, hs1, e]
    · have u1 : ∀ k, gI g1 (p0 + 1) k = gI g (p0 + 1) k := fun k => hag.i (by omega) k
      have u0 : ∀ k, gI g1 p0 k = gI g p0 k := fun k => hag.i (by omega) k
      have uS : ∀ k, gI g1 (a + 1) k = gI g (a + 1) k := fun k => hag.i (by omega) k
      obtain ⟨g', r, e2, h2, h3, h4⟩ := ih (p + 1) (gsI (gsI g1 (a + 1) p (nI (sn p))) a 5 (nI (p + 1))) n (by omega) (by omega) (by omega) (by
        refine ⟨k6, l80, ?_, fun k hk => ⟨?_, (hs k hk).2⟩⟩
        · rw [gI_I, if_neg (fun z => by omega), gI_I, if_neg (fun z => by omega), u0, hl]
        · rw [gI_I, if_neg (fun z => by omega), gI_I, if_neg (fun z => by omega), u1, (hs k hk).1]) (by
        refine ⟨hx.mo (fun k hk => ?_) (fun i h2 h6 k => ?_), ?_, fun k hk => ?_⟩
        · rw [gI_I, if_neg (fun z => hk z.2), gI_I, if_neg (fun z => by omega)]
        · rw [gI_I, if_neg (fun z => by omega), gI_I, if_neg (fun z => by omega)]
        · rw [gI_I, if_pos ⟨rfl, rfl⟩]
        · rw [gI_I, if_neg (fun z => by omega), gI_I]
          by_cases hkp : k = p
          · rw [if_pos ⟨rfl, hkp⟩, hkp]
          · rw [if_neg (fun z => hkp z.2), uS, hR.2.2 k (by omega)]) c9
      refine ⟨g', r, ?_, h2, ?_, h4⟩
      · rw [← e2]
        simp (disch := omega) [EV, NUM, pu_lit, pu_gok, pu_cl, hs1, e, u1, pu_char, pu_eq]
      · exact ((AG.mo hag (fun q hq => by omega)).ai (by omega)).ai (by omega) |>.tr h3
theorem faultOf (hpa : p0 + 1 < a) (hP : PAD K g p0 sn L) : ∃ g' r, f6_faultOf K g a p0 = some (g', r) ∧ FLT sn L r ∧ AG (fun q => a ≤ q ∧ q ≤ a + 6) g g' ∧ (r = -nI 6 → RD g' a sn L ∧ VC sn L ∧ cc sn L ≠ 9) := by
  obtain ⟨k6, l80, hl, hs⟩ := hP
  let g1 := gsI (gsI (gsI (gsI (gsI (gsI (gsI g a 5 0) a 6 0) a 7 0) a 8 0) a 10 0) a 12 0) a 11 0
  have ag : AG (fun q => a ≤ q ∧ q ≤ a + 6) g g1 := by
    refine AG.ai (AG.ai (AG.ai (AG.ai (AG.ai (AG.ai (AG.ai AG.rf ?_) ?_) ?_) ?_) ?_) ?_) ?_ <;> omega
  obtain ⟨g', r, h1, h2, h3, h4⟩ := fault_loop (K := K) (sn := sn) (L := L) hpa L 0 g1 FU rfl (Nat.zero_le _) (by unfold FU; omega) ⟨k6, l80, by rw [ag.i (by omega)]; exact hl, fun k hk => by rw [ag.i (by omega)]; exact hs k hk⟩ (by
    refine ⟨⟨?_, ?_, ?_, ?_, ?_, ?_, arr0, fun j hj => absurd hj (Nat.not_lt_zero j)⟩, ?_, fun k hk => absurd hk (Nat.not_lt_zero k)⟩ <;> simp [g1, gI_I] <;> rfl) (show (0 : Nat) ≠ 9 by decide)
  refine ⟨g', r, ?_, h2, ag.tr h3, h4⟩
  rw [← h1]
  unfold f6_faultOf
  show gd (decide (gkd K p0 = 6)) (gl (if 80 < gI g1 p0 1 then 80 else gI g1 p0 1) fun v27 => f6_faultOf_47 K a p0 FU g1 v27 0) = _
  have : gI g1 p0 1 = nI L := by rw [ag.i (by omega)]; exact hl
  rw [this, k6, if_neg (show ¬ (80 : Int32) < nI L from fun z => by have := (nI_ltI (a := 80) (by omega) (by omega)).mp z; omega)]
  rfl
end FAULT
