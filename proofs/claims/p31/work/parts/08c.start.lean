def kt7L : List (Nat × Nat) := [(8, 0), (6, 0), (11, 80), (7, 0), (11, 80), (10, 80), (10, 80), (10, 80), (10, 80), (10, 3), (5, 0), (13, 10), (10, 10), (10, 3), (10, 6), (10, 6), (10, 6), (10, 6), (12, 400), (1, 0), (10, 9), (10, 9), (10, 9), (10, 36), (10, 36), (13, 9), (5, 0), (13, 10), (10, 10), (10, 3), (10, 6), (10, 6), (10, 6), (10, 6), (12, 400), (1, 0), (10, 9), (10, 9), (10, 9), (10, 36), (10, 36), (13, 9), (4, 0), (14, 6), (5, 0), (13, 10), (10, 10), (10, 3), (10, 6), (10, 6), (10, 6), (10, 6), (12, 400), (1, 0), (10, 9), (10, 9), (10, 9), (10, 36), (10, 36), (13, 9), (5, 0), (13, 10), (10, 10), (10, 3), (10, 6), (10, 6), (10, 6), (10, 6), (12, 400), (1, 0), (10, 9), (10, 9), (10, 9), (10, 36), (10, 36), (13, 9), (5, 0), (13, 10), (10, 10), (10, 3), (10, 6), (10, 6), (10, 6), (10, 6), (12, 400), (1, 0), (10, 9), (10, 9), (10, 9), (10, 36), (10, 36), (13, 9), (5, 0), (13, 10), (10, 10), (10, 3), (10, 6), (10, 6), (10, 6), (10, 6), (12, 400), (1, 0), (10, 9), (10, 9), (10, 9), (10, 36), (10, 36), (13, 9), (5, 0), (13, 10), (10, 10), (10, 3), (10, 6), (10, 6), (10, 6), (10, 6), (12, 400), (1, 0), (10, 9), (10, 9), (10, 9), (10, 36), (10, 36), (13, 9), (5, 0), (13, 10), (10, 10), (10, 3), (10, 6), (10, 6), (10, 6), (10, 6), (12, 400), (1, 0), (10, 9), (10, 9), (10, 9), (10, 36), (10, 36), (13, 9), (14, 2), (3, 0), (10, 10), (10, 60)]
def kt7 (i : Nat) : Nat × Nat := kt7L.getD i (0, 0)
def gi7 (i : Nat) : Nat → Int32 := if i < 10 then (fun _ => 0) else if i < 26 then giLm (i - 10) else if i < 42 then giLm (i - 26) else if i < 44 then (fun _ => 0) else if i < 140 then giLm ((i - 44) % 16) else (fun _ => 0)
def gr7 (B : Nat) (i : Nat) : Nat → Option Nat := if i = 43 then (va_up (va_up (va_up (va_up (va_up (va_up (fun _ => none) 0 (some (B + 44))) 1 (some (B + 60))) 2 (some (B + 76))) 3 (some (B + 92))) 4 (some (B + 108))) 5 (some (B + 124))) else (fun _ => none)
def k0 (B : Nat) : GK := (fun q => if q < B then (0, 0) else if q < B + 144 then kt7 (q - B) else (0, 0), B + 152)
def g0 (B : Nat) : GM := gGx (fun _ _ => 0, fun _ _ => none) B gi7 (gr7 B)
def L0 : GS := fun _ _ => 0
theorem k0_at {B i : Nat} (h : i < 144) : (k0 B).1 (B + i) = kt7 i := by
  unfold k0
  simp only []
  rw [if_neg (by omega), if_pos (by omega), show B + i - B = i by omega]
theorem k0_no {B q : Nat} (h : q < B ∨ B + 144 ≤ q) : (k0 B).1 q = (0, 0) := by
  unfold k0
  simp only []
  rcases h with h | h
  · rw [if_pos h]
  · rw [if_neg (by omega), if_neg (by omega)]
set_option maxRecDepth 100000 in
set_option maxHeartbeats 8000000 in
theorem c7_cells (w : GW) (B : Nat) : ∀ i, i < 144 → gcellB w (B + i) (kt7 i) (gi7 i) (gr7 B i) = some (fX7 w B i) := (lt_s (lt_s (lt_s (lt_s (lt_s (lt_s (lt_s (lt_s (lt_s (lt_s (lt_s (lt_s (lt_s (lt_s (lt_s (lt_s (lt_s (lt_s (lt_s (lt_s (lt_s (lt_s (lt_s (lt_s (lt_s (lt_s (lt_s (lt_s (lt_s (lt_s (lt_s (lt_s (lt_s (lt_s (lt_s (lt_s (lt_s (lt_s (lt_s (lt_s (lt_s (lt_s (lt_s (lt_s (lt_s (lt_s (lt_s (lt_s (lt_s (lt_s (lt_s (lt_s (lt_s (lt_s (lt_s (lt_s (lt_s (lt_s (lt_s (lt_s (lt_s (lt_s (lt_s (lt_s (lt_s (lt_s (lt_s (lt_s (lt_s (lt_s (lt_s (lt_s (lt_s (lt_s (lt_s (lt_s (lt_s (lt_s (lt_s (lt_s (lt_s (lt_s (lt_s (lt_s (lt_s (lt_s (lt_s (lt_s (lt_s (lt_s (lt_s (lt_s (lt_s (lt_s (lt_s (lt_s (lt_s (lt_s (lt_s (lt_s (lt_s (lt_s (lt_s (lt_s (lt_s (lt_s (lt_s (lt_s (lt_s (lt_s (lt_s (lt_s (lt_s (lt_s (lt_s (lt_s (lt_s (lt_s (lt_s (lt_s (lt_s (lt_s (lt_s (lt_s (lt_s (lt_s (lt_s (lt_s (lt_s (lt_s (lt_s (lt_s (lt_s (lt_s (lt_s (lt_s (lt_s (lt_s (lt_s (lt_s (lt_s (lt_s (lt_s (lt_s lt_0 rfl) rfl) rfl) rfl) rfl) rfl) rfl) rfl) rfl) rfl) rfl) rfl) rfl) rfl) rfl) rfl) rfl) rfl) rfl) rfl) rfl) rfl) rfl) rfl) rfl) rfl) rfl) rfl) rfl) rfl) rfl) rfl) rfl) rfl) rfl) rfl) rfl) rfl) rfl) rfl) rfl) rfl) rfl) rfl) rfl) rfl) rfl) rfl) rfl) rfl) rfl) rfl) rfl) rfl) rfl) rfl) rfl) rfl) rfl) rfl) rfl) rfl) rfl) rfl) rfl) rfl) rfl) rfl) rfl) rfl) rfl) rfl) rfl) rfl) rfl) rfl) rfl) rfl) rfl) rfl) rfl) rfl) rfl) rfl) rfl) rfl) rfl) rfl) rfl) rfl) rfl) rfl) rfl) rfl) rfl) rfl) rfl) rfl) rfl) rfl) rfl) rfl) rfl) rfl) rfl) rfl) rfl) rfl) rfl) rfl) rfl) rfl) rfl) rfl) rfl) rfl) rfl) rfl) rfl) rfl) rfl) rfl) rfl) rfl) rfl) rfl) rfl) rfl) rfl) rfl) rfl) rfl) rfl) rfl) rfl) rfl) rfl) rfl) rfl) rfl) rfl) rfl) rfl) rfl)
set_option maxRecDepth 100000 in
theorem kt7_subs : ∀ i, i < 144 → ∀ t ∈ gsubs (kt7 i).1 (kt7 i).2, i + t.1 < 144 ∧ kt7 (i + t.1) = t.2 := by decide +kernel
def fA (w : GW) (i : Nat) : va_E := .inl (w.2.1 0, gmlen i, .inl (fun _ => 0))
theorem c8_cells (w : GW) : ∀ i, i < 8 → gmcell w L0 i = fA w i := fun _ _ => rfl
theorem HR.start {w : GW} {H : Heap} (hM : w.2.2.2 = w.2.2.1 + 144) (h1 : ∀ i, i < 144 → va_at w.1 vwCl (w.2.2.1 + i, fX7 w w.2.2.1 i) H) (h2 : NX w (w.2.2.1 + 144) 8 (fA w) H) : HR w (k0 w.2.2.1) (g0 w.2.2.1) L0 H := by
  refine ⟨by rw [h2.1]; rfl, fun a e he => ?_, fun k hk => ?_, by omega, by show w.2.2.2 + 8 ≤ w.2.2.1 + 152; omega, fun a ha => ?_, fun a t ht => ?_⟩
  · by_cases hr : a < w.2.2.1 ∨ w.2.2.1 + 144 ≤ a
    · rw [gcell_B, k0_no hr] at he
      cases he
    · obtain ⟨i, rfl, hi⟩ : ∃ i, a = w.2.2.1 + i ∧ i < 144 := ⟨a - w.2.2.1, by omega, by omega⟩
      rw [gcell_B, k0_at hi] at he
      unfold g0 at he
      rw [gGx_at1, gGx_at2, c7_cells w _ i hi] at he
      cases he
      exact h1 i hi
  · rw [c8_cells w k hk, hM]
    exact h2.2 k hk
  · by_cases hr : a < w.2.2.1 ∨ w.2.2.1 + 144 ≤ a
    · exact absurd (by unfold gkd; rw [k0_no hr]) ha
    · exact ⟨by omega, by omega, by show a < w.2.2.1 + 152; omega⟩
  · by_cases hr : a < w.2.2.1 ∨ w.2.2.1 + 144 ≤ a
    · unfold gkd gkn at ht
      rw [k0_no hr] at ht
      exact absurd ht List.not_mem_nil
    · obtain ⟨i, rfl, hi⟩ : ∃ i, a = w.2.2.1 + i ∧ i < 144 := ⟨a - w.2.2.1, by omega, by omega⟩
      unfold gkd gkn at ht
      rw [k0_at hi] at ht
      obtain ⟨q1, q2⟩ := kt7_subs i hi t ht
      rw [Nat.add_assoc, k0_at q1]
      exact q2
set_option maxRecDepth 100000 in
set_option maxHeartbeats 8000000 in
theorem start_known {s : State} {args : Array Value} (hts : ∀ w ∈ lw_tbl, w.before args s = true) (B : Nat) : ∃ w : GW, w.2.2.1 = B ∧ w.2.2.2 = B + 144 ∧ KN w s := by
  have htg : ∀ w ∈ gALL, w.before args s = true := fun w h => hts w (gall h).1
  have hk : ∀ k : Nat, ∃ (cC : ClassId) (iS : Nat → Nat), ∀ q, vwCl[k]? = some q → u_Kn s q.1 q.2.1 q.2.2 cC iS := by
    intro k
    match k with
    | 0 => exact (u_known (C := RX0) (T := TX0) (N := 7) (n := 7) htg inlX0 (htg _ wd_62)).elim fun cC h => h.elim fun iS h => ⟨cC, iS, fun q hq => by cases hq; exact h⟩
    | 1 => exact (u_known (C := RX1) (T := TX1) (N := 9) (n := 9) htg inlX1 (htg _ wd_296)).elim fun cC h => h.elim fun iS h => ⟨cC, iS, fun q hq => by cases hq; exact h⟩
    | 2 => exact (u_known (C := RX2) (T := TX2) (N := 2) (n := 2) htg inlX2 (htg _ wd_29)).elim fun cC h => h.elim fun iS h => ⟨cC, iS, fun q hq => by cases hq; exact h⟩
    | 3 => exact (u_known (C := RX3) (T := TX3) (N := 2) (n := 2) htg inlX3 (htg _ wd_24)).elim fun cC h => h.elim fun iS h => ⟨cC, iS, fun q hq => by cases hq; exact h⟩
    | 4 => exact (u_known (C := RX4) (T := TX4) (N := 13) (n := 13) htg inlX4 (htg _ wd_19)).elim fun cC h => h.elim fun iS h => ⟨cC, iS, fun q hq => by cases hq; exact h⟩
    | 5 => exact (u_known (C := RX5) (T := TX5) (N := 2) (n := 2) htg inlX5 (htg _ wd_11)).elim fun cC h => h.elim fun iS h => ⟨cC, iS, fun q hq => by cases hq; exact h⟩
    | 6 => exact (u_known (C := RX6) (T := TX6) (N := 13) (n := 13) htg inlX6 (htg _ wd_15)).elim fun cC h => h.elim fun iS h => ⟨cC, iS, fun q hq => by cases hq; exact h⟩
    | 7 => exact (u_known (C := RX7) (T := TX7) (N := 7) (n := 7) htg inlX7 (htg _ wd_1)).elim fun cC h => h.elim fun iS h => ⟨cC, iS, fun q hq => by cases hq; exact h⟩
    | k + 8 => exact ⟨0, fun _ => 0, fun q hq => by simp at hq⟩
  have hd : ∃ (dC : Nat → ClassId) (dI : Nat → Nat → Nat), ∀ (k : Nat) (q : vw_C), vwCl[k]? = some q → u_Kn s q.1 q.2.1 q.2.2 (dC k) (dI k) :=
    ⟨fun k => Classical.choose (hk k), fun k => Classical.choose (Classical.choose_spec (hk k)), fun k q hq => Classical.choose_spec (Classical.choose_spec (hk k)) q hq⟩
  obtain ⟨dC, dI, hKc⟩ := hd
  obtain ⟨a0, k0, m0, i1, i2, i3⟩ := Cond.arrayClass_spec (htg _ wd_3)
  obtain ⟨a1, k1, m1, c1, c2, c3⟩ := Cond.arrayClass_spec (htg _ wd_35)
  obtain ⟨a2, k2, m2, b1, b2, b3⟩ := Cond.arrayClass_spec (htg _ wd_59)
  have hAO3 : (Cond.arrayOver (.object "CallingLooms$CardText")).before args s = true := hts _ (List.mem_of_getElem? (i := 116) (by decide +kernel))
  have hAO4 : (Cond.arrayOver (.object "CallingLooms$Loom")).before args s = true := hts _ (List.mem_of_getElem? (i := 212) (by decide +kernel))
  obtain ⟨m3, a3, k3, t1, t0, t2, t3, t4⟩ := Cond.arrayOver_spec hAO3
  obtain ⟨m4, a4, k4, l1, l0, l2, l3, l4⟩ := Cond.arrayOver_spec hAO4
  refine ⟨((dC, dI), (fun t => if t = 0 then a0 else if t = 1 then a1 else if t = 2 then a2 else if t = 3 then a3 else a4), B, B + 144), rfl, rfl, ⟨hKc, fun k q hq => ?_⟩, ?_, va_AO.of hAO3, va_AO.of hAO4⟩
  · match k, hq with
    | 0, hq => cases hq; exact ⟨fun n z => ⟨fun _ h => (by cases h), k0, i2, m0, i3⟩, i1⟩
    | 1, hq => cases hq; exact ⟨fun n z => ⟨fun _ h => (by cases h), k1, c2, m1, c3⟩, c1⟩
    | 2, hq => cases hq; exact ⟨fun n z => ⟨fun _ h => (by cases h), k2, b2, m2, b3⟩, b1⟩
    | 3, hq => cases hq; exact ⟨fun n z => ⟨fun _ h => (by cases h), k3, t2, m3, t3⟩, k3, m3, t2, t3, t1, t4⟩
    | 4, hq => cases hq; exact ⟨fun n z => ⟨fun _ h => (by cases h), k4, l2, m4, l3⟩, k4, m4, l2, l3, l1, l4⟩
    | k + 5, hq => simp at hq
  · intro x hx
    simp only [gnests, List.mem_cons, List.not_mem_nil, or_false] at hx
    rcases hx with rfl | rfl | rfl | rfl | rfl | rfl | rfl | rfl | rfl
    · exact va_Nw.of rfl (hts _ (List.mem_of_getElem? (i := 333) (by decide +kernel)))
    · exact va_Nw.of rfl (hts _ (List.mem_of_getElem? (i := 334) (by decide +kernel)))
    · exact va_Nw.of rfl (hts _ (List.mem_of_getElem? (i := 629) (by decide +kernel)))
    · exact va_Nw.of rfl (hts _ (List.mem_of_getElem? (i := 317) (by decide +kernel)))
    · exact va_Nw.of rfl (hts _ (List.mem_of_getElem? (i := 321) (by decide +kernel)))
    · exact va_Nw.of rfl (hts _ (List.mem_of_getElem? (i := 119) (by decide +kernel)))
    · exact va_Nw.of rfl (hts _ (List.mem_of_getElem? (i := 38) (by decide +kernel)))
    · exact va_Nw.of rfl (hts _ (List.mem_of_getElem? (i := 55) (by decide +kernel)))
    · exact va_Nw.of rfl (hts _ (List.mem_of_getElem? (i := 224) (by decide +kernel)))
set_option maxRecDepth 100000 in
set_option maxHeartbeats 8000000 in
theorem start_GST {s : State} {b : Nat} {w : GW} (hw : w.2.2.1 = s.heap.size) (hts : ∀ w ∈ lw_tbl, w.before #[Value.ref b] s = true) (hgv : (Jvm.Cond.and given_1 narrow_1).before #[Value.ref b] s = true) : GST w s := by
  have hs := flat_of_before _ hgv
  have hA : ∀ a : Nat, a < s.heap.size → ¬ FR w a := fun a h => by show ¬ w.2.2.1 ≤ a; omega
  obtain ⟨t1, et1, Tt1⟩ := va_Tof (args := #[Value.ref b]) (s := s) (tm := .static "CallingLooms" "SETTING_LOWEST" "[I") (ty := .int) (N := 3) (f := fun j => .int (gLow j)) (A := FR w) (by decide) (hs _ (by decide +kernel)) (va_eqt (hs _ (by decide +kernel))) (lt_s (lt_s (lt_s lt_0 (va_eqt (t := .elem (.static "CallingLooms" "SETTING_LOWEST" "[I") (.int (0 : Int32))) (hs _ (by decide +kernel)))) (va_eqt (t := .elem (.static "CallingLooms" "SETTING_LOWEST" "[I") (.int (1 : Int32))) (hs _ (by decide +kernel)))) (va_eqt (t := .elem (.static "CallingLooms" "SETTING_LOWEST" "[I") (.int (2 : Int32))) (hs _ (by decide +kernel)))) hA
  obtain ⟨t2, et2, Tt2⟩ := va_Tof (args := #[Value.ref b]) (s := s) (tm := .static "CallingLooms" "SETTING_HIGHEST" "[I") (ty := .int) (N := 3) (f := fun j => .int (gHigh j)) (A := FR w) (by decide) (hs _ (by decide +kernel)) (va_eqt (hs _ (by decide +kernel))) (lt_s (lt_s (lt_s lt_0 (va_eqt (t := .elem (.static "CallingLooms" "SETTING_HIGHEST" "[I") (.int (0 : Int32))) (hs _ (by decide +kernel)))) (va_eqt (t := .elem (.static "CallingLooms" "SETTING_HIGHEST" "[I") (.int (1 : Int32))) (hs _ (by decide +kernel)))) (va_eqt (t := .elem (.static "CallingLooms" "SETTING_HIGHEST" "[I") (.int (2 : Int32))) (hs _ (by decide +kernel)))) hA
  have hini := hts _ (gall wd_2).1
  refine ⟨t1, t2, va_Zof (hts (.laysStatic "CallingLooms" "SETTING_LOWEST" "[I") (List.mem_of_getElem? (i := 569) (by decide +kernel))) hini et1 hA, Tt1, va_Zof (hts (.laysStatic "CallingLooms" "SETTING_HIGHEST" "[I") (List.mem_of_getElem? (i := 571) (by decide +kernel))) hini et2 hA, Tt2⟩
set_option maxRecDepth 100000 in
set_option maxHeartbeats 8000000 in
/-- the law from its entry, out of what its pure function answers -/
theorem start_of (HP : ∀ (xs : Nat → Int32) (L B : Nat), L ≤ 260 → f9_law (k0 B) (g0 B) L0 xs L B = some 1) {p : Program} {e : Env} {s : State} {m : MethodId} {below : List Frame} {meth : Method} {c : Code} (l : Launch) {b L : Nat} {xs : Nat → Int32} (hL : L ≤ 260) (C0 : lw_At p s m meth c b L xs) : W p l e room_1 s m #[Value.ref b] below meth c s.heap [] 0 0 (lw_Z below #[Value.ref b] s) (entryFrame m ([Value.ref b] : List Value).toArray 19) := by
  obtain ⟨hx, hb, hr, hml, hown, hts0, hX, hbl, hlocks, hgv⟩ := id C0
  have hts : ∀ q ∈ gALL, q.before #[Value.ref b] s = true := fun q h => hts0 q (gall h).1
  obtain ⟨w, hw, hM, hK⟩ := start_known hts0 s.heap.size
  have hG := start_GST hw hts0 hgv
  have hM : w.2.2.2 = w.2.2.1 + 144 := by omega
  have hS : va_S (FR w) s.heap s.heap [] := va_S.rf
  have hA : ∀ q, w.2.2.1 ≤ q → FR w q := fun q h => h
  have hl := lv_entry ([.ref b]) (n := 19) (Nat.le_of_ble_eq_true rfl)
  rw [lg_entry_eq]
  generalize (lg_sl ([.ref b]) ++ List.replicate (19 - (lg_sl ([.ref b])).length) Slot.unset).toArray = ls at hl ⊢
  have hl : lv_has ls 19 [(0, .ref b)] := hl
  have hN : NX w w.2.2.1 0 (fun _ => .inr (0, [])) s.heap := ⟨hw.symm, fun i h => absurd h (Nat.not_lt_zero i)⟩
  refine x_new (ci := 7) (fs := [.null, .null, .null, .null, .null, .null, .null]) hx hb hts inlX7 tyX7 tyX7_ok hown (hts _ wd_0) (hts _ wd_1) (hts _ wd_2) hK rfl co_dec_7 hN hS hA (Nat.le_of_ble_eq_true rfl) (Nat.le_of_ble_eq_true rfl) dL_law_0 (fun H hN hq hS => ?_)
  refine lv_dup hx hb dL_law_3 rfl ?_
  refine x_init (n := 0) (rest := [.ref (w.2.2.1 + 0)]) ⟨hx, hb, hml, hown, hts⟩ (cX7_ctor l w (w.2.2.1 + 0)) (gcwI hts wd_6 wd_5 wd_2 wd_4 ⟨by decide +kernel, by decide +kernel, by decide +kernel⟩ rfl rfl rfl ⟨Nat.le_of_ble_eq_true rfl, Nat.le_of_ble_eq_true rfl⟩) hN rfl hK hS hA hl.1 rfl (Nat.le_of_ble_eq_true rfl) dL_law_4 ⟨Nat.le_of_ble_eq_true rfl, Nat.le_of_ble_eq_true rfl⟩ (fun H locs hN hq hS => ?_)
  have hN1 : NX w w.2.2.1 144 (fX7 w w.2.2.1) H := by
    have h : NX w w.2.2.1 (0 + 144) _ H := hN
    rw [Nat.zero_add] at h
    exact h.to (fun i hi => by show (if i < 0 then _ else fX7 w (w.2.2.1 + 0) (i - 0)) = _; rw [if_neg (Nat.not_lt_zero i)]; rfl)
  refine lv_astore_n (lv' := [(1, .ref w.2.2.1), (0, .ref b)]) hx hb dL_law_7 rfl hl (by decide) rfl (fun ls hl => ?_)
  have hq0 : ∀ q, q < w.2.2.1 + 144 → H[q]? = H[q]? := fun _ _ => rfl
  have hN : NX w (w.2.2.1 + 144) 0 (fun _ => .inr (0, [])) H := ⟨hN1.1, fun i h => absurd h (Nat.not_lt_zero i)⟩
  have hA2 : ∀ q, w.2.2.1 + 144 ≤ q → FR w q := fun q h => by show w.2.2.1 ≤ q; omega
  refine lv_bipush (v := 10) hx hb dL_law_8 (by decide) ?_
  refine x_newa (atype := .int) (ty := .int) (t := 0) (N := 10) hx hb (hts _ wd_3) rfl rfl (nm_int hK) hN hS hA2 (by decide) rfl (by decide) (Nat.le_of_ble_eq_true rfl) (Nat.le_of_ble_eq_true rfl) dL_law_10 (fun H1 hN hq1 hS => ?_)
  refine lv_astore_n (lv' := [(2, .ref (w.2.2.1 + 144 + 0)), (1, .ref w.2.2.1), (0, .ref b)]) hx hb dL_law_12 rfl hl (by decide) rfl (fun ls hl => ?_)
  refine lv_bipush (v := 24) hx hb dL_law_13 (by decide) ?_
  refine x_newa (atype := .int) (ty := .int) (t := 0) (N := 24) hx hb (hts _ wd_3) rfl rfl (nm_int hK) hN hS hA2 (by decide) rfl (by decide) (Nat.le_of_ble_eq_true rfl) (Nat.le_of_ble_eq_true rfl) dL_law_15 (fun H2 hN hq2 hS => ?_)
  refine lv_astore_n (lv' := [(3, .ref (w.2.2.1 + 144 + 1)), (2, .ref (w.2.2.1 + 144 + 0)), (1, .ref w.2.2.1), (0, .ref b)]) hx hb dL_law_17 rfl hl (by decide) rfl (fun ls hl => ?_)
  refine lv_bipush (v := 30) hx hb dL_law_18 (by decide) ?_
  refine x_newa (atype := .int) (ty := .int) (t := 0) (N := 30) hx hb (hts _ wd_3) rfl rfl (nm_int hK) hN hS hA2 (by decide) rfl (by decide) (Nat.le_of_ble_eq_true rfl) (Nat.le_of_ble_eq_true rfl) dL_law_20 (fun H3 hN hq3 hS => ?_)
  refine lv_astore (lv' := [(4, .ref (w.2.2.1 + 144 + 2)), (3, .ref (w.2.2.1 + 144 + 1)), (2, .ref (w.2.2.1 + 144 + 0)), (1, .ref w.2.2.1), (0, .ref b)]) hx hb dL_law_22 hl (by decide) rfl (fun ls hl => ?_)
  refine lv_bipush (v := 10) hx hb dL_law_24 (by decide) ?_
  refine x_newa (atype := .int) (ty := .int) (t := 0) (N := 10) hx hb (hts _ wd_3) rfl rfl (nm_int hK) hN hS hA2 (by decide) rfl (by decide) (Nat.le_of_ble_eq_true rfl) (Nat.le_of_ble_eq_true rfl) dL_law_26 (fun H4 hN hq4 hS => ?_)
  refine lv_astore (lv' := [(5, .ref (w.2.2.1 + 144 + 3)), (4, .ref (w.2.2.1 + 144 + 2)), (3, .ref (w.2.2.1 + 144 + 1)), (2, .ref (w.2.2.1 + 144 + 0)), (1, .ref w.2.2.1), (0, .ref b)]) hx hb dL_law_28 hl (by decide) rfl (fun ls hl => ?_)
  refine lv_bipush (v := 54) hx hb dL_law_30 (by decide) ?_
  refine x_newa (atype := .int) (ty := .int) (t := 0) (N := 54) hx hb (hts _ wd_3) rfl rfl (nm_int hK) hN hS hA2 (by decide) rfl (by decide) (Nat.le_of_ble_eq_true rfl) (Nat.le_of_ble_eq_true rfl) dL_law_32 (fun H5 hN hq5 hS => ?_)
  refine lv_astore (lv' := [(6, .ref (w.2.2.1 + 144 + 4)), (5, .ref (w.2.2.1 + 144 + 3)), (4, .ref (w.2.2.1 + 144 + 2)), (3, .ref (w.2.2.1 + 144 + 1)), (2, .ref (w.2.2.1 + 144 + 0)), (1, .ref w.2.2.1), (0, .ref b)]) hx hb dL_law_34 hl (by decide) rfl (fun ls hl => ?_)
  refine lv_bipush (v := 54) hx hb dL_law_36 (by decide) ?_
  refine x_newa (atype := .int) (ty := .int) (t := 0) (N := 54) hx hb (hts _ wd_3) rfl rfl (nm_int hK) hN hS hA2 (by decide) rfl (by decide) (Nat.le_of_ble_eq_true rfl) (Nat.le_of_ble_eq_true rfl) dL_law_38 (fun H6 hN hq6 hS => ?_)
  refine lv_astore (lv' := [(7, .ref (w.2.2.1 + 144 + 5)), (6, .ref (w.2.2.1 + 144 + 4)), (5, .ref (w.2.2.1 + 144 + 3)), (4, .ref (w.2.2.1 + 144 + 2)), (3, .ref (w.2.2.1 + 144 + 1)), (2, .ref (w.2.2.1 + 144 + 0)), (1, .ref w.2.2.1), (0, .ref b)]) hx hb dL_law_40 hl (by decide) rfl (fun ls hl => ?_)
  refine lv_bipush (v := 54) hx hb dL_law_42 (by decide) ?_
  refine x_newa (atype := .int) (ty := .int) (t := 0) (N := 54) hx hb (hts _ wd_3) rfl rfl (nm_int hK) hN hS hA2 (by decide) rfl (by decide) (Nat.le_of_ble_eq_true rfl) (Nat.le_of_ble_eq_true rfl) dL_law_44 (fun H7 hN hq7 hS => ?_)
  refine lv_astore (lv' := [(8, .ref (w.2.2.1 + 144 + 6)), (7, .ref (w.2.2.1 + 144 + 5)), (6, .ref (w.2.2.1 + 144 + 4)), (5, .ref (w.2.2.1 + 144 + 3)), (4, .ref (w.2.2.1 + 144 + 2)), (3, .ref (w.2.2.1 + 144 + 1)), (2, .ref (w.2.2.1 + 144 + 0)), (1, .ref w.2.2.1), (0, .ref b)]) hx hb dL_law_46 hl (by decide) rfl (fun ls hl => ?_)
  refine lv_bipush (v := 40) hx hb dL_law_48 (by decide) ?_
  refine x_newa (atype := .int) (ty := .int) (t := 0) (N := 40) hx hb (hts _ wd_3) rfl rfl (nm_int hK) hN hS hA2 (by decide) rfl (by decide) (Nat.le_of_ble_eq_true rfl) (Nat.le_of_ble_eq_true rfl) dL_law_50 (fun H8 hN hq8 hS => ?_)
  refine lv_astore (lv' := [(9, .ref (w.2.2.1 + 144 + 7)), (8, .ref (w.2.2.1 + 144 + 6)), (7, .ref (w.2.2.1 + 144 + 5)), (6, .ref (w.2.2.1 + 144 + 4)), (5, .ref (w.2.2.1 + 144 + 3)), (4, .ref (w.2.2.1 + 144 + 2)), (3, .ref (w.2.2.1 + 144 + 1)), (2, .ref (w.2.2.1 + 144 + 0)), (1, .ref w.2.2.1), (0, .ref b)]) hx hb dL_law_52 hl (by decide) rfl (fun ls hl => ?_)
  have hN2 : NX w (w.2.2.1 + 144) 8 (fA w) H8 := hN.to ((lt_s (lt_s (lt_s (lt_s (lt_s (lt_s (lt_s (lt_s lt_0 rfl) rfl) rfl) rfl) rfl) rfl) rfl) rfl))
  have hqq : ∀ q, q < w.2.2.1 + 144 → H8[q]? = H[q]? := fun q h => (hq8 q h).trans ((hq7 q h).trans ((hq6 q h).trans ((hq5 q h).trans ((hq4 q h).trans ((hq3 q h).trans ((hq2 q h).trans (hq1 q h)))))))
  have hH : HR w (k0 w.2.2.1) (g0 w.2.2.1) L0 H8 := HR.start hM (fun i hi => (hN1.2 i hi).kept (hqq _ (by show w.2.2.1 + i < _; omega))) hN2
  have hl : lv_has ls 19 [(0, .ref b), (1, .ref w.2.2.1), (2, .ref (w.2.2.2 + 0)), (3, .ref (w.2.2.2 + 1)), (4, .ref (w.2.2.2 + 2)), (5, .ref (w.2.2.2 + 3)), (6, .ref (w.2.2.2 + 4)), (7, .ref (w.2.2.2 + 5)), (8, .ref (w.2.2.2 + 6)), (9, .ref (w.2.2.2 + 7))] := by rw [hM]; exact lv_sub hl [9, 8, 7, 6, 5, 4, 3, 2, 1, 0] rfl
  exact law_main l C0 w w.2.2.1 hw hK hG (k0 w.2.2.1) (g0 w.2.2.1) L0 _ _ _ _ _ hH hS hl (by have h := k0_at (B := w.2.2.1) (i := 0) (by omega); unfold gkd; rw [show w.2.2.1 = w.2.2.1 + 0 from rfl] ; rw [show (k0 (w.2.2.1 + 0)).1 (w.2.2.1 + 0) = kt7 0 from h]; rfl) (Nat.le_of_ble_eq_true rfl) (Nat.le_of_ble_eq_true rfl) (HP xs L w.2.2.1 hL)
