/-! THE CLAIM OUT OF ONE WALK OF THE LAW'S BODY. Your part is whole_start (and what it stands on); all else here is the same for every law, but numbers. -/
def R_law : String := "CallingLoomsLaw"
def lw_P (b : Addr) (xs : List Int32) (args : Array Value) (s : State) : Prop := args = #[.ref b] ∧ s.IntsAt b xs ∧ xs.length ≤ 260 ∧ (Jvm.Cond.and given_1 narrow_1).before args s = true
def lw_Q (_ : Array Value) (s : State) (o : Outcome) (t : State) : Prop := o = .returned (some (.int 1)) ∧ Framed s o t [] 600000 7302250
def lw_Z (below : List Frame) (a : Array Value) (s : State) : State → Prop := fun t => ∃ o, t.status = .running ∧ Ended t below o ∧ lw_Q a s o t
/-- the law's own end, with 1 on the stack, nothing written that was there before, its room as the claim has it -/
theorem lw_ret {p : Program} {l : Launch} {e : Env} {s : State} {m : MethodId} {below : List Frame} {meth : Method} {c : Code} {b : Nat} (hx : p.tables.exec = Jvm.exec) (hb : c.code = code) (hr : meth.sig.returnType = ret) (hlocks : meth.locks = false) {pc : Nat} {H : Heap} {ls : Array Slot} (hdg : decode code pc = .ok (.ireturn, 1)) : W p l e room_1 s m #[Value.ref b] below meth c H [] 600000 7302250 (lw_Z below #[Value.ref b] s) (F0 m pc ls [.int 1]) := by
  intro T hT X
  obtain ⟨fs, hret, hrun, hended, hW, hframe⟩ := X.leave (v := some (.int 1)) (hlocks := hlocks) (fun h => by rw [hr] at h; cases h)
  have hmeth' : T.vm.method? m = some meth := X.method'
  refine ⟨T.setFrames fs, ?_, .returned (some (.int 1)), hrun, hended, rfl, ⟨_, rfl⟩, hW, hframe⟩
  jvm_step X.here [X.here.top, hx, hb, hdg, hmeth', hr, ret, narrow_b1]
  (try refine ⟨rfl, ?_⟩); (try refine ⟨rfl, ?_⟩)
  first | (intro acts; rw [hret _ acts rfl rfl rfl]) | rw [hret _ _ rfl rfl rfl]
  exact Steps.refl _
/-- what holds at the law's entry: the machine, the code, the tables' words (any of lw_tbl by 'hts w (by decide +kernel)'), the script of L ints xs at the cell b, what the Statement gives of the start (any of its parts by flat_of_before) -/
def lw_At (p : Program) (s : State) (m : MethodId) (meth : Method) (c : Code) (b L : Nat) (xs : Nat → Int32) : Prop :=
  p.tables.exec = Jvm.exec ∧ c.code = code ∧ meth.sig.returnType = ret ∧ c.maxLocals = 19 ∧ s.vm.findClass R_law = some m.cls ∧ (∀ w ∈ lw_tbl, w.before #[Value.ref b] s = true) ∧ va_X b L xs s s.heap ∧ b < s.heap.size ∧ meth.locks = false ∧ (Jvm.Cond.and given_1 narrow_1).before #[Value.ref b] s = true
set_option maxRecDepth 100000 in
set_option maxHeartbeats 40000000 in
theorem law_main {p : Program} {e : Env} {s : State} {m : MethodId} {below : List Frame} {meth : Method} {c : Code} (l : Launch) {b L : Nat} {xs : Nat → Int32} (C0 : lw_At p s m meth c b L xs) (w : GW) (xa : Nat) (hw : w.2.2.1 = s.heap.size) (hK : KN w s) (hG : GST w s) (K : GK) (g : GM) (S : GS) (H : Heap) (locs : List Loc) (cells slots : Nat) (ls : Array Slot) (hH : HR w K g S H) (hS : va_S (FR w) s.heap H locs) (hl : lv_has ls 19 [(0, .ref b), (1, .ref xa), (2, .ref (w.2.2.2 + 0)), (3, .ref (w.2.2.2 + 1)), (4, .ref (w.2.2.2 + 2)), (5, .ref (w.2.2.2 + 3)), (6, .ref (w.2.2.2 + 4)), (7, .ref (w.2.2.2 + 5)), (8, .ref (w.2.2.2 + 6)), (9, .ref (w.2.2.2 + 7))]) (hkx : gkd K xa = 8) (hc1 : cells + 720 ≤ 600000) (hc2 : slots + 49080 ≤ 7302250) (hf : f9_law K g S xs L xa = some 1) : W p l e room_1 s m #[Value.ref b] below meth c H locs cells slots (lw_Z below #[Value.ref b] s) (F0 m 54 ls []) := by
  obtain ⟨hx, hb, hr, hml, hown, hts0, hX, hbl, hlocks, hgv⟩ := C0
  have hts : ∀ q ∈ gALL, q.before #[Value.ref b] s = true := fun q h => hts0 q (gall h).1
  have hbA : ¬ FR w b := by show ¬ w.2.2.1 ≤ b; omega
  have B555 : ∀ (k93 : GK → GM → GS → Int32 → Option (Int32)) (nn : Nat), (∀ (K : GK) (g : GM) (S : GS) (x10 : Int32) (cells slots : Nat) (H : Heap) (locs : List Loc) (ls : Array Slot), cells + 0 + 12 * nn ≤ 600000 → slots + 0 + 818 * nn ≤ 7302250 → gkd K xa = 8 → HR w K g S H → va_S (FR w) s.heap H locs → lv_has ls 19 [(0, .ref b), (1, .ref xa), (2, .ref (w.2.2.2 + 0)), (3, .ref (w.2.2.2 + 1)), (4, .ref (w.2.2.2 + 2)), (5, .ref (w.2.2.2 + 3)), (6, .ref (w.2.2.2 + 4)), (7, .ref (w.2.2.2 + 5)), (8, .ref (w.2.2.2 + 6)), (9, .ref (w.2.2.2 + 7)), (10, .int x10)] → k93 K g S x10 = some 1 → W p l e room_1 s m #[Value.ref b] below meth c H locs cells slots (lw_Z below #[Value.ref b] s) (F0 m 93 ls [])) → ∀ (K : GK) (g : GM) (S : GS) (x10 : Int32) (x11 : Int32) (cells slots : Nat) (H : Heap) (locs : List Loc) (ls : Array Slot), cells + 0 + 12 * nn ≤ 600000 → slots + 0 + 818 * nn ≤ 7302250 → gkd K xa = 8 → HR w K g S H → va_S (FR w) s.heap H locs → lv_has ls 19 [(0, .ref b), (1, .ref xa), (2, .ref (w.2.2.2 + 0)), (3, .ref (w.2.2.2 + 1)), (4, .ref (w.2.2.2 + 2)), (5, .ref (w.2.2.2 + 3)), (6, .ref (w.2.2.2 + 4)), (7, .ref (w.2.2.2 + 5)), (8, .ref (w.2.2.2 + 6)), (9, .ref (w.2.2.2 + 7)), (10, .int x10), (11, .int x11)] → f9_law_555 k93 xs L xa K g S x10 x11 = some 1 → W p l e room_1 s m #[Value.ref b] below meth c H locs cells slots (lw_Z below #[Value.ref b] s) (F0 m 555 ls []) := by
    intro k93 nn hk93 K g S x10 x11 cells slots H locs ls hc1 hc2 hkx hH hS hl hf
    unfold f9_law_555 at hf
    refine lv_aload_n hx hb dL_law_555 rfl (lv_at hl 1 rfl) ?_
    refine lv_iload hx hb dL_law_556 (lv_at hl 11 rfl) ?_
    refine lv_iconst (v := 5) hx hb dL_law_558 (by decide) ?_
    refine lv_ishr hx hb dL_law_559 ?_
    refine lv_aload_n hx hb dL_law_560 rfl (lv_at hl 2 rfl) ?_
    refine lv_aload_n hx hb dL_law_561 rfl (lv_at hl 3 rfl) ?_
    refine lv_aload hx hb dL_law_562 (lv_at hl 4 rfl) ?_
    refine lv_aload hx hb dL_law_564 (lv_at hl 5 rfl) ?_
    refine lv_aload hx hb dL_law_566 (lv_at hl 6 rfl) ?_
    refine lv_aload hx hb dL_law_568 (lv_at hl 9 rfl) ?_
    obtain ⟨v1, h2, hf⟩ := gbind hf
    refine g_Si (As := [.ref xa, .int (x11 >>> (5 &&& 31)), .ref (w.2.2.2 + 0), .ref (w.2.2.2 + 1), .ref (w.2.2.2 + 2), .ref (w.2.2.2 + 3), .ref (w.2.2.2 + 4), .ref (w.2.2.2 + 7)]) (rest := []) ⟨hx, hb, hml, hown, hts⟩ (c9_isSo l w K g S xa (x11 >>> (5 &&& 31)) v1 h2) (gcwS hts i9_isSo wd_504 rfl rfl ⟨Nat.le_of_ble_eq_true rfl, Nat.le_of_ble_eq_true rfl⟩) hH hK hS hl.1 rfl rfl (Nat.le_of_ble_eq_true rfl) dL_law_570 ⟨by show _ + 0 ≤ 600000; omega, by show _ + 0 ≤ 7302250; omega⟩ (fun H locs hH hS => ?_)
    have hg := gif hf
    refine lv_if_ne (tgt := 578) hx hb dL_law_573 (by decide) (fun c3 => ?_) (fun c3 => ?_)
    · have hf := hg.2 c3
      obtain ⟨v4, ev4⟩ : ∃ z : Int32, z = x10 + 1 := ⟨_, rfl⟩
      have hf := gl_at hf ev4
      refine lv_iinc (v := v4) (lv' := [(10, .int v4), (0, .ref b), (1, .ref xa), (2, .ref (w.2.2.2 + 0)), (3, .ref (w.2.2.2 + 1)), (4, .ref (w.2.2.2 + 2)), (5, .ref (w.2.2.2 + 3)), (6, .ref (w.2.2.2 + 4)), (7, .ref (w.2.2.2 + 5)), (8, .ref (w.2.2.2 + 6)), (9, .ref (w.2.2.2 + 7)), (11, .int x11)]) hx hb dL_law_578 hl (k := 10) rfl (by rw [ev4]; rfl) (by decide) rfl (fun ls hl => ?_)
      refine lv_goto (tgt := 93) hx hb dL_law_581 (by decide) ?_
      exact hk93 _ _ _ _ _ _ _ _ _ (by omega) (by omega) hkx hH hS (lv_sub hl [1, 2, 3, 4, 5, 6, 7, 8, 9, 10, 0] rfl) hf
    · have hf := hg.1 c3
      refine lv_iconst (v := 0) hx hb dL_law_576 (by decide) ?_
      exact absurd (Option.some.inj hf) (by decide)
  have B525 : ∀ (k93 : GK → GM → GS → Int32 → Option (Int32)) (nn : Nat), (∀ (K : GK) (g : GM) (S : GS) (x10 : Int32) (cells slots : Nat) (H : Heap) (locs : List Loc) (ls : Array Slot), cells + 0 + 12 * nn ≤ 600000 → slots + 0 + 818 * nn ≤ 7302250 → gkd K xa = 8 → HR w K g S H → va_S (FR w) s.heap H locs → lv_has ls 19 [(0, .ref b), (1, .ref xa), (2, .ref (w.2.2.2 + 0)), (3, .ref (w.2.2.2 + 1)), (4, .ref (w.2.2.2 + 2)), (5, .ref (w.2.2.2 + 3)), (6, .ref (w.2.2.2 + 4)), (7, .ref (w.2.2.2 + 5)), (8, .ref (w.2.2.2 + 6)), (9, .ref (w.2.2.2 + 7)), (10, .int x10)] → k93 K g S x10 = some 1 → W p l e room_1 s m #[Value.ref b] below meth c H locs cells slots (lw_Z below #[Value.ref b] s) (F0 m 93 ls [])) → ∀ (K : GK) (g : GM) (S : GS) (x10 : Int32) (x11 : Int32) (x13 : Int32) (x14 : Int32) (x15 : Int32) (x18 : Int32) (cells slots : Nat) (H : Heap) (locs : List Loc) (ls : Array Slot), cells + 0 + 12 * nn ≤ 600000 → slots + 0 + 818 * nn ≤ 7302250 → gkd K xa = 8 → HR w K g S H → va_S (FR w) s.heap H locs → lv_has ls 19 [(0, .ref b), (1, .ref xa), (2, .ref (w.2.2.2 + 0)), (3, .ref (w.2.2.2 + 1)), (4, .ref (w.2.2.2 + 2)), (5, .ref (w.2.2.2 + 3)), (6, .ref (w.2.2.2 + 4)), (7, .ref (w.2.2.2 + 5)), (8, .ref (w.2.2.2 + 6)), (9, .ref (w.2.2.2 + 7)), (10, .int x10), (11, .int x11), (13, .int x13), (14, .int x14), (15, .int x15), (18, .int x18)] → f9_law_525 k93 xs L xa K g S x10 x11 x13 x14 x15 x18 = some 1 → W p l e room_1 s m #[Value.ref b] below meth c H locs cells slots (lw_Z below #[Value.ref b] s) (F0 m 525 ls []) := by
    intro k93 nn hk93 K g S x10 x11 x13 x14 x15 x18 cells slots H locs ls hc1 hc2 hkx hH hS hl hf
    unfold f9_law_525 at hf
    refine lv_iload hx hb dL_law_525 (lv_at hl 15 rfl) ?_
    refine lv_iload hx hb dL_law_527 (lv_at hl 12 rfl) ?_
    refine lv_iload hx hb dL_law_529 (lv_at hl 13 rfl) ?_
    refine lv_iload hx hb dL_law_531 (lv_at hl 14 rfl) ?_
    refine lv_aload_n hx hb dL_law_533 rfl (lv_at hl 2 rfl) ?_
    refine lv_aload_n hx hb dL_law_534 rfl (lv_at hl 3 rfl) ?_
    refine lv_aload hx hb dL_law_535 (lv_at hl 4 rfl) ?_
    refine lv_aload hx hb dL_law_537 (lv_at hl 5 rfl) ?_
    refine lv_aload hx hb dL_law_539 (lv_at hl 6 rfl) ?_
    refine lv_aload hx hb dL_law_541 (lv_at hl 7 rfl) ?_
    refine lv_aload hx hb dL_law_543 (lv_at hl 8 rfl) ?_
    refine lv_aload hx hb dL_law_545 (lv_at hl 9 rfl) ?_
    obtain ⟨r5, h6, hf⟩ := gbind hf
    refine g_Si (As := [.int x13, .int x14, .int x15, .ref (w.2.2.2 + 0), .ref (w.2.2.2 + 1), .ref (w.2.2.2 + 2), .ref (w.2.2.2 + 3), .ref (w.2.2.2 + 4), .ref (w.2.2.2 + 5), .ref (w.2.2.2 + 6), .ref (w.2.2.2 + 7)]) (rest := [.int x18]) ⟨hx, hb, hml, hown, hts⟩ (c9_due l w K g S x13 x14 x15 r5 h6) (gcwS hts i9_due wd_468 rfl rfl ⟨Nat.le_of_ble_eq_true rfl, Nat.le_of_ble_eq_true rfl⟩) hH hK hS hl.1 rfl rfl (Nat.le_of_ble_eq_true rfl) dL_law_547 ⟨by show _ + 0 ≤ 600000; omega, by show _ + 0 ≤ 7302250; omega⟩ (fun H locs hH hS => ?_)
    have hg := gif hf
    refine lv_icmp_eq (tgt := 555) hx hb dL_law_550 (by decide) (fun c7 => ?_) (fun c7 => ?_)
    · have hf := hg.1 c7
      exact B555 _ _ (hk93) _ _ _ _ _ _ _ _ _ _ (by omega) (by omega) hkx hH hS (lv_sub hl [0, 1, 2, 3, 4, 5, 6, 7, 8, 9, 10, 11] rfl) hf
    · have hf := hg.2 c7
      refine lv_iconst (v := 0) hx hb dL_law_553 (by decide) ?_
      exact absurd (Option.some.inj hf) (by decide)
  have B393 : ∀ (k93 : GK → GM → GS → Int32 → Option (Int32)) (nn : Nat), (∀ (K : GK) (g : GM) (S : GS) (x10 : Int32) (cells slots : Nat) (H : Heap) (locs : List Loc) (ls : Array Slot), cells + 0 + 12 * nn ≤ 600000 → slots + 0 + 818 * nn ≤ 7302250 → gkd K xa = 8 → HR w K g S H → va_S (FR w) s.heap H locs → lv_has ls 19 [(0, .ref b), (1, .ref xa), (2, .ref (w.2.2.2 + 0)), (3, .ref (w.2.2.2 + 1)), (4, .ref (w.2.2.2 + 2)), (5, .ref (w.2.2.2 + 3)), (6, .ref (w.2.2.2 + 4)), (7, .ref (w.2.2.2 + 5)), (8, .ref (w.2.2.2 + 6)), (9, .ref (w.2.2.2 + 7)), (10, .int x10)] → k93 K g S x10 = some 1 → W p l e room_1 s m #[Value.ref b] below meth c H locs cells slots (lw_Z below #[Value.ref b] s) (F0 m 93 ls [])) → ∀ (K : GK) (g : GM) (S : GS) (x10 : Int32) (x11 : Int32) (x12 : Int32) (x13 : Int32) (x14 : Int32) (s0 : Int32) (cells slots : Nat) (H : Heap) (locs : List Loc) (ls : Array Slot), cells + 12 + 12 * nn ≤ 600000 → slots + 818 + 818 * nn ≤ 7302250 → gkd K xa = 8 → HR w K g S H → va_S (FR w) s.heap H locs → lv_has ls 19 [(0, .ref b), (1, .ref xa), (2, .ref (w.2.2.2 + 0)), (3, .ref (w.2.2.2 + 1)), (4, .ref (w.2.2.2 + 2)), (5, .ref (w.2.2.2 + 3)), (6, .ref (w.2.2.2 + 4)), (7, .ref (w.2.2.2 + 5)), (8, .ref (w.2.2.2 + 6)), (9, .ref (w.2.2.2 + 7)), (10, .int x10), (11, .int x11), (12, .int x12), (13, .int x13), (14, .int x14)] → f9_law_393 k93 xs L xa K g S x10 x11 x12 x13 x14 s0 = some 1 → W p l e room_1 s m #[Value.ref b] below meth c H locs cells slots (lw_Z below #[Value.ref b] s) (F0 m 393 ls [.int s0]) := by
    intro k93 nn hk93 K g S x10 x11 x12 x13 x14 s0 cells slots H locs ls hc1 hc2 hkx hH hS hl hf
    unfold f9_law_393 at hf
    refine lv_istore (lv' := [(15, .int s0), (0, .ref b), (1, .ref xa), (2, .ref (w.2.2.2 + 0)), (3, .ref (w.2.2.2 + 1)), (4, .ref (w.2.2.2 + 2)), (5, .ref (w.2.2.2 + 3)), (6, .ref (w.2.2.2 + 4)), (7, .ref (w.2.2.2 + 5)), (8, .ref (w.2.2.2 + 6)), (9, .ref (w.2.2.2 + 7)), (10, .int x10), (11, .int x11), (12, .int x12), (13, .int x13), (14, .int x14)]) hx hb dL_law_393 hl (by decide) rfl (fun ls hl => ?_)
    refine lv_aload_n hx hb dL_law_395 rfl (lv_at hl 2 rfl) ?_
    obtain ⟨v8, h9, hf⟩ := gbind hf
    refine g_Sl (As := [.ref xa]) (rest := []) ⟨hx, hb, hml, hown, hts⟩ (c9_told l w K g S xa v8 h9) (gcwS hts i9_told wd_103 rfl rfl ⟨Nat.le_of_ble_eq_true rfl, Nat.le_of_ble_eq_true rfl⟩) hH hK hS hl.1 rfl rfl (Nat.le_of_ble_eq_true rfl) dL_law_396 ⟨by show _ + 0 ≤ 600000; omega, by show _ + 0 ≤ 7302250; omega⟩ (fun H locs hH hS => ?_)
    refine lv_lstore (lv' := [(16, .long v8), (15, .int s0), (0, .ref b), (1, .ref xa), (2, .ref (w.2.2.2 + 0)), (3, .ref (w.2.2.2 + 1)), (4, .ref (w.2.2.2 + 2)), (5, .ref (w.2.2.2 + 3)), (6, .ref (w.2.2.2 + 4)), (7, .ref (w.2.2.2 + 5)), (8, .ref (w.2.2.2 + 6)), (9, .ref (w.2.2.2 + 7)), (10, .int x10), (11, .int x11), (12, .int x12), (13, .int x13), (14, .int x14)]) hx hb dL_law_399 hl (by decide) rfl (fun ls hl => ?_)
    refine lv_iconst (v := 0) hx hb dL_law_401 (by decide) ?_
    refine lv_istore (lv' := [(18, .int 0), (16, .long v8), (15, .int s0), (0, .ref b), (1, .ref xa), (2, .ref (w.2.2.2 + 0)), (3, .ref (w.2.2.2 + 1)), (4, .ref (w.2.2.2 + 2)), (5, .ref (w.2.2.2 + 3)), (6, .ref (w.2.2.2 + 4)), (7, .ref (w.2.2.2 + 5)), (8, .ref (w.2.2.2 + 6)), (9, .ref (w.2.2.2 + 7)), (10, .int x10), (11, .int x11), (12, .int x12), (13, .int x13), (14, .int x14)]) hx hb dL_law_402 hl (by decide) rfl (fun ls hl => ?_)
    refine lv_iload hx hb dL_law_404 (lv_at hl 16 rfl) ?_
    have hg := gif hf
    refine lv_if_ne (tgt := 451) hx hb dL_law_406 (by decide) (fun c10 => ?_) (fun c10 => ?_)
    · have hf := hg.2 c10
      refine lv_aload_n hx hb dL_law_451 rfl (lv_at hl 4 rfl) ?_
      refine lv_iload hx hb dL_law_452 (lv_at hl 16 rfl) ?_
      refine lv_iload hx hb dL_law_454 (lv_at hl 17 rfl) ?_
      refine lv_iload hx hb dL_law_456 (lv_at hl 2 rfl) ?_
      obtain ⟨r11, h12, hf⟩ := gbind hf
      refine g_SiS (As := [.ref xa, .int x13, .int x14, .int s0]) (rest := []) ⟨hx, hb, hml, hown, hts⟩ (c9_call l w K g S xa x13 x14 s0 r11 h12) (gcwS hts i9_call wd_327 rfl rfl ⟨Nat.le_of_ble_eq_true rfl, Nat.le_of_ble_eq_true rfl⟩) hH hK hG hS hl.1 rfl rfl (Nat.le_of_ble_eq_true rfl) dL_law_458 ⟨by show _ + 6 ≤ 600000; omega, by show _ + 409 ≤ 7302250; omega⟩ (fun H locs hH hS => ?_)
      obtain ⟨h13, hf⟩ := gd_some hf
      have h13 := gk_obj h13
      refine lv_istore (lv' := [(18, .int r11.2.2), (16, .long v8), (15, .int s0), (0, .ref b), (1, .ref xa), (2, .ref (w.2.2.2 + 0)), (3, .ref (w.2.2.2 + 1)), (4, .ref (w.2.2.2 + 2)), (5, .ref (w.2.2.2 + 3)), (6, .ref (w.2.2.2 + 4)), (7, .ref (w.2.2.2 + 5)), (8, .ref (w.2.2.2 + 6)), (9, .ref (w.2.2.2 + 7)), (10, .int x10), (11, .int x11), (12, .int x12), (13, .int x13), (14, .int x14)]) hx hb dL_law_461 hl (by decide) rfl (fun ls hl => ?_)
      refine lv_iload hx hb dL_law_463 (lv_at hl 0 rfl) ?_
      have hg := gif hf
      refine lv_if_ge (tgt := 481) hx hb dL_law_465 (by decide) (fun c14 => ?_) (fun c14 => ?_)
      · have hf := hg.1 c14
        refine lv_iload hx hb dL_law_481 (lv_at hl 14 rfl) ?_
        refine lv_bipush (v := 24) hx hb dL_law_483 (by decide) ?_
        refine lv_ishr hx hb dL_law_485 ?_
        refine lv_iconst (v := 3) hx hb dL_law_486 (by decide) ?_
        refine lv_iand hx hb dL_law_487 ?_
        have hg := gif hf
        refine lv_if_ne (tgt := 525) hx hb dL_law_488 (by decide) (fun c15 => ?_) (fun c15 => ?_)
        · have hf := hg.2 c15
          exact B525 _ _ (hk93) _ _ _ _ _ _ _ _ _ _ _ _ _ _ (by omega) (by omega) h13 hH hS (lv_sub hl [3, 4, 5, 6, 7, 8, 9, 10, 11, 12, 13, 14, 16, 17, 2, 0] rfl) hf
        · have hf := hg.1 c15
          refine lv_aload_n hx hb dL_law_491 rfl (lv_at hl 4 rfl) ?_
          obtain ⟨r16, h17, hf⟩ := gbind hf
          refine g_Vi (As := []) (rest := []) ⟨hx, hb, hml, hown, hts⟩ (c7_undo l w r11.1 r11.2.1 S xa r16 h17 h13) (gcwV hts i7_undo wd_460 rfl rfl ⟨Nat.le_of_ble_eq_true rfl, Nat.le_of_ble_eq_true rfl⟩) (gRecv.of hK rfl (hH.o8 h13)) hH hK hS hl.1 rfl rfl (Nat.le_of_ble_eq_true rfl) dL_law_492 ⟨by show _ + 0 ≤ 600000; omega, by show _ + 0 ≤ 7302250; omega⟩ (fun H locs hH hS => ?_)
          have hg := gif hf
          refine lv_if_lt (tgt := 523) hx hb dL_law_495 (by decide) (fun c18 => ?_) (fun c18 => ?_)
          · have hf := hg.1 c18
            refine lv_iconst (v := 0) hx hb dL_law_523 (by decide) ?_
            exact absurd (Option.some.inj hf) (by decide)
          · have hf := hg.2 c18
            refine lv_aload_n hx hb dL_law_498 rfl (lv_at hl 4 rfl) ?_
            obtain ⟨v19, h20, hf⟩ := gbind hf
            refine g_Sl (As := [.ref xa]) (rest := []) ⟨hx, hb, hml, hown, hts⟩ (c9_told l w r11.1 r16.1 S xa v19 h20) (gcwS hts i9_told wd_103 rfl rfl ⟨Nat.le_of_ble_eq_true rfl, Nat.le_of_ble_eq_true rfl⟩) hH hK hS hl.1 rfl rfl (Nat.le_of_ble_eq_true rfl) dL_law_499 ⟨by show _ + 0 ≤ 600000; omega, by show _ + 0 ≤ 7302250; omega⟩ (fun H locs hH hS => ?_)
            refine lv_lload hx hb dL_law_502 (lv_at hl 1 rfl) ?_
            refine W.lcmp hx hb dL_law_504 ?_
            have hg := gif hf
            refine lv_if_ne (tgt := 523) hx hb dL_law_505 (by decide) (fun c21 => ?_) (fun c21 => ?_)
            · have hf := hg.2 c21
              refine lv_iconst (v := 0) hx hb dL_law_523 (by decide) ?_
              exact absurd (Option.some.inj hf) (by decide)
            · have hf := hg.1 c21
              refine lv_aload_n hx hb dL_law_508 rfl (lv_at hl 4 rfl) ?_
              refine lv_iload hx hb dL_law_509 (lv_at hl 16 rfl) ?_
              refine lv_iload hx hb dL_law_511 (lv_at hl 17 rfl) ?_
              refine lv_iload hx hb dL_law_513 (lv_at hl 2 rfl) ?_
              obtain ⟨r22, h23, hf⟩ := gbind hf
              refine g_SiS (As := [.ref xa, .int x13, .int x14, .int s0]) (rest := []) ⟨hx, hb, hml, hown, hts⟩ (c9_call l w r11.1 r16.1 S xa x13 x14 s0 r22 h23) (gcwS hts i9_call wd_327 rfl rfl ⟨Nat.le_of_ble_eq_true rfl, Nat.le_of_ble_eq_true rfl⟩) hH hK hG hS hl.1 rfl rfl (Nat.le_of_ble_eq_true rfl) dL_law_515 ⟨by show _ + 6 ≤ 600000; omega, by show _ + 409 ≤ 7302250; omega⟩ (fun H locs hH hS => ?_)
              obtain ⟨h24, hf⟩ := gd_some hf
              have h24 := gk_obj h24
              refine lv_iload hx hb dL_law_518 (lv_at hl 0 rfl) ?_
              have hg := gif hf
              refine lv_icmp_eq (tgt := 525) hx hb dL_law_520 (by decide) (fun c25 => ?_) (fun c25 => ?_)
              · have hf := hg.1 c25
                exact B525 _ _ (hk93) _ _ _ _ _ _ _ _ _ _ _ _ _ _ (by omega) (by omega) h24 hH hS (lv_sub hl [3, 4, 5, 6, 7, 8, 9, 10, 11, 12, 13, 14, 16, 17, 2, 0] rfl) hf
              · have hf := hg.2 c25
                refine lv_iconst (v := 0) hx hb dL_law_523 (by decide) ?_
                exact absurd (Option.some.inj hf) (by decide)
      · have hf := hg.2 c14
        refine lv_aload_n hx hb dL_law_468 rfl (lv_at hl 4 rfl) ?_
        obtain ⟨v26, h27, hf⟩ := gbind hf
        refine g_Sl (As := [.ref xa]) (rest := []) ⟨hx, hb, hml, hown, hts⟩ (c9_told l w r11.1 r11.2.1 S xa v26 h27) (gcwS hts i9_told wd_103 rfl rfl ⟨Nat.le_of_ble_eq_true rfl, Nat.le_of_ble_eq_true rfl⟩) hH hK hS hl.1 rfl rfl (Nat.le_of_ble_eq_true rfl) dL_law_469 ⟨by show _ + 0 ≤ 600000; omega, by show _ + 0 ≤ 7302250; omega⟩ (fun H locs hH hS => ?_)
        refine lv_lload hx hb dL_law_472 (lv_at hl 1 rfl) ?_
        refine W.lcmp hx hb dL_law_474 ?_
        have hg := gif hf
        refine lv_if_eq (tgt := 525) hx hb dL_law_475 (by decide) (fun c28 => ?_) (fun c28 => ?_)
        · have hf := hg.1 c28
          exact B525 _ _ (hk93) _ _ _ _ _ _ _ _ _ _ _ _ _ _ (by omega) (by omega) h13 hH hS (lv_sub hl [3, 4, 5, 6, 7, 8, 9, 10, 11, 12, 13, 14, 16, 17, 2, 0] rfl) hf
        · have hf := hg.2 c28
          refine lv_goto (tgt := 523) hx hb dL_law_478 (by decide) ?_
          refine lv_iconst (v := 0) hx hb dL_law_523 (by decide) ?_
          exact absurd (Option.some.inj hf) (by decide)
    · have hf := hg.1 c10
      refine lv_aload hx hb dL_law_409 (lv_at hl 8 rfl) ?_
      refine lv_iload hx hb dL_law_411 (lv_at hl 17 rfl) ?_
      refine lv_iload hx hb dL_law_413 (lv_at hl 17 rfl) ?_
      refine lv_iload hx hb dL_law_415 (lv_at hl 15 rfl) ?_
      refine lv_iconst (v := 3) hx hb dL_law_417 (by decide) ?_
      refine lv_ishr hx hb dL_law_418 ?_
      refine lv_aload_n hx hb dL_law_419 rfl (lv_at hl 4 rfl) ?_
      refine lv_aload_n hx hb dL_law_420 rfl (lv_at hl 5 rfl) ?_
      refine lv_aload hx hb dL_law_421 (lv_at hl 7 rfl) ?_
      obtain ⟨r29, h30, hf⟩ := gbind hf
      refine g_Si (As := [.int x14, .int (x12 >>> (3 &&& 31)), .ref xa, .ref (w.2.2.2 + 0), .ref (w.2.2.2 + 2)]) (rest := [.int x14, .ref (w.2.2.2 + 3)]) ⟨hx, hb, hml, hown, hts⟩ (c9_makes l w K g S x14 (x12 >>> (3 &&& 31)) xa r29 h30) (gcwS hts i9_makes wd_190 rfl rfl ⟨Nat.le_of_ble_eq_true rfl, Nat.le_of_ble_eq_true rfl⟩) hH hK hS hl.1 rfl rfl (Nat.le_of_ble_eq_true rfl) dL_law_423 ⟨by show _ + 0 ≤ 600000; omega, by show _ + 0 ≤ 7302250; omega⟩ (fun H locs hH hS => ?_)
      obtain ⟨h32, hf⟩ := gd_some hf
      refine m_iast hx hb hK hH hS 3 (by decide) rfl h32 dL_law_426 (fun H locs hH hS => ?_)
      obtain ⟨S33, eS33⟩ : ∃ z : GS, z = ssI r29.2.1 3 x14.toNatClampNeg r29.2.2 := ⟨_, rfl⟩
      have hf := gl_at hf eS33
      replace hH : HR w K r29.1 S33 H := by rw [eS33]; exact hH
      refine lv_aload_n hx hb dL_law_427 rfl (lv_at hl 4 rfl) ?_
      refine lv_iload hx hb dL_law_428 (lv_at hl 17 rfl) ?_
      obtain ⟨r34, h35, hf⟩ := gbind hf
      refine g_Vi (As := [.int x14]) (rest := []) ⟨hx, hb, hml, hown, hts⟩ (c7_card l w K r29.1 S33 xa x14 r34 h35 hkx) (gcwV hts i7_card wd_212 rfl rfl ⟨Nat.le_of_ble_eq_true rfl, Nat.le_of_ble_eq_true rfl⟩) (gRecv.of hK rfl (hH.o8 hkx)) hH hK hS hl.1 rfl rfl (Nat.le_of_ble_eq_true rfl) dL_law_430 ⟨by show _ + 6 ≤ 600000; omega, by show _ + 409 ≤ 7302250; omega⟩ (fun H locs hH hS => ?_)
      obtain ⟨h36, hf⟩ := gd_some hf
      have h36 := gk_obj h36
      refine lv_istore (lv' := [(18, .int r34.2.2), (16, .long v8), (15, .int s0), (0, .ref b), (1, .ref xa), (2, .ref (w.2.2.2 + 0)), (3, .ref (w.2.2.2 + 1)), (4, .ref (w.2.2.2 + 2)), (5, .ref (w.2.2.2 + 3)), (6, .ref (w.2.2.2 + 4)), (7, .ref (w.2.2.2 + 5)), (8, .ref (w.2.2.2 + 6)), (9, .ref (w.2.2.2 + 7)), (10, .int x10), (11, .int x11), (12, .int x12), (13, .int x13), (14, .int x14)]) hx hb dL_law_433 hl (by decide) rfl (fun ls hl => ?_)
      refine lv_iload hx hb dL_law_435 (lv_at hl 0 rfl) ?_
      refine lv_iload hx hb dL_law_437 (lv_at hl 17 rfl) ?_
      refine lv_aload hx hb dL_law_439 (lv_at hl 7 rfl) ?_
      refine lv_aload hx hb dL_law_441 (lv_at hl 8 rfl) ?_
      obtain ⟨v37, h38, hf⟩ := gbind hf
      refine g_Si (As := [.int x14, .ref (w.2.2.2 + 2), .ref (w.2.2.2 + 3)]) (rest := [.int r34.2.2]) ⟨hx, hb, hml, hown, hts⟩ (c9_steps l w r34.1 r34.2.1 S33 x14 v37 h38) (gcwS hts i9_steps wd_321 rfl rfl ⟨Nat.le_of_ble_eq_true rfl, Nat.le_of_ble_eq_true rfl⟩) hH hK hS hl.1 rfl rfl (Nat.le_of_ble_eq_true rfl) dL_law_443 ⟨by show _ + 0 ≤ 600000; omega, by show _ + 0 ≤ 7302250; omega⟩ (fun H locs hH hS => ?_)
      have hg := gif hf
      refine lv_icmp_eq (tgt := 555) hx hb dL_law_446 (by decide) (fun c39 => ?_) (fun c39 => ?_)
      · have hf := hg.1 c39
        exact B555 _ _ (hk93) _ _ _ _ _ _ _ _ _ _ (by omega) (by omega) h36 hH hS (lv_sub hl [3, 4, 5, 6, 7, 8, 9, 10, 11, 12, 13, 14] rfl) hf
      · have hf := hg.2 c39
        refine lv_iconst (v := 0) hx hb dL_law_449 (by decide) ?_
        exact absurd (Option.some.inj hf) (by decide)
  have B389 : ∀ (k93 : GK → GM → GS → Int32 → Option (Int32)) (nn : Nat), (∀ (K : GK) (g : GM) (S : GS) (x10 : Int32) (cells slots : Nat) (H : Heap) (locs : List Loc) (ls : Array Slot), cells + 0 + 12 * nn ≤ 600000 → slots + 0 + 818 * nn ≤ 7302250 → gkd K xa = 8 → HR w K g S H → va_S (FR w) s.heap H locs → lv_has ls 19 [(0, .ref b), (1, .ref xa), (2, .ref (w.2.2.2 + 0)), (3, .ref (w.2.2.2 + 1)), (4, .ref (w.2.2.2 + 2)), (5, .ref (w.2.2.2 + 3)), (6, .ref (w.2.2.2 + 4)), (7, .ref (w.2.2.2 + 5)), (8, .ref (w.2.2.2 + 6)), (9, .ref (w.2.2.2 + 7)), (10, .int x10)] → k93 K g S x10 = some 1 → W p l e room_1 s m #[Value.ref b] below meth c H locs cells slots (lw_Z below #[Value.ref b] s) (F0 m 93 ls [])) → ∀ (K : GK) (g : GM) (S : GS) (x10 : Int32) (x11 : Int32) (x12 : Int32) (x13 : Int32) (x14 : Int32) (s1 : Int32) (s2 : Int32) (cells slots : Nat) (H : Heap) (locs : List Loc) (ls : Array Slot), cells + 12 + 12 * nn ≤ 600000 → slots + 818 + 818 * nn ≤ 7302250 → gkd K xa = 8 → HR w K g S H → va_S (FR w) s.heap H locs → lv_has ls 19 [(0, .ref b), (1, .ref xa), (2, .ref (w.2.2.2 + 0)), (3, .ref (w.2.2.2 + 1)), (4, .ref (w.2.2.2 + 2)), (5, .ref (w.2.2.2 + 3)), (6, .ref (w.2.2.2 + 4)), (7, .ref (w.2.2.2 + 5)), (8, .ref (w.2.2.2 + 6)), (9, .ref (w.2.2.2 + 7)), (10, .int x10), (11, .int x11), (12, .int x12), (13, .int x13), (14, .int x14)] → f9_law_389 k93 xs L xa K g S x10 x11 x12 x13 x14 s1 s2 = some 1 → W p l e room_1 s m #[Value.ref b] below meth c H locs cells slots (lw_Z below #[Value.ref b] s) (F0 m 389 ls [.int s2, .int s1, .int 1]) := by
    intro k93 nn hk93 K g S x10 x11 x12 x13 x14 s1 s2 cells slots H locs ls hc1 hc2 hkx hH hS hl hf
    unfold f9_law_389 at hf
    obtain ⟨v40, h41, hf⟩ := gbind hf
    refine g_Si (As := [.int s1, .int s2]) (rest := [.int 1]) ⟨hx, hb, hml, hown, hts⟩ (c9_low l w K g S s1 s2 v40 h41) (gcwS hts i9_low wd_99 rfl rfl ⟨Nat.le_of_ble_eq_true rfl, Nat.le_of_ble_eq_true rfl⟩) hH hK hS hl.1 rfl rfl (Nat.le_of_ble_eq_true rfl) dL_law_389 ⟨by show _ + 0 ≤ 600000; omega, by show _ + 0 ≤ 7302250; omega⟩ (fun H locs hH hS => ?_)
    refine lv_iadd hx hb dL_law_392 ?_
    exact B393 _ _ (hk93) _ _ _ _ _ _ _ _ _ _ _ _ _ _ (by omega) (by omega) hkx hH hS (lv_sub hl [0, 1, 2, 3, 4, 5, 6, 7, 8, 9, 10, 11, 12, 13, 14] rfl) hf
  have B305 : ∀ (k93 : GK → GM → GS → Int32 → Option (Int32)) (nn : Nat), (∀ (K : GK) (g : GM) (S : GS) (x10 : Int32) (cells slots : Nat) (H : Heap) (locs : List Loc) (ls : Array Slot), cells + 0 + 12 * nn ≤ 600000 → slots + 0 + 818 * nn ≤ 7302250 → gkd K xa = 8 → HR w K g S H → va_S (FR w) s.heap H locs → lv_has ls 19 [(0, .ref b), (1, .ref xa), (2, .ref (w.2.2.2 + 0)), (3, .ref (w.2.2.2 + 1)), (4, .ref (w.2.2.2 + 2)), (5, .ref (w.2.2.2 + 3)), (6, .ref (w.2.2.2 + 4)), (7, .ref (w.2.2.2 + 5)), (8, .ref (w.2.2.2 + 6)), (9, .ref (w.2.2.2 + 7)), (10, .int x10)] → k93 K g S x10 = some 1 → W p l e room_1 s m #[Value.ref b] below meth c H locs cells slots (lw_Z below #[Value.ref b] s) (F0 m 93 ls [])) → ∀ (K : GK) (g : GM) (S : GS) (x10 : Int32) (x11 : Int32) (x12 : Int32) (x13 : Int32) (s0 : Int32) (cells slots : Nat) (H : Heap) (locs : List Loc) (ls : Array Slot), cells + 12 + 12 * nn ≤ 600000 → slots + 818 + 818 * nn ≤ 7302250 → gkd K xa = 8 → HR w K g S H → va_S (FR w) s.heap H locs → lv_has ls 19 [(0, .ref b), (1, .ref xa), (2, .ref (w.2.2.2 + 0)), (3, .ref (w.2.2.2 + 1)), (4, .ref (w.2.2.2 + 2)), (5, .ref (w.2.2.2 + 3)), (6, .ref (w.2.2.2 + 4)), (7, .ref (w.2.2.2 + 5)), (8, .ref (w.2.2.2 + 6)), (9, .ref (w.2.2.2 + 7)), (10, .int x10), (11, .int x11), (12, .int x12), (13, .int x13)] → f9_law_305 k93 xs L xa K g S x10 x11 x12 x13 s0 = some 1 → W p l e room_1 s m #[Value.ref b] below meth c H locs cells slots (lw_Z below #[Value.ref b] s) (F0 m 305 ls [.int s0]) := by
    intro k93 nn hk93 K g S x10 x11 x12 x13 s0 cells slots H locs ls hc1 hc2 hkx hH hS hl hf
    unfold f9_law_305 at hf
    refine lv_istore (lv' := [(14, .int s0), (0, .ref b), (1, .ref xa), (2, .ref (w.2.2.2 + 0)), (3, .ref (w.2.2.2 + 1)), (4, .ref (w.2.2.2 + 2)), (5, .ref (w.2.2.2 + 3)), (6, .ref (w.2.2.2 + 4)), (7, .ref (w.2.2.2 + 5)), (8, .ref (w.2.2.2 + 6)), (9, .ref (w.2.2.2 + 7)), (10, .int x10), (11, .int x11), (12, .int x12), (13, .int x13)]) hx hb dL_law_305 hl (by decide) rfl (fun ls hl => ?_)
    refine lv_iload hx hb dL_law_307 (lv_at hl 14 rfl) ?_
    refine lv_bipush (v := 7) hx hb dL_law_309 (by decide) ?_
    have hg := gif hf
    refine lv_icmp_ne (tgt := 365) hx hb dL_law_311 (by decide) (fun c42 => ?_) (fun c42 => ?_)
    · have hf := hg.2 c42
      refine lv_iconst (v := 1) hx hb dL_law_365 (by decide) ?_
      refine lv_iload hx hb dL_law_366 (lv_at hl 13 rfl) ?_
      refine lv_iconst (v := 3) hx hb dL_law_368 (by decide) ?_
      refine lv_ishr hx hb dL_law_369 ?_
      refine lv_iload hx hb dL_law_370 (lv_at hl 13 rfl) ?_
      refine lv_bipush (v := 20) hx hb dL_law_372 (by decide) ?_
      refine lv_ishr hx hb dL_law_374 ?_
      refine lv_iconst (v := 3) hx hb dL_law_375 (by decide) ?_
      obtain ⟨v43, h44, hf⟩ := gbind hf
      refine g_Si (As := [.int (x12 >>> (20 &&& 31)), .int 3]) (rest := [.int (x12 >>> (3 &&& 31)), .int 1]) ⟨hx, hb, hml, hown, hts⟩ (c9_low l w K g S (x12 >>> (20 &&& 31)) 3 v43 h44) (gcwS hts i9_low wd_99 rfl rfl ⟨Nat.le_of_ble_eq_true rfl, Nat.le_of_ble_eq_true rfl⟩) hH hK hS hl.1 rfl rfl (Nat.le_of_ble_eq_true rfl) dL_law_376 ⟨by show _ + 0 ≤ 600000; omega, by show _ + 0 ≤ 7302250; omega⟩ (fun H locs hH hS => ?_)
      have hg := gif hf
      refine lv_if_ne (tgt := 387) hx hb dL_law_379 (by decide) (fun c45 => ?_) (fun c45 => ?_)
      · have hf := hg.2 c45
        refine lv_bipush (v := 12) hx hb dL_law_387 (by decide) ?_
        exact B389 _ _ (hk93) _ _ _ _ _ _ _ _ _ _ _ _ _ _ _ (by omega) (by omega) hkx hH hS (lv_sub hl [1, 2, 3, 4, 5, 6, 7, 8, 9, 10, 11, 12, 13, 14, 0] rfl) hf
      · have hf := hg.1 c45
        refine lv_bipush (v := 99) hx hb dL_law_382 (by decide) ?_
        refine lv_goto (tgt := 389) hx hb dL_law_384 (by decide) ?_
        exact B389 _ _ (hk93) _ _ _ _ _ _ _ _ _ _ _ _ _ _ _ (by omega) (by omega) hkx hH hS (lv_sub hl [1, 2, 3, 4, 5, 6, 7, 8, 9, 10, 11, 12, 13, 14, 0] rfl) hf
    · have hf := hg.1 c42
      refine lv_iload hx hb dL_law_314 (lv_at hl 0 rfl) ?_
      have hg := gif hf
      refine lv_if_ne (tgt := 333) hx hb dL_law_316 (by decide) (fun c46 => ?_) (fun c46 => ?_)
      · have hf := hg.2 c46
        refine lv_iload hx hb dL_law_333 (lv_at hl 0 rfl) ?_
        refine lv_iconst (v := 1) hx hb dL_law_335 (by decide) ?_
        have hg := gif hf
        refine lv_icmp_ne (tgt := 353) hx hb dL_law_336 (by decide) (fun c47 => ?_) (fun c47 => ?_)
        · have hf := hg.2 c47
          refine lv_iload hx hb dL_law_353 (lv_at hl 13 rfl) ?_
          refine lv_iconst (v := 3) hx hb dL_law_355 (by decide) ?_
          refine lv_ishr hx hb dL_law_356 ?_
          refine lv_bipush (v := 60) hx hb dL_law_357 (by decide) ?_
          obtain ⟨v48, h49, hf⟩ := gbind hf
          refine g_Si (As := [.int (x12 >>> (3 &&& 31)), .int 60]) (rest := []) ⟨hx, hb, hml, hown, hts⟩ (c9_low l w K g S (x12 >>> (3 &&& 31)) 60 v48 h49) (gcwS hts i9_low wd_99 rfl rfl ⟨Nat.le_of_ble_eq_true rfl, Nat.le_of_ble_eq_true rfl⟩) hH hK hS hl.1 rfl rfl (Nat.le_of_ble_eq_true rfl) dL_law_359 ⟨by show _ + 0 ≤ 600000; omega, by show _ + 0 ≤ 7302250; omega⟩ (fun H locs hH hS => ?_)
          refine lv_goto (tgt := 393) hx hb dL_law_362 (by decide) ?_
          exact B393 _ _ (hk93) _ _ _ _ _ _ _ _ _ _ _ _ _ _ (by omega) (by omega) hkx hH hS (lv_sub hl [1, 2, 3, 4, 5, 6, 7, 8, 9, 10, 11, 12, 13, 14, 0] rfl) hf
        · have hf := hg.1 c47
          refine lv_iconst (v := 2) hx hb dL_law_339 (by decide) ?_
          refine lv_iload hx hb dL_law_340 (lv_at hl 13 rfl) ?_
          refine lv_iconst (v := 3) hx hb dL_law_342 (by decide) ?_
          refine lv_ishr hx hb dL_law_343 ?_
          refine lv_bipush (v := 98) hx hb dL_law_344 (by decide) ?_
          obtain ⟨v50, h51, hf⟩ := gbind hf
          refine g_Si (As := [.int (x12 >>> (3 &&& 31)), .int 98]) (rest := [.int 2]) ⟨hx, hb, hml, hown, hts⟩ (c9_low l w K g S (x12 >>> (3 &&& 31)) 98 v50 h51) (gcwS hts i9_low wd_99 rfl rfl ⟨Nat.le_of_ble_eq_true rfl, Nat.le_of_ble_eq_true rfl⟩) hH hK hS hl.1 rfl rfl (Nat.le_of_ble_eq_true rfl) dL_law_346 ⟨by show _ + 0 ≤ 600000; omega, by show _ + 0 ≤ 7302250; omega⟩ (fun H locs hH hS => ?_)
          refine lv_iadd hx hb dL_law_349 ?_
          refine lv_goto (tgt := 393) hx hb dL_law_350 (by decide) ?_
          exact B393 _ _ (hk93) _ _ _ _ _ _ _ _ _ _ _ _ _ _ (by omega) (by omega) hkx hH hS (lv_sub hl [1, 2, 3, 4, 5, 6, 7, 8, 9, 10, 11, 12, 13, 14, 0] rfl) hf
      · have hf := hg.1 c46
        refine lv_iconst (v := 1) hx hb dL_law_319 (by decide) ?_
        refine lv_iload hx hb dL_law_320 (lv_at hl 13 rfl) ?_
        refine lv_iconst (v := 3) hx hb dL_law_322 (by decide) ?_
        refine lv_ishr hx hb dL_law_323 ?_
        refine lv_bipush (v := 9) hx hb dL_law_324 (by decide) ?_
        obtain ⟨v52, h53, hf⟩ := gbind hf
        refine g_Si (As := [.int (x12 >>> (3 &&& 31)), .int 9]) (rest := [.int 1]) ⟨hx, hb, hml, hown, hts⟩ (c9_low l w K g S (x12 >>> (3 &&& 31)) 9 v52 h53) (gcwS hts i9_low wd_99 rfl rfl ⟨Nat.le_of_ble_eq_true rfl, Nat.le_of_ble_eq_true rfl⟩) hH hK hS hl.1 rfl rfl (Nat.le_of_ble_eq_true rfl) dL_law_326 ⟨by show _ + 0 ≤ 600000; omega, by show _ + 0 ≤ 7302250; omega⟩ (fun H locs hH hS => ?_)
        refine lv_iadd hx hb dL_law_329 ?_
        refine lv_goto (tgt := 393) hx hb dL_law_330 (by decide) ?_
        exact B393 _ _ (hk93) _ _ _ _ _ _ _ _ _ _ _ _ _ _ (by omega) (by omega) hkx hH hS (lv_sub hl [1, 2, 3, 4, 5, 6, 7, 8, 9, 10, 11, 12, 13, 14, 0] rfl) hf
  have B274 : ∀ (k93 : GK → GM → GS → Int32 → Option (Int32)) (nn : Nat), (∀ (K : GK) (g : GM) (S : GS) (x10 : Int32) (cells slots : Nat) (H : Heap) (locs : List Loc) (ls : Array Slot), cells + 0 + 12 * nn ≤ 600000 → slots + 0 + 818 * nn ≤ 7302250 → gkd K xa = 8 → HR w K g S H → va_S (FR w) s.heap H locs → lv_has ls 19 [(0, .ref b), (1, .ref xa), (2, .ref (w.2.2.2 + 0)), (3, .ref (w.2.2.2 + 1)), (4, .ref (w.2.2.2 + 2)), (5, .ref (w.2.2.2 + 3)), (6, .ref (w.2.2.2 + 4)), (7, .ref (w.2.2.2 + 5)), (8, .ref (w.2.2.2 + 6)), (9, .ref (w.2.2.2 + 7)), (10, .int x10)] → k93 K g S x10 = some 1 → W p l e room_1 s m #[Value.ref b] below meth c H locs cells slots (lw_Z below #[Value.ref b] s) (F0 m 93 ls [])) → ∀ (K : GK) (g : GM) (S : GS) (x10 : Int32) (x11 : Int32) (x12 : Int32) (x13 : Int32) (cells slots : Nat) (H : Heap) (locs : List Loc) (ls : Array Slot), cells + 12 + 12 * nn ≤ 600000 → slots + 818 + 818 * nn ≤ 7302250 → gkd K xa = 8 → HR w K g S H → va_S (FR w) s.heap H locs → lv_has ls 19 [(0, .ref b), (1, .ref xa), (2, .ref (w.2.2.2 + 0)), (3, .ref (w.2.2.2 + 1)), (4, .ref (w.2.2.2 + 2)), (5, .ref (w.2.2.2 + 3)), (6, .ref (w.2.2.2 + 4)), (7, .ref (w.2.2.2 + 5)), (8, .ref (w.2.2.2 + 6)), (9, .ref (w.2.2.2 + 7)), (10, .int x10), (11, .int x11), (12, .int x12), (13, .int x13)] → f9_law_274 k93 xs L xa K g S x10 x11 x12 x13 = some 1 → W p l e room_1 s m #[Value.ref b] below meth c H locs cells slots (lw_Z below #[Value.ref b] s) (F0 m 274 ls []) := by
    intro k93 nn hk93 K g S x10 x11 x12 x13 cells slots H locs ls hc1 hc2 hkx hH hS hl hf
    unfold f9_law_274 at hf
    refine lv_iload hx hb dL_law_274 (lv_at hl 12 rfl) ?_
    refine lv_iconst (v := 5) hx hb dL_law_276 (by decide) ?_
    obtain ⟨v54, h55, hf⟩ := gbind hf
    refine g_Si (As := [.int x12, .int 5]) (rest := []) ⟨hx, hb, hml, hown, hts⟩ (c9_low l w K g S x12 5 v54 h55) (gcwS hts i9_low wd_99 rfl rfl ⟨Nat.le_of_ble_eq_true rfl, Nat.le_of_ble_eq_true rfl⟩) hH hK hS hl.1 rfl rfl (Nat.le_of_ble_eq_true rfl) dL_law_277 ⟨by show _ + 0 ≤ 600000; omega, by show _ + 0 ≤ 7302250; omega⟩ (fun H locs hH hS => ?_)
    refine lv_goto (tgt := 305) hx hb dL_law_280 (by decide) ?_
    exact B305 _ _ (hk93) _ _ _ _ _ _ _ _ _ _ _ _ _ (by omega) (by omega) hkx hH hS (lv_sub hl [0, 1, 2, 3, 4, 5, 6, 7, 8, 9, 10, 11, 12, 13] rfl) hf
  have B262 : ∀ (k93 : GK → GM → GS → Int32 → Option (Int32)) (nn : Nat), (∀ (K : GK) (g : GM) (S : GS) (x10 : Int32) (cells slots : Nat) (H : Heap) (locs : List Loc) (ls : Array Slot), cells + 0 + 12 * nn ≤ 600000 → slots + 0 + 818 * nn ≤ 7302250 → gkd K xa = 8 → HR w K g S H → va_S (FR w) s.heap H locs → lv_has ls 19 [(0, .ref b), (1, .ref xa), (2, .ref (w.2.2.2 + 0)), (3, .ref (w.2.2.2 + 1)), (4, .ref (w.2.2.2 + 2)), (5, .ref (w.2.2.2 + 3)), (6, .ref (w.2.2.2 + 4)), (7, .ref (w.2.2.2 + 5)), (8, .ref (w.2.2.2 + 6)), (9, .ref (w.2.2.2 + 7)), (10, .int x10)] → k93 K g S x10 = some 1 → W p l e room_1 s m #[Value.ref b] below meth c H locs cells slots (lw_Z below #[Value.ref b] s) (F0 m 93 ls [])) → ∀ (K : GK) (g : GM) (S : GS) (x10 : Int32) (x11 : Int32) (x12 : Int32) (x13 : Int32) (cells slots : Nat) (H : Heap) (locs : List Loc) (ls : Array Slot), cells + 12 + 12 * nn ≤ 600000 → slots + 818 + 818 * nn ≤ 7302250 → gkd K xa = 8 → HR w K g S H → va_S (FR w) s.heap H locs → lv_has ls 19 [(0, .ref b), (1, .ref xa), (2, .ref (w.2.2.2 + 0)), (3, .ref (w.2.2.2 + 1)), (4, .ref (w.2.2.2 + 2)), (5, .ref (w.2.2.2 + 3)), (6, .ref (w.2.2.2 + 4)), (7, .ref (w.2.2.2 + 5)), (8, .ref (w.2.2.2 + 6)), (9, .ref (w.2.2.2 + 7)), (10, .int x10), (11, .int x11), (12, .int x12), (13, .int x13)] → f9_law_262 k93 xs L xa K g S x10 x11 x12 x13 = some 1 → W p l e room_1 s m #[Value.ref b] below meth c H locs cells slots (lw_Z below #[Value.ref b] s) (F0 m 262 ls []) := by
    intro k93 nn hk93 K g S x10 x11 x12 x13 cells slots H locs ls hc1 hc2 hkx hH hS hl hf
    unfold f9_law_262 at hf
    refine lv_iload hx hb dL_law_262 (lv_at hl 13 rfl) ?_
    refine lv_iconst (v := 2) hx hb dL_law_264 (by decide) ?_
    have hg := gif hf
    refine lv_icmp_lt (tgt := 274) hx hb dL_law_265 (by decide) (fun c56 => ?_) (fun c56 => ?_)
    · have hf := hg.1 c56
      exact B274 _ _ (hk93) _ _ _ _ _ _ _ _ _ _ _ _ (by omega) (by omega) hkx hH hS (lv_sub hl [0, 1, 2, 3, 4, 5, 6, 7, 8, 9, 10, 11, 12, 13] rfl) hf
    · have hf := hg.2 c56
      refine lv_iload hx hb dL_law_268 (lv_at hl 13 rfl) ?_
      refine lv_iconst (v := 5) hx hb dL_law_270 (by decide) ?_
      have hg := gif hf
      refine lv_icmp_ne (tgt := 283) hx hb dL_law_271 (by decide) (fun c57 => ?_) (fun c57 => ?_)
      · have hf := hg.2 c57
        refine lv_iload hx hb dL_law_283 (lv_at hl 13 rfl) ?_
        refine lv_iconst (v := 3) hx hb dL_law_285 (by decide) ?_
        have hg := gif hf
        refine lv_icmp_ne (tgt := 299) hx hb dL_law_286 (by decide) (fun c58 => ?_) (fun c58 => ?_)
        · have hf := hg.2 c58
          refine lv_iload hx hb dL_law_299 (lv_at hl 12 rfl) ?_
          refine lv_iconst (v := 3) hx hb dL_law_301 (by decide) ?_
          obtain ⟨v59, h60, hf⟩ := gbind hf
          refine g_Si (As := [.int x12, .int 3]) (rest := []) ⟨hx, hb, hml, hown, hts⟩ (c9_low l w K g S x12 3 v59 h60) (gcwS hts i9_low wd_99 rfl rfl ⟨Nat.le_of_ble_eq_true rfl, Nat.le_of_ble_eq_true rfl⟩) hH hK hS hl.1 rfl rfl (Nat.le_of_ble_eq_true rfl) dL_law_302 ⟨by show _ + 0 ≤ 600000; omega, by show _ + 0 ≤ 7302250; omega⟩ (fun H locs hH hS => ?_)
          exact B305 _ _ (hk93) _ _ _ _ _ _ _ _ _ _ _ _ _ (by omega) (by omega) hkx hH hS (lv_sub hl [0, 1, 2, 3, 4, 5, 6, 7, 8, 9, 10, 11, 12, 13] rfl) hf
        · have hf := hg.1 c58
          refine lv_iload hx hb dL_law_289 (lv_at hl 12 rfl) ?_
          refine lv_bipush (v := 6) hx hb dL_law_291 (by decide) ?_
          obtain ⟨v61, h62, hf⟩ := gbind hf
          refine g_Si (As := [.int x12, .int 6]) (rest := []) ⟨hx, hb, hml, hown, hts⟩ (c9_low l w K g S x12 6 v61 h62) (gcwS hts i9_low wd_99 rfl rfl ⟨Nat.le_of_ble_eq_true rfl, Nat.le_of_ble_eq_true rfl⟩) hH hK hS hl.1 rfl rfl (Nat.le_of_ble_eq_true rfl) dL_law_293 ⟨by show _ + 0 ≤ 600000; omega, by show _ + 0 ≤ 7302250; omega⟩ (fun H locs hH hS => ?_)
          refine lv_goto (tgt := 305) hx hb dL_law_296 (by decide) ?_
          exact B305 _ _ (hk93) _ _ _ _ _ _ _ _ _ _ _ _ _ (by omega) (by omega) hkx hH hS (lv_sub hl [0, 1, 2, 3, 4, 5, 6, 7, 8, 9, 10, 11, 12, 13] rfl) hf
      · have hf := hg.1 c57
        exact B274 _ _ (hk93) _ _ _ _ _ _ _ _ _ _ _ _ (by omega) (by omega) hkx hH hS (lv_sub hl [0, 1, 2, 3, 4, 5, 6, 7, 8, 9, 10, 11, 12, 13] rfl) hf
  have B244 : ∀ (k93 : GK → GM → GS → Int32 → Option (Int32)) (nn : Nat), (∀ (K : GK) (g : GM) (S : GS) (x10 : Int32) (cells slots : Nat) (H : Heap) (locs : List Loc) (ls : Array Slot), cells + 0 + 12 * nn ≤ 600000 → slots + 0 + 818 * nn ≤ 7302250 → gkd K xa = 8 → HR w K g S H → va_S (FR w) s.heap H locs → lv_has ls 19 [(0, .ref b), (1, .ref xa), (2, .ref (w.2.2.2 + 0)), (3, .ref (w.2.2.2 + 1)), (4, .ref (w.2.2.2 + 2)), (5, .ref (w.2.2.2 + 3)), (6, .ref (w.2.2.2 + 4)), (7, .ref (w.2.2.2 + 5)), (8, .ref (w.2.2.2 + 6)), (9, .ref (w.2.2.2 + 7)), (10, .int x10)] → k93 K g S x10 = some 1 → W p l e room_1 s m #[Value.ref b] below meth c H locs cells slots (lw_Z below #[Value.ref b] s) (F0 m 93 ls [])) → ∀ (K : GK) (g : GM) (S : GS) (x10 : Int32) (x11 : Int32) (x12 : Int32) (s0 : Int32) (cells slots : Nat) (H : Heap) (locs : List Loc) (ls : Array Slot), cells + 12 + 12 * nn ≤ 600000 → slots + 818 + 818 * nn ≤ 7302250 → gkd K xa = 8 → HR w K g S H → va_S (FR w) s.heap H locs → lv_has ls 19 [(0, .ref b), (1, .ref xa), (2, .ref (w.2.2.2 + 0)), (3, .ref (w.2.2.2 + 1)), (4, .ref (w.2.2.2 + 2)), (5, .ref (w.2.2.2 + 3)), (6, .ref (w.2.2.2 + 4)), (7, .ref (w.2.2.2 + 5)), (8, .ref (w.2.2.2 + 6)), (9, .ref (w.2.2.2 + 7)), (10, .int x10), (11, .int x11), (12, .int x12)] → f9_law_244 k93 xs L xa K g S x10 x11 x12 s0 = some 1 → W p l e room_1 s m #[Value.ref b] below meth c H locs cells slots (lw_Z below #[Value.ref b] s) (F0 m 244 ls [.int s0]) := by
    intro k93 nn hk93 K g S x10 x11 x12 s0 cells slots H locs ls hc1 hc2 hkx hH hS hl hf
    unfold f9_law_244 at hf
    refine lv_istore (lv' := [(13, .int s0), (0, .ref b), (1, .ref xa), (2, .ref (w.2.2.2 + 0)), (3, .ref (w.2.2.2 + 1)), (4, .ref (w.2.2.2 + 2)), (5, .ref (w.2.2.2 + 3)), (6, .ref (w.2.2.2 + 4)), (7, .ref (w.2.2.2 + 5)), (8, .ref (w.2.2.2 + 6)), (9, .ref (w.2.2.2 + 7)), (10, .int x10), (11, .int x11), (12, .int x12)]) hx hb dL_law_244 hl (by decide) rfl (fun ls hl => ?_)
    refine lv_iload hx hb dL_law_246 (lv_at hl 0 rfl) ?_
    have hg := gif hf
    refine lv_if_ne (tgt := 262) hx hb dL_law_248 (by decide) (fun c63 => ?_) (fun c63 => ?_)
    · have hf := hg.2 c63
      exact B262 _ _ (hk93) _ _ _ _ _ _ _ _ _ _ _ _ (by omega) (by omega) hkx hH hS (lv_sub hl [1, 2, 3, 4, 5, 6, 7, 8, 9, 10, 11, 12, 13, 0] rfl) hf
    · have hf := hg.1 c63
      refine lv_iload hx hb dL_law_251 (lv_at hl 11 rfl) ?_
      refine lv_iconst (v := 4) hx hb dL_law_253 (by decide) ?_
      have hg := gif hf
      refine lv_icmp_ge (tgt := 262) hx hb dL_law_254 (by decide) (fun c64 => ?_) (fun c64 => ?_)
      · have hf := hg.1 c64
        exact B262 _ _ (hk93) _ _ _ _ _ _ _ _ _ _ _ _ (by omega) (by omega) hkx hH hS (lv_sub hl [1, 2, 3, 4, 5, 6, 7, 8, 9, 10, 11, 12, 13, 0] rfl) hf
      · have hf := hg.2 c64
        refine lv_iload hx hb dL_law_257 (lv_at hl 11 rfl) ?_
        refine lv_goto (tgt := 305) hx hb dL_law_259 (by decide) ?_
        exact B305 _ _ (hk93) _ _ _ _ _ _ _ _ _ _ _ _ _ (by omega) (by omega) hkx hH hS (lv_sub hl [1, 2, 3, 4, 5, 6, 7, 8, 9, 10, 11, 12, 13, 0] rfl) hf
  have B143 : ∀ (k93 : GK → GM → GS → Int32 → Option (Int32)) (nn : Nat), (∀ (K : GK) (g : GM) (S : GS) (x10 : Int32) (cells slots : Nat) (H : Heap) (locs : List Loc) (ls : Array Slot), cells + 0 + 12 * nn ≤ 600000 → slots + 0 + 818 * nn ≤ 7302250 → gkd K xa = 8 → HR w K g S H → va_S (FR w) s.heap H locs → lv_has ls 19 [(0, .ref b), (1, .ref xa), (2, .ref (w.2.2.2 + 0)), (3, .ref (w.2.2.2 + 1)), (4, .ref (w.2.2.2 + 2)), (5, .ref (w.2.2.2 + 3)), (6, .ref (w.2.2.2 + 4)), (7, .ref (w.2.2.2 + 5)), (8, .ref (w.2.2.2 + 6)), (9, .ref (w.2.2.2 + 7)), (10, .int x10)] → k93 K g S x10 = some 1 → W p l e room_1 s m #[Value.ref b] below meth c H locs cells slots (lw_Z below #[Value.ref b] s) (F0 m 93 ls [])) → ∀ (K : GK) (g : GM) (S : GS) (x10 : Int32) (x11 : Int32) (x12 : Int32) (cells slots : Nat) (H : Heap) (locs : List Loc) (ls : Array Slot), cells + 12 + 12 * nn ≤ 600000 → slots + 818 + 818 * nn ≤ 7302250 → gkd K xa = 8 → HR w K g S H → va_S (FR w) s.heap H locs → lv_has ls 19 [(0, .ref b), (1, .ref xa), (2, .ref (w.2.2.2 + 0)), (3, .ref (w.2.2.2 + 1)), (4, .ref (w.2.2.2 + 2)), (5, .ref (w.2.2.2 + 3)), (6, .ref (w.2.2.2 + 4)), (7, .ref (w.2.2.2 + 5)), (8, .ref (w.2.2.2 + 6)), (9, .ref (w.2.2.2 + 7)), (10, .int x10), (11, .int x11), (12, .int x12)] → f9_law_143 k93 xs L xa K g S x10 x11 x12 = some 1 → W p l e room_1 s m #[Value.ref b] below meth c H locs cells slots (lw_Z below #[Value.ref b] s) (F0 m 143 ls []) := by
    intro k93 nn hk93 K g S x10 x11 x12 cells slots H locs ls hc1 hc2 hkx hH hS hl hf
    unfold f9_law_143 at hf
    refine lv_iconst (v := 0) hx hb dL_law_143 (by decide) ?_
    refine lv_goto (tgt := 244) hx hb dL_law_144 (by decide) ?_
    exact B244 _ _ (hk93) _ _ _ _ _ _ _ _ _ _ _ _ (by omega) (by omega) hkx hH hS (lv_sub hl [0, 1, 2, 3, 4, 5, 6, 7, 8, 9, 10, 11, 12] rfl) hf
  have B160 : ∀ (k93 : GK → GM → GS → Int32 → Option (Int32)) (nn : Nat), (∀ (K : GK) (g : GM) (S : GS) (x10 : Int32) (cells slots : Nat) (H : Heap) (locs : List Loc) (ls : Array Slot), cells + 0 + 12 * nn ≤ 600000 → slots + 0 + 818 * nn ≤ 7302250 → gkd K xa = 8 → HR w K g S H → va_S (FR w) s.heap H locs → lv_has ls 19 [(0, .ref b), (1, .ref xa), (2, .ref (w.2.2.2 + 0)), (3, .ref (w.2.2.2 + 1)), (4, .ref (w.2.2.2 + 2)), (5, .ref (w.2.2.2 + 3)), (6, .ref (w.2.2.2 + 4)), (7, .ref (w.2.2.2 + 5)), (8, .ref (w.2.2.2 + 6)), (9, .ref (w.2.2.2 + 7)), (10, .int x10)] → k93 K g S x10 = some 1 → W p l e room_1 s m #[Value.ref b] below meth c H locs cells slots (lw_Z below #[Value.ref b] s) (F0 m 93 ls [])) → ∀ (K : GK) (g : GM) (S : GS) (x10 : Int32) (x11 : Int32) (x12 : Int32) (cells slots : Nat) (H : Heap) (locs : List Loc) (ls : Array Slot), cells + 12 + 12 * nn ≤ 600000 → slots + 818 + 818 * nn ≤ 7302250 → gkd K xa = 8 → HR w K g S H → va_S (FR w) s.heap H locs → lv_has ls 19 [(0, .ref b), (1, .ref xa), (2, .ref (w.2.2.2 + 0)), (3, .ref (w.2.2.2 + 1)), (4, .ref (w.2.2.2 + 2)), (5, .ref (w.2.2.2 + 3)), (6, .ref (w.2.2.2 + 4)), (7, .ref (w.2.2.2 + 5)), (8, .ref (w.2.2.2 + 6)), (9, .ref (w.2.2.2 + 7)), (10, .int x10), (11, .int x11), (12, .int x12)] → f9_law_160 k93 xs L xa K g S x10 x11 x12 = some 1 → W p l e room_1 s m #[Value.ref b] below meth c H locs cells slots (lw_Z below #[Value.ref b] s) (F0 m 160 ls []) := by
    intro k93 nn hk93 K g S x10 x11 x12 cells slots H locs ls hc1 hc2 hkx hH hS hl hf
    unfold f9_law_160 at hf
    refine lv_iconst (v := 1) hx hb dL_law_160 (by decide) ?_
    refine lv_goto (tgt := 244) hx hb dL_law_161 (by decide) ?_
    exact B244 _ _ (hk93) _ _ _ _ _ _ _ _ _ _ _ _ (by omega) (by omega) hkx hH hS (lv_sub hl [0, 1, 2, 3, 4, 5, 6, 7, 8, 9, 10, 11, 12] rfl) hf
  have B93 : ∀ n : Nat, ∀ (K : GK) (g : GM) (S : GS) (x10 : Int32) (cells slots : Nat) (H : Heap) (locs : List Loc) (ls : Array Slot), cells + 0 + 12 * n ≤ 600000 → slots + 0 + 818 * n ≤ 7302250 → gkd K xa = 8 → HR w K g S H → va_S (FR w) s.heap H locs → lv_has ls 19 [(0, .ref b), (1, .ref xa), (2, .ref (w.2.2.2 + 0)), (3, .ref (w.2.2.2 + 1)), (4, .ref (w.2.2.2 + 2)), (5, .ref (w.2.2.2 + 3)), (6, .ref (w.2.2.2 + 4)), (7, .ref (w.2.2.2 + 5)), (8, .ref (w.2.2.2 + 6)), (9, .ref (w.2.2.2 + 7)), (10, .int x10)] → f9_law_93 xs L xa n K g S x10 = some 1 → W p l e room_1 s m #[Value.ref b] below meth c H locs cells slots (lw_Z below #[Value.ref b] s) (F0 m 93 ls []) := by
    intro n
    induction n with
    | zero =>
      intro K g S x10 cells slots H locs ls hc1 hc2 hkx hH hS hl hf
      cases hf
    | succ n ih =>
      intro K g S x10 cells slots H locs ls hc1 hc2 hkx hH hS hl hf
      rw [f9_law_93] at hf
      refine lv_iload hx hb dL_law_93 (lv_at hl 10 rfl) ?_
      refine lv_bipush (v := 44) hx hb dL_law_95 (by decide) ?_
      have hg := gif hf
      refine lv_icmp_ge (tgt := 584) hx hb dL_law_97 (by decide) (fun c65 => ?_) (fun c65 => ?_)
      · have hf := hg.1 c65
        refine lv_iconst (v := 1) hx hb dL_law_584 (by decide) ?_
        refine va_forget (fun q hq => by have := hS.2.2 q hq; show s.heap.size ≤ q.base; rw [← hw]; exact this) ?_
        refine W.widen (k := 600000) (n := 7302250) (by omega) (by omega) ?_
        exact lw_ret hx hb hr hlocks dL_law_585
      · have hf := hg.2 c65
        refine lv_aload_n hx hb dL_law_100 rfl (lv_at hl 0 rfl) ?_
        refine lv_iconst (v := 2) hx hb dL_law_101 (by decide) ?_
        refine lv_iload hx hb dL_law_102 (lv_at hl 10 rfl) ?_
        refine lv_imul hx hb dL_law_104 ?_
        obtain ⟨v66, h67, hf⟩ := gbind hf
        refine g_SiC (As := [.ref b, .int (2 * x10)]) (rest := []) ⟨hx, hb, hml, hown, hts⟩ (c9_cell l w K g S xs L b (2 * x10) v66 h67 hbA) (gcwS hts i9_cell wd_93 rfl rfl ⟨Nat.le_of_ble_eq_true rfl, Nat.le_of_ble_eq_true rfl⟩) hH hK hX hbl hbA hS hl.1 rfl rfl (Nat.le_of_ble_eq_true rfl) dL_law_105 ⟨by show _ + 0 ≤ 600000; omega, by show _ + 0 ≤ 7302250; omega⟩ (fun H locs hH hS => ?_)
        refine lv_istore (lv' := [(11, .int v66), (0, .ref b), (1, .ref xa), (2, .ref (w.2.2.2 + 0)), (3, .ref (w.2.2.2 + 1)), (4, .ref (w.2.2.2 + 2)), (5, .ref (w.2.2.2 + 3)), (6, .ref (w.2.2.2 + 4)), (7, .ref (w.2.2.2 + 5)), (8, .ref (w.2.2.2 + 6)), (9, .ref (w.2.2.2 + 7)), (10, .int x10)]) hx hb dL_law_108 hl (by decide) rfl (fun ls hl => ?_)
        refine lv_aload_n hx hb dL_law_110 rfl (lv_at hl 1 rfl) ?_
        refine lv_iconst (v := 2) hx hb dL_law_111 (by decide) ?_
        refine lv_iload hx hb dL_law_112 (lv_at hl 11 rfl) ?_
        refine lv_imul hx hb dL_law_114 ?_
        refine lv_iconst (v := 1) hx hb dL_law_115 (by decide) ?_
        refine lv_iadd hx hb dL_law_116 ?_
        obtain ⟨v68, h69, hf⟩ := gbind hf
        refine g_SiC (As := [.ref b, .int ((2 * x10) + 1)]) (rest := []) ⟨hx, hb, hml, hown, hts⟩ (c9_cell l w K g S xs L b ((2 * x10) + 1) v68 h69 hbA) (gcwS hts i9_cell wd_93 rfl rfl ⟨Nat.le_of_ble_eq_true rfl, Nat.le_of_ble_eq_true rfl⟩) hH hK hX hbl hbA hS hl.1 rfl rfl (Nat.le_of_ble_eq_true rfl) dL_law_117 ⟨by show _ + 0 ≤ 600000; omega, by show _ + 0 ≤ 7302250; omega⟩ (fun H locs hH hS => ?_)
        refine lv_istore (lv' := [(12, .int v68), (11, .int v66), (0, .ref b), (1, .ref xa), (2, .ref (w.2.2.2 + 0)), (3, .ref (w.2.2.2 + 1)), (4, .ref (w.2.2.2 + 2)), (5, .ref (w.2.2.2 + 3)), (6, .ref (w.2.2.2 + 4)), (7, .ref (w.2.2.2 + 5)), (8, .ref (w.2.2.2 + 6)), (9, .ref (w.2.2.2 + 7)), (10, .int x10)]) hx hb dL_law_120 hl (by decide) rfl (fun ls hl => ?_)
        refine lv_iload hx hb dL_law_122 (lv_at hl 1 rfl) ?_
        refine lv_bipush (v := 24) hx hb dL_law_124 (by decide) ?_
        obtain ⟨v70, h71, hf⟩ := gbind hf
        refine g_Si (As := [.int v66, .int 24]) (rest := []) ⟨hx, hb, hml, hown, hts⟩ (c9_low l w K g S v66 24 v70 h71) (gcwS hts i9_low wd_99 rfl rfl ⟨Nat.le_of_ble_eq_true rfl, Nat.le_of_ble_eq_true rfl⟩) hH hK hS hl.1 rfl rfl (Nat.le_of_ble_eq_true rfl) dL_law_126 ⟨by show _ + 0 ≤ 600000; omega, by show _ + 0 ≤ 7302250; omega⟩ (fun H locs hH hS => ?_)
        refine lv_istore (lv' := [(13, .int v70), (12, .int v68), (11, .int v66), (0, .ref b), (1, .ref xa), (2, .ref (w.2.2.2 + 0)), (3, .ref (w.2.2.2 + 1)), (4, .ref (w.2.2.2 + 2)), (5, .ref (w.2.2.2 + 3)), (6, .ref (w.2.2.2 + 4)), (7, .ref (w.2.2.2 + 5)), (8, .ref (w.2.2.2 + 6)), (9, .ref (w.2.2.2 + 7)), (10, .int x10)]) hx hb dL_law_129 hl (by decide) rfl (fun ls hl => ?_)
        refine lv_iload hx hb dL_law_131 (lv_at hl 13 rfl) ?_
        refine lv_iconst (v := 4) hx hb dL_law_133 (by decide) ?_
        have hg := gif hf
        refine lv_icmp_lt (tgt := 143) hx hb dL_law_134 (by decide) (fun c72 => ?_) (fun c72 => ?_)
        · have hf := hg.1 c72
          exact B143 _ _ (ih) _ _ _ _ _ _ _ _ _ _ _ (by omega) (by omega) hkx hH hS (lv_sub hl [3, 4, 5, 6, 7, 8, 9, 10, 11, 12, 13, 2, 1] rfl) hf
        · have hf := hg.2 c72
          refine lv_iload hx hb dL_law_137 (lv_at hl 0 rfl) ?_
          refine lv_iconst (v := 3) hx hb dL_law_139 (by decide) ?_
          have hg := gif hf
          refine lv_icmp_ge (tgt := 147) hx hb dL_law_140 (by decide) (fun c73 => ?_) (fun c73 => ?_)
          · have hf := hg.1 c73
            refine lv_iload hx hb dL_law_147 (lv_at hl 13 rfl) ?_
            refine lv_iconst (v := 4) hx hb dL_law_149 (by decide) ?_
            have hg := gif hf
            refine lv_icmp_eq (tgt := 160) hx hb dL_law_150 (by decide) (fun c74 => ?_) (fun c74 => ?_)
            · have hf := hg.1 c74
              exact B160 _ _ (ih) _ _ _ _ _ _ _ _ _ _ _ (by omega) (by omega) hkx hH hS (lv_sub hl [3, 4, 5, 6, 7, 8, 9, 10, 11, 12, 13, 2, 1] rfl) hf
            · have hf := hg.2 c74
              refine lv_iload hx hb dL_law_153 (lv_at hl 0 rfl) ?_
              refine lv_bipush (v := 6) hx hb dL_law_155 (by decide) ?_
              have hg := gif hf
              refine lv_icmp_ge (tgt := 164) hx hb dL_law_157 (by decide) (fun c75 => ?_) (fun c75 => ?_)
              · have hf := hg.1 c75
                refine lv_iload hx hb dL_law_164 (lv_at hl 0 rfl) ?_
                refine lv_bipush (v := 13) hx hb dL_law_166 (by decide) ?_
                have hg := gif hf
                refine lv_icmp_ge (tgt := 175) hx hb dL_law_168 (by decide) (fun c76 => ?_) (fun c76 => ?_)
                · have hf := hg.1 c76
                  refine lv_iload hx hb dL_law_175 (lv_at hl 0 rfl) ?_
                  refine lv_bipush (v := 17) hx hb dL_law_177 (by decide) ?_
                  have hg := gif hf
                  refine lv_icmp_ge (tgt := 186) hx hb dL_law_179 (by decide) (fun c77 => ?_) (fun c77 => ?_)
                  · have hf := hg.1 c77
                    refine lv_iload hx hb dL_law_186 (lv_at hl 0 rfl) ?_
                    refine lv_bipush (v := 20) hx hb dL_law_188 (by decide) ?_
                    have hg := gif hf
                    refine lv_icmp_ge (tgt := 197) hx hb dL_law_190 (by decide) (fun c78 => ?_) (fun c78 => ?_)
                    · have hf := hg.1 c78
                      refine lv_iload hx hb dL_law_197 (lv_at hl 0 rfl) ?_
                      refine lv_bipush (v := 20) hx hb dL_law_199 (by decide) ?_
                      have hg := gif hf
                      refine lv_icmp_ne (tgt := 219) hx hb dL_law_201 (by decide) (fun c79 => ?_) (fun c79 => ?_)
                      · have hf := hg.2 c79
                        refine lv_iload hx hb dL_law_219 (lv_at hl 0 rfl) ?_
                        refine lv_bipush (v := 21) hx hb dL_law_221 (by decide) ?_
                        have hg := gif hf
                        refine lv_icmp_ne (tgt := 242) hx hb dL_law_223 (by decide) (fun c80 => ?_) (fun c80 => ?_)
                        · have hf := hg.2 c80
                          refine lv_bipush (v := 7) hx hb dL_law_242 (by decide) ?_
                          exact B244 _ _ (ih) _ _ _ _ _ _ _ _ _ _ _ _ (by omega) (by omega) hkx hH hS (lv_sub hl [3, 4, 5, 6, 7, 8, 9, 10, 11, 12, 13, 2, 1] rfl) hf
                        · have hf := hg.1 c80
                          refine lv_iload hx hb dL_law_226 (lv_at hl 13 rfl) ?_
                          refine lv_iconst (v := 4) hx hb dL_law_228 (by decide) ?_
                          refine lv_irem hx hb dL_law_229 (by decide) ?_
                          have hg := gif hf
                          refine lv_if_ne (tgt := 238) hx hb dL_law_230 (by decide) (fun c82 => ?_) (fun c82 => ?_)
                          · have hf := hg.2 c82
                            refine lv_iconst (v := 2) hx hb dL_law_238 (by decide) ?_
                            refine lv_goto (tgt := 244) hx hb dL_law_239 (by decide) ?_
                            exact B244 _ _ (ih) _ _ _ _ _ _ _ _ _ _ _ _ (by omega) (by omega) hkx hH hS (lv_sub hl [3, 4, 5, 6, 7, 8, 9, 10, 11, 12, 13, 2, 1] rfl) hf
                          · have hf := hg.1 c82
                            refine lv_bipush (v := 6) hx hb dL_law_233 (by decide) ?_
                            refine lv_goto (tgt := 244) hx hb dL_law_235 (by decide) ?_
                            exact B244 _ _ (ih) _ _ _ _ _ _ _ _ _ _ _ _ (by omega) (by omega) hkx hH hS (lv_sub hl [3, 4, 5, 6, 7, 8, 9, 10, 11, 12, 13, 2, 1] rfl) hf
                      · have hf := hg.1 c79
                        refine lv_iload hx hb dL_law_204 (lv_at hl 13 rfl) ?_
                        refine lv_iconst (v := 4) hx hb dL_law_206 (by decide) ?_
                        refine lv_irem hx hb dL_law_207 (by decide) ?_
                        have hg := gif hf
                        refine lv_if_ne (tgt := 215) hx hb dL_law_208 (by decide) (fun c84 => ?_) (fun c84 => ?_)
                        · have hf := hg.2 c84
                          refine lv_iconst (v := 2) hx hb dL_law_215 (by decide) ?_
                          refine lv_goto (tgt := 244) hx hb dL_law_216 (by decide) ?_
                          exact B244 _ _ (ih) _ _ _ _ _ _ _ _ _ _ _ _ (by omega) (by omega) hkx hH hS (lv_sub hl [3, 4, 5, 6, 7, 8, 9, 10, 11, 12, 13, 2, 1] rfl) hf
                        · have hf := hg.1 c84
                          refine lv_iconst (v := 5) hx hb dL_law_211 (by decide) ?_
                          refine lv_goto (tgt := 244) hx hb dL_law_212 (by decide) ?_
                          exact B244 _ _ (ih) _ _ _ _ _ _ _ _ _ _ _ _ (by omega) (by omega) hkx hH hS (lv_sub hl [3, 4, 5, 6, 7, 8, 9, 10, 11, 12, 13, 2, 1] rfl) hf
                    · have hf := hg.2 c78
                      refine lv_iconst (v := 4) hx hb dL_law_193 (by decide) ?_
                      refine lv_goto (tgt := 244) hx hb dL_law_194 (by decide) ?_
                      exact B244 _ _ (ih) _ _ _ _ _ _ _ _ _ _ _ _ (by omega) (by omega) hkx hH hS (lv_sub hl [3, 4, 5, 6, 7, 8, 9, 10, 11, 12, 13, 2, 1] rfl) hf
                  · have hf := hg.2 c77
                    refine lv_iconst (v := 3) hx hb dL_law_182 (by decide) ?_
                    refine lv_goto (tgt := 244) hx hb dL_law_183 (by decide) ?_
                    exact B244 _ _ (ih) _ _ _ _ _ _ _ _ _ _ _ _ (by omega) (by omega) hkx hH hS (lv_sub hl [3, 4, 5, 6, 7, 8, 9, 10, 11, 12, 13, 2, 1] rfl) hf
                · have hf := hg.2 c76
                  refine lv_iconst (v := 2) hx hb dL_law_171 (by decide) ?_
                  refine lv_goto (tgt := 244) hx hb dL_law_172 (by decide) ?_
                  exact B244 _ _ (ih) _ _ _ _ _ _ _ _ _ _ _ _ (by omega) (by omega) hkx hH hS (lv_sub hl [3, 4, 5, 6, 7, 8, 9, 10, 11, 12, 13, 2, 1] rfl) hf
              · have hf := hg.2 c75
                exact B160 _ _ (ih) _ _ _ _ _ _ _ _ _ _ _ (by omega) (by omega) hkx hH hS (lv_sub hl [3, 4, 5, 6, 7, 8, 9, 10, 11, 12, 13, 2, 1] rfl) hf
          · have hf := hg.2 c73
            exact B143 _ _ (ih) _ _ _ _ _ _ _ _ _ _ _ (by omega) (by omega) hkx hH hS (lv_sub hl [3, 4, 5, 6, 7, 8, 9, 10, 11, 12, 13, 2, 1] rfl) hf
  have B71 : ∀ n : Nat, ∀ (K : GK) (g : GM) (S : GS) (x10 : Int32) (cells slots : Nat) (H : Heap) (locs : List Loc) (ls : Array Slot), cells + 720 ≤ 600000 → slots + 49080 ≤ 7302250 → gkd K xa = 8 → HR w K g S H → va_S (FR w) s.heap H locs → lv_has ls 19 [(0, .ref b), (1, .ref xa), (2, .ref (w.2.2.2 + 0)), (3, .ref (w.2.2.2 + 1)), (4, .ref (w.2.2.2 + 2)), (5, .ref (w.2.2.2 + 3)), (6, .ref (w.2.2.2 + 4)), (7, .ref (w.2.2.2 + 5)), (8, .ref (w.2.2.2 + 6)), (9, .ref (w.2.2.2 + 7)), (10, .int x10)] → f9_law_71 xs L xa n K g S x10 = some 1 → W p l e room_1 s m #[Value.ref b] below meth c H locs cells slots (lw_Z below #[Value.ref b] s) (F0 m 71 ls []) := by
    intro n
    induction n with
    | zero =>
      intro K g S x10 cells slots H locs ls hc1 hc2 hkx hH hS hl hf
      cases hf
    | succ n ih =>
      intro K g S x10 cells slots H locs ls hc1 hc2 hkx hH hS hl hf
      rw [f9_law_71] at hf
      refine lv_iload hx hb dL_law_71 (lv_at hl 10 rfl) ?_
      refine lv_bipush (v := 6) hx hb dL_law_73 (by decide) ?_
      have hg := gif hf
      refine lv_icmp_ge (tgt := 90) hx hb dL_law_75 (by decide) (fun c85 => ?_) (fun c85 => ?_)
      · have hf := hg.1 c85
        refine lv_iconst (v := 0) hx hb dL_law_90 (by decide) ?_
        refine lv_istore (lv' := [(10, .int 0), (0, .ref b), (1, .ref xa), (2, .ref (w.2.2.2 + 0)), (3, .ref (w.2.2.2 + 1)), (4, .ref (w.2.2.2 + 2)), (5, .ref (w.2.2.2 + 3)), (6, .ref (w.2.2.2 + 4)), (7, .ref (w.2.2.2 + 5)), (8, .ref (w.2.2.2 + 6)), (9, .ref (w.2.2.2 + 7))]) hx hb dL_law_91 hl (by decide) rfl (fun ls hl => ?_)
        exact B93 _ _ _ _ _ _ _ _ _ _ (by omega) (by omega) hkx hH hS (lv_sub hl [1, 2, 3, 4, 5, 6, 7, 8, 9, 10, 0] rfl) hf
      · have hf := hg.2 c85
        refine lv_aload_n hx hb dL_law_78 rfl (lv_at hl 3 rfl) ?_
        refine lv_iload hx hb dL_law_79 (lv_at hl 10 rfl) ?_
        refine lv_bipush (v := 50) hx hb dL_law_81 (by decide) ?_
        obtain ⟨h87, hf⟩ := gd_some hf
        refine m_iast hx hb hK hH hS 1 (by decide) rfl h87 dL_law_83 (fun H locs hH hS => ?_)
        obtain ⟨S88, eS88⟩ : ∃ z : GS, z = ssI S 1 x10.toNatClampNeg 50 := ⟨_, rfl⟩
        have hf := gl_at hf eS88
        replace hH : HR w K g S88 H := by rw [eS88]; exact hH
        obtain ⟨v89, ev89⟩ : ∃ z : Int32, z = x10 + 1 := ⟨_, rfl⟩
        have hf := gl_at hf ev89
        refine lv_iinc (v := v89) (lv' := [(10, .int v89), (0, .ref b), (1, .ref xa), (2, .ref (w.2.2.2 + 0)), (3, .ref (w.2.2.2 + 1)), (4, .ref (w.2.2.2 + 2)), (5, .ref (w.2.2.2 + 3)), (6, .ref (w.2.2.2 + 4)), (7, .ref (w.2.2.2 + 5)), (8, .ref (w.2.2.2 + 6)), (9, .ref (w.2.2.2 + 7))]) hx hb dL_law_84 hl (k := 10) rfl (by rw [ev89]; rfl) (by decide) rfl (fun ls hl => ?_)
        refine lv_goto (tgt := 71) hx hb dL_law_87 (by decide) ?_
        exact ih _ _ _ _ _ _ _ _ _ (by omega) (by omega) hkx hH hS (lv_sub hl [1, 2, 3, 4, 5, 6, 7, 8, 9, 10, 0] rfl) hf
  unfold f9_law at hf
  have hl : lv_has ls 19 [(0, .ref b), (1, .ref xa), (2, .ref (w.2.2.2 + 0)), (3, .ref (w.2.2.2 + 1)), (4, .ref (w.2.2.2 + 2)), (5, .ref (w.2.2.2 + 3)), (6, .ref (w.2.2.2 + 4)), (7, .ref (w.2.2.2 + 5)), (8, .ref (w.2.2.2 + 6)), (9, .ref (w.2.2.2 + 7))] := hl
  refine lv_aload_n hx hb dL_law_54 rfl (lv_at hl 2 rfl) ?_
  refine lv_iconst (v := 0) hx hb dL_law_55 (by decide) ?_
  refine lv_iconst (v := 5) hx hb dL_law_56 (by decide) ?_
  obtain ⟨h91, hf⟩ := gd_some hf
  refine m_iast hx hb hK hH hS 0 (by decide) rfl h91 dL_law_57 (fun H locs hH hS => ?_)
  obtain ⟨S92, eS92⟩ : ∃ z : GS, z = ssI S 0 (0 : Int32).toNatClampNeg 5 := ⟨_, rfl⟩
  have hf := gl_at hf eS92
  replace hH : HR w K g S92 H := by rw [eS92]; exact hH
  refine lv_aload_n hx hb dL_law_58 rfl (lv_at hl 2 rfl) ?_
  refine lv_iconst (v := 1) hx hb dL_law_59 (by decide) ?_
  refine lv_bipush (v := 20) hx hb dL_law_60 (by decide) ?_
  obtain ⟨h94, hf⟩ := gd_some hf
  refine m_iast hx hb hK hH hS 0 (by decide) rfl h94 dL_law_62 (fun H locs hH hS => ?_)
  obtain ⟨S95, eS95⟩ : ∃ z : GS, z = ssI S92 0 (1 : Int32).toNatClampNeg 20 := ⟨_, rfl⟩
  have hf := gl_at hf eS95
  replace hH : HR w K g S95 H := by rw [eS95]; exact hH
  refine lv_aload_n hx hb dL_law_63 rfl (lv_at hl 2 rfl) ?_
  refine lv_iconst (v := 2) hx hb dL_law_64 (by decide) ?_
  refine lv_bipush (v := 10) hx hb dL_law_65 (by decide) ?_
  obtain ⟨h97, hf⟩ := gd_some hf
  refine m_iast hx hb hK hH hS 0 (by decide) rfl h97 dL_law_67 (fun H locs hH hS => ?_)
  obtain ⟨S98, eS98⟩ : ∃ z : GS, z = ssI S95 0 (2 : Int32).toNatClampNeg 10 := ⟨_, rfl⟩
  have hf := gl_at hf eS98
  replace hH : HR w K g S98 H := by rw [eS98]; exact hH
  refine lv_iconst (v := 0) hx hb dL_law_68 (by decide) ?_
  refine lv_istore (lv' := [(10, .int 0), (0, .ref b), (1, .ref xa), (2, .ref (w.2.2.2 + 0)), (3, .ref (w.2.2.2 + 1)), (4, .ref (w.2.2.2 + 2)), (5, .ref (w.2.2.2 + 3)), (6, .ref (w.2.2.2 + 4)), (7, .ref (w.2.2.2 + 5)), (8, .ref (w.2.2.2 + 6)), (9, .ref (w.2.2.2 + 7))]) hx hb dL_law_69 hl (by decide) rfl (fun ls hl => ?_)
  exact B71 _ _ _ _ _ _ _ _ _ _ (by omega) (by omega) hkx hH hS (lv_sub hl [1, 2, 3, 4, 5, 6, 7, 8, 9, 10, 0] rfl) hf
