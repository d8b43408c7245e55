/-! contracts, by program -/
set_option maxRecDepth 100000 in
set_option maxHeartbeats 8000000 in
theorem c9_isThread (l : Launch) (w : GW) (K : GK) (g : GM) (S : GS) (p0 : Nat) (p1 : Int32) (p2 : Int32) (out : Int32) (hf : f9_isThread K g S p0 p1 p2 = some out) : Met l yL_isThread (wA yL_isThread cL_isThread 16 (some .boolean)) ({ frames := 3, cells := 0, slots := 0, locals := 76 } : Room) (PRE w K g S [.ref p0, .int p1, .int p2, .ref (w.2.2.2 + 0), .ref (w.2.2.2 + 1), .ref (w.2.2.2 + 7)]) (QI w K g S out) 0 0 (FR w) := by
  unfold f9_isThread at hf
  refine Met.ofW (cc := cL_isThread) (maxL := 16) (ret := (some .boolean)) (by decide) rfl ?_
  intro p e s m args below meth c s₁ B hml hv
  obtain ⟨rfl, hH, hK⟩ := hv
  have hx := B.exec
  have hb := B.bytes
  have hr := B.returns
  have hts : ∀ q ∈ gALL, q.before _ s = true := fun q h => atoms_spec (ws := (wA yL_isThread cL_isThread 16 (some .boolean))) B.pre q (List.mem_cons_of_mem _ h)
  have hown : s.vm.findClass RL = some m.cls := findClass_of_methodNamed B.named
  have hlocks := B.notSynchronized
  have hS : va_S (FR w) s.heap s.heap [] := va_S.rf
  show W p l e ({ frames := 3, cells := 0, slots := 0, locals := 76 } : Room) s m _ below meth c s.heap [] 0 0 (MQ below (QI w K g S out) _ s 0 0 (FR w)) _
  have hl := lv_entry ([.ref p0, .int p1, .int p2, .ref (w.2.2.2 + 0), .ref (w.2.2.2 + 1), .ref (w.2.2.2 + 7)]) (n := 16) (Nat.le_of_ble_eq_true rfl)
  rw [lg_entry_eq]
  generalize (lg_sl ([.ref p0, .int p1, .int p2, .ref (w.2.2.2 + 0), .ref (w.2.2.2 + 1), .ref (w.2.2.2 + 7)]) ++ List.replicate (16 - (lg_sl ([.ref p0, .int p1, .int p2, .ref (w.2.2.2 + 0), .ref (w.2.2.2 + 1), .ref (w.2.2.2 + 7)])).length) Slot.unset).toArray = ls at hl ⊢
  clear B
  generalize ([.ref p0, .int p1, .int p2, .ref (w.2.2.2 + 0), .ref (w.2.2.2 + 1), .ref (w.2.2.2 + 7)] : List Value).toArray = args at hts ⊢
  have B371 : ∀ (H : Heap) (locs : List Loc) (ls : Array Slot), HR w K g S H → va_S (FR w) s.heap H locs → lv_has ls 16 [] → f9_isThread_371 K g S p0 p1 p2 = some out → W p l e ({ frames := 3, cells := 0, slots := 0, locals := 76 } : Room) s m args below meth c H locs 0 0 (MQ below (QI w K g S out) args s 0 0 (FR w)) (F0 m 371 ls []) := by
    intro   H locs ls hH hS hl hf
    unfold f9_isThread_371 at hf
    refine lv_iconst (v := 0) hx hb dL_isThread_371 (by decide) ?_
    have ho := Option.some.inj hf
    exact W.zret (v := 0) (ty := .boolean) hx hb hr rfl (fun t ht hW => ⟨⟨0, (), rfl, congrArg (fun q => q) ho, (hrE ht hH)⟩, hS.F ht⟩) hS.2.2 dL_isThread_372
  have B367 : ∀ (H : Heap) (locs : List Loc) (ls : Array Slot), HR w K g S H → va_S (FR w) s.heap H locs → lv_has ls 16 [] → f9_isThread_367 K g S p0 p1 p2 = some out → W p l e ({ frames := 3, cells := 0, slots := 0, locals := 76 } : Room) s m args below meth c H locs 0 0 (MQ below (QI w K g S out) args s 0 0 (FR w)) (F0 m 367 ls []) := by
    intro   H locs ls hH hS hl hf
    unfold f9_isThread_367 at hf
    refine lv_iconst (v := 1) hx hb dL_isThread_367 (by decide) ?_
    refine lv_goto (tgt := 372) hx hb dL_isThread_368 (by decide) ?_
    have ho := Option.some.inj hf
    exact W.zret (v := 1) (ty := .boolean) hx hb hr rfl (fun t ht hW => ⟨⟨1, (), rfl, congrArg (fun q => q) ho, (hrE ht hH)⟩, hS.F ht⟩) hS.2.2 dL_isThread_372
  have B310 : ∀ (x9 : Int32) (x12 : Int32) (x13 : Int32) (x14 : Int32) (s0 : Int32) (H : Heap) (locs : List Loc) (ls : Array Slot), HR w K g S H → va_S (FR w) s.heap H locs → lv_has ls 16 [(9, .int x9), (12, .int x12), (13, .int x13), (14, .int x14)] → f9_isThread_310 K g S p0 p1 p2 x9 x12 x13 x14 s0 = some out → W p l e ({ frames := 3, cells := 0, slots := 0, locals := 76 } : Room) s m args below meth c H locs 0 0 (MQ below (QI w K g S out) args s 0 0 (FR w)) (F0 m 310 ls [.int s0]) := by
    intro  x9 x12 x13 x14 s0 H locs ls hH hS hl hf
    unfold f9_isThread_310 at hf
    refine lv_istore (lv' := [(15, .int s0), (9, .int x9), (12, .int x12), (13, .int x13), (14, .int x14)]) hx hb dL_isThread_310 hl (by decide) rfl (fun ls hl => ?_)
    refine lv_iload hx hb dL_isThread_312 (lv_at hl 1 rfl) ?_
    have hg := gif hf
    refine lv_if_eq (tgt := 371) hx hb dL_isThread_314 (by decide) (fun c1 => ?_) (fun c1 => ?_)
    · have hf := hg.1 c1
      exact B371 _ _ _ hH hS (lv_sub hl [] rfl) hf
    · have hf := hg.2 c1
      refine lv_iload hx hb dL_isThread_317 (lv_at hl 2 rfl) ?_
      have hg := gif hf
      refine lv_if_ge (tgt := 331) hx hb dL_isThread_319 (by decide) (fun c2 => ?_) (fun c2 => ?_)
      · have hf := hg.1 c2
        refine lv_iload hx hb dL_isThread_331 (lv_at hl 4 rfl) ?_
        have hg := gif hf
        refine lv_if_le (tgt := 371) hx hb dL_isThread_333 (by decide) (fun c3 => ?_) (fun c3 => ?_)
        · have hf := hg.1 c3
          exact B371 _ _ _ hH hS (lv_sub hl [] rfl) hf
        · have hf := hg.2 c3
          refine lv_iload hx hb dL_isThread_336 (lv_at hl 3 rfl) ?_
          have hg := gif hf
          refine lv_if_lt (tgt := 367) hx hb dL_isThread_338 (by decide) (fun c4 => ?_) (fun c4 => ?_)
          · have hf := hg.1 c4
            exact B367 _ _ _ hH hS (lv_sub hl [] rfl) hf
          · have hf := hg.2 c4
            refine lv_iload hx hb dL_isThread_341 (lv_at hl 0 rfl) ?_
            have hg := gif hf
            refine lv_if_le (tgt := 371) hx hb dL_isThread_343 (by decide) (fun c5 => ?_) (fun c5 => ?_)
            · have hf := hg.1 c5
              exact B371 _ _ _ hH hS (lv_sub hl [] rfl) hf
            · have hf := hg.2 c5
              refine lv_iload hx hb dL_isThread_346 (lv_at hl 4 rfl) ?_
              refine lv_iload hx hb dL_isThread_348 (lv_at hl 0 rfl) ?_
              have hg := gif hf
              refine lv_icmp_gt (tgt := 367) hx hb dL_isThread_350 (by decide) (fun c6 => ?_) (fun c6 => ?_)
              · have hf := hg.1 c6
                exact B367 _ _ _ hH hS (lv_sub hl [] rfl) hf
              · have hf := hg.2 c6
                refine lv_iload hx hb dL_isThread_353 (lv_at hl 4 rfl) ?_
                refine lv_iload hx hb dL_isThread_355 (lv_at hl 0 rfl) ?_
                have hg := gif hf
                refine lv_icmp_ne (tgt := 371) hx hb dL_isThread_357 (by decide) (fun c7 => ?_) (fun c7 => ?_)
                · have hf := hg.2 c7
                  exact B371 _ _ _ hH hS (lv_sub hl [] rfl) hf
                · have hf := hg.1 c7
                  refine lv_iload hx hb dL_isThread_360 (lv_at hl 2 rfl) ?_
                  refine lv_iload hx hb dL_isThread_362 (lv_at hl 3 rfl) ?_
                  have hg := gif hf
                  refine lv_icmp_ge (tgt := 371) hx hb dL_isThread_364 (by decide) (fun c8 => ?_) (fun c8 => ?_)
                  · have hf := hg.1 c8
                    exact B371 _ _ _ hH hS (lv_sub hl [] rfl) hf
                  · have hf := hg.2 c8
                    exact B367 _ _ _ hH hS (lv_sub hl [] rfl) hf
      · have hf := hg.2 c2
        refine lv_iload hx hb dL_isThread_322 (lv_at hl 3 rfl) ?_
        refine lv_iconst (v := (-1)) hx hb dL_isThread_324 (by decide) ?_
        have hg := gif hf
        refine lv_icmp_ne (tgt := 371) hx hb dL_isThread_325 (by decide) (fun c9 => ?_) (fun c9 => ?_)
        · have hf := hg.2 c9
          exact B371 _ _ _ hH hS (lv_sub hl [] rfl) hf
        · have hf := hg.1 c9
          refine lv_goto (tgt := 367) hx hb dL_isThread_328 (by decide) ?_
          exact B367 _ _ _ hH hS (lv_sub hl [] rfl) hf
  have B292 : ∀ (x9 : Int32) (x12 : Int32) (x13 : Int32) (s0 : Int32) (H : Heap) (locs : List Loc) (ls : Array Slot), HR w K g S H → va_S (FR w) s.heap H locs → lv_has ls 16 [(0, .ref p0), (9, .int x9), (12, .int x12), (13, .int x13)] → f9_isThread_292 K g S p0 p1 p2 x9 x12 x13 s0 = some out → W p l e ({ frames := 3, cells := 0, slots := 0, locals := 76 } : Room) s m args below meth c H locs 0 0 (MQ below (QI w K g S out) args s 0 0 (FR w)) (F0 m 292 ls [.int s0]) := by
    intro  x9 x12 x13 s0 H locs ls hH hS hl hf
    unfold f9_isThread_292 at hf
    refine lv_istore (lv' := [(14, .int s0), (0, .ref p0), (9, .int x9), (12, .int x12), (13, .int x13)]) hx hb dL_isThread_292 hl (by decide) rfl (fun ls hl => ?_)
    refine lv_iload hx hb dL_isThread_294 (lv_at hl 4 rfl) ?_
    have hg := gif hf
    refine lv_if_ge (tgt := 303) hx hb dL_isThread_296 (by decide) (fun c10 => ?_) (fun c10 => ?_)
    · have hf := hg.1 c10
      refine lv_aload_n hx hb dL_isThread_303 rfl (lv_at hl 1 rfl) ?_
      refine lv_iload hx hb dL_isThread_304 (lv_at hl 4 rfl) ?_
      refine lv_iconst (v := 4) hx hb dL_isThread_306 (by decide) ?_
      obtain ⟨k11, hf⟩ := gd_some hf
      have k11 := gk_obj k11
      obtain ⟨v12, h13, hf⟩ := gbind hf
      refine g_Vi (As := [.int x13, .int 4]) (rest := []) ⟨hx, hb, hml, hown, hts⟩ (c7_thread l w K g S p0 x13 4 v12 h13 k11) (gcwV hts i7_thread wd_132 rfl rfl ⟨Nat.le_of_ble_eq_true rfl, Nat.le_of_ble_eq_true rfl⟩) (gRecv.of hK rfl (hH.o8 k11)) hH hK hS hl.1 rfl rfl (Nat.le_of_ble_eq_true rfl) dL_isThread_307 ⟨Nat.le_refl _, Nat.le_refl _⟩ (fun H locs hH hS => ?_)
      exact B310 _ _ _ _ _ _ _ _ hH hS (lv_sub hl [2, 3, 4, 0] rfl) hf
    · have hf := hg.2 c10
      refine lv_iconst (v := 0) hx hb dL_isThread_299 (by decide) ?_
      refine lv_goto (tgt := 310) hx hb dL_isThread_300 (by decide) ?_
      exact B310 _ _ _ _ _ _ _ _ hH hS (lv_sub hl [2, 3, 4, 0] rfl) hf
  have B258 : ∀ (s0 : Int32) (H : Heap) (locs : List Loc) (ls : Array Slot), HR w K g S H → va_S (FR w) s.heap H locs → lv_has ls 16 [(0, .ref p0), (2, .int p2)] → f9_isThread_258 K g S p0 p1 p2 s0 = some out → W p l e ({ frames := 3, cells := 0, slots := 0, locals := 76 } : Room) s m args below meth c H locs 0 0 (MQ below (QI w K g S out) args s 0 0 (FR w)) (F0 m 258 ls [.int s0]) := by
    intro  s0 H locs ls hH hS hl hf
    unfold f9_isThread_258 at hf
    refine lv_istore (lv' := [(9, .int s0), (0, .ref p0), (2, .int p2)]) hx hb dL_isThread_258 hl (by decide) rfl (fun ls hl => ?_)
    refine lv_aload_n hx hb dL_isThread_260 rfl (lv_at hl 1 rfl) ?_
    refine lv_iload_n hx hb dL_isThread_261 rfl (lv_at hl 2 rfl) ?_
    obtain ⟨k14, hf⟩ := gd_some hf
    have k14 := gk_obj k14
    obtain ⟨v15, h16, hf⟩ := gbind hf
    refine g_Vi (As := [.int p2]) (rest := []) ⟨hx, hb, hml, hown, hts⟩ (c7_byCloth l w K g S p0 p2 v15 h16 k14) (gcwV hts i7_byCloth wd_526 rfl rfl ⟨Nat.le_of_ble_eq_true rfl, Nat.le_of_ble_eq_true rfl⟩) (gRecv.of hK rfl (hH.o8 k14)) hH hK hS hl.1 rfl rfl (Nat.le_of_ble_eq_true rfl) dL_isThread_262 ⟨Nat.le_refl _, Nat.le_refl _⟩ (fun H locs hH hS => ?_)
    refine lv_istore (lv' := [(12, .int v15), (9, .int s0), (0, .ref p0), (2, .int p2)]) hx hb dL_isThread_265 hl (by decide) rfl (fun ls hl => ?_)
    refine lv_aload_n hx hb dL_isThread_267 rfl (lv_at hl 2 rfl) ?_
    refine lv_iload_n hx hb dL_isThread_268 rfl (lv_at hl 3 rfl) ?_
    refine lv_iconst (v := 1) hx hb dL_isThread_269 (by decide) ?_
    refine lv_iadd hx hb dL_isThread_270 ?_
    obtain ⟨v17, h18, hf⟩ := gbind hf
    refine g_Vi (As := [.int (p2 + 1)]) (rest := []) ⟨hx, hb, hml, hown, hts⟩ (c7_byCloth l w K g S p0 (p2 + 1) v17 h18 k14) (gcwV hts i7_byCloth wd_526 rfl rfl ⟨Nat.le_of_ble_eq_true rfl, Nat.le_of_ble_eq_true rfl⟩) (gRecv.of hK rfl (hH.o8 k14)) hH hK hS hl.1 rfl rfl (Nat.le_of_ble_eq_true rfl) dL_isThread_271 ⟨Nat.le_refl _, Nat.le_refl _⟩ (fun H locs hH hS => ?_)
    refine lv_istore (lv' := [(13, .int v17), (12, .int v15), (9, .int s0), (0, .ref p0), (2, .int p2)]) hx hb dL_isThread_274 hl (by decide) rfl (fun ls hl => ?_)
    refine lv_iload hx hb dL_isThread_276 (lv_at hl 1 rfl) ?_
    have hg := gif hf
    refine lv_if_ge (tgt := 285) hx hb dL_isThread_278 (by decide) (fun c19 => ?_) (fun c19 => ?_)
    · have hf := hg.1 c19
      refine lv_aload_n hx hb dL_isThread_285 rfl (lv_at hl 3 rfl) ?_
      refine lv_iload hx hb dL_isThread_286 (lv_at hl 1 rfl) ?_
      refine lv_iconst (v := 4) hx hb dL_isThread_288 (by decide) ?_
      obtain ⟨v20, h21, hf⟩ := gbind hf
      refine g_Vi (As := [.int v15, .int 4]) (rest := []) ⟨hx, hb, hml, hown, hts⟩ (c7_thread l w K g S p0 v15 4 v20 h21 k14) (gcwV hts i7_thread wd_132 rfl rfl ⟨Nat.le_of_ble_eq_true rfl, Nat.le_of_ble_eq_true rfl⟩) (gRecv.of hK rfl (hH.o8 k14)) hH hK hS hl.1 rfl rfl (Nat.le_of_ble_eq_true rfl) dL_isThread_289 ⟨Nat.le_refl _, Nat.le_refl _⟩ (fun H locs hH hS => ?_)
      exact B292 _ _ _ _ _ _ _ hH hS (lv_sub hl [3, 2, 1, 0] rfl) hf
    · have hf := hg.2 c19
      refine lv_iconst (v := 0) hx hb dL_isThread_281 (by decide) ?_
      refine lv_goto (tgt := 292) hx hb dL_isThread_282 (by decide) ?_
      exact B292 _ _ _ _ _ _ _ hH hS (lv_sub hl [3, 2, 1, 0] rfl) hf
  have B257 : ∀ (H : Heap) (locs : List Loc) (ls : Array Slot), HR w K g S H → va_S (FR w) s.heap H locs → lv_has ls 16 [(0, .ref p0), (2, .int p2)] → f9_isThread_257 K g S p0 p1 p2 = some out → W p l e ({ frames := 3, cells := 0, slots := 0, locals := 76 } : Room) s m args below meth c H locs 0 0 (MQ below (QI w K g S out) args s 0 0 (FR w)) (F0 m 257 ls []) := by
    intro   H locs ls hH hS hl hf
    unfold f9_isThread_257 at hf
    refine lv_iconst (v := 0) hx hb dL_isThread_257 (by decide) ?_
    exact B258 _ _ _ _ hH hS (lv_sub hl [0, 1] rfl) hf
  have B253 : ∀ (H : Heap) (locs : List Loc) (ls : Array Slot), HR w K g S H → va_S (FR w) s.heap H locs → lv_has ls 16 [(0, .ref p0), (2, .int p2)] → f9_isThread_253 K g S p0 p1 p2 = some out → W p l e ({ frames := 3, cells := 0, slots := 0, locals := 76 } : Room) s m args below meth c H locs 0 0 (MQ below (QI w K g S out) args s 0 0 (FR w)) (F0 m 253 ls []) := by
    intro   H locs ls hH hS hl hf
    unfold f9_isThread_253 at hf
    refine lv_iconst (v := 1) hx hb dL_isThread_253 (by decide) ?_
    refine lv_goto (tgt := 258) hx hb dL_isThread_254 (by decide) ?_
    exact B258 _ _ _ _ hH hS (lv_sub hl [0, 1] rfl) hf
  have B178 : ∀ (s0 : Int32) (H : Heap) (locs : List Loc) (ls : Array Slot), HR w K g S H → va_S (FR w) s.heap H locs → lv_has ls 16 [(0, .ref p0), (2, .int p2), (4, .ref (w.2.2.2 + 1))] → f9_isThread_178 K g S p0 p1 p2 s0 = some out → W p l e ({ frames := 3, cells := 0, slots := 0, locals := 76 } : Room) s m args below meth c H locs 0 0 (MQ below (QI w K g S out) args s 0 0 (FR w)) (F0 m 178 ls [.int s0]) := by
    intro  s0 H locs ls hH hS hl hf
    unfold f9_isThread_178 at hf
    refine lv_istore (lv' := [(9, .int s0), (0, .ref p0), (2, .int p2), (4, .ref (w.2.2.2 + 1))]) hx hb dL_isThread_178 hl (by decide) rfl (fun ls hl => ?_)
    refine lv_aload_n hx hb dL_isThread_180 rfl (lv_at hl 1 rfl) ?_
    refine lv_iload_n hx hb dL_isThread_181 rfl (lv_at hl 2 rfl) ?_
    obtain ⟨k22, hf⟩ := gd_some hf
    have k22 := gk_obj k22
    obtain ⟨v23, h24, hf⟩ := gbind hf
    refine g_Vi (As := [.int p2]) (rest := []) ⟨hx, hb, hml, hown, hts⟩ (c7_byEnd l w K g S p0 p2 v23 h24 k22) (gcwV hts i7_byEnd wd_518 rfl rfl ⟨Nat.le_of_ble_eq_true rfl, Nat.le_of_ble_eq_true rfl⟩) (gRecv.of hK rfl (hH.o8 k22)) hH hK hS hl.1 rfl rfl (Nat.le_of_ble_eq_true rfl) dL_isThread_182 ⟨Nat.le_refl _, Nat.le_refl _⟩ (fun H locs hH hS => ?_)
    refine lv_istore (lv' := [(10, .int v23), (9, .int s0), (0, .ref p0), (2, .int p2), (4, .ref (w.2.2.2 + 1))]) hx hb dL_isThread_185 hl (by decide) rfl (fun ls hl => ?_)
    refine lv_aload_n hx hb dL_isThread_187 rfl (lv_at hl 2 rfl) ?_
    refine lv_iload_n hx hb dL_isThread_188 rfl (lv_at hl 3 rfl) ?_
    refine lv_iconst (v := 1) hx hb dL_isThread_189 (by decide) ?_
    refine lv_iadd hx hb dL_isThread_190 ?_
    obtain ⟨v25, h26, hf⟩ := gbind hf
    refine g_Vi (As := [.int (p2 + 1)]) (rest := []) ⟨hx, hb, hml, hown, hts⟩ (c7_byEnd l w K g S p0 (p2 + 1) v25 h26 k22) (gcwV hts i7_byEnd wd_518 rfl rfl ⟨Nat.le_of_ble_eq_true rfl, Nat.le_of_ble_eq_true rfl⟩) (gRecv.of hK rfl (hH.o8 k22)) hH hK hS hl.1 rfl rfl (Nat.le_of_ble_eq_true rfl) dL_isThread_191 ⟨Nat.le_refl _, Nat.le_refl _⟩ (fun H locs hH hS => ?_)
    refine lv_istore (lv' := [(11, .int v25), (10, .int v23), (9, .int s0), (0, .ref p0), (2, .int p2), (4, .ref (w.2.2.2 + 1))]) hx hb dL_isThread_194 hl (by decide) rfl (fun ls hl => ?_)
    refine lv_iload hx hb dL_isThread_196 (lv_at hl 2 rfl) ?_
    have hg := gif hf
    refine lv_if_eq (tgt := 257) hx hb dL_isThread_198 (by decide) (fun c27 => ?_) (fun c27 => ?_)
    · have hf := hg.1 c27
      exact B257 _ _ _ hH hS (lv_sub hl [3, 4] rfl) hf
    · have hf := hg.2 c27
      refine lv_iload hx hb dL_isThread_201 (lv_at hl 1 rfl) ?_
      have hg := gif hf
      refine lv_if_lt (tgt := 257) hx hb dL_isThread_203 (by decide) (fun c28 => ?_) (fun c28 => ?_)
      · have hf := hg.1 c28
        exact B257 _ _ _ hH hS (lv_sub hl [3, 4] rfl) hf
      · have hf := hg.2 c28
        refine lv_iload_n hx hb dL_isThread_206 rfl (lv_at hl 4 rfl) ?_
        refine lv_iconst (v := 5) hx hb dL_isThread_207 (by decide) ?_
        have hg := gif hf
        refine lv_icmp_ne (tgt := 220) hx hb dL_isThread_208 (by decide) (fun c29 => ?_) (fun c29 => ?_)
        · have hf := hg.2 c29
          refine lv_aload hx hb dL_isThread_220 (lv_at hl 5 rfl) ?_
          refine lv_iload hx hb dL_isThread_222 (lv_at hl 1 rfl) ?_
          obtain ⟨h31, hf⟩ := gd_some hf
          refine m_iald hx hb hK hH 1 (by decide) rfl h31 dL_isThread_224 ?_
          refine lv_aload hx hb dL_isThread_225 (lv_at hl 5 rfl) ?_
          refine lv_iload hx hb dL_isThread_227 (lv_at hl 0 rfl) ?_
          obtain ⟨h33, hf⟩ := gd_some hf
          refine m_iald hx hb hK hH 1 (by decide) rfl h33 dL_isThread_229 ?_
          have hg := gif hf
          refine lv_icmp_lt (tgt := 253) hx hb dL_isThread_230 (by decide) (fun c34 => ?_) (fun c34 => ?_)
          · have hf := hg.1 c34
            exact B253 _ _ _ hH hS (lv_sub hl [3, 4] rfl) hf
          · have hf := hg.2 c34
            refine lv_aload hx hb dL_isThread_233 (lv_at hl 5 rfl) ?_
            refine lv_iload hx hb dL_isThread_235 (lv_at hl 1 rfl) ?_
            refine m_iald hx hb hK hH 1 (by decide) rfl h31 dL_isThread_237 ?_
            refine lv_aload hx hb dL_isThread_238 (lv_at hl 5 rfl) ?_
            refine lv_iload hx hb dL_isThread_240 (lv_at hl 0 rfl) ?_
            refine m_iald hx hb hK hH 1 (by decide) rfl h33 dL_isThread_242 ?_
            have hg := gif hf
            refine lv_icmp_ne (tgt := 257) hx hb dL_isThread_243 (by decide) (fun c37 => ?_) (fun c37 => ?_)
            · have hf := hg.2 c37
              exact B257 _ _ _ hH hS (lv_sub hl [3, 4] rfl) hf
            · have hf := hg.1 c37
              refine lv_iload hx hb dL_isThread_246 (lv_at hl 1 rfl) ?_
              refine lv_iload hx hb dL_isThread_248 (lv_at hl 0 rfl) ?_
              have hg := gif hf
              refine lv_icmp_ge (tgt := 257) hx hb dL_isThread_250 (by decide) (fun c38 => ?_) (fun c38 => ?_)
              · have hf := hg.1 c38
                exact B257 _ _ _ hH hS (lv_sub hl [3, 4] rfl) hf
              · have hf := hg.2 c38
                exact B253 _ _ _ hH hS (lv_sub hl [3, 4] rfl) hf
        · have hf := hg.1 c29
          refine lv_iload hx hb dL_isThread_211 (lv_at hl 0 rfl) ?_
          refine lv_iconst (v := (-1)) hx hb dL_isThread_213 (by decide) ?_
          have hg := gif hf
          refine lv_icmp_ne (tgt := 257) hx hb dL_isThread_214 (by decide) (fun c39 => ?_) (fun c39 => ?_)
          · have hf := hg.2 c39
            exact B257 _ _ _ hH hS (lv_sub hl [3, 4] rfl) hf
          · have hf := hg.1 c39
            refine lv_goto (tgt := 253) hx hb dL_isThread_217 (by decide) ?_
            exact B253 _ _ _ hH hS (lv_sub hl [3, 4] rfl) hf
  have B177 : ∀ (H : Heap) (locs : List Loc) (ls : Array Slot), HR w K g S H → va_S (FR w) s.heap H locs → lv_has ls 16 [(0, .ref p0), (2, .int p2), (4, .ref (w.2.2.2 + 1))] → f9_isThread_177 K g S p0 p1 p2 = some out → W p l e ({ frames := 3, cells := 0, slots := 0, locals := 76 } : Room) s m args below meth c H locs 0 0 (MQ below (QI w K g S out) args s 0 0 (FR w)) (F0 m 177 ls []) := by
    intro   H locs ls hH hS hl hf
    unfold f9_isThread_177 at hf
    refine lv_iconst (v := 0) hx hb dL_isThread_177 (by decide) ?_
    exact B178 _ _ _ _ hH hS (lv_sub hl [0, 1, 2] rfl) hf
  have B82 : ∀ (k12 : Int32 → Int32 → Int32 → Int32 → Option (Int32)), (∀ (x6 : Int32) (x7 : Int32) (x8 : Int32) (x9 : Int32) (H : Heap) (locs : List Loc) (ls : Array Slot), HR w K g S H → va_S (FR w) s.heap H locs → lv_has ls 16 [(0, .ref p0), (1, .int p1), (2, .int p2), (3, .ref (w.2.2.2 + 0)), (4, .ref (w.2.2.2 + 1)), (5, .ref (w.2.2.2 + 7)), (6, .int x6), (7, .int x7), (8, .int x8), (9, .int x9)] → k12 x6 x7 x8 x9 = some out → W p l e ({ frames := 3, cells := 0, slots := 0, locals := 76 } : Room) s m args below meth c H locs 0 0 (MQ below (QI w K g S out) args s 0 0 (FR w)) (F0 m 12 ls [])) → ∀ (x6 : Int32) (x7 : Int32) (x9 : Int32) (s0 : Int32) (H : Heap) (locs : List Loc) (ls : Array Slot), HR w K g S H → va_S (FR w) s.heap H locs → lv_has ls 16 [(0, .ref p0), (1, .int p1), (2, .int p2), (3, .ref (w.2.2.2 + 0)), (4, .ref (w.2.2.2 + 1)), (5, .ref (w.2.2.2 + 7)), (6, .int x6), (7, .int x7), (9, .int x9)] → f9_isThread_82 k12 K g S p0 p1 p2 x6 x7 x9 s0 = some out → W p l e ({ frames := 3, cells := 0, slots := 0, locals := 76 } : Room) s m args below meth c H locs 0 0 (MQ below (QI w K g S out) args s 0 0 (FR w)) (F0 m 82 ls [.int s0]) := by
    intro k12 hk12 x6 x7 x9 s0 H locs ls hH hS hl hf
    unfold f9_isThread_82 at hf
    refine lv_istore (lv' := [(8, .int s0), (0, .ref p0), (1, .int p1), (2, .int p2), (3, .ref (w.2.2.2 + 0)), (4, .ref (w.2.2.2 + 1)), (5, .ref (w.2.2.2 + 7)), (6, .int x6), (7, .int x7), (9, .int x9)]) hx hb dL_isThread_82 hl (by decide) rfl (fun ls hl => ?_)
    obtain ⟨v40, ev40⟩ : ∃ z : Int32, z = x9 + 1 := ⟨_, rfl⟩
    have hf := gl_at hf ev40
    refine lv_iinc (v := v40) (lv' := [(9, .int v40), (8, .int s0), (0, .ref p0), (1, .int p1), (2, .int p2), (3, .ref (w.2.2.2 + 0)), (4, .ref (w.2.2.2 + 1)), (5, .ref (w.2.2.2 + 7)), (6, .int x6), (7, .int x7)]) hx hb dL_isThread_84 hl (k := 9) rfl (by rw [ev40]; rfl) (by decide) rfl (fun ls hl => ?_)
    refine lv_goto (tgt := 12) hx hb dL_isThread_87 (by decide) ?_
    exact hk12 _ _ _ _ _ _ _ hH hS (lv_sub hl [2, 3, 4, 5, 6, 7, 8, 9, 1, 0] rfl) hf
  have B66 : ∀ (k12 : Int32 → Int32 → Int32 → Int32 → Option (Int32)), (∀ (x6 : Int32) (x7 : Int32) (x8 : Int32) (x9 : Int32) (H : Heap) (locs : List Loc) (ls : Array Slot), HR w K g S H → va_S (FR w) s.heap H locs → lv_has ls 16 [(0, .ref p0), (1, .int p1), (2, .int p2), (3, .ref (w.2.2.2 + 0)), (4, .ref (w.2.2.2 + 1)), (5, .ref (w.2.2.2 + 7)), (6, .int x6), (7, .int x7), (8, .int x8), (9, .int x9)] → k12 x6 x7 x8 x9 = some out → W p l e ({ frames := 3, cells := 0, slots := 0, locals := 76 } : Room) s m args below meth c H locs 0 0 (MQ below (QI w K g S out) args s 0 0 (FR w)) (F0 m 12 ls [])) → ∀ (x6 : Int32) (x8 : Int32) (x9 : Int32) (s0 : Int32) (H : Heap) (locs : List Loc) (ls : Array Slot), HR w K g S H → va_S (FR w) s.heap H locs → lv_has ls 16 [(0, .ref p0), (1, .int p1), (2, .int p2), (3, .ref (w.2.2.2 + 0)), (4, .ref (w.2.2.2 + 1)), (5, .ref (w.2.2.2 + 7)), (6, .int x6), (8, .int x8), (9, .int x9)] → f9_isThread_66 k12 K g S p0 p1 p2 x6 x8 x9 s0 = some out → W p l e ({ frames := 3, cells := 0, slots := 0, locals := 76 } : Room) s m args below meth c H locs 0 0 (MQ below (QI w K g S out) args s 0 0 (FR w)) (F0 m 66 ls [.int s0]) := by
    intro k12 hk12 x6 x8 x9 s0 H locs ls hH hS hl hf
    unfold f9_isThread_66 at hf
    refine lv_istore (lv' := [(7, .int s0), (0, .ref p0), (1, .int p1), (2, .int p2), (3, .ref (w.2.2.2 + 0)), (4, .ref (w.2.2.2 + 1)), (5, .ref (w.2.2.2 + 7)), (6, .int x6), (8, .int x8), (9, .int x9)]) hx hb dL_isThread_66 hl (by decide) rfl (fun ls hl => ?_)
    refine lv_iload hx hb dL_isThread_68 (lv_at hl 0 rfl) ?_
    refine lv_iload hx hb dL_isThread_70 (lv_at hl 8 rfl) ?_
    have hg := gif hf
    refine lv_icmp_le (tgt := 80) hx hb dL_isThread_72 (by decide) (fun c41 => ?_) (fun c41 => ?_)
    · have hf := hg.1 c41
      refine lv_iload hx hb dL_isThread_80 (lv_at hl 8 rfl) ?_
      exact B82 _ (hk12) _ _ _ _ _ _ _ hH hS (lv_sub hl [1, 2, 3, 4, 5, 6, 7, 0, 9] rfl) hf
    · have hf := hg.2 c41
      refine lv_iload hx hb dL_isThread_75 (lv_at hl 0 rfl) ?_
      refine lv_goto (tgt := 82) hx hb dL_isThread_77 (by decide) ?_
      exact B82 _ (hk12) _ _ _ _ _ _ _ hH hS (lv_sub hl [1, 2, 3, 4, 5, 6, 7, 0, 9] rfl) hf
  have B50 : ∀ (k12 : Int32 → Int32 → Int32 → Int32 → Option (Int32)), (∀ (x6 : Int32) (x7 : Int32) (x8 : Int32) (x9 : Int32) (H : Heap) (locs : List Loc) (ls : Array Slot), HR w K g S H → va_S (FR w) s.heap H locs → lv_has ls 16 [(0, .ref p0), (1, .int p1), (2, .int p2), (3, .ref (w.2.2.2 + 0)), (4, .ref (w.2.2.2 + 1)), (5, .ref (w.2.2.2 + 7)), (6, .int x6), (7, .int x7), (8, .int x8), (9, .int x9)] → k12 x6 x7 x8 x9 = some out → W p l e ({ frames := 3, cells := 0, slots := 0, locals := 76 } : Room) s m args below meth c H locs 0 0 (MQ below (QI w K g S out) args s 0 0 (FR w)) (F0 m 12 ls [])) → ∀ (x7 : Int32) (x8 : Int32) (x9 : Int32) (x10 : Int32) (s0 : Int32) (s1 : Int32) (H : Heap) (locs : List Loc) (ls : Array Slot), HR w K g S H → va_S (FR w) s.heap H locs → lv_has ls 16 [(0, .ref p0), (1, .int p1), (2, .int p2), (3, .ref (w.2.2.2 + 0)), (4, .ref (w.2.2.2 + 1)), (5, .ref (w.2.2.2 + 7)), (7, .int x7), (8, .int x8), (9, .int x9), (10, .int x10)] → f9_isThread_50 k12 K g S p0 p1 p2 x7 x8 x9 x10 s0 s1 = some out → W p l e ({ frames := 3, cells := 0, slots := 0, locals := 76 } : Room) s m args below meth c H locs 0 0 (MQ below (QI w K g S out) args s 0 0 (FR w)) (F0 m 50 ls [.int s1, .int s0]) := by
    intro k12 hk12 x7 x8 x9 x10 s0 s1 H locs ls hH hS hl hf
    unfold f9_isThread_50 at hf
    refine lv_iadd hx hb dL_isThread_50 ?_
    refine lv_topi (fun v42 ev42 => ?_)
    have hf := gl_at hf ev42
    refine lv_istore (lv' := [(6, .int v42), (0, .ref p0), (1, .int p1), (2, .int p2), (3, .ref (w.2.2.2 + 0)), (4, .ref (w.2.2.2 + 1)), (5, .ref (w.2.2.2 + 7)), (7, .int x7), (8, .int x8), (9, .int x9), (10, .int x10)]) hx hb dL_isThread_51 hl (by decide) rfl (fun ls hl => ?_)
    refine lv_iload hx hb dL_isThread_53 (lv_at hl 10 rfl) ?_
    have hg := gif hf
    refine lv_if_eq (tgt := 65) hx hb dL_isThread_55 (by decide) (fun c43 => ?_) (fun c43 => ?_)
    · have hf := hg.1 c43
      refine lv_iconst (v := 0) hx hb dL_isThread_65 (by decide) ?_
      exact B66 _ (hk12) _ _ _ _ _ _ _ hH hS (lv_sub hl [1, 2, 3, 4, 5, 6, 0, 8, 9] rfl) hf
    · have hf := hg.2 c43
      refine lv_iload hx hb dL_isThread_58 (lv_at hl 7 rfl) ?_
      refine lv_iconst (v := 1) hx hb dL_isThread_60 (by decide) ?_
      refine lv_iadd hx hb dL_isThread_61 ?_
      refine lv_goto (tgt := 66) hx hb dL_isThread_62 (by decide) ?_
      exact B66 _ (hk12) _ _ _ _ _ _ _ hH hS (lv_sub hl [1, 2, 3, 4, 5, 6, 0, 8, 9] rfl) hf
  have B36 : ∀ (k12 : Int32 → Int32 → Int32 → Int32 → Option (Int32)), (∀ (x6 : Int32) (x7 : Int32) (x8 : Int32) (x9 : Int32) (H : Heap) (locs : List Loc) (ls : Array Slot), HR w K g S H → va_S (FR w) s.heap H locs → lv_has ls 16 [(0, .ref p0), (1, .int p1), (2, .int p2), (3, .ref (w.2.2.2 + 0)), (4, .ref (w.2.2.2 + 1)), (5, .ref (w.2.2.2 + 7)), (6, .int x6), (7, .int x7), (8, .int x8), (9, .int x9)] → k12 x6 x7 x8 x9 = some out → W p l e ({ frames := 3, cells := 0, slots := 0, locals := 76 } : Room) s m args below meth c H locs 0 0 (MQ below (QI w K g S out) args s 0 0 (FR w)) (F0 m 12 ls [])) → ∀ (x6 : Int32) (x7 : Int32) (x8 : Int32) (x9 : Int32) (s0 : Int32) (H : Heap) (locs : List Loc) (ls : Array Slot), HR w K g S H → va_S (FR w) s.heap H locs → lv_has ls 16 [(0, .ref p0), (1, .int p1), (2, .int p2), (3, .ref (w.2.2.2 + 0)), (4, .ref (w.2.2.2 + 1)), (5, .ref (w.2.2.2 + 7)), (6, .int x6), (7, .int x7), (8, .int x8), (9, .int x9)] → f9_isThread_36 k12 K g S p0 p1 p2 x6 x7 x8 x9 s0 = some out → W p l e ({ frames := 3, cells := 0, slots := 0, locals := 76 } : Room) s m args below meth c H locs 0 0 (MQ below (QI w K g S out) args s 0 0 (FR w)) (F0 m 36 ls [.int s0]) := by
    intro k12 hk12 x6 x7 x8 x9 s0 H locs ls hH hS hl hf
    unfold f9_isThread_36 at hf
    refine lv_istore (lv' := [(10, .int s0), (0, .ref p0), (1, .int p1), (2, .int p2), (3, .ref (w.2.2.2 + 0)), (4, .ref (w.2.2.2 + 1)), (5, .ref (w.2.2.2 + 7)), (6, .int x6), (7, .int x7), (8, .int x8), (9, .int x9)]) hx hb dL_isThread_36 hl (by decide) rfl (fun ls hl => ?_)
    refine lv_iload hx hb dL_isThread_38 (lv_at hl 7 rfl) ?_
    refine lv_iload hx hb dL_isThread_40 (lv_at hl 0 rfl) ?_
    have hg := gif hf
    refine lv_if_eq (tgt := 49) hx hb dL_isThread_42 (by decide) (fun c44 => ?_) (fun c44 => ?_)
    · have hf := hg.1 c44
      refine lv_iconst (v := 0) hx hb dL_isThread_49 (by decide) ?_
      exact B50 _ (hk12) _ _ _ _ _ _ _ _ _ hH hS (lv_sub hl [1, 2, 3, 4, 5, 6, 8, 9, 10, 0] rfl) hf
    · have hf := hg.2 c44
      refine lv_iconst (v := 1) hx hb dL_isThread_45 (by decide) ?_
      refine lv_goto (tgt := 50) hx hb dL_isThread_46 (by decide) ?_
      exact B50 _ (hk12) _ _ _ _ _ _ _ _ _ hH hS (lv_sub hl [1, 2, 3, 4, 5, 6, 8, 9, 10, 0] rfl) hf
  have B12 : ∀ n : Nat, ∀ (x6 : Int32) (x7 : Int32) (x8 : Int32) (x9 : Int32) (H : Heap) (locs : List Loc) (ls : Array Slot), HR w K g S H → va_S (FR w) s.heap H locs → lv_has ls 16 [(0, .ref p0), (1, .int p1), (2, .int p2), (3, .ref (w.2.2.2 + 0)), (4, .ref (w.2.2.2 + 1)), (5, .ref (w.2.2.2 + 7)), (6, .int x6), (7, .int x7), (8, .int x8), (9, .int x9)] → f9_isThread_12 K g S p0 p1 p2 n x6 x7 x8 x9 = some out → W p l e ({ frames := 3, cells := 0, slots := 0, locals := 76 } : Room) s m args below meth c H locs 0 0 (MQ below (QI w K g S out) args s 0 0 (FR w)) (F0 m 12 ls []) := by
    intro n
    induction n with
    | zero =>
      intro x6 x7 x8 x9 H locs ls hH hS hl hf
      cases hf
    | succ n ih =>
      intro x6 x7 x8 x9 H locs ls hH hS hl hf
      rw [f9_isThread_12] at hf
      refine lv_iload hx hb dL_isThread_12 (lv_at hl 9 rfl) ?_
      refine lv_aload_n hx hb dL_isThread_14 rfl (lv_at hl 3 rfl) ?_
      refine lv_iconst (v := 4) hx hb dL_isThread_15 (by decide) ?_
      obtain ⟨h46, hf⟩ := gd_some hf
      refine m_iald hx hb hK hH 0 (by decide) rfl h46 dL_isThread_16 ?_
      have hg := gif hf
      refine lv_icmp_ge (tgt := 90) hx hb dL_isThread_17 (by decide) (fun c47 => ?_) (fun c47 => ?_)
      · have hf := hg.1 c47
        refine lv_aload_n hx hb dL_isThread_90 rfl (lv_at hl 0 rfl) ?_
        refine lv_iload_n hx hb dL_isThread_91 rfl (lv_at hl 1 rfl) ?_
        refine lv_iconst (v := 0) hx hb dL_isThread_92 (by decide) ?_
        obtain ⟨k48, hf⟩ := gd_some hf
        have k48 := gk_obj k48
        obtain ⟨v49, h50, hf⟩ := gbind hf
        refine g_Vi (As := [.int p1, .int 0]) (rest := []) ⟨hx, hb, hml, hown, hts⟩ (c7_thread l w K g S p0 p1 0 v49 h50 k48) (gcwV hts i7_thread wd_132 rfl rfl ⟨Nat.le_of_ble_eq_true rfl, Nat.le_of_ble_eq_true rfl⟩) (gRecv.of hK rfl (hH.o8 k48)) hH hK hS hl.1 rfl rfl (Nat.le_of_ble_eq_true rfl) dL_isThread_93 ⟨Nat.le_refl _, Nat.le_refl _⟩ (fun H locs hH hS => ?_)
        refine lv_aload hx hb dL_isThread_96 (lv_at hl 4 rfl) ?_
        refine lv_iload_n hx hb dL_isThread_98 rfl (lv_at hl 1 rfl) ?_
        obtain ⟨h52, hf⟩ := gd_some hf
        refine m_iald hx hb hK hH 1 (by decide) rfl h52 dL_isThread_99 ?_
        have hg := gif hf
        refine lv_icmp_ne (tgt := 177) hx hb dL_isThread_100 (by decide) (fun c53 => ?_) (fun c53 => ?_)
        · have hf := hg.2 c53
          exact B177 _ _ _ hH hS (lv_sub hl [0, 2, 4] rfl) hf
        · have hf := hg.1 c53
          refine lv_aload_n hx hb dL_isThread_103 rfl (lv_at hl 0 rfl) ?_
          refine lv_iload_n hx hb dL_isThread_104 rfl (lv_at hl 1 rfl) ?_
          refine lv_iconst (v := 1) hx hb dL_isThread_105 (by decide) ?_
          obtain ⟨v54, h55, hf⟩ := gbind hf
          refine g_Vi (As := [.int p1, .int 1]) (rest := []) ⟨hx, hb, hml, hown, hts⟩ (c7_thread l w K g S p0 p1 1 v54 h55 k48) (gcwV hts i7_thread wd_132 rfl rfl ⟨Nat.le_of_ble_eq_true rfl, Nat.le_of_ble_eq_true rfl⟩) (gRecv.of hK rfl (hH.o8 k48)) hH hK hS hl.1 rfl rfl (Nat.le_of_ble_eq_true rfl) dL_isThread_106 ⟨Nat.le_refl _, Nat.le_refl _⟩ (fun H locs hH hS => ?_)
          refine lv_aload hx hb dL_isThread_109 (lv_at hl 4 rfl) ?_
          refine lv_bipush (v := 6) hx hb dL_isThread_111 (by decide) ?_
          refine lv_iload_n hx hb dL_isThread_113 rfl (lv_at hl 1 rfl) ?_
          refine lv_iadd hx hb dL_isThread_114 ?_
          obtain ⟨h57, hf⟩ := gd_some hf
          refine m_iald hx hb hK hH 1 (by decide) rfl h57 dL_isThread_115 ?_
          have hg := gif hf
          refine lv_icmp_ne (tgt := 177) hx hb dL_isThread_116 (by decide) (fun c58 => ?_) (fun c58 => ?_)
          · have hf := hg.2 c58
            exact B177 _ _ _ hH hS (lv_sub hl [0, 2, 4] rfl) hf
          · have hf := hg.1 c58
            refine lv_aload_n hx hb dL_isThread_119 rfl (lv_at hl 0 rfl) ?_
            refine lv_iload_n hx hb dL_isThread_120 rfl (lv_at hl 1 rfl) ?_
            refine lv_iconst (v := 2) hx hb dL_isThread_121 (by decide) ?_
            obtain ⟨v59, h60, hf⟩ := gbind hf
            refine g_Vi (As := [.int p1, .int 2]) (rest := []) ⟨hx, hb, hml, hown, hts⟩ (c7_thread l w K g S p0 p1 2 v59 h60 k48) (gcwV hts i7_thread wd_132 rfl rfl ⟨Nat.le_of_ble_eq_true rfl, Nat.le_of_ble_eq_true rfl⟩) (gRecv.of hK rfl (hH.o8 k48)) hH hK hS hl.1 rfl rfl (Nat.le_of_ble_eq_true rfl) dL_isThread_122 ⟨Nat.le_refl _, Nat.le_refl _⟩ (fun H locs hH hS => ?_)
            refine lv_aload hx hb dL_isThread_125 (lv_at hl 4 rfl) ?_
            refine lv_bipush (v := 12) hx hb dL_isThread_127 (by decide) ?_
            refine lv_iload_n hx hb dL_isThread_129 rfl (lv_at hl 1 rfl) ?_
            refine lv_iadd hx hb dL_isThread_130 ?_
            obtain ⟨h62, hf⟩ := gd_some hf
            refine m_iald hx hb hK hH 1 (by decide) rfl h62 dL_isThread_131 ?_
            have hg := gif hf
            refine lv_icmp_ne (tgt := 177) hx hb dL_isThread_132 (by decide) (fun c63 => ?_) (fun c63 => ?_)
            · have hf := hg.2 c63
              exact B177 _ _ _ hH hS (lv_sub hl [0, 2, 4] rfl) hf
            · have hf := hg.1 c63
              refine lv_aload_n hx hb dL_isThread_135 rfl (lv_at hl 0 rfl) ?_
              refine lv_iload_n hx hb dL_isThread_136 rfl (lv_at hl 1 rfl) ?_
              refine lv_iconst (v := 3) hx hb dL_isThread_137 (by decide) ?_
              obtain ⟨v64, h65, hf⟩ := gbind hf
              refine g_Vi (As := [.int p1, .int 3]) (rest := []) ⟨hx, hb, hml, hown, hts⟩ (c7_thread l w K g S p0 p1 3 v64 h65 k48) (gcwV hts i7_thread wd_132 rfl rfl ⟨Nat.le_of_ble_eq_true rfl, Nat.le_of_ble_eq_true rfl⟩) (gRecv.of hK rfl (hH.o8 k48)) hH hK hS hl.1 rfl rfl (Nat.le_of_ble_eq_true rfl) dL_isThread_138 ⟨Nat.le_refl _, Nat.le_refl _⟩ (fun H locs hH hS => ?_)
              refine lv_aload hx hb dL_isThread_141 (lv_at hl 4 rfl) ?_
              refine lv_bipush (v := 18) hx hb dL_isThread_143 (by decide) ?_
              refine lv_iload_n hx hb dL_isThread_145 rfl (lv_at hl 1 rfl) ?_
              refine lv_iadd hx hb dL_isThread_146 ?_
              obtain ⟨h67, hf⟩ := gd_some hf
              refine m_iald hx hb hK hH 1 (by decide) rfl h67 dL_isThread_147 ?_
              have hg := gif hf
              refine lv_icmp_ne (tgt := 177) hx hb dL_isThread_148 (by decide) (fun c68 => ?_) (fun c68 => ?_)
              · have hf := hg.2 c68
                exact B177 _ _ _ hH hS (lv_sub hl [0, 2, 4] rfl) hf
              · have hf := hg.1 c68
                refine lv_aload_n hx hb dL_isThread_151 rfl (lv_at hl 0 rfl) ?_
                refine lv_iload_n hx hb dL_isThread_152 rfl (lv_at hl 1 rfl) ?_
                refine lv_iconst (v := 4) hx hb dL_isThread_153 (by decide) ?_
                obtain ⟨v69, h70, hf⟩ := gbind hf
                refine g_Vi (As := [.int p1, .int 4]) (rest := []) ⟨hx, hb, hml, hown, hts⟩ (c7_thread l w K g S p0 p1 4 v69 h70 k48) (gcwV hts i7_thread wd_132 rfl rfl ⟨Nat.le_of_ble_eq_true rfl, Nat.le_of_ble_eq_true rfl⟩) (gRecv.of hK rfl (hH.o8 k48)) hH hK hS hl.1 rfl rfl (Nat.le_of_ble_eq_true rfl) dL_isThread_154 ⟨Nat.le_refl _, Nat.le_refl _⟩ (fun H locs hH hS => ?_)
                refine lv_iload hx hb dL_isThread_157 (lv_at hl 6 rfl) ?_
                have hg := gif hf
                refine lv_icmp_ne (tgt := 177) hx hb dL_isThread_159 (by decide) (fun c71 => ?_) (fun c71 => ?_)
                · have hf := hg.2 c71
                  exact B177 _ _ _ hH hS (lv_sub hl [0, 2, 4] rfl) hf
                · have hf := hg.1 c71
                  refine lv_aload_n hx hb dL_isThread_162 rfl (lv_at hl 0 rfl) ?_
                  refine lv_iload_n hx hb dL_isThread_163 rfl (lv_at hl 1 rfl) ?_
                  refine lv_iconst (v := 5) hx hb dL_isThread_164 (by decide) ?_
                  obtain ⟨v72, h73, hf⟩ := gbind hf
                  refine g_Vi (As := [.int p1, .int 5]) (rest := []) ⟨hx, hb, hml, hown, hts⟩ (c7_thread l w K g S p0 p1 5 v72 h73 k48) (gcwV hts i7_thread wd_132 rfl rfl ⟨Nat.le_of_ble_eq_true rfl, Nat.le_of_ble_eq_true rfl⟩) (gRecv.of hK rfl (hH.o8 k48)) hH hK hS hl.1 rfl rfl (Nat.le_of_ble_eq_true rfl) dL_isThread_165 ⟨Nat.le_refl _, Nat.le_refl _⟩ (fun H locs hH hS => ?_)
                  refine lv_iload hx hb dL_isThread_168 (lv_at hl 8 rfl) ?_
                  have hg := gif hf
                  refine lv_icmp_ne (tgt := 177) hx hb dL_isThread_170 (by decide) (fun c74 => ?_) (fun c74 => ?_)
                  · have hf := hg.2 c74
                    exact B177 _ _ _ hH hS (lv_sub hl [0, 2, 4] rfl) hf
                  · have hf := hg.1 c74
                    refine lv_iconst (v := 1) hx hb dL_isThread_173 (by decide) ?_
                    refine lv_goto (tgt := 178) hx hb dL_isThread_174 (by decide) ?_
                    exact B178 _ _ _ _ hH hS (lv_sub hl [0, 2, 4] rfl) hf
      · have hf := hg.2 c47
        refine lv_iload hx hb dL_isThread_20 (lv_at hl 9 rfl) ?_
        refine lv_aload hx hb dL_isThread_22 (lv_at hl 5 rfl) ?_
        obtain ⟨v75, h76, hf⟩ := gbind hf
        refine g_Si (As := [.int x9, .ref (w.2.2.2 + 7)]) (rest := []) ⟨hx, hb, hml, hown, hts⟩ (c9_pickAt l w K g S x9 v75 h76) (gcwS hts i9_pickAt wd_512 rfl rfl ⟨Nat.le_of_ble_eq_true rfl, Nat.le_of_ble_eq_true rfl⟩) hH hK hS hl.1 rfl rfl (Nat.le_of_ble_eq_true rfl) dL_isThread_24 ⟨Nat.le_refl _, Nat.le_refl _⟩ (fun H locs hH hS => ?_)
        refine lv_iload_n hx hb dL_isThread_27 rfl (lv_at hl 1 rfl) ?_
        have hg := gif hf
        refine lv_icmp_ne (tgt := 35) hx hb dL_isThread_28 (by decide) (fun c77 => ?_) (fun c77 => ?_)
        · have hf := hg.2 c77
          refine lv_iconst (v := 0) hx hb dL_isThread_35 (by decide) ?_
          exact B36 _ (ih) _ _ _ _ _ _ _ _ hH hS (lv_sub hl [0, 1, 2, 3, 4, 5, 6, 7, 8, 9] rfl) hf
        · have hf := hg.1 c77
          refine lv_iconst (v := 1) hx hb dL_isThread_31 (by decide) ?_
          refine lv_goto (tgt := 36) hx hb dL_isThread_32 (by decide) ?_
          exact B36 _ (ih) _ _ _ _ _ _ _ _ hH hS (lv_sub hl [0, 1, 2, 3, 4, 5, 6, 7, 8, 9] rfl) hf
  have hl : lv_has ls 16 [(0, .ref p0), (1, .int p1), (2, .int p2), (3, .ref (w.2.2.2 + 0)), (4, .ref (w.2.2.2 + 1)), (5, .ref (w.2.2.2 + 7))] := hl
  refine lv_iconst (v := 0) hx hb dL_isThread_0 (by decide) ?_
  refine lv_istore (lv' := [(6, .int 0), (0, .ref p0), (1, .int p1), (2, .int p2), (3, .ref (w.2.2.2 + 0)), (4, .ref (w.2.2.2 + 1)), (5, .ref (w.2.2.2 + 7))]) hx hb dL_isThread_1 hl (by decide) rfl (fun ls hl => ?_)
  refine lv_iconst (v := 0) hx hb dL_isThread_3 (by decide) ?_
  refine lv_istore (lv' := [(7, .int 0), (6, .int 0), (0, .ref p0), (1, .int p1), (2, .int p2), (3, .ref (w.2.2.2 + 0)), (4, .ref (w.2.2.2 + 1)), (5, .ref (w.2.2.2 + 7))]) hx hb dL_isThread_4 hl (by decide) rfl (fun ls hl => ?_)
  refine lv_iconst (v := 0) hx hb dL_isThread_6 (by decide) ?_
  refine lv_istore (lv' := [(8, .int 0), (7, .int 0), (6, .int 0), (0, .ref p0), (1, .int p1), (2, .int p2), (3, .ref (w.2.2.2 + 0)), (4, .ref (w.2.2.2 + 1)), (5, .ref (w.2.2.2 + 7))]) hx hb dL_isThread_7 hl (by decide) rfl (fun ls hl => ?_)
  refine lv_iconst (v := 0) hx hb dL_isThread_9 (by decide) ?_
  refine lv_istore (lv' := [(9, .int 0), (8, .int 0), (7, .int 0), (6, .int 0), (0, .ref p0), (1, .int p1), (2, .int p2), (3, .ref (w.2.2.2 + 0)), (4, .ref (w.2.2.2 + 1)), (5, .ref (w.2.2.2 + 7))]) hx hb dL_isThread_10 hl (by decide) rfl (fun ls hl => ?_)
  exact B12 _ _ _ _ _ _ _ _ hH hS (lv_sub hl [4, 5, 6, 7, 8, 9, 3, 2, 1, 0] rfl) hf
set_option maxRecDepth 100000 in
set_option maxHeartbeats 8000000 in
theorem c9_isSo (l : Launch) (w : GW) (K : GK) (g : GM) (S : GS) (p0 : Nat) (p1 : Int32) (out : Int32) (hf : f9_isSo K g S p0 p1 = some out) : Met l yL_isSo (wA yL_isSo cL_isSo 14 (some .boolean)) ({ frames := 4, cells := 0, slots := 0, locals := 111 } : Room) (PRE w K g S [.ref p0, .int p1, .ref (w.2.2.2 + 0), .ref (w.2.2.2 + 1), .ref (w.2.2.2 + 2), .ref (w.2.2.2 + 3), .ref (w.2.2.2 + 4), .ref (w.2.2.2 + 7)]) (QI w K g S out) 0 0 (FR w) := by
  unfold f9_isSo at hf
  refine Met.ofW (cc := cL_isSo) (maxL := 14) (ret := (some .boolean)) (by decide) rfl ?_
  intro p e s m args below meth c s₁ B hml hv
  obtain ⟨rfl, hH, hK⟩ := hv
  have hx := B.exec
  have hb := B.bytes
  have hr := B.returns
  have hts : ∀ q ∈ gALL, q.before _ s = true := fun q h => atoms_spec (ws := (wA yL_isSo cL_isSo 14 (some .boolean))) B.pre q (List.mem_cons_of_mem _ h)
  have hown : s.vm.findClass RL = some m.cls := findClass_of_methodNamed B.named
  have hlocks := B.notSynchronized
  have hS : va_S (FR w) s.heap s.heap [] := va_S.rf
  show W p l e ({ frames := 4, cells := 0, slots := 0, locals := 111 } : Room) s m _ below meth c s.heap [] 0 0 (MQ below (QI w K g S out) _ s 0 0 (FR w)) _
  have hl := lv_entry ([.ref p0, .int p1, .ref (w.2.2.2 + 0), .ref (w.2.2.2 + 1), .ref (w.2.2.2 + 2), .ref (w.2.2.2 + 3), .ref (w.2.2.2 + 4), .ref (w.2.2.2 + 7)]) (n := 14) (Nat.le_of_ble_eq_true rfl)
  rw [lg_entry_eq]
  generalize (lg_sl ([.ref p0, .int p1, .ref (w.2.2.2 + 0), .ref (w.2.2.2 + 1), .ref (w.2.2.2 + 2), .ref (w.2.2.2 + 3), .ref (w.2.2.2 + 4), .ref (w.2.2.2 + 7)]) ++ List.replicate (14 - (lg_sl ([.ref p0, .int p1, .ref (w.2.2.2 + 0), .ref (w.2.2.2 + 1), .ref (w.2.2.2 + 2), .ref (w.2.2.2 + 3), .ref (w.2.2.2 + 4), .ref (w.2.2.2 + 7)])).length) Slot.unset).toArray = ls at hl ⊢
  clear B
  generalize ([.ref p0, .int p1, .ref (w.2.2.2 + 0), .ref (w.2.2.2 + 1), .ref (w.2.2.2 + 2), .ref (w.2.2.2 + 3), .ref (w.2.2.2 + 4), .ref (w.2.2.2 + 7)] : List Value).toArray = args at hts ⊢
  have B483 : ∀ (H : Heap) (locs : List Loc) (ls : Array Slot), HR w K g S H → va_S (FR w) s.heap H locs → lv_has ls 14 [] → f9_isSo_483 K g S p0 p1 = some out → W p l e ({ frames := 4, cells := 0, slots := 0, locals := 111 } : Room) s m args below meth c H locs 0 0 (MQ below (QI w K g S out) args s 0 0 (FR w)) (F0 m 483 ls []) := by
    intro   H locs ls hH hS hl hf
    unfold f9_isSo_483 at hf
    refine lv_iconst (v := 0) hx hb dL_isSo_483 (by decide) ?_
    have ho := Option.some.inj hf
    exact W.zret (v := 0) (ty := .boolean) hx hb hr rfl (fun t ht hW => ⟨⟨0, (), rfl, congrArg (fun q => q) ho, (hrE ht hH)⟩, hS.F ht⟩) hS.2.2 dL_isSo_484
  have B422 : ∀ (s0 : Int32) (H : Heap) (locs : List Loc) (ls : Array Slot), HR w K g S H → va_S (FR w) s.heap H locs → lv_has ls 14 [(0, .ref p0), (1, .int p1), (2, .ref (w.2.2.2 + 0)), (3, .ref (w.2.2.2 + 1)), (4, .ref (w.2.2.2 + 2)), (5, .ref (w.2.2.2 + 3)), (6, .ref (w.2.2.2 + 4)), (7, .ref (w.2.2.2 + 7))] → f9_isSo_422 K g S p0 p1 s0 = some out → W p l e ({ frames := 4, cells := 0, slots := 0, locals := 111 } : Room) s m args below meth c H locs 0 0 (MQ below (QI w K g S out) args s 0 0 (FR w)) (F0 m 422 ls [.int s0]) := by
    intro  s0 H locs ls hH hS hl hf
    unfold f9_isSo_422 at hf
    refine lv_istore (lv' := [(11, .int s0), (0, .ref p0), (1, .int p1), (2, .ref (w.2.2.2 + 0)), (3, .ref (w.2.2.2 + 1)), (4, .ref (w.2.2.2 + 2)), (5, .ref (w.2.2.2 + 3)), (6, .ref (w.2.2.2 + 4)), (7, .ref (w.2.2.2 + 7))]) hx hb dL_isSo_422 hl (by decide) rfl (fun ls hl => ?_)
    refine lv_iload hx hb dL_isSo_424 (lv_at hl 0 rfl) ?_
    have hg := gif hf
    refine lv_if_eq (tgt := 483) hx hb dL_isSo_426 (by decide) (fun c1 => ?_) (fun c1 => ?_)
    · have hf := hg.1 c1
      exact B483 _ _ _ hH hS (lv_sub hl [] rfl) hf
    · have hf := hg.2 c1
      refine lv_aload_n hx hb dL_isSo_429 rfl (lv_at hl 1 rfl) ?_
      refine lv_iload_n hx hb dL_isSo_430 rfl (lv_at hl 2 rfl) ?_
      refine lv_iconst (v := 4) hx hb dL_isSo_431 (by decide) ?_
      refine lv_ishr hx hb dL_isSo_432 ?_
      refine lv_bipush (v := 6) hx hb dL_isSo_433 (by decide) ?_
      obtain ⟨v2, h3, hf⟩ := gbind hf
      refine g_Si (As := [.int (p1 >>> (4 &&& 31)), .int 6]) (rest := [.ref p0]) ⟨hx, hb, hml, hown, hts⟩ (c9_low l w K g S (p1 >>> (4 &&& 31)) 6 v2 h3) (gcwS hts i9_low wd_99 rfl rfl ⟨Nat.le_of_ble_eq_true rfl, Nat.le_of_ble_eq_true rfl⟩) hH hK hS hl.1 rfl rfl (Nat.le_of_ble_eq_true rfl) dL_isSo_435 ⟨Nat.le_refl _, Nat.le_refl _⟩ (fun H locs hH hS => ?_)
      refine lv_iload_n hx hb dL_isSo_438 rfl (lv_at hl 2 rfl) ?_
      refine lv_bipush (v := 7) hx hb dL_isSo_439 (by decide) ?_
      refine lv_ishr hx hb dL_isSo_441 ?_
      refine lv_bipush (v := 6) hx hb dL_isSo_442 (by decide) ?_
      obtain ⟨v4, h5, hf⟩ := gbind hf
      refine g_Si (As := [.int (p1 >>> (7 &&& 31)), .int 6]) (rest := [.int v2, .ref p0]) ⟨hx, hb, hml, hown, hts⟩ (c9_low l w K g S (p1 >>> (7 &&& 31)) 6 v4 h5) (gcwS hts i9_low wd_99 rfl rfl ⟨Nat.le_of_ble_eq_true rfl, Nat.le_of_ble_eq_true rfl⟩) hH hK hS hl.1 rfl rfl (Nat.le_of_ble_eq_true rfl) dL_isSo_444 ⟨Nat.le_refl _, Nat.le_refl _⟩ (fun H locs hH hS => ?_)
      refine lv_aload_n hx hb dL_isSo_447 rfl (lv_at hl 3 rfl) ?_
      refine lv_aload_n hx hb dL_isSo_448 rfl (lv_at hl 4 rfl) ?_
      refine lv_aload hx hb dL_isSo_449 (lv_at hl 8 rfl) ?_
      obtain ⟨v6, h7, hf⟩ := gbind hf
      refine g_Si (As := [.ref p0, .int v2, .int v4, .ref (w.2.2.2 + 0), .ref (w.2.2.2 + 1), .ref (w.2.2.2 + 7)]) (rest := []) ⟨hx, hb, hml, hown, hts⟩ (c9_isThread l w K g S p0 v2 v4 v6 h7) (gcwS hts i9_isThread wd_515 rfl rfl ⟨Nat.le_of_ble_eq_true rfl, Nat.le_of_ble_eq_true rfl⟩) hH hK hS hl.1 rfl rfl (Nat.le_of_ble_eq_true rfl) dL_isSo_451 ⟨Nat.le_refl _, Nat.le_refl _⟩ (fun H locs hH hS => ?_)
      have hg := gif hf
      refine lv_if_eq (tgt := 483) hx hb dL_isSo_454 (by decide) (fun c8 => ?_) (fun c8 => ?_)
      · have hf := hg.1 c8
        exact B483 _ _ _ hH hS (lv_sub hl [] rfl) hf
      · have hf := hg.2 c8
        refine lv_aload_n hx hb dL_isSo_457 rfl (lv_at hl 1 rfl) ?_
        refine lv_iload_n hx hb dL_isSo_458 rfl (lv_at hl 2 rfl) ?_
        refine lv_bipush (v := 10) hx hb dL_isSo_459 (by decide) ?_
        refine lv_ishr hx hb dL_isSo_461 ?_
        refine lv_iconst (v := 5) hx hb dL_isSo_462 (by decide) ?_
        obtain ⟨v9, h10, hf⟩ := gbind hf
        refine g_Si (As := [.int (p1 >>> (10 &&& 31)), .int 5]) (rest := [.ref p0]) ⟨hx, hb, hml, hown, hts⟩ (c9_low l w K g S (p1 >>> (10 &&& 31)) 5 v9 h10) (gcwS hts i9_low wd_99 rfl rfl ⟨Nat.le_of_ble_eq_true rfl, Nat.le_of_ble_eq_true rfl⟩) hH hK hS hl.1 rfl rfl (Nat.le_of_ble_eq_true rfl) dL_isSo_463 ⟨Nat.le_refl _, Nat.le_refl _⟩ (fun H locs hH hS => ?_)
        refine lv_aload_n hx hb dL_isSo_466 rfl (lv_at hl 3 rfl) ?_
        refine lv_aload hx hb dL_isSo_467 (lv_at hl 5 rfl) ?_
        refine lv_aload hx hb dL_isSo_469 (lv_at hl 6 rfl) ?_
        refine lv_aload hx hb dL_isSo_471 (lv_at hl 7 rfl) ?_
        obtain ⟨v11, h12, hf⟩ := gbind hf
        refine g_Si (As := [.ref p0, .int v9, .ref (w.2.2.2 + 0), .ref (w.2.2.2 + 2), .ref (w.2.2.2 + 3), .ref (w.2.2.2 + 4)]) (rest := []) ⟨hx, hb, hml, hown, hts⟩ (c9_isCard l w K g S p0 v9 v11 h12) (gcwS hts i9_isCard wd_535 rfl rfl ⟨Nat.le_of_ble_eq_true rfl, Nat.le_of_ble_eq_true rfl⟩) hH hK hS hl.1 rfl rfl (Nat.le_of_ble_eq_true rfl) dL_isSo_473 ⟨Nat.le_refl _, Nat.le_refl _⟩ (fun H locs hH hS => ?_)
        have hg := gif hf
        refine lv_if_eq (tgt := 483) hx hb dL_isSo_476 (by decide) (fun c13 => ?_) (fun c13 => ?_)
        · have hf := hg.1 c13
          exact B483 _ _ _ hH hS (lv_sub hl [] rfl) hf
        · have hf := hg.2 c13
          refine lv_iconst (v := 1) hx hb dL_isSo_479 (by decide) ?_
          refine lv_goto (tgt := 484) hx hb dL_isSo_480 (by decide) ?_
          have ho := Option.some.inj hf
          exact W.zret (v := 1) (ty := .boolean) hx hb hr rfl (fun t ht hW => ⟨⟨1, (), rfl, congrArg (fun q => q) ho, (hrE ht hH)⟩, hS.F ht⟩) hS.2.2 dL_isSo_484
  have B421 : ∀ (H : Heap) (locs : List Loc) (ls : Array Slot), HR w K g S H → va_S (FR w) s.heap H locs → lv_has ls 14 [(0, .ref p0), (1, .int p1), (2, .ref (w.2.2.2 + 0)), (3, .ref (w.2.2.2 + 1)), (4, .ref (w.2.2.2 + 2)), (5, .ref (w.2.2.2 + 3)), (6, .ref (w.2.2.2 + 4)), (7, .ref (w.2.2.2 + 7))] → f9_isSo_421 K g S p0 p1 = some out → W p l e ({ frames := 4, cells := 0, slots := 0, locals := 111 } : Room) s m args below meth c H locs 0 0 (MQ below (QI w K g S out) args s 0 0 (FR w)) (F0 m 421 ls []) := by
    intro   H locs ls hH hS hl hf
    unfold f9_isSo_421 at hf
    refine lv_iconst (v := 0) hx hb dL_isSo_421 (by decide) ?_
    exact B422 _ _ _ _ hH hS (lv_sub hl [0, 1, 2, 3, 4, 5, 6, 7] rfl) hf
  have B417 : ∀ (H : Heap) (locs : List Loc) (ls : Array Slot), HR w K g S H → va_S (FR w) s.heap H locs → lv_has ls 14 [(0, .ref p0), (1, .int p1), (2, .ref (w.2.2.2 + 0)), (3, .ref (w.2.2.2 + 1)), (4, .ref (w.2.2.2 + 2)), (5, .ref (w.2.2.2 + 3)), (6, .ref (w.2.2.2 + 4)), (7, .ref (w.2.2.2 + 7))] → f9_isSo_417 K g S p0 p1 = some out → W p l e ({ frames := 4, cells := 0, slots := 0, locals := 111 } : Room) s m args below meth c H locs 0 0 (MQ below (QI w K g S out) args s 0 0 (FR w)) (F0 m 417 ls []) := by
    intro   H locs ls hH hS hl hf
    unfold f9_isSo_417 at hf
    refine lv_iconst (v := 1) hx hb dL_isSo_417 (by decide) ?_
    refine lv_goto (tgt := 422) hx hb dL_isSo_418 (by decide) ?_
    exact B422 _ _ _ _ hH hS (lv_sub hl [0, 1, 2, 3, 4, 5, 6, 7] rfl) hf
  have B386 : ∀ (s0 : Int32) (s1 : Int32) (H : Heap) (locs : List Loc) (ls : Array Slot), HR w K g S H → va_S (FR w) s.heap H locs → lv_has ls 14 [(0, .ref p0), (1, .int p1), (2, .ref (w.2.2.2 + 0)), (3, .ref (w.2.2.2 + 1)), (4, .ref (w.2.2.2 + 2)), (5, .ref (w.2.2.2 + 3)), (6, .ref (w.2.2.2 + 4)), (7, .ref (w.2.2.2 + 7))] → f9_isSo_386 K g S p0 p1 s0 s1 = some out → W p l e ({ frames := 4, cells := 0, slots := 0, locals := 111 } : Room) s m args below meth c H locs 0 0 (MQ below (QI w K g S out) args s 0 0 (FR w)) (F0 m 386 ls [.int s1, .int s0]) := by
    intro  s0 s1 H locs ls hH hS hl hf
    unfold f9_isSo_386 at hf
    have hg := gif hf
    refine lv_icmp_ne (tgt := 421) hx hb dL_isSo_386 (by decide) (fun c14 => ?_) (fun c14 => ?_)
    · have hf := hg.2 c14
      exact B421 _ _ _ hH hS (lv_sub hl [0, 1, 2, 3, 4, 5, 6, 7] rfl) hf
    · have hf := hg.1 c14
      refine lv_aload_n hx hb dL_isSo_389 rfl (lv_at hl 2 rfl) ?_
      refine lv_iconst (v := 4) hx hb dL_isSo_390 (by decide) ?_
      obtain ⟨h16, hf⟩ := gd_some hf
      refine m_iald hx hb hK hH 0 (by decide) rfl h16 dL_isSo_391 ?_
      have hg := gif hf
      refine lv_if_eq (tgt := 417) hx hb dL_isSo_392 (by decide) (fun c17 => ?_) (fun c17 => ?_)
      · have hf := hg.1 c17
        exact B417 _ _ _ hH hS (lv_sub hl [0, 1, 2, 3, 4, 5, 6, 7] rfl) hf
      · have hf := hg.2 c17
        refine lv_aload_n hx hb dL_isSo_395 rfl (lv_at hl 0 rfl) ?_
        refine lv_aload_n hx hb dL_isSo_396 rfl (lv_at hl 2 rfl) ?_
        refine lv_iconst (v := 4) hx hb dL_isSo_397 (by decide) ?_
        refine m_iald hx hb hK hH 0 (by decide) rfl h16 dL_isSo_398 ?_
        refine lv_iconst (v := 1) hx hb dL_isSo_399 (by decide) ?_
        refine lv_isub hx hb dL_isSo_400 ?_
        obtain ⟨k19, hf⟩ := gd_some hf
        have k19 := gk_obj k19
        obtain ⟨v20, h21, hf⟩ := gbind hf
        refine g_Vi (As := [.int ((S 0 (4 : Int32).toNatClampNeg) - 1)]) (rest := []) ⟨hx, hb, hml, hown, hts⟩ (c7_pick l w K g S p0 ((S 0 (4 : Int32).toNatClampNeg) - 1) v20 h21 k19) (gcwV hts i7_pick wd_507 rfl rfl ⟨Nat.le_of_ble_eq_true rfl, Nat.le_of_ble_eq_true rfl⟩) (gRecv.of hK rfl (hH.o8 k19)) hH hK hS hl.1 rfl rfl (Nat.le_of_ble_eq_true rfl) dL_isSo_401 ⟨Nat.le_refl _, Nat.le_refl _⟩ (fun H locs hH hS => ?_)
        refine lv_aload_n hx hb dL_isSo_404 rfl (lv_at hl 2 rfl) ?_
        refine lv_iconst (v := 4) hx hb dL_isSo_405 (by decide) ?_
        refine m_iald hx hb hK hH 0 (by decide) rfl h16 dL_isSo_406 ?_
        refine lv_iconst (v := 1) hx hb dL_isSo_407 (by decide) ?_
        refine lv_isub hx hb dL_isSo_408 ?_
        refine lv_aload hx hb dL_isSo_409 (lv_at hl 7 rfl) ?_
        obtain ⟨v23, h24, hf⟩ := gbind hf
        refine g_Si (As := [.int ((S 0 (4 : Int32).toNatClampNeg) - 1), .ref (w.2.2.2 + 7)]) (rest := [.int v20]) ⟨hx, hb, hml, hown, hts⟩ (c9_pickAt l w K g S ((S 0 (4 : Int32).toNatClampNeg) - 1) v23 h24) (gcwS hts i9_pickAt wd_512 rfl rfl ⟨Nat.le_of_ble_eq_true rfl, Nat.le_of_ble_eq_true rfl⟩) hH hK hS hl.1 rfl rfl (Nat.le_of_ble_eq_true rfl) dL_isSo_411 ⟨Nat.le_refl _, Nat.le_refl _⟩ (fun H locs hH hS => ?_)
        have hg := gif hf
        refine lv_icmp_ne (tgt := 421) hx hb dL_isSo_414 (by decide) (fun c25 => ?_) (fun c25 => ?_)
        · have hf := hg.2 c25
          exact B421 _ _ _ hH hS (lv_sub hl [0, 1, 2, 3, 4, 5, 6, 7] rfl) hf
        · have hf := hg.1 c25
          exact B417 _ _ _ hH hS (lv_sub hl [0, 1, 2, 3, 4, 5, 6, 7] rfl) hf
  have B327 : ∀ (k230 : Int32 → Int32 → Option (Int32)), (∀ (x11 : Int32) (x12 : Int32) (H : Heap) (locs : List Loc) (ls : Array Slot), HR w K g S H → va_S (FR w) s.heap H locs → lv_has ls 14 [(0, .ref p0), (1, .int p1), (2, .ref (w.2.2.2 + 0)), (3, .ref (w.2.2.2 + 1)), (4, .ref (w.2.2.2 + 2)), (5, .ref (w.2.2.2 + 3)), (6, .ref (w.2.2.2 + 4)), (7, .ref (w.2.2.2 + 7)), (11, .int x11), (12, .int x12)] → k230 x11 x12 = some out → W p l e ({ frames := 4, cells := 0, slots := 0, locals := 111 } : Room) s m args below meth c H locs 0 0 (MQ below (QI w K g S out) args s 0 0 (FR w)) (F0 m 230 ls [])) → ∀ (x12 : Int32) (s0 : Int32) (H : Heap) (locs : List Loc) (ls : Array Slot), HR w K g S H → va_S (FR w) s.heap H locs → lv_has ls 14 [(0, .ref p0), (1, .int p1), (2, .ref (w.2.2.2 + 0)), (3, .ref (w.2.2.2 + 1)), (4, .ref (w.2.2.2 + 2)), (5, .ref (w.2.2.2 + 3)), (6, .ref (w.2.2.2 + 4)), (7, .ref (w.2.2.2 + 7)), (12, .int x12)] → f9_isSo_327 k230 K g S p0 p1 x12 s0 = some out → W p l e ({ frames := 4, cells := 0, slots := 0, locals := 111 } : Room) s m args below meth c H locs 0 0 (MQ below (QI w K g S out) args s 0 0 (FR w)) (F0 m 327 ls [.int s0]) := by
    intro k230 hk230 x12 s0 H locs ls hH hS hl hf
    unfold f9_isSo_327 at hf
    refine lv_istore (lv' := [(11, .int s0), (0, .ref p0), (1, .int p1), (2, .ref (w.2.2.2 + 0)), (3, .ref (w.2.2.2 + 1)), (4, .ref (w.2.2.2 + 2)), (5, .ref (w.2.2.2 + 3)), (6, .ref (w.2.2.2 + 4)), (7, .ref (w.2.2.2 + 7)), (12, .int x12)]) hx hb dL_isSo_327 hl (by decide) rfl (fun ls hl => ?_)
    obtain ⟨v26, ev26⟩ : ∃ z : Int32, z = x12 + 1 := ⟨_, rfl⟩
    have hf := gl_at hf ev26
    refine lv_iinc (v := v26) (lv' := [(12, .int v26), (11, .int s0), (0, .ref p0), (1, .int p1), (2, .ref (w.2.2.2 + 0)), (3, .ref (w.2.2.2 + 1)), (4, .ref (w.2.2.2 + 2)), (5, .ref (w.2.2.2 + 3)), (6, .ref (w.2.2.2 + 4)), (7, .ref (w.2.2.2 + 7))]) hx hb dL_isSo_329 hl (k := 9) rfl (by rw [ev26]; rfl) (by decide) rfl (fun ls hl => ?_)
    refine lv_goto (tgt := 230) hx hb dL_isSo_332 (by decide) ?_
    exact hk230 _ _ _ _ _ hH hS (lv_sub hl [2, 3, 4, 5, 6, 7, 8, 9, 1, 0] rfl) hf
  have B326 : ∀ (k230 : Int32 → Int32 → Option (Int32)), (∀ (x11 : Int32) (x12 : Int32) (H : Heap) (locs : List Loc) (ls : Array Slot), HR w K g S H → va_S (FR w) s.heap H locs → lv_has ls 14 [(0, .ref p0), (1, .int p1), (2, .ref (w.2.2.2 + 0)), (3, .ref (w.2.2.2 + 1)), (4, .ref (w.2.2.2 + 2)), (5, .ref (w.2.2.2 + 3)), (6, .ref (w.2.2.2 + 4)), (7, .ref (w.2.2.2 + 7)), (11, .int x11), (12, .int x12)] → k230 x11 x12 = some out → W p l e ({ frames := 4, cells := 0, slots := 0, locals := 111 } : Room) s m args below meth c H locs 0 0 (MQ below (QI w K g S out) args s 0 0 (FR w)) (F0 m 230 ls [])) → ∀ (x12 : Int32) (H : Heap) (locs : List Loc) (ls : Array Slot), HR w K g S H → va_S (FR w) s.heap H locs → lv_has ls 14 [(0, .ref p0), (1, .int p1), (2, .ref (w.2.2.2 + 0)), (3, .ref (w.2.2.2 + 1)), (4, .ref (w.2.2.2 + 2)), (5, .ref (w.2.2.2 + 3)), (6, .ref (w.2.2.2 + 4)), (7, .ref (w.2.2.2 + 7)), (12, .int x12)] → f9_isSo_326 k230 K g S p0 p1 x12 = some out → W p l e ({ frames := 4, cells := 0, slots := 0, locals := 111 } : Room) s m args below meth c H locs 0 0 (MQ below (QI w K g S out) args s 0 0 (FR w)) (F0 m 326 ls []) := by
    intro k230 hk230 x12 H locs ls hH hS hl hf
    unfold f9_isSo_326 at hf
    refine lv_iconst (v := 0) hx hb dL_isSo_326 (by decide) ?_
    exact B327 _ (hk230) _ _ _ _ _ hH hS (lv_sub hl [0, 1, 2, 3, 4, 5, 6, 7, 8] rfl) hf
  have B230 : ∀ n : Nat, ∀ (x11 : Int32) (x12 : Int32) (H : Heap) (locs : List Loc) (ls : Array Slot), HR w K g S H → va_S (FR w) s.heap H locs → lv_has ls 14 [(0, .ref p0), (1, .int p1), (2, .ref (w.2.2.2 + 0)), (3, .ref (w.2.2.2 + 1)), (4, .ref (w.2.2.2 + 2)), (5, .ref (w.2.2.2 + 3)), (6, .ref (w.2.2.2 + 4)), (7, .ref (w.2.2.2 + 7)), (11, .int x11), (12, .int x12)] → f9_isSo_230 K g S p0 p1 n x11 x12 = some out → W p l e ({ frames := 4, cells := 0, slots := 0, locals := 111 } : Room) s m args below meth c H locs 0 0 (MQ below (QI w K g S out) args s 0 0 (FR w)) (F0 m 230 ls []) := by
    intro n
    induction n with
    | zero =>
      intro x11 x12 H locs ls hH hS hl hf
      cases hf
    | succ n ih =>
      intro x11 x12 H locs ls hH hS hl hf
      rw [f9_isSo_230] at hf
      refine lv_iload hx hb dL_isSo_230 (lv_at hl 9 rfl) ?_
      refine lv_aload_n hx hb dL_isSo_232 rfl (lv_at hl 2 rfl) ?_
      refine lv_iconst (v := 3) hx hb dL_isSo_233 (by decide) ?_
      obtain ⟨h28, hf⟩ := gd_some hf
      refine m_iald hx hb hK hH 0 (by decide) rfl h28 dL_isSo_234 ?_
      have hg := gif hf
      refine lv_icmp_ge (tgt := 335) hx hb dL_isSo_235 (by decide) (fun c29 => ?_) (fun c29 => ?_)
      · have hf := hg.1 c29
        refine lv_iload_n hx hb dL_isSo_335 rfl (lv_at hl 1 rfl) ?_
        refine lv_sipush (v := 401) hx hb dL_isSo_336 (by decide) ?_
        obtain ⟨v30, h31, hf⟩ := gbind hf
        refine g_Si (As := [.int p1, .int 401]) (rest := []) ⟨hx, hb, hml, hown, hts⟩ (c9_low l w K g S p1 401 v30 h31) (gcwS hts i9_low wd_99 rfl rfl ⟨Nat.le_of_ble_eq_true rfl, Nat.le_of_ble_eq_true rfl⟩) hH hK hS hl.1 rfl rfl (Nat.le_of_ble_eq_true rfl) dL_isSo_339 ⟨Nat.le_refl _, Nat.le_refl _⟩ (fun H locs hH hS => ?_)
        refine lv_istore (lv' := [(12, .int v30), (0, .ref p0), (1, .int p1), (2, .ref (w.2.2.2 + 0)), (3, .ref (w.2.2.2 + 1)), (4, .ref (w.2.2.2 + 2)), (5, .ref (w.2.2.2 + 3)), (6, .ref (w.2.2.2 + 4)), (7, .ref (w.2.2.2 + 7)), (11, .int x11)]) hx hb dL_isSo_342 hl (by decide) rfl (fun ls hl => ?_)
        refine lv_iload hx hb dL_isSo_344 (lv_at hl 9 rfl) ?_
        have hg := gif hf
        refine lv_if_eq (tgt := 421) hx hb dL_isSo_346 (by decide) (fun c32 => ?_) (fun c32 => ?_)
        · have hf := hg.1 c32
          exact B421 _ _ _ hH hS (lv_sub hl [1, 2, 3, 4, 5, 6, 7, 8] rfl) hf
        · have hf := hg.2 c32
          refine lv_aload_n hx hb dL_isSo_349 rfl (lv_at hl 1 rfl) ?_
          refine lv_aload_n hx hb dL_isSo_350 rfl (lv_at hl 3 rfl) ?_
          refine lv_iconst (v := 3) hx hb dL_isSo_351 (by decide) ?_
          refine m_iald hx hb hK hH 0 (by decide) rfl h28 dL_isSo_352 ?_
          refine lv_iconst (v := 0) hx hb dL_isSo_353 (by decide) ?_
          obtain ⟨k34, hf⟩ := gd_some hf
          have k34 := gk_obj k34
          obtain ⟨v35, h36, hf⟩ := gbind hf
          refine g_Vi (As := [.int (S 0 (3 : Int32).toNatClampNeg), .int 0]) (rest := []) ⟨hx, hb, hml, hown, hts⟩ (c7_stack l w K g S p0 (S 0 (3 : Int32).toNatClampNeg) 0 v35 h36 k34) (gcwV hts i7_stack wd_152 rfl rfl ⟨Nat.le_of_ble_eq_true rfl, Nat.le_of_ble_eq_true rfl⟩) (gRecv.of hK rfl (hH.o8 k34)) hH hK hS hl.1 rfl rfl (Nat.le_of_ble_eq_true rfl) dL_isSo_354 ⟨Nat.le_refl _, Nat.le_refl _⟩ (fun H locs hH hS => ?_)
          refine lv_iconst (v := (-1)) hx hb dL_isSo_357 (by decide) ?_
          have hg := gif hf
          refine lv_icmp_ne (tgt := 421) hx hb dL_isSo_358 (by decide) (fun c37 => ?_) (fun c37 => ?_)
          · have hf := hg.2 c37
            exact B421 _ _ _ hH hS (lv_sub hl [1, 2, 3, 4, 5, 6, 7, 8] rfl) hf
          · have hf := hg.1 c37
            refine lv_aload_n hx hb dL_isSo_361 rfl (lv_at hl 1 rfl) ?_
            refine lv_iload hx hb dL_isSo_362 (lv_at hl 0 rfl) ?_
            obtain ⟨v38, h39, hf⟩ := gbind hf
            refine g_Vi (As := [.int v30]) (rest := []) ⟨hx, hb, hml, hown, hts⟩ (c7_pick l w K g S p0 v30 v38 h39 k34) (gcwV hts i7_pick wd_507 rfl rfl ⟨Nat.le_of_ble_eq_true rfl, Nat.le_of_ble_eq_true rfl⟩) (gRecv.of hK rfl (hH.o8 k34)) hH hK hS hl.1 rfl rfl (Nat.le_of_ble_eq_true rfl) dL_isSo_364 ⟨Nat.le_refl _, Nat.le_refl _⟩ (fun H locs hH hS => ?_)
            refine lv_iload hx hb dL_isSo_367 (lv_at hl 0 rfl) ?_
            refine lv_aload_n hx hb dL_isSo_369 rfl (lv_at hl 3 rfl) ?_
            refine lv_iconst (v := 4) hx hb dL_isSo_370 (by decide) ?_
            obtain ⟨h41, hf⟩ := gd_some hf
            refine m_iald hx hb hK hH 0 (by decide) rfl h41 dL_isSo_371 ?_
            have hg := gif hf
            refine lv_icmp_ge (tgt := 385) hx hb dL_isSo_372 (by decide) (fun c42 => ?_) (fun c42 => ?_)
            · have hf := hg.1 c42
              refine lv_iconst (v := (-1)) hx hb dL_isSo_385 (by decide) ?_
              exact B386 _ _ _ _ _ hH hS (lv_sub hl [1, 2, 3, 4, 5, 6, 7, 8] rfl) hf
            · have hf := hg.2 c42
              refine lv_iload hx hb dL_isSo_375 (lv_at hl 0 rfl) ?_
              refine lv_aload hx hb dL_isSo_377 (lv_at hl 8 rfl) ?_
              obtain ⟨v43, h44, hf⟩ := gbind hf
              refine g_Si (As := [.int v30, .ref (w.2.2.2 + 7)]) (rest := [.int v38]) ⟨hx, hb, hml, hown, hts⟩ (c9_pickAt l w K g S v30 v43 h44) (gcwS hts i9_pickAt wd_512 rfl rfl ⟨Nat.le_of_ble_eq_true rfl, Nat.le_of_ble_eq_true rfl⟩) hH hK hS hl.1 rfl rfl (Nat.le_of_ble_eq_true rfl) dL_isSo_379 ⟨Nat.le_refl _, Nat.le_refl _⟩ (fun H locs hH hS => ?_)
              refine lv_goto (tgt := 386) hx hb dL_isSo_382 (by decide) ?_
              exact B386 _ _ _ _ _ hH hS (lv_sub hl [1, 2, 3, 4, 5, 6, 7, 8] rfl) hf
      · have hf := hg.2 c29
        refine lv_bipush (v := 6) hx hb dL_isSo_238 (by decide) ?_
        refine lv_aload_n hx hb dL_isSo_240 rfl (lv_at hl 2 rfl) ?_
        refine lv_iconst (v := 3) hx hb dL_isSo_241 (by decide) ?_
        refine m_iald hx hb hK hH 0 (by decide) rfl h28 dL_isSo_242 ?_
        refine lv_iconst (v := 1) hx hb dL_isSo_243 (by decide) ?_
        refine lv_isub hx hb dL_isSo_244 ?_
        refine lv_iload hx hb dL_isSo_245 (lv_at hl 9 rfl) ?_
        refine lv_isub hx hb dL_isSo_247 ?_
        refine lv_imul hx hb dL_isSo_248 ?_
        refine lv_topi (fun v46 ev46 => ?_)
        have hf := gl_at hf ev46
        refine lv_istore (lv' := [(13, .int v46), (0, .ref p0), (1, .int p1), (2, .ref (w.2.2.2 + 0)), (3, .ref (w.2.2.2 + 1)), (4, .ref (w.2.2.2 + 2)), (5, .ref (w.2.2.2 + 3)), (6, .ref (w.2.2.2 + 4)), (7, .ref (w.2.2.2 + 7)), (11, .int x11), (12, .int x12)]) hx hb dL_isSo_249 hl (by decide) rfl (fun ls hl => ?_)
        refine lv_iload hx hb dL_isSo_251 (lv_at hl 9 rfl) ?_
        have hg := gif hf
        refine lv_if_eq (tgt := 326) hx hb dL_isSo_253 (by decide) (fun c47 => ?_) (fun c47 => ?_)
        · have hf := hg.1 c47
          exact B326 _ (ih) _ _ _ _ hH hS (lv_sub hl [1, 2, 3, 4, 5, 6, 7, 8, 10] rfl) hf
        · have hf := hg.2 c47
          refine lv_aload_n hx hb dL_isSo_256 rfl (lv_at hl 1 rfl) ?_
          refine lv_iload hx hb dL_isSo_257 (lv_at hl 10 rfl) ?_
          refine lv_iconst (v := 0) hx hb dL_isSo_259 (by decide) ?_
          obtain ⟨k48, hf⟩ := gd_some hf
          have k48 := gk_obj k48
          obtain ⟨v49, h50, hf⟩ := gbind hf
          refine g_Vi (As := [.int x12, .int 0]) (rest := []) ⟨hx, hb, hml, hown, hts⟩ (c7_stack l w K g S p0 x12 0 v49 h50 k48) (gcwV hts i7_stack wd_152 rfl rfl ⟨Nat.le_of_ble_eq_true rfl, Nat.le_of_ble_eq_true rfl⟩) (gRecv.of hK rfl (hH.o8 k48)) hH hK hS hl.1 rfl rfl (Nat.le_of_ble_eq_true rfl) dL_isSo_260 ⟨Nat.le_refl _, Nat.le_refl _⟩ (fun H locs hH hS => ?_)
          refine lv_aload hx hb dL_isSo_263 (lv_at hl 7 rfl) ?_
          refine lv_iload hx hb dL_isSo_265 (lv_at hl 0 rfl) ?_
          obtain ⟨h52, hf⟩ := gd_some hf
          refine m_iald hx hb hK hH 4 (by decide) rfl h52 dL_isSo_267 ?_
          have hg := gif hf
          refine lv_icmp_ne (tgt := 326) hx hb dL_isSo_268 (by decide) (fun c53 => ?_) (fun c53 => ?_)
          · have hf := hg.2 c53
            exact B326 _ (ih) _ _ _ _ hH hS (lv_sub hl [1, 2, 3, 4, 5, 6, 7, 8, 10] rfl) hf
          · have hf := hg.1 c53
            refine lv_aload_n hx hb dL_isSo_271 rfl (lv_at hl 1 rfl) ?_
            refine lv_iload hx hb dL_isSo_272 (lv_at hl 10 rfl) ?_
            refine lv_iconst (v := 1) hx hb dL_isSo_274 (by decide) ?_
            obtain ⟨v54, h55, hf⟩ := gbind hf
            refine g_Vi (As := [.int x12, .int 1]) (rest := []) ⟨hx, hb, hml, hown, hts⟩ (c7_stack l w K g S p0 x12 1 v54 h55 k48) (gcwV hts i7_stack wd_152 rfl rfl ⟨Nat.le_of_ble_eq_true rfl, Nat.le_of_ble_eq_true rfl⟩) (gRecv.of hK rfl (hH.o8 k48)) hH hK hS hl.1 rfl rfl (Nat.le_of_ble_eq_true rfl) dL_isSo_275 ⟨Nat.le_refl _, Nat.le_refl _⟩ (fun H locs hH hS => ?_)
            refine lv_aload hx hb dL_isSo_278 (lv_at hl 7 rfl) ?_
            refine lv_iload hx hb dL_isSo_280 (lv_at hl 0 rfl) ?_
            refine lv_iconst (v := 1) hx hb dL_isSo_282 (by decide) ?_
            refine lv_iadd hx hb dL_isSo_283 ?_
            obtain ⟨h57, hf⟩ := gd_some hf
            refine m_iald hx hb hK hH 4 (by decide) rfl h57 dL_isSo_284 ?_
            have hg := gif hf
            refine lv_icmp_ne (tgt := 326) hx hb dL_isSo_285 (by decide) (fun c58 => ?_) (fun c58 => ?_)
            · have hf := hg.2 c58
              exact B326 _ (ih) _ _ _ _ hH hS (lv_sub hl [1, 2, 3, 4, 5, 6, 7, 8, 10] rfl) hf
            · have hf := hg.1 c58
              refine lv_aload_n hx hb dL_isSo_288 rfl (lv_at hl 1 rfl) ?_
              refine lv_iload hx hb dL_isSo_289 (lv_at hl 10 rfl) ?_
              refine lv_iconst (v := 2) hx hb dL_isSo_291 (by decide) ?_
              obtain ⟨v59, h60, hf⟩ := gbind hf
              refine g_Vi (As := [.int x12, .int 2]) (rest := []) ⟨hx, hb, hml, hown, hts⟩ (c7_stack l w K g S p0 x12 2 v59 h60 k48) (gcwV hts i7_stack wd_152 rfl rfl ⟨Nat.le_of_ble_eq_true rfl, Nat.le_of_ble_eq_true rfl⟩) (gRecv.of hK rfl (hH.o8 k48)) hH hK hS hl.1 rfl rfl (Nat.le_of_ble_eq_true rfl) dL_isSo_292 ⟨Nat.le_refl _, Nat.le_refl _⟩ (fun H locs hH hS => ?_)
              refine lv_aload hx hb dL_isSo_295 (lv_at hl 7 rfl) ?_
              refine lv_iload hx hb dL_isSo_297 (lv_at hl 0 rfl) ?_
              refine lv_iconst (v := 2) hx hb dL_isSo_299 (by decide) ?_
              refine lv_iadd hx hb dL_isSo_300 ?_
              obtain ⟨h62, hf⟩ := gd_some hf
              refine m_iald hx hb hK hH 4 (by decide) rfl h62 dL_isSo_301 ?_
              have hg := gif hf
              refine lv_icmp_ne (tgt := 326) hx hb dL_isSo_302 (by decide) (fun c63 => ?_) (fun c63 => ?_)
              · have hf := hg.2 c63
                exact B326 _ (ih) _ _ _ _ hH hS (lv_sub hl [1, 2, 3, 4, 5, 6, 7, 8, 10] rfl) hf
              · have hf := hg.1 c63
                refine lv_aload_n hx hb dL_isSo_305 rfl (lv_at hl 1 rfl) ?_
                refine lv_iload hx hb dL_isSo_306 (lv_at hl 10 rfl) ?_
                refine lv_iconst (v := 3) hx hb dL_isSo_308 (by decide) ?_
                obtain ⟨v64, h65, hf⟩ := gbind hf
                refine g_Vi (As := [.int x12, .int 3]) (rest := []) ⟨hx, hb, hml, hown, hts⟩ (c7_stack l w K g S p0 x12 3 v64 h65 k48) (gcwV hts i7_stack wd_152 rfl rfl ⟨Nat.le_of_ble_eq_true rfl, Nat.le_of_ble_eq_true rfl⟩) (gRecv.of hK rfl (hH.o8 k48)) hH hK hS hl.1 rfl rfl (Nat.le_of_ble_eq_true rfl) dL_isSo_309 ⟨Nat.le_refl _, Nat.le_refl _⟩ (fun H locs hH hS => ?_)
                refine lv_aload hx hb dL_isSo_312 (lv_at hl 7 rfl) ?_
                refine lv_iload hx hb dL_isSo_314 (lv_at hl 0 rfl) ?_
                refine lv_iconst (v := 4) hx hb dL_isSo_316 (by decide) ?_
                refine lv_iadd hx hb dL_isSo_317 ?_
                obtain ⟨h67, hf⟩ := gd_some hf
                refine m_iald hx hb hK hH 4 (by decide) rfl h67 dL_isSo_318 ?_
                have hg := gif hf
                refine lv_icmp_ne (tgt := 326) hx hb dL_isSo_319 (by decide) (fun c68 => ?_) (fun c68 => ?_)
                · have hf := hg.2 c68
                  exact B326 _ (ih) _ _ _ _ hH hS (lv_sub hl [1, 2, 3, 4, 5, 6, 7, 8, 10] rfl) hf
                · have hf := hg.1 c68
                  refine lv_iconst (v := 1) hx hb dL_isSo_322 (by decide) ?_
                  refine lv_goto (tgt := 327) hx hb dL_isSo_323 (by decide) ?_
                  exact B327 _ (ih) _ _ _ _ _ hH hS (lv_sub hl [1, 2, 3, 4, 5, 6, 7, 8, 10] rfl) hf
  have B225 : ∀ (s0 : Int32) (H : Heap) (locs : List Loc) (ls : Array Slot), HR w K g S H → va_S (FR w) s.heap H locs → lv_has ls 14 [(0, .ref p0), (1, .int p1), (2, .ref (w.2.2.2 + 0)), (3, .ref (w.2.2.2 + 1)), (4, .ref (w.2.2.2 + 2)), (5, .ref (w.2.2.2 + 3)), (6, .ref (w.2.2.2 + 4)), (7, .ref (w.2.2.2 + 7))] → f9_isSo_225 K g S p0 p1 s0 = some out → W p l e ({ frames := 4, cells := 0, slots := 0, locals := 111 } : Room) s m args below meth c H locs 0 0 (MQ below (QI w K g S out) args s 0 0 (FR w)) (F0 m 225 ls [.int s0]) := by
    intro  s0 H locs ls hH hS hl hf
    unfold f9_isSo_225 at hf
    refine lv_istore (lv' := [(11, .int s0), (0, .ref p0), (1, .int p1), (2, .ref (w.2.2.2 + 0)), (3, .ref (w.2.2.2 + 1)), (4, .ref (w.2.2.2 + 2)), (5, .ref (w.2.2.2 + 3)), (6, .ref (w.2.2.2 + 4)), (7, .ref (w.2.2.2 + 7))]) hx hb dL_isSo_225 hl (by decide) rfl (fun ls hl => ?_)
    refine lv_iconst (v := 0) hx hb dL_isSo_227 (by decide) ?_
    refine lv_istore (lv' := [(12, .int 0), (11, .int s0), (0, .ref p0), (1, .int p1), (2, .ref (w.2.2.2 + 0)), (3, .ref (w.2.2.2 + 1)), (4, .ref (w.2.2.2 + 2)), (5, .ref (w.2.2.2 + 3)), (6, .ref (w.2.2.2 + 4)), (7, .ref (w.2.2.2 + 7))]) hx hb dL_isSo_228 hl (by decide) rfl (fun ls hl => ?_)
    exact B230 _ _ _ _ _ _ hH hS (lv_sub hl [2, 3, 4, 5, 6, 7, 8, 9, 1, 0] rfl) hf
  have B224 : ∀ (H : Heap) (locs : List Loc) (ls : Array Slot), HR w K g S H → va_S (FR w) s.heap H locs → lv_has ls 14 [(0, .ref p0), (1, .int p1), (2, .ref (w.2.2.2 + 0)), (3, .ref (w.2.2.2 + 1)), (4, .ref (w.2.2.2 + 2)), (5, .ref (w.2.2.2 + 3)), (6, .ref (w.2.2.2 + 4)), (7, .ref (w.2.2.2 + 7))] → f9_isSo_224 K g S p0 p1 = some out → W p l e ({ frames := 4, cells := 0, slots := 0, locals := 111 } : Room) s m args below meth c H locs 0 0 (MQ below (QI w K g S out) args s 0 0 (FR w)) (F0 m 224 ls []) := by
    intro   H locs ls hH hS hl hf
    unfold f9_isSo_224 at hf
    refine lv_iconst (v := 0) hx hb dL_isSo_224 (by decide) ?_
    exact B225 _ _ _ _ hH hS (lv_sub hl [0, 1, 2, 3, 4, 5, 6, 7] rfl) hf
  have B48 : ∀ n : Nat, ∀ (x8 : Int32) (x9 : Int32) (x10 : Int32) (x11 : Int32) (H : Heap) (locs : List Loc) (ls : Array Slot), HR w K g S H → va_S (FR w) s.heap H locs → lv_has ls 14 [(0, .ref p0), (1, .int p1), (2, .ref (w.2.2.2 + 0)), (3, .ref (w.2.2.2 + 1)), (4, .ref (w.2.2.2 + 2)), (5, .ref (w.2.2.2 + 3)), (6, .ref (w.2.2.2 + 4)), (7, .ref (w.2.2.2 + 7)), (8, .int x8), (9, .int x9), (10, .int x10), (11, .int x11)] → f9_isSo_48 K g S p0 p1 n x8 x9 x10 x11 = some out → W p l e ({ frames := 4, cells := 0, slots := 0, locals := 111 } : Room) s m args below meth c H locs 0 0 (MQ below (QI w K g S out) args s 0 0 (FR w)) (F0 m 48 ls []) := by
    intro n
    induction n with
    | zero =>
      intro x8 x9 x10 x11 H locs ls hH hS hl hf
      cases hf
    | succ n ih =>
      intro x8 x9 x10 x11 H locs ls hH hS hl hf
      rw [f9_isSo_48] at hf
      refine lv_iload hx hb dL_isSo_48 (lv_at hl 11 rfl) ?_
      refine lv_bipush (v := 6) hx hb dL_isSo_50 (by decide) ?_
      have hg := gif hf
      refine lv_icmp_ge (tgt := 82) hx hb dL_isSo_52 (by decide) (fun c69 => ?_) (fun c69 => ?_)
      · have hf := hg.1 c69
        refine lv_aload_n hx hb dL_isSo_82 rfl (lv_at hl 0 rfl) ?_
        refine lv_iconst (v := 0) hx hb dL_isSo_83 (by decide) ?_
        obtain ⟨k70, hf⟩ := gd_some hf
        have k70 := gk_obj k70
        obtain ⟨v71, h72, hf⟩ := gbind hf
        refine g_Vi (As := [.int 0]) (rest := []) ⟨hx, hb, hml, hown, hts⟩ (c7_count l w K g S p0 0 v71 h72 k70) (gcwV hts i7_count wd_109 rfl rfl ⟨Nat.le_of_ble_eq_true rfl, Nat.le_of_ble_eq_true rfl⟩) (gRecv.of hK rfl (hH.o8 k70)) hH hK hS hl.1 rfl rfl (Nat.le_of_ble_eq_true rfl) dL_isSo_84 ⟨Nat.le_refl _, Nat.le_refl _⟩ (fun H locs hH hS => ?_)
        refine lv_iload hx hb dL_isSo_87 (lv_at hl 8 rfl) ?_
        have hg := gif hf
        refine lv_icmp_ne (tgt := 224) hx hb dL_isSo_89 (by decide) (fun c73 => ?_) (fun c73 => ?_)
        · have hf := hg.2 c73
          exact B224 _ _ _ hH hS (lv_sub hl [0, 1, 2, 3, 4, 5, 6, 7] rfl) hf
        · have hf := hg.1 c73
          refine lv_aload_n hx hb dL_isSo_92 rfl (lv_at hl 0 rfl) ?_
          refine lv_iconst (v := 1) hx hb dL_isSo_93 (by decide) ?_
          obtain ⟨v74, h75, hf⟩ := gbind hf
          refine g_Vi (As := [.int 1]) (rest := []) ⟨hx, hb, hml, hown, hts⟩ (c7_count l w K g S p0 1 v74 h75 k70) (gcwV hts i7_count wd_109 rfl rfl ⟨Nat.le_of_ble_eq_true rfl, Nat.le_of_ble_eq_true rfl⟩) (gRecv.of hK rfl (hH.o8 k70)) hH hK hS hl.1 rfl rfl (Nat.le_of_ble_eq_true rfl) dL_isSo_94 ⟨Nat.le_refl _, Nat.le_refl _⟩ (fun H locs hH hS => ?_)
          refine lv_aload_n hx hb dL_isSo_97 rfl (lv_at hl 2 rfl) ?_
          refine lv_iconst (v := 3) hx hb dL_isSo_98 (by decide) ?_
          obtain ⟨h77, hf⟩ := gd_some hf
          refine m_iald hx hb hK hH 0 (by decide) rfl h77 dL_isSo_99 ?_
          have hg := gif hf
          refine lv_icmp_ne (tgt := 224) hx hb dL_isSo_100 (by decide) (fun c78 => ?_) (fun c78 => ?_)
          · have hf := hg.2 c78
            exact B224 _ _ _ hH hS (lv_sub hl [0, 1, 2, 3, 4, 5, 6, 7] rfl) hf
          · have hf := hg.1 c78
            refine lv_aload_n hx hb dL_isSo_103 rfl (lv_at hl 0 rfl) ?_
            refine lv_iconst (v := 2) hx hb dL_isSo_104 (by decide) ?_
            obtain ⟨v79, h80, hf⟩ := gbind hf
            refine g_Vi (As := [.int 2]) (rest := []) ⟨hx, hb, hml, hown, hts⟩ (c7_count l w K g S p0 2 v79 h80 k70) (gcwV hts i7_count wd_109 rfl rfl ⟨Nat.le_of_ble_eq_true rfl, Nat.le_of_ble_eq_true rfl⟩) (gRecv.of hK rfl (hH.o8 k70)) hH hK hS hl.1 rfl rfl (Nat.le_of_ble_eq_true rfl) dL_isSo_105 ⟨Nat.le_refl _, Nat.le_refl _⟩ (fun H locs hH hS => ?_)
            refine lv_aload_n hx hb dL_isSo_108 rfl (lv_at hl 2 rfl) ?_
            refine lv_iconst (v := 4) hx hb dL_isSo_109 (by decide) ?_
            obtain ⟨h82, hf⟩ := gd_some hf
            refine m_iald hx hb hK hH 0 (by decide) rfl h82 dL_isSo_110 ?_
            have hg := gif hf
            refine lv_icmp_ne (tgt := 224) hx hb dL_isSo_111 (by decide) (fun c83 => ?_) (fun c83 => ?_)
            · have hf := hg.2 c83
              exact B224 _ _ _ hH hS (lv_sub hl [0, 1, 2, 3, 4, 5, 6, 7] rfl) hf
            · have hf := hg.1 c83
              refine lv_aload_n hx hb dL_isSo_114 rfl (lv_at hl 0 rfl) ?_
              refine lv_iconst (v := 3) hx hb dL_isSo_115 (by decide) ?_
              obtain ⟨v84, h85, hf⟩ := gbind hf
              refine g_Vi (As := [.int 3]) (rest := []) ⟨hx, hb, hml, hown, hts⟩ (c7_count l w K g S p0 3 v84 h85 k70) (gcwV hts i7_count wd_109 rfl rfl ⟨Nat.le_of_ble_eq_true rfl, Nat.le_of_ble_eq_true rfl⟩) (gRecv.of hK rfl (hH.o8 k70)) hH hK hS hl.1 rfl rfl (Nat.le_of_ble_eq_true rfl) dL_isSo_116 ⟨Nat.le_refl _, Nat.le_refl _⟩ (fun H locs hH hS => ?_)
              refine lv_aload_n hx hb dL_isSo_119 rfl (lv_at hl 2 rfl) ?_
              refine lv_iconst (v := 5) hx hb dL_isSo_120 (by decide) ?_
              obtain ⟨h87, hf⟩ := gd_some hf
              refine m_iald hx hb hK hH 0 (by decide) rfl h87 dL_isSo_121 ?_
              have hg := gif hf
              refine lv_icmp_ne (tgt := 224) hx hb dL_isSo_122 (by decide) (fun c88 => ?_) (fun c88 => ?_)
              · have hf := hg.2 c88
                exact B224 _ _ _ hH hS (lv_sub hl [0, 1, 2, 3, 4, 5, 6, 7] rfl) hf
              · have hf := hg.1 c88
                refine lv_aload_n hx hb dL_isSo_125 rfl (lv_at hl 0 rfl) ?_
                refine lv_iconst (v := 4) hx hb dL_isSo_126 (by decide) ?_
                obtain ⟨v89, h90, hf⟩ := gbind hf
                refine g_Vi (As := [.int 4]) (rest := []) ⟨hx, hb, hml, hown, hts⟩ (c7_count l w K g S p0 4 v89 h90 k70) (gcwV hts i7_count wd_109 rfl rfl ⟨Nat.le_of_ble_eq_true rfl, Nat.le_of_ble_eq_true rfl⟩) (gRecv.of hK rfl (hH.o8 k70)) hH hK hS hl.1 rfl rfl (Nat.le_of_ble_eq_true rfl) dL_isSo_127 ⟨Nat.le_refl _, Nat.le_refl _⟩ (fun H locs hH hS => ?_)
                refine lv_aload_n hx hb dL_isSo_130 rfl (lv_at hl 2 rfl) ?_
                refine lv_bipush (v := 6) hx hb dL_isSo_131 (by decide) ?_
                obtain ⟨h92, hf⟩ := gd_some hf
                refine m_iald hx hb hK hH 0 (by decide) rfl h92 dL_isSo_133 ?_
                have hg := gif hf
                refine lv_icmp_ne (tgt := 224) hx hb dL_isSo_134 (by decide) (fun c93 => ?_) (fun c93 => ?_)
                · have hf := hg.2 c93
                  exact B224 _ _ _ hH hS (lv_sub hl [0, 1, 2, 3, 4, 5, 6, 7] rfl) hf
                · have hf := hg.1 c93
                  refine lv_aload_n hx hb dL_isSo_137 rfl (lv_at hl 0 rfl) ?_
                  refine lv_iconst (v := 5) hx hb dL_isSo_138 (by decide) ?_
                  obtain ⟨v94, h95, hf⟩ := gbind hf
                  refine g_Vi (As := [.int 5]) (rest := []) ⟨hx, hb, hml, hown, hts⟩ (c7_count l w K g S p0 5 v94 h95 k70) (gcwV hts i7_count wd_109 rfl rfl ⟨Nat.le_of_ble_eq_true rfl, Nat.le_of_ble_eq_true rfl⟩) (gRecv.of hK rfl (hH.o8 k70)) hH hK hS hl.1 rfl rfl (Nat.le_of_ble_eq_true rfl) dL_isSo_139 ⟨Nat.le_refl _, Nat.le_refl _⟩ (fun H locs hH hS => ?_)
                  refine lv_aload_n hx hb dL_isSo_142 rfl (lv_at hl 2 rfl) ?_
                  refine lv_bipush (v := 7) hx hb dL_isSo_143 (by decide) ?_
                  obtain ⟨h97, hf⟩ := gd_some hf
                  refine m_iald hx hb hK hH 0 (by decide) rfl h97 dL_isSo_145 ?_
                  have hg := gif hf
                  refine lv_icmp_ne (tgt := 224) hx hb dL_isSo_146 (by decide) (fun c98 => ?_) (fun c98 => ?_)
                  · have hf := hg.2 c98
                    exact B224 _ _ _ hH hS (lv_sub hl [0, 1, 2, 3, 4, 5, 6, 7] rfl) hf
                  · have hf := hg.1 c98
                    refine lv_aload_n hx hb dL_isSo_149 rfl (lv_at hl 0 rfl) ?_
                    refine lv_bipush (v := 6) hx hb dL_isSo_150 (by decide) ?_
                    obtain ⟨v99, h100, hf⟩ := gbind hf
                    refine g_Vi (As := [.int 6]) (rest := []) ⟨hx, hb, hml, hown, hts⟩ (c7_count l w K g S p0 6 v99 h100 k70) (gcwV hts i7_count wd_109 rfl rfl ⟨Nat.le_of_ble_eq_true rfl, Nat.le_of_ble_eq_true rfl⟩) (gRecv.of hK rfl (hH.o8 k70)) hH hK hS hl.1 rfl rfl (Nat.le_of_ble_eq_true rfl) dL_isSo_152 ⟨Nat.le_refl _, Nat.le_refl _⟩ (fun H locs hH hS => ?_)
                    refine lv_aload_n hx hb dL_isSo_155 rfl (lv_at hl 2 rfl) ?_
                    refine lv_bipush (v := 8) hx hb dL_isSo_156 (by decide) ?_
                    obtain ⟨h102, hf⟩ := gd_some hf
                    refine m_iald hx hb hK hH 0 (by decide) rfl h102 dL_isSo_158 ?_
                    have hg := gif hf
                    refine lv_icmp_ne (tgt := 224) hx hb dL_isSo_159 (by decide) (fun c103 => ?_) (fun c103 => ?_)
                    · have hf := hg.2 c103
                      exact B224 _ _ _ hH hS (lv_sub hl [0, 1, 2, 3, 4, 5, 6, 7] rfl) hf
                    · have hf := hg.1 c103
                      refine lv_aload_n hx hb dL_isSo_162 rfl (lv_at hl 0 rfl) ?_
                      refine lv_bipush (v := 7) hx hb dL_isSo_163 (by decide) ?_
                      obtain ⟨v104, h105, hf⟩ := gbind hf
                      refine g_Vi (As := [.int 7]) (rest := []) ⟨hx, hb, hml, hown, hts⟩ (c7_count l w K g S p0 7 v104 h105 k70) (gcwV hts i7_count wd_109 rfl rfl ⟨Nat.le_of_ble_eq_true rfl, Nat.le_of_ble_eq_true rfl⟩) (gRecv.of hK rfl (hH.o8 k70)) hH hK hS hl.1 rfl rfl (Nat.le_of_ble_eq_true rfl) dL_isSo_165 ⟨Nat.le_refl _, Nat.le_refl _⟩ (fun H locs hH hS => ?_)
                      refine lv_iload hx hb dL_isSo_168 (lv_at hl 10 rfl) ?_
                      have hg := gif hf
                      refine lv_icmp_ne (tgt := 224) hx hb dL_isSo_170 (by decide) (fun c106 => ?_) (fun c106 => ?_)
                      · have hf := hg.2 c106
                        exact B224 _ _ _ hH hS (lv_sub hl [0, 1, 2, 3, 4, 5, 6, 7] rfl) hf
                      · have hf := hg.1 c106
                        refine lv_aload_n hx hb dL_isSo_173 rfl (lv_at hl 0 rfl) ?_
                        refine lv_bipush (v := 8) hx hb dL_isSo_174 (by decide) ?_
                        obtain ⟨v107, h108, hf⟩ := gbind hf
                        refine g_Vi (As := [.int 8]) (rest := []) ⟨hx, hb, hml, hown, hts⟩ (c7_count l w K g S p0 8 v107 h108 k70) (gcwV hts i7_count wd_109 rfl rfl ⟨Nat.le_of_ble_eq_true rfl, Nat.le_of_ble_eq_true rfl⟩) (gRecv.of hK rfl (hH.o8 k70)) hH hK hS hl.1 rfl rfl (Nat.le_of_ble_eq_true rfl) dL_isSo_176 ⟨Nat.le_refl _, Nat.le_refl _⟩ (fun H locs hH hS => ?_)
                        refine lv_iload hx hb dL_isSo_179 (lv_at hl 9 rfl) ?_
                        have hg := gif hf
                        refine lv_icmp_ne (tgt := 224) hx hb dL_isSo_181 (by decide) (fun c109 => ?_) (fun c109 => ?_)
                        · have hf := hg.2 c109
                          exact B224 _ _ _ hH hS (lv_sub hl [0, 1, 2, 3, 4, 5, 6, 7] rfl) hf
                        · have hf := hg.1 c109
                          refine lv_aload_n hx hb dL_isSo_184 rfl (lv_at hl 0 rfl) ?_
                          refine lv_bipush (v := 9) hx hb dL_isSo_185 (by decide) ?_
                          obtain ⟨v110, h111, hf⟩ := gbind hf
                          refine g_Vi (As := [.int 9]) (rest := []) ⟨hx, hb, hml, hown, hts⟩ (c7_count l w K g S p0 9 v110 h111 k70) (gcwV hts i7_count wd_109 rfl rfl ⟨Nat.le_of_ble_eq_true rfl, Nat.le_of_ble_eq_true rfl⟩) (gRecv.of hK rfl (hH.o8 k70)) hH hK hS hl.1 rfl rfl (Nat.le_of_ble_eq_true rfl) dL_isSo_187 ⟨Nat.le_refl _, Nat.le_refl _⟩ (fun H locs hH hS => ?_)
                          refine lv_aload_n hx hb dL_isSo_190 rfl (lv_at hl 2 rfl) ?_
                          refine lv_iconst (v := 0) hx hb dL_isSo_191 (by decide) ?_
                          obtain ⟨h113, hf⟩ := gd_some hf
                          refine m_iald hx hb hK hH 0 (by decide) rfl h113 dL_isSo_192 ?_
                          have hg := gif hf
                          refine lv_icmp_ne (tgt := 224) hx hb dL_isSo_193 (by decide) (fun c114 => ?_) (fun c114 => ?_)
                          · have hf := hg.2 c114
                            exact B224 _ _ _ hH hS (lv_sub hl [0, 1, 2, 3, 4, 5, 6, 7] rfl) hf
                          · have hf := hg.1 c114
                            refine lv_aload_n hx hb dL_isSo_196 rfl (lv_at hl 0 rfl) ?_
                            refine lv_bipush (v := 10) hx hb dL_isSo_197 (by decide) ?_
                            obtain ⟨v115, h116, hf⟩ := gbind hf
                            refine g_Vi (As := [.int 10]) (rest := []) ⟨hx, hb, hml, hown, hts⟩ (c7_count l w K g S p0 10 v115 h116 k70) (gcwV hts i7_count wd_109 rfl rfl ⟨Nat.le_of_ble_eq_true rfl, Nat.le_of_ble_eq_true rfl⟩) (gRecv.of hK rfl (hH.o8 k70)) hH hK hS hl.1 rfl rfl (Nat.le_of_ble_eq_true rfl) dL_isSo_199 ⟨Nat.le_refl _, Nat.le_refl _⟩ (fun H locs hH hS => ?_)
                            refine lv_aload_n hx hb dL_isSo_202 rfl (lv_at hl 2 rfl) ?_
                            refine lv_iconst (v := 1) hx hb dL_isSo_203 (by decide) ?_
                            obtain ⟨h118, hf⟩ := gd_some hf
                            refine m_iald hx hb hK hH 0 (by decide) rfl h118 dL_isSo_204 ?_
                            have hg := gif hf
                            refine lv_icmp_ne (tgt := 224) hx hb dL_isSo_205 (by decide) (fun c119 => ?_) (fun c119 => ?_)
                            · have hf := hg.2 c119
                              exact B224 _ _ _ hH hS (lv_sub hl [0, 1, 2, 3, 4, 5, 6, 7] rfl) hf
                            · have hf := hg.1 c119
                              refine lv_aload_n hx hb dL_isSo_208 rfl (lv_at hl 0 rfl) ?_
                              refine lv_bipush (v := 11) hx hb dL_isSo_209 (by decide) ?_
                              obtain ⟨v120, h121, hf⟩ := gbind hf
                              refine g_Vi (As := [.int 11]) (rest := []) ⟨hx, hb, hml, hown, hts⟩ (c7_count l w K g S p0 11 v120 h121 k70) (gcwV hts i7_count wd_109 rfl rfl ⟨Nat.le_of_ble_eq_true rfl, Nat.le_of_ble_eq_true rfl⟩) (gRecv.of hK rfl (hH.o8 k70)) hH hK hS hl.1 rfl rfl (Nat.le_of_ble_eq_true rfl) dL_isSo_211 ⟨Nat.le_refl _, Nat.le_refl _⟩ (fun H locs hH hS => ?_)
                              refine lv_aload_n hx hb dL_isSo_214 rfl (lv_at hl 2 rfl) ?_
                              refine lv_iconst (v := 2) hx hb dL_isSo_215 (by decide) ?_
                              obtain ⟨h123, hf⟩ := gd_some hf
                              refine m_iald hx hb hK hH 0 (by decide) rfl h123 dL_isSo_216 ?_
                              have hg := gif hf
                              refine lv_icmp_ne (tgt := 224) hx hb dL_isSo_217 (by decide) (fun c124 => ?_) (fun c124 => ?_)
                              · have hf := hg.2 c124
                                exact B224 _ _ _ hH hS (lv_sub hl [0, 1, 2, 3, 4, 5, 6, 7] rfl) hf
                              · have hf := hg.1 c124
                                refine lv_iconst (v := 1) hx hb dL_isSo_220 (by decide) ?_
                                refine lv_goto (tgt := 225) hx hb dL_isSo_221 (by decide) ?_
                                exact B225 _ _ _ _ hH hS (lv_sub hl [0, 1, 2, 3, 4, 5, 6, 7] rfl) hf
      · have hf := hg.2 c69
        refine lv_iload hx hb dL_isSo_55 (lv_at hl 9 rfl) ?_
        refine lv_aload_n hx hb dL_isSo_57 rfl (lv_at hl 3 rfl) ?_
        refine lv_iload hx hb dL_isSo_58 (lv_at hl 11 rfl) ?_
        obtain ⟨h126, hf⟩ := gd_some hf
        refine m_iald hx hb hK hH 1 (by decide) rfl h126 dL_isSo_60 ?_
        refine lv_iadd hx hb dL_isSo_61 ?_
        refine lv_topi (fun v127 ev127 => ?_)
        have hf := gl_at hf ev127
        refine lv_istore (lv' := [(9, .int v127), (0, .ref p0), (1, .int p1), (2, .ref (w.2.2.2 + 0)), (3, .ref (w.2.2.2 + 1)), (4, .ref (w.2.2.2 + 2)), (5, .ref (w.2.2.2 + 3)), (6, .ref (w.2.2.2 + 4)), (7, .ref (w.2.2.2 + 7)), (8, .int x8), (10, .int x10), (11, .int x11)]) hx hb dL_isSo_62 hl (by decide) rfl (fun ls hl => ?_)
        refine lv_iload hx hb dL_isSo_64 (lv_at hl 10 rfl) ?_
        refine lv_aload_n hx hb dL_isSo_66 rfl (lv_at hl 4 rfl) ?_
        refine lv_bipush (v := 12) hx hb dL_isSo_67 (by decide) ?_
        refine lv_iload hx hb dL_isSo_69 (lv_at hl 11 rfl) ?_
        refine lv_iadd hx hb dL_isSo_71 ?_
        obtain ⟨h129, hf⟩ := gd_some hf
        refine m_iald hx hb hK hH 1 (by decide) rfl h129 dL_isSo_72 ?_
        refine lv_iadd hx hb dL_isSo_73 ?_
        refine lv_topi (fun v130 ev130 => ?_)
        have hf := gl_at hf ev130
        refine lv_istore (lv' := [(10, .int v130), (9, .int v127), (0, .ref p0), (1, .int p1), (2, .ref (w.2.2.2 + 0)), (3, .ref (w.2.2.2 + 1)), (4, .ref (w.2.2.2 + 2)), (5, .ref (w.2.2.2 + 3)), (6, .ref (w.2.2.2 + 4)), (7, .ref (w.2.2.2 + 7)), (8, .int x8), (11, .int x11)]) hx hb dL_isSo_74 hl (by decide) rfl (fun ls hl => ?_)
        obtain ⟨v131, ev131⟩ : ∃ z : Int32, z = x11 + 1 := ⟨_, rfl⟩
        have hf := gl_at hf ev131
        refine lv_iinc (v := v131) (lv' := [(11, .int v131), (10, .int v130), (9, .int v127), (0, .ref p0), (1, .int p1), (2, .ref (w.2.2.2 + 0)), (3, .ref (w.2.2.2 + 1)), (4, .ref (w.2.2.2 + 2)), (5, .ref (w.2.2.2 + 3)), (6, .ref (w.2.2.2 + 4)), (7, .ref (w.2.2.2 + 7)), (8, .int x8)]) hx hb dL_isSo_76 hl (k := 11) rfl (by rw [ev131]; rfl) (by decide) rfl (fun ls hl => ?_)
        refine lv_goto (tgt := 48) hx hb dL_isSo_79 (by decide) ?_
        exact ih _ _ _ _ _ _ _ hH hS (lv_sub hl [3, 4, 5, 6, 7, 8, 9, 10, 11, 2, 1, 0] rfl) hf
  have B36 : ∀ (k12 : Int32 → Int32 → Int32 → Int32 → Option (Int32)), (∀ (x8 : Int32) (x9 : Int32) (x10 : Int32) (x11 : Int32) (H : Heap) (locs : List Loc) (ls : Array Slot), HR w K g S H → va_S (FR w) s.heap H locs → lv_has ls 14 [(0, .ref p0), (1, .int p1), (2, .ref (w.2.2.2 + 0)), (3, .ref (w.2.2.2 + 1)), (4, .ref (w.2.2.2 + 2)), (5, .ref (w.2.2.2 + 3)), (6, .ref (w.2.2.2 + 4)), (7, .ref (w.2.2.2 + 7)), (8, .int x8), (9, .int x9), (10, .int x10), (11, .int x11)] → k12 x8 x9 x10 x11 = some out → W p l e ({ frames := 4, cells := 0, slots := 0, locals := 111 } : Room) s m args below meth c H locs 0 0 (MQ below (QI w K g S out) args s 0 0 (FR w)) (F0 m 12 ls [])) → ∀ (x9 : Int32) (x10 : Int32) (x11 : Int32) (s0 : Int32) (s1 : Int32) (H : Heap) (locs : List Loc) (ls : Array Slot), HR w K g S H → va_S (FR w) s.heap H locs → lv_has ls 14 [(0, .ref p0), (1, .int p1), (2, .ref (w.2.2.2 + 0)), (3, .ref (w.2.2.2 + 1)), (4, .ref (w.2.2.2 + 2)), (5, .ref (w.2.2.2 + 3)), (6, .ref (w.2.2.2 + 4)), (7, .ref (w.2.2.2 + 7)), (9, .int x9), (10, .int x10), (11, .int x11)] → f9_isSo_36 k12 K g S p0 p1 x9 x10 x11 s0 s1 = some out → W p l e ({ frames := 4, cells := 0, slots := 0, locals := 111 } : Room) s m args below meth c H locs 0 0 (MQ below (QI w K g S out) args s 0 0 (FR w)) (F0 m 36 ls [.int s1, .int s0]) := by
    intro k12 hk12 x9 x10 x11 s0 s1 H locs ls hH hS hl hf
    unfold f9_isSo_36 at hf
    refine lv_ior hx hb dL_isSo_36 ?_
    refine lv_topi (fun v132 ev132 => ?_)
    have hf := gl_at hf ev132
    refine lv_istore (lv' := [(8, .int v132), (0, .ref p0), (1, .int p1), (2, .ref (w.2.2.2 + 0)), (3, .ref (w.2.2.2 + 1)), (4, .ref (w.2.2.2 + 2)), (5, .ref (w.2.2.2 + 3)), (6, .ref (w.2.2.2 + 4)), (7, .ref (w.2.2.2 + 7)), (9, .int x9), (10, .int x10), (11, .int x11)]) hx hb dL_isSo_37 hl (by decide) rfl (fun ls hl => ?_)
    obtain ⟨v133, ev133⟩ : ∃ z : Int32, z = x11 + 1 := ⟨_, rfl⟩
    have hf := gl_at hf ev133
    refine lv_iinc (v := v133) (lv' := [(11, .int v133), (8, .int v132), (0, .ref p0), (1, .int p1), (2, .ref (w.2.2.2 + 0)), (3, .ref (w.2.2.2 + 1)), (4, .ref (w.2.2.2 + 2)), (5, .ref (w.2.2.2 + 3)), (6, .ref (w.2.2.2 + 4)), (7, .ref (w.2.2.2 + 7)), (9, .int x9), (10, .int x10)]) hx hb dL_isSo_39 hl (k := 11) rfl (by rw [ev133]; rfl) (by decide) rfl (fun ls hl => ?_)
    refine lv_goto (tgt := 12) hx hb dL_isSo_42 (by decide) ?_
    exact hk12 _ _ _ _ _ _ _ hH hS (lv_sub hl [2, 3, 4, 5, 6, 7, 8, 9, 1, 10, 11, 0] rfl) hf
  have B12 : ∀ n : Nat, ∀ (x8 : Int32) (x9 : Int32) (x10 : Int32) (x11 : Int32) (H : Heap) (locs : List Loc) (ls : Array Slot), HR w K g S H → va_S (FR w) s.heap H locs → lv_has ls 14 [(0, .ref p0), (1, .int p1), (2, .ref (w.2.2.2 + 0)), (3, .ref (w.2.2.2 + 1)), (4, .ref (w.2.2.2 + 2)), (5, .ref (w.2.2.2 + 3)), (6, .ref (w.2.2.2 + 4)), (7, .ref (w.2.2.2 + 7)), (8, .int x8), (9, .int x9), (10, .int x10), (11, .int x11)] → f9_isSo_12 K g S p0 p1 n x8 x9 x10 x11 = some out → W p l e ({ frames := 4, cells := 0, slots := 0, locals := 111 } : Room) s m args below meth c H locs 0 0 (MQ below (QI w K g S out) args s 0 0 (FR w)) (F0 m 12 ls []) := by
    intro n
    induction n with
    | zero =>
      intro x8 x9 x10 x11 H locs ls hH hS hl hf
      cases hf
    | succ n ih =>
      intro x8 x9 x10 x11 H locs ls hH hS hl hf
      rw [f9_isSo_12] at hf
      refine lv_iload hx hb dL_isSo_12 (lv_at hl 11 rfl) ?_
      refine lv_iconst (v := 5) hx hb dL_isSo_14 (by decide) ?_
      have hg := gif hf
      refine lv_icmp_ge (tgt := 45) hx hb dL_isSo_15 (by decide) (fun c134 => ?_) (fun c134 => ?_)
      · have hf := hg.1 c134
        refine lv_iconst (v := 0) hx hb dL_isSo_45 (by decide) ?_
        refine lv_istore (lv' := [(11, .int 0), (0, .ref p0), (1, .int p1), (2, .ref (w.2.2.2 + 0)), (3, .ref (w.2.2.2 + 1)), (4, .ref (w.2.2.2 + 2)), (5, .ref (w.2.2.2 + 3)), (6, .ref (w.2.2.2 + 4)), (7, .ref (w.2.2.2 + 7)), (8, .int x8), (9, .int x9), (10, .int x10)]) hx hb dL_isSo_46 hl (by decide) rfl (fun ls hl => ?_)
        exact B48 _ _ _ _ _ _ _ _ hH hS (lv_sub hl [1, 2, 3, 4, 5, 6, 7, 8, 9, 10, 11, 0] rfl) hf
      · have hf := hg.2 c134
        refine lv_iload hx hb dL_isSo_18 (lv_at hl 8 rfl) ?_
        refine lv_aload hx hb dL_isSo_20 (lv_at hl 5 rfl) ?_
        refine lv_iload hx hb dL_isSo_22 (lv_at hl 11 rfl) ?_
        obtain ⟨h136, hf⟩ := gd_some hf
        refine m_iald hx hb hK hH 3 (by decide) rfl h136 dL_isSo_24 ?_
        have hg := gif hf
        refine lv_if_le (tgt := 35) hx hb dL_isSo_25 (by decide) (fun c137 => ?_) (fun c137 => ?_)
        · have hf := hg.1 c137
          refine lv_iconst (v := 0) hx hb dL_isSo_35 (by decide) ?_
          exact B36 _ (ih) _ _ _ _ _ _ _ _ hH hS (lv_sub hl [0, 1, 2, 3, 4, 5, 6, 7, 9, 10, 11] rfl) hf
        · have hf := hg.2 c137
          refine lv_iconst (v := 1) hx hb dL_isSo_28 (by decide) ?_
          refine lv_iload hx hb dL_isSo_29 (lv_at hl 11 rfl) ?_
          refine lv_ishl hx hb dL_isSo_31 ?_
          refine lv_goto (tgt := 36) hx hb dL_isSo_32 (by decide) ?_
          exact B36 _ (ih) _ _ _ _ _ _ _ _ hH hS (lv_sub hl [0, 1, 2, 3, 4, 5, 6, 7, 9, 10, 11] rfl) hf
  have hl : lv_has ls 14 [(0, .ref p0), (1, .int p1), (2, .ref (w.2.2.2 + 0)), (3, .ref (w.2.2.2 + 1)), (4, .ref (w.2.2.2 + 2)), (5, .ref (w.2.2.2 + 3)), (6, .ref (w.2.2.2 + 4)), (7, .ref (w.2.2.2 + 7))] := hl
  refine lv_iconst (v := 0) hx hb dL_isSo_0 (by decide) ?_
  refine lv_istore (lv' := [(8, .int 0), (0, .ref p0), (1, .int p1), (2, .ref (w.2.2.2 + 0)), (3, .ref (w.2.2.2 + 1)), (4, .ref (w.2.2.2 + 2)), (5, .ref (w.2.2.2 + 3)), (6, .ref (w.2.2.2 + 4)), (7, .ref (w.2.2.2 + 7))]) hx hb dL_isSo_1 hl (by decide) rfl (fun ls hl => ?_)
  refine lv_iconst (v := 0) hx hb dL_isSo_3 (by decide) ?_
  refine lv_istore (lv' := [(9, .int 0), (8, .int 0), (0, .ref p0), (1, .int p1), (2, .ref (w.2.2.2 + 0)), (3, .ref (w.2.2.2 + 1)), (4, .ref (w.2.2.2 + 2)), (5, .ref (w.2.2.2 + 3)), (6, .ref (w.2.2.2 + 4)), (7, .ref (w.2.2.2 + 7))]) hx hb dL_isSo_4 hl (by decide) rfl (fun ls hl => ?_)
  refine lv_iconst (v := 0) hx hb dL_isSo_6 (by decide) ?_
  refine lv_istore (lv' := [(10, .int 0), (9, .int 0), (8, .int 0), (0, .ref p0), (1, .int p1), (2, .ref (w.2.2.2 + 0)), (3, .ref (w.2.2.2 + 1)), (4, .ref (w.2.2.2 + 2)), (5, .ref (w.2.2.2 + 3)), (6, .ref (w.2.2.2 + 4)), (7, .ref (w.2.2.2 + 7))]) hx hb dL_isSo_7 hl (by decide) rfl (fun ls hl => ?_)
  refine lv_iconst (v := 0) hx hb dL_isSo_9 (by decide) ?_
  refine lv_istore (lv' := [(11, .int 0), (10, .int 0), (9, .int 0), (8, .int 0), (0, .ref p0), (1, .int p1), (2, .ref (w.2.2.2 + 0)), (3, .ref (w.2.2.2 + 1)), (4, .ref (w.2.2.2 + 2)), (5, .ref (w.2.2.2 + 3)), (6, .ref (w.2.2.2 + 4)), (7, .ref (w.2.2.2 + 7))]) hx hb dL_isSo_10 hl (by decide) rfl (fun ls hl => ?_)
  exact B12 _ _ _ _ _ _ _ _ hH hS (lv_sub hl [4, 5, 6, 7, 8, 9, 10, 11, 3, 2, 1, 0] rfl) hf
set_option maxRecDepth 100000 in
set_option maxHeartbeats 8000000 in
theorem c9_told (l : Launch) (w : GW) (K : GK) (g : GM) (S : GS) (p0 : Nat) (out : Int64) (hf : f9_told K g p0 = some out) : Met l yL_told (wA yL_told cL_told 4 (some .long)) ({ frames := 3, cells := 0, slots := 0, locals := 76 } : Room) (PRE w K g S [.ref p0]) (QL w K g S out) 0 0 (FR w) := by
  unfold f9_told at hf
  refine Met.ofW (cc := cL_told) (maxL := 4) (ret := (some .long)) (by decide) rfl ?_
  intro p e s m args below meth c s₁ B hml hv
  obtain ⟨rfl, hH, hK⟩ := hv
  have hx := B.exec
  have hb := B.bytes
  have hr := B.returns
  have hts : ∀ q ∈ gALL, q.before _ s = true := fun q h => atoms_spec (ws := (wA yL_told cL_told 4 (some .long))) B.pre q (List.mem_cons_of_mem _ h)
  have hown : s.vm.findClass RL = some m.cls := findClass_of_methodNamed B.named
  have hlocks := B.notSynchronized
  have hS : va_S (FR w) s.heap s.heap [] := va_S.rf
  show W p l e ({ frames := 3, cells := 0, slots := 0, locals := 76 } : Room) s m _ below meth c s.heap [] 0 0 (MQ below (QL w K g S out) _ s 0 0 (FR w)) _
  have hl := lv_entry ([.ref p0]) (n := 4) (Nat.le_of_ble_eq_true rfl)
  rw [lg_entry_eq]
  generalize (lg_sl ([.ref p0]) ++ List.replicate (4 - (lg_sl ([.ref p0])).length) Slot.unset).toArray = ls at hl ⊢
  clear B
  generalize ([.ref p0] : List Value).toArray = args at hts ⊢
  have B83 : ∀ n : Nat, ∀ (x1 : Int64) (x3 : Int32) (H : Heap) (locs : List Loc) (ls : Array Slot), HR w K g S H → va_S (FR w) s.heap H locs → lv_has ls 4 [(0, .ref p0), (1, .long x1), (3, .int x3)] → f9_told_83 K g p0 n x1 x3 = some out → W p l e ({ frames := 3, cells := 0, slots := 0, locals := 76 } : Room) s m args below meth c H locs 0 0 (MQ below (QL w K g S out) args s 0 0 (FR w)) (F0 m 83 ls []) := by
    intro n
    induction n with
    | zero =>
      intro x1 x3 H locs ls hH hS hl hf
      cases hf
    | succ n ih =>
      intro x1 x3 H locs ls hH hS hl hf
      rw [f9_told_83] at hf
      refine lv_iload_n hx hb dL_told_83 rfl (lv_at hl 2 rfl) ?_
      refine lv_iconst (v := 5) hx hb dL_told_84 (by decide) ?_
      have hg := gif hf
      refine lv_icmp_ge (tgt := 132) hx hb dL_told_85 (by decide) (fun c1 => ?_) (fun c1 => ?_)
      · have hf := hg.1 c1
        refine lv_lload_n hx hb dL_told_132 rfl (lv_at hl 1 rfl) ?_
        have ho := Option.some.inj hf
        exact W.lret (v := x1) hx hb hr (fun t ht hW => ⟨⟨x1, (), rfl, congrArg (fun q => q) ho, (hrE ht hH)⟩, hS.F ht⟩) hS.2.2 dL_told_133
      · have hf := hg.2 c1
        refine lv_ldc2 (v := 31) hx hb hown (hts _ wd_107) dL_told_88 ?_
        refine lv_ldc2 (v := 31) hx hb hown (hts _ wd_107) dL_told_91 ?_
        refine lv_lload_n hx hb dL_told_94 rfl (lv_at hl 1 rfl) ?_
        refine lv_lmul hx hb dL_told_95 ?_
        refine lv_aload_n hx hb dL_told_96 rfl (lv_at hl 0 rfl) ?_
        refine lv_iload_n hx hb dL_told_97 rfl (lv_at hl 2 rfl) ?_
        refine lv_iconst (v := 0) hx hb dL_told_98 (by decide) ?_
        obtain ⟨k2, hf⟩ := gd_some hf
        have k2 := gk_obj k2
        obtain ⟨v3, h4, hf⟩ := gbind hf
        refine g_Vi (As := [.int x3, .int 0]) (rest := [.long (((31 : Int64)) * x1), .long ((31 : Int64))]) ⟨hx, hb, hml, hown, hts⟩ (c7_of l w K g S p0 x3 0 v3 h4 k2) (gcwV hts i7_of wd_167 rfl rfl ⟨Nat.le_of_ble_eq_true rfl, Nat.le_of_ble_eq_true rfl⟩) (gRecv.of hK rfl (hH.o8 k2)) hH hK hS hl.1 rfl rfl (Nat.le_of_ble_eq_true rfl) dL_told_99 ⟨Nat.le_refl _, Nat.le_refl _⟩ (fun H locs hH hS => ?_)
        refine lv_i2l hx hb dL_told_102 rfl ?_
        refine lv_ladd hx hb dL_told_103 ?_
        refine lv_lmul hx hb dL_told_104 ?_
        refine lv_ldc2 (v := 100) hx hb hown (hts _ wd_108) dL_told_105 ?_
        refine lv_aload_n hx hb dL_told_108 rfl (lv_at hl 0 rfl) ?_
        refine lv_iload_n hx hb dL_told_109 rfl (lv_at hl 2 rfl) ?_
        refine lv_iconst (v := 2) hx hb dL_told_110 (by decide) ?_
        obtain ⟨v5, h6, hf⟩ := gbind hf
        refine g_Vi (As := [.int x3, .int 2]) (rest := [.long ((100 : Int64)), .long (((31 : Int64)) * ((((31 : Int64)) * x1) + v3.toInt64))]) ⟨hx, hb, hml, hown, hts⟩ (c7_of l w K g S p0 x3 2 v5 h6 k2) (gcwV hts i7_of wd_167 rfl rfl ⟨Nat.le_of_ble_eq_true rfl, Nat.le_of_ble_eq_true rfl⟩) (gRecv.of hK rfl (hH.o8 k2)) hH hK hS hl.1 rfl rfl (Nat.le_of_ble_eq_true rfl) dL_told_111 ⟨Nat.le_refl _, Nat.le_refl _⟩ (fun H locs hH hS => ?_)
        refine lv_i2l hx hb dL_told_114 rfl ?_
        refine lv_lmul hx hb dL_told_115 ?_
        refine lv_ladd hx hb dL_told_116 ?_
        refine lv_aload_n hx hb dL_told_117 rfl (lv_at hl 0 rfl) ?_
        refine lv_iload_n hx hb dL_told_118 rfl (lv_at hl 2 rfl) ?_
        refine lv_iconst (v := 4) hx hb dL_told_119 (by decide) ?_
        obtain ⟨v7, h8, hf⟩ := gbind hf
        refine g_Vi (As := [.int x3, .int 4]) (rest := [.long ((((31 : Int64)) * ((((31 : Int64)) * x1) + v3.toInt64)) + (((100 : Int64)) * v5.toInt64))]) ⟨hx, hb, hml, hown, hts⟩ (c7_of l w K g S p0 x3 4 v7 h8 k2) (gcwV hts i7_of wd_167 rfl rfl ⟨Nat.le_of_ble_eq_true rfl, Nat.le_of_ble_eq_true rfl⟩) (gRecv.of hK rfl (hH.o8 k2)) hH hK hS hl.1 rfl rfl (Nat.le_of_ble_eq_true rfl) dL_told_120 ⟨Nat.le_refl _, Nat.le_refl _⟩ (fun H locs hH hS => ?_)
        refine lv_i2l hx hb dL_told_123 rfl ?_
        refine lv_ladd hx hb dL_told_124 ?_
        refine lv_topl (fun v9 ev9 => ?_)
        have hf := gl_at hf ev9
        refine lv_lstore_n (lv' := [(1, .long v9), (0, .ref p0), (3, .int x3)]) hx hb dL_told_125 rfl hl (by decide) rfl (fun ls hl => ?_)
        obtain ⟨v10, ev10⟩ : ∃ z : Int32, z = x3 + 1 := ⟨_, rfl⟩
        have hf := gl_at hf ev10
        refine lv_iinc (v := v10) (lv' := [(3, .int v10), (1, .long v9), (0, .ref p0)]) hx hb dL_told_126 hl (k := 2) rfl (by rw [ev10]; rfl) (by decide) rfl (fun ls hl => ?_)
        refine lv_goto (tgt := 83) hx hb dL_told_129 (by decide) ?_
        exact ih _ _ _ _ _ hH hS (lv_sub hl [2, 1, 0] rfl) hf
  have B33 : ∀ n : Nat, ∀ (x1 : Int64) (x3 : Int32) (H : Heap) (locs : List Loc) (ls : Array Slot), HR w K g S H → va_S (FR w) s.heap H locs → lv_has ls 4 [(0, .ref p0), (1, .long x1), (3, .int x3)] → f9_told_33 K g p0 n x1 x3 = some out → W p l e ({ frames := 3, cells := 0, slots := 0, locals := 76 } : Room) s m args below meth c H locs 0 0 (MQ below (QL w K g S out) args s 0 0 (FR w)) (F0 m 33 ls []) := by
    intro n
    induction n with
    | zero =>
      intro x1 x3 H locs ls hH hS hl hf
      cases hf
    | succ n ih =>
      intro x1 x3 H locs ls hH hS hl hf
      rw [f9_told_33] at hf
      refine lv_iload_n hx hb dL_told_33 rfl (lv_at hl 2 rfl) ?_
      refine lv_bipush (v := 36) hx hb dL_told_34 (by decide) ?_
      have hg := gif hf
      refine lv_icmp_ge (tgt := 81) hx hb dL_told_36 (by decide) (fun c11 => ?_) (fun c11 => ?_)
      · have hf := hg.1 c11
        refine lv_iconst (v := 0) hx hb dL_told_81 (by decide) ?_
        refine lv_istore_n (lv' := [(3, .int 0), (0, .ref p0), (1, .long x1)]) hx hb dL_told_82 rfl hl (by decide) rfl (fun ls hl => ?_)
        exact B83 _ _ _ _ _ _ hH hS (lv_sub hl [1, 2, 0] rfl) hf
      · have hf := hg.2 c11
        refine lv_ldc2 (v := 31) hx hb hown (hts _ wd_107) dL_told_39 ?_
        refine lv_ldc2 (v := 31) hx hb hown (hts _ wd_107) dL_told_42 ?_
        refine lv_lload_n hx hb dL_told_45 rfl (lv_at hl 1 rfl) ?_
        refine lv_lmul hx hb dL_told_46 ?_
        refine lv_aload_n hx hb dL_told_47 rfl (lv_at hl 0 rfl) ?_
        refine lv_iload_n hx hb dL_told_48 rfl (lv_at hl 2 rfl) ?_
        refine lv_bipush (v := 6) hx hb dL_told_49 (by decide) ?_
        refine lv_irem hx hb dL_told_51 (by decide) ?_
        refine lv_iload_n hx hb dL_told_52 rfl (lv_at hl 2 rfl) ?_
        refine lv_bipush (v := 6) hx hb dL_told_53 (by decide) ?_
        refine lv_idiv hx hb dL_told_55 (by decide) ?_
        obtain ⟨k14, hf⟩ := gd_some hf
        have k14 := gk_obj k14
        obtain ⟨v15, h16, hf⟩ := gbind hf
        refine g_Vi (As := [.int (x3 - x3 / (6 : Int32) * (6 : Int32)), .int (x3 / (6 : Int32))]) (rest := [.long (((31 : Int64)) * x1), .long ((31 : Int64))]) ⟨hx, hb, hml, hown, hts⟩ (c7_thread l w K g S p0 (x3 - x3 / (6 : Int32) * (6 : Int32)) (x3 / (6 : Int32)) v15 h16 k14) (gcwV hts i7_thread wd_132 rfl rfl ⟨Nat.le_of_ble_eq_true rfl, Nat.le_of_ble_eq_true rfl⟩) (gRecv.of hK rfl (hH.o8 k14)) hH hK hS hl.1 rfl rfl (Nat.le_of_ble_eq_true rfl) dL_told_56 ⟨Nat.le_refl _, Nat.le_refl _⟩ (fun H locs hH hS => ?_)
        refine lv_i2l hx hb dL_told_59 rfl ?_
        refine lv_ladd hx hb dL_told_60 ?_
        refine lv_lmul hx hb dL_told_61 ?_
        refine lv_aload_n hx hb dL_told_62 rfl (lv_at hl 0 rfl) ?_
        refine lv_iload_n hx hb dL_told_63 rfl (lv_at hl 2 rfl) ?_
        refine lv_iconst (v := 4) hx hb dL_told_64 (by decide) ?_
        refine lv_idiv hx hb dL_told_65 (by decide) ?_
        refine lv_iload_n hx hb dL_told_66 rfl (lv_at hl 2 rfl) ?_
        refine lv_iconst (v := 4) hx hb dL_told_67 (by decide) ?_
        refine lv_irem hx hb dL_told_68 (by decide) ?_
        obtain ⟨v19, h20, hf⟩ := gbind hf
        refine g_Vi (As := [.int (x3 / (4 : Int32)), .int (x3 - x3 / (4 : Int32) * (4 : Int32))]) (rest := [.long (((31 : Int64)) * ((((31 : Int64)) * x1) + v15.toInt64))]) ⟨hx, hb, hml, hown, hts⟩ (c7_stack l w K g S p0 (x3 / (4 : Int32)) (x3 - x3 / (4 : Int32) * (4 : Int32)) v19 h20 k14) (gcwV hts i7_stack wd_152 rfl rfl ⟨Nat.le_of_ble_eq_true rfl, Nat.le_of_ble_eq_true rfl⟩) (gRecv.of hK rfl (hH.o8 k14)) hH hK hS hl.1 rfl rfl (Nat.le_of_ble_eq_true rfl) dL_told_69 ⟨Nat.le_refl _, Nat.le_refl _⟩ (fun H locs hH hS => ?_)
        refine lv_i2l hx hb dL_told_72 rfl ?_
        refine lv_ladd hx hb dL_told_73 ?_
        refine lv_topl (fun v21 ev21 => ?_)
        have hf := gl_at hf ev21
        refine lv_lstore_n (lv' := [(1, .long v21), (0, .ref p0), (3, .int x3)]) hx hb dL_told_74 rfl hl (by decide) rfl (fun ls hl => ?_)
        obtain ⟨v22, ev22⟩ : ∃ z : Int32, z = x3 + 1 := ⟨_, rfl⟩
        have hf := gl_at hf ev22
        refine lv_iinc (v := v22) (lv' := [(3, .int v22), (1, .long v21), (0, .ref p0)]) hx hb dL_told_75 hl (k := 2) rfl (by rw [ev22]; rfl) (by decide) rfl (fun ls hl => ?_)
        refine lv_goto (tgt := 33) hx hb dL_told_78 (by decide) ?_
        exact ih _ _ _ _ _ hH hS (lv_sub hl [2, 1, 0] rfl) hf
  have B6 : ∀ n : Nat, ∀ (x1 : Int64) (x3 : Int32) (H : Heap) (locs : List Loc) (ls : Array Slot), HR w K g S H → va_S (FR w) s.heap H locs → lv_has ls 4 [(0, .ref p0), (1, .long x1), (3, .int x3)] → f9_told_6 K g p0 n x1 x3 = some out → W p l e ({ frames := 3, cells := 0, slots := 0, locals := 76 } : Room) s m args below meth c H locs 0 0 (MQ below (QL w K g S out) args s 0 0 (FR w)) (F0 m 6 ls []) := by
    intro n
    induction n with
    | zero =>
      intro x1 x3 H locs ls hH hS hl hf
      cases hf
    | succ n ih =>
      intro x1 x3 H locs ls hH hS hl hf
      rw [f9_told_6] at hf
      refine lv_iload_n hx hb dL_told_6 rfl (lv_at hl 2 rfl) ?_
      refine lv_bipush (v := 12) hx hb dL_told_7 (by decide) ?_
      have hg := gif hf
      refine lv_icmp_ge (tgt := 31) hx hb dL_told_9 (by decide) (fun c23 => ?_) (fun c23 => ?_)
      · have hf := hg.1 c23
        refine lv_iconst (v := 0) hx hb dL_told_31 (by decide) ?_
        refine lv_istore_n (lv' := [(3, .int 0), (0, .ref p0), (1, .long x1)]) hx hb dL_told_32 rfl hl (by decide) rfl (fun ls hl => ?_)
        exact B33 _ _ _ _ _ _ hH hS (lv_sub hl [1, 2, 0] rfl) hf
      · have hf := hg.2 c23
        refine lv_ldc2 (v := 31) hx hb hown (hts _ wd_107) dL_told_12 ?_
        refine lv_lload_n hx hb dL_told_15 rfl (lv_at hl 1 rfl) ?_
        refine lv_lmul hx hb dL_told_16 ?_
        refine lv_aload_n hx hb dL_told_17 rfl (lv_at hl 0 rfl) ?_
        refine lv_iload_n hx hb dL_told_18 rfl (lv_at hl 2 rfl) ?_
        obtain ⟨k24, hf⟩ := gd_some hf
        have k24 := gk_obj k24
        obtain ⟨v25, h26, hf⟩ := gbind hf
        refine g_Vi (As := [.int x3]) (rest := [.long (((31 : Int64)) * x1)]) ⟨hx, hb, hml, hown, hts⟩ (c7_count l w K g S p0 x3 v25 h26 k24) (gcwV hts i7_count wd_109 rfl rfl ⟨Nat.le_of_ble_eq_true rfl, Nat.le_of_ble_eq_true rfl⟩) (gRecv.of hK rfl (hH.o8 k24)) hH hK hS hl.1 rfl rfl (Nat.le_of_ble_eq_true rfl) dL_told_19 ⟨Nat.le_refl _, Nat.le_refl _⟩ (fun H locs hH hS => ?_)
        refine lv_i2l hx hb dL_told_22 rfl ?_
        refine lv_ladd hx hb dL_told_23 ?_
        refine lv_topl (fun v27 ev27 => ?_)
        have hf := gl_at hf ev27
        refine lv_lstore_n (lv' := [(1, .long v27), (0, .ref p0), (3, .int x3)]) hx hb dL_told_24 rfl hl (by decide) rfl (fun ls hl => ?_)
        obtain ⟨v28, ev28⟩ : ∃ z : Int32, z = x3 + 1 := ⟨_, rfl⟩
        have hf := gl_at hf ev28
        refine lv_iinc (v := v28) (lv' := [(3, .int v28), (1, .long v27), (0, .ref p0)]) hx hb dL_told_25 hl (k := 2) rfl (by rw [ev28]; rfl) (by decide) rfl (fun ls hl => ?_)
        refine lv_goto (tgt := 6) hx hb dL_told_28 (by decide) ?_
        exact ih _ _ _ _ _ hH hS (lv_sub hl [2, 1, 0] rfl) hf
  have hl : lv_has ls 4 [(0, .ref p0)] := hl
  refine lv_ldc2 (v := 193) hx hb hown (hts _ wd_106) dL_told_0 ?_
  refine lv_topl (fun v29 ev29 => ?_)
  have hf := gl_at hf ev29
  refine lv_lstore_n (lv' := [(1, .long v29), (0, .ref p0)]) hx hb dL_told_3 rfl hl (by decide) rfl (fun ls hl => ?_)
  refine lv_iconst (v := 0) hx hb dL_told_4 (by decide) ?_
  refine lv_istore_n (lv' := [(3, .int 0), (1, .long v29), (0, .ref p0)]) hx hb dL_told_5 rfl hl (by decide) rfl (fun ls hl => ?_)
  exact B6 _ _ _ _ _ _ hH hS (lv_sub hl [2, 1, 0] rfl) hf
set_option maxRecDepth 100000 in
set_option maxHeartbeats 8000000 in
theorem c9_puts (l : Launch) (w : GW) (K : GK) (g : GM) (S : GS) (p0 : Int32) (p1 : Nat) (p4 : Int32) (out : GM × GS) (hf : f9_puts K g S p0 p1 p4 = some out) : Met l yL_puts (wA yL_puts cL_puts 5 none) ({ frames := 2, cells := 0, slots := 0, locals := 49 } : Room) (PRE w K g S [.int p0, .ref p1, .ref (w.2.2.2 + 0), .ref (w.2.2.2 + 2), .int p4]) (QV w K out.1 out.2) 0 0 (FR w) := by
  unfold f9_puts at hf
  refine Met.ofW (cc := cL_puts) (maxL := 5) (ret := none) (by decide) rfl ?_
  intro p e s m args below meth c s₁ B hml hv
  obtain ⟨rfl, hH, hK⟩ := hv
  have hx := B.exec
  have hb := B.bytes
  have hr := B.returns
  have hts : ∀ q ∈ gALL, q.before _ s = true := fun q h => atoms_spec (ws := (wA yL_puts cL_puts 5 none)) B.pre q (List.mem_cons_of_mem _ h)
  have hown : s.vm.findClass RL = some m.cls := findClass_of_methodNamed B.named
  have hlocks := B.notSynchronized
  have hS : va_S (FR w) s.heap s.heap [] := va_S.rf
  show W p l e ({ frames := 2, cells := 0, slots := 0, locals := 49 } : Room) s m _ below meth c s.heap [] 0 0 (MQ below (QV w K out.1 out.2) _ s 0 0 (FR w)) _
  have hl := lv_entry ([.int p0, .ref p1, .ref (w.2.2.2 + 0), .ref (w.2.2.2 + 2), .int p4]) (n := 5) (Nat.le_of_ble_eq_true rfl)
  rw [lg_entry_eq]
  generalize (lg_sl ([.int p0, .ref p1, .ref (w.2.2.2 + 0), .ref (w.2.2.2 + 2), .int p4]) ++ List.replicate (5 - (lg_sl ([.int p0, .ref p1, .ref (w.2.2.2 + 0), .ref (w.2.2.2 + 2), .int p4])).length) Slot.unset).toArray = ls at hl ⊢
  clear B
  generalize ([.int p0, .ref p1, .ref (w.2.2.2 + 0), .ref (w.2.2.2 + 2), .int p4] : List Value).toArray = args at hts ⊢
  have hl : lv_has ls 5 [(0, .int p0), (1, .ref p1), (2, .ref (w.2.2.2 + 0)), (3, .ref (w.2.2.2 + 2)), (4, .int p4)] := hl
  refine lv_aload_n hx hb dL_puts_0 rfl (lv_at hl 3 rfl) ?_
  refine lv_bipush (v := 6) hx hb dL_puts_1 (by decide) ?_
  refine lv_iload hx hb dL_puts_3 (lv_at hl 4 rfl) ?_
  refine lv_imul hx hb dL_puts_5 ?_
  refine lv_aload_n hx hb dL_puts_6 rfl (lv_at hl 2 rfl) ?_
  refine lv_bipush (v := 9) hx hb dL_puts_7 (by decide) ?_
  obtain ⟨h2, hf⟩ := gd_some hf
  refine m_iald hx hb hK hH 0 (by decide) rfl h2 dL_puts_9 ?_
  refine lv_iconst (v := 4) hx hb dL_puts_10 (by decide) ?_
  refine lv_idiv hx hb dL_puts_11 (by decide) ?_
  refine lv_iadd hx hb dL_puts_12 ?_
  refine lv_dup2_11 hx hb dL_puts_13 rfl rfl ?_
  obtain ⟨h5, hf⟩ := gd_some hf
  refine m_iald hx hb hK hH 2 (by decide) rfl h5 dL_puts_14 ?_
  refine lv_iload_n hx hb dL_puts_15 rfl (lv_at hl 0 rfl) ?_
  refine lv_bipush (v := 8) hx hb dL_puts_16 (by decide) ?_
  refine lv_aload_n hx hb dL_puts_18 rfl (lv_at hl 2 rfl) ?_
  refine lv_bipush (v := 9) hx hb dL_puts_19 (by decide) ?_
  refine m_iald hx hb hK hH 0 (by decide) rfl h2 dL_puts_21 ?_
  refine lv_iconst (v := 4) hx hb dL_puts_22 (by decide) ?_
  refine lv_irem hx hb dL_puts_23 (by decide) ?_
  refine lv_imul hx hb dL_puts_24 ?_
  refine lv_ishl hx hb dL_puts_25 ?_
  refine lv_ior hx hb dL_puts_26 ?_
  refine m_iast hx hb hK hH hS 2 (by decide) rfl h5 dL_puts_27 (fun H locs hH hS => ?_)
  obtain ⟨S9, eS9⟩ : ∃ z : GS, z = ssI S 2 ((6 * p4) + ((S 0 (9 : Int32).toNatClampNeg) / (4 : Int32))).toNatClampNeg ((S 2 ((6 * p4) + ((S 0 (9 : Int32).toNatClampNeg) / (4 : Int32))).toNatClampNeg) ||| (p0 <<< ((8 * ((S 0 (9 : Int32).toNatClampNeg) - (S 0 (9 : Int32).toNatClampNeg) / (4 : Int32) * (4 : Int32))) &&& 31))) := ⟨_, rfl⟩
  have hf := gl_at hf eS9
  replace hH : HR w K g S9 H := by rw [eS9]; exact hH
  refine lv_aload_n hx hb dL_puts_28 rfl (lv_at hl 2 rfl) ?_
  refine lv_bipush (v := 9) hx hb dL_puts_29 (by decide) ?_
  refine lv_dup2_11 hx hb dL_puts_31 rfl rfl ?_
  refine m_iald hx hb hK hH 0 (by decide) rfl h2 dL_puts_32 ?_
  refine lv_iconst (v := 1) hx hb dL_puts_33 (by decide) ?_
  refine lv_iadd hx hb dL_puts_34 ?_
  refine m_iast hx hb hK hH hS 0 (by decide) rfl h2 dL_puts_35 (fun H locs hH hS => ?_)
  obtain ⟨S12, eS12⟩ : ∃ z : GS, z = ssI S9 0 (9 : Int32).toNatClampNeg ((S9 0 (9 : Int32).toNatClampNeg) + 1) := ⟨_, rfl⟩
  have hf := gl_at hf eS12
  replace hH : HR w K g S12 H := by rw [eS12]; exact hH
  refine lv_aload_n hx hb dL_puts_36 rfl (lv_at hl 1 rfl) ?_
  refine lv_iload_n hx hb dL_puts_37 rfl (lv_at hl 0 rfl) ?_
  refine lv_i2l hx hb dL_puts_38 rfl ?_
  obtain ⟨k13, hf⟩ := gd_some hf
  have k13 := gk_obj k13
  obtain ⟨r14, h15, hf⟩ := gbind hf
  refine g_Vi (As := [.long p0.toInt64]) (rest := []) ⟨hx, hb, hml, hown, hts⟩ (c7_put l w K g S12 p1 p0.toInt64 r14 h15 k13) (gcwV hts i7_put wd_200 rfl rfl ⟨Nat.le_of_ble_eq_true rfl, Nat.le_of_ble_eq_true rfl⟩) (gRecv.of hK rfl (hH.o8 k13)) hH hK hS hl.1 rfl rfl (Nat.le_of_ble_eq_true rfl) dL_puts_39 ⟨Nat.le_refl _, Nat.le_refl _⟩ (fun H locs hH hS => ?_)
  refine lv_pop hx hb dL_puts_42 rfl ?_
  have ho := Option.some.inj hf
  exact W.vret hx hb hr (fun t ht hW => ⟨⟨(), rfl, trivial, (by subst ho; exact hrE ht hH)⟩, hS.F ht⟩) hS.2.2 dL_puts_43
set_option maxRecDepth 100000 in
set_option maxHeartbeats 8000000 in
theorem c9_makes (l : Launch) (w : GW) (K : GK) (g : GM) (S : GS) (p0 : Int32) (p1 : Int32) (p2 : Nat) (out : GM × GS × Int32) (hf : f9_makes K g S p0 p1 p2 = some out) : Met l yL_makes (wA yL_makes cL_makes 10 (some .int)) ({ frames := 3, cells := 0, slots := 0, locals := 73 } : Room) (PRE w K g S [.int p0, .int p1, .ref p2, .ref (w.2.2.2 + 0), .ref (w.2.2.2 + 2)]) (QI w K out.1 out.2.1 out.2.2) 0 0 (FR w) := by
  unfold f9_makes at hf
  refine Met.ofW (cc := cL_makes) (maxL := 10) (ret := (some .int)) (by decide) rfl ?_
  intro p e s m args below meth c s₁ B hml hv
  obtain ⟨rfl, hH, hK⟩ := hv
  have hx := B.exec
  have hb := B.bytes
  have hr := B.returns
  have hts : ∀ q ∈ gALL, q.before _ s = true := fun q h => atoms_spec (ws := (wA yL_makes cL_makes 10 (some .int))) B.pre q (List.mem_cons_of_mem _ h)
  have hown : s.vm.findClass RL = some m.cls := findClass_of_methodNamed B.named
  have hlocks := B.notSynchronized
  have hS : va_S (FR w) s.heap s.heap [] := va_S.rf
  show W p l e ({ frames := 3, cells := 0, slots := 0, locals := 73 } : Room) s m _ below meth c s.heap [] 0 0 (MQ below (QI w K out.1 out.2.1 out.2.2) _ s 0 0 (FR w)) _
  have hl := lv_entry ([.int p0, .int p1, .ref p2, .ref (w.2.2.2 + 0), .ref (w.2.2.2 + 2)]) (n := 10) (Nat.le_of_ble_eq_true rfl)
  rw [lg_entry_eq]
  generalize (lg_sl ([.int p0, .int p1, .ref p2, .ref (w.2.2.2 + 0), .ref (w.2.2.2 + 2)]) ++ List.replicate (10 - (lg_sl ([.int p0, .int p1, .ref p2, .ref (w.2.2.2 + 0), .ref (w.2.2.2 + 2)])).length) Slot.unset).toArray = ls at hl ⊢
  clear B
  generalize ([.int p0, .int p1, .ref p2, .ref (w.2.2.2 + 0), .ref (w.2.2.2 + 2)] : List Value).toArray = args at hts ⊢
  have B335 : ∀ n : Nat, ∀ (g : GM) (S : GS) (x5 : Int32) (H : Heap) (locs : List Loc) (ls : Array Slot), HR w K g S H → va_S (FR w) s.heap H locs → lv_has ls 10 [(0, .int p0), (2, .ref p2), (3, .ref (w.2.2.2 + 0)), (4, .ref (w.2.2.2 + 2)), (5, .int x5)] → f9_makes_335 K p0 p1 p2 n g S x5 = some out → W p l e ({ frames := 3, cells := 0, slots := 0, locals := 73 } : Room) s m args below meth c H locs 0 0 (MQ below (QI w K out.1 out.2.1 out.2.2) args s 0 0 (FR w)) (F0 m 335 ls []) := by
    intro n
    induction n with
    | zero =>
      intro g S x5 H locs ls hH hS hl hf
      cases hf
    | succ n ih =>
      intro g S x5 H locs ls hH hS hl hf
      rw [f9_makes_335] at hf
      refine lv_iload hx hb dL_makes_335 (lv_at hl 4 rfl) ?_
      have hg := gif hf
      refine lv_if_le (tgt := 356) hx hb dL_makes_337 (by decide) (fun c1 => ?_) (fun c1 => ?_)
      · have hf := hg.1 c1
        refine lv_aload_n hx hb dL_makes_356 rfl (lv_at hl 2 rfl) ?_
        refine lv_bipush (v := 9) hx hb dL_makes_357 (by decide) ?_
        obtain ⟨h3, hf⟩ := gd_some hf
        refine m_iald hx hb hK hH 0 (by decide) rfl h3 dL_makes_359 ?_
        have ho := Option.some.inj hf
        exact W.iret (v := (S 0 (9 : Int32).toNatClampNeg)) hx hb hr (fun t ht hW => ⟨⟨(S 0 (9 : Int32).toNatClampNeg), (), rfl, congrArg (fun q => q.2.2) ho, (by subst ho; exact hrE ht hH)⟩, hS.F ht⟩) hS.2.2 dL_makes_360
      · have hf := hg.2 c1
        refine lv_bipush (v := 41) hx hb dL_makes_340 (by decide) ?_
        refine lv_aload_n hx hb dL_makes_342 rfl (lv_at hl 1 rfl) ?_
        refine lv_aload_n hx hb dL_makes_343 rfl (lv_at hl 2 rfl) ?_
        refine lv_aload hx hb dL_makes_344 (lv_at hl 3 rfl) ?_
        refine lv_iload_n hx hb dL_makes_346 rfl (lv_at hl 0 rfl) ?_
        obtain ⟨r4, h5, hf⟩ := gbind hf
        refine g_Sv (As := [.int 41, .ref p2, .ref (w.2.2.2 + 0), .ref (w.2.2.2 + 2), .int p0]) (rest := []) ⟨hx, hb, hml, hown, hts⟩ (c9_puts l w K g S 41 p2 p0 r4 h5) (gcwS hts i9_puts wd_197 rfl rfl ⟨Nat.le_of_ble_eq_true rfl, Nat.le_of_ble_eq_true rfl⟩) hH hK hS hl.1 rfl rfl (Nat.le_of_ble_eq_true rfl) dL_makes_347 ⟨Nat.le_refl _, Nat.le_refl _⟩ (fun H locs hH hS => ?_)
        obtain ⟨v6, ev6⟩ : ∃ z : Int32, z = x5 + (-1) := ⟨_, rfl⟩
        have hf := gl_at hf ev6
        refine lv_iinc (v := v6) (lv' := [(5, .int v6), (0, .int p0), (2, .ref p2), (3, .ref (w.2.2.2 + 0)), (4, .ref (w.2.2.2 + 2))]) hx hb dL_makes_350 hl (k := 4) rfl (by rw [ev6]; rfl) (by decide) rfl (fun ls hl => ?_)
        refine lv_goto (tgt := 335) hx hb dL_makes_353 (by decide) ?_
        exact ih _ _ _ _ _ _ hH hS (lv_sub hl [1, 2, 3, 4, 0] rfl) hf
  have B320 : ∀ (g : GM) (S : GS) (x5 : Int32) (x6 : Int32) (H : Heap) (locs : List Loc) (ls : Array Slot), HR w K g S H → va_S (FR w) s.heap H locs → lv_has ls 10 [(0, .int p0), (2, .ref p2), (3, .ref (w.2.2.2 + 0)), (4, .ref (w.2.2.2 + 2)), (5, .int x5), (6, .int x6)] → f9_makes_320 K p0 p1 p2 g S x5 x6 = some out → W p l e ({ frames := 3, cells := 0, slots := 0, locals := 73 } : Room) s m args below meth c H locs 0 0 (MQ below (QI w K out.1 out.2.1 out.2.2) args s 0 0 (FR w)) (F0 m 320 ls []) := by
    intro  g S x5 x6 H locs ls hH hS hl hf
    unfold f9_makes_320 at hf
    refine lv_iload hx hb dL_makes_320 (lv_at hl 5 rfl) ?_
    have hg := gif hf
    refine lv_if_eq (tgt := 335) hx hb dL_makes_322 (by decide) (fun c7 => ?_) (fun c7 => ?_)
    · have hf := hg.1 c7
      exact B335 _ _ _ _ _ _ _ hH hS (lv_sub hl [0, 1, 2, 3, 4] rfl) hf
    · have hf := hg.2 c7
      refine lv_bipush (v := 119) hx hb dL_makes_325 (by decide) ?_
      refine lv_aload_n hx hb dL_makes_327 rfl (lv_at hl 1 rfl) ?_
      refine lv_aload_n hx hb dL_makes_328 rfl (lv_at hl 2 rfl) ?_
      refine lv_aload hx hb dL_makes_329 (lv_at hl 3 rfl) ?_
      refine lv_iload_n hx hb dL_makes_331 rfl (lv_at hl 0 rfl) ?_
      obtain ⟨r8, h9, hf⟩ := gbind hf
      refine g_Sv (As := [.int 119, .ref p2, .ref (w.2.2.2 + 0), .ref (w.2.2.2 + 2), .int p0]) (rest := []) ⟨hx, hb, hml, hown, hts⟩ (c9_puts l w K g S 119 p2 p0 r8 h9) (gcwS hts i9_puts wd_197 rfl rfl ⟨Nat.le_of_ble_eq_true rfl, Nat.le_of_ble_eq_true rfl⟩) hH hK hS hl.1 rfl rfl (Nat.le_of_ble_eq_true rfl) dL_makes_332 ⟨Nat.le_refl _, Nat.le_refl _⟩ (fun H locs hH hS => ?_)
      exact B335 _ _ _ _ _ _ _ hH hS (lv_sub hl [0, 1, 2, 3, 4] rfl) hf
  have B314 : ∀ (k46 : GM → GS → Int32 → Int32 → Int32 → Option (GM × GS × Int32)), (∀ (g : GM) (S : GS) (x5 : Int32) (x6 : Int32) (x7 : Int32) (H : Heap) (locs : List Loc) (ls : Array Slot), HR w K g S H → va_S (FR w) s.heap H locs → lv_has ls 10 [(0, .int p0), (1, .int p1), (2, .ref p2), (3, .ref (w.2.2.2 + 0)), (4, .ref (w.2.2.2 + 2)), (5, .int x5), (6, .int x6), (7, .int x7)] → k46 g S x5 x6 x7 = some out → W p l e ({ frames := 3, cells := 0, slots := 0, locals := 73 } : Room) s m args below meth c H locs 0 0 (MQ below (QI w K out.1 out.2.1 out.2.2) args s 0 0 (FR w)) (F0 m 46 ls [])) → ∀ (g : GM) (S : GS) (x5 : Int32) (x6 : Int32) (x7 : Int32) (H : Heap) (locs : List Loc) (ls : Array Slot), HR w K g S H → va_S (FR w) s.heap H locs → lv_has ls 10 [(0, .int p0), (1, .int p1), (2, .ref p2), (3, .ref (w.2.2.2 + 0)), (4, .ref (w.2.2.2 + 2)), (5, .int x5), (6, .int x6), (7, .int x7)] → f9_makes_314 k46 K p0 p1 p2 g S x5 x6 x7 = some out → W p l e ({ frames := 3, cells := 0, slots := 0, locals := 73 } : Room) s m args below meth c H locs 0 0 (MQ below (QI w K out.1 out.2.1 out.2.2) args s 0 0 (FR w)) (F0 m 314 ls []) := by
    intro k46 hk46 g S x5 x6 x7 H locs ls hH hS hl hf
    unfold f9_makes_314 at hf
    obtain ⟨v10, ev10⟩ : ∃ z : Int32, z = x7 + 1 := ⟨_, rfl⟩
    have hf := gl_at hf ev10
    refine lv_iinc (v := v10) (lv' := [(7, .int v10), (0, .int p0), (1, .int p1), (2, .ref p2), (3, .ref (w.2.2.2 + 0)), (4, .ref (w.2.2.2 + 2)), (5, .int x5), (6, .int x6)]) hx hb dL_makes_314 hl (k := 7) rfl (by rw [ev10]; rfl) (by decide) rfl (fun ls hl => ?_)
    refine lv_goto (tgt := 46) hx hb dL_makes_317 (by decide) ?_
    exact hk46 _ _ _ _ _ _ _ _ hH hS (lv_sub hl [1, 2, 3, 4, 5, 6, 7, 0] rfl) hf
  have B311 : ∀ (k46 : GM → GS → Int32 → Int32 → Int32 → Option (GM × GS × Int32)), (∀ (g : GM) (S : GS) (x5 : Int32) (x6 : Int32) (x7 : Int32) (H : Heap) (locs : List Loc) (ls : Array Slot), HR w K g S H → va_S (FR w) s.heap H locs → lv_has ls 10 [(0, .int p0), (1, .int p1), (2, .ref p2), (3, .ref (w.2.2.2 + 0)), (4, .ref (w.2.2.2 + 2)), (5, .int x5), (6, .int x6), (7, .int x7)] → k46 g S x5 x6 x7 = some out → W p l e ({ frames := 3, cells := 0, slots := 0, locals := 73 } : Room) s m args below meth c H locs 0 0 (MQ below (QI w K out.1 out.2.1 out.2.2) args s 0 0 (FR w)) (F0 m 46 ls [])) → ∀ (g : GM) (S : GS) (x5 : Int32) (x7 : Int32) (H : Heap) (locs : List Loc) (ls : Array Slot), HR w K g S H → va_S (FR w) s.heap H locs → lv_has ls 10 [(0, .int p0), (1, .int p1), (2, .ref p2), (3, .ref (w.2.2.2 + 0)), (4, .ref (w.2.2.2 + 2)), (5, .int x5), (7, .int x7)] → f9_makes_311 k46 K p0 p1 p2 g S x5 x7 = some out → W p l e ({ frames := 3, cells := 0, slots := 0, locals := 73 } : Room) s m args below meth c H locs 0 0 (MQ below (QI w K out.1 out.2.1 out.2.2) args s 0 0 (FR w)) (F0 m 311 ls []) := by
    intro k46 hk46 g S x5 x7 H locs ls hH hS hl hf
    unfold f9_makes_311 at hf
    refine lv_iconst (v := 0) hx hb dL_makes_311 (by decide) ?_
    refine lv_istore (lv' := [(6, .int 0), (0, .int p0), (1, .int p1), (2, .ref p2), (3, .ref (w.2.2.2 + 0)), (4, .ref (w.2.2.2 + 2)), (5, .int x5), (7, .int x7)]) hx hb dL_makes_312 hl (by decide) rfl (fun ls hl => ?_)
    exact B314 _ (hk46) _ _ _ _ _ _ _ _ hH hS (lv_sub hl [1, 2, 3, 4, 5, 6, 0, 7] rfl) hf
  have B303 : ∀ (k46 : GM → GS → Int32 → Int32 → Int32 → Option (GM × GS × Int32)), (∀ (g : GM) (S : GS) (x5 : Int32) (x6 : Int32) (x7 : Int32) (H : Heap) (locs : List Loc) (ls : Array Slot), HR w K g S H → va_S (FR w) s.heap H locs → lv_has ls 10 [(0, .int p0), (1, .int p1), (2, .ref p2), (3, .ref (w.2.2.2 + 0)), (4, .ref (w.2.2.2 + 2)), (5, .int x5), (6, .int x6), (7, .int x7)] → k46 g S x5 x6 x7 = some out → W p l e ({ frames := 3, cells := 0, slots := 0, locals := 73 } : Room) s m args below meth c H locs 0 0 (MQ below (QI w K out.1 out.2.1 out.2.2) args s 0 0 (FR w)) (F0 m 46 ls [])) → ∀ (g : GM) (S : GS) (x5 : Int32) (x7 : Int32) (s0 : Int32) (H : Heap) (locs : List Loc) (ls : Array Slot), HR w K g S H → va_S (FR w) s.heap H locs → lv_has ls 10 [(0, .int p0), (1, .int p1), (2, .ref p2), (3, .ref (w.2.2.2 + 0)), (4, .ref (w.2.2.2 + 2)), (5, .int x5), (7, .int x7)] → f9_makes_303 k46 K p0 p1 p2 g S x5 x7 s0 = some out → W p l e ({ frames := 3, cells := 0, slots := 0, locals := 73 } : Room) s m args below meth c H locs 0 0 (MQ below (QI w K out.1 out.2.1 out.2.2) args s 0 0 (FR w)) (F0 m 303 ls [.int s0]) := by
    intro k46 hk46 g S x5 x7 s0 H locs ls hH hS hl hf
    unfold f9_makes_303 at hf
    refine lv_aload_n hx hb dL_makes_303 rfl (lv_at hl 2 rfl) ?_
    refine lv_aload_n hx hb dL_makes_304 rfl (lv_at hl 3 rfl) ?_
    refine lv_aload hx hb dL_makes_305 (lv_at hl 4 rfl) ?_
    refine lv_iload_n hx hb dL_makes_307 rfl (lv_at hl 0 rfl) ?_
    obtain ⟨r11, h12, hf⟩ := gbind hf
    refine g_Sv (As := [.int s0, .ref p2, .ref (w.2.2.2 + 0), .ref (w.2.2.2 + 2), .int p0]) (rest := []) ⟨hx, hb, hml, hown, hts⟩ (c9_puts l w K g S s0 p2 p0 r11 h12) (gcwS hts i9_puts wd_197 rfl rfl ⟨Nat.le_of_ble_eq_true rfl, Nat.le_of_ble_eq_true rfl⟩) hH hK hS hl.1 rfl rfl (Nat.le_of_ble_eq_true rfl) dL_makes_308 ⟨Nat.le_refl _, Nat.le_refl _⟩ (fun H locs hH hS => ?_)
    exact B311 _ (hk46) _ _ _ _ _ _ _ hH hS (lv_sub hl [0, 1, 2, 3, 4, 5, 6] rfl) hf
  have B271 : ∀ (k46 : GM → GS → Int32 → Int32 → Int32 → Option (GM × GS × Int32)), (∀ (g : GM) (S : GS) (x5 : Int32) (x6 : Int32) (x7 : Int32) (H : Heap) (locs : List Loc) (ls : Array Slot), HR w K g S H → va_S (FR w) s.heap H locs → lv_has ls 10 [(0, .int p0), (1, .int p1), (2, .ref p2), (3, .ref (w.2.2.2 + 0)), (4, .ref (w.2.2.2 + 2)), (5, .int x5), (6, .int x6), (7, .int x7)] → k46 g S x5 x6 x7 = some out → W p l e ({ frames := 3, cells := 0, slots := 0, locals := 73 } : Room) s m args below meth c H locs 0 0 (MQ below (QI w K out.1 out.2.1 out.2.2) args s 0 0 (FR w)) (F0 m 46 ls [])) → ∀ (g : GM) (S : GS) (x5 : Int32) (x7 : Int32) (x8 : Int32) (x9 : Int32) (H : Heap) (locs : List Loc) (ls : Array Slot), HR w K g S H → va_S (FR w) s.heap H locs → lv_has ls 10 [(0, .int p0), (1, .int p1), (2, .ref p2), (3, .ref (w.2.2.2 + 0)), (4, .ref (w.2.2.2 + 2)), (5, .int x5), (7, .int x7), (8, .int x8), (9, .int x9)] → f9_makes_271 k46 K p0 p1 p2 g S x5 x7 x8 x9 = some out → W p l e ({ frames := 3, cells := 0, slots := 0, locals := 73 } : Room) s m args below meth c H locs 0 0 (MQ below (QI w K out.1 out.2.1 out.2.2) args s 0 0 (FR w)) (F0 m 271 ls []) := by
    intro k46 hk46 g S x5 x7 x8 x9 H locs ls hH hS hl hf
    unfold f9_makes_271 at hf
    refine lv_iload hx hb dL_makes_271 (lv_at hl 8 rfl) ?_
    refine lv_iconst (v := 2) hx hb dL_makes_273 (by decide) ?_
    have hg := gif hf
    refine lv_icmp_ne (tgt := 291) hx hb dL_makes_274 (by decide) (fun c13 => ?_) (fun c13 => ?_)
    · have hf := hg.2 c13
      refine lv_bipush (v := 48) hx hb dL_makes_291 (by decide) ?_
      refine lv_iload hx hb dL_makes_293 (lv_at hl 7 rfl) ?_
      refine lv_iconst (v := 4) hx hb dL_makes_295 (by decide) ?_
      refine lv_ishr hx hb dL_makes_296 ?_
      refine lv_bipush (v := 6) hx hb dL_makes_297 (by decide) ?_
      obtain ⟨v14, h15, hf⟩ := gbind hf
      refine g_Si (As := [.int (x8 >>> (4 &&& 31)), .int 6]) (rest := [.int 48]) ⟨hx, hb, hml, hown, hts⟩ (c9_low l w K g S (x8 >>> (4 &&& 31)) 6 v14 h15) (gcwS hts i9_low wd_99 rfl rfl ⟨Nat.le_of_ble_eq_true rfl, Nat.le_of_ble_eq_true rfl⟩) hH hK hS hl.1 rfl rfl (Nat.le_of_ble_eq_true rfl) dL_makes_299 ⟨Nat.le_refl _, Nat.le_refl _⟩ (fun H locs hH hS => ?_)
      refine lv_iadd hx hb dL_makes_302 ?_
      exact B303 _ (hk46) _ _ _ _ _ _ _ _ hH hS (lv_sub hl [0, 1, 2, 3, 4, 5, 6] rfl) hf
    · have hf := hg.1 c13
      refine lv_bipush (v := 50) hx hb dL_makes_277 (by decide) ?_
      refine lv_iload hx hb dL_makes_279 (lv_at hl 7 rfl) ?_
      refine lv_iconst (v := 4) hx hb dL_makes_281 (by decide) ?_
      refine lv_ishr hx hb dL_makes_282 ?_
      refine lv_iconst (v := 5) hx hb dL_makes_283 (by decide) ?_
      obtain ⟨v16, h17, hf⟩ := gbind hf
      refine g_Si (As := [.int (x8 >>> (4 &&& 31)), .int 5]) (rest := [.int 50]) ⟨hx, hb, hml, hown, hts⟩ (c9_low l w K g S (x8 >>> (4 &&& 31)) 5 v16 h17) (gcwS hts i9_low wd_99 rfl rfl ⟨Nat.le_of_ble_eq_true rfl, Nat.le_of_ble_eq_true rfl⟩) hH hK hS hl.1 rfl rfl (Nat.le_of_ble_eq_true rfl) dL_makes_284 ⟨Nat.le_refl _, Nat.le_refl _⟩ (fun H locs hH hS => ?_)
      refine lv_iadd hx hb dL_makes_287 ?_
      refine lv_goto (tgt := 303) hx hb dL_makes_288 (by decide) ?_
      exact B303 _ (hk46) _ _ _ _ _ _ _ _ hH hS (lv_sub hl [0, 1, 2, 3, 4, 5, 6] rfl) hf
  have B245 : ∀ (k46 : GM → GS → Int32 → Int32 → Int32 → Option (GM × GS × Int32)), (∀ (g : GM) (S : GS) (x5 : Int32) (x6 : Int32) (x7 : Int32) (H : Heap) (locs : List Loc) (ls : Array Slot), HR w K g S H → va_S (FR w) s.heap H locs → lv_has ls 10 [(0, .int p0), (1, .int p1), (2, .ref p2), (3, .ref (w.2.2.2 + 0)), (4, .ref (w.2.2.2 + 2)), (5, .int x5), (6, .int x6), (7, .int x7)] → k46 g S x5 x6 x7 = some out → W p l e ({ frames := 3, cells := 0, slots := 0, locals := 73 } : Room) s m args below meth c H locs 0 0 (MQ below (QI w K out.1 out.2.1 out.2.2) args s 0 0 (FR w)) (F0 m 46 ls [])) → ∀ (g : GM) (S : GS) (x5 : Int32) (x7 : Int32) (x8 : Int32) (x9 : Int32) (s0 : Int32) (H : Heap) (locs : List Loc) (ls : Array Slot), HR w K g S H → va_S (FR w) s.heap H locs → lv_has ls 10 [(0, .int p0), (1, .int p1), (2, .ref p2), (3, .ref (w.2.2.2 + 0)), (4, .ref (w.2.2.2 + 2)), (5, .int x5), (7, .int x7), (8, .int x8), (9, .int x9)] → f9_makes_245 k46 K p0 p1 p2 g S x5 x7 x8 x9 s0 = some out → W p l e ({ frames := 3, cells := 0, slots := 0, locals := 73 } : Room) s m args below meth c H locs 0 0 (MQ below (QI w K out.1 out.2.1 out.2.2) args s 0 0 (FR w)) (F0 m 245 ls [.int s0]) := by
    intro k46 hk46 g S x5 x7 x8 x9 s0 H locs ls hH hS hl hf
    unfold f9_makes_245 at hf
    refine lv_aload_n hx hb dL_makes_245 rfl (lv_at hl 2 rfl) ?_
    refine lv_aload_n hx hb dL_makes_246 rfl (lv_at hl 3 rfl) ?_
    refine lv_aload hx hb dL_makes_247 (lv_at hl 4 rfl) ?_
    refine lv_iload_n hx hb dL_makes_249 rfl (lv_at hl 0 rfl) ?_
    obtain ⟨r18, h19, hf⟩ := gbind hf
    refine g_Sv (As := [.int s0, .ref p2, .ref (w.2.2.2 + 0), .ref (w.2.2.2 + 2), .int p0]) (rest := []) ⟨hx, hb, hml, hown, hts⟩ (c9_puts l w K g S s0 p2 p0 r18 h19) (gcwS hts i9_puts wd_197 rfl rfl ⟨Nat.le_of_ble_eq_true rfl, Nat.le_of_ble_eq_true rfl⟩) hH hK hS hl.1 rfl rfl (Nat.le_of_ble_eq_true rfl) dL_makes_250 ⟨Nat.le_refl _, Nat.le_refl _⟩ (fun H locs hH hS => ?_)
    refine lv_iload hx hb dL_makes_253 (lv_at hl 8 rfl) ?_
    refine lv_iconst (v := 3) hx hb dL_makes_255 (by decide) ?_
    have hg := gif hf
    refine lv_icmp_eq (tgt := 271) hx hb dL_makes_256 (by decide) (fun c20 => ?_) (fun c20 => ?_)
    · have hf := hg.1 c20
      exact B271 _ (hk46) _ _ _ _ _ _ _ _ _ hH hS (lv_sub hl [0, 1, 2, 3, 4, 5, 6, 7, 8] rfl) hf
    · have hf := hg.2 c20
      refine lv_iload hx hb dL_makes_259 (lv_at hl 8 rfl) ?_
      refine lv_iconst (v := 4) hx hb dL_makes_261 (by decide) ?_
      have hg := gif hf
      refine lv_icmp_eq (tgt := 271) hx hb dL_makes_262 (by decide) (fun c21 => ?_) (fun c21 => ?_)
      · have hf := hg.1 c21
        exact B271 _ (hk46) _ _ _ _ _ _ _ _ _ hH hS (lv_sub hl [0, 1, 2, 3, 4, 5, 6, 7, 8] rfl) hf
      · have hf := hg.2 c21
        refine lv_iload hx hb dL_makes_265 (lv_at hl 8 rfl) ?_
        refine lv_iconst (v := 2) hx hb dL_makes_267 (by decide) ?_
        have hg := gif hf
        refine lv_icmp_ne (tgt := 311) hx hb dL_makes_268 (by decide) (fun c22 => ?_) (fun c22 => ?_)
        · have hf := hg.2 c22
          exact B311 _ (hk46) _ _ _ _ _ _ _ hH hS (lv_sub hl [0, 1, 2, 3, 4, 5, 6] rfl) hf
        · have hf := hg.1 c22
          exact B271 _ (hk46) _ _ _ _ _ _ _ _ _ hH hS (lv_sub hl [0, 1, 2, 3, 4, 5, 6, 7, 8] rfl) hf
  have B221 : ∀ (k46 : GM → GS → Int32 → Int32 → Int32 → Option (GM × GS × Int32)), (∀ (g : GM) (S : GS) (x5 : Int32) (x6 : Int32) (x7 : Int32) (H : Heap) (locs : List Loc) (ls : Array Slot), HR w K g S H → va_S (FR w) s.heap H locs → lv_has ls 10 [(0, .int p0), (1, .int p1), (2, .ref p2), (3, .ref (w.2.2.2 + 0)), (4, .ref (w.2.2.2 + 2)), (5, .int x5), (6, .int x6), (7, .int x7)] → k46 g S x5 x6 x7 = some out → W p l e ({ frames := 3, cells := 0, slots := 0, locals := 73 } : Room) s m args below meth c H locs 0 0 (MQ below (QI w K out.1 out.2.1 out.2.2) args s 0 0 (FR w)) (F0 m 46 ls [])) → ∀ (g : GM) (S : GS) (x5 : Int32) (x7 : Int32) (x8 : Int32) (x9 : Int32) (H : Heap) (locs : List Loc) (ls : Array Slot), HR w K g S H → va_S (FR w) s.heap H locs → lv_has ls 10 [(0, .int p0), (1, .int p1), (2, .ref p2), (3, .ref (w.2.2.2 + 0)), (4, .ref (w.2.2.2 + 2)), (5, .int x5), (7, .int x7), (8, .int x8), (9, .int x9)] → f9_makes_221 k46 K p0 p1 p2 g S x5 x7 x8 x9 = some out → W p l e ({ frames := 3, cells := 0, slots := 0, locals := 73 } : Room) s m args below meth c H locs 0 0 (MQ below (QI w K out.1 out.2.1 out.2.2) args s 0 0 (FR w)) (F0 m 221 ls []) := by
    intro k46 hk46 g S x5 x7 x8 x9 H locs ls hH hS hl hf
    unfold f9_makes_221 at hf
    refine lv_iload hx hb dL_makes_221 (lv_at hl 8 rfl) ?_
    refine lv_iconst (v := 3) hx hb dL_makes_223 (by decide) ?_
    have hg := gif hf
    refine lv_icmp_ne (tgt := 232) hx hb dL_makes_224 (by decide) (fun c23 => ?_) (fun c23 => ?_)
    · have hf := hg.2 c23
      refine lv_iload hx hb dL_makes_232 (lv_at hl 8 rfl) ?_
      refine lv_iconst (v := 4) hx hb dL_makes_234 (by decide) ?_
      have hg := gif hf
      refine lv_icmp_ne (tgt := 243) hx hb dL_makes_235 (by decide) (fun c24 => ?_) (fun c24 => ?_)
      · have hf := hg.2 c24
        refine lv_bipush (v := 119) hx hb dL_makes_243 (by decide) ?_
        exact B245 _ (hk46) _ _ _ _ _ _ _ _ _ _ hH hS (lv_sub hl [0, 1, 2, 3, 4, 5, 6, 7, 8] rfl) hf
      · have hf := hg.1 c24
        refine lv_bipush (v := 107) hx hb dL_makes_238 (by decide) ?_
        refine lv_goto (tgt := 245) hx hb dL_makes_240 (by decide) ?_
        exact B245 _ (hk46) _ _ _ _ _ _ _ _ _ _ hH hS (lv_sub hl [0, 1, 2, 3, 4, 5, 6, 7, 8] rfl) hf
    · have hf := hg.1 c23
      refine lv_bipush (v := 99) hx hb dL_makes_227 (by decide) ?_
      refine lv_goto (tgt := 245) hx hb dL_makes_229 (by decide) ?_
      exact B245 _ (hk46) _ _ _ _ _ _ _ _ _ _ hH hS (lv_sub hl [0, 1, 2, 3, 4, 5, 6, 7, 8] rfl) hf
  have B202 : ∀ (k46 : GM → GS → Int32 → Int32 → Int32 → Option (GM × GS × Int32)), (∀ (g : GM) (S : GS) (x5 : Int32) (x6 : Int32) (x7 : Int32) (H : Heap) (locs : List Loc) (ls : Array Slot), HR w K g S H → va_S (FR w) s.heap H locs → lv_has ls 10 [(0, .int p0), (1, .int p1), (2, .ref p2), (3, .ref (w.2.2.2 + 0)), (4, .ref (w.2.2.2 + 2)), (5, .int x5), (6, .int x6), (7, .int x7)] → k46 g S x5 x6 x7 = some out → W p l e ({ frames := 3, cells := 0, slots := 0, locals := 73 } : Room) s m args below meth c H locs 0 0 (MQ below (QI w K out.1 out.2.1 out.2.2) args s 0 0 (FR w)) (F0 m 46 ls [])) → ∀ (g : GM) (S : GS) (x5 : Int32) (x7 : Int32) (H : Heap) (locs : List Loc) (ls : Array Slot), HR w K g S H → va_S (FR w) s.heap H locs → lv_has ls 10 [(0, .int p0), (1, .int p1), (2, .ref p2), (3, .ref (w.2.2.2 + 0)), (4, .ref (w.2.2.2 + 2)), (5, .int x5), (7, .int x7)] → f9_makes_202 k46 K p0 p1 p2 g S x5 x7 = some out → W p l e ({ frames := 3, cells := 0, slots := 0, locals := 73 } : Room) s m args below meth c H locs 0 0 (MQ below (QI w K out.1 out.2.1 out.2.2) args s 0 0 (FR w)) (F0 m 202 ls []) := by
    intro k46 hk46 g S x5 x7 H locs ls hH hS hl hf
    unfold f9_makes_202 at hf
    refine lv_bipush (v := 40) hx hb dL_makes_202 (by decide) ?_
    refine lv_aload_n hx hb dL_makes_204 rfl (lv_at hl 2 rfl) ?_
    refine lv_aload_n hx hb dL_makes_205 rfl (lv_at hl 3 rfl) ?_
    refine lv_aload hx hb dL_makes_206 (lv_at hl 4 rfl) ?_
    refine lv_iload_n hx hb dL_makes_208 rfl (lv_at hl 0 rfl) ?_
    obtain ⟨r25, h26, hf⟩ := gbind hf
    refine g_Sv (As := [.int 40, .ref p2, .ref (w.2.2.2 + 0), .ref (w.2.2.2 + 2), .int p0]) (rest := []) ⟨hx, hb, hml, hown, hts⟩ (c9_puts l w K g S 40 p2 p0 r25 h26) (gcwS hts i9_puts wd_197 rfl rfl ⟨Nat.le_of_ble_eq_true rfl, Nat.le_of_ble_eq_true rfl⟩) hH hK hS hl.1 rfl rfl (Nat.le_of_ble_eq_true rfl) dL_makes_209 ⟨Nat.le_refl _, Nat.le_refl _⟩ (fun H locs hH hS => ?_)
    obtain ⟨v27, ev27⟩ : ∃ z : Int32, z = x5 + 1 := ⟨_, rfl⟩
    have hf := gl_at hf ev27
    refine lv_iinc (v := v27) (lv' := [(5, .int v27), (0, .int p0), (1, .int p1), (2, .ref p2), (3, .ref (w.2.2.2 + 0)), (4, .ref (w.2.2.2 + 2)), (7, .int x7)]) hx hb dL_makes_212 hl (k := 5) rfl (by rw [ev27]; rfl) (by decide) rfl (fun ls hl => ?_)
    refine lv_iconst (v := 1) hx hb dL_makes_215 (by decide) ?_
    refine lv_istore (lv' := [(6, .int 1), (5, .int v27), (0, .int p0), (1, .int p1), (2, .ref p2), (3, .ref (w.2.2.2 + 0)), (4, .ref (w.2.2.2 + 2)), (7, .int x7)]) hx hb dL_makes_216 hl (by decide) rfl (fun ls hl => ?_)
    refine lv_goto (tgt := 314) hx hb dL_makes_218 (by decide) ?_
    exact B314 _ (hk46) _ _ _ _ _ _ _ _ hH hS (lv_sub hl [2, 3, 4, 5, 6, 1, 0, 7] rfl) hf
  have B168 : ∀ (k46 : GM → GS → Int32 → Int32 → Int32 → Option (GM × GS × Int32)), (∀ (g : GM) (S : GS) (x5 : Int32) (x6 : Int32) (x7 : Int32) (H : Heap) (locs : List Loc) (ls : Array Slot), HR w K g S H → va_S (FR w) s.heap H locs → lv_has ls 10 [(0, .int p0), (1, .int p1), (2, .ref p2), (3, .ref (w.2.2.2 + 0)), (4, .ref (w.2.2.2 + 2)), (5, .int x5), (6, .int x6), (7, .int x7)] → k46 g S x5 x6 x7 = some out → W p l e ({ frames := 3, cells := 0, slots := 0, locals := 73 } : Room) s m args below meth c H locs 0 0 (MQ below (QI w K out.1 out.2.1 out.2.2) args s 0 0 (FR w)) (F0 m 46 ls [])) → ∀ (g : GM) (S : GS) (x5 : Int32) (x7 : Int32) (x8 : Int32) (x9 : Int32) (s0 : Int32) (H : Heap) (locs : List Loc) (ls : Array Slot), HR w K g S H → va_S (FR w) s.heap H locs → lv_has ls 10 [(0, .int p0), (1, .int p1), (2, .ref p2), (3, .ref (w.2.2.2 + 0)), (4, .ref (w.2.2.2 + 2)), (5, .int x5), (7, .int x7), (8, .int x8), (9, .int x9)] → f9_makes_168 k46 K p0 p1 p2 g S x5 x7 x8 x9 s0 = some out → W p l e ({ frames := 3, cells := 0, slots := 0, locals := 73 } : Room) s m args below meth c H locs 0 0 (MQ below (QI w K out.1 out.2.1 out.2.2) args s 0 0 (FR w)) (F0 m 168 ls [.int s0]) := by
    intro k46 hk46 g S x5 x7 x8 x9 s0 H locs ls hH hS hl hf
    unfold f9_makes_168 at hf
    refine lv_aload_n hx hb dL_makes_168 rfl (lv_at hl 2 rfl) ?_
    refine lv_aload_n hx hb dL_makes_169 rfl (lv_at hl 3 rfl) ?_
    refine lv_aload hx hb dL_makes_170 (lv_at hl 4 rfl) ?_
    refine lv_iload_n hx hb dL_makes_172 rfl (lv_at hl 0 rfl) ?_
    obtain ⟨r28, h29, hf⟩ := gbind hf
    refine g_Sv (As := [.int s0, .ref p2, .ref (w.2.2.2 + 0), .ref (w.2.2.2 + 2), .int p0]) (rest := []) ⟨hx, hb, hml, hown, hts⟩ (c9_puts l w K g S s0 p2 p0 r28 h29) (gcwS hts i9_puts wd_197 rfl rfl ⟨Nat.le_of_ble_eq_true rfl, Nat.le_of_ble_eq_true rfl⟩) hH hK hS hl.1 rfl rfl (Nat.le_of_ble_eq_true rfl) dL_makes_173 ⟨Nat.le_refl _, Nat.le_refl _⟩ (fun H locs hH hS => ?_)
    refine lv_iload hx hb dL_makes_176 (lv_at hl 8 rfl) ?_
    refine lv_bipush (v := 6) hx hb dL_makes_178 (by decide) ?_
    have hg := gif hf
    refine lv_icmp_ne (tgt := 202) hx hb dL_makes_180 (by decide) (fun c30 => ?_) (fun c30 => ?_)
    · have hf := hg.2 c30
      exact B202 _ (hk46) _ _ _ _ _ _ _ hH hS (lv_sub hl [0, 1, 2, 3, 4, 5, 6] rfl) hf
    · have hf := hg.1 c30
      refine lv_bipush (v := 50) hx hb dL_makes_183 (by decide) ?_
      refine lv_iload hx hb dL_makes_185 (lv_at hl 7 rfl) ?_
      refine lv_iconst (v := 4) hx hb dL_makes_187 (by decide) ?_
      refine lv_ishr hx hb dL_makes_188 ?_
      refine lv_iconst (v := 3) hx hb dL_makes_189 (by decide) ?_
      obtain ⟨v31, h32, hf⟩ := gbind hf
      refine g_Si (As := [.int (x8 >>> (4 &&& 31)), .int 3]) (rest := [.int 50]) ⟨hx, hb, hml, hown, hts⟩ (c9_low l w K r28.1 r28.2 (x8 >>> (4 &&& 31)) 3 v31 h32) (gcwS hts i9_low wd_99 rfl rfl ⟨Nat.le_of_ble_eq_true rfl, Nat.le_of_ble_eq_true rfl⟩) hH hK hS hl.1 rfl rfl (Nat.le_of_ble_eq_true rfl) dL_makes_190 ⟨Nat.le_refl _, Nat.le_refl _⟩ (fun H locs hH hS => ?_)
      refine lv_iadd hx hb dL_makes_193 ?_
      refine lv_aload_n hx hb dL_makes_194 rfl (lv_at hl 2 rfl) ?_
      refine lv_aload_n hx hb dL_makes_195 rfl (lv_at hl 3 rfl) ?_
      refine lv_aload hx hb dL_makes_196 (lv_at hl 4 rfl) ?_
      refine lv_iload_n hx hb dL_makes_198 rfl (lv_at hl 0 rfl) ?_
      obtain ⟨r33, h34, hf⟩ := gbind hf
      refine g_Sv (As := [.int (50 + v31), .ref p2, .ref (w.2.2.2 + 0), .ref (w.2.2.2 + 2), .int p0]) (rest := []) ⟨hx, hb, hml, hown, hts⟩ (c9_puts l w K r28.1 r28.2 (50 + v31) p2 p0 r33 h34) (gcwS hts i9_puts wd_197 rfl rfl ⟨Nat.le_of_ble_eq_true rfl, Nat.le_of_ble_eq_true rfl⟩) hH hK hS hl.1 rfl rfl (Nat.le_of_ble_eq_true rfl) dL_makes_199 ⟨Nat.le_refl _, Nat.le_refl _⟩ (fun H locs hH hS => ?_)
      exact B202 _ (hk46) _ _ _ _ _ _ _ hH hS (lv_sub hl [0, 1, 2, 3, 4, 5, 6] rfl) hf
  have B127 : ∀ (k46 : GM → GS → Int32 → Int32 → Int32 → Option (GM × GS × Int32)), (∀ (g : GM) (S : GS) (x5 : Int32) (x6 : Int32) (x7 : Int32) (H : Heap) (locs : List Loc) (ls : Array Slot), HR w K g S H → va_S (FR w) s.heap H locs → lv_has ls 10 [(0, .int p0), (1, .int p1), (2, .ref p2), (3, .ref (w.2.2.2 + 0)), (4, .ref (w.2.2.2 + 2)), (5, .int x5), (6, .int x6), (7, .int x7)] → k46 g S x5 x6 x7 = some out → W p l e ({ frames := 3, cells := 0, slots := 0, locals := 73 } : Room) s m args below meth c H locs 0 0 (MQ below (QI w K out.1 out.2.1 out.2.2) args s 0 0 (FR w)) (F0 m 46 ls [])) → ∀ (g : GM) (S : GS) (x5 : Int32) (x7 : Int32) (x8 : Int32) (x9 : Int32) (H : Heap) (locs : List Loc) (ls : Array Slot), HR w K g S H → va_S (FR w) s.heap H locs → lv_has ls 10 [(0, .int p0), (1, .int p1), (2, .ref p2), (3, .ref (w.2.2.2 + 0)), (4, .ref (w.2.2.2 + 2)), (5, .int x5), (7, .int x7), (8, .int x8), (9, .int x9)] → f9_makes_127 k46 K p0 p1 p2 g S x5 x7 x8 x9 = some out → W p l e ({ frames := 3, cells := 0, slots := 0, locals := 73 } : Room) s m args below meth c H locs 0 0 (MQ below (QI w K out.1 out.2.1 out.2.2) args s 0 0 (FR w)) (F0 m 127 ls []) := by
    intro k46 hk46 g S x5 x7 x8 x9 H locs ls hH hS hl hf
    unfold f9_makes_127 at hf
    refine lv_iload hx hb dL_makes_127 (lv_at hl 8 rfl) ?_
    refine lv_iconst (v := 5) hx hb dL_makes_129 (by decide) ?_
    have hg := gif hf
    refine lv_icmp_le (tgt := 221) hx hb dL_makes_130 (by decide) (fun c35 => ?_) (fun c35 => ?_)
    · have hf := hg.1 c35
      exact B221 _ (hk46) _ _ _ _ _ _ _ _ _ hH hS (lv_sub hl [0, 1, 2, 3, 4, 5, 6, 7, 8] rfl) hf
    · have hf := hg.2 c35
      refine lv_iload hx hb dL_makes_133 (lv_at hl 5 rfl) ?_
      refine lv_iconst (v := 3) hx hb dL_makes_135 (by decide) ?_
      have hg := gif hf
      refine lv_icmp_ge (tgt := 221) hx hb dL_makes_136 (by decide) (fun c36 => ?_) (fun c36 => ?_)
      · have hf := hg.1 c36
        exact B221 _ (hk46) _ _ _ _ _ _ _ _ _ hH hS (lv_sub hl [0, 1, 2, 3, 4, 5, 6, 7, 8] rfl) hf
      · have hf := hg.2 c36
        refine lv_iload hx hb dL_makes_139 (lv_at hl 8 rfl) ?_
        refine lv_bipush (v := 6) hx hb dL_makes_141 (by decide) ?_
        have hg := gif hf
        refine lv_icmp_ne (tgt := 151) hx hb dL_makes_143 (by decide) (fun c37 => ?_) (fun c37 => ?_)
        · have hf := hg.2 c37
          refine lv_iload hx hb dL_makes_151 (lv_at hl 7 rfl) ?_
          refine lv_iconst (v := 5) hx hb dL_makes_153 (by decide) ?_
          refine lv_ishr hx hb dL_makes_154 ?_
          refine lv_iconst (v := 1) hx hb dL_makes_155 (by decide) ?_
          refine lv_iand hx hb dL_makes_156 ?_
          refine lv_iconst (v := 1) hx hb dL_makes_157 (by decide) ?_
          have hg := gif hf
          refine lv_icmp_ne (tgt := 166) hx hb dL_makes_158 (by decide) (fun c38 => ?_) (fun c38 => ?_)
          · have hf := hg.2 c38
            refine lv_bipush (v := 108) hx hb dL_makes_166 (by decide) ?_
            exact B168 _ (hk46) _ _ _ _ _ _ _ _ _ _ hH hS (lv_sub hl [0, 1, 2, 3, 4, 5, 6, 7, 8] rfl) hf
          · have hf := hg.1 c38
            refine lv_bipush (v := 115) hx hb dL_makes_161 (by decide) ?_
            refine lv_goto (tgt := 168) hx hb dL_makes_163 (by decide) ?_
            exact B168 _ (hk46) _ _ _ _ _ _ _ _ _ _ hH hS (lv_sub hl [0, 1, 2, 3, 4, 5, 6, 7, 8] rfl) hf
        · have hf := hg.1 c37
          refine lv_bipush (v := 120) hx hb dL_makes_146 (by decide) ?_
          refine lv_goto (tgt := 168) hx hb dL_makes_148 (by decide) ?_
          exact B168 _ (hk46) _ _ _ _ _ _ _ _ _ _ hH hS (lv_sub hl [0, 1, 2, 3, 4, 5, 6, 7, 8] rfl) hf
  have B46 : ∀ n : Nat, ∀ (g : GM) (S : GS) (x5 : Int32) (x6 : Int32) (x7 : Int32) (H : Heap) (locs : List Loc) (ls : Array Slot), HR w K g S H → va_S (FR w) s.heap H locs → lv_has ls 10 [(0, .int p0), (1, .int p1), (2, .ref p2), (3, .ref (w.2.2.2 + 0)), (4, .ref (w.2.2.2 + 2)), (5, .int x5), (6, .int x6), (7, .int x7)] → f9_makes_46 K p0 p1 p2 n g S x5 x6 x7 = some out → W p l e ({ frames := 3, cells := 0, slots := 0, locals := 73 } : Room) s m args below meth c H locs 0 0 (MQ below (QI w K out.1 out.2.1 out.2.2) args s 0 0 (FR w)) (F0 m 46 ls []) := by
    intro n
    induction n with
    | zero =>
      intro g S x5 x6 x7 H locs ls hH hS hl hf
      cases hf
    | succ n ih =>
      intro g S x5 x6 x7 H locs ls hH hS hl hf
      rw [f9_makes_46] at hf
      refine lv_iload hx hb dL_makes_46 (lv_at hl 7 rfl) ?_
      refine lv_bipush (v := 9) hx hb dL_makes_48 (by decide) ?_
      have hg := gif hf
      refine lv_icmp_ge (tgt := 320) hx hb dL_makes_50 (by decide) (fun c39 => ?_) (fun c39 => ?_)
      · have hf := hg.1 c39
        exact B320 _ _ _ _ _ _ _ hH hS (lv_sub hl [0, 2, 3, 4, 5, 6] rfl) hf
      · have hf := hg.2 c39
        refine lv_aload_n hx hb dL_makes_53 rfl (lv_at hl 3 rfl) ?_
        refine lv_bipush (v := 9) hx hb dL_makes_54 (by decide) ?_
        obtain ⟨h41, hf⟩ := gd_some hf
        refine m_iald hx hb hK hH 0 (by decide) rfl h41 dL_makes_56 ?_
        refine lv_bipush (v := 15) hx hb dL_makes_57 (by decide) ?_
        have hg := gif hf
        refine lv_icmp_ge (tgt := 320) hx hb dL_makes_59 (by decide) (fun c42 => ?_) (fun c42 => ?_)
        · have hf := hg.1 c42
          exact B320 _ _ _ _ _ _ _ hH hS (lv_sub hl [0, 2, 3, 4, 5, 6] rfl) hf
        · have hf := hg.2 c42
          refine lv_iload_n hx hb dL_makes_62 rfl (lv_at hl 1 rfl) ?_
          refine lv_iconst (v := 3) hx hb dL_makes_63 (by decide) ?_
          refine lv_iload hx hb dL_makes_64 (lv_at hl 7 rfl) ?_
          refine lv_bipush (v := 9) hx hb dL_makes_66 (by decide) ?_
          refine lv_irem hx hb dL_makes_68 (by decide) ?_
          refine lv_imul hx hb dL_makes_69 ?_
          refine lv_ishr hx hb dL_makes_70 ?_
          refine lv_bipush (v := 31) hx hb dL_makes_71 (by decide) ?_
          refine lv_iload hx hb dL_makes_73 (lv_at hl 7 rfl) ?_
          refine lv_imul hx hb dL_makes_75 ?_
          refine lv_iload_n hx hb dL_makes_76 rfl (lv_at hl 1 rfl) ?_
          refine lv_sipush (v := 255) hx hb dL_makes_77 (by decide) ?_
          refine lv_iand hx hb dL_makes_80 ?_
          refine lv_imul hx hb dL_makes_81 ?_
          refine lv_iadd hx hb dL_makes_82 ?_
          refine lv_topi (fun v44 ev44 => ?_)
          have hf := gl_at hf ev44
          refine lv_istore (lv' := [(8, .int v44), (0, .int p0), (1, .int p1), (2, .ref p2), (3, .ref (w.2.2.2 + 0)), (4, .ref (w.2.2.2 + 2)), (5, .int x5), (6, .int x6), (7, .int x7)]) hx hb dL_makes_83 hl (by decide) rfl (fun ls hl => ?_)
          refine lv_iload hx hb dL_makes_85 (lv_at hl 0 rfl) ?_
          refine lv_bipush (v := 9) hx hb dL_makes_87 (by decide) ?_
          obtain ⟨v45, h46, hf⟩ := gbind hf
          refine g_Si (As := [.int v44, .int 9]) (rest := []) ⟨hx, hb, hml, hown, hts⟩ (c9_low l w K g S v44 9 v45 h46) (gcwS hts i9_low wd_99 rfl rfl ⟨Nat.le_of_ble_eq_true rfl, Nat.le_of_ble_eq_true rfl⟩) hH hK hS hl.1 rfl rfl (Nat.le_of_ble_eq_true rfl) dL_makes_89 ⟨Nat.le_refl _, Nat.le_refl _⟩ (fun H locs hH hS => ?_)
          refine lv_istore (lv' := [(9, .int v45), (8, .int v44), (0, .int p0), (1, .int p1), (2, .ref p2), (3, .ref (w.2.2.2 + 0)), (4, .ref (w.2.2.2 + 2)), (5, .int x5), (6, .int x6), (7, .int x7)]) hx hb dL_makes_92 hl (by decide) rfl (fun ls hl => ?_)
          refine lv_iload hx hb dL_makes_94 (lv_at hl 0 rfl) ?_
          refine lv_bipush (v := 8) hx hb dL_makes_96 (by decide) ?_
          have hg := gif hf
          refine lv_icmp_ne (tgt := 127) hx hb dL_makes_98 (by decide) (fun c47 => ?_) (fun c47 => ?_)
          · have hf := hg.2 c47
            exact B127 _ (ih) _ _ _ _ _ _ _ _ _ hH hS (lv_sub hl [2, 3, 4, 5, 6, 7, 9, 1, 0] rfl) hf
          · have hf := hg.1 c47
            refine lv_iload hx hb dL_makes_101 (lv_at hl 7 rfl) ?_
            have hg := gif hf
            refine lv_if_le (tgt := 127) hx hb dL_makes_103 (by decide) (fun c48 => ?_) (fun c48 => ?_)
            · have hf := hg.1 c48
              exact B127 _ (ih) _ _ _ _ _ _ _ _ _ hH hS (lv_sub hl [2, 3, 4, 5, 6, 7, 9, 1, 0] rfl) hf
            · have hf := hg.2 c48
              refine lv_iload hx hb dL_makes_106 (lv_at hl 8 rfl) ?_
              have hg := gif hf
              refine lv_if_ne (tgt := 127) hx hb dL_makes_108 (by decide) (fun c49 => ?_) (fun c49 => ?_)
              · have hf := hg.2 c49
                exact B127 _ (ih) _ _ _ _ _ _ _ _ _ hH hS (lv_sub hl [2, 3, 4, 5, 6, 7, 9, 1, 0] rfl) hf
              · have hf := hg.1 c49
                refine lv_bipush (v := 41) hx hb dL_makes_111 (by decide) ?_
                refine lv_aload_n hx hb dL_makes_113 rfl (lv_at hl 4 rfl) ?_
                refine lv_aload_n hx hb dL_makes_114 rfl (lv_at hl 5 rfl) ?_
                refine lv_aload hx hb dL_makes_115 (lv_at hl 6 rfl) ?_
                refine lv_iload_n hx hb dL_makes_117 rfl (lv_at hl 2 rfl) ?_
                obtain ⟨r50, h51, hf⟩ := gbind hf
                refine g_Sv (As := [.int 41, .ref p2, .ref (w.2.2.2 + 0), .ref (w.2.2.2 + 2), .int p0]) (rest := []) ⟨hx, hb, hml, hown, hts⟩ (c9_puts l w K g S 41 p2 p0 r50 h51) (gcwS hts i9_puts wd_197 rfl rfl ⟨Nat.le_of_ble_eq_true rfl, Nat.le_of_ble_eq_true rfl⟩) hH hK hS hl.1 rfl rfl (Nat.le_of_ble_eq_true rfl) dL_makes_118 ⟨Nat.le_refl _, Nat.le_refl _⟩ (fun H locs hH hS => ?_)
                obtain ⟨v52, ev52⟩ : ∃ z : Int32, z = x5 + (-1) := ⟨_, rfl⟩
                have hf := gl_at hf ev52
                refine lv_iinc (v := v52) (lv' := [(5, .int v52), (9, .int v45), (8, .int v44), (0, .int p0), (1, .int p1), (2, .ref p2), (3, .ref (w.2.2.2 + 0)), (4, .ref (w.2.2.2 + 2)), (6, .int x6), (7, .int x7)]) hx hb dL_makes_121 hl (k := 7) rfl (by rw [ev52]; rfl) (by decide) rfl (fun ls hl => ?_)
                refine lv_goto (tgt := 314) hx hb dL_makes_124 (by decide) ?_
                exact B314 _ (ih) _ _ _ _ _ _ _ _ hH hS (lv_sub hl [3, 4, 5, 6, 7, 0, 8, 9] rfl) hf
  have B3 : ∀ n : Nat, ∀ (g : GM) (S : GS) (x5 : Int32) (H : Heap) (locs : List Loc) (ls : Array Slot), HR w K g S H → va_S (FR w) s.heap H locs → lv_has ls 10 [(0, .int p0), (1, .int p1), (2, .ref p2), (3, .ref (w.2.2.2 + 0)), (4, .ref (w.2.2.2 + 2)), (5, .int x5)] → f9_makes_3 K p0 p1 p2 n g S x5 = some out → W p l e ({ frames := 3, cells := 0, slots := 0, locals := 73 } : Room) s m args below meth c H locs 0 0 (MQ below (QI w K out.1 out.2.1 out.2.2) args s 0 0 (FR w)) (F0 m 3 ls []) := by
    intro n
    induction n with
    | zero =>
      intro g S x5 H locs ls hH hS hl hf
      cases hf
    | succ n ih =>
      intro g S x5 H locs ls hH hS hl hf
      rw [f9_makes_3] at hf
      refine lv_iload hx hb dL_makes_3 (lv_at hl 5 rfl) ?_
      refine lv_bipush (v := 6) hx hb dL_makes_5 (by decide) ?_
      have hg := gif hf
      refine lv_icmp_ge (tgt := 27) hx hb dL_makes_7 (by decide) (fun c53 => ?_) (fun c53 => ?_)
      · have hf := hg.1 c53
        refine lv_aload_n hx hb dL_makes_27 rfl (lv_at hl 2 rfl) ?_
        obtain ⟨k54, hf⟩ := gd_some hf
        have k54 := gk_obj k54
        obtain ⟨r55, h56, hf⟩ := gbind hf
        refine g_Vi (As := []) (rest := []) ⟨hx, hb, hml, hown, hts⟩ (c7_wipe l w K g S p2 r55 h56 k54) (gcwV hts i7_wipe wd_193 rfl rfl ⟨Nat.le_of_ble_eq_true rfl, Nat.le_of_ble_eq_true rfl⟩) (gRecv.of hK rfl (hH.o8 k54)) hH hK hS hl.1 rfl rfl (Nat.le_of_ble_eq_true rfl) dL_makes_28 ⟨Nat.le_refl _, Nat.le_refl _⟩ (fun H locs hH hS => ?_)
        refine lv_pop hx hb dL_makes_31 rfl ?_
        refine lv_aload_n hx hb dL_makes_32 rfl (lv_at hl 3 rfl) ?_
        refine lv_bipush (v := 9) hx hb dL_makes_33 (by decide) ?_
        refine lv_iconst (v := 0) hx hb dL_makes_35 (by decide) ?_
        obtain ⟨h58, hf⟩ := gd_some hf
        refine m_iast hx hb hK hH hS 0 (by decide) rfl h58 dL_makes_36 (fun H locs hH hS => ?_)
        obtain ⟨S59, eS59⟩ : ∃ z : GS, z = ssI S 0 (9 : Int32).toNatClampNeg 0 := ⟨_, rfl⟩
        have hf := gl_at hf eS59
        replace hH : HR w K r55.1 S59 H := by rw [eS59]; exact hH
        refine lv_iconst (v := 0) hx hb dL_makes_37 (by decide) ?_
        refine lv_istore (lv' := [(5, .int 0), (0, .int p0), (1, .int p1), (2, .ref p2), (3, .ref (w.2.2.2 + 0)), (4, .ref (w.2.2.2 + 2))]) hx hb dL_makes_38 hl (by decide) rfl (fun ls hl => ?_)
        refine lv_iconst (v := 1) hx hb dL_makes_40 (by decide) ?_
        refine lv_istore (lv' := [(6, .int 1), (5, .int 0), (0, .int p0), (1, .int p1), (2, .ref p2), (3, .ref (w.2.2.2 + 0)), (4, .ref (w.2.2.2 + 2))]) hx hb dL_makes_41 hl (by decide) rfl (fun ls hl => ?_)
        refine lv_iconst (v := 0) hx hb dL_makes_43 (by decide) ?_
        refine lv_istore (lv' := [(7, .int 0), (6, .int 1), (5, .int 0), (0, .int p0), (1, .int p1), (2, .ref p2), (3, .ref (w.2.2.2 + 0)), (4, .ref (w.2.2.2 + 2))]) hx hb dL_makes_44 hl (by decide) rfl (fun ls hl => ?_)
        exact B46 _ _ _ _ _ _ _ _ _ hH hS (lv_sub hl [3, 4, 5, 6, 7, 2, 1, 0] rfl) hf
      · have hf := hg.2 c53
        refine lv_aload hx hb dL_makes_10 (lv_at hl 4 rfl) ?_
        refine lv_bipush (v := 6) hx hb dL_makes_12 (by decide) ?_
        refine lv_iload_n hx hb dL_makes_14 rfl (lv_at hl 0 rfl) ?_
        refine lv_imul hx hb dL_makes_15 ?_
        refine lv_iload hx hb dL_makes_16 (lv_at hl 5 rfl) ?_
        refine lv_iadd hx hb dL_makes_18 ?_
        refine lv_iconst (v := 0) hx hb dL_makes_19 (by decide) ?_
        obtain ⟨h61, hf⟩ := gd_some hf
        refine m_iast hx hb hK hH hS 2 (by decide) rfl h61 dL_makes_20 (fun H locs hH hS => ?_)
        obtain ⟨S62, eS62⟩ : ∃ z : GS, z = ssI S 2 ((6 * p0) + x5).toNatClampNeg 0 := ⟨_, rfl⟩
        have hf := gl_at hf eS62
        replace hH : HR w K g S62 H := by rw [eS62]; exact hH
        obtain ⟨v63, ev63⟩ : ∃ z : Int32, z = x5 + 1 := ⟨_, rfl⟩
        have hf := gl_at hf ev63
        refine lv_iinc (v := v63) (lv' := [(5, .int v63), (0, .int p0), (1, .int p1), (2, .ref p2), (3, .ref (w.2.2.2 + 0)), (4, .ref (w.2.2.2 + 2))]) hx hb dL_makes_21 hl (k := 5) rfl (by rw [ev63]; rfl) (by decide) rfl (fun ls hl => ?_)
        refine lv_goto (tgt := 3) hx hb dL_makes_24 (by decide) ?_
        exact ih _ _ _ _ _ _ hH hS (lv_sub hl [1, 2, 3, 4, 5, 0] rfl) hf
  have hl : lv_has ls 10 [(0, .int p0), (1, .int p1), (2, .ref p2), (3, .ref (w.2.2.2 + 0)), (4, .ref (w.2.2.2 + 2))] := hl
  refine lv_iconst (v := 0) hx hb dL_makes_0 (by decide) ?_
  refine lv_istore (lv' := [(5, .int 0), (0, .int p0), (1, .int p1), (2, .ref p2), (3, .ref (w.2.2.2 + 0)), (4, .ref (w.2.2.2 + 2))]) hx hb dL_makes_1 hl (by decide) rfl (fun ls hl => ?_)
  exact B3 _ _ _ _ _ _ _ hH hS (lv_sub hl [1, 2, 3, 4, 5, 0] rfl) hf
