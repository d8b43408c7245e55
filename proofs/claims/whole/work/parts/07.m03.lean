/-! contracts, by program -/
set_option maxRecDepth 100000 in
set_option maxHeartbeats 8000000 in
theorem c8_bounded (l : Launch) (w : GW) (K : GK) (g : GM) (S : GS) (p0 : Int32) (out : Int32) (hf : f8_bounded p0 = some out) : Met l yX8_bounded (wA yX8_bounded cX8_bounded 1 (some .int)) ({ frames := 0, cells := 0, slots := 0, locals := 0 } : Room) (PRE w K g S [.int p0]) (QI w K g S out) 0 0 (FR w) := by
  unfold f8_bounded at hf
  refine Met.ofW (cc := cX8_bounded) (maxL := 1) (ret := (some .int)) (by decide) rfl ?_
  intro p e s m args below meth c s₁ B hml hv
  obtain ⟨rfl, hH, hK⟩ := hv
  have hx := B.exec
  have hb := B.bytes
  have hr := B.returns
  have hts : ∀ q ∈ gALL, q.before _ s = true := fun q h => atoms_spec (ws := (wA yX8_bounded cX8_bounded 1 (some .int))) B.pre q (List.mem_cons_of_mem _ h)
  have hown : s.vm.findClass RX8 = some m.cls := findClass_of_methodNamed B.named
  have hlocks := B.notSynchronized
  have hS : va_S (FR w) s.heap s.heap [] := va_S.rf
  show W p l e ({ frames := 0, cells := 0, slots := 0, locals := 0 } : Room) s m _ below meth c s.heap [] 0 0 (MQ below (QI w K g S out) _ s 0 0 (FR w)) _
  have hl := lv_entry ([.int p0]) (n := 1) (Nat.le_of_ble_eq_true rfl)
  rw [lg_entry_eq]
  generalize (lg_sl ([.int p0]) ++ List.replicate (1 - (lg_sl ([.int p0])).length) Slot.unset).toArray = ls at hl ⊢
  clear B
  generalize ([.int p0] : List Value).toArray = args at hts ⊢
  have hl : lv_has ls 1 [(0, .int p0)] := hl
  refine lv_iload_n hx hb dX8_bounded_0 rfl (lv_at hl 0 rfl) ?_
  refine lv_ldc (v := 1000000) hx hb hown (hts _ wd_773) dX8_bounded_1 ?_
  have hg := gif hf
  refine lv_icmp_le (tgt := 11) hx hb dX8_bounded_3 (by decide) (fun c1 => ?_) (fun c1 => ?_)
  · have hf := hg.1 c1
    refine lv_iload_n hx hb dX8_bounded_11 rfl (lv_at hl 0 rfl) ?_
    have ho := Option.some.inj hf
    exact W.iret (v := p0) hx hb hr (fun t ht hW => ⟨⟨p0, (), rfl, ho, hrE ht hH⟩, hS.F ht⟩) hS.2.2 dX8_bounded_12
  · have hf := hg.2 c1
    refine lv_ldc (v := 1000001) hx hb hown (hts _ wd_797) dX8_bounded_6 ?_
    refine lv_goto (tgt := 12) hx hb dX8_bounded_8 (by decide) ?_
    have ho := Option.some.inj hf
    exact W.iret (v := 1000001) hx hb hr (fun t ht hW => ⟨⟨1000001, (), rfl, ho, hrE ht hH⟩, hS.F ht⟩) hS.2.2 dX8_bounded_12
set_option maxRecDepth 100000 in
set_option maxHeartbeats 8000000 in
theorem c8_countPicks (l : Launch) (w : GW) (K : GK) (g : GM) (S : GS) (p0 : Int32) (p1 : Int32) (p2 : Int32) (out : GS) (hf : f8_countPicks S p0 p1 p2 = some out) : Met l yX8_countPicks (wA yX8_countPicks cX8_countPicks 4 none) ({ frames := 1, cells := 0, slots := 0, locals := 20 } : Room) (PRE w K g S [.ref w.2.2.2, .int p0, .int p1, .int p2]) (QV w K g out) 0 0 (FR w) := by
  unfold f8_countPicks at hf
  refine Met.ofW (cc := cX8_countPicks) (maxL := 4) (ret := none) (by decide) rfl ?_
  intro p e s m args below meth c s₁ B hml hv
  obtain ⟨rfl, hH, hK⟩ := hv
  have hx := B.exec
  have hb := B.bytes
  have hr := B.returns
  have hts : ∀ q ∈ gALL, q.before _ s = true := fun q h => atoms_spec (ws := (wA yX8_countPicks cX8_countPicks 4 none)) B.pre q (List.mem_cons_of_mem _ h)
  have hown : s.vm.findClass RX8 = some m.cls := findClass_of_methodNamed B.named
  have hlocks := B.notSynchronized
  have hS : va_S (FR w) s.heap s.heap [] := va_S.rf
  show W p l e ({ frames := 1, cells := 0, slots := 0, locals := 20 } : Room) s m _ below meth c s.heap [] 0 0 (MQ below (QV w K g out) _ s 0 0 (FR w)) _
  have hl := lv_entry ([.ref w.2.2.2, .int p0, .int p1, .int p2]) (n := 4) (Nat.le_of_ble_eq_true rfl)
  rw [lg_entry_eq]
  generalize (lg_sl ([.ref w.2.2.2, .int p0, .int p1, .int p2]) ++ List.replicate (4 - (lg_sl ([.ref w.2.2.2, .int p0, .int p1, .int p2])).length) Slot.unset).toArray = ls at hl ⊢
  clear B
  generalize ([.ref w.2.2.2, .int p0, .int p1, .int p2] : List Value).toArray = args at hts ⊢
  have hl : lv_has ls 4 [(0, .ref w.2.2.2), (1, .int p0), (2, .int p1), (3, .int p2)] := hl
  refine lv_aload_n hx hb dX8_countPicks_0 rfl (lv_at hl 0 rfl) ?_
  refine e_8_10 hx hb hts hown hK hH (hts _ wd_107) dX8_countPicks_1 ?_
  refine lv_iload_n hx hb dX8_countPicks_4 rfl (lv_at hl 1 rfl) ?_
  refine lv_iload_n hx hb dX8_countPicks_5 rfl (lv_at hl 2 rfl) ?_
  refine lv_iadd hx hb dX8_countPicks_6 ?_
  refine lv_aload_n hx hb dX8_countPicks_7 rfl (lv_at hl 0 rfl) ?_
  refine e_8_10 hx hb hts hown hK hH (hts _ wd_107) dX8_countPicks_8 ?_
  refine lv_iload_n hx hb dX8_countPicks_11 rfl (lv_at hl 1 rfl) ?_
  refine lv_iload_n hx hb dX8_countPicks_12 rfl (lv_at hl 2 rfl) ?_
  refine lv_iadd hx hb dX8_countPicks_13 ?_
  obtain ⟨h2, hf⟩ := gd_some hf
  refine m_iald hx hb hK hH 7 (by decide) (by decide) rfl h2 dX8_countPicks_14 ?_
  refine lv_iload_n hx hb dX8_countPicks_15 rfl (lv_at hl 3 rfl) ?_
  refine lv_iadd hx hb dX8_countPicks_16 ?_
  obtain ⟨v3, h4, hf⟩ := gbind hf
  refine g_Si (As := [.int ((S 7 (p0 + p1).toNatClampNeg) + p2)]) (rest := [.int (p0 + p1), .ref (w.2.2.2 + 7)]) ⟨hx, hb, hml, hown, hts⟩ (c8_bounded l w K g S ((S 7 (p0 + p1).toNatClampNeg) + p2) v3 h4) (gcwS hts i8_bounded wd_794 rfl rfl ⟨Nat.le_of_ble_eq_true rfl, Nat.le_of_ble_eq_true rfl⟩) hH hK hS hl.1 rfl rfl (Nat.le_of_ble_eq_true rfl) dX8_countPicks_17 ⟨Nat.le_refl _, Nat.le_refl _⟩ (fun H locs hH hS => ?_)
  refine m_iast hx hb hK hH hS 7 (by decide) (by decide) rfl h2 dX8_countPicks_20 (fun H locs hH hS => ?_)
  obtain ⟨S6, eS6⟩ : ∃ z : GS, z = ssI S 7 (p0 + p1).toNatClampNeg v3 := ⟨_, rfl⟩
  have hf := gl_at hf eS6
  replace hH : HR w K g S6 H := by rw [eS6]; exact hH
  have ho := Option.some.inj hf
  exact W.vret hx hb hr (fun t ht hW => ⟨⟨(), rfl, trivial, hrVm ht ho hH⟩, hS.F ht⟩) hS.2.2 dX8_countPicks_21
set_option maxRecDepth 100000 in
set_option maxHeartbeats 8000000 in
theorem c8_addCalled (l : Launch) (w : GW) (K : GK) (g : GM) (S : GS) (p0 : Int32) (p1 : Int32) (out : GS) (hf : f8_addCalled S p0 p1 = some out) : Met l yX8_addCalled (wA yX8_addCalled cX8_addCalled 4 none) ({ frames := 2, cells := 0, slots := 0, locals := 43 } : Room) (PRE w K g S [.ref w.2.2.2, .int p0, .int p1]) (QV w K g out) 0 0 (FR w) := by
  unfold f8_addCalled at hf
  refine Met.ofW (cc := cX8_addCalled) (maxL := 4) (ret := none) (by decide) rfl ?_
  intro p e s m args below meth c s₁ B hml hv
  obtain ⟨rfl, hH, hK⟩ := hv
  have hx := B.exec
  have hb := B.bytes
  have hr := B.returns
  have hts : ∀ q ∈ gALL, q.before _ s = true := fun q h => atoms_spec (ws := (wA yX8_addCalled cX8_addCalled 4 none)) B.pre q (List.mem_cons_of_mem _ h)
  have hown : s.vm.findClass RX8 = some m.cls := findClass_of_methodNamed B.named
  have hlocks := B.notSynchronized
  have hS : va_S (FR w) s.heap s.heap [] := va_S.rf
  show W p l e ({ frames := 2, cells := 0, slots := 0, locals := 43 } : Room) s m _ below meth c s.heap [] 0 0 (MQ below (QV w K g out) _ s 0 0 (FR w)) _
  have hl := lv_entry ([.ref w.2.2.2, .int p0, .int p1]) (n := 4) (Nat.le_of_ble_eq_true rfl)
  rw [lg_entry_eq]
  generalize (lg_sl ([.ref w.2.2.2, .int p0, .int p1]) ++ List.replicate (4 - (lg_sl ([.ref w.2.2.2, .int p0, .int p1])).length) Slot.unset).toArray = ls at hl ⊢
  clear B
  generalize ([.ref w.2.2.2, .int p0, .int p1] : List Value).toArray = args at hts ⊢
  have B2 : ∀ n : Nat, ∀ (S : GS) (x3 : Int32) (H : Heap) (locs : List Loc) (ls : Array Slot), HR w K g S H → va_S (FR w) s.heap H locs → lv_has ls 4 [(0, .ref w.2.2.2), (1, .int p0), (2, .int p1), (3, .int x3)] → f8_addCalled_2 p0 p1 n S x3 = some out → W p l e ({ frames := 2, cells := 0, slots := 0, locals := 43 } : Room) s m args below meth c H locs 0 0 (MQ below (QV w K g out) args s 0 0 (FR w)) (F0 m 2 ls []) := by
    intro n
    induction n with
    | zero =>
      intro S x3 H locs ls hH hS hl hf
      cases hf
    | succ n ih =>
      intro S x3 H locs ls hH hS hl hf
      rw [f8_addCalled_2] at hf
      refine lv_iload_n hx hb dX8_addCalled_2 rfl (lv_at hl 3 rfl) ?_
      refine lv_bipush (v := 6) hx hb dX8_addCalled_3 (by decide) ?_
      have hg := gif hf
      refine lv_icmp_ge (tgt := 28) hx hb dX8_addCalled_5 (by decide) (fun c1 => ?_) (fun c1 => ?_)
      · have hf := hg.1 c1
        have ho := Option.some.inj hf
        exact W.vret hx hb hr (fun t ht hW => ⟨⟨(), rfl, trivial, hrVm ht ho hH⟩, hS.F ht⟩) hS.2.2 dX8_addCalled_28
      · have hf := hg.2 c1
        refine lv_aload_n hx hb dX8_addCalled_8 rfl (lv_at hl 0 rfl) ?_
        refine lv_iload_n hx hb dX8_addCalled_9 rfl (lv_at hl 1 rfl) ?_
        refine lv_iload_n hx hb dX8_addCalled_10 rfl (lv_at hl 3 rfl) ?_
        refine lv_aload_n hx hb dX8_addCalled_11 rfl (lv_at hl 0 rfl) ?_
        refine e_8_10 hx hb hts hown hK hH (hts _ wd_107) dX8_addCalled_12 ?_
        refine lv_iload_n hx hb dX8_addCalled_15 rfl (lv_at hl 2 rfl) ?_
        refine lv_iload_n hx hb dX8_addCalled_16 rfl (lv_at hl 3 rfl) ?_
        refine lv_iadd hx hb dX8_addCalled_17 ?_
        obtain ⟨h3, hf⟩ := gd_some hf
        refine m_iald hx hb hK hH 7 (by decide) (by decide) rfl h3 dX8_addCalled_18 ?_
        obtain ⟨g4, h5, hf⟩ := gbind hf
        refine g_Vv (As := [.int p0, .int x3, .int (S 7 (p1 + x3).toNatClampNeg)]) (rest := []) ⟨hx, hb, hml, hown, hts⟩ (c8_countPicks l w K g S p0 x3 (S 7 (p1 + x3).toNatClampNeg) g4 h5) (gcwV hts i8_countPicks wd_790 rfl rfl ⟨Nat.le_of_ble_eq_true rfl, Nat.le_of_ble_eq_true rfl⟩) (gRecv.of hK rfl hH.ob) hH hK hS hl.1 rfl rfl (Nat.le_of_ble_eq_true rfl) dX8_addCalled_19 ⟨Nat.le_refl _, Nat.le_refl _⟩ (fun H locs hH hS => ?_)
        obtain ⟨v6, ev6⟩ : ∃ z : Int32, z = x3 + 1 := ⟨_, rfl⟩
        have hf := gl_at hf ev6
        refine lv_iinc (v := v6) (lv' := [(3, .int v6), (0, .ref w.2.2.2), (1, .int p0), (2, .int p1)]) hx hb dX8_addCalled_22 hl (k := 3) rfl (by rw [ev6]; rfl) (by decide) rfl (fun ls hl => ?_)
        refine lv_goto (tgt := 2) hx hb dX8_addCalled_25 (by decide) ?_
        exact ih _ _ _ _ _ hH hS (lv_sub hl [1, 2, 3, 0] rfl) hf
  have hl : lv_has ls 4 [(0, .ref w.2.2.2), (1, .int p0), (2, .int p1)] := hl
  refine lv_iconst (v := 0) hx hb dX8_addCalled_0 (by decide) ?_
  refine lv_istore_n (lv' := [(3, .int 0), (0, .ref w.2.2.2), (1, .int p0), (2, .int p1)]) hx hb dX8_addCalled_1 rfl hl (by decide) rfl (fun ls hl => ?_)
  exact B2 _ _ _ _ _ _ hH hS (lv_sub hl [1, 2, 3, 0] rfl) hf
set_option maxRecDepth 100000 in
set_option maxHeartbeats 8000000 in
theorem c8_within (l : Launch) (w : GW) (K : GK) (g : GM) (S : GS) (p0 : Int32) (p1 : Int32) (p2 : Int32) (out : Int32) (hf : f8_within p0 p1 p2 = some out) : Met l yX8_within (wA yX8_within cX8_within 3 (some .boolean)) ({ frames := 0, cells := 0, slots := 0, locals := 0 } : Room) (PRE w K g S [.int p0, .int p1, .int p2]) (QI w K g S out) 0 0 (FR w) := by
  unfold f8_within at hf
  refine Met.ofW (cc := cX8_within) (maxL := 3) (ret := (some .boolean)) (by decide) rfl ?_
  intro p e s m args below meth c s₁ B hml hv
  obtain ⟨rfl, hH, hK⟩ := hv
  have hx := B.exec
  have hb := B.bytes
  have hr := B.returns
  have hts : ∀ q ∈ gALL, q.before _ s = true := fun q h => atoms_spec (ws := (wA yX8_within cX8_within 3 (some .boolean))) B.pre q (List.mem_cons_of_mem _ h)
  have hown : s.vm.findClass RX8 = some m.cls := findClass_of_methodNamed B.named
  have hlocks := B.notSynchronized
  have hS : va_S (FR w) s.heap s.heap [] := va_S.rf
  show W p l e ({ frames := 0, cells := 0, slots := 0, locals := 0 } : Room) s m _ below meth c s.heap [] 0 0 (MQ below (QI w K g S out) _ s 0 0 (FR w)) _
  have hl := lv_entry ([.int p0, .int p1, .int p2]) (n := 3) (Nat.le_of_ble_eq_true rfl)
  rw [lg_entry_eq]
  generalize (lg_sl ([.int p0, .int p1, .int p2]) ++ List.replicate (3 - (lg_sl ([.int p0, .int p1, .int p2])).length) Slot.unset).toArray = ls at hl ⊢
  clear B
  generalize ([.int p0, .int p1, .int p2] : List Value).toArray = args at hts ⊢
  have B14 : ∀ (H : Heap) (locs : List Loc) (ls : Array Slot), HR w K g S H → va_S (FR w) s.heap H locs → lv_has ls 3 [] → f8_within_14 p0 p1 p2 = some out → W p l e ({ frames := 0, cells := 0, slots := 0, locals := 0 } : Room) s m args below meth c H locs 0 0 (MQ below (QI w K g S out) args s 0 0 (FR w)) (F0 m 14 ls []) := by
    intro   H locs ls hH hS hl hf
    unfold f8_within_14 at hf
    refine lv_iconst (v := 0) hx hb dX8_within_14 (by decide) ?_
    have ho := Option.some.inj hf
    exact W.zret (v := 0) (ty := .boolean) hx hb hr rfl (fun t ht hW => ⟨⟨0, (), rfl, ho, hrE ht hH⟩, hS.F ht⟩) hS.2.2 dX8_within_15
  have hl : lv_has ls 3 [(0, .int p0), (1, .int p1), (2, .int p2)] := hl
  refine lv_iload_n hx hb dX8_within_0 rfl (lv_at hl 0 rfl) ?_
  refine lv_iload_n hx hb dX8_within_1 rfl (lv_at hl 1 rfl) ?_
  have hg := gif hf
  refine lv_icmp_lt (tgt := 14) hx hb dX8_within_2 (by decide) (fun c1 => ?_) (fun c1 => ?_)
  · have hf := hg.1 c1
    exact B14 _ _ _ hH hS (lv_sub hl [] rfl) hf
  · have hf := hg.2 c1
    refine lv_iload_n hx hb dX8_within_5 rfl (lv_at hl 0 rfl) ?_
    refine lv_iload_n hx hb dX8_within_6 rfl (lv_at hl 2 rfl) ?_
    have hg := gif hf
    refine lv_icmp_gt (tgt := 14) hx hb dX8_within_7 (by decide) (fun c2 => ?_) (fun c2 => ?_)
    · have hf := hg.1 c2
      exact B14 _ _ _ hH hS (lv_sub hl [] rfl) hf
    · have hf := hg.2 c2
      refine lv_iconst (v := 1) hx hb dX8_within_10 (by decide) ?_
      refine lv_goto (tgt := 15) hx hb dX8_within_11 (by decide) ?_
      have ho := Option.some.inj hf
      exact W.zret (v := 1) (ty := .boolean) hx hb hr rfl (fun t ht hW => ⟨⟨1, (), rfl, ho, hrE ht hH⟩, hS.F ht⟩) hS.2.2 dX8_within_15
set_option maxRecDepth 100000 in
set_option maxHeartbeats 8000000 in
theorem c8_putAside (l : Launch) (w : GW) (K : GK) (g : GM) (S : GS) (out : GS) (hf : f8_putAside S = some out) : Met l yX8_putAside (wA yX8_putAside cX8_putAside 2 none) ({ frames := 0, cells := 0, slots := 0, locals := 0 } : Room) (PRE w K g S [.ref w.2.2.2]) (QV w K g out) 0 0 (FR w) := by
  unfold f8_putAside at hf
  refine Met.ofW (cc := cX8_putAside) (maxL := 2) (ret := none) (by decide) rfl ?_
  intro p e s m args below meth c s₁ B hml hv
  obtain ⟨rfl, hH, hK⟩ := hv
  have hx := B.exec
  have hb := B.bytes
  have hr := B.returns
  have hts : ∀ q ∈ gALL, q.before _ s = true := fun q h => atoms_spec (ws := (wA yX8_putAside cX8_putAside 2 none)) B.pre q (List.mem_cons_of_mem _ h)
  have hown : s.vm.findClass RX8 = some m.cls := findClass_of_methodNamed B.named
  have hlocks := B.notSynchronized
  have hS : va_S (FR w) s.heap s.heap [] := va_S.rf
  show W p l e ({ frames := 0, cells := 0, slots := 0, locals := 0 } : Room) s m _ below meth c s.heap [] 0 0 (MQ below (QV w K g out) _ s 0 0 (FR w)) _
  have hl := lv_entry ([.ref w.2.2.2]) (n := 2) (Nat.le_of_ble_eq_true rfl)
  rw [lg_entry_eq]
  generalize (lg_sl ([.ref w.2.2.2]) ++ List.replicate (2 - (lg_sl ([.ref w.2.2.2])).length) Slot.unset).toArray = ls at hl ⊢
  clear B
  generalize ([.ref w.2.2.2] : List Value).toArray = args at hts ⊢
  have B2 : ∀ n : Nat, ∀ (S : GS) (x1 : Int32) (H : Heap) (locs : List Loc) (ls : Array Slot), HR w K g S H → va_S (FR w) s.heap H locs → lv_has ls 2 [(0, .ref w.2.2.2), (1, .int x1)] → f8_putAside_2 n S x1 = some out → W p l e ({ frames := 0, cells := 0, slots := 0, locals := 0 } : Room) s m args below meth c H locs 0 0 (MQ below (QV w K g out) args s 0 0 (FR w)) (F0 m 2 ls []) := by
    intro n
    induction n with
    | zero =>
      intro S x1 H locs ls hH hS hl hf
      cases hf
    | succ n ih =>
      intro S x1 H locs ls hH hS hl hf
      rw [f8_putAside_2] at hf
      refine lv_iload_n hx hb dX8_putAside_2 rfl (lv_at hl 1 rfl) ?_
      refine lv_sipush (v := 2081) hx hb dX8_putAside_3 (by decide) ?_
      have hg := gif hf
      refine lv_icmp_ge (tgt := 27) hx hb dX8_putAside_6 (by decide) (fun c1 => ?_) (fun c1 => ?_)
      · have hf := hg.1 c1
        have ho := Option.some.inj hf
        exact W.vret hx hb hr (fun t ht hW => ⟨⟨(), rfl, trivial, hrVm ht ho hH⟩, hS.F ht⟩) hS.2.2 dX8_putAside_27
      · have hf := hg.2 c1
        refine lv_aload_n hx hb dX8_putAside_9 rfl (lv_at hl 0 rfl) ?_
        refine e_8_1 hx hb hts hown hK hH (hts _ wd_102) dX8_putAside_10 ?_
        refine lv_iload_n hx hb dX8_putAside_13 rfl (lv_at hl 1 rfl) ?_
        refine lv_aload_n hx hb dX8_putAside_14 rfl (lv_at hl 0 rfl) ?_
        refine e_8_0 hx hb hts hown hK hH (hts _ wd_101) dX8_putAside_15 ?_
        refine lv_iload_n hx hb dX8_putAside_18 rfl (lv_at hl 1 rfl) ?_
        obtain ⟨h3, hf⟩ := gd_some hf
        refine m_iald hx hb hK hH 1 (by decide) (by decide) rfl h3 dX8_putAside_19 ?_
        refine m_iast hx hb hK hH hS 2 (by decide) (by decide) rfl h3 dX8_putAside_20 (fun H locs hH hS => ?_)
        obtain ⟨S5, eS5⟩ : ∃ z : GS, z = ssI S 2 x1.toNatClampNeg (S 1 x1.toNatClampNeg) := ⟨_, rfl⟩
        have hf := gl_at hf eS5
        replace hH : HR w K g S5 H := by rw [eS5]; exact hH
        obtain ⟨v6, ev6⟩ : ∃ z : Int32, z = x1 + 1 := ⟨_, rfl⟩
        have hf := gl_at hf ev6
        refine lv_iinc (v := v6) (lv' := [(1, .int v6), (0, .ref w.2.2.2)]) hx hb dX8_putAside_21 hl (k := 1) rfl (by rw [ev6]; rfl) (by decide) rfl (fun ls hl => ?_)
        refine lv_goto (tgt := 2) hx hb dX8_putAside_24 (by decide) ?_
        exact ih _ _ _ _ _ hH hS (lv_sub hl [1, 0] rfl) hf
  have hl : lv_has ls 2 [(0, .ref w.2.2.2)] := hl
  refine lv_iconst (v := 0) hx hb dX8_putAside_0 (by decide) ?_
  refine lv_istore_n (lv' := [(1, .int 0), (0, .ref w.2.2.2)]) hx hb dX8_putAside_1 rfl hl (by decide) rfl (fun ls hl => ?_)
  exact B2 _ _ _ _ _ _ hH hS (lv_sub hl [1, 0] rfl) hf
set_option maxRecDepth 100000 in
set_option maxHeartbeats 8000000 in
theorem c8_frame (l : Launch) (w : GW) (K : GK) (g : GM) (S : GS) (p0 : Int32) (out : Int32) (hf : f8_frame S p0 = some out) : Met l yX8_frame (wA yX8_frame cX8_frame 2 (some .int)) ({ frames := 0, cells := 0, slots := 0, locals := 0 } : Room) (PRE w K g S [.ref w.2.2.2, .int p0]) (QI w K g S out) 0 0 (FR w) := by
  unfold f8_frame at hf
  refine Met.ofW (cc := cX8_frame) (maxL := 2) (ret := (some .int)) (by decide) rfl ?_
  intro p e s m args below meth c s₁ B hml hv
  obtain ⟨rfl, hH, hK⟩ := hv
  have hx := B.exec
  have hb := B.bytes
  have hr := B.returns
  have hts : ∀ q ∈ gALL, q.before _ s = true := fun q h => atoms_spec (ws := (wA yX8_frame cX8_frame 2 (some .int))) B.pre q (List.mem_cons_of_mem _ h)
  have hown : s.vm.findClass RX8 = some m.cls := findClass_of_methodNamed B.named
  have hlocks := B.notSynchronized
  have hS : va_S (FR w) s.heap s.heap [] := va_S.rf
  show W p l e ({ frames := 0, cells := 0, slots := 0, locals := 0 } : Room) s m _ below meth c s.heap [] 0 0 (MQ below (QI w K g S out) _ s 0 0 (FR w)) _
  have hl := lv_entry ([.ref w.2.2.2, .int p0]) (n := 2) (Nat.le_of_ble_eq_true rfl)
  rw [lg_entry_eq]
  generalize (lg_sl ([.ref w.2.2.2, .int p0]) ++ List.replicate (2 - (lg_sl ([.ref w.2.2.2, .int p0])).length) Slot.unset).toArray = ls at hl ⊢
  clear B
  generalize ([.ref w.2.2.2, .int p0] : List Value).toArray = args at hts ⊢
  have hl : lv_has ls 2 [(0, .ref w.2.2.2), (1, .int p0)] := hl
  refine lv_sipush (v := 1253) hx hb dX8_frame_0 (by decide) ?_
  refine lv_bipush (v := 92) hx hb dX8_frame_3 (by decide) ?_
  refine lv_aload_n hx hb dX8_frame_5 rfl (lv_at hl 0 rfl) ?_
  refine e_8_0 hx hb hts hown hK hH (hts _ wd_101) dX8_frame_6 ?_
  refine lv_iconst (v := 3) hx hb dX8_frame_9 (by decide) ?_
  obtain ⟨h2, hf⟩ := gd_some hf
  refine m_iald hx hb hK hH 1 (by decide) (by decide) rfl h2 dX8_frame_10 ?_
  refine lv_iconst (v := 1) hx hb dX8_frame_11 (by decide) ?_
  refine lv_isub hx hb dX8_frame_12 ?_
  refine lv_iload_n hx hb dX8_frame_13 rfl (lv_at hl 1 rfl) ?_
  refine lv_isub hx hb dX8_frame_14 ?_
  refine lv_imul hx hb dX8_frame_15 ?_
  refine lv_iadd hx hb dX8_frame_16 ?_
  have ho := Option.some.inj hf
  exact W.iret (v := (1253 + (92 * (((S 1 (3 : Int32).toNatClampNeg) - 1) - p0)))) hx hb hr (fun t ht hW => ⟨⟨(1253 + (92 * (((S 1 (3 : Int32).toNatClampNeg) - 1) - p0))), (), rfl, ho, hrE ht hH⟩, hS.F ht⟩) hS.2.2 dX8_frame_17
set_option maxRecDepth 100000 in
set_option maxHeartbeats 8000000 in
theorem c8_onTop (l : Launch) (w : GW) (K : GK) (g : GM) (S : GS) (p0 : Int32) (out : Int32) (hf : f8_onTop S p0 = some out) : Met l yX8_onTop (wA yX8_onTop cX8_onTop 2 (some .int)) ({ frames := 1, cells := 0, slots := 0, locals := 21 } : Room) (PRE w K g S [.ref w.2.2.2, .int p0]) (QI w K g S out) 0 0 (FR w) := by
  unfold f8_onTop at hf
  refine Met.ofW (cc := cX8_onTop) (maxL := 2) (ret := (some .int)) (by decide) rfl ?_
  intro p e s m args below meth c s₁ B hml hv
  obtain ⟨rfl, hH, hK⟩ := hv
  have hx := B.exec
  have hb := B.bytes
  have hr := B.returns
  have hts : ∀ q ∈ gALL, q.before _ s = true := fun q h => atoms_spec (ws := (wA yX8_onTop cX8_onTop 2 (some .int))) B.pre q (List.mem_cons_of_mem _ h)
  have hown : s.vm.findClass RX8 = some m.cls := findClass_of_methodNamed B.named
  have hlocks := B.notSynchronized
  have hS : va_S (FR w) s.heap s.heap [] := va_S.rf
  show W p l e ({ frames := 1, cells := 0, slots := 0, locals := 21 } : Room) s m _ below meth c s.heap [] 0 0 (MQ below (QI w K g S out) _ s 0 0 (FR w)) _
  have hl := lv_entry ([.ref w.2.2.2, .int p0]) (n := 2) (Nat.le_of_ble_eq_true rfl)
  rw [lg_entry_eq]
  generalize (lg_sl ([.ref w.2.2.2, .int p0]) ++ List.replicate (2 - (lg_sl ([.ref w.2.2.2, .int p0])).length) Slot.unset).toArray = ls at hl ⊢
  clear B
  generalize ([.ref w.2.2.2, .int p0] : List Value).toArray = args at hts ⊢
  have hl : lv_has ls 2 [(0, .ref w.2.2.2), (1, .int p0)] := hl
  refine lv_aload_n hx hb dX8_onTop_0 rfl (lv_at hl 0 rfl) ?_
  refine e_8_0 hx hb hts hown hK hH (hts _ wd_101) dX8_onTop_1 ?_
  refine lv_aload_n hx hb dX8_onTop_4 rfl (lv_at hl 0 rfl) ?_
  refine lv_iconst (v := 0) hx hb dX8_onTop_5 (by decide) ?_
  obtain ⟨v1, h2, hf⟩ := gbind hf
  refine g_Vi (As := [.int 0]) (rest := [.ref (w.2.2.2 + 1)]) ⟨hx, hb, hml, hown, hts⟩ (c8_frame l w K g S 0 v1 h2) (gcwV hts i8_frame wd_364 rfl rfl ⟨Nat.le_of_ble_eq_true rfl, Nat.le_of_ble_eq_true rfl⟩) (gRecv.of hK rfl hH.ob) hH hK hS hl.1 rfl rfl (Nat.le_of_ble_eq_true rfl) dX8_onTop_6 ⟨Nat.le_refl _, Nat.le_refl _⟩ (fun H locs hH hS => ?_)
  refine lv_iload_n hx hb dX8_onTop_9 rfl (lv_at hl 1 rfl) ?_
  refine lv_iadd hx hb dX8_onTop_10 ?_
  obtain ⟨h4, hf⟩ := gd_some hf
  refine m_iald hx hb hK hH 1 (by decide) (by decide) rfl h4 dX8_onTop_11 ?_
  have ho := Option.some.inj hf
  exact W.iret (v := (S 1 (v1 + p0).toNatClampNeg)) hx hb hr (fun t ht hW => ⟨⟨(S 1 (v1 + p0).toNatClampNeg), (), rfl, ho, hrE ht hH⟩, hS.F ht⟩) hS.2.2 dX8_onTop_12
set_option maxRecDepth 100000 in
set_option maxHeartbeats 8000000 in
theorem c8_signAt (l : Launch) (w : GW) (K : GK) (g : GM) (S : GS) (p0 : Int32) (out : Int32) (hf : f8_signAt S p0 = some out) : Met l yX8_signAt (wA yX8_signAt cX8_signAt 2 (some .int)) ({ frames := 2, cells := 0, slots := 0, locals := 42 } : Room) (PRE w K g S [.ref w.2.2.2, .int p0]) (QI w K g S out) 0 0 (FR w) := by
  unfold f8_signAt at hf
  refine Met.ofW (cc := cX8_signAt) (maxL := 2) (ret := (some .int)) (by decide) rfl ?_
  intro p e s m args below meth c s₁ B hml hv
  obtain ⟨rfl, hH, hK⟩ := hv
  have hx := B.exec
  have hb := B.bytes
  have hr := B.returns
  have hts : ∀ q ∈ gALL, q.before _ s = true := fun q h => atoms_spec (ws := (wA yX8_signAt cX8_signAt 2 (some .int))) B.pre q (List.mem_cons_of_mem _ h)
  have hown : s.vm.findClass RX8 = some m.cls := findClass_of_methodNamed B.named
  have hlocks := B.notSynchronized
  have hS : va_S (FR w) s.heap s.heap [] := va_S.rf
  show W p l e ({ frames := 2, cells := 0, slots := 0, locals := 42 } : Room) s m _ below meth c s.heap [] 0 0 (MQ below (QI w K g S out) _ s 0 0 (FR w)) _
  have hl := lv_entry ([.ref w.2.2.2, .int p0]) (n := 2) (Nat.le_of_ble_eq_true rfl)
  rw [lg_entry_eq]
  generalize (lg_sl ([.ref w.2.2.2, .int p0]) ++ List.replicate (2 - (lg_sl ([.ref w.2.2.2, .int p0])).length) Slot.unset).toArray = ls at hl ⊢
  clear B
  generalize ([.ref w.2.2.2, .int p0] : List Value).toArray = args at hts ⊢
  have hl : lv_has ls 2 [(0, .ref w.2.2.2), (1, .int p0)] := hl
  refine lv_aload_n hx hb dX8_signAt_0 rfl (lv_at hl 0 rfl) ?_
  refine lv_bipush (v := 12) hx hb dX8_signAt_1 (by decide) ?_
  refine lv_iload_n hx hb dX8_signAt_3 rfl (lv_at hl 1 rfl) ?_
  refine lv_iadd hx hb dX8_signAt_4 ?_
  obtain ⟨v1, h2, hf⟩ := gbind hf
  refine g_Vi (As := [.int (12 + p0)]) (rest := []) ⟨hx, hb, hml, hown, hts⟩ (c8_onTop l w K g S (12 + p0) v1 h2) (gcwV hts i8_onTop wd_465 rfl rfl ⟨Nat.le_of_ble_eq_true rfl, Nat.le_of_ble_eq_true rfl⟩) (gRecv.of hK rfl hH.ob) hH hK hS hl.1 rfl rfl (Nat.le_of_ble_eq_true rfl) dX8_signAt_5 ⟨Nat.le_refl _, Nat.le_refl _⟩ (fun H locs hH hS => ?_)
  have ho := Option.some.inj hf
  exact W.iret (v := v1) hx hb hr (fun t ht hW => ⟨⟨v1, (), rfl, ho, hrE ht hH⟩, hS.F ht⟩) hS.2.2 dX8_signAt_8
set_option maxRecDepth 100000 in
set_option maxHeartbeats 8000000 in
theorem c8_reasonOfPick (l : Launch) (w : GW) (K : GK) (g : GM) (S : GS) (out : Int32) (hf : f8_reasonOfPick S = some out) : Met l yX8_reasonOfPick (wA yX8_reasonOfPick cX8_reasonOfPick 2 (some .int)) ({ frames := 2, cells := 0, slots := 0, locals := 42 } : Room) (PRE w K g S [.ref w.2.2.2]) (QI w K g S out) 0 0 (FR w) := by
  unfold f8_reasonOfPick at hf
  refine Met.ofW (cc := cX8_reasonOfPick) (maxL := 2) (ret := (some .int)) (by decide) rfl ?_
  intro p e s m args below meth c s₁ B hml hv
  obtain ⟨rfl, hH, hK⟩ := hv
  have hx := B.exec
  have hb := B.bytes
  have hr := B.returns
  have hts : ∀ q ∈ gALL, q.before _ s = true := fun q h => atoms_spec (ws := (wA yX8_reasonOfPick cX8_reasonOfPick 2 (some .int))) B.pre q (List.mem_cons_of_mem _ h)
  have hown : s.vm.findClass RX8 = some m.cls := findClass_of_methodNamed B.named
  have hlocks := B.notSynchronized
  have hS : va_S (FR w) s.heap s.heap [] := va_S.rf
  show W p l e ({ frames := 2, cells := 0, slots := 0, locals := 42 } : Room) s m _ below meth c s.heap [] 0 0 (MQ below (QI w K g S out) _ s 0 0 (FR w)) _
  have hl := lv_entry ([.ref w.2.2.2]) (n := 2) (Nat.le_of_ble_eq_true rfl)
  rw [lg_entry_eq]
  generalize (lg_sl ([.ref w.2.2.2]) ++ List.replicate (2 - (lg_sl ([.ref w.2.2.2])).length) Slot.unset).toArray = ls at hl ⊢
  clear B
  generalize ([.ref w.2.2.2] : List Value).toArray = args at hts ⊢
  have hl : lv_has ls 2 [(0, .ref w.2.2.2)] := hl
  refine lv_aload_n hx hb dX8_reasonOfPick_0 rfl (lv_at hl 0 rfl) ?_
  refine lv_iconst (v := 1) hx hb dX8_reasonOfPick_1 (by decide) ?_
  obtain ⟨v1, h2, hf⟩ := gbind hf
  refine g_Vi (As := [.int 1]) (rest := []) ⟨hx, hb, hml, hown, hts⟩ (c8_onTop l w K g S 1 v1 h2) (gcwV hts i8_onTop wd_465 rfl rfl ⟨Nat.le_of_ble_eq_true rfl, Nat.le_of_ble_eq_true rfl⟩) (gRecv.of hK rfl hH.ob) hH hK hS hl.1 rfl rfl (Nat.le_of_ble_eq_true rfl) dX8_reasonOfPick_2 ⟨Nat.le_refl _, Nat.le_refl _⟩ (fun H locs hH hS => ?_)
  refine lv_istore_n (lv' := [(1, .int v1), (0, .ref w.2.2.2)]) hx hb dX8_reasonOfPick_5 rfl hl (by decide) rfl (fun ls hl => ?_)
  refine lv_aload_n hx hb dX8_reasonOfPick_6 rfl (lv_at hl 1 rfl) ?_
  refine e_8_0 hx hb hts hown hK hH (hts _ wd_101) dX8_reasonOfPick_7 ?_
  refine lv_bipush (v := 19) hx hb dX8_reasonOfPick_10 (by decide) ?_
  refine lv_iload_n hx hb dX8_reasonOfPick_12 rfl (lv_at hl 0 rfl) ?_
  refine lv_iadd hx hb dX8_reasonOfPick_13 ?_
  obtain ⟨h4, hf⟩ := gd_some hf
  refine m_iald hx hb hK hH 1 (by decide) (by decide) rfl h4 dX8_reasonOfPick_14 ?_
  have hg := gif hf
  refine lv_if_ne (tgt := 20) hx hb dX8_reasonOfPick_15 (by decide) (fun c5 => ?_) (fun c5 => ?_)
  · have hf := hg.2 c5
    refine lv_aload_n hx hb dX8_reasonOfPick_20 rfl (lv_at hl 1 rfl) ?_
    refine e_8_0 hx hb hts hown hK hH (hts _ wd_101) dX8_reasonOfPick_21 ?_
    refine lv_bipush (v := 25) hx hb dX8_reasonOfPick_24 (by decide) ?_
    refine lv_iload_n hx hb dX8_reasonOfPick_26 rfl (lv_at hl 0 rfl) ?_
    refine lv_iadd hx hb dX8_reasonOfPick_27 ?_
    obtain ⟨h7, hf⟩ := gd_some hf
    refine m_iald hx hb hK hH 1 (by decide) (by decide) rfl h7 dX8_reasonOfPick_28 ?_
    refine lv_aload_n hx hb dX8_reasonOfPick_29 rfl (lv_at hl 1 rfl) ?_
    refine e_8_0 hx hb hts hown hK hH (hts _ wd_101) dX8_reasonOfPick_30 ?_
    refine lv_iconst (v := 1) hx hb dX8_reasonOfPick_33 (by decide) ?_
    obtain ⟨h9, hf⟩ := gd_some hf
    refine m_iald hx hb hK hH 1 (by decide) (by decide) rfl h9 dX8_reasonOfPick_34 ?_
    have hg := gif hf
    refine lv_icmp_lt (tgt := 42) hx hb dX8_reasonOfPick_35 (by decide) (fun c10 => ?_) (fun c10 => ?_)
    · have hf := hg.1 c10
      refine lv_aload_n hx hb dX8_reasonOfPick_42 rfl (lv_at hl 1 rfl) ?_
      refine e_8_0 hx hb hts hown hK hH (hts _ wd_101) dX8_reasonOfPick_43 ?_
      refine lv_iconst (v := 4) hx hb dX8_reasonOfPick_46 (by decide) ?_
      obtain ⟨h12, hf⟩ := gd_some hf
      refine m_iald hx hb hK hH 1 (by decide) (by decide) rfl h12 dX8_reasonOfPick_47 ?_
      refine lv_sipush (v := 400) hx hb dX8_reasonOfPick_48 (by decide) ?_
      have hg := gif hf
      refine lv_icmp_ne (tgt := 58) hx hb dX8_reasonOfPick_51 (by decide) (fun c13 => ?_) (fun c13 => ?_)
      · have hf := hg.2 c13
        refine lv_iconst (v := 0) hx hb dX8_reasonOfPick_58 (by decide) ?_
        have ho := Option.some.inj hf
        exact W.iret (v := 0) hx hb hr (fun t ht hW => ⟨⟨0, (), rfl, ho, hrE ht hH⟩, hS.F ht⟩) hS.2.2 dX8_reasonOfPick_59
      · have hf := hg.1 c13
        refine lv_iconst (v := 4) hx hb dX8_reasonOfPick_54 (by decide) ?_
        refine lv_goto (tgt := 59) hx hb dX8_reasonOfPick_55 (by decide) ?_
        have ho := Option.some.inj hf
        exact W.iret (v := 4) hx hb hr (fun t ht hW => ⟨⟨4, (), rfl, ho, hrE ht hH⟩, hS.F ht⟩) hS.2.2 dX8_reasonOfPick_59
    · have hf := hg.2 c10
      refine lv_iconst (v := 3) hx hb dX8_reasonOfPick_38 (by decide) ?_
      refine lv_goto (tgt := 59) hx hb dX8_reasonOfPick_39 (by decide) ?_
      have ho := Option.some.inj hf
      exact W.iret (v := 3) hx hb hr (fun t ht hW => ⟨⟨3, (), rfl, ho, hrE ht hH⟩, hS.F ht⟩) hS.2.2 dX8_reasonOfPick_59
  · have hf := hg.1 c5
    refine lv_iconst (v := 2) hx hb dX8_reasonOfPick_18 (by decide) ?_
    have ho := Option.some.inj hf
    exact W.iret (v := 2) hx hb hr (fun t ht hW => ⟨⟨2, (), rfl, ho, hrE ht hH⟩, hS.F ht⟩) hS.2.2 dX8_reasonOfPick_19
set_option maxRecDepth 100000 in
set_option maxHeartbeats 8000000 in
theorem c8_hasText (l : Launch) (w : GW) (K : GK) (g : GM) (S : GS) (p0 : Int32) (out : Int32) (hf : f8_hasText S p0 = some out) : Met l yX8_hasText (wA yX8_hasText cX8_hasText 2 (some .boolean)) ({ frames := 0, cells := 0, slots := 0, locals := 0 } : Room) (PRE w K g S [.ref w.2.2.2, .int p0]) (QI w K g S out) 0 0 (FR w) := by
  unfold f8_hasText at hf
  refine Met.ofW (cc := cX8_hasText) (maxL := 2) (ret := (some .boolean)) (by decide) rfl ?_
  intro p e s m args below meth c s₁ B hml hv
  obtain ⟨rfl, hH, hK⟩ := hv
  have hx := B.exec
  have hb := B.bytes
  have hr := B.returns
  have hts : ∀ q ∈ gALL, q.before _ s = true := fun q h => atoms_spec (ws := (wA yX8_hasText cX8_hasText 2 (some .boolean))) B.pre q (List.mem_cons_of_mem _ h)
  have hown : s.vm.findClass RX8 = some m.cls := findClass_of_methodNamed B.named
  have hlocks := B.notSynchronized
  have hS : va_S (FR w) s.heap s.heap [] := va_S.rf
  show W p l e ({ frames := 0, cells := 0, slots := 0, locals := 0 } : Room) s m _ below meth c s.heap [] 0 0 (MQ below (QI w K g S out) _ s 0 0 (FR w)) _
  have hl := lv_entry ([.ref w.2.2.2, .int p0]) (n := 2) (Nat.le_of_ble_eq_true rfl)
  rw [lg_entry_eq]
  generalize (lg_sl ([.ref w.2.2.2, .int p0]) ++ List.replicate (2 - (lg_sl ([.ref w.2.2.2, .int p0])).length) Slot.unset).toArray = ls at hl ⊢
  clear B
  generalize ([.ref w.2.2.2, .int p0] : List Value).toArray = args at hts ⊢
  have hl : lv_has ls 2 [(0, .ref w.2.2.2), (1, .int p0)] := hl
  refine lv_aload_n hx hb dX8_hasText_0 rfl (lv_at hl 0 rfl) ?_
  refine e_8_0 hx hb hts hown hK hH (hts _ wd_101) dX8_hasText_1 ?_
  refine lv_bipush (v := 43) hx hb dX8_hasText_4 (by decide) ?_
  refine lv_iload_n hx hb dX8_hasText_6 rfl (lv_at hl 1 rfl) ?_
  refine lv_iadd hx hb dX8_hasText_7 ?_
  obtain ⟨h2, hf⟩ := gd_some hf
  refine m_iald hx hb hK hH 1 (by decide) (by decide) rfl h2 dX8_hasText_8 ?_
  have hg := gif hf
  refine lv_if_le (tgt := 16) hx hb dX8_hasText_9 (by decide) (fun c3 => ?_) (fun c3 => ?_)
  · have hf := hg.1 c3
    refine lv_iconst (v := 0) hx hb dX8_hasText_16 (by decide) ?_
    have ho := Option.some.inj hf
    exact W.zret (v := 0) (ty := .boolean) hx hb hr rfl (fun t ht hW => ⟨⟨0, (), rfl, ho, hrE ht hH⟩, hS.F ht⟩) hS.2.2 dX8_hasText_17
  · have hf := hg.2 c3
    refine lv_iconst (v := 1) hx hb dX8_hasText_12 (by decide) ?_
    refine lv_goto (tgt := 17) hx hb dX8_hasText_13 (by decide) ?_
    have ho := Option.some.inj hf
    exact W.zret (v := 1) (ty := .boolean) hx hb hr rfl (fun t ht hW => ⟨⟨1, (), rfl, ho, hrE ht hH⟩, hS.F ht⟩) hS.2.2 dX8_hasText_17
set_option maxRecDepth 100000 in
set_option maxHeartbeats 8000000 in
theorem c8_reasonOfCall (l : Launch) (w : GW) (K : GK) (g : GM) (S : GS) (out : Int32) (hf : f8_reasonOfCall S = some out) : Met l yX8_reasonOfCall (wA yX8_reasonOfCall cX8_reasonOfCall 2 (some .int)) ({ frames := 3, cells := 0, slots := 0, locals := 63 } : Room) (PRE w K g S [.ref w.2.2.2]) (QI w K g S out) 0 0 (FR w) := by
  unfold f8_reasonOfCall at hf
  refine Met.ofW (cc := cX8_reasonOfCall) (maxL := 2) (ret := (some .int)) (by decide) rfl ?_
  intro p e s m args below meth c s₁ B hml hv
  obtain ⟨rfl, hH, hK⟩ := hv
  have hx := B.exec
  have hb := B.bytes
  have hr := B.returns
  have hts : ∀ q ∈ gALL, q.before _ s = true := fun q h => atoms_spec (ws := (wA yX8_reasonOfCall cX8_reasonOfCall 2 (some .int))) B.pre q (List.mem_cons_of_mem _ h)
  have hown : s.vm.findClass RX8 = some m.cls := findClass_of_methodNamed B.named
  have hlocks := B.notSynchronized
  have hS : va_S (FR w) s.heap s.heap [] := va_S.rf
  show W p l e ({ frames := 3, cells := 0, slots := 0, locals := 63 } : Room) s m _ below meth c s.heap [] 0 0 (MQ below (QI w K g S out) _ s 0 0 (FR w)) _
  have hl := lv_entry ([.ref w.2.2.2]) (n := 2) (Nat.le_of_ble_eq_true rfl)
  rw [lg_entry_eq]
  generalize (lg_sl ([.ref w.2.2.2]) ++ List.replicate (2 - (lg_sl ([.ref w.2.2.2])).length) Slot.unset).toArray = ls at hl ⊢
  clear B
  generalize ([.ref w.2.2.2] : List Value).toArray = args at hts ⊢
  have hl : lv_has ls 2 [(0, .ref w.2.2.2)] := hl
  refine lv_aload_n hx hb dX8_reasonOfCall_0 rfl (lv_at hl 0 rfl) ?_
  refine lv_aload_n hx hb dX8_reasonOfCall_1 rfl (lv_at hl 0 rfl) ?_
  refine lv_iconst (v := 2) hx hb dX8_reasonOfCall_2 (by decide) ?_
  obtain ⟨v1, h2, hf⟩ := gbind hf
  refine g_Vi (As := [.int 2]) (rest := [.ref w.2.2.2]) ⟨hx, hb, hml, hown, hts⟩ (c8_onTop l w K g S 2 v1 h2) (gcwV hts i8_onTop wd_465 rfl rfl ⟨Nat.le_of_ble_eq_true rfl, Nat.le_of_ble_eq_true rfl⟩) (gRecv.of hK rfl hH.ob) hH hK hS hl.1 rfl rfl (Nat.le_of_ble_eq_true rfl) dX8_reasonOfCall_3 ⟨Nat.le_refl _, Nat.le_refl _⟩ (fun H locs hH hS => ?_)
  refine lv_iconst (v := 1) hx hb dX8_reasonOfCall_6 (by decide) ?_
  refine lv_iadd hx hb dX8_reasonOfCall_7 ?_
  obtain ⟨v3, h4, hf⟩ := gbind hf
  refine g_Vi (As := [.int (v1 + 1)]) (rest := []) ⟨hx, hb, hml, hown, hts⟩ (c8_signAt l w K g S (v1 + 1) v3 h4) (gcwV hts i8_signAt wd_469 rfl rfl ⟨Nat.le_of_ble_eq_true rfl, Nat.le_of_ble_eq_true rfl⟩) (gRecv.of hK rfl hH.ob) hH hK hS hl.1 rfl rfl (Nat.le_of_ble_eq_true rfl) dX8_reasonOfCall_8 ⟨Nat.le_refl _, Nat.le_refl _⟩ (fun H locs hH hS => ?_)
  refine lv_bipush (v := 48) hx hb dX8_reasonOfCall_11 (by decide) ?_
  refine lv_isub hx hb dX8_reasonOfCall_13 ?_
  refine lv_topi (fun v5 ev5 => ?_)
  have hf := gl_at hf ev5
  refine lv_istore_n (lv' := [(1, .int v5), (0, .ref w.2.2.2)]) hx hb dX8_reasonOfCall_14 rfl hl (by decide) rfl (fun ls hl => ?_)
  refine lv_aload_n hx hb dX8_reasonOfCall_15 rfl (lv_at hl 1 rfl) ?_
  refine lv_iload_n hx hb dX8_reasonOfCall_16 rfl (lv_at hl 0 rfl) ?_
  obtain ⟨v6, h7, hf⟩ := gbind hf
  refine g_Vi (As := [.int v5]) (rest := []) ⟨hx, hb, hml, hown, hts⟩ (c8_hasText l w K g S v5 v6 h7) (gcwV hts i8_hasText wd_318 rfl rfl ⟨Nat.le_of_ble_eq_true rfl, Nat.le_of_ble_eq_true rfl⟩) (gRecv.of hK rfl hH.ob) hH hK hS hl.1 rfl rfl (Nat.le_of_ble_eq_true rfl) dX8_reasonOfCall_17 ⟨Nat.le_refl _, Nat.le_refl _⟩ (fun H locs hH hS => ?_)
  have hg := gif hf
  refine lv_if_ne (tgt := 27) hx hb dX8_reasonOfCall_20 (by decide) (fun c8 => ?_) (fun c8 => ?_)
  · have hf := hg.2 c8
    refine lv_aload_n hx hb dX8_reasonOfCall_27 rfl (lv_at hl 1 rfl) ?_
    refine e_8_0 hx hb hts hown hK hH (hts _ wd_101) dX8_reasonOfCall_28 ?_
    refine lv_iconst (v := 3) hx hb dX8_reasonOfCall_31 (by decide) ?_
    obtain ⟨h10, hf⟩ := gd_some hf
    refine m_iald hx hb hK hH 1 (by decide) (by decide) rfl h10 dX8_reasonOfCall_32 ?_
    refine lv_aload_n hx hb dX8_reasonOfCall_33 rfl (lv_at hl 1 rfl) ?_
    refine e_8_0 hx hb hts hown hK hH (hts _ wd_101) dX8_reasonOfCall_34 ?_
    refine lv_iconst (v := 0) hx hb dX8_reasonOfCall_37 (by decide) ?_
    obtain ⟨h12, hf⟩ := gd_some hf
    refine m_iald hx hb hK hH 1 (by decide) (by decide) rfl h12 dX8_reasonOfCall_38 ?_
    have hg := gif hf
    refine lv_icmp_lt (tgt := 47) hx hb dX8_reasonOfCall_39 (by decide) (fun c13 => ?_) (fun c13 => ?_)
    · have hf := hg.1 c13
      refine lv_iconst (v := 0) hx hb dX8_reasonOfCall_47 (by decide) ?_
      have ho := Option.some.inj hf
      exact W.iret (v := 0) hx hb hr (fun t ht hW => ⟨⟨0, (), rfl, ho, hrE ht hH⟩, hS.F ht⟩) hS.2.2 dX8_reasonOfCall_48
    · have hf := hg.2 c13
      refine lv_bipush (v := 6) hx hb dX8_reasonOfCall_42 (by decide) ?_
      refine lv_goto (tgt := 48) hx hb dX8_reasonOfCall_44 (by decide) ?_
      have ho := Option.some.inj hf
      exact W.iret (v := 6) hx hb hr (fun t ht hW => ⟨⟨6, (), rfl, ho, hrE ht hH⟩, hS.F ht⟩) hS.2.2 dX8_reasonOfCall_48
  · have hf := hg.1 c8
    refine lv_iconst (v := 5) hx hb dX8_reasonOfCall_23 (by decide) ?_
    refine lv_goto (tgt := 48) hx hb dX8_reasonOfCall_24 (by decide) ?_
    have ho := Option.some.inj hf
    exact W.iret (v := 5) hx hb hr (fun t ht hW => ⟨⟨5, (), rfl, ho, hrE ht hH⟩, hS.F ht⟩) hS.2.2 dX8_reasonOfCall_48
set_option maxRecDepth 100000 in
set_option maxHeartbeats 8000000 in
theorem c8_reason (l : Launch) (w : GW) (K : GK) (g : GM) (S : GS) (p0 : Int32) (out : Int32) (hf : f8_reason S p0 = some out) : Met l yX8_reason (wA yX8_reason cX8_reason 4 (some .int)) ({ frames := 4, cells := 0, slots := 0, locals := 84 } : Room) (PRE w K g S [.ref w.2.2.2, .int p0]) (QI w K g S out) 0 0 (FR w) := by
  unfold f8_reason at hf
  refine Met.ofW (cc := cX8_reason) (maxL := 4) (ret := (some .int)) (by decide) rfl ?_
  intro p e s m args below meth c s₁ B hml hv
  obtain ⟨rfl, hH, hK⟩ := hv
  have hx := B.exec
  have hb := B.bytes
  have hr := B.returns
  have hts : ∀ q ∈ gALL, q.before _ s = true := fun q h => atoms_spec (ws := (wA yX8_reason cX8_reason 4 (some .int))) B.pre q (List.mem_cons_of_mem _ h)
  have hown : s.vm.findClass RX8 = some m.cls := findClass_of_methodNamed B.named
  have hlocks := B.notSynchronized
  have hS : va_S (FR w) s.heap s.heap [] := va_S.rf
  show W p l e ({ frames := 4, cells := 0, slots := 0, locals := 84 } : Room) s m _ below meth c s.heap [] 0 0 (MQ below (QI w K g S out) _ s 0 0 (FR w)) _
  have hl := lv_entry ([.ref w.2.2.2, .int p0]) (n := 4) (Nat.le_of_ble_eq_true rfl)
  rw [lg_entry_eq]
  generalize (lg_sl ([.ref w.2.2.2, .int p0]) ++ List.replicate (4 - (lg_sl ([.ref w.2.2.2, .int p0])).length) Slot.unset).toArray = ls at hl ⊢
  clear B
  generalize ([.ref w.2.2.2, .int p0] : List Value).toArray = args at hts ⊢
  have B65 : ∀ (x3 : Int32) (H : Heap) (locs : List Loc) (ls : Array Slot), HR w K g S H → va_S (FR w) s.heap H locs → lv_has ls 4 [(3, .int x3)] → f8_reason_65 S p0 x3 = some out → W p l e ({ frames := 4, cells := 0, slots := 0, locals := 84 } : Room) s m args below meth c H locs 0 0 (MQ below (QI w K g S out) args s 0 0 (FR w)) (F0 m 65 ls []) := by
    intro  x3 H locs ls hH hS hl hf
    unfold f8_reason_65 at hf
    refine lv_iload_n hx hb dX8_reason_65 rfl (lv_at hl 0 rfl) ?_
    have ho := Option.some.inj hf
    exact W.iret (v := x3) hx hb hr (fun t ht hW => ⟨⟨x3, (), rfl, ho, hrE ht hH⟩, hS.F ht⟩) hS.2.2 dX8_reason_66
  have B48 : ∀ (s0 : Int32) (H : Heap) (locs : List Loc) (ls : Array Slot), HR w K g S H → va_S (FR w) s.heap H locs → lv_has ls 4 [(1, .int p0)] → f8_reason_48 S p0 s0 = some out → W p l e ({ frames := 4, cells := 0, slots := 0, locals := 84 } : Room) s m args below meth c H locs 0 0 (MQ below (QI w K g S out) args s 0 0 (FR w)) (F0 m 48 ls [.int s0]) := by
    intro  s0 H locs ls hH hS hl hf
    unfold f8_reason_48 at hf
    refine lv_istore_n (lv' := [(3, .int s0), (1, .int p0)]) hx hb dX8_reason_48 rfl hl (by decide) rfl (fun ls hl => ?_)
    refine lv_iload_n hx hb dX8_reason_49 rfl (lv_at hl 0 rfl) ?_
    have hg := gif hf
    refine lv_if_ne (tgt := 65) hx hb dX8_reason_50 (by decide) (fun c1 => ?_) (fun c1 => ?_)
    · have hf := hg.2 c1
      exact B65 _ _ _ _ hH hS (lv_sub hl [0] rfl) hf
    · have hf := hg.1 c1
      refine lv_iload_n hx hb dX8_reason_53 rfl (lv_at hl 1 rfl) ?_
      refine lv_sipush (v := 500) hx hb dX8_reason_54 (by decide) ?_
      have hg := gif hf
      refine lv_icmp_lt (tgt := 65) hx hb dX8_reason_57 (by decide) (fun c2 => ?_) (fun c2 => ?_)
      · have hf := hg.1 c2
        exact B65 _ _ _ _ hH hS (lv_sub hl [0] rfl) hf
      · have hf := hg.2 c2
        refine lv_bipush (v := 7) hx hb dX8_reason_60 (by decide) ?_
        refine lv_goto (tgt := 66) hx hb dX8_reason_62 (by decide) ?_
        have ho := Option.some.inj hf
        exact W.iret (v := 7) hx hb hr (fun t ht hW => ⟨⟨7, (), rfl, ho, hrE ht hH⟩, hS.F ht⟩) hS.2.2 dX8_reason_66
  have hl : lv_has ls 4 [(0, .ref w.2.2.2), (1, .int p0)] := hl
  refine lv_aload_n hx hb dX8_reason_0 rfl (lv_at hl 0 rfl) ?_
  refine e_8_0 hx hb hts hown hK hH (hts _ wd_101) dX8_reason_1 ?_
  refine lv_iconst (v := 3) hx hb dX8_reason_4 (by decide) ?_
  obtain ⟨h4, hf⟩ := gd_some hf
  refine m_iald hx hb hK hH 1 (by decide) (by decide) rfl h4 dX8_reason_5 ?_
  have hg := gif hf
  refine lv_if_ne (tgt := 11) hx hb dX8_reason_6 (by decide) (fun c5 => ?_) (fun c5 => ?_)
  · have hf := hg.2 c5
    refine lv_aload_n hx hb dX8_reason_11 rfl (lv_at hl 0 rfl) ?_
    refine lv_aload_n hx hb dX8_reason_12 rfl (lv_at hl 0 rfl) ?_
    refine lv_iconst (v := 2) hx hb dX8_reason_13 (by decide) ?_
    obtain ⟨v6, h7, hf⟩ := gbind hf
    refine g_Vi (As := [.int 2]) (rest := [.ref w.2.2.2]) ⟨hx, hb, hml, hown, hts⟩ (c8_onTop l w K g S 2 v6 h7) (gcwV hts i8_onTop wd_465 rfl rfl ⟨Nat.le_of_ble_eq_true rfl, Nat.le_of_ble_eq_true rfl⟩) (gRecv.of hK rfl hH.ob) hH hK hS hl.1 rfl rfl (Nat.le_of_ble_eq_true rfl) dX8_reason_14 ⟨Nat.le_refl _, Nat.le_refl _⟩ (fun H locs hH hS => ?_)
    obtain ⟨v8, h9, hf⟩ := gbind hf
    refine g_Vi (As := [.int v6]) (rest := []) ⟨hx, hb, hml, hown, hts⟩ (c8_signAt l w K g S v6 v8 h9) (gcwV hts i8_signAt wd_469 rfl rfl ⟨Nat.le_of_ble_eq_true rfl, Nat.le_of_ble_eq_true rfl⟩) (gRecv.of hK rfl hH.ob) hH hK hS hl.1 rfl rfl (Nat.le_of_ble_eq_true rfl) dX8_reason_17 ⟨Nat.le_refl _, Nat.le_refl _⟩ (fun H locs hH hS => ?_)
    refine lv_istore_n (lv' := [(2, .int v8), (0, .ref w.2.2.2), (1, .int p0)]) hx hb dX8_reason_20 rfl hl (by decide) rfl (fun ls hl => ?_)
    refine lv_iload_n hx hb dX8_reason_21 rfl (lv_at hl 0 rfl) ?_
    refine lv_bipush (v := 119) hx hb dX8_reason_22 (by decide) ?_
    have hg := gif hf
    refine lv_icmp_ne (tgt := 34) hx hb dX8_reason_24 (by decide) (fun c10 => ?_) (fun c10 => ?_)
    · have hf := hg.2 c10
      refine lv_iload_n hx hb dX8_reason_34 rfl (lv_at hl 0 rfl) ?_
      refine lv_bipush (v := 107) hx hb dX8_reason_35 (by decide) ?_
      have hg := gif hf
      refine lv_icmp_ne (tgt := 47) hx hb dX8_reason_37 (by decide) (fun c11 => ?_) (fun c11 => ?_)
      · have hf := hg.2 c11
        refine lv_iconst (v := 0) hx hb dX8_reason_47 (by decide) ?_
        exact B48 _ _ _ _ hH hS (lv_sub hl [2] rfl) hf
      · have hf := hg.1 c11
        refine lv_aload_n hx hb dX8_reason_40 rfl (lv_at hl 1 rfl) ?_
        obtain ⟨v12, h13, hf⟩ := gbind hf
        refine g_Vi (As := []) (rest := []) ⟨hx, hb, hml, hown, hts⟩ (c8_reasonOfCall l w K g S v12 h13) (gcwV hts i8_reasonOfCall wd_477 rfl rfl ⟨Nat.le_of_ble_eq_true rfl, Nat.le_of_ble_eq_true rfl⟩) (gRecv.of hK rfl hH.ob) hH hK hS hl.1 rfl rfl (Nat.le_of_ble_eq_true rfl) dX8_reason_41 ⟨Nat.le_refl _, Nat.le_refl _⟩ (fun H locs hH hS => ?_)
        refine lv_goto (tgt := 48) hx hb dX8_reason_44 (by decide) ?_
        exact B48 _ _ _ _ hH hS (lv_sub hl [2] rfl) hf
    · have hf := hg.1 c10
      refine lv_aload_n hx hb dX8_reason_27 rfl (lv_at hl 1 rfl) ?_
      obtain ⟨v14, h15, hf⟩ := gbind hf
      refine g_Vi (As := []) (rest := []) ⟨hx, hb, hml, hown, hts⟩ (c8_reasonOfPick l w K g S v14 h15) (gcwV hts i8_reasonOfPick wd_473 rfl rfl ⟨Nat.le_of_ble_eq_true rfl, Nat.le_of_ble_eq_true rfl⟩) (gRecv.of hK rfl hH.ob) hH hK hS hl.1 rfl rfl (Nat.le_of_ble_eq_true rfl) dX8_reason_28 ⟨Nat.le_refl _, Nat.le_refl _⟩ (fun H locs hH hS => ?_)
      refine lv_goto (tgt := 48) hx hb dX8_reason_31 (by decide) ?_
      exact B48 _ _ _ _ hH hS (lv_sub hl [2] rfl) hf
  · have hf := hg.1 c5
    refine lv_iconst (v := 1) hx hb dX8_reason_9 (by decide) ?_
    have ho := Option.some.inj hf
    exact W.iret (v := 1) hx hb hr (fun t ht hW => ⟨⟨1, (), rfl, ho, hrE ht hH⟩, hS.F ht⟩) hS.2.2 dX8_reason_10
set_option maxRecDepth 100000 in
set_option maxHeartbeats 8000000 in
theorem c8_countAt (l : Launch) (w : GW) (K : GK) (g : GM) (S : GS) (p0 : Int32) (out : Int32) (hf : f8_countAt S p0 = some out) : Met l yX8_countAt (wA yX8_countAt cX8_countAt 3 (some .int)) ({ frames := 3, cells := 0, slots := 0, locals := 63 } : Room) (PRE w K g S [.ref w.2.2.2, .int p0]) (QI w K g S out) 0 0 (FR w) := by
  unfold f8_countAt at hf
  refine Met.ofW (cc := cX8_countAt) (maxL := 3) (ret := (some .int)) (by decide) rfl ?_
  intro p e s m args below meth c s₁ B hml hv
  obtain ⟨rfl, hH, hK⟩ := hv
  have hx := B.exec
  have hb := B.bytes
  have hr := B.returns
  have hts : ∀ q ∈ gALL, q.before _ s = true := fun q h => atoms_spec (ws := (wA yX8_countAt cX8_countAt 3 (some .int))) B.pre q (List.mem_cons_of_mem _ h)
  have hown : s.vm.findClass RX8 = some m.cls := findClass_of_methodNamed B.named
  have hlocks := B.notSynchronized
  have hS : va_S (FR w) s.heap s.heap [] := va_S.rf
  show W p l e ({ frames := 3, cells := 0, slots := 0, locals := 63 } : Room) s m _ below meth c s.heap [] 0 0 (MQ below (QI w K g S out) _ s 0 0 (FR w)) _
  have hl := lv_entry ([.ref w.2.2.2, .int p0]) (n := 3) (Nat.le_of_ble_eq_true rfl)
  rw [lg_entry_eq]
  generalize (lg_sl ([.ref w.2.2.2, .int p0]) ++ List.replicate (3 - (lg_sl ([.ref w.2.2.2, .int p0])).length) Slot.unset).toArray = ls at hl ⊢
  clear B
  generalize ([.ref w.2.2.2, .int p0] : List Value).toArray = args at hts ⊢
  have B26 : ∀ (s0 : Int32) (H : Heap) (locs : List Loc) (ls : Array Slot), HR w K g S H → va_S (FR w) s.heap H locs → lv_has ls 3 [] → f8_countAt_26 S p0 s0 = some out → W p l e ({ frames := 3, cells := 0, slots := 0, locals := 63 } : Room) s m args below meth c H locs 0 0 (MQ below (QI w K g S out) args s 0 0 (FR w)) (F0 m 26 ls [.int s0]) := by
    intro  s0 H locs ls hH hS hl hf
    unfold f8_countAt_26 at hf
    refine lv_istore_n (lv' := [(2, .int s0)]) hx hb dX8_countAt_26 rfl hl (by decide) rfl (fun ls hl => ?_)
    refine lv_iload_n hx hb dX8_countAt_27 rfl (lv_at hl 0 rfl) ?_
    refine lv_iconst (v := 2) hx hb dX8_countAt_28 (by decide) ?_
    refine lv_bipush (v := 9) hx hb dX8_countAt_29 (by decide) ?_
    obtain ⟨v1, h2, hf⟩ := gbind hf
    refine g_Si (As := [.int s0, .int 2, .int 9]) (rest := []) ⟨hx, hb, hml, hown, hts⟩ (c8_within l w K g S s0 2 9 v1 h2) (gcwS hts i8_within wd_155 rfl rfl ⟨Nat.le_of_ble_eq_true rfl, Nat.le_of_ble_eq_true rfl⟩) hH hK hS hl.1 rfl rfl (Nat.le_of_ble_eq_true rfl) dX8_countAt_31 ⟨Nat.le_refl _, Nat.le_refl _⟩ (fun H locs hH hS => ?_)
    have hg := gif hf
    refine lv_if_eq (tgt := 41) hx hb dX8_countAt_34 (by decide) (fun c3 => ?_) (fun c3 => ?_)
    · have hf := hg.1 c3
      refine lv_iconst (v := 1) hx hb dX8_countAt_41 (by decide) ?_
      have ho := Option.some.inj hf
      exact W.iret (v := 1) hx hb hr (fun t ht hW => ⟨⟨1, (), rfl, ho, hrE ht hH⟩, hS.F ht⟩) hS.2.2 dX8_countAt_42
    · have hf := hg.2 c3
      refine lv_iload_n hx hb dX8_countAt_37 rfl (lv_at hl 0 rfl) ?_
      refine lv_goto (tgt := 42) hx hb dX8_countAt_38 (by decide) ?_
      have ho := Option.some.inj hf
      exact W.iret (v := s0) hx hb hr (fun t ht hW => ⟨⟨s0, (), rfl, ho, hrE ht hH⟩, hS.F ht⟩) hS.2.2 dX8_countAt_42
  have hl : lv_has ls 3 [(0, .ref w.2.2.2), (1, .int p0)] := hl
  refine lv_iload_n hx hb dX8_countAt_0 rfl (lv_at hl 1 rfl) ?_
  refine lv_iconst (v := 1) hx hb dX8_countAt_1 (by decide) ?_
  refine lv_iadd hx hb dX8_countAt_2 ?_
  refine lv_aload_n hx hb dX8_countAt_3 rfl (lv_at hl 0 rfl) ?_
  refine lv_bipush (v := 11) hx hb dX8_countAt_4 (by decide) ?_
  obtain ⟨v4, h5, hf⟩ := gbind hf
  refine g_Vi (As := [.int 11]) (rest := [.int (p0 + 1)]) ⟨hx, hb, hml, hown, hts⟩ (c8_onTop l w K g S 11 v4 h5) (gcwV hts i8_onTop wd_465 rfl rfl ⟨Nat.le_of_ble_eq_true rfl, Nat.le_of_ble_eq_true rfl⟩) (gRecv.of hK rfl hH.ob) hH hK hS hl.1 rfl rfl (Nat.le_of_ble_eq_true rfl) dX8_countAt_6 ⟨Nat.le_refl _, Nat.le_refl _⟩ (fun H locs hH hS => ?_)
  have hg := gif hf
  refine lv_icmp_ge (tgt := 25) hx hb dX8_countAt_9 (by decide) (fun c6 => ?_) (fun c6 => ?_)
  · have hf := hg.1 c6
    refine lv_iconst (v := 0) hx hb dX8_countAt_25 (by decide) ?_
    exact B26 _ _ _ _ hH hS (lv_sub hl [] rfl) hf
  · have hf := hg.2 c6
    refine lv_aload_n hx hb dX8_countAt_12 rfl (lv_at hl 0 rfl) ?_
    refine lv_iload_n hx hb dX8_countAt_13 rfl (lv_at hl 1 rfl) ?_
    refine lv_iconst (v := 1) hx hb dX8_countAt_14 (by decide) ?_
    refine lv_iadd hx hb dX8_countAt_15 ?_
    obtain ⟨v7, h8, hf⟩ := gbind hf
    refine g_Vi (As := [.int (p0 + 1)]) (rest := []) ⟨hx, hb, hml, hown, hts⟩ (c8_signAt l w K g S (p0 + 1) v7 h8) (gcwV hts i8_signAt wd_469 rfl rfl ⟨Nat.le_of_ble_eq_true rfl, Nat.le_of_ble_eq_true rfl⟩) (gRecv.of hK rfl hH.ob) hH hK hS hl.1 rfl rfl (Nat.le_of_ble_eq_true rfl) dX8_countAt_16 ⟨Nat.le_refl _, Nat.le_refl _⟩ (fun H locs hH hS => ?_)
    refine lv_bipush (v := 48) hx hb dX8_countAt_19 (by decide) ?_
    refine lv_isub hx hb dX8_countAt_21 ?_
    refine lv_goto (tgt := 26) hx hb dX8_countAt_22 (by decide) ?_
    exact B26 _ _ _ _ hH hS (lv_sub hl [] rfl) hf
set_option maxRecDepth 100000 in
set_option maxHeartbeats 8000000 in
theorem c8_leftHere (l : Launch) (w : GW) (K : GK) (g : GM) (S : GS) (out : Int32) (hf : f8_leftHere S = some out) : Met l yX8_leftHere (wA yX8_leftHere cX8_leftHere 1 (some .int)) ({ frames := 4, cells := 0, slots := 0, locals := 85 } : Room) (PRE w K g S [.ref w.2.2.2]) (QI w K g S out) 0 0 (FR w) := by
  unfold f8_leftHere at hf
  refine Met.ofW (cc := cX8_leftHere) (maxL := 1) (ret := (some .int)) (by decide) rfl ?_
  intro p e s m args below meth c s₁ B hml hv
  obtain ⟨rfl, hH, hK⟩ := hv
  have hx := B.exec
  have hb := B.bytes
  have hr := B.returns
  have hts : ∀ q ∈ gALL, q.before _ s = true := fun q h => atoms_spec (ws := (wA yX8_leftHere cX8_leftHere 1 (some .int))) B.pre q (List.mem_cons_of_mem _ h)
  have hown : s.vm.findClass RX8 = some m.cls := findClass_of_methodNamed B.named
  have hlocks := B.notSynchronized
  have hS : va_S (FR w) s.heap s.heap [] := va_S.rf
  show W p l e ({ frames := 4, cells := 0, slots := 0, locals := 85 } : Room) s m _ below meth c s.heap [] 0 0 (MQ below (QI w K g S out) _ s 0 0 (FR w)) _
  have hl := lv_entry ([.ref w.2.2.2]) (n := 1) (Nat.le_of_ble_eq_true rfl)
  rw [lg_entry_eq]
  generalize (lg_sl ([.ref w.2.2.2]) ++ List.replicate (1 - (lg_sl ([.ref w.2.2.2])).length) Slot.unset).toArray = ls at hl ⊢
  clear B
  generalize ([.ref w.2.2.2] : List Value).toArray = args at hts ⊢
  have hl : lv_has ls 1 [(0, .ref w.2.2.2)] := hl
  refine lv_aload_n hx hb dX8_leftHere_0 rfl (lv_at hl 0 rfl) ?_
  refine lv_iconst (v := 3) hx hb dX8_leftHere_1 (by decide) ?_
  obtain ⟨v1, h2, hf⟩ := gbind hf
  refine g_Vi (As := [.int 3]) (rest := []) ⟨hx, hb, hml, hown, hts⟩ (c8_onTop l w K g S 3 v1 h2) (gcwV hts i8_onTop wd_465 rfl rfl ⟨Nat.le_of_ble_eq_true rfl, Nat.le_of_ble_eq_true rfl⟩) (gRecv.of hK rfl hH.ob) hH hK hS hl.1 rfl rfl (Nat.le_of_ble_eq_true rfl) dX8_leftHere_2 ⟨Nat.le_refl _, Nat.le_refl _⟩ (fun H locs hH hS => ?_)
  have hg := gif hf
  refine lv_if_le (tgt := 16) hx hb dX8_leftHere_5 (by decide) (fun c3 => ?_) (fun c3 => ?_)
  · have hf := hg.1 c3
    refine lv_aload_n hx hb dX8_leftHere_16 rfl (lv_at hl 0 rfl) ?_
    refine lv_aload_n hx hb dX8_leftHere_17 rfl (lv_at hl 0 rfl) ?_
    refine lv_iconst (v := 2) hx hb dX8_leftHere_18 (by decide) ?_
    obtain ⟨v4, h5, hf⟩ := gbind hf
    refine g_Vi (As := [.int 2]) (rest := [.ref w.2.2.2]) ⟨hx, hb, hml, hown, hts⟩ (c8_onTop l w K g S 2 v4 h5) (gcwV hts i8_onTop wd_465 rfl rfl ⟨Nat.le_of_ble_eq_true rfl, Nat.le_of_ble_eq_true rfl⟩) (gRecv.of hK rfl hH.ob) hH hK hS hl.1 rfl rfl (Nat.le_of_ble_eq_true rfl) dX8_leftHere_19 ⟨Nat.le_refl _, Nat.le_refl _⟩ (fun H locs hH hS => ?_)
    obtain ⟨v6, h7, hf⟩ := gbind hf
    refine g_Vi (As := [.int v4]) (rest := []) ⟨hx, hb, hml, hown, hts⟩ (c8_countAt l w K g S v4 v6 h7) (gcwV hts i8_countAt wd_497 rfl rfl ⟨Nat.le_of_ble_eq_true rfl, Nat.le_of_ble_eq_true rfl⟩) (gRecv.of hK rfl hH.ob) hH hK hS hl.1 rfl rfl (Nat.le_of_ble_eq_true rfl) dX8_leftHere_22 ⟨Nat.le_refl _, Nat.le_refl _⟩ (fun H locs hH hS => ?_)
    have ho := Option.some.inj hf
    exact W.iret (v := v6) hx hb hr (fun t ht hW => ⟨⟨v6, (), rfl, ho, hrE ht hH⟩, hS.F ht⟩) hS.2.2 dX8_leftHere_25
  · have hf := hg.2 c3
    refine lv_aload_n hx hb dX8_leftHere_8 rfl (lv_at hl 0 rfl) ?_
    refine lv_iconst (v := 3) hx hb dX8_leftHere_9 (by decide) ?_
    obtain ⟨v8, h9, hf⟩ := gbind hf
    refine g_Vi (As := [.int 3]) (rest := []) ⟨hx, hb, hml, hown, hts⟩ (c8_onTop l w K g S 3 v8 h9) (gcwV hts i8_onTop wd_465 rfl rfl ⟨Nat.le_of_ble_eq_true rfl, Nat.le_of_ble_eq_true rfl⟩) (gRecv.of hK rfl hH.ob) hH hK hS hl.1 rfl rfl (Nat.le_of_ble_eq_true rfl) dX8_leftHere_10 ⟨Nat.le_refl _, Nat.le_refl _⟩ (fun H locs hH hS => ?_)
    refine lv_goto (tgt := 25) hx hb dX8_leftHere_13 (by decide) ?_
    have ho := Option.some.inj hf
    exact W.iret (v := v8) hx hb hr (fun t ht hW => ⟨⟨v8, (), rfl, ho, hrE ht hH⟩, hS.F ht⟩) hS.2.2 dX8_leftHere_25
set_option maxRecDepth 100000 in
set_option maxHeartbeats 8000000 in
theorem c8_setTop (l : Launch) (w : GW) (K : GK) (g : GM) (S : GS) (p0 : Int32) (p1 : Int32) (out : GS) (hf : f8_setTop S p0 p1 = some out) : Met l yX8_setTop (wA yX8_setTop cX8_setTop 3 none) ({ frames := 1, cells := 0, slots := 0, locals := 21 } : Room) (PRE w K g S [.ref w.2.2.2, .int p0, .int p1]) (QV w K g out) 0 0 (FR w) := by
  unfold f8_setTop at hf
  refine Met.ofW (cc := cX8_setTop) (maxL := 3) (ret := none) (by decide) rfl ?_
  intro p e s m args below meth c s₁ B hml hv
  obtain ⟨rfl, hH, hK⟩ := hv
  have hx := B.exec
  have hb := B.bytes
  have hr := B.returns
  have hts : ∀ q ∈ gALL, q.before _ s = true := fun q h => atoms_spec (ws := (wA yX8_setTop cX8_setTop 3 none)) B.pre q (List.mem_cons_of_mem _ h)
  have hown : s.vm.findClass RX8 = some m.cls := findClass_of_methodNamed B.named
  have hlocks := B.notSynchronized
  have hS : va_S (FR w) s.heap s.heap [] := va_S.rf
  show W p l e ({ frames := 1, cells := 0, slots := 0, locals := 21 } : Room) s m _ below meth c s.heap [] 0 0 (MQ below (QV w K g out) _ s 0 0 (FR w)) _
  have hl := lv_entry ([.ref w.2.2.2, .int p0, .int p1]) (n := 3) (Nat.le_of_ble_eq_true rfl)
  rw [lg_entry_eq]
  generalize (lg_sl ([.ref w.2.2.2, .int p0, .int p1]) ++ List.replicate (3 - (lg_sl ([.ref w.2.2.2, .int p0, .int p1])).length) Slot.unset).toArray = ls at hl ⊢
  clear B
  generalize ([.ref w.2.2.2, .int p0, .int p1] : List Value).toArray = args at hts ⊢
  have hl : lv_has ls 3 [(0, .ref w.2.2.2), (1, .int p0), (2, .int p1)] := hl
  refine lv_aload_n hx hb dX8_setTop_0 rfl (lv_at hl 0 rfl) ?_
  refine e_8_0 hx hb hts hown hK hH (hts _ wd_101) dX8_setTop_1 ?_
  refine lv_aload_n hx hb dX8_setTop_4 rfl (lv_at hl 0 rfl) ?_
  refine lv_iconst (v := 0) hx hb dX8_setTop_5 (by decide) ?_
  obtain ⟨v1, h2, hf⟩ := gbind hf
  refine g_Vi (As := [.int 0]) (rest := [.ref (w.2.2.2 + 1)]) ⟨hx, hb, hml, hown, hts⟩ (c8_frame l w K g S 0 v1 h2) (gcwV hts i8_frame wd_364 rfl rfl ⟨Nat.le_of_ble_eq_true rfl, Nat.le_of_ble_eq_true rfl⟩) (gRecv.of hK rfl hH.ob) hH hK hS hl.1 rfl rfl (Nat.le_of_ble_eq_true rfl) dX8_setTop_6 ⟨Nat.le_refl _, Nat.le_refl _⟩ (fun H locs hH hS => ?_)
  refine lv_iload_n hx hb dX8_setTop_9 rfl (lv_at hl 1 rfl) ?_
  refine lv_iadd hx hb dX8_setTop_10 ?_
  refine lv_iload_n hx hb dX8_setTop_11 rfl (lv_at hl 2 rfl) ?_
  obtain ⟨h4, hf⟩ := gd_some hf
  refine m_iast hx hb hK hH hS 1 (by decide) (by decide) rfl h4 dX8_setTop_12 (fun H locs hH hS => ?_)
  obtain ⟨S5, eS5⟩ : ∃ z : GS, z = ssI S 1 (v1 + p0).toNatClampNeg p1 := ⟨_, rfl⟩
  have hf := gl_at hf eS5
  replace hH : HR w K g S5 H := by rw [eS5]; exact hH
  have ho := Option.some.inj hf
  exact W.vret hx hb hr (fun t ht hW => ⟨⟨(), rfl, trivial, hrVm ht ho hH⟩, hS.F ht⟩) hS.2.2 dX8_setTop_13
set_option maxRecDepth 100000 in
set_option maxHeartbeats 8000000 in
theorem c8_go (l : Launch) (w : GW) (K : GK) (g : GM) (S : GS) (p0 : Int32) (out : GS) (hf : f8_go S p0 = some out) : Met l yX8_go (wA yX8_go cX8_go 2 none) ({ frames := 2, cells := 0, slots := 0, locals := 43 } : Room) (PRE w K g S [.ref w.2.2.2, .int p0]) (QV w K g out) 0 0 (FR w) := by
  unfold f8_go at hf
  refine Met.ofW (cc := cX8_go) (maxL := 2) (ret := none) (by decide) rfl ?_
  intro p e s m args below meth c s₁ B hml hv
  obtain ⟨rfl, hH, hK⟩ := hv
  have hx := B.exec
  have hb := B.bytes
  have hr := B.returns
  have hts : ∀ q ∈ gALL, q.before _ s = true := fun q h => atoms_spec (ws := (wA yX8_go cX8_go 2 none)) B.pre q (List.mem_cons_of_mem _ h)
  have hown : s.vm.findClass RX8 = some m.cls := findClass_of_methodNamed B.named
  have hlocks := B.notSynchronized
  have hS : va_S (FR w) s.heap s.heap [] := va_S.rf
  show W p l e ({ frames := 2, cells := 0, slots := 0, locals := 43 } : Room) s m _ below meth c s.heap [] 0 0 (MQ below (QV w K g out) _ s 0 0 (FR w)) _
  have hl := lv_entry ([.ref w.2.2.2, .int p0]) (n := 2) (Nat.le_of_ble_eq_true rfl)
  rw [lg_entry_eq]
  generalize (lg_sl ([.ref w.2.2.2, .int p0]) ++ List.replicate (2 - (lg_sl ([.ref w.2.2.2, .int p0])).length) Slot.unset).toArray = ls at hl ⊢
  clear B
  generalize ([.ref w.2.2.2, .int p0] : List Value).toArray = args at hts ⊢
  have hl : lv_has ls 2 [(0, .ref w.2.2.2), (1, .int p0)] := hl
  refine lv_aload_n hx hb dX8_go_0 rfl (lv_at hl 0 rfl) ?_
  refine lv_iconst (v := 2) hx hb dX8_go_1 (by decide) ?_
  refine lv_aload_n hx hb dX8_go_2 rfl (lv_at hl 0 rfl) ?_
  refine lv_iconst (v := 2) hx hb dX8_go_3 (by decide) ?_
  obtain ⟨v1, h2, hf⟩ := gbind hf
  refine g_Vi (As := [.int 2]) (rest := [.int 2, .ref w.2.2.2]) ⟨hx, hb, hml, hown, hts⟩ (c8_onTop l w K g S 2 v1 h2) (gcwV hts i8_onTop wd_465 rfl rfl ⟨Nat.le_of_ble_eq_true rfl, Nat.le_of_ble_eq_true rfl⟩) (gRecv.of hK rfl hH.ob) hH hK hS hl.1 rfl rfl (Nat.le_of_ble_eq_true rfl) dX8_go_4 ⟨Nat.le_refl _, Nat.le_refl _⟩ (fun H locs hH hS => ?_)
  refine lv_iload_n hx hb dX8_go_7 rfl (lv_at hl 1 rfl) ?_
  refine lv_iadd hx hb dX8_go_8 ?_
  obtain ⟨g3, h4, hf⟩ := gbind hf
  refine g_Vv (As := [.int 2, .int (v1 + p0)]) (rest := []) ⟨hx, hb, hml, hown, hts⟩ (c8_setTop l w K g S 2 (v1 + p0) g3 h4) (gcwV hts i8_setTop wd_360 rfl rfl ⟨Nat.le_of_ble_eq_true rfl, Nat.le_of_ble_eq_true rfl⟩) (gRecv.of hK rfl hH.ob) hH hK hS hl.1 rfl rfl (Nat.le_of_ble_eq_true rfl) dX8_go_9 ⟨Nat.le_refl _, Nat.le_refl _⟩ (fun H locs hH hS => ?_)
  have ho := Option.some.inj hf
  exact W.vret hx hb hr (fun t ht hW => ⟨⟨(), rfl, trivial, hrVm ht ho hH⟩, hS.F ht⟩) hS.2.2 dX8_go_12
set_option maxRecDepth 100000 in
set_option maxHeartbeats 8000000 in
theorem c8_donePick (l : Launch) (w : GW) (K : GK) (g : GM) (S : GS) (out : GS) (hf : f8_donePick S = some out) : Met l yX8_donePick (wA yX8_donePick cX8_donePick 2 none) ({ frames := 5, cells := 0, slots := 0, locals := 105 } : Room) (PRE w K g S [.ref w.2.2.2]) (QV w K g out) 0 0 (FR w) := by
  unfold f8_donePick at hf
  refine Met.ofW (cc := cX8_donePick) (maxL := 2) (ret := none) (by decide) rfl ?_
  intro p e s m args below meth c s₁ B hml hv
  obtain ⟨rfl, hH, hK⟩ := hv
  have hx := B.exec
  have hb := B.bytes
  have hr := B.returns
  have hts : ∀ q ∈ gALL, q.before _ s = true := fun q h => atoms_spec (ws := (wA yX8_donePick cX8_donePick 2 none)) B.pre q (List.mem_cons_of_mem _ h)
  have hown : s.vm.findClass RX8 = some m.cls := findClass_of_methodNamed B.named
  have hlocks := B.notSynchronized
  have hS : va_S (FR w) s.heap s.heap [] := va_S.rf
  show W p l e ({ frames := 5, cells := 0, slots := 0, locals := 105 } : Room) s m _ below meth c s.heap [] 0 0 (MQ below (QV w K g out) _ s 0 0 (FR w)) _
  have hl := lv_entry ([.ref w.2.2.2]) (n := 2) (Nat.le_of_ble_eq_true rfl)
  rw [lg_entry_eq]
  generalize (lg_sl ([.ref w.2.2.2]) ++ List.replicate (2 - (lg_sl ([.ref w.2.2.2])).length) Slot.unset).toArray = ls at hl ⊢
  clear B
  generalize ([.ref w.2.2.2] : List Value).toArray = args at hts ⊢
  have B36 : ∀ (S : GS) (s1 : Int32) (H : Heap) (locs : List Loc) (ls : Array Slot), HR w K g S H → va_S (FR w) s.heap H locs → lv_has ls 2 [] → f8_donePick_36 S s1 = some out → W p l e ({ frames := 5, cells := 0, slots := 0, locals := 105 } : Room) s m args below meth c H locs 0 0 (MQ below (QV w K g out) args s 0 0 (FR w)) (F0 m 36 ls [.int s1, .ref w.2.2.2]) := by
    intro  S s1 H locs ls hH hS hl hf
    unfold f8_donePick_36 at hf
    obtain ⟨g1, h2, hf⟩ := gbind hf
    refine g_Vv (As := [.int s1]) (rest := []) ⟨hx, hb, hml, hown, hts⟩ (c8_go l w K g S s1 g1 h2) (gcwV hts i8_go wd_501 rfl rfl ⟨Nat.le_of_ble_eq_true rfl, Nat.le_of_ble_eq_true rfl⟩) (gRecv.of hK rfl hH.ob) hH hK hS hl.1 rfl rfl (Nat.le_of_ble_eq_true rfl) dX8_donePick_36 ⟨Nat.le_refl _, Nat.le_refl _⟩ (fun H locs hH hS => ?_)
    have ho := Option.some.inj hf
    exact W.vret hx hb hr (fun t ht hW => ⟨⟨(), rfl, trivial, hrVm ht ho hH⟩, hS.F ht⟩) hS.2.2 dX8_donePick_39
  have hl : lv_has ls 2 [(0, .ref w.2.2.2)] := hl
  refine lv_aload_n hx hb dX8_donePick_0 rfl (lv_at hl 0 rfl) ?_
  obtain ⟨v3, h4, hf⟩ := gbind hf
  refine g_Vi (As := []) (rest := []) ⟨hx, hb, hml, hown, hts⟩ (c8_leftHere l w K g S v3 h4) (gcwV hts i8_leftHere wd_493 rfl rfl ⟨Nat.le_of_ble_eq_true rfl, Nat.le_of_ble_eq_true rfl⟩) (gRecv.of hK rfl hH.ob) hH hK hS hl.1 rfl rfl (Nat.le_of_ble_eq_true rfl) dX8_donePick_1 ⟨Nat.le_refl _, Nat.le_refl _⟩ (fun H locs hH hS => ?_)
  refine lv_iconst (v := 1) hx hb dX8_donePick_4 (by decide) ?_
  refine lv_isub hx hb dX8_donePick_5 ?_
  refine lv_topi (fun v5 ev5 => ?_)
  have hf := gl_at hf ev5
  refine lv_istore_n (lv' := [(1, .int v5), (0, .ref w.2.2.2)]) hx hb dX8_donePick_6 rfl hl (by decide) rfl (fun ls hl => ?_)
  refine lv_aload_n hx hb dX8_donePick_7 rfl (lv_at hl 1 rfl) ?_
  refine lv_iconst (v := 3) hx hb dX8_donePick_8 (by decide) ?_
  refine lv_iload_n hx hb dX8_donePick_9 rfl (lv_at hl 0 rfl) ?_
  obtain ⟨g6, h7, hf⟩ := gbind hf
  refine g_Vv (As := [.int 3, .int v5]) (rest := []) ⟨hx, hb, hml, hown, hts⟩ (c8_setTop l w K g S 3 v5 g6 h7) (gcwV hts i8_setTop wd_360 rfl rfl ⟨Nat.le_of_ble_eq_true rfl, Nat.le_of_ble_eq_true rfl⟩) (gRecv.of hK rfl hH.ob) hH hK hS hl.1 rfl rfl (Nat.le_of_ble_eq_true rfl) dX8_donePick_10 ⟨Nat.le_refl _, Nat.le_refl _⟩ (fun H locs hH hS => ?_)
  refine lv_iload_n hx hb dX8_donePick_13 rfl (lv_at hl 0 rfl) ?_
  have hg := gif hf
  refine lv_if_ne (tgt := 39) hx hb dX8_donePick_14 (by decide) (fun c8 => ?_) (fun c8 => ?_)
  · have hf := hg.2 c8
    have ho := Option.some.inj hf
    exact W.vret hx hb hr (fun t ht hW => ⟨⟨(), rfl, trivial, hrVm ht ho hH⟩, hS.F ht⟩) hS.2.2 dX8_donePick_39
  · have hf := hg.1 c8
    refine lv_aload_n hx hb dX8_donePick_17 rfl (lv_at hl 1 rfl) ?_
    refine lv_aload_n hx hb dX8_donePick_18 rfl (lv_at hl 1 rfl) ?_
    refine lv_aload_n hx hb dX8_donePick_19 rfl (lv_at hl 1 rfl) ?_
    refine lv_iconst (v := 2) hx hb dX8_donePick_20 (by decide) ?_
    obtain ⟨v9, h10, hf⟩ := gbind hf
    refine g_Vi (As := [.int 2]) (rest := [.ref w.2.2.2, .ref w.2.2.2]) ⟨hx, hb, hml, hown, hts⟩ (c8_onTop l w K g g6 2 v9 h10) (gcwV hts i8_onTop wd_465 rfl rfl ⟨Nat.le_of_ble_eq_true rfl, Nat.le_of_ble_eq_true rfl⟩) (gRecv.of hK rfl hH.ob) hH hK hS hl.1 rfl rfl (Nat.le_of_ble_eq_true rfl) dX8_donePick_21 ⟨Nat.le_refl _, Nat.le_refl _⟩ (fun H locs hH hS => ?_)
    obtain ⟨v11, h12, hf⟩ := gbind hf
    refine g_Vi (As := [.int v9]) (rest := [.ref w.2.2.2]) ⟨hx, hb, hml, hown, hts⟩ (c8_countAt l w K g g6 v9 v11 h12) (gcwV hts i8_countAt wd_497 rfl rfl ⟨Nat.le_of_ble_eq_true rfl, Nat.le_of_ble_eq_true rfl⟩) (gRecv.of hK rfl hH.ob) hH hK hS hl.1 rfl rfl (Nat.le_of_ble_eq_true rfl) dX8_donePick_24 ⟨Nat.le_refl _, Nat.le_refl _⟩ (fun H locs hH hS => ?_)
    refine lv_iconst (v := 1) hx hb dX8_donePick_27 (by decide) ?_
    have hg := gif hf
    refine lv_icmp_le (tgt := 35) hx hb dX8_donePick_28 (by decide) (fun c13 => ?_) (fun c13 => ?_)
    · have hf := hg.1 c13
      refine lv_iconst (v := 1) hx hb dX8_donePick_35 (by decide) ?_
      exact B36 _ _ _ _ _ hH hS (lv_sub hl [] rfl) hf
    · have hf := hg.2 c13
      refine lv_iconst (v := 2) hx hb dX8_donePick_31 (by decide) ?_
      refine lv_goto (tgt := 36) hx hb dX8_donePick_32 (by decide) ?_
      exact B36 _ _ _ _ _ hH hS (lv_sub hl [] rfl) hf
set_option maxRecDepth 100000 in
set_option maxHeartbeats 8000000 in
theorem c8_weavePick (l : Launch) (w : GW) (K : GK) (g : GM) (S : GS) (out : GS) (hf : f8_weavePick S = some out) : Met l yX8_weavePick (wA yX8_weavePick cX8_weavePick 2 none) ({ frames := 6, cells := 0, slots := 0, locals := 126 } : Room) (PRE w K g S [.ref w.2.2.2]) (QV w K g out) 0 0 (FR w) := by
  unfold f8_weavePick at hf
  refine Met.ofW (cc := cX8_weavePick) (maxL := 2) (ret := none) (by decide) rfl ?_
  intro p e s m args below meth c s₁ B hml hv
  obtain ⟨rfl, hH, hK⟩ := hv
  have hx := B.exec
  have hb := B.bytes
  have hr := B.returns
  have hts : ∀ q ∈ gALL, q.before _ s = true := fun q h => atoms_spec (ws := (wA yX8_weavePick cX8_weavePick 2 none)) B.pre q (List.mem_cons_of_mem _ h)
  have hown : s.vm.findClass RX8 = some m.cls := findClass_of_methodNamed B.named
  have hlocks := B.notSynchronized
  have hS : va_S (FR w) s.heap s.heap [] := va_S.rf
  show W p l e ({ frames := 6, cells := 0, slots := 0, locals := 126 } : Room) s m _ below meth c s.heap [] 0 0 (MQ below (QV w K g out) _ s 0 0 (FR w)) _
  have hl := lv_entry ([.ref w.2.2.2]) (n := 2) (Nat.le_of_ble_eq_true rfl)
  rw [lg_entry_eq]
  generalize (lg_sl ([.ref w.2.2.2]) ++ List.replicate (2 - (lg_sl ([.ref w.2.2.2])).length) Slot.unset).toArray = ls at hl ⊢
  clear B
  generalize ([.ref w.2.2.2] : List Value).toArray = args at hts ⊢
  have hl : lv_has ls 2 [(0, .ref w.2.2.2)] := hl
  refine lv_aload_n hx hb dX8_weavePick_0 rfl (lv_at hl 0 rfl) ?_
  refine lv_iconst (v := 1) hx hb dX8_weavePick_1 (by decide) ?_
  obtain ⟨v1, h2, hf⟩ := gbind hf
  refine g_Vi (As := [.int 1]) (rest := []) ⟨hx, hb, hml, hown, hts⟩ (c8_onTop l w K g S 1 v1 h2) (gcwV hts i8_onTop wd_465 rfl rfl ⟨Nat.le_of_ble_eq_true rfl, Nat.le_of_ble_eq_true rfl⟩) (gRecv.of hK rfl hH.ob) hH hK hS hl.1 rfl rfl (Nat.le_of_ble_eq_true rfl) dX8_weavePick_2 ⟨Nat.le_refl _, Nat.le_refl _⟩ (fun H locs hH hS => ?_)
  refine lv_istore_n (lv' := [(1, .int v1), (0, .ref w.2.2.2)]) hx hb dX8_weavePick_5 rfl hl (by decide) rfl (fun ls hl => ?_)
  refine lv_aload_n hx hb dX8_weavePick_6 rfl (lv_at hl 1 rfl) ?_
  refine e_8_0 hx hb hts hown hK hH (hts _ wd_101) dX8_weavePick_7 ?_
  refine lv_bipush (v := 19) hx hb dX8_weavePick_10 (by decide) ?_
  refine lv_iload_n hx hb dX8_weavePick_12 rfl (lv_at hl 0 rfl) ?_
  refine lv_iadd hx hb dX8_weavePick_13 ?_
  refine lv_dup2_11 hx hb dX8_weavePick_14 rfl rfl ?_
  obtain ⟨h4, hf⟩ := gd_some hf
  refine m_iald hx hb hK hH 1 (by decide) (by decide) rfl h4 dX8_weavePick_15 ?_
  refine lv_iconst (v := 1) hx hb dX8_weavePick_16 (by decide) ?_
  refine lv_isub hx hb dX8_weavePick_17 ?_
  refine m_iast hx hb hK hH hS 1 (by decide) (by decide) rfl h4 dX8_weavePick_18 (fun H locs hH hS => ?_)
  obtain ⟨S6, eS6⟩ : ∃ z : GS, z = ssI S 1 (19 + v1).toNatClampNeg ((S 1 (19 + v1).toNatClampNeg) - 1) := ⟨_, rfl⟩
  have hf := gl_at hf eS6
  replace hH : HR w K g S6 H := by rw [eS6]; exact hH
  refine lv_aload_n hx hb dX8_weavePick_19 rfl (lv_at hl 1 rfl) ?_
  refine e_8_0 hx hb hts hown hK hH (hts _ wd_101) dX8_weavePick_20 ?_
  refine lv_bipush (v := 25) hx hb dX8_weavePick_23 (by decide) ?_
  refine lv_iload_n hx hb dX8_weavePick_25 rfl (lv_at hl 0 rfl) ?_
  refine lv_iadd hx hb dX8_weavePick_26 ?_
  refine lv_dup2_11 hx hb dX8_weavePick_27 rfl rfl ?_
  obtain ⟨h8, hf⟩ := gd_some hf
  refine m_iald hx hb hK hH 1 (by decide) (by decide) rfl h8 dX8_weavePick_28 ?_
  refine lv_iconst (v := 1) hx hb dX8_weavePick_29 (by decide) ?_
  refine lv_iadd hx hb dX8_weavePick_30 ?_
  refine m_iast hx hb hK hH hS 1 (by decide) (by decide) rfl h8 dX8_weavePick_31 (fun H locs hH hS => ?_)
  obtain ⟨S10, eS10⟩ : ∃ z : GS, z = ssI S6 1 (25 + v1).toNatClampNeg ((S6 1 (25 + v1).toNatClampNeg) + 1) := ⟨_, rfl⟩
  have hf := gl_at hf eS10
  replace hH : HR w K g S10 H := by rw [eS10]; exact hH
  refine lv_aload_n hx hb dX8_weavePick_32 rfl (lv_at hl 1 rfl) ?_
  refine e_8_0 hx hb hts hown hK hH (hts _ wd_101) dX8_weavePick_33 ?_
  refine lv_bipush (v := 37) hx hb dX8_weavePick_36 (by decide) ?_
  refine lv_iload_n hx hb dX8_weavePick_38 rfl (lv_at hl 0 rfl) ?_
  refine lv_iadd hx hb dX8_weavePick_39 ?_
  refine lv_dup2_11 hx hb dX8_weavePick_40 rfl rfl ?_
  obtain ⟨h12, hf⟩ := gd_some hf
  refine m_iald hx hb hK hH 1 (by decide) (by decide) rfl h12 dX8_weavePick_41 ?_
  refine lv_iconst (v := 1) hx hb dX8_weavePick_42 (by decide) ?_
  refine lv_iadd hx hb dX8_weavePick_43 ?_
  refine m_iast hx hb hK hH hS 1 (by decide) (by decide) rfl h12 dX8_weavePick_44 (fun H locs hH hS => ?_)
  obtain ⟨S14, eS14⟩ : ∃ z : GS, z = ssI S10 1 (37 + v1).toNatClampNeg ((S10 1 (37 + v1).toNatClampNeg) + 1) := ⟨_, rfl⟩
  have hf := gl_at hf eS14
  replace hH : HR w K g S14 H := by rw [eS14]; exact hH
  refine lv_aload_n hx hb dX8_weavePick_45 rfl (lv_at hl 1 rfl) ?_
  refine e_8_0 hx hb hts hown hK hH (hts _ wd_101) dX8_weavePick_46 ?_
  refine lv_iconst (v := 5) hx hb dX8_weavePick_49 (by decide) ?_
  refine lv_dup2_11 hx hb dX8_weavePick_50 rfl rfl ?_
  obtain ⟨h16, hf⟩ := gd_some hf
  refine m_iald hx hb hK hH 1 (by decide) (by decide) rfl h16 dX8_weavePick_51 ?_
  refine lv_iconst (v := 1) hx hb dX8_weavePick_52 (by decide) ?_
  refine lv_iadd hx hb dX8_weavePick_53 ?_
  refine m_iast hx hb hK hH hS 1 (by decide) (by decide) rfl h16 dX8_weavePick_54 (fun H locs hH hS => ?_)
  obtain ⟨S18, eS18⟩ : ∃ z : GS, z = ssI S14 1 (5 : Int32).toNatClampNeg ((S14 1 (5 : Int32).toNatClampNeg) + 1) := ⟨_, rfl⟩
  have hf := gl_at hf eS18
  replace hH : HR w K g S18 H := by rw [eS18]; exact hH
  refine lv_aload_n hx hb dX8_weavePick_55 rfl (lv_at hl 1 rfl) ?_
  refine e_8_0 hx hb hts hown hK hH (hts _ wd_101) dX8_weavePick_56 ?_
  refine lv_sipush (v := 853) hx hb dX8_weavePick_59 (by decide) ?_
  refine lv_aload_n hx hb dX8_weavePick_62 rfl (lv_at hl 1 rfl) ?_
  refine e_8_0 hx hb hts hown hK hH (hts _ wd_101) dX8_weavePick_63 ?_
  refine lv_iconst (v := 4) hx hb dX8_weavePick_66 (by decide) ?_
  obtain ⟨h20, hf⟩ := gd_some hf
  refine m_iald hx hb hK hH 1 (by decide) (by decide) rfl h20 dX8_weavePick_67 ?_
  refine lv_iadd hx hb dX8_weavePick_68 ?_
  refine lv_iload_n hx hb dX8_weavePick_69 rfl (lv_at hl 0 rfl) ?_
  obtain ⟨h22, hf⟩ := gd_some hf
  refine m_iast hx hb hK hH hS 1 (by decide) (by decide) rfl h22 dX8_weavePick_70 (fun H locs hH hS => ?_)
  obtain ⟨S23, eS23⟩ : ∃ z : GS, z = ssI S18 1 (853 + (S18 1 (4 : Int32).toNatClampNeg)).toNatClampNeg v1 := ⟨_, rfl⟩
  have hf := gl_at hf eS23
  replace hH : HR w K g S23 H := by rw [eS23]; exact hH
  refine lv_aload_n hx hb dX8_weavePick_71 rfl (lv_at hl 1 rfl) ?_
  refine e_8_0 hx hb hts hown hK hH (hts _ wd_101) dX8_weavePick_72 ?_
  refine lv_iconst (v := 4) hx hb dX8_weavePick_75 (by decide) ?_
  refine lv_dup2_11 hx hb dX8_weavePick_76 rfl rfl ?_
  refine m_iald hx hb hK hH 1 (by decide) (by decide) rfl h20 dX8_weavePick_77 ?_
  refine lv_iconst (v := 1) hx hb dX8_weavePick_78 (by decide) ?_
  refine lv_iadd hx hb dX8_weavePick_79 ?_
  refine m_iast hx hb hK hH hS 1 (by decide) (by decide) rfl h20 dX8_weavePick_80 (fun H locs hH hS => ?_)
  obtain ⟨S26, eS26⟩ : ∃ z : GS, z = ssI S23 1 (4 : Int32).toNatClampNeg ((S23 1 (4 : Int32).toNatClampNeg) + 1) := ⟨_, rfl⟩
  have hf := gl_at hf eS26
  replace hH : HR w K g S26 H := by rw [eS26]; exact hH
  refine lv_aload_n hx hb dX8_weavePick_81 rfl (lv_at hl 1 rfl) ?_
  obtain ⟨g27, h28, hf⟩ := gbind hf
  refine g_Vv (As := []) (rest := []) ⟨hx, hb, hml, hown, hts⟩ (c8_donePick l w K g S26 g27 h28) (gcwV hts i8_donePick wd_489 rfl rfl ⟨Nat.le_of_ble_eq_true rfl, Nat.le_of_ble_eq_true rfl⟩) (gRecv.of hK rfl hH.ob) hH hK hS hl.1 rfl rfl (Nat.le_of_ble_eq_true rfl) dX8_weavePick_82 ⟨Nat.le_refl _, Nat.le_refl _⟩ (fun H locs hH hS => ?_)
  have ho := Option.some.inj hf
  exact W.vret hx hb hr (fun t ht hW => ⟨⟨(), rfl, trivial, hrVm ht ho hH⟩, hS.F ht⟩) hS.2.2 dX8_weavePick_85
set_option maxRecDepth 100000 in
set_option maxHeartbeats 8000000 in
theorem c8_textAt (l : Launch) (w : GW) (K : GK) (g : GM) (S : GS) (p0 : Int32) (p1 : Int32) (out : Int32) (hf : f8_textAt S p0 p1 = some out) : Met l yX8_textAt (wA yX8_textAt cX8_textAt 3 (some .int)) ({ frames := 0, cells := 0, slots := 0, locals := 0 } : Room) (PRE w K g S [.ref w.2.2.2, .int p0, .int p1]) (QI w K g S out) 0 0 (FR w) := by
  unfold f8_textAt at hf
  refine Met.ofW (cc := cX8_textAt) (maxL := 3) (ret := (some .int)) (by decide) rfl ?_
  intro p e s m args below meth c s₁ B hml hv
  obtain ⟨rfl, hH, hK⟩ := hv
  have hx := B.exec
  have hb := B.bytes
  have hr := B.returns
  have hts : ∀ q ∈ gALL, q.before _ s = true := fun q h => atoms_spec (ws := (wA yX8_textAt cX8_textAt 3 (some .int))) B.pre q (List.mem_cons_of_mem _ h)
  have hown : s.vm.findClass RX8 = some m.cls := findClass_of_methodNamed B.named
  have hlocks := B.notSynchronized
  have hS : va_S (FR w) s.heap s.heap [] := va_S.rf
  show W p l e ({ frames := 0, cells := 0, slots := 0, locals := 0 } : Room) s m _ below meth c s.heap [] 0 0 (MQ below (QI w K g S out) _ s 0 0 (FR w)) _
  have hl := lv_entry ([.ref w.2.2.2, .int p0, .int p1]) (n := 3) (Nat.le_of_ble_eq_true rfl)
  rw [lg_entry_eq]
  generalize (lg_sl ([.ref w.2.2.2, .int p0, .int p1]) ++ List.replicate (3 - (lg_sl ([.ref w.2.2.2, .int p0, .int p1])).length) Slot.unset).toArray = ls at hl ⊢
  clear B
  generalize ([.ref w.2.2.2, .int p0, .int p1] : List Value).toArray = args at hts ⊢
  have hl : lv_has ls 3 [(0, .ref w.2.2.2), (1, .int p0), (2, .int p1)] := hl
  refine lv_aload_n hx hb dX8_textAt_0 rfl (lv_at hl 0 rfl) ?_
  refine e_8_0 hx hb hts hown hK hH (hts _ wd_101) dX8_textAt_1 ?_
  refine lv_bipush (v := 53) hx hb dX8_textAt_4 (by decide) ?_
  refine lv_bipush (v := 80) hx hb dX8_textAt_6 (by decide) ?_
  refine lv_iload_n hx hb dX8_textAt_8 rfl (lv_at hl 1 rfl) ?_
  refine lv_imul hx hb dX8_textAt_9 ?_
  refine lv_iadd hx hb dX8_textAt_10 ?_
  refine lv_iload_n hx hb dX8_textAt_11 rfl (lv_at hl 2 rfl) ?_
  refine lv_iadd hx hb dX8_textAt_12 ?_
  obtain ⟨h2, hf⟩ := gd_some hf
  refine m_iald hx hb hK hH 1 (by decide) (by decide) rfl h2 dX8_textAt_13 ?_
  have ho := Option.some.inj hf
  exact W.iret (v := (S 1 ((53 + (80 * p0)) + p1).toNatClampNeg)) hx hb hr (fun t ht hW => ⟨⟨(S 1 ((53 + (80 * p0)) + p1).toNatClampNeg), (), rfl, ho, hrE ht hH⟩, hS.F ht⟩) hS.2.2 dX8_textAt_14
set_option maxRecDepth 100000 in
set_option maxHeartbeats 8000000 in
theorem c8_lay (l : Launch) (w : GW) (K : GK) (g : GM) (S : GS) (p0 : Int32) (p1 : Int32) (out : GS) (hf : f8_lay S p0 p1 = some out) : Met l yX8_lay (wA yX8_lay cX8_lay 4 none) ({ frames := 2, cells := 0, slots := 0, locals := 43 } : Room) (PRE w K g S [.ref w.2.2.2, .int p0, .int p1]) (QV w K g out) 0 0 (FR w) := by
  unfold f8_lay at hf
  refine Met.ofW (cc := cX8_lay) (maxL := 4) (ret := none) (by decide) rfl ?_
  intro p e s m args below meth c s₁ B hml hv
  obtain ⟨rfl, hH, hK⟩ := hv
  have hx := B.exec
  have hb := B.bytes
  have hr := B.returns
  have hts : ∀ q ∈ gALL, q.before _ s = true := fun q h => atoms_spec (ws := (wA yX8_lay cX8_lay 4 none)) B.pre q (List.mem_cons_of_mem _ h)
  have hown : s.vm.findClass RX8 = some m.cls := findClass_of_methodNamed B.named
  have hlocks := B.notSynchronized
  have hS : va_S (FR w) s.heap s.heap [] := va_S.rf
  show W p l e ({ frames := 2, cells := 0, slots := 0, locals := 43 } : Room) s m _ below meth c s.heap [] 0 0 (MQ below (QV w K g out) _ s 0 0 (FR w)) _
  have hl := lv_entry ([.ref w.2.2.2, .int p0, .int p1]) (n := 4) (Nat.le_of_ble_eq_true rfl)
  rw [lg_entry_eq]
  generalize (lg_sl ([.ref w.2.2.2, .int p0, .int p1]) ++ List.replicate (4 - (lg_sl ([.ref w.2.2.2, .int p0, .int p1])).length) Slot.unset).toArray = ls at hl ⊢
  clear B
  generalize ([.ref w.2.2.2, .int p0, .int p1] : List Value).toArray = args at hts ⊢
  have B57 : ∀ n : Nat, ∀ (S : GS) (x3 : Int32) (H : Heap) (locs : List Loc) (ls : Array Slot), HR w K g S H → va_S (FR w) s.heap H locs → lv_has ls 4 [(0, .ref w.2.2.2), (1, .int p0), (3, .int x3)] → f8_lay_57 p0 p1 n S x3 = some out → W p l e ({ frames := 2, cells := 0, slots := 0, locals := 43 } : Room) s m args below meth c H locs 0 0 (MQ below (QV w K g out) args s 0 0 (FR w)) (F0 m 57 ls []) := by
    intro n
    induction n with
    | zero =>
      intro S x3 H locs ls hH hS hl hf
      cases hf
    | succ n ih =>
      intro S x3 H locs ls hH hS hl hf
      rw [f8_lay_57] at hf
      refine lv_iload_n hx hb dX8_lay_57 rfl (lv_at hl 2 rfl) ?_
      refine lv_bipush (v := 80) hx hb dX8_lay_58 (by decide) ?_
      have hg := gif hf
      refine lv_icmp_ge (tgt := 83) hx hb dX8_lay_60 (by decide) (fun c1 => ?_) (fun c1 => ?_)
      · have hf := hg.1 c1
        refine lv_aload_n hx hb dX8_lay_83 rfl (lv_at hl 0 rfl) ?_
        refine e_8_0 hx hb hts hown hK hH (hts _ wd_101) dX8_lay_84 ?_
        refine lv_bipush (v := 9) hx hb dX8_lay_87 (by decide) ?_
        refine lv_iload_n hx hb dX8_lay_89 rfl (lv_at hl 1 rfl) ?_
        refine lv_iadd hx hb dX8_lay_90 ?_
        refine lv_dup2_11 hx hb dX8_lay_91 rfl rfl ?_
        obtain ⟨h3, hf⟩ := gd_some hf
        refine m_iald hx hb hK hH 1 (by decide) (by decide) rfl h3 dX8_lay_92 ?_
        refine lv_iconst (v := 1) hx hb dX8_lay_93 (by decide) ?_
        refine lv_iadd hx hb dX8_lay_94 ?_
        refine m_iast hx hb hK hH hS 1 (by decide) (by decide) rfl h3 dX8_lay_95 (fun H locs hH hS => ?_)
        obtain ⟨S5, eS5⟩ : ∃ z : GS, z = ssI S 1 (9 + p0).toNatClampNeg ((S 1 (9 + p0).toNatClampNeg) + 1) := ⟨_, rfl⟩
        have hf := gl_at hf eS5
        replace hH : HR w K g S5 H := by rw [eS5]; exact hH
        refine lv_aload_n hx hb dX8_lay_96 rfl (lv_at hl 0 rfl) ?_
        refine e_8_0 hx hb hts hown hK hH (hts _ wd_101) dX8_lay_97 ?_
        refine lv_bipush (v := 6) hx hb dX8_lay_100 (by decide) ?_
        refine lv_aload_n hx hb dX8_lay_102 rfl (lv_at hl 0 rfl) ?_
        refine e_8_0 hx hb hts hown hK hH (hts _ wd_101) dX8_lay_103 ?_
        refine lv_iconst (v := 3) hx hb dX8_lay_106 (by decide) ?_
        obtain ⟨h7, hf⟩ := gd_some hf
        refine m_iald hx hb hK hH 1 (by decide) (by decide) rfl h7 dX8_lay_107 ?_
        refine lv_aload_n hx hb dX8_lay_108 rfl (lv_at hl 0 rfl) ?_
        refine e_8_0 hx hb hts hown hK hH (hts _ wd_101) dX8_lay_109 ?_
        refine lv_bipush (v := 6) hx hb dX8_lay_112 (by decide) ?_
        obtain ⟨h9, hf⟩ := gd_some hf
        refine m_iald hx hb hK hH 1 (by decide) (by decide) rfl h9 dX8_lay_114 ?_
        have hg := gif hf
        refine lv_icmp_le (tgt := 127) hx hb dX8_lay_115 (by decide) (fun c10 => ?_) (fun c10 => ?_)
        · have hf := hg.1 c10
          refine lv_aload_n hx hb dX8_lay_127 rfl (lv_at hl 0 rfl) ?_
          refine e_8_0 hx hb hts hown hK hH (hts _ wd_101) dX8_lay_128 ?_
          refine lv_bipush (v := 6) hx hb dX8_lay_131 (by decide) ?_
          refine m_iald hx hb hK hH 1 (by decide) (by decide) rfl h9 dX8_lay_133 ?_
          refine m_iast hx hb hK hH hS 1 (by decide) (by decide) rfl h9 dX8_lay_134 (fun H locs hH hS => ?_)
          obtain ⟨S13, eS13⟩ : ∃ z : GS, z = ssI S5 1 (6 : Int32).toNatClampNeg (S5 1 (6 : Int32).toNatClampNeg) := ⟨_, rfl⟩
          have hf := gl_at hf eS13
          replace hH : HR w K g S13 H := by rw [eS13]; exact hH
          have ho := Option.some.inj hf
          exact W.vret hx hb hr (fun t ht hW => ⟨⟨(), rfl, trivial, hrVm ht ho hH⟩, hS.F ht⟩) hS.2.2 dX8_lay_135
        · have hf := hg.2 c10
          refine lv_aload_n hx hb dX8_lay_118 rfl (lv_at hl 0 rfl) ?_
          refine e_8_0 hx hb hts hown hK hH (hts _ wd_101) dX8_lay_119 ?_
          refine lv_iconst (v := 3) hx hb dX8_lay_122 (by decide) ?_
          refine m_iald hx hb hK hH 1 (by decide) (by decide) rfl h7 dX8_lay_123 ?_
          refine lv_goto (tgt := 134) hx hb dX8_lay_124 (by decide) ?_
          refine m_iast hx hb hK hH hS 1 (by decide) (by decide) rfl h9 dX8_lay_134 (fun H locs hH hS => ?_)
          obtain ⟨S16, eS16⟩ : ∃ z : GS, z = ssI S5 1 (6 : Int32).toNatClampNeg (S5 1 (3 : Int32).toNatClampNeg) := ⟨_, rfl⟩
          have hf := gl_at hf eS16
          replace hH : HR w K g S16 H := by rw [eS16]; exact hH
          have ho := Option.some.inj hf
          exact W.vret hx hb hr (fun t ht hW => ⟨⟨(), rfl, trivial, hrVm ht ho hH⟩, hS.F ht⟩) hS.2.2 dX8_lay_135
      · have hf := hg.2 c1
        refine lv_aload_n hx hb dX8_lay_63 rfl (lv_at hl 0 rfl) ?_
        refine lv_bipush (v := 12) hx hb dX8_lay_64 (by decide) ?_
        refine lv_iload_n hx hb dX8_lay_66 rfl (lv_at hl 2 rfl) ?_
        refine lv_iadd hx hb dX8_lay_67 ?_
        refine lv_aload_n hx hb dX8_lay_68 rfl (lv_at hl 0 rfl) ?_
        refine lv_iload_n hx hb dX8_lay_69 rfl (lv_at hl 1 rfl) ?_
        refine lv_iload_n hx hb dX8_lay_70 rfl (lv_at hl 2 rfl) ?_
        obtain ⟨v17, h18, hf⟩ := gbind hf
        refine g_Vi (As := [.int p0, .int x3]) (rest := [.int (12 + x3), .ref w.2.2.2]) ⟨hx, hb, hml, hown, hts⟩ (c8_textAt l w K g S p0 x3 v17 h18) (gcwV hts i8_textAt wd_293 rfl rfl ⟨Nat.le_of_ble_eq_true rfl, Nat.le_of_ble_eq_true rfl⟩) (gRecv.of hK rfl hH.ob) hH hK hS hl.1 rfl rfl (Nat.le_of_ble_eq_true rfl) dX8_lay_71 ⟨Nat.le_refl _, Nat.le_refl _⟩ (fun H locs hH hS => ?_)
        obtain ⟨g19, h20, hf⟩ := gbind hf
        refine g_Vv (As := [.int (12 + x3), .int v17]) (rest := []) ⟨hx, hb, hml, hown, hts⟩ (c8_setTop l w K g S (12 + x3) v17 g19 h20) (gcwV hts i8_setTop wd_360 rfl rfl ⟨Nat.le_of_ble_eq_true rfl, Nat.le_of_ble_eq_true rfl⟩) (gRecv.of hK rfl hH.ob) hH hK hS hl.1 rfl rfl (Nat.le_of_ble_eq_true rfl) dX8_lay_74 ⟨Nat.le_refl _, Nat.le_refl _⟩ (fun H locs hH hS => ?_)
        obtain ⟨v21, ev21⟩ : ∃ z : Int32, z = x3 + 1 := ⟨_, rfl⟩
        have hf := gl_at hf ev21
        refine lv_iinc (v := v21) (lv' := [(3, .int v21), (0, .ref w.2.2.2), (1, .int p0)]) hx hb dX8_lay_77 hl (k := 2) rfl (by rw [ev21]; rfl) (by decide) rfl (fun ls hl => ?_)
        refine lv_goto (tgt := 57) hx hb dX8_lay_80 (by decide) ?_
        exact ih _ _ _ _ _ hH hS (lv_sub hl [1, 2, 0] rfl) hf
  have hl : lv_has ls 4 [(0, .ref w.2.2.2), (1, .int p0), (2, .int p1)] := hl
  refine lv_aload_n hx hb dX8_lay_0 rfl (lv_at hl 0 rfl) ?_
  refine e_8_0 hx hb hts hown hK hH (hts _ wd_101) dX8_lay_1 ?_
  refine lv_iconst (v := 3) hx hb dX8_lay_4 (by decide) ?_
  refine lv_dup2_11 hx hb dX8_lay_5 rfl rfl ?_
  obtain ⟨h23, hf⟩ := gd_some hf
  refine m_iald hx hb hK hH 1 (by decide) (by decide) rfl h23 dX8_lay_6 ?_
  refine lv_iconst (v := 1) hx hb dX8_lay_7 (by decide) ?_
  refine lv_iadd hx hb dX8_lay_8 ?_
  refine m_iast hx hb hK hH hS 1 (by decide) (by decide) rfl h23 dX8_lay_9 (fun H locs hH hS => ?_)
  obtain ⟨S25, eS25⟩ : ∃ z : GS, z = ssI S 1 (3 : Int32).toNatClampNeg ((S 1 (3 : Int32).toNatClampNeg) + 1) := ⟨_, rfl⟩
  have hf := gl_at hf eS25
  replace hH : HR w K g S25 H := by rw [eS25]; exact hH
  refine lv_aload_n hx hb dX8_lay_10 rfl (lv_at hl 0 rfl) ?_
  refine lv_iconst (v := 0) hx hb dX8_lay_11 (by decide) ?_
  refine lv_iload_n hx hb dX8_lay_12 rfl (lv_at hl 1 rfl) ?_
  obtain ⟨g26, h27, hf⟩ := gbind hf
  refine g_Vv (As := [.int 0, .int p0]) (rest := []) ⟨hx, hb, hml, hown, hts⟩ (c8_setTop l w K g S25 0 p0 g26 h27) (gcwV hts i8_setTop wd_360 rfl rfl ⟨Nat.le_of_ble_eq_true rfl, Nat.le_of_ble_eq_true rfl⟩) (gRecv.of hK rfl hH.ob) hH hK hS hl.1 rfl rfl (Nat.le_of_ble_eq_true rfl) dX8_lay_13 ⟨Nat.le_refl _, Nat.le_refl _⟩ (fun H locs hH hS => ?_)
  refine lv_aload_n hx hb dX8_lay_16 rfl (lv_at hl 0 rfl) ?_
  refine lv_iconst (v := 1) hx hb dX8_lay_17 (by decide) ?_
  refine lv_iload_n hx hb dX8_lay_18 rfl (lv_at hl 2 rfl) ?_
  obtain ⟨g28, h29, hf⟩ := gbind hf
  refine g_Vv (As := [.int 1, .int p1]) (rest := []) ⟨hx, hb, hml, hown, hts⟩ (c8_setTop l w K g g26 1 p1 g28 h29) (gcwV hts i8_setTop wd_360 rfl rfl ⟨Nat.le_of_ble_eq_true rfl, Nat.le_of_ble_eq_true rfl⟩) (gRecv.of hK rfl hH.ob) hH hK hS hl.1 rfl rfl (Nat.le_of_ble_eq_true rfl) dX8_lay_19 ⟨Nat.le_refl _, Nat.le_refl _⟩ (fun H locs hH hS => ?_)
  refine lv_aload_n hx hb dX8_lay_22 rfl (lv_at hl 0 rfl) ?_
  refine lv_iconst (v := 2) hx hb dX8_lay_23 (by decide) ?_
  refine lv_iconst (v := 0) hx hb dX8_lay_24 (by decide) ?_
  obtain ⟨g30, h31, hf⟩ := gbind hf
  refine g_Vv (As := [.int 2, .int 0]) (rest := []) ⟨hx, hb, hml, hown, hts⟩ (c8_setTop l w K g g28 2 0 g30 h31) (gcwV hts i8_setTop wd_360 rfl rfl ⟨Nat.le_of_ble_eq_true rfl, Nat.le_of_ble_eq_true rfl⟩) (gRecv.of hK rfl hH.ob) hH hK hS hl.1 rfl rfl (Nat.le_of_ble_eq_true rfl) dX8_lay_25 ⟨Nat.le_refl _, Nat.le_refl _⟩ (fun H locs hH hS => ?_)
  refine lv_aload_n hx hb dX8_lay_28 rfl (lv_at hl 0 rfl) ?_
  refine lv_iconst (v := 3) hx hb dX8_lay_29 (by decide) ?_
  refine lv_iconst (v := 0) hx hb dX8_lay_30 (by decide) ?_
  obtain ⟨g32, h33, hf⟩ := gbind hf
  refine g_Vv (As := [.int 3, .int 0]) (rest := []) ⟨hx, hb, hml, hown, hts⟩ (c8_setTop l w K g g30 3 0 g32 h33) (gcwV hts i8_setTop wd_360 rfl rfl ⟨Nat.le_of_ble_eq_true rfl, Nat.le_of_ble_eq_true rfl⟩) (gRecv.of hK rfl hH.ob) hH hK hS hl.1 rfl rfl (Nat.le_of_ble_eq_true rfl) dX8_lay_31 ⟨Nat.le_refl _, Nat.le_refl _⟩ (fun H locs hH hS => ?_)
  refine lv_aload_n hx hb dX8_lay_34 rfl (lv_at hl 0 rfl) ?_
  refine lv_iconst (v := 4) hx hb dX8_lay_35 (by decide) ?_
  refine lv_iconst (v := 0) hx hb dX8_lay_36 (by decide) ?_
  obtain ⟨g34, h35, hf⟩ := gbind hf
  refine g_Vv (As := [.int 4, .int 0]) (rest := []) ⟨hx, hb, hml, hown, hts⟩ (c8_setTop l w K g g32 4 0 g34 h35) (gcwV hts i8_setTop wd_360 rfl rfl ⟨Nat.le_of_ble_eq_true rfl, Nat.le_of_ble_eq_true rfl⟩) (gRecv.of hK rfl hH.ob) hH hK hS hl.1 rfl rfl (Nat.le_of_ble_eq_true rfl) dX8_lay_37 ⟨Nat.le_refl _, Nat.le_refl _⟩ (fun H locs hH hS => ?_)
  refine lv_aload_n hx hb dX8_lay_40 rfl (lv_at hl 0 rfl) ?_
  refine lv_bipush (v := 11) hx hb dX8_lay_41 (by decide) ?_
  refine lv_aload_n hx hb dX8_lay_43 rfl (lv_at hl 0 rfl) ?_
  refine e_8_0 hx hb hts hown hK hH (hts _ wd_101) dX8_lay_44 ?_
  refine lv_bipush (v := 43) hx hb dX8_lay_47 (by decide) ?_
  refine lv_iload_n hx hb dX8_lay_49 rfl (lv_at hl 1 rfl) ?_
  refine lv_iadd hx hb dX8_lay_50 ?_
  obtain ⟨h37, hf⟩ := gd_some hf
  refine m_iald hx hb hK hH 1 (by decide) (by decide) rfl h37 dX8_lay_51 ?_
  obtain ⟨g38, h39, hf⟩ := gbind hf
  refine g_Vv (As := [.int 11, .int (g34 1 (43 + p0).toNatClampNeg)]) (rest := []) ⟨hx, hb, hml, hown, hts⟩ (c8_setTop l w K g g34 11 (g34 1 (43 + p0).toNatClampNeg) g38 h39) (gcwV hts i8_setTop wd_360 rfl rfl ⟨Nat.le_of_ble_eq_true rfl, Nat.le_of_ble_eq_true rfl⟩) (gRecv.of hK rfl hH.ob) hH hK hS hl.1 rfl rfl (Nat.le_of_ble_eq_true rfl) dX8_lay_52 ⟨Nat.le_refl _, Nat.le_refl _⟩ (fun H locs hH hS => ?_)
  refine lv_iconst (v := 0) hx hb dX8_lay_55 (by decide) ?_
  refine lv_istore_n (lv' := [(3, .int 0), (0, .ref w.2.2.2), (1, .int p0), (2, .int p1)]) hx hb dX8_lay_56 rfl hl (by decide) rfl (fun ls hl => ?_)
  exact B57 _ _ _ _ _ _ hH hS (lv_sub hl [1, 2, 0] rfl) hf
set_option maxRecDepth 100000 in
set_option maxHeartbeats 8000000 in
theorem c8_open (l : Launch) (w : GW) (K : GK) (g : GM) (S : GS) (p0 : Int32) (out : GS) (hf : f8_open S p0 = some out) : Met l yX8_open (wA yX8_open cX8_open 2 none) ({ frames := 2, cells := 0, slots := 0, locals := 43 } : Room) (PRE w K g S [.ref w.2.2.2, .int p0]) (QV w K g out) 0 0 (FR w) := by
  unfold f8_open at hf
  refine Met.ofW (cc := cX8_open) (maxL := 2) (ret := none) (by decide) rfl ?_
  intro p e s m args below meth c s₁ B hml hv
  obtain ⟨rfl, hH, hK⟩ := hv
  have hx := B.exec
  have hb := B.bytes
  have hr := B.returns
  have hts : ∀ q ∈ gALL, q.before _ s = true := fun q h => atoms_spec (ws := (wA yX8_open cX8_open 2 none)) B.pre q (List.mem_cons_of_mem _ h)
  have hown : s.vm.findClass RX8 = some m.cls := findClass_of_methodNamed B.named
  have hlocks := B.notSynchronized
  have hS : va_S (FR w) s.heap s.heap [] := va_S.rf
  show W p l e ({ frames := 2, cells := 0, slots := 0, locals := 43 } : Room) s m _ below meth c s.heap [] 0 0 (MQ below (QV w K g out) _ s 0 0 (FR w)) _
  have hl := lv_entry ([.ref w.2.2.2, .int p0]) (n := 2) (Nat.le_of_ble_eq_true rfl)
  rw [lg_entry_eq]
  generalize (lg_sl ([.ref w.2.2.2, .int p0]) ++ List.replicate (2 - (lg_sl ([.ref w.2.2.2, .int p0])).length) Slot.unset).toArray = ls at hl ⊢
  clear B
  generalize ([.ref w.2.2.2, .int p0] : List Value).toArray = args at hts ⊢
  have hl : lv_has ls 2 [(0, .ref w.2.2.2), (1, .int p0)] := hl
  refine lv_aload_n hx hb dX8_open_0 rfl (lv_at hl 0 rfl) ?_
  refine lv_iconst (v := 5) hx hb dX8_open_1 (by decide) ?_
  refine lv_iconst (v := 2) hx hb dX8_open_2 (by decide) ?_
  refine lv_aload_n hx hb dX8_open_3 rfl (lv_at hl 0 rfl) ?_
  refine lv_iconst (v := 4) hx hb dX8_open_4 (by decide) ?_
  obtain ⟨v1, h2, hf⟩ := gbind hf
  refine g_Vi (As := [.int 4]) (rest := [.int 2, .int 5, .ref w.2.2.2]) ⟨hx, hb, hml, hown, hts⟩ (c8_onTop l w K g S 4 v1 h2) (gcwV hts i8_onTop wd_465 rfl rfl ⟨Nat.le_of_ble_eq_true rfl, Nat.le_of_ble_eq_true rfl⟩) (gRecv.of hK rfl hH.ob) hH hK hS hl.1 rfl rfl (Nat.le_of_ble_eq_true rfl) dX8_open_5 ⟨Nat.le_refl _, Nat.le_refl _⟩ (fun H locs hH hS => ?_)
  refine lv_imul hx hb dX8_open_8 ?_
  refine lv_iadd hx hb dX8_open_9 ?_
  refine lv_aload_n hx hb dX8_open_10 rfl (lv_at hl 0 rfl) ?_
  refine lv_iconst (v := 2) hx hb dX8_open_11 (by decide) ?_
  obtain ⟨v3, h4, hf⟩ := gbind hf
  refine g_Vi (As := [.int 2]) (rest := [.int (5 + (2 * v1)), .ref w.2.2.2]) ⟨hx, hb, hml, hown, hts⟩ (c8_onTop l w K g S 2 v3 h4) (gcwV hts i8_onTop wd_465 rfl rfl ⟨Nat.le_of_ble_eq_true rfl, Nat.le_of_ble_eq_true rfl⟩) (gRecv.of hK rfl hH.ob) hH hK hS hl.1 rfl rfl (Nat.le_of_ble_eq_true rfl) dX8_open_12 ⟨Nat.le_refl _, Nat.le_refl _⟩ (fun H locs hH hS => ?_)
  obtain ⟨g5, h6, hf⟩ := gbind hf
  refine g_Vv (As := [.int (5 + (2 * v1)), .int v3]) (rest := []) ⟨hx, hb, hml, hown, hts⟩ (c8_setTop l w K g S (5 + (2 * v1)) v3 g5 h6) (gcwV hts i8_setTop wd_360 rfl rfl ⟨Nat.le_of_ble_eq_true rfl, Nat.le_of_ble_eq_true rfl⟩) (gRecv.of hK rfl hH.ob) hH hK hS hl.1 rfl rfl (Nat.le_of_ble_eq_true rfl) dX8_open_15 ⟨Nat.le_refl _, Nat.le_refl _⟩ (fun H locs hH hS => ?_)
  refine lv_aload_n hx hb dX8_open_18 rfl (lv_at hl 0 rfl) ?_
  refine lv_iconst (v := 5) hx hb dX8_open_19 (by decide) ?_
  refine lv_iconst (v := 2) hx hb dX8_open_20 (by decide) ?_
  refine lv_aload_n hx hb dX8_open_21 rfl (lv_at hl 0 rfl) ?_
  refine lv_iconst (v := 4) hx hb dX8_open_22 (by decide) ?_
  obtain ⟨v7, h8, hf⟩ := gbind hf
  refine g_Vi (As := [.int 4]) (rest := [.int 2, .int 5, .ref w.2.2.2]) ⟨hx, hb, hml, hown, hts⟩ (c8_onTop l w K g g5 4 v7 h8) (gcwV hts i8_onTop wd_465 rfl rfl ⟨Nat.le_of_ble_eq_true rfl, Nat.le_of_ble_eq_true rfl⟩) (gRecv.of hK rfl hH.ob) hH hK hS hl.1 rfl rfl (Nat.le_of_ble_eq_true rfl) dX8_open_23 ⟨Nat.le_refl _, Nat.le_refl _⟩ (fun H locs hH hS => ?_)
  refine lv_imul hx hb dX8_open_26 ?_
  refine lv_iadd hx hb dX8_open_27 ?_
  refine lv_iconst (v := 1) hx hb dX8_open_28 (by decide) ?_
  refine lv_iadd hx hb dX8_open_29 ?_
  refine lv_iload_n hx hb dX8_open_30 rfl (lv_at hl 1 rfl) ?_
  obtain ⟨g9, h10, hf⟩ := gbind hf
  refine g_Vv (As := [.int ((5 + (2 * v7)) + 1), .int p0]) (rest := []) ⟨hx, hb, hml, hown, hts⟩ (c8_setTop l w K g g5 ((5 + (2 * v7)) + 1) p0 g9 h10) (gcwV hts i8_setTop wd_360 rfl rfl ⟨Nat.le_of_ble_eq_true rfl, Nat.le_of_ble_eq_true rfl⟩) (gRecv.of hK rfl hH.ob) hH hK hS hl.1 rfl rfl (Nat.le_of_ble_eq_true rfl) dX8_open_31 ⟨Nat.le_refl _, Nat.le_refl _⟩ (fun H locs hH hS => ?_)
  refine lv_aload_n hx hb dX8_open_34 rfl (lv_at hl 0 rfl) ?_
  refine lv_iconst (v := 4) hx hb dX8_open_35 (by decide) ?_
  refine lv_aload_n hx hb dX8_open_36 rfl (lv_at hl 0 rfl) ?_
  refine lv_iconst (v := 4) hx hb dX8_open_37 (by decide) ?_
  obtain ⟨v11, h12, hf⟩ := gbind hf
  refine g_Vi (As := [.int 4]) (rest := [.int 4, .ref w.2.2.2]) ⟨hx, hb, hml, hown, hts⟩ (c8_onTop l w K g g9 4 v11 h12) (gcwV hts i8_onTop wd_465 rfl rfl ⟨Nat.le_of_ble_eq_true rfl, Nat.le_of_ble_eq_true rfl⟩) (gRecv.of hK rfl hH.ob) hH hK hS hl.1 rfl rfl (Nat.le_of_ble_eq_true rfl) dX8_open_38 ⟨Nat.le_refl _, Nat.le_refl _⟩ (fun H locs hH hS => ?_)
  refine lv_iconst (v := 1) hx hb dX8_open_41 (by decide) ?_
  refine lv_iadd hx hb dX8_open_42 ?_
  obtain ⟨g13, h14, hf⟩ := gbind hf
  refine g_Vv (As := [.int 4, .int (v11 + 1)]) (rest := []) ⟨hx, hb, hml, hown, hts⟩ (c8_setTop l w K g g9 4 (v11 + 1) g13 h14) (gcwV hts i8_setTop wd_360 rfl rfl ⟨Nat.le_of_ble_eq_true rfl, Nat.le_of_ble_eq_true rfl⟩) (gRecv.of hK rfl hH.ob) hH hK hS hl.1 rfl rfl (Nat.le_of_ble_eq_true rfl) dX8_open_43 ⟨Nat.le_refl _, Nat.le_refl _⟩ (fun H locs hH hS => ?_)
  have ho := Option.some.inj hf
  exact W.vret hx hb hr (fun t ht hW => ⟨⟨(), rfl, trivial, hrVm ht ho hH⟩, hS.F ht⟩) hS.2.2 dX8_open_46
set_option maxRecDepth 100000 in
set_option maxHeartbeats 8000000 in
theorem c8_isShort (l : Launch) (w : GW) (K : GK) (g : GM) (S : GS) (out : Int32) (hf : f8_isShort S = some out) : Met l yX8_isShort (wA yX8_isShort cX8_isShort 1 (some .boolean)) ({ frames := 2, cells := 0, slots := 0, locals := 42 } : Room) (PRE w K g S [.ref w.2.2.2]) (QI w K g S out) 0 0 (FR w) := by
  unfold f8_isShort at hf
  refine Met.ofW (cc := cX8_isShort) (maxL := 1) (ret := (some .boolean)) (by decide) rfl ?_
  intro p e s m args below meth c s₁ B hml hv
  obtain ⟨rfl, hH, hK⟩ := hv
  have hx := B.exec
  have hb := B.bytes
  have hr := B.returns
  have hts : ∀ q ∈ gALL, q.before _ s = true := fun q h => atoms_spec (ws := (wA yX8_isShort cX8_isShort 1 (some .boolean))) B.pre q (List.mem_cons_of_mem _ h)
  have hown : s.vm.findClass RX8 = some m.cls := findClass_of_methodNamed B.named
  have hlocks := B.notSynchronized
  have hS : va_S (FR w) s.heap s.heap [] := va_S.rf
  show W p l e ({ frames := 2, cells := 0, slots := 0, locals := 42 } : Room) s m _ below meth c s.heap [] 0 0 (MQ below (QI w K g S out) _ s 0 0 (FR w)) _
  have hl := lv_entry ([.ref w.2.2.2]) (n := 1) (Nat.le_of_ble_eq_true rfl)
  rw [lg_entry_eq]
  generalize (lg_sl ([.ref w.2.2.2]) ++ List.replicate (1 - (lg_sl ([.ref w.2.2.2])).length) Slot.unset).toArray = ls at hl ⊢
  clear B
  generalize ([.ref w.2.2.2] : List Value).toArray = args at hts ⊢
  have hl : lv_has ls 1 [(0, .ref w.2.2.2)] := hl
  refine lv_aload_n hx hb dX8_isShort_0 rfl (lv_at hl 0 rfl) ?_
  refine e_8_0 hx hb hts hown hK hH (hts _ wd_101) dX8_isShort_1 ?_
  refine lv_bipush (v := 19) hx hb dX8_isShort_4 (by decide) ?_
  refine lv_aload_n hx hb dX8_isShort_6 rfl (lv_at hl 0 rfl) ?_
  refine lv_iconst (v := 1) hx hb dX8_isShort_7 (by decide) ?_
  obtain ⟨v1, h2, hf⟩ := gbind hf
  refine g_Vi (As := [.int 1]) (rest := [.int 19, .ref (w.2.2.2 + 1)]) ⟨hx, hb, hml, hown, hts⟩ (c8_onTop l w K g S 1 v1 h2) (gcwV hts i8_onTop wd_465 rfl rfl ⟨Nat.le_of_ble_eq_true rfl, Nat.le_of_ble_eq_true rfl⟩) (gRecv.of hK rfl hH.ob) hH hK hS hl.1 rfl rfl (Nat.le_of_ble_eq_true rfl) dX8_isShort_8 ⟨Nat.le_refl _, Nat.le_refl _⟩ (fun H locs hH hS => ?_)
  refine lv_iadd hx hb dX8_isShort_11 ?_
  obtain ⟨h4, hf⟩ := gd_some hf
  refine m_iald hx hb hK hH 1 (by decide) (by decide) rfl h4 dX8_isShort_12 ?_
  refine lv_aload_n hx hb dX8_isShort_13 rfl (lv_at hl 0 rfl) ?_
  refine e_8_0 hx hb hts hown hK hH (hts _ wd_101) dX8_isShort_14 ?_
  refine lv_iconst (v := 2) hx hb dX8_isShort_17 (by decide) ?_
  obtain ⟨h6, hf⟩ := gd_some hf
  refine m_iald hx hb hK hH 1 (by decide) (by decide) rfl h6 dX8_isShort_18 ?_
  have hg := gif hf
  refine lv_icmp_ge (tgt := 26) hx hb dX8_isShort_19 (by decide) (fun c7 => ?_) (fun c7 => ?_)
  · have hf := hg.1 c7
    refine lv_iconst (v := 0) hx hb dX8_isShort_26 (by decide) ?_
    have ho := Option.some.inj hf
    exact W.zret (v := 0) (ty := .boolean) hx hb hr rfl (fun t ht hW => ⟨⟨0, (), rfl, ho, hrE ht hH⟩, hS.F ht⟩) hS.2.2 dX8_isShort_27
  · have hf := hg.2 c7
    refine lv_iconst (v := 1) hx hb dX8_isShort_22 (by decide) ?_
    refine lv_goto (tgt := 27) hx hb dX8_isShort_23 (by decide) ?_
    have ho := Option.some.inj hf
    exact W.zret (v := 1) (ty := .boolean) hx hb hr rfl (fun t ht hW => ⟨⟨1, (), rfl, ho, hrE ht hH⟩, hS.F ht⟩) hS.2.2 dX8_isShort_27
set_option maxRecDepth 100000 in
set_option maxHeartbeats 8000000 in
theorem c8_passPart (l : Launch) (w : GW) (K : GK) (g : GM) (S : GS) (p0 : Int32) (out : GS) (hf : f8_passPart S p0 = some out) : Met l yX8_passPart (wA yX8_passPart cX8_passPart 4 none) ({ frames := 3, cells := 0, slots := 0, locals := 63 } : Room) (PRE w K g S [.ref w.2.2.2, .int p0]) (QV w K g out) 0 0 (FR w) := by
  unfold f8_passPart at hf
  refine Met.ofW (cc := cX8_passPart) (maxL := 4) (ret := none) (by decide) rfl ?_
  intro p e s m args below meth c s₁ B hml hv
  obtain ⟨rfl, hH, hK⟩ := hv
  have hx := B.exec
  have hb := B.bytes
  have hr := B.returns
  have hts : ∀ q ∈ gALL, q.before _ s = true := fun q h => atoms_spec (ws := (wA yX8_passPart cX8_passPart 4 none)) B.pre q (List.mem_cons_of_mem _ h)
  have hown : s.vm.findClass RX8 = some m.cls := findClass_of_methodNamed B.named
  have hlocks := B.notSynchronized
  have hS : va_S (FR w) s.heap s.heap [] := va_S.rf
  show W p l e ({ frames := 3, cells := 0, slots := 0, locals := 63 } : Room) s m _ below meth c s.heap [] 0 0 (MQ below (QV w K g out) _ s 0 0 (FR w)) _
  have hl := lv_entry ([.ref w.2.2.2, .int p0]) (n := 4) (Nat.le_of_ble_eq_true rfl)
  rw [lg_entry_eq]
  generalize (lg_sl ([.ref w.2.2.2, .int p0]) ++ List.replicate (4 - (lg_sl ([.ref w.2.2.2, .int p0])).length) Slot.unset).toArray = ls at hl ⊢
  clear B
  generalize ([.ref w.2.2.2, .int p0] : List Value).toArray = args at hts ⊢
  have B40 : ∀ (k6 : GS → Int32 → Int32 → Option (GS)), (∀ (S : GS) (x2 : Int32) (x3 : Int32) (H : Heap) (locs : List Loc) (ls : Array Slot), HR w K g S H → va_S (FR w) s.heap H locs → lv_has ls 4 [(0, .ref w.2.2.2), (2, .int x2), (3, .int x3)] → k6 S x2 x3 = some out → W p l e ({ frames := 3, cells := 0, slots := 0, locals := 63 } : Room) s m args below meth c H locs 0 0 (MQ below (QV w K g out) args s 0 0 (FR w)) (F0 m 6 ls [])) → ∀ (S : GS) (x3 : Int32) (s0 : Int32) (s1 : Int32) (H : Heap) (locs : List Loc) (ls : Array Slot), HR w K g S H → va_S (FR w) s.heap H locs → lv_has ls 4 [(0, .ref w.2.2.2), (3, .int x3)] → f8_passPart_40 k6 p0 S x3 s0 s1 = some out → W p l e ({ frames := 3, cells := 0, slots := 0, locals := 63 } : Room) s m args below meth c H locs 0 0 (MQ below (QV w K g out) args s 0 0 (FR w)) (F0 m 40 ls [.int s1, .int s0]) := by
    intro k6 hk6 S x3 s0 s1 H locs ls hH hS hl hf
    unfold f8_passPart_40 at hf
    refine lv_iadd hx hb dX8_passPart_40 ?_
    refine lv_topi (fun v1 ev1 => ?_)
    have hf := gl_at hf ev1
    refine lv_istore_n (lv' := [(2, .int v1), (0, .ref w.2.2.2), (3, .int x3)]) hx hb dX8_passPart_41 rfl hl (by decide) rfl (fun ls hl => ?_)
    obtain ⟨v2, ev2⟩ : ∃ z : Int32, z = x3 + 1 := ⟨_, rfl⟩
    have hf := gl_at hf ev2
    refine lv_iinc (v := v2) (lv' := [(3, .int v2), (2, .int v1), (0, .ref w.2.2.2)]) hx hb dX8_passPart_42 hl (k := 2) rfl (by rw [ev2]; rfl) (by decide) rfl (fun ls hl => ?_)
    refine lv_goto (tgt := 6) hx hb dX8_passPart_45 (by decide) ?_
    exact hk6 _ _ _ _ _ _ hH hS (lv_sub hl [2, 1, 0] rfl) hf
  have B6 : ∀ n : Nat, ∀ (S : GS) (x2 : Int32) (x3 : Int32) (H : Heap) (locs : List Loc) (ls : Array Slot), HR w K g S H → va_S (FR w) s.heap H locs → lv_has ls 4 [(0, .ref w.2.2.2), (2, .int x2), (3, .int x3)] → f8_passPart_6 p0 n S x2 x3 = some out → W p l e ({ frames := 3, cells := 0, slots := 0, locals := 63 } : Room) s m args below meth c H locs 0 0 (MQ below (QV w K g out) args s 0 0 (FR w)) (F0 m 6 ls []) := by
    intro n
    induction n with
    | zero =>
      intro S x2 x3 H locs ls hH hS hl hf
      cases hf
    | succ n ih =>
      intro S x2 x3 H locs ls hH hS hl hf
      rw [f8_passPart_6] at hf
      refine lv_iload_n hx hb dX8_passPart_6 rfl (lv_at hl 1 rfl) ?_
      have hg := gif hf
      refine lv_if_le (tgt := 48) hx hb dX8_passPart_7 (by decide) (fun c3 => ?_) (fun c3 => ?_)
      · have hf := hg.1 c3
        refine lv_aload_n hx hb dX8_passPart_48 rfl (lv_at hl 0 rfl) ?_
        refine lv_iconst (v := 2) hx hb dX8_passPart_49 (by decide) ?_
        refine lv_iload_n hx hb dX8_passPart_50 rfl (lv_at hl 2 rfl) ?_
        obtain ⟨g4, h5, hf⟩ := gbind hf
        refine g_Vv (As := [.int 2, .int x3]) (rest := []) ⟨hx, hb, hml, hown, hts⟩ (c8_setTop l w K g S 2 x3 g4 h5) (gcwV hts i8_setTop wd_360 rfl rfl ⟨Nat.le_of_ble_eq_true rfl, Nat.le_of_ble_eq_true rfl⟩) (gRecv.of hK rfl hH.ob) hH hK hS hl.1 rfl rfl (Nat.le_of_ble_eq_true rfl) dX8_passPart_51 ⟨Nat.le_refl _, Nat.le_refl _⟩ (fun H locs hH hS => ?_)
        refine lv_aload_n hx hb dX8_passPart_54 rfl (lv_at hl 0 rfl) ?_
        refine lv_iconst (v := 3) hx hb dX8_passPart_55 (by decide) ?_
        refine lv_iconst (v := 0) hx hb dX8_passPart_56 (by decide) ?_
        obtain ⟨g6, h7, hf⟩ := gbind hf
        refine g_Vv (As := [.int 3, .int 0]) (rest := []) ⟨hx, hb, hml, hown, hts⟩ (c8_setTop l w K g g4 3 0 g6 h7) (gcwV hts i8_setTop wd_360 rfl rfl ⟨Nat.le_of_ble_eq_true rfl, Nat.le_of_ble_eq_true rfl⟩) (gRecv.of hK rfl hH.ob) hH hK hS hl.1 rfl rfl (Nat.le_of_ble_eq_true rfl) dX8_passPart_57 ⟨Nat.le_refl _, Nat.le_refl _⟩ (fun H locs hH hS => ?_)
        have ho := Option.some.inj hf
        exact W.vret hx hb hr (fun t ht hW => ⟨⟨(), rfl, trivial, hrVm ht ho hH⟩, hS.F ht⟩) hS.2.2 dX8_passPart_60
      · have hf := hg.2 c3
        refine lv_iload_n hx hb dX8_passPart_10 rfl (lv_at hl 1 rfl) ?_
        refine lv_aload_n hx hb dX8_passPart_11 rfl (lv_at hl 0 rfl) ?_
        refine lv_iload_n hx hb dX8_passPart_12 rfl (lv_at hl 2 rfl) ?_
        obtain ⟨v8, h9, hf⟩ := gbind hf
        refine g_Vi (As := [.int x3]) (rest := [.int x2]) ⟨hx, hb, hml, hown, hts⟩ (c8_signAt l w K g S x3 v8 h9) (gcwV hts i8_signAt wd_469 rfl rfl ⟨Nat.le_of_ble_eq_true rfl, Nat.le_of_ble_eq_true rfl⟩) (gRecv.of hK rfl hH.ob) hH hK hS hl.1 rfl rfl (Nat.le_of_ble_eq_true rfl) dX8_passPart_13 ⟨Nat.le_refl _, Nat.le_refl _⟩ (fun H locs hH hS => ?_)
        refine lv_bipush (v := 40) hx hb dX8_passPart_16 (by decide) ?_
        have hg := gif hf
        refine lv_icmp_ne (tgt := 25) hx hb dX8_passPart_18 (by decide) (fun c10 => ?_) (fun c10 => ?_)
        · have hf := hg.2 c10
          refine lv_aload_n hx hb dX8_passPart_25 rfl (lv_at hl 0 rfl) ?_
          refine lv_iload_n hx hb dX8_passPart_26 rfl (lv_at hl 2 rfl) ?_
          obtain ⟨v11, h12, hf⟩ := gbind hf
          refine g_Vi (As := [.int x3]) (rest := [.int x2]) ⟨hx, hb, hml, hown, hts⟩ (c8_signAt l w K g S x3 v11 h12) (gcwV hts i8_signAt wd_469 rfl rfl ⟨Nat.le_of_ble_eq_true rfl, Nat.le_of_ble_eq_true rfl⟩) (gRecv.of hK rfl hH.ob) hH hK hS hl.1 rfl rfl (Nat.le_of_ble_eq_true rfl) dX8_passPart_27 ⟨Nat.le_refl _, Nat.le_refl _⟩ (fun H locs hH hS => ?_)
          refine lv_bipush (v := 41) hx hb dX8_passPart_30 (by decide) ?_
          have hg := gif hf
          refine lv_icmp_ne (tgt := 39) hx hb dX8_passPart_32 (by decide) (fun c13 => ?_) (fun c13 => ?_)
          · have hf := hg.2 c13
            refine lv_iconst (v := 0) hx hb dX8_passPart_39 (by decide) ?_
            exact B40 _ (ih) _ _ _ _ _ _ _ hH hS (lv_sub hl [0, 2] rfl) hf
          · have hf := hg.1 c13
            refine lv_iconst (v := (-1)) hx hb dX8_passPart_35 (by decide) ?_
            refine lv_goto (tgt := 40) hx hb dX8_passPart_36 (by decide) ?_
            exact B40 _ (ih) _ _ _ _ _ _ _ hH hS (lv_sub hl [0, 2] rfl) hf
        · have hf := hg.1 c10
          refine lv_iconst (v := 1) hx hb dX8_passPart_21 (by decide) ?_
          refine lv_goto (tgt := 40) hx hb dX8_passPart_22 (by decide) ?_
          exact B40 _ (ih) _ _ _ _ _ _ _ hH hS (lv_sub hl [0, 2] rfl) hf
  have hl : lv_has ls 4 [(0, .ref w.2.2.2), (1, .int p0)] := hl
  refine lv_iconst (v := 1) hx hb dX8_passPart_0 (by decide) ?_
  refine lv_istore_n (lv' := [(2, .int 1), (0, .ref w.2.2.2), (1, .int p0)]) hx hb dX8_passPart_1 rfl hl (by decide) rfl (fun ls hl => ?_)
  refine lv_iload_n hx hb dX8_passPart_2 rfl (lv_at hl 2 rfl) ?_
  refine lv_iconst (v := 1) hx hb dX8_passPart_3 (by decide) ?_
  refine lv_iadd hx hb dX8_passPart_4 ?_
  refine lv_topi (fun v14 ev14 => ?_)
  have hf := gl_at hf ev14
  refine lv_istore_n (lv' := [(3, .int v14), (2, .int 1), (0, .ref w.2.2.2), (1, .int p0)]) hx hb dX8_passPart_5 rfl hl (by decide) rfl (fun ls hl => ?_)
  exact B6 _ _ _ _ _ _ _ hH hS (lv_sub hl [2, 1, 0] rfl) hf
set_option maxRecDepth 100000 in
set_option maxHeartbeats 8000000 in
theorem c8_doPart (l : Launch) (w : GW) (K : GK) (g : GM) (S : GS) (p0 : Int32) (out : GS) (hf : f8_doPart S p0 = some out) : Met l yX8_doPart (wA yX8_doPart cX8_doPart 3 none) ({ frames := 5, cells := 0, slots := 0, locals := 105 } : Room) (PRE w K g S [.ref w.2.2.2, .int p0]) (QV w K g out) 0 0 (FR w) := by
  unfold f8_doPart at hf
  refine Met.ofW (cc := cX8_doPart) (maxL := 3) (ret := none) (by decide) rfl ?_
  intro p e s m args below meth c s₁ B hml hv
  obtain ⟨rfl, hH, hK⟩ := hv
  have hx := B.exec
  have hb := B.bytes
  have hr := B.returns
  have hts : ∀ q ∈ gALL, q.before _ s = true := fun q h => atoms_spec (ws := (wA yX8_doPart cX8_doPart 3 none)) B.pre q (List.mem_cons_of_mem _ h)
  have hown : s.vm.findClass RX8 = some m.cls := findClass_of_methodNamed B.named
  have hlocks := B.notSynchronized
  have hS : va_S (FR w) s.heap s.heap [] := va_S.rf
  show W p l e ({ frames := 5, cells := 0, slots := 0, locals := 105 } : Room) s m _ below meth c s.heap [] 0 0 (MQ below (QV w K g out) _ s 0 0 (FR w)) _
  have hl := lv_entry ([.ref w.2.2.2, .int p0]) (n := 3) (Nat.le_of_ble_eq_true rfl)
  rw [lg_entry_eq]
  generalize (lg_sl ([.ref w.2.2.2, .int p0]) ++ List.replicate (3 - (lg_sl ([.ref w.2.2.2, .int p0])).length) Slot.unset).toArray = ls at hl ⊢
  clear B
  generalize ([.ref w.2.2.2, .int p0] : List Value).toArray = args at hts ⊢
  have B47 : ∀ (S : GS) (s0 : Int32) (s1 : Int32) (H : Heap) (locs : List Loc) (ls : Array Slot), HR w K g S H → va_S (FR w) s.heap H locs → lv_has ls 3 [(0, .ref w.2.2.2)] → f8_doPart_47 p0 S s0 s1 = some out → W p l e ({ frames := 5, cells := 0, slots := 0, locals := 105 } : Room) s m args below meth c H locs 0 0 (MQ below (QV w K g out) args s 0 0 (FR w)) (F0 m 47 ls [.int s1, .int s0]) := by
    intro  S s0 s1 H locs ls hH hS hl hf
    unfold f8_doPart_47 at hf
    have hg := gif hf
    refine lv_icmp_ne (tgt := 63) hx hb dX8_doPart_47 (by decide) (fun c1 => ?_) (fun c1 => ?_)
    · have hf := hg.2 c1
      refine lv_aload_n hx hb dX8_doPart_63 rfl (lv_at hl 0 rfl) ?_
      refine lv_aload_n hx hb dX8_doPart_64 rfl (lv_at hl 0 rfl) ?_
      refine lv_iconst (v := 2) hx hb dX8_doPart_65 (by decide) ?_
      obtain ⟨v2, h3, hf⟩ := gbind hf
      refine g_Vi (As := [.int 2]) (rest := [.ref w.2.2.2]) ⟨hx, hb, hml, hown, hts⟩ (c8_onTop l w K g S 2 v2 h3) (gcwV hts i8_onTop wd_465 rfl rfl ⟨Nat.le_of_ble_eq_true rfl, Nat.le_of_ble_eq_true rfl⟩) (gRecv.of hK rfl hH.ob) hH hK hS hl.1 rfl rfl (Nat.le_of_ble_eq_true rfl) dX8_doPart_66 ⟨Nat.le_refl _, Nat.le_refl _⟩ (fun H locs hH hS => ?_)
      refine lv_iconst (v := 1) hx hb dX8_doPart_69 (by decide) ?_
      refine lv_iadd hx hb dX8_doPart_70 ?_
      obtain ⟨g4, h5, hf⟩ := gbind hf
      refine g_Vv (As := [.int (v2 + 1)]) (rest := []) ⟨hx, hb, hml, hown, hts⟩ (c8_passPart l w K g S (v2 + 1) g4 h5) (gcwV hts i8_passPart wd_517 rfl rfl ⟨Nat.le_of_ble_eq_true rfl, Nat.le_of_ble_eq_true rfl⟩) (gRecv.of hK rfl hH.ob) hH hK hS hl.1 rfl rfl (Nat.le_of_ble_eq_true rfl) dX8_doPart_71 ⟨Nat.le_refl _, Nat.le_refl _⟩ (fun H locs hH hS => ?_)
      have ho := Option.some.inj hf
      exact W.vret hx hb hr (fun t ht hW => ⟨⟨(), rfl, trivial, hrVm ht ho hH⟩, hS.F ht⟩) hS.2.2 dX8_doPart_74
    · have hf := hg.1 c1
      refine lv_aload_n hx hb dX8_doPart_50 rfl (lv_at hl 0 rfl) ?_
      refine lv_iconst (v := 0) hx hb dX8_doPart_51 (by decide) ?_
      obtain ⟨g6, h7, hf⟩ := gbind hf
      refine g_Vv (As := [.int 0]) (rest := []) ⟨hx, hb, hml, hown, hts⟩ (c8_open l w K g S 0 g6 h7) (gcwV hts i8_open wd_509 rfl rfl ⟨Nat.le_of_ble_eq_true rfl, Nat.le_of_ble_eq_true rfl⟩) (gRecv.of hK rfl hH.ob) hH hK hS hl.1 rfl rfl (Nat.le_of_ble_eq_true rfl) dX8_doPart_52 ⟨Nat.le_refl _, Nat.le_refl _⟩ (fun H locs hH hS => ?_)
      refine lv_aload_n hx hb dX8_doPart_55 rfl (lv_at hl 0 rfl) ?_
      refine lv_iconst (v := 2) hx hb dX8_doPart_56 (by decide) ?_
      obtain ⟨g8, h9, hf⟩ := gbind hf
      refine g_Vv (As := [.int 2]) (rest := []) ⟨hx, hb, hml, hown, hts⟩ (c8_go l w K g g6 2 g8 h9) (gcwV hts i8_go wd_501 rfl rfl ⟨Nat.le_of_ble_eq_true rfl, Nat.le_of_ble_eq_true rfl⟩) (gRecv.of hK rfl hH.ob) hH hK hS hl.1 rfl rfl (Nat.le_of_ble_eq_true rfl) dX8_doPart_57 ⟨Nat.le_refl _, Nat.le_refl _⟩ (fun H locs hH hS => ?_)
      refine lv_goto (tgt := 74) hx hb dX8_doPart_60 (by decide) ?_
      have ho := Option.some.inj hf
      exact W.vret hx hb hr (fun t ht hW => ⟨⟨(), rfl, trivial, hrVm ht ho hH⟩, hS.F ht⟩) hS.2.2 dX8_doPart_74
  have hl : lv_has ls 3 [(0, .ref w.2.2.2), (1, .int p0)] := hl
  refine lv_iload_n hx hb dX8_doPart_0 rfl (lv_at hl 1 rfl) ?_
  refine lv_bipush (v := 120) hx hb dX8_doPart_1 (by decide) ?_
  have hg := gif hf
  refine lv_icmp_ne (tgt := 32) hx hb dX8_doPart_3 (by decide) (fun c10 => ?_) (fun c10 => ?_)
  · have hf := hg.2 c10
    refine lv_aload_n hx hb dX8_doPart_32 rfl (lv_at hl 0 rfl) ?_
    obtain ⟨v11, h12, hf⟩ := gbind hf
    refine g_Vi (As := []) (rest := []) ⟨hx, hb, hml, hown, hts⟩ (c8_isShort l w K g S v11 h12) (gcwV hts i8_isShort wd_513 rfl rfl ⟨Nat.le_of_ble_eq_true rfl, Nat.le_of_ble_eq_true rfl⟩) (gRecv.of hK rfl hH.ob) hH hK hS hl.1 rfl rfl (Nat.le_of_ble_eq_true rfl) dX8_doPart_33 ⟨Nat.le_refl _, Nat.le_refl _⟩ (fun H locs hH hS => ?_)
    refine lv_iload_n hx hb dX8_doPart_36 rfl (lv_at hl 1 rfl) ?_
    refine lv_bipush (v := 115) hx hb dX8_doPart_37 (by decide) ?_
    have hg := gif hf
    refine lv_icmp_ne (tgt := 46) hx hb dX8_doPart_39 (by decide) (fun c13 => ?_) (fun c13 => ?_)
    · have hf := hg.2 c13
      refine lv_iconst (v := 0) hx hb dX8_doPart_46 (by decide) ?_
      exact B47 _ _ _ _ _ _ hH hS (lv_sub hl [0] rfl) hf
    · have hf := hg.1 c13
      refine lv_iconst (v := 1) hx hb dX8_doPart_42 (by decide) ?_
      refine lv_goto (tgt := 47) hx hb dX8_doPart_43 (by decide) ?_
      exact B47 _ _ _ _ _ _ hH hS (lv_sub hl [0] rfl) hf
  · have hf := hg.1 c10
    refine lv_aload_n hx hb dX8_doPart_6 rfl (lv_at hl 0 rfl) ?_
    obtain ⟨v14, h15, hf⟩ := gbind hf
    refine g_Vi (As := []) (rest := []) ⟨hx, hb, hml, hown, hts⟩ (c8_leftHere l w K g S v14 h15) (gcwV hts i8_leftHere wd_493 rfl rfl ⟨Nat.le_of_ble_eq_true rfl, Nat.le_of_ble_eq_true rfl⟩) (gRecv.of hK rfl hH.ob) hH hK hS hl.1 rfl rfl (Nat.le_of_ble_eq_true rfl) dX8_doPart_7 ⟨Nat.le_refl _, Nat.le_refl _⟩ (fun H locs hH hS => ?_)
    refine lv_iconst (v := 1) hx hb dX8_doPart_10 (by decide) ?_
    refine lv_isub hx hb dX8_doPart_11 ?_
    refine lv_topi (fun v16 ev16 => ?_)
    have hf := gl_at hf ev16
    refine lv_istore_n (lv' := [(2, .int v16), (0, .ref w.2.2.2), (1, .int p0)]) hx hb dX8_doPart_12 rfl hl (by decide) rfl (fun ls hl => ?_)
    refine lv_aload_n hx hb dX8_doPart_13 rfl (lv_at hl 1 rfl) ?_
    refine lv_iload_n hx hb dX8_doPart_14 rfl (lv_at hl 0 rfl) ?_
    obtain ⟨g17, h18, hf⟩ := gbind hf
    refine g_Vv (As := [.int v16]) (rest := []) ⟨hx, hb, hml, hown, hts⟩ (c8_open l w K g S v16 g17 h18) (gcwV hts i8_open wd_509 rfl rfl ⟨Nat.le_of_ble_eq_true rfl, Nat.le_of_ble_eq_true rfl⟩) (gRecv.of hK rfl hH.ob) hH hK hS hl.1 rfl rfl (Nat.le_of_ble_eq_true rfl) dX8_doPart_15 ⟨Nat.le_refl _, Nat.le_refl _⟩ (fun H locs hH hS => ?_)
    refine lv_aload_n hx hb dX8_doPart_18 rfl (lv_at hl 1 rfl) ?_
    refine lv_iconst (v := 3) hx hb dX8_doPart_19 (by decide) ?_
    refine lv_iconst (v := 0) hx hb dX8_doPart_20 (by decide) ?_
    obtain ⟨g19, h20, hf⟩ := gbind hf
    refine g_Vv (As := [.int 3, .int 0]) (rest := []) ⟨hx, hb, hml, hown, hts⟩ (c8_setTop l w K g g17 3 0 g19 h20) (gcwV hts i8_setTop wd_360 rfl rfl ⟨Nat.le_of_ble_eq_true rfl, Nat.le_of_ble_eq_true rfl⟩) (gRecv.of hK rfl hH.ob) hH hK hS hl.1 rfl rfl (Nat.le_of_ble_eq_true rfl) dX8_doPart_21 ⟨Nat.le_refl _, Nat.le_refl _⟩ (fun H locs hH hS => ?_)
    refine lv_aload_n hx hb dX8_doPart_24 rfl (lv_at hl 1 rfl) ?_
    refine lv_iconst (v := 3) hx hb dX8_doPart_25 (by decide) ?_
    obtain ⟨g21, h22, hf⟩ := gbind hf
    refine g_Vv (As := [.int 3]) (rest := []) ⟨hx, hb, hml, hown, hts⟩ (c8_go l w K g g19 3 g21 h22) (gcwV hts i8_go wd_501 rfl rfl ⟨Nat.le_of_ble_eq_true rfl, Nat.le_of_ble_eq_true rfl⟩) (gRecv.of hK rfl hH.ob) hH hK hS hl.1 rfl rfl (Nat.le_of_ble_eq_true rfl) dX8_doPart_26 ⟨Nat.le_refl _, Nat.le_refl _⟩ (fun H locs hH hS => ?_)
    refine lv_goto (tgt := 74) hx hb dX8_doPart_29 (by decide) ?_
    have ho := Option.some.inj hf
    exact W.vret hx hb hr (fun t ht hW => ⟨⟨(), rfl, trivial, hrVm ht ho hH⟩, hS.F ht⟩) hS.2.2 dX8_doPart_74
set_option maxRecDepth 100000 in
set_option maxHeartbeats 8000000 in
theorem c8_close (l : Launch) (w : GW) (K : GK) (g : GM) (S : GS) (out : GS) (hf : f8_close S = some out) : Met l yX8_close (wA yX8_close cX8_close 2 none) ({ frames := 3, cells := 0, slots := 0, locals := 64 } : Room) (PRE w K g S [.ref w.2.2.2]) (QV w K g out) 0 0 (FR w) := by
  unfold f8_close at hf
  refine Met.ofW (cc := cX8_close) (maxL := 2) (ret := none) (by decide) rfl ?_
  intro p e s m args below meth c s₁ B hml hv
  obtain ⟨rfl, hH, hK⟩ := hv
  have hx := B.exec
  have hb := B.bytes
  have hr := B.returns
  have hts : ∀ q ∈ gALL, q.before _ s = true := fun q h => atoms_spec (ws := (wA yX8_close cX8_close 2 none)) B.pre q (List.mem_cons_of_mem _ h)
  have hown : s.vm.findClass RX8 = some m.cls := findClass_of_methodNamed B.named
  have hlocks := B.notSynchronized
  have hS : va_S (FR w) s.heap s.heap [] := va_S.rf
  show W p l e ({ frames := 3, cells := 0, slots := 0, locals := 64 } : Room) s m _ below meth c s.heap [] 0 0 (MQ below (QV w K g out) _ s 0 0 (FR w)) _
  have hl := lv_entry ([.ref w.2.2.2]) (n := 2) (Nat.le_of_ble_eq_true rfl)
  rw [lg_entry_eq]
  generalize (lg_sl ([.ref w.2.2.2]) ++ List.replicate (2 - (lg_sl ([.ref w.2.2.2])).length) Slot.unset).toArray = ls at hl ⊢
  clear B
  generalize ([.ref w.2.2.2] : List Value).toArray = args at hts ⊢
  have hl : lv_has ls 2 [(0, .ref w.2.2.2)] := hl
  refine lv_aload_n hx hb dX8_close_0 rfl (lv_at hl 0 rfl) ?_
  refine lv_iconst (v := 4) hx hb dX8_close_1 (by decide) ?_
  refine lv_aload_n hx hb dX8_close_2 rfl (lv_at hl 0 rfl) ?_
  refine lv_iconst (v := 4) hx hb dX8_close_3 (by decide) ?_
  obtain ⟨v1, h2, hf⟩ := gbind hf
  refine g_Vi (As := [.int 4]) (rest := [.int 4, .ref w.2.2.2]) ⟨hx, hb, hml, hown, hts⟩ (c8_onTop l w K g S 4 v1 h2) (gcwV hts i8_onTop wd_465 rfl rfl ⟨Nat.le_of_ble_eq_true rfl, Nat.le_of_ble_eq_true rfl⟩) (gRecv.of hK rfl hH.ob) hH hK hS hl.1 rfl rfl (Nat.le_of_ble_eq_true rfl) dX8_close_4 ⟨Nat.le_refl _, Nat.le_refl _⟩ (fun H locs hH hS => ?_)
  refine lv_iconst (v := 1) hx hb dX8_close_7 (by decide) ?_
  refine lv_isub hx hb dX8_close_8 ?_
  obtain ⟨g3, h4, hf⟩ := gbind hf
  refine g_Vv (As := [.int 4, .int (v1 - 1)]) (rest := []) ⟨hx, hb, hml, hown, hts⟩ (c8_setTop l w K g S 4 (v1 - 1) g3 h4) (gcwV hts i8_setTop wd_360 rfl rfl ⟨Nat.le_of_ble_eq_true rfl, Nat.le_of_ble_eq_true rfl⟩) (gRecv.of hK rfl hH.ob) hH hK hS hl.1 rfl rfl (Nat.le_of_ble_eq_true rfl) dX8_close_9 ⟨Nat.le_refl _, Nat.le_refl _⟩ (fun H locs hH hS => ?_)
  refine lv_aload_n hx hb dX8_close_12 rfl (lv_at hl 0 rfl) ?_
  refine lv_iconst (v := 5) hx hb dX8_close_13 (by decide) ?_
  refine lv_iconst (v := 2) hx hb dX8_close_14 (by decide) ?_
  refine lv_aload_n hx hb dX8_close_15 rfl (lv_at hl 0 rfl) ?_
  refine lv_iconst (v := 4) hx hb dX8_close_16 (by decide) ?_
  obtain ⟨v5, h6, hf⟩ := gbind hf
  refine g_Vi (As := [.int 4]) (rest := [.int 2, .int 5, .ref w.2.2.2]) ⟨hx, hb, hml, hown, hts⟩ (c8_onTop l w K g g3 4 v5 h6) (gcwV hts i8_onTop wd_465 rfl rfl ⟨Nat.le_of_ble_eq_true rfl, Nat.le_of_ble_eq_true rfl⟩) (gRecv.of hK rfl hH.ob) hH hK hS hl.1 rfl rfl (Nat.le_of_ble_eq_true rfl) dX8_close_17 ⟨Nat.le_refl _, Nat.le_refl _⟩ (fun H locs hH hS => ?_)
  refine lv_imul hx hb dX8_close_20 ?_
  refine lv_iadd hx hb dX8_close_21 ?_
  refine lv_iconst (v := 1) hx hb dX8_close_22 (by decide) ?_
  refine lv_iadd hx hb dX8_close_23 ?_
  obtain ⟨v7, h8, hf⟩ := gbind hf
  refine g_Vi (As := [.int ((5 + (2 * v5)) + 1)]) (rest := []) ⟨hx, hb, hml, hown, hts⟩ (c8_onTop l w K g g3 ((5 + (2 * v5)) + 1) v7 h8) (gcwV hts i8_onTop wd_465 rfl rfl ⟨Nat.le_of_ble_eq_true rfl, Nat.le_of_ble_eq_true rfl⟩) (gRecv.of hK rfl hH.ob) hH hK hS hl.1 rfl rfl (Nat.le_of_ble_eq_true rfl) dX8_close_24 ⟨Nat.le_refl _, Nat.le_refl _⟩ (fun H locs hH hS => ?_)
  refine lv_istore_n (lv' := [(1, .int v7), (0, .ref w.2.2.2)]) hx hb dX8_close_27 rfl hl (by decide) rfl (fun ls hl => ?_)
  refine lv_iload_n hx hb dX8_close_28 rfl (lv_at hl 0 rfl) ?_
  have hg := gif hf
  refine lv_if_le (tgt := 59) hx hb dX8_close_29 (by decide) (fun c9 => ?_) (fun c9 => ?_)
  · have hf := hg.1 c9
    refine lv_aload_n hx hb dX8_close_59 rfl (lv_at hl 1 rfl) ?_
    refine lv_iconst (v := 1) hx hb dX8_close_60 (by decide) ?_
    obtain ⟨g10, h11, hf⟩ := gbind hf
    refine g_Vv (As := [.int 1]) (rest := []) ⟨hx, hb, hml, hown, hts⟩ (c8_go l w K g g3 1 g10 h11) (gcwV hts i8_go wd_501 rfl rfl ⟨Nat.le_of_ble_eq_true rfl, Nat.le_of_ble_eq_true rfl⟩) (gRecv.of hK rfl hH.ob) hH hK hS hl.1 rfl rfl (Nat.le_of_ble_eq_true rfl) dX8_close_61 ⟨Nat.le_refl _, Nat.le_refl _⟩ (fun H locs hH hS => ?_)
    have ho := Option.some.inj hf
    exact W.vret hx hb hr (fun t ht hW => ⟨⟨(), rfl, trivial, hrVm ht ho hH⟩, hS.F ht⟩) hS.2.2 dX8_close_64
  · have hf := hg.2 c9
    refine lv_aload_n hx hb dX8_close_32 rfl (lv_at hl 1 rfl) ?_
    refine lv_iconst (v := 2) hx hb dX8_close_33 (by decide) ?_
    refine lv_aload_n hx hb dX8_close_34 rfl (lv_at hl 1 rfl) ?_
    refine lv_iconst (v := 5) hx hb dX8_close_35 (by decide) ?_
    refine lv_iconst (v := 2) hx hb dX8_close_36 (by decide) ?_
    refine lv_aload_n hx hb dX8_close_37 rfl (lv_at hl 1 rfl) ?_
    refine lv_iconst (v := 4) hx hb dX8_close_38 (by decide) ?_
    obtain ⟨v12, h13, hf⟩ := gbind hf
    refine g_Vi (As := [.int 4]) (rest := [.int 2, .int 5, .ref w.2.2.2, .int 2, .ref w.2.2.2]) ⟨hx, hb, hml, hown, hts⟩ (c8_onTop l w K g g3 4 v12 h13) (gcwV hts i8_onTop wd_465 rfl rfl ⟨Nat.le_of_ble_eq_true rfl, Nat.le_of_ble_eq_true rfl⟩) (gRecv.of hK rfl hH.ob) hH hK hS hl.1 rfl rfl (Nat.le_of_ble_eq_true rfl) dX8_close_39 ⟨Nat.le_refl _, Nat.le_refl _⟩ (fun H locs hH hS => ?_)
    refine lv_imul hx hb dX8_close_42 ?_
    refine lv_iadd hx hb dX8_close_43 ?_
    obtain ⟨v14, h15, hf⟩ := gbind hf
    refine g_Vi (As := [.int (5 + (2 * v12))]) (rest := [.int 2, .ref w.2.2.2]) ⟨hx, hb, hml, hown, hts⟩ (c8_onTop l w K g g3 (5 + (2 * v12)) v14 h15) (gcwV hts i8_onTop wd_465 rfl rfl ⟨Nat.le_of_ble_eq_true rfl, Nat.le_of_ble_eq_true rfl⟩) (gRecv.of hK rfl hH.ob) hH hK hS hl.1 rfl rfl (Nat.le_of_ble_eq_true rfl) dX8_close_44 ⟨Nat.le_refl _, Nat.le_refl _⟩ (fun H locs hH hS => ?_)
    obtain ⟨g16, h17, hf⟩ := gbind hf
    refine g_Vv (As := [.int 2, .int v14]) (rest := []) ⟨hx, hb, hml, hown, hts⟩ (c8_setTop l w K g g3 2 v14 g16 h17) (gcwV hts i8_setTop wd_360 rfl rfl ⟨Nat.le_of_ble_eq_true rfl, Nat.le_of_ble_eq_true rfl⟩) (gRecv.of hK rfl hH.ob) hH hK hS hl.1 rfl rfl (Nat.le_of_ble_eq_true rfl) dX8_close_47 ⟨Nat.le_refl _, Nat.le_refl _⟩ (fun H locs hH hS => ?_)
    refine lv_aload_n hx hb dX8_close_50 rfl (lv_at hl 1 rfl) ?_
    refine lv_iconst (v := 3) hx hb dX8_close_51 (by decide) ?_
    refine lv_iload_n hx hb dX8_close_52 rfl (lv_at hl 0 rfl) ?_
    obtain ⟨g18, h19, hf⟩ := gbind hf
    refine g_Vv (As := [.int 3, .int v7]) (rest := []) ⟨hx, hb, hml, hown, hts⟩ (c8_setTop l w K g g16 3 v7 g18 h19) (gcwV hts i8_setTop wd_360 rfl rfl ⟨Nat.le_of_ble_eq_true rfl, Nat.le_of_ble_eq_true rfl⟩) (gRecv.of hK rfl hH.ob) hH hK hS hl.1 rfl rfl (Nat.le_of_ble_eq_true rfl) dX8_close_53 ⟨Nat.le_refl _, Nat.le_refl _⟩ (fun H locs hH hS => ?_)
    refine lv_goto (tgt := 64) hx hb dX8_close_56 (by decide) ?_
    have ho := Option.some.inj hf
    exact W.vret hx hb hr (fun t ht hW => ⟨⟨(), rfl, trivial, hrVm ht ho hH⟩, hS.F ht⟩) hS.2.2 dX8_close_64
set_option maxRecDepth 100000 in
set_option maxHeartbeats 8000000 in
theorem c8_settle (l : Launch) (w : GW) (K : GK) (g : GM) (S : GS) (out : GS) (hf : f8_settle S = some out) : Met l yX8_settle (wA yX8_settle cX8_settle 2 none) ({ frames := 4, cells := 0, slots := 0, locals := 85 } : Room) (PRE w K g S [.ref w.2.2.2]) (QV w K g out) 0 0 (FR w) := by
  unfold f8_settle at hf
  refine Met.ofW (cc := cX8_settle) (maxL := 2) (ret := none) (by decide) rfl ?_
  intro p e s m args below meth c s₁ B hml hv
  obtain ⟨rfl, hH, hK⟩ := hv
  have hx := B.exec
  have hb := B.bytes
  have hr := B.returns
  have hts : ∀ q ∈ gALL, q.before _ s = true := fun q h => atoms_spec (ws := (wA yX8_settle cX8_settle 2 none)) B.pre q (List.mem_cons_of_mem _ h)
  have hown : s.vm.findClass RX8 = some m.cls := findClass_of_methodNamed B.named
  have hlocks := B.notSynchronized
  have hS : va_S (FR w) s.heap s.heap [] := va_S.rf
  show W p l e ({ frames := 4, cells := 0, slots := 0, locals := 85 } : Room) s m _ below meth c s.heap [] 0 0 (MQ below (QV w K g out) _ s 0 0 (FR w)) _
  have hl := lv_entry ([.ref w.2.2.2]) (n := 2) (Nat.le_of_ble_eq_true rfl)
  rw [lg_entry_eq]
  generalize (lg_sl ([.ref w.2.2.2]) ++ List.replicate (2 - (lg_sl ([.ref w.2.2.2])).length) Slot.unset).toArray = ls at hl ⊢
  clear B
  generalize ([.ref w.2.2.2] : List Value).toArray = args at hts ⊢
  have B2 : ∀ n : Nat, ∀ (S : GS) (x1 : Int32) (H : Heap) (locs : List Loc) (ls : Array Slot), HR w K g S H → va_S (FR w) s.heap H locs → lv_has ls 2 [(0, .ref w.2.2.2), (1, .int x1)] → f8_settle_2 n S x1 = some out → W p l e ({ frames := 4, cells := 0, slots := 0, locals := 85 } : Room) s m args below meth c H locs 0 0 (MQ below (QV w K g out) args s 0 0 (FR w)) (F0 m 2 ls []) := by
    intro n
    induction n with
    | zero =>
      intro S x1 H locs ls hH hS hl hf
      cases hf
    | succ n ih =>
      intro S x1 H locs ls hH hS hl hf
      rw [f8_settle_2] at hf
      refine lv_iload_n hx hb dX8_settle_2 rfl (lv_at hl 1 rfl) ?_
      have hg := gif hf
      refine lv_if_eq (tgt := 82) hx hb dX8_settle_3 (by decide) (fun c1 => ?_) (fun c1 => ?_)
      · have hf := hg.1 c1
        have ho := Option.some.inj hf
        exact W.vret hx hb hr (fun t ht hW => ⟨⟨(), rfl, trivial, hrVm ht ho hH⟩, hS.F ht⟩) hS.2.2 dX8_settle_82
      · have hf := hg.2 c1
        refine lv_aload_n hx hb dX8_settle_6 rfl (lv_at hl 0 rfl) ?_
        refine e_8_0 hx hb hts hown hK hH (hts _ wd_101) dX8_settle_7 ?_
        refine lv_iconst (v := 3) hx hb dX8_settle_10 (by decide) ?_
        obtain ⟨h3, hf⟩ := gd_some hf
        refine m_iald hx hb hK hH 1 (by decide) (by decide) rfl h3 dX8_settle_11 ?_
        have hg := gif hf
        refine lv_if_le (tgt := 82) hx hb dX8_settle_12 (by decide) (fun c4 => ?_) (fun c4 => ?_)
        · have hf := hg.1 c4
          have ho := Option.some.inj hf
          exact W.vret hx hb hr (fun t ht hW => ⟨⟨(), rfl, trivial, hrVm ht ho hH⟩, hS.F ht⟩) hS.2.2 dX8_settle_82
        · have hf := hg.2 c4
          refine lv_aload_n hx hb dX8_settle_15 rfl (lv_at hl 0 rfl) ?_
          refine lv_iconst (v := 2) hx hb dX8_settle_16 (by decide) ?_
          obtain ⟨v5, h6, hf⟩ := gbind hf
          refine g_Vi (As := [.int 2]) (rest := []) ⟨hx, hb, hml, hown, hts⟩ (c8_onTop l w K g S 2 v5 h6) (gcwV hts i8_onTop wd_465 rfl rfl ⟨Nat.le_of_ble_eq_true rfl, Nat.le_of_ble_eq_true rfl⟩) (gRecv.of hK rfl hH.ob) hH hK hS hl.1 rfl rfl (Nat.le_of_ble_eq_true rfl) dX8_settle_17 ⟨Nat.le_refl _, Nat.le_refl _⟩ (fun H locs hH hS => ?_)
          refine lv_aload_n hx hb dX8_settle_20 rfl (lv_at hl 0 rfl) ?_
          refine lv_bipush (v := 11) hx hb dX8_settle_21 (by decide) ?_
          obtain ⟨v7, h8, hf⟩ := gbind hf
          refine g_Vi (As := [.int 11]) (rest := [.int v5]) ⟨hx, hb, hml, hown, hts⟩ (c8_onTop l w K g S 11 v7 h8) (gcwV hts i8_onTop wd_465 rfl rfl ⟨Nat.le_of_ble_eq_true rfl, Nat.le_of_ble_eq_true rfl⟩) (gRecv.of hK rfl hH.ob) hH hK hS hl.1 rfl rfl (Nat.le_of_ble_eq_true rfl) dX8_settle_23 ⟨Nat.le_refl _, Nat.le_refl _⟩ (fun H locs hH hS => ?_)
          have hg := gif hf
          refine lv_icmp_ne (tgt := 56) hx hb dX8_settle_26 (by decide) (fun c9 => ?_) (fun c9 => ?_)
          · have hf := hg.2 c9
            refine lv_aload_n hx hb dX8_settle_56 rfl (lv_at hl 0 rfl) ?_
            refine lv_aload_n hx hb dX8_settle_57 rfl (lv_at hl 0 rfl) ?_
            refine lv_iconst (v := 2) hx hb dX8_settle_58 (by decide) ?_
            obtain ⟨v10, h11, hf⟩ := gbind hf
            refine g_Vi (As := [.int 2]) (rest := [.ref w.2.2.2]) ⟨hx, hb, hml, hown, hts⟩ (c8_onTop l w K g S 2 v10 h11) (gcwV hts i8_onTop wd_465 rfl rfl ⟨Nat.le_of_ble_eq_true rfl, Nat.le_of_ble_eq_true rfl⟩) (gRecv.of hK rfl hH.ob) hH hK hS hl.1 rfl rfl (Nat.le_of_ble_eq_true rfl) dX8_settle_59 ⟨Nat.le_refl _, Nat.le_refl _⟩ (fun H locs hH hS => ?_)
            obtain ⟨v12, h13, hf⟩ := gbind hf
            refine g_Vi (As := [.int v10]) (rest := []) ⟨hx, hb, hml, hown, hts⟩ (c8_signAt l w K g S v10 v12 h13) (gcwV hts i8_signAt wd_469 rfl rfl ⟨Nat.le_of_ble_eq_true rfl, Nat.le_of_ble_eq_true rfl⟩) (gRecv.of hK rfl hH.ob) hH hK hS hl.1 rfl rfl (Nat.le_of_ble_eq_true rfl) dX8_settle_62 ⟨Nat.le_refl _, Nat.le_refl _⟩ (fun H locs hH hS => ?_)
            refine lv_bipush (v := 41) hx hb dX8_settle_65 (by decide) ?_
            have hg := gif hf
            refine lv_icmp_ne (tgt := 77) hx hb dX8_settle_67 (by decide) (fun c14 => ?_) (fun c14 => ?_)
            · have hf := hg.2 c14
              refine lv_iconst (v := 0) hx hb dX8_settle_77 (by decide) ?_
              refine lv_istore_n (lv' := [(1, .int 0), (0, .ref w.2.2.2)]) hx hb dX8_settle_78 rfl hl (by decide) rfl (fun ls hl => ?_)
              refine lv_goto (tgt := 2) hx hb dX8_settle_79 (by decide) ?_
              exact ih _ _ _ _ _ hH hS (lv_sub hl [1, 0] rfl) hf
            · have hf := hg.1 c14
              refine lv_aload_n hx hb dX8_settle_70 rfl (lv_at hl 0 rfl) ?_
              obtain ⟨g15, h16, hf⟩ := gbind hf
              refine g_Vv (As := []) (rest := []) ⟨hx, hb, hml, hown, hts⟩ (c8_close l w K g S g15 h16) (gcwV hts i8_close wd_525 rfl rfl ⟨Nat.le_of_ble_eq_true rfl, Nat.le_of_ble_eq_true rfl⟩) (gRecv.of hK rfl hH.ob) hH hK hS hl.1 rfl rfl (Nat.le_of_ble_eq_true rfl) dX8_settle_71 ⟨Nat.le_refl _, Nat.le_refl _⟩ (fun H locs hH hS => ?_)
              refine lv_goto (tgt := 2) hx hb dX8_settle_74 (by decide) ?_
              exact ih _ _ _ _ _ hH hS (lv_sub hl [0, 1] rfl) hf
          · have hf := hg.1 c9
            refine lv_aload_n hx hb dX8_settle_29 rfl (lv_at hl 0 rfl) ?_
            refine e_8_0 hx hb hts hown hK hH (hts _ wd_101) dX8_settle_30 ?_
            refine lv_iconst (v := 3) hx hb dX8_settle_33 (by decide) ?_
            refine lv_dup2_11 hx hb dX8_settle_34 rfl rfl ?_
            refine m_iald hx hb hK hH 1 (by decide) (by decide) rfl h3 dX8_settle_35 ?_
            refine lv_iconst (v := 1) hx hb dX8_settle_36 (by decide) ?_
            refine lv_isub hx hb dX8_settle_37 ?_
            refine m_iast hx hb hK hH hS 1 (by decide) (by decide) rfl h3 dX8_settle_38 (fun H locs hH hS => ?_)
            obtain ⟨S19, eS19⟩ : ∃ z : GS, z = ssI S 1 (3 : Int32).toNatClampNeg ((S 1 (3 : Int32).toNatClampNeg) - 1) := ⟨_, rfl⟩
            have hf := gl_at hf eS19
            replace hH : HR w K g S19 H := by rw [eS19]; exact hH
            refine lv_aload_n hx hb dX8_settle_39 rfl (lv_at hl 0 rfl) ?_
            refine e_8_0 hx hb hts hown hK hH (hts _ wd_101) dX8_settle_40 ?_
            refine lv_iconst (v := 3) hx hb dX8_settle_43 (by decide) ?_
            refine m_iald hx hb hK hH 1 (by decide) (by decide) rfl h3 dX8_settle_44 ?_
            have hg := gif hf
            refine lv_if_le (tgt := 2) hx hb dX8_settle_45 (by decide) (fun c21 => ?_) (fun c21 => ?_)
            · have hf := hg.1 c21
              exact ih _ _ _ _ _ hH hS (lv_sub hl [0, 1] rfl) hf
            · have hf := hg.2 c21
              refine lv_aload_n hx hb dX8_settle_48 rfl (lv_at hl 0 rfl) ?_
              refine lv_iconst (v := 2) hx hb dX8_settle_49 (by decide) ?_
              obtain ⟨g22, h23, hf⟩ := gbind hf
              refine g_Vv (As := [.int 2]) (rest := []) ⟨hx, hb, hml, hown, hts⟩ (c8_go l w K g S19 2 g22 h23) (gcwV hts i8_go wd_501 rfl rfl ⟨Nat.le_of_ble_eq_true rfl, Nat.le_of_ble_eq_true rfl⟩) (gRecv.of hK rfl hH.ob) hH hK hS hl.1 rfl rfl (Nat.le_of_ble_eq_true rfl) dX8_settle_50 ⟨Nat.le_refl _, Nat.le_refl _⟩ (fun H locs hH hS => ?_)
              refine lv_goto (tgt := 2) hx hb dX8_settle_53 (by decide) ?_
              exact ih _ _ _ _ _ hH hS (lv_sub hl [0, 1] rfl) hf
  have hl : lv_has ls 2 [(0, .ref w.2.2.2)] := hl
  refine lv_iconst (v := 1) hx hb dX8_settle_0 (by decide) ?_
  refine lv_istore_n (lv' := [(1, .int 1), (0, .ref w.2.2.2)]) hx hb dX8_settle_1 rfl hl (by decide) rfl (fun ls hl => ?_)
  exact B2 _ _ _ _ _ _ hH hS (lv_sub hl [1, 0] rfl) hf
set_option maxRecDepth 100000 in
set_option maxHeartbeats 8000000 in
theorem c8_doStep (l : Launch) (w : GW) (K : GK) (g : GM) (S : GS) (out : GS × Int32) (hf : f8_doStep S = some out) : Met l yX8_doStep (wA yX8_doStep cX8_doStep 2 (some .boolean)) ({ frames := 7, cells := 0, slots := 0, locals := 147 } : Room) (PRE w K g S [.ref w.2.2.2]) (QI w K g out.1 out.2) 0 0 (FR w) := by
  unfold f8_doStep at hf
  refine Met.ofW (cc := cX8_doStep) (maxL := 2) (ret := (some .boolean)) (by decide) rfl ?_
  intro p e s m args below meth c s₁ B hml hv
  obtain ⟨rfl, hH, hK⟩ := hv
  have hx := B.exec
  have hb := B.bytes
  have hr := B.returns
  have hts : ∀ q ∈ gALL, q.before _ s = true := fun q h => atoms_spec (ws := (wA yX8_doStep cX8_doStep 2 (some .boolean))) B.pre q (List.mem_cons_of_mem _ h)
  have hown : s.vm.findClass RX8 = some m.cls := findClass_of_methodNamed B.named
  have hlocks := B.notSynchronized
  have hS : va_S (FR w) s.heap s.heap [] := va_S.rf
  show W p l e ({ frames := 7, cells := 0, slots := 0, locals := 147 } : Room) s m _ below meth c s.heap [] 0 0 (MQ below (QI w K g out.1 out.2) _ s 0 0 (FR w)) _
  have hl := lv_entry ([.ref w.2.2.2]) (n := 2) (Nat.le_of_ble_eq_true rfl)
  rw [lg_entry_eq]
  generalize (lg_sl ([.ref w.2.2.2]) ++ List.replicate (2 - (lg_sl ([.ref w.2.2.2])).length) Slot.unset).toArray = ls at hl ⊢
  clear B
  generalize ([.ref w.2.2.2] : List Value).toArray = args at hts ⊢
  have B120 : ∀ (S : GS) (x1 : Int32) (H : Heap) (locs : List Loc) (ls : Array Slot), HR w K g S H → va_S (FR w) s.heap H locs → lv_has ls 2 [(0, .ref w.2.2.2), (1, .int x1)] → f8_doStep_120 S x1 = some out → W p l e ({ frames := 7, cells := 0, slots := 0, locals := 147 } : Room) s m args below meth c H locs 0 0 (MQ below (QI w K g out.1 out.2) args s 0 0 (FR w)) (F0 m 120 ls []) := by
    intro  S x1 H locs ls hH hS hl hf
    unfold f8_doStep_120 at hf
    refine lv_aload_n hx hb dX8_doStep_120 rfl (lv_at hl 0 rfl) ?_
    obtain ⟨g1, h2, hf⟩ := gbind hf
    refine g_Vv (As := []) (rest := []) ⟨hx, hb, hml, hown, hts⟩ (c8_settle l w K g S g1 h2) (gcwV hts i8_settle wd_521 rfl rfl ⟨Nat.le_of_ble_eq_true rfl, Nat.le_of_ble_eq_true rfl⟩) (gRecv.of hK rfl hH.ob) hH hK hS hl.1 rfl rfl (Nat.le_of_ble_eq_true rfl) dX8_doStep_121 ⟨Nat.le_refl _, Nat.le_refl _⟩ (fun H locs hH hS => ?_)
    refine lv_iload_n hx hb dX8_doStep_124 rfl (lv_at hl 1 rfl) ?_
    refine lv_bipush (v := 119) hx hb dX8_doStep_125 (by decide) ?_
    have hg := gif hf
    refine lv_icmp_ne (tgt := 134) hx hb dX8_doStep_127 (by decide) (fun c3 => ?_) (fun c3 => ?_)
    · have hf := hg.2 c3
      refine lv_iconst (v := 0) hx hb dX8_doStep_134 (by decide) ?_
      have ho := Option.some.inj hf
      exact W.zret (v := 0) (ty := .boolean) hx hb hr rfl (fun t ht hW => ⟨⟨0, (), rfl, congrArg Prod.snd ho, hrPm ht ho hH⟩, hS.F ht⟩) hS.2.2 dX8_doStep_135
    · have hf := hg.1 c3
      refine lv_iconst (v := 1) hx hb dX8_doStep_130 (by decide) ?_
      refine lv_goto (tgt := 135) hx hb dX8_doStep_131 (by decide) ?_
      have ho := Option.some.inj hf
      exact W.zret (v := 1) (ty := .boolean) hx hb hr rfl (fun t ht hW => ⟨⟨1, (), rfl, congrArg Prod.snd ho, hrPm ht ho hH⟩, hS.F ht⟩) hS.2.2 dX8_doStep_135
  have hl : lv_has ls 2 [(0, .ref w.2.2.2)] := hl
  refine lv_aload_n hx hb dX8_doStep_0 rfl (lv_at hl 0 rfl) ?_
  refine lv_aload_n hx hb dX8_doStep_1 rfl (lv_at hl 0 rfl) ?_
  refine lv_iconst (v := 2) hx hb dX8_doStep_2 (by decide) ?_
  obtain ⟨v4, h5, hf⟩ := gbind hf
  refine g_Vi (As := [.int 2]) (rest := [.ref w.2.2.2]) ⟨hx, hb, hml, hown, hts⟩ (c8_onTop l w K g S 2 v4 h5) (gcwV hts i8_onTop wd_465 rfl rfl ⟨Nat.le_of_ble_eq_true rfl, Nat.le_of_ble_eq_true rfl⟩) (gRecv.of hK rfl hH.ob) hH hK hS hl.1 rfl rfl (Nat.le_of_ble_eq_true rfl) dX8_doStep_3 ⟨Nat.le_refl _, Nat.le_refl _⟩ (fun H locs hH hS => ?_)
  obtain ⟨v6, h7, hf⟩ := gbind hf
  refine g_Vi (As := [.int v4]) (rest := []) ⟨hx, hb, hml, hown, hts⟩ (c8_signAt l w K g S v4 v6 h7) (gcwV hts i8_signAt wd_469 rfl rfl ⟨Nat.le_of_ble_eq_true rfl, Nat.le_of_ble_eq_true rfl⟩) (gRecv.of hK rfl hH.ob) hH hK hS hl.1 rfl rfl (Nat.le_of_ble_eq_true rfl) dX8_doStep_6 ⟨Nat.le_refl _, Nat.le_refl _⟩ (fun H locs hH hS => ?_)
  refine lv_istore_n (lv' := [(1, .int v6), (0, .ref w.2.2.2)]) hx hb dX8_doStep_9 rfl hl (by decide) rfl (fun ls hl => ?_)
  refine lv_iload_n hx hb dX8_doStep_10 rfl (lv_at hl 0 rfl) ?_
  have hg := gif hf
  by_cases c8 : v6 = 99
  · have hf := hg.1 c8
    refine lv_lookup (tgt := 51) hx hb dX8_doStep_11 (by decide +kernel) (by rw [c8]; first | done | decide +kernel) (by decide) ?_
    refine lv_aload_n hx hb dX8_doStep_51 rfl (lv_at hl 1 rfl) ?_
    refine lv_iconst (v := 1) hx hb dX8_doStep_52 (by decide) ?_
    refine lv_aload_n hx hb dX8_doStep_53 rfl (lv_at hl 1 rfl) ?_
    refine lv_aload_n hx hb dX8_doStep_54 rfl (lv_at hl 1 rfl) ?_
    refine lv_iconst (v := 2) hx hb dX8_doStep_55 (by decide) ?_
    obtain ⟨v9, h10, hf⟩ := gbind hf
    refine g_Vi (As := [.int 2]) (rest := [.ref w.2.2.2, .int 1, .ref w.2.2.2]) ⟨hx, hb, hml, hown, hts⟩ (c8_onTop l w K g S 2 v9 h10) (gcwV hts i8_onTop wd_465 rfl rfl ⟨Nat.le_of_ble_eq_true rfl, Nat.le_of_ble_eq_true rfl⟩) (gRecv.of hK rfl hH.ob) hH hK hS hl.1 rfl rfl (Nat.le_of_ble_eq_true rfl) dX8_doStep_56 ⟨Nat.le_refl _, Nat.le_refl _⟩ (fun H locs hH hS => ?_)
    refine lv_iconst (v := 1) hx hb dX8_doStep_59 (by decide) ?_
    refine lv_iadd hx hb dX8_doStep_60 ?_
    obtain ⟨v11, h12, hf⟩ := gbind hf
    refine g_Vi (As := [.int (v9 + 1)]) (rest := [.int 1, .ref w.2.2.2]) ⟨hx, hb, hml, hown, hts⟩ (c8_signAt l w K g S (v9 + 1) v11 h12) (gcwV hts i8_signAt wd_469 rfl rfl ⟨Nat.le_of_ble_eq_true rfl, Nat.le_of_ble_eq_true rfl⟩) (gRecv.of hK rfl hH.ob) hH hK hS hl.1 rfl rfl (Nat.le_of_ble_eq_true rfl) dX8_doStep_61 ⟨Nat.le_refl _, Nat.le_refl _⟩ (fun H locs hH hS => ?_)
    refine lv_bipush (v := 48) hx hb dX8_doStep_64 (by decide) ?_
    refine lv_isub hx hb dX8_doStep_66 ?_
    obtain ⟨g13, h14, hf⟩ := gbind hf
    refine g_Vv (As := [.int 1, .int (v11 - 48)]) (rest := []) ⟨hx, hb, hml, hown, hts⟩ (c8_setTop l w K g S 1 (v11 - 48) g13 h14) (gcwV hts i8_setTop wd_360 rfl rfl ⟨Nat.le_of_ble_eq_true rfl, Nat.le_of_ble_eq_true rfl⟩) (gRecv.of hK rfl hH.ob) hH hK hS hl.1 rfl rfl (Nat.le_of_ble_eq_true rfl) dX8_doStep_67 ⟨Nat.le_refl _, Nat.le_refl _⟩ (fun H locs hH hS => ?_)
    refine lv_aload_n hx hb dX8_doStep_70 rfl (lv_at hl 1 rfl) ?_
    refine lv_iconst (v := 2) hx hb dX8_doStep_71 (by decide) ?_
    obtain ⟨g15, h16, hf⟩ := gbind hf
    refine g_Vv (As := [.int 2]) (rest := []) ⟨hx, hb, hml, hown, hts⟩ (c8_go l w K g g13 2 g15 h16) (gcwV hts i8_go wd_501 rfl rfl ⟨Nat.le_of_ble_eq_true rfl, Nat.le_of_ble_eq_true rfl⟩) (gRecv.of hK rfl hH.ob) hH hK hS hl.1 rfl rfl (Nat.le_of_ble_eq_true rfl) dX8_doStep_72 ⟨Nat.le_refl _, Nat.le_refl _⟩ (fun H locs hH hS => ?_)
    refine lv_goto (tgt := 120) hx hb dX8_doStep_75 (by decide) ?_
    exact B120 _ _ _ _ _ hH hS (lv_sub hl [1, 0] rfl) hf
  have hf := hg.2 c8
  have hg := gif hf
  by_cases c17 : v6 = 107
  · have hf := hg.1 c17
    refine lv_lookup (tgt := 78) hx hb dX8_doStep_11 (by decide +kernel) (by rw [c17]; first | done | decide +kernel) (by decide) ?_
    refine lv_aload_n hx hb dX8_doStep_78 rfl (lv_at hl 1 rfl) ?_
    refine e_8_0 hx hb hts hown hK hH (hts _ wd_101) dX8_doStep_79 ?_
    refine lv_bipush (v := 7) hx hb dX8_doStep_82 (by decide) ?_
    refine lv_dup2_11 hx hb dX8_doStep_84 rfl rfl ?_
    obtain ⟨h19, hf⟩ := gd_some hf
    refine m_iald hx hb hK hH 1 (by decide) (by decide) rfl h19 dX8_doStep_85 ?_
    refine lv_iconst (v := 1) hx hb dX8_doStep_86 (by decide) ?_
    refine lv_iadd hx hb dX8_doStep_87 ?_
    refine m_iast hx hb hK hH hS 1 (by decide) (by decide) rfl h19 dX8_doStep_88 (fun H locs hH hS => ?_)
    obtain ⟨S21, eS21⟩ : ∃ z : GS, z = ssI S 1 (7 : Int32).toNatClampNeg ((S 1 (7 : Int32).toNatClampNeg) + 1) := ⟨_, rfl⟩
    have hf := gl_at hf eS21
    replace hH : HR w K g S21 H := by rw [eS21]; exact hH
    refine lv_aload_n hx hb dX8_doStep_89 rfl (lv_at hl 1 rfl) ?_
    refine lv_aload_n hx hb dX8_doStep_90 rfl (lv_at hl 1 rfl) ?_
    refine lv_aload_n hx hb dX8_doStep_91 rfl (lv_at hl 1 rfl) ?_
    refine lv_iconst (v := 2) hx hb dX8_doStep_92 (by decide) ?_
    obtain ⟨v22, h23, hf⟩ := gbind hf
    refine g_Vi (As := [.int 2]) (rest := [.ref w.2.2.2, .ref w.2.2.2]) ⟨hx, hb, hml, hown, hts⟩ (c8_onTop l w K g S21 2 v22 h23) (gcwV hts i8_onTop wd_465 rfl rfl ⟨Nat.le_of_ble_eq_true rfl, Nat.le_of_ble_eq_true rfl⟩) (gRecv.of hK rfl hH.ob) hH hK hS hl.1 rfl rfl (Nat.le_of_ble_eq_true rfl) dX8_doStep_93 ⟨Nat.le_refl _, Nat.le_refl _⟩ (fun H locs hH hS => ?_)
    refine lv_iconst (v := 1) hx hb dX8_doStep_96 (by decide) ?_
    refine lv_iadd hx hb dX8_doStep_97 ?_
    obtain ⟨v24, h25, hf⟩ := gbind hf
    refine g_Vi (As := [.int (v22 + 1)]) (rest := [.ref w.2.2.2]) ⟨hx, hb, hml, hown, hts⟩ (c8_signAt l w K g S21 (v22 + 1) v24 h25) (gcwV hts i8_signAt wd_469 rfl rfl ⟨Nat.le_of_ble_eq_true rfl, Nat.le_of_ble_eq_true rfl⟩) (gRecv.of hK rfl hH.ob) hH hK hS hl.1 rfl rfl (Nat.le_of_ble_eq_true rfl) dX8_doStep_98 ⟨Nat.le_refl _, Nat.le_refl _⟩ (fun H locs hH hS => ?_)
    refine lv_bipush (v := 48) hx hb dX8_doStep_101 (by decide) ?_
    refine lv_isub hx hb dX8_doStep_103 ?_
    refine lv_aload_n hx hb dX8_doStep_104 rfl (lv_at hl 1 rfl) ?_
    refine lv_iconst (v := 1) hx hb dX8_doStep_105 (by decide) ?_
    obtain ⟨v26, h27, hf⟩ := gbind hf
    refine g_Vi (As := [.int 1]) (rest := [.int (v24 - 48), .ref w.2.2.2]) ⟨hx, hb, hml, hown, hts⟩ (c8_onTop l w K g S21 1 v26 h27) (gcwV hts i8_onTop wd_465 rfl rfl ⟨Nat.le_of_ble_eq_true rfl, Nat.le_of_ble_eq_true rfl⟩) (gRecv.of hK rfl hH.ob) hH hK hS hl.1 rfl rfl (Nat.le_of_ble_eq_true rfl) dX8_doStep_106 ⟨Nat.le_refl _, Nat.le_refl _⟩ (fun H locs hH hS => ?_)
    obtain ⟨g28, h29, hf⟩ := gbind hf
    refine g_Vv (As := [.int (v24 - 48), .int v26]) (rest := []) ⟨hx, hb, hml, hown, hts⟩ (c8_lay l w K g S21 (v24 - 48) v26 g28 h29) (gcwV hts i8_lay wd_356 rfl rfl ⟨Nat.le_of_ble_eq_true rfl, Nat.le_of_ble_eq_true rfl⟩) (gRecv.of hK rfl hH.ob) hH hK hS hl.1 rfl rfl (Nat.le_of_ble_eq_true rfl) dX8_doStep_109 ⟨Nat.le_refl _, Nat.le_refl _⟩ (fun H locs hH hS => ?_)
    refine lv_goto (tgt := 120) hx hb dX8_doStep_112 (by decide) ?_
    exact B120 _ _ _ _ _ hH hS (lv_sub hl [1, 0] rfl) hf
  have hf := hg.2 c17
  have hg := gif hf
  by_cases c30 : v6 = 119
  · have hf := hg.1 c30
    refine lv_lookup (tgt := 44) hx hb dX8_doStep_11 (by decide +kernel) (by rw [c30]; first | done | decide +kernel) (by decide) ?_
    refine lv_aload_n hx hb dX8_doStep_44 rfl (lv_at hl 1 rfl) ?_
    obtain ⟨g31, h32, hf⟩ := gbind hf
    refine g_Vv (As := []) (rest := []) ⟨hx, hb, hml, hown, hts⟩ (c8_weavePick l w K g S g31 h32) (gcwV hts i8_weavePick wd_485 rfl rfl ⟨Nat.le_of_ble_eq_true rfl, Nat.le_of_ble_eq_true rfl⟩) (gRecv.of hK rfl hH.ob) hH hK hS hl.1 rfl rfl (Nat.le_of_ble_eq_true rfl) dX8_doStep_45 ⟨Nat.le_refl _, Nat.le_refl _⟩ (fun H locs hH hS => ?_)
    refine lv_goto (tgt := 120) hx hb dX8_doStep_48 (by decide) ?_
    exact B120 _ _ _ _ _ hH hS (lv_sub hl [1, 0] rfl) hf
  have hf := hg.2 c30
  have nc8 : v6.toInt ≠ 99 := g_ne c8 (by decide)
  have nc17 : v6.toInt ≠ 107 := g_ne c17 (by decide)
  have nc30 : v6.toInt ≠ 119 := g_ne c30 (by decide)
  refine lv_lookup (off := 104) (tgt := 115) hx hb dX8_doStep_11 (by decide +kernel) (by simp [Op.lookupswitch.offset, nc8, nc17, nc30, nc8.symm, nc17.symm, nc30.symm]) (by decide) ?_
  refine lv_aload_n hx hb dX8_doStep_115 rfl (lv_at hl 1 rfl) ?_
  refine lv_iload_n hx hb dX8_doStep_116 rfl (lv_at hl 0 rfl) ?_
  obtain ⟨g33, h34, hf⟩ := gbind hf
  refine g_Vv (As := [.int v6]) (rest := []) ⟨hx, hb, hml, hown, hts⟩ (c8_doPart l w K g S v6 g33 h34) (gcwV hts i8_doPart wd_505 rfl rfl ⟨Nat.le_of_ble_eq_true rfl, Nat.le_of_ble_eq_true rfl⟩) (gRecv.of hK rfl hH.ob) hH hK hS hl.1 rfl rfl (Nat.le_of_ble_eq_true rfl) dX8_doStep_117 ⟨Nat.le_refl _, Nat.le_refl _⟩ (fun H locs hH hS => ?_)
  exact B120 _ _ _ _ _ hH hS (lv_sub hl [1, 0] rfl) hf
set_option maxRecDepth 100000 in
set_option maxHeartbeats 8000000 in
theorem c8_weaves (l : Launch) (w : GW) (K : GK) (g : GM) (S : GS) (p0 : Int32) (out : GS × Int32) (hf : f8_weaves S p0 = some out) : Met l yX8_weaves (wA yX8_weaves cX8_weaves 6 (some .int)) ({ frames := 8, cells := 0, slots := 0, locals := 168 } : Room) (PRE w K g S [.ref w.2.2.2, .int p0]) (QI w K g out.1 out.2) 0 0 (FR w) := by
  unfold f8_weaves at hf
  refine Met.ofW (cc := cX8_weaves) (maxL := 6) (ret := (some .int)) (by decide) rfl ?_
  intro p e s m args below meth c s₁ B hml hv
  obtain ⟨rfl, hH, hK⟩ := hv
  have hx := B.exec
  have hb := B.bytes
  have hr := B.returns
  have hts : ∀ q ∈ gALL, q.before _ s = true := fun q h => atoms_spec (ws := (wA yX8_weaves cX8_weaves 6 (some .int))) B.pre q (List.mem_cons_of_mem _ h)
  have hown : s.vm.findClass RX8 = some m.cls := findClass_of_methodNamed B.named
  have hlocks := B.notSynchronized
  have hS : va_S (FR w) s.heap s.heap [] := va_S.rf
  show W p l e ({ frames := 8, cells := 0, slots := 0, locals := 168 } : Room) s m _ below meth c s.heap [] 0 0 (MQ below (QI w K g out.1 out.2) _ s 0 0 (FR w)) _
  have hl := lv_entry ([.ref w.2.2.2, .int p0]) (n := 6) (Nat.le_of_ble_eq_true rfl)
  rw [lg_entry_eq]
  generalize (lg_sl ([.ref w.2.2.2, .int p0]) ++ List.replicate (6 - (lg_sl ([.ref w.2.2.2, .int p0])).length) Slot.unset).toArray = ls at hl ⊢
  clear B
  generalize ([.ref w.2.2.2, .int p0] : List Value).toArray = args at hts ⊢
  have B64 : ∀ (S : GS) (x2 : Int32) (x4 : Int32) (H : Heap) (locs : List Loc) (ls : Array Slot), HR w K g S H → va_S (FR w) s.heap H locs → lv_has ls 6 [(0, .ref w.2.2.2), (2, .int x2), (4, .int x4)] → f8_weaves_64 p0 S x2 x4 = some out → W p l e ({ frames := 8, cells := 0, slots := 0, locals := 168 } : Room) s m args below meth c H locs 0 0 (MQ below (QI w K g out.1 out.2) args s 0 0 (FR w)) (F0 m 64 ls []) := by
    intro  S x2 x4 H locs ls hH hS hl hf
    unfold f8_weaves_64 at hf
    refine lv_aload_n hx hb dX8_weaves_64 rfl (lv_at hl 0 rfl) ?_
    refine e_8_0 hx hb hts hown hK hH (hts _ wd_101) dX8_weaves_65 ?_
    refine lv_bipush (v := 8) hx hb dX8_weaves_68 (by decide) ?_
    refine lv_iload hx hb dX8_weaves_70 (lv_at hl 2 rfl) ?_
    obtain ⟨h2, hf⟩ := gd_some hf
    refine m_iast hx hb hK hH hS 1 (by decide) (by decide) rfl h2 dX8_weaves_72 (fun H locs hH hS => ?_)
    obtain ⟨S3, eS3⟩ : ∃ z : GS, z = ssI S 1 (8 : Int32).toNatClampNeg x4 := ⟨_, rfl⟩
    have hf := gl_at hf eS3
    replace hH : HR w K g S3 H := by rw [eS3]; exact hH
    refine lv_iload_n hx hb dX8_weaves_73 rfl (lv_at hl 1 rfl) ?_
    have ho := Option.some.inj hf
    exact W.iret (v := x2) hx hb hr (fun t ht hW => ⟨⟨x2, (), rfl, congrArg Prod.snd ho, hrPm ht ho hH⟩, hS.F ht⟩) hS.2.2 dX8_weaves_74
  have B60 : ∀ (k7 : GS → Int32 → Int32 → Int32 → Option (GS × Int32)), (∀ (S : GS) (x2 : Int32) (x3 : Int32) (x4 : Int32) (H : Heap) (locs : List Loc) (ls : Array Slot), HR w K g S H → va_S (FR w) s.heap H locs → lv_has ls 6 [(0, .ref w.2.2.2), (1, .int p0), (2, .int x2), (3, .int x3), (4, .int x4)] → k7 S x2 x3 x4 = some out → W p l e ({ frames := 8, cells := 0, slots := 0, locals := 168 } : Room) s m args below meth c H locs 0 0 (MQ below (QI w K g out.1 out.2) args s 0 0 (FR w)) (F0 m 7 ls [])) → ∀ (S : GS) (x2 : Int32) (x4 : Int32) (s0 : Int32) (H : Heap) (locs : List Loc) (ls : Array Slot), HR w K g S H → va_S (FR w) s.heap H locs → lv_has ls 6 [(0, .ref w.2.2.2), (1, .int p0), (2, .int x2), (4, .int x4)] → f8_weaves_60 k7 p0 S x2 x4 s0 = some out → W p l e ({ frames := 8, cells := 0, slots := 0, locals := 168 } : Room) s m args below meth c H locs 0 0 (MQ below (QI w K g out.1 out.2) args s 0 0 (FR w)) (F0 m 60 ls [.int s0]) := by
    intro k7 hk7 S x2 x4 s0 H locs ls hH hS hl hf
    unfold f8_weaves_60 at hf
    refine lv_istore_n (lv' := [(3, .int s0), (0, .ref w.2.2.2), (1, .int p0), (2, .int x2), (4, .int x4)]) hx hb dX8_weaves_60 rfl hl (by decide) rfl (fun ls hl => ?_)
    refine lv_goto (tgt := 7) hx hb dX8_weaves_61 (by decide) ?_
    exact hk7 _ _ _ _ _ _ _ hH hS (lv_sub hl [1, 2, 3, 0, 4] rfl) hf
  have B46 : ∀ (k7 : GS → Int32 → Int32 → Int32 → Option (GS × Int32)), (∀ (S : GS) (x2 : Int32) (x3 : Int32) (x4 : Int32) (H : Heap) (locs : List Loc) (ls : Array Slot), HR w K g S H → va_S (FR w) s.heap H locs → lv_has ls 6 [(0, .ref w.2.2.2), (1, .int p0), (2, .int x2), (3, .int x3), (4, .int x4)] → k7 S x2 x3 x4 = some out → W p l e ({ frames := 8, cells := 0, slots := 0, locals := 168 } : Room) s m args below meth c H locs 0 0 (MQ below (QI w K g out.1 out.2) args s 0 0 (FR w)) (F0 m 7 ls [])) → ∀ (S : GS) (x3 : Int32) (x4 : Int32) (x5 : Int32) (s0 : Int32) (s1 : Int32) (H : Heap) (locs : List Loc) (ls : Array Slot), HR w K g S H → va_S (FR w) s.heap H locs → lv_has ls 6 [(0, .ref w.2.2.2), (1, .int p0), (3, .int x3), (4, .int x4), (5, .int x5)] → f8_weaves_46 k7 p0 S x3 x4 x5 s0 s1 = some out → W p l e ({ frames := 8, cells := 0, slots := 0, locals := 168 } : Room) s m args below meth c H locs 0 0 (MQ below (QI w K g out.1 out.2) args s 0 0 (FR w)) (F0 m 46 ls [.int s1, .int s0]) := by
    intro k7 hk7 S x3 x4 x5 s0 s1 H locs ls hH hS hl hf
    unfold f8_weaves_46 at hf
    refine lv_iadd hx hb dX8_weaves_46 ?_
    refine lv_topi (fun v4 ev4 => ?_)
    have hf := gl_at hf ev4
    refine lv_istore_n (lv' := [(2, .int v4), (0, .ref w.2.2.2), (1, .int p0), (3, .int x3), (4, .int x4), (5, .int x5)]) hx hb dX8_weaves_47 rfl hl (by decide) rfl (fun ls hl => ?_)
    refine lv_iload hx hb dX8_weaves_48 (lv_at hl 5 rfl) ?_
    have hg := gif hf
    refine lv_if_eq (tgt := 57) hx hb dX8_weaves_50 (by decide) (fun c5 => ?_) (fun c5 => ?_)
    · have hf := hg.1 c5
      refine lv_iload_n hx hb dX8_weaves_57 rfl (lv_at hl 3 rfl) ?_
      refine lv_iconst (v := 1) hx hb dX8_weaves_58 (by decide) ?_
      refine lv_iadd hx hb dX8_weaves_59 ?_
      exact B60 _ (hk7) _ _ _ _ _ _ _ hH hS (lv_sub hl [1, 2, 0, 4] rfl) hf
    · have hf := hg.2 c5
      refine lv_iconst (v := 0) hx hb dX8_weaves_53 (by decide) ?_
      refine lv_goto (tgt := 60) hx hb dX8_weaves_54 (by decide) ?_
      exact B60 _ (hk7) _ _ _ _ _ _ _ hH hS (lv_sub hl [1, 2, 0, 4] rfl) hf
  have B7 : ∀ n : Nat, ∀ (S : GS) (x2 : Int32) (x3 : Int32) (x4 : Int32) (H : Heap) (locs : List Loc) (ls : Array Slot), HR w K g S H → va_S (FR w) s.heap H locs → lv_has ls 6 [(0, .ref w.2.2.2), (1, .int p0), (2, .int x2), (3, .int x3), (4, .int x4)] → f8_weaves_7 p0 n S x2 x3 x4 = some out → W p l e ({ frames := 8, cells := 0, slots := 0, locals := 168 } : Room) s m args below meth c H locs 0 0 (MQ below (QI w K g out.1 out.2) args s 0 0 (FR w)) (F0 m 7 ls []) := by
    intro n
    induction n with
    | zero =>
      intro S x2 x3 x4 H locs ls hH hS hl hf
      cases hf
    | succ n ih =>
      intro S x2 x3 x4 H locs ls hH hS hl hf
      rw [f8_weaves_7] at hf
      refine lv_iload_n hx hb dX8_weaves_7 rfl (lv_at hl 2 rfl) ?_
      refine lv_iload_n hx hb dX8_weaves_8 rfl (lv_at hl 1 rfl) ?_
      have hg := gif hf
      refine lv_icmp_ge (tgt := 64) hx hb dX8_weaves_9 (by decide) (fun c6 => ?_) (fun c6 => ?_)
      · have hf := hg.1 c6
        exact B64 _ _ _ _ _ _ hH hS (lv_sub hl [0, 2, 4] rfl) hf
      · have hf := hg.2 c6
        refine lv_iload hx hb dX8_weaves_12 (lv_at hl 4 rfl) ?_
        have hg := gif hf
        refine lv_if_ne (tgt := 64) hx hb dX8_weaves_14 (by decide) (fun c7 => ?_) (fun c7 => ?_)
        · have hf := hg.2 c7
          exact B64 _ _ _ _ _ _ hH hS (lv_sub hl [0, 2, 4] rfl) hf
        · have hf := hg.1 c7
          refine lv_aload_n hx hb dX8_weaves_17 rfl (lv_at hl 0 rfl) ?_
          refine lv_iload_n hx hb dX8_weaves_18 rfl (lv_at hl 3 rfl) ?_
          obtain ⟨v8, h9, hf⟩ := gbind hf
          refine g_Vi (As := [.int x3]) (rest := []) ⟨hx, hb, hml, hown, hts⟩ (c8_reason l w K g S x3 v8 h9) (gcwV hts i8_reason wd_461 rfl rfl ⟨Nat.le_of_ble_eq_true rfl, Nat.le_of_ble_eq_true rfl⟩) (gRecv.of hK rfl hH.ob) hH hK hS hl.1 rfl rfl (Nat.le_of_ble_eq_true rfl) dX8_weaves_19 ⟨Nat.le_refl _, Nat.le_refl _⟩ (fun H locs hH hS => ?_)
          refine lv_istore (lv' := [(4, .int v8), (0, .ref w.2.2.2), (1, .int p0), (2, .int x2), (3, .int x3)]) hx hb dX8_weaves_22 hl (by decide) rfl (fun ls hl => ?_)
          refine lv_iload hx hb dX8_weaves_24 (lv_at hl 0 rfl) ?_
          have hg := gif hf
          refine lv_if_ne (tgt := 7) hx hb dX8_weaves_26 (by decide) (fun c10 => ?_) (fun c10 => ?_)
          · have hf := hg.2 c10
            exact ih _ _ _ _ _ _ _ hH hS (lv_sub hl [1, 2, 3, 4, 0] rfl) hf
          · have hf := hg.1 c10
            refine lv_aload_n hx hb dX8_weaves_29 rfl (lv_at hl 1 rfl) ?_
            obtain ⟨r11, h12, hf⟩ := gbind hf
            refine g_Vi (As := []) (rest := []) ⟨hx, hb, hml, hown, hts⟩ (c8_doStep l w K g S r11 h12) (gcwV hts i8_doStep wd_481 rfl rfl ⟨Nat.le_of_ble_eq_true rfl, Nat.le_of_ble_eq_true rfl⟩) (gRecv.of hK rfl hH.ob) hH hK hS hl.1 rfl rfl (Nat.le_of_ble_eq_true rfl) dX8_weaves_30 ⟨Nat.le_refl _, Nat.le_refl _⟩ (fun H locs hH hS => ?_)
            refine lv_istore (lv' := [(5, .int r11.2), (4, .int v8), (0, .ref w.2.2.2), (1, .int p0), (2, .int x2), (3, .int x3)]) hx hb dX8_weaves_33 hl (by decide) rfl (fun ls hl => ?_)
            refine lv_iload_n hx hb dX8_weaves_35 rfl (lv_at hl 4 rfl) ?_
            refine lv_iload hx hb dX8_weaves_36 (lv_at hl 0 rfl) ?_
            have hg := gif hf
            refine lv_if_eq (tgt := 45) hx hb dX8_weaves_38 (by decide) (fun c13 => ?_) (fun c13 => ?_)
            · have hf := hg.1 c13
              refine lv_iconst (v := 0) hx hb dX8_weaves_45 (by decide) ?_
              exact B46 _ (ih) _ _ _ _ _ _ _ _ _ hH hS (lv_sub hl [2, 3, 5, 1, 0] rfl) hf
            · have hf := hg.2 c13
              refine lv_iconst (v := 1) hx hb dX8_weaves_41 (by decide) ?_
              refine lv_goto (tgt := 46) hx hb dX8_weaves_42 (by decide) ?_
              exact B46 _ (ih) _ _ _ _ _ _ _ _ _ hH hS (lv_sub hl [2, 3, 5, 1, 0] rfl) hf
  have hl : lv_has ls 6 [(0, .ref w.2.2.2), (1, .int p0)] := hl
  refine lv_iconst (v := 0) hx hb dX8_weaves_0 (by decide) ?_
  refine lv_istore_n (lv' := [(2, .int 0), (0, .ref w.2.2.2), (1, .int p0)]) hx hb dX8_weaves_1 rfl hl (by decide) rfl (fun ls hl => ?_)
  refine lv_iconst (v := 0) hx hb dX8_weaves_2 (by decide) ?_
  refine lv_istore_n (lv' := [(3, .int 0), (2, .int 0), (0, .ref w.2.2.2), (1, .int p0)]) hx hb dX8_weaves_3 rfl hl (by decide) rfl (fun ls hl => ?_)
  refine lv_iconst (v := 0) hx hb dX8_weaves_4 (by decide) ?_
  refine lv_istore (lv' := [(4, .int 0), (3, .int 0), (2, .int 0), (0, .ref w.2.2.2), (1, .int p0)]) hx hb dX8_weaves_5 hl (by decide) rfl (fun ls hl => ?_)
  exact B7 _ _ _ _ _ _ _ _ hH hS (lv_sub hl [3, 4, 2, 1, 0] rfl) hf
set_option maxRecDepth 100000 in
set_option maxHeartbeats 8000000 in
theorem c8_takeBack (l : Launch) (w : GW) (K : GK) (g : GM) (S : GS) (out : GS) (hf : f8_takeBack S = some out) : Met l yX8_takeBack (wA yX8_takeBack cX8_takeBack 2 none) ({ frames := 0, cells := 0, slots := 0, locals := 0 } : Room) (PRE w K g S [.ref w.2.2.2]) (QV w K g out) 0 0 (FR w) := by
  unfold f8_takeBack at hf
  refine Met.ofW (cc := cX8_takeBack) (maxL := 2) (ret := none) (by decide) rfl ?_
  intro p e s m args below meth c s₁ B hml hv
  obtain ⟨rfl, hH, hK⟩ := hv
  have hx := B.exec
  have hb := B.bytes
  have hr := B.returns
  have hts : ∀ q ∈ gALL, q.before _ s = true := fun q h => atoms_spec (ws := (wA yX8_takeBack cX8_takeBack 2 none)) B.pre q (List.mem_cons_of_mem _ h)
  have hown : s.vm.findClass RX8 = some m.cls := findClass_of_methodNamed B.named
  have hlocks := B.notSynchronized
  have hS : va_S (FR w) s.heap s.heap [] := va_S.rf
  show W p l e ({ frames := 0, cells := 0, slots := 0, locals := 0 } : Room) s m _ below meth c s.heap [] 0 0 (MQ below (QV w K g out) _ s 0 0 (FR w)) _
  have hl := lv_entry ([.ref w.2.2.2]) (n := 2) (Nat.le_of_ble_eq_true rfl)
  rw [lg_entry_eq]
  generalize (lg_sl ([.ref w.2.2.2]) ++ List.replicate (2 - (lg_sl ([.ref w.2.2.2])).length) Slot.unset).toArray = ls at hl ⊢
  clear B
  generalize ([.ref w.2.2.2] : List Value).toArray = args at hts ⊢
  have B2 : ∀ n : Nat, ∀ (S : GS) (x1 : Int32) (H : Heap) (locs : List Loc) (ls : Array Slot), HR w K g S H → va_S (FR w) s.heap H locs → lv_has ls 2 [(0, .ref w.2.2.2), (1, .int x1)] → f8_takeBack_2 n S x1 = some out → W p l e ({ frames := 0, cells := 0, slots := 0, locals := 0 } : Room) s m args below meth c H locs 0 0 (MQ below (QV w K g out) args s 0 0 (FR w)) (F0 m 2 ls []) := by
    intro n
    induction n with
    | zero =>
      intro S x1 H locs ls hH hS hl hf
      cases hf
    | succ n ih =>
      intro S x1 H locs ls hH hS hl hf
      rw [f8_takeBack_2] at hf
      refine lv_iload_n hx hb dX8_takeBack_2 rfl (lv_at hl 1 rfl) ?_
      refine lv_sipush (v := 2081) hx hb dX8_takeBack_3 (by decide) ?_
      have hg := gif hf
      refine lv_icmp_ge (tgt := 27) hx hb dX8_takeBack_6 (by decide) (fun c1 => ?_) (fun c1 => ?_)
      · have hf := hg.1 c1
        have ho := Option.some.inj hf
        exact W.vret hx hb hr (fun t ht hW => ⟨⟨(), rfl, trivial, hrVm ht ho hH⟩, hS.F ht⟩) hS.2.2 dX8_takeBack_27
      · have hf := hg.2 c1
        refine lv_aload_n hx hb dX8_takeBack_9 rfl (lv_at hl 0 rfl) ?_
        refine e_8_0 hx hb hts hown hK hH (hts _ wd_101) dX8_takeBack_10 ?_
        refine lv_iload_n hx hb dX8_takeBack_13 rfl (lv_at hl 1 rfl) ?_
        refine lv_aload_n hx hb dX8_takeBack_14 rfl (lv_at hl 0 rfl) ?_
        refine e_8_1 hx hb hts hown hK hH (hts _ wd_102) dX8_takeBack_15 ?_
        refine lv_iload_n hx hb dX8_takeBack_18 rfl (lv_at hl 1 rfl) ?_
        obtain ⟨h3, hf⟩ := gd_some hf
        refine m_iald hx hb hK hH 2 (by decide) (by decide) rfl h3 dX8_takeBack_19 ?_
        refine m_iast hx hb hK hH hS 1 (by decide) (by decide) rfl h3 dX8_takeBack_20 (fun H locs hH hS => ?_)
        obtain ⟨S5, eS5⟩ : ∃ z : GS, z = ssI S 1 x1.toNatClampNeg (S 2 x1.toNatClampNeg) := ⟨_, rfl⟩
        have hf := gl_at hf eS5
        replace hH : HR w K g S5 H := by rw [eS5]; exact hH
        obtain ⟨v6, ev6⟩ : ∃ z : Int32, z = x1 + 1 := ⟨_, rfl⟩
        have hf := gl_at hf ev6
        refine lv_iinc (v := v6) (lv' := [(1, .int v6), (0, .ref w.2.2.2)]) hx hb dX8_takeBack_21 hl (k := 1) rfl (by rw [ev6]; rfl) (by decide) rfl (fun ls hl => ?_)
        refine lv_goto (tgt := 2) hx hb dX8_takeBack_24 (by decide) ?_
        exact ih _ _ _ _ _ hH hS (lv_sub hl [1, 0] rfl) hf
  have hl : lv_has ls 2 [(0, .ref w.2.2.2)] := hl
  refine lv_iconst (v := 0) hx hb dX8_takeBack_0 (by decide) ?_
  refine lv_istore_n (lv' := [(1, .int 0), (0, .ref w.2.2.2)]) hx hb dX8_takeBack_1 rfl hl (by decide) rfl (fun ls hl => ?_)
  exact B2 _ _ _ _ _ _ hH hS (lv_sub hl [1, 0] rfl) hf
set_option maxRecDepth 100000 in
set_option maxHeartbeats 8000000 in
theorem c8_tellsAhead (l : Launch) (w : GW) (K : GK) (g : GM) (S : GS) (p0 : Int32) (out : GS × Int32) (hf : f8_tellsAhead S p0 = some out) : Met l yX8_tellsAhead (wA yX8_tellsAhead cX8_tellsAhead 4 (some .int)) ({ frames := 9, cells := 0, slots := 0, locals := 193 } : Room) (PRE w K g S [.ref w.2.2.2, .int p0]) (QI w K g out.1 out.2) 0 0 (FR w) := by
  unfold f8_tellsAhead at hf
  refine Met.ofW (cc := cX8_tellsAhead) (maxL := 4) (ret := (some .int)) (by decide) rfl ?_
  intro p e s m args below meth c s₁ B hml hv
  obtain ⟨rfl, hH, hK⟩ := hv
  have hx := B.exec
  have hb := B.bytes
  have hr := B.returns
  have hts : ∀ q ∈ gALL, q.before _ s = true := fun q h => atoms_spec (ws := (wA yX8_tellsAhead cX8_tellsAhead 4 (some .int))) B.pre q (List.mem_cons_of_mem _ h)
  have hown : s.vm.findClass RX8 = some m.cls := findClass_of_methodNamed B.named
  have hlocks := B.notSynchronized
  have hS : va_S (FR w) s.heap s.heap [] := va_S.rf
  show W p l e ({ frames := 9, cells := 0, slots := 0, locals := 193 } : Room) s m _ below meth c s.heap [] 0 0 (MQ below (QI w K g out.1 out.2) _ s 0 0 (FR w)) _
  have hl := lv_entry ([.ref w.2.2.2, .int p0]) (n := 4) (Nat.le_of_ble_eq_true rfl)
  rw [lg_entry_eq]
  generalize (lg_sl ([.ref w.2.2.2, .int p0]) ++ List.replicate (4 - (lg_sl ([.ref w.2.2.2, .int p0])).length) Slot.unset).toArray = ls at hl ⊢
  clear B
  generalize ([.ref w.2.2.2, .int p0] : List Value).toArray = args at hts ⊢
  have B37 : ∀ (S : GS) (s0 : Int32) (H : Heap) (locs : List Loc) (ls : Array Slot), HR w K g S H → va_S (FR w) s.heap H locs → lv_has ls 4 [(0, .ref w.2.2.2)] → f8_tellsAhead_37 p0 S s0 = some out → W p l e ({ frames := 9, cells := 0, slots := 0, locals := 193 } : Room) s m args below meth c H locs 0 0 (MQ below (QI w K g out.1 out.2) args s 0 0 (FR w)) (F0 m 37 ls [.int s0]) := by
    intro  S s0 H locs ls hH hS hl hf
    unfold f8_tellsAhead_37 at hf
    refine lv_istore_n (lv' := [(3, .int s0), (0, .ref w.2.2.2)]) hx hb dX8_tellsAhead_37 rfl hl (by decide) rfl (fun ls hl => ?_)
    refine lv_aload_n hx hb dX8_tellsAhead_38 rfl (lv_at hl 1 rfl) ?_
    obtain ⟨g1, h2, hf⟩ := gbind hf
    refine g_Vv (As := []) (rest := []) ⟨hx, hb, hml, hown, hts⟩ (c8_takeBack l w K g S g1 h2) (gcwV hts i8_takeBack wd_853 rfl rfl ⟨Nat.le_of_ble_eq_true rfl, Nat.le_of_ble_eq_true rfl⟩) (gRecv.of hK rfl hH.ob) hH hK hS hl.1 rfl rfl (Nat.le_of_ble_eq_true rfl) dX8_tellsAhead_39 ⟨Nat.le_refl _, Nat.le_refl _⟩ (fun H locs hH hS => ?_)
    refine lv_iload_n hx hb dX8_tellsAhead_42 rfl (lv_at hl 0 rfl) ?_
    have ho := Option.some.inj hf
    exact W.iret (v := s0) hx hb hr (fun t ht hW => ⟨⟨s0, (), rfl, congrArg Prod.snd ho, hrPm ht ho hH⟩, hS.F ht⟩) hS.2.2 dX8_tellsAhead_43
  have hl : lv_has ls 4 [(0, .ref w.2.2.2), (1, .int p0)] := hl
  refine lv_aload_n hx hb dX8_tellsAhead_0 rfl (lv_at hl 0 rfl) ?_
  obtain ⟨g3, h4, hf⟩ := gbind hf
  refine g_Vv (As := []) (rest := []) ⟨hx, hb, hml, hown, hts⟩ (c8_putAside l w K g S g3 h4) (gcwV hts i8_putAside wd_165 rfl rfl ⟨Nat.le_of_ble_eq_true rfl, Nat.le_of_ble_eq_true rfl⟩) (gRecv.of hK rfl hH.ob) hH hK hS hl.1 rfl rfl (Nat.le_of_ble_eq_true rfl) dX8_tellsAhead_1 ⟨Nat.le_refl _, Nat.le_refl _⟩ (fun H locs hH hS => ?_)
  refine lv_aload_n hx hb dX8_tellsAhead_4 rfl (lv_at hl 0 rfl) ?_
  refine lv_iload_n hx hb dX8_tellsAhead_5 rfl (lv_at hl 1 rfl) ?_
  obtain ⟨r5, h6, hf⟩ := gbind hf
  refine g_Vi (As := [.int p0]) (rest := []) ⟨hx, hb, hml, hown, hts⟩ (c8_weaves l w K g g3 p0 r5 h6) (gcwV hts i8_weaves wd_457 rfl rfl ⟨Nat.le_of_ble_eq_true rfl, Nat.le_of_ble_eq_true rfl⟩) (gRecv.of hK rfl hH.ob) hH hK hS hl.1 rfl rfl (Nat.le_of_ble_eq_true rfl) dX8_tellsAhead_6 ⟨Nat.le_refl _, Nat.le_refl _⟩ (fun H locs hH hS => ?_)
  refine lv_istore_n (lv' := [(2, .int r5.2), (0, .ref w.2.2.2), (1, .int p0)]) hx hb dX8_tellsAhead_9 rfl hl (by decide) rfl (fun ls hl => ?_)
  refine lv_iload_n hx hb dX8_tellsAhead_10 rfl (lv_at hl 0 rfl) ?_
  refine lv_iload_n hx hb dX8_tellsAhead_11 rfl (lv_at hl 2 rfl) ?_
  have hg := gif hf
  refine lv_icmp_ne (tgt := 35) hx hb dX8_tellsAhead_12 (by decide) (fun c7 => ?_) (fun c7 => ?_)
  · have hf := hg.2 c7
    refine lv_bipush (v := (-6)) hx hb dX8_tellsAhead_35 (by decide) ?_
    exact B37 _ _ _ _ _ hH hS (lv_sub hl [1] rfl) hf
  · have hf := hg.1 c7
    refine lv_aload_n hx hb dX8_tellsAhead_15 rfl (lv_at hl 1 rfl) ?_
    refine e_8_0 hx hb hts hown hK hH (hts _ wd_101) dX8_tellsAhead_16 ?_
    refine lv_sipush (v := 853) hx hb dX8_tellsAhead_19 (by decide) ?_
    refine lv_aload_n hx hb dX8_tellsAhead_22 rfl (lv_at hl 1 rfl) ?_
    refine e_8_0 hx hb hts hown hK hH (hts _ wd_101) dX8_tellsAhead_23 ?_
    refine lv_iconst (v := 4) hx hb dX8_tellsAhead_26 (by decide) ?_
    obtain ⟨h9, hf⟩ := gd_some hf
    refine m_iald hx hb hK hH 1 (by decide) (by decide) rfl h9 dX8_tellsAhead_27 ?_
    refine lv_iadd hx hb dX8_tellsAhead_28 ?_
    refine lv_iconst (v := 1) hx hb dX8_tellsAhead_29 (by decide) ?_
    refine lv_isub hx hb dX8_tellsAhead_30 ?_
    obtain ⟨h11, hf⟩ := gd_some hf
    refine m_iald hx hb hK hH 1 (by decide) (by decide) rfl h11 dX8_tellsAhead_31 ?_
    refine lv_goto (tgt := 37) hx hb dX8_tellsAhead_32 (by decide) ?_
    exact B37 _ _ _ _ _ hH hS (lv_sub hl [1] rfl) hf
set_option maxRecDepth 100000 in
set_option maxHeartbeats 8000000 in
theorem c8_ahead (l : Launch) (w : GW) (K : GK) (g : GM) (S : GS) (p0 : Int32) (out : GS × Int32) (hf : f8_ahead S p0 = some out) : Met l yX8_ahead (wA yX8_ahead cX8_ahead 2 (some .int)) ({ frames := 10, cells := 0, slots := 0, locals := 216 } : Room) (PRE w K g S [.ref w.2.2.2, .int p0]) (QI w K g out.1 out.2) 0 0 (FR w) := by
  unfold f8_ahead at hf
  refine Met.ofW (cc := cX8_ahead) (maxL := 2) (ret := (some .int)) (by decide) rfl ?_
  intro p e s m args below meth c s₁ B hml hv
  obtain ⟨rfl, hH, hK⟩ := hv
  have hx := B.exec
  have hb := B.bytes
  have hr := B.returns
  have hts : ∀ q ∈ gALL, q.before _ s = true := fun q h => atoms_spec (ws := (wA yX8_ahead cX8_ahead 2 (some .int))) B.pre q (List.mem_cons_of_mem _ h)
  have hown : s.vm.findClass RX8 = some m.cls := findClass_of_methodNamed B.named
  have hlocks := B.notSynchronized
  have hS : va_S (FR w) s.heap s.heap [] := va_S.rf
  show W p l e ({ frames := 10, cells := 0, slots := 0, locals := 216 } : Room) s m _ below meth c s.heap [] 0 0 (MQ below (QI w K g out.1 out.2) _ s 0 0 (FR w)) _
  have hl := lv_entry ([.ref w.2.2.2, .int p0]) (n := 2) (Nat.le_of_ble_eq_true rfl)
  rw [lg_entry_eq]
  generalize (lg_sl ([.ref w.2.2.2, .int p0]) ++ List.replicate (2 - (lg_sl ([.ref w.2.2.2, .int p0])).length) Slot.unset).toArray = ls at hl ⊢
  clear B
  generalize ([.ref w.2.2.2, .int p0] : List Value).toArray = args at hts ⊢
  have hl : lv_has ls 2 [(0, .ref w.2.2.2), (1, .int p0)] := hl
  refine lv_iload_n hx hb dX8_ahead_0 rfl (lv_at hl 1 rfl) ?_
  refine lv_iconst (v := 1) hx hb dX8_ahead_1 (by decide) ?_
  refine lv_bipush (v := 99) hx hb dX8_ahead_2 (by decide) ?_
  obtain ⟨v1, h2, hf⟩ := gbind hf
  refine g_Si (As := [.int p0, .int 1, .int 99]) (rest := []) ⟨hx, hb, hml, hown, hts⟩ (c8_within l w K g S p0 1 99 v1 h2) (gcwS hts i8_within wd_155 rfl rfl ⟨Nat.le_of_ble_eq_true rfl, Nat.le_of_ble_eq_true rfl⟩) hH hK hS hl.1 rfl rfl (Nat.le_of_ble_eq_true rfl) dX8_ahead_4 ⟨Nat.le_refl _, Nat.le_refl _⟩ (fun H locs hH hS => ?_)
  have hg := gif hf
  refine lv_if_eq (tgt := 18) hx hb dX8_ahead_7 (by decide) (fun c3 => ?_) (fun c3 => ?_)
  · have hf := hg.1 c3
    refine lv_bipush (v := (-2)) hx hb dX8_ahead_18 (by decide) ?_
    have ho := Option.some.inj hf
    exact W.iret (v := (-2)) hx hb hr (fun t ht hW => ⟨⟨(-2), (), rfl, congrArg Prod.snd ho, hrPm ht ho hH⟩, hS.F ht⟩) hS.2.2 dX8_ahead_20
  · have hf := hg.2 c3
    refine lv_aload_n hx hb dX8_ahead_10 rfl (lv_at hl 0 rfl) ?_
    refine lv_iload_n hx hb dX8_ahead_11 rfl (lv_at hl 1 rfl) ?_
    obtain ⟨r4, h5, hf⟩ := gbind hf
    refine g_Vi (As := [.int p0]) (rest := []) ⟨hx, hb, hml, hown, hts⟩ (c8_tellsAhead l w K g S p0 r4 h5) (gcwV hts i8_tellsAhead wd_865 rfl rfl ⟨Nat.le_of_ble_eq_true rfl, Nat.le_of_ble_eq_true rfl⟩) (gRecv.of hK rfl hH.ob) hH hK hS hl.1 rfl rfl (Nat.le_of_ble_eq_true rfl) dX8_ahead_12 ⟨Nat.le_refl _, Nat.le_refl _⟩ (fun H locs hH hS => ?_)
    refine lv_goto (tgt := 20) hx hb dX8_ahead_15 (by decide) ?_
    have ho := Option.some.inj hf
    exact W.iret (v := r4.2) hx hb hr (fun t ht hW => ⟨⟨r4.2, (), rfl, congrArg Prod.snd ho, hrPm ht ho hH⟩, hS.F ht⟩) hS.2.2 dX8_ahead_20
set_option maxRecDepth 100000 in
set_option maxHeartbeats 8000000 in
theorem c8_inCloth (l : Launch) (w : GW) (K : GK) (g : GM) (S : GS) (p0 : Int32) (out : Int32) (hf : f8_inCloth S p0 = some out) : Met l yX8_inCloth (wA yX8_inCloth cX8_inCloth 4 (some .int)) ({ frames := 0, cells := 0, slots := 0, locals := 0 } : Room) (PRE w K g S [.ref w.2.2.2, .int p0]) (QI w K g S out) 0 0 (FR w) := by
  unfold f8_inCloth at hf
  refine Met.ofW (cc := cX8_inCloth) (maxL := 4) (ret := (some .int)) (by decide) rfl ?_
  intro p e s m args below meth c s₁ B hml hv
  obtain ⟨rfl, hH, hK⟩ := hv
  have hx := B.exec
  have hb := B.bytes
  have hr := B.returns
  have hts : ∀ q ∈ gALL, q.before _ s = true := fun q h => atoms_spec (ws := (wA yX8_inCloth cX8_inCloth 4 (some .int))) B.pre q (List.mem_cons_of_mem _ h)
  have hown : s.vm.findClass RX8 = some m.cls := findClass_of_methodNamed B.named
  have hlocks := B.notSynchronized
  have hS : va_S (FR w) s.heap s.heap [] := va_S.rf
  show W p l e ({ frames := 0, cells := 0, slots := 0, locals := 0 } : Room) s m _ below meth c s.heap [] 0 0 (MQ below (QI w K g S out) _ s 0 0 (FR w)) _
  have hl := lv_entry ([.ref w.2.2.2, .int p0]) (n := 4) (Nat.le_of_ble_eq_true rfl)
  rw [lg_entry_eq]
  generalize (lg_sl ([.ref w.2.2.2, .int p0]) ++ List.replicate (4 - (lg_sl ([.ref w.2.2.2, .int p0])).length) Slot.unset).toArray = ls at hl ⊢
  clear B
  generalize ([.ref w.2.2.2, .int p0] : List Value).toArray = args at hts ⊢
  have B34 : ∀ (k4 : Int32 → Int32 → Option (Int32)), (∀ (x2 : Int32) (x3 : Int32) (H : Heap) (locs : List Loc) (ls : Array Slot), HR w K g S H → va_S (FR w) s.heap H locs → lv_has ls 4 [(0, .ref w.2.2.2), (1, .int p0), (2, .int x2), (3, .int x3)] → k4 x2 x3 = some out → W p l e ({ frames := 0, cells := 0, slots := 0, locals := 0 } : Room) s m args below meth c H locs 0 0 (MQ below (QI w K g S out) args s 0 0 (FR w)) (F0 m 4 ls [])) → ∀ (x3 : Int32) (s0 : Int32) (s1 : Int32) (H : Heap) (locs : List Loc) (ls : Array Slot), HR w K g S H → va_S (FR w) s.heap H locs → lv_has ls 4 [(0, .ref w.2.2.2), (1, .int p0), (3, .int x3)] → f8_inCloth_34 k4 S p0 x3 s0 s1 = some out → W p l e ({ frames := 0, cells := 0, slots := 0, locals := 0 } : Room) s m args below meth c H locs 0 0 (MQ below (QI w K g S out) args s 0 0 (FR w)) (F0 m 34 ls [.int s1, .int s0]) := by
    intro k4 hk4 x3 s0 s1 H locs ls hH hS hl hf
    unfold f8_inCloth_34 at hf
    refine lv_iadd hx hb dX8_inCloth_34 ?_
    refine lv_topi (fun v1 ev1 => ?_)
    have hf := gl_at hf ev1
    refine lv_istore_n (lv' := [(2, .int v1), (0, .ref w.2.2.2), (1, .int p0), (3, .int x3)]) hx hb dX8_inCloth_35 rfl hl (by decide) rfl (fun ls hl => ?_)
    obtain ⟨v2, ev2⟩ : ∃ z : Int32, z = x3 + 1 := ⟨_, rfl⟩
    have hf := gl_at hf ev2
    refine lv_iinc (v := v2) (lv' := [(3, .int v2), (2, .int v1), (0, .ref w.2.2.2), (1, .int p0)]) hx hb dX8_inCloth_36 hl (k := 3) rfl (by rw [ev2]; rfl) (by decide) rfl (fun ls hl => ?_)
    refine lv_goto (tgt := 4) hx hb dX8_inCloth_39 (by decide) ?_
    exact hk4 _ _ _ _ _ hH hS (lv_sub hl [2, 3, 1, 0] rfl) hf
  have B4 : ∀ n : Nat, ∀ (x2 : Int32) (x3 : Int32) (H : Heap) (locs : List Loc) (ls : Array Slot), HR w K g S H → va_S (FR w) s.heap H locs → lv_has ls 4 [(0, .ref w.2.2.2), (1, .int p0), (2, .int x2), (3, .int x3)] → f8_inCloth_4 S p0 n x2 x3 = some out → W p l e ({ frames := 0, cells := 0, slots := 0, locals := 0 } : Room) s m args below meth c H locs 0 0 (MQ below (QI w K g S out) args s 0 0 (FR w)) (F0 m 4 ls []) := by
    intro n
    induction n with
    | zero =>
      intro x2 x3 H locs ls hH hS hl hf
      cases hf
    | succ n ih =>
      intro x2 x3 H locs ls hH hS hl hf
      rw [f8_inCloth_4] at hf
      refine lv_iload_n hx hb dX8_inCloth_4 rfl (lv_at hl 3 rfl) ?_
      refine lv_aload_n hx hb dX8_inCloth_5 rfl (lv_at hl 0 rfl) ?_
      refine e_8_0 hx hb hts hown hK hH (hts _ wd_101) dX8_inCloth_6 ?_
      refine lv_iconst (v := 4) hx hb dX8_inCloth_9 (by decide) ?_
      obtain ⟨h4, hf⟩ := gd_some hf
      refine m_iald hx hb hK hH 1 (by decide) (by decide) rfl h4 dX8_inCloth_10 ?_
      have hg := gif hf
      refine lv_icmp_ge (tgt := 42) hx hb dX8_inCloth_11 (by decide) (fun c5 => ?_) (fun c5 => ?_)
      · have hf := hg.1 c5
        refine lv_iload_n hx hb dX8_inCloth_42 rfl (lv_at hl 2 rfl) ?_
        have ho := Option.some.inj hf
        exact W.iret (v := x2) hx hb hr (fun t ht hW => ⟨⟨x2, (), rfl, ho, hrE ht hH⟩, hS.F ht⟩) hS.2.2 dX8_inCloth_43
      · have hf := hg.2 c5
        refine lv_iload_n hx hb dX8_inCloth_14 rfl (lv_at hl 2 rfl) ?_
        refine lv_aload_n hx hb dX8_inCloth_15 rfl (lv_at hl 0 rfl) ?_
        refine e_8_0 hx hb hts hown hK hH (hts _ wd_101) dX8_inCloth_16 ?_
        refine lv_sipush (v := 853) hx hb dX8_inCloth_19 (by decide) ?_
        refine lv_iload_n hx hb dX8_inCloth_22 rfl (lv_at hl 3 rfl) ?_
        refine lv_iadd hx hb dX8_inCloth_23 ?_
        obtain ⟨h7, hf⟩ := gd_some hf
        refine m_iald hx hb hK hH 1 (by decide) (by decide) rfl h7 dX8_inCloth_24 ?_
        refine lv_iload_n hx hb dX8_inCloth_25 rfl (lv_at hl 1 rfl) ?_
        have hg := gif hf
        refine lv_icmp_ne (tgt := 33) hx hb dX8_inCloth_26 (by decide) (fun c8 => ?_) (fun c8 => ?_)
        · have hf := hg.2 c8
          refine lv_iconst (v := 0) hx hb dX8_inCloth_33 (by decide) ?_
          exact B34 _ (ih) _ _ _ _ _ _ hH hS (lv_sub hl [0, 1, 3] rfl) hf
        · have hf := hg.1 c8
          refine lv_iconst (v := 1) hx hb dX8_inCloth_29 (by decide) ?_
          refine lv_goto (tgt := 34) hx hb dX8_inCloth_30 (by decide) ?_
          exact B34 _ (ih) _ _ _ _ _ _ hH hS (lv_sub hl [0, 1, 3] rfl) hf
  have hl : lv_has ls 4 [(0, .ref w.2.2.2), (1, .int p0)] := hl
  refine lv_iconst (v := 0) hx hb dX8_inCloth_0 (by decide) ?_
  refine lv_istore_n (lv' := [(2, .int 0), (0, .ref w.2.2.2), (1, .int p0)]) hx hb dX8_inCloth_1 rfl hl (by decide) rfl (fun ls hl => ?_)
  refine lv_iconst (v := 0) hx hb dX8_inCloth_2 (by decide) ?_
  refine lv_istore_n (lv' := [(3, .int 0), (2, .int 0), (0, .ref w.2.2.2), (1, .int p0)]) hx hb dX8_inCloth_3 rfl hl (by decide) rfl (fun ls hl => ?_)
  exact B4 _ _ _ _ _ _ hH hS (lv_sub hl [2, 3, 1, 0] rfl) hf
set_option maxRecDepth 100000 in
set_option maxHeartbeats 8000000 in
theorem c8_aheadByCloth (l : Launch) (w : GW) (K : GK) (g : GM) (S : GS) (p0 : Int32) (out : Int32) (hf : f8_aheadByCloth S p0 = some out) : Met l yX8_aheadByCloth (wA yX8_aheadByCloth cX8_aheadByCloth 5 (some .int)) ({ frames := 1, cells := 0, slots := 0, locals := 23 } : Room) (PRE w K g S [.ref w.2.2.2, .int p0]) (QI w K g S out) 0 0 (FR w) := by
  unfold f8_aheadByCloth at hf
  refine Met.ofW (cc := cX8_aheadByCloth) (maxL := 5) (ret := (some .int)) (by decide) rfl ?_
  intro p e s m args below meth c s₁ B hml hv
  obtain ⟨rfl, hH, hK⟩ := hv
  have hx := B.exec
  have hb := B.bytes
  have hr := B.returns
  have hts : ∀ q ∈ gALL, q.before _ s = true := fun q h => atoms_spec (ws := (wA yX8_aheadByCloth cX8_aheadByCloth 5 (some .int))) B.pre q (List.mem_cons_of_mem _ h)
  have hown : s.vm.findClass RX8 = some m.cls := findClass_of_methodNamed B.named
  have hlocks := B.notSynchronized
  have hS : va_S (FR w) s.heap s.heap [] := va_S.rf
  show W p l e ({ frames := 1, cells := 0, slots := 0, locals := 23 } : Room) s m _ below meth c s.heap [] 0 0 (MQ below (QI w K g S out) _ s 0 0 (FR w)) _
  have hl := lv_entry ([.ref w.2.2.2, .int p0]) (n := 5) (Nat.le_of_ble_eq_true rfl)
  rw [lg_entry_eq]
  generalize (lg_sl ([.ref w.2.2.2, .int p0]) ++ List.replicate (5 - (lg_sl ([.ref w.2.2.2, .int p0])).length) Slot.unset).toArray = ls at hl ⊢
  clear B
  generalize ([.ref w.2.2.2, .int p0] : List Value).toArray = args at hts ⊢
  have B50 : ∀ (k11 : Int32 → Int32 → Int32 → Option (Int32)), (∀ (x2 : Int32) (x3 : Int32) (x4 : Int32) (H : Heap) (locs : List Loc) (ls : Array Slot), HR w K g S H → va_S (FR w) s.heap H locs → lv_has ls 5 [(0, .ref w.2.2.2), (1, .int p0), (2, .int x2), (3, .int x3), (4, .int x4)] → k11 x2 x3 x4 = some out → W p l e ({ frames := 1, cells := 0, slots := 0, locals := 23 } : Room) s m args below meth c H locs 0 0 (MQ below (QI w K g S out) args s 0 0 (FR w)) (F0 m 11 ls [])) → ∀ (x3 : Int32) (x4 : Int32) (s0 : Int32) (s1 : Int32) (H : Heap) (locs : List Loc) (ls : Array Slot), HR w K g S H → va_S (FR w) s.heap H locs → lv_has ls 5 [(0, .ref w.2.2.2), (1, .int p0), (3, .int x3), (4, .int x4)] → f8_aheadByCloth_50 k11 S p0 x3 x4 s0 s1 = some out → W p l e ({ frames := 1, cells := 0, slots := 0, locals := 23 } : Room) s m args below meth c H locs 0 0 (MQ below (QI w K g S out) args s 0 0 (FR w)) (F0 m 50 ls [.int s1, .int s0]) := by
    intro k11 hk11 x3 x4 s0 s1 H locs ls hH hS hl hf
    unfold f8_aheadByCloth_50 at hf
    refine lv_iadd hx hb dX8_aheadByCloth_50 ?_
    refine lv_topi (fun v1 ev1 => ?_)
    have hf := gl_at hf ev1
    refine lv_istore_n (lv' := [(2, .int v1), (0, .ref w.2.2.2), (1, .int p0), (3, .int x3), (4, .int x4)]) hx hb dX8_aheadByCloth_51 rfl hl (by decide) rfl (fun ls hl => ?_)
    obtain ⟨v2, ev2⟩ : ∃ z : Int32, z = x4 + 1 := ⟨_, rfl⟩
    have hf := gl_at hf ev2
    refine lv_iinc (v := v2) (lv' := [(4, .int v2), (2, .int v1), (0, .ref w.2.2.2), (1, .int p0), (3, .int x3)]) hx hb dX8_aheadByCloth_52 hl (k := 4) rfl (by rw [ev2]; rfl) (by decide) rfl (fun ls hl => ?_)
    refine lv_goto (tgt := 11) hx hb dX8_aheadByCloth_55 (by decide) ?_
    exact hk11 _ _ _ _ _ _ hH hS (lv_sub hl [2, 3, 1, 4, 0] rfl) hf
  have B45 : ∀ (k11 : Int32 → Int32 → Int32 → Option (Int32)), (∀ (x2 : Int32) (x3 : Int32) (x4 : Int32) (H : Heap) (locs : List Loc) (ls : Array Slot), HR w K g S H → va_S (FR w) s.heap H locs → lv_has ls 5 [(0, .ref w.2.2.2), (1, .int p0), (2, .int x2), (3, .int x3), (4, .int x4)] → k11 x2 x3 x4 = some out → W p l e ({ frames := 1, cells := 0, slots := 0, locals := 23 } : Room) s m args below meth c H locs 0 0 (MQ below (QI w K g S out) args s 0 0 (FR w)) (F0 m 11 ls [])) → ∀ (x3 : Int32) (x4 : Int32) (s0 : Int32) (H : Heap) (locs : List Loc) (ls : Array Slot), HR w K g S H → va_S (FR w) s.heap H locs → lv_has ls 5 [(0, .ref w.2.2.2), (1, .int p0), (3, .int x3), (4, .int x4)] → f8_aheadByCloth_45 k11 S p0 x3 x4 s0 = some out → W p l e ({ frames := 1, cells := 0, slots := 0, locals := 23 } : Room) s m args below meth c H locs 0 0 (MQ below (QI w K g S out) args s 0 0 (FR w)) (F0 m 45 ls [.int s0]) := by
    intro k11 hk11 x3 x4 s0 H locs ls hH hS hl hf
    unfold f8_aheadByCloth_45 at hf
    refine lv_iconst (v := 1) hx hb dX8_aheadByCloth_45 (by decide) ?_
    refine lv_goto (tgt := 50) hx hb dX8_aheadByCloth_46 (by decide) ?_
    exact B50 _ (hk11) _ _ _ _ _ _ _ hH hS (lv_sub hl [0, 1, 2, 3] rfl) hf
  have B49 : ∀ (k11 : Int32 → Int32 → Int32 → Option (Int32)), (∀ (x2 : Int32) (x3 : Int32) (x4 : Int32) (H : Heap) (locs : List Loc) (ls : Array Slot), HR w K g S H → va_S (FR w) s.heap H locs → lv_has ls 5 [(0, .ref w.2.2.2), (1, .int p0), (2, .int x2), (3, .int x3), (4, .int x4)] → k11 x2 x3 x4 = some out → W p l e ({ frames := 1, cells := 0, slots := 0, locals := 23 } : Room) s m args below meth c H locs 0 0 (MQ below (QI w K g S out) args s 0 0 (FR w)) (F0 m 11 ls [])) → ∀ (x3 : Int32) (x4 : Int32) (s0 : Int32) (H : Heap) (locs : List Loc) (ls : Array Slot), HR w K g S H → va_S (FR w) s.heap H locs → lv_has ls 5 [(0, .ref w.2.2.2), (1, .int p0), (3, .int x3), (4, .int x4)] → f8_aheadByCloth_49 k11 S p0 x3 x4 s0 = some out → W p l e ({ frames := 1, cells := 0, slots := 0, locals := 23 } : Room) s m args below meth c H locs 0 0 (MQ below (QI w K g S out) args s 0 0 (FR w)) (F0 m 49 ls [.int s0]) := by
    intro k11 hk11 x3 x4 s0 H locs ls hH hS hl hf
    unfold f8_aheadByCloth_49 at hf
    refine lv_iconst (v := 0) hx hb dX8_aheadByCloth_49 (by decide) ?_
    exact B50 _ (hk11) _ _ _ _ _ _ _ hH hS (lv_sub hl [0, 1, 2, 3] rfl) hf
  have B11 : ∀ n : Nat, ∀ (x2 : Int32) (x3 : Int32) (x4 : Int32) (H : Heap) (locs : List Loc) (ls : Array Slot), HR w K g S H → va_S (FR w) s.heap H locs → lv_has ls 5 [(0, .ref w.2.2.2), (1, .int p0), (2, .int x2), (3, .int x3), (4, .int x4)] → f8_aheadByCloth_11 S p0 n x2 x3 x4 = some out → W p l e ({ frames := 1, cells := 0, slots := 0, locals := 23 } : Room) s m args below meth c H locs 0 0 (MQ below (QI w K g S out) args s 0 0 (FR w)) (F0 m 11 ls []) := by
    intro n
    induction n with
    | zero =>
      intro x2 x3 x4 H locs ls hH hS hl hf
      cases hf
    | succ n ih =>
      intro x2 x3 x4 H locs ls hH hS hl hf
      rw [f8_aheadByCloth_11] at hf
      refine lv_iload hx hb dX8_aheadByCloth_11 (lv_at hl 4 rfl) ?_
      refine lv_bipush (v := 6) hx hb dX8_aheadByCloth_13 (by decide) ?_
      have hg := gif hf
      refine lv_icmp_ge (tgt := 58) hx hb dX8_aheadByCloth_15 (by decide) (fun c3 => ?_) (fun c3 => ?_)
      · have hf := hg.1 c3
        refine lv_iload_n hx hb dX8_aheadByCloth_58 rfl (lv_at hl 2 rfl) ?_
        have ho := Option.some.inj hf
        exact W.iret (v := x2) hx hb hr (fun t ht hW => ⟨⟨x2, (), rfl, ho, hrE ht hH⟩, hS.F ht⟩) hS.2.2 dX8_aheadByCloth_59
      · have hf := hg.2 c3
        refine lv_iload_n hx hb dX8_aheadByCloth_18 rfl (lv_at hl 2 rfl) ?_
        refine lv_aload_n hx hb dX8_aheadByCloth_19 rfl (lv_at hl 0 rfl) ?_
        refine lv_iload hx hb dX8_aheadByCloth_20 (lv_at hl 4 rfl) ?_
        obtain ⟨v4, h5, hf⟩ := gbind hf
        refine g_Vi (As := [.int x4]) (rest := [.int x2]) ⟨hx, hb, hml, hown, hts⟩ (c8_inCloth l w K g S x4 v4 h5) (gcwV hts i8_inCloth wd_624 rfl rfl ⟨Nat.le_of_ble_eq_true rfl, Nat.le_of_ble_eq_true rfl⟩) (gRecv.of hK rfl hH.ob) hH hK hS hl.1 rfl rfl (Nat.le_of_ble_eq_true rfl) dX8_aheadByCloth_22 ⟨Nat.le_refl _, Nat.le_refl _⟩ (fun H locs hH hS => ?_)
        refine lv_iload_n hx hb dX8_aheadByCloth_25 rfl (lv_at hl 3 rfl) ?_
        have hg := gif hf
        refine lv_icmp_gt (tgt := 45) hx hb dX8_aheadByCloth_26 (by decide) (fun c6 => ?_) (fun c6 => ?_)
        · have hf := hg.1 c6
          exact B45 _ (ih) _ _ _ _ _ _ hH hS (lv_sub hl [0, 1, 3, 4] rfl) hf
        · have hf := hg.2 c6
          refine lv_aload_n hx hb dX8_aheadByCloth_29 rfl (lv_at hl 0 rfl) ?_
          refine lv_iload hx hb dX8_aheadByCloth_30 (lv_at hl 4 rfl) ?_
          obtain ⟨v7, h8, hf⟩ := gbind hf
          refine g_Vi (As := [.int x4]) (rest := [.int x2]) ⟨hx, hb, hml, hown, hts⟩ (c8_inCloth l w K g S x4 v7 h8) (gcwV hts i8_inCloth wd_624 rfl rfl ⟨Nat.le_of_ble_eq_true rfl, Nat.le_of_ble_eq_true rfl⟩) (gRecv.of hK rfl hH.ob) hH hK hS hl.1 rfl rfl (Nat.le_of_ble_eq_true rfl) dX8_aheadByCloth_32 ⟨Nat.le_refl _, Nat.le_refl _⟩ (fun H locs hH hS => ?_)
          refine lv_iload_n hx hb dX8_aheadByCloth_35 rfl (lv_at hl 3 rfl) ?_
          have hg := gif hf
          refine lv_icmp_ne (tgt := 49) hx hb dX8_aheadByCloth_36 (by decide) (fun c9 => ?_) (fun c9 => ?_)
          · have hf := hg.2 c9
            exact B49 _ (ih) _ _ _ _ _ _ hH hS (lv_sub hl [0, 1, 3, 4] rfl) hf
          · have hf := hg.1 c9
            refine lv_iload hx hb dX8_aheadByCloth_39 (lv_at hl 4 rfl) ?_
            refine lv_iload_n hx hb dX8_aheadByCloth_41 rfl (lv_at hl 1 rfl) ?_
            have hg := gif hf
            refine lv_icmp_ge (tgt := 49) hx hb dX8_aheadByCloth_42 (by decide) (fun c10 => ?_) (fun c10 => ?_)
            · have hf := hg.1 c10
              exact B49 _ (ih) _ _ _ _ _ _ hH hS (lv_sub hl [0, 1, 3, 4] rfl) hf
            · have hf := hg.2 c10
              exact B45 _ (ih) _ _ _ _ _ _ hH hS (lv_sub hl [0, 1, 3, 4] rfl) hf
  have hl : lv_has ls 5 [(0, .ref w.2.2.2), (1, .int p0)] := hl
  refine lv_iconst (v := 0) hx hb dX8_aheadByCloth_0 (by decide) ?_
  refine lv_istore_n (lv' := [(2, .int 0), (0, .ref w.2.2.2), (1, .int p0)]) hx hb dX8_aheadByCloth_1 rfl hl (by decide) rfl (fun ls hl => ?_)
  refine lv_aload_n hx hb dX8_aheadByCloth_2 rfl (lv_at hl 1 rfl) ?_
  refine lv_iload_n hx hb dX8_aheadByCloth_3 rfl (lv_at hl 2 rfl) ?_
  obtain ⟨v11, h12, hf⟩ := gbind hf
  refine g_Vi (As := [.int p0]) (rest := []) ⟨hx, hb, hml, hown, hts⟩ (c8_inCloth l w K g S p0 v11 h12) (gcwV hts i8_inCloth wd_624 rfl rfl ⟨Nat.le_of_ble_eq_true rfl, Nat.le_of_ble_eq_true rfl⟩) (gRecv.of hK rfl hH.ob) hH hK hS hl.1 rfl rfl (Nat.le_of_ble_eq_true rfl) dX8_aheadByCloth_4 ⟨Nat.le_refl _, Nat.le_refl _⟩ (fun H locs hH hS => ?_)
  refine lv_istore_n (lv' := [(3, .int v11), (2, .int 0), (0, .ref w.2.2.2), (1, .int p0)]) hx hb dX8_aheadByCloth_7 rfl hl (by decide) rfl (fun ls hl => ?_)
  refine lv_iconst (v := 0) hx hb dX8_aheadByCloth_8 (by decide) ?_
  refine lv_istore (lv' := [(4, .int 0), (3, .int v11), (2, .int 0), (0, .ref w.2.2.2), (1, .int p0)]) hx hb dX8_aheadByCloth_9 hl (by decide) rfl (fun ls hl => ?_)
  exact B11 _ _ _ _ _ _ _ hH hS (lv_sub hl [3, 4, 2, 1, 0] rfl) hf
set_option maxRecDepth 100000 in
set_option maxHeartbeats 8000000 in
theorem c8_aheadByEnd (l : Launch) (w : GW) (K : GK) (g : GM) (S : GS) (p0 : Int32) (out : Int32) (hf : f8_aheadByEnd S p0 = some out) : Met l yX8_aheadByEnd (wA yX8_aheadByEnd cX8_aheadByEnd 5 (some .int)) ({ frames := 0, cells := 0, slots := 0, locals := 0 } : Room) (PRE w K g S [.ref w.2.2.2, .int p0]) (QI w K g S out) 0 0 (FR w) := by
  unfold f8_aheadByEnd at hf
  refine Met.ofW (cc := cX8_aheadByEnd) (maxL := 5) (ret := (some .int)) (by decide) rfl ?_
  intro p e s m args below meth c s₁ B hml hv
  obtain ⟨rfl, hH, hK⟩ := hv
  have hx := B.exec
  have hb := B.bytes
  have hr := B.returns
  have hts : ∀ q ∈ gALL, q.before _ s = true := fun q h => atoms_spec (ws := (wA yX8_aheadByEnd cX8_aheadByEnd 5 (some .int))) B.pre q (List.mem_cons_of_mem _ h)
  have hown : s.vm.findClass RX8 = some m.cls := findClass_of_methodNamed B.named
  have hlocks := B.notSynchronized
  have hS : va_S (FR w) s.heap s.heap [] := va_S.rf
  show W p l e ({ frames := 0, cells := 0, slots := 0, locals := 0 } : Room) s m _ below meth c s.heap [] 0 0 (MQ below (QI w K g S out) _ s 0 0 (FR w)) _
  have hl := lv_entry ([.ref w.2.2.2, .int p0]) (n := 5) (Nat.le_of_ble_eq_true rfl)
  rw [lg_entry_eq]
  generalize (lg_sl ([.ref w.2.2.2, .int p0]) ++ List.replicate (5 - (lg_sl ([.ref w.2.2.2, .int p0])).length) Slot.unset).toArray = ls at hl ⊢
  clear B
  generalize ([.ref w.2.2.2, .int p0] : List Value).toArray = args at hts ⊢
  have B62 : ∀ (k15 : Int32 → Int32 → Int32 → Option (Int32)), (∀ (x2 : Int32) (x3 : Int32) (x4 : Int32) (H : Heap) (locs : List Loc) (ls : Array Slot), HR w K g S H → va_S (FR w) s.heap H locs → lv_has ls 5 [(0, .ref w.2.2.2), (1, .int p0), (2, .int x2), (3, .int x3), (4, .int x4)] → k15 x2 x3 x4 = some out → W p l e ({ frames := 0, cells := 0, slots := 0, locals := 0 } : Room) s m args below meth c H locs 0 0 (MQ below (QI w K g S out) args s 0 0 (FR w)) (F0 m 15 ls [])) → ∀ (x3 : Int32) (x4 : Int32) (s0 : Int32) (s1 : Int32) (H : Heap) (locs : List Loc) (ls : Array Slot), HR w K g S H → va_S (FR w) s.heap H locs → lv_has ls 5 [(0, .ref w.2.2.2), (1, .int p0), (3, .int x3), (4, .int x4)] → f8_aheadByEnd_62 k15 S p0 x3 x4 s0 s1 = some out → W p l e ({ frames := 0, cells := 0, slots := 0, locals := 0 } : Room) s m args below meth c H locs 0 0 (MQ below (QI w K g S out) args s 0 0 (FR w)) (F0 m 62 ls [.int s1, .int s0]) := by
    intro k15 hk15 x3 x4 s0 s1 H locs ls hH hS hl hf
    unfold f8_aheadByEnd_62 at hf
    refine lv_iadd hx hb dX8_aheadByEnd_62 ?_
    refine lv_topi (fun v1 ev1 => ?_)
    have hf := gl_at hf ev1
    refine lv_istore_n (lv' := [(2, .int v1), (0, .ref w.2.2.2), (1, .int p0), (3, .int x3), (4, .int x4)]) hx hb dX8_aheadByEnd_63 rfl hl (by decide) rfl (fun ls hl => ?_)
    obtain ⟨v2, ev2⟩ : ∃ z : Int32, z = x4 + 1 := ⟨_, rfl⟩
    have hf := gl_at hf ev2
    refine lv_iinc (v := v2) (lv' := [(4, .int v2), (2, .int v1), (0, .ref w.2.2.2), (1, .int p0), (3, .int x3)]) hx hb dX8_aheadByEnd_64 hl (k := 4) rfl (by rw [ev2]; rfl) (by decide) rfl (fun ls hl => ?_)
    refine lv_goto (tgt := 15) hx hb dX8_aheadByEnd_67 (by decide) ?_
    exact hk15 _ _ _ _ _ _ hH hS (lv_sub hl [2, 3, 1, 4, 0] rfl) hf
  have B57 : ∀ (k15 : Int32 → Int32 → Int32 → Option (Int32)), (∀ (x2 : Int32) (x3 : Int32) (x4 : Int32) (H : Heap) (locs : List Loc) (ls : Array Slot), HR w K g S H → va_S (FR w) s.heap H locs → lv_has ls 5 [(0, .ref w.2.2.2), (1, .int p0), (2, .int x2), (3, .int x3), (4, .int x4)] → k15 x2 x3 x4 = some out → W p l e ({ frames := 0, cells := 0, slots := 0, locals := 0 } : Room) s m args below meth c H locs 0 0 (MQ below (QI w K g S out) args s 0 0 (FR w)) (F0 m 15 ls [])) → ∀ (x3 : Int32) (x4 : Int32) (s0 : Int32) (H : Heap) (locs : List Loc) (ls : Array Slot), HR w K g S H → va_S (FR w) s.heap H locs → lv_has ls 5 [(0, .ref w.2.2.2), (1, .int p0), (3, .int x3), (4, .int x4)] → f8_aheadByEnd_57 k15 S p0 x3 x4 s0 = some out → W p l e ({ frames := 0, cells := 0, slots := 0, locals := 0 } : Room) s m args below meth c H locs 0 0 (MQ below (QI w K g S out) args s 0 0 (FR w)) (F0 m 57 ls [.int s0]) := by
    intro k15 hk15 x3 x4 s0 H locs ls hH hS hl hf
    unfold f8_aheadByEnd_57 at hf
    refine lv_iconst (v := 1) hx hb dX8_aheadByEnd_57 (by decide) ?_
    refine lv_goto (tgt := 62) hx hb dX8_aheadByEnd_58 (by decide) ?_
    exact B62 _ (hk15) _ _ _ _ _ _ _ hH hS (lv_sub hl [0, 1, 2, 3] rfl) hf
  have B61 : ∀ (k15 : Int32 → Int32 → Int32 → Option (Int32)), (∀ (x2 : Int32) (x3 : Int32) (x4 : Int32) (H : Heap) (locs : List Loc) (ls : Array Slot), HR w K g S H → va_S (FR w) s.heap H locs → lv_has ls 5 [(0, .ref w.2.2.2), (1, .int p0), (2, .int x2), (3, .int x3), (4, .int x4)] → k15 x2 x3 x4 = some out → W p l e ({ frames := 0, cells := 0, slots := 0, locals := 0 } : Room) s m args below meth c H locs 0 0 (MQ below (QI w K g S out) args s 0 0 (FR w)) (F0 m 15 ls [])) → ∀ (x3 : Int32) (x4 : Int32) (s0 : Int32) (H : Heap) (locs : List Loc) (ls : Array Slot), HR w K g S H → va_S (FR w) s.heap H locs → lv_has ls 5 [(0, .ref w.2.2.2), (1, .int p0), (3, .int x3), (4, .int x4)] → f8_aheadByEnd_61 k15 S p0 x3 x4 s0 = some out → W p l e ({ frames := 0, cells := 0, slots := 0, locals := 0 } : Room) s m args below meth c H locs 0 0 (MQ below (QI w K g S out) args s 0 0 (FR w)) (F0 m 61 ls [.int s0]) := by
    intro k15 hk15 x3 x4 s0 H locs ls hH hS hl hf
    unfold f8_aheadByEnd_61 at hf
    refine lv_iconst (v := 0) hx hb dX8_aheadByEnd_61 (by decide) ?_
    exact B62 _ (hk15) _ _ _ _ _ _ _ hH hS (lv_sub hl [0, 1, 2, 3] rfl) hf
  have B15 : ∀ n : Nat, ∀ (x2 : Int32) (x3 : Int32) (x4 : Int32) (H : Heap) (locs : List Loc) (ls : Array Slot), HR w K g S H → va_S (FR w) s.heap H locs → lv_has ls 5 [(0, .ref w.2.2.2), (1, .int p0), (2, .int x2), (3, .int x3), (4, .int x4)] → f8_aheadByEnd_15 S p0 n x2 x3 x4 = some out → W p l e ({ frames := 0, cells := 0, slots := 0, locals := 0 } : Room) s m args below meth c H locs 0 0 (MQ below (QI w K g S out) args s 0 0 (FR w)) (F0 m 15 ls []) := by
    intro n
    induction n with
    | zero =>
      intro x2 x3 x4 H locs ls hH hS hl hf
      cases hf
    | succ n ih =>
      intro x2 x3 x4 H locs ls hH hS hl hf
      rw [f8_aheadByEnd_15] at hf
      refine lv_iload hx hb dX8_aheadByEnd_15 (lv_at hl 4 rfl) ?_
      refine lv_bipush (v := 6) hx hb dX8_aheadByEnd_17 (by decide) ?_
      have hg := gif hf
      refine lv_icmp_ge (tgt := 70) hx hb dX8_aheadByEnd_19 (by decide) (fun c3 => ?_) (fun c3 => ?_)
      · have hf := hg.1 c3
        refine lv_iload_n hx hb dX8_aheadByEnd_70 rfl (lv_at hl 2 rfl) ?_
        have ho := Option.some.inj hf
        exact W.iret (v := x2) hx hb hr (fun t ht hW => ⟨⟨x2, (), rfl, ho, hrE ht hH⟩, hS.F ht⟩) hS.2.2 dX8_aheadByEnd_71
      · have hf := hg.2 c3
        refine lv_iload_n hx hb dX8_aheadByEnd_22 rfl (lv_at hl 2 rfl) ?_
        refine lv_aload_n hx hb dX8_aheadByEnd_23 rfl (lv_at hl 0 rfl) ?_
        refine e_8_0 hx hb hts hown hK hH (hts _ wd_101) dX8_aheadByEnd_24 ?_
        refine lv_bipush (v := 19) hx hb dX8_aheadByEnd_27 (by decide) ?_
        refine lv_iload hx hb dX8_aheadByEnd_29 (lv_at hl 4 rfl) ?_
        refine lv_iadd hx hb dX8_aheadByEnd_31 ?_
        obtain ⟨h5, hf⟩ := gd_some hf
        refine m_iald hx hb hK hH 1 (by decide) (by decide) rfl h5 dX8_aheadByEnd_32 ?_
        refine lv_iload_n hx hb dX8_aheadByEnd_33 rfl (lv_at hl 3 rfl) ?_
        have hg := gif hf
        refine lv_icmp_lt (tgt := 57) hx hb dX8_aheadByEnd_34 (by decide) (fun c6 => ?_) (fun c6 => ?_)
        · have hf := hg.1 c6
          exact B57 _ (ih) _ _ _ _ _ _ hH hS (lv_sub hl [0, 1, 3, 4] rfl) hf
        · have hf := hg.2 c6
          refine lv_aload_n hx hb dX8_aheadByEnd_37 rfl (lv_at hl 0 rfl) ?_
          refine e_8_0 hx hb hts hown hK hH (hts _ wd_101) dX8_aheadByEnd_38 ?_
          refine lv_bipush (v := 19) hx hb dX8_aheadByEnd_41 (by decide) ?_
          refine lv_iload hx hb dX8_aheadByEnd_43 (lv_at hl 4 rfl) ?_
          refine lv_iadd hx hb dX8_aheadByEnd_45 ?_
          refine m_iald hx hb hK hH 1 (by decide) (by decide) rfl h5 dX8_aheadByEnd_46 ?_
          refine lv_iload_n hx hb dX8_aheadByEnd_47 rfl (lv_at hl 3 rfl) ?_
          have hg := gif hf
          refine lv_icmp_ne (tgt := 61) hx hb dX8_aheadByEnd_48 (by decide) (fun c8 => ?_) (fun c8 => ?_)
          · have hf := hg.2 c8
            exact B61 _ (ih) _ _ _ _ _ _ hH hS (lv_sub hl [0, 1, 3, 4] rfl) hf
          · have hf := hg.1 c8
            refine lv_iload hx hb dX8_aheadByEnd_51 (lv_at hl 4 rfl) ?_
            refine lv_iload_n hx hb dX8_aheadByEnd_53 rfl (lv_at hl 1 rfl) ?_
            have hg := gif hf
            refine lv_icmp_ge (tgt := 61) hx hb dX8_aheadByEnd_54 (by decide) (fun c9 => ?_) (fun c9 => ?_)
            · have hf := hg.1 c9
              exact B61 _ (ih) _ _ _ _ _ _ hH hS (lv_sub hl [0, 1, 3, 4] rfl) hf
            · have hf := hg.2 c9
              exact B57 _ (ih) _ _ _ _ _ _ hH hS (lv_sub hl [0, 1, 3, 4] rfl) hf
  have hl : lv_has ls 5 [(0, .ref w.2.2.2), (1, .int p0)] := hl
  refine lv_iconst (v := 0) hx hb dX8_aheadByEnd_0 (by decide) ?_
  refine lv_istore_n (lv' := [(2, .int 0), (0, .ref w.2.2.2), (1, .int p0)]) hx hb dX8_aheadByEnd_1 rfl hl (by decide) rfl (fun ls hl => ?_)
  refine lv_aload_n hx hb dX8_aheadByEnd_2 rfl (lv_at hl 1 rfl) ?_
  refine e_8_0 hx hb hts hown hK hH (hts _ wd_101) dX8_aheadByEnd_3 ?_
  refine lv_bipush (v := 19) hx hb dX8_aheadByEnd_6 (by decide) ?_
  refine lv_iload_n hx hb dX8_aheadByEnd_8 rfl (lv_at hl 2 rfl) ?_
  refine lv_iadd hx hb dX8_aheadByEnd_9 ?_
  obtain ⟨h11, hf⟩ := gd_some hf
  refine m_iald hx hb hK hH 1 (by decide) (by decide) rfl h11 dX8_aheadByEnd_10 ?_
  refine lv_topi (fun v12 ev12 => ?_)
  have hf := gl_at hf ev12
  refine lv_istore_n (lv' := [(3, .int v12), (2, .int 0), (0, .ref w.2.2.2), (1, .int p0)]) hx hb dX8_aheadByEnd_11 rfl hl (by decide) rfl (fun ls hl => ?_)
  refine lv_iconst (v := 0) hx hb dX8_aheadByEnd_12 (by decide) ?_
  refine lv_istore (lv' := [(4, .int 0), (3, .int v12), (2, .int 0), (0, .ref w.2.2.2), (1, .int p0)]) hx hb dX8_aheadByEnd_13 hl (by decide) rfl (fun ls hl => ?_)
  exact B15 _ _ _ _ _ _ _ hH hS (lv_sub hl [3, 4, 2, 1, 0] rfl) hf
set_option maxRecDepth 100000 in
set_option maxHeartbeats 8000000 in
theorem c8_areKnown (l : Launch) (w : GW) (K : GK) (g : GM) (S : GS) (p0 : Int32) (out : Int32) (hf : f8_areKnown S p0 = some out) : Met l yX8_areKnown (wA yX8_areKnown cX8_areKnown 4 (some .boolean)) ({ frames := 0, cells := 0, slots := 0, locals := 0 } : Room) (PRE w K g S [.ref w.2.2.2, .int p0]) (QI w K g S out) 0 0 (FR w) := by
  unfold f8_areKnown at hf
  refine Met.ofW (cc := cX8_areKnown) (maxL := 4) (ret := (some .boolean)) (by decide) rfl ?_
  intro p e s m args below meth c s₁ B hml hv
  obtain ⟨rfl, hH, hK⟩ := hv
  have hx := B.exec
  have hb := B.bytes
  have hr := B.returns
  have hts : ∀ q ∈ gALL, q.before _ s = true := fun q h => atoms_spec (ws := (wA yX8_areKnown cX8_areKnown 4 (some .boolean))) B.pre q (List.mem_cons_of_mem _ h)
  have hown : s.vm.findClass RX8 = some m.cls := findClass_of_methodNamed B.named
  have hlocks := B.notSynchronized
  have hS : va_S (FR w) s.heap s.heap [] := va_S.rf
  show W p l e ({ frames := 0, cells := 0, slots := 0, locals := 0 } : Room) s m _ below meth c s.heap [] 0 0 (MQ below (QI w K g S out) _ s 0 0 (FR w)) _
  have hl := lv_entry ([.ref w.2.2.2, .int p0]) (n := 4) (Nat.le_of_ble_eq_true rfl)
  rw [lg_entry_eq]
  generalize (lg_sl ([.ref w.2.2.2, .int p0]) ++ List.replicate (4 - (lg_sl ([.ref w.2.2.2, .int p0])).length) Slot.unset).toArray = ls at hl ⊢
  clear B
  generalize ([.ref w.2.2.2, .int p0] : List Value).toArray = args at hts ⊢
  have B36 : ∀ (k4 : Int32 → Int32 → Option (Int32)), (∀ (x2 : Int32) (x3 : Int32) (H : Heap) (locs : List Loc) (ls : Array Slot), HR w K g S H → va_S (FR w) s.heap H locs → lv_has ls 4 [(0, .ref w.2.2.2), (1, .int p0), (2, .int x2), (3, .int x3)] → k4 x2 x3 = some out → W p l e ({ frames := 0, cells := 0, slots := 0, locals := 0 } : Room) s m args below meth c H locs 0 0 (MQ below (QI w K g S out) args s 0 0 (FR w)) (F0 m 4 ls [])) → ∀ (x3 : Int32) (s0 : Int32) (H : Heap) (locs : List Loc) (ls : Array Slot), HR w K g S H → va_S (FR w) s.heap H locs → lv_has ls 4 [(0, .ref w.2.2.2), (1, .int p0), (3, .int x3)] → f8_areKnown_36 k4 S p0 x3 s0 = some out → W p l e ({ frames := 0, cells := 0, slots := 0, locals := 0 } : Room) s m args below meth c H locs 0 0 (MQ below (QI w K g S out) args s 0 0 (FR w)) (F0 m 36 ls [.int s0]) := by
    intro k4 hk4 x3 s0 H locs ls hH hS hl hf
    unfold f8_areKnown_36 at hf
    refine lv_istore_n (lv' := [(2, .int s0), (0, .ref w.2.2.2), (1, .int p0), (3, .int x3)]) hx hb dX8_areKnown_36 rfl hl (by decide) rfl (fun ls hl => ?_)
    obtain ⟨v1, ev1⟩ : ∃ z : Int32, z = x3 + 1 := ⟨_, rfl⟩
    have hf := gl_at hf ev1
    refine lv_iinc (v := v1) (lv' := [(3, .int v1), (2, .int s0), (0, .ref w.2.2.2), (1, .int p0)]) hx hb dX8_areKnown_37 hl (k := 3) rfl (by rw [ev1]; rfl) (by decide) rfl (fun ls hl => ?_)
    refine lv_goto (tgt := 4) hx hb dX8_areKnown_40 (by decide) ?_
    exact hk4 _ _ _ _ _ hH hS (lv_sub hl [2, 3, 1, 0] rfl) hf
  have B35 : ∀ (k4 : Int32 → Int32 → Option (Int32)), (∀ (x2 : Int32) (x3 : Int32) (H : Heap) (locs : List Loc) (ls : Array Slot), HR w K g S H → va_S (FR w) s.heap H locs → lv_has ls 4 [(0, .ref w.2.2.2), (1, .int p0), (2, .int x2), (3, .int x3)] → k4 x2 x3 = some out → W p l e ({ frames := 0, cells := 0, slots := 0, locals := 0 } : Room) s m args below meth c H locs 0 0 (MQ below (QI w K g S out) args s 0 0 (FR w)) (F0 m 4 ls [])) → ∀ (x3 : Int32) (H : Heap) (locs : List Loc) (ls : Array Slot), HR w K g S H → va_S (FR w) s.heap H locs → lv_has ls 4 [(0, .ref w.2.2.2), (1, .int p0), (3, .int x3)] → f8_areKnown_35 k4 S p0 x3 = some out → W p l e ({ frames := 0, cells := 0, slots := 0, locals := 0 } : Room) s m args below meth c H locs 0 0 (MQ below (QI w K g S out) args s 0 0 (FR w)) (F0 m 35 ls []) := by
    intro k4 hk4 x3 H locs ls hH hS hl hf
    unfold f8_areKnown_35 at hf
    refine lv_iconst (v := 0) hx hb dX8_areKnown_35 (by decide) ?_
    exact B36 _ (hk4) _ _ _ _ _ hH hS (lv_sub hl [0, 1, 2] rfl) hf
  have B31 : ∀ (k4 : Int32 → Int32 → Option (Int32)), (∀ (x2 : Int32) (x3 : Int32) (H : Heap) (locs : List Loc) (ls : Array Slot), HR w K g S H → va_S (FR w) s.heap H locs → lv_has ls 4 [(0, .ref w.2.2.2), (1, .int p0), (2, .int x2), (3, .int x3)] → k4 x2 x3 = some out → W p l e ({ frames := 0, cells := 0, slots := 0, locals := 0 } : Room) s m args below meth c H locs 0 0 (MQ below (QI w K g S out) args s 0 0 (FR w)) (F0 m 4 ls [])) → ∀ (x3 : Int32) (H : Heap) (locs : List Loc) (ls : Array Slot), HR w K g S H → va_S (FR w) s.heap H locs → lv_has ls 4 [(0, .ref w.2.2.2), (1, .int p0), (3, .int x3)] → f8_areKnown_31 k4 S p0 x3 = some out → W p l e ({ frames := 0, cells := 0, slots := 0, locals := 0 } : Room) s m args below meth c H locs 0 0 (MQ below (QI w K g S out) args s 0 0 (FR w)) (F0 m 31 ls []) := by
    intro k4 hk4 x3 H locs ls hH hS hl hf
    unfold f8_areKnown_31 at hf
    refine lv_iconst (v := 1) hx hb dX8_areKnown_31 (by decide) ?_
    refine lv_goto (tgt := 36) hx hb dX8_areKnown_32 (by decide) ?_
    exact B36 _ (hk4) _ _ _ _ _ hH hS (lv_sub hl [0, 1, 2] rfl) hf
  have B4 : ∀ n : Nat, ∀ (x2 : Int32) (x3 : Int32) (H : Heap) (locs : List Loc) (ls : Array Slot), HR w K g S H → va_S (FR w) s.heap H locs → lv_has ls 4 [(0, .ref w.2.2.2), (1, .int p0), (2, .int x2), (3, .int x3)] → f8_areKnown_4 S p0 n x2 x3 = some out → W p l e ({ frames := 0, cells := 0, slots := 0, locals := 0 } : Room) s m args below meth c H locs 0 0 (MQ below (QI w K g S out) args s 0 0 (FR w)) (F0 m 4 ls []) := by
    intro n
    induction n with
    | zero =>
      intro x2 x3 H locs ls hH hS hl hf
      cases hf
    | succ n ih =>
      intro x2 x3 H locs ls hH hS hl hf
      rw [f8_areKnown_4] at hf
      refine lv_iload_n hx hb dX8_areKnown_4 rfl (lv_at hl 3 rfl) ?_
      refine lv_bipush (v := 10) hx hb dX8_areKnown_5 (by decide) ?_
      have hg := gif hf
      refine lv_icmp_ge (tgt := 43) hx hb dX8_areKnown_7 (by decide) (fun c2 => ?_) (fun c2 => ?_)
      · have hf := hg.1 c2
        refine lv_iload_n hx hb dX8_areKnown_43 rfl (lv_at hl 2 rfl) ?_
        obtain ⟨h3, hf⟩ := gd_some hf
        have ho := Option.some.inj hf
        exact W.zret (v := x2) (ty := .boolean) hx hb hr (gbl_n h3) (fun t ht hW => ⟨⟨x2, (), rfl, ho, hrE ht hH⟩, hS.F ht⟩) hS.2.2 dX8_areKnown_44
      · have hf := hg.2 c2
        refine lv_iload_n hx hb dX8_areKnown_10 rfl (lv_at hl 2 rfl) ?_
        have hg := gif hf
        refine lv_if_eq (tgt := 35) hx hb dX8_areKnown_11 (by decide) (fun c4 => ?_) (fun c4 => ?_)
        · have hf := hg.1 c4
          exact B35 _ (ih) _ _ _ _ hH hS (lv_sub hl [0, 1, 3] rfl) hf
        · have hf := hg.2 c4
          refine lv_iload_n hx hb dX8_areKnown_14 rfl (lv_at hl 1 rfl) ?_
          refine lv_iload_n hx hb dX8_areKnown_15 rfl (lv_at hl 3 rfl) ?_
          refine lv_ishr hx hb dX8_areKnown_16 ?_
          refine lv_iconst (v := 1) hx hb dX8_areKnown_17 (by decide) ?_
          refine lv_iand hx hb dX8_areKnown_18 ?_
          have hg := gif hf
          refine lv_if_eq (tgt := 31) hx hb dX8_areKnown_19 (by decide) (fun c5 => ?_) (fun c5 => ?_)
          · have hf := hg.1 c5
            exact B31 _ (ih) _ _ _ _ hH hS (lv_sub hl [0, 1, 3] rfl) hf
          · have hf := hg.2 c5
            refine lv_aload_n hx hb dX8_areKnown_22 rfl (lv_at hl 0 rfl) ?_
            refine e_8_11 hx hb hts hown hK hH (hts _ wd_108) dX8_areKnown_23 ?_
            refine lv_iload_n hx hb dX8_areKnown_26 rfl (lv_at hl 3 rfl) ?_
            obtain ⟨h7, hf⟩ := gd_some hf
            refine m_iald hx hb hK hH 8 (by decide) (by decide) rfl h7 dX8_areKnown_27 ?_
            have hg := gif hf
            refine lv_if_le (tgt := 35) hx hb dX8_areKnown_28 (by decide) (fun c8 => ?_) (fun c8 => ?_)
            · have hf := hg.1 c8
              exact B35 _ (ih) _ _ _ _ hH hS (lv_sub hl [0, 1, 3] rfl) hf
            · have hf := hg.2 c8
              exact B31 _ (ih) _ _ _ _ hH hS (lv_sub hl [0, 1, 3] rfl) hf
  have hl : lv_has ls 4 [(0, .ref w.2.2.2), (1, .int p0)] := hl
  refine lv_iconst (v := 1) hx hb dX8_areKnown_0 (by decide) ?_
  refine lv_istore_n (lv' := [(2, .int 1), (0, .ref w.2.2.2), (1, .int p0)]) hx hb dX8_areKnown_1 rfl hl (by decide) rfl (fun ls hl => ?_)
  refine lv_iconst (v := 0) hx hb dX8_areKnown_2 (by decide) ?_
  refine lv_istore_n (lv' := [(3, .int 0), (2, .int 1), (0, .ref w.2.2.2), (1, .int p0)]) hx hb dX8_areKnown_3 rfl hl (by decide) rfl (fun ls hl => ?_)
  exact B4 _ _ _ _ _ _ hH hS (lv_sub hl [2, 3, 1, 0] rfl) hf
set_option maxRecDepth 100000 in
set_option maxHeartbeats 8000000 in
theorem c8_isCard (l : Launch) (w : GW) (K : GK) (g : GM) (S : GS) (p0 : Int32) (out : Int32) (hf : f8_isCard p0 = some out) : Met l yX8_isCard (wA yX8_isCard cX8_isCard 1 (some .boolean)) ({ frames := 1, cells := 0, slots := 0, locals := 22 } : Room) (PRE w K g S [.int p0]) (QI w K g S out) 0 0 (FR w) := by
  unfold f8_isCard at hf
  refine Met.ofW (cc := cX8_isCard) (maxL := 1) (ret := (some .boolean)) (by decide) rfl ?_
  intro p e s m args below meth c s₁ B hml hv
  obtain ⟨rfl, hH, hK⟩ := hv
  have hx := B.exec
  have hb := B.bytes
  have hr := B.returns
  have hts : ∀ q ∈ gALL, q.before _ s = true := fun q h => atoms_spec (ws := (wA yX8_isCard cX8_isCard 1 (some .boolean))) B.pre q (List.mem_cons_of_mem _ h)
  have hown : s.vm.findClass RX8 = some m.cls := findClass_of_methodNamed B.named
  have hlocks := B.notSynchronized
  have hS : va_S (FR w) s.heap s.heap [] := va_S.rf
  show W p l e ({ frames := 1, cells := 0, slots := 0, locals := 22 } : Room) s m _ below meth c s.heap [] 0 0 (MQ below (QI w K g S out) _ s 0 0 (FR w)) _
  have hl := lv_entry ([.int p0]) (n := 1) (Nat.le_of_ble_eq_true rfl)
  rw [lg_entry_eq]
  generalize (lg_sl ([.int p0]) ++ List.replicate (1 - (lg_sl ([.int p0])).length) Slot.unset).toArray = ls at hl ⊢
  clear B
  generalize ([.int p0] : List Value).toArray = args at hts ⊢
  have hl : lv_has ls 1 [(0, .int p0)] := hl
  refine lv_iload_n hx hb dX8_isCard_0 rfl (lv_at hl 0 rfl) ?_
  refine lv_iconst (v := 0) hx hb dX8_isCard_1 (by decide) ?_
  refine lv_bipush (v := 9) hx hb dX8_isCard_2 (by decide) ?_
  obtain ⟨v1, h2, hf⟩ := gbind hf
  refine g_Si (As := [.int p0, .int 0, .int 9]) (rest := []) ⟨hx, hb, hml, hown, hts⟩ (c8_within l w K g S p0 0 9 v1 h2) (gcwS hts i8_within wd_155 rfl rfl ⟨Nat.le_of_ble_eq_true rfl, Nat.le_of_ble_eq_true rfl⟩) hH hK hS hl.1 rfl rfl (Nat.le_of_ble_eq_true rfl) dX8_isCard_4 ⟨Nat.le_refl _, Nat.le_refl _⟩ (fun H locs hH hS => ?_)
  obtain ⟨h3, hf⟩ := gd_some hf
  have ho := Option.some.inj hf
  exact W.zret (v := v1) (ty := .boolean) hx hb hr (gbl_n h3) (fun t ht hW => ⟨⟨v1, (), rfl, ho, hrE ht hH⟩, hS.F ht⟩) hS.2.2 dX8_isCard_7
set_option maxRecDepth 100000 in
set_option maxHeartbeats 8000000 in
theorem c8_push (l : Launch) (w : GW) (K : GK) (g : GM) (S : GS) (out : GS) (hf : f8_push S = some out) : Met l yX8_push (wA yX8_push cX8_push 2 none) ({ frames := 0, cells := 0, slots := 0, locals := 0 } : Room) (PRE w K g S [.ref w.2.2.2]) (QV w K g out) 0 0 (FR w) := by
  unfold f8_push at hf
  refine Met.ofW (cc := cX8_push) (maxL := 2) (ret := none) (by decide) rfl ?_
  intro p e s m args below meth c s₁ B hml hv
  obtain ⟨rfl, hH, hK⟩ := hv
  have hx := B.exec
  have hb := B.bytes
  have hr := B.returns
  have hts : ∀ q ∈ gALL, q.before _ s = true := fun q h => atoms_spec (ws := (wA yX8_push cX8_push 2 none)) B.pre q (List.mem_cons_of_mem _ h)
  have hown : s.vm.findClass RX8 = some m.cls := findClass_of_methodNamed B.named
  have hlocks := B.notSynchronized
  have hS : va_S (FR w) s.heap s.heap [] := va_S.rf
  show W p l e ({ frames := 0, cells := 0, slots := 0, locals := 0 } : Room) s m _ below meth c s.heap [] 0 0 (MQ below (QV w K g out) _ s 0 0 (FR w)) _
  have hl := lv_entry ([.ref w.2.2.2]) (n := 2) (Nat.le_of_ble_eq_true rfl)
  rw [lg_entry_eq]
  generalize (lg_sl ([.ref w.2.2.2]) ++ List.replicate (2 - (lg_sl ([.ref w.2.2.2])).length) Slot.unset).toArray = ls at hl ⊢
  clear B
  generalize ([.ref w.2.2.2] : List Value).toArray = args at hts ⊢
  have B52 : ∀ n : Nat, ∀ (S : GS) (x1 : Int32) (H : Heap) (locs : List Loc) (ls : Array Slot), HR w K g S H → va_S (FR w) s.heap H locs → lv_has ls 2 [(0, .ref w.2.2.2), (1, .int x1)] → f8_push_52 n S x1 = some out → W p l e ({ frames := 0, cells := 0, slots := 0, locals := 0 } : Room) s m args below meth c H locs 0 0 (MQ below (QV w K g out) args s 0 0 (FR w)) (F0 m 52 ls []) := by
    intro n
    induction n with
    | zero =>
      intro S x1 H locs ls hH hS hl hf
      cases hf
    | succ n ih =>
      intro S x1 H locs ls hH hS hl hf
      rw [f8_push_52] at hf
      refine lv_iload_n hx hb dX8_push_52 rfl (lv_at hl 1 rfl) ?_
      refine lv_sipush (v := 2081) hx hb dX8_push_53 (by decide) ?_
      have hg := gif hf
      refine lv_icmp_ge (tgt := 86) hx hb dX8_push_56 (by decide) (fun c1 => ?_) (fun c1 => ?_)
      · have hf := hg.1 c1
        refine lv_aload_n hx hb dX8_push_86 rfl (lv_at hl 0 rfl) ?_
        refine lv_dup hx hb dX8_push_87 rfl ?_
        refine e_8_3 hx hb hts hown hK hH (hts _ wd_173) dX8_push_88 ?_
        refine lv_iconst (v := 1) hx hb dX8_push_91 (by decide) ?_
        refine lv_iadd hx hb dX8_push_92 ?_
        refine p_8_3 hx hb hts hown hK hH hS (hts _ wd_173) dX8_push_93 (fun H locs hH hS => ?_)
        obtain ⟨S2, eS2⟩ : ∃ z : GS, z = ssI S 0 3 ((S 0 3) + 1) := ⟨_, rfl⟩
        have hf := gl_at hf eS2
        replace hH : HR w K g S2 H := by rw [eS2]; exact hH
        have ho := Option.some.inj hf
        exact W.vret hx hb hr (fun t ht hW => ⟨⟨(), rfl, trivial, hrVm ht ho hH⟩, hS.F ht⟩) hS.2.2 dX8_push_96
      · have hf := hg.2 c1
        refine lv_aload_n hx hb dX8_push_59 rfl (lv_at hl 0 rfl) ?_
        refine e_8_2 hx hb hts hown hK hH (hts _ wd_103) dX8_push_60 ?_
        refine lv_aload_n hx hb dX8_push_63 rfl (lv_at hl 0 rfl) ?_
        refine e_8_3 hx hb hts hown hK hH (hts _ wd_173) dX8_push_64 ?_
        refine lv_sipush (v := 2081) hx hb dX8_push_67 (by decide) ?_
        refine lv_imul hx hb dX8_push_70 ?_
        refine lv_iload_n hx hb dX8_push_71 rfl (lv_at hl 1 rfl) ?_
        refine lv_iadd hx hb dX8_push_72 ?_
        refine lv_aload_n hx hb dX8_push_73 rfl (lv_at hl 0 rfl) ?_
        refine e_8_1 hx hb hts hown hK hH (hts _ wd_102) dX8_push_74 ?_
        refine lv_iload_n hx hb dX8_push_77 rfl (lv_at hl 1 rfl) ?_
        obtain ⟨h4, hf⟩ := gd_some hf
        refine m_iald hx hb hK hH 2 (by decide) (by decide) rfl h4 dX8_push_78 ?_
        obtain ⟨h6, hf⟩ := gd_some hf
        refine m_iast hx hb hK hH hS 3 (by decide) (by decide) rfl h6 dX8_push_79 (fun H locs hH hS => ?_)
        obtain ⟨S7, eS7⟩ : ∃ z : GS, z = ssI S 3 (((S 0 3) * 2081) + x1).toNatClampNeg (S 2 x1.toNatClampNeg) := ⟨_, rfl⟩
        have hf := gl_at hf eS7
        replace hH : HR w K g S7 H := by rw [eS7]; exact hH
        obtain ⟨v8, ev8⟩ : ∃ z : Int32, z = x1 + 1 := ⟨_, rfl⟩
        have hf := gl_at hf ev8
        refine lv_iinc (v := v8) (lv' := [(1, .int v8), (0, .ref w.2.2.2)]) hx hb dX8_push_80 hl (k := 1) rfl (by rw [ev8]; rfl) (by decide) rfl (fun ls hl => ?_)
        refine lv_goto (tgt := 52) hx hb dX8_push_83 (by decide) ?_
        exact ih _ _ _ _ _ hH hS (lv_sub hl [1, 0] rfl) hf
  have B50 : ∀ (S : GS) (H : Heap) (locs : List Loc) (ls : Array Slot), HR w K g S H → va_S (FR w) s.heap H locs → lv_has ls 2 [(0, .ref w.2.2.2)] → f8_push_50 S = some out → W p l e ({ frames := 0, cells := 0, slots := 0, locals := 0 } : Room) s m args below meth c H locs 0 0 (MQ below (QV w K g out) args s 0 0 (FR w)) (F0 m 50 ls []) := by
    intro  S H locs ls hH hS hl hf
    unfold f8_push_50 at hf
    refine lv_iconst (v := 0) hx hb dX8_push_50 (by decide) ?_
    refine lv_istore_n (lv' := [(1, .int 0), (0, .ref w.2.2.2)]) hx hb dX8_push_51 rfl hl (by decide) rfl (fun ls hl => ?_)
    exact B52 _ _ _ _ _ _ hH hS (lv_sub hl [1, 0] rfl) hf
  have B11 : ∀ n : Nat, ∀ (S : GS) (x1 : Int32) (H : Heap) (locs : List Loc) (ls : Array Slot), HR w K g S H → va_S (FR w) s.heap H locs → lv_has ls 2 [(0, .ref w.2.2.2), (1, .int x1)] → f8_push_11 n S x1 = some out → W p l e ({ frames := 0, cells := 0, slots := 0, locals := 0 } : Room) s m args below meth c H locs 0 0 (MQ below (QV w K g out) args s 0 0 (FR w)) (F0 m 11 ls []) := by
    intro n
    induction n with
    | zero =>
      intro S x1 H locs ls hH hS hl hf
      cases hf
    | succ n ih =>
      intro S x1 H locs ls hH hS hl hf
      rw [f8_push_11] at hf
      refine lv_iload_n hx hb dX8_push_11 rfl (lv_at hl 1 rfl) ?_
      refine lv_sipush (v := 10405) hx hb dX8_push_12 (by decide) ?_
      have hg := gif hf
      refine lv_icmp_ge (tgt := 40) hx hb dX8_push_15 (by decide) (fun c9 => ?_) (fun c9 => ?_)
      · have hf := hg.1 c9
        refine lv_aload_n hx hb dX8_push_40 rfl (lv_at hl 0 rfl) ?_
        refine lv_dup hx hb dX8_push_41 rfl ?_
        refine e_8_3 hx hb hts hown hK hH (hts _ wd_173) dX8_push_42 ?_
        refine lv_iconst (v := 1) hx hb dX8_push_45 (by decide) ?_
        refine lv_isub hx hb dX8_push_46 ?_
        refine p_8_3 hx hb hts hown hK hH hS (hts _ wd_173) dX8_push_47 (fun H locs hH hS => ?_)
        obtain ⟨S10, eS10⟩ : ∃ z : GS, z = ssI S 0 3 ((S 0 3) - 1) := ⟨_, rfl⟩
        have hf := gl_at hf eS10
        replace hH : HR w K g S10 H := by rw [eS10]; exact hH
        exact B50 _ _ _ _ hH hS (lv_sub hl [0] rfl) hf
      · have hf := hg.2 c9
        refine lv_aload_n hx hb dX8_push_18 rfl (lv_at hl 0 rfl) ?_
        refine e_8_2 hx hb hts hown hK hH (hts _ wd_103) dX8_push_19 ?_
        refine lv_iload_n hx hb dX8_push_22 rfl (lv_at hl 1 rfl) ?_
        refine lv_aload_n hx hb dX8_push_23 rfl (lv_at hl 0 rfl) ?_
        refine e_8_2 hx hb hts hown hK hH (hts _ wd_103) dX8_push_24 ?_
        refine lv_iload_n hx hb dX8_push_27 rfl (lv_at hl 1 rfl) ?_
        refine lv_sipush (v := 2081) hx hb dX8_push_28 (by decide) ?_
        refine lv_iadd hx hb dX8_push_31 ?_
        obtain ⟨h12, hf⟩ := gd_some hf
        refine m_iald hx hb hK hH 3 (by decide) (by decide) rfl h12 dX8_push_32 ?_
        obtain ⟨h14, hf⟩ := gd_some hf
        refine m_iast hx hb hK hH hS 3 (by decide) (by decide) rfl h14 dX8_push_33 (fun H locs hH hS => ?_)
        obtain ⟨S15, eS15⟩ : ∃ z : GS, z = ssI S 3 x1.toNatClampNeg (S 3 (x1 + 2081).toNatClampNeg) := ⟨_, rfl⟩
        have hf := gl_at hf eS15
        replace hH : HR w K g S15 H := by rw [eS15]; exact hH
        obtain ⟨v16, ev16⟩ : ∃ z : Int32, z = x1 + 1 := ⟨_, rfl⟩
        have hf := gl_at hf ev16
        refine lv_iinc (v := v16) (lv' := [(1, .int v16), (0, .ref w.2.2.2)]) hx hb dX8_push_34 hl (k := 1) rfl (by rw [ev16]; rfl) (by decide) rfl (fun ls hl => ?_)
        refine lv_goto (tgt := 11) hx hb dX8_push_37 (by decide) ?_
        exact ih _ _ _ _ _ hH hS (lv_sub hl [1, 0] rfl) hf
  have hl : lv_has ls 2 [(0, .ref w.2.2.2)] := hl
  refine lv_aload_n hx hb dX8_push_0 rfl (lv_at hl 0 rfl) ?_
  refine e_8_3 hx hb hts hown hK hH (hts _ wd_173) dX8_push_1 ?_
  refine lv_bipush (v := 6) hx hb dX8_push_4 (by decide) ?_
  have hg := gif hf
  refine lv_icmp_ne (tgt := 50) hx hb dX8_push_6 (by decide) (fun c17 => ?_) (fun c17 => ?_)
  · have hf := hg.2 c17
    exact B50 _ _ _ _ hH hS (lv_sub hl [0] rfl) hf
  · have hf := hg.1 c17
    refine lv_iconst (v := 0) hx hb dX8_push_9 (by decide) ?_
    refine lv_istore_n (lv' := [(1, .int 0), (0, .ref w.2.2.2)]) hx hb dX8_push_10 rfl hl (by decide) rfl (fun ls hl => ?_)
    exact B11 _ _ _ _ _ _ hH hS (lv_sub hl [1, 0] rfl) hf
set_option maxRecDepth 100000 in
set_option maxHeartbeats 8000000 in
theorem c8_record (l : Launch) (w : GW) (K : GK) (g : GM) (S : GS) (out : GS) (hf : f8_record S = some out) : Met l yX8_record (wA yX8_record cX8_record 1 none) ({ frames := 1, cells := 0, slots := 0, locals := 21 } : Room) (PRE w K g S [.ref w.2.2.2]) (QV w K g out) 0 0 (FR w) := by
  unfold f8_record at hf
  refine Met.ofW (cc := cX8_record) (maxL := 1) (ret := none) (by decide) rfl ?_
  intro p e s m args below meth c s₁ B hml hv
  obtain ⟨rfl, hH, hK⟩ := hv
  have hx := B.exec
  have hb := B.bytes
  have hr := B.returns
  have hts : ∀ q ∈ gALL, q.before _ s = true := fun q h => atoms_spec (ws := (wA yX8_record cX8_record 1 none)) B.pre q (List.mem_cons_of_mem _ h)
  have hown : s.vm.findClass RX8 = some m.cls := findClass_of_methodNamed B.named
  have hlocks := B.notSynchronized
  have hS : va_S (FR w) s.heap s.heap [] := va_S.rf
  show W p l e ({ frames := 1, cells := 0, slots := 0, locals := 21 } : Room) s m _ below meth c s.heap [] 0 0 (MQ below (QV w K g out) _ s 0 0 (FR w)) _
  have hl := lv_entry ([.ref w.2.2.2]) (n := 1) (Nat.le_of_ble_eq_true rfl)
  rw [lg_entry_eq]
  generalize (lg_sl ([.ref w.2.2.2]) ++ List.replicate (1 - (lg_sl ([.ref w.2.2.2])).length) Slot.unset).toArray = ls at hl ⊢
  clear B
  generalize ([.ref w.2.2.2] : List Value).toArray = args at hts ⊢
  have hl : lv_has ls 1 [(0, .ref w.2.2.2)] := hl
  refine lv_aload_n hx hb dX8_record_0 rfl (lv_at hl 0 rfl) ?_
  obtain ⟨g1, h2, hf⟩ := gbind hf
  refine g_Vv (As := []) (rest := []) ⟨hx, hb, hml, hown, hts⟩ (c8_putAside l w K g S g1 h2) (gcwV hts i8_putAside wd_165 rfl rfl ⟨Nat.le_of_ble_eq_true rfl, Nat.le_of_ble_eq_true rfl⟩) (gRecv.of hK rfl hH.ob) hH hK hS hl.1 rfl rfl (Nat.le_of_ble_eq_true rfl) dX8_record_1 ⟨Nat.le_refl _, Nat.le_refl _⟩ (fun H locs hH hS => ?_)
  refine lv_aload_n hx hb dX8_record_4 rfl (lv_at hl 0 rfl) ?_
  obtain ⟨g3, h4, hf⟩ := gbind hf
  refine g_Vv (As := []) (rest := []) ⟨hx, hb, hml, hown, hts⟩ (c8_push l w K g g1 g3 h4) (gcwV hts i8_push wd_169 rfl rfl ⟨Nat.le_of_ble_eq_true rfl, Nat.le_of_ble_eq_true rfl⟩) (gRecv.of hK rfl hH.ob) hH hK hS hl.1 rfl rfl (Nat.le_of_ble_eq_true rfl) dX8_record_5 ⟨Nat.le_refl _, Nat.le_refl _⟩ (fun H locs hH hS => ?_)
  have ho := Option.some.inj hf
  exact W.vret hx hb hr (fun t ht hW => ⟨⟨(), rfl, trivial, hrVm ht ho hH⟩, hS.F ht⟩) hS.2.2 dX8_record_8
set_option maxRecDepth 100000 in
set_option maxHeartbeats 8000000 in
theorem c8_begin (l : Launch) (w : GW) (K : GK) (g : GM) (S : GS) (p0 : Int32) (out : GS × Int32) (hf : f8_begin S p0 = some out) : Met l yX8_begin (wA yX8_begin cX8_begin 3 (some .int)) ({ frames := 3, cells := 0, slots := 0, locals := 66 } : Room) (PRE w K g S [.ref w.2.2.2, .int p0]) (QI w K g out.1 out.2) 0 0 (FR w) := by
  unfold f8_begin at hf
  refine Met.ofW (cc := cX8_begin) (maxL := 3) (ret := (some .int)) (by decide) rfl ?_
  intro p e s m args below meth c s₁ B hml hv
  obtain ⟨rfl, hH, hK⟩ := hv
  have hx := B.exec
  have hb := B.bytes
  have hr := B.returns
  have hts : ∀ q ∈ gALL, q.before _ s = true := fun q h => atoms_spec (ws := (wA yX8_begin cX8_begin 3 (some .int))) B.pre q (List.mem_cons_of_mem _ h)
  have hown : s.vm.findClass RX8 = some m.cls := findClass_of_methodNamed B.named
  have hlocks := B.notSynchronized
  have hS : va_S (FR w) s.heap s.heap [] := va_S.rf
  show W p l e ({ frames := 3, cells := 0, slots := 0, locals := 66 } : Room) s m _ below meth c s.heap [] 0 0 (MQ below (QI w K g out.1 out.2) _ s 0 0 (FR w)) _
  have hl := lv_entry ([.ref w.2.2.2, .int p0]) (n := 3) (Nat.le_of_ble_eq_true rfl)
  rw [lg_entry_eq]
  generalize (lg_sl ([.ref w.2.2.2, .int p0]) ++ List.replicate (3 - (lg_sl ([.ref w.2.2.2, .int p0])).length) Slot.unset).toArray = ls at hl ⊢
  clear B
  generalize ([.ref w.2.2.2, .int p0] : List Value).toArray = args at hts ⊢
  have hl : lv_has ls 3 [(0, .ref w.2.2.2), (1, .int p0)] := hl
  refine lv_iload_n hx hb dX8_begin_0 rfl (lv_at hl 1 rfl) ?_
  obtain ⟨v1, h2, hf⟩ := gbind hf
  refine g_Si (As := [.int p0]) (rest := []) ⟨hx, hb, hml, hown, hts⟩ (c8_isCard l w K g S p0 v1 h2) (gcwS hts i8_isCard wd_264 rfl rfl ⟨Nat.le_of_ble_eq_true rfl, Nat.le_of_ble_eq_true rfl⟩) hH hK hS hl.1 rfl rfl (Nat.le_of_ble_eq_true rfl) dX8_begin_1 ⟨Nat.le_refl _, Nat.le_refl _⟩ (fun H locs hH hS => ?_)
  have hg := gif hf
  refine lv_if_ne (tgt := 9) hx hb dX8_begin_4 (by decide) (fun c3 => ?_) (fun c3 => ?_)
  · have hf := hg.2 c3
    refine lv_aload_n hx hb dX8_begin_9 rfl (lv_at hl 0 rfl) ?_
    refine lv_iload_n hx hb dX8_begin_10 rfl (lv_at hl 1 rfl) ?_
    obtain ⟨v4, h5, hf⟩ := gbind hf
    refine g_Vi (As := [.int p0]) (rest := []) ⟨hx, hb, hml, hown, hts⟩ (c8_hasText l w K g S p0 v4 h5) (gcwV hts i8_hasText wd_318 rfl rfl ⟨Nat.le_of_ble_eq_true rfl, Nat.le_of_ble_eq_true rfl⟩) (gRecv.of hK rfl hH.ob) hH hK hS hl.1 rfl rfl (Nat.le_of_ble_eq_true rfl) dX8_begin_11 ⟨Nat.le_refl _, Nat.le_refl _⟩ (fun H locs hH hS => ?_)
    have hg := gif hf
    refine lv_if_ne (tgt := 20) hx hb dX8_begin_14 (by decide) (fun c6 => ?_) (fun c6 => ?_)
    · have hf := hg.2 c6
      refine lv_aload_n hx hb dX8_begin_20 rfl (lv_at hl 0 rfl) ?_
      obtain ⟨g7, h8, hf⟩ := gbind hf
      refine g_Vv (As := []) (rest := []) ⟨hx, hb, hml, hown, hts⟩ (c8_record l w K g S g7 h8) (gcwV hts i8_record wd_161 rfl rfl ⟨Nat.le_of_ble_eq_true rfl, Nat.le_of_ble_eq_true rfl⟩) (gRecv.of hK rfl hH.ob) hH hK hS hl.1 rfl rfl (Nat.le_of_ble_eq_true rfl) dX8_begin_21 ⟨Nat.le_refl _, Nat.le_refl _⟩ (fun H locs hH hS => ?_)
      refine lv_aload_n hx hb dX8_begin_24 rfl (lv_at hl 0 rfl) ?_
      refine e_8_0 hx hb hts hown hK hH (hts _ wd_101) dX8_begin_25 ?_
      refine lv_iconst (v := 3) hx hb dX8_begin_28 (by decide) ?_
      obtain ⟨h10, hf⟩ := gd_some hf
      refine m_iald hx hb hK hH 1 (by decide) (by decide) rfl h10 dX8_begin_29 ?_
      refine lv_topi (fun v11 ev11 => ?_)
      have hf := gl_at hf ev11
      refine lv_istore_n (lv' := [(2, .int v11), (0, .ref w.2.2.2), (1, .int p0)]) hx hb dX8_begin_30 rfl hl (by decide) rfl (fun ls hl => ?_)
      refine lv_aload_n hx hb dX8_begin_31 rfl (lv_at hl 1 rfl) ?_
      refine e_8_0 hx hb hts hown hK hH (hts _ wd_101) dX8_begin_32 ?_
      refine lv_iconst (v := 3) hx hb dX8_begin_35 (by decide) ?_
      refine lv_iconst (v := 0) hx hb dX8_begin_36 (by decide) ?_
      refine m_iast hx hb hK hH hS 1 (by decide) (by decide) rfl h10 dX8_begin_37 (fun H locs hH hS => ?_)
      obtain ⟨S13, eS13⟩ : ∃ z : GS, z = ssI g7 1 (3 : Int32).toNatClampNeg 0 := ⟨_, rfl⟩
      have hf := gl_at hf eS13
      replace hH : HR w K g S13 H := by rw [eS13]; exact hH
      refine lv_aload_n hx hb dX8_begin_38 rfl (lv_at hl 1 rfl) ?_
      refine lv_iload_n hx hb dX8_begin_39 rfl (lv_at hl 2 rfl) ?_
      refine lv_iconst (v := 0) hx hb dX8_begin_40 (by decide) ?_
      obtain ⟨g14, h15, hf⟩ := gbind hf
      refine g_Vv (As := [.int p0, .int 0]) (rest := []) ⟨hx, hb, hml, hown, hts⟩ (c8_lay l w K g S13 p0 0 g14 h15) (gcwV hts i8_lay wd_356 rfl rfl ⟨Nat.le_of_ble_eq_true rfl, Nat.le_of_ble_eq_true rfl⟩) (gRecv.of hK rfl hH.ob) hH hK hS hl.1 rfl rfl (Nat.le_of_ble_eq_true rfl) dX8_begin_41 ⟨Nat.le_refl _, Nat.le_refl _⟩ (fun H locs hH hS => ?_)
      refine lv_iload_n hx hb dX8_begin_44 rfl (lv_at hl 0 rfl) ?_
      have ho := Option.some.inj hf
      exact W.iret (v := v11) hx hb hr (fun t ht hW => ⟨⟨v11, (), rfl, congrArg Prod.snd ho, hrPm ht ho hH⟩, hS.F ht⟩) hS.2.2 dX8_begin_45
    · have hf := hg.1 c6
      refine lv_bipush (v := (-5)) hx hb dX8_begin_17 (by decide) ?_
      have ho := Option.some.inj hf
      exact W.iret (v := (-5)) hx hb hr (fun t ht hW => ⟨⟨(-5), (), rfl, congrArg Prod.snd ho, hrPm ht ho hH⟩, hS.F ht⟩) hS.2.2 dX8_begin_19
  · have hf := hg.1 c3
    refine lv_iconst (v := (-1)) hx hb dX8_begin_7 (by decide) ?_
    have ho := Option.some.inj hf
    exact W.iret (v := (-1)) hx hb hr (fun t ht hW => ⟨⟨(-1), (), rfl, congrArg Prod.snd ho, hrPm ht ho hH⟩, hS.F ht⟩) hS.2.2 dX8_begin_8
set_option maxRecDepth 100000 in
set_option maxHeartbeats 8000000 in
theorem c8_behindPart (l : Launch) (w : GW) (K : GK) (g : GM) (S : GS) (p0 : Int32) (p1 : Int32) (out : Int32) (hf : f8_behindPart S p0 p1 = some out) : Met l yX8_behindPart (wA yX8_behindPart cX8_behindPart 5 (some .int)) ({ frames := 1, cells := 0, slots := 0, locals := 22 } : Room) (PRE w K g S [.ref w.2.2.2, .int p0, .int p1]) (QI w K g S out) 0 0 (FR w) := by
  unfold f8_behindPart at hf
  refine Met.ofW (cc := cX8_behindPart) (maxL := 5) (ret := (some .int)) (by decide) rfl ?_
  intro p e s m args below meth c s₁ B hml hv
  obtain ⟨rfl, hH, hK⟩ := hv
  have hx := B.exec
  have hb := B.bytes
  have hr := B.returns
  have hts : ∀ q ∈ gALL, q.before _ s = true := fun q h => atoms_spec (ws := (wA yX8_behindPart cX8_behindPart 5 (some .int))) B.pre q (List.mem_cons_of_mem _ h)
  have hown : s.vm.findClass RX8 = some m.cls := findClass_of_methodNamed B.named
  have hlocks := B.notSynchronized
  have hS : va_S (FR w) s.heap s.heap [] := va_S.rf
  show W p l e ({ frames := 1, cells := 0, slots := 0, locals := 22 } : Room) s m _ below meth c s.heap [] 0 0 (MQ below (QI w K g S out) _ s 0 0 (FR w)) _
  have hl := lv_entry ([.ref w.2.2.2, .int p0, .int p1]) (n := 5) (Nat.le_of_ble_eq_true rfl)
  rw [lg_entry_eq]
  generalize (lg_sl ([.ref w.2.2.2, .int p0, .int p1]) ++ List.replicate (5 - (lg_sl ([.ref w.2.2.2, .int p0, .int p1])).length) Slot.unset).toArray = ls at hl ⊢
  clear B
  generalize ([.ref w.2.2.2, .int p0, .int p1] : List Value).toArray = args at hts ⊢
  have B45 : ∀ (k7 : Int32 → Int32 → Option (Int32)), (∀ (x3 : Int32) (x4 : Int32) (H : Heap) (locs : List Loc) (ls : Array Slot), HR w K g S H → va_S (FR w) s.heap H locs → lv_has ls 5 [(0, .ref w.2.2.2), (1, .int p0), (3, .int x3), (4, .int x4)] → k7 x3 x4 = some out → W p l e ({ frames := 1, cells := 0, slots := 0, locals := 22 } : Room) s m args below meth c H locs 0 0 (MQ below (QI w K g S out) args s 0 0 (FR w)) (F0 m 7 ls [])) → ∀ (x4 : Int32) (s0 : Int32) (s1 : Int32) (H : Heap) (locs : List Loc) (ls : Array Slot), HR w K g S H → va_S (FR w) s.heap H locs → lv_has ls 5 [(0, .ref w.2.2.2), (1, .int p0), (4, .int x4)] → f8_behindPart_45 k7 S p0 p1 x4 s0 s1 = some out → W p l e ({ frames := 1, cells := 0, slots := 0, locals := 22 } : Room) s m args below meth c H locs 0 0 (MQ below (QI w K g S out) args s 0 0 (FR w)) (F0 m 45 ls [.int s1, .int s0]) := by
    intro k7 hk7 x4 s0 s1 H locs ls hH hS hl hf
    unfold f8_behindPart_45 at hf
    refine lv_iadd hx hb dX8_behindPart_45 ?_
    refine lv_topi (fun v1 ev1 => ?_)
    have hf := gl_at hf ev1
    refine lv_istore_n (lv' := [(3, .int v1), (0, .ref w.2.2.2), (1, .int p0), (4, .int x4)]) hx hb dX8_behindPart_46 rfl hl (by decide) rfl (fun ls hl => ?_)
    obtain ⟨v2, ev2⟩ : ∃ z : Int32, z = x4 + 1 := ⟨_, rfl⟩
    have hf := gl_at hf ev2
    refine lv_iinc (v := v2) (lv' := [(4, .int v2), (3, .int v1), (0, .ref w.2.2.2), (1, .int p0)]) hx hb dX8_behindPart_47 hl (k := 3) rfl (by rw [ev2]; rfl) (by decide) rfl (fun ls hl => ?_)
    refine lv_goto (tgt := 7) hx hb dX8_behindPart_50 (by decide) ?_
    exact hk7 _ _ _ _ _ hH hS (lv_sub hl [2, 3, 1, 0] rfl) hf
  have B7 : ∀ n : Nat, ∀ (x3 : Int32) (x4 : Int32) (H : Heap) (locs : List Loc) (ls : Array Slot), HR w K g S H → va_S (FR w) s.heap H locs → lv_has ls 5 [(0, .ref w.2.2.2), (1, .int p0), (3, .int x3), (4, .int x4)] → f8_behindPart_7 S p0 p1 n x3 x4 = some out → W p l e ({ frames := 1, cells := 0, slots := 0, locals := 22 } : Room) s m args below meth c H locs 0 0 (MQ below (QI w K g S out) args s 0 0 (FR w)) (F0 m 7 ls []) := by
    intro n
    induction n with
    | zero =>
      intro x3 x4 H locs ls hH hS hl hf
      cases hf
    | succ n ih =>
      intro x3 x4 H locs ls hH hS hl hf
      rw [f8_behindPart_7] at hf
      refine lv_iload_n hx hb dX8_behindPart_7 rfl (lv_at hl 2 rfl) ?_
      have hg := gif hf
      refine lv_if_le (tgt := 53) hx hb dX8_behindPart_8 (by decide) (fun c3 => ?_) (fun c3 => ?_)
      · have hf := hg.1 c3
        refine lv_iload hx hb dX8_behindPart_53 (lv_at hl 3 rfl) ?_
        have ho := Option.some.inj hf
        exact W.iret (v := x4) hx hb hr (fun t ht hW => ⟨⟨x4, (), rfl, ho, hrE ht hH⟩, hS.F ht⟩) hS.2.2 dX8_behindPart_55
      · have hf := hg.2 c3
        refine lv_iload_n hx hb dX8_behindPart_11 rfl (lv_at hl 2 rfl) ?_
        refine lv_aload_n hx hb dX8_behindPart_12 rfl (lv_at hl 0 rfl) ?_
        refine lv_iload_n hx hb dX8_behindPart_13 rfl (lv_at hl 1 rfl) ?_
        refine lv_iload hx hb dX8_behindPart_14 (lv_at hl 3 rfl) ?_
        obtain ⟨v4, h5, hf⟩ := gbind hf
        refine g_Vi (As := [.int p0, .int x4]) (rest := [.int x3]) ⟨hx, hb, hml, hown, hts⟩ (c8_textAt l w K g S p0 x4 v4 h5) (gcwV hts i8_textAt wd_293 rfl rfl ⟨Nat.le_of_ble_eq_true rfl, Nat.le_of_ble_eq_true rfl⟩) (gRecv.of hK rfl hH.ob) hH hK hS hl.1 rfl rfl (Nat.le_of_ble_eq_true rfl) dX8_behindPart_16 ⟨Nat.le_refl _, Nat.le_refl _⟩ (fun H locs hH hS => ?_)
        refine lv_bipush (v := 40) hx hb dX8_behindPart_19 (by decide) ?_
        have hg := gif hf
        refine lv_icmp_ne (tgt := 28) hx hb dX8_behindPart_21 (by decide) (fun c6 => ?_) (fun c6 => ?_)
        · have hf := hg.2 c6
          refine lv_aload_n hx hb dX8_behindPart_28 rfl (lv_at hl 0 rfl) ?_
          refine lv_iload_n hx hb dX8_behindPart_29 rfl (lv_at hl 1 rfl) ?_
          refine lv_iload hx hb dX8_behindPart_30 (lv_at hl 3 rfl) ?_
          obtain ⟨v7, h8, hf⟩ := gbind hf
          refine g_Vi (As := [.int p0, .int x4]) (rest := [.int x3]) ⟨hx, hb, hml, hown, hts⟩ (c8_textAt l w K g S p0 x4 v7 h8) (gcwV hts i8_textAt wd_293 rfl rfl ⟨Nat.le_of_ble_eq_true rfl, Nat.le_of_ble_eq_true rfl⟩) (gRecv.of hK rfl hH.ob) hH hK hS hl.1 rfl rfl (Nat.le_of_ble_eq_true rfl) dX8_behindPart_32 ⟨Nat.le_refl _, Nat.le_refl _⟩ (fun H locs hH hS => ?_)
          refine lv_bipush (v := 41) hx hb dX8_behindPart_35 (by decide) ?_
          have hg := gif hf
          refine lv_icmp_ne (tgt := 44) hx hb dX8_behindPart_37 (by decide) (fun c9 => ?_) (fun c9 => ?_)
          · have hf := hg.2 c9
            refine lv_iconst (v := 0) hx hb dX8_behindPart_44 (by decide) ?_
            exact B45 _ (ih) _ _ _ _ _ _ hH hS (lv_sub hl [0, 1, 3] rfl) hf
          · have hf := hg.1 c9
            refine lv_iconst (v := (-1)) hx hb dX8_behindPart_40 (by decide) ?_
            refine lv_goto (tgt := 45) hx hb dX8_behindPart_41 (by decide) ?_
            exact B45 _ (ih) _ _ _ _ _ _ hH hS (lv_sub hl [0, 1, 3] rfl) hf
        · have hf := hg.1 c6
          refine lv_iconst (v := 1) hx hb dX8_behindPart_24 (by decide) ?_
          refine lv_goto (tgt := 45) hx hb dX8_behindPart_25 (by decide) ?_
          exact B45 _ (ih) _ _ _ _ _ _ hH hS (lv_sub hl [0, 1, 3] rfl) hf
  have hl : lv_has ls 5 [(0, .ref w.2.2.2), (1, .int p0), (2, .int p1)] := hl
  refine lv_iconst (v := 1) hx hb dX8_behindPart_0 (by decide) ?_
  refine lv_istore_n (lv' := [(3, .int 1), (0, .ref w.2.2.2), (1, .int p0), (2, .int p1)]) hx hb dX8_behindPart_1 rfl hl (by decide) rfl (fun ls hl => ?_)
  refine lv_iload_n hx hb dX8_behindPart_2 rfl (lv_at hl 3 rfl) ?_
  refine lv_iconst (v := 1) hx hb dX8_behindPart_3 (by decide) ?_
  refine lv_iadd hx hb dX8_behindPart_4 ?_
  refine lv_topi (fun v10 ev10 => ?_)
  have hf := gl_at hf ev10
  refine lv_istore (lv' := [(4, .int v10), (3, .int 1), (0, .ref w.2.2.2), (1, .int p0), (2, .int p1)]) hx hb dX8_behindPart_5 hl (by decide) rfl (fun ls hl => ?_)
  exact B7 _ _ _ _ _ _ hH hS (lv_sub hl [2, 3, 1, 0] rfl) hf
set_option maxRecDepth 100000 in
set_option maxHeartbeats 8000000 in
theorem c8_calls (l : Launch) (w : GW) (K : GK) (g : GM) (S : GS) (p0 : Int32) (out : Int32) (hf : f8_calls S p0 = some out) : Met l yX8_calls (wA yX8_calls cX8_calls 4 (some .int)) ({ frames := 1, cells := 0, slots := 0, locals := 22 } : Room) (PRE w K g S [.ref w.2.2.2, .int p0]) (QI w K g S out) 0 0 (FR w) := by
  unfold f8_calls at hf
  refine Met.ofW (cc := cX8_calls) (maxL := 4) (ret := (some .int)) (by decide) rfl ?_
  intro p e s m args below meth c s₁ B hml hv
  obtain ⟨rfl, hH, hK⟩ := hv
  have hx := B.exec
  have hb := B.bytes
  have hr := B.returns
  have hts : ∀ q ∈ gALL, q.before _ s = true := fun q h => atoms_spec (ws := (wA yX8_calls cX8_calls 4 (some .int))) B.pre q (List.mem_cons_of_mem _ h)
  have hown : s.vm.findClass RX8 = some m.cls := findClass_of_methodNamed B.named
  have hlocks := B.notSynchronized
  have hS : va_S (FR w) s.heap s.heap [] := va_S.rf
  show W p l e ({ frames := 1, cells := 0, slots := 0, locals := 22 } : Room) s m _ below meth c s.heap [] 0 0 (MQ below (QI w K g S out) _ s 0 0 (FR w)) _
  have hl := lv_entry ([.ref w.2.2.2, .int p0]) (n := 4) (Nat.le_of_ble_eq_true rfl)
  rw [lg_entry_eq]
  generalize (lg_sl ([.ref w.2.2.2, .int p0]) ++ List.replicate (4 - (lg_sl ([.ref w.2.2.2, .int p0])).length) Slot.unset).toArray = ls at hl ⊢
  clear B
  generalize ([.ref w.2.2.2, .int p0] : List Value).toArray = args at hts ⊢
  have B46 : ∀ (k4 : Int32 → Int32 → Option (Int32)), (∀ (x2 : Int32) (x3 : Int32) (H : Heap) (locs : List Loc) (ls : Array Slot), HR w K g S H → va_S (FR w) s.heap H locs → lv_has ls 4 [(0, .ref w.2.2.2), (1, .int p0), (2, .int x2), (3, .int x3)] → k4 x2 x3 = some out → W p l e ({ frames := 1, cells := 0, slots := 0, locals := 22 } : Room) s m args below meth c H locs 0 0 (MQ below (QI w K g S out) args s 0 0 (FR w)) (F0 m 4 ls [])) → ∀ (x3 : Int32) (s0 : Int32) (s1 : Int32) (H : Heap) (locs : List Loc) (ls : Array Slot), HR w K g S H → va_S (FR w) s.heap H locs → lv_has ls 4 [(0, .ref w.2.2.2), (1, .int p0), (3, .int x3)] → f8_calls_46 k4 S p0 x3 s0 s1 = some out → W p l e ({ frames := 1, cells := 0, slots := 0, locals := 22 } : Room) s m args below meth c H locs 0 0 (MQ below (QI w K g S out) args s 0 0 (FR w)) (F0 m 46 ls [.int s1, .int s0]) := by
    intro k4 hk4 x3 s0 s1 H locs ls hH hS hl hf
    unfold f8_calls_46 at hf
    refine lv_ior hx hb dX8_calls_46 ?_
    refine lv_topi (fun v1 ev1 => ?_)
    have hf := gl_at hf ev1
    refine lv_istore_n (lv' := [(2, .int v1), (0, .ref w.2.2.2), (1, .int p0), (3, .int x3)]) hx hb dX8_calls_47 rfl hl (by decide) rfl (fun ls hl => ?_)
    obtain ⟨v2, ev2⟩ : ∃ z : Int32, z = x3 + 1 := ⟨_, rfl⟩
    have hf := gl_at hf ev2
    refine lv_iinc (v := v2) (lv' := [(3, .int v2), (2, .int v1), (0, .ref w.2.2.2), (1, .int p0)]) hx hb dX8_calls_48 hl (k := 3) rfl (by rw [ev2]; rfl) (by decide) rfl (fun ls hl => ?_)
    refine lv_goto (tgt := 4) hx hb dX8_calls_51 (by decide) ?_
    exact hk4 _ _ _ _ _ hH hS (lv_sub hl [2, 3, 1, 0] rfl) hf
  have B4 : ∀ n : Nat, ∀ (x2 : Int32) (x3 : Int32) (H : Heap) (locs : List Loc) (ls : Array Slot), HR w K g S H → va_S (FR w) s.heap H locs → lv_has ls 4 [(0, .ref w.2.2.2), (1, .int p0), (2, .int x2), (3, .int x3)] → f8_calls_4 S p0 n x2 x3 = some out → W p l e ({ frames := 1, cells := 0, slots := 0, locals := 22 } : Room) s m args below meth c H locs 0 0 (MQ below (QI w K g S out) args s 0 0 (FR w)) (F0 m 4 ls []) := by
    intro n
    induction n with
    | zero =>
      intro x2 x3 H locs ls hH hS hl hf
      cases hf
    | succ n ih =>
      intro x2 x3 H locs ls hH hS hl hf
      rw [f8_calls_4] at hf
      refine lv_iload_n hx hb dX8_calls_4 rfl (lv_at hl 3 rfl) ?_
      refine lv_aload_n hx hb dX8_calls_5 rfl (lv_at hl 0 rfl) ?_
      refine e_8_0 hx hb hts hown hK hH (hts _ wd_101) dX8_calls_6 ?_
      refine lv_bipush (v := 43) hx hb dX8_calls_9 (by decide) ?_
      refine lv_iload_n hx hb dX8_calls_11 rfl (lv_at hl 1 rfl) ?_
      refine lv_iadd hx hb dX8_calls_12 ?_
      obtain ⟨h4, hf⟩ := gd_some hf
      refine m_iald hx hb hK hH 1 (by decide) (by decide) rfl h4 dX8_calls_13 ?_
      have hg := gif hf
      refine lv_icmp_ge (tgt := 54) hx hb dX8_calls_14 (by decide) (fun c5 => ?_) (fun c5 => ?_)
      · have hf := hg.1 c5
        refine lv_iload_n hx hb dX8_calls_54 rfl (lv_at hl 2 rfl) ?_
        have ho := Option.some.inj hf
        exact W.iret (v := x2) hx hb hr (fun t ht hW => ⟨⟨x2, (), rfl, ho, hrE ht hH⟩, hS.F ht⟩) hS.2.2 dX8_calls_55
      · have hf := hg.2 c5
        refine lv_iload_n hx hb dX8_calls_17 rfl (lv_at hl 2 rfl) ?_
        refine lv_aload_n hx hb dX8_calls_18 rfl (lv_at hl 0 rfl) ?_
        refine lv_iload_n hx hb dX8_calls_19 rfl (lv_at hl 1 rfl) ?_
        refine lv_iload_n hx hb dX8_calls_20 rfl (lv_at hl 3 rfl) ?_
        obtain ⟨v6, h7, hf⟩ := gbind hf
        refine g_Vi (As := [.int p0, .int x3]) (rest := [.int x2]) ⟨hx, hb, hml, hown, hts⟩ (c8_textAt l w K g S p0 x3 v6 h7) (gcwV hts i8_textAt wd_293 rfl rfl ⟨Nat.le_of_ble_eq_true rfl, Nat.le_of_ble_eq_true rfl⟩) (gRecv.of hK rfl hH.ob) hH hK hS hl.1 rfl rfl (Nat.le_of_ble_eq_true rfl) dX8_calls_21 ⟨Nat.le_refl _, Nat.le_refl _⟩ (fun H locs hH hS => ?_)
        refine lv_bipush (v := 107) hx hb dX8_calls_24 (by decide) ?_
        have hg := gif hf
        refine lv_icmp_ne (tgt := 45) hx hb dX8_calls_26 (by decide) (fun c8 => ?_) (fun c8 => ?_)
        · have hf := hg.2 c8
          refine lv_iconst (v := 0) hx hb dX8_calls_45 (by decide) ?_
          exact B46 _ (ih) _ _ _ _ _ _ hH hS (lv_sub hl [0, 1, 3] rfl) hf
        · have hf := hg.1 c8
          refine lv_iconst (v := 1) hx hb dX8_calls_29 (by decide) ?_
          refine lv_aload_n hx hb dX8_calls_30 rfl (lv_at hl 0 rfl) ?_
          refine lv_iload_n hx hb dX8_calls_31 rfl (lv_at hl 1 rfl) ?_
          refine lv_iload_n hx hb dX8_calls_32 rfl (lv_at hl 3 rfl) ?_
          refine lv_iconst (v := 1) hx hb dX8_calls_33 (by decide) ?_
          refine lv_iadd hx hb dX8_calls_34 ?_
          obtain ⟨v9, h10, hf⟩ := gbind hf
          refine g_Vi (As := [.int p0, .int (x3 + 1)]) (rest := [.int 1, .int x2]) ⟨hx, hb, hml, hown, hts⟩ (c8_textAt l w K g S p0 (x3 + 1) v9 h10) (gcwV hts i8_textAt wd_293 rfl rfl ⟨Nat.le_of_ble_eq_true rfl, Nat.le_of_ble_eq_true rfl⟩) (gRecv.of hK rfl hH.ob) hH hK hS hl.1 rfl rfl (Nat.le_of_ble_eq_true rfl) dX8_calls_35 ⟨Nat.le_refl _, Nat.le_refl _⟩ (fun H locs hH hS => ?_)
          refine lv_bipush (v := 48) hx hb dX8_calls_38 (by decide) ?_
          refine lv_isub hx hb dX8_calls_40 ?_
          refine lv_ishl hx hb dX8_calls_41 ?_
          refine lv_goto (tgt := 46) hx hb dX8_calls_42 (by decide) ?_
          exact B46 _ (ih) _ _ _ _ _ _ hH hS (lv_sub hl [0, 1, 3] rfl) hf
  have hl : lv_has ls 4 [(0, .ref w.2.2.2), (1, .int p0)] := hl
  refine lv_iconst (v := 0) hx hb dX8_calls_0 (by decide) ?_
  refine lv_istore_n (lv' := [(2, .int 0), (0, .ref w.2.2.2), (1, .int p0)]) hx hb dX8_calls_1 rfl hl (by decide) rfl (fun ls hl => ?_)
  refine lv_iconst (v := 0) hx hb dX8_calls_2 (by decide) ?_
  refine lv_istore_n (lv' := [(3, .int 0), (2, .int 0), (0, .ref w.2.2.2), (1, .int p0)]) hx hb dX8_calls_3 rfl hl (by decide) rfl (fun ls hl => ?_)
  exact B4 _ _ _ _ _ _ hH hS (lv_sub hl [2, 3, 1, 0] rfl) hf
set_option maxRecDepth 100000 in
set_option maxHeartbeats 8000000 in
theorem c8_callers (l : Launch) (w : GW) (K : GK) (g : GM) (S : GS) (p0 : Int32) (out : Int32) (hf : f8_callers S p0 = some out) : Met l yX8_callers (wA yX8_callers cX8_callers 4 (some .int)) ({ frames := 2, cells := 0, slots := 0, locals := 45 } : Room) (PRE w K g S [.ref w.2.2.2, .int p0]) (QI w K g S out) 0 0 (FR w) := by
  unfold f8_callers at hf
  refine Met.ofW (cc := cX8_callers) (maxL := 4) (ret := (some .int)) (by decide) rfl ?_
  intro p e s m args below meth c s₁ B hml hv
  obtain ⟨rfl, hH, hK⟩ := hv
  have hx := B.exec
  have hb := B.bytes
  have hr := B.returns
  have hts : ∀ q ∈ gALL, q.before _ s = true := fun q h => atoms_spec (ws := (wA yX8_callers cX8_callers 4 (some .int))) B.pre q (List.mem_cons_of_mem _ h)
  have hown : s.vm.findClass RX8 = some m.cls := findClass_of_methodNamed B.named
  have hlocks := B.notSynchronized
  have hS : va_S (FR w) s.heap s.heap [] := va_S.rf
  show W p l e ({ frames := 2, cells := 0, slots := 0, locals := 45 } : Room) s m _ below meth c s.heap [] 0 0 (MQ below (QI w K g S out) _ s 0 0 (FR w)) _
  have hl := lv_entry ([.ref w.2.2.2, .int p0]) (n := 4) (Nat.le_of_ble_eq_true rfl)
  rw [lg_entry_eq]
  generalize (lg_sl ([.ref w.2.2.2, .int p0]) ++ List.replicate (4 - (lg_sl ([.ref w.2.2.2, .int p0])).length) Slot.unset).toArray = ls at hl ⊢
  clear B
  generalize ([.ref w.2.2.2, .int p0] : List Value).toArray = args at hts ⊢
  have B4 : ∀ n : Nat, ∀ (x2 : Int32) (x3 : Int32) (H : Heap) (locs : List Loc) (ls : Array Slot), HR w K g S H → va_S (FR w) s.heap H locs → lv_has ls 4 [(0, .ref w.2.2.2), (1, .int p0), (2, .int x2), (3, .int x3)] → f8_callers_4 S p0 n x2 x3 = some out → W p l e ({ frames := 2, cells := 0, slots := 0, locals := 45 } : Room) s m args below meth c H locs 0 0 (MQ below (QI w K g S out) args s 0 0 (FR w)) (F0 m 4 ls []) := by
    intro n
    induction n with
    | zero =>
      intro x2 x3 H locs ls hH hS hl hf
      cases hf
    | succ n ih =>
      intro x2 x3 H locs ls hH hS hl hf
      rw [f8_callers_4] at hf
      refine lv_iload_n hx hb dX8_callers_4 rfl (lv_at hl 3 rfl) ?_
      refine lv_bipush (v := 10) hx hb dX8_callers_5 (by decide) ?_
      have hg := gif hf
      refine lv_icmp_ge (tgt := 30) hx hb dX8_callers_7 (by decide) (fun c1 => ?_) (fun c1 => ?_)
      · have hf := hg.1 c1
        refine lv_iload_n hx hb dX8_callers_30 rfl (lv_at hl 2 rfl) ?_
        have ho := Option.some.inj hf
        exact W.iret (v := x2) hx hb hr (fun t ht hW => ⟨⟨x2, (), rfl, ho, hrE ht hH⟩, hS.F ht⟩) hS.2.2 dX8_callers_31
      · have hf := hg.2 c1
        refine lv_iload_n hx hb dX8_callers_10 rfl (lv_at hl 2 rfl) ?_
        refine lv_aload_n hx hb dX8_callers_11 rfl (lv_at hl 0 rfl) ?_
        refine lv_iload_n hx hb dX8_callers_12 rfl (lv_at hl 3 rfl) ?_
        obtain ⟨v2, h3, hf⟩ := gbind hf
        refine g_Vi (As := [.int x3]) (rest := [.int x2]) ⟨hx, hb, hml, hown, hts⟩ (c8_calls l w K g S x3 v2 h3) (gcwV hts i8_calls wd_326 rfl rfl ⟨Nat.le_of_ble_eq_true rfl, Nat.le_of_ble_eq_true rfl⟩) (gRecv.of hK rfl hH.ob) hH hK hS hl.1 rfl rfl (Nat.le_of_ble_eq_true rfl) dX8_callers_13 ⟨Nat.le_refl _, Nat.le_refl _⟩ (fun H locs hH hS => ?_)
        refine lv_iload_n hx hb dX8_callers_16 rfl (lv_at hl 1 rfl) ?_
        refine lv_ishr hx hb dX8_callers_17 ?_
        refine lv_iconst (v := 1) hx hb dX8_callers_18 (by decide) ?_
        refine lv_iand hx hb dX8_callers_19 ?_
        refine lv_iload_n hx hb dX8_callers_20 rfl (lv_at hl 3 rfl) ?_
        refine lv_ishl hx hb dX8_callers_21 ?_
        refine lv_ior hx hb dX8_callers_22 ?_
        refine lv_topi (fun v4 ev4 => ?_)
        have hf := gl_at hf ev4
        refine lv_istore_n (lv' := [(2, .int v4), (0, .ref w.2.2.2), (1, .int p0), (3, .int x3)]) hx hb dX8_callers_23 rfl hl (by decide) rfl (fun ls hl => ?_)
        obtain ⟨v5, ev5⟩ : ∃ z : Int32, z = x3 + 1 := ⟨_, rfl⟩
        have hf := gl_at hf ev5
        refine lv_iinc (v := v5) (lv' := [(3, .int v5), (2, .int v4), (0, .ref w.2.2.2), (1, .int p0)]) hx hb dX8_callers_24 hl (k := 3) rfl (by rw [ev5]; rfl) (by decide) rfl (fun ls hl => ?_)
        refine lv_goto (tgt := 4) hx hb dX8_callers_27 (by decide) ?_
        exact ih _ _ _ _ _ hH hS (lv_sub hl [2, 3, 1, 0] rfl) hf
  have hl : lv_has ls 4 [(0, .ref w.2.2.2), (1, .int p0)] := hl
  refine lv_iconst (v := 0) hx hb dX8_callers_0 (by decide) ?_
  refine lv_istore_n (lv' := [(2, .int 0), (0, .ref w.2.2.2), (1, .int p0)]) hx hb dX8_callers_1 rfl hl (by decide) rfl (fun ls hl => ?_)
  refine lv_iconst (v := 0) hx hb dX8_callers_2 (by decide) ?_
  refine lv_istore_n (lv' := [(3, .int 0), (2, .int 0), (0, .ref w.2.2.2), (1, .int p0)]) hx hb dX8_callers_3 rfl hl (by decide) rfl (fun ls hl => ?_)
  exact B4 _ _ _ _ _ _ hH hS (lv_sub hl [2, 3, 1, 0] rfl) hf
set_option maxRecDepth 100000 in
set_option maxHeartbeats 8000000 in
theorem c8_blank (l : Launch) (w : GW) (K : GK) (g : GM) (S : GS) (p0 : Int32) (out : GS × Int32) (hf : f8_blank S p0 = some out) : Met l yX8_blank (wA yX8_blank cX8_blank 2 (some .int)) ({ frames := 3, cells := 0, slots := 0, locals := 68 } : Room) (PRE w K g S [.ref w.2.2.2, .int p0]) (QI w K g out.1 out.2) 0 0 (FR w) := by
  unfold f8_blank at hf
  refine Met.ofW (cc := cX8_blank) (maxL := 2) (ret := (some .int)) (by decide) rfl ?_
  intro p e s m args below meth c s₁ B hml hv
  obtain ⟨rfl, hH, hK⟩ := hv
  have hx := B.exec
  have hb := B.bytes
  have hr := B.returns
  have hts : ∀ q ∈ gALL, q.before _ s = true := fun q h => atoms_spec (ws := (wA yX8_blank cX8_blank 2 (some .int))) B.pre q (List.mem_cons_of_mem _ h)
  have hown : s.vm.findClass RX8 = some m.cls := findClass_of_methodNamed B.named
  have hlocks := B.notSynchronized
  have hS : va_S (FR w) s.heap s.heap [] := va_S.rf
  show W p l e ({ frames := 3, cells := 0, slots := 0, locals := 68 } : Room) s m _ below meth c s.heap [] 0 0 (MQ below (QI w K g out.1 out.2) _ s 0 0 (FR w)) _
  have hl := lv_entry ([.ref w.2.2.2, .int p0]) (n := 2) (Nat.le_of_ble_eq_true rfl)
  rw [lg_entry_eq]
  generalize (lg_sl ([.ref w.2.2.2, .int p0]) ++ List.replicate (2 - (lg_sl ([.ref w.2.2.2, .int p0])).length) Slot.unset).toArray = ls at hl ⊢
  clear B
  generalize ([.ref w.2.2.2, .int p0] : List Value).toArray = args at hts ⊢
  have hl : lv_has ls 2 [(0, .ref w.2.2.2), (1, .int p0)] := hl
  refine lv_iload_n hx hb dX8_blank_0 rfl (lv_at hl 1 rfl) ?_
  obtain ⟨v1, h2, hf⟩ := gbind hf
  refine g_Si (As := [.int p0]) (rest := []) ⟨hx, hb, hml, hown, hts⟩ (c8_isCard l w K g S p0 v1 h2) (gcwS hts i8_isCard wd_264 rfl rfl ⟨Nat.le_of_ble_eq_true rfl, Nat.le_of_ble_eq_true rfl⟩) hH hK hS hl.1 rfl rfl (Nat.le_of_ble_eq_true rfl) dX8_blank_1 ⟨Nat.le_refl _, Nat.le_refl _⟩ (fun H locs hH hS => ?_)
  have hg := gif hf
  refine lv_if_ne (tgt := 9) hx hb dX8_blank_4 (by decide) (fun c3 => ?_) (fun c3 => ?_)
  · have hf := hg.2 c3
    refine lv_aload_n hx hb dX8_blank_9 rfl (lv_at hl 0 rfl) ?_
    refine lv_iload_n hx hb dX8_blank_10 rfl (lv_at hl 1 rfl) ?_
    obtain ⟨v4, h5, hf⟩ := gbind hf
    refine g_Vi (As := [.int p0]) (rest := []) ⟨hx, hb, hml, hown, hts⟩ (c8_hasText l w K g S p0 v4 h5) (gcwV hts i8_hasText wd_318 rfl rfl ⟨Nat.le_of_ble_eq_true rfl, Nat.le_of_ble_eq_true rfl⟩) (gRecv.of hK rfl hH.ob) hH hK hS hl.1 rfl rfl (Nat.le_of_ble_eq_true rfl) dX8_blank_11 ⟨Nat.le_refl _, Nat.le_refl _⟩ (fun H locs hH hS => ?_)
    have hg := gif hf
    refine lv_if_ne (tgt := 20) hx hb dX8_blank_14 (by decide) (fun c6 => ?_) (fun c6 => ?_)
    · have hf := hg.2 c6
      refine lv_aload_n hx hb dX8_blank_20 rfl (lv_at hl 0 rfl) ?_
      obtain ⟨g7, h8, hf⟩ := gbind hf
      refine g_Vv (As := []) (rest := []) ⟨hx, hb, hml, hown, hts⟩ (c8_record l w K g S g7 h8) (gcwV hts i8_record wd_161 rfl rfl ⟨Nat.le_of_ble_eq_true rfl, Nat.le_of_ble_eq_true rfl⟩) (gRecv.of hK rfl hH.ob) hH hK hS hl.1 rfl rfl (Nat.le_of_ble_eq_true rfl) dX8_blank_21 ⟨Nat.le_refl _, Nat.le_refl _⟩ (fun H locs hH hS => ?_)
      refine lv_aload_n hx hb dX8_blank_24 rfl (lv_at hl 0 rfl) ?_
      refine e_8_0 hx hb hts hown hK hH (hts _ wd_101) dX8_blank_25 ?_
      refine lv_bipush (v := 43) hx hb dX8_blank_28 (by decide) ?_
      refine lv_iload_n hx hb dX8_blank_30 rfl (lv_at hl 1 rfl) ?_
      refine lv_iadd hx hb dX8_blank_31 ?_
      refine lv_iconst (v := 0) hx hb dX8_blank_32 (by decide) ?_
      obtain ⟨h10, hf⟩ := gd_some hf
      refine m_iast hx hb hK hH hS 1 (by decide) (by decide) rfl h10 dX8_blank_33 (fun H locs hH hS => ?_)
      obtain ⟨S11, eS11⟩ : ∃ z : GS, z = ssI g7 1 (43 + p0).toNatClampNeg 0 := ⟨_, rfl⟩
      have hf := gl_at hf eS11
      replace hH : HR w K g S11 H := by rw [eS11]; exact hH
      refine lv_aload_n hx hb dX8_blank_34 rfl (lv_at hl 0 rfl) ?_
      refine lv_iload_n hx hb dX8_blank_35 rfl (lv_at hl 1 rfl) ?_
      obtain ⟨v12, h13, hf⟩ := gbind hf
      refine g_Vi (As := [.int p0]) (rest := []) ⟨hx, hb, hml, hown, hts⟩ (c8_callers l w K g S11 p0 v12 h13) (gcwV hts i8_callers wd_322 rfl rfl ⟨Nat.le_of_ble_eq_true rfl, Nat.le_of_ble_eq_true rfl⟩) (gRecv.of hK rfl hH.ob) hH hK hS hl.1 rfl rfl (Nat.le_of_ble_eq_true rfl) dX8_blank_36 ⟨Nat.le_refl _, Nat.le_refl _⟩ (fun H locs hH hS => ?_)
      have ho := Option.some.inj hf
      exact W.iret (v := v12) hx hb hr (fun t ht hW => ⟨⟨v12, (), rfl, congrArg Prod.snd ho, hrPm ht ho hH⟩, hS.F ht⟩) hS.2.2 dX8_blank_39
    · have hf := hg.1 c6
      refine lv_bipush (v := (-5)) hx hb dX8_blank_17 (by decide) ?_
      have ho := Option.some.inj hf
      exact W.iret (v := (-5)) hx hb hr (fun t ht hW => ⟨⟨(-5), (), rfl, congrArg Prod.snd ho, hrPm ht ho hH⟩, hS.F ht⟩) hS.2.2 dX8_blank_19
  · have hf := hg.1 c3
    refine lv_iconst (v := (-1)) hx hb dX8_blank_7 (by decide) ?_
    have ho := Option.some.inj hf
    exact W.iret (v := (-1)) hx hb hr (fun t ht hW => ⟨⟨(-1), (), rfl, congrArg Prod.snd ho, hrPm ht ho hH⟩, hS.F ht⟩) hS.2.2 dX8_blank_8
set_option maxRecDepth 100000 in
set_option maxHeartbeats 8000000 in
theorem c8_byCloth (l : Launch) (w : GW) (K : GK) (g : GM) (S : GS) (p0 : Int32) (out : Int32) (hf : f8_byCloth S p0 = some out) : Met l yX8_byCloth (wA yX8_byCloth cX8_byCloth 3 (some .int)) ({ frames := 2, cells := 0, slots := 0, locals := 47 } : Room) (PRE w K g S [.ref w.2.2.2, .int p0]) (QI w K g S out) 0 0 (FR w) := by
  unfold f8_byCloth at hf
  refine Met.ofW (cc := cX8_byCloth) (maxL := 3) (ret := (some .int)) (by decide) rfl ?_
  intro p e s m args below meth c s₁ B hml hv
  obtain ⟨rfl, hH, hK⟩ := hv
  have hx := B.exec
  have hb := B.bytes
  have hr := B.returns
  have hts : ∀ q ∈ gALL, q.before _ s = true := fun q h => atoms_spec (ws := (wA yX8_byCloth cX8_byCloth 3 (some .int))) B.pre q (List.mem_cons_of_mem _ h)
  have hown : s.vm.findClass RX8 = some m.cls := findClass_of_methodNamed B.named
  have hlocks := B.notSynchronized
  have hS : va_S (FR w) s.heap s.heap [] := va_S.rf
  show W p l e ({ frames := 2, cells := 0, slots := 0, locals := 47 } : Room) s m _ below meth c s.heap [] 0 0 (MQ below (QI w K g S out) _ s 0 0 (FR w)) _
  have hl := lv_entry ([.ref w.2.2.2, .int p0]) (n := 3) (Nat.le_of_ble_eq_true rfl)
  rw [lg_entry_eq]
  generalize (lg_sl ([.ref w.2.2.2, .int p0]) ++ List.replicate (3 - (lg_sl ([.ref w.2.2.2, .int p0])).length) Slot.unset).toArray = ls at hl ⊢
  clear B
  generalize ([.ref w.2.2.2, .int p0] : List Value).toArray = args at hts ⊢
  have B27 : ∀ (k2 : Int32 → Option (Int32)), (∀ (x2 : Int32) (H : Heap) (locs : List Loc) (ls : Array Slot), HR w K g S H → va_S (FR w) s.heap H locs → lv_has ls 3 [(0, .ref w.2.2.2), (1, .int p0), (2, .int x2)] → k2 x2 = some out → W p l e ({ frames := 2, cells := 0, slots := 0, locals := 47 } : Room) s m args below meth c H locs 0 0 (MQ below (QI w K g S out) args s 0 0 (FR w)) (F0 m 2 ls [])) → ∀ (x2 : Int32) (H : Heap) (locs : List Loc) (ls : Array Slot), HR w K g S H → va_S (FR w) s.heap H locs → lv_has ls 3 [(0, .ref w.2.2.2), (1, .int p0), (2, .int x2)] → f8_byCloth_27 k2 S p0 x2 = some out → W p l e ({ frames := 2, cells := 0, slots := 0, locals := 47 } : Room) s m args below meth c H locs 0 0 (MQ below (QI w K g S out) args s 0 0 (FR w)) (F0 m 27 ls []) := by
    intro k2 hk2 x2 H locs ls hH hS hl hf
    unfold f8_byCloth_27 at hf
    obtain ⟨v1, ev1⟩ : ∃ z : Int32, z = x2 + 1 := ⟨_, rfl⟩
    have hf := gl_at hf ev1
    refine lv_iinc (v := v1) (lv' := [(2, .int v1), (0, .ref w.2.2.2), (1, .int p0)]) hx hb dX8_byCloth_27 hl (k := 2) rfl (by rw [ev1]; rfl) (by decide) rfl (fun ls hl => ?_)
    refine lv_goto (tgt := 2) hx hb dX8_byCloth_30 (by decide) ?_
    exact hk2 _ _ _ _ hH hS (lv_sub hl [1, 2, 0] rfl) hf
  have B2 : ∀ n : Nat, ∀ (x2 : Int32) (H : Heap) (locs : List Loc) (ls : Array Slot), HR w K g S H → va_S (FR w) s.heap H locs → lv_has ls 3 [(0, .ref w.2.2.2), (1, .int p0), (2, .int x2)] → f8_byCloth_2 S p0 n x2 = some out → W p l e ({ frames := 2, cells := 0, slots := 0, locals := 47 } : Room) s m args below meth c H locs 0 0 (MQ below (QI w K g S out) args s 0 0 (FR w)) (F0 m 2 ls []) := by
    intro n
    induction n with
    | zero =>
      intro x2 H locs ls hH hS hl hf
      cases hf
    | succ n ih =>
      intro x2 H locs ls hH hS hl hf
      rw [f8_byCloth_2] at hf
      refine lv_iload_n hx hb dX8_byCloth_2 rfl (lv_at hl 2 rfl) ?_
      refine lv_bipush (v := 6) hx hb dX8_byCloth_3 (by decide) ?_
      have hg := gif hf
      refine lv_icmp_ge (tgt := 33) hx hb dX8_byCloth_5 (by decide) (fun c2 => ?_) (fun c2 => ?_)
      · have hf := hg.1 c2
        refine lv_iconst (v := (-1)) hx hb dX8_byCloth_33 (by decide) ?_
        have ho := Option.some.inj hf
        exact W.iret (v := (-1)) hx hb hr (fun t ht hW => ⟨⟨(-1), (), rfl, ho, hrE ht hH⟩, hS.F ht⟩) hS.2.2 dX8_byCloth_34
      · have hf := hg.2 c2
        refine lv_aload_n hx hb dX8_byCloth_8 rfl (lv_at hl 0 rfl) ?_
        refine lv_iload_n hx hb dX8_byCloth_9 rfl (lv_at hl 2 rfl) ?_
        obtain ⟨v3, h4, hf⟩ := gbind hf
        refine g_Vi (As := [.int x2]) (rest := []) ⟨hx, hb, hml, hown, hts⟩ (c8_aheadByCloth l w K g S x2 v3 h4) (gcwV hts i8_aheadByCloth wd_670 rfl rfl ⟨Nat.le_of_ble_eq_true rfl, Nat.le_of_ble_eq_true rfl⟩) (gRecv.of hK rfl hH.ob) hH hK hS hl.1 rfl rfl (Nat.le_of_ble_eq_true rfl) dX8_byCloth_10 ⟨Nat.le_refl _, Nat.le_refl _⟩ (fun H locs hH hS => ?_)
        refine lv_iload_n hx hb dX8_byCloth_13 rfl (lv_at hl 1 rfl) ?_
        have hg := gif hf
        refine lv_icmp_ne (tgt := 27) hx hb dX8_byCloth_14 (by decide) (fun c5 => ?_) (fun c5 => ?_)
        · have hf := hg.2 c5
          exact B27 _ (ih) _ _ _ _ hH hS (lv_sub hl [0, 1, 2] rfl) hf
        · have hf := hg.1 c5
          refine lv_aload_n hx hb dX8_byCloth_17 rfl (lv_at hl 0 rfl) ?_
          refine lv_iload_n hx hb dX8_byCloth_18 rfl (lv_at hl 2 rfl) ?_
          obtain ⟨v6, h7, hf⟩ := gbind hf
          refine g_Vi (As := [.int x2]) (rest := []) ⟨hx, hb, hml, hown, hts⟩ (c8_inCloth l w K g S x2 v6 h7) (gcwV hts i8_inCloth wd_624 rfl rfl ⟨Nat.le_of_ble_eq_true rfl, Nat.le_of_ble_eq_true rfl⟩) (gRecv.of hK rfl hH.ob) hH hK hS hl.1 rfl rfl (Nat.le_of_ble_eq_true rfl) dX8_byCloth_19 ⟨Nat.le_refl _, Nat.le_refl _⟩ (fun H locs hH hS => ?_)
          have hg := gif hf
          refine lv_if_le (tgt := 27) hx hb dX8_byCloth_22 (by decide) (fun c8 => ?_) (fun c8 => ?_)
          · have hf := hg.1 c8
            exact B27 _ (ih) _ _ _ _ hH hS (lv_sub hl [0, 1, 2] rfl) hf
          · have hf := hg.2 c8
            refine lv_iload_n hx hb dX8_byCloth_25 rfl (lv_at hl 2 rfl) ?_
            have ho := Option.some.inj hf
            exact W.iret (v := x2) hx hb hr (fun t ht hW => ⟨⟨x2, (), rfl, ho, hrE ht hH⟩, hS.F ht⟩) hS.2.2 dX8_byCloth_26
  have hl : lv_has ls 3 [(0, .ref w.2.2.2), (1, .int p0)] := hl
  refine lv_iconst (v := 0) hx hb dX8_byCloth_0 (by decide) ?_
  refine lv_istore_n (lv' := [(2, .int 0), (0, .ref w.2.2.2), (1, .int p0)]) hx hb dX8_byCloth_1 rfl hl (by decide) rfl (fun ls hl => ?_)
  exact B2 _ _ _ _ _ hH hS (lv_sub hl [1, 2, 0] rfl) hf
set_option maxRecDepth 100000 in
set_option maxHeartbeats 8000000 in
theorem c8_byEnd (l : Launch) (w : GW) (K : GK) (g : GM) (S : GS) (p0 : Int32) (out : Int32) (hf : f8_byEnd S p0 = some out) : Met l yX8_byEnd (wA yX8_byEnd cX8_byEnd 3 (some .int)) ({ frames := 1, cells := 0, slots := 0, locals := 24 } : Room) (PRE w K g S [.ref w.2.2.2, .int p0]) (QI w K g S out) 0 0 (FR w) := by
  unfold f8_byEnd at hf
  refine Met.ofW (cc := cX8_byEnd) (maxL := 3) (ret := (some .int)) (by decide) rfl ?_
  intro p e s m args below meth c s₁ B hml hv
  obtain ⟨rfl, hH, hK⟩ := hv
  have hx := B.exec
  have hb := B.bytes
  have hr := B.returns
  have hts : ∀ q ∈ gALL, q.before _ s = true := fun q h => atoms_spec (ws := (wA yX8_byEnd cX8_byEnd 3 (some .int))) B.pre q (List.mem_cons_of_mem _ h)
  have hown : s.vm.findClass RX8 = some m.cls := findClass_of_methodNamed B.named
  have hlocks := B.notSynchronized
  have hS : va_S (FR w) s.heap s.heap [] := va_S.rf
  show W p l e ({ frames := 1, cells := 0, slots := 0, locals := 24 } : Room) s m _ below meth c s.heap [] 0 0 (MQ below (QI w K g S out) _ s 0 0 (FR w)) _
  have hl := lv_entry ([.ref w.2.2.2, .int p0]) (n := 3) (Nat.le_of_ble_eq_true rfl)
  rw [lg_entry_eq]
  generalize (lg_sl ([.ref w.2.2.2, .int p0]) ++ List.replicate (3 - (lg_sl ([.ref w.2.2.2, .int p0])).length) Slot.unset).toArray = ls at hl ⊢
  clear B
  generalize ([.ref w.2.2.2, .int p0] : List Value).toArray = args at hts ⊢
  have B2 : ∀ n : Nat, ∀ (x2 : Int32) (H : Heap) (locs : List Loc) (ls : Array Slot), HR w K g S H → va_S (FR w) s.heap H locs → lv_has ls 3 [(0, .ref w.2.2.2), (1, .int p0), (2, .int x2)] → f8_byEnd_2 S p0 n x2 = some out → W p l e ({ frames := 1, cells := 0, slots := 0, locals := 24 } : Room) s m args below meth c H locs 0 0 (MQ below (QI w K g S out) args s 0 0 (FR w)) (F0 m 2 ls []) := by
    intro n
    induction n with
    | zero =>
      intro x2 H locs ls hH hS hl hf
      cases hf
    | succ n ih =>
      intro x2 H locs ls hH hS hl hf
      rw [f8_byEnd_2] at hf
      refine lv_iload_n hx hb dX8_byEnd_2 rfl (lv_at hl 2 rfl) ?_
      refine lv_bipush (v := 6) hx hb dX8_byEnd_3 (by decide) ?_
      have hg := gif hf
      refine lv_icmp_ge (tgt := 25) hx hb dX8_byEnd_5 (by decide) (fun c1 => ?_) (fun c1 => ?_)
      · have hf := hg.1 c1
        refine lv_iconst (v := (-1)) hx hb dX8_byEnd_25 (by decide) ?_
        have ho := Option.some.inj hf
        exact W.iret (v := (-1)) hx hb hr (fun t ht hW => ⟨⟨(-1), (), rfl, ho, hrE ht hH⟩, hS.F ht⟩) hS.2.2 dX8_byEnd_26
      · have hf := hg.2 c1
        refine lv_aload_n hx hb dX8_byEnd_8 rfl (lv_at hl 0 rfl) ?_
        refine lv_iload_n hx hb dX8_byEnd_9 rfl (lv_at hl 2 rfl) ?_
        obtain ⟨v2, h3, hf⟩ := gbind hf
        refine g_Vi (As := [.int x2]) (rest := []) ⟨hx, hb, hml, hown, hts⟩ (c8_aheadByEnd l w K g S x2 v2 h3) (gcwV hts i8_aheadByEnd wd_653 rfl rfl ⟨Nat.le_of_ble_eq_true rfl, Nat.le_of_ble_eq_true rfl⟩) (gRecv.of hK rfl hH.ob) hH hK hS hl.1 rfl rfl (Nat.le_of_ble_eq_true rfl) dX8_byEnd_10 ⟨Nat.le_refl _, Nat.le_refl _⟩ (fun H locs hH hS => ?_)
        refine lv_iload_n hx hb dX8_byEnd_13 rfl (lv_at hl 1 rfl) ?_
        have hg := gif hf
        refine lv_icmp_ne (tgt := 19) hx hb dX8_byEnd_14 (by decide) (fun c4 => ?_) (fun c4 => ?_)
        · have hf := hg.2 c4
          obtain ⟨v5, ev5⟩ : ∃ z : Int32, z = x2 + 1 := ⟨_, rfl⟩
          have hf := gl_at hf ev5
          refine lv_iinc (v := v5) (lv' := [(2, .int v5), (0, .ref w.2.2.2), (1, .int p0)]) hx hb dX8_byEnd_19 hl (k := 2) rfl (by rw [ev5]; rfl) (by decide) rfl (fun ls hl => ?_)
          refine lv_goto (tgt := 2) hx hb dX8_byEnd_22 (by decide) ?_
          exact ih _ _ _ _ hH hS (lv_sub hl [1, 2, 0] rfl) hf
        · have hf := hg.1 c4
          refine lv_iload_n hx hb dX8_byEnd_17 rfl (lv_at hl 2 rfl) ?_
          have ho := Option.some.inj hf
          exact W.iret (v := x2) hx hb hr (fun t ht hW => ⟨⟨x2, (), rfl, ho, hrE ht hH⟩, hS.F ht⟩) hS.2.2 dX8_byEnd_18
  have hl : lv_has ls 3 [(0, .ref w.2.2.2), (1, .int p0)] := hl
  refine lv_iconst (v := 0) hx hb dX8_byEnd_0 (by decide) ?_
  refine lv_istore_n (lv' := [(2, .int 0), (0, .ref w.2.2.2), (1, .int p0)]) hx hb dX8_byEnd_1 rfl hl (by decide) rfl (fun ls hl => ?_)
  exact B2 _ _ _ _ _ hH hS (lv_sub hl [1, 2, 0] rfl) hf
set_option maxRecDepth 100000 in
set_option maxHeartbeats 8000000 in
theorem c8_code (l : Launch) (w : GW) (K : GK) (g : GM) (S : GS) (out : Int32) (hf : f8_code S = some out) : Met l yX8_code (wA yX8_code cX8_code 1 (some .int)) ({ frames := 0, cells := 0, slots := 0, locals := 0 } : Room) (PRE w K g S [.ref w.2.2.2]) (QI w K g S out) 0 0 (FR w) := by
  unfold f8_code at hf
  refine Met.ofW (cc := cX8_code) (maxL := 1) (ret := (some .int)) (by decide) rfl ?_
  intro p e s m args below meth c s₁ B hml hv
  obtain ⟨rfl, hH, hK⟩ := hv
  have hx := B.exec
  have hb := B.bytes
  have hr := B.returns
  have hts : ∀ q ∈ gALL, q.before _ s = true := fun q h => atoms_spec (ws := (wA yX8_code cX8_code 1 (some .int))) B.pre q (List.mem_cons_of_mem _ h)
  have hown : s.vm.findClass RX8 = some m.cls := findClass_of_methodNamed B.named
  have hlocks := B.notSynchronized
  have hS : va_S (FR w) s.heap s.heap [] := va_S.rf
  show W p l e ({ frames := 0, cells := 0, slots := 0, locals := 0 } : Room) s m _ below meth c s.heap [] 0 0 (MQ below (QI w K g S out) _ s 0 0 (FR w)) _
  have hl := lv_entry ([.ref w.2.2.2]) (n := 1) (Nat.le_of_ble_eq_true rfl)
  rw [lg_entry_eq]
  generalize (lg_sl ([.ref w.2.2.2]) ++ List.replicate (1 - (lg_sl ([.ref w.2.2.2])).length) Slot.unset).toArray = ls at hl ⊢
  clear B
  generalize ([.ref w.2.2.2] : List Value).toArray = args at hts ⊢
  have hl : lv_has ls 1 [(0, .ref w.2.2.2)] := hl
  refine lv_aload_n hx hb dX8_code_0 rfl (lv_at hl 0 rfl) ?_
  refine e_8_8 hx hb hts hown hK hH (hts _ wd_271) dX8_code_1 ?_
  refine lv_aload_n hx hb dX8_code_4 rfl (lv_at hl 0 rfl) ?_
  refine e_8_7 hx hb hts hown hK hH (hts _ wd_263) dX8_code_5 ?_
  have hg := gif hf
  refine lv_icmp_ge (tgt := 23) hx hb dX8_code_8 (by decide) (fun c1 => ?_) (fun c1 => ?_)
  · have hf := hg.1 c1
    refine lv_iconst (v := 0) hx hb dX8_code_23 (by decide) ?_
    have ho := Option.some.inj hf
    exact W.iret (v := 0) hx hb hr (fun t ht hW => ⟨⟨0, (), rfl, ho, hrE ht hH⟩, hS.F ht⟩) hS.2.2 dX8_code_24
  · have hf := hg.2 c1
    refine lv_aload_n hx hb dX8_code_11 rfl (lv_at hl 0 rfl) ?_
    refine e_8_6 hx hb hts hown hK hH (hts _ wd_106) dX8_code_12 ?_
    refine lv_aload_n hx hb dX8_code_15 rfl (lv_at hl 0 rfl) ?_
    refine e_8_8 hx hb hts hown hK hH (hts _ wd_271) dX8_code_16 ?_
    obtain ⟨h3, hf⟩ := gd_some hf
    refine m_iald hx hb hK hH 6 (by decide) (by decide) rfl h3 dX8_code_19 ?_
    refine lv_goto (tgt := 24) hx hb dX8_code_20 (by decide) ?_
    have ho := Option.some.inj hf
    exact W.iret (v := (S 6 (S 0 8).toNatClampNeg)) hx hb hr (fun t ht hW => ⟨⟨(S 6 (S 0 8).toNatClampNeg), (), rfl, ho, hrE ht hH⟩, hS.F ht⟩) hS.2.2 dX8_code_24
set_option maxRecDepth 100000 in
set_option maxHeartbeats 8000000 in
theorem c8_takesDigit (l : Launch) (w : GW) (K : GK) (g : GM) (S : GS) (p0 : Int32) (p1 : Int32) (out : GS × Int32) (hf : f8_takesDigit S p0 p1 = some out) : Met l yX8_takesDigit (wA yX8_takesDigit cX8_takesDigit 4 (some .boolean)) ({ frames := 1, cells := 0, slots := 0, locals := 22 } : Room) (PRE w K g S [.ref w.2.2.2, .int p0, .int p1]) (QI w K g out.1 out.2) 0 0 (FR w) := by
  unfold f8_takesDigit at hf
  refine Met.ofW (cc := cX8_takesDigit) (maxL := 4) (ret := (some .boolean)) (by decide) rfl ?_
  intro p e s m args below meth c s₁ B hml hv
  obtain ⟨rfl, hH, hK⟩ := hv
  have hx := B.exec
  have hb := B.bytes
  have hr := B.returns
  have hts : ∀ q ∈ gALL, q.before _ s = true := fun q h => atoms_spec (ws := (wA yX8_takesDigit cX8_takesDigit 4 (some .boolean))) B.pre q (List.mem_cons_of_mem _ h)
  have hown : s.vm.findClass RX8 = some m.cls := findClass_of_methodNamed B.named
  have hlocks := B.notSynchronized
  have hS : va_S (FR w) s.heap s.heap [] := va_S.rf
  show W p l e ({ frames := 1, cells := 0, slots := 0, locals := 22 } : Room) s m _ below meth c s.heap [] 0 0 (MQ below (QI w K g out.1 out.2) _ s 0 0 (FR w)) _
  have hl := lv_entry ([.ref w.2.2.2, .int p0, .int p1]) (n := 4) (Nat.le_of_ble_eq_true rfl)
  rw [lg_entry_eq]
  generalize (lg_sl ([.ref w.2.2.2, .int p0, .int p1]) ++ List.replicate (4 - (lg_sl ([.ref w.2.2.2, .int p0, .int p1])).length) Slot.unset).toArray = ls at hl ⊢
  clear B
  generalize ([.ref w.2.2.2, .int p0, .int p1] : List Value).toArray = args at hts ⊢
  have hl : lv_has ls 4 [(0, .ref w.2.2.2), (1, .int p0), (2, .int p1)] := hl
  refine lv_aload_n hx hb dX8_takesDigit_0 rfl (lv_at hl 0 rfl) ?_
  obtain ⟨v1, h2, hf⟩ := gbind hf
  refine g_Vi (As := []) (rest := []) ⟨hx, hb, hml, hown, hts⟩ (c8_code l w K g S v1 h2) (gcwV hts i8_code wd_273 rfl rfl ⟨Nat.le_of_ble_eq_true rfl, Nat.le_of_ble_eq_true rfl⟩) (gRecv.of hK rfl hH.ob) hH hK hS hl.1 rfl rfl (Nat.le_of_ble_eq_true rfl) dX8_takesDigit_1 ⟨Nat.le_refl _, Nat.le_refl _⟩ (fun H locs hH hS => ?_)
  refine lv_bipush (v := 48) hx hb dX8_takesDigit_4 (by decide) ?_
  refine lv_isub hx hb dX8_takesDigit_6 ?_
  refine lv_iload_n hx hb dX8_takesDigit_7 rfl (lv_at hl 1 rfl) ?_
  refine lv_iload_n hx hb dX8_takesDigit_8 rfl (lv_at hl 2 rfl) ?_
  obtain ⟨v3, h4, hf⟩ := gbind hf
  refine g_Si (As := [.int (v1 - 48), .int p0, .int p1]) (rest := []) ⟨hx, hb, hml, hown, hts⟩ (c8_within l w K g S (v1 - 48) p0 p1 v3 h4) (gcwS hts i8_within wd_155 rfl rfl ⟨Nat.le_of_ble_eq_true rfl, Nat.le_of_ble_eq_true rfl⟩) hH hK hS hl.1 rfl rfl (Nat.le_of_ble_eq_true rfl) dX8_takesDigit_9 ⟨Nat.le_refl _, Nat.le_refl _⟩ (fun H locs hH hS => ?_)
  refine lv_istore_n (lv' := [(3, .int v3), (0, .ref w.2.2.2), (1, .int p0), (2, .int p1)]) hx hb dX8_takesDigit_12 rfl hl (by decide) rfl (fun ls hl => ?_)
  refine lv_aload_n hx hb dX8_takesDigit_13 rfl (lv_at hl 1 rfl) ?_
  refine lv_dup hx hb dX8_takesDigit_14 rfl ?_
  refine e_8_8 hx hb hts hown hK hH (hts _ wd_271) dX8_takesDigit_15 ?_
  refine lv_iload_n hx hb dX8_takesDigit_18 rfl (lv_at hl 0 rfl) ?_
  have hg := gif hf
  refine lv_if_eq (tgt := 26) hx hb dX8_takesDigit_19 (by decide) (fun c5 => ?_) (fun c5 => ?_)
  · have hf := hg.1 c5
    refine lv_iconst (v := 0) hx hb dX8_takesDigit_26 (by decide) ?_
    refine lv_iadd hx hb dX8_takesDigit_27 ?_
    refine p_8_8 hx hb hts hown hK hH hS (hts _ wd_271) dX8_takesDigit_28 (fun H locs hH hS => ?_)
    obtain ⟨S6, eS6⟩ : ∃ z : GS, z = ssI S 0 8 ((S 0 8) + 0) := ⟨_, rfl⟩
    have hf := gl_at hf eS6
    replace hH : HR w K g S6 H := by rw [eS6]; exact hH
    refine lv_iload_n hx hb dX8_takesDigit_31 rfl (lv_at hl 0 rfl) ?_
    obtain ⟨h7, hf⟩ := gd_some hf
    have ho := Option.some.inj hf
    exact W.zret (v := v3) (ty := .boolean) hx hb hr (gbl_n h7) (fun t ht hW => ⟨⟨v3, (), rfl, congrArg Prod.snd ho, hrPm ht ho hH⟩, hS.F ht⟩) hS.2.2 dX8_takesDigit_32
  · have hf := hg.2 c5
    refine lv_iconst (v := 1) hx hb dX8_takesDigit_22 (by decide) ?_
    refine lv_goto (tgt := 27) hx hb dX8_takesDigit_23 (by decide) ?_
    refine lv_iadd hx hb dX8_takesDigit_27 ?_
    refine p_8_8 hx hb hts hown hK hH hS (hts _ wd_271) dX8_takesDigit_28 (fun H locs hH hS => ?_)
    obtain ⟨S8, eS8⟩ : ∃ z : GS, z = ssI S 0 8 ((S 0 8) + 1) := ⟨_, rfl⟩
    have hf := gl_at hf eS8
    replace hH : HR w K g S8 H := by rw [eS8]; exact hH
    refine lv_iload_n hx hb dX8_takesDigit_31 rfl (lv_at hl 0 rfl) ?_
    obtain ⟨h9, hf⟩ := gd_some hf
    have ho := Option.some.inj hf
    exact W.zret (v := v3) (ty := .boolean) hx hb hr (gbl_n h9) (fun t ht hW => ⟨⟨v3, (), rfl, congrArg Prod.snd ho, hrPm ht ho hH⟩, hS.F ht⟩) hS.2.2 dX8_takesDigit_32
