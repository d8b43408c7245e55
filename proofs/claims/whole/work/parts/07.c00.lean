/-! contracts, by program -/
set_option maxRecDepth 100000 in
set_option maxHeartbeats 8000000 in
theorem c0_spotOf (l : Launch) (w : GW) (K : GK) (g : GM) (S : GS) (a : Nat) (p0 : Int32) (out : Int32) (hf : f0_spotOf K g a p0 = some out) (hk0 : gkd K a = 1) : Met l yX0_spotOf (wA yX0_spotOf cX0_spotOf 2 (some .int)) ({ frames := 0, cells := 0, slots := 0, locals := 0 } : Room) (PRE w K g S [.ref a, .int p0]) (QI w K g S out) 0 0 (FR w) := by
  unfold f0_spotOf at hf
  refine Met.ofW (cc := cX0_spotOf) (maxL := 2) (ret := (some .int)) (by decide) rfl ?_
  intro p e s m args below meth c s₁ B hml hv
  obtain ⟨rfl, hH, hK⟩ := hv
  have hx := B.exec
  have hb := B.bytes
  have hr := B.returns
  have hts : ∀ q ∈ gALL, q.before _ s = true := fun q h => atoms_spec (ws := (wA yX0_spotOf cX0_spotOf 2 (some .int))) B.pre q (List.mem_cons_of_mem _ h)
  have hown : s.vm.findClass RX0 = some m.cls := findClass_of_methodNamed B.named
  have hlocks := B.notSynchronized
  have hS : va_S (FR w) s.heap s.heap [] := va_S.rf
  show W p l e ({ frames := 0, cells := 0, slots := 0, locals := 0 } : Room) s m _ below meth c s.heap [] 0 0 (MQ below (QI w K g S out) _ s 0 0 (FR w)) _
  have hl := lv_entry ([.ref a, .int p0]) (n := 2) (Nat.le_of_ble_eq_true rfl)
  rw [lg_entry_eq]
  generalize (lg_sl ([.ref a, .int p0]) ++ List.replicate (2 - (lg_sl ([.ref a, .int p0])).length) Slot.unset).toArray = ls at hl ⊢
  clear B
  generalize ([.ref a, .int p0] : List Value).toArray = args at hts ⊢
  have hl : lv_has ls 2 [(0, .ref a), (1, .int p0)] := hl
  refine lv_iload_n hx hb dX0_spotOf_0 rfl (lv_at hl 1 rfl) ?_
  refine lv_iconst (v := 4) hx hb dX0_spotOf_1 (by decide) ?_
  refine lv_imul hx hb dX0_spotOf_2 ?_
  refine lv_aload_n hx hb dX0_spotOf_3 rfl (lv_at hl 0 rfl) ?_
  have k1 : K.1 (a + 3) = (10, 9) := hH.sub hk0 2 (t := (3, 10, 9)) rfl
  refine e_0_2 hx hb hts hown hK hH hk0 (hts _ wd_78) dX0_spotOf_4 ?_
  refine lv_iload_n hx hb dX0_spotOf_7 rfl (lv_at hl 1 rfl) ?_
  obtain ⟨h3, hf⟩ := gd_some hf
  refine g_iald hx hb hK hH k1 h3 dX0_spotOf_8 ?_
  refine lv_iadd hx hb dX0_spotOf_9 ?_
  have ho := Option.some.inj hf
  exact W.iret (v := ((p0 * 4) + (gI g (a + 3) p0.toNatClampNeg))) hx hb hr (fun t ht hW => ⟨⟨((p0 * 4) + (gI g (a + 3) p0.toNatClampNeg)), (), rfl, ho, hrE ht hH⟩, hS.F ht⟩) hS.2.2 dX0_spotOf_10
set_option maxRecDepth 100000 in
set_option maxHeartbeats 8000000 in
theorem c1_timesAt (l : Launch) (w : GW) (K : GK) (g : GM) (S : GS) (a : Nat) (p0 : Int32) (out : Int32) (hf : f1_timesAt K g a p0 = some out) (hk0 : gkd K a = 2) : Met l yX1_timesAt (wA yX1_timesAt cX1_timesAt 2 (some .int)) ({ frames := 0, cells := 0, slots := 0, locals := 0 } : Room) (PRE w K g S [.ref a, .int p0]) (QI w K g S out) 0 0 (FR w) := by
  unfold f1_timesAt at hf
  refine Met.ofW (cc := cX1_timesAt) (maxL := 2) (ret := (some .int)) (by decide) rfl ?_
  intro p e s m args below meth c s₁ B hml hv
  obtain ⟨rfl, hH, hK⟩ := hv
  have hx := B.exec
  have hb := B.bytes
  have hr := B.returns
  have hts : ∀ q ∈ gALL, q.before _ s = true := fun q h => atoms_spec (ws := (wA yX1_timesAt cX1_timesAt 2 (some .int))) B.pre q (List.mem_cons_of_mem _ h)
  have hown : s.vm.findClass RX1 = some m.cls := findClass_of_methodNamed B.named
  have hlocks := B.notSynchronized
  have hS : va_S (FR w) s.heap s.heap [] := va_S.rf
  show W p l e ({ frames := 0, cells := 0, slots := 0, locals := 0 } : Room) s m _ below meth c s.heap [] 0 0 (MQ below (QI w K g S out) _ s 0 0 (FR w)) _
  have hl := lv_entry ([.ref a, .int p0]) (n := 2) (Nat.le_of_ble_eq_true rfl)
  rw [lg_entry_eq]
  generalize (lg_sl ([.ref a, .int p0]) ++ List.replicate (2 - (lg_sl ([.ref a, .int p0])).length) Slot.unset).toArray = ls at hl ⊢
  clear B
  generalize ([.ref a, .int p0] : List Value).toArray = args at hts ⊢
  have B21 : ∀ (H : Heap) (locs : List Loc) (ls : Array Slot), HR w K g S H → va_S (FR w) s.heap H locs → lv_has ls 2 [] → f1_timesAt_21 K g a p0 = some out → W p l e ({ frames := 0, cells := 0, slots := 0, locals := 0 } : Room) s m args below meth c H locs 0 0 (MQ below (QI w K g S out) args s 0 0 (FR w)) (F0 m 21 ls []) := by
    intro   H locs ls hH hS hl hf
    unfold f1_timesAt_21 at hf
    refine lv_iconst (v := 0) hx hb dX1_timesAt_21 (by decide) ?_
    have ho := Option.some.inj hf
    exact W.iret (v := 0) hx hb hr (fun t ht hW => ⟨⟨0, (), rfl, ho, hrE ht hH⟩, hS.F ht⟩) hS.2.2 dX1_timesAt_22
  have hl : lv_has ls 2 [(0, .ref a), (1, .int p0)] := hl
  refine lv_iload_n hx hb dX1_timesAt_0 rfl (lv_at hl 1 rfl) ?_
  have hg := gif hf
  refine lv_if_lt (tgt := 21) hx hb dX1_timesAt_1 (by decide) (fun c1 => ?_) (fun c1 => ?_)
  · have hf := hg.1 c1
    exact B21 _ _ _ hH hS (lv_sub hl [] rfl) hf
  · have hf := hg.2 c1
    refine lv_iload_n hx hb dX1_timesAt_4 rfl (lv_at hl 1 rfl) ?_
    refine lv_aload_n hx hb dX1_timesAt_5 rfl (lv_at hl 0 rfl) ?_
    refine e_1_0 hx hb hts hown hK hH hk0 (hts _ wd_241) dX1_timesAt_6 ?_
    have hg := gif hf
    refine lv_icmp_ge (tgt := 21) hx hb dX1_timesAt_9 (by decide) (fun c2 => ?_) (fun c2 => ?_)
    · have hf := hg.1 c2
      exact B21 _ _ _ hH hS (lv_sub hl [] rfl) hf
    · have hf := hg.2 c2
      refine lv_aload_n hx hb dX1_timesAt_12 rfl (lv_at hl 0 rfl) ?_
      have k3 : K.1 (a + 2) = (10, gkn K a) := hH.sub hk0 1 (t := (2, 10, gkn K a)) rfl
      refine e_1_5 hx hb hts hown hK hH hk0 (hts _ wd_249) dX1_timesAt_13 ?_
      refine lv_iload_n hx hb dX1_timesAt_16 rfl (lv_at hl 1 rfl) ?_
      obtain ⟨h5, hf⟩ := gd_some hf
      refine g_iald hx hb hK hH k3 h5 dX1_timesAt_17 ?_
      refine lv_goto (tgt := 22) hx hb dX1_timesAt_18 (by decide) ?_
      have ho := Option.some.inj hf
      exact W.iret (v := (gI g (a + 2) p0.toNatClampNeg)) hx hb hr (fun t ht hW => ⟨⟨(gI g (a + 2) p0.toNatClampNeg), (), rfl, ho, hrE ht hH⟩, hS.F ht⟩) hS.2.2 dX1_timesAt_22
set_option maxRecDepth 100000 in
set_option maxHeartbeats 8000000 in
theorem c0_arriveAt (l : Launch) (w : GW) (K : GK) (g : GM) (S : GS) (a : Nat) (p0 : Int32) (out : GM) (hf : f0_arriveAt K g a p0 = some out) (hk0 : gkd K a = 1) : Met l yX0_arriveAt (wA yX0_arriveAt cX0_arriveAt 3 none) ({ frames := 1, cells := 0, slots := 0, locals := 21 } : Room) (PRE w K g S [.ref a, .int p0]) (QV w K out S) 0 0 (FR w) := by
  unfold f0_arriveAt at hf
  refine Met.ofW (cc := cX0_arriveAt) (maxL := 3) (ret := none) (by decide) rfl ?_
  intro p e s m args below meth c s₁ B hml hv
  obtain ⟨rfl, hH, hK⟩ := hv
  have hx := B.exec
  have hb := B.bytes
  have hr := B.returns
  have hts : ∀ q ∈ gALL, q.before _ s = true := fun q h => atoms_spec (ws := (wA yX0_arriveAt cX0_arriveAt 3 none)) B.pre q (List.mem_cons_of_mem _ h)
  have hown : s.vm.findClass RX0 = some m.cls := findClass_of_methodNamed B.named
  have hlocks := B.notSynchronized
  have hS : va_S (FR w) s.heap s.heap [] := va_S.rf
  show W p l e ({ frames := 1, cells := 0, slots := 0, locals := 21 } : Room) s m _ below meth c s.heap [] 0 0 (MQ below (QV w K out S) _ s 0 0 (FR w)) _
  have hl := lv_entry ([.ref a, .int p0]) (n := 3) (Nat.le_of_ble_eq_true rfl)
  rw [lg_entry_eq]
  generalize (lg_sl ([.ref a, .int p0]) ++ List.replicate (3 - (lg_sl ([.ref a, .int p0])).length) Slot.unset).toArray = ls at hl ⊢
  clear B
  generalize ([.ref a, .int p0] : List Value).toArray = args at hts ⊢
  have hl : lv_has ls 3 [(0, .ref a), (1, .int p0)] := hl
  refine lv_aload_n hx hb dX0_arriveAt_0 rfl (lv_at hl 0 rfl) ?_
  refine e_0_6 hx hb hts hown hK hH hk0 (hts _ wd_83) dX0_arriveAt_1 ?_
  have hg := gif hf
  refine lv_if_ne (tgt := 8) hx hb dX0_arriveAt_4 (by decide) (fun c1 => ?_) (fun c1 => ?_)
  · have hf := hg.2 c1
    refine lv_aload_n hx hb dX0_arriveAt_8 rfl (lv_at hl 0 rfl) ?_
    refine lv_aload_n hx hb dX0_arriveAt_9 rfl (lv_at hl 0 rfl) ?_
    refine e_0_6 hx hb hts hown hK hH hk0 (hts _ wd_83) dX0_arriveAt_10 ?_
    refine lv_iconst (v := 1) hx hb dX0_arriveAt_13 (by decide) ?_
    refine lv_isub hx hb dX0_arriveAt_14 ?_
    obtain ⟨v2, h3, hf⟩ := gbind hf
    refine g_Vi (As := [.int ((gI g a 6) - 1)]) (rest := []) ⟨hx, hb, hml, hown, hts⟩ (c0_spotOf l w K g S a ((gI g a 6) - 1) v2 h3 hk0) (gcwV hts i0_spotOf wd_388 rfl rfl ⟨Nat.le_of_ble_eq_true rfl, Nat.le_of_ble_eq_true rfl⟩) (gRecv.of hK rfl (hH.o1 hk0)) hH hK hS hl.1 rfl rfl (Nat.le_of_ble_eq_true rfl) dX0_arriveAt_15 ⟨Nat.le_refl _, Nat.le_refl _⟩ (fun H locs hH hS => ?_)
    refine lv_istore_n (lv' := [(2, .int v2), (0, .ref a), (1, .int p0)]) hx hb dX0_arriveAt_18 rfl hl (by decide) rfl (fun ls hl => ?_)
    refine lv_aload_n hx hb dX0_arriveAt_19 rfl (lv_at hl 1 rfl) ?_
    have k4 : K.1 (a + 4) = (10, 36) := hH.sub hk0 3 (t := (4, 10, 36)) rfl
    refine e_0_3 hx hb hts hown hK hH hk0 (hts _ wd_79) dX0_arriveAt_20 ?_
    refine lv_iload_n hx hb dX0_arriveAt_23 rfl (lv_at hl 0 rfl) ?_
    refine lv_iload_n hx hb dX0_arriveAt_24 rfl (lv_at hl 2 rfl) ?_
    obtain ⟨h6, hf⟩ := gd_some hf
    refine g_iast hx hb hK hH hS k4 h6 dX0_arriveAt_25 (fun H locs hH hS => ?_)
    obtain ⟨g7, eg7⟩ : ∃ z : GM, z = gsI g (a + 4) v2.toNatClampNeg p0 := ⟨_, rfl⟩
    have hf := gl_at hf eg7
    replace hH : HR w K g7 S H := by rw [eg7]; exact hH
    refine lv_aload_n hx hb dX0_arriveAt_26 rfl (lv_at hl 1 rfl) ?_
    have k8 : K.1 (a + 5) = (10, 36) := hH.sub hk0 4 (t := (5, 10, 36)) rfl
    refine e_0_4 hx hb hts hown hK hH hk0 (hts _ wd_80) dX0_arriveAt_27 ?_
    refine lv_iload_n hx hb dX0_arriveAt_30 rfl (lv_at hl 0 rfl) ?_
    refine lv_aload_n hx hb dX0_arriveAt_31 rfl (lv_at hl 1 rfl) ?_
    have k9 : K.1 (a + 6) = (13, 9) := hH.sub hk0 5 (t := (6, 13, 9)) rfl
    refine e_0_5 hx hb hts hown hK hH hk0 (hts _ wd_82) dX0_arriveAt_32 ?_
    refine lv_aload_n hx hb dX0_arriveAt_35 rfl (lv_at hl 1 rfl) ?_
    refine e_0_6 hx hb hts hown hK hH hk0 (hts _ wd_83) dX0_arriveAt_36 ?_
    refine lv_iconst (v := 1) hx hb dX0_arriveAt_39 (by decide) ?_
    refine lv_isub hx hb dX0_arriveAt_40 ?_
    obtain ⟨h11, hf⟩ := gd_some hf
    refine g_tald hx hb hK hH k9 h11 dX0_arriveAt_41 ?_
    rcases gopt_c hf with ⟨q13, hf⟩ | ⟨t12, q13, hf⟩
    · cases hf
    · refine g_rfS q13 ?_
      refine lv_iload_n hx hb dX0_arriveAt_42 rfl (lv_at hl 2 rfl) ?_
      obtain ⟨k14, hf⟩ := gd_some hf
      have k14 := gk_obj k14
      obtain ⟨v15, h16, hf⟩ := gbind hf
      refine g_Vi (As := [.int p0]) (rest := [.int v2, .ref (a + 5)]) ⟨hx, hb, hml, hown, hts⟩ (c1_timesAt l w K g7 S t12 p0 v15 h16 k14) (gcwV hts i1_timesAt wd_348 rfl rfl ⟨Nat.le_of_ble_eq_true rfl, Nat.le_of_ble_eq_true rfl⟩) (gRecv.of hK rfl (hH.o2 k14)) hH hK hS hl.1 rfl rfl (Nat.le_of_ble_eq_true rfl) dX0_arriveAt_43 ⟨Nat.le_refl _, Nat.le_refl _⟩ (fun H locs hH hS => ?_)
      refine g_iast hx hb hK hH hS k8 h6 dX0_arriveAt_46 (fun H locs hH hS => ?_)
      obtain ⟨g18, eg18⟩ : ∃ z : GM, z = gsI g7 (a + 5) v2.toNatClampNeg v15 := ⟨_, rfl⟩
      have hf := gl_at hf eg18
      replace hH : HR w K g18 S H := by rw [eg18]; exact hH
      have ho := Option.some.inj hf
      exact W.vret hx hb hr (fun t ht hW => ⟨⟨(), rfl, trivial, hrV ht ho hH⟩, hS.F ht⟩) hS.2.2 dX0_arriveAt_47
  · have hf := hg.1 c1
    have ho := Option.some.inj hf
    exact W.vret hx hb hr (fun t ht hW => ⟨⟨(), rfl, trivial, hrV ht ho hH⟩, hS.F ht⟩) hS.2.2 dX0_arriveAt_7
set_option maxRecDepth 100000 in
set_option maxHeartbeats 8000000 in
theorem c1_insideOf (l : Launch) (w : GW) (K : GK) (g : GM) (S : GS) (a : Nat) (p0 : Int32) (out : Int32) (hf : f1_insideOf K g a p0 = some out) (hk0 : gkd K a = 2) : Met l yX1_insideOf (wA yX1_insideOf cX1_insideOf 2 (some .int)) ({ frames := 0, cells := 0, slots := 0, locals := 0 } : Room) (PRE w K g S [.ref a, .int p0]) (QI w K g S out) 0 0 (FR w) := by
  unfold f1_insideOf at hf
  refine Met.ofW (cc := cX1_insideOf) (maxL := 2) (ret := (some .int)) (by decide) rfl ?_
  intro p e s m args below meth c s₁ B hml hv
  obtain ⟨rfl, hH, hK⟩ := hv
  have hx := B.exec
  have hb := B.bytes
  have hr := B.returns
  have hts : ∀ q ∈ gALL, q.before _ s = true := fun q h => atoms_spec (ws := (wA yX1_insideOf cX1_insideOf 2 (some .int))) B.pre q (List.mem_cons_of_mem _ h)
  have hown : s.vm.findClass RX1 = some m.cls := findClass_of_methodNamed B.named
  have hlocks := B.notSynchronized
  have hS : va_S (FR w) s.heap s.heap [] := va_S.rf
  show W p l e ({ frames := 0, cells := 0, slots := 0, locals := 0 } : Room) s m _ below meth c s.heap [] 0 0 (MQ below (QI w K g S out) _ s 0 0 (FR w)) _
  have hl := lv_entry ([.ref a, .int p0]) (n := 2) (Nat.le_of_ble_eq_true rfl)
  rw [lg_entry_eq]
  generalize (lg_sl ([.ref a, .int p0]) ++ List.replicate (2 - (lg_sl ([.ref a, .int p0])).length) Slot.unset).toArray = ls at hl ⊢
  clear B
  generalize ([.ref a, .int p0] : List Value).toArray = args at hts ⊢
  have B21 : ∀ (H : Heap) (locs : List Loc) (ls : Array Slot), HR w K g S H → va_S (FR w) s.heap H locs → lv_has ls 2 [(0, .ref a)] → f1_insideOf_21 K g a p0 = some out → W p l e ({ frames := 0, cells := 0, slots := 0, locals := 0 } : Room) s m args below meth c H locs 0 0 (MQ below (QI w K g S out) args s 0 0 (FR w)) (F0 m 21 ls []) := by
    intro   H locs ls hH hS hl hf
    unfold f1_insideOf_21 at hf
    refine lv_aload_n hx hb dX1_insideOf_21 rfl (lv_at hl 0 rfl) ?_
    refine e_1_0 hx hb hts hown hK hH hk0 (hts _ wd_241) dX1_insideOf_22 ?_
    have ho := Option.some.inj hf
    exact W.iret (v := (gI g a 0)) hx hb hr (fun t ht hW => ⟨⟨(gI g a 0), (), rfl, ho, hrE ht hH⟩, hS.F ht⟩) hS.2.2 dX1_insideOf_25
  have hl : lv_has ls 2 [(0, .ref a), (1, .int p0)] := hl
  refine lv_iload_n hx hb dX1_insideOf_0 rfl (lv_at hl 1 rfl) ?_
  have hg := gif hf
  refine lv_if_lt (tgt := 21) hx hb dX1_insideOf_1 (by decide) (fun c1 => ?_) (fun c1 => ?_)
  · have hf := hg.1 c1
    exact B21 _ _ _ hH hS (lv_sub hl [0] rfl) hf
  · have hf := hg.2 c1
    refine lv_iload_n hx hb dX1_insideOf_4 rfl (lv_at hl 1 rfl) ?_
    refine lv_aload_n hx hb dX1_insideOf_5 rfl (lv_at hl 0 rfl) ?_
    refine e_1_0 hx hb hts hown hK hH hk0 (hts _ wd_241) dX1_insideOf_6 ?_
    have hg := gif hf
    refine lv_icmp_ge (tgt := 21) hx hb dX1_insideOf_9 (by decide) (fun c2 => ?_) (fun c2 => ?_)
    · have hf := hg.1 c2
      exact B21 _ _ _ hH hS (lv_sub hl [0] rfl) hf
    · have hf := hg.2 c2
      refine lv_aload_n hx hb dX1_insideOf_12 rfl (lv_at hl 0 rfl) ?_
      have k3 : K.1 (a + 4) = (10, gkn K a) := hH.sub hk0 3 (t := (4, 10, gkn K a)) rfl
      refine e_1_7 hx hb hts hown hK hH hk0 (hts _ wd_251) dX1_insideOf_13 ?_
      refine lv_iload_n hx hb dX1_insideOf_16 rfl (lv_at hl 1 rfl) ?_
      obtain ⟨h5, hf⟩ := gd_some hf
      refine g_iald hx hb hK hH k3 h5 dX1_insideOf_17 ?_
      refine lv_goto (tgt := 25) hx hb dX1_insideOf_18 (by decide) ?_
      have ho := Option.some.inj hf
      exact W.iret (v := (gI g (a + 4) p0.toNatClampNeg)) hx hb hr (fun t ht hW => ⟨⟨(gI g (a + 4) p0.toNatClampNeg), (), rfl, ho, hrE ht hH⟩, hS.F ht⟩) hS.2.2 dX1_insideOf_25
set_option maxRecDepth 100000 in
set_option maxHeartbeats 8000000 in
theorem c0_beginPart (l : Launch) (w : GW) (K : GK) (g : GM) (S : GS) (a : Nat) (out : GM) (hf : f0_beginPart K g a = some out) (hk0 : gkd K a = 1) : Met l yX0_beginPart (wA yX0_beginPart cX0_beginPart 2 none) ({ frames := 2, cells := 0, slots := 0, locals := 43 } : Room) (PRE w K g S [.ref a]) (QV w K out S) 0 0 (FR w) := by
  unfold f0_beginPart at hf
  refine Met.ofW (cc := cX0_beginPart) (maxL := 2) (ret := none) (by decide) rfl ?_
  intro p e s m args below meth c s₁ B hml hv
  obtain ⟨rfl, hH, hK⟩ := hv
  have hx := B.exec
  have hb := B.bytes
  have hr := B.returns
  have hts : ∀ q ∈ gALL, q.before _ s = true := fun q h => atoms_spec (ws := (wA yX0_beginPart cX0_beginPart 2 none)) B.pre q (List.mem_cons_of_mem _ h)
  have hown : s.vm.findClass RX0 = some m.cls := findClass_of_methodNamed B.named
  have hlocks := B.notSynchronized
  have hS : va_S (FR w) s.heap s.heap [] := va_S.rf
  show W p l e ({ frames := 2, cells := 0, slots := 0, locals := 43 } : Room) s m _ below meth c s.heap [] 0 0 (MQ below (QV w K out S) _ s 0 0 (FR w)) _
  have hl := lv_entry ([.ref a]) (n := 2) (Nat.le_of_ble_eq_true rfl)
  rw [lg_entry_eq]
  generalize (lg_sl ([.ref a]) ++ List.replicate (2 - (lg_sl ([.ref a])).length) Slot.unset).toArray = ls at hl ⊢
  clear B
  generalize ([.ref a] : List Value).toArray = args at hts ⊢
  have hl : lv_has ls 2 [(0, .ref a)] := hl
  refine lv_aload_n hx hb dX0_beginPart_0 rfl (lv_at hl 0 rfl) ?_
  refine e_0_6 hx hb hts hown hK hH hk0 (hts _ wd_83) dX0_beginPart_1 ?_
  have hg := gif hf
  refine lv_if_eq (tgt := 22) hx hb dX0_beginPart_4 (by decide) (fun c1 => ?_) (fun c1 => ?_)
  · have hf := hg.1 c1
    have ho := Option.some.inj hf
    exact W.vret hx hb hr (fun t ht hW => ⟨⟨(), rfl, trivial, hrV ht ho hH⟩, hS.F ht⟩) hS.2.2 dX0_beginPart_22
  · have hf := hg.2 c1
    refine lv_aload_n hx hb dX0_beginPart_7 rfl (lv_at hl 0 rfl) ?_
    have k2 : K.1 (a + 3) = (10, 9) := hH.sub hk0 2 (t := (3, 10, 9)) rfl
    refine e_0_2 hx hb hts hown hK hH hk0 (hts _ wd_78) dX0_beginPart_8 ?_
    refine lv_aload_n hx hb dX0_beginPart_11 rfl (lv_at hl 0 rfl) ?_
    refine e_0_6 hx hb hts hown hK hH hk0 (hts _ wd_83) dX0_beginPart_12 ?_
    refine lv_iconst (v := 1) hx hb dX0_beginPart_15 (by decide) ?_
    refine lv_isub hx hb dX0_beginPart_16 ?_
    obtain ⟨h4, hf⟩ := gd_some hf
    refine g_iald hx hb hK hH k2 h4 dX0_beginPart_17 ?_
    refine lv_iconst (v := 3) hx hb dX0_beginPart_18 (by decide) ?_
    have hg := gif hf
    refine lv_icmp_lt (tgt := 23) hx hb dX0_beginPart_19 (by decide) (fun c5 => ?_) (fun c5 => ?_)
    · have hf := hg.1 c5
      refine lv_aload_n hx hb dX0_beginPart_23 rfl (lv_at hl 0 rfl) ?_
      refine lv_aload_n hx hb dX0_beginPart_24 rfl (lv_at hl 0 rfl) ?_
      refine e_0_6 hx hb hts hown hK hH hk0 (hts _ wd_83) dX0_beginPart_25 ?_
      refine lv_iconst (v := 1) hx hb dX0_beginPart_28 (by decide) ?_
      refine lv_isub hx hb dX0_beginPart_29 ?_
      obtain ⟨v6, h7, hf⟩ := gbind hf
      refine g_Vi (As := [.int ((gI g a 6) - 1)]) (rest := []) ⟨hx, hb, hml, hown, hts⟩ (c0_spotOf l w K g S a ((gI g a 6) - 1) v6 h7 hk0) (gcwV hts i0_spotOf wd_388 rfl rfl ⟨Nat.le_of_ble_eq_true rfl, Nat.le_of_ble_eq_true rfl⟩) (gRecv.of hK rfl (hH.o1 hk0)) hH hK hS hl.1 rfl rfl (Nat.le_of_ble_eq_true rfl) dX0_beginPart_30 ⟨Nat.le_refl _, Nat.le_refl _⟩ (fun H locs hH hS => ?_)
      refine lv_istore_n (lv' := [(1, .int v6), (0, .ref a)]) hx hb dX0_beginPart_33 rfl hl (by decide) rfl (fun ls hl => ?_)
      refine lv_aload_n hx hb dX0_beginPart_34 rfl (lv_at hl 1 rfl) ?_
      have k8 : K.1 (a + 5) = (10, 36) := hH.sub hk0 4 (t := (5, 10, 36)) rfl
      refine e_0_4 hx hb hts hown hK hH hk0 (hts _ wd_80) dX0_beginPart_35 ?_
      refine lv_iload_n hx hb dX0_beginPart_38 rfl (lv_at hl 0 rfl) ?_
      refine lv_dup2_11 hx hb dX0_beginPart_39 rfl rfl ?_
      obtain ⟨h10, hf⟩ := gd_some hf
      refine g_iald hx hb hK hH k8 h10 dX0_beginPart_40 ?_
      refine lv_iconst (v := 1) hx hb dX0_beginPart_41 (by decide) ?_
      refine lv_isub hx hb dX0_beginPart_42 ?_
      refine g_iast hx hb hK hH hS k8 h10 dX0_beginPart_43 (fun H locs hH hS => ?_)
      obtain ⟨g12, eg12⟩ : ∃ z : GM, z = gsI g (a + 5) v6.toNatClampNeg ((gI g (a + 5) v6.toNatClampNeg) - 1) := ⟨_, rfl⟩
      have hf := gl_at hf eg12
      replace hH : HR w K g12 S H := by rw [eg12]; exact hH
      refine lv_aload_n hx hb dX0_beginPart_44 rfl (lv_at hl 1 rfl) ?_
      refine e_0_2 hx hb hts hown hK hH hk0 (hts _ wd_78) dX0_beginPart_45 ?_
      refine lv_aload_n hx hb dX0_beginPart_48 rfl (lv_at hl 1 rfl) ?_
      refine e_0_6 hx hb hts hown hK hH hk0 (hts _ wd_83) dX0_beginPart_49 ?_
      refine lv_iconst (v := 1) hx hb dX0_beginPart_52 (by decide) ?_
      refine lv_isub hx hb dX0_beginPart_53 ?_
      refine lv_dup2_11 hx hb dX0_beginPart_54 rfl rfl ?_
      obtain ⟨h14, hf⟩ := gd_some hf
      refine g_iald hx hb hK hH k2 h14 dX0_beginPart_55 ?_
      refine lv_iconst (v := 1) hx hb dX0_beginPart_56 (by decide) ?_
      refine lv_iadd hx hb dX0_beginPart_57 ?_
      refine g_iast hx hb hK hH hS k2 h14 dX0_beginPart_58 (fun H locs hH hS => ?_)
      obtain ⟨g16, eg16⟩ : ∃ z : GM, z = gsI g12 (a + 3) ((gI g12 a 6) - 1).toNatClampNeg ((gI g12 (a + 3) ((gI g12 a 6) - 1).toNatClampNeg) + 1) := ⟨_, rfl⟩
      have hf := gl_at hf eg16
      replace hH : HR w K g16 S H := by rw [eg16]; exact hH
      refine lv_aload_n hx hb dX0_beginPart_59 rfl (lv_at hl 1 rfl) ?_
      refine lv_aload_n hx hb dX0_beginPart_60 rfl (lv_at hl 1 rfl) ?_
      have k17 : K.1 (a + 6) = (13, 9) := hH.sub hk0 5 (t := (6, 13, 9)) rfl
      refine e_0_5 hx hb hts hown hK hH hk0 (hts _ wd_82) dX0_beginPart_61 ?_
      refine lv_aload_n hx hb dX0_beginPart_64 rfl (lv_at hl 1 rfl) ?_
      refine e_0_6 hx hb hts hown hK hH hk0 (hts _ wd_83) dX0_beginPart_65 ?_
      refine lv_iconst (v := 1) hx hb dX0_beginPart_68 (by decide) ?_
      refine lv_isub hx hb dX0_beginPart_69 ?_
      obtain ⟨h19, hf⟩ := gd_some hf
      refine g_tald hx hb hK hH k17 h19 dX0_beginPart_70 ?_
      rcases gopt_c hf with ⟨q21, hf⟩ | ⟨t20, q21, hf⟩
      · cases hf
      · refine g_rfS q21 ?_
        refine lv_aload_n hx hb dX0_beginPart_71 rfl (lv_at hl 1 rfl) ?_
        have k24 : K.1 (a + 4) = (10, 36) := hH.sub hk0 3 (t := (4, 10, 36)) rfl
        refine e_0_3 hx hb hts hown hK hH hk0 (hts _ wd_79) dX0_beginPart_72 ?_
        refine lv_iload_n hx hb dX0_beginPart_75 rfl (lv_at hl 0 rfl) ?_
        refine g_iald hx hb hK hH k24 h10 dX0_beginPart_76 ?_
        obtain ⟨k26, hf⟩ := gd_some hf
        have k26 := gk_obj k26
        obtain ⟨v27, h28, hf⟩ := gbind hf
        refine g_Vi (As := [.int (gI g16 (a + 4) v6.toNatClampNeg)]) (rest := [.ref a]) ⟨hx, hb, hml, hown, hts⟩ (c1_insideOf l w K g16 S t20 (gI g16 (a + 4) v6.toNatClampNeg) v27 h28 k26) (gcwV hts i1_insideOf wd_441 rfl rfl ⟨Nat.le_of_ble_eq_true rfl, Nat.le_of_ble_eq_true rfl⟩) (gRecv.of hK rfl (hH.o2 k26)) hH hK hS hl.1 rfl rfl (Nat.le_of_ble_eq_true rfl) dX0_beginPart_77 ⟨Nat.le_refl _, Nat.le_refl _⟩ (fun H locs hH hS => ?_)
        obtain ⟨g29, h30, hf⟩ := gbind hf
        refine g_Vv (As := [.int v27]) (rest := []) ⟨hx, hb, hml, hown, hts⟩ (c0_arriveAt l w K g16 S a v27 g29 h30 hk0) (gcwV hts i0_arriveAt wd_425 rfl rfl ⟨Nat.le_of_ble_eq_true rfl, Nat.le_of_ble_eq_true rfl⟩) (gRecv.of hK rfl (hH.o1 hk0)) hH hK hS hl.1 rfl rfl (Nat.le_of_ble_eq_true rfl) dX0_beginPart_80 ⟨Nat.le_refl _, Nat.le_refl _⟩ (fun H locs hH hS => ?_)
        have ho := Option.some.inj hf
        exact W.vret hx hb hr (fun t ht hW => ⟨⟨(), rfl, trivial, hrV ht ho hH⟩, hS.F ht⟩) hS.2.2 dX0_beginPart_83
    · have hf := hg.2 c5
      have ho := Option.some.inj hf
      exact W.vret hx hb hr (fun t ht hW => ⟨⟨(), rfl, trivial, hrV ht ho hH⟩, hS.F ht⟩) hS.2.2 dX0_beginPart_22
set_option maxRecDepth 100000 in
set_option maxHeartbeats 8000000 in
theorem c7_copyRow (l : Launch) (w : GW) (K : GK) (g : GM) (S : GS) (p0 : Nat) (p1 : Nat) (out : GM) (hf : f7_copyRow K g p0 p1 = some out) : Met l yX7_copyRow (wA yX7_copyRow cX7_copyRow 2 none) ({ frames := 1, cells := 0, slots := 0, locals := 60 } : Room) (PRE w K g S [.ref p0, .ref p1]) (QV w K out S) 0 0 (FR w) := by
  unfold f7_copyRow at hf
  refine Met.ofW (cc := cX7_copyRow) (maxL := 2) (ret := none) (by decide) rfl ?_
  intro p e s m args below meth c s₁ B hml hv
  obtain ⟨rfl, hH, hK⟩ := hv
  have hx := B.exec
  have hb := B.bytes
  have hr := B.returns
  have hts : ∀ q ∈ gALL, q.before _ s = true := fun q h => atoms_spec (ws := (wA yX7_copyRow cX7_copyRow 2 none)) B.pre q (List.mem_cons_of_mem _ h)
  have hown : s.vm.findClass RX7 = some m.cls := findClass_of_methodNamed B.named
  have hlocks := B.notSynchronized
  have hS : va_S (FR w) s.heap s.heap [] := va_S.rf
  show W p l e ({ frames := 1, cells := 0, slots := 0, locals := 60 } : Room) s m _ below meth c s.heap [] 0 0 (MQ below (QV w K out S) _ s 0 0 (FR w)) _
  have hl := lv_entry ([.ref p0, .ref p1]) (n := 2) (Nat.le_of_ble_eq_true rfl)
  rw [lg_entry_eq]
  generalize (lg_sl ([.ref p0, .ref p1]) ++ List.replicate (2 - (lg_sl ([.ref p0, .ref p1])).length) Slot.unset).toArray = ls at hl ⊢
  clear B
  generalize ([.ref p0, .ref p1] : List Value).toArray = args at hts ⊢
  have hl : lv_has ls 2 [(0, .ref p0), (1, .ref p1)] := hl
  refine lv_aload_n hx hb dX7_copyRow_0 rfl (lv_at hl 0 rfl) ?_
  refine lv_iconst (v := 0) hx hb dX7_copyRow_1 (by decide) ?_
  refine lv_aload_n hx hb dX7_copyRow_2 rfl (lv_at hl 1 rfl) ?_
  refine lv_iconst (v := 0) hx hb dX7_copyRow_3 (by decide) ?_
  refine lv_aload_n hx hb dX7_copyRow_4 rfl (lv_at hl 0 rfl) ?_
  obtain ⟨k1, hf⟩ := gd_some hf
  have k1 := gk_arr k1
  refine g_alen hx hb hK hH k1 (Or.inl rfl) dX7_copyRow_5 ?_
  refine lv_aload_n hx hb dX7_copyRow_6 rfl (lv_at hl 1 rfl) ?_
  obtain ⟨k2, hf⟩ := gd_some hf
  have k2 := gk_arr k2
  refine g_alen hx hb hK hH k2 (Or.inl rfl) dX7_copyRow_7 ?_
  refine va_mmin hx hb (hml.trans hl.1.symm) hown (hts _ wd_143) (hts _ wd_134) (hts _ wd_135) (hts _ wd_136) (Nat.le_of_ble_eq_true rfl) (Nat.le_of_ble_eq_true rfl) (Nat.le_of_ble_eq_true rfl) (Nat.le_of_ble_eq_true rfl) dX7_copyRow_8 ?_
  obtain ⟨h3, hf⟩ := gd_some hf
  obtain ⟨h31, h32, h33, h34, h35⟩ := of_decide_eq_true h3
  refine g_copy hx hb (hml.trans hl.1.symm) hown (hts _ wd_146) (hts _ wd_138) (hts _ wd_139) (hts _ wd_140) hK hH hS (t := 0) (ty := .int) k1 k2 (fun _ _ _ h => gcell10 h) (by decide) rfl rfl h31 h32 h33 h34 h35 (fun _ _ => rfl) (Nat.le_of_ble_eq_true rfl) (Nat.le_of_ble_eq_true rfl) dX7_copyRow_11 (fun H locs hH hS => ?_)
  obtain ⟨g4, eg4⟩ : ∃ z : GM, z = gsC g p1 (va_cpy (g.1 p0) (g.1 p1) (0 : Int32).toNatClampNeg (0 : Int32).toNatClampNeg (if (nI (gkn K p1)) < (nI (gkn K p0)) then (nI (gkn K p1)) else (nI (gkn K p0))).toNatClampNeg) := ⟨_, rfl⟩
  have hf := gl_at hf eg4
  replace hH : HR w K g4 S H := by rw [eg4]; exact hH
  have ho := Option.some.inj hf
  exact W.vret hx hb hr (fun t ht hW => ⟨⟨(), rfl, trivial, hrV ht ho hH⟩, hS.F ht⟩) hS.2.2 dX7_copyRow_14
set_option maxRecDepth 100000 in
set_option maxHeartbeats 8000000 in
theorem c7_copyTexts (l : Launch) (w : GW) (K : GK) (g : GM) (S : GS) (p0 : Nat) (p1 : Nat) (out : GM) (hf : f7_copyTexts K g p0 p1 = some out) : Met l yX7_copyTexts (wA yX7_copyTexts cX7_copyTexts 4 none) ({ frames := 1, cells := 0, slots := 0, locals := 30 } : Room) (PRE w K g S [.ref p0, .ref p1]) (QV w K out S) 0 0 (FR w) := by
  unfold f7_copyTexts at hf
  refine Met.ofW (cc := cX7_copyTexts) (maxL := 4) (ret := none) (by decide) rfl ?_
  intro p e s m args below meth c s₁ B hml hv
  obtain ⟨rfl, hH, hK⟩ := hv
  have hx := B.exec
  have hb := B.bytes
  have hr := B.returns
  have hts : ∀ q ∈ gALL, q.before _ s = true := fun q h => atoms_spec (ws := (wA yX7_copyTexts cX7_copyTexts 4 none)) B.pre q (List.mem_cons_of_mem _ h)
  have hown : s.vm.findClass RX7 = some m.cls := findClass_of_methodNamed B.named
  have hlocks := B.notSynchronized
  have hS : va_S (FR w) s.heap s.heap [] := va_S.rf
  show W p l e ({ frames := 1, cells := 0, slots := 0, locals := 30 } : Room) s m _ below meth c s.heap [] 0 0 (MQ below (QV w K out S) _ s 0 0 (FR w)) _
  have hl := lv_entry ([.ref p0, .ref p1]) (n := 4) (Nat.le_of_ble_eq_true rfl)
  rw [lg_entry_eq]
  generalize (lg_sl ([.ref p0, .ref p1]) ++ List.replicate (4 - (lg_sl ([.ref p0, .ref p1])).length) Slot.unset).toArray = ls at hl ⊢
  clear B
  generalize ([.ref p0, .ref p1] : List Value).toArray = args at hts ⊢
  have B10 : ∀ n : Nat, ∀ (g : GM) (x2 : Int32) (x3 : Int32) (H : Heap) (locs : List Loc) (ls : Array Slot), HR w K g S H → va_S (FR w) s.heap H locs → lv_has ls 4 [(0, .ref p0), (1, .ref p1), (2, .int x2), (3, .int x3)] → f7_copyTexts_10 K p0 p1 n g x2 x3 = some out → W p l e ({ frames := 1, cells := 0, slots := 0, locals := 30 } : Room) s m args below meth c H locs 0 0 (MQ below (QV w K out S) args s 0 0 (FR w)) (F0 m 10 ls []) := by
    intro n
    induction n with
    | zero =>
      intro g x2 x3 H locs ls hH hS hl hf
      cases hf
    | succ n ih =>
      intro g x2 x3 H locs ls hH hS hl hf
      rw [f7_copyTexts_10] at hf
      refine lv_iload_n hx hb dX7_copyTexts_10 rfl (lv_at hl 3 rfl) ?_
      refine lv_iload_n hx hb dX7_copyTexts_11 rfl (lv_at hl 2 rfl) ?_
      have hg := gif hf
      refine lv_icmp_ge (tgt := 27) hx hb dX7_copyTexts_12 (by decide) (fun c1 => ?_) (fun c1 => ?_)
      · have hf := hg.1 c1
        have ho := Option.some.inj hf
        exact W.vret hx hb hr (fun t ht hW => ⟨⟨(), rfl, trivial, hrV ht ho hH⟩, hS.F ht⟩) hS.2.2 dX7_copyTexts_27
      · have hf := hg.2 c1
        refine lv_aload_n hx hb dX7_copyTexts_15 rfl (lv_at hl 1 rfl) ?_
        refine lv_iload_n hx hb dX7_copyTexts_16 rfl (lv_at hl 3 rfl) ?_
        refine lv_aload_n hx hb dX7_copyTexts_17 rfl (lv_at hl 0 rfl) ?_
        refine lv_iload_n hx hb dX7_copyTexts_18 rfl (lv_at hl 3 rfl) ?_
        obtain ⟨k3, hf⟩ := gd_some hf
        have k3 := gk_arr k3
        obtain ⟨h4, hf⟩ := gd_some hf
        refine g_tald hx hb hK hH k3 h4 dX7_copyTexts_19 ?_
        rcases gopt_c hf with ⟨q6, hf⟩ | ⟨t5, q6, hf⟩
        · refine g_rfN q6 ?_
          obtain ⟨k8, hf⟩ := gd_some hf
          have k8 := gk_arr k8
          obtain ⟨h9, hf⟩ := gd_some hf
          refine g_tastN hx hb hK hH hS k8 h9 dX7_copyTexts_20 (fun H locs hH hS => ?_)
          obtain ⟨g10, eg10⟩ : ∃ z : GM, z = gsR g p1 x3.toNatClampNeg none := ⟨_, rfl⟩
          have hf := gl_at hf eg10
          replace hH : HR w K g10 S H := by rw [eg10]; exact hH
          obtain ⟨v11, ev11⟩ : ∃ z : Int32, z = x3 + 1 := ⟨_, rfl⟩
          have hf := gl_at hf ev11
          refine lv_iinc (v := v11) (lv' := [(3, .int v11), (0, .ref p0), (1, .ref p1), (2, .int x2)]) hx hb dX7_copyTexts_21 hl (k := 3) rfl (by rw [ev11]; rfl) (by decide) rfl (fun ls hl => ?_)
          refine lv_goto (tgt := 10) hx hb dX7_copyTexts_24 (by decide) ?_
          exact ih _ _ _ _ _ _ hH hS (lv_sub hl [1, 2, 3, 0] rfl) hf
        · refine g_rfS q6 ?_
          obtain ⟨k13, hf⟩ := gd_some hf
          have k13 := gk_arr k13
          obtain ⟨k14, hf⟩ := gd_some hf
          have k14 := gk_obj k14
          obtain ⟨h15, hf⟩ := gd_some hf
          refine g_tast hx hb hK hH hS k13 k14 h15 dX7_copyTexts_20 (fun H locs hH hS => ?_)
          obtain ⟨g16, eg16⟩ : ∃ z : GM, z = gsR g p1 x3.toNatClampNeg (some t5) := ⟨_, rfl⟩
          have hf := gl_at hf eg16
          replace hH : HR w K g16 S H := by rw [eg16]; exact hH
          obtain ⟨v17, ev17⟩ : ∃ z : Int32, z = x3 + 1 := ⟨_, rfl⟩
          have hf := gl_at hf ev17
          refine lv_iinc (v := v17) (lv' := [(3, .int v17), (0, .ref p0), (1, .ref p1), (2, .int x2)]) hx hb dX7_copyTexts_21 hl (k := 3) rfl (by rw [ev17]; rfl) (by decide) rfl (fun ls hl => ?_)
          refine lv_goto (tgt := 10) hx hb dX7_copyTexts_24 (by decide) ?_
          exact ih _ _ _ _ _ _ hH hS (lv_sub hl [1, 2, 3, 0] rfl) hf
  have hl : lv_has ls 4 [(0, .ref p0), (1, .ref p1)] := hl
  refine lv_aload_n hx hb dX7_copyTexts_0 rfl (lv_at hl 0 rfl) ?_
  obtain ⟨k18, hf⟩ := gd_some hf
  have k18 := gk_arr k18
  refine g_alen hx hb hK hH k18 (Or.inr rfl) dX7_copyTexts_1 ?_
  refine lv_aload_n hx hb dX7_copyTexts_2 rfl (lv_at hl 1 rfl) ?_
  obtain ⟨k19, hf⟩ := gd_some hf
  have k19 := gk_arr k19
  refine g_alen hx hb hK hH k19 (Or.inr rfl) dX7_copyTexts_3 ?_
  refine va_mmin hx hb (hml.trans hl.1.symm) hown (hts _ wd_143) (hts _ wd_134) (hts _ wd_135) (hts _ wd_136) (Nat.le_of_ble_eq_true rfl) (Nat.le_of_ble_eq_true rfl) (Nat.le_of_ble_eq_true rfl) (Nat.le_of_ble_eq_true rfl) dX7_copyTexts_4 ?_
  refine lv_topi (fun v20 ev20 => ?_)
  have hf := gl_at hf ev20
  refine lv_istore_n (lv' := [(2, .int v20), (0, .ref p0), (1, .ref p1)]) hx hb dX7_copyTexts_7 rfl hl (by decide) rfl (fun ls hl => ?_)
  refine lv_iconst (v := 0) hx hb dX7_copyTexts_8 (by decide) ?_
  refine lv_istore_n (lv' := [(3, .int 0), (2, .int v20), (0, .ref p0), (1, .ref p1)]) hx hb dX7_copyTexts_9 rfl hl (by decide) rfl (fun ls hl => ?_)
  exact B10 _ _ _ _ _ _ _ hH hS (lv_sub hl [2, 3, 1, 0] rfl) hf
set_option maxRecDepth 100000 in
set_option maxHeartbeats 8000000 in
theorem c0_copyFrom (l : Launch) (w : GW) (K : GK) (g : GM) (S : GS) (a : Nat) (p0 : Nat) (out : GM) (hf : f0_copyFrom K g a p0 = some out) (hk0 : gkd K a = 1) : Met l yX0_copyFrom (wA yX0_copyFrom cX0_copyFrom 2 none) ({ frames := 2, cells := 0, slots := 0, locals := 81 } : Room) (PRE w K g S [.ref a, .ref p0]) (QV w K out S) 0 0 (FR w) := by
  unfold f0_copyFrom at hf
  refine Met.ofW (cc := cX0_copyFrom) (maxL := 2) (ret := none) (by decide) rfl ?_
  intro p e s m args below meth c s₁ B hml hv
  obtain ⟨rfl, hH, hK⟩ := hv
  have hx := B.exec
  have hb := B.bytes
  have hr := B.returns
  have hts : ∀ q ∈ gALL, q.before _ s = true := fun q h => atoms_spec (ws := (wA yX0_copyFrom cX0_copyFrom 2 none)) B.pre q (List.mem_cons_of_mem _ h)
  have hown : s.vm.findClass RX0 = some m.cls := findClass_of_methodNamed B.named
  have hlocks := B.notSynchronized
  have hS : va_S (FR w) s.heap s.heap [] := va_S.rf
  show W p l e ({ frames := 2, cells := 0, slots := 0, locals := 81 } : Room) s m _ below meth c s.heap [] 0 0 (MQ below (QV w K out S) _ s 0 0 (FR w)) _
  have hl := lv_entry ([.ref a, .ref p0]) (n := 2) (Nat.le_of_ble_eq_true rfl)
  rw [lg_entry_eq]
  generalize (lg_sl ([.ref a, .ref p0]) ++ List.replicate (2 - (lg_sl ([.ref a, .ref p0])).length) Slot.unset).toArray = ls at hl ⊢
  clear B
  generalize ([.ref a, .ref p0] : List Value).toArray = args at hts ⊢
  have hl : lv_has ls 2 [(0, .ref a), (1, .ref p0)] := hl
  refine lv_aload_n hx hb dX0_copyFrom_0 rfl (lv_at hl 1 rfl) ?_
  obtain ⟨k1, hf⟩ := gd_some hf
  have k1 := gk_obj k1
  have k2 : K.1 (p0 + 1) = (10, 9) := hH.sub k1 0 (t := (1, 10, 9)) rfl
  refine e_0_0 hx hb hts hown hK hH k1 (hts _ wd_76) dX0_copyFrom_1 ?_
  refine lv_aload_n hx hb dX0_copyFrom_4 rfl (lv_at hl 0 rfl) ?_
  have k3 : K.1 (a + 1) = (10, 9) := hH.sub hk0 0 (t := (1, 10, 9)) rfl
  refine e_0_0 hx hb hts hown hK hH hk0 (hts _ wd_76) dX0_copyFrom_5 ?_
  obtain ⟨g4, h5, hf⟩ := gbind hf
  refine g_SvN (As := [.ref (p0 + 1), .ref (a + 1)]) (rest := []) ⟨hx, hb, hml, hown, hts⟩ (c7_copyRow l w K g S (p0 + 1) (a + 1) g4 h5) (gcwSN (host := "CallingLooms") hts i7_copyRow hK (List.mem_of_getElem? (i := 0) rfl) rfl rfl ⟨Nat.le_of_ble_eq_true rfl, Nat.le_of_ble_eq_true rfl⟩) hH hK hS hl.1 rfl rfl (Nat.le_of_ble_eq_true rfl) dX0_copyFrom_8 ⟨Nat.le_refl _, Nat.le_refl _⟩ (fun H locs hH hS => ?_)
  refine lv_aload_n hx hb dX0_copyFrom_11 rfl (lv_at hl 1 rfl) ?_
  have k6 : K.1 (p0 + 2) = (10, 9) := hH.sub k1 1 (t := (2, 10, 9)) rfl
  refine e_0_1 hx hb hts hown hK hH k1 (hts _ wd_77) dX0_copyFrom_12 ?_
  refine lv_aload_n hx hb dX0_copyFrom_15 rfl (lv_at hl 0 rfl) ?_
  have k7 : K.1 (a + 2) = (10, 9) := hH.sub hk0 1 (t := (2, 10, 9)) rfl
  refine e_0_1 hx hb hts hown hK hH hk0 (hts _ wd_77) dX0_copyFrom_16 ?_
  obtain ⟨g8, h9, hf⟩ := gbind hf
  refine g_SvN (As := [.ref (p0 + 2), .ref (a + 2)]) (rest := []) ⟨hx, hb, hml, hown, hts⟩ (c7_copyRow l w K g4 S (p0 + 2) (a + 2) g8 h9) (gcwSN (host := "CallingLooms") hts i7_copyRow hK (List.mem_of_getElem? (i := 0) rfl) rfl rfl ⟨Nat.le_of_ble_eq_true rfl, Nat.le_of_ble_eq_true rfl⟩) hH hK hS hl.1 rfl rfl (Nat.le_of_ble_eq_true rfl) dX0_copyFrom_19 ⟨Nat.le_refl _, Nat.le_refl _⟩ (fun H locs hH hS => ?_)
  refine lv_aload_n hx hb dX0_copyFrom_22 rfl (lv_at hl 1 rfl) ?_
  have k10 : K.1 (p0 + 3) = (10, 9) := hH.sub k1 2 (t := (3, 10, 9)) rfl
  refine e_0_2 hx hb hts hown hK hH k1 (hts _ wd_78) dX0_copyFrom_23 ?_
  refine lv_aload_n hx hb dX0_copyFrom_26 rfl (lv_at hl 0 rfl) ?_
  have k11 : K.1 (a + 3) = (10, 9) := hH.sub hk0 2 (t := (3, 10, 9)) rfl
  refine e_0_2 hx hb hts hown hK hH hk0 (hts _ wd_78) dX0_copyFrom_27 ?_
  obtain ⟨g12, h13, hf⟩ := gbind hf
  refine g_SvN (As := [.ref (p0 + 3), .ref (a + 3)]) (rest := []) ⟨hx, hb, hml, hown, hts⟩ (c7_copyRow l w K g8 S (p0 + 3) (a + 3) g12 h13) (gcwSN (host := "CallingLooms") hts i7_copyRow hK (List.mem_of_getElem? (i := 0) rfl) rfl rfl ⟨Nat.le_of_ble_eq_true rfl, Nat.le_of_ble_eq_true rfl⟩) hH hK hS hl.1 rfl rfl (Nat.le_of_ble_eq_true rfl) dX0_copyFrom_30 ⟨Nat.le_refl _, Nat.le_refl _⟩ (fun H locs hH hS => ?_)
  refine lv_aload_n hx hb dX0_copyFrom_33 rfl (lv_at hl 1 rfl) ?_
  have k14 : K.1 (p0 + 4) = (10, 36) := hH.sub k1 3 (t := (4, 10, 36)) rfl
  refine e_0_3 hx hb hts hown hK hH k1 (hts _ wd_79) dX0_copyFrom_34 ?_
  refine lv_aload_n hx hb dX0_copyFrom_37 rfl (lv_at hl 0 rfl) ?_
  have k15 : K.1 (a + 4) = (10, 36) := hH.sub hk0 3 (t := (4, 10, 36)) rfl
  refine e_0_3 hx hb hts hown hK hH hk0 (hts _ wd_79) dX0_copyFrom_38 ?_
  obtain ⟨g16, h17, hf⟩ := gbind hf
  refine g_SvN (As := [.ref (p0 + 4), .ref (a + 4)]) (rest := []) ⟨hx, hb, hml, hown, hts⟩ (c7_copyRow l w K g12 S (p0 + 4) (a + 4) g16 h17) (gcwSN (host := "CallingLooms") hts i7_copyRow hK (List.mem_of_getElem? (i := 0) rfl) rfl rfl ⟨Nat.le_of_ble_eq_true rfl, Nat.le_of_ble_eq_true rfl⟩) hH hK hS hl.1 rfl rfl (Nat.le_of_ble_eq_true rfl) dX0_copyFrom_41 ⟨Nat.le_refl _, Nat.le_refl _⟩ (fun H locs hH hS => ?_)
  refine lv_aload_n hx hb dX0_copyFrom_44 rfl (lv_at hl 1 rfl) ?_
  have k18 : K.1 (p0 + 5) = (10, 36) := hH.sub k1 4 (t := (5, 10, 36)) rfl
  refine e_0_4 hx hb hts hown hK hH k1 (hts _ wd_80) dX0_copyFrom_45 ?_
  refine lv_aload_n hx hb dX0_copyFrom_48 rfl (lv_at hl 0 rfl) ?_
  have k19 : K.1 (a + 5) = (10, 36) := hH.sub hk0 4 (t := (5, 10, 36)) rfl
  refine e_0_4 hx hb hts hown hK hH hk0 (hts _ wd_80) dX0_copyFrom_49 ?_
  obtain ⟨g20, h21, hf⟩ := gbind hf
  refine g_SvN (As := [.ref (p0 + 5), .ref (a + 5)]) (rest := []) ⟨hx, hb, hml, hown, hts⟩ (c7_copyRow l w K g16 S (p0 + 5) (a + 5) g20 h21) (gcwSN (host := "CallingLooms") hts i7_copyRow hK (List.mem_of_getElem? (i := 0) rfl) rfl rfl ⟨Nat.le_of_ble_eq_true rfl, Nat.le_of_ble_eq_true rfl⟩) hH hK hS hl.1 rfl rfl (Nat.le_of_ble_eq_true rfl) dX0_copyFrom_52 ⟨Nat.le_refl _, Nat.le_refl _⟩ (fun H locs hH hS => ?_)
  refine lv_aload_n hx hb dX0_copyFrom_55 rfl (lv_at hl 1 rfl) ?_
  have k22 : K.1 (p0 + 6) = (13, 9) := hH.sub k1 5 (t := (6, 13, 9)) rfl
  refine e_0_5 hx hb hts hown hK hH k1 (hts _ wd_82) dX0_copyFrom_56 ?_
  refine lv_aload_n hx hb dX0_copyFrom_59 rfl (lv_at hl 0 rfl) ?_
  have k23 : K.1 (a + 6) = (13, 9) := hH.sub hk0 5 (t := (6, 13, 9)) rfl
  refine e_0_5 hx hb hts hown hK hH hk0 (hts _ wd_82) dX0_copyFrom_60 ?_
  obtain ⟨g24, h25, hf⟩ := gbind hf
  refine g_SvN (As := [.ref (p0 + 6), .ref (a + 6)]) (rest := []) ⟨hx, hb, hml, hown, hts⟩ (c7_copyTexts l w K g20 S (p0 + 6) (a + 6) g24 h25) (gcwSN (host := "CallingLooms") hts i7_copyTexts hK (List.mem_of_getElem? (i := 1) rfl) rfl rfl ⟨Nat.le_of_ble_eq_true rfl, Nat.le_of_ble_eq_true rfl⟩) hH hK hS hl.1 rfl rfl (Nat.le_of_ble_eq_true rfl) dX0_copyFrom_63 ⟨Nat.le_refl _, Nat.le_refl _⟩ (fun H locs hH hS => ?_)
  refine lv_aload_n hx hb dX0_copyFrom_66 rfl (lv_at hl 0 rfl) ?_
  refine lv_aload_n hx hb dX0_copyFrom_67 rfl (lv_at hl 1 rfl) ?_
  refine e_0_6 hx hb hts hown hK hH k1 (hts _ wd_83) dX0_copyFrom_68 ?_
  refine p_0_6 hx hb hts hown hK hH hS hk0 (hts _ wd_83) dX0_copyFrom_71 (fun H locs hH hS => ?_)
  obtain ⟨g26, eg26⟩ : ∃ z : GM, z = gsI g24 a 6 (gI g24 p0 6) := ⟨_, rfl⟩
  have hf := gl_at hf eg26
  replace hH : HR w K g26 S H := by rw [eg26]; exact hH
  have ho := Option.some.inj hf
  exact W.vret hx hb hr (fun t ht hW => ⟨⟨(), rfl, trivial, hrV ht ho hH⟩, hS.F ht⟩) hS.2.2 dX0_copyFrom_74
set_option maxRecDepth 100000 in
set_option maxHeartbeats 8000000 in
theorem c0_dye (l : Launch) (w : GW) (K : GK) (g : GM) (S : GS) (a : Nat) (p0 : Int32) (out : GM) (hf : f0_dye K g a p0 = some out) (hk0 : gkd K a = 1) : Met l yX0_dye (wA yX0_dye cX0_dye 2 none) ({ frames := 0, cells := 0, slots := 0, locals := 0 } : Room) (PRE w K g S [.ref a, .int p0]) (QV w K out S) 0 0 (FR w) := by
  unfold f0_dye at hf
  refine Met.ofW (cc := cX0_dye) (maxL := 2) (ret := none) (by decide) rfl ?_
  intro p e s m args below meth c s₁ B hml hv
  obtain ⟨rfl, hH, hK⟩ := hv
  have hx := B.exec
  have hb := B.bytes
  have hr := B.returns
  have hts : ∀ q ∈ gALL, q.before _ s = true := fun q h => atoms_spec (ws := (wA yX0_dye cX0_dye 2 none)) B.pre q (List.mem_cons_of_mem _ h)
  have hown : s.vm.findClass RX0 = some m.cls := findClass_of_methodNamed B.named
  have hlocks := B.notSynchronized
  have hS : va_S (FR w) s.heap s.heap [] := va_S.rf
  show W p l e ({ frames := 0, cells := 0, slots := 0, locals := 0 } : Room) s m _ below meth c s.heap [] 0 0 (MQ below (QV w K out S) _ s 0 0 (FR w)) _
  have hl := lv_entry ([.ref a, .int p0]) (n := 2) (Nat.le_of_ble_eq_true rfl)
  rw [lg_entry_eq]
  generalize (lg_sl ([.ref a, .int p0]) ++ List.replicate (2 - (lg_sl ([.ref a, .int p0])).length) Slot.unset).toArray = ls at hl ⊢
  clear B
  generalize ([.ref a, .int p0] : List Value).toArray = args at hts ⊢
  have hl : lv_has ls 2 [(0, .ref a), (1, .int p0)] := hl
  refine lv_aload_n hx hb dX0_dye_0 rfl (lv_at hl 0 rfl) ?_
  refine e_0_6 hx hb hts hown hK hH hk0 (hts _ wd_83) dX0_dye_1 ?_
  have hg := gif hf
  refine lv_if_le (tgt := 19) hx hb dX0_dye_4 (by decide) (fun c1 => ?_) (fun c1 => ?_)
  · have hf := hg.1 c1
    have ho := Option.some.inj hf
    exact W.vret hx hb hr (fun t ht hW => ⟨⟨(), rfl, trivial, hrV ht ho hH⟩, hS.F ht⟩) hS.2.2 dX0_dye_19
  · have hf := hg.2 c1
    refine lv_aload_n hx hb dX0_dye_7 rfl (lv_at hl 0 rfl) ?_
    have k2 : K.1 (a + 2) = (10, 9) := hH.sub hk0 1 (t := (2, 10, 9)) rfl
    refine e_0_1 hx hb hts hown hK hH hk0 (hts _ wd_77) dX0_dye_8 ?_
    refine lv_aload_n hx hb dX0_dye_11 rfl (lv_at hl 0 rfl) ?_
    refine e_0_6 hx hb hts hown hK hH hk0 (hts _ wd_83) dX0_dye_12 ?_
    refine lv_iconst (v := 1) hx hb dX0_dye_15 (by decide) ?_
    refine lv_isub hx hb dX0_dye_16 ?_
    refine lv_iload_n hx hb dX0_dye_17 rfl (lv_at hl 1 rfl) ?_
    obtain ⟨h4, hf⟩ := gd_some hf
    refine g_iast hx hb hK hH hS k2 h4 dX0_dye_18 (fun H locs hH hS => ?_)
    obtain ⟨g5, eg5⟩ : ∃ z : GM, z = gsI g (a + 2) ((gI g a 6) - 1).toNatClampNeg p0 := ⟨_, rfl⟩
    have hf := gl_at hf eg5
    replace hH : HR w K g5 S H := by rw [eg5]; exact hH
    have ho := Option.some.inj hf
    exact W.vret hx hb hr (fun t ht hW => ⟨⟨(), rfl, trivial, hrV ht ho hH⟩, hS.F ht⟩) hS.2.2 dX0_dye_19
set_option maxRecDepth 100000 in
set_option maxHeartbeats 8000000 in
theorem c0_layOn (l : Launch) (w : GW) (K : GK) (g : GM) (S : GS) (a : Nat) (p0 : Int32) (p1 : Option Nat) (p2 : Int32) (out : GM) (hf : f0_layOn K g a p0 p1 p2 = some out) (hk0 : gkd K a = 1) : Met l yX0_layOn (wA yX0_layOn cX0_layOn 4 none) ({ frames := 1, cells := 0, slots := 0, locals := 21 } : Room) (PRE w K g S [.ref a, .int p0, va_rf p1, .int p2]) (QV w K out S) 0 0 (FR w) := by
  unfold f0_layOn at hf
  rcases gopt_c hf with ⟨rfl, hf⟩ | ⟨tp1, rfl, hf⟩
  · show Met l yX0_layOn (wA yX0_layOn cX0_layOn 4 none) ({ frames := 1, cells := 0, slots := 0, locals := 21 } : Room) (PRE w K g S [.ref a, .int p0, .null, .int p2]) (QV w K out S) 0 0 (FR w)
    refine Met.ofW (cc := cX0_layOn) (maxL := 4) (ret := none) (by decide) rfl ?_
    intro p e s m args below meth c s₁ B hml hv
    obtain ⟨rfl, hH, hK⟩ := hv
    have hx := B.exec
    have hb := B.bytes
    have hr := B.returns
    have hts : ∀ q ∈ gALL, q.before _ s = true := fun q h => atoms_spec (ws := (wA yX0_layOn cX0_layOn 4 none)) B.pre q (List.mem_cons_of_mem _ h)
    have hown : s.vm.findClass RX0 = some m.cls := findClass_of_methodNamed B.named
    have hlocks := B.notSynchronized
    have hS : va_S (FR w) s.heap s.heap [] := va_S.rf
    show W p l e ({ frames := 1, cells := 0, slots := 0, locals := 21 } : Room) s m _ below meth c s.heap [] 0 0 (MQ below (QV w K out S) _ s 0 0 (FR w)) _
    have hl := lv_entry ([.ref a, .int p0, .null, .int p2]) (n := 4) (Nat.le_of_ble_eq_true rfl)
    rw [lg_entry_eq]
    generalize (lg_sl ([.ref a, .int p0, .null, .int p2]) ++ List.replicate (4 - (lg_sl ([.ref a, .int p0, .null, .int p2])).length) Slot.unset).toArray = ls at hl ⊢
    clear B
    generalize ([.ref a, .int p0, .null, .int p2] : List Value).toArray = args at hts ⊢
    have hl : lv_has ls 4 [(0, .ref a), (1, .int p0), (2, .null), (3, .int p2)] := hl
    refine lv_aload_nN hx hb dX0_layOn_0 rfl (lv_at hl 2 rfl) ?_
    refine lv_ifnullN (tgt := 13) hx hb dX0_layOn_1 (by decide) ?_
    have ho := Option.some.inj hf
    exact W.vret hx hb hr (fun t ht hW => ⟨⟨(), rfl, trivial, hrV ht ho hH⟩, hS.F ht⟩) hS.2.2 dX0_layOn_13
  · show Met l yX0_layOn (wA yX0_layOn cX0_layOn 4 none) ({ frames := 1, cells := 0, slots := 0, locals := 21 } : Room) (PRE w K g S [.ref a, .int p0, .ref tp1, .int p2]) (QV w K out S) 0 0 (FR w)
    refine Met.ofW (cc := cX0_layOn) (maxL := 4) (ret := none) (by decide) rfl ?_
    intro p e s m args below meth c s₁ B hml hv
    obtain ⟨rfl, hH, hK⟩ := hv
    have hx := B.exec
    have hb := B.bytes
    have hr := B.returns
    have hts : ∀ q ∈ gALL, q.before _ s = true := fun q h => atoms_spec (ws := (wA yX0_layOn cX0_layOn 4 none)) B.pre q (List.mem_cons_of_mem _ h)
    have hown : s.vm.findClass RX0 = some m.cls := findClass_of_methodNamed B.named
    have hlocks := B.notSynchronized
    have hS : va_S (FR w) s.heap s.heap [] := va_S.rf
    show W p l e ({ frames := 1, cells := 0, slots := 0, locals := 21 } : Room) s m _ below meth c s.heap [] 0 0 (MQ below (QV w K out S) _ s 0 0 (FR w)) _
    have hl := lv_entry ([.ref a, .int p0, .ref tp1, .int p2]) (n := 4) (Nat.le_of_ble_eq_true rfl)
    rw [lg_entry_eq]
    generalize (lg_sl ([.ref a, .int p0, .ref tp1, .int p2]) ++ List.replicate (4 - (lg_sl ([.ref a, .int p0, .ref tp1, .int p2])).length) Slot.unset).toArray = ls at hl ⊢
    clear B
    generalize ([.ref a, .int p0, .ref tp1, .int p2] : List Value).toArray = args at hts ⊢
    have hl : lv_has ls 4 [(0, .ref a), (1, .int p0), (2, .ref tp1), (3, .int p2)] := hl
    refine lv_aload_n hx hb dX0_layOn_0 rfl (lv_at hl 2 rfl) ?_
    refine lv_ifnull hx hb dX0_layOn_1 ?_
    refine lv_aload_n hx hb dX0_layOn_4 rfl (lv_at hl 0 rfl) ?_
    refine e_0_6 hx hb hts hown hK hH hk0 (hts _ wd_83) dX0_layOn_5 ?_
    refine lv_bipush (v := 9) hx hb dX0_layOn_8 (by decide) ?_
    have hg := gif hf
    refine lv_icmp_lt (tgt := 14) hx hb dX0_layOn_10 (by decide) (fun c1 => ?_) (fun c1 => ?_)
    · have hf := hg.1 c1
      refine lv_aload_n hx hb dX0_layOn_14 rfl (lv_at hl 0 rfl) ?_
      have k2 : K.1 (a + 1) = (10, 9) := hH.sub hk0 0 (t := (1, 10, 9)) rfl
      refine e_0_0 hx hb hts hown hK hH hk0 (hts _ wd_76) dX0_layOn_15 ?_
      refine lv_aload_n hx hb dX0_layOn_18 rfl (lv_at hl 0 rfl) ?_
      refine e_0_6 hx hb hts hown hK hH hk0 (hts _ wd_83) dX0_layOn_19 ?_
      refine lv_iload_n hx hb dX0_layOn_22 rfl (lv_at hl 1 rfl) ?_
      obtain ⟨h4, hf⟩ := gd_some hf
      refine g_iast hx hb hK hH hS k2 h4 dX0_layOn_23 (fun H locs hH hS => ?_)
      obtain ⟨g5, eg5⟩ : ∃ z : GM, z = gsI g (a + 1) (gI g a 6).toNatClampNeg p0 := ⟨_, rfl⟩
      have hf := gl_at hf eg5
      replace hH : HR w K g5 S H := by rw [eg5]; exact hH
      refine lv_aload_n hx hb dX0_layOn_24 rfl (lv_at hl 0 rfl) ?_
      have k6 : K.1 (a + 6) = (13, 9) := hH.sub hk0 5 (t := (6, 13, 9)) rfl
      refine e_0_5 hx hb hts hown hK hH hk0 (hts _ wd_82) dX0_layOn_25 ?_
      refine lv_aload_n hx hb dX0_layOn_28 rfl (lv_at hl 0 rfl) ?_
      refine e_0_6 hx hb hts hown hK hH hk0 (hts _ wd_83) dX0_layOn_29 ?_
      refine lv_aload_n hx hb dX0_layOn_32 rfl (lv_at hl 2 rfl) ?_
      obtain ⟨k8, hf⟩ := gd_some hf
      have k8 := gk_obj k8
      obtain ⟨h9, hf⟩ := gd_some hf
      refine g_tast hx hb hK hH hS k6 k8 h9 dX0_layOn_33 (fun H locs hH hS => ?_)
      obtain ⟨g10, eg10⟩ : ∃ z : GM, z = gsR g5 (a + 6) (gI g5 a 6).toNatClampNeg (some tp1) := ⟨_, rfl⟩
      have hf := gl_at hf eg10
      replace hH : HR w K g10 S H := by rw [eg10]; exact hH
      refine lv_aload_n hx hb dX0_layOn_34 rfl (lv_at hl 0 rfl) ?_
      have k11 : K.1 (a + 2) = (10, 9) := hH.sub hk0 1 (t := (2, 10, 9)) rfl
      refine e_0_1 hx hb hts hown hK hH hk0 (hts _ wd_77) dX0_layOn_35 ?_
      refine lv_aload_n hx hb dX0_layOn_38 rfl (lv_at hl 0 rfl) ?_
      refine e_0_6 hx hb hts hown hK hH hk0 (hts _ wd_83) dX0_layOn_39 ?_
      refine lv_iload_n hx hb dX0_layOn_42 rfl (lv_at hl 3 rfl) ?_
      obtain ⟨h13, hf⟩ := gd_some hf
      refine g_iast hx hb hK hH hS k11 h13 dX0_layOn_43 (fun H locs hH hS => ?_)
      obtain ⟨g14, eg14⟩ : ∃ z : GM, z = gsI g10 (a + 2) (gI g10 a 6).toNatClampNeg p2 := ⟨_, rfl⟩
      have hf := gl_at hf eg14
      replace hH : HR w K g14 S H := by rw [eg14]; exact hH
      refine lv_aload_n hx hb dX0_layOn_44 rfl (lv_at hl 0 rfl) ?_
      have k15 : K.1 (a + 3) = (10, 9) := hH.sub hk0 2 (t := (3, 10, 9)) rfl
      refine e_0_2 hx hb hts hown hK hH hk0 (hts _ wd_78) dX0_layOn_45 ?_
      refine lv_aload_n hx hb dX0_layOn_48 rfl (lv_at hl 0 rfl) ?_
      refine e_0_6 hx hb hts hown hK hH hk0 (hts _ wd_83) dX0_layOn_49 ?_
      refine lv_iconst (v := 0) hx hb dX0_layOn_52 (by decide) ?_
      obtain ⟨h17, hf⟩ := gd_some hf
      refine g_iast hx hb hK hH hS k15 h17 dX0_layOn_53 (fun H locs hH hS => ?_)
      obtain ⟨g18, eg18⟩ : ∃ z : GM, z = gsI g14 (a + 3) (gI g14 a 6).toNatClampNeg 0 := ⟨_, rfl⟩
      have hf := gl_at hf eg18
      replace hH : HR w K g18 S H := by rw [eg18]; exact hH
      refine lv_aload_n hx hb dX0_layOn_54 rfl (lv_at hl 0 rfl) ?_
      have k19 : K.1 (a + 4) = (10, 36) := hH.sub hk0 3 (t := (4, 10, 36)) rfl
      refine e_0_3 hx hb hts hown hK hH hk0 (hts _ wd_79) dX0_layOn_55 ?_
      refine lv_aload_n hx hb dX0_layOn_58 rfl (lv_at hl 0 rfl) ?_
      refine e_0_6 hx hb hts hown hK hH hk0 (hts _ wd_83) dX0_layOn_59 ?_
      refine lv_iconst (v := 4) hx hb dX0_layOn_62 (by decide) ?_
      refine lv_imul hx hb dX0_layOn_63 ?_
      refine lv_iconst (v := 0) hx hb dX0_layOn_64 (by decide) ?_
      obtain ⟨h21, hf⟩ := gd_some hf
      refine g_iast hx hb hK hH hS k19 h21 dX0_layOn_65 (fun H locs hH hS => ?_)
      obtain ⟨g22, eg22⟩ : ∃ z : GM, z = gsI g18 (a + 4) ((gI g18 a 6) * 4).toNatClampNeg 0 := ⟨_, rfl⟩
      have hf := gl_at hf eg22
      replace hH : HR w K g22 S H := by rw [eg22]; exact hH
      refine lv_aload_n hx hb dX0_layOn_66 rfl (lv_at hl 0 rfl) ?_
      have k23 : K.1 (a + 5) = (10, 36) := hH.sub hk0 4 (t := (5, 10, 36)) rfl
      refine e_0_4 hx hb hts hown hK hH hk0 (hts _ wd_80) dX0_layOn_67 ?_
      refine lv_aload_n hx hb dX0_layOn_70 rfl (lv_at hl 0 rfl) ?_
      refine e_0_6 hx hb hts hown hK hH hk0 (hts _ wd_83) dX0_layOn_71 ?_
      refine lv_iconst (v := 4) hx hb dX0_layOn_74 (by decide) ?_
      refine lv_imul hx hb dX0_layOn_75 ?_
      refine lv_aload_n hx hb dX0_layOn_76 rfl (lv_at hl 2 rfl) ?_
      refine lv_iconst (v := 0) hx hb dX0_layOn_77 (by decide) ?_
      obtain ⟨v24, h25, hf⟩ := gbind hf
      refine g_Vi (As := [.int 0]) (rest := [.int ((gI g22 a 6) * 4), .ref (a + 5)]) ⟨hx, hb, hml, hown, hts⟩ (c1_timesAt l w K g22 S tp1 0 v24 h25 k8) (gcwV hts i1_timesAt wd_348 rfl rfl ⟨Nat.le_of_ble_eq_true rfl, Nat.le_of_ble_eq_true rfl⟩) (gRecv.of hK rfl (hH.o2 k8)) hH hK hS hl.1 rfl rfl (Nat.le_of_ble_eq_true rfl) dX0_layOn_78 ⟨Nat.le_refl _, Nat.le_refl _⟩ (fun H locs hH hS => ?_)
      obtain ⟨h27, hf⟩ := gd_some hf
      refine g_iast hx hb hK hH hS k23 h27 dX0_layOn_81 (fun H locs hH hS => ?_)
      obtain ⟨g28, eg28⟩ : ∃ z : GM, z = gsI g22 (a + 5) ((gI g22 a 6) * 4).toNatClampNeg v24 := ⟨_, rfl⟩
      have hf := gl_at hf eg28
      replace hH : HR w K g28 S H := by rw [eg28]; exact hH
      refine lv_aload_n hx hb dX0_layOn_82 rfl (lv_at hl 0 rfl) ?_
      refine lv_dup hx hb dX0_layOn_83 rfl ?_
      refine e_0_6 hx hb hts hown hK hH hk0 (hts _ wd_83) dX0_layOn_84 ?_
      refine lv_iconst (v := 1) hx hb dX0_layOn_87 (by decide) ?_
      refine lv_iadd hx hb dX0_layOn_88 ?_
      refine p_0_6 hx hb hts hown hK hH hS hk0 (hts _ wd_83) dX0_layOn_89 (fun H locs hH hS => ?_)
      obtain ⟨g29, eg29⟩ : ∃ z : GM, z = gsI g28 a 6 ((gI g28 a 6) + 1) := ⟨_, rfl⟩
      have hf := gl_at hf eg29
      replace hH : HR w K g29 S H := by rw [eg29]; exact hH
      have ho := Option.some.inj hf
      exact W.vret hx hb hr (fun t ht hW => ⟨⟨(), rfl, trivial, hrV ht ho hH⟩, hS.F ht⟩) hS.2.2 dX0_layOn_92
    · have hf := hg.2 c1
      have ho := Option.some.inj hf
      exact W.vret hx hb hr (fun t ht hW => ⟨⟨(), rfl, trivial, hrV ht ho hH⟩, hS.F ht⟩) hS.2.2 dX0_layOn_13
set_option maxRecDepth 100000 in
set_option maxHeartbeats 8000000 in
theorem c1_signAt (l : Launch) (w : GW) (K : GK) (g : GM) (S : GS) (a : Nat) (p0 : Int32) (out : Int32) (hf : f1_signAt K g a p0 = some out) (hk0 : gkd K a = 2) : Met l yX1_signAt (wA yX1_signAt cX1_signAt 2 (some .int)) ({ frames := 0, cells := 0, slots := 0, locals := 0 } : Room) (PRE w K g S [.ref a, .int p0]) (QI w K g S out) 0 0 (FR w) := by
  unfold f1_signAt at hf
  refine Met.ofW (cc := cX1_signAt) (maxL := 2) (ret := (some .int)) (by decide) rfl ?_
  intro p e s m args below meth c s₁ B hml hv
  obtain ⟨rfl, hH, hK⟩ := hv
  have hx := B.exec
  have hb := B.bytes
  have hr := B.returns
  have hts : ∀ q ∈ gALL, q.before _ s = true := fun q h => atoms_spec (ws := (wA yX1_signAt cX1_signAt 2 (some .int))) B.pre q (List.mem_cons_of_mem _ h)
  have hown : s.vm.findClass RX1 = some m.cls := findClass_of_methodNamed B.named
  have hlocks := B.notSynchronized
  have hS : va_S (FR w) s.heap s.heap [] := va_S.rf
  show W p l e ({ frames := 0, cells := 0, slots := 0, locals := 0 } : Room) s m _ below meth c s.heap [] 0 0 (MQ below (QI w K g S out) _ s 0 0 (FR w)) _
  have hl := lv_entry ([.ref a, .int p0]) (n := 2) (Nat.le_of_ble_eq_true rfl)
  rw [lg_entry_eq]
  generalize (lg_sl ([.ref a, .int p0]) ++ List.replicate (2 - (lg_sl ([.ref a, .int p0])).length) Slot.unset).toArray = ls at hl ⊢
  clear B
  generalize ([.ref a, .int p0] : List Value).toArray = args at hts ⊢
  have B21 : ∀ (H : Heap) (locs : List Loc) (ls : Array Slot), HR w K g S H → va_S (FR w) s.heap H locs → lv_has ls 2 [] → f1_signAt_21 K g a p0 = some out → W p l e ({ frames := 0, cells := 0, slots := 0, locals := 0 } : Room) s m args below meth c H locs 0 0 (MQ below (QI w K g S out) args s 0 0 (FR w)) (F0 m 21 ls []) := by
    intro   H locs ls hH hS hl hf
    unfold f1_signAt_21 at hf
    refine lv_iconst (v := 0) hx hb dX1_signAt_21 (by decide) ?_
    have ho := Option.some.inj hf
    exact W.iret (v := 0) hx hb hr (fun t ht hW => ⟨⟨0, (), rfl, ho, hrE ht hH⟩, hS.F ht⟩) hS.2.2 dX1_signAt_22
  have hl : lv_has ls 2 [(0, .ref a), (1, .int p0)] := hl
  refine lv_iload_n hx hb dX1_signAt_0 rfl (lv_at hl 1 rfl) ?_
  have hg := gif hf
  refine lv_if_lt (tgt := 21) hx hb dX1_signAt_1 (by decide) (fun c1 => ?_) (fun c1 => ?_)
  · have hf := hg.1 c1
    exact B21 _ _ _ hH hS (lv_sub hl [] rfl) hf
  · have hf := hg.2 c1
    refine lv_iload_n hx hb dX1_signAt_4 rfl (lv_at hl 1 rfl) ?_
    refine lv_aload_n hx hb dX1_signAt_5 rfl (lv_at hl 0 rfl) ?_
    refine e_1_0 hx hb hts hown hK hH hk0 (hts _ wd_241) dX1_signAt_6 ?_
    have hg := gif hf
    refine lv_icmp_ge (tgt := 21) hx hb dX1_signAt_9 (by decide) (fun c2 => ?_) (fun c2 => ?_)
    · have hf := hg.1 c2
      exact B21 _ _ _ hH hS (lv_sub hl [] rfl) hf
    · have hf := hg.2 c2
      refine lv_aload_n hx hb dX1_signAt_12 rfl (lv_at hl 0 rfl) ?_
      have k3 : K.1 (a + 1) = (11, gkn K a) := hH.sub hk0 0 (t := (1, 11, gkn K a)) rfl
      refine e_1_4 hx hb hts hown hK hH hk0 (hts _ wd_248) dX1_signAt_13 ?_
      refine lv_iload_n hx hb dX1_signAt_16 rfl (lv_at hl 1 rfl) ?_
      obtain ⟨h5, hf⟩ := gd_some hf
      refine g_cald hx hb hK hH k3 h5 dX1_signAt_17 ?_
      refine lv_goto (tgt := 22) hx hb dX1_signAt_18 (by decide) ?_
      have ho := Option.some.inj hf
      exact W.iret (v := (gI g (a + 1) p0.toNatClampNeg)) hx hb hr (fun t ht hW => ⟨⟨(gI g (a + 1) p0.toNatClampNeg), (), rfl, ho, hrE ht hH⟩, hS.F ht⟩) hS.2.2 dX1_signAt_22
set_option maxRecDepth 100000 in
set_option maxHeartbeats 8000000 in
theorem c0_stepLetter (l : Launch) (w : GW) (K : GK) (g : GM) (S : GS) (a : Nat) (out : Int32) (hf : f0_stepLetter K g a = some out) (hk0 : gkd K a = 1) : Met l yX0_stepLetter (wA yX0_stepLetter cX0_stepLetter 1 (some .int)) ({ frames := 1, cells := 0, slots := 0, locals := 21 } : Room) (PRE w K g S [.ref a]) (QI w K g S out) 0 0 (FR w) := by
  unfold f0_stepLetter at hf
  refine Met.ofW (cc := cX0_stepLetter) (maxL := 1) (ret := (some .int)) (by decide) rfl ?_
  intro p e s m args below meth c s₁ B hml hv
  obtain ⟨rfl, hH, hK⟩ := hv
  have hx := B.exec
  have hb := B.bytes
  have hr := B.returns
  have hts : ∀ q ∈ gALL, q.before _ s = true := fun q h => atoms_spec (ws := (wA yX0_stepLetter cX0_stepLetter 1 (some .int))) B.pre q (List.mem_cons_of_mem _ h)
  have hown : s.vm.findClass RX0 = some m.cls := findClass_of_methodNamed B.named
  have hlocks := B.notSynchronized
  have hS : va_S (FR w) s.heap s.heap [] := va_S.rf
  show W p l e ({ frames := 1, cells := 0, slots := 0, locals := 21 } : Room) s m _ below meth c s.heap [] 0 0 (MQ below (QI w K g S out) _ s 0 0 (FR w)) _
  have hl := lv_entry ([.ref a]) (n := 1) (Nat.le_of_ble_eq_true rfl)
  rw [lg_entry_eq]
  generalize (lg_sl ([.ref a]) ++ List.replicate (1 - (lg_sl ([.ref a])).length) Slot.unset).toArray = ls at hl ⊢
  clear B
  generalize ([.ref a] : List Value).toArray = args at hts ⊢
  have hl : lv_has ls 1 [(0, .ref a)] := hl
  refine lv_aload_n hx hb dX0_stepLetter_0 rfl (lv_at hl 0 rfl) ?_
  refine e_0_6 hx hb hts hown hK hH hk0 (hts _ wd_83) dX0_stepLetter_1 ?_
  have hg := gif hf
  refine lv_if_le (tgt := 39) hx hb dX0_stepLetter_4 (by decide) (fun c1 => ?_) (fun c1 => ?_)
  · have hf := hg.1 c1
    refine lv_iconst (v := 0) hx hb dX0_stepLetter_39 (by decide) ?_
    have ho := Option.some.inj hf
    exact W.iret (v := 0) hx hb hr (fun t ht hW => ⟨⟨0, (), rfl, ho, hrE ht hH⟩, hS.F ht⟩) hS.2.2 dX0_stepLetter_40
  · have hf := hg.2 c1
    refine lv_aload_n hx hb dX0_stepLetter_7 rfl (lv_at hl 0 rfl) ?_
    have k2 : K.1 (a + 6) = (13, 9) := hH.sub hk0 5 (t := (6, 13, 9)) rfl
    refine e_0_5 hx hb hts hown hK hH hk0 (hts _ wd_82) dX0_stepLetter_8 ?_
    refine lv_aload_n hx hb dX0_stepLetter_11 rfl (lv_at hl 0 rfl) ?_
    refine e_0_6 hx hb hts hown hK hH hk0 (hts _ wd_83) dX0_stepLetter_12 ?_
    refine lv_iconst (v := 1) hx hb dX0_stepLetter_15 (by decide) ?_
    refine lv_isub hx hb dX0_stepLetter_16 ?_
    obtain ⟨h4, hf⟩ := gd_some hf
    refine g_tald hx hb hK hH k2 h4 dX0_stepLetter_17 ?_
    rcases gopt_c hf with ⟨q6, hf⟩ | ⟨t5, q6, hf⟩
    · cases hf
    · refine g_rfS q6 ?_
      refine lv_aload_n hx hb dX0_stepLetter_18 rfl (lv_at hl 0 rfl) ?_
      have k12 : K.1 (a + 4) = (10, 36) := hH.sub hk0 3 (t := (4, 10, 36)) rfl
      refine e_0_3 hx hb hts hown hK hH hk0 (hts _ wd_79) dX0_stepLetter_19 ?_
      refine lv_aload_n hx hb dX0_stepLetter_22 rfl (lv_at hl 0 rfl) ?_
      refine lv_aload_n hx hb dX0_stepLetter_23 rfl (lv_at hl 0 rfl) ?_
      refine e_0_6 hx hb hts hown hK hH hk0 (hts _ wd_83) dX0_stepLetter_24 ?_
      refine lv_iconst (v := 1) hx hb dX0_stepLetter_27 (by decide) ?_
      refine lv_isub hx hb dX0_stepLetter_28 ?_
      obtain ⟨v13, h14, hf⟩ := gbind hf
      refine g_Vi (As := [.int ((gI g a 6) - 1)]) (rest := [.ref (a + 4), .ref t5]) ⟨hx, hb, hml, hown, hts⟩ (c0_spotOf l w K g S a ((gI g a 6) - 1) v13 h14 hk0) (gcwV hts i0_spotOf wd_388 rfl rfl ⟨Nat.le_of_ble_eq_true rfl, Nat.le_of_ble_eq_true rfl⟩) (gRecv.of hK rfl (hH.o1 hk0)) hH hK hS hl.1 rfl rfl (Nat.le_of_ble_eq_true rfl) dX0_stepLetter_29 ⟨Nat.le_refl _, Nat.le_refl _⟩ (fun H locs hH hS => ?_)
      obtain ⟨h16, hf⟩ := gd_some hf
      refine g_iald hx hb hK hH k12 h16 dX0_stepLetter_32 ?_
      obtain ⟨k17, hf⟩ := gd_some hf
      have k17 := gk_obj k17
      obtain ⟨v18, h19, hf⟩ := gbind hf
      refine g_Vi (As := [.int (gI g (a + 4) v13.toNatClampNeg)]) (rest := []) ⟨hx, hb, hml, hown, hts⟩ (c1_signAt l w K g S t5 (gI g (a + 4) v13.toNatClampNeg) v18 h19 k17) (gcwV hts i1_signAt wd_392 rfl rfl ⟨Nat.le_of_ble_eq_true rfl, Nat.le_of_ble_eq_true rfl⟩) (gRecv.of hK rfl (hH.o2 k17)) hH hK hS hl.1 rfl rfl (Nat.le_of_ble_eq_true rfl) dX0_stepLetter_33 ⟨Nat.le_refl _, Nat.le_refl _⟩ (fun H locs hH hS => ?_)
      refine lv_goto (tgt := 40) hx hb dX0_stepLetter_36 (by decide) ?_
      have ho := Option.some.inj hf
      exact W.iret (v := v18) hx hb hr (fun t ht hW => ⟨⟨v18, (), rfl, ho, hrE ht hH⟩, hS.F ht⟩) hS.2.2 dX0_stepLetter_40
set_option maxRecDepth 100000 in
set_option maxHeartbeats 8000000 in
theorem c1_behind (l : Launch) (w : GW) (K : GK) (g : GM) (S : GS) (a : Nat) (p0 : Int32) (out : Int32) (hf : f1_behind K g a p0 = some out) (hk0 : gkd K a = 2) : Met l yX1_behind (wA yX1_behind cX1_behind 2 (some .int)) ({ frames := 0, cells := 0, slots := 0, locals := 0 } : Room) (PRE w K g S [.ref a, .int p0]) (QI w K g S out) 0 0 (FR w) := by
  unfold f1_behind at hf
  refine Met.ofW (cc := cX1_behind) (maxL := 2) (ret := (some .int)) (by decide) rfl ?_
  intro p e s m args below meth c s₁ B hml hv
  obtain ⟨rfl, hH, hK⟩ := hv
  have hx := B.exec
  have hb := B.bytes
  have hr := B.returns
  have hts : ∀ q ∈ gALL, q.before _ s = true := fun q h => atoms_spec (ws := (wA yX1_behind cX1_behind 2 (some .int))) B.pre q (List.mem_cons_of_mem _ h)
  have hown : s.vm.findClass RX1 = some m.cls := findClass_of_methodNamed B.named
  have hlocks := B.notSynchronized
  have hS : va_S (FR w) s.heap s.heap [] := va_S.rf
  show W p l e ({ frames := 0, cells := 0, slots := 0, locals := 0 } : Room) s m _ below meth c s.heap [] 0 0 (MQ below (QI w K g S out) _ s 0 0 (FR w)) _
  have hl := lv_entry ([.ref a, .int p0]) (n := 2) (Nat.le_of_ble_eq_true rfl)
  rw [lg_entry_eq]
  generalize (lg_sl ([.ref a, .int p0]) ++ List.replicate (2 - (lg_sl ([.ref a, .int p0])).length) Slot.unset).toArray = ls at hl ⊢
  clear B
  generalize ([.ref a, .int p0] : List Value).toArray = args at hts ⊢
  have B21 : ∀ (H : Heap) (locs : List Loc) (ls : Array Slot), HR w K g S H → va_S (FR w) s.heap H locs → lv_has ls 2 [(0, .ref a)] → f1_behind_21 K g a p0 = some out → W p l e ({ frames := 0, cells := 0, slots := 0, locals := 0 } : Room) s m args below meth c H locs 0 0 (MQ below (QI w K g S out) args s 0 0 (FR w)) (F0 m 21 ls []) := by
    intro   H locs ls hH hS hl hf
    unfold f1_behind_21 at hf
    refine lv_aload_n hx hb dX1_behind_21 rfl (lv_at hl 0 rfl) ?_
    refine e_1_0 hx hb hts hown hK hH hk0 (hts _ wd_241) dX1_behind_22 ?_
    have ho := Option.some.inj hf
    exact W.iret (v := (gI g a 0)) hx hb hr (fun t ht hW => ⟨⟨(gI g a 0), (), rfl, ho, hrE ht hH⟩, hS.F ht⟩) hS.2.2 dX1_behind_25
  have hl : lv_has ls 2 [(0, .ref a), (1, .int p0)] := hl
  refine lv_iload_n hx hb dX1_behind_0 rfl (lv_at hl 1 rfl) ?_
  have hg := gif hf
  refine lv_if_lt (tgt := 21) hx hb dX1_behind_1 (by decide) (fun c1 => ?_) (fun c1 => ?_)
  · have hf := hg.1 c1
    exact B21 _ _ _ hH hS (lv_sub hl [0] rfl) hf
  · have hf := hg.2 c1
    refine lv_iload_n hx hb dX1_behind_4 rfl (lv_at hl 1 rfl) ?_
    refine lv_aload_n hx hb dX1_behind_5 rfl (lv_at hl 0 rfl) ?_
    refine e_1_0 hx hb hts hown hK hH hk0 (hts _ wd_241) dX1_behind_6 ?_
    have hg := gif hf
    refine lv_icmp_ge (tgt := 21) hx hb dX1_behind_9 (by decide) (fun c2 => ?_) (fun c2 => ?_)
    · have hf := hg.1 c2
      exact B21 _ _ _ hH hS (lv_sub hl [0] rfl) hf
    · have hf := hg.2 c2
      refine lv_aload_n hx hb dX1_behind_12 rfl (lv_at hl 0 rfl) ?_
      have k3 : K.1 (a + 5) = (10, gkn K a) := hH.sub hk0 4 (t := (5, 10, gkn K a)) rfl
      refine e_1_8 hx hb hts hown hK hH hk0 (hts _ wd_252) dX1_behind_13 ?_
      refine lv_iload_n hx hb dX1_behind_16 rfl (lv_at hl 1 rfl) ?_
      obtain ⟨h5, hf⟩ := gd_some hf
      refine g_iald hx hb hK hH k3 h5 dX1_behind_17 ?_
      refine lv_goto (tgt := 25) hx hb dX1_behind_18 (by decide) ?_
      have ho := Option.some.inj hf
      exact W.iret (v := (gI g (a + 5) p0.toNatClampNeg)) hx hb hr (fun t ht hW => ⟨⟨(gI g (a + 5) p0.toNatClampNeg), (), rfl, ho, hrE ht hH⟩, hS.F ht⟩) hS.2.2 dX1_behind_25
set_option maxRecDepth 100000 in
set_option maxHeartbeats 8000000 in
theorem c0_placeBehind (l : Launch) (w : GW) (K : GK) (g : GM) (S : GS) (a : Nat) (out : Int32) (hf : f0_placeBehind K g a = some out) (hk0 : gkd K a = 1) : Met l yX0_placeBehind (wA yX0_placeBehind cX0_placeBehind 1 (some .int)) ({ frames := 1, cells := 0, slots := 0, locals := 21 } : Room) (PRE w K g S [.ref a]) (QI w K g S out) 0 0 (FR w) := by
  unfold f0_placeBehind at hf
  refine Met.ofW (cc := cX0_placeBehind) (maxL := 1) (ret := (some .int)) (by decide) rfl ?_
  intro p e s m args below meth c s₁ B hml hv
  obtain ⟨rfl, hH, hK⟩ := hv
  have hx := B.exec
  have hb := B.bytes
  have hr := B.returns
  have hts : ∀ q ∈ gALL, q.before _ s = true := fun q h => atoms_spec (ws := (wA yX0_placeBehind cX0_placeBehind 1 (some .int))) B.pre q (List.mem_cons_of_mem _ h)
  have hown : s.vm.findClass RX0 = some m.cls := findClass_of_methodNamed B.named
  have hlocks := B.notSynchronized
  have hS : va_S (FR w) s.heap s.heap [] := va_S.rf
  show W p l e ({ frames := 1, cells := 0, slots := 0, locals := 21 } : Room) s m _ below meth c s.heap [] 0 0 (MQ below (QI w K g S out) _ s 0 0 (FR w)) _
  have hl := lv_entry ([.ref a]) (n := 1) (Nat.le_of_ble_eq_true rfl)
  rw [lg_entry_eq]
  generalize (lg_sl ([.ref a]) ++ List.replicate (1 - (lg_sl ([.ref a])).length) Slot.unset).toArray = ls at hl ⊢
  clear B
  generalize ([.ref a] : List Value).toArray = args at hts ⊢
  have hl : lv_has ls 1 [(0, .ref a)] := hl
  refine lv_aload_n hx hb dX0_placeBehind_0 rfl (lv_at hl 0 rfl) ?_
  refine e_0_6 hx hb hts hown hK hH hk0 (hts _ wd_83) dX0_placeBehind_1 ?_
  have hg := gif hf
  refine lv_if_le (tgt := 39) hx hb dX0_placeBehind_4 (by decide) (fun c1 => ?_) (fun c1 => ?_)
  · have hf := hg.1 c1
    refine lv_iconst (v := 0) hx hb dX0_placeBehind_39 (by decide) ?_
    have ho := Option.some.inj hf
    exact W.iret (v := 0) hx hb hr (fun t ht hW => ⟨⟨0, (), rfl, ho, hrE ht hH⟩, hS.F ht⟩) hS.2.2 dX0_placeBehind_40
  · have hf := hg.2 c1
    refine lv_aload_n hx hb dX0_placeBehind_7 rfl (lv_at hl 0 rfl) ?_
    have k2 : K.1 (a + 6) = (13, 9) := hH.sub hk0 5 (t := (6, 13, 9)) rfl
    refine e_0_5 hx hb hts hown hK hH hk0 (hts _ wd_82) dX0_placeBehind_8 ?_
    refine lv_aload_n hx hb dX0_placeBehind_11 rfl (lv_at hl 0 rfl) ?_
    refine e_0_6 hx hb hts hown hK hH hk0 (hts _ wd_83) dX0_placeBehind_12 ?_
    refine lv_iconst (v := 1) hx hb dX0_placeBehind_15 (by decide) ?_
    refine lv_isub hx hb dX0_placeBehind_16 ?_
    obtain ⟨h4, hf⟩ := gd_some hf
    refine g_tald hx hb hK hH k2 h4 dX0_placeBehind_17 ?_
    rcases gopt_c hf with ⟨q6, hf⟩ | ⟨t5, q6, hf⟩
    · cases hf
    · refine g_rfS q6 ?_
      refine lv_aload_n hx hb dX0_placeBehind_18 rfl (lv_at hl 0 rfl) ?_
      have k12 : K.1 (a + 4) = (10, 36) := hH.sub hk0 3 (t := (4, 10, 36)) rfl
      refine e_0_3 hx hb hts hown hK hH hk0 (hts _ wd_79) dX0_placeBehind_19 ?_
      refine lv_aload_n hx hb dX0_placeBehind_22 rfl (lv_at hl 0 rfl) ?_
      refine lv_aload_n hx hb dX0_placeBehind_23 rfl (lv_at hl 0 rfl) ?_
      refine e_0_6 hx hb hts hown hK hH hk0 (hts _ wd_83) dX0_placeBehind_24 ?_
      refine lv_iconst (v := 1) hx hb dX0_placeBehind_27 (by decide) ?_
      refine lv_isub hx hb dX0_placeBehind_28 ?_
      obtain ⟨v13, h14, hf⟩ := gbind hf
      refine g_Vi (As := [.int ((gI g a 6) - 1)]) (rest := [.ref (a + 4), .ref t5]) ⟨hx, hb, hml, hown, hts⟩ (c0_spotOf l w K g S a ((gI g a 6) - 1) v13 h14 hk0) (gcwV hts i0_spotOf wd_388 rfl rfl ⟨Nat.le_of_ble_eq_true rfl, Nat.le_of_ble_eq_true rfl⟩) (gRecv.of hK rfl (hH.o1 hk0)) hH hK hS hl.1 rfl rfl (Nat.le_of_ble_eq_true rfl) dX0_placeBehind_29 ⟨Nat.le_refl _, Nat.le_refl _⟩ (fun H locs hH hS => ?_)
      obtain ⟨h16, hf⟩ := gd_some hf
      refine g_iald hx hb hK hH k12 h16 dX0_placeBehind_32 ?_
      obtain ⟨k17, hf⟩ := gd_some hf
      have k17 := gk_obj k17
      obtain ⟨v18, h19, hf⟩ := gbind hf
      refine g_Vi (As := [.int (gI g (a + 4) v13.toNatClampNeg)]) (rest := []) ⟨hx, hb, hml, hown, hts⟩ (c1_behind l w K g S t5 (gI g (a + 4) v13.toNatClampNeg) v18 h19 k17) (gcwV hts i1_behind wd_421 rfl rfl ⟨Nat.le_of_ble_eq_true rfl, Nat.le_of_ble_eq_true rfl⟩) (gRecv.of hK rfl (hH.o2 k17)) hH hK hS hl.1 rfl rfl (Nat.le_of_ble_eq_true rfl) dX0_placeBehind_33 ⟨Nat.le_refl _, Nat.le_refl _⟩ (fun H locs hH hS => ?_)
      refine lv_goto (tgt := 40) hx hb dX0_placeBehind_36 (by decide) ?_
      have ho := Option.some.inj hf
      exact W.iret (v := v18) hx hb hr (fun t ht hW => ⟨⟨v18, (), rfl, ho, hrE ht hH⟩, hS.F ht⟩) hS.2.2 dX0_placeBehind_40
set_option maxRecDepth 100000 in
set_option maxHeartbeats 8000000 in
theorem c0_leaveEnds (l : Launch) (w : GW) (K : GK) (g : GM) (S : GS) (a : Nat) (out : GM) (hf : f0_leaveEnds K g a = some out) (hk0 : gkd K a = 1) : Met l yX0_leaveEnds (wA yX0_leaveEnds cX0_leaveEnds 3 none) ({ frames := 2, cells := 0, slots := 0, locals := 43 } : Room) (PRE w K g S [.ref a]) (QV w K out S) 0 0 (FR w) := by
  unfold f0_leaveEnds at hf
  refine Met.ofW (cc := cX0_leaveEnds) (maxL := 3) (ret := none) (by decide) rfl ?_
  intro p e s m args below meth c s₁ B hml hv
  obtain ⟨rfl, hH, hK⟩ := hv
  have hx := B.exec
  have hb := B.bytes
  have hr := B.returns
  have hts : ∀ q ∈ gALL, q.before _ s = true := fun q h => atoms_spec (ws := (wA yX0_leaveEnds cX0_leaveEnds 3 none)) B.pre q (List.mem_cons_of_mem _ h)
  have hown : s.vm.findClass RX0 = some m.cls := findClass_of_methodNamed B.named
  have hlocks := B.notSynchronized
  have hS : va_S (FR w) s.heap s.heap [] := va_S.rf
  show W p l e ({ frames := 2, cells := 0, slots := 0, locals := 43 } : Room) s m _ below meth c s.heap [] 0 0 (MQ below (QV w K out S) _ s 0 0 (FR w)) _
  have hl := lv_entry ([.ref a]) (n := 3) (Nat.le_of_ble_eq_true rfl)
  rw [lg_entry_eq]
  generalize (lg_sl ([.ref a]) ++ List.replicate (3 - (lg_sl ([.ref a])).length) Slot.unset).toArray = ls at hl ⊢
  clear B
  generalize ([.ref a] : List Value).toArray = args at hts ⊢
  have B110 : ∀ (k2 : GM → Int32 → Option (GM)), (∀ (g : GM) (x1 : Int32) (H : Heap) (locs : List Loc) (ls : Array Slot), HR w K g S H → va_S (FR w) s.heap H locs → lv_has ls 3 [(0, .ref a), (1, .int x1)] → k2 g x1 = some out → W p l e ({ frames := 2, cells := 0, slots := 0, locals := 43 } : Room) s m args below meth c H locs 0 0 (MQ below (QV w K out S) args s 0 0 (FR w)) (F0 m 2 ls [])) → ∀ (g : GM) (x1 : Int32) (H : Heap) (locs : List Loc) (ls : Array Slot), HR w K g S H → va_S (FR w) s.heap H locs → lv_has ls 3 [(0, .ref a), (1, .int x1)] → f0_leaveEnds_110 k2 K a g x1 = some out → W p l e ({ frames := 2, cells := 0, slots := 0, locals := 43 } : Room) s m args below meth c H locs 0 0 (MQ below (QV w K out S) args s 0 0 (FR w)) (F0 m 110 ls []) := by
    intro k2 hk2 g x1 H locs ls hH hS hl hf
    unfold f0_leaveEnds_110 at hf
    obtain ⟨v1, ev1⟩ : ∃ z : Int32, z = x1 + 1 := ⟨_, rfl⟩
    have hf := gl_at hf ev1
    refine lv_iinc (v := v1) (lv' := [(1, .int v1), (0, .ref a)]) hx hb dX0_leaveEnds_110 hl (k := 1) rfl (by rw [ev1]; rfl) (by decide) rfl (fun ls hl => ?_)
    refine lv_goto (tgt := 2) hx hb dX0_leaveEnds_113 (by decide) ?_
    exact hk2 _ _ _ _ _ hH hS (lv_sub hl [1, 0] rfl) hf
  have B84 : ∀ (k2 : GM → Int32 → Option (GM)), (∀ (g : GM) (x1 : Int32) (H : Heap) (locs : List Loc) (ls : Array Slot), HR w K g S H → va_S (FR w) s.heap H locs → lv_has ls 3 [(0, .ref a), (1, .int x1)] → k2 g x1 = some out → W p l e ({ frames := 2, cells := 0, slots := 0, locals := 43 } : Room) s m args below meth c H locs 0 0 (MQ below (QV w K out S) args s 0 0 (FR w)) (F0 m 2 ls [])) → ∀ (g : GM) (x1 : Int32) (x2 : Int32) (H : Heap) (locs : List Loc) (ls : Array Slot), HR w K g S H → va_S (FR w) s.heap H locs → lv_has ls 3 [(0, .ref a), (1, .int x1), (2, .int x2)] → f0_leaveEnds_84 k2 K a g x1 x2 = some out → W p l e ({ frames := 2, cells := 0, slots := 0, locals := 43 } : Room) s m args below meth c H locs 0 0 (MQ below (QV w K out S) args s 0 0 (FR w)) (F0 m 84 ls []) := by
    intro k2 hk2 g x1 x2 H locs ls hH hS hl hf
    unfold f0_leaveEnds_84 at hf
    refine lv_iload_n hx hb dX0_leaveEnds_84 rfl (lv_at hl 2 rfl) ?_
    have hg := gif hf
    refine lv_if_ne (tgt := 109) hx hb dX0_leaveEnds_85 (by decide) (fun c2 => ?_) (fun c2 => ?_)
    · have hf := hg.2 c2
      have ho := Option.some.inj hf
      exact W.vret hx hb hr (fun t ht hW => ⟨⟨(), rfl, trivial, hrV ht ho hH⟩, hS.F ht⟩) hS.2.2 dX0_leaveEnds_109
    · have hf := hg.1 c2
      refine lv_aload_n hx hb dX0_leaveEnds_88 rfl (lv_at hl 0 rfl) ?_
      refine lv_dup hx hb dX0_leaveEnds_89 rfl ?_
      refine e_0_6 hx hb hts hown hK hH hk0 (hts _ wd_83) dX0_leaveEnds_90 ?_
      refine lv_iconst (v := 1) hx hb dX0_leaveEnds_93 (by decide) ?_
      refine lv_isub hx hb dX0_leaveEnds_94 ?_
      refine p_0_6 hx hb hts hown hK hH hS hk0 (hts _ wd_83) dX0_leaveEnds_95 (fun H locs hH hS => ?_)
      obtain ⟨g3, eg3⟩ : ∃ z : GM, z = gsI g a 6 ((gI g a 6) - 1) := ⟨_, rfl⟩
      have hf := gl_at hf eg3
      replace hH : HR w K g3 S H := by rw [eg3]; exact hH
      refine lv_aload_n hx hb dX0_leaveEnds_98 rfl (lv_at hl 0 rfl) ?_
      refine lv_aload_n hx hb dX0_leaveEnds_99 rfl (lv_at hl 0 rfl) ?_
      obtain ⟨v4, h5, hf⟩ := gbind hf
      refine g_Vi (As := []) (rest := [.ref a]) ⟨hx, hb, hml, hown, hts⟩ (c0_placeBehind l w K g3 S a v4 h5 hk0) (gcwV hts i0_placeBehind wd_417 rfl rfl ⟨Nat.le_of_ble_eq_true rfl, Nat.le_of_ble_eq_true rfl⟩) (gRecv.of hK rfl (hH.o1 hk0)) hH hK hS hl.1 rfl rfl (Nat.le_of_ble_eq_true rfl) dX0_leaveEnds_100 ⟨Nat.le_refl _, Nat.le_refl _⟩ (fun H locs hH hS => ?_)
      obtain ⟨g6, h7, hf⟩ := gbind hf
      refine g_Vv (As := [.int v4]) (rest := []) ⟨hx, hb, hml, hown, hts⟩ (c0_arriveAt l w K g3 S a v4 g6 h7 hk0) (gcwV hts i0_arriveAt wd_425 rfl rfl ⟨Nat.le_of_ble_eq_true rfl, Nat.le_of_ble_eq_true rfl⟩) (gRecv.of hK rfl (hH.o1 hk0)) hH hK hS hl.1 rfl rfl (Nat.le_of_ble_eq_true rfl) dX0_leaveEnds_103 ⟨Nat.le_refl _, Nat.le_refl _⟩ (fun H locs hH hS => ?_)
      refine lv_goto (tgt := 110) hx hb dX0_leaveEnds_106 (by decide) ?_
      exact B110 _ (hk2) _ _ _ _ _ hH hS (lv_sub hl [0, 1] rfl) hf
  have B2 : ∀ n : Nat, ∀ (g : GM) (x1 : Int32) (H : Heap) (locs : List Loc) (ls : Array Slot), HR w K g S H → va_S (FR w) s.heap H locs → lv_has ls 3 [(0, .ref a), (1, .int x1)] → f0_leaveEnds_2 K a n g x1 = some out → W p l e ({ frames := 2, cells := 0, slots := 0, locals := 43 } : Room) s m args below meth c H locs 0 0 (MQ below (QV w K out S) args s 0 0 (FR w)) (F0 m 2 ls []) := by
    intro n
    induction n with
    | zero =>
      intro g x1 H locs ls hH hS hl hf
      cases hf
    | succ n ih =>
      intro g x1 H locs ls hH hS hl hf
      rw [f0_leaveEnds_2] at hf
      refine lv_iload_n hx hb dX0_leaveEnds_2 rfl (lv_at hl 1 rfl) ?_
      refine lv_bipush (v := 36) hx hb dX0_leaveEnds_3 (by decide) ?_
      have hg := gif hf
      refine lv_icmp_ge (tgt := 116) hx hb dX0_leaveEnds_5 (by decide) (fun c8 => ?_) (fun c8 => ?_)
      · have hf := hg.1 c8
        have ho := Option.some.inj hf
        exact W.vret hx hb hr (fun t ht hW => ⟨⟨(), rfl, trivial, hrV ht ho hH⟩, hS.F ht⟩) hS.2.2 dX0_leaveEnds_116
      · have hf := hg.2 c8
        refine lv_aload_n hx hb dX0_leaveEnds_8 rfl (lv_at hl 0 rfl) ?_
        refine e_0_6 hx hb hts hown hK hH hk0 (hts _ wd_83) dX0_leaveEnds_9 ?_
        have hg := gif hf
        refine lv_if_le (tgt := 116) hx hb dX0_leaveEnds_12 (by decide) (fun c9 => ?_) (fun c9 => ?_)
        · have hf := hg.1 c9
          have ho := Option.some.inj hf
          exact W.vret hx hb hr (fun t ht hW => ⟨⟨(), rfl, trivial, hrV ht ho hH⟩, hS.F ht⟩) hS.2.2 dX0_leaveEnds_116
        · have hf := hg.2 c9
          refine lv_aload_n hx hb dX0_leaveEnds_15 rfl (lv_at hl 0 rfl) ?_
          obtain ⟨v10, h11, hf⟩ := gbind hf
          refine g_Vi (As := []) (rest := []) ⟨hx, hb, hml, hown, hts⟩ (c0_stepLetter l w K g S a v10 h11 hk0) (gcwV hts i0_stepLetter wd_416 rfl rfl ⟨Nat.le_of_ble_eq_true rfl, Nat.le_of_ble_eq_true rfl⟩) (gRecv.of hK rfl (hH.o1 hk0)) hH hK hS hl.1 rfl rfl (Nat.le_of_ble_eq_true rfl) dX0_leaveEnds_16 ⟨Nat.le_refl _, Nat.le_refl _⟩ (fun H locs hH hS => ?_)
          refine lv_istore_n (lv' := [(2, .int v10), (0, .ref a), (1, .int x1)]) hx hb dX0_leaveEnds_19 rfl hl (by decide) rfl (fun ls hl => ?_)
          refine lv_iload_n hx hb dX0_leaveEnds_20 rfl (lv_at hl 0 rfl) ?_
          refine lv_bipush (v := 41) hx hb dX0_leaveEnds_21 (by decide) ?_
          have hg := gif hf
          refine lv_icmp_ne (tgt := 84) hx hb dX0_leaveEnds_23 (by decide) (fun c12 => ?_) (fun c12 => ?_)
          · have hf := hg.2 c12
            exact B84 _ (ih) _ _ _ _ _ _ hH hS (lv_sub hl [1, 2, 0] rfl) hf
          · have hf := hg.1 c12
            refine lv_aload_n hx hb dX0_leaveEnds_26 rfl (lv_at hl 1 rfl) ?_
            have k13 : K.1 (a + 3) = (10, 9) := hH.sub hk0 2 (t := (3, 10, 9)) rfl
            refine e_0_2 hx hb hts hown hK hH hk0 (hts _ wd_78) dX0_leaveEnds_27 ?_
            refine lv_aload_n hx hb dX0_leaveEnds_30 rfl (lv_at hl 1 rfl) ?_
            refine e_0_6 hx hb hts hown hK hH hk0 (hts _ wd_83) dX0_leaveEnds_31 ?_
            refine lv_iconst (v := 1) hx hb dX0_leaveEnds_34 (by decide) ?_
            refine lv_isub hx hb dX0_leaveEnds_35 ?_
            obtain ⟨h15, hf⟩ := gd_some hf
            refine g_iald hx hb hK hH k13 h15 dX0_leaveEnds_36 ?_
            have hg := gif hf
            refine lv_if_le (tgt := 84) hx hb dX0_leaveEnds_37 (by decide) (fun c16 => ?_) (fun c16 => ?_)
            · have hf := hg.1 c16
              exact B84 _ (ih) _ _ _ _ _ _ hH hS (lv_sub hl [1, 2, 0] rfl) hf
            · have hf := hg.2 c16
              refine lv_aload_n hx hb dX0_leaveEnds_40 rfl (lv_at hl 1 rfl) ?_
              refine e_0_2 hx hb hts hown hK hH hk0 (hts _ wd_78) dX0_leaveEnds_41 ?_
              refine lv_aload_n hx hb dX0_leaveEnds_44 rfl (lv_at hl 1 rfl) ?_
              refine e_0_6 hx hb hts hown hK hH hk0 (hts _ wd_83) dX0_leaveEnds_45 ?_
              refine lv_iconst (v := 1) hx hb dX0_leaveEnds_48 (by decide) ?_
              refine lv_isub hx hb dX0_leaveEnds_49 ?_
              refine lv_dup2_11 hx hb dX0_leaveEnds_50 rfl rfl ?_
              refine g_iald hx hb hK hH k13 h15 dX0_leaveEnds_51 ?_
              refine lv_iconst (v := 1) hx hb dX0_leaveEnds_52 (by decide) ?_
              refine lv_isub hx hb dX0_leaveEnds_53 ?_
              refine g_iast hx hb hK hH hS k13 h15 dX0_leaveEnds_54 (fun H locs hH hS => ?_)
              obtain ⟨g19, eg19⟩ : ∃ z : GM, z = gsI g (a + 3) ((gI g a 6) - 1).toNatClampNeg ((gI g (a + 3) ((gI g a 6) - 1).toNatClampNeg) - 1) := ⟨_, rfl⟩
              have hf := gl_at hf eg19
              replace hH : HR w K g19 S H := by rw [eg19]; exact hH
              refine lv_aload_n hx hb dX0_leaveEnds_55 rfl (lv_at hl 1 rfl) ?_
              have k20 : K.1 (a + 5) = (10, 36) := hH.sub hk0 4 (t := (5, 10, 36)) rfl
              refine e_0_4 hx hb hts hown hK hH hk0 (hts _ wd_80) dX0_leaveEnds_56 ?_
              refine lv_aload_n hx hb dX0_leaveEnds_59 rfl (lv_at hl 1 rfl) ?_
              refine lv_aload_n hx hb dX0_leaveEnds_60 rfl (lv_at hl 1 rfl) ?_
              refine e_0_6 hx hb hts hown hK hH hk0 (hts _ wd_83) dX0_leaveEnds_61 ?_
              refine lv_iconst (v := 1) hx hb dX0_leaveEnds_64 (by decide) ?_
              refine lv_isub hx hb dX0_leaveEnds_65 ?_
              obtain ⟨v21, h22, hf⟩ := gbind hf
              refine g_Vi (As := [.int ((gI g19 a 6) - 1)]) (rest := [.ref (a + 5)]) ⟨hx, hb, hml, hown, hts⟩ (c0_spotOf l w K g19 S a ((gI g19 a 6) - 1) v21 h22 hk0) (gcwV hts i0_spotOf wd_388 rfl rfl ⟨Nat.le_of_ble_eq_true rfl, Nat.le_of_ble_eq_true rfl⟩) (gRecv.of hK rfl (hH.o1 hk0)) hH hK hS hl.1 rfl rfl (Nat.le_of_ble_eq_true rfl) dX0_leaveEnds_66 ⟨Nat.le_refl _, Nat.le_refl _⟩ (fun H locs hH hS => ?_)
              obtain ⟨h24, hf⟩ := gd_some hf
              refine g_iald hx hb hK hH k20 h24 dX0_leaveEnds_69 ?_
              have hg := gif hf
              refine lv_if_gt (tgt := 110) hx hb dX0_leaveEnds_70 (by decide) (fun c25 => ?_) (fun c25 => ?_)
              · have hf := hg.1 c25
                exact B110 _ (ih) _ _ _ _ _ hH hS (lv_sub hl [1, 2] rfl) hf
              · have hf := hg.2 c25
                refine lv_aload_n hx hb dX0_leaveEnds_73 rfl (lv_at hl 1 rfl) ?_
                refine lv_aload_n hx hb dX0_leaveEnds_74 rfl (lv_at hl 1 rfl) ?_
                obtain ⟨v26, h27, hf⟩ := gbind hf
                refine g_Vi (As := []) (rest := [.ref a]) ⟨hx, hb, hml, hown, hts⟩ (c0_placeBehind l w K g19 S a v26 h27 hk0) (gcwV hts i0_placeBehind wd_417 rfl rfl ⟨Nat.le_of_ble_eq_true rfl, Nat.le_of_ble_eq_true rfl⟩) (gRecv.of hK rfl (hH.o1 hk0)) hH hK hS hl.1 rfl rfl (Nat.le_of_ble_eq_true rfl) dX0_leaveEnds_75 ⟨Nat.le_refl _, Nat.le_refl _⟩ (fun H locs hH hS => ?_)
                obtain ⟨g28, h29, hf⟩ := gbind hf
                refine g_Vv (As := [.int v26]) (rest := []) ⟨hx, hb, hml, hown, hts⟩ (c0_arriveAt l w K g19 S a v26 g28 h29 hk0) (gcwV hts i0_arriveAt wd_425 rfl rfl ⟨Nat.le_of_ble_eq_true rfl, Nat.le_of_ble_eq_true rfl⟩) (gRecv.of hK rfl (hH.o1 hk0)) hH hK hS hl.1 rfl rfl (Nat.le_of_ble_eq_true rfl) dX0_leaveEnds_78 ⟨Nat.le_refl _, Nat.le_refl _⟩ (fun H locs hH hS => ?_)
                refine lv_goto (tgt := 110) hx hb dX0_leaveEnds_81 (by decide) ?_
                exact B110 _ (ih) _ _ _ _ _ hH hS (lv_sub hl [1, 2] rfl) hf
  have hl : lv_has ls 3 [(0, .ref a)] := hl
  refine lv_iconst (v := 0) hx hb dX0_leaveEnds_0 (by decide) ?_
  refine lv_istore_n (lv' := [(1, .int 0), (0, .ref a)]) hx hb dX0_leaveEnds_1 rfl hl (by decide) rfl (fun ls hl => ?_)
  exact B2 _ _ _ _ _ _ hH hS (lv_sub hl [1, 0] rfl) hf
set_option maxRecDepth 100000 in
set_option maxHeartbeats 8000000 in
theorem c0_passOver (l : Launch) (w : GW) (K : GK) (g : GM) (S : GS) (a : Nat) (out : GM) (hf : f0_passOver K g a = some out) (hk0 : gkd K a = 1) : Met l yX0_passOver (wA yX0_passOver cX0_passOver 2 none) ({ frames := 2, cells := 0, slots := 0, locals := 43 } : Room) (PRE w K g S [.ref a]) (QV w K out S) 0 0 (FR w) := by
  unfold f0_passOver at hf
  refine Met.ofW (cc := cX0_passOver) (maxL := 2) (ret := none) (by decide) rfl ?_
  intro p e s m args below meth c s₁ B hml hv
  obtain ⟨rfl, hH, hK⟩ := hv
  have hx := B.exec
  have hb := B.bytes
  have hr := B.returns
  have hts : ∀ q ∈ gALL, q.before _ s = true := fun q h => atoms_spec (ws := (wA yX0_passOver cX0_passOver 2 none)) B.pre q (List.mem_cons_of_mem _ h)
  have hown : s.vm.findClass RX0 = some m.cls := findClass_of_methodNamed B.named
  have hlocks := B.notSynchronized
  have hS : va_S (FR w) s.heap s.heap [] := va_S.rf
  show W p l e ({ frames := 2, cells := 0, slots := 0, locals := 43 } : Room) s m _ below meth c s.heap [] 0 0 (MQ below (QV w K out S) _ s 0 0 (FR w)) _
  have hl := lv_entry ([.ref a]) (n := 2) (Nat.le_of_ble_eq_true rfl)
  rw [lg_entry_eq]
  generalize (lg_sl ([.ref a]) ++ List.replicate (2 - (lg_sl ([.ref a])).length) Slot.unset).toArray = ls at hl ⊢
  clear B
  generalize ([.ref a] : List Value).toArray = args at hts ⊢
  have B51 : ∀ (g : GM) (H : Heap) (locs : List Loc) (ls : Array Slot), HR w K g S H → va_S (FR w) s.heap H locs → lv_has ls 2 [(0, .ref a)] → f0_passOver_51 K a g = some out → W p l e ({ frames := 2, cells := 0, slots := 0, locals := 43 } : Room) s m args below meth c H locs 0 0 (MQ below (QV w K out S) args s 0 0 (FR w)) (F0 m 51 ls []) := by
    intro  g H locs ls hH hS hl hf
    unfold f0_passOver_51 at hf
    refine lv_aload_n hx hb dX0_passOver_51 rfl (lv_at hl 0 rfl) ?_
    refine lv_aload_n hx hb dX0_passOver_52 rfl (lv_at hl 0 rfl) ?_
    obtain ⟨v1, h2, hf⟩ := gbind hf
    refine g_Vi (As := []) (rest := [.ref a]) ⟨hx, hb, hml, hown, hts⟩ (c0_placeBehind l w K g S a v1 h2 hk0) (gcwV hts i0_placeBehind wd_417 rfl rfl ⟨Nat.le_of_ble_eq_true rfl, Nat.le_of_ble_eq_true rfl⟩) (gRecv.of hK rfl (hH.o1 hk0)) hH hK hS hl.1 rfl rfl (Nat.le_of_ble_eq_true rfl) dX0_passOver_53 ⟨Nat.le_refl _, Nat.le_refl _⟩ (fun H locs hH hS => ?_)
    obtain ⟨g3, h4, hf⟩ := gbind hf
    refine g_Vv (As := [.int v1]) (rest := []) ⟨hx, hb, hml, hown, hts⟩ (c0_arriveAt l w K g S a v1 g3 h4 hk0) (gcwV hts i0_arriveAt wd_425 rfl rfl ⟨Nat.le_of_ble_eq_true rfl, Nat.le_of_ble_eq_true rfl⟩) (gRecv.of hK rfl (hH.o1 hk0)) hH hK hS hl.1 rfl rfl (Nat.le_of_ble_eq_true rfl) dX0_passOver_56 ⟨Nat.le_refl _, Nat.le_refl _⟩ (fun H locs hH hS => ?_)
    have ho := Option.some.inj hf
    exact W.vret hx hb hr (fun t ht hW => ⟨⟨(), rfl, trivial, hrV ht ho hH⟩, hS.F ht⟩) hS.2.2 dX0_passOver_59
  have hl : lv_has ls 2 [(0, .ref a)] := hl
  refine lv_aload_n hx hb dX0_passOver_0 rfl (lv_at hl 0 rfl) ?_
  refine e_0_6 hx hb hts hown hK hH hk0 (hts _ wd_83) dX0_passOver_1 ?_
  have hg := gif hf
  refine lv_if_ne (tgt := 8) hx hb dX0_passOver_4 (by decide) (fun c5 => ?_) (fun c5 => ?_)
  · have hf := hg.2 c5
    refine lv_aload_n hx hb dX0_passOver_8 rfl (lv_at hl 0 rfl) ?_
    refine lv_aload_n hx hb dX0_passOver_9 rfl (lv_at hl 0 rfl) ?_
    refine e_0_6 hx hb hts hown hK hH hk0 (hts _ wd_83) dX0_passOver_10 ?_
    refine lv_iconst (v := 1) hx hb dX0_passOver_13 (by decide) ?_
    refine lv_isub hx hb dX0_passOver_14 ?_
    obtain ⟨v6, h7, hf⟩ := gbind hf
    refine g_Vi (As := [.int ((gI g a 6) - 1)]) (rest := []) ⟨hx, hb, hml, hown, hts⟩ (c0_spotOf l w K g S a ((gI g a 6) - 1) v6 h7 hk0) (gcwV hts i0_spotOf wd_388 rfl rfl ⟨Nat.le_of_ble_eq_true rfl, Nat.le_of_ble_eq_true rfl⟩) (gRecv.of hK rfl (hH.o1 hk0)) hH hK hS hl.1 rfl rfl (Nat.le_of_ble_eq_true rfl) dX0_passOver_15 ⟨Nat.le_refl _, Nat.le_refl _⟩ (fun H locs hH hS => ?_)
    refine lv_istore_n (lv' := [(1, .int v6), (0, .ref a)]) hx hb dX0_passOver_18 rfl hl (by decide) rfl (fun ls hl => ?_)
    refine lv_aload_n hx hb dX0_passOver_19 rfl (lv_at hl 1 rfl) ?_
    obtain ⟨v8, h9, hf⟩ := gbind hf
    refine g_Vi (As := []) (rest := []) ⟨hx, hb, hml, hown, hts⟩ (c0_stepLetter l w K g S a v8 h9 hk0) (gcwV hts i0_stepLetter wd_416 rfl rfl ⟨Nat.le_of_ble_eq_true rfl, Nat.le_of_ble_eq_true rfl⟩) (gRecv.of hK rfl (hH.o1 hk0)) hH hK hS hl.1 rfl rfl (Nat.le_of_ble_eq_true rfl) dX0_passOver_20 ⟨Nat.le_refl _, Nat.le_refl _⟩ (fun H locs hH hS => ?_)
    refine lv_bipush (v := 119) hx hb dX0_passOver_23 (by decide) ?_
    have hg := gif hf
    refine lv_icmp_ne (tgt := 51) hx hb dX0_passOver_25 (by decide) (fun c10 => ?_) (fun c10 => ?_)
    · have hf := hg.2 c10
      exact B51 _ _ _ _ hH hS (lv_sub hl [1] rfl) hf
    · have hf := hg.1 c10
      refine lv_aload_n hx hb dX0_passOver_28 rfl (lv_at hl 1 rfl) ?_
      have k11 : K.1 (a + 5) = (10, 36) := hH.sub hk0 4 (t := (5, 10, 36)) rfl
      refine e_0_4 hx hb hts hown hK hH hk0 (hts _ wd_80) dX0_passOver_29 ?_
      refine lv_iload_n hx hb dX0_passOver_32 rfl (lv_at hl 0 rfl) ?_
      obtain ⟨h13, hf⟩ := gd_some hf
      refine g_iald hx hb hK hH k11 h13 dX0_passOver_33 ?_
      refine lv_iconst (v := 1) hx hb dX0_passOver_34 (by decide) ?_
      have hg := gif hf
      refine lv_icmp_le (tgt := 51) hx hb dX0_passOver_35 (by decide) (fun c14 => ?_) (fun c14 => ?_)
      · have hf := hg.1 c14
        exact B51 _ _ _ _ hH hS (lv_sub hl [1] rfl) hf
      · have hf := hg.2 c14
        refine lv_aload_n hx hb dX0_passOver_38 rfl (lv_at hl 1 rfl) ?_
        refine e_0_4 hx hb hts hown hK hH hk0 (hts _ wd_80) dX0_passOver_39 ?_
        refine lv_iload_n hx hb dX0_passOver_42 rfl (lv_at hl 0 rfl) ?_
        refine lv_dup2_11 hx hb dX0_passOver_43 rfl rfl ?_
        refine g_iald hx hb hK hH k11 h13 dX0_passOver_44 ?_
        refine lv_iconst (v := 1) hx hb dX0_passOver_45 (by decide) ?_
        refine lv_isub hx hb dX0_passOver_46 ?_
        refine g_iast hx hb hK hH hS k11 h13 dX0_passOver_47 (fun H locs hH hS => ?_)
        obtain ⟨g17, eg17⟩ : ∃ z : GM, z = gsI g (a + 5) v6.toNatClampNeg ((gI g (a + 5) v6.toNatClampNeg) - 1) := ⟨_, rfl⟩
        have hf := gl_at hf eg17
        replace hH : HR w K g17 S H := by rw [eg17]; exact hH
        refine lv_goto (tgt := 59) hx hb dX0_passOver_48 (by decide) ?_
        have ho := Option.some.inj hf
        exact W.vret hx hb hr (fun t ht hW => ⟨⟨(), rfl, trivial, hrV ht ho hH⟩, hS.F ht⟩) hS.2.2 dX0_passOver_59
  · have hf := hg.1 c5
    have ho := Option.some.inj hf
    exact W.vret hx hb hr (fun t ht hW => ⟨⟨(), rfl, trivial, hrV ht ho hH⟩, hS.F ht⟩) hS.2.2 dX0_passOver_7
set_option maxRecDepth 100000 in
set_option maxHeartbeats 8000000 in
theorem c7_inRange (l : Launch) (w : GW) (K : GK) (g : GM) (S : GS) (p0 : Int32) (p1 : Int32) (out : Int32) (hf : f7_inRange p0 p1 = some out) : Met l yX7_inRange (wA yX7_inRange cX7_inRange 2 (some .boolean)) ({ frames := 0, cells := 0, slots := 0, locals := 0 } : Room) (PRE w K g S [.int p0, .int p1]) (QI w K g S out) 0 0 (FR w) := by
  unfold f7_inRange at hf
  refine Met.ofW (cc := cX7_inRange) (maxL := 2) (ret := (some .boolean)) (by decide) rfl ?_
  intro p e s m args below meth c s₁ B hml hv
  obtain ⟨rfl, hH, hK⟩ := hv
  have hx := B.exec
  have hb := B.bytes
  have hr := B.returns
  have hts : ∀ q ∈ gALL, q.before _ s = true := fun q h => atoms_spec (ws := (wA yX7_inRange cX7_inRange 2 (some .boolean))) B.pre q (List.mem_cons_of_mem _ h)
  have hown : s.vm.findClass RX7 = some m.cls := findClass_of_methodNamed B.named
  have hlocks := B.notSynchronized
  have hS : va_S (FR w) s.heap s.heap [] := va_S.rf
  show W p l e ({ frames := 0, cells := 0, slots := 0, locals := 0 } : Room) s m _ below meth c s.heap [] 0 0 (MQ below (QI w K g S out) _ s 0 0 (FR w)) _
  have hl := lv_entry ([.int p0, .int p1]) (n := 2) (Nat.le_of_ble_eq_true rfl)
  rw [lg_entry_eq]
  generalize (lg_sl ([.int p0, .int p1]) ++ List.replicate (2 - (lg_sl ([.int p0, .int p1])).length) Slot.unset).toArray = ls at hl ⊢
  clear B
  generalize ([.int p0, .int p1] : List Value).toArray = args at hts ⊢
  have B13 : ∀ (H : Heap) (locs : List Loc) (ls : Array Slot), HR w K g S H → va_S (FR w) s.heap H locs → lv_has ls 2 [] → f7_inRange_13 p0 p1 = some out → W p l e ({ frames := 0, cells := 0, slots := 0, locals := 0 } : Room) s m args below meth c H locs 0 0 (MQ below (QI w K g S out) args s 0 0 (FR w)) (F0 m 13 ls []) := by
    intro   H locs ls hH hS hl hf
    unfold f7_inRange_13 at hf
    refine lv_iconst (v := 0) hx hb dX7_inRange_13 (by decide) ?_
    have ho := Option.some.inj hf
    exact W.zret (v := 0) (ty := .boolean) hx hb hr rfl (fun t ht hW => ⟨⟨0, (), rfl, ho, hrE ht hH⟩, hS.F ht⟩) hS.2.2 dX7_inRange_14
  have hl : lv_has ls 2 [(0, .int p0), (1, .int p1)] := hl
  refine lv_iload_n hx hb dX7_inRange_0 rfl (lv_at hl 0 rfl) ?_
  have hg := gif hf
  refine lv_if_lt (tgt := 13) hx hb dX7_inRange_1 (by decide) (fun c1 => ?_) (fun c1 => ?_)
  · have hf := hg.1 c1
    exact B13 _ _ _ hH hS (lv_sub hl [] rfl) hf
  · have hf := hg.2 c1
    refine lv_iload_n hx hb dX7_inRange_4 rfl (lv_at hl 0 rfl) ?_
    refine lv_iload_n hx hb dX7_inRange_5 rfl (lv_at hl 1 rfl) ?_
    have hg := gif hf
    refine lv_icmp_ge (tgt := 13) hx hb dX7_inRange_6 (by decide) (fun c2 => ?_) (fun c2 => ?_)
    · have hf := hg.1 c2
      exact B13 _ _ _ hH hS (lv_sub hl [] rfl) hf
    · have hf := hg.2 c2
      refine lv_iconst (v := 1) hx hb dX7_inRange_9 (by decide) ?_
      refine lv_goto (tgt := 14) hx hb dX7_inRange_10 (by decide) ?_
      have ho := Option.some.inj hf
      exact W.zret (v := 1) (ty := .boolean) hx hb hr rfl (fun t ht hW => ⟨⟨1, (), rfl, ho, hrE ht hH⟩, hS.F ht⟩) hS.2.2 dX7_inRange_14
set_option maxRecDepth 100000 in
set_option maxHeartbeats 8000000 in
theorem c0_placeOf (l : Launch) (w : GW) (K : GK) (g : GM) (S : GS) (a : Nat) (p0 : Int32) (out : Int32) (hf : f0_placeOf K g a p0 = some out) (hk0 : gkd K a = 1) : Met l yX0_placeOf (wA yX0_placeOf cX0_placeOf 2 (some .int)) ({ frames := 1, cells := 0, slots := 0, locals := 21 } : Room) (PRE w K g S [.ref a, .int p0]) (QI w K g S out) 0 0 (FR w) := by
  unfold f0_placeOf at hf
  refine Met.ofW (cc := cX0_placeOf) (maxL := 2) (ret := (some .int)) (by decide) rfl ?_
  intro p e s m args below meth c s₁ B hml hv
  obtain ⟨rfl, hH, hK⟩ := hv
  have hx := B.exec
  have hb := B.bytes
  have hr := B.returns
  have hts : ∀ q ∈ gALL, q.before _ s = true := fun q h => atoms_spec (ws := (wA yX0_placeOf cX0_placeOf 2 (some .int))) B.pre q (List.mem_cons_of_mem _ h)
  have hown : s.vm.findClass RX0 = some m.cls := findClass_of_methodNamed B.named
  have hlocks := B.notSynchronized
  have hS : va_S (FR w) s.heap s.heap [] := va_S.rf
  show W p l e ({ frames := 1, cells := 0, slots := 0, locals := 21 } : Room) s m _ below meth c s.heap [] 0 0 (MQ below (QI w K g S out) _ s 0 0 (FR w)) _
  have hl := lv_entry ([.ref a, .int p0]) (n := 2) (Nat.le_of_ble_eq_true rfl)
  rw [lg_entry_eq]
  generalize (lg_sl ([.ref a, .int p0]) ++ List.replicate (2 - (lg_sl ([.ref a, .int p0])).length) Slot.unset).toArray = ls at hl ⊢
  clear B
  generalize ([.ref a, .int p0] : List Value).toArray = args at hts ⊢
  have hl : lv_has ls 2 [(0, .ref a), (1, .int p0)] := hl
  refine lv_iload_n hx hb dX0_placeOf_0 rfl (lv_at hl 1 rfl) ?_
  refine lv_aload_n hx hb dX0_placeOf_1 rfl (lv_at hl 0 rfl) ?_
  refine e_0_6 hx hb hts hown hK hH hk0 (hts _ wd_83) dX0_placeOf_2 ?_
  obtain ⟨v1, h2, hf⟩ := gbind hf
  refine g_SiN (As := [.int p0, .int (gI g a 6)]) (rest := []) ⟨hx, hb, hml, hown, hts⟩ (c7_inRange l w K g S p0 (gI g a 6) v1 h2) (gcwSN (host := "CallingLooms") hts i7_inRange hK (List.mem_of_getElem? (i := 2) rfl) rfl rfl ⟨Nat.le_of_ble_eq_true rfl, Nat.le_of_ble_eq_true rfl⟩) hH hK hS hl.1 rfl rfl (Nat.le_of_ble_eq_true rfl) dX0_placeOf_5 ⟨Nat.le_refl _, Nat.le_refl _⟩ (fun H locs hH hS => ?_)
  have hg := gif hf
  refine lv_if_eq (tgt := 24) hx hb dX0_placeOf_8 (by decide) (fun c3 => ?_) (fun c3 => ?_)
  · have hf := hg.1 c3
    refine lv_iconst (v := 0) hx hb dX0_placeOf_24 (by decide) ?_
    have ho := Option.some.inj hf
    exact W.iret (v := 0) hx hb hr (fun t ht hW => ⟨⟨0, (), rfl, ho, hrE ht hH⟩, hS.F ht⟩) hS.2.2 dX0_placeOf_25
  · have hf := hg.2 c3
    refine lv_aload_n hx hb dX0_placeOf_11 rfl (lv_at hl 0 rfl) ?_
    have k4 : K.1 (a + 4) = (10, 36) := hH.sub hk0 3 (t := (4, 10, 36)) rfl
    refine e_0_3 hx hb hts hown hK hH hk0 (hts _ wd_79) dX0_placeOf_12 ?_
    refine lv_aload_n hx hb dX0_placeOf_15 rfl (lv_at hl 0 rfl) ?_
    refine lv_iload_n hx hb dX0_placeOf_16 rfl (lv_at hl 1 rfl) ?_
    obtain ⟨v5, h6, hf⟩ := gbind hf
    refine g_Vi (As := [.int p0]) (rest := [.ref (a + 4)]) ⟨hx, hb, hml, hown, hts⟩ (c0_spotOf l w K g S a p0 v5 h6 hk0) (gcwV hts i0_spotOf wd_388 rfl rfl ⟨Nat.le_of_ble_eq_true rfl, Nat.le_of_ble_eq_true rfl⟩) (gRecv.of hK rfl (hH.o1 hk0)) hH hK hS hl.1 rfl rfl (Nat.le_of_ble_eq_true rfl) dX0_placeOf_17 ⟨Nat.le_refl _, Nat.le_refl _⟩ (fun H locs hH hS => ?_)
    obtain ⟨h8, hf⟩ := gd_some hf
    refine g_iald hx hb hK hH k4 h8 dX0_placeOf_20 ?_
    refine lv_goto (tgt := 25) hx hb dX0_placeOf_21 (by decide) ?_
    have ho := Option.some.inj hf
    exact W.iret (v := (gI g (a + 4) v5.toNatClampNeg)) hx hb hr (fun t ht hW => ⟨⟨(gI g (a + 4) v5.toNatClampNeg), (), rfl, ho, hrE ht hH⟩, hS.F ht⟩) hS.2.2 dX0_placeOf_25
set_option maxRecDepth 100000 in
set_option maxHeartbeats 8000000 in
theorem c1_digitAt (l : Launch) (w : GW) (K : GK) (g : GM) (S : GS) (a : Nat) (p0 : Int32) (out : Int32) (hf : f1_digitAt K g a p0 = some out) (hk0 : gkd K a = 2) : Met l yX1_digitAt (wA yX1_digitAt cX1_digitAt 2 (some .int)) ({ frames := 0, cells := 0, slots := 0, locals := 0 } : Room) (PRE w K g S [.ref a, .int p0]) (QI w K g S out) 0 0 (FR w) := by
  unfold f1_digitAt at hf
  refine Met.ofW (cc := cX1_digitAt) (maxL := 2) (ret := (some .int)) (by decide) rfl ?_
  intro p e s m args below meth c s₁ B hml hv
  obtain ⟨rfl, hH, hK⟩ := hv
  have hx := B.exec
  have hb := B.bytes
  have hr := B.returns
  have hts : ∀ q ∈ gALL, q.before _ s = true := fun q h => atoms_spec (ws := (wA yX1_digitAt cX1_digitAt 2 (some .int))) B.pre q (List.mem_cons_of_mem _ h)
  have hown : s.vm.findClass RX1 = some m.cls := findClass_of_methodNamed B.named
  have hlocks := B.notSynchronized
  have hS : va_S (FR w) s.heap s.heap [] := va_S.rf
  show W p l e ({ frames := 0, cells := 0, slots := 0, locals := 0 } : Room) s m _ below meth c s.heap [] 0 0 (MQ below (QI w K g S out) _ s 0 0 (FR w)) _
  have hl := lv_entry ([.ref a, .int p0]) (n := 2) (Nat.le_of_ble_eq_true rfl)
  rw [lg_entry_eq]
  generalize (lg_sl ([.ref a, .int p0]) ++ List.replicate (2 - (lg_sl ([.ref a, .int p0])).length) Slot.unset).toArray = ls at hl ⊢
  clear B
  generalize ([.ref a, .int p0] : List Value).toArray = args at hts ⊢
  have B21 : ∀ (H : Heap) (locs : List Loc) (ls : Array Slot), HR w K g S H → va_S (FR w) s.heap H locs → lv_has ls 2 [] → f1_digitAt_21 K g a p0 = some out → W p l e ({ frames := 0, cells := 0, slots := 0, locals := 0 } : Room) s m args below meth c H locs 0 0 (MQ below (QI w K g S out) args s 0 0 (FR w)) (F0 m 21 ls []) := by
    intro   H locs ls hH hS hl hf
    unfold f1_digitAt_21 at hf
    refine lv_iconst (v := 0) hx hb dX1_digitAt_21 (by decide) ?_
    have ho := Option.some.inj hf
    exact W.iret (v := 0) hx hb hr (fun t ht hW => ⟨⟨0, (), rfl, ho, hrE ht hH⟩, hS.F ht⟩) hS.2.2 dX1_digitAt_22
  have hl : lv_has ls 2 [(0, .ref a), (1, .int p0)] := hl
  refine lv_iload_n hx hb dX1_digitAt_0 rfl (lv_at hl 1 rfl) ?_
  have hg := gif hf
  refine lv_if_lt (tgt := 21) hx hb dX1_digitAt_1 (by decide) (fun c1 => ?_) (fun c1 => ?_)
  · have hf := hg.1 c1
    exact B21 _ _ _ hH hS (lv_sub hl [] rfl) hf
  · have hf := hg.2 c1
    refine lv_iload_n hx hb dX1_digitAt_4 rfl (lv_at hl 1 rfl) ?_
    refine lv_aload_n hx hb dX1_digitAt_5 rfl (lv_at hl 0 rfl) ?_
    refine e_1_0 hx hb hts hown hK hH hk0 (hts _ wd_241) dX1_digitAt_6 ?_
    have hg := gif hf
    refine lv_icmp_ge (tgt := 21) hx hb dX1_digitAt_9 (by decide) (fun c2 => ?_) (fun c2 => ?_)
    · have hf := hg.1 c2
      exact B21 _ _ _ hH hS (lv_sub hl [] rfl) hf
    · have hf := hg.2 c2
      refine lv_aload_n hx hb dX1_digitAt_12 rfl (lv_at hl 0 rfl) ?_
      have k3 : K.1 (a + 3) = (10, gkn K a) := hH.sub hk0 2 (t := (3, 10, gkn K a)) rfl
      refine e_1_6 hx hb hts hown hK hH hk0 (hts _ wd_250) dX1_digitAt_13 ?_
      refine lv_iload_n hx hb dX1_digitAt_16 rfl (lv_at hl 1 rfl) ?_
      obtain ⟨h5, hf⟩ := gd_some hf
      refine g_iald hx hb hK hH k3 h5 dX1_digitAt_17 ?_
      refine lv_goto (tgt := 22) hx hb dX1_digitAt_18 (by decide) ?_
      have ho := Option.some.inj hf
      exact W.iret (v := (gI g (a + 3) p0.toNatClampNeg)) hx hb hr (fun t ht hW => ⟨⟨(gI g (a + 3) p0.toNatClampNeg), (), rfl, ho, hrE ht hH⟩, hS.F ht⟩) hS.2.2 dX1_digitAt_22
set_option maxRecDepth 100000 in
set_option maxHeartbeats 8000000 in
theorem c0_stepDigit (l : Launch) (w : GW) (K : GK) (g : GM) (S : GS) (a : Nat) (out : Int32) (hf : f0_stepDigit K g a = some out) (hk0 : gkd K a = 1) : Met l yX0_stepDigit (wA yX0_stepDigit cX0_stepDigit 1 (some .int)) ({ frames := 1, cells := 0, slots := 0, locals := 21 } : Room) (PRE w K g S [.ref a]) (QI w K g S out) 0 0 (FR w) := by
  unfold f0_stepDigit at hf
  refine Met.ofW (cc := cX0_stepDigit) (maxL := 1) (ret := (some .int)) (by decide) rfl ?_
  intro p e s m args below meth c s₁ B hml hv
  obtain ⟨rfl, hH, hK⟩ := hv
  have hx := B.exec
  have hb := B.bytes
  have hr := B.returns
  have hts : ∀ q ∈ gALL, q.before _ s = true := fun q h => atoms_spec (ws := (wA yX0_stepDigit cX0_stepDigit 1 (some .int))) B.pre q (List.mem_cons_of_mem _ h)
  have hown : s.vm.findClass RX0 = some m.cls := findClass_of_methodNamed B.named
  have hlocks := B.notSynchronized
  have hS : va_S (FR w) s.heap s.heap [] := va_S.rf
  show W p l e ({ frames := 1, cells := 0, slots := 0, locals := 21 } : Room) s m _ below meth c s.heap [] 0 0 (MQ below (QI w K g S out) _ s 0 0 (FR w)) _
  have hl := lv_entry ([.ref a]) (n := 1) (Nat.le_of_ble_eq_true rfl)
  rw [lg_entry_eq]
  generalize (lg_sl ([.ref a]) ++ List.replicate (1 - (lg_sl ([.ref a])).length) Slot.unset).toArray = ls at hl ⊢
  clear B
  generalize ([.ref a] : List Value).toArray = args at hts ⊢
  have hl : lv_has ls 1 [(0, .ref a)] := hl
  refine lv_aload_n hx hb dX0_stepDigit_0 rfl (lv_at hl 0 rfl) ?_
  refine e_0_6 hx hb hts hown hK hH hk0 (hts _ wd_83) dX0_stepDigit_1 ?_
  have hg := gif hf
  refine lv_if_le (tgt := 39) hx hb dX0_stepDigit_4 (by decide) (fun c1 => ?_) (fun c1 => ?_)
  · have hf := hg.1 c1
    refine lv_iconst (v := 0) hx hb dX0_stepDigit_39 (by decide) ?_
    have ho := Option.some.inj hf
    exact W.iret (v := 0) hx hb hr (fun t ht hW => ⟨⟨0, (), rfl, ho, hrE ht hH⟩, hS.F ht⟩) hS.2.2 dX0_stepDigit_40
  · have hf := hg.2 c1
    refine lv_aload_n hx hb dX0_stepDigit_7 rfl (lv_at hl 0 rfl) ?_
    have k2 : K.1 (a + 6) = (13, 9) := hH.sub hk0 5 (t := (6, 13, 9)) rfl
    refine e_0_5 hx hb hts hown hK hH hk0 (hts _ wd_82) dX0_stepDigit_8 ?_
    refine lv_aload_n hx hb dX0_stepDigit_11 rfl (lv_at hl 0 rfl) ?_
    refine e_0_6 hx hb hts hown hK hH hk0 (hts _ wd_83) dX0_stepDigit_12 ?_
    refine lv_iconst (v := 1) hx hb dX0_stepDigit_15 (by decide) ?_
    refine lv_isub hx hb dX0_stepDigit_16 ?_
    obtain ⟨h4, hf⟩ := gd_some hf
    refine g_tald hx hb hK hH k2 h4 dX0_stepDigit_17 ?_
    rcases gopt_c hf with ⟨q6, hf⟩ | ⟨t5, q6, hf⟩
    · cases hf
    · refine g_rfS q6 ?_
      refine lv_aload_n hx hb dX0_stepDigit_18 rfl (lv_at hl 0 rfl) ?_
      have k12 : K.1 (a + 4) = (10, 36) := hH.sub hk0 3 (t := (4, 10, 36)) rfl
      refine e_0_3 hx hb hts hown hK hH hk0 (hts _ wd_79) dX0_stepDigit_19 ?_
      refine lv_aload_n hx hb dX0_stepDigit_22 rfl (lv_at hl 0 rfl) ?_
      refine lv_aload_n hx hb dX0_stepDigit_23 rfl (lv_at hl 0 rfl) ?_
      refine e_0_6 hx hb hts hown hK hH hk0 (hts _ wd_83) dX0_stepDigit_24 ?_
      refine lv_iconst (v := 1) hx hb dX0_stepDigit_27 (by decide) ?_
      refine lv_isub hx hb dX0_stepDigit_28 ?_
      obtain ⟨v13, h14, hf⟩ := gbind hf
      refine g_Vi (As := [.int ((gI g a 6) - 1)]) (rest := [.ref (a + 4), .ref t5]) ⟨hx, hb, hml, hown, hts⟩ (c0_spotOf l w K g S a ((gI g a 6) - 1) v13 h14 hk0) (gcwV hts i0_spotOf wd_388 rfl rfl ⟨Nat.le_of_ble_eq_true rfl, Nat.le_of_ble_eq_true rfl⟩) (gRecv.of hK rfl (hH.o1 hk0)) hH hK hS hl.1 rfl rfl (Nat.le_of_ble_eq_true rfl) dX0_stepDigit_29 ⟨Nat.le_refl _, Nat.le_refl _⟩ (fun H locs hH hS => ?_)
      obtain ⟨h16, hf⟩ := gd_some hf
      refine g_iald hx hb hK hH k12 h16 dX0_stepDigit_32 ?_
      obtain ⟨k17, hf⟩ := gd_some hf
      have k17 := gk_obj k17
      obtain ⟨v18, h19, hf⟩ := gbind hf
      refine g_Vi (As := [.int (gI g (a + 4) v13.toNatClampNeg)]) (rest := []) ⟨hx, hb, hml, hown, hts⟩ (c1_digitAt l w K g S t5 (gI g (a + 4) v13.toNatClampNeg) v18 h19 k17) (gcwV hts i1_digitAt wd_404 rfl rfl ⟨Nat.le_of_ble_eq_true rfl, Nat.le_of_ble_eq_true rfl⟩) (gRecv.of hK rfl (hH.o2 k17)) hH hK hS hl.1 rfl rfl (Nat.le_of_ble_eq_true rfl) dX0_stepDigit_33 ⟨Nat.le_refl _, Nat.le_refl _⟩ (fun H locs hH hS => ?_)
      refine lv_goto (tgt := 40) hx hb dX0_stepDigit_36 (by decide) ?_
      have ho := Option.some.inj hf
      exact W.iret (v := v18) hx hb hr (fun t ht hW => ⟨⟨v18, (), rfl, ho, hrE ht hH⟩, hS.F ht⟩) hS.2.2 dX0_stepDigit_40
set_option maxRecDepth 100000 in
set_option maxHeartbeats 8000000 in
theorem c0_timesOn (l : Launch) (w : GW) (K : GK) (g : GM) (S : GS) (a : Nat) (p0 : Int32) (out : Int32) (hf : f0_timesOn K g a p0 = some out) (hk0 : gkd K a = 1) : Met l yX0_timesOn (wA yX0_timesOn cX0_timesOn 4 (some .int)) ({ frames := 0, cells := 0, slots := 0, locals := 0 } : Room) (PRE w K g S [.ref a, .int p0]) (QI w K g S out) 0 0 (FR w) := by
  unfold f0_timesOn at hf
  refine Met.ofW (cc := cX0_timesOn) (maxL := 4) (ret := (some .int)) (by decide) rfl ?_
  intro p e s m args below meth c s₁ B hml hv
  obtain ⟨rfl, hH, hK⟩ := hv
  have hx := B.exec
  have hb := B.bytes
  have hr := B.returns
  have hts : ∀ q ∈ gALL, q.before _ s = true := fun q h => atoms_spec (ws := (wA yX0_timesOn cX0_timesOn 4 (some .int))) B.pre q (List.mem_cons_of_mem _ h)
  have hown : s.vm.findClass RX0 = some m.cls := findClass_of_methodNamed B.named
  have hlocks := B.notSynchronized
  have hS : va_S (FR w) s.heap s.heap [] := va_S.rf
  show W p l e ({ frames := 0, cells := 0, slots := 0, locals := 0 } : Room) s m _ below meth c s.heap [] 0 0 (MQ below (QI w K g S out) _ s 0 0 (FR w)) _
  have hl := lv_entry ([.ref a, .int p0]) (n := 4) (Nat.le_of_ble_eq_true rfl)
  rw [lg_entry_eq]
  generalize (lg_sl ([.ref a, .int p0]) ++ List.replicate (4 - (lg_sl ([.ref a, .int p0])).length) Slot.unset).toArray = ls at hl ⊢
  clear B
  generalize ([.ref a, .int p0] : List Value).toArray = args at hts ⊢
  have B25 : ∀ (k4 : Int32 → Int32 → Option (Int32)), (∀ (x2 : Int32) (x3 : Int32) (H : Heap) (locs : List Loc) (ls : Array Slot), HR w K g S H → va_S (FR w) s.heap H locs → lv_has ls 4 [(0, .ref a), (1, .int p0), (2, .int x2), (3, .int x3)] → k4 x2 x3 = some out → W p l e ({ frames := 0, cells := 0, slots := 0, locals := 0 } : Room) s m args below meth c H locs 0 0 (MQ below (QI w K g S out) args s 0 0 (FR w)) (F0 m 4 ls [])) → ∀ (x2 : Int32) (x3 : Int32) (H : Heap) (locs : List Loc) (ls : Array Slot), HR w K g S H → va_S (FR w) s.heap H locs → lv_has ls 4 [(0, .ref a), (1, .int p0), (2, .int x2), (3, .int x3)] → f0_timesOn_25 k4 K g a p0 x2 x3 = some out → W p l e ({ frames := 0, cells := 0, slots := 0, locals := 0 } : Room) s m args below meth c H locs 0 0 (MQ below (QI w K g S out) args s 0 0 (FR w)) (F0 m 25 ls []) := by
    intro k4 hk4 x2 x3 H locs ls hH hS hl hf
    unfold f0_timesOn_25 at hf
    obtain ⟨v1, ev1⟩ : ∃ z : Int32, z = x3 + 1 := ⟨_, rfl⟩
    have hf := gl_at hf ev1
    refine lv_iinc (v := v1) (lv' := [(3, .int v1), (0, .ref a), (1, .int p0), (2, .int x2)]) hx hb dX0_timesOn_25 hl (k := 3) rfl (by rw [ev1]; rfl) (by decide) rfl (fun ls hl => ?_)
    refine lv_goto (tgt := 4) hx hb dX0_timesOn_28 (by decide) ?_
    exact hk4 _ _ _ _ _ hH hS (lv_sub hl [1, 2, 3, 0] rfl) hf
  have B4 : ∀ n : Nat, ∀ (x2 : Int32) (x3 : Int32) (H : Heap) (locs : List Loc) (ls : Array Slot), HR w K g S H → va_S (FR w) s.heap H locs → lv_has ls 4 [(0, .ref a), (1, .int p0), (2, .int x2), (3, .int x3)] → f0_timesOn_4 K g a p0 n x2 x3 = some out → W p l e ({ frames := 0, cells := 0, slots := 0, locals := 0 } : Room) s m args below meth c H locs 0 0 (MQ below (QI w K g S out) args s 0 0 (FR w)) (F0 m 4 ls []) := by
    intro n
    induction n with
    | zero =>
      intro x2 x3 H locs ls hH hS hl hf
      cases hf
    | succ n ih =>
      intro x2 x3 H locs ls hH hS hl hf
      rw [f0_timesOn_4] at hf
      refine lv_iload_n hx hb dX0_timesOn_4 rfl (lv_at hl 3 rfl) ?_
      refine lv_aload_n hx hb dX0_timesOn_5 rfl (lv_at hl 0 rfl) ?_
      refine e_0_6 hx hb hts hown hK hH hk0 (hts _ wd_83) dX0_timesOn_6 ?_
      have hg := gif hf
      refine lv_icmp_ge (tgt := 31) hx hb dX0_timesOn_9 (by decide) (fun c2 => ?_) (fun c2 => ?_)
      · have hf := hg.1 c2
        refine lv_iload_n hx hb dX0_timesOn_31 rfl (lv_at hl 2 rfl) ?_
        have ho := Option.some.inj hf
        exact W.iret (v := x2) hx hb hr (fun t ht hW => ⟨⟨x2, (), rfl, ho, hrE ht hH⟩, hS.F ht⟩) hS.2.2 dX0_timesOn_32
      · have hf := hg.2 c2
        refine lv_aload_n hx hb dX0_timesOn_12 rfl (lv_at hl 0 rfl) ?_
        have k3 : K.1 (a + 1) = (10, 9) := hH.sub hk0 0 (t := (1, 10, 9)) rfl
        refine e_0_0 hx hb hts hown hK hH hk0 (hts _ wd_76) dX0_timesOn_13 ?_
        refine lv_iload_n hx hb dX0_timesOn_16 rfl (lv_at hl 3 rfl) ?_
        obtain ⟨h5, hf⟩ := gd_some hf
        refine g_iald hx hb hK hH k3 h5 dX0_timesOn_17 ?_
        refine lv_iload_n hx hb dX0_timesOn_18 rfl (lv_at hl 1 rfl) ?_
        have hg := gif hf
        refine lv_icmp_ne (tgt := 25) hx hb dX0_timesOn_19 (by decide) (fun c6 => ?_) (fun c6 => ?_)
        · have hf := hg.2 c6
          exact B25 _ (ih) _ _ _ _ _ hH hS (lv_sub hl [0, 1, 2, 3] rfl) hf
        · have hf := hg.1 c6
          obtain ⟨v7, ev7⟩ : ∃ z : Int32, z = x2 + 1 := ⟨_, rfl⟩
          have hf := gl_at hf ev7
          refine lv_iinc (v := v7) (lv' := [(2, .int v7), (0, .ref a), (1, .int p0), (3, .int x3)]) hx hb dX0_timesOn_22 hl (k := 2) rfl (by rw [ev7]; rfl) (by decide) rfl (fun ls hl => ?_)
          exact B25 _ (ih) _ _ _ _ _ hH hS (lv_sub hl [1, 2, 0, 3] rfl) hf
  have hl : lv_has ls 4 [(0, .ref a), (1, .int p0)] := hl
  refine lv_iconst (v := 0) hx hb dX0_timesOn_0 (by decide) ?_
  refine lv_istore_n (lv' := [(2, .int 0), (0, .ref a), (1, .int p0)]) hx hb dX0_timesOn_1 rfl hl (by decide) rfl (fun ls hl => ?_)
  refine lv_iconst (v := 0) hx hb dX0_timesOn_2 (by decide) ?_
  refine lv_istore_n (lv' := [(3, .int 0), (2, .int 0), (0, .ref a), (1, .int p0)]) hx hb dX0_timesOn_3 rfl hl (by decide) rfl (fun ls hl => ?_)
  exact B4 _ _ _ _ _ _ hH hS (lv_sub hl [2, 3, 1, 0] rfl) hf
set_option maxRecDepth 100000 in
set_option maxHeartbeats 8000000 in
theorem c0_topColour (l : Launch) (w : GW) (K : GK) (g : GM) (S : GS) (a : Nat) (out : Int32) (hf : f0_topColour K g a = some out) (hk0 : gkd K a = 1) : Met l yX0_topColour (wA yX0_topColour cX0_topColour 1 (some .int)) ({ frames := 0, cells := 0, slots := 0, locals := 0 } : Room) (PRE w K g S [.ref a]) (QI w K g S out) 0 0 (FR w) := by
  unfold f0_topColour at hf
  refine Met.ofW (cc := cX0_topColour) (maxL := 1) (ret := (some .int)) (by decide) rfl ?_
  intro p e s m args below meth c s₁ B hml hv
  obtain ⟨rfl, hH, hK⟩ := hv
  have hx := B.exec
  have hb := B.bytes
  have hr := B.returns
  have hts : ∀ q ∈ gALL, q.before _ s = true := fun q h => atoms_spec (ws := (wA yX0_topColour cX0_topColour 1 (some .int))) B.pre q (List.mem_cons_of_mem _ h)
  have hown : s.vm.findClass RX0 = some m.cls := findClass_of_methodNamed B.named
  have hlocks := B.notSynchronized
  have hS : va_S (FR w) s.heap s.heap [] := va_S.rf
  show W p l e ({ frames := 0, cells := 0, slots := 0, locals := 0 } : Room) s m _ below meth c s.heap [] 0 0 (MQ below (QI w K g S out) _ s 0 0 (FR w)) _
  have hl := lv_entry ([.ref a]) (n := 1) (Nat.le_of_ble_eq_true rfl)
  rw [lg_entry_eq]
  generalize (lg_sl ([.ref a]) ++ List.replicate (1 - (lg_sl ([.ref a])).length) Slot.unset).toArray = ls at hl ⊢
  clear B
  generalize ([.ref a] : List Value).toArray = args at hts ⊢
  have hl : lv_has ls 1 [(0, .ref a)] := hl
  refine lv_aload_n hx hb dX0_topColour_0 rfl (lv_at hl 0 rfl) ?_
  refine e_0_6 hx hb hts hown hK hH hk0 (hts _ wd_83) dX0_topColour_1 ?_
  have hg := gif hf
  refine lv_if_le (tgt := 21) hx hb dX0_topColour_4 (by decide) (fun c1 => ?_) (fun c1 => ?_)
  · have hf := hg.1 c1
    refine lv_iconst (v := 0) hx hb dX0_topColour_21 (by decide) ?_
    have ho := Option.some.inj hf
    exact W.iret (v := 0) hx hb hr (fun t ht hW => ⟨⟨0, (), rfl, ho, hrE ht hH⟩, hS.F ht⟩) hS.2.2 dX0_topColour_22
  · have hf := hg.2 c1
    refine lv_aload_n hx hb dX0_topColour_7 rfl (lv_at hl 0 rfl) ?_
    have k2 : K.1 (a + 2) = (10, 9) := hH.sub hk0 1 (t := (2, 10, 9)) rfl
    refine e_0_1 hx hb hts hown hK hH hk0 (hts _ wd_77) dX0_topColour_8 ?_
    refine lv_aload_n hx hb dX0_topColour_11 rfl (lv_at hl 0 rfl) ?_
    refine e_0_6 hx hb hts hown hK hH hk0 (hts _ wd_83) dX0_topColour_12 ?_
    refine lv_iconst (v := 1) hx hb dX0_topColour_15 (by decide) ?_
    refine lv_isub hx hb dX0_topColour_16 ?_
    obtain ⟨h4, hf⟩ := gd_some hf
    refine g_iald hx hb hK hH k2 h4 dX0_topColour_17 ?_
    refine lv_goto (tgt := 22) hx hb dX0_topColour_18 (by decide) ?_
    have ho := Option.some.inj hf
    exact W.iret (v := (gI g (a + 2) ((gI g a 6) - 1).toNatClampNeg)) hx hb hr (fun t ht hW => ⟨⟨(gI g (a + 2) ((gI g a 6) - 1).toNatClampNeg), (), rfl, ho, hrE ht hH⟩, hS.F ht⟩) hS.2.2 dX0_topColour_22
set_option maxRecDepth 100000 in
set_option maxHeartbeats 8000000 in
theorem c2_calledBy (l : Launch) (w : GW) (K : GK) (g : GM) (S : GS) (p0 : Nat) (p1 : Int32) (out : Int32) (hf : f2_calledBy K g p0 p1 = some out) : Met l yX2_calledBy (wA yX2_calledBy cX2_calledBy 2 (some .int)) ({ frames := 0, cells := 0, slots := 0, locals := 0 } : Room) (PRE w K g S [.ref p0, .int p1]) (QI w K g S out) 0 0 (FR w) := by
  unfold f2_calledBy at hf
  refine Met.ofW (cc := cX2_calledBy) (maxL := 2) (ret := (some .int)) (by decide) rfl ?_
  intro p e s m args below meth c s₁ B hml hv
  obtain ⟨rfl, hH, hK⟩ := hv
  have hx := B.exec
  have hb := B.bytes
  have hr := B.returns
  have hts : ∀ q ∈ gALL, q.before _ s = true := fun q h => atoms_spec (ws := (wA yX2_calledBy cX2_calledBy 2 (some .int))) B.pre q (List.mem_cons_of_mem _ h)
  have hown : s.vm.findClass RX2 = some m.cls := findClass_of_methodNamed B.named
  have hlocks := B.notSynchronized
  have hS : va_S (FR w) s.heap s.heap [] := va_S.rf
  show W p l e ({ frames := 0, cells := 0, slots := 0, locals := 0 } : Room) s m _ below meth c s.heap [] 0 0 (MQ below (QI w K g S out) _ s 0 0 (FR w)) _
  have hl := lv_entry ([.ref p0, .int p1]) (n := 2) (Nat.le_of_ble_eq_true rfl)
  rw [lg_entry_eq]
  generalize (lg_sl ([.ref p0, .int p1]) ++ List.replicate (2 - (lg_sl ([.ref p0, .int p1])).length) Slot.unset).toArray = ls at hl ⊢
  clear B
  generalize ([.ref p0, .int p1] : List Value).toArray = args at hts ⊢
  have hl : lv_has ls 2 [(0, .ref p0), (1, .int p1)] := hl
  refine lv_aload_n hx hb dX2_calledBy_0 rfl (lv_at hl 0 rfl) ?_
  refine lv_iload_n hx hb dX2_calledBy_1 rfl (lv_at hl 1 rfl) ?_
  obtain ⟨k2, hf⟩ := gd_some hf
  have k2 := gk_arr k2
  obtain ⟨h3, hf⟩ := gd_some hf
  refine g_tald hx hb hK hH k2 h3 dX2_calledBy_2 ?_
  rcases gopt_c hf with ⟨q5, hf⟩ | ⟨t4, q5, hf⟩
  · refine g_rfN q5 ?_
    refine lv_ifnonnullN hx hb dX2_calledBy_3 ?_
    refine lv_iconst (v := 0) hx hb dX2_calledBy_6 (by decide) ?_
    refine lv_goto (tgt := 16) hx hb dX2_calledBy_7 (by decide) ?_
    have ho := Option.some.inj hf
    exact W.iret (v := 0) hx hb hr (fun t ht hW => ⟨⟨0, (), rfl, ho, hrE ht hH⟩, hS.F ht⟩) hS.2.2 dX2_calledBy_16
  · refine g_rfS q5 ?_
    refine lv_ifnonnull (tgt := 10) hx hb dX2_calledBy_3 (by decide) ?_
    refine lv_aload_n hx hb dX2_calledBy_10 rfl (lv_at hl 0 rfl) ?_
    refine lv_iload_n hx hb dX2_calledBy_11 rfl (lv_at hl 1 rfl) ?_
    refine g_tald hx hb hK hH k2 h3 dX2_calledBy_12 ?_
    rcases gopt_c hf with ⟨q8, hf⟩ | ⟨t7, q8, hf⟩
    · cases hf
    · refine g_rfS q8 ?_
      obtain ⟨k9, hf⟩ := gd_some hf
      have k9 := gk_obj k9
      refine e_1_2 hx hb hts hown hK hH k9 (hts _ wd_310) dX2_calledBy_13 ?_
      have ho := Option.some.inj hf
      exact W.iret (v := (gI g t7 2)) hx hb hr (fun t ht hW => ⟨⟨(gI g t7 2), (), rfl, ho, hrE ht hH⟩, hS.F ht⟩) hS.2.2 dX2_calledBy_16
set_option maxRecDepth 100000 in
set_option maxHeartbeats 8000000 in
theorem c2_holds (l : Launch) (w : GW) (K : GK) (g : GM) (S : GS) (p0 : Int32) (p1 : Int32) (out : Int32) (hf : f2_holds p0 p1 = some out) : Met l yX2_holds (wA yX2_holds cX2_holds 2 (some .boolean)) ({ frames := 0, cells := 0, slots := 0, locals := 0 } : Room) (PRE w K g S [.int p0, .int p1]) (QI w K g S out) 0 0 (FR w) := by
  unfold f2_holds at hf
  refine Met.ofW (cc := cX2_holds) (maxL := 2) (ret := (some .boolean)) (by decide) rfl ?_
  intro p e s m args below meth c s₁ B hml hv
  obtain ⟨rfl, hH, hK⟩ := hv
  have hx := B.exec
  have hb := B.bytes
  have hr := B.returns
  have hts : ∀ q ∈ gALL, q.before _ s = true := fun q h => atoms_spec (ws := (wA yX2_holds cX2_holds 2 (some .boolean))) B.pre q (List.mem_cons_of_mem _ h)
  have hown : s.vm.findClass RX2 = some m.cls := findClass_of_methodNamed B.named
  have hlocks := B.notSynchronized
  have hS : va_S (FR w) s.heap s.heap [] := va_S.rf
  show W p l e ({ frames := 0, cells := 0, slots := 0, locals := 0 } : Room) s m _ below meth c s.heap [] 0 0 (MQ below (QI w K g S out) _ s 0 0 (FR w)) _
  have hl := lv_entry ([.int p0, .int p1]) (n := 2) (Nat.le_of_ble_eq_true rfl)
  rw [lg_entry_eq]
  generalize (lg_sl ([.int p0, .int p1]) ++ List.replicate (2 - (lg_sl ([.int p0, .int p1])).length) Slot.unset).toArray = ls at hl ⊢
  clear B
  generalize ([.int p0, .int p1] : List Value).toArray = args at hts ⊢
  have hl : lv_has ls 2 [(0, .int p0), (1, .int p1)] := hl
  refine lv_iload_n hx hb dX2_holds_0 rfl (lv_at hl 0 rfl) ?_
  refine lv_iload_n hx hb dX2_holds_1 rfl (lv_at hl 1 rfl) ?_
  refine lv_ishr hx hb dX2_holds_2 ?_
  refine lv_iconst (v := 1) hx hb dX2_holds_3 (by decide) ?_
  refine lv_iand hx hb dX2_holds_4 ?_
  refine lv_iconst (v := 1) hx hb dX2_holds_5 (by decide) ?_
  have hg := gif hf
  refine lv_icmp_ne (tgt := 13) hx hb dX2_holds_6 (by decide) (fun c1 => ?_) (fun c1 => ?_)
  · have hf := hg.2 c1
    refine lv_iconst (v := 0) hx hb dX2_holds_13 (by decide) ?_
    have ho := Option.some.inj hf
    exact W.zret (v := 0) (ty := .boolean) hx hb hr rfl (fun t ht hW => ⟨⟨0, (), rfl, ho, hrE ht hH⟩, hS.F ht⟩) hS.2.2 dX2_holds_14
  · have hf := hg.1 c1
    refine lv_iconst (v := 1) hx hb dX2_holds_9 (by decide) ?_
    refine lv_goto (tgt := 14) hx hb dX2_holds_10 (by decide) ?_
    have ho := Option.some.inj hf
    exact W.zret (v := 1) (ty := .boolean) hx hb hr rfl (fun t ht hW => ⟨⟨1, (), rfl, ho, hrE ht hH⟩, hS.F ht⟩) hS.2.2 dX2_holds_14
set_option maxRecDepth 100000 in
set_option maxHeartbeats 8000000 in
theorem c2_callersOf (l : Launch) (w : GW) (K : GK) (g : GM) (S : GS) (p0 : Nat) (p1 : Int32) (out : Int32) (hf : f2_callersOf K g p0 p1 = some out) : Met l yX2_callersOf (wA yX2_callersOf cX2_callersOf 4 (some .int)) ({ frames := 1, cells := 0, slots := 0, locals := 21 } : Room) (PRE w K g S [.ref p0, .int p1]) (QI w K g S out) 0 0 (FR w) := by
  unfold f2_callersOf at hf
  refine Met.ofW (cc := cX2_callersOf) (maxL := 4) (ret := (some .int)) (by decide) rfl ?_
  intro p e s m args below meth c s₁ B hml hv
  obtain ⟨rfl, hH, hK⟩ := hv
  have hx := B.exec
  have hb := B.bytes
  have hr := B.returns
  have hts : ∀ q ∈ gALL, q.before _ s = true := fun q h => atoms_spec (ws := (wA yX2_callersOf cX2_callersOf 4 (some .int))) B.pre q (List.mem_cons_of_mem _ h)
  have hown : s.vm.findClass RX2 = some m.cls := findClass_of_methodNamed B.named
  have hlocks := B.notSynchronized
  have hS : va_S (FR w) s.heap s.heap [] := va_S.rf
  show W p l e ({ frames := 1, cells := 0, slots := 0, locals := 21 } : Room) s m _ below meth c s.heap [] 0 0 (MQ below (QI w K g S out) _ s 0 0 (FR w)) _
  have hl := lv_entry ([.ref p0, .int p1]) (n := 4) (Nat.le_of_ble_eq_true rfl)
  rw [lg_entry_eq]
  generalize (lg_sl ([.ref p0, .int p1]) ++ List.replicate (4 - (lg_sl ([.ref p0, .int p1])).length) Slot.unset).toArray = ls at hl ⊢
  clear B
  generalize ([.ref p0, .int p1] : List Value).toArray = args at hts ⊢
  have B28 : ∀ (k4 : Int32 → Int32 → Option (Int32)), (∀ (x2 : Int32) (x3 : Int32) (H : Heap) (locs : List Loc) (ls : Array Slot), HR w K g S H → va_S (FR w) s.heap H locs → lv_has ls 4 [(0, .ref p0), (1, .int p1), (2, .int x2), (3, .int x3)] → k4 x2 x3 = some out → W p l e ({ frames := 1, cells := 0, slots := 0, locals := 21 } : Room) s m args below meth c H locs 0 0 (MQ below (QI w K g S out) args s 0 0 (FR w)) (F0 m 4 ls [])) → ∀ (x2 : Int32) (x3 : Int32) (H : Heap) (locs : List Loc) (ls : Array Slot), HR w K g S H → va_S (FR w) s.heap H locs → lv_has ls 4 [(0, .ref p0), (1, .int p1), (2, .int x2), (3, .int x3)] → f2_callersOf_28 k4 K g p0 p1 x2 x3 = some out → W p l e ({ frames := 1, cells := 0, slots := 0, locals := 21 } : Room) s m args below meth c H locs 0 0 (MQ below (QI w K g S out) args s 0 0 (FR w)) (F0 m 28 ls []) := by
    intro k4 hk4 x2 x3 H locs ls hH hS hl hf
    unfold f2_callersOf_28 at hf
    obtain ⟨v1, ev1⟩ : ∃ z : Int32, z = x3 + 1 := ⟨_, rfl⟩
    have hf := gl_at hf ev1
    refine lv_iinc (v := v1) (lv' := [(3, .int v1), (0, .ref p0), (1, .int p1), (2, .int x2)]) hx hb dX2_callersOf_28 hl (k := 3) rfl (by rw [ev1]; rfl) (by decide) rfl (fun ls hl => ?_)
    refine lv_goto (tgt := 4) hx hb dX2_callersOf_31 (by decide) ?_
    exact hk4 _ _ _ _ _ hH hS (lv_sub hl [1, 2, 3, 0] rfl) hf
  have B4 : ∀ n : Nat, ∀ (x2 : Int32) (x3 : Int32) (H : Heap) (locs : List Loc) (ls : Array Slot), HR w K g S H → va_S (FR w) s.heap H locs → lv_has ls 4 [(0, .ref p0), (1, .int p1), (2, .int x2), (3, .int x3)] → f2_callersOf_4 K g p0 p1 n x2 x3 = some out → W p l e ({ frames := 1, cells := 0, slots := 0, locals := 21 } : Room) s m args below meth c H locs 0 0 (MQ below (QI w K g S out) args s 0 0 (FR w)) (F0 m 4 ls []) := by
    intro n
    induction n with
    | zero =>
      intro x2 x3 H locs ls hH hS hl hf
      cases hf
    | succ n ih =>
      intro x2 x3 H locs ls hH hS hl hf
      rw [f2_callersOf_4] at hf
      refine lv_iload_n hx hb dX2_callersOf_4 rfl (lv_at hl 3 rfl) ?_
      refine lv_bipush (v := 10) hx hb dX2_callersOf_5 (by decide) ?_
      have hg := gif hf
      refine lv_icmp_ge (tgt := 34) hx hb dX2_callersOf_7 (by decide) (fun c2 => ?_) (fun c2 => ?_)
      · have hf := hg.1 c2
        refine lv_iload_n hx hb dX2_callersOf_34 rfl (lv_at hl 2 rfl) ?_
        have ho := Option.some.inj hf
        exact W.iret (v := x2) hx hb hr (fun t ht hW => ⟨⟨x2, (), rfl, ho, hrE ht hH⟩, hS.F ht⟩) hS.2.2 dX2_callersOf_35
      · have hf := hg.2 c2
        refine lv_aload_n hx hb dX2_callersOf_10 rfl (lv_at hl 0 rfl) ?_
        refine lv_iload_n hx hb dX2_callersOf_11 rfl (lv_at hl 3 rfl) ?_
        obtain ⟨v3, h4, hf⟩ := gbind hf
        refine g_Si (As := [.ref p0, .int x3]) (rest := []) ⟨hx, hb, hml, hown, hts⟩ (c2_calledBy l w K g S p0 x3 v3 h4) (gcwS hts i2_calledBy wd_307 rfl rfl ⟨Nat.le_of_ble_eq_true rfl, Nat.le_of_ble_eq_true rfl⟩) hH hK hS hl.1 rfl rfl (Nat.le_of_ble_eq_true rfl) dX2_callersOf_12 ⟨Nat.le_refl _, Nat.le_refl _⟩ (fun H locs hH hS => ?_)
        refine lv_iload_n hx hb dX2_callersOf_15 rfl (lv_at hl 1 rfl) ?_
        obtain ⟨v5, h6, hf⟩ := gbind hf
        refine g_Si (As := [.int v3, .int p1]) (rest := []) ⟨hx, hb, hml, hown, hts⟩ (c2_holds l w K g S v3 p1 v5 h6) (gcwS hts i2_holds wd_311 rfl rfl ⟨Nat.le_of_ble_eq_true rfl, Nat.le_of_ble_eq_true rfl⟩) hH hK hS hl.1 rfl rfl (Nat.le_of_ble_eq_true rfl) dX2_callersOf_16 ⟨Nat.le_refl _, Nat.le_refl _⟩ (fun H locs hH hS => ?_)
        have hg := gif hf
        refine lv_if_eq (tgt := 28) hx hb dX2_callersOf_19 (by decide) (fun c7 => ?_) (fun c7 => ?_)
        · have hf := hg.1 c7
          exact B28 _ (ih) _ _ _ _ _ hH hS (lv_sub hl [0, 1, 2, 3] rfl) hf
        · have hf := hg.2 c7
          refine lv_iload_n hx hb dX2_callersOf_22 rfl (lv_at hl 2 rfl) ?_
          refine lv_iconst (v := 1) hx hb dX2_callersOf_23 (by decide) ?_
          refine lv_iload_n hx hb dX2_callersOf_24 rfl (lv_at hl 3 rfl) ?_
          refine lv_ishl hx hb dX2_callersOf_25 ?_
          refine lv_ior hx hb dX2_callersOf_26 ?_
          refine lv_topi (fun v8 ev8 => ?_)
          have hf := gl_at hf ev8
          refine lv_istore_n (lv' := [(2, .int v8), (0, .ref p0), (1, .int p1), (3, .int x3)]) hx hb dX2_callersOf_27 rfl hl (by decide) rfl (fun ls hl => ?_)
          exact B28 _ (ih) _ _ _ _ _ hH hS (lv_sub hl [1, 2, 0, 3] rfl) hf
  have hl : lv_has ls 4 [(0, .ref p0), (1, .int p1)] := hl
  refine lv_iconst (v := 0) hx hb dX2_callersOf_0 (by decide) ?_
  refine lv_istore_n (lv' := [(2, .int 0), (0, .ref p0), (1, .int p1)]) hx hb dX2_callersOf_1 rfl hl (by decide) rfl (fun ls hl => ?_)
  refine lv_iconst (v := 0) hx hb dX2_callersOf_2 (by decide) ?_
  refine lv_istore_n (lv' := [(3, .int 0), (2, .int 0), (0, .ref p0), (1, .int p1)]) hx hb dX2_callersOf_3 rfl hl (by decide) rfl (fun ls hl => ?_)
  exact B4 _ _ _ _ _ _ hH hS (lv_sub hl [2, 3, 1, 0] rfl) hf
set_option maxRecDepth 100000 in
set_option maxHeartbeats 8000000 in
theorem c2_colourBehind (l : Launch) (w : GW) (K : GK) (g : GM) (S : GS) (p0 : Option Nat) (p1 : Int32) (p2 : Int32) (out : Int32) (hf : f2_colourBehind K g p0 p1 p2 = some out) : Met l yX2_colourBehind (wA yX2_colourBehind cX2_colourBehind 8 (some .int)) ({ frames := 1, cells := 0, slots := 0, locals := 21 } : Room) (PRE w K g S [va_rf p0, .int p1, .int p2]) (QI w K g S out) 0 0 (FR w) := by
  unfold f2_colourBehind at hf
  rcases gopt_c hf with ⟨rfl, hf⟩ | ⟨tp0, rfl, hf⟩
  · cases hf
  · show Met l yX2_colourBehind (wA yX2_colourBehind cX2_colourBehind 8 (some .int)) ({ frames := 1, cells := 0, slots := 0, locals := 21 } : Room) (PRE w K g S [.ref tp0, .int p1, .int p2]) (QI w K g S out) 0 0 (FR w)
    refine Met.ofW (cc := cX2_colourBehind) (maxL := 8) (ret := (some .int)) (by decide) rfl ?_
    intro p e s m args below meth c s₁ B hml hv
    obtain ⟨rfl, hH, hK⟩ := hv
    have hx := B.exec
    have hb := B.bytes
    have hr := B.returns
    have hts : ∀ q ∈ gALL, q.before _ s = true := fun q h => atoms_spec (ws := (wA yX2_colourBehind cX2_colourBehind 8 (some .int))) B.pre q (List.mem_cons_of_mem _ h)
    have hown : s.vm.findClass RX2 = some m.cls := findClass_of_methodNamed B.named
    have hlocks := B.notSynchronized
    have hS : va_S (FR w) s.heap s.heap [] := va_S.rf
    show W p l e ({ frames := 1, cells := 0, slots := 0, locals := 21 } : Room) s m _ below meth c s.heap [] 0 0 (MQ below (QI w K g S out) _ s 0 0 (FR w)) _
    have hl := lv_entry ([.ref tp0, .int p1, .int p2]) (n := 8) (Nat.le_of_ble_eq_true rfl)
    rw [lg_entry_eq]
    generalize (lg_sl ([.ref tp0, .int p1, .int p2]) ++ List.replicate (8 - (lg_sl ([.ref tp0, .int p1, .int p2])).length) Slot.unset).toArray = ls at hl ⊢
    clear B
    generalize ([.ref tp0, .int p1, .int p2] : List Value).toArray = args at hts ⊢
    have B112 : ∀ (k11 : Int32 → Int32 → Int32 → Int32 → Option (Int32)), (∀ (x3 : Int32) (x4 : Int32) (x5 : Int32) (x6 : Int32) (H : Heap) (locs : List Loc) (ls : Array Slot), HR w K g S H → va_S (FR w) s.heap H locs → lv_has ls 8 [(0, .ref tp0), (3, .int x3), (4, .int x4), (5, .int x5), (6, .int x6)] → k11 x3 x4 x5 x6 = some out → W p l e ({ frames := 1, cells := 0, slots := 0, locals := 21 } : Room) s m args below meth c H locs 0 0 (MQ below (QI w K g S out) args s 0 0 (FR w)) (F0 m 11 ls [])) → ∀ (x3 : Int32) (x4 : Int32) (x5 : Int32) (x6 : Int32) (H : Heap) (locs : List Loc) (ls : Array Slot), HR w K g S H → va_S (FR w) s.heap H locs → lv_has ls 8 [(0, .ref tp0), (3, .int x3), (4, .int x4), (5, .int x5), (6, .int x6)] → f2_colourBehind_112 k11 K g p1 p2 tp0 x3 x4 x5 x6 = some out → W p l e ({ frames := 1, cells := 0, slots := 0, locals := 21 } : Room) s m args below meth c H locs 0 0 (MQ below (QI w K g S out) args s 0 0 (FR w)) (F0 m 112 ls []) := by
      intro k11 hk11 x3 x4 x5 x6 H locs ls hH hS hl hf
      unfold f2_colourBehind_112 at hf
      obtain ⟨v1, ev1⟩ : ∃ z : Int32, z = x6 + 1 := ⟨_, rfl⟩
      have hf := gl_at hf ev1
      refine lv_iinc (v := v1) (lv' := [(6, .int v1), (0, .ref tp0), (3, .int x3), (4, .int x4), (5, .int x5)]) hx hb dX2_colourBehind_112 hl (k := 4) rfl (by rw [ev1]; rfl) (by decide) rfl (fun ls hl => ?_)
      refine lv_goto (tgt := 11) hx hb dX2_colourBehind_115 (by decide) ?_
      exact hk11 _ _ _ _ _ _ _ hH hS (lv_sub hl [1, 2, 3, 4, 0] rfl) hf
    have B90 : ∀ (k11 : Int32 → Int32 → Int32 → Int32 → Option (Int32)), (∀ (x3 : Int32) (x4 : Int32) (x5 : Int32) (x6 : Int32) (H : Heap) (locs : List Loc) (ls : Array Slot), HR w K g S H → va_S (FR w) s.heap H locs → lv_has ls 8 [(0, .ref tp0), (3, .int x3), (4, .int x4), (5, .int x5), (6, .int x6)] → k11 x3 x4 x5 x6 = some out → W p l e ({ frames := 1, cells := 0, slots := 0, locals := 21 } : Room) s m args below meth c H locs 0 0 (MQ below (QI w K g S out) args s 0 0 (FR w)) (F0 m 11 ls [])) → ∀ (x3 : Int32) (x4 : Int32) (x5 : Int32) (x6 : Int32) (H : Heap) (locs : List Loc) (ls : Array Slot), HR w K g S H → va_S (FR w) s.heap H locs → lv_has ls 8 [(0, .ref tp0), (3, .int x3), (4, .int x4), (5, .int x5), (6, .int x6)] → f2_colourBehind_90 k11 K g p1 p2 tp0 x3 x4 x5 x6 = some out → W p l e ({ frames := 1, cells := 0, slots := 0, locals := 21 } : Room) s m args below meth c H locs 0 0 (MQ below (QI w K g S out) args s 0 0 (FR w)) (F0 m 90 ls []) := by
      intro k11 hk11 x3 x4 x5 x6 H locs ls hH hS hl hf
      unfold f2_colourBehind_90 at hf
      obtain ⟨v2, ev2⟩ : ∃ z : Int32, z = x5 + 1 := ⟨_, rfl⟩
      have hf := gl_at hf ev2
      refine lv_iinc (v := v2) (lv' := [(5, .int v2), (0, .ref tp0), (3, .int x3), (4, .int x4), (6, .int x6)]) hx hb dX2_colourBehind_90 hl (k := 3) rfl (by rw [ev2]; rfl) (by decide) rfl (fun ls hl => ?_)
      refine lv_aload_n hx hb dX2_colourBehind_93 rfl (lv_at hl 1 rfl) ?_
      refine lv_iload hx hb dX2_colourBehind_94 (lv_at hl 3 rfl) ?_
      obtain ⟨k3, hf⟩ := gd_some hf
      have k3 := gk_obj k3
      obtain ⟨v4, h5, hf⟩ := gbind hf
      refine g_Vi (As := [.int x4]) (rest := []) ⟨hx, hb, hml, hown, hts⟩ (c1_insideOf l w K g S tp0 x4 v4 h5 k3) (gcwV hts i1_insideOf wd_750 rfl rfl ⟨Nat.le_of_ble_eq_true rfl, Nat.le_of_ble_eq_true rfl⟩) (gRecv.of hK rfl (hH.o2 k3)) hH hK hS hl.1 rfl rfl (Nat.le_of_ble_eq_true rfl) dX2_colourBehind_96 ⟨Nat.le_refl _, Nat.le_refl _⟩ (fun H locs hH hS => ?_)
      refine lv_istore (lv' := [(4, .int v4), (5, .int v2), (0, .ref tp0), (3, .int x3), (6, .int x6)]) hx hb dX2_colourBehind_99 hl (by decide) rfl (fun ls hl => ?_)
      refine lv_goto (tgt := 112) hx hb dX2_colourBehind_101 (by decide) ?_
      exact B112 _ (hk11) _ _ _ _ _ _ _ hH hS (lv_sub hl [2, 3, 0, 1, 4] rfl) hf
    have B60 : ∀ (k11 : Int32 → Int32 → Int32 → Int32 → Option (Int32)), (∀ (x3 : Int32) (x4 : Int32) (x5 : Int32) (x6 : Int32) (H : Heap) (locs : List Loc) (ls : Array Slot), HR w K g S H → va_S (FR w) s.heap H locs → lv_has ls 8 [(0, .ref tp0), (3, .int x3), (4, .int x4), (5, .int x5), (6, .int x6)] → k11 x3 x4 x5 x6 = some out → W p l e ({ frames := 1, cells := 0, slots := 0, locals := 21 } : Room) s m args below meth c H locs 0 0 (MQ below (QI w K g S out) args s 0 0 (FR w)) (F0 m 11 ls [])) → ∀ (x3 : Int32) (x4 : Int32) (x5 : Int32) (x6 : Int32) (x7 : Int32) (H : Heap) (locs : List Loc) (ls : Array Slot), HR w K g S H → va_S (FR w) s.heap H locs → lv_has ls 8 [(0, .ref tp0), (3, .int x3), (4, .int x4), (5, .int x5), (6, .int x6), (7, .int x7)] → f2_colourBehind_60 k11 K g p1 p2 tp0 x3 x4 x5 x6 x7 = some out → W p l e ({ frames := 1, cells := 0, slots := 0, locals := 21 } : Room) s m args below meth c H locs 0 0 (MQ below (QI w K g S out) args s 0 0 (FR w)) (F0 m 60 ls []) := by
      intro k11 hk11 x3 x4 x5 x6 x7 H locs ls hH hS hl hf
      unfold f2_colourBehind_60 at hf
      refine lv_iload hx hb dX2_colourBehind_60 (lv_at hl 5 rfl) ?_
      refine lv_bipush (v := 41) hx hb dX2_colourBehind_62 (by decide) ?_
      have hg := gif hf
      refine lv_icmp_ne (tgt := 76) hx hb dX2_colourBehind_64 (by decide) (fun c6 => ?_) (fun c6 => ?_)
      · have hf := hg.2 c6
        refine lv_iload hx hb dX2_colourBehind_76 (lv_at hl 5 rfl) ?_
        refine lv_bipush (v := 120) hx hb dX2_colourBehind_78 (by decide) ?_
        have hg := gif hf
        refine lv_icmp_eq (tgt := 90) hx hb dX2_colourBehind_80 (by decide) (fun c7 => ?_) (fun c7 => ?_)
        · have hf := hg.1 c7
          exact B90 _ (hk11) _ _ _ _ _ _ _ hH hS (lv_sub hl [0, 1, 2, 3, 4] rfl) hf
        · have hf := hg.2 c7
          refine lv_iload hx hb dX2_colourBehind_83 (lv_at hl 5 rfl) ?_
          refine lv_bipush (v := 108) hx hb dX2_colourBehind_85 (by decide) ?_
          have hg := gif hf
          refine lv_icmp_ne (tgt := 104) hx hb dX2_colourBehind_87 (by decide) (fun c8 => ?_) (fun c8 => ?_)
          · have hf := hg.2 c8
            refine lv_aload_n hx hb dX2_colourBehind_104 rfl (lv_at hl 0 rfl) ?_
            refine lv_iload hx hb dX2_colourBehind_105 (lv_at hl 2 rfl) ?_
            obtain ⟨k9, hf⟩ := gd_some hf
            have k9 := gk_obj k9
            obtain ⟨v10, h11, hf⟩ := gbind hf
            refine g_Vi (As := [.int x4]) (rest := []) ⟨hx, hb, hml, hown, hts⟩ (c1_behind l w K g S tp0 x4 v10 h11 k9) (gcwV hts i1_behind wd_756 rfl rfl ⟨Nat.le_of_ble_eq_true rfl, Nat.le_of_ble_eq_true rfl⟩) (gRecv.of hK rfl (hH.o2 k9)) hH hK hS hl.1 rfl rfl (Nat.le_of_ble_eq_true rfl) dX2_colourBehind_107 ⟨Nat.le_refl _, Nat.le_refl _⟩ (fun H locs hH hS => ?_)
            refine lv_istore (lv' := [(4, .int v10), (0, .ref tp0), (3, .int x3), (5, .int x5), (6, .int x6), (7, .int x7)]) hx hb dX2_colourBehind_110 hl (by decide) rfl (fun ls hl => ?_)
            exact B112 _ (hk11) _ _ _ _ _ _ _ hH hS (lv_sub hl [1, 2, 0, 3, 4] rfl) hf
          · have hf := hg.1 c8
            exact B90 _ (hk11) _ _ _ _ _ _ _ hH hS (lv_sub hl [0, 1, 2, 3, 4] rfl) hf
      · have hf := hg.1 c6
        obtain ⟨v12, ev12⟩ : ∃ z : Int32, z = x5 + (-1) := ⟨_, rfl⟩
        have hf := gl_at hf ev12
        refine lv_iinc (v := v12) (lv' := [(5, .int v12), (0, .ref tp0), (3, .int x3), (4, .int x4), (6, .int x6), (7, .int x7)]) hx hb dX2_colourBehind_67 hl (k := 3) rfl (by rw [ev12]; rfl) (by decide) rfl (fun ls hl => ?_)
        obtain ⟨v13, ev13⟩ : ∃ z : Int32, z = x4 + 1 := ⟨_, rfl⟩
        have hf := gl_at hf ev13
        refine lv_iinc (v := v13) (lv' := [(4, .int v13), (5, .int v12), (0, .ref tp0), (3, .int x3), (6, .int x6), (7, .int x7)]) hx hb dX2_colourBehind_70 hl (k := 3) rfl (by rw [ev13]; rfl) (by decide) rfl (fun ls hl => ?_)
        refine lv_goto (tgt := 112) hx hb dX2_colourBehind_73 (by decide) ?_
        exact B112 _ (hk11) _ _ _ _ _ _ _ hH hS (lv_sub hl [2, 3, 0, 1, 4] rfl) hf
    have B46 : ∀ (k11 : Int32 → Int32 → Int32 → Int32 → Option (Int32)), (∀ (x3 : Int32) (x4 : Int32) (x5 : Int32) (x6 : Int32) (H : Heap) (locs : List Loc) (ls : Array Slot), HR w K g S H → va_S (FR w) s.heap H locs → lv_has ls 8 [(0, .ref tp0), (3, .int x3), (4, .int x4), (5, .int x5), (6, .int x6)] → k11 x3 x4 x5 x6 = some out → W p l e ({ frames := 1, cells := 0, slots := 0, locals := 21 } : Room) s m args below meth c H locs 0 0 (MQ below (QI w K g S out) args s 0 0 (FR w)) (F0 m 11 ls [])) → ∀ (x3 : Int32) (x4 : Int32) (x5 : Int32) (x6 : Int32) (x7 : Int32) (H : Heap) (locs : List Loc) (ls : Array Slot), HR w K g S H → va_S (FR w) s.heap H locs → lv_has ls 8 [(0, .ref tp0), (3, .int x3), (4, .int x4), (5, .int x5), (6, .int x6), (7, .int x7)] → f2_colourBehind_46 k11 K g p1 p2 tp0 x3 x4 x5 x6 x7 = some out → W p l e ({ frames := 1, cells := 0, slots := 0, locals := 21 } : Room) s m args below meth c H locs 0 0 (MQ below (QI w K g S out) args s 0 0 (FR w)) (F0 m 46 ls []) := by
      intro k11 hk11 x3 x4 x5 x6 x7 H locs ls hH hS hl hf
      unfold f2_colourBehind_46 at hf
      refine lv_iload hx hb dX2_colourBehind_46 (lv_at hl 5 rfl) ?_
      refine lv_bipush (v := 99) hx hb dX2_colourBehind_48 (by decide) ?_
      have hg := gif hf
      refine lv_icmp_ne (tgt := 60) hx hb dX2_colourBehind_50 (by decide) (fun c14 => ?_) (fun c14 => ?_)
      · have hf := hg.2 c14
        exact B60 _ (hk11) _ _ _ _ _ _ _ _ hH hS (lv_sub hl [0, 1, 2, 3, 4, 5] rfl) hf
      · have hf := hg.1 c14
        refine lv_aload_n hx hb dX2_colourBehind_53 rfl (lv_at hl 0 rfl) ?_
        refine lv_iload hx hb dX2_colourBehind_54 (lv_at hl 2 rfl) ?_
        obtain ⟨k15, hf⟩ := gd_some hf
        have k15 := gk_obj k15
        obtain ⟨v16, h17, hf⟩ := gbind hf
        refine g_Vi (As := [.int x4]) (rest := []) ⟨hx, hb, hml, hown, hts⟩ (c1_digitAt l w K g S tp0 x4 v16 h17 k15) (gcwV hts i1_digitAt wd_752 rfl rfl ⟨Nat.le_of_ble_eq_true rfl, Nat.le_of_ble_eq_true rfl⟩) (gRecv.of hK rfl (hH.o2 k15)) hH hK hS hl.1 rfl rfl (Nat.le_of_ble_eq_true rfl) dX2_colourBehind_56 ⟨Nat.le_refl _, Nat.le_refl _⟩ (fun H locs hH hS => ?_)
        refine lv_istore_n (lv' := [(3, .int v16), (0, .ref tp0), (4, .int x4), (5, .int x5), (6, .int x6), (7, .int x7)]) hx hb dX2_colourBehind_59 rfl hl (by decide) rfl (fun ls hl => ?_)
        exact B60 _ (hk11) _ _ _ _ _ _ _ _ hH hS (lv_sub hl [1, 0, 2, 3, 4, 5] rfl) hf
    have B11 : ∀ n : Nat, ∀ (x3 : Int32) (x4 : Int32) (x5 : Int32) (x6 : Int32) (H : Heap) (locs : List Loc) (ls : Array Slot), HR w K g S H → va_S (FR w) s.heap H locs → lv_has ls 8 [(0, .ref tp0), (3, .int x3), (4, .int x4), (5, .int x5), (6, .int x6)] → f2_colourBehind_11 K g p1 p2 tp0 n x3 x4 x5 x6 = some out → W p l e ({ frames := 1, cells := 0, slots := 0, locals := 21 } : Room) s m args below meth c H locs 0 0 (MQ below (QI w K g S out) args s 0 0 (FR w)) (F0 m 11 ls []) := by
      intro n
      induction n with
      | zero =>
        intro x3 x4 x5 x6 H locs ls hH hS hl hf
        cases hf
      | succ n ih =>
        intro x3 x4 x5 x6 H locs ls hH hS hl hf
        rw [f2_colourBehind_11] at hf
        refine lv_iload hx hb dX2_colourBehind_11 (lv_at hl 4 rfl) ?_
        refine lv_bipush (v := 80) hx hb dX2_colourBehind_13 (by decide) ?_
        have hg := gif hf
        refine lv_icmp_ge (tgt := 118) hx hb dX2_colourBehind_15 (by decide) (fun c18 => ?_) (fun c18 => ?_)
        · have hf := hg.1 c18
          refine lv_iload_n hx hb dX2_colourBehind_118 rfl (lv_at hl 1 rfl) ?_
          have ho := Option.some.inj hf
          exact W.iret (v := x3) hx hb hr (fun t ht hW => ⟨⟨x3, (), rfl, ho, hrE ht hH⟩, hS.F ht⟩) hS.2.2 dX2_colourBehind_119
        · have hf := hg.2 c18
          refine lv_aload_n hx hb dX2_colourBehind_18 rfl (lv_at hl 0 rfl) ?_
          refine lv_iload hx hb dX2_colourBehind_19 (lv_at hl 2 rfl) ?_
          obtain ⟨k19, hf⟩ := gd_some hf
          have k19 := gk_obj k19
          obtain ⟨v20, h21, hf⟩ := gbind hf
          refine g_Vi (As := [.int x4]) (rest := []) ⟨hx, hb, hml, hown, hts⟩ (c1_signAt l w K g S tp0 x4 v20 h21 k19) (gcwV hts i1_signAt wd_749 rfl rfl ⟨Nat.le_of_ble_eq_true rfl, Nat.le_of_ble_eq_true rfl⟩) (gRecv.of hK rfl (hH.o2 k19)) hH hK hS hl.1 rfl rfl (Nat.le_of_ble_eq_true rfl) dX2_colourBehind_21 ⟨Nat.le_refl _, Nat.le_refl _⟩ (fun H locs hH hS => ?_)
          refine lv_istore (lv' := [(7, .int v20), (0, .ref tp0), (3, .int x3), (4, .int x4), (5, .int x5), (6, .int x6)]) hx hb dX2_colourBehind_24 hl (by decide) rfl (fun ls hl => ?_)
          refine lv_iload hx hb dX2_colourBehind_26 (lv_at hl 0 rfl) ?_
          have hg := gif hf
          refine lv_if_eq (tgt := 118) hx hb dX2_colourBehind_28 (by decide) (fun c22 => ?_) (fun c22 => ?_)
          · have hf := hg.1 c22
            refine lv_iload_n hx hb dX2_colourBehind_118 rfl (lv_at hl 2 rfl) ?_
            have ho := Option.some.inj hf
            exact W.iret (v := x3) hx hb hr (fun t ht hW => ⟨⟨x3, (), rfl, ho, hrE ht hH⟩, hS.F ht⟩) hS.2.2 dX2_colourBehind_119
          · have hf := hg.2 c22
            refine lv_iload hx hb dX2_colourBehind_31 (lv_at hl 0 rfl) ?_
            refine lv_bipush (v := 41) hx hb dX2_colourBehind_33 (by decide) ?_
            have hg := gif hf
            refine lv_icmp_ne (tgt := 46) hx hb dX2_colourBehind_35 (by decide) (fun c23 => ?_) (fun c23 => ?_)
            · have hf := hg.2 c23
              exact B46 _ (ih) _ _ _ _ _ _ _ _ hH hS (lv_sub hl [1, 2, 3, 4, 5, 0] rfl) hf
            · have hf := hg.1 c23
              refine lv_iload hx hb dX2_colourBehind_38 (lv_at hl 4 rfl) ?_
              have hg := gif hf
              refine lv_if_ne (tgt := 46) hx hb dX2_colourBehind_40 (by decide) (fun c24 => ?_) (fun c24 => ?_)
              · have hf := hg.2 c24
                exact B46 _ (ih) _ _ _ _ _ _ _ _ hH hS (lv_sub hl [1, 2, 3, 4, 5, 0] rfl) hf
              · have hf := hg.1 c24
                refine lv_goto (tgt := 118) hx hb dX2_colourBehind_43 (by decide) ?_
                refine lv_iload_n hx hb dX2_colourBehind_118 rfl (lv_at hl 2 rfl) ?_
                have ho := Option.some.inj hf
                exact W.iret (v := x3) hx hb hr (fun t ht hW => ⟨⟨x3, (), rfl, ho, hrE ht hH⟩, hS.F ht⟩) hS.2.2 dX2_colourBehind_119
    have hl : lv_has ls 8 [(0, .ref tp0), (1, .int p1), (2, .int p2)] := hl
    refine lv_iload_n hx hb dX2_colourBehind_0 rfl (lv_at hl 2 rfl) ?_
    refine lv_istore_n (lv' := [(3, .int p2), (0, .ref tp0), (1, .int p1), (2, .int p2)]) hx hb dX2_colourBehind_1 rfl hl (by decide) rfl (fun ls hl => ?_)
    refine lv_iload_n hx hb dX2_colourBehind_2 rfl (lv_at hl 2 rfl) ?_
    refine lv_istore (lv' := [(4, .int p1), (3, .int p2), (0, .ref tp0), (1, .int p1), (2, .int p2)]) hx hb dX2_colourBehind_3 hl (by decide) rfl (fun ls hl => ?_)
    refine lv_iconst (v := 0) hx hb dX2_colourBehind_5 (by decide) ?_
    refine lv_istore (lv' := [(5, .int 0), (4, .int p1), (3, .int p2), (0, .ref tp0), (1, .int p1), (2, .int p2)]) hx hb dX2_colourBehind_6 hl (by decide) rfl (fun ls hl => ?_)
    refine lv_iconst (v := 0) hx hb dX2_colourBehind_8 (by decide) ?_
    refine lv_istore (lv' := [(6, .int 0), (5, .int 0), (4, .int p1), (3, .int p2), (0, .ref tp0), (1, .int p1), (2, .int p2)]) hx hb dX2_colourBehind_9 hl (by decide) rfl (fun ls hl => ?_)
    exact B11 _ _ _ _ _ _ _ _ hH hS (lv_sub hl [4, 3, 2, 1, 0] rfl) hf
set_option maxRecDepth 100000 in
set_option maxHeartbeats 8000000 in
theorem c2_highestOf (l : Launch) (w : GW) (K : GK) (g : GM) (S : GS) (a : Nat) (p0 : Int32) (out : Int32) (hf : f2_highestOf K g a p0 = some out) (hk0 : gkd K a = 3) : Met l yX2_highestOf (wA yX2_highestOf cX2_highestOf 4 (some .int)) ({ frames := 1, cells := 0, slots := 0, locals := 30 } : Room) (PRE w K g S [.ref a, .int p0]) (QI w K g S out) 0 0 (FR w) := by
  unfold f2_highestOf at hf
  refine Met.ofW (cc := cX2_highestOf) (maxL := 4) (ret := (some .int)) (by decide) rfl ?_
  intro p e s m args below meth c s₁ B hml hv
  obtain ⟨rfl, hH, hK⟩ := hv
  have hx := B.exec
  have hb := B.bytes
  have hr := B.returns
  have hts : ∀ q ∈ gALL, q.before _ s = true := fun q h => atoms_spec (ws := (wA yX2_highestOf cX2_highestOf 4 (some .int))) B.pre q (List.mem_cons_of_mem _ h)
  have hown : s.vm.findClass RX2 = some m.cls := findClass_of_methodNamed B.named
  have hlocks := B.notSynchronized
  have hS : va_S (FR w) s.heap s.heap [] := va_S.rf
  show W p l e ({ frames := 1, cells := 0, slots := 0, locals := 30 } : Room) s m _ below meth c s.heap [] 0 0 (MQ below (QI w K g S out) _ s 0 0 (FR w)) _
  have hl := lv_entry ([.ref a, .int p0]) (n := 4) (Nat.le_of_ble_eq_true rfl)
  rw [lg_entry_eq]
  generalize (lg_sl ([.ref a, .int p0]) ++ List.replicate (4 - (lg_sl ([.ref a, .int p0])).length) Slot.unset).toArray = ls at hl ⊢
  clear B
  generalize ([.ref a, .int p0] : List Value).toArray = args at hts ⊢
  have B29 : ∀ (k4 : Int32 → Int32 → Option (Int32)), (∀ (x2 : Int32) (x3 : Int32) (H : Heap) (locs : List Loc) (ls : Array Slot), HR w K g S H → va_S (FR w) s.heap H locs → lv_has ls 4 [(0, .ref a), (1, .int p0), (2, .int x2), (3, .int x3)] → k4 x2 x3 = some out → W p l e ({ frames := 1, cells := 0, slots := 0, locals := 30 } : Room) s m args below meth c H locs 0 0 (MQ below (QI w K g S out) args s 0 0 (FR w)) (F0 m 4 ls [])) → ∀ (x2 : Int32) (x3 : Int32) (H : Heap) (locs : List Loc) (ls : Array Slot), HR w K g S H → va_S (FR w) s.heap H locs → lv_has ls 4 [(0, .ref a), (1, .int p0), (2, .int x2), (3, .int x3)] → f2_highestOf_29 k4 K g a p0 x2 x3 = some out → W p l e ({ frames := 1, cells := 0, slots := 0, locals := 30 } : Room) s m args below meth c H locs 0 0 (MQ below (QI w K g S out) args s 0 0 (FR w)) (F0 m 29 ls []) := by
    intro k4 hk4 x2 x3 H locs ls hH hS hl hf
    unfold f2_highestOf_29 at hf
    obtain ⟨v1, ev1⟩ : ∃ z : Int32, z = x3 + 1 := ⟨_, rfl⟩
    have hf := gl_at hf ev1
    refine lv_iinc (v := v1) (lv' := [(3, .int v1), (0, .ref a), (1, .int p0), (2, .int x2)]) hx hb dX2_highestOf_29 hl (k := 3) rfl (by rw [ev1]; rfl) (by decide) rfl (fun ls hl => ?_)
    refine lv_goto (tgt := 4) hx hb dX2_highestOf_32 (by decide) ?_
    exact hk4 _ _ _ _ _ hH hS (lv_sub hl [1, 2, 3, 0] rfl) hf
  have B4 : ∀ n : Nat, ∀ (x2 : Int32) (x3 : Int32) (H : Heap) (locs : List Loc) (ls : Array Slot), HR w K g S H → va_S (FR w) s.heap H locs → lv_has ls 4 [(0, .ref a), (1, .int p0), (2, .int x2), (3, .int x3)] → f2_highestOf_4 K g a p0 n x2 x3 = some out → W p l e ({ frames := 1, cells := 0, slots := 0, locals := 30 } : Room) s m args below meth c H locs 0 0 (MQ below (QI w K g S out) args s 0 0 (FR w)) (F0 m 4 ls []) := by
    intro n
    induction n with
    | zero =>
      intro x2 x3 H locs ls hH hS hl hf
      cases hf
    | succ n ih =>
      intro x2 x3 H locs ls hH hS hl hf
      rw [f2_highestOf_4] at hf
      refine lv_iload_n hx hb dX2_highestOf_4 rfl (lv_at hl 3 rfl) ?_
      refine lv_bipush (v := 10) hx hb dX2_highestOf_5 (by decide) ?_
      have hg := gif hf
      refine lv_icmp_ge (tgt := 35) hx hb dX2_highestOf_7 (by decide) (fun c2 => ?_) (fun c2 => ?_)
      · have hf := hg.1 c2
        refine lv_iload_n hx hb dX2_highestOf_35 rfl (lv_at hl 2 rfl) ?_
        have ho := Option.some.inj hf
        exact W.iret (v := x2) hx hb hr (fun t ht hW => ⟨⟨x2, (), rfl, ho, hrE ht hH⟩, hS.F ht⟩) hS.2.2 dX2_highestOf_36
      · have hf := hg.2 c2
        refine lv_iload_n hx hb dX2_highestOf_10 rfl (lv_at hl 1 rfl) ?_
        refine lv_iload_n hx hb dX2_highestOf_11 rfl (lv_at hl 3 rfl) ?_
        obtain ⟨v3, h4, hf⟩ := gbind hf
        refine g_Si (As := [.int p0, .int x3]) (rest := []) ⟨hx, hb, hml, hown, hts⟩ (c2_holds l w K g S p0 x3 v3 h4) (gcwS hts i2_holds wd_311 rfl rfl ⟨Nat.le_of_ble_eq_true rfl, Nat.le_of_ble_eq_true rfl⟩) hH hK hS hl.1 rfl rfl (Nat.le_of_ble_eq_true rfl) dX2_highestOf_12 ⟨Nat.le_refl _, Nat.le_refl _⟩ (fun H locs hH hS => ?_)
        have hg := gif hf
        refine lv_if_eq (tgt := 29) hx hb dX2_highestOf_15 (by decide) (fun c5 => ?_) (fun c5 => ?_)
        · have hf := hg.1 c5
          exact B29 _ (ih) _ _ _ _ _ hH hS (lv_sub hl [0, 1, 2, 3] rfl) hf
        · have hf := hg.2 c5
          refine lv_iload_n hx hb dX2_highestOf_18 rfl (lv_at hl 2 rfl) ?_
          refine lv_aload_n hx hb dX2_highestOf_19 rfl (lv_at hl 0 rfl) ?_
          have k6 : K.1 (a + 1) = (10, 10) := hH.sub hk0 0 (t := (1, 10, 10)) rfl
          refine e_2_0 hx hb hts hown hK hH hk0 (hts _ wd_95) dX2_highestOf_20 ?_
          refine lv_iload_n hx hb dX2_highestOf_23 rfl (lv_at hl 3 rfl) ?_
          obtain ⟨h8, hf⟩ := gd_some hf
          refine g_iald hx hb hK hH k6 h8 dX2_highestOf_24 ?_
          refine va_mmax hx hb (hml.trans hl.1.symm) hown (hts _ wd_822) (hts _ wd_227) (hts _ wd_135) (hts _ wd_228) (Nat.le_of_ble_eq_true rfl) (Nat.le_of_ble_eq_true rfl) (Nat.le_of_ble_eq_true rfl) (Nat.le_of_ble_eq_true rfl) dX2_highestOf_25 ?_
          refine lv_topi (fun v9 ev9 => ?_)
          have hf := gl_at hf ev9
          refine lv_istore_n (lv' := [(2, .int v9), (0, .ref a), (1, .int p0), (3, .int x3)]) hx hb dX2_highestOf_28 rfl hl (by decide) rfl (fun ls hl => ?_)
          exact B29 _ (ih) _ _ _ _ _ hH hS (lv_sub hl [1, 2, 0, 3] rfl) hf
  have hl : lv_has ls 4 [(0, .ref a), (1, .int p0)] := hl
  refine lv_iconst (v := 0) hx hb dX2_highestOf_0 (by decide) ?_
  refine lv_istore_n (lv' := [(2, .int 0), (0, .ref a), (1, .int p0)]) hx hb dX2_highestOf_1 rfl hl (by decide) rfl (fun ls hl => ?_)
  refine lv_iconst (v := 0) hx hb dX2_highestOf_2 (by decide) ?_
  refine lv_istore_n (lv' := [(3, .int 0), (2, .int 0), (0, .ref a), (1, .int p0)]) hx hb dX2_highestOf_3 rfl hl (by decide) rfl (fun ls hl => ?_)
  exact B4 _ _ _ _ _ _ hH hS (lv_sub hl [2, 3, 1, 0] rfl) hf
set_option maxRecDepth 100000 in
set_option maxHeartbeats 8000000 in
theorem c2_depthOf (l : Launch) (w : GW) (K : GK) (g : GM) (S : GS) (a : Nat) (p0 : Nat) (p1 : Int32) (out : GM × Int32) (hf : f2_depthOf K g a p0 p1 = some out) (hk0 : gkd K a = 3) : Met l yX2_depthOf (wA yX2_depthOf cX2_depthOf 5 (some .int)) ({ frames := 2, cells := 0, slots := 0, locals := 53 } : Room) (PRE w K g S [.ref a, .ref p0, .int p1]) (QI w K out.1 S out.2) 0 0 (FR w) := by
  unfold f2_depthOf at hf
  refine Met.ofW (cc := cX2_depthOf) (maxL := 5) (ret := (some .int)) (by decide) rfl ?_
  intro p e s m args below meth c s₁ B hml hv
  obtain ⟨rfl, hH, hK⟩ := hv
  have hx := B.exec
  have hb := B.bytes
  have hr := B.returns
  have hts : ∀ q ∈ gALL, q.before _ s = true := fun q h => atoms_spec (ws := (wA yX2_depthOf cX2_depthOf 5 (some .int))) B.pre q (List.mem_cons_of_mem _ h)
  have hown : s.vm.findClass RX2 = some m.cls := findClass_of_methodNamed B.named
  have hlocks := B.notSynchronized
  have hS : va_S (FR w) s.heap s.heap [] := va_S.rf
  show W p l e ({ frames := 2, cells := 0, slots := 0, locals := 53 } : Room) s m _ below meth c s.heap [] 0 0 (MQ below (QI w K out.1 S out.2) _ s 0 0 (FR w)) _
  have hl := lv_entry ([.ref a, .ref p0, .int p1]) (n := 5) (Nat.le_of_ble_eq_true rfl)
  rw [lg_entry_eq]
  generalize (lg_sl ([.ref a, .ref p0, .int p1]) ++ List.replicate (5 - (lg_sl ([.ref a, .ref p0, .int p1])).length) Slot.unset).toArray = ls at hl ⊢
  clear B
  generalize ([.ref a, .ref p0, .int p1] : List Value).toArray = args at hts ⊢
  have B32 : ∀ (k23 : GM → Int32 → Option (GM × Int32)), (∀ (g : GM) (x3 : Int32) (H : Heap) (locs : List Loc) (ls : Array Slot), HR w K g S H → va_S (FR w) s.heap H locs → lv_has ls 5 [(0, .ref a), (1, .ref p0), (2, .int p1), (3, .int x3)] → k23 g x3 = some out → W p l e ({ frames := 2, cells := 0, slots := 0, locals := 53 } : Room) s m args below meth c H locs 0 0 (MQ below (QI w K out.1 S out.2) args s 0 0 (FR w)) (F0 m 23 ls [])) → ∀ n : Nat, ∀ (g : GM) (x3 : Int32) (x4 : Int32) (H : Heap) (locs : List Loc) (ls : Array Slot), HR w K g S H → va_S (FR w) s.heap H locs → lv_has ls 5 [(0, .ref a), (1, .ref p0), (2, .int p1), (3, .int x3), (4, .int x4)] → f2_depthOf_32 k23 K a p0 p1 n g x3 x4 = some out → W p l e ({ frames := 2, cells := 0, slots := 0, locals := 53 } : Room) s m args below meth c H locs 0 0 (MQ below (QI w K out.1 S out.2) args s 0 0 (FR w)) (F0 m 32 ls []) := by
    intro k23 hk23
    intro n
    induction n with
    | zero =>
      intro g x3 x4 H locs ls hH hS hl hf
      cases hf
    | succ n ih =>
      intro g x3 x4 H locs ls hH hS hl hf
      rw [f2_depthOf_32] at hf
      refine lv_iload hx hb dX2_depthOf_32 (lv_at hl 4 rfl) ?_
      refine lv_bipush (v := 10) hx hb dX2_depthOf_34 (by decide) ?_
      have hg := gif hf
      refine lv_icmp_ge (tgt := 64) hx hb dX2_depthOf_36 (by decide) (fun c1 => ?_) (fun c1 => ?_)
      · have hf := hg.1 c1
        obtain ⟨v2, ev2⟩ : ∃ z : Int32, z = x3 + 1 := ⟨_, rfl⟩
        have hf := gl_at hf ev2
        refine lv_iinc (v := v2) (lv' := [(3, .int v2), (0, .ref a), (1, .ref p0), (2, .int p1), (4, .int x4)]) hx hb dX2_depthOf_64 hl (k := 3) rfl (by rw [ev2]; rfl) (by decide) rfl (fun ls hl => ?_)
        refine lv_goto (tgt := 23) hx hb dX2_depthOf_67 (by decide) ?_
        exact hk23 _ _ _ _ _ hH hS (lv_sub hl [1, 2, 3, 0] rfl) hf
      · have hf := hg.2 c1
        refine lv_aload_n hx hb dX2_depthOf_39 rfl (lv_at hl 0 rfl) ?_
        have k3 : K.1 (a + 1) = (10, 10) := hH.sub hk0 0 (t := (1, 10, 10)) rfl
        refine e_2_0 hx hb hts hown hK hH hk0 (hts _ wd_95) dX2_depthOf_40 ?_
        refine lv_iload hx hb dX2_depthOf_43 (lv_at hl 4 rfl) ?_
        refine lv_iconst (v := 1) hx hb dX2_depthOf_45 (by decide) ?_
        refine lv_aload_n hx hb dX2_depthOf_46 rfl (lv_at hl 0 rfl) ?_
        refine lv_aload_n hx hb dX2_depthOf_47 rfl (lv_at hl 1 rfl) ?_
        refine lv_iload hx hb dX2_depthOf_48 (lv_at hl 4 rfl) ?_
        obtain ⟨v4, h5, hf⟩ := gbind hf
        refine g_Si (As := [.ref p0, .int x4]) (rest := [.ref a, .int 1, .int x4, .ref (a + 1)]) ⟨hx, hb, hml, hown, hts⟩ (c2_calledBy l w K g S p0 x4 v4 h5) (gcwS hts i2_calledBy wd_307 rfl rfl ⟨Nat.le_of_ble_eq_true rfl, Nat.le_of_ble_eq_true rfl⟩) hH hK hS hl.1 rfl rfl (Nat.le_of_ble_eq_true rfl) dX2_depthOf_50 ⟨Nat.le_refl _, Nat.le_refl _⟩ (fun H locs hH hS => ?_)
        obtain ⟨v6, h7, hf⟩ := gbind hf
        refine g_Vi (As := [.int v4]) (rest := [.int 1, .int x4, .ref (a + 1)]) ⟨hx, hb, hml, hown, hts⟩ (c2_highestOf l w K g S a v4 v6 h7 hk0) (gcwV hts i2_highestOf wd_818 rfl rfl ⟨Nat.le_of_ble_eq_true rfl, Nat.le_of_ble_eq_true rfl⟩) (gRecv.of hK rfl (hH.o3 hk0)) hH hK hS hl.1 rfl rfl (Nat.le_of_ble_eq_true rfl) dX2_depthOf_53 ⟨Nat.le_refl _, Nat.le_refl _⟩ (fun H locs hH hS => ?_)
        refine lv_iadd hx hb dX2_depthOf_56 ?_
        obtain ⟨h9, hf⟩ := gd_some hf
        refine g_iast hx hb hK hH hS k3 h9 dX2_depthOf_57 (fun H locs hH hS => ?_)
        obtain ⟨g10, eg10⟩ : ∃ z : GM, z = gsI g (a + 1) x4.toNatClampNeg (1 + v6) := ⟨_, rfl⟩
        have hf := gl_at hf eg10
        replace hH : HR w K g10 S H := by rw [eg10]; exact hH
        obtain ⟨v11, ev11⟩ : ∃ z : Int32, z = x4 + 1 := ⟨_, rfl⟩
        have hf := gl_at hf ev11
        refine lv_iinc (v := v11) (lv' := [(4, .int v11), (0, .ref a), (1, .ref p0), (2, .int p1), (3, .int x3)]) hx hb dX2_depthOf_58 hl (k := 4) rfl (by rw [ev11]; rfl) (by decide) rfl (fun ls hl => ?_)
        refine lv_goto (tgt := 32) hx hb dX2_depthOf_61 (by decide) ?_
        exact ih _ _ _ _ _ _ hH hS (lv_sub hl [1, 2, 3, 4, 0] rfl) hf
  have B23 : ∀ n : Nat, ∀ (g : GM) (x3 : Int32) (H : Heap) (locs : List Loc) (ls : Array Slot), HR w K g S H → va_S (FR w) s.heap H locs → lv_has ls 5 [(0, .ref a), (1, .ref p0), (2, .int p1), (3, .int x3)] → f2_depthOf_23 K a p0 p1 n g x3 = some out → W p l e ({ frames := 2, cells := 0, slots := 0, locals := 53 } : Room) s m args below meth c H locs 0 0 (MQ below (QI w K out.1 S out.2) args s 0 0 (FR w)) (F0 m 23 ls []) := by
    intro n
    induction n with
    | zero =>
      intro g x3 H locs ls hH hS hl hf
      cases hf
    | succ n ih =>
      intro g x3 H locs ls hH hS hl hf
      rw [f2_depthOf_23] at hf
      refine lv_iload_n hx hb dX2_depthOf_23 rfl (lv_at hl 3 rfl) ?_
      refine lv_bipush (v := 10) hx hb dX2_depthOf_24 (by decide) ?_
      have hg := gif hf
      refine lv_icmp_ge (tgt := 70) hx hb dX2_depthOf_26 (by decide) (fun c12 => ?_) (fun c12 => ?_)
      · have hf := hg.1 c12
        refine lv_aload_n hx hb dX2_depthOf_70 rfl (lv_at hl 0 rfl) ?_
        have k13 : K.1 (a + 1) = (10, 10) := hH.sub hk0 0 (t := (1, 10, 10)) rfl
        refine e_2_0 hx hb hts hown hK hH hk0 (hts _ wd_95) dX2_depthOf_71 ?_
        refine lv_iload_n hx hb dX2_depthOf_74 rfl (lv_at hl 2 rfl) ?_
        obtain ⟨h15, hf⟩ := gd_some hf
        refine g_iald hx hb hK hH k13 h15 dX2_depthOf_75 ?_
        have ho := Option.some.inj hf
        exact W.iret (v := (gI g (a + 1) p1.toNatClampNeg)) hx hb hr (fun t ht hW => ⟨⟨(gI g (a + 1) p1.toNatClampNeg), (), rfl, congrArg Prod.snd ho, hrP ht ho hH⟩, hS.F ht⟩) hS.2.2 dX2_depthOf_76
      · have hf := hg.2 c12
        refine lv_iconst (v := 0) hx hb dX2_depthOf_29 (by decide) ?_
        refine lv_istore (lv' := [(4, .int 0), (0, .ref a), (1, .ref p0), (2, .int p1), (3, .int x3)]) hx hb dX2_depthOf_30 hl (by decide) rfl (fun ls hl => ?_)
        exact B32 _ (ih) _ _ _ _ _ _ _ hH hS (lv_sub hl [1, 2, 3, 4, 0] rfl) hf
  have B2 : ∀ n : Nat, ∀ (g : GM) (x3 : Int32) (H : Heap) (locs : List Loc) (ls : Array Slot), HR w K g S H → va_S (FR w) s.heap H locs → lv_has ls 5 [(0, .ref a), (1, .ref p0), (2, .int p1), (3, .int x3)] → f2_depthOf_2 K a p0 p1 n g x3 = some out → W p l e ({ frames := 2, cells := 0, slots := 0, locals := 53 } : Room) s m args below meth c H locs 0 0 (MQ below (QI w K out.1 S out.2) args s 0 0 (FR w)) (F0 m 2 ls []) := by
    intro n
    induction n with
    | zero =>
      intro g x3 H locs ls hH hS hl hf
      cases hf
    | succ n ih =>
      intro g x3 H locs ls hH hS hl hf
      rw [f2_depthOf_2] at hf
      refine lv_iload_n hx hb dX2_depthOf_2 rfl (lv_at hl 3 rfl) ?_
      refine lv_bipush (v := 10) hx hb dX2_depthOf_3 (by decide) ?_
      have hg := gif hf
      refine lv_icmp_ge (tgt := 21) hx hb dX2_depthOf_5 (by decide) (fun c16 => ?_) (fun c16 => ?_)
      · have hf := hg.1 c16
        refine lv_iconst (v := 0) hx hb dX2_depthOf_21 (by decide) ?_
        refine lv_istore_n (lv' := [(3, .int 0), (0, .ref a), (1, .ref p0), (2, .int p1)]) hx hb dX2_depthOf_22 rfl hl (by decide) rfl (fun ls hl => ?_)
        exact B23 _ _ _ _ _ _ hH hS (lv_sub hl [1, 2, 3, 0] rfl) hf
      · have hf := hg.2 c16
        refine lv_aload_n hx hb dX2_depthOf_8 rfl (lv_at hl 0 rfl) ?_
        have k17 : K.1 (a + 1) = (10, 10) := hH.sub hk0 0 (t := (1, 10, 10)) rfl
        refine e_2_0 hx hb hts hown hK hH hk0 (hts _ wd_95) dX2_depthOf_9 ?_
        refine lv_iload_n hx hb dX2_depthOf_12 rfl (lv_at hl 3 rfl) ?_
        refine lv_iconst (v := 1) hx hb dX2_depthOf_13 (by decide) ?_
        obtain ⟨h19, hf⟩ := gd_some hf
        refine g_iast hx hb hK hH hS k17 h19 dX2_depthOf_14 (fun H locs hH hS => ?_)
        obtain ⟨g20, eg20⟩ : ∃ z : GM, z = gsI g (a + 1) x3.toNatClampNeg 1 := ⟨_, rfl⟩
        have hf := gl_at hf eg20
        replace hH : HR w K g20 S H := by rw [eg20]; exact hH
        obtain ⟨v21, ev21⟩ : ∃ z : Int32, z = x3 + 1 := ⟨_, rfl⟩
        have hf := gl_at hf ev21
        refine lv_iinc (v := v21) (lv' := [(3, .int v21), (0, .ref a), (1, .ref p0), (2, .int p1)]) hx hb dX2_depthOf_15 hl (k := 3) rfl (by rw [ev21]; rfl) (by decide) rfl (fun ls hl => ?_)
        refine lv_goto (tgt := 2) hx hb dX2_depthOf_18 (by decide) ?_
        exact ih _ _ _ _ _ hH hS (lv_sub hl [1, 2, 3, 0] rfl) hf
  have hl : lv_has ls 5 [(0, .ref a), (1, .ref p0), (2, .int p1)] := hl
  refine lv_iconst (v := 0) hx hb dX2_depthOf_0 (by decide) ?_
  refine lv_istore_n (lv' := [(3, .int 0), (0, .ref a), (1, .ref p0), (2, .int p1)]) hx hb dX2_depthOf_1 rfl hl (by decide) rfl (fun ls hl => ?_)
  exact B2 _ _ _ _ _ _ hH hS (lv_sub hl [1, 2, 3, 0] rfl) hf
set_option maxRecDepth 100000 in
set_option maxHeartbeats 8000000 in
theorem c2_reachedFrom (l : Launch) (w : GW) (K : GK) (g : GM) (S : GS) (p0 : Nat) (p1 : Int32) (out : Int32) (hf : f2_reachedFrom K g p0 p1 = some out) : Met l yX2_reachedFrom (wA yX2_reachedFrom cX2_reachedFrom 5 (some .int)) ({ frames := 1, cells := 0, slots := 0, locals := 21 } : Room) (PRE w K g S [.ref p0, .int p1]) (QI w K g S out) 0 0 (FR w) := by
  unfold f2_reachedFrom at hf
  refine Met.ofW (cc := cX2_reachedFrom) (maxL := 5) (ret := (some .int)) (by decide) rfl ?_
  intro p e s m args below meth c s₁ B hml hv
  obtain ⟨rfl, hH, hK⟩ := hv
  have hx := B.exec
  have hb := B.bytes
  have hr := B.returns
  have hts : ∀ q ∈ gALL, q.before _ s = true := fun q h => atoms_spec (ws := (wA yX2_reachedFrom cX2_reachedFrom 5 (some .int))) B.pre q (List.mem_cons_of_mem _ h)
  have hown : s.vm.findClass RX2 = some m.cls := findClass_of_methodNamed B.named
  have hlocks := B.notSynchronized
  have hS : va_S (FR w) s.heap s.heap [] := va_S.rf
  show W p l e ({ frames := 1, cells := 0, slots := 0, locals := 21 } : Room) s m _ below meth c s.heap [] 0 0 (MQ below (QI w K g S out) _ s 0 0 (FR w)) _
  have hl := lv_entry ([.ref p0, .int p1]) (n := 5) (Nat.le_of_ble_eq_true rfl)
  rw [lg_entry_eq]
  generalize (lg_sl ([.ref p0, .int p1]) ++ List.replicate (5 - (lg_sl ([.ref p0, .int p1])).length) Slot.unset).toArray = ls at hl ⊢
  clear B
  generalize ([.ref p0, .int p1] : List Value).toArray = args at hts ⊢
  have B42 : ∀ (k8 : Int32 → Int32 → Option (Int32)), (∀ (x2 : Int32) (x3 : Int32) (H : Heap) (locs : List Loc) (ls : Array Slot), HR w K g S H → va_S (FR w) s.heap H locs → lv_has ls 5 [(0, .ref p0), (2, .int x2), (3, .int x3)] → k8 x2 x3 = some out → W p l e ({ frames := 1, cells := 0, slots := 0, locals := 21 } : Room) s m args below meth c H locs 0 0 (MQ below (QI w K g S out) args s 0 0 (FR w)) (F0 m 8 ls [])) → ∀ (k17 : Int32 → Int32 → Int32 → Option (Int32)), (∀ (x2 : Int32) (x3 : Int32) (x4 : Int32) (H : Heap) (locs : List Loc) (ls : Array Slot), HR w K g S H → va_S (FR w) s.heap H locs → lv_has ls 5 [(0, .ref p0), (2, .int x2), (3, .int x3), (4, .int x4)] → k17 x2 x3 x4 = some out → W p l e ({ frames := 1, cells := 0, slots := 0, locals := 21 } : Room) s m args below meth c H locs 0 0 (MQ below (QI w K g S out) args s 0 0 (FR w)) (F0 m 17 ls [])) → ∀ (x2 : Int32) (x3 : Int32) (x4 : Int32) (H : Heap) (locs : List Loc) (ls : Array Slot), HR w K g S H → va_S (FR w) s.heap H locs → lv_has ls 5 [(0, .ref p0), (2, .int x2), (3, .int x3), (4, .int x4)] → f2_reachedFrom_42 k8 k17 K g p0 p1 x2 x3 x4 = some out → W p l e ({ frames := 1, cells := 0, slots := 0, locals := 21 } : Room) s m args below meth c H locs 0 0 (MQ below (QI w K g S out) args s 0 0 (FR w)) (F0 m 42 ls []) := by
    intro k8 hk8 k17 hk17 x2 x3 x4 H locs ls hH hS hl hf
    unfold f2_reachedFrom_42 at hf
    obtain ⟨v1, ev1⟩ : ∃ z : Int32, z = x4 + 1 := ⟨_, rfl⟩
    have hf := gl_at hf ev1
    refine lv_iinc (v := v1) (lv' := [(4, .int v1), (0, .ref p0), (2, .int x2), (3, .int x3)]) hx hb dX2_reachedFrom_42 hl (k := 3) rfl (by rw [ev1]; rfl) (by decide) rfl (fun ls hl => ?_)
    refine lv_goto (tgt := 17) hx hb dX2_reachedFrom_45 (by decide) ?_
    exact hk17 _ _ _ _ _ _ hH hS (lv_sub hl [1, 2, 3, 0] rfl) hf
  have B17 : ∀ (k8 : Int32 → Int32 → Option (Int32)), (∀ (x2 : Int32) (x3 : Int32) (H : Heap) (locs : List Loc) (ls : Array Slot), HR w K g S H → va_S (FR w) s.heap H locs → lv_has ls 5 [(0, .ref p0), (2, .int x2), (3, .int x3)] → k8 x2 x3 = some out → W p l e ({ frames := 1, cells := 0, slots := 0, locals := 21 } : Room) s m args below meth c H locs 0 0 (MQ below (QI w K g S out) args s 0 0 (FR w)) (F0 m 8 ls [])) → ∀ n : Nat, ∀ (x2 : Int32) (x3 : Int32) (x4 : Int32) (H : Heap) (locs : List Loc) (ls : Array Slot), HR w K g S H → va_S (FR w) s.heap H locs → lv_has ls 5 [(0, .ref p0), (2, .int x2), (3, .int x3), (4, .int x4)] → f2_reachedFrom_17 k8 K g p0 p1 n x2 x3 x4 = some out → W p l e ({ frames := 1, cells := 0, slots := 0, locals := 21 } : Room) s m args below meth c H locs 0 0 (MQ below (QI w K g S out) args s 0 0 (FR w)) (F0 m 17 ls []) := by
    intro k8 hk8
    intro n
    induction n with
    | zero =>
      intro x2 x3 x4 H locs ls hH hS hl hf
      cases hf
    | succ n ih =>
      intro x2 x3 x4 H locs ls hH hS hl hf
      rw [f2_reachedFrom_17] at hf
      refine lv_iload hx hb dX2_reachedFrom_17 (lv_at hl 3 rfl) ?_
      refine lv_bipush (v := 10) hx hb dX2_reachedFrom_19 (by decide) ?_
      have hg := gif hf
      refine lv_icmp_ge (tgt := 48) hx hb dX2_reachedFrom_21 (by decide) (fun c2 => ?_) (fun c2 => ?_)
      · have hf := hg.1 c2
        obtain ⟨v3, ev3⟩ : ∃ z : Int32, z = x3 + 1 := ⟨_, rfl⟩
        have hf := gl_at hf ev3
        refine lv_iinc (v := v3) (lv' := [(3, .int v3), (0, .ref p0), (2, .int x2), (4, .int x4)]) hx hb dX2_reachedFrom_48 hl (k := 2) rfl (by rw [ev3]; rfl) (by decide) rfl (fun ls hl => ?_)
        refine lv_goto (tgt := 8) hx hb dX2_reachedFrom_51 (by decide) ?_
        exact hk8 _ _ _ _ _ hH hS (lv_sub hl [1, 2, 0] rfl) hf
      · have hf := hg.2 c2
        refine lv_iload_n hx hb dX2_reachedFrom_24 rfl (lv_at hl 1 rfl) ?_
        refine lv_iload hx hb dX2_reachedFrom_25 (lv_at hl 3 rfl) ?_
        obtain ⟨v4, h5, hf⟩ := gbind hf
        refine g_Si (As := [.int x2, .int x4]) (rest := []) ⟨hx, hb, hml, hown, hts⟩ (c2_holds l w K g S x2 x4 v4 h5) (gcwS hts i2_holds wd_311 rfl rfl ⟨Nat.le_of_ble_eq_true rfl, Nat.le_of_ble_eq_true rfl⟩) hH hK hS hl.1 rfl rfl (Nat.le_of_ble_eq_true rfl) dX2_reachedFrom_27 ⟨Nat.le_refl _, Nat.le_refl _⟩ (fun H locs hH hS => ?_)
        have hg := gif hf
        refine lv_if_eq (tgt := 42) hx hb dX2_reachedFrom_30 (by decide) (fun c6 => ?_) (fun c6 => ?_)
        · have hf := hg.1 c6
          exact B42 _ (hk8) _ (ih) _ _ _ _ _ _ hH hS (lv_sub hl [0, 1, 2, 3] rfl) hf
        · have hf := hg.2 c6
          refine lv_iload_n hx hb dX2_reachedFrom_33 rfl (lv_at hl 1 rfl) ?_
          refine lv_aload_n hx hb dX2_reachedFrom_34 rfl (lv_at hl 0 rfl) ?_
          refine lv_iload hx hb dX2_reachedFrom_35 (lv_at hl 3 rfl) ?_
          obtain ⟨v7, h8, hf⟩ := gbind hf
          refine g_Si (As := [.ref p0, .int x4]) (rest := [.int x2]) ⟨hx, hb, hml, hown, hts⟩ (c2_calledBy l w K g S p0 x4 v7 h8) (gcwS hts i2_calledBy wd_307 rfl rfl ⟨Nat.le_of_ble_eq_true rfl, Nat.le_of_ble_eq_true rfl⟩) hH hK hS hl.1 rfl rfl (Nat.le_of_ble_eq_true rfl) dX2_reachedFrom_37 ⟨Nat.le_refl _, Nat.le_refl _⟩ (fun H locs hH hS => ?_)
          refine lv_ior hx hb dX2_reachedFrom_40 ?_
          refine lv_topi (fun v9 ev9 => ?_)
          have hf := gl_at hf ev9
          refine lv_istore_n (lv' := [(2, .int v9), (0, .ref p0), (3, .int x3), (4, .int x4)]) hx hb dX2_reachedFrom_41 rfl hl (by decide) rfl (fun ls hl => ?_)
          exact B42 _ (hk8) _ (ih) _ _ _ _ _ _ hH hS (lv_sub hl [1, 0, 2, 3] rfl) hf
  have B8 : ∀ n : Nat, ∀ (x2 : Int32) (x3 : Int32) (H : Heap) (locs : List Loc) (ls : Array Slot), HR w K g S H → va_S (FR w) s.heap H locs → lv_has ls 5 [(0, .ref p0), (2, .int x2), (3, .int x3)] → f2_reachedFrom_8 K g p0 p1 n x2 x3 = some out → W p l e ({ frames := 1, cells := 0, slots := 0, locals := 21 } : Room) s m args below meth c H locs 0 0 (MQ below (QI w K g S out) args s 0 0 (FR w)) (F0 m 8 ls []) := by
    intro n
    induction n with
    | zero =>
      intro x2 x3 H locs ls hH hS hl hf
      cases hf
    | succ n ih =>
      intro x2 x3 H locs ls hH hS hl hf
      rw [f2_reachedFrom_8] at hf
      refine lv_iload_n hx hb dX2_reachedFrom_8 rfl (lv_at hl 2 rfl) ?_
      refine lv_bipush (v := 10) hx hb dX2_reachedFrom_9 (by decide) ?_
      have hg := gif hf
      refine lv_icmp_ge (tgt := 54) hx hb dX2_reachedFrom_11 (by decide) (fun c10 => ?_) (fun c10 => ?_)
      · have hf := hg.1 c10
        refine lv_iload_n hx hb dX2_reachedFrom_54 rfl (lv_at hl 1 rfl) ?_
        have ho := Option.some.inj hf
        exact W.iret (v := x2) hx hb hr (fun t ht hW => ⟨⟨x2, (), rfl, ho, hrE ht hH⟩, hS.F ht⟩) hS.2.2 dX2_reachedFrom_55
      · have hf := hg.2 c10
        refine lv_iconst (v := 0) hx hb dX2_reachedFrom_14 (by decide) ?_
        refine lv_istore (lv' := [(4, .int 0), (0, .ref p0), (2, .int x2), (3, .int x3)]) hx hb dX2_reachedFrom_15 hl (by decide) rfl (fun ls hl => ?_)
        exact B17 _ (ih) _ _ _ _ _ _ _ hH hS (lv_sub hl [1, 2, 3, 0] rfl) hf
  have hl : lv_has ls 5 [(0, .ref p0), (1, .int p1)] := hl
  refine lv_aload_n hx hb dX2_reachedFrom_0 rfl (lv_at hl 0 rfl) ?_
  refine lv_iload_n hx hb dX2_reachedFrom_1 rfl (lv_at hl 1 rfl) ?_
  obtain ⟨v11, h12, hf⟩ := gbind hf
  refine g_Si (As := [.ref p0, .int p1]) (rest := []) ⟨hx, hb, hml, hown, hts⟩ (c2_calledBy l w K g S p0 p1 v11 h12) (gcwS hts i2_calledBy wd_307 rfl rfl ⟨Nat.le_of_ble_eq_true rfl, Nat.le_of_ble_eq_true rfl⟩) hH hK hS hl.1 rfl rfl (Nat.le_of_ble_eq_true rfl) dX2_reachedFrom_2 ⟨Nat.le_refl _, Nat.le_refl _⟩ (fun H locs hH hS => ?_)
  refine lv_istore_n (lv' := [(2, .int v11), (0, .ref p0), (1, .int p1)]) hx hb dX2_reachedFrom_5 rfl hl (by decide) rfl (fun ls hl => ?_)
  refine lv_iconst (v := 0) hx hb dX2_reachedFrom_6 (by decide) ?_
  refine lv_istore_n (lv' := [(3, .int 0), (2, .int v11), (0, .ref p0), (1, .int p1)]) hx hb dX2_reachedFrom_7 rfl hl (by decide) rfl (fun ls hl => ?_)
  exact B8 _ _ _ _ _ _ hH hS (lv_sub hl [2, 1, 0] rfl) hf
set_option maxRecDepth 100000 in
set_option maxHeartbeats 8000000 in
theorem c2_weigh (l : Launch) (w : GW) (K : GK) (g : GM) (S : GS) (d : Nat) : ∀ (p0 : Option Nat) (p1 : Int32) (p2 : Int32) (p3 : Int32) (p4 : Nat) (p5 : Int32) (out : Int32) (hf : f2_weigh d K g p0 p1 p2 p3 p4 p5 = some out), Met l yX2_weigh (wA yX2_weigh cX2_weigh 12 (some .int)) ({ frames := d + 4, cells := 0, slots := 0, locals := 40 * (d + 4) } : Room) (PRE w K g S [va_rf p0, .int p1, .int p2, .int p3, .ref p4, .int p5]) (QI w K g S out) 0 0 (FR w) := by
  induction d with
  | zero =>
    intro p0 p1 p2 p3 p4 p5 out hf
    cases hf
  | succ d ihd =>
  intro p0 p1 p2 p3 p4 p5 out hf
  rw [f2_weigh] at hf
  generalize hrcE : (fun p0 p1 p2 p3 p4 p5 => f2_weigh d K g p0 p1 p2 p3 p4 p5) = rc at hf
  have hrc : ∀ (p0 : Option Nat) (p1 : Int32) (p2 : Int32) (p3 : Int32) (p4 : Nat) (p5 : Int32) (r : Int32), rc p0 p1 p2 p3 p4 p5 = some r → Met l yX2_weigh (wA yX2_weigh cX2_weigh 12 (some .int)) ({ frames := d + 4, cells := 0, slots := 0, locals := 40 * (d + 4) } : Room) (PRE w K g S [va_rf p0, .int p1, .int p2, .int p3, .ref p4, .int p5]) (QI w K g S r) 0 0 (FR w) := by subst hrcE; exact ihd
  unfold f2_weigh_s at hf
  rcases gopt_c hf with ⟨rfl, hf⟩ | ⟨tp0, rfl, hf⟩
  · show Met l yX2_weigh (wA yX2_weigh cX2_weigh 12 (some .int)) ({ frames := (d + 1) + 4, cells := 0, slots := 0, locals := 40 * ((d + 1) + 4) } : Room) (PRE w K g S [.null, .int p1, .int p2, .int p3, .ref p4, .int p5]) (QI w K g S out) 0 0 (FR w)
    refine Met.ofW (cc := cX2_weigh) (maxL := 12) (ret := (some .int)) (by decide) rfl ?_
    intro p e s m args below meth c s₁ B hml hv
    obtain ⟨rfl, hH, hK⟩ := hv
    have hx := B.exec
    have hb := B.bytes
    have hr := B.returns
    have hts : ∀ q ∈ gALL, q.before _ s = true := fun q h => atoms_spec (ws := (wA yX2_weigh cX2_weigh 12 (some .int))) B.pre q (List.mem_cons_of_mem _ h)
    have hown : s.vm.findClass RX2 = some m.cls := findClass_of_methodNamed B.named
    have hlocks := B.notSynchronized
    have hS : va_S (FR w) s.heap s.heap [] := va_S.rf
    show W p l e ({ frames := (d + 1) + 4, cells := 0, slots := 0, locals := 40 * ((d + 1) + 4) } : Room) s m _ below meth c s.heap [] 0 0 (MQ below (QI w K g S out) _ s 0 0 (FR w)) _
    have hl := lv_entry ([.null, .int p1, .int p2, .int p3, .ref p4, .int p5]) (n := 12) (Nat.le_of_ble_eq_true rfl)
    rw [lg_entry_eq]
    generalize (lg_sl ([.null, .int p1, .int p2, .int p3, .ref p4, .int p5]) ++ List.replicate (12 - (lg_sl ([.null, .int p1, .int p2, .int p3, .ref p4, .int p5])).length) Slot.unset).toArray = ls at hl ⊢
    clear B
    generalize ([.null, .int p1, .int p2, .int p3, .ref p4, .int p5] : List Value).toArray = args at hts ⊢
    have hl : lv_has ls 12 [(0, .null), (1, .int p1), (2, .int p2), (3, .int p3), (4, .ref p4), (5, .int p5)] := hl
    refine lv_iload hx hb dX2_weigh_0 (lv_at hl 5 rfl) ?_
    refine lv_iconst (v := 3) hx hb dX2_weigh_2 (by decide) ?_
    have hg := gif hf
    refine lv_icmp_le (tgt := 8) hx hb dX2_weigh_3 (by decide) (fun c48 => ?_) (fun c48 => ?_)
    · have hf := hg.1 c48
      cases hf
    · have hf := hg.2 c48
      refine lv_iconst (v := 0) hx hb dX2_weigh_6 (by decide) ?_
      have ho := Option.some.inj hf
      exact W.iret (v := 0) hx hb hr (fun t ht hW => ⟨⟨0, (), rfl, ho, hrE ht hH⟩, hS.F ht⟩) hS.2.2 dX2_weigh_7
  · show Met l yX2_weigh (wA yX2_weigh cX2_weigh 12 (some .int)) ({ frames := (d + 1) + 4, cells := 0, slots := 0, locals := 40 * ((d + 1) + 4) } : Room) (PRE w K g S [.ref tp0, .int p1, .int p2, .int p3, .ref p4, .int p5]) (QI w K g S out) 0 0 (FR w)
    refine Met.ofW (cc := cX2_weigh) (maxL := 12) (ret := (some .int)) (by decide) rfl ?_
    intro p e s m args below meth c s₁ B hml hv
    obtain ⟨rfl, hH, hK⟩ := hv
    have hx := B.exec
    have hb := B.bytes
    have hr := B.returns
    have hts : ∀ q ∈ gALL, q.before _ s = true := fun q h => atoms_spec (ws := (wA yX2_weigh cX2_weigh 12 (some .int))) B.pre q (List.mem_cons_of_mem _ h)
    have hown : s.vm.findClass RX2 = some m.cls := findClass_of_methodNamed B.named
    have hlocks := B.notSynchronized
    have hS : va_S (FR w) s.heap s.heap [] := va_S.rf
    show W p l e ({ frames := (d + 1) + 4, cells := 0, slots := 0, locals := 40 * ((d + 1) + 4) } : Room) s m _ below meth c s.heap [] 0 0 (MQ below (QI w K g S out) _ s 0 0 (FR w)) _
    have hl := lv_entry ([.ref tp0, .int p1, .int p2, .int p3, .ref p4, .int p5]) (n := 12) (Nat.le_of_ble_eq_true rfl)
    rw [lg_entry_eq]
    generalize (lg_sl ([.ref tp0, .int p1, .int p2, .int p3, .ref p4, .int p5]) ++ List.replicate (12 - (lg_sl ([.ref tp0, .int p1, .int p2, .int p3, .ref p4, .int p5])).length) Slot.unset).toArray = ls at hl ⊢
    clear B
    generalize ([.ref tp0, .int p1, .int p2, .int p3, .ref p4, .int p5] : List Value).toArray = args at hts ⊢
    have B267 : ∀ (k20 : Int32 → Int32 → Int32 → Int32 → Option (Int32)), (∀ (x6 : Int32) (x7 : Int32) (x8 : Int32) (x9 : Int32) (H : Heap) (locs : List Loc) (ls : Array Slot), HR w K g S H → va_S (FR w) s.heap H locs → lv_has ls 12 [(0, .ref tp0), (3, .int p3), (4, .ref p4), (5, .int p5), (6, .int x6), (7, .int x7), (8, .int x8), (9, .int x9)] → k20 x6 x7 x8 x9 = some out → W p l e ({ frames := (d + 1) + 4, cells := 0, slots := 0, locals := 40 * ((d + 1) + 4) } : Room) s m args below meth c H locs 0 0 (MQ below (QI w K g S out) args s 0 0 (FR w)) (F0 m 20 ls [])) → ∀ (x6 : Int32) (x7 : Int32) (x8 : Int32) (x9 : Int32) (H : Heap) (locs : List Loc) (ls : Array Slot), HR w K g S H → va_S (FR w) s.heap H locs → lv_has ls 12 [(0, .ref tp0), (3, .int p3), (4, .ref p4), (5, .int p5), (6, .int x6), (7, .int x7), (8, .int x8), (9, .int x9)] → f2_weigh_267 k20 rc K g p1 p2 p3 p4 p5 tp0 x6 x7 x8 x9 = some out → W p l e ({ frames := (d + 1) + 4, cells := 0, slots := 0, locals := 40 * ((d + 1) + 4) } : Room) s m args below meth c H locs 0 0 (MQ below (QI w K g S out) args s 0 0 (FR w)) (F0 m 267 ls []) := by
      intro k20 hk20 x6 x7 x8 x9 H locs ls hH hS hl hf
      unfold f2_weigh_267 at hf
      refine lv_iload hx hb dX2_weigh_267 (lv_at hl 4 rfl) ?_
      refine lv_ldc (v := 1000000) hx hb hown (hts _ wd_747) dX2_weigh_269 ?_
      refine va_mmin hx hb (hml.trans hl.1.symm) hown (hts _ wd_748) (hts _ wd_134) (hts _ wd_135) (hts _ wd_136) (Nat.le_of_ble_eq_true rfl) (Nat.le_of_ble_eq_true rfl) (Nat.le_of_ble_eq_true rfl) (Nat.le_of_ble_eq_true rfl) dX2_weigh_271 ?_
      refine lv_topi (fun v1 ev1 => ?_)
      have hf := gl_at hf ev1
      refine lv_istore (lv' := [(6, .int v1), (0, .ref tp0), (3, .int p3), (4, .ref p4), (5, .int p5), (7, .int x7), (8, .int x8), (9, .int x9)]) hx hb dX2_weigh_274 hl (by decide) rfl (fun ls hl => ?_)
      refine lv_aload_n hx hb dX2_weigh_276 rfl (lv_at hl 1 rfl) ?_
      refine lv_iload hx hb dX2_weigh_277 (lv_at hl 6 rfl) ?_
      obtain ⟨k2, hf⟩ := gd_some hf
      have k2 := gk_obj k2
      obtain ⟨v3, h4, hf⟩ := gbind hf
      refine g_Vi (As := [.int x8]) (rest := []) ⟨hx, hb, hml, hown, hts⟩ (c1_behind l w K g S tp0 x8 v3 h4 k2) (gcwV hts i1_behind wd_756 rfl rfl ⟨by show 0 + 1 ≤ d + 1 + 4; omega, by show 8 + (2 + 11) + 0 ≤ 40 * (d + 1 + 4); omega⟩) (gRecv.of hK rfl (hH.o2 k2)) hH hK hS hl.1 rfl rfl (Nat.le_of_ble_eq_true rfl) dX2_weigh_279 ⟨Nat.le_refl _, Nat.le_refl _⟩ (fun H locs hH hS => ?_)
      refine lv_istore (lv' := [(8, .int v3), (6, .int v1), (0, .ref tp0), (3, .int p3), (4, .ref p4), (5, .int p5), (7, .int x7), (9, .int x9)]) hx hb dX2_weigh_282 hl (by decide) rfl (fun ls hl => ?_)
      obtain ⟨v5, ev5⟩ : ∃ z : Int32, z = x9 + 1 := ⟨_, rfl⟩
      have hf := gl_at hf ev5
      refine lv_iinc (v := v5) (lv' := [(9, .int v5), (8, .int v3), (6, .int v1), (0, .ref tp0), (3, .int p3), (4, .ref p4), (5, .int p5), (7, .int x7)]) hx hb dX2_weigh_284 hl (k := 7) rfl (by rw [ev5]; rfl) (by decide) rfl (fun ls hl => ?_)
      refine lv_goto (tgt := 20) hx hb dX2_weigh_287 (by decide) ?_
      exact hk20 _ _ _ _ _ _ _ hH hS (lv_sub hl [3, 4, 5, 6, 2, 7, 1, 0] rfl) hf
    have B124 : ∀ (k20 : Int32 → Int32 → Int32 → Int32 → Option (Int32)), (∀ (x6 : Int32) (x7 : Int32) (x8 : Int32) (x9 : Int32) (H : Heap) (locs : List Loc) (ls : Array Slot), HR w K g S H → va_S (FR w) s.heap H locs → lv_has ls 12 [(0, .ref tp0), (3, .int p3), (4, .ref p4), (5, .int p5), (6, .int x6), (7, .int x7), (8, .int x8), (9, .int x9)] → k20 x6 x7 x8 x9 = some out → W p l e ({ frames := (d + 1) + 4, cells := 0, slots := 0, locals := 40 * ((d + 1) + 4) } : Room) s m args below meth c H locs 0 0 (MQ below (QI w K g S out) args s 0 0 (FR w)) (F0 m 20 ls [])) → ∀ (x6 : Int32) (x7 : Int32) (x8 : Int32) (x9 : Int32) (H : Heap) (locs : List Loc) (ls : Array Slot), HR w K g S H → va_S (FR w) s.heap H locs → lv_has ls 12 [(0, .ref tp0), (3, .int p3), (4, .ref p4), (5, .int p5), (6, .int x6), (7, .int x7), (8, .int x8), (9, .int x9)] → f2_weigh_124 k20 rc K g p1 p2 p3 p4 p5 tp0 x6 x7 x8 x9 = some out → W p l e ({ frames := (d + 1) + 4, cells := 0, slots := 0, locals := 40 * ((d + 1) + 4) } : Room) s m args below meth c H locs 0 0 (MQ below (QI w K g S out) args s 0 0 (FR w)) (F0 m 124 ls []) := by
      intro k20 hk20 x6 x7 x8 x9 H locs ls hH hS hl hf
      unfold f2_weigh_124 at hf
      refine lv_iload hx hb dX2_weigh_124 (lv_at hl 4 rfl) ?_
      refine lv_aload_n hx hb dX2_weigh_126 rfl (lv_at hl 0 rfl) ?_
      refine lv_iload hx hb dX2_weigh_127 (lv_at hl 6 rfl) ?_
      obtain ⟨k6, hf⟩ := gd_some hf
      have k6 := gk_obj k6
      obtain ⟨v7, h8, hf⟩ := gbind hf
      refine g_Vi (As := [.int x8]) (rest := [.int x6]) ⟨hx, hb, hml, hown, hts⟩ (c1_timesAt l w K g S tp0 x8 v7 h8 k6) (gcwV hts i1_timesAt wd_751 rfl rfl ⟨by show 0 + 1 ≤ d + 1 + 4; omega, by show 8 + (2 + 11) + 0 ≤ 40 * (d + 1 + 4); omega⟩) (gRecv.of hK rfl (hH.o2 k6)) hH hK hS hl.1 rfl rfl (Nat.le_of_ble_eq_true rfl) dX2_weigh_129 ⟨Nat.le_refl _, Nat.le_refl _⟩ (fun H locs hH hS => ?_)
      refine lv_iadd hx hb dX2_weigh_132 ?_
      refine lv_topi (fun v9 ev9 => ?_)
      have hf := gl_at hf ev9
      refine lv_istore (lv' := [(6, .int v9), (0, .ref tp0), (3, .int p3), (4, .ref p4), (5, .int p5), (7, .int x7), (8, .int x8), (9, .int x9)]) hx hb dX2_weigh_133 hl (by decide) rfl (fun ls hl => ?_)
      refine lv_goto (tgt := 267) hx hb dX2_weigh_135 (by decide) ?_
      exact B267 _ (hk20) _ _ _ _ _ _ _ hH hS (lv_sub hl [1, 2, 3, 4, 0, 5, 6, 7] rfl) hf
    have B20 : ∀ n : Nat, ∀ (x6 : Int32) (x7 : Int32) (x8 : Int32) (x9 : Int32) (H : Heap) (locs : List Loc) (ls : Array Slot), HR w K g S H → va_S (FR w) s.heap H locs → lv_has ls 12 [(0, .ref tp0), (3, .int p3), (4, .ref p4), (5, .int p5), (6, .int x6), (7, .int x7), (8, .int x8), (9, .int x9)] → f2_weigh_20 rc K g p1 p2 p3 p4 p5 tp0 n x6 x7 x8 x9 = some out → W p l e ({ frames := (d + 1) + 4, cells := 0, slots := 0, locals := 40 * ((d + 1) + 4) } : Room) s m args below meth c H locs 0 0 (MQ below (QI w K g S out) args s 0 0 (FR w)) (F0 m 20 ls []) := by
      intro n
      induction n with
      | zero =>
        intro x6 x7 x8 x9 H locs ls hH hS hl hf
        cases hf
      | succ n ih =>
        intro x6 x7 x8 x9 H locs ls hH hS hl hf
        rw [f2_weigh_20] at hf
        refine lv_iload hx hb dX2_weigh_20 (lv_at hl 7 rfl) ?_
        refine lv_bipush (v := 80) hx hb dX2_weigh_22 (by decide) ?_
        have hg := gif hf
        refine lv_icmp_ge (tgt := 290) hx hb dX2_weigh_24 (by decide) (fun c10 => ?_) (fun c10 => ?_)
        · have hf := hg.1 c10
          refine lv_iload hx hb dX2_weigh_290 (lv_at hl 4 rfl) ?_
          have ho := Option.some.inj hf
          exact W.iret (v := x6) hx hb hr (fun t ht hW => ⟨⟨x6, (), rfl, ho, hrE ht hH⟩, hS.F ht⟩) hS.2.2 dX2_weigh_292
        · have hf := hg.2 c10
          refine lv_aload_n hx hb dX2_weigh_27 rfl (lv_at hl 0 rfl) ?_
          refine lv_iload hx hb dX2_weigh_28 (lv_at hl 6 rfl) ?_
          obtain ⟨k11, hf⟩ := gd_some hf
          have k11 := gk_obj k11
          obtain ⟨v12, h13, hf⟩ := gbind hf
          refine g_Vi (As := [.int x8]) (rest := []) ⟨hx, hb, hml, hown, hts⟩ (c1_signAt l w K g S tp0 x8 v12 h13 k11) (gcwV hts i1_signAt wd_749 rfl rfl ⟨by show 0 + 1 ≤ d + 1 + 4; omega, by show 8 + (2 + 11) + 0 ≤ 40 * (d + 1 + 4); omega⟩) (gRecv.of hK rfl (hH.o2 k11)) hH hK hS hl.1 rfl rfl (Nat.le_of_ble_eq_true rfl) dX2_weigh_30 ⟨Nat.le_refl _, Nat.le_refl _⟩ (fun H locs hH hS => ?_)
          refine lv_istore (lv' := [(10, .int v12), (0, .ref tp0), (3, .int p3), (4, .ref p4), (5, .int p5), (6, .int x6), (7, .int x7), (8, .int x8), (9, .int x9)]) hx hb dX2_weigh_33 hl (by decide) rfl (fun ls hl => ?_)
          refine lv_iload hx hb dX2_weigh_35 (lv_at hl 0 rfl) ?_
          have hg := gif hf
          refine lv_if_eq (tgt := 290) hx hb dX2_weigh_37 (by decide) (fun c14 => ?_) (fun c14 => ?_)
          · have hf := hg.1 c14
            refine lv_iload hx hb dX2_weigh_290 (lv_at hl 5 rfl) ?_
            have ho := Option.some.inj hf
            exact W.iret (v := x6) hx hb hr (fun t ht hW => ⟨⟨x6, (), rfl, ho, hrE ht hH⟩, hS.F ht⟩) hS.2.2 dX2_weigh_292
          · have hf := hg.2 c14
            refine lv_iload hx hb dX2_weigh_40 (lv_at hl 0 rfl) ?_
            refine lv_bipush (v := 41) hx hb dX2_weigh_42 (by decide) ?_
            have hg := gif hf
            refine lv_icmp_ne (tgt := 50) hx hb dX2_weigh_44 (by decide) (fun c15 => ?_) (fun c15 => ?_)
            · have hf := hg.2 c15
              refine lv_aload_n hx hb dX2_weigh_50 rfl (lv_at hl 1 rfl) ?_
              refine lv_iload hx hb dX2_weigh_51 (lv_at hl 7 rfl) ?_
              obtain ⟨v16, h17, hf⟩ := gbind hf
              refine g_Vi (As := [.int x8]) (rest := []) ⟨hx, hb, hml, hown, hts⟩ (c1_insideOf l w K g S tp0 x8 v16 h17 k11) (gcwV hts i1_insideOf wd_750 rfl rfl ⟨by show 0 + 1 ≤ d + 1 + 4; omega, by show 8 + (2 + 11) + 0 ≤ 40 * (d + 1 + 4); omega⟩) (gRecv.of hK rfl (hH.o2 k11)) hH hK hS hl.1 rfl rfl (Nat.le_of_ble_eq_true rfl) dX2_weigh_53 ⟨Nat.le_refl _, Nat.le_refl _⟩ (fun H locs hH hS => ?_)
              refine lv_istore (lv' := [(11, .int v16), (10, .int v12), (0, .ref tp0), (3, .int p3), (4, .ref p4), (5, .int p5), (6, .int x6), (7, .int x7), (8, .int x8), (9, .int x9)]) hx hb dX2_weigh_56 hl (by decide) rfl (fun ls hl => ?_)
              refine lv_iload hx hb dX2_weigh_58 (lv_at hl 1 rfl) ?_
              have hg := gif hf
              by_cases c18 : v12 = 99
              · have hf := hg.1 c18
                refine lv_lookup (tgt := 138) hx hb dX2_weigh_60 (by decide +kernel) (by rw [c18]; first | done | decide +kernel) (by decide) ?_
                refine lv_aload_n hx hb dX2_weigh_138 rfl (lv_at hl 2 rfl) ?_
                refine lv_iload hx hb dX2_weigh_139 (lv_at hl 8 rfl) ?_
                obtain ⟨v19, h20, hf⟩ := gbind hf
                refine g_Vi (As := [.int x8]) (rest := []) ⟨hx, hb, hml, hown, hts⟩ (c1_digitAt l w K g S tp0 x8 v19 h20 k11) (gcwV hts i1_digitAt wd_752 rfl rfl ⟨by show 0 + 1 ≤ d + 1 + 4; omega, by show 8 + (2 + 11) + 0 ≤ 40 * (d + 1 + 4); omega⟩) (gRecv.of hK rfl (hH.o2 k11)) hH hK hS hl.1 rfl rfl (Nat.le_of_ble_eq_true rfl) dX2_weigh_141 ⟨Nat.le_refl _, Nat.le_refl _⟩ (fun H locs hH hS => ?_)
                refine lv_istore (lv' := [(7, .int v19), (11, .int v16), (10, .int v12), (0, .ref tp0), (3, .int p3), (4, .ref p4), (5, .int p5), (6, .int x6), (8, .int x8), (9, .int x9)]) hx hb dX2_weigh_144 hl (by decide) rfl (fun ls hl => ?_)
                refine lv_goto (tgt := 267) hx hb dX2_weigh_146 (by decide) ?_
                exact B267 _ (ih) _ _ _ _ _ _ _ hH hS (lv_sub hl [3, 4, 5, 6, 7, 0, 8, 9] rfl) hf
              have hf := hg.2 c18
              have hg := gif hf
              by_cases c21 : v12 = 107
              · have hf := hg.1 c21
                refine lv_lookup (tgt := 149) hx hb dX2_weigh_60 (by decide +kernel) (by rw [c21]; first | done | decide +kernel) (by decide) ?_
                refine lv_iload hx hb dX2_weigh_149 (lv_at hl 6 rfl) ?_
                refine lv_aload hx hb dX2_weigh_151 (lv_at hl 4 rfl) ?_
                refine lv_aload_n hx hb dX2_weigh_153 rfl (lv_at hl 2 rfl) ?_
                refine lv_iload hx hb dX2_weigh_154 (lv_at hl 8 rfl) ?_
                obtain ⟨v22, h23, hf⟩ := gbind hf
                refine g_Vi (As := [.int x8]) (rest := [.ref p4, .int x6]) ⟨hx, hb, hml, hown, hts⟩ (c1_digitAt l w K g S tp0 x8 v22 h23 k11) (gcwV hts i1_digitAt wd_752 rfl rfl ⟨by show 0 + 1 ≤ d + 1 + 4; omega, by show 8 + (2 + 11) + 0 ≤ 40 * (d + 1 + 4); omega⟩) (gRecv.of hK rfl (hH.o2 k11)) hH hK hS hl.1 rfl rfl (Nat.le_of_ble_eq_true rfl) dX2_weigh_156 ⟨Nat.le_refl _, Nat.le_refl _⟩ (fun H locs hH hS => ?_)
                refine lv_bipush (v := 6) hx hb dX2_weigh_159 (by decide) ?_
                refine lv_imul hx hb dX2_weigh_161 ?_
                refine lv_iload hx hb dX2_weigh_162 (lv_at hl 7 rfl) ?_
                refine lv_iadd hx hb dX2_weigh_164 ?_
                obtain ⟨k25, hf⟩ := gd_some hf
                have k25 := gk_arr k25
                obtain ⟨h26, hf⟩ := gd_some hf
                refine g_iald hx hb hK hH k25 h26 dX2_weigh_165 ?_
                refine lv_iadd hx hb dX2_weigh_166 ?_
                refine lv_topi (fun v27 ev27 => ?_)
                have hf := gl_at hf ev27
                refine lv_istore (lv' := [(6, .int v27), (11, .int v16), (10, .int v12), (0, .ref tp0), (3, .int p3), (4, .ref p4), (5, .int p5), (7, .int x7), (8, .int x8), (9, .int x9)]) hx hb dX2_weigh_167 hl (by decide) rfl (fun ls hl => ?_)
                refine lv_goto (tgt := 267) hx hb dX2_weigh_169 (by decide) ?_
                exact B267 _ (ih) _ _ _ _ _ _ _ hH hS (lv_sub hl [3, 4, 5, 6, 0, 7, 8, 9] rfl) hf
              have hf := hg.2 c21
              have hg := gif hf
              by_cases c28 : v12 = 108
              · have hf := hg.1 c28
                refine lv_lookup (tgt := 234) hx hb dX2_weigh_60 (by decide +kernel) (by rw [c28]; first | done | decide +kernel) (by decide) ?_
                refine lv_iload hx hb dX2_weigh_234 (lv_at hl 6 rfl) ?_
                refine lv_aload_n hx hb dX2_weigh_236 rfl (lv_at hl 2 rfl) ?_
                refine lv_iload hx hb dX2_weigh_237 (lv_at hl 0 rfl) ?_
                refine lv_iload hx hb dX2_weigh_239 (lv_at hl 7 rfl) ?_
                refine lv_iload_n hx hb dX2_weigh_241 rfl (lv_at hl 3 rfl) ?_
                refine lv_aload hx hb dX2_weigh_242 (lv_at hl 4 rfl) ?_
                refine lv_iload hx hb dX2_weigh_244 (lv_at hl 5 rfl) ?_
                refine lv_iconst (v := 1) hx hb dX2_weigh_246 (by decide) ?_
                refine lv_iadd hx hb dX2_weigh_247 ?_
                obtain ⟨v29, h30, hf⟩ := gbind hf
                refine g_Si (As := [va_rf (some tp0), .int v16, .int x7, .int p3, .ref p4, .int (p5 + 1)]) (rest := [.int x6]) ⟨hx, hb, hml, hown, hts⟩ (hrc _ _ _ _ _ _ _ h30) (gcwS hts i2_weigh wd_744 rfl rfl ⟨by show d + 4 + 1 ≤ d + 1 + 4; omega, by show 8 + (12 + 11) + 40 * (d + 4) ≤ 40 * (d + 1 + 4); omega⟩) hH hK hS hl.1 rfl rfl (Nat.le_of_ble_eq_true rfl) dX2_weigh_248 ⟨Nat.le_refl _, Nat.le_refl _⟩ (fun H locs hH hS => ?_)
                refine lv_iadd hx hb dX2_weigh_251 ?_
                refine lv_topi (fun v31 ev31 => ?_)
                have hf := gl_at hf ev31
                refine lv_istore (lv' := [(6, .int v31), (11, .int v16), (10, .int v12), (0, .ref tp0), (3, .int p3), (4, .ref p4), (5, .int p5), (7, .int x7), (8, .int x8), (9, .int x9)]) hx hb dX2_weigh_252 hl (by decide) rfl (fun ls hl => ?_)
                refine lv_aload_n hx hb dX2_weigh_254 rfl (lv_at hl 3 rfl) ?_
                refine lv_iload hx hb dX2_weigh_255 (lv_at hl 1 rfl) ?_
                refine lv_iload hx hb dX2_weigh_257 (lv_at hl 7 rfl) ?_
                obtain ⟨v32, h33, hf⟩ := gbind hf
                refine g_Si (As := [va_rf (some tp0), .int v16, .int x7]) (rest := []) ⟨hx, hb, hml, hown, hts⟩ (c2_colourBehind l w K g S ((some tp0)) v16 x7 v32 h33) (gcwS hts i2_colourBehind wd_753 rfl rfl ⟨by show 1 + 1 ≤ d + 1 + 4; omega, by show 8 + (8 + 11) + 21 ≤ 40 * (d + 1 + 4); omega⟩) hH hK hS hl.1 rfl rfl (Nat.le_of_ble_eq_true rfl) dX2_weigh_259 ⟨Nat.le_refl _, Nat.le_refl _⟩ (fun H locs hH hS => ?_)
                refine lv_istore (lv' := [(7, .int v32), (6, .int v31), (11, .int v16), (10, .int v12), (0, .ref tp0), (3, .int p3), (4, .ref p4), (5, .int p5), (8, .int x8), (9, .int x9)]) hx hb dX2_weigh_262 hl (by decide) rfl (fun ls hl => ?_)
                refine lv_goto (tgt := 267) hx hb dX2_weigh_264 (by decide) ?_
                exact B267 _ (ih) _ _ _ _ _ _ _ hH hS (lv_sub hl [4, 5, 6, 7, 1, 0, 8, 9] rfl) hf
              have hf := hg.2 c28
              have hg := gif hf
              by_cases c34 : v12 = 119
              · have hf := hg.1 c34
                refine lv_lookup (tgt := 112) hx hb dX2_weigh_60 (by decide +kernel) (by rw [c34]; first | done | decide +kernel) (by decide) ?_
                refine lv_iload_n hx hb dX2_weigh_112 rfl (lv_at hl 3 rfl) ?_
                refine lv_bipush (v := (-6)) hx hb dX2_weigh_113 (by decide) ?_
                have hg := gif hf
                refine lv_icmp_eq (tgt := 124) hx hb dX2_weigh_115 (by decide) (fun c35 => ?_) (fun c35 => ?_)
                · have hf := hg.1 c35
                  exact B124 _ (ih) _ _ _ _ _ _ _ hH hS (lv_sub hl [2, 3, 4, 5, 6, 7, 8, 9] rfl) hf
                · have hf := hg.2 c35
                  refine lv_iload_n hx hb dX2_weigh_118 rfl (lv_at hl 3 rfl) ?_
                  refine lv_iload hx hb dX2_weigh_119 (lv_at hl 7 rfl) ?_
                  have hg := gif hf
                  refine lv_icmp_ne (tgt := 267) hx hb dX2_weigh_121 (by decide) (fun c36 => ?_) (fun c36 => ?_)
                  · have hf := hg.2 c36
                    exact B267 _ (ih) _ _ _ _ _ _ _ hH hS (lv_sub hl [2, 3, 4, 5, 6, 7, 8, 9] rfl) hf
                  · have hf := hg.1 c36
                    exact B124 _ (ih) _ _ _ _ _ _ _ hH hS (lv_sub hl [2, 3, 4, 5, 6, 7, 8, 9] rfl) hf
              have hf := hg.2 c34
              have hg := gif hf
              by_cases c37 : v12 = 120
              · have hf := hg.1 c37
                refine lv_lookup (tgt := 172) hx hb dX2_weigh_60 (by decide +kernel) (by rw [c37]; first | done | decide +kernel) (by decide) ?_
                refine lv_iload hx hb dX2_weigh_172 (lv_at hl 6 rfl) ?_
                refine lv_aload_n hx hb dX2_weigh_174 rfl (lv_at hl 2 rfl) ?_
                refine lv_iload hx hb dX2_weigh_175 (lv_at hl 0 rfl) ?_
                refine lv_iload hx hb dX2_weigh_177 (lv_at hl 7 rfl) ?_
                refine lv_iload_n hx hb dX2_weigh_179 rfl (lv_at hl 3 rfl) ?_
                refine lv_aload hx hb dX2_weigh_180 (lv_at hl 4 rfl) ?_
                refine lv_iload hx hb dX2_weigh_182 (lv_at hl 5 rfl) ?_
                refine lv_iconst (v := 1) hx hb dX2_weigh_184 (by decide) ?_
                refine lv_iadd hx hb dX2_weigh_185 ?_
                obtain ⟨v38, h39, hf⟩ := gbind hf
                refine g_Si (As := [va_rf (some tp0), .int v16, .int x7, .int p3, .ref p4, .int (p5 + 1)]) (rest := [.int x6]) ⟨hx, hb, hml, hown, hts⟩ (hrc _ _ _ _ _ _ _ h39) (gcwS hts i2_weigh wd_744 rfl rfl ⟨by show d + 4 + 1 ≤ d + 1 + 4; omega, by show 8 + (12 + 11) + 40 * (d + 4) ≤ 40 * (d + 1 + 4); omega⟩) hH hK hS hl.1 rfl rfl (Nat.le_of_ble_eq_true rfl) dX2_weigh_186 ⟨Nat.le_refl _, Nat.le_refl _⟩ (fun H locs hH hS => ?_)
                refine lv_iadd hx hb dX2_weigh_189 ?_
                refine lv_topi (fun v40 ev40 => ?_)
                have hf := gl_at hf ev40
                refine lv_istore (lv' := [(6, .int v40), (11, .int v16), (10, .int v12), (0, .ref tp0), (3, .int p3), (4, .ref p4), (5, .int p5), (7, .int x7), (8, .int x8), (9, .int x9)]) hx hb dX2_weigh_190 hl (by decide) rfl (fun ls hl => ?_)
                refine lv_aload_n hx hb dX2_weigh_192 rfl (lv_at hl 3 rfl) ?_
                refine lv_iload hx hb dX2_weigh_193 (lv_at hl 1 rfl) ?_
                refine lv_iload hx hb dX2_weigh_195 (lv_at hl 7 rfl) ?_
                obtain ⟨v41, h42, hf⟩ := gbind hf
                refine g_Si (As := [va_rf (some tp0), .int v16, .int x7]) (rest := []) ⟨hx, hb, hml, hown, hts⟩ (c2_colourBehind l w K g S ((some tp0)) v16 x7 v41 h42) (gcwS hts i2_colourBehind wd_753 rfl rfl ⟨by show 1 + 1 ≤ d + 1 + 4; omega, by show 8 + (8 + 11) + 21 ≤ 40 * (d + 1 + 4); omega⟩) hH hK hS hl.1 rfl rfl (Nat.le_of_ble_eq_true rfl) dX2_weigh_197 ⟨Nat.le_refl _, Nat.le_refl _⟩ (fun H locs hH hS => ?_)
                refine lv_istore (lv' := [(7, .int v41), (6, .int v40), (11, .int v16), (10, .int v12), (0, .ref tp0), (3, .int p3), (4, .ref p4), (5, .int p5), (8, .int x8), (9, .int x9)]) hx hb dX2_weigh_200 hl (by decide) rfl (fun ls hl => ?_)
                refine lv_iload hx hb dX2_weigh_202 (lv_at hl 1 rfl) ?_
                refine lv_aload_n hx hb dX2_weigh_204 rfl (lv_at hl 4 rfl) ?_
                refine lv_iload hx hb dX2_weigh_205 (lv_at hl 8 rfl) ?_
                obtain ⟨v43, h44, hf⟩ := gbind hf
                refine g_Vi (As := [.int x8]) (rest := [.int v40]) ⟨hx, hb, hml, hown, hts⟩ (c1_timesAt l w K g S tp0 x8 v43 h44 k11) (gcwV hts i1_timesAt wd_751 rfl rfl ⟨by show 0 + 1 ≤ d + 1 + 4; omega, by show 8 + (2 + 11) + 0 ≤ 40 * (d + 1 + 4); omega⟩) (gRecv.of hK rfl (hH.o2 k11)) hH hK hS hl.1 rfl rfl (Nat.le_of_ble_eq_true rfl) dX2_weigh_207 ⟨Nat.le_refl _, Nat.le_refl _⟩ (fun H locs hH hS => ?_)
                refine lv_iconst (v := 1) hx hb dX2_weigh_210 (by decide) ?_
                refine lv_isub hx hb dX2_weigh_211 ?_
                refine lv_aload_n hx hb dX2_weigh_212 rfl (lv_at hl 4 rfl) ?_
                refine lv_iload hx hb dX2_weigh_213 (lv_at hl 2 rfl) ?_
                refine lv_iload hx hb dX2_weigh_215 (lv_at hl 0 rfl) ?_
                refine lv_iload_n hx hb dX2_weigh_217 rfl (lv_at hl 5 rfl) ?_
                refine lv_aload hx hb dX2_weigh_218 (lv_at hl 6 rfl) ?_
                refine lv_iload hx hb dX2_weigh_220 (lv_at hl 7 rfl) ?_
                refine lv_iconst (v := 1) hx hb dX2_weigh_222 (by decide) ?_
                refine lv_iadd hx hb dX2_weigh_223 ?_
                obtain ⟨v45, h46, hf⟩ := gbind hf
                refine g_Si (As := [va_rf (some tp0), .int v16, .int v41, .int p3, .ref p4, .int (p5 + 1)]) (rest := [.int (v43 - 1), .int v40]) ⟨hx, hb, hml, hown, hts⟩ (hrc _ _ _ _ _ _ _ h46) (gcwS hts i2_weigh wd_744 rfl rfl ⟨by show d + 4 + 1 ≤ d + 1 + 4; omega, by show 8 + (12 + 11) + 40 * (d + 4) ≤ 40 * (d + 1 + 4); omega⟩) hH hK hS hl.1 rfl rfl (Nat.le_of_ble_eq_true rfl) dX2_weigh_224 ⟨Nat.le_refl _, Nat.le_refl _⟩ (fun H locs hH hS => ?_)
                refine lv_imul hx hb dX2_weigh_227 ?_
                refine lv_iadd hx hb dX2_weigh_228 ?_
                refine lv_topi (fun v47 ev47 => ?_)
                have hf := gl_at hf ev47
                refine lv_istore (lv' := [(6, .int v47), (7, .int v41), (11, .int v16), (10, .int v12), (0, .ref tp0), (3, .int p3), (4, .ref p4), (5, .int p5), (8, .int x8), (9, .int x9)]) hx hb dX2_weigh_229 hl (by decide) rfl (fun ls hl => ?_)
                refine lv_goto (tgt := 267) hx hb dX2_weigh_231 (by decide) ?_
                exact B267 _ (ih) _ _ _ _ _ _ _ hH hS (lv_sub hl [4, 5, 6, 7, 0, 1, 8, 9] rfl) hf
              have hf := hg.2 c37
              have nc18 : v12.toInt ≠ 99 := g_ne c18 (by decide)
              have nc21 : v12.toInt ≠ 107 := g_ne c21 (by decide)
              have nc28 : v12.toInt ≠ 108 := g_ne c28 (by decide)
              have nc34 : v12.toInt ≠ 119 := g_ne c34 (by decide)
              have nc37 : v12.toInt ≠ 120 := g_ne c37 (by decide)
              refine lv_lookup (off := 207) (tgt := 267) hx hb dX2_weigh_60 (by decide +kernel) (by simp [Op.lookupswitch.offset, nc18, nc21, nc28, nc34, nc37, nc18.symm, nc21.symm, nc28.symm, nc34.symm, nc37.symm]) (by decide) ?_
              exact B267 _ (ih) _ _ _ _ _ _ _ hH hS (lv_sub hl [2, 3, 4, 5, 6, 7, 8, 9] rfl) hf
            · have hf := hg.1 c15
              refine lv_goto (tgt := 290) hx hb dX2_weigh_47 (by decide) ?_
              refine lv_iload hx hb dX2_weigh_290 (lv_at hl 5 rfl) ?_
              have ho := Option.some.inj hf
              exact W.iret (v := x6) hx hb hr (fun t ht hW => ⟨⟨x6, (), rfl, ho, hrE ht hH⟩, hS.F ht⟩) hS.2.2 dX2_weigh_292
    have hl : lv_has ls 12 [(0, .ref tp0), (1, .int p1), (2, .int p2), (3, .int p3), (4, .ref p4), (5, .int p5)] := hl
    refine lv_iload hx hb dX2_weigh_0 (lv_at hl 5 rfl) ?_
    refine lv_iconst (v := 3) hx hb dX2_weigh_2 (by decide) ?_
    have hg := gif hf
    refine lv_icmp_le (tgt := 8) hx hb dX2_weigh_3 (by decide) (fun c49 => ?_) (fun c49 => ?_)
    · have hf := hg.1 c49
      refine lv_iconst (v := 0) hx hb dX2_weigh_8 (by decide) ?_
      refine lv_istore (lv' := [(6, .int 0), (0, .ref tp0), (1, .int p1), (2, .int p2), (3, .int p3), (4, .ref p4), (5, .int p5)]) hx hb dX2_weigh_9 hl (by decide) rfl (fun ls hl => ?_)
      refine lv_iload_n hx hb dX2_weigh_11 rfl (lv_at hl 3 rfl) ?_
      refine lv_istore (lv' := [(7, .int p2), (6, .int 0), (0, .ref tp0), (1, .int p1), (2, .int p2), (3, .int p3), (4, .ref p4), (5, .int p5)]) hx hb dX2_weigh_12 hl (by decide) rfl (fun ls hl => ?_)
      refine lv_iload_n hx hb dX2_weigh_14 rfl (lv_at hl 3 rfl) ?_
      refine lv_istore (lv' := [(8, .int p1), (7, .int p2), (6, .int 0), (0, .ref tp0), (1, .int p1), (2, .int p2), (3, .int p3), (4, .ref p4), (5, .int p5)]) hx hb dX2_weigh_15 hl (by decide) rfl (fun ls hl => ?_)
      refine lv_iconst (v := 0) hx hb dX2_weigh_17 (by decide) ?_
      refine lv_istore (lv' := [(9, .int 0), (8, .int p1), (7, .int p2), (6, .int 0), (0, .ref tp0), (1, .int p1), (2, .int p2), (3, .int p3), (4, .ref p4), (5, .int p5)]) hx hb dX2_weigh_18 hl (by decide) rfl (fun ls hl => ?_)
      exact B20 _ _ _ _ _ _ _ _ hH hS (lv_sub hl [4, 7, 8, 9, 3, 2, 1, 0] rfl) hf
    · have hf := hg.2 c49
      refine lv_iconst (v := 0) hx hb dX2_weigh_6 (by decide) ?_
      have ho := Option.some.inj hf
      exact W.iret (v := 0) hx hb hr (fun t ht hW => ⟨⟨0, (), rfl, ho, hrE ht hH⟩, hS.F ht⟩) hS.2.2 dX2_weigh_7
set_option maxRecDepth 100000 in
set_option maxHeartbeats 8000000 in
theorem c2_weighCard (l : Launch) (w : GW) (K : GK) (g : GM) (S : GS) (a : Nat) (p0 : Option Nat) (p1 : Int32) (p2 : Int32) (out : GM) (hf : f2_weighCard K g a p0 p1 p2 = some out) (hk0 : gkd K a = 3) : Met l yX2_weighCard (wA yX2_weighCard cX2_weighCard 5 none) ({ frames := 10, cells := 0, slots := 0, locals := 391 } : Room) (PRE w K g S [.ref a, va_rf p0, .int p1, .int p2]) (QV w K out S) 0 0 (FR w) := by
  unfold f2_weighCard at hf
  rcases gopt_c hf with ⟨rfl, hf⟩ | ⟨tp0, rfl, hf⟩
  · show Met l yX2_weighCard (wA yX2_weighCard cX2_weighCard 5 none) ({ frames := 10, cells := 0, slots := 0, locals := 391 } : Room) (PRE w K g S [.ref a, .null, .int p1, .int p2]) (QV w K out S) 0 0 (FR w)
    refine Met.ofW (cc := cX2_weighCard) (maxL := 5) (ret := none) (by decide) rfl ?_
    intro p e s m args below meth c s₁ B hml hv
    obtain ⟨rfl, hH, hK⟩ := hv
    have hx := B.exec
    have hb := B.bytes
    have hr := B.returns
    have hts : ∀ q ∈ gALL, q.before _ s = true := fun q h => atoms_spec (ws := (wA yX2_weighCard cX2_weighCard 5 none)) B.pre q (List.mem_cons_of_mem _ h)
    have hown : s.vm.findClass RX2 = some m.cls := findClass_of_methodNamed B.named
    have hlocks := B.notSynchronized
    have hS : va_S (FR w) s.heap s.heap [] := va_S.rf
    show W p l e ({ frames := 10, cells := 0, slots := 0, locals := 391 } : Room) s m _ below meth c s.heap [] 0 0 (MQ below (QV w K out S) _ s 0 0 (FR w)) _
    have hl := lv_entry ([.ref a, .null, .int p1, .int p2]) (n := 5) (Nat.le_of_ble_eq_true rfl)
    rw [lg_entry_eq]
    generalize (lg_sl ([.ref a, .null, .int p1, .int p2]) ++ List.replicate (5 - (lg_sl ([.ref a, .null, .int p1, .int p2])).length) Slot.unset).toArray = ls at hl ⊢
    clear B
    generalize ([.ref a, .null, .int p1, .int p2] : List Value).toArray = args at hts ⊢
    have hl : lv_has ls 5 [(0, .ref a), (1, .null), (2, .int p1), (3, .int p2)] := hl
    refine lv_aload_nN hx hb dX2_weighCard_0 rfl (lv_at hl 1 rfl) ?_
    refine lv_ifnonnullN hx hb dX2_weighCard_1 ?_
    have ho := Option.some.inj hf
    exact W.vret hx hb hr (fun t ht hW => ⟨⟨(), rfl, trivial, hrV ht ho hH⟩, hS.F ht⟩) hS.2.2 dX2_weighCard_4
  · show Met l yX2_weighCard (wA yX2_weighCard cX2_weighCard 5 none) ({ frames := 10, cells := 0, slots := 0, locals := 391 } : Room) (PRE w K g S [.ref a, .ref tp0, .int p1, .int p2]) (QV w K out S) 0 0 (FR w)
    refine Met.ofW (cc := cX2_weighCard) (maxL := 5) (ret := none) (by decide) rfl ?_
    intro p e s m args below meth c s₁ B hml hv
    obtain ⟨rfl, hH, hK⟩ := hv
    have hx := B.exec
    have hb := B.bytes
    have hr := B.returns
    have hts : ∀ q ∈ gALL, q.before _ s = true := fun q h => atoms_spec (ws := (wA yX2_weighCard cX2_weighCard 5 none)) B.pre q (List.mem_cons_of_mem _ h)
    have hown : s.vm.findClass RX2 = some m.cls := findClass_of_methodNamed B.named
    have hlocks := B.notSynchronized
    have hS : va_S (FR w) s.heap s.heap [] := va_S.rf
    show W p l e ({ frames := 10, cells := 0, slots := 0, locals := 391 } : Room) s m _ below meth c s.heap [] 0 0 (MQ below (QV w K out S) _ s 0 0 (FR w)) _
    have hl := lv_entry ([.ref a, .ref tp0, .int p1, .int p2]) (n := 5) (Nat.le_of_ble_eq_true rfl)
    rw [lg_entry_eq]
    generalize (lg_sl ([.ref a, .ref tp0, .int p1, .int p2]) ++ List.replicate (5 - (lg_sl ([.ref a, .ref tp0, .int p1, .int p2])).length) Slot.unset).toArray = ls at hl ⊢
    clear B
    generalize ([.ref a, .ref tp0, .int p1, .int p2] : List Value).toArray = args at hts ⊢
    have B8 : ∀ n : Nat, ∀ (g : GM) (x4 : Int32) (H : Heap) (locs : List Loc) (ls : Array Slot), HR w K g S H → va_S (FR w) s.heap H locs → lv_has ls 5 [(0, .ref a), (1, .ref tp0), (2, .int p1), (3, .int p2), (4, .int x4)] → f2_weighCard_8 K a p1 p2 tp0 n g x4 = some out → W p l e ({ frames := 10, cells := 0, slots := 0, locals := 391 } : Room) s m args below meth c H locs 0 0 (MQ below (QV w K out S) args s 0 0 (FR w)) (F0 m 8 ls []) := by
      intro n
      induction n with
      | zero =>
        intro g x4 H locs ls hH hS hl hf
        cases hf
      | succ n ih =>
        intro g x4 H locs ls hH hS hl hf
        rw [f2_weighCard_8] at hf
        refine lv_iload hx hb dX2_weighCard_8 (lv_at hl 4 rfl) ?_
        refine lv_bipush (v := 6) hx hb dX2_weighCard_10 (by decide) ?_
        have hg := gif hf
        refine lv_icmp_ge (tgt := 46) hx hb dX2_weighCard_12 (by decide) (fun c1 => ?_) (fun c1 => ?_)
        · have hf := hg.1 c1
          have ho := Option.some.inj hf
          exact W.vret hx hb hr (fun t ht hW => ⟨⟨(), rfl, trivial, hrV ht ho hH⟩, hS.F ht⟩) hS.2.2 dX2_weighCard_46
        · have hf := hg.2 c1
          refine lv_aload_n hx hb dX2_weighCard_15 rfl (lv_at hl 0 rfl) ?_
          have k2 : K.1 (a + 2) = (10, 60) := hH.sub hk0 1 (t := (2, 10, 60)) rfl
          refine e_2_1 hx hb hts hown hK hH hk0 (hts _ wd_96) dX2_weighCard_16 ?_
          refine lv_iload_n hx hb dX2_weighCard_19 rfl (lv_at hl 2 rfl) ?_
          refine lv_bipush (v := 6) hx hb dX2_weighCard_20 (by decide) ?_
          refine lv_imul hx hb dX2_weighCard_22 ?_
          refine lv_iload hx hb dX2_weighCard_23 (lv_at hl 4 rfl) ?_
          refine lv_iadd hx hb dX2_weighCard_25 ?_
          refine lv_aload_n hx hb dX2_weighCard_26 rfl (lv_at hl 1 rfl) ?_
          refine lv_iconst (v := 0) hx hb dX2_weighCard_27 (by decide) ?_
          refine lv_iload hx hb dX2_weighCard_28 (lv_at hl 4 rfl) ?_
          refine lv_iload_n hx hb dX2_weighCard_30 rfl (lv_at hl 3 rfl) ?_
          refine lv_aload_n hx hb dX2_weighCard_31 rfl (lv_at hl 0 rfl) ?_
          refine e_2_1 hx hb hts hown hK hH hk0 (hts _ wd_96) dX2_weighCard_32 ?_
          refine lv_iconst (v := 0) hx hb dX2_weighCard_35 (by decide) ?_
          obtain ⟨v3, h4, hf⟩ := gbind hf
          refine g_Si (As := [va_rf (some tp0), .int 0, .int x4, .int p2, .ref (a + 2), .int 0]) (rest := [.int ((p1 * 6) + x4), .ref (a + 2)]) ⟨hx, hb, hml, hown, hts⟩ (c2_weigh l w K g S 5 ((some tp0)) 0 x4 p2 (a + 2) 0 v3 h4) (gcwS hts i2_weigh wd_744 rfl rfl ⟨Nat.le_of_ble_eq_true rfl, Nat.le_of_ble_eq_true rfl⟩) hH hK hS hl.1 rfl rfl (Nat.le_of_ble_eq_true rfl) dX2_weighCard_36 ⟨Nat.le_refl _, Nat.le_refl _⟩ (fun H locs hH hS => ?_)
          obtain ⟨h6, hf⟩ := gd_some hf
          refine g_iast hx hb hK hH hS k2 h6 dX2_weighCard_39 (fun H locs hH hS => ?_)
          obtain ⟨g7, eg7⟩ : ∃ z : GM, z = gsI g (a + 2) ((p1 * 6) + x4).toNatClampNeg v3 := ⟨_, rfl⟩
          have hf := gl_at hf eg7
          replace hH : HR w K g7 S H := by rw [eg7]; exact hH
          obtain ⟨v8, ev8⟩ : ∃ z : Int32, z = x4 + 1 := ⟨_, rfl⟩
          have hf := gl_at hf ev8
          refine lv_iinc (v := v8) (lv' := [(4, .int v8), (0, .ref a), (1, .ref tp0), (2, .int p1), (3, .int p2)]) hx hb dX2_weighCard_40 hl (k := 4) rfl (by rw [ev8]; rfl) (by decide) rfl (fun ls hl => ?_)
          refine lv_goto (tgt := 8) hx hb dX2_weighCard_43 (by decide) ?_
          exact ih _ _ _ _ _ hH hS (lv_sub hl [1, 2, 3, 4, 0] rfl) hf
    have hl : lv_has ls 5 [(0, .ref a), (1, .ref tp0), (2, .int p1), (3, .int p2)] := hl
    refine lv_aload_n hx hb dX2_weighCard_0 rfl (lv_at hl 1 rfl) ?_
    refine lv_ifnonnull (tgt := 5) hx hb dX2_weighCard_1 (by decide) ?_
    refine lv_iconst (v := 0) hx hb dX2_weighCard_5 (by decide) ?_
    refine lv_istore (lv' := [(4, .int 0), (0, .ref a), (1, .ref tp0), (2, .int p1), (3, .int p2)]) hx hb dX2_weighCard_6 hl (by decide) rfl (fun ls hl => ?_)
    exact B8 _ _ _ _ _ _ hH hS (lv_sub hl [1, 2, 3, 4, 0] rfl) hf
set_option maxRecDepth 100000 in
set_option maxHeartbeats 8000000 in
theorem c2_picksOf (l : Launch) (w : GW) (K : GK) (g : GM) (S : GS) (a : Nat) (p0 : Nat) (p1 : Int32) (p2 : Int32) (out : GM × Int32) (hf : f2_picksOf K g a p0 p1 p2 = some out) (hk0 : gkd K a = 3) : Met l yX2_picksOf (wA yX2_picksOf cX2_picksOf 9 (some .int)) ({ frames := 11, cells := 0, slots := 0, locals := 415 } : Room) (PRE w K g S [.ref a, .ref p0, .int p1, .int p2]) (QI w K out.1 S out.2) 0 0 (FR w) := by
  unfold f2_picksOf at hf
  refine Met.ofW (cc := cX2_picksOf) (maxL := 9) (ret := (some .int)) (by decide) rfl ?_
  intro p e s m args below meth c s₁ B hml hv
  obtain ⟨rfl, hH, hK⟩ := hv
  have hx := B.exec
  have hb := B.bytes
  have hr := B.returns
  have hts : ∀ q ∈ gALL, q.before _ s = true := fun q h => atoms_spec (ws := (wA yX2_picksOf cX2_picksOf 9 (some .int))) B.pre q (List.mem_cons_of_mem _ h)
  have hown : s.vm.findClass RX2 = some m.cls := findClass_of_methodNamed B.named
  have hlocks := B.notSynchronized
  have hS : va_S (FR w) s.heap s.heap [] := va_S.rf
  show W p l e ({ frames := 11, cells := 0, slots := 0, locals := 415 } : Room) s m _ below meth c s.heap [] 0 0 (MQ below (QI w K out.1 S out.2) _ s 0 0 (FR w)) _
  have hl := lv_entry ([.ref a, .ref p0, .int p1, .int p2]) (n := 9) (Nat.le_of_ble_eq_true rfl)
  rw [lg_entry_eq]
  generalize (lg_sl ([.ref a, .ref p0, .int p1, .int p2]) ++ List.replicate (9 - (lg_sl ([.ref a, .ref p0, .int p1, .int p2])).length) Slot.unset).toArray = ls at hl ⊢
  clear B
  generalize ([.ref a, .ref p0, .int p1, .int p2] : List Value).toArray = args at hts ⊢
  have B100 : ∀ (k17 : GM → Int32 → Int32 → Int32 → Option (GM × Int32)), (∀ (g : GM) (x4 : Int32) (x5 : Int32) (x6 : Int32) (H : Heap) (locs : List Loc) (ls : Array Slot), HR w K g S H → va_S (FR w) s.heap H locs → lv_has ls 9 [(0, .ref a), (1, .ref p0), (2, .int p1), (3, .int p2), (4, .int x4), (5, .int x5), (6, .int x6)] → k17 g x4 x5 x6 = some out → W p l e ({ frames := 11, cells := 0, slots := 0, locals := 415 } : Room) s m args below meth c H locs 0 0 (MQ below (QI w K out.1 S out.2) args s 0 0 (FR w)) (F0 m 17 ls [])) → ∀ (k27 : GM → Int32 → Int32 → Int32 → Int32 → Option (GM × Int32)), (∀ (g : GM) (x4 : Int32) (x5 : Int32) (x6 : Int32) (x7 : Int32) (H : Heap) (locs : List Loc) (ls : Array Slot), HR w K g S H → va_S (FR w) s.heap H locs → lv_has ls 9 [(0, .ref a), (1, .ref p0), (2, .int p1), (3, .int p2), (4, .int x4), (5, .int x5), (6, .int x6), (7, .int x7)] → k27 g x4 x5 x6 x7 = some out → W p l e ({ frames := 11, cells := 0, slots := 0, locals := 415 } : Room) s m args below meth c H locs 0 0 (MQ below (QI w K out.1 S out.2) args s 0 0 (FR w)) (F0 m 27 ls [])) → ∀ (g : GM) (x4 : Int32) (x5 : Int32) (x6 : Int32) (x7 : Int32) (H : Heap) (locs : List Loc) (ls : Array Slot), HR w K g S H → va_S (FR w) s.heap H locs → lv_has ls 9 [(0, .ref a), (1, .ref p0), (2, .int p1), (3, .int p2), (4, .int x4), (5, .int x5), (6, .int x6), (7, .int x7)] → f2_picksOf_100 k17 k27 K a p0 p1 p2 g x4 x5 x6 x7 = some out → W p l e ({ frames := 11, cells := 0, slots := 0, locals := 415 } : Room) s m args below meth c H locs 0 0 (MQ below (QI w K out.1 S out.2) args s 0 0 (FR w)) (F0 m 100 ls []) := by
    intro k17 hk17 k27 hk27 g x4 x5 x6 x7 H locs ls hH hS hl hf
    unfold f2_picksOf_100 at hf
    obtain ⟨v1, ev1⟩ : ∃ z : Int32, z = x7 + 1 := ⟨_, rfl⟩
    have hf := gl_at hf ev1
    refine lv_iinc (v := v1) (lv' := [(7, .int v1), (0, .ref a), (1, .ref p0), (2, .int p1), (3, .int p2), (4, .int x4), (5, .int x5), (6, .int x6)]) hx hb dX2_picksOf_100 hl (k := 7) rfl (by rw [ev1]; rfl) (by decide) rfl (fun ls hl => ?_)
    refine lv_goto (tgt := 27) hx hb dX2_picksOf_103 (by decide) ?_
    exact hk27 _ _ _ _ _ _ _ _ hH hS (lv_sub hl [1, 2, 3, 4, 5, 6, 7, 0] rfl) hf
  have B59 : ∀ (k17 : GM → Int32 → Int32 → Int32 → Option (GM × Int32)), (∀ (g : GM) (x4 : Int32) (x5 : Int32) (x6 : Int32) (H : Heap) (locs : List Loc) (ls : Array Slot), HR w K g S H → va_S (FR w) s.heap H locs → lv_has ls 9 [(0, .ref a), (1, .ref p0), (2, .int p1), (3, .int p2), (4, .int x4), (5, .int x5), (6, .int x6)] → k17 g x4 x5 x6 = some out → W p l e ({ frames := 11, cells := 0, slots := 0, locals := 415 } : Room) s m args below meth c H locs 0 0 (MQ below (QI w K out.1 S out.2) args s 0 0 (FR w)) (F0 m 17 ls [])) → ∀ (k27 : GM → Int32 → Int32 → Int32 → Int32 → Option (GM × Int32)), (∀ (g : GM) (x4 : Int32) (x5 : Int32) (x6 : Int32) (x7 : Int32) (H : Heap) (locs : List Loc) (ls : Array Slot), HR w K g S H → va_S (FR w) s.heap H locs → lv_has ls 9 [(0, .ref a), (1, .ref p0), (2, .int p1), (3, .int p2), (4, .int x4), (5, .int x5), (6, .int x6), (7, .int x7)] → k27 g x4 x5 x6 x7 = some out → W p l e ({ frames := 11, cells := 0, slots := 0, locals := 415 } : Room) s m args below meth c H locs 0 0 (MQ below (QI w K out.1 S out.2) args s 0 0 (FR w)) (F0 m 27 ls [])) → ∀ (g : GM) (x4 : Int32) (x5 : Int32) (x6 : Int32) (x7 : Int32) (s0 : Int32) (H : Heap) (locs : List Loc) (ls : Array Slot), HR w K g S H → va_S (FR w) s.heap H locs → lv_has ls 9 [(0, .ref a), (1, .ref p0), (2, .int p1), (3, .int p2), (4, .int x4), (5, .int x5), (6, .int x6), (7, .int x7)] → f2_picksOf_59 k17 k27 K a p0 p1 p2 g x4 x5 x6 x7 s0 = some out → W p l e ({ frames := 11, cells := 0, slots := 0, locals := 415 } : Room) s m args below meth c H locs 0 0 (MQ below (QI w K out.1 S out.2) args s 0 0 (FR w)) (F0 m 59 ls [.int s0]) := by
    intro k17 hk17 k27 hk27 g x4 x5 x6 x7 s0 H locs ls hH hS hl hf
    unfold f2_picksOf_59 at hf
    refine lv_istore (lv' := [(8, .int s0), (0, .ref a), (1, .ref p0), (2, .int p1), (3, .int p2), (4, .int x4), (5, .int x5), (6, .int x6), (7, .int x7)]) hx hb dX2_picksOf_59 hl (by decide) rfl (fun ls hl => ?_)
    refine lv_iload hx hb dX2_picksOf_61 (lv_at hl 0 rfl) ?_
    have hg := gif hf
    refine lv_if_eq (tgt := 100) hx hb dX2_picksOf_63 (by decide) (fun c2 => ?_) (fun c2 => ?_)
    · have hf := hg.1 c2
      exact B100 _ (hk17) _ (hk27) _ _ _ _ _ _ _ _ hH hS (lv_sub hl [1, 2, 3, 4, 5, 6, 7, 8] rfl) hf
    · have hf := hg.2 c2
      refine lv_aload_n hx hb dX2_picksOf_66 rfl (lv_at hl 2 rfl) ?_
      refine lv_iload hx hb dX2_picksOf_67 (lv_at hl 8 rfl) ?_
      obtain ⟨v3, h4, hf⟩ := gbind hf
      refine g_Si (As := [.ref p0, .int x7]) (rest := []) ⟨hx, hb, hml, hown, hts⟩ (c2_calledBy l w K g S p0 x7 v3 h4) (gcwS hts i2_calledBy wd_307 rfl rfl ⟨Nat.le_of_ble_eq_true rfl, Nat.le_of_ble_eq_true rfl⟩) hH hK hS hl.1 rfl rfl (Nat.le_of_ble_eq_true rfl) dX2_picksOf_69 ⟨Nat.le_refl _, Nat.le_refl _⟩ (fun H locs hH hS => ?_)
      refine lv_iload hx hb dX2_picksOf_72 (lv_at hl 6 rfl) ?_
      refine lv_iconst (v := (-1)) hx hb dX2_picksOf_74 (by decide) ?_
      refine lv_ixor hx hb dX2_picksOf_75 ?_
      refine lv_iand hx hb dX2_picksOf_76 ?_
      have hg := gif hf
      refine lv_if_ne (tgt := 100) hx hb dX2_picksOf_77 (by decide) (fun c5 => ?_) (fun c5 => ?_)
      · have hf := hg.2 c5
        exact B100 _ (hk17) _ (hk27) _ _ _ _ _ _ _ _ hH hS (lv_sub hl [1, 2, 3, 4, 5, 6, 7, 8] rfl) hf
      · have hf := hg.1 c5
        refine lv_aload_n hx hb dX2_picksOf_80 rfl (lv_at hl 1 rfl) ?_
        refine lv_aload_n hx hb dX2_picksOf_81 rfl (lv_at hl 2 rfl) ?_
        refine lv_iload hx hb dX2_picksOf_82 (lv_at hl 8 rfl) ?_
        obtain ⟨k7, hf⟩ := gd_some hf
        have k7 := gk_arr k7
        obtain ⟨h8, hf⟩ := gd_some hf
        refine g_tald hx hb hK hH k7 h8 dX2_picksOf_84 ?_
        rcases gopt_c hf with ⟨q10, hf⟩ | ⟨t9, q10, hf⟩
        · refine g_rfN q10 ?_
          refine lv_iload hx hb dX2_picksOf_85 (lv_at hl 8 rfl) ?_
          refine lv_iload_n hx hb dX2_picksOf_87 rfl (lv_at hl 4 rfl) ?_
          obtain ⟨g11, h12, hf⟩ := gbind hf
          refine g_Vv (As := [va_rf none, .int x7, .int p2]) (rest := []) ⟨hx, hb, hml, hown, hts⟩ (c2_weighCard l w K g S a none x7 p2 g11 h12 hk0) (gcwV hts i2_weighCard wd_740 rfl rfl ⟨Nat.le_of_ble_eq_true rfl, Nat.le_of_ble_eq_true rfl⟩) (gRecv.of hK rfl (hH.o3 hk0)) hH hK hS hl.1 rfl rfl (Nat.le_of_ble_eq_true rfl) dX2_picksOf_88 ⟨Nat.le_refl _, Nat.le_refl _⟩ (fun H locs hH hS => ?_)
          refine lv_iload hx hb dX2_picksOf_91 (lv_at hl 6 rfl) ?_
          refine lv_iconst (v := 1) hx hb dX2_picksOf_93 (by decide) ?_
          refine lv_iload hx hb dX2_picksOf_94 (lv_at hl 8 rfl) ?_
          refine lv_ishl hx hb dX2_picksOf_96 ?_
          refine lv_ior hx hb dX2_picksOf_97 ?_
          refine lv_topi (fun v13 ev13 => ?_)
          have hf := gl_at hf ev13
          refine lv_istore (lv' := [(5, .int v13), (8, .int s0), (0, .ref a), (1, .ref p0), (2, .int p1), (3, .int p2), (4, .int x4), (6, .int x6), (7, .int x7)]) hx hb dX2_picksOf_98 hl (by decide) rfl (fun ls hl => ?_)
          exact B100 _ (hk17) _ (hk27) _ _ _ _ _ _ _ _ hH hS (lv_sub hl [2, 3, 4, 5, 6, 0, 7, 8] rfl) hf
        · refine g_rfS q10 ?_
          refine lv_iload hx hb dX2_picksOf_85 (lv_at hl 8 rfl) ?_
          refine lv_iload_n hx hb dX2_picksOf_87 rfl (lv_at hl 4 rfl) ?_
          obtain ⟨g14, h15, hf⟩ := gbind hf
          refine g_Vv (As := [va_rf (some t9), .int x7, .int p2]) (rest := []) ⟨hx, hb, hml, hown, hts⟩ (c2_weighCard l w K g S a ((some t9)) x7 p2 g14 h15 hk0) (gcwV hts i2_weighCard wd_740 rfl rfl ⟨Nat.le_of_ble_eq_true rfl, Nat.le_of_ble_eq_true rfl⟩) (gRecv.of hK rfl (hH.o3 hk0)) hH hK hS hl.1 rfl rfl (Nat.le_of_ble_eq_true rfl) dX2_picksOf_88 ⟨Nat.le_refl _, Nat.le_refl _⟩ (fun H locs hH hS => ?_)
          refine lv_iload hx hb dX2_picksOf_91 (lv_at hl 6 rfl) ?_
          refine lv_iconst (v := 1) hx hb dX2_picksOf_93 (by decide) ?_
          refine lv_iload hx hb dX2_picksOf_94 (lv_at hl 8 rfl) ?_
          refine lv_ishl hx hb dX2_picksOf_96 ?_
          refine lv_ior hx hb dX2_picksOf_97 ?_
          refine lv_topi (fun v16 ev16 => ?_)
          have hf := gl_at hf ev16
          refine lv_istore (lv' := [(5, .int v16), (8, .int s0), (0, .ref a), (1, .ref p0), (2, .int p1), (3, .int p2), (4, .int x4), (6, .int x6), (7, .int x7)]) hx hb dX2_picksOf_98 hl (by decide) rfl (fun ls hl => ?_)
          exact B100 _ (hk17) _ (hk27) _ _ _ _ _ _ _ _ hH hS (lv_sub hl [2, 3, 4, 5, 6, 0, 7, 8] rfl) hf
  have B58 : ∀ (k17 : GM → Int32 → Int32 → Int32 → Option (GM × Int32)), (∀ (g : GM) (x4 : Int32) (x5 : Int32) (x6 : Int32) (H : Heap) (locs : List Loc) (ls : Array Slot), HR w K g S H → va_S (FR w) s.heap H locs → lv_has ls 9 [(0, .ref a), (1, .ref p0), (2, .int p1), (3, .int p2), (4, .int x4), (5, .int x5), (6, .int x6)] → k17 g x4 x5 x6 = some out → W p l e ({ frames := 11, cells := 0, slots := 0, locals := 415 } : Room) s m args below meth c H locs 0 0 (MQ below (QI w K out.1 S out.2) args s 0 0 (FR w)) (F0 m 17 ls [])) → ∀ (k27 : GM → Int32 → Int32 → Int32 → Int32 → Option (GM × Int32)), (∀ (g : GM) (x4 : Int32) (x5 : Int32) (x6 : Int32) (x7 : Int32) (H : Heap) (locs : List Loc) (ls : Array Slot), HR w K g S H → va_S (FR w) s.heap H locs → lv_has ls 9 [(0, .ref a), (1, .ref p0), (2, .int p1), (3, .int p2), (4, .int x4), (5, .int x5), (6, .int x6), (7, .int x7)] → k27 g x4 x5 x6 x7 = some out → W p l e ({ frames := 11, cells := 0, slots := 0, locals := 415 } : Room) s m args below meth c H locs 0 0 (MQ below (QI w K out.1 S out.2) args s 0 0 (FR w)) (F0 m 27 ls [])) → ∀ (g : GM) (x4 : Int32) (x5 : Int32) (x6 : Int32) (x7 : Int32) (H : Heap) (locs : List Loc) (ls : Array Slot), HR w K g S H → va_S (FR w) s.heap H locs → lv_has ls 9 [(0, .ref a), (1, .ref p0), (2, .int p1), (3, .int p2), (4, .int x4), (5, .int x5), (6, .int x6), (7, .int x7)] → f2_picksOf_58 k17 k27 K a p0 p1 p2 g x4 x5 x6 x7 = some out → W p l e ({ frames := 11, cells := 0, slots := 0, locals := 415 } : Room) s m args below meth c H locs 0 0 (MQ below (QI w K out.1 S out.2) args s 0 0 (FR w)) (F0 m 58 ls []) := by
    intro k17 hk17 k27 hk27 g x4 x5 x6 x7 H locs ls hH hS hl hf
    unfold f2_picksOf_58 at hf
    refine lv_iconst (v := 0) hx hb dX2_picksOf_58 (by decide) ?_
    exact B59 _ (hk17) _ (hk27) _ _ _ _ _ _ _ _ _ hH hS (lv_sub hl [0, 1, 2, 3, 4, 5, 6, 7] rfl) hf
  have B27 : ∀ (k17 : GM → Int32 → Int32 → Int32 → Option (GM × Int32)), (∀ (g : GM) (x4 : Int32) (x5 : Int32) (x6 : Int32) (H : Heap) (locs : List Loc) (ls : Array Slot), HR w K g S H → va_S (FR w) s.heap H locs → lv_has ls 9 [(0, .ref a), (1, .ref p0), (2, .int p1), (3, .int p2), (4, .int x4), (5, .int x5), (6, .int x6)] → k17 g x4 x5 x6 = some out → W p l e ({ frames := 11, cells := 0, slots := 0, locals := 415 } : Room) s m args below meth c H locs 0 0 (MQ below (QI w K out.1 S out.2) args s 0 0 (FR w)) (F0 m 17 ls [])) → ∀ n : Nat, ∀ (g : GM) (x4 : Int32) (x5 : Int32) (x6 : Int32) (x7 : Int32) (H : Heap) (locs : List Loc) (ls : Array Slot), HR w K g S H → va_S (FR w) s.heap H locs → lv_has ls 9 [(0, .ref a), (1, .ref p0), (2, .int p1), (3, .int p2), (4, .int x4), (5, .int x5), (6, .int x6), (7, .int x7)] → f2_picksOf_27 k17 K a p0 p1 p2 n g x4 x5 x6 x7 = some out → W p l e ({ frames := 11, cells := 0, slots := 0, locals := 415 } : Room) s m args below meth c H locs 0 0 (MQ below (QI w K out.1 S out.2) args s 0 0 (FR w)) (F0 m 27 ls []) := by
    intro k17 hk17
    intro n
    induction n with
    | zero =>
      intro g x4 x5 x6 x7 H locs ls hH hS hl hf
      cases hf
    | succ n ih =>
      intro g x4 x5 x6 x7 H locs ls hH hS hl hf
      rw [f2_picksOf_27] at hf
      refine lv_iload hx hb dX2_picksOf_27 (lv_at hl 7 rfl) ?_
      refine lv_bipush (v := 10) hx hb dX2_picksOf_29 (by decide) ?_
      have hg := gif hf
      refine lv_icmp_ge (tgt := 106) hx hb dX2_picksOf_31 (by decide) (fun c17 => ?_) (fun c17 => ?_)
      · have hf := hg.1 c17
        obtain ⟨v18, ev18⟩ : ∃ z : Int32, z = x6 + 1 := ⟨_, rfl⟩
        have hf := gl_at hf ev18
        refine lv_iinc (v := v18) (lv' := [(6, .int v18), (0, .ref a), (1, .ref p0), (2, .int p1), (3, .int p2), (4, .int x4), (5, .int x5), (7, .int x7)]) hx hb dX2_picksOf_106 hl (k := 6) rfl (by rw [ev18]; rfl) (by decide) rfl (fun ls hl => ?_)
        refine lv_goto (tgt := 17) hx hb dX2_picksOf_109 (by decide) ?_
        exact hk17 _ _ _ _ _ _ _ hH hS (lv_sub hl [1, 2, 3, 4, 5, 6, 0] rfl) hf
      · have hf := hg.2 c17
        refine lv_iload hx hb dX2_picksOf_34 (lv_at hl 4 rfl) ?_
        refine lv_iload hx hb dX2_picksOf_36 (lv_at hl 7 rfl) ?_
        obtain ⟨v19, h20, hf⟩ := gbind hf
        refine g_Si (As := [.int x4, .int x7]) (rest := []) ⟨hx, hb, hml, hown, hts⟩ (c2_holds l w K g S x4 x7 v19 h20) (gcwS hts i2_holds wd_311 rfl rfl ⟨Nat.le_of_ble_eq_true rfl, Nat.le_of_ble_eq_true rfl⟩) hH hK hS hl.1 rfl rfl (Nat.le_of_ble_eq_true rfl) dX2_picksOf_38 ⟨Nat.le_refl _, Nat.le_refl _⟩ (fun H locs hH hS => ?_)
        have hg := gif hf
        refine lv_if_eq (tgt := 58) hx hb dX2_picksOf_41 (by decide) (fun c21 => ?_) (fun c21 => ?_)
        · have hf := hg.1 c21
          exact B58 _ (hk17) _ (ih) _ _ _ _ _ _ _ _ hH hS (lv_sub hl [0, 1, 2, 3, 4, 5, 6, 7] rfl) hf
        · have hf := hg.2 c21
          refine lv_iload hx hb dX2_picksOf_44 (lv_at hl 5 rfl) ?_
          refine lv_iload hx hb dX2_picksOf_46 (lv_at hl 7 rfl) ?_
          obtain ⟨v22, h23, hf⟩ := gbind hf
          refine g_Si (As := [.int x5, .int x7]) (rest := []) ⟨hx, hb, hml, hown, hts⟩ (c2_holds l w K g S x5 x7 v22 h23) (gcwS hts i2_holds wd_311 rfl rfl ⟨Nat.le_of_ble_eq_true rfl, Nat.le_of_ble_eq_true rfl⟩) hH hK hS hl.1 rfl rfl (Nat.le_of_ble_eq_true rfl) dX2_picksOf_48 ⟨Nat.le_refl _, Nat.le_refl _⟩ (fun H locs hH hS => ?_)
          have hg := gif hf
          refine lv_if_ne (tgt := 58) hx hb dX2_picksOf_51 (by decide) (fun c24 => ?_) (fun c24 => ?_)
          · have hf := hg.2 c24
            exact B58 _ (hk17) _ (ih) _ _ _ _ _ _ _ _ hH hS (lv_sub hl [0, 1, 2, 3, 4, 5, 6, 7] rfl) hf
          · have hf := hg.1 c24
            refine lv_iconst (v := 1) hx hb dX2_picksOf_54 (by decide) ?_
            refine lv_goto (tgt := 59) hx hb dX2_picksOf_55 (by decide) ?_
            exact B59 _ (hk17) _ (ih) _ _ _ _ _ _ _ _ _ hH hS (lv_sub hl [0, 1, 2, 3, 4, 5, 6, 7] rfl) hf
  have B17 : ∀ n : Nat, ∀ (g : GM) (x4 : Int32) (x5 : Int32) (x6 : Int32) (H : Heap) (locs : List Loc) (ls : Array Slot), HR w K g S H → va_S (FR w) s.heap H locs → lv_has ls 9 [(0, .ref a), (1, .ref p0), (2, .int p1), (3, .int p2), (4, .int x4), (5, .int x5), (6, .int x6)] → f2_picksOf_17 K a p0 p1 p2 n g x4 x5 x6 = some out → W p l e ({ frames := 11, cells := 0, slots := 0, locals := 415 } : Room) s m args below meth c H locs 0 0 (MQ below (QI w K out.1 S out.2) args s 0 0 (FR w)) (F0 m 17 ls []) := by
    intro n
    induction n with
    | zero =>
      intro g x4 x5 x6 H locs ls hH hS hl hf
      cases hf
    | succ n ih =>
      intro g x4 x5 x6 H locs ls hH hS hl hf
      rw [f2_picksOf_17] at hf
      refine lv_iload hx hb dX2_picksOf_17 (lv_at hl 6 rfl) ?_
      refine lv_bipush (v := 10) hx hb dX2_picksOf_19 (by decide) ?_
      have hg := gif hf
      refine lv_icmp_ge (tgt := 112) hx hb dX2_picksOf_21 (by decide) (fun c25 => ?_) (fun c25 => ?_)
      · have hf := hg.1 c25
        refine lv_aload_n hx hb dX2_picksOf_112 rfl (lv_at hl 0 rfl) ?_
        have k26 : K.1 (a + 2) = (10, 60) := hH.sub hk0 1 (t := (2, 10, 60)) rfl
        refine e_2_1 hx hb hts hown hK hH hk0 (hts _ wd_96) dX2_picksOf_113 ?_
        refine lv_iload_n hx hb dX2_picksOf_116 rfl (lv_at hl 2 rfl) ?_
        refine lv_bipush (v := 6) hx hb dX2_picksOf_117 (by decide) ?_
        refine lv_imul hx hb dX2_picksOf_119 ?_
        obtain ⟨h28, hf⟩ := gd_some hf
        refine g_iald hx hb hK hH k26 h28 dX2_picksOf_120 ?_
        have ho := Option.some.inj hf
        exact W.iret (v := (gI g (a + 2) (p1 * 6).toNatClampNeg)) hx hb hr (fun t ht hW => ⟨⟨(gI g (a + 2) (p1 * 6).toNatClampNeg), (), rfl, congrArg Prod.snd ho, hrP ht ho hH⟩, hS.F ht⟩) hS.2.2 dX2_picksOf_121
      · have hf := hg.2 c25
        refine lv_iconst (v := 0) hx hb dX2_picksOf_24 (by decide) ?_
        refine lv_istore (lv' := [(7, .int 0), (0, .ref a), (1, .ref p0), (2, .int p1), (3, .int p2), (4, .int x4), (5, .int x5), (6, .int x6)]) hx hb dX2_picksOf_25 hl (by decide) rfl (fun ls hl => ?_)
        exact B27 _ (ih) _ _ _ _ _ _ _ _ _ hH hS (lv_sub hl [1, 2, 3, 4, 5, 6, 7, 0] rfl) hf
  have hl : lv_has ls 9 [(0, .ref a), (1, .ref p0), (2, .int p1), (3, .int p2)] := hl
  refine lv_aload_n hx hb dX2_picksOf_0 rfl (lv_at hl 1 rfl) ?_
  refine lv_iload_n hx hb dX2_picksOf_1 rfl (lv_at hl 2 rfl) ?_
  obtain ⟨v29, h30, hf⟩ := gbind hf
  refine g_Si (As := [.ref p0, .int p1]) (rest := []) ⟨hx, hb, hml, hown, hts⟩ (c2_reachedFrom l w K g S p0 p1 v29 h30) (gcwS hts i2_reachedFrom wd_732 rfl rfl ⟨Nat.le_of_ble_eq_true rfl, Nat.le_of_ble_eq_true rfl⟩) hH hK hS hl.1 rfl rfl (Nat.le_of_ble_eq_true rfl) dX2_picksOf_2 ⟨Nat.le_refl _, Nat.le_refl _⟩ (fun H locs hH hS => ?_)
  refine lv_iconst (v := 1) hx hb dX2_picksOf_5 (by decide) ?_
  refine lv_iload_n hx hb dX2_picksOf_6 rfl (lv_at hl 2 rfl) ?_
  refine lv_ishl hx hb dX2_picksOf_7 ?_
  refine lv_ior hx hb dX2_picksOf_8 ?_
  refine lv_topi (fun v31 ev31 => ?_)
  have hf := gl_at hf ev31
  refine lv_istore (lv' := [(4, .int v31), (0, .ref a), (1, .ref p0), (2, .int p1), (3, .int p2)]) hx hb dX2_picksOf_9 hl (by decide) rfl (fun ls hl => ?_)
  refine lv_iconst (v := 0) hx hb dX2_picksOf_11 (by decide) ?_
  refine lv_istore (lv' := [(5, .int 0), (4, .int v31), (0, .ref a), (1, .ref p0), (2, .int p1), (3, .int p2)]) hx hb dX2_picksOf_12 hl (by decide) rfl (fun ls hl => ?_)
  refine lv_iconst (v := 0) hx hb dX2_picksOf_14 (by decide) ?_
  refine lv_istore (lv' := [(6, .int 0), (5, .int 0), (4, .int v31), (0, .ref a), (1, .ref p0), (2, .int p1), (3, .int p2)]) hx hb dX2_picksOf_15 hl (by decide) rfl (fun ls hl => ?_)
  exact B17 _ _ _ _ _ _ _ _ hH hS (lv_sub hl [3, 4, 5, 6, 2, 1, 0] rfl) hf
set_option maxRecDepth 100000 in
set_option maxHeartbeats 8000000 in
theorem c2_written (l : Launch) (w : GW) (K : GK) (g : GM) (S : GS) (p0 : Nat) (out : Int32) (hf : f2_written K g p0 = some out) : Met l yX2_written (wA yX2_written cX2_written 3 (some .int)) ({ frames := 0, cells := 0, slots := 0, locals := 0 } : Room) (PRE w K g S [.ref p0]) (QI w K g S out) 0 0 (FR w) := by
  unfold f2_written at hf
  refine Met.ofW (cc := cX2_written) (maxL := 3) (ret := (some .int)) (by decide) rfl ?_
  intro p e s m args below meth c s₁ B hml hv
  obtain ⟨rfl, hH, hK⟩ := hv
  have hx := B.exec
  have hb := B.bytes
  have hr := B.returns
  have hts : ∀ q ∈ gALL, q.before _ s = true := fun q h => atoms_spec (ws := (wA yX2_written cX2_written 3 (some .int))) B.pre q (List.mem_cons_of_mem _ h)
  have hown : s.vm.findClass RX2 = some m.cls := findClass_of_methodNamed B.named
  have hlocks := B.notSynchronized
  have hS : va_S (FR w) s.heap s.heap [] := va_S.rf
  show W p l e ({ frames := 0, cells := 0, slots := 0, locals := 0 } : Room) s m _ below meth c s.heap [] 0 0 (MQ below (QI w K g S out) _ s 0 0 (FR w)) _
  have hl := lv_entry ([.ref p0]) (n := 3) (Nat.le_of_ble_eq_true rfl)
  rw [lg_entry_eq]
  generalize (lg_sl ([.ref p0]) ++ List.replicate (3 - (lg_sl ([.ref p0])).length) Slot.unset).toArray = ls at hl ⊢
  clear B
  generalize ([.ref p0] : List Value).toArray = args at hts ⊢
  have B22 : ∀ (k4 : Int32 → Int32 → Option (Int32)), (∀ (x1 : Int32) (x2 : Int32) (H : Heap) (locs : List Loc) (ls : Array Slot), HR w K g S H → va_S (FR w) s.heap H locs → lv_has ls 3 [(0, .ref p0), (1, .int x1), (2, .int x2)] → k4 x1 x2 = some out → W p l e ({ frames := 0, cells := 0, slots := 0, locals := 0 } : Room) s m args below meth c H locs 0 0 (MQ below (QI w K g S out) args s 0 0 (FR w)) (F0 m 4 ls [])) → ∀ (x1 : Int32) (x2 : Int32) (H : Heap) (locs : List Loc) (ls : Array Slot), HR w K g S H → va_S (FR w) s.heap H locs → lv_has ls 3 [(0, .ref p0), (1, .int x1), (2, .int x2)] → f2_written_22 k4 K g p0 x1 x2 = some out → W p l e ({ frames := 0, cells := 0, slots := 0, locals := 0 } : Room) s m args below meth c H locs 0 0 (MQ below (QI w K g S out) args s 0 0 (FR w)) (F0 m 22 ls []) := by
    intro k4 hk4 x1 x2 H locs ls hH hS hl hf
    unfold f2_written_22 at hf
    obtain ⟨v1, ev1⟩ : ∃ z : Int32, z = x2 + 1 := ⟨_, rfl⟩
    have hf := gl_at hf ev1
    refine lv_iinc (v := v1) (lv' := [(2, .int v1), (0, .ref p0), (1, .int x1)]) hx hb dX2_written_22 hl (k := 2) rfl (by rw [ev1]; rfl) (by decide) rfl (fun ls hl => ?_)
    refine lv_goto (tgt := 4) hx hb dX2_written_25 (by decide) ?_
    exact hk4 _ _ _ _ _ hH hS (lv_sub hl [1, 2, 0] rfl) hf
  have B4 : ∀ n : Nat, ∀ (x1 : Int32) (x2 : Int32) (H : Heap) (locs : List Loc) (ls : Array Slot), HR w K g S H → va_S (FR w) s.heap H locs → lv_has ls 3 [(0, .ref p0), (1, .int x1), (2, .int x2)] → f2_written_4 K g p0 n x1 x2 = some out → W p l e ({ frames := 0, cells := 0, slots := 0, locals := 0 } : Room) s m args below meth c H locs 0 0 (MQ below (QI w K g S out) args s 0 0 (FR w)) (F0 m 4 ls []) := by
    intro n
    induction n with
    | zero =>
      intro x1 x2 H locs ls hH hS hl hf
      cases hf
    | succ n ih =>
      intro x1 x2 H locs ls hH hS hl hf
      rw [f2_written_4] at hf
      refine lv_iload_n hx hb dX2_written_4 rfl (lv_at hl 2 rfl) ?_
      refine lv_bipush (v := 10) hx hb dX2_written_5 (by decide) ?_
      have hg := gif hf
      refine lv_icmp_ge (tgt := 28) hx hb dX2_written_7 (by decide) (fun c2 => ?_) (fun c2 => ?_)
      · have hf := hg.1 c2
        refine lv_iload_n hx hb dX2_written_28 rfl (lv_at hl 1 rfl) ?_
        have ho := Option.some.inj hf
        exact W.iret (v := x1) hx hb hr (fun t ht hW => ⟨⟨x1, (), rfl, ho, hrE ht hH⟩, hS.F ht⟩) hS.2.2 dX2_written_29
      · have hf := hg.2 c2
        refine lv_aload_n hx hb dX2_written_10 rfl (lv_at hl 0 rfl) ?_
        refine lv_iload_n hx hb dX2_written_11 rfl (lv_at hl 2 rfl) ?_
        obtain ⟨k4, hf⟩ := gd_some hf
        have k4 := gk_arr k4
        obtain ⟨h5, hf⟩ := gd_some hf
        refine g_tald hx hb hK hH k4 h5 dX2_written_12 ?_
        rcases gopt_c hf with ⟨q7, hf⟩ | ⟨t6, q7, hf⟩
        · refine g_rfN q7 ?_
          refine lv_ifnullN (tgt := 22) hx hb dX2_written_13 (by decide) ?_
          exact B22 _ (ih) _ _ _ _ _ hH hS (lv_sub hl [0, 1, 2] rfl) hf
        · refine g_rfS q7 ?_
          refine lv_ifnull hx hb dX2_written_13 ?_
          refine lv_iload_n hx hb dX2_written_16 rfl (lv_at hl 1 rfl) ?_
          refine lv_iconst (v := 1) hx hb dX2_written_17 (by decide) ?_
          refine lv_iload_n hx hb dX2_written_18 rfl (lv_at hl 2 rfl) ?_
          refine lv_ishl hx hb dX2_written_19 ?_
          refine lv_ior hx hb dX2_written_20 ?_
          refine lv_topi (fun v8 ev8 => ?_)
          have hf := gl_at hf ev8
          refine lv_istore_n (lv' := [(1, .int v8), (0, .ref p0), (2, .int x2)]) hx hb dX2_written_21 rfl hl (by decide) rfl (fun ls hl => ?_)
          exact B22 _ (ih) _ _ _ _ _ hH hS (lv_sub hl [1, 0, 2] rfl) hf
  have hl : lv_has ls 3 [(0, .ref p0)] := hl
  refine lv_iconst (v := 0) hx hb dX2_written_0 (by decide) ?_
  refine lv_istore_n (lv' := [(1, .int 0), (0, .ref p0)]) hx hb dX2_written_1 rfl hl (by decide) rfl (fun ls hl => ?_)
  refine lv_iconst (v := 0) hx hb dX2_written_2 (by decide) ?_
  refine lv_istore_n (lv' := [(2, .int 0), (1, .int 0), (0, .ref p0)]) hx hb dX2_written_3 rfl hl (by decide) rfl (fun ls hl => ?_)
  exact B4 _ _ _ _ _ _ hH hS (lv_sub hl [2, 1, 0] rfl) hf
set_option maxRecDepth 100000 in
set_option maxHeartbeats 8000000 in
theorem c2_troubleOf (l : Launch) (w : GW) (K : GK) (g : GM) (S : GS) (p0 : Nat) (p1 : Int32) (out : Int32) (hf : f2_troubleOf K g p0 p1 = some out) : Met l yX2_troubleOf (wA yX2_troubleOf cX2_troubleOf 4 (some .int)) ({ frames := 2, cells := 0, slots := 0, locals := 45 } : Room) (PRE w K g S [.ref p0, .int p1]) (QI w K g S out) 0 0 (FR w) := by
  unfold f2_troubleOf at hf
  refine Met.ofW (cc := cX2_troubleOf) (maxL := 4) (ret := (some .int)) (by decide) rfl ?_
  intro p e s m args below meth c s₁ B hml hv
  obtain ⟨rfl, hH, hK⟩ := hv
  have hx := B.exec
  have hb := B.bytes
  have hr := B.returns
  have hts : ∀ q ∈ gALL, q.before _ s = true := fun q h => atoms_spec (ws := (wA yX2_troubleOf cX2_troubleOf 4 (some .int))) B.pre q (List.mem_cons_of_mem _ h)
  have hown : s.vm.findClass RX2 = some m.cls := findClass_of_methodNamed B.named
  have hlocks := B.notSynchronized
  have hS : va_S (FR w) s.heap s.heap [] := va_S.rf
  show W p l e ({ frames := 2, cells := 0, slots := 0, locals := 45 } : Room) s m _ below meth c s.heap [] 0 0 (MQ below (QI w K g S out) _ s 0 0 (FR w)) _
  have hl := lv_entry ([.ref p0, .int p1]) (n := 4) (Nat.le_of_ble_eq_true rfl)
  rw [lg_entry_eq]
  generalize (lg_sl ([.ref p0, .int p1]) ++ List.replicate (4 - (lg_sl ([.ref p0, .int p1])).length) Slot.unset).toArray = ls at hl ⊢
  clear B
  generalize ([.ref p0, .int p1] : List Value).toArray = args at hts ⊢
  have B55 : ∀ (k26 : Int32 → Int32 → Option (Int32)), (∀ (x2 : Int32) (x3 : Int32) (H : Heap) (locs : List Loc) (ls : Array Slot), HR w K g S H → va_S (FR w) s.heap H locs → lv_has ls 4 [(0, .ref p0), (2, .int x2), (3, .int x3)] → k26 x2 x3 = some out → W p l e ({ frames := 2, cells := 0, slots := 0, locals := 45 } : Room) s m args below meth c H locs 0 0 (MQ below (QI w K g S out) args s 0 0 (FR w)) (F0 m 26 ls [])) → ∀ (x2 : Int32) (x3 : Int32) (H : Heap) (locs : List Loc) (ls : Array Slot), HR w K g S H → va_S (FR w) s.heap H locs → lv_has ls 4 [(0, .ref p0), (2, .int x2), (3, .int x3)] → f2_troubleOf_55 k26 K g p0 p1 x2 x3 = some out → W p l e ({ frames := 2, cells := 0, slots := 0, locals := 45 } : Room) s m args below meth c H locs 0 0 (MQ below (QI w K g S out) args s 0 0 (FR w)) (F0 m 55 ls []) := by
    intro k26 hk26 x2 x3 H locs ls hH hS hl hf
    unfold f2_troubleOf_55 at hf
    obtain ⟨v1, ev1⟩ : ∃ z : Int32, z = x3 + 1 := ⟨_, rfl⟩
    have hf := gl_at hf ev1
    refine lv_iinc (v := v1) (lv' := [(3, .int v1), (0, .ref p0), (2, .int x2)]) hx hb dX2_troubleOf_55 hl (k := 2) rfl (by rw [ev1]; rfl) (by decide) rfl (fun ls hl => ?_)
    refine lv_goto (tgt := 26) hx hb dX2_troubleOf_58 (by decide) ?_
    exact hk26 _ _ _ _ _ hH hS (lv_sub hl [1, 2, 0] rfl) hf
  have B26 : ∀ n : Nat, ∀ (x2 : Int32) (x3 : Int32) (H : Heap) (locs : List Loc) (ls : Array Slot), HR w K g S H → va_S (FR w) s.heap H locs → lv_has ls 4 [(0, .ref p0), (2, .int x2), (3, .int x3)] → f2_troubleOf_26 K g p0 p1 n x2 x3 = some out → W p l e ({ frames := 2, cells := 0, slots := 0, locals := 45 } : Room) s m args below meth c H locs 0 0 (MQ below (QI w K g S out) args s 0 0 (FR w)) (F0 m 26 ls []) := by
    intro n
    induction n with
    | zero =>
      intro x2 x3 H locs ls hH hS hl hf
      cases hf
    | succ n ih =>
      intro x2 x3 H locs ls hH hS hl hf
      rw [f2_troubleOf_26] at hf
      refine lv_iload_n hx hb dX2_troubleOf_26 rfl (lv_at hl 2 rfl) ?_
      refine lv_bipush (v := 10) hx hb dX2_troubleOf_27 (by decide) ?_
      have hg := gif hf
      refine lv_icmp_ge (tgt := 61) hx hb dX2_troubleOf_29 (by decide) (fun c2 => ?_) (fun c2 => ?_)
      · have hf := hg.1 c2
        refine lv_iconst (v := 0) hx hb dX2_troubleOf_61 (by decide) ?_
        have ho := Option.some.inj hf
        exact W.iret (v := 0) hx hb hr (fun t ht hW => ⟨⟨0, (), rfl, ho, hrE ht hH⟩, hS.F ht⟩) hS.2.2 dX2_troubleOf_62
      · have hf := hg.2 c2
        refine lv_iload_n hx hb dX2_troubleOf_32 rfl (lv_at hl 1 rfl) ?_
        refine lv_iload_n hx hb dX2_troubleOf_33 rfl (lv_at hl 2 rfl) ?_
        obtain ⟨v3, h4, hf⟩ := gbind hf
        refine g_Si (As := [.int x2, .int x3]) (rest := []) ⟨hx, hb, hml, hown, hts⟩ (c2_holds l w K g S x2 x3 v3 h4) (gcwS hts i2_holds wd_311 rfl rfl ⟨Nat.le_of_ble_eq_true rfl, Nat.le_of_ble_eq_true rfl⟩) hH hK hS hl.1 rfl rfl (Nat.le_of_ble_eq_true rfl) dX2_troubleOf_34 ⟨Nat.le_refl _, Nat.le_refl _⟩ (fun H locs hH hS => ?_)
        have hg := gif hf
        refine lv_if_eq (tgt := 55) hx hb dX2_troubleOf_37 (by decide) (fun c5 => ?_) (fun c5 => ?_)
        · have hf := hg.1 c5
          exact B55 _ (ih) _ _ _ _ _ hH hS (lv_sub hl [0, 1, 2] rfl) hf
        · have hf := hg.2 c5
          refine lv_aload_n hx hb dX2_troubleOf_40 rfl (lv_at hl 0 rfl) ?_
          refine lv_iload_n hx hb dX2_troubleOf_41 rfl (lv_at hl 2 rfl) ?_
          obtain ⟨v6, h7, hf⟩ := gbind hf
          refine g_Si (As := [.ref p0, .int x3]) (rest := []) ⟨hx, hb, hml, hown, hts⟩ (c2_reachedFrom l w K g S p0 x3 v6 h7) (gcwS hts i2_reachedFrom wd_732 rfl rfl ⟨Nat.le_of_ble_eq_true rfl, Nat.le_of_ble_eq_true rfl⟩) hH hK hS hl.1 rfl rfl (Nat.le_of_ble_eq_true rfl) dX2_troubleOf_42 ⟨Nat.le_refl _, Nat.le_refl _⟩ (fun H locs hH hS => ?_)
          refine lv_iload_n hx hb dX2_troubleOf_45 rfl (lv_at hl 2 rfl) ?_
          obtain ⟨v8, h9, hf⟩ := gbind hf
          refine g_Si (As := [.int v6, .int x3]) (rest := []) ⟨hx, hb, hml, hown, hts⟩ (c2_holds l w K g S v6 x3 v8 h9) (gcwS hts i2_holds wd_311 rfl rfl ⟨Nat.le_of_ble_eq_true rfl, Nat.le_of_ble_eq_true rfl⟩) hH hK hS hl.1 rfl rfl (Nat.le_of_ble_eq_true rfl) dX2_troubleOf_46 ⟨Nat.le_refl _, Nat.le_refl _⟩ (fun H locs hH hS => ?_)
          have hg := gif hf
          refine lv_if_eq (tgt := 55) hx hb dX2_troubleOf_49 (by decide) (fun c10 => ?_) (fun c10 => ?_)
          · have hf := hg.1 c10
            exact B55 _ (ih) _ _ _ _ _ hH hS (lv_sub hl [0, 1, 2] rfl) hf
          · have hf := hg.2 c10
            refine lv_bipush (v := (-6)) hx hb dX2_troubleOf_52 (by decide) ?_
            have ho := Option.some.inj hf
            exact W.iret (v := (-6)) hx hb hr (fun t ht hW => ⟨⟨(-6), (), rfl, ho, hrE ht hH⟩, hS.F ht⟩) hS.2.2 dX2_troubleOf_54
  have hl : lv_has ls 4 [(0, .ref p0), (1, .int p1)] := hl
  refine lv_aload_n hx hb dX2_troubleOf_0 rfl (lv_at hl 0 rfl) ?_
  refine lv_iload_n hx hb dX2_troubleOf_1 rfl (lv_at hl 1 rfl) ?_
  obtain ⟨v11, h12, hf⟩ := gbind hf
  refine g_Si (As := [.ref p0, .int p1]) (rest := []) ⟨hx, hb, hml, hown, hts⟩ (c2_reachedFrom l w K g S p0 p1 v11 h12) (gcwS hts i2_reachedFrom wd_732 rfl rfl ⟨Nat.le_of_ble_eq_true rfl, Nat.le_of_ble_eq_true rfl⟩) hH hK hS hl.1 rfl rfl (Nat.le_of_ble_eq_true rfl) dX2_troubleOf_2 ⟨Nat.le_refl _, Nat.le_refl _⟩ (fun H locs hH hS => ?_)
  refine lv_iconst (v := 1) hx hb dX2_troubleOf_5 (by decide) ?_
  refine lv_iload_n hx hb dX2_troubleOf_6 rfl (lv_at hl 1 rfl) ?_
  refine lv_ishl hx hb dX2_troubleOf_7 ?_
  refine lv_ior hx hb dX2_troubleOf_8 ?_
  refine lv_topi (fun v13 ev13 => ?_)
  have hf := gl_at hf ev13
  refine lv_istore_n (lv' := [(2, .int v13), (0, .ref p0), (1, .int p1)]) hx hb dX2_troubleOf_9 rfl hl (by decide) rfl (fun ls hl => ?_)
  refine lv_iload_n hx hb dX2_troubleOf_10 rfl (lv_at hl 0 rfl) ?_
  refine lv_aload_n hx hb dX2_troubleOf_11 rfl (lv_at hl 1 rfl) ?_
  obtain ⟨v14, h15, hf⟩ := gbind hf
  refine g_Si (As := [.ref p0]) (rest := [.int v13]) ⟨hx, hb, hml, hown, hts⟩ (c2_written l w K g S p0 v14 h15) (gcwS hts i2_written wd_735 rfl rfl ⟨Nat.le_of_ble_eq_true rfl, Nat.le_of_ble_eq_true rfl⟩) hH hK hS hl.1 rfl rfl (Nat.le_of_ble_eq_true rfl) dX2_troubleOf_12 ⟨Nat.le_refl _, Nat.le_refl _⟩ (fun H locs hH hS => ?_)
  refine lv_iconst (v := (-1)) hx hb dX2_troubleOf_15 (by decide) ?_
  refine lv_ixor hx hb dX2_troubleOf_16 ?_
  refine lv_iand hx hb dX2_troubleOf_17 ?_
  have hg := gif hf
  refine lv_if_eq (tgt := 24) hx hb dX2_troubleOf_18 (by decide) (fun c16 => ?_) (fun c16 => ?_)
  · have hf := hg.1 c16
    refine lv_iconst (v := 0) hx hb dX2_troubleOf_24 (by decide) ?_
    refine lv_istore_n (lv' := [(3, .int 0), (2, .int v13), (0, .ref p0), (1, .int p1)]) hx hb dX2_troubleOf_25 rfl hl (by decide) rfl (fun ls hl => ?_)
    exact B26 _ _ _ _ _ _ hH hS (lv_sub hl [2, 1, 0] rfl) hf
  · have hf := hg.2 c16
    refine lv_bipush (v := (-5)) hx hb dX2_troubleOf_21 (by decide) ?_
    have ho := Option.some.inj hf
    exact W.iret (v := (-5)) hx hb hr (fun t ht hW => ⟨⟨(-5), (), rfl, ho, hrE ht hH⟩, hS.F ht⟩) hS.2.2 dX2_troubleOf_23
set_option maxRecDepth 100000 in
set_option maxHeartbeats 8000000 in
theorem c3_dropOldest (l : Launch) (w : GW) (K : GK) (g : GM) (S : GS) (a : Nat) (out : GM) (hf : f3_dropOldest K g a = some out) (hk0 : gkd K a = 4) : Met l yX3_dropOldest (wA yX3_dropOldest cX3_dropOldest 3 none) ({ frames := 0, cells := 0, slots := 0, locals := 0 } : Room) (PRE w K g S [.ref a]) (QV w K out S) 0 0 (FR w) := by
  unfold f3_dropOldest at hf
  refine Met.ofW (cc := cX3_dropOldest) (maxL := 3) (ret := none) (by decide) rfl ?_
  intro p e s m args below meth c s₁ B hml hv
  obtain ⟨rfl, hH, hK⟩ := hv
  have hx := B.exec
  have hb := B.bytes
  have hr := B.returns
  have hts : ∀ q ∈ gALL, q.before _ s = true := fun q h => atoms_spec (ws := (wA yX3_dropOldest cX3_dropOldest 3 none)) B.pre q (List.mem_cons_of_mem _ h)
  have hown : s.vm.findClass RX3 = some m.cls := findClass_of_methodNamed B.named
  have hlocks := B.notSynchronized
  have hS : va_S (FR w) s.heap s.heap [] := va_S.rf
  show W p l e ({ frames := 0, cells := 0, slots := 0, locals := 0 } : Room) s m _ below meth c s.heap [] 0 0 (MQ below (QV w K out S) _ s 0 0 (FR w)) _
  have hl := lv_entry ([.ref a]) (n := 3) (Nat.le_of_ble_eq_true rfl)
  rw [lg_entry_eq]
  generalize (lg_sl ([.ref a]) ++ List.replicate (3 - (lg_sl ([.ref a])).length) Slot.unset).toArray = ls at hl ⊢
  clear B
  generalize ([.ref a] : List Value).toArray = args at hts ⊢
  have B9 : ∀ n : Nat, ∀ (g : GM) (x1 : Nat) (x2 : Int32) (H : Heap) (locs : List Loc) (ls : Array Slot), HR w K g S H → va_S (FR w) s.heap H locs → lv_has ls 3 [(0, .ref a), (1, .ref x1), (2, .int x2)] → f3_dropOldest_9 K a n g x1 x2 = some out → W p l e ({ frames := 0, cells := 0, slots := 0, locals := 0 } : Room) s m args below meth c H locs 0 0 (MQ below (QV w K out S) args s 0 0 (FR w)) (F0 m 9 ls []) := by
    intro n
    induction n with
    | zero =>
      intro g x1 x2 H locs ls hH hS hl hf
      cases hf
    | succ n ih =>
      intro g x1 x2 H locs ls hH hS hl hf
      rw [f3_dropOldest_9] at hf
      refine lv_iload_n hx hb dX3_dropOldest_9 rfl (lv_at hl 2 rfl) ?_
      refine lv_bipush (v := 6) hx hb dX3_dropOldest_10 (by decide) ?_
      have hg := gif hf
      refine lv_icmp_ge (tgt := 35) hx hb dX3_dropOldest_12 (by decide) (fun c1 => ?_) (fun c1 => ?_)
      · have hf := hg.1 c1
        refine lv_aload_n hx hb dX3_dropOldest_35 rfl (lv_at hl 0 rfl) ?_
        have k2 : K.1 (a + 1) = (14, 6) := hH.sub hk0 0 (t := (1, 14, 6)) rfl
        refine e_3_0 hx hb hts hown hK hH hk0 (hts _ wd_89) dX3_dropOldest_36 ?_
        refine lv_iconst (v := 5) hx hb dX3_dropOldest_39 (by decide) ?_
        refine lv_aload_n hx hb dX3_dropOldest_40 rfl (lv_at hl 1 rfl) ?_
        obtain ⟨k4, hf⟩ := gd_some hf
        have k4 := gk_obj k4
        obtain ⟨h5, hf⟩ := gd_some hf
        refine g_last hx hb hK hH hS k2 k4 h5 dX3_dropOldest_41 (fun H locs hH hS => ?_)
        obtain ⟨g6, eg6⟩ : ∃ z : GM, z = gsR g (a + 1) (5 : Int32).toNatClampNeg (some x1) := ⟨_, rfl⟩
        have hf := gl_at hf eg6
        replace hH : HR w K g6 S H := by rw [eg6]; exact hH
        refine lv_aload_n hx hb dX3_dropOldest_42 rfl (lv_at hl 0 rfl) ?_
        refine lv_iconst (v := 5) hx hb dX3_dropOldest_43 (by decide) ?_
        refine p_3_1 hx hb hts hown hK hH hS hk0 (hts _ wd_90) dX3_dropOldest_44 (fun H locs hH hS => ?_)
        obtain ⟨g7, eg7⟩ : ∃ z : GM, z = gsI g6 a 1 5 := ⟨_, rfl⟩
        have hf := gl_at hf eg7
        replace hH : HR w K g7 S H := by rw [eg7]; exact hH
        have ho := Option.some.inj hf
        exact W.vret hx hb hr (fun t ht hW => ⟨⟨(), rfl, trivial, hrV ht ho hH⟩, hS.F ht⟩) hS.2.2 dX3_dropOldest_47
      · have hf := hg.2 c1
        refine lv_aload_n hx hb dX3_dropOldest_15 rfl (lv_at hl 0 rfl) ?_
        have k8 : K.1 (a + 1) = (14, 6) := hH.sub hk0 0 (t := (1, 14, 6)) rfl
        refine e_3_0 hx hb hts hown hK hH hk0 (hts _ wd_89) dX3_dropOldest_16 ?_
        refine lv_iload_n hx hb dX3_dropOldest_19 rfl (lv_at hl 2 rfl) ?_
        refine lv_iconst (v := 1) hx hb dX3_dropOldest_20 (by decide) ?_
        refine lv_isub hx hb dX3_dropOldest_21 ?_
        refine lv_aload_n hx hb dX3_dropOldest_22 rfl (lv_at hl 0 rfl) ?_
        refine e_3_0 hx hb hts hown hK hH hk0 (hts _ wd_89) dX3_dropOldest_23 ?_
        refine lv_iload_n hx hb dX3_dropOldest_26 rfl (lv_at hl 2 rfl) ?_
        obtain ⟨h10, hf⟩ := gd_some hf
        refine g_lald hx hb hK hH k8 h10 dX3_dropOldest_27 ?_
        rcases gopt_c hf with ⟨q12, hf⟩ | ⟨t11, q12, hf⟩
        · cases hf
        · refine g_rfS q12 ?_
          obtain ⟨k14, hf⟩ := gd_some hf
          have k14 := gk_obj k14
          obtain ⟨h15, hf⟩ := gd_some hf
          refine g_last hx hb hK hH hS k8 k14 h15 dX3_dropOldest_28 (fun H locs hH hS => ?_)
          obtain ⟨g16, eg16⟩ : ∃ z : GM, z = gsR g (a + 1) (x2 - 1).toNatClampNeg (some t11) := ⟨_, rfl⟩
          have hf := gl_at hf eg16
          replace hH : HR w K g16 S H := by rw [eg16]; exact hH
          obtain ⟨v17, ev17⟩ : ∃ z : Int32, z = x2 + 1 := ⟨_, rfl⟩
          have hf := gl_at hf ev17
          refine lv_iinc (v := v17) (lv' := [(2, .int v17), (0, .ref a), (1, .ref x1)]) hx hb dX3_dropOldest_29 hl (k := 2) rfl (by rw [ev17]; rfl) (by decide) rfl (fun ls hl => ?_)
          refine lv_goto (tgt := 9) hx hb dX3_dropOldest_32 (by decide) ?_
          exact ih _ _ _ _ _ _ hH hS (lv_sub hl [1, 2, 0] rfl) hf
  have hl : lv_has ls 3 [(0, .ref a)] := hl
  refine lv_aload_n hx hb dX3_dropOldest_0 rfl (lv_at hl 0 rfl) ?_
  have k18 : K.1 (a + 1) = (14, 6) := hH.sub hk0 0 (t := (1, 14, 6)) rfl
  refine e_3_0 hx hb hts hown hK hH hk0 (hts _ wd_89) dX3_dropOldest_1 ?_
  refine lv_iconst (v := 0) hx hb dX3_dropOldest_4 (by decide) ?_
  obtain ⟨h20, hf⟩ := gd_some hf
  refine g_lald hx hb hK hH k18 h20 dX3_dropOldest_5 ?_
  rcases gopt_c hf with ⟨q22, hf⟩ | ⟨t21, q22, hf⟩
  · cases hf
  · refine g_rfS q22 ?_
    refine lv_astore_n (lv' := [(1, .ref t21), (0, .ref a)]) hx hb dX3_dropOldest_6 rfl hl (by decide) rfl (fun ls hl => ?_)
    refine lv_iconst (v := 1) hx hb dX3_dropOldest_7 (by decide) ?_
    refine lv_istore_n (lv' := [(2, .int 1), (1, .ref t21), (0, .ref a)]) hx hb dX3_dropOldest_8 rfl hl (by decide) rfl (fun ls hl => ?_)
    exact B9 _ _ _ _ _ _ _ hH hS (lv_sub hl [2, 1, 0] rfl) hf
set_option maxRecDepth 100000 in
set_option maxHeartbeats 8000000 in
theorem c4_copyFrom (l : Launch) (w : GW) (K : GK) (g : GM) (S : GS) (a : Nat) (p0 : Nat) (out : GM) (hf : f4_copyFrom K g a p0 = some out) (hk0 : gkd K a = 5) : Met l yX4_copyFrom (wA yX4_copyFrom cX4_copyFrom 2 none) ({ frames := 3, cells := 0, slots := 0, locals := 102 } : Room) (PRE w K g S [.ref a, .ref p0]) (QV w K out S) 0 0 (FR w) := by
  unfold f4_copyFrom at hf
  refine Met.ofW (cc := cX4_copyFrom) (maxL := 2) (ret := none) (by decide) rfl ?_
  intro p e s m args below meth c s₁ B hml hv
  obtain ⟨rfl, hH, hK⟩ := hv
  have hx := B.exec
  have hb := B.bytes
  have hr := B.returns
  have hts : ∀ q ∈ gALL, q.before _ s = true := fun q h => atoms_spec (ws := (wA yX4_copyFrom cX4_copyFrom 2 none)) B.pre q (List.mem_cons_of_mem _ h)
  have hown : s.vm.findClass RX4 = some m.cls := findClass_of_methodNamed B.named
  have hlocks := B.notSynchronized
  have hS : va_S (FR w) s.heap s.heap [] := va_S.rf
  show W p l e ({ frames := 3, cells := 0, slots := 0, locals := 102 } : Room) s m _ below meth c s.heap [] 0 0 (MQ below (QV w K out S) _ s 0 0 (FR w)) _
  have hl := lv_entry ([.ref a, .ref p0]) (n := 2) (Nat.le_of_ble_eq_true rfl)
  rw [lg_entry_eq]
  generalize (lg_sl ([.ref a, .ref p0]) ++ List.replicate (2 - (lg_sl ([.ref a, .ref p0])).length) Slot.unset).toArray = ls at hl ⊢
  clear B
  generalize ([.ref a, .ref p0] : List Value).toArray = args at hts ⊢
  have hl : lv_has ls 2 [(0, .ref a), (1, .ref p0)] := hl
  refine lv_aload_n hx hb dX4_copyFrom_0 rfl (lv_at hl 1 rfl) ?_
  obtain ⟨k1, hf⟩ := gd_some hf
  have k1 := gk_obj k1
  have k2 : K.1 (p0 + 1) = (13, 10) := hH.sub k1 0 (t := (1, 13, 10)) rfl
  refine e_4_0 hx hb hts hown hK hH k1 (hts _ wd_56) dX4_copyFrom_1 ?_
  refine lv_aload_n hx hb dX4_copyFrom_4 rfl (lv_at hl 0 rfl) ?_
  have k3 : K.1 (a + 1) = (13, 10) := hH.sub hk0 0 (t := (1, 13, 10)) rfl
  refine e_4_0 hx hb hts hown hK hH hk0 (hts _ wd_56) dX4_copyFrom_5 ?_
  obtain ⟨g4, h5, hf⟩ := gbind hf
  refine g_SvN (As := [.ref (p0 + 1), .ref (a + 1)]) (rest := []) ⟨hx, hb, hml, hown, hts⟩ (c7_copyTexts l w K g S (p0 + 1) (a + 1) g4 h5) (gcwSN (host := "CallingLooms") hts i7_copyTexts hK (List.mem_of_getElem? (i := 3) rfl) rfl rfl ⟨Nat.le_of_ble_eq_true rfl, Nat.le_of_ble_eq_true rfl⟩) hH hK hS hl.1 rfl rfl (Nat.le_of_ble_eq_true rfl) dX4_copyFrom_8 ⟨Nat.le_refl _, Nat.le_refl _⟩ (fun H locs hH hS => ?_)
  refine lv_aload_n hx hb dX4_copyFrom_11 rfl (lv_at hl 1 rfl) ?_
  have k6 : K.1 (p0 + 2) = (10, 10) := hH.sub k1 1 (t := (2, 10, 10)) rfl
  refine e_4_1 hx hb hts hown hK hH k1 (hts _ wd_57) dX4_copyFrom_12 ?_
  refine lv_aload_n hx hb dX4_copyFrom_15 rfl (lv_at hl 0 rfl) ?_
  have k7 : K.1 (a + 2) = (10, 10) := hH.sub hk0 1 (t := (2, 10, 10)) rfl
  refine e_4_1 hx hb hts hown hK hH hk0 (hts _ wd_57) dX4_copyFrom_16 ?_
  obtain ⟨g8, h9, hf⟩ := gbind hf
  refine g_SvN (As := [.ref (p0 + 2), .ref (a + 2)]) (rest := []) ⟨hx, hb, hml, hown, hts⟩ (c7_copyRow l w K g4 S (p0 + 2) (a + 2) g8 h9) (gcwSN (host := "CallingLooms") hts i7_copyRow hK (List.mem_of_getElem? (i := 4) rfl) rfl rfl ⟨Nat.le_of_ble_eq_true rfl, Nat.le_of_ble_eq_true rfl⟩) hH hK hS hl.1 rfl rfl (Nat.le_of_ble_eq_true rfl) dX4_copyFrom_19 ⟨Nat.le_refl _, Nat.le_refl _⟩ (fun H locs hH hS => ?_)
  refine lv_aload_n hx hb dX4_copyFrom_22 rfl (lv_at hl 1 rfl) ?_
  have k10 : K.1 (p0 + 3) = (10, 3) := hH.sub k1 2 (t := (3, 10, 3)) rfl
  refine e_4_2 hx hb hts hown hK hH k1 (hts _ wd_58) dX4_copyFrom_23 ?_
  refine lv_aload_n hx hb dX4_copyFrom_26 rfl (lv_at hl 0 rfl) ?_
  have k11 : K.1 (a + 3) = (10, 3) := hH.sub hk0 2 (t := (3, 10, 3)) rfl
  refine e_4_2 hx hb hts hown hK hH hk0 (hts _ wd_58) dX4_copyFrom_27 ?_
  obtain ⟨g12, h13, hf⟩ := gbind hf
  refine g_SvN (As := [.ref (p0 + 3), .ref (a + 3)]) (rest := []) ⟨hx, hb, hml, hown, hts⟩ (c7_copyRow l w K g8 S (p0 + 3) (a + 3) g12 h13) (gcwSN (host := "CallingLooms") hts i7_copyRow hK (List.mem_of_getElem? (i := 4) rfl) rfl rfl ⟨Nat.le_of_ble_eq_true rfl, Nat.le_of_ble_eq_true rfl⟩) hH hK hS hl.1 rfl rfl (Nat.le_of_ble_eq_true rfl) dX4_copyFrom_30 ⟨Nat.le_refl _, Nat.le_refl _⟩ (fun H locs hH hS => ?_)
  refine lv_aload_n hx hb dX4_copyFrom_33 rfl (lv_at hl 1 rfl) ?_
  have k14 : K.1 (p0 + 4) = (10, 6) := hH.sub k1 3 (t := (4, 10, 6)) rfl
  refine e_4_3 hx hb hts hown hK hH k1 (hts _ wd_59) dX4_copyFrom_34 ?_
  refine lv_aload_n hx hb dX4_copyFrom_37 rfl (lv_at hl 0 rfl) ?_
  have k15 : K.1 (a + 4) = (10, 6) := hH.sub hk0 3 (t := (4, 10, 6)) rfl
  refine e_4_3 hx hb hts hown hK hH hk0 (hts _ wd_59) dX4_copyFrom_38 ?_
  obtain ⟨g16, h17, hf⟩ := gbind hf
  refine g_SvN (As := [.ref (p0 + 4), .ref (a + 4)]) (rest := []) ⟨hx, hb, hml, hown, hts⟩ (c7_copyRow l w K g12 S (p0 + 4) (a + 4) g16 h17) (gcwSN (host := "CallingLooms") hts i7_copyRow hK (List.mem_of_getElem? (i := 4) rfl) rfl rfl ⟨Nat.le_of_ble_eq_true rfl, Nat.le_of_ble_eq_true rfl⟩) hH hK hS hl.1 rfl rfl (Nat.le_of_ble_eq_true rfl) dX4_copyFrom_41 ⟨Nat.le_refl _, Nat.le_refl _⟩ (fun H locs hH hS => ?_)
  refine lv_aload_n hx hb dX4_copyFrom_44 rfl (lv_at hl 1 rfl) ?_
  have k18 : K.1 (p0 + 5) = (10, 6) := hH.sub k1 4 (t := (5, 10, 6)) rfl
  refine e_4_4 hx hb hts hown hK hH k1 (hts _ wd_60) dX4_copyFrom_45 ?_
  refine lv_aload_n hx hb dX4_copyFrom_48 rfl (lv_at hl 0 rfl) ?_
  have k19 : K.1 (a + 5) = (10, 6) := hH.sub hk0 4 (t := (5, 10, 6)) rfl
  refine e_4_4 hx hb hts hown hK hH hk0 (hts _ wd_60) dX4_copyFrom_49 ?_
  obtain ⟨g20, h21, hf⟩ := gbind hf
  refine g_SvN (As := [.ref (p0 + 5), .ref (a + 5)]) (rest := []) ⟨hx, hb, hml, hown, hts⟩ (c7_copyRow l w K g16 S (p0 + 5) (a + 5) g20 h21) (gcwSN (host := "CallingLooms") hts i7_copyRow hK (List.mem_of_getElem? (i := 4) rfl) rfl rfl ⟨Nat.le_of_ble_eq_true rfl, Nat.le_of_ble_eq_true rfl⟩) hH hK hS hl.1 rfl rfl (Nat.le_of_ble_eq_true rfl) dX4_copyFrom_52 ⟨Nat.le_refl _, Nat.le_refl _⟩ (fun H locs hH hS => ?_)
  refine lv_aload_n hx hb dX4_copyFrom_55 rfl (lv_at hl 1 rfl) ?_
  have k22 : K.1 (p0 + 6) = (10, 6) := hH.sub k1 5 (t := (6, 10, 6)) rfl
  refine e_4_5 hx hb hts hown hK hH k1 (hts _ wd_61) dX4_copyFrom_56 ?_
  refine lv_aload_n hx hb dX4_copyFrom_59 rfl (lv_at hl 0 rfl) ?_
  have k23 : K.1 (a + 6) = (10, 6) := hH.sub hk0 5 (t := (6, 10, 6)) rfl
  refine e_4_5 hx hb hts hown hK hH hk0 (hts _ wd_61) dX4_copyFrom_60 ?_
  obtain ⟨g24, h25, hf⟩ := gbind hf
  refine g_SvN (As := [.ref (p0 + 6), .ref (a + 6)]) (rest := []) ⟨hx, hb, hml, hown, hts⟩ (c7_copyRow l w K g20 S (p0 + 6) (a + 6) g24 h25) (gcwSN (host := "CallingLooms") hts i7_copyRow hK (List.mem_of_getElem? (i := 4) rfl) rfl rfl ⟨Nat.le_of_ble_eq_true rfl, Nat.le_of_ble_eq_true rfl⟩) hH hK hS hl.1 rfl rfl (Nat.le_of_ble_eq_true rfl) dX4_copyFrom_63 ⟨Nat.le_refl _, Nat.le_refl _⟩ (fun H locs hH hS => ?_)
  refine lv_aload_n hx hb dX4_copyFrom_66 rfl (lv_at hl 1 rfl) ?_
  have k26 : K.1 (p0 + 7) = (10, 6) := hH.sub k1 6 (t := (7, 10, 6)) rfl
  refine e_4_6 hx hb hts hown hK hH k1 (hts _ wd_62) dX4_copyFrom_67 ?_
  refine lv_aload_n hx hb dX4_copyFrom_70 rfl (lv_at hl 0 rfl) ?_
  have k27 : K.1 (a + 7) = (10, 6) := hH.sub hk0 6 (t := (7, 10, 6)) rfl
  refine e_4_6 hx hb hts hown hK hH hk0 (hts _ wd_62) dX4_copyFrom_71 ?_
  obtain ⟨g28, h29, hf⟩ := gbind hf
  refine g_SvN (As := [.ref (p0 + 7), .ref (a + 7)]) (rest := []) ⟨hx, hb, hml, hown, hts⟩ (c7_copyRow l w K g24 S (p0 + 7) (a + 7) g28 h29) (gcwSN (host := "CallingLooms") hts i7_copyRow hK (List.mem_of_getElem? (i := 4) rfl) rfl rfl ⟨Nat.le_of_ble_eq_true rfl, Nat.le_of_ble_eq_true rfl⟩) hH hK hS hl.1 rfl rfl (Nat.le_of_ble_eq_true rfl) dX4_copyFrom_74 ⟨Nat.le_refl _, Nat.le_refl _⟩ (fun H locs hH hS => ?_)
  refine lv_aload_n hx hb dX4_copyFrom_77 rfl (lv_at hl 0 rfl) ?_
  refine lv_aload_n hx hb dX4_copyFrom_78 rfl (lv_at hl 1 rfl) ?_
  refine e_4_9 hx hb hts hown hK hH k1 (hts _ wd_69) dX4_copyFrom_79 ?_
  refine lv_sipush (v := 400) hx hb dX4_copyFrom_82 (by decide) ?_
  refine va_mmin hx hb (hml.trans hl.1.symm) hown (hts _ wd_133) (hts _ wd_134) (hts _ wd_135) (hts _ wd_136) (Nat.le_of_ble_eq_true rfl) (Nat.le_of_ble_eq_true rfl) (Nat.le_of_ble_eq_true rfl) (Nat.le_of_ble_eq_true rfl) dX4_copyFrom_85 ?_
  refine p_4_9 hx hb hts hown hK hH hS hk0 (hts _ wd_69) dX4_copyFrom_88 (fun H locs hH hS => ?_)
  obtain ⟨g30, eg30⟩ : ∃ z : GM, z = gsI g28 a 9 (if 400 < (gI g28 p0 9) then 400 else (gI g28 p0 9)) := ⟨_, rfl⟩
  have hf := gl_at hf eg30
  replace hH : HR w K g30 S H := by rw [eg30]; exact hH
  refine lv_aload_n hx hb dX4_copyFrom_91 rfl (lv_at hl 1 rfl) ?_
  have k31 : K.1 (p0 + 8) = (12, 400) := hH.sub k1 7 (t := (8, 12, 400)) rfl
  refine e_4_7 hx hb hts hown hK hH k1 (hts _ wd_64) dX4_copyFrom_92 ?_
  refine lv_iconst (v := 0) hx hb dX4_copyFrom_95 (by decide) ?_
  refine lv_aload_n hx hb dX4_copyFrom_96 rfl (lv_at hl 0 rfl) ?_
  have k32 : K.1 (a + 8) = (12, 400) := hH.sub hk0 7 (t := (8, 12, 400)) rfl
  refine e_4_7 hx hb hts hown hK hH hk0 (hts _ wd_64) dX4_copyFrom_97 ?_
  refine lv_iconst (v := 0) hx hb dX4_copyFrom_100 (by decide) ?_
  refine lv_aload_n hx hb dX4_copyFrom_101 rfl (lv_at hl 0 rfl) ?_
  refine e_4_9 hx hb hts hown hK hH hk0 (hts _ wd_69) dX4_copyFrom_102 ?_
  obtain ⟨h33, hf⟩ := gd_some hf
  obtain ⟨h331, h332, h333, h334, h335⟩ := of_decide_eq_true h33
  obtain ⟨h34, hf⟩ := gd_some hf
  refine g_copy hx hb (hml.trans hl.1.symm) hown (hts _ wd_137) (hts _ wd_138) (hts _ wd_139) (hts _ wd_140) hK hH hS (t := 2) (ty := .byte) k31 k32 (fun _ _ _ h => gcell12 h) (by decide) rfl rfl h331 h332 h333 h334 h335 (gft_at h34) (Nat.le_of_ble_eq_true rfl) (Nat.le_of_ble_eq_true rfl) dX4_copyFrom_105 (fun H locs hH hS => ?_)
  obtain ⟨g35, eg35⟩ : ∃ z : GM, z = gsC g30 (a + 8) (va_cpy (g30.1 (p0 + 8)) (g30.1 (a + 8)) (0 : Int32).toNatClampNeg (0 : Int32).toNatClampNeg (gI g30 a 9).toNatClampNeg) := ⟨_, rfl⟩
  have hf := gl_at hf eg35
  replace hH : HR w K g35 S H := by rw [eg35]; exact hH
  refine lv_aload_n hx hb dX4_copyFrom_108 rfl (lv_at hl 0 rfl) ?_
  have k36 : gkd K (a + 9) = 1 := congrArg Prod.fst (hH.sub hk0 8 (t := (9, 1, 0)) rfl)
  refine e_4_8 hx hb hts hown hK hH hk0 (hts _ wd_68) dX4_copyFrom_109 ?_
  refine lv_aload_n hx hb dX4_copyFrom_112 rfl (lv_at hl 1 rfl) ?_
  have k37 : gkd K (p0 + 9) = 1 := congrArg Prod.fst (hH.sub k1 8 (t := (9, 1, 0)) rfl)
  refine e_4_8 hx hb hts hown hK hH k1 (hts _ wd_68) dX4_copyFrom_113 ?_
  obtain ⟨g38, h39, hf⟩ := gbind hf
  refine g_Vv (As := [.ref (p0 + 9)]) (rest := []) ⟨hx, hb, hml, hown, hts⟩ (c0_copyFrom l w K g35 S (a + 9) (p0 + 9) g38 h39 k36) (gcwV hts i0_copyFrom wd_147 rfl rfl ⟨Nat.le_of_ble_eq_true rfl, Nat.le_of_ble_eq_true rfl⟩) (gRecv.of hK rfl (hH.o1 k36)) hH hK hS hl.1 rfl rfl (Nat.le_of_ble_eq_true rfl) dX4_copyFrom_116 ⟨Nat.le_refl _, Nat.le_refl _⟩ (fun H locs hH hS => ?_)
  refine lv_aload_n hx hb dX4_copyFrom_119 rfl (lv_at hl 0 rfl) ?_
  refine lv_aload_n hx hb dX4_copyFrom_120 rfl (lv_at hl 1 rfl) ?_
  refine e_4_10 hx hb hts hown hK hH k1 (hts _ wd_70) dX4_copyFrom_121 ?_
  refine p_4_10 hx hb hts hown hK hH hS hk0 (hts _ wd_70) dX4_copyFrom_124 (fun H locs hH hS => ?_)
  obtain ⟨g40, eg40⟩ : ∃ z : GM, z = gsI g38 a 10 (gI g38 p0 10) := ⟨_, rfl⟩
  have hf := gl_at hf eg40
  replace hH : HR w K g40 S H := by rw [eg40]; exact hH
  refine lv_aload_n hx hb dX4_copyFrom_127 rfl (lv_at hl 0 rfl) ?_
  refine lv_aload_n hx hb dX4_copyFrom_128 rfl (lv_at hl 1 rfl) ?_
  refine e_4_11 hx hb hts hown hK hH k1 (hts _ wd_71) dX4_copyFrom_129 ?_
  refine p_4_11 hx hb hts hown hK hH hS hk0 (hts _ wd_71) dX4_copyFrom_132 (fun H locs hH hS => ?_)
  obtain ⟨g41, eg41⟩ : ∃ z : GM, z = gsI g40 a 11 (gI g40 p0 11) := ⟨_, rfl⟩
  have hf := gl_at hf eg41
  replace hH : HR w K g41 S H := by rw [eg41]; exact hH
  refine lv_aload_n hx hb dX4_copyFrom_135 rfl (lv_at hl 0 rfl) ?_
  refine lv_aload_n hx hb dX4_copyFrom_136 rfl (lv_at hl 1 rfl) ?_
  refine e_4_12 hx hb hts hown hK hH k1 (hts _ wd_72) dX4_copyFrom_137 ?_
  refine p_4_12 hx hb hts hown hK hH hS hk0 (hts _ wd_72) dX4_copyFrom_140 (fun H locs hH hS => ?_)
  obtain ⟨g42, eg42⟩ : ∃ z : GM, z = gsI g41 a 12 (gI g41 p0 12) := ⟨_, rfl⟩
  have hf := gl_at hf eg42
  replace hH : HR w K g42 S H := by rw [eg42]; exact hH
  have ho := Option.some.inj hf
  exact W.vret hx hb hr (fun t ht hW => ⟨⟨(), rfl, trivial, hrV ht ho hH⟩, hS.F ht⟩) hS.2.2 dX4_copyFrom_143
set_option maxRecDepth 100000 in
set_option maxHeartbeats 8000000 in
theorem c3_keep (l : Launch) (w : GW) (K : GK) (g : GM) (S : GS) (a : Nat) (p0 : Nat) (out : GM) (hf : f3_keep K g a p0 = some out) (hk0 : gkd K a = 4) : Met l yX3_keep (wA yX3_keep cX3_keep 2 none) ({ frames := 4, cells := 0, slots := 0, locals := 123 } : Room) (PRE w K g S [.ref a, .ref p0]) (QV w K out S) 0 0 (FR w) := by
  unfold f3_keep at hf
  refine Met.ofW (cc := cX3_keep) (maxL := 2) (ret := none) (by decide) rfl ?_
  intro p e s m args below meth c s₁ B hml hv
  obtain ⟨rfl, hH, hK⟩ := hv
  have hx := B.exec
  have hb := B.bytes
  have hr := B.returns
  have hts : ∀ q ∈ gALL, q.before _ s = true := fun q h => atoms_spec (ws := (wA yX3_keep cX3_keep 2 none)) B.pre q (List.mem_cons_of_mem _ h)
  have hown : s.vm.findClass RX3 = some m.cls := findClass_of_methodNamed B.named
  have hlocks := B.notSynchronized
  have hS : va_S (FR w) s.heap s.heap [] := va_S.rf
  show W p l e ({ frames := 4, cells := 0, slots := 0, locals := 123 } : Room) s m _ below meth c s.heap [] 0 0 (MQ below (QV w K out S) _ s 0 0 (FR w)) _
  have hl := lv_entry ([.ref a, .ref p0]) (n := 2) (Nat.le_of_ble_eq_true rfl)
  rw [lg_entry_eq]
  generalize (lg_sl ([.ref a, .ref p0]) ++ List.replicate (2 - (lg_sl ([.ref a, .ref p0])).length) Slot.unset).toArray = ls at hl ⊢
  clear B
  generalize ([.ref a, .ref p0] : List Value).toArray = args at hts ⊢
  have B13 : ∀ (g : GM) (H : Heap) (locs : List Loc) (ls : Array Slot), HR w K g S H → va_S (FR w) s.heap H locs → lv_has ls 2 [(0, .ref a), (1, .ref p0)] → f3_keep_13 K a p0 g = some out → W p l e ({ frames := 4, cells := 0, slots := 0, locals := 123 } : Room) s m args below meth c H locs 0 0 (MQ below (QV w K out S) args s 0 0 (FR w)) (F0 m 13 ls []) := by
    intro  g H locs ls hH hS hl hf
    unfold f3_keep_13 at hf
    refine lv_aload_n hx hb dX3_keep_13 rfl (lv_at hl 0 rfl) ?_
    have k1 : K.1 (a + 1) = (14, 6) := hH.sub hk0 0 (t := (1, 14, 6)) rfl
    refine e_3_0 hx hb hts hown hK hH hk0 (hts _ wd_89) dX3_keep_14 ?_
    refine lv_aload_n hx hb dX3_keep_17 rfl (lv_at hl 0 rfl) ?_
    refine e_3_1 hx hb hts hown hK hH hk0 (hts _ wd_90) dX3_keep_18 ?_
    obtain ⟨h3, hf⟩ := gd_some hf
    refine g_lald hx hb hK hH k1 h3 dX3_keep_21 ?_
    rcases gopt_c hf with ⟨q5, hf⟩ | ⟨t4, q5, hf⟩
    · cases hf
    · refine g_rfS q5 ?_
      refine lv_aload_n hx hb dX3_keep_22 rfl (lv_at hl 1 rfl) ?_
      obtain ⟨k6, hf⟩ := gd_some hf
      have k6 := gk_obj k6
      obtain ⟨g7, h8, hf⟩ := gbind hf
      refine g_Vv (As := [.ref p0]) (rest := []) ⟨hx, hb, hml, hown, hts⟩ (c4_copyFrom l w K g S t4 p0 g7 h8 k6) (gcwV hts i4_copyFrom wd_129 rfl rfl ⟨Nat.le_of_ble_eq_true rfl, Nat.le_of_ble_eq_true rfl⟩) (gRecv.of hK rfl (hH.o5 k6)) hH hK hS hl.1 rfl rfl (Nat.le_of_ble_eq_true rfl) dX3_keep_23 ⟨Nat.le_refl _, Nat.le_refl _⟩ (fun H locs hH hS => ?_)
      refine lv_aload_n hx hb dX3_keep_26 rfl (lv_at hl 0 rfl) ?_
      refine lv_dup hx hb dX3_keep_27 rfl ?_
      refine e_3_1 hx hb hts hown hK hH hk0 (hts _ wd_90) dX3_keep_28 ?_
      refine lv_iconst (v := 1) hx hb dX3_keep_31 (by decide) ?_
      refine lv_iadd hx hb dX3_keep_32 ?_
      refine p_3_1 hx hb hts hown hK hH hS hk0 (hts _ wd_90) dX3_keep_33 (fun H locs hH hS => ?_)
      obtain ⟨g9, eg9⟩ : ∃ z : GM, z = gsI g7 a 1 ((gI g7 a 1) + 1) := ⟨_, rfl⟩
      have hf := gl_at hf eg9
      replace hH : HR w K g9 S H := by rw [eg9]; exact hH
      have ho := Option.some.inj hf
      exact W.vret hx hb hr (fun t ht hW => ⟨⟨(), rfl, trivial, hrV ht ho hH⟩, hS.F ht⟩) hS.2.2 dX3_keep_36
  have hl : lv_has ls 2 [(0, .ref a), (1, .ref p0)] := hl
  refine lv_aload_n hx hb dX3_keep_0 rfl (lv_at hl 0 rfl) ?_
  refine e_3_1 hx hb hts hown hK hH hk0 (hts _ wd_90) dX3_keep_1 ?_
  refine lv_bipush (v := 6) hx hb dX3_keep_4 (by decide) ?_
  have hg := gif hf
  refine lv_icmp_ne (tgt := 13) hx hb dX3_keep_6 (by decide) (fun c10 => ?_) (fun c10 => ?_)
  · have hf := hg.2 c10
    exact B13 _ _ _ _ hH hS (lv_sub hl [0, 1] rfl) hf
  · have hf := hg.1 c10
    refine lv_aload_n hx hb dX3_keep_9 rfl (lv_at hl 0 rfl) ?_
    obtain ⟨g11, h12, hf⟩ := gbind hf
    refine g_Vv (As := []) (rest := []) ⟨hx, hb, hml, hown, hts⟩ (c3_dropOldest l w K g S a g11 h12 hk0) (gcwV hts i3_dropOldest wd_125 rfl rfl ⟨Nat.le_of_ble_eq_true rfl, Nat.le_of_ble_eq_true rfl⟩) (gRecv.of hK rfl (hH.o4 hk0)) hH hK hS hl.1 rfl rfl (Nat.le_of_ble_eq_true rfl) dX3_keep_10 ⟨Nat.le_refl _, Nat.le_refl _⟩ (fun H locs hH hS => ?_)
    exact B13 _ _ _ _ hH hS (lv_sub hl [0, 1] rfl) hf
