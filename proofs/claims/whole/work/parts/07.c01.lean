/-! contracts, by program -/
set_option maxRecDepth 100000 in
set_option maxHeartbeats 8000000 in
theorem c3_takeBack (l : Launch) (w : GW) (K : GK) (g : GM) (S : GS) (a : Nat) (p0 : Nat) (out : GM) (hf : f3_takeBack K g a p0 = some out) (hk0 : gkd K a = 4) : Met l yX3_takeBack (wA yX3_takeBack cX3_takeBack 2 none) ({ frames := 4, cells := 0, slots := 0, locals := 123 } : Room) (PRE w K g S [.ref a, .ref p0]) (QV w K out S) 0 0 (FR w) := by
  unfold f3_takeBack at hf
  refine Met.ofW (cc := cX3_takeBack) (maxL := 2) (ret := none) (by decide) rfl ?_
  intro p e s m args below meth c s₁ B hml hv
  obtain ⟨rfl, hH, hK⟩ := hv
  have hx := B.exec
  have hb := B.bytes
  have hr := B.returns
  have hts : ∀ q ∈ gALL, q.before _ s = true := fun q h => atoms_spec (ws := (wA yX3_takeBack cX3_takeBack 2 none)) B.pre q (List.mem_cons_of_mem _ h)
  have hown : s.vm.findClass RX3 = some m.cls := findClass_of_methodNamed B.named
  have hlocks := B.notSynchronized
  have hS : va_S (FR w) s.heap s.heap [] := va_S.rf
  show W p l e ({ frames := 4, cells := 0, slots := 0, locals := 123 } : Room) s m _ below meth c s.heap [] 0 0 (MQ below (QV w K out S) _ s 0 0 (FR w)) _
  have hl := lv_entry ([.ref a, .ref p0]) (n := 2) (Nat.le_of_ble_eq_true rfl)
  rw [lg_entry_eq]
  generalize (lg_sl ([.ref a, .ref p0]) ++ List.replicate (2 - (lg_sl ([.ref a, .ref p0])).length) Slot.unset).toArray = ls at hl ⊢
  clear B
  generalize ([.ref a, .ref p0] : List Value).toArray = args at hts ⊢
  have hl : lv_has ls 2 [(0, .ref a), (1, .ref p0)] := hl
  refine lv_aload_n hx hb dX3_takeBack_0 rfl (lv_at hl 0 rfl) ?_
  refine e_3_1 hx hb hts hown hK hH hk0 (hts _ wd_90) dX3_takeBack_1 ?_
  have hg := gif hf
  refine lv_if_ne (tgt := 8) hx hb dX3_takeBack_4 (by decide) (fun c1 => ?_) (fun c1 => ?_)
  · have hf := hg.2 c1
    refine lv_aload_n hx hb dX3_takeBack_8 rfl (lv_at hl 0 rfl) ?_
    refine lv_dup hx hb dX3_takeBack_9 rfl ?_
    refine e_3_1 hx hb hts hown hK hH hk0 (hts _ wd_90) dX3_takeBack_10 ?_
    refine lv_iconst (v := 1) hx hb dX3_takeBack_13 (by decide) ?_
    refine lv_isub hx hb dX3_takeBack_14 ?_
    refine p_3_1 hx hb hts hown hK hH hS hk0 (hts _ wd_90) dX3_takeBack_15 (fun H locs hH hS => ?_)
    obtain ⟨g2, eg2⟩ : ∃ z : GM, z = gsI g a 1 ((gI g a 1) - 1) := ⟨_, rfl⟩
    have hf := gl_at hf eg2
    replace hH : HR w K g2 S H := by rw [eg2]; exact hH
    refine lv_aload_n hx hb dX3_takeBack_18 rfl (lv_at hl 1 rfl) ?_
    refine lv_aload_n hx hb dX3_takeBack_19 rfl (lv_at hl 0 rfl) ?_
    have k3 : K.1 (a + 1) = (14, 6) := hH.sub hk0 0 (t := (1, 14, 6)) rfl
    refine e_3_0 hx hb hts hown hK hH hk0 (hts _ wd_89) dX3_takeBack_20 ?_
    refine lv_aload_n hx hb dX3_takeBack_23 rfl (lv_at hl 0 rfl) ?_
    refine e_3_1 hx hb hts hown hK hH hk0 (hts _ wd_90) dX3_takeBack_24 ?_
    obtain ⟨h5, hf⟩ := gd_some hf
    refine g_lald hx hb hK hH k3 h5 dX3_takeBack_27 ?_
    rcases gopt_c hf with ⟨q7, hf⟩ | ⟨t6, q7, hf⟩
    · cases hf
    · refine g_rfS q7 ?_
      obtain ⟨k8, hf⟩ := gd_some hf
      have k8 := gk_obj k8
      obtain ⟨g9, h10, hf⟩ := gbind hf
      refine g_Vv (As := [.ref t6]) (rest := []) ⟨hx, hb, hml, hown, hts⟩ (c4_copyFrom l w K g2 S p0 t6 g9 h10 k8) (gcwV hts i4_copyFrom wd_129 rfl rfl ⟨Nat.le_of_ble_eq_true rfl, Nat.le_of_ble_eq_true rfl⟩) (gRecv.of hK rfl (hH.o5 k8)) hH hK hS hl.1 rfl rfl (Nat.le_of_ble_eq_true rfl) dX3_takeBack_28 ⟨Nat.le_refl _, Nat.le_refl _⟩ (fun H locs hH hS => ?_)
      have ho := Option.some.inj hf
      exact W.vret hx hb hr (fun t ht hW => ⟨⟨(), rfl, trivial, hrV ht ho hH⟩, hS.F ht⟩) hS.2.2 dX3_takeBack_31
  · have hf := hg.1 c1
    have ho := Option.some.inj hf
    exact W.vret hx hb hr (fun t ht hW => ⟨⟨(), rfl, trivial, hrV ht ho hH⟩, hS.F ht⟩) hS.2.2 dX3_takeBack_7
set_option maxRecDepth 100000 in
set_option maxHeartbeats 8000000 in
theorem c4_layOnStack (l : Launch) (w : GW) (K : GK) (g : GM) (S : GS) (a : Nat) (p0 : Int32) (p1 : Int32) (out : GM) (hf : f4_layOnStack K g a p0 p1 = some out) (hk0 : gkd K a = 5) : Met l yX4_layOnStack (wA yX4_layOnStack cX4_layOnStack 3 none) ({ frames := 2, cells := 0, slots := 0, locals := 44 } : Room) (PRE w K g S [.ref a, .int p0, .int p1]) (QV w K out S) 0 0 (FR w) := by
  unfold f4_layOnStack at hf
  refine Met.ofW (cc := cX4_layOnStack) (maxL := 3) (ret := none) (by decide) rfl ?_
  intro p e s m args below meth c s₁ B hml hv
  obtain ⟨rfl, hH, hK⟩ := hv
  have hx := B.exec
  have hb := B.bytes
  have hr := B.returns
  have hts : ∀ q ∈ gALL, q.before _ s = true := fun q h => atoms_spec (ws := (wA yX4_layOnStack cX4_layOnStack 3 none)) B.pre q (List.mem_cons_of_mem _ h)
  have hown : s.vm.findClass RX4 = some m.cls := findClass_of_methodNamed B.named
  have hlocks := B.notSynchronized
  have hS : va_S (FR w) s.heap s.heap [] := va_S.rf
  show W p l e ({ frames := 2, cells := 0, slots := 0, locals := 44 } : Room) s m _ below meth c s.heap [] 0 0 (MQ below (QV w K out S) _ s 0 0 (FR w)) _
  have hl := lv_entry ([.ref a, .int p0, .int p1]) (n := 3) (Nat.le_of_ble_eq_true rfl)
  rw [lg_entry_eq]
  generalize (lg_sl ([.ref a, .int p0, .int p1]) ++ List.replicate (3 - (lg_sl ([.ref a, .int p0, .int p1])).length) Slot.unset).toArray = ls at hl ⊢
  clear B
  generalize ([.ref a, .int p0, .int p1] : List Value).toArray = args at hts ⊢
  have hl : lv_has ls 3 [(0, .ref a), (1, .int p0), (2, .int p1)] := hl
  refine lv_aload_n hx hb dX4_layOnStack_0 rfl (lv_at hl 0 rfl) ?_
  have k1 : gkd K (a + 9) = 1 := congrArg Prod.fst (hH.sub hk0 8 (t := (9, 1, 0)) rfl)
  refine e_4_8 hx hb hts hown hK hH hk0 (hts _ wd_68) dX4_layOnStack_1 ?_
  refine lv_iload_n hx hb dX4_layOnStack_4 rfl (lv_at hl 1 rfl) ?_
  refine lv_aload_n hx hb dX4_layOnStack_5 rfl (lv_at hl 0 rfl) ?_
  have k2 : K.1 (a + 1) = (13, 10) := hH.sub hk0 0 (t := (1, 13, 10)) rfl
  refine e_4_0 hx hb hts hown hK hH hk0 (hts _ wd_56) dX4_layOnStack_6 ?_
  refine lv_iload_n hx hb dX4_layOnStack_9 rfl (lv_at hl 1 rfl) ?_
  obtain ⟨h4, hf⟩ := gd_some hf
  refine g_tald hx hb hK hH k2 h4 dX4_layOnStack_10 ?_
  rcases gopt_c hf with ⟨q6, hf⟩ | ⟨t5, q6, hf⟩
  · refine g_rfN q6 ?_
    refine lv_iload_n hx hb dX4_layOnStack_11 rfl (lv_at hl 2 rfl) ?_
    obtain ⟨g7, h8, hf⟩ := gbind hf
    refine g_Vv (As := [.int p0, va_rf none, .int p1]) (rest := []) ⟨hx, hb, hml, hown, hts⟩ (c0_layOn l w K g S (a + 9) p0 none p1 g7 h8 k1) (gcwV hts i0_layOn wd_344 rfl rfl ⟨Nat.le_of_ble_eq_true rfl, Nat.le_of_ble_eq_true rfl⟩) (gRecv.of hK rfl (hH.o1 k1)) hH hK hS hl.1 rfl rfl (Nat.le_of_ble_eq_true rfl) dX4_layOnStack_12 ⟨Nat.le_refl _, Nat.le_refl _⟩ (fun H locs hH hS => ?_)
    refine lv_aload_n hx hb dX4_layOnStack_15 rfl (lv_at hl 0 rfl) ?_
    have k9 : K.1 (a + 2) = (10, 10) := hH.sub hk0 1 (t := (2, 10, 10)) rfl
    refine e_4_1 hx hb hts hown hK hH hk0 (hts _ wd_57) dX4_layOnStack_16 ?_
    refine lv_iload_n hx hb dX4_layOnStack_19 rfl (lv_at hl 1 rfl) ?_
    refine lv_dup2_11 hx hb dX4_layOnStack_20 rfl rfl ?_
    refine g_iald hx hb hK hH k9 h4 dX4_layOnStack_21 ?_
    refine lv_iconst (v := 1) hx hb dX4_layOnStack_22 (by decide) ?_
    refine lv_iadd hx hb dX4_layOnStack_23 ?_
    refine g_iast hx hb hK hH hS k9 h4 dX4_layOnStack_24 (fun H locs hH hS => ?_)
    obtain ⟨g12, eg12⟩ : ∃ z : GM, z = gsI g7 (a + 2) p0.toNatClampNeg ((gI g7 (a + 2) p0.toNatClampNeg) + 1) := ⟨_, rfl⟩
    have hf := gl_at hf eg12
    replace hH : HR w K g12 S H := by rw [eg12]; exact hH
    refine lv_aload_n hx hb dX4_layOnStack_25 rfl (lv_at hl 0 rfl) ?_
    refine lv_aload_n hx hb dX4_layOnStack_26 rfl (lv_at hl 0 rfl) ?_
    refine e_4_10 hx hb hts hown hK hH hk0 (hts _ wd_70) dX4_layOnStack_27 ?_
    refine lv_aload_n hx hb dX4_layOnStack_30 rfl (lv_at hl 0 rfl) ?_
    refine e_4_8 hx hb hts hown hK hH hk0 (hts _ wd_68) dX4_layOnStack_31 ?_
    refine e_0_6 hx hb hts hown hK hH k1 (hts _ wd_338) dX4_layOnStack_34 ?_
    refine va_mmax hx hb (hml.trans hl.1.symm) hown (hts _ wd_343) (hts _ wd_227) (hts _ wd_135) (hts _ wd_228) (Nat.le_of_ble_eq_true rfl) (Nat.le_of_ble_eq_true rfl) (Nat.le_of_ble_eq_true rfl) (Nat.le_of_ble_eq_true rfl) dX4_layOnStack_37 ?_
    refine p_4_10 hx hb hts hown hK hH hS hk0 (hts _ wd_70) dX4_layOnStack_40 (fun H locs hH hS => ?_)
    obtain ⟨g13, eg13⟩ : ∃ z : GM, z = gsI g12 a 10 (if (gI g12 a 10) < (gI g12 (a + 9) 6) then (gI g12 (a + 9) 6) else (gI g12 a 10)) := ⟨_, rfl⟩
    have hf := gl_at hf eg13
    replace hH : HR w K g13 S H := by rw [eg13]; exact hH
    have ho := Option.some.inj hf
    exact W.vret hx hb hr (fun t ht hW => ⟨⟨(), rfl, trivial, hrV ht ho hH⟩, hS.F ht⟩) hS.2.2 dX4_layOnStack_43
  · refine g_rfS q6 ?_
    refine lv_iload_n hx hb dX4_layOnStack_11 rfl (lv_at hl 2 rfl) ?_
    obtain ⟨g14, h15, hf⟩ := gbind hf
    refine g_Vv (As := [.int p0, va_rf (some t5), .int p1]) (rest := []) ⟨hx, hb, hml, hown, hts⟩ (c0_layOn l w K g S (a + 9) p0 ((some t5)) p1 g14 h15 k1) (gcwV hts i0_layOn wd_344 rfl rfl ⟨Nat.le_of_ble_eq_true rfl, Nat.le_of_ble_eq_true rfl⟩) (gRecv.of hK rfl (hH.o1 k1)) hH hK hS hl.1 rfl rfl (Nat.le_of_ble_eq_true rfl) dX4_layOnStack_12 ⟨Nat.le_refl _, Nat.le_refl _⟩ (fun H locs hH hS => ?_)
    refine lv_aload_n hx hb dX4_layOnStack_15 rfl (lv_at hl 0 rfl) ?_
    have k16 : K.1 (a + 2) = (10, 10) := hH.sub hk0 1 (t := (2, 10, 10)) rfl
    refine e_4_1 hx hb hts hown hK hH hk0 (hts _ wd_57) dX4_layOnStack_16 ?_
    refine lv_iload_n hx hb dX4_layOnStack_19 rfl (lv_at hl 1 rfl) ?_
    refine lv_dup2_11 hx hb dX4_layOnStack_20 rfl rfl ?_
    refine g_iald hx hb hK hH k16 h4 dX4_layOnStack_21 ?_
    refine lv_iconst (v := 1) hx hb dX4_layOnStack_22 (by decide) ?_
    refine lv_iadd hx hb dX4_layOnStack_23 ?_
    refine g_iast hx hb hK hH hS k16 h4 dX4_layOnStack_24 (fun H locs hH hS => ?_)
    obtain ⟨g19, eg19⟩ : ∃ z : GM, z = gsI g14 (a + 2) p0.toNatClampNeg ((gI g14 (a + 2) p0.toNatClampNeg) + 1) := ⟨_, rfl⟩
    have hf := gl_at hf eg19
    replace hH : HR w K g19 S H := by rw [eg19]; exact hH
    refine lv_aload_n hx hb dX4_layOnStack_25 rfl (lv_at hl 0 rfl) ?_
    refine lv_aload_n hx hb dX4_layOnStack_26 rfl (lv_at hl 0 rfl) ?_
    refine e_4_10 hx hb hts hown hK hH hk0 (hts _ wd_70) dX4_layOnStack_27 ?_
    refine lv_aload_n hx hb dX4_layOnStack_30 rfl (lv_at hl 0 rfl) ?_
    refine e_4_8 hx hb hts hown hK hH hk0 (hts _ wd_68) dX4_layOnStack_31 ?_
    refine e_0_6 hx hb hts hown hK hH k1 (hts _ wd_338) dX4_layOnStack_34 ?_
    refine va_mmax hx hb (hml.trans hl.1.symm) hown (hts _ wd_343) (hts _ wd_227) (hts _ wd_135) (hts _ wd_228) (Nat.le_of_ble_eq_true rfl) (Nat.le_of_ble_eq_true rfl) (Nat.le_of_ble_eq_true rfl) (Nat.le_of_ble_eq_true rfl) dX4_layOnStack_37 ?_
    refine p_4_10 hx hb hts hown hK hH hS hk0 (hts _ wd_70) dX4_layOnStack_40 (fun H locs hH hS => ?_)
    obtain ⟨g20, eg20⟩ : ∃ z : GM, z = gsI g19 a 10 (if (gI g19 a 10) < (gI g19 (a + 9) 6) then (gI g19 (a + 9) 6) else (gI g19 a 10)) := ⟨_, rfl⟩
    have hf := gl_at hf eg20
    replace hH : HR w K g20 S H := by rw [eg20]; exact hH
    have ho := Option.some.inj hf
    exact W.vret hx hb hr (fun t ht hW => ⟨⟨(), rfl, trivial, hrV ht ho hH⟩, hS.F ht⟩) hS.2.2 dX4_layOnStack_43
set_option maxRecDepth 100000 in
set_option maxHeartbeats 8000000 in
theorem c4_beginWith (l : Launch) (w : GW) (K : GK) (g : GM) (S : GS) (a : Nat) (p0 : Int32) (out : GM × Int32) (hf : f4_beginWith K g a p0 = some out) (hk0 : gkd K a = 5) : Met l yX4_beginWith (wA yX4_beginWith cX4_beginWith 3 (some .int)) ({ frames := 3, cells := 0, slots := 0, locals := 66 } : Room) (PRE w K g S [.ref a, .int p0]) (QI w K out.1 S out.2) 0 0 (FR w) := by
  unfold f4_beginWith at hf
  refine Met.ofW (cc := cX4_beginWith) (maxL := 3) (ret := (some .int)) (by decide) rfl ?_
  intro p e s m args below meth c s₁ B hml hv
  obtain ⟨rfl, hH, hK⟩ := hv
  have hx := B.exec
  have hb := B.bytes
  have hr := B.returns
  have hts : ∀ q ∈ gALL, q.before _ s = true := fun q h => atoms_spec (ws := (wA yX4_beginWith cX4_beginWith 3 (some .int))) B.pre q (List.mem_cons_of_mem _ h)
  have hown : s.vm.findClass RX4 = some m.cls := findClass_of_methodNamed B.named
  have hlocks := B.notSynchronized
  have hS : va_S (FR w) s.heap s.heap [] := va_S.rf
  show W p l e ({ frames := 3, cells := 0, slots := 0, locals := 66 } : Room) s m _ below meth c s.heap [] 0 0 (MQ below (QI w K out.1 S out.2) _ s 0 0 (FR w)) _
  have hl := lv_entry ([.ref a, .int p0]) (n := 3) (Nat.le_of_ble_eq_true rfl)
  rw [lg_entry_eq]
  generalize (lg_sl ([.ref a, .int p0]) ++ List.replicate (3 - (lg_sl ([.ref a, .int p0])).length) Slot.unset).toArray = ls at hl ⊢
  clear B
  generalize ([.ref a, .int p0] : List Value).toArray = args at hts ⊢
  have hl : lv_has ls 3 [(0, .ref a), (1, .int p0)] := hl
  refine lv_aload_n hx hb dX4_beginWith_0 rfl (lv_at hl 0 rfl) ?_
  have k1 : gkd K (a + 9) = 1 := congrArg Prod.fst (hH.sub hk0 8 (t := (9, 1, 0)) rfl)
  refine e_4_8 hx hb hts hown hK hH hk0 (hts _ wd_68) dX4_beginWith_1 ?_
  refine e_0_6 hx hb hts hown hK hH k1 (hts _ wd_338) dX4_beginWith_4 ?_
  refine lv_topi (fun v2 ev2 => ?_)
  have hf := gl_at hf ev2
  refine lv_istore_n (lv' := [(2, .int v2), (0, .ref a), (1, .int p0)]) hx hb dX4_beginWith_7 rfl hl (by decide) rfl (fun ls hl => ?_)
  refine lv_aload_n hx hb dX4_beginWith_8 rfl (lv_at hl 1 rfl) ?_
  refine e_4_8 hx hb hts hown hK hH hk0 (hts _ wd_68) dX4_beginWith_9 ?_
  refine lv_iconst (v := 0) hx hb dX4_beginWith_12 (by decide) ?_
  refine p_0_6 hx hb hts hown hK hH hS k1 (hts _ wd_338) dX4_beginWith_13 (fun H locs hH hS => ?_)
  obtain ⟨g3, eg3⟩ : ∃ z : GM, z = gsI g (a + 9) 6 0 := ⟨_, rfl⟩
  have hf := gl_at hf eg3
  replace hH : HR w K g3 S H := by rw [eg3]; exact hH
  refine lv_aload_n hx hb dX4_beginWith_16 rfl (lv_at hl 1 rfl) ?_
  refine lv_iload_n hx hb dX4_beginWith_17 rfl (lv_at hl 2 rfl) ?_
  refine lv_iconst (v := 0) hx hb dX4_beginWith_18 (by decide) ?_
  obtain ⟨g4, h5, hf⟩ := gbind hf
  refine g_Vv (As := [.int p0, .int 0]) (rest := []) ⟨hx, hb, hml, hown, hts⟩ (c4_layOnStack l w K g3 S a p0 0 g4 h5 hk0) (gcwV hts i4_layOnStack wd_339 rfl rfl ⟨Nat.le_of_ble_eq_true rfl, Nat.le_of_ble_eq_true rfl⟩) (gRecv.of hK rfl (hH.o5 hk0)) hH hK hS hl.1 rfl rfl (Nat.le_of_ble_eq_true rfl) dX4_beginWith_19 ⟨Nat.le_refl _, Nat.le_refl _⟩ (fun H locs hH hS => ?_)
  refine lv_iload_n hx hb dX4_beginWith_22 rfl (lv_at hl 0 rfl) ?_
  have ho := Option.some.inj hf
  exact W.iret (v := v2) hx hb hr (fun t ht hW => ⟨⟨v2, (), rfl, congrArg Prod.snd ho, hrP ht ho hH⟩, hS.F ht⟩) hS.2.2 dX4_beginWith_23
set_option maxRecDepth 100000 in
set_option maxHeartbeats 8000000 in
theorem c4_clothPicks (l : Launch) (w : GW) (K : GK) (g : GM) (S : GS) (a : Nat) (p0 : Int32) (out : Int32) (hf : f4_clothPicks K g a p0 = some out) (hk0 : gkd K a = 5) : Met l yX4_clothPicks (wA yX4_clothPicks cX4_clothPicks 4 (some .int)) ({ frames := 0, cells := 0, slots := 0, locals := 0 } : Room) (PRE w K g S [.ref a, .int p0]) (QI w K g S out) 0 0 (FR w) := by
  unfold f4_clothPicks at hf
  refine Met.ofW (cc := cX4_clothPicks) (maxL := 4) (ret := (some .int)) (by decide) rfl ?_
  intro p e s m args below meth c s₁ B hml hv
  obtain ⟨rfl, hH, hK⟩ := hv
  have hx := B.exec
  have hb := B.bytes
  have hr := B.returns
  have hts : ∀ q ∈ gALL, q.before _ s = true := fun q h => atoms_spec (ws := (wA yX4_clothPicks cX4_clothPicks 4 (some .int))) B.pre q (List.mem_cons_of_mem _ h)
  have hown : s.vm.findClass RX4 = some m.cls := findClass_of_methodNamed B.named
  have hlocks := B.notSynchronized
  have hS : va_S (FR w) s.heap s.heap [] := va_S.rf
  show W p l e ({ frames := 0, cells := 0, slots := 0, locals := 0 } : Room) s m _ below meth c s.heap [] 0 0 (MQ below (QI w K g S out) _ s 0 0 (FR w)) _
  have hl := lv_entry ([.ref a, .int p0]) (n := 4) (Nat.le_of_ble_eq_true rfl)
  rw [lg_entry_eq]
  generalize (lg_sl ([.ref a, .int p0]) ++ List.replicate (4 - (lg_sl ([.ref a, .int p0])).length) Slot.unset).toArray = ls at hl ⊢
  clear B
  generalize ([.ref a, .int p0] : List Value).toArray = args at hts ⊢
  have B25 : ∀ (k4 : Int32 → Int32 → Option (Int32)), (∀ (x2 : Int32) (x3 : Int32) (H : Heap) (locs : List Loc) (ls : Array Slot), HR w K g S H → va_S (FR w) s.heap H locs → lv_has ls 4 [(0, .ref a), (1, .int p0), (2, .int x2), (3, .int x3)] → k4 x2 x3 = some out → W p l e ({ frames := 0, cells := 0, slots := 0, locals := 0 } : Room) s m args below meth c H locs 0 0 (MQ below (QI w K g S out) args s 0 0 (FR w)) (F0 m 4 ls [])) → ∀ (x2 : Int32) (x3 : Int32) (H : Heap) (locs : List Loc) (ls : Array Slot), HR w K g S H → va_S (FR w) s.heap H locs → lv_has ls 4 [(0, .ref a), (1, .int p0), (2, .int x2), (3, .int x3)] → f4_clothPicks_25 k4 K g a p0 x2 x3 = some out → W p l e ({ frames := 0, cells := 0, slots := 0, locals := 0 } : Room) s m args below meth c H locs 0 0 (MQ below (QI w K g S out) args s 0 0 (FR w)) (F0 m 25 ls []) := by
    intro k4 hk4 x2 x3 H locs ls hH hS hl hf
    unfold f4_clothPicks_25 at hf
    obtain ⟨v1, ev1⟩ : ∃ z : Int32, z = x3 + 1 := ⟨_, rfl⟩
    have hf := gl_at hf ev1
    refine lv_iinc (v := v1) (lv' := [(3, .int v1), (0, .ref a), (1, .int p0), (2, .int x2)]) hx hb dX4_clothPicks_25 hl (k := 3) rfl (by rw [ev1]; rfl) (by decide) rfl (fun ls hl => ?_)
    refine lv_goto (tgt := 4) hx hb dX4_clothPicks_28 (by decide) ?_
    exact hk4 _ _ _ _ _ hH hS (lv_sub hl [1, 2, 3, 0] rfl) hf
  have B4 : ∀ n : Nat, ∀ (x2 : Int32) (x3 : Int32) (H : Heap) (locs : List Loc) (ls : Array Slot), HR w K g S H → va_S (FR w) s.heap H locs → lv_has ls 4 [(0, .ref a), (1, .int p0), (2, .int x2), (3, .int x3)] → f4_clothPicks_4 K g a p0 n x2 x3 = some out → W p l e ({ frames := 0, cells := 0, slots := 0, locals := 0 } : Room) s m args below meth c H locs 0 0 (MQ below (QI w K g S out) args s 0 0 (FR w)) (F0 m 4 ls []) := by
    intro n
    induction n with
    | zero =>
      intro x2 x3 H locs ls hH hS hl hf
      cases hf
    | succ n ih =>
      intro x2 x3 H locs ls hH hS hl hf
      rw [f4_clothPicks_4] at hf
      refine lv_iload_n hx hb dX4_clothPicks_4 rfl (lv_at hl 3 rfl) ?_
      refine lv_aload_n hx hb dX4_clothPicks_5 rfl (lv_at hl 0 rfl) ?_
      refine e_4_9 hx hb hts hown hK hH hk0 (hts _ wd_69) dX4_clothPicks_6 ?_
      have hg := gif hf
      refine lv_icmp_ge (tgt := 31) hx hb dX4_clothPicks_9 (by decide) (fun c2 => ?_) (fun c2 => ?_)
      · have hf := hg.1 c2
        refine lv_iload_n hx hb dX4_clothPicks_31 rfl (lv_at hl 2 rfl) ?_
        have ho := Option.some.inj hf
        exact W.iret (v := x2) hx hb hr (fun t ht hW => ⟨⟨x2, (), rfl, ho, hrE ht hH⟩, hS.F ht⟩) hS.2.2 dX4_clothPicks_32
      · have hf := hg.2 c2
        refine lv_aload_n hx hb dX4_clothPicks_12 rfl (lv_at hl 0 rfl) ?_
        have k3 : K.1 (a + 8) = (12, 400) := hH.sub hk0 7 (t := (8, 12, 400)) rfl
        refine e_4_7 hx hb hts hown hK hH hk0 (hts _ wd_64) dX4_clothPicks_13 ?_
        refine lv_iload_n hx hb dX4_clothPicks_16 rfl (lv_at hl 3 rfl) ?_
        obtain ⟨h5, hf⟩ := gd_some hf
        refine g_bald hx hb hK hH k3 h5 dX4_clothPicks_17 ?_
        refine lv_iload_n hx hb dX4_clothPicks_18 rfl (lv_at hl 1 rfl) ?_
        have hg := gif hf
        refine lv_icmp_ne (tgt := 25) hx hb dX4_clothPicks_19 (by decide) (fun c6 => ?_) (fun c6 => ?_)
        · have hf := hg.2 c6
          exact B25 _ (ih) _ _ _ _ _ hH hS (lv_sub hl [0, 1, 2, 3] rfl) hf
        · have hf := hg.1 c6
          obtain ⟨v7, ev7⟩ : ∃ z : Int32, z = x2 + 1 := ⟨_, rfl⟩
          have hf := gl_at hf ev7
          refine lv_iinc (v := v7) (lv' := [(2, .int v7), (0, .ref a), (1, .int p0), (3, .int x3)]) hx hb dX4_clothPicks_22 hl (k := 2) rfl (by rw [ev7]; rfl) (by decide) rfl (fun ls hl => ?_)
          exact B25 _ (ih) _ _ _ _ _ hH hS (lv_sub hl [1, 2, 0, 3] rfl) hf
  have hl : lv_has ls 4 [(0, .ref a), (1, .int p0)] := hl
  refine lv_iconst (v := 0) hx hb dX4_clothPicks_0 (by decide) ?_
  refine lv_istore_n (lv' := [(2, .int 0), (0, .ref a), (1, .int p0)]) hx hb dX4_clothPicks_1 rfl hl (by decide) rfl (fun ls hl => ?_)
  refine lv_iconst (v := 0) hx hb dX4_clothPicks_2 (by decide) ?_
  refine lv_istore_n (lv' := [(3, .int 0), (2, .int 0), (0, .ref a), (1, .int p0)]) hx hb dX4_clothPicks_3 rfl hl (by decide) rfl (fun ls hl => ?_)
  exact B4 _ _ _ _ _ _ hH hS (lv_sub hl [2, 3, 1, 0] rfl) hf
set_option maxRecDepth 100000 in
set_option maxHeartbeats 8000000 in
theorem c4_clothRank (l : Launch) (w : GW) (K : GK) (g : GM) (S : GS) (a : Nat) (p0 : Int32) (out : Int32) (hf : f4_clothRank K g a p0 = some out) (hk0 : gkd K a = 5) : Met l yX4_clothRank (wA yX4_clothRank cX4_clothRank 6 (some .int)) ({ frames := 1, cells := 0, slots := 0, locals := 23 } : Room) (PRE w K g S [.ref a, .int p0]) (QI w K g S out) 0 0 (FR w) := by
  unfold f4_clothRank at hf
  refine Met.ofW (cc := cX4_clothRank) (maxL := 6) (ret := (some .int)) (by decide) rfl ?_
  intro p e s m args below meth c s₁ B hml hv
  obtain ⟨rfl, hH, hK⟩ := hv
  have hx := B.exec
  have hb := B.bytes
  have hr := B.returns
  have hts : ∀ q ∈ gALL, q.before _ s = true := fun q h => atoms_spec (ws := (wA yX4_clothRank cX4_clothRank 6 (some .int))) B.pre q (List.mem_cons_of_mem _ h)
  have hown : s.vm.findClass RX4 = some m.cls := findClass_of_methodNamed B.named
  have hlocks := B.notSynchronized
  have hS : va_S (FR w) s.heap s.heap [] := va_S.rf
  show W p l e ({ frames := 1, cells := 0, slots := 0, locals := 23 } : Room) s m _ below meth c s.heap [] 0 0 (MQ below (QI w K g S out) _ s 0 0 (FR w)) _
  have hl := lv_entry ([.ref a, .int p0]) (n := 6) (Nat.le_of_ble_eq_true rfl)
  rw [lg_entry_eq]
  generalize (lg_sl ([.ref a, .int p0]) ++ List.replicate (6 - (lg_sl ([.ref a, .int p0])).length) Slot.unset).toArray = ls at hl ⊢
  clear B
  generalize ([.ref a, .int p0] : List Value).toArray = args at hts ⊢
  have B47 : ∀ (k11 : Int32 → Int32 → Int32 → Option (Int32)), (∀ (x2 : Int32) (x3 : Int32) (x4 : Int32) (H : Heap) (locs : List Loc) (ls : Array Slot), HR w K g S H → va_S (FR w) s.heap H locs → lv_has ls 6 [(0, .ref a), (1, .int p0), (2, .int x2), (3, .int x3), (4, .int x4)] → k11 x2 x3 x4 = some out → W p l e ({ frames := 1, cells := 0, slots := 0, locals := 23 } : Room) s m args below meth c H locs 0 0 (MQ below (QI w K g S out) args s 0 0 (FR w)) (F0 m 11 ls [])) → ∀ (x2 : Int32) (x3 : Int32) (x4 : Int32) (H : Heap) (locs : List Loc) (ls : Array Slot), HR w K g S H → va_S (FR w) s.heap H locs → lv_has ls 6 [(0, .ref a), (1, .int p0), (2, .int x2), (3, .int x3), (4, .int x4)] → f4_clothRank_47 k11 K g a p0 x2 x3 x4 = some out → W p l e ({ frames := 1, cells := 0, slots := 0, locals := 23 } : Room) s m args below meth c H locs 0 0 (MQ below (QI w K g S out) args s 0 0 (FR w)) (F0 m 47 ls []) := by
    intro k11 hk11 x2 x3 x4 H locs ls hH hS hl hf
    unfold f4_clothRank_47 at hf
    obtain ⟨v1, ev1⟩ : ∃ z : Int32, z = x4 + 1 := ⟨_, rfl⟩
    have hf := gl_at hf ev1
    refine lv_iinc (v := v1) (lv' := [(4, .int v1), (0, .ref a), (1, .int p0), (2, .int x2), (3, .int x3)]) hx hb dX4_clothRank_47 hl (k := 4) rfl (by rw [ev1]; rfl) (by decide) rfl (fun ls hl => ?_)
    refine lv_goto (tgt := 11) hx hb dX4_clothRank_50 (by decide) ?_
    exact hk11 _ _ _ _ _ _ hH hS (lv_sub hl [1, 2, 3, 4, 0] rfl) hf
  have B44 : ∀ (k11 : Int32 → Int32 → Int32 → Option (Int32)), (∀ (x2 : Int32) (x3 : Int32) (x4 : Int32) (H : Heap) (locs : List Loc) (ls : Array Slot), HR w K g S H → va_S (FR w) s.heap H locs → lv_has ls 6 [(0, .ref a), (1, .int p0), (2, .int x2), (3, .int x3), (4, .int x4)] → k11 x2 x3 x4 = some out → W p l e ({ frames := 1, cells := 0, slots := 0, locals := 23 } : Room) s m args below meth c H locs 0 0 (MQ below (QI w K g S out) args s 0 0 (FR w)) (F0 m 11 ls [])) → ∀ (x2 : Int32) (x3 : Int32) (x4 : Int32) (H : Heap) (locs : List Loc) (ls : Array Slot), HR w K g S H → va_S (FR w) s.heap H locs → lv_has ls 6 [(0, .ref a), (1, .int p0), (2, .int x2), (3, .int x3), (4, .int x4)] → f4_clothRank_44 k11 K g a p0 x2 x3 x4 = some out → W p l e ({ frames := 1, cells := 0, slots := 0, locals := 23 } : Room) s m args below meth c H locs 0 0 (MQ below (QI w K g S out) args s 0 0 (FR w)) (F0 m 44 ls []) := by
    intro k11 hk11 x2 x3 x4 H locs ls hH hS hl hf
    unfold f4_clothRank_44 at hf
    obtain ⟨v2, ev2⟩ : ∃ z : Int32, z = x3 + 1 := ⟨_, rfl⟩
    have hf := gl_at hf ev2
    refine lv_iinc (v := v2) (lv' := [(3, .int v2), (0, .ref a), (1, .int p0), (2, .int x2), (4, .int x4)]) hx hb dX4_clothRank_44 hl (k := 3) rfl (by rw [ev2]; rfl) (by decide) rfl (fun ls hl => ?_)
    exact B47 _ (hk11) _ _ _ _ _ _ hH hS (lv_sub hl [1, 2, 3, 0, 4] rfl) hf
  have B11 : ∀ n : Nat, ∀ (x2 : Int32) (x3 : Int32) (x4 : Int32) (H : Heap) (locs : List Loc) (ls : Array Slot), HR w K g S H → va_S (FR w) s.heap H locs → lv_has ls 6 [(0, .ref a), (1, .int p0), (2, .int x2), (3, .int x3), (4, .int x4)] → f4_clothRank_11 K g a p0 n x2 x3 x4 = some out → W p l e ({ frames := 1, cells := 0, slots := 0, locals := 23 } : Room) s m args below meth c H locs 0 0 (MQ below (QI w K g S out) args s 0 0 (FR w)) (F0 m 11 ls []) := by
    intro n
    induction n with
    | zero =>
      intro x2 x3 x4 H locs ls hH hS hl hf
      cases hf
    | succ n ih =>
      intro x2 x3 x4 H locs ls hH hS hl hf
      rw [f4_clothRank_11] at hf
      refine lv_iload hx hb dX4_clothRank_11 (lv_at hl 4 rfl) ?_
      refine lv_bipush (v := 6) hx hb dX4_clothRank_13 (by decide) ?_
      have hg := gif hf
      refine lv_icmp_ge (tgt := 53) hx hb dX4_clothRank_15 (by decide) (fun c3 => ?_) (fun c3 => ?_)
      · have hf := hg.1 c3
        refine lv_iload_n hx hb dX4_clothRank_53 rfl (lv_at hl 3 rfl) ?_
        have ho := Option.some.inj hf
        exact W.iret (v := x3) hx hb hr (fun t ht hW => ⟨⟨x3, (), rfl, ho, hrE ht hH⟩, hS.F ht⟩) hS.2.2 dX4_clothRank_54
      · have hf := hg.2 c3
        refine lv_aload_n hx hb dX4_clothRank_18 rfl (lv_at hl 0 rfl) ?_
        refine lv_iload hx hb dX4_clothRank_19 (lv_at hl 4 rfl) ?_
        obtain ⟨v4, h5, hf⟩ := gbind hf
        refine g_Vi (As := [.int x4]) (rest := []) ⟨hx, hb, hml, hown, hts⟩ (c4_clothPicks l w K g S a x4 v4 h5 hk0) (gcwV hts i4_clothPicks wd_665 rfl rfl ⟨Nat.le_of_ble_eq_true rfl, Nat.le_of_ble_eq_true rfl⟩) (gRecv.of hK rfl (hH.o5 hk0)) hH hK hS hl.1 rfl rfl (Nat.le_of_ble_eq_true rfl) dX4_clothRank_21 ⟨Nat.le_refl _, Nat.le_refl _⟩ (fun H locs hH hS => ?_)
        refine lv_istore (lv' := [(5, .int v4), (0, .ref a), (1, .int p0), (2, .int x2), (3, .int x3), (4, .int x4)]) hx hb dX4_clothRank_24 hl (by decide) rfl (fun ls hl => ?_)
        refine lv_iload hx hb dX4_clothRank_26 (lv_at hl 0 rfl) ?_
        refine lv_iload_n hx hb dX4_clothRank_28 rfl (lv_at hl 3 rfl) ?_
        have hg := gif hf
        refine lv_icmp_gt (tgt := 44) hx hb dX4_clothRank_29 (by decide) (fun c6 => ?_) (fun c6 => ?_)
        · have hf := hg.1 c6
          exact B44 _ (ih) _ _ _ _ _ _ hH hS (lv_sub hl [1, 2, 3, 4, 5] rfl) hf
        · have hf := hg.2 c6
          refine lv_iload hx hb dX4_clothRank_32 (lv_at hl 0 rfl) ?_
          refine lv_iload_n hx hb dX4_clothRank_34 rfl (lv_at hl 3 rfl) ?_
          have hg := gif hf
          refine lv_icmp_ne (tgt := 47) hx hb dX4_clothRank_35 (by decide) (fun c7 => ?_) (fun c7 => ?_)
          · have hf := hg.2 c7
            exact B47 _ (ih) _ _ _ _ _ _ hH hS (lv_sub hl [1, 2, 3, 4, 5] rfl) hf
          · have hf := hg.1 c7
            refine lv_iload hx hb dX4_clothRank_38 (lv_at hl 5 rfl) ?_
            refine lv_iload_n hx hb dX4_clothRank_40 rfl (lv_at hl 2 rfl) ?_
            have hg := gif hf
            refine lv_icmp_ge (tgt := 47) hx hb dX4_clothRank_41 (by decide) (fun c8 => ?_) (fun c8 => ?_)
            · have hf := hg.1 c8
              exact B47 _ (ih) _ _ _ _ _ _ hH hS (lv_sub hl [1, 2, 3, 4, 5] rfl) hf
            · have hf := hg.2 c8
              exact B44 _ (ih) _ _ _ _ _ _ hH hS (lv_sub hl [1, 2, 3, 4, 5] rfl) hf
  have hl : lv_has ls 6 [(0, .ref a), (1, .int p0)] := hl
  refine lv_aload_n hx hb dX4_clothRank_0 rfl (lv_at hl 0 rfl) ?_
  refine lv_iload_n hx hb dX4_clothRank_1 rfl (lv_at hl 1 rfl) ?_
  obtain ⟨v9, h10, hf⟩ := gbind hf
  refine g_Vi (As := [.int p0]) (rest := []) ⟨hx, hb, hml, hown, hts⟩ (c4_clothPicks l w K g S a p0 v9 h10 hk0) (gcwV hts i4_clothPicks wd_665 rfl rfl ⟨Nat.le_of_ble_eq_true rfl, Nat.le_of_ble_eq_true rfl⟩) (gRecv.of hK rfl (hH.o5 hk0)) hH hK hS hl.1 rfl rfl (Nat.le_of_ble_eq_true rfl) dX4_clothRank_2 ⟨Nat.le_refl _, Nat.le_refl _⟩ (fun H locs hH hS => ?_)
  refine lv_istore_n (lv' := [(2, .int v9), (0, .ref a), (1, .int p0)]) hx hb dX4_clothRank_5 rfl hl (by decide) rfl (fun ls hl => ?_)
  refine lv_iconst (v := 0) hx hb dX4_clothRank_6 (by decide) ?_
  refine lv_istore_n (lv' := [(3, .int 0), (2, .int v9), (0, .ref a), (1, .int p0)]) hx hb dX4_clothRank_7 rfl hl (by decide) rfl (fun ls hl => ?_)
  refine lv_iconst (v := 0) hx hb dX4_clothRank_8 (by decide) ?_
  refine lv_istore (lv' := [(4, .int 0), (3, .int 0), (2, .int v9), (0, .ref a), (1, .int p0)]) hx hb dX4_clothRank_9 hl (by decide) rfl (fun ls hl => ?_)
  exact B11 _ _ _ _ _ _ _ hH hS (lv_sub hl [3, 4, 2, 1, 0] rfl) hf
set_option maxRecDepth 100000 in
set_option maxHeartbeats 8000000 in
theorem c4_isShort (l : Launch) (w : GW) (K : GK) (g : GM) (S : GS) (a : Nat) (p0 : Int32) (out : Int32) (hf : f4_isShort K g a p0 = some out) (hk0 : gkd K a = 5) : Met l yX4_isShort (wA yX4_isShort cX4_isShort 2 (some .boolean)) ({ frames := 0, cells := 0, slots := 0, locals := 0 } : Room) (PRE w K g S [.ref a, .int p0]) (QI w K g S out) 0 0 (FR w) := by
  unfold f4_isShort at hf
  refine Met.ofW (cc := cX4_isShort) (maxL := 2) (ret := (some .boolean)) (by decide) rfl ?_
  intro p e s m args below meth c s₁ B hml hv
  obtain ⟨rfl, hH, hK⟩ := hv
  have hx := B.exec
  have hb := B.bytes
  have hr := B.returns
  have hts : ∀ q ∈ gALL, q.before _ s = true := fun q h => atoms_spec (ws := (wA yX4_isShort cX4_isShort 2 (some .boolean))) B.pre q (List.mem_cons_of_mem _ h)
  have hown : s.vm.findClass RX4 = some m.cls := findClass_of_methodNamed B.named
  have hlocks := B.notSynchronized
  have hS : va_S (FR w) s.heap s.heap [] := va_S.rf
  show W p l e ({ frames := 0, cells := 0, slots := 0, locals := 0 } : Room) s m _ below meth c s.heap [] 0 0 (MQ below (QI w K g S out) _ s 0 0 (FR w)) _
  have hl := lv_entry ([.ref a, .int p0]) (n := 2) (Nat.le_of_ble_eq_true rfl)
  rw [lg_entry_eq]
  generalize (lg_sl ([.ref a, .int p0]) ++ List.replicate (2 - (lg_sl ([.ref a, .int p0])).length) Slot.unset).toArray = ls at hl ⊢
  clear B
  generalize ([.ref a, .int p0] : List Value).toArray = args at hts ⊢
  have hl : lv_has ls 2 [(0, .ref a), (1, .int p0)] := hl
  refine lv_aload_n hx hb dX4_isShort_0 rfl (lv_at hl 0 rfl) ?_
  have k1 : K.1 (a + 4) = (10, 6) := hH.sub hk0 3 (t := (4, 10, 6)) rfl
  refine e_4_3 hx hb hts hown hK hH hk0 (hts _ wd_59) dX4_isShort_1 ?_
  refine lv_iload_n hx hb dX4_isShort_4 rfl (lv_at hl 1 rfl) ?_
  obtain ⟨h3, hf⟩ := gd_some hf
  refine g_iald hx hb hK hH k1 h3 dX4_isShort_5 ?_
  refine lv_aload_n hx hb dX4_isShort_6 rfl (lv_at hl 0 rfl) ?_
  have k4 : K.1 (a + 3) = (10, 3) := hH.sub hk0 2 (t := (3, 10, 3)) rfl
  refine e_4_2 hx hb hts hown hK hH hk0 (hts _ wd_58) dX4_isShort_7 ?_
  refine lv_iconst (v := 2) hx hb dX4_isShort_10 (by decide) ?_
  obtain ⟨h6, hf⟩ := gd_some hf
  refine g_iald hx hb hK hH k4 h6 dX4_isShort_11 ?_
  have hg := gif hf
  refine lv_icmp_ge (tgt := 19) hx hb dX4_isShort_12 (by decide) (fun c7 => ?_) (fun c7 => ?_)
  · have hf := hg.1 c7
    refine lv_iconst (v := 0) hx hb dX4_isShort_19 (by decide) ?_
    have ho := Option.some.inj hf
    exact W.zret (v := 0) (ty := .boolean) hx hb hr rfl (fun t ht hW => ⟨⟨0, (), rfl, ho, hrE ht hH⟩, hS.F ht⟩) hS.2.2 dX4_isShort_20
  · have hf := hg.2 c7
    refine lv_iconst (v := 1) hx hb dX4_isShort_15 (by decide) ?_
    refine lv_goto (tgt := 20) hx hb dX4_isShort_16 (by decide) ?_
    have ho := Option.some.inj hf
    exact W.zret (v := 1) (ty := .boolean) hx hb hr rfl (fun t ht hW => ⟨⟨1, (), rfl, ho, hrE ht hH⟩, hS.F ht⟩) hS.2.2 dX4_isShort_20
set_option maxRecDepth 100000 in
set_option maxHeartbeats 8000000 in
theorem c4_doStep (l : Launch) (w : GW) (K : GK) (g : GM) (S : GS) (a : Nat) (p0 : Int32) (out : GM) (hf : f4_doStep K g a p0 = some out) (hk0 : gkd K a = 5) : Met l yX4_doStep (wA yX4_doStep cX4_doStep 2 none) ({ frames := 3, cells := 0, slots := 0, locals := 66 } : Room) (PRE w K g S [.ref a, .int p0]) (QV w K out S) 0 0 (FR w) := by
  unfold f4_doStep at hf
  refine Met.ofW (cc := cX4_doStep) (maxL := 2) (ret := none) (by decide) rfl ?_
  intro p e s m args below meth c s₁ B hml hv
  obtain ⟨rfl, hH, hK⟩ := hv
  have hx := B.exec
  have hb := B.bytes
  have hr := B.returns
  have hts : ∀ q ∈ gALL, q.before _ s = true := fun q h => atoms_spec (ws := (wA yX4_doStep cX4_doStep 2 none)) B.pre q (List.mem_cons_of_mem _ h)
  have hown : s.vm.findClass RX4 = some m.cls := findClass_of_methodNamed B.named
  have hlocks := B.notSynchronized
  have hS : va_S (FR w) s.heap s.heap [] := va_S.rf
  show W p l e ({ frames := 3, cells := 0, slots := 0, locals := 66 } : Room) s m _ below meth c s.heap [] 0 0 (MQ below (QV w K out S) _ s 0 0 (FR w)) _
  have hl := lv_entry ([.ref a, .int p0]) (n := 2) (Nat.le_of_ble_eq_true rfl)
  rw [lg_entry_eq]
  generalize (lg_sl ([.ref a, .int p0]) ++ List.replicate (2 - (lg_sl ([.ref a, .int p0])).length) Slot.unset).toArray = ls at hl ⊢
  clear B
  generalize ([.ref a, .int p0] : List Value).toArray = args at hts ⊢
  have B123 : ∀ (g : GM) (s0 : Int32) (s1 : Int32) (H : Heap) (locs : List Loc) (ls : Array Slot), HR w K g S H → va_S (FR w) s.heap H locs → lv_has ls 2 [(0, .ref a)] → f4_doStep_123 K a p0 g s0 s1 = some out → W p l e ({ frames := 3, cells := 0, slots := 0, locals := 66 } : Room) s m args below meth c H locs 0 0 (MQ below (QV w K out S) args s 0 0 (FR w)) (F0 m 123 ls [.int s1, .int s0]) := by
    intro  g s0 s1 H locs ls hH hS hl hf
    unfold f4_doStep_123 at hf
    have hg := gif hf
    refine lv_icmp_ne (tgt := 136) hx hb dX4_doStep_123 (by decide) (fun c1 => ?_) (fun c1 => ?_)
    · have hf := hg.2 c1
      refine lv_aload_n hx hb dX4_doStep_136 rfl (lv_at hl 0 rfl) ?_
      have k2 : gkd K (a + 9) = 1 := congrArg Prod.fst (hH.sub hk0 8 (t := (9, 1, 0)) rfl)
      refine e_4_8 hx hb hts hown hK hH hk0 (hts _ wd_68) dX4_doStep_137 ?_
      obtain ⟨g3, h4, hf⟩ := gbind hf
      refine g_Vv (As := []) (rest := []) ⟨hx, hb, hml, hown, hts⟩ (c0_passOver l w K g S (a + 9) g3 h4 k2) (gcwV hts i0_passOver wd_412 rfl rfl ⟨Nat.le_of_ble_eq_true rfl, Nat.le_of_ble_eq_true rfl⟩) (gRecv.of hK rfl (hH.o1 k2)) hH hK hS hl.1 rfl rfl (Nat.le_of_ble_eq_true rfl) dX4_doStep_140 ⟨Nat.le_refl _, Nat.le_refl _⟩ (fun H locs hH hS => ?_)
      have ho := Option.some.inj hf
      exact W.vret hx hb hr (fun t ht hW => ⟨⟨(), rfl, trivial, hrV ht ho hH⟩, hS.F ht⟩) hS.2.2 dX4_doStep_143
    · have hf := hg.1 c1
      refine lv_aload_n hx hb dX4_doStep_126 rfl (lv_at hl 0 rfl) ?_
      have k5 : gkd K (a + 9) = 1 := congrArg Prod.fst (hH.sub hk0 8 (t := (9, 1, 0)) rfl)
      refine e_4_8 hx hb hts hown hK hH hk0 (hts _ wd_68) dX4_doStep_127 ?_
      obtain ⟨g6, h7, hf⟩ := gbind hf
      refine g_Vv (As := []) (rest := []) ⟨hx, hb, hml, hown, hts⟩ (c0_beginPart l w K g S (a + 9) g6 h7 k5) (gcwV hts i0_beginPart wd_437 rfl rfl ⟨Nat.le_of_ble_eq_true rfl, Nat.le_of_ble_eq_true rfl⟩) (gRecv.of hK rfl (hH.o1 k5)) hH hK hS hl.1 rfl rfl (Nat.le_of_ble_eq_true rfl) dX4_doStep_130 ⟨Nat.le_refl _, Nat.le_refl _⟩ (fun H locs hH hS => ?_)
      refine lv_goto (tgt := 143) hx hb dX4_doStep_133 (by decide) ?_
      have ho := Option.some.inj hf
      exact W.vret hx hb hr (fun t ht hW => ⟨⟨(), rfl, trivial, hrV ht ho hH⟩, hS.F ht⟩) hS.2.2 dX4_doStep_143
  have hl : lv_has ls 2 [(0, .ref a), (1, .int p0)] := hl
  refine lv_iload_n hx hb dX4_doStep_0 rfl (lv_at hl 1 rfl) ?_
  have hg := gif hf
  by_cases c8 : p0 = 99
  · have hf := hg.1 c8
    refine lv_lookup (tgt := 36) hx hb dX4_doStep_1 (by decide +kernel) (by rw [c8]; first | done | decide +kernel) (by decide) ?_
    refine lv_aload_n hx hb dX4_doStep_36 rfl (lv_at hl 0 rfl) ?_
    have k9 : gkd K (a + 9) = 1 := congrArg Prod.fst (hH.sub hk0 8 (t := (9, 1, 0)) rfl)
    refine e_4_8 hx hb hts hown hK hH hk0 (hts _ wd_68) dX4_doStep_37 ?_
    refine lv_aload_n hx hb dX4_doStep_40 rfl (lv_at hl 0 rfl) ?_
    refine e_4_8 hx hb hts hown hK hH hk0 (hts _ wd_68) dX4_doStep_41 ?_
    obtain ⟨v10, h11, hf⟩ := gbind hf
    refine g_Vi (As := []) (rest := [.ref (a + 9)]) ⟨hx, hb, hml, hown, hts⟩ (c0_stepDigit l w K g S (a + 9) v10 h11 k9) (gcwV hts i0_stepDigit wd_400 rfl rfl ⟨Nat.le_of_ble_eq_true rfl, Nat.le_of_ble_eq_true rfl⟩) (gRecv.of hK rfl (hH.o1 k9)) hH hK hS hl.1 rfl rfl (Nat.le_of_ble_eq_true rfl) dX4_doStep_44 ⟨Nat.le_refl _, Nat.le_refl _⟩ (fun H locs hH hS => ?_)
    obtain ⟨g12, h13, hf⟩ := gbind hf
    refine g_Vv (As := [.int v10]) (rest := []) ⟨hx, hb, hml, hown, hts⟩ (c0_dye l w K g S (a + 9) v10 g12 h13 k9) (gcwV hts i0_dye wd_433 rfl rfl ⟨Nat.le_of_ble_eq_true rfl, Nat.le_of_ble_eq_true rfl⟩) (gRecv.of hK rfl (hH.o1 k9)) hH hK hS hl.1 rfl rfl (Nat.le_of_ble_eq_true rfl) dX4_doStep_47 ⟨Nat.le_refl _, Nat.le_refl _⟩ (fun H locs hH hS => ?_)
    refine lv_aload_n hx hb dX4_doStep_50 rfl (lv_at hl 0 rfl) ?_
    refine e_4_8 hx hb hts hown hK hH hk0 (hts _ wd_68) dX4_doStep_51 ?_
    obtain ⟨g14, h15, hf⟩ := gbind hf
    refine g_Vv (As := []) (rest := []) ⟨hx, hb, hml, hown, hts⟩ (c0_passOver l w K g12 S (a + 9) g14 h15 k9) (gcwV hts i0_passOver wd_412 rfl rfl ⟨Nat.le_of_ble_eq_true rfl, Nat.le_of_ble_eq_true rfl⟩) (gRecv.of hK rfl (hH.o1 k9)) hH hK hS hl.1 rfl rfl (Nat.le_of_ble_eq_true rfl) dX4_doStep_54 ⟨Nat.le_refl _, Nat.le_refl _⟩ (fun H locs hH hS => ?_)
    refine lv_goto (tgt := 143) hx hb dX4_doStep_57 (by decide) ?_
    have ho := Option.some.inj hf
    exact W.vret hx hb hr (fun t ht hW => ⟨⟨(), rfl, trivial, hrV ht ho hH⟩, hS.F ht⟩) hS.2.2 dX4_doStep_143
  have hf := hg.2 c8
  have hg := gif hf
  by_cases c16 : p0 = 107
  · have hf := hg.1 c16
    refine lv_lookup (tgt := 60) hx hb dX4_doStep_1 (by decide +kernel) (by rw [c16]; first | done | decide +kernel) (by decide) ?_
    refine lv_aload_n hx hb dX4_doStep_60 rfl (lv_at hl 0 rfl) ?_
    refine lv_dup hx hb dX4_doStep_61 rfl ?_
    refine e_4_11 hx hb hts hown hK hH hk0 (hts _ wd_71) dX4_doStep_62 ?_
    refine lv_iconst (v := 1) hx hb dX4_doStep_65 (by decide) ?_
    refine lv_iadd hx hb dX4_doStep_66 ?_
    refine p_4_11 hx hb hts hown hK hH hS hk0 (hts _ wd_71) dX4_doStep_67 (fun H locs hH hS => ?_)
    obtain ⟨g17, eg17⟩ : ∃ z : GM, z = gsI g a 11 ((gI g a 11) + 1) := ⟨_, rfl⟩
    have hf := gl_at hf eg17
    replace hH : HR w K g17 S H := by rw [eg17]; exact hH
    refine lv_aload_n hx hb dX4_doStep_70 rfl (lv_at hl 0 rfl) ?_
    refine lv_aload_n hx hb dX4_doStep_71 rfl (lv_at hl 0 rfl) ?_
    have k18 : gkd K (a + 9) = 1 := congrArg Prod.fst (hH.sub hk0 8 (t := (9, 1, 0)) rfl)
    refine e_4_8 hx hb hts hown hK hH hk0 (hts _ wd_68) dX4_doStep_72 ?_
    obtain ⟨v19, h20, hf⟩ := gbind hf
    refine g_Vi (As := []) (rest := [.ref a]) ⟨hx, hb, hml, hown, hts⟩ (c0_stepDigit l w K g17 S (a + 9) v19 h20 k18) (gcwV hts i0_stepDigit wd_400 rfl rfl ⟨Nat.le_of_ble_eq_true rfl, Nat.le_of_ble_eq_true rfl⟩) (gRecv.of hK rfl (hH.o1 k18)) hH hK hS hl.1 rfl rfl (Nat.le_of_ble_eq_true rfl) dX4_doStep_75 ⟨Nat.le_refl _, Nat.le_refl _⟩ (fun H locs hH hS => ?_)
    refine lv_aload_n hx hb dX4_doStep_78 rfl (lv_at hl 0 rfl) ?_
    refine e_4_8 hx hb hts hown hK hH hk0 (hts _ wd_68) dX4_doStep_79 ?_
    obtain ⟨v21, h22, hf⟩ := gbind hf
    refine g_Vi (As := []) (rest := [.int v19, .ref a]) ⟨hx, hb, hml, hown, hts⟩ (c0_topColour l w K g17 S (a + 9) v21 h22 k18) (gcwV hts i0_topColour wd_396 rfl rfl ⟨Nat.le_of_ble_eq_true rfl, Nat.le_of_ble_eq_true rfl⟩) (gRecv.of hK rfl (hH.o1 k18)) hH hK hS hl.1 rfl rfl (Nat.le_of_ble_eq_true rfl) dX4_doStep_82 ⟨Nat.le_refl _, Nat.le_refl _⟩ (fun H locs hH hS => ?_)
    obtain ⟨g23, h24, hf⟩ := gbind hf
    refine g_Vv (As := [.int v19, .int v21]) (rest := []) ⟨hx, hb, hml, hown, hts⟩ (c4_layOnStack l w K g17 S a v19 v21 g23 h24 hk0) (gcwV hts i4_layOnStack wd_339 rfl rfl ⟨Nat.le_of_ble_eq_true rfl, Nat.le_of_ble_eq_true rfl⟩) (gRecv.of hK rfl (hH.o5 hk0)) hH hK hS hl.1 rfl rfl (Nat.le_of_ble_eq_true rfl) dX4_doStep_85 ⟨Nat.le_refl _, Nat.le_refl _⟩ (fun H locs hH hS => ?_)
    refine lv_goto (tgt := 143) hx hb dX4_doStep_88 (by decide) ?_
    have ho := Option.some.inj hf
    exact W.vret hx hb hr (fun t ht hW => ⟨⟨(), rfl, trivial, hrV ht ho hH⟩, hS.F ht⟩) hS.2.2 dX4_doStep_143
  have hf := hg.2 c16
  have hg := gif hf
  by_cases c25 : p0 = 120
  · have hf := hg.1 c25
    refine lv_lookup (tgt := 91) hx hb dX4_doStep_1 (by decide +kernel) (by rw [c25]; first | done | decide +kernel) (by decide) ?_
    refine lv_aload_n hx hb dX4_doStep_91 rfl (lv_at hl 0 rfl) ?_
    have k26 : gkd K (a + 9) = 1 := congrArg Prod.fst (hH.sub hk0 8 (t := (9, 1, 0)) rfl)
    refine e_4_8 hx hb hts hown hK hH hk0 (hts _ wd_68) dX4_doStep_92 ?_
    obtain ⟨g27, h28, hf⟩ := gbind hf
    refine g_Vv (As := []) (rest := []) ⟨hx, hb, hml, hown, hts⟩ (c0_beginPart l w K g S (a + 9) g27 h28 k26) (gcwV hts i0_beginPart wd_437 rfl rfl ⟨Nat.le_of_ble_eq_true rfl, Nat.le_of_ble_eq_true rfl⟩) (gRecv.of hK rfl (hH.o1 k26)) hH hK hS hl.1 rfl rfl (Nat.le_of_ble_eq_true rfl) dX4_doStep_95 ⟨Nat.le_refl _, Nat.le_refl _⟩ (fun H locs hH hS => ?_)
    refine lv_goto (tgt := 143) hx hb dX4_doStep_98 (by decide) ?_
    have ho := Option.some.inj hf
    exact W.vret hx hb hr (fun t ht hW => ⟨⟨(), rfl, trivial, hrV ht ho hH⟩, hS.F ht⟩) hS.2.2 dX4_doStep_143
  have hf := hg.2 c25
  have nc8 : p0.toInt ≠ 99 := g_ne c8 (by decide)
  have nc16 : p0.toInt ≠ 107 := g_ne c16 (by decide)
  have nc25 : p0.toInt ≠ 120 := g_ne c25 (by decide)
  refine lv_lookup (off := 100) (tgt := 101) hx hb dX4_doStep_1 (by decide +kernel) (by simp [Op.lookupswitch.offset, nc8, nc16, nc25, nc8.symm, nc16.symm, nc25.symm]) (by decide) ?_
  refine lv_aload_n hx hb dX4_doStep_101 rfl (lv_at hl 0 rfl) ?_
  refine lv_aload_n hx hb dX4_doStep_102 rfl (lv_at hl 0 rfl) ?_
  have k29 : gkd K (a + 9) = 1 := congrArg Prod.fst (hH.sub hk0 8 (t := (9, 1, 0)) rfl)
  refine e_4_8 hx hb hts hown hK hH hk0 (hts _ wd_68) dX4_doStep_103 ?_
  obtain ⟨v30, h31, hf⟩ := gbind hf
  refine g_Vi (As := []) (rest := [.ref a]) ⟨hx, hb, hml, hown, hts⟩ (c0_topColour l w K g S (a + 9) v30 h31 k29) (gcwV hts i0_topColour wd_396 rfl rfl ⟨Nat.le_of_ble_eq_true rfl, Nat.le_of_ble_eq_true rfl⟩) (gRecv.of hK rfl (hH.o1 k29)) hH hK hS hl.1 rfl rfl (Nat.le_of_ble_eq_true rfl) dX4_doStep_106 ⟨Nat.le_refl _, Nat.le_refl _⟩ (fun H locs hH hS => ?_)
  obtain ⟨v32, h33, hf⟩ := gbind hf
  refine g_Vi (As := [.int v30]) (rest := []) ⟨hx, hb, hml, hown, hts⟩ (c4_isShort l w K g S a v30 v32 h33 hk0) (gcwV hts i4_isShort wd_445 rfl rfl ⟨Nat.le_of_ble_eq_true rfl, Nat.le_of_ble_eq_true rfl⟩) (gRecv.of hK rfl (hH.o5 hk0)) hH hK hS hl.1 rfl rfl (Nat.le_of_ble_eq_true rfl) dX4_doStep_109 ⟨Nat.le_refl _, Nat.le_refl _⟩ (fun H locs hH hS => ?_)
  refine lv_iload_n hx hb dX4_doStep_112 rfl (lv_at hl 1 rfl) ?_
  refine lv_bipush (v := 115) hx hb dX4_doStep_113 (by decide) ?_
  have hg := gif hf
  refine lv_icmp_ne (tgt := 122) hx hb dX4_doStep_115 (by decide) (fun c34 => ?_) (fun c34 => ?_)
  · have hf := hg.2 c34
    refine lv_iconst (v := 0) hx hb dX4_doStep_122 (by decide) ?_
    exact B123 _ _ _ _ _ _ hH hS (lv_sub hl [0] rfl) hf
  · have hf := hg.1 c34
    refine lv_iconst (v := 1) hx hb dX4_doStep_118 (by decide) ?_
    refine lv_goto (tgt := 123) hx hb dX4_doStep_119 (by decide) ?_
    exact B123 _ _ _ _ _ _ hH hS (lv_sub hl [0] rfl) hf
set_option maxRecDepth 100000 in
set_option maxHeartbeats 8000000 in
theorem c4_endRank (l : Launch) (w : GW) (K : GK) (g : GM) (S : GS) (a : Nat) (p0 : Int32) (out : Int32) (hf : f4_endRank K g a p0 = some out) (hk0 : gkd K a = 5) : Met l yX4_endRank (wA yX4_endRank cX4_endRank 5 (some .int)) ({ frames := 0, cells := 0, slots := 0, locals := 0 } : Room) (PRE w K g S [.ref a, .int p0]) (QI w K g S out) 0 0 (FR w) := by
  unfold f4_endRank at hf
  refine Met.ofW (cc := cX4_endRank) (maxL := 5) (ret := (some .int)) (by decide) rfl ?_
  intro p e s m args below meth c s₁ B hml hv
  obtain ⟨rfl, hH, hK⟩ := hv
  have hx := B.exec
  have hb := B.bytes
  have hr := B.returns
  have hts : ∀ q ∈ gALL, q.before _ s = true := fun q h => atoms_spec (ws := (wA yX4_endRank cX4_endRank 5 (some .int))) B.pre q (List.mem_cons_of_mem _ h)
  have hown : s.vm.findClass RX4 = some m.cls := findClass_of_methodNamed B.named
  have hlocks := B.notSynchronized
  have hS : va_S (FR w) s.heap s.heap [] := va_S.rf
  show W p l e ({ frames := 0, cells := 0, slots := 0, locals := 0 } : Room) s m _ below meth c s.heap [] 0 0 (MQ below (QI w K g S out) _ s 0 0 (FR w)) _
  have hl := lv_entry ([.ref a, .int p0]) (n := 5) (Nat.le_of_ble_eq_true rfl)
  rw [lg_entry_eq]
  generalize (lg_sl ([.ref a, .int p0]) ++ List.replicate (5 - (lg_sl ([.ref a, .int p0])).length) Slot.unset).toArray = ls at hl ⊢
  clear B
  generalize ([.ref a, .int p0] : List Value).toArray = args at hts ⊢
  have B60 : ∀ (k4 : Int32 → Int32 → Option (Int32)), (∀ (x2 : Int32) (x3 : Int32) (H : Heap) (locs : List Loc) (ls : Array Slot), HR w K g S H → va_S (FR w) s.heap H locs → lv_has ls 5 [(0, .ref a), (1, .int p0), (2, .int x2), (3, .int x3)] → k4 x2 x3 = some out → W p l e ({ frames := 0, cells := 0, slots := 0, locals := 0 } : Room) s m args below meth c H locs 0 0 (MQ below (QI w K g S out) args s 0 0 (FR w)) (F0 m 4 ls [])) → ∀ (x2 : Int32) (x3 : Int32) (H : Heap) (locs : List Loc) (ls : Array Slot), HR w K g S H → va_S (FR w) s.heap H locs → lv_has ls 5 [(0, .ref a), (1, .int p0), (2, .int x2), (3, .int x3)] → f4_endRank_60 k4 K g a p0 x2 x3 = some out → W p l e ({ frames := 0, cells := 0, slots := 0, locals := 0 } : Room) s m args below meth c H locs 0 0 (MQ below (QI w K g S out) args s 0 0 (FR w)) (F0 m 60 ls []) := by
    intro k4 hk4 x2 x3 H locs ls hH hS hl hf
    unfold f4_endRank_60 at hf
    obtain ⟨v1, ev1⟩ : ∃ z : Int32, z = x3 + 1 := ⟨_, rfl⟩
    have hf := gl_at hf ev1
    refine lv_iinc (v := v1) (lv' := [(3, .int v1), (0, .ref a), (1, .int p0), (2, .int x2)]) hx hb dX4_endRank_60 hl (k := 3) rfl (by rw [ev1]; rfl) (by decide) rfl (fun ls hl => ?_)
    refine lv_goto (tgt := 4) hx hb dX4_endRank_63 (by decide) ?_
    exact hk4 _ _ _ _ _ hH hS (lv_sub hl [1, 2, 3, 0] rfl) hf
  have B57 : ∀ (k4 : Int32 → Int32 → Option (Int32)), (∀ (x2 : Int32) (x3 : Int32) (H : Heap) (locs : List Loc) (ls : Array Slot), HR w K g S H → va_S (FR w) s.heap H locs → lv_has ls 5 [(0, .ref a), (1, .int p0), (2, .int x2), (3, .int x3)] → k4 x2 x3 = some out → W p l e ({ frames := 0, cells := 0, slots := 0, locals := 0 } : Room) s m args below meth c H locs 0 0 (MQ below (QI w K g S out) args s 0 0 (FR w)) (F0 m 4 ls [])) → ∀ (x2 : Int32) (x3 : Int32) (H : Heap) (locs : List Loc) (ls : Array Slot), HR w K g S H → va_S (FR w) s.heap H locs → lv_has ls 5 [(0, .ref a), (1, .int p0), (2, .int x2), (3, .int x3)] → f4_endRank_57 k4 K g a p0 x2 x3 = some out → W p l e ({ frames := 0, cells := 0, slots := 0, locals := 0 } : Room) s m args below meth c H locs 0 0 (MQ below (QI w K g S out) args s 0 0 (FR w)) (F0 m 57 ls []) := by
    intro k4 hk4 x2 x3 H locs ls hH hS hl hf
    unfold f4_endRank_57 at hf
    obtain ⟨v2, ev2⟩ : ∃ z : Int32, z = x2 + 1 := ⟨_, rfl⟩
    have hf := gl_at hf ev2
    refine lv_iinc (v := v2) (lv' := [(2, .int v2), (0, .ref a), (1, .int p0), (3, .int x3)]) hx hb dX4_endRank_57 hl (k := 2) rfl (by rw [ev2]; rfl) (by decide) rfl (fun ls hl => ?_)
    exact B60 _ (hk4) _ _ _ _ _ hH hS (lv_sub hl [1, 2, 0, 3] rfl) hf
  have B30 : ∀ (k4 : Int32 → Int32 → Option (Int32)), (∀ (x2 : Int32) (x3 : Int32) (H : Heap) (locs : List Loc) (ls : Array Slot), HR w K g S H → va_S (FR w) s.heap H locs → lv_has ls 5 [(0, .ref a), (1, .int p0), (2, .int x2), (3, .int x3)] → k4 x2 x3 = some out → W p l e ({ frames := 0, cells := 0, slots := 0, locals := 0 } : Room) s m args below meth c H locs 0 0 (MQ below (QI w K g S out) args s 0 0 (FR w)) (F0 m 4 ls [])) → ∀ (x2 : Int32) (x3 : Int32) (s0 : Int32) (H : Heap) (locs : List Loc) (ls : Array Slot), HR w K g S H → va_S (FR w) s.heap H locs → lv_has ls 5 [(0, .ref a), (1, .int p0), (2, .int x2), (3, .int x3)] → f4_endRank_30 k4 K g a p0 x2 x3 s0 = some out → W p l e ({ frames := 0, cells := 0, slots := 0, locals := 0 } : Room) s m args below meth c H locs 0 0 (MQ below (QI w K g S out) args s 0 0 (FR w)) (F0 m 30 ls [.int s0]) := by
    intro k4 hk4 x2 x3 s0 H locs ls hH hS hl hf
    unfold f4_endRank_30 at hf
    refine lv_istore (lv' := [(4, .int s0), (0, .ref a), (1, .int p0), (2, .int x2), (3, .int x3)]) hx hb dX4_endRank_30 hl (by decide) rfl (fun ls hl => ?_)
    refine lv_iload hx hb dX4_endRank_32 (lv_at hl 0 rfl) ?_
    have hg := gif hf
    refine lv_if_ne (tgt := 57) hx hb dX4_endRank_34 (by decide) (fun c3 => ?_) (fun c3 => ?_)
    · have hf := hg.2 c3
      exact B57 _ (hk4) _ _ _ _ _ hH hS (lv_sub hl [1, 2, 3, 4] rfl) hf
    · have hf := hg.1 c3
      refine lv_aload_n hx hb dX4_endRank_37 rfl (lv_at hl 1 rfl) ?_
      have k4 : K.1 (a + 4) = (10, 6) := hH.sub hk0 3 (t := (4, 10, 6)) rfl
      refine e_4_3 hx hb hts hown hK hH hk0 (hts _ wd_59) dX4_endRank_38 ?_
      refine lv_iload_n hx hb dX4_endRank_41 rfl (lv_at hl 4 rfl) ?_
      obtain ⟨h6, hf⟩ := gd_some hf
      refine g_iald hx hb hK hH k4 h6 dX4_endRank_42 ?_
      refine lv_aload_n hx hb dX4_endRank_43 rfl (lv_at hl 1 rfl) ?_
      refine e_4_3 hx hb hts hown hK hH hk0 (hts _ wd_59) dX4_endRank_44 ?_
      refine lv_iload_n hx hb dX4_endRank_47 rfl (lv_at hl 2 rfl) ?_
      obtain ⟨h8, hf⟩ := gd_some hf
      refine g_iald hx hb hK hH k4 h8 dX4_endRank_48 ?_
      have hg := gif hf
      refine lv_icmp_ne (tgt := 60) hx hb dX4_endRank_49 (by decide) (fun c9 => ?_) (fun c9 => ?_)
      · have hf := hg.2 c9
        exact B60 _ (hk4) _ _ _ _ _ hH hS (lv_sub hl [1, 2, 3, 4] rfl) hf
      · have hf := hg.1 c9
        refine lv_iload_n hx hb dX4_endRank_52 rfl (lv_at hl 4 rfl) ?_
        refine lv_iload_n hx hb dX4_endRank_53 rfl (lv_at hl 2 rfl) ?_
        have hg := gif hf
        refine lv_icmp_ge (tgt := 60) hx hb dX4_endRank_54 (by decide) (fun c10 => ?_) (fun c10 => ?_)
        · have hf := hg.1 c10
          exact B60 _ (hk4) _ _ _ _ _ hH hS (lv_sub hl [1, 2, 3, 4] rfl) hf
        · have hf := hg.2 c10
          exact B57 _ (hk4) _ _ _ _ _ hH hS (lv_sub hl [1, 2, 3, 4] rfl) hf
  have B4 : ∀ n : Nat, ∀ (x2 : Int32) (x3 : Int32) (H : Heap) (locs : List Loc) (ls : Array Slot), HR w K g S H → va_S (FR w) s.heap H locs → lv_has ls 5 [(0, .ref a), (1, .int p0), (2, .int x2), (3, .int x3)] → f4_endRank_4 K g a p0 n x2 x3 = some out → W p l e ({ frames := 0, cells := 0, slots := 0, locals := 0 } : Room) s m args below meth c H locs 0 0 (MQ below (QI w K g S out) args s 0 0 (FR w)) (F0 m 4 ls []) := by
    intro n
    induction n with
    | zero =>
      intro x2 x3 H locs ls hH hS hl hf
      cases hf
    | succ n ih =>
      intro x2 x3 H locs ls hH hS hl hf
      rw [f4_endRank_4] at hf
      refine lv_iload_n hx hb dX4_endRank_4 rfl (lv_at hl 3 rfl) ?_
      refine lv_bipush (v := 6) hx hb dX4_endRank_5 (by decide) ?_
      have hg := gif hf
      refine lv_icmp_ge (tgt := 66) hx hb dX4_endRank_7 (by decide) (fun c11 => ?_) (fun c11 => ?_)
      · have hf := hg.1 c11
        refine lv_iload_n hx hb dX4_endRank_66 rfl (lv_at hl 2 rfl) ?_
        have ho := Option.some.inj hf
        exact W.iret (v := x2) hx hb hr (fun t ht hW => ⟨⟨x2, (), rfl, ho, hrE ht hH⟩, hS.F ht⟩) hS.2.2 dX4_endRank_67
      · have hf := hg.2 c11
        refine lv_aload_n hx hb dX4_endRank_10 rfl (lv_at hl 0 rfl) ?_
        have k12 : K.1 (a + 4) = (10, 6) := hH.sub hk0 3 (t := (4, 10, 6)) rfl
        refine e_4_3 hx hb hts hown hK hH hk0 (hts _ wd_59) dX4_endRank_11 ?_
        refine lv_iload_n hx hb dX4_endRank_14 rfl (lv_at hl 3 rfl) ?_
        obtain ⟨h14, hf⟩ := gd_some hf
        refine g_iald hx hb hK hH k12 h14 dX4_endRank_15 ?_
        refine lv_aload_n hx hb dX4_endRank_16 rfl (lv_at hl 0 rfl) ?_
        refine e_4_3 hx hb hts hown hK hH hk0 (hts _ wd_59) dX4_endRank_17 ?_
        refine lv_iload_n hx hb dX4_endRank_20 rfl (lv_at hl 1 rfl) ?_
        obtain ⟨h16, hf⟩ := gd_some hf
        refine g_iald hx hb hK hH k12 h16 dX4_endRank_21 ?_
        have hg := gif hf
        refine lv_icmp_ge (tgt := 29) hx hb dX4_endRank_22 (by decide) (fun c17 => ?_) (fun c17 => ?_)
        · have hf := hg.1 c17
          refine lv_iconst (v := 0) hx hb dX4_endRank_29 (by decide) ?_
          exact B30 _ (ih) _ _ _ _ _ _ hH hS (lv_sub hl [0, 1, 2, 3] rfl) hf
        · have hf := hg.2 c17
          refine lv_iconst (v := 1) hx hb dX4_endRank_25 (by decide) ?_
          refine lv_goto (tgt := 30) hx hb dX4_endRank_26 (by decide) ?_
          exact B30 _ (ih) _ _ _ _ _ _ hH hS (lv_sub hl [0, 1, 2, 3] rfl) hf
  have hl : lv_has ls 5 [(0, .ref a), (1, .int p0)] := hl
  refine lv_iconst (v := 0) hx hb dX4_endRank_0 (by decide) ?_
  refine lv_istore_n (lv' := [(2, .int 0), (0, .ref a), (1, .int p0)]) hx hb dX4_endRank_1 rfl hl (by decide) rfl (fun ls hl => ?_)
  refine lv_iconst (v := 0) hx hb dX4_endRank_2 (by decide) ?_
  refine lv_istore_n (lv' := [(3, .int 0), (2, .int 0), (0, .ref a), (1, .int p0)]) hx hb dX4_endRank_3 rfl hl (by decide) rfl (fun ls hl => ?_)
  exact B4 _ _ _ _ _ _ hH hS (lv_sub hl [2, 3, 1, 0] rfl) hf
set_option maxRecDepth 100000 in
set_option maxHeartbeats 8000000 in
theorem c4_hindranceAfter (l : Launch) (w : GW) (K : GK) (g : GM) (S : GS) (a : Nat) (p0 : Int32) (out : Int32) (hf : f4_hindranceAfter K g a p0 = some out) (hk0 : gkd K a = 5) : Met l yX4_hindranceAfter (wA yX4_hindranceAfter cX4_hindranceAfter 4 (some .int)) ({ frames := 2, cells := 0, slots := 0, locals := 41 } : Room) (PRE w K g S [.ref a, .int p0]) (QI w K g S out) 0 0 (FR w) := by
  unfold f4_hindranceAfter at hf
  refine Met.ofW (cc := cX4_hindranceAfter) (maxL := 4) (ret := (some .int)) (by decide) rfl ?_
  intro p e s m args below meth c s₁ B hml hv
  obtain ⟨rfl, hH, hK⟩ := hv
  have hx := B.exec
  have hb := B.bytes
  have hr := B.returns
  have hts : ∀ q ∈ gALL, q.before _ s = true := fun q h => atoms_spec (ws := (wA yX4_hindranceAfter cX4_hindranceAfter 4 (some .int))) B.pre q (List.mem_cons_of_mem _ h)
  have hown : s.vm.findClass RX4 = some m.cls := findClass_of_methodNamed B.named
  have hlocks := B.notSynchronized
  have hS : va_S (FR w) s.heap s.heap [] := va_S.rf
  show W p l e ({ frames := 2, cells := 0, slots := 0, locals := 41 } : Room) s m _ below meth c s.heap [] 0 0 (MQ below (QI w K g S out) _ s 0 0 (FR w)) _
  have hl := lv_entry ([.ref a, .int p0]) (n := 4) (Nat.le_of_ble_eq_true rfl)
  rw [lg_entry_eq]
  generalize (lg_sl ([.ref a, .int p0]) ++ List.replicate (4 - (lg_sl ([.ref a, .int p0])).length) Slot.unset).toArray = ls at hl ⊢
  clear B
  generalize ([.ref a, .int p0] : List Value).toArray = args at hts ⊢
  have B116 : ∀ (H : Heap) (locs : List Loc) (ls : Array Slot), HR w K g S H → va_S (FR w) s.heap H locs → lv_has ls 4 [(1, .int p0)] → f4_hindranceAfter_116 K g a p0 = some out → W p l e ({ frames := 2, cells := 0, slots := 0, locals := 41 } : Room) s m args below meth c H locs 0 0 (MQ below (QI w K g S out) args s 0 0 (FR w)) (F0 m 116 ls []) := by
    intro   H locs ls hH hS hl hf
    unfold f4_hindranceAfter_116 at hf
    refine lv_iload_n hx hb dX4_hindranceAfter_116 rfl (lv_at hl 0 rfl) ?_
    refine lv_sipush (v := 500) hx hb dX4_hindranceAfter_117 (by decide) ?_
    have hg := gif hf
    refine lv_icmp_lt (tgt := 128) hx hb dX4_hindranceAfter_120 (by decide) (fun c1 => ?_) (fun c1 => ?_)
    · have hf := hg.1 c1
      refine lv_iconst (v := 0) hx hb dX4_hindranceAfter_128 (by decide) ?_
      have ho := Option.some.inj hf
      exact W.iret (v := 0) hx hb hr (fun t ht hW => ⟨⟨0, (), rfl, ho, hrE ht hH⟩, hS.F ht⟩) hS.2.2 dX4_hindranceAfter_129
    · have hf := hg.2 c1
      refine lv_bipush (v := 7) hx hb dX4_hindranceAfter_123 (by decide) ?_
      refine lv_goto (tgt := 129) hx hb dX4_hindranceAfter_125 (by decide) ?_
      have ho := Option.some.inj hf
      exact W.iret (v := 7) hx hb hr (fun t ht hW => ⟨⟨7, (), rfl, ho, hrE ht hH⟩, hS.F ht⟩) hS.2.2 dX4_hindranceAfter_129
  have B74 : ∀ (x2 : Int32) (H : Heap) (locs : List Loc) (ls : Array Slot), HR w K g S H → va_S (FR w) s.heap H locs → lv_has ls 4 [(0, .ref a), (1, .int p0), (2, .int x2)] → f4_hindranceAfter_74 K g a p0 x2 = some out → W p l e ({ frames := 2, cells := 0, slots := 0, locals := 41 } : Room) s m args below meth c H locs 0 0 (MQ below (QI w K g S out) args s 0 0 (FR w)) (F0 m 74 ls []) := by
    intro  x2 H locs ls hH hS hl hf
    unfold f4_hindranceAfter_74 at hf
    refine lv_iload_n hx hb dX4_hindranceAfter_74 rfl (lv_at hl 2 rfl) ?_
    refine lv_bipush (v := 107) hx hb dX4_hindranceAfter_75 (by decide) ?_
    have hg := gif hf
    refine lv_icmp_ne (tgt := 116) hx hb dX4_hindranceAfter_77 (by decide) (fun c2 => ?_) (fun c2 => ?_)
    · have hf := hg.2 c2
      exact B116 _ _ _ hH hS (lv_sub hl [1] rfl) hf
    · have hf := hg.1 c2
      refine lv_aload_n hx hb dX4_hindranceAfter_80 rfl (lv_at hl 0 rfl) ?_
      have k3 : K.1 (a + 1) = (13, 10) := hH.sub hk0 0 (t := (1, 13, 10)) rfl
      refine e_4_0 hx hb hts hown hK hH hk0 (hts _ wd_56) dX4_hindranceAfter_81 ?_
      refine lv_aload_n hx hb dX4_hindranceAfter_84 rfl (lv_at hl 0 rfl) ?_
      have k4 : gkd K (a + 9) = 1 := congrArg Prod.fst (hH.sub hk0 8 (t := (9, 1, 0)) rfl)
      refine e_4_8 hx hb hts hown hK hH hk0 (hts _ wd_68) dX4_hindranceAfter_85 ?_
      obtain ⟨v5, h6, hf⟩ := gbind hf
      refine g_Vi (As := []) (rest := [.ref (a + 1)]) ⟨hx, hb, hml, hown, hts⟩ (c0_stepDigit l w K g S (a + 9) v5 h6 k4) (gcwV hts i0_stepDigit wd_400 rfl rfl ⟨Nat.le_of_ble_eq_true rfl, Nat.le_of_ble_eq_true rfl⟩) (gRecv.of hK rfl (hH.o1 k4)) hH hK hS hl.1 rfl rfl (Nat.le_of_ble_eq_true rfl) dX4_hindranceAfter_88 ⟨Nat.le_refl _, Nat.le_refl _⟩ (fun H locs hH hS => ?_)
      obtain ⟨h8, hf⟩ := gd_some hf
      refine g_tald hx hb hK hH k3 h8 dX4_hindranceAfter_91 ?_
      rcases gopt_c hf with ⟨q10, hf⟩ | ⟨t9, q10, hf⟩
      · refine g_rfN q10 ?_
        refine lv_ifnonnullN hx hb dX4_hindranceAfter_92 ?_
        refine lv_iconst (v := 5) hx hb dX4_hindranceAfter_95 (by decide) ?_
        have ho := Option.some.inj hf
        exact W.iret (v := 5) hx hb hr (fun t ht hW => ⟨⟨5, (), rfl, ho, hrE ht hH⟩, hS.F ht⟩) hS.2.2 dX4_hindranceAfter_96
      · refine g_rfS q10 ?_
        refine lv_ifnonnull (tgt := 97) hx hb dX4_hindranceAfter_92 (by decide) ?_
        refine lv_aload_n hx hb dX4_hindranceAfter_97 rfl (lv_at hl 0 rfl) ?_
        refine e_4_8 hx hb hts hown hK hH hk0 (hts _ wd_68) dX4_hindranceAfter_98 ?_
        refine e_0_6 hx hb hts hown hK hH k4 (hts _ wd_338) dX4_hindranceAfter_101 ?_
        refine lv_aload_n hx hb dX4_hindranceAfter_104 rfl (lv_at hl 0 rfl) ?_
        have k11 : K.1 (a + 3) = (10, 3) := hH.sub hk0 2 (t := (3, 10, 3)) rfl
        refine e_4_2 hx hb hts hown hK hH hk0 (hts _ wd_58) dX4_hindranceAfter_105 ?_
        refine lv_iconst (v := 0) hx hb dX4_hindranceAfter_108 (by decide) ?_
        obtain ⟨h13, hf⟩ := gd_some hf
        refine g_iald hx hb hK hH k11 h13 dX4_hindranceAfter_109 ?_
        have hg := gif hf
        refine lv_icmp_lt (tgt := 116) hx hb dX4_hindranceAfter_110 (by decide) (fun c14 => ?_) (fun c14 => ?_)
        · have hf := hg.1 c14
          exact B116 _ _ _ hH hS (lv_sub hl [1] rfl) hf
        · have hf := hg.2 c14
          refine lv_bipush (v := 6) hx hb dX4_hindranceAfter_113 (by decide) ?_
          have ho := Option.some.inj hf
          exact W.iret (v := 6) hx hb hr (fun t ht hW => ⟨⟨6, (), rfl, ho, hrE ht hH⟩, hS.F ht⟩) hS.2.2 dX4_hindranceAfter_115
  have hl : lv_has ls 4 [(0, .ref a), (1, .int p0)] := hl
  refine lv_aload_n hx hb dX4_hindranceAfter_0 rfl (lv_at hl 0 rfl) ?_
  have k15 : gkd K (a + 9) = 1 := congrArg Prod.fst (hH.sub hk0 8 (t := (9, 1, 0)) rfl)
  refine e_4_8 hx hb hts hown hK hH hk0 (hts _ wd_68) dX4_hindranceAfter_1 ?_
  refine e_0_6 hx hb hts hown hK hH k15 (hts _ wd_338) dX4_hindranceAfter_4 ?_
  have hg := gif hf
  refine lv_if_ne (tgt := 12) hx hb dX4_hindranceAfter_7 (by decide) (fun c16 => ?_) (fun c16 => ?_)
  · have hf := hg.2 c16
    refine lv_aload_n hx hb dX4_hindranceAfter_12 rfl (lv_at hl 0 rfl) ?_
    refine e_4_8 hx hb hts hown hK hH hk0 (hts _ wd_68) dX4_hindranceAfter_13 ?_
    obtain ⟨v17, h18, hf⟩ := gbind hf
    refine g_Vi (As := []) (rest := []) ⟨hx, hb, hml, hown, hts⟩ (c0_stepLetter l w K g S (a + 9) v17 h18 k15) (gcwV hts i0_stepLetter wd_384 rfl rfl ⟨Nat.le_of_ble_eq_true rfl, Nat.le_of_ble_eq_true rfl⟩) (gRecv.of hK rfl (hH.o1 k15)) hH hK hS hl.1 rfl rfl (Nat.le_of_ble_eq_true rfl) dX4_hindranceAfter_16 ⟨Nat.le_refl _, Nat.le_refl _⟩ (fun H locs hH hS => ?_)
    refine lv_istore_n (lv' := [(2, .int v17), (0, .ref a), (1, .int p0)]) hx hb dX4_hindranceAfter_19 rfl hl (by decide) rfl (fun ls hl => ?_)
    refine lv_iload_n hx hb dX4_hindranceAfter_20 rfl (lv_at hl 0 rfl) ?_
    refine lv_bipush (v := 119) hx hb dX4_hindranceAfter_21 (by decide) ?_
    have hg := gif hf
    refine lv_icmp_ne (tgt := 74) hx hb dX4_hindranceAfter_23 (by decide) (fun c19 => ?_) (fun c19 => ?_)
    · have hf := hg.2 c19
      exact B74 _ _ _ _ hH hS (lv_sub hl [1, 2, 0] rfl) hf
    · have hf := hg.1 c19
      refine lv_aload_n hx hb dX4_hindranceAfter_26 rfl (lv_at hl 1 rfl) ?_
      refine e_4_8 hx hb hts hown hK hH hk0 (hts _ wd_68) dX4_hindranceAfter_27 ?_
      obtain ⟨v20, h21, hf⟩ := gbind hf
      refine g_Vi (As := []) (rest := []) ⟨hx, hb, hml, hown, hts⟩ (c0_topColour l w K g S (a + 9) v20 h21 k15) (gcwV hts i0_topColour wd_396 rfl rfl ⟨Nat.le_of_ble_eq_true rfl, Nat.le_of_ble_eq_true rfl⟩) (gRecv.of hK rfl (hH.o1 k15)) hH hK hS hl.1 rfl rfl (Nat.le_of_ble_eq_true rfl) dX4_hindranceAfter_30 ⟨Nat.le_refl _, Nat.le_refl _⟩ (fun H locs hH hS => ?_)
      refine lv_istore_n (lv' := [(3, .int v20), (2, .int v17), (0, .ref a), (1, .int p0)]) hx hb dX4_hindranceAfter_33 rfl hl (by decide) rfl (fun ls hl => ?_)
      refine lv_aload_n hx hb dX4_hindranceAfter_34 rfl (lv_at hl 2 rfl) ?_
      have k22 : K.1 (a + 4) = (10, 6) := hH.sub hk0 3 (t := (4, 10, 6)) rfl
      refine e_4_3 hx hb hts hown hK hH hk0 (hts _ wd_59) dX4_hindranceAfter_35 ?_
      refine lv_iload_n hx hb dX4_hindranceAfter_38 rfl (lv_at hl 0 rfl) ?_
      obtain ⟨h24, hf⟩ := gd_some hf
      refine g_iald hx hb hK hH k22 h24 dX4_hindranceAfter_39 ?_
      have hg := gif hf
      refine lv_if_ne (tgt := 45) hx hb dX4_hindranceAfter_40 (by decide) (fun c25 => ?_) (fun c25 => ?_)
      · have hf := hg.2 c25
        refine lv_aload_n hx hb dX4_hindranceAfter_45 rfl (lv_at hl 2 rfl) ?_
        have k26 : K.1 (a + 5) = (10, 6) := hH.sub hk0 4 (t := (5, 10, 6)) rfl
        refine e_4_4 hx hb hts hown hK hH hk0 (hts _ wd_60) dX4_hindranceAfter_46 ?_
        refine lv_iload_n hx hb dX4_hindranceAfter_49 rfl (lv_at hl 0 rfl) ?_
        refine g_iald hx hb hK hH k26 h24 dX4_hindranceAfter_50 ?_
        refine lv_aload_n hx hb dX4_hindranceAfter_51 rfl (lv_at hl 2 rfl) ?_
        have k28 : K.1 (a + 3) = (10, 3) := hH.sub hk0 2 (t := (3, 10, 3)) rfl
        refine e_4_2 hx hb hts hown hK hH hk0 (hts _ wd_58) dX4_hindranceAfter_52 ?_
        refine lv_iconst (v := 1) hx hb dX4_hindranceAfter_55 (by decide) ?_
        obtain ⟨h30, hf⟩ := gd_some hf
        refine g_iald hx hb hK hH k28 h30 dX4_hindranceAfter_56 ?_
        have hg := gif hf
        refine lv_icmp_lt (tgt := 62) hx hb dX4_hindranceAfter_57 (by decide) (fun c31 => ?_) (fun c31 => ?_)
        · have hf := hg.1 c31
          refine lv_aload_n hx hb dX4_hindranceAfter_62 rfl (lv_at hl 2 rfl) ?_
          refine e_4_9 hx hb hts hown hK hH hk0 (hts _ wd_69) dX4_hindranceAfter_63 ?_
          refine lv_sipush (v := 400) hx hb dX4_hindranceAfter_66 (by decide) ?_
          have hg := gif hf
          refine lv_icmp_lt (tgt := 74) hx hb dX4_hindranceAfter_69 (by decide) (fun c32 => ?_) (fun c32 => ?_)
          · have hf := hg.1 c32
            exact B74 _ _ _ _ hH hS (lv_sub hl [2, 3, 1] rfl) hf
          · have hf := hg.2 c32
            refine lv_iconst (v := 4) hx hb dX4_hindranceAfter_72 (by decide) ?_
            have ho := Option.some.inj hf
            exact W.iret (v := 4) hx hb hr (fun t ht hW => ⟨⟨4, (), rfl, ho, hrE ht hH⟩, hS.F ht⟩) hS.2.2 dX4_hindranceAfter_73
        · have hf := hg.2 c31
          refine lv_iconst (v := 3) hx hb dX4_hindranceAfter_60 (by decide) ?_
          have ho := Option.some.inj hf
          exact W.iret (v := 3) hx hb hr (fun t ht hW => ⟨⟨3, (), rfl, ho, hrE ht hH⟩, hS.F ht⟩) hS.2.2 dX4_hindranceAfter_61
      · have hf := hg.1 c25
        refine lv_iconst (v := 2) hx hb dX4_hindranceAfter_43 (by decide) ?_
        have ho := Option.some.inj hf
        exact W.iret (v := 2) hx hb hr (fun t ht hW => ⟨⟨2, (), rfl, ho, hrE ht hH⟩, hS.F ht⟩) hS.2.2 dX4_hindranceAfter_44
  · have hf := hg.1 c16
    refine lv_iconst (v := 1) hx hb dX4_hindranceAfter_10 (by decide) ?_
    have ho := Option.some.inj hf
    exact W.iret (v := 1) hx hb hr (fun t ht hW => ⟨⟨1, (), rfl, ho, hrE ht hH⟩, hS.F ht⟩) hS.2.2 dX4_hindranceAfter_11
set_option maxRecDepth 100000 in
set_option maxHeartbeats 8000000 in
theorem c4_weavePick (l : Launch) (w : GW) (K : GK) (g : GM) (S : GS) (a : Nat) (out : GM) (hf : f4_weavePick K g a = some out) (hk0 : gkd K a = 5) : Met l yX4_weavePick (wA yX4_weavePick cX4_weavePick 2 none) ({ frames := 3, cells := 0, slots := 0, locals := 64 } : Room) (PRE w K g S [.ref a]) (QV w K out S) 0 0 (FR w) := by
  unfold f4_weavePick at hf
  refine Met.ofW (cc := cX4_weavePick) (maxL := 2) (ret := none) (by decide) rfl ?_
  intro p e s m args below meth c s₁ B hml hv
  obtain ⟨rfl, hH, hK⟩ := hv
  have hx := B.exec
  have hb := B.bytes
  have hr := B.returns
  have hts : ∀ q ∈ gALL, q.before _ s = true := fun q h => atoms_spec (ws := (wA yX4_weavePick cX4_weavePick 2 none)) B.pre q (List.mem_cons_of_mem _ h)
  have hown : s.vm.findClass RX4 = some m.cls := findClass_of_methodNamed B.named
  have hlocks := B.notSynchronized
  have hS : va_S (FR w) s.heap s.heap [] := va_S.rf
  show W p l e ({ frames := 3, cells := 0, slots := 0, locals := 64 } : Room) s m _ below meth c s.heap [] 0 0 (MQ below (QV w K out S) _ s 0 0 (FR w)) _
  have hl := lv_entry ([.ref a]) (n := 2) (Nat.le_of_ble_eq_true rfl)
  rw [lg_entry_eq]
  generalize (lg_sl ([.ref a]) ++ List.replicate (2 - (lg_sl ([.ref a])).length) Slot.unset).toArray = ls at hl ⊢
  clear B
  generalize ([.ref a] : List Value).toArray = args at hts ⊢
  have hl : lv_has ls 2 [(0, .ref a)] := hl
  refine lv_aload_n hx hb dX4_weavePick_0 rfl (lv_at hl 0 rfl) ?_
  have k1 : gkd K (a + 9) = 1 := congrArg Prod.fst (hH.sub hk0 8 (t := (9, 1, 0)) rfl)
  refine e_4_8 hx hb hts hown hK hH hk0 (hts _ wd_68) dX4_weavePick_1 ?_
  obtain ⟨v2, h3, hf⟩ := gbind hf
  refine g_Vi (As := []) (rest := []) ⟨hx, hb, hml, hown, hts⟩ (c0_topColour l w K g S (a + 9) v2 h3 k1) (gcwV hts i0_topColour wd_396 rfl rfl ⟨Nat.le_of_ble_eq_true rfl, Nat.le_of_ble_eq_true rfl⟩) (gRecv.of hK rfl (hH.o1 k1)) hH hK hS hl.1 rfl rfl (Nat.le_of_ble_eq_true rfl) dX4_weavePick_4 ⟨Nat.le_refl _, Nat.le_refl _⟩ (fun H locs hH hS => ?_)
  refine lv_istore_n (lv' := [(1, .int v2), (0, .ref a)]) hx hb dX4_weavePick_7 rfl hl (by decide) rfl (fun ls hl => ?_)
  refine lv_aload_n hx hb dX4_weavePick_8 rfl (lv_at hl 1 rfl) ?_
  have k4 : K.1 (a + 4) = (10, 6) := hH.sub hk0 3 (t := (4, 10, 6)) rfl
  refine e_4_3 hx hb hts hown hK hH hk0 (hts _ wd_59) dX4_weavePick_9 ?_
  refine lv_iload_n hx hb dX4_weavePick_12 rfl (lv_at hl 0 rfl) ?_
  refine lv_dup2_11 hx hb dX4_weavePick_13 rfl rfl ?_
  obtain ⟨h6, hf⟩ := gd_some hf
  refine g_iald hx hb hK hH k4 h6 dX4_weavePick_14 ?_
  refine lv_iconst (v := 1) hx hb dX4_weavePick_15 (by decide) ?_
  refine lv_isub hx hb dX4_weavePick_16 ?_
  refine g_iast hx hb hK hH hS k4 h6 dX4_weavePick_17 (fun H locs hH hS => ?_)
  obtain ⟨g8, eg8⟩ : ∃ z : GM, z = gsI g (a + 4) v2.toNatClampNeg ((gI g (a + 4) v2.toNatClampNeg) - 1) := ⟨_, rfl⟩
  have hf := gl_at hf eg8
  replace hH : HR w K g8 S H := by rw [eg8]; exact hH
  refine lv_aload_n hx hb dX4_weavePick_18 rfl (lv_at hl 1 rfl) ?_
  have k9 : K.1 (a + 5) = (10, 6) := hH.sub hk0 4 (t := (5, 10, 6)) rfl
  refine e_4_4 hx hb hts hown hK hH hk0 (hts _ wd_60) dX4_weavePick_19 ?_
  refine lv_iload_n hx hb dX4_weavePick_22 rfl (lv_at hl 0 rfl) ?_
  refine lv_dup2_11 hx hb dX4_weavePick_23 rfl rfl ?_
  refine g_iald hx hb hK hH k9 h6 dX4_weavePick_24 ?_
  refine lv_iconst (v := 1) hx hb dX4_weavePick_25 (by decide) ?_
  refine lv_iadd hx hb dX4_weavePick_26 ?_
  refine g_iast hx hb hK hH hS k9 h6 dX4_weavePick_27 (fun H locs hH hS => ?_)
  obtain ⟨g12, eg12⟩ : ∃ z : GM, z = gsI g8 (a + 5) v2.toNatClampNeg ((gI g8 (a + 5) v2.toNatClampNeg) + 1) := ⟨_, rfl⟩
  have hf := gl_at hf eg12
  replace hH : HR w K g12 S H := by rw [eg12]; exact hH
  refine lv_aload_n hx hb dX4_weavePick_28 rfl (lv_at hl 1 rfl) ?_
  have k13 : K.1 (a + 7) = (10, 6) := hH.sub hk0 6 (t := (7, 10, 6)) rfl
  refine e_4_6 hx hb hts hown hK hH hk0 (hts _ wd_62) dX4_weavePick_29 ?_
  refine lv_iload_n hx hb dX4_weavePick_32 rfl (lv_at hl 0 rfl) ?_
  refine lv_dup2_11 hx hb dX4_weavePick_33 rfl rfl ?_
  refine g_iald hx hb hK hH k13 h6 dX4_weavePick_34 ?_
  refine lv_iconst (v := 1) hx hb dX4_weavePick_35 (by decide) ?_
  refine lv_iadd hx hb dX4_weavePick_36 ?_
  refine g_iast hx hb hK hH hS k13 h6 dX4_weavePick_37 (fun H locs hH hS => ?_)
  obtain ⟨g16, eg16⟩ : ∃ z : GM, z = gsI g12 (a + 7) v2.toNatClampNeg ((gI g12 (a + 7) v2.toNatClampNeg) + 1) := ⟨_, rfl⟩
  have hf := gl_at hf eg16
  replace hH : HR w K g16 S H := by rw [eg16]; exact hH
  refine lv_aload_n hx hb dX4_weavePick_38 rfl (lv_at hl 1 rfl) ?_
  have k17 : K.1 (a + 8) = (12, 400) := hH.sub hk0 7 (t := (8, 12, 400)) rfl
  refine e_4_7 hx hb hts hown hK hH hk0 (hts _ wd_64) dX4_weavePick_39 ?_
  refine lv_aload_n hx hb dX4_weavePick_42 rfl (lv_at hl 1 rfl) ?_
  refine e_4_9 hx hb hts hown hK hH hk0 (hts _ wd_69) dX4_weavePick_43 ?_
  refine lv_iload_n hx hb dX4_weavePick_46 rfl (lv_at hl 0 rfl) ?_
  refine lv_i2b hx hb dX4_weavePick_47 rfl ?_
  obtain ⟨h19, hf⟩ := gd_some hf
  refine g_bast hx hb hK hH hS k17 h19 dX4_weavePick_48 (fun H locs hH hS => ?_)
  obtain ⟨g20, eg20⟩ : ∃ z : GM, z = gsI g16 (a + 8) (gI g16 a 9).toNatClampNeg v2.toInt8.toInt32.toInt8.toInt32 := ⟨_, rfl⟩
  have hf := gl_at hf eg20
  replace hH : HR w K g20 S H := by rw [eg20]; exact hH
  refine lv_aload_n hx hb dX4_weavePick_49 rfl (lv_at hl 1 rfl) ?_
  refine lv_dup hx hb dX4_weavePick_50 rfl ?_
  refine e_4_9 hx hb hts hown hK hH hk0 (hts _ wd_69) dX4_weavePick_51 ?_
  refine lv_iconst (v := 1) hx hb dX4_weavePick_54 (by decide) ?_
  refine lv_iadd hx hb dX4_weavePick_55 ?_
  refine p_4_9 hx hb hts hown hK hH hS hk0 (hts _ wd_69) dX4_weavePick_56 (fun H locs hH hS => ?_)
  obtain ⟨g21, eg21⟩ : ∃ z : GM, z = gsI g20 a 9 ((gI g20 a 9) + 1) := ⟨_, rfl⟩
  have hf := gl_at hf eg21
  replace hH : HR w K g21 S H := by rw [eg21]; exact hH
  refine lv_aload_n hx hb dX4_weavePick_59 rfl (lv_at hl 1 rfl) ?_
  refine e_4_8 hx hb hts hown hK hH hk0 (hts _ wd_68) dX4_weavePick_60 ?_
  obtain ⟨g22, h23, hf⟩ := gbind hf
  refine g_Vv (As := []) (rest := []) ⟨hx, hb, hml, hown, hts⟩ (c0_passOver l w K g21 S (a + 9) g22 h23 k1) (gcwV hts i0_passOver wd_412 rfl rfl ⟨Nat.le_of_ble_eq_true rfl, Nat.le_of_ble_eq_true rfl⟩) (gRecv.of hK rfl (hH.o1 k1)) hH hK hS hl.1 rfl rfl (Nat.le_of_ble_eq_true rfl) dX4_weavePick_63 ⟨Nat.le_refl _, Nat.le_refl _⟩ (fun H locs hH hS => ?_)
  have ho := Option.some.inj hf
  exact W.vret hx hb hr (fun t ht hW => ⟨⟨(), rfl, trivial, hrV ht ho hH⟩, hS.F ht⟩) hS.2.2 dX4_weavePick_66
set_option maxRecDepth 100000 in
set_option maxHeartbeats 8000000 in
theorem c4_weaveNext (l : Launch) (w : GW) (K : GK) (g : GM) (S : GS) (a : Nat) (out : GM × Int32) (hf : f4_weaveNext K g a = some out) (hk0 : gkd K a = 5) : Met l yX4_weaveNext (wA yX4_weaveNext cX4_weaveNext 4 (some .int)) ({ frames := 4, cells := 0, slots := 0, locals := 87 } : Room) (PRE w K g S [.ref a]) (QI w K out.1 S out.2) 0 0 (FR w) := by
  unfold f4_weaveNext at hf
  refine Met.ofW (cc := cX4_weaveNext) (maxL := 4) (ret := (some .int)) (by decide) rfl ?_
  intro p e s m args below meth c s₁ B hml hv
  obtain ⟨rfl, hH, hK⟩ := hv
  have hx := B.exec
  have hb := B.bytes
  have hr := B.returns
  have hts : ∀ q ∈ gALL, q.before _ s = true := fun q h => atoms_spec (ws := (wA yX4_weaveNext cX4_weaveNext 4 (some .int))) B.pre q (List.mem_cons_of_mem _ h)
  have hown : s.vm.findClass RX4 = some m.cls := findClass_of_methodNamed B.named
  have hlocks := B.notSynchronized
  have hS : va_S (FR w) s.heap s.heap [] := va_S.rf
  show W p l e ({ frames := 4, cells := 0, slots := 0, locals := 87 } : Room) s m _ below meth c s.heap [] 0 0 (MQ below (QI w K out.1 S out.2) _ s 0 0 (FR w)) _
  have hl := lv_entry ([.ref a]) (n := 4) (Nat.le_of_ble_eq_true rfl)
  rw [lg_entry_eq]
  generalize (lg_sl ([.ref a]) ++ List.replicate (4 - (lg_sl ([.ref a])).length) Slot.unset).toArray = ls at hl ⊢
  clear B
  generalize ([.ref a] : List Value).toArray = args at hts ⊢
  have B47 : ∀ (k2 : GM → Int32 → Option (GM × Int32)), (∀ (g : GM) (x1 : Int32) (H : Heap) (locs : List Loc) (ls : Array Slot), HR w K g S H → va_S (FR w) s.heap H locs → lv_has ls 4 [(0, .ref a), (1, .int x1)] → k2 g x1 = some out → W p l e ({ frames := 4, cells := 0, slots := 0, locals := 87 } : Room) s m args below meth c H locs 0 0 (MQ below (QI w K out.1 S out.2) args s 0 0 (FR w)) (F0 m 2 ls [])) → ∀ (g : GM) (x1 : Int32) (x3 : Int32) (H : Heap) (locs : List Loc) (ls : Array Slot), HR w K g S H → va_S (FR w) s.heap H locs → lv_has ls 4 [(0, .ref a), (1, .int x1), (3, .int x3)] → f4_weaveNext_47 k2 K a g x1 x3 = some out → W p l e ({ frames := 4, cells := 0, slots := 0, locals := 87 } : Room) s m args below meth c H locs 0 0 (MQ below (QI w K out.1 S out.2) args s 0 0 (FR w)) (F0 m 47 ls []) := by
    intro k2 hk2 g x1 x3 H locs ls hH hS hl hf
    unfold f4_weaveNext_47 at hf
    refine lv_aload_n hx hb dX4_weaveNext_47 rfl (lv_at hl 0 rfl) ?_
    have k1 : gkd K (a + 9) = 1 := congrArg Prod.fst (hH.sub hk0 8 (t := (9, 1, 0)) rfl)
    refine e_4_8 hx hb hts hown hK hH hk0 (hts _ wd_68) dX4_weaveNext_48 ?_
    obtain ⟨g2, h3, hf⟩ := gbind hf
    refine g_Vv (As := []) (rest := []) ⟨hx, hb, hml, hown, hts⟩ (c0_leaveEnds l w K g S (a + 9) g2 h3 k1) (gcwV hts i0_leaveEnds wd_449 rfl rfl ⟨Nat.le_of_ble_eq_true rfl, Nat.le_of_ble_eq_true rfl⟩) (gRecv.of hK rfl (hH.o1 k1)) hH hK hS hl.1 rfl rfl (Nat.le_of_ble_eq_true rfl) dX4_weaveNext_51 ⟨Nat.le_refl _, Nat.le_refl _⟩ (fun H locs hH hS => ?_)
    refine lv_iload_n hx hb dX4_weaveNext_54 rfl (lv_at hl 2 rfl) ?_
    refine lv_bipush (v := 119) hx hb dX4_weaveNext_55 (by decide) ?_
    have hg := gif hf
    refine lv_icmp_ne (tgt := 62) hx hb dX4_weaveNext_57 (by decide) (fun c4 => ?_) (fun c4 => ?_)
    · have hf := hg.2 c4
      obtain ⟨v5, ev5⟩ : ∃ z : Int32, z = x1 + 1 := ⟨_, rfl⟩
      have hf := gl_at hf ev5
      refine lv_iinc (v := v5) (lv' := [(1, .int v5), (0, .ref a), (3, .int x3)]) hx hb dX4_weaveNext_62 hl (k := 1) rfl (by rw [ev5]; rfl) (by decide) rfl (fun ls hl => ?_)
      refine lv_goto (tgt := 2) hx hb dX4_weaveNext_65 (by decide) ?_
      exact hk2 _ _ _ _ _ hH hS (lv_sub hl [1, 0] rfl) hf
    · have hf := hg.1 c4
      refine lv_iconst (v := 0) hx hb dX4_weaveNext_60 (by decide) ?_
      have ho := Option.some.inj hf
      exact W.iret (v := 0) hx hb hr (fun t ht hW => ⟨⟨0, (), rfl, congrArg Prod.snd ho, hrP ht ho hH⟩, hS.F ht⟩) hS.2.2 dX4_weaveNext_61
  have B2 : ∀ n : Nat, ∀ (g : GM) (x1 : Int32) (H : Heap) (locs : List Loc) (ls : Array Slot), HR w K g S H → va_S (FR w) s.heap H locs → lv_has ls 4 [(0, .ref a), (1, .int x1)] → f4_weaveNext_2 K a n g x1 = some out → W p l e ({ frames := 4, cells := 0, slots := 0, locals := 87 } : Room) s m args below meth c H locs 0 0 (MQ below (QI w K out.1 S out.2) args s 0 0 (FR w)) (F0 m 2 ls []) := by
    intro n
    induction n with
    | zero =>
      intro g x1 H locs ls hH hS hl hf
      cases hf
    | succ n ih =>
      intro g x1 H locs ls hH hS hl hf
      rw [f4_weaveNext_2] at hf
      refine lv_iload_n hx hb dX4_weaveNext_2 rfl (lv_at hl 1 rfl) ?_
      refine lv_sipush (v := 500) hx hb dX4_weaveNext_3 (by decide) ?_
      have hg := gif hf
      refine lv_icmp_gt (tgt := 68) hx hb dX4_weaveNext_6 (by decide) (fun c6 => ?_) (fun c6 => ?_)
      · have hf := hg.1 c6
        refine lv_bipush (v := 7) hx hb dX4_weaveNext_68 (by decide) ?_
        have ho := Option.some.inj hf
        exact W.iret (v := 7) hx hb hr (fun t ht hW => ⟨⟨7, (), rfl, congrArg Prod.snd ho, hrP ht ho hH⟩, hS.F ht⟩) hS.2.2 dX4_weaveNext_70
      · have hf := hg.2 c6
        refine lv_aload_n hx hb dX4_weaveNext_9 rfl (lv_at hl 0 rfl) ?_
        refine lv_iload_n hx hb dX4_weaveNext_10 rfl (lv_at hl 1 rfl) ?_
        obtain ⟨v7, h8, hf⟩ := gbind hf
        refine g_Vi (As := [.int x1]) (rest := []) ⟨hx, hb, hml, hown, hts⟩ (c4_hindranceAfter l w K g S a x1 v7 h8 hk0) (gcwV hts i4_hindranceAfter wd_380 rfl rfl ⟨Nat.le_of_ble_eq_true rfl, Nat.le_of_ble_eq_true rfl⟩) (gRecv.of hK rfl (hH.o5 hk0)) hH hK hS hl.1 rfl rfl (Nat.le_of_ble_eq_true rfl) dX4_weaveNext_11 ⟨Nat.le_refl _, Nat.le_refl _⟩ (fun H locs hH hS => ?_)
        refine lv_istore_n (lv' := [(2, .int v7), (0, .ref a), (1, .int x1)]) hx hb dX4_weaveNext_14 rfl hl (by decide) rfl (fun ls hl => ?_)
        refine lv_iload_n hx hb dX4_weaveNext_15 rfl (lv_at hl 0 rfl) ?_
        have hg := gif hf
        refine lv_if_eq (tgt := 21) hx hb dX4_weaveNext_16 (by decide) (fun c9 => ?_) (fun c9 => ?_)
        · have hf := hg.1 c9
          refine lv_aload_n hx hb dX4_weaveNext_21 rfl (lv_at hl 1 rfl) ?_
          have k10 : gkd K (a + 9) = 1 := congrArg Prod.fst (hH.sub hk0 8 (t := (9, 1, 0)) rfl)
          refine e_4_8 hx hb hts hown hK hH hk0 (hts _ wd_68) dX4_weaveNext_22 ?_
          obtain ⟨v11, h12, hf⟩ := gbind hf
          refine g_Vi (As := []) (rest := []) ⟨hx, hb, hml, hown, hts⟩ (c0_stepLetter l w K g S (a + 9) v11 h12 k10) (gcwV hts i0_stepLetter wd_384 rfl rfl ⟨Nat.le_of_ble_eq_true rfl, Nat.le_of_ble_eq_true rfl⟩) (gRecv.of hK rfl (hH.o1 k10)) hH hK hS hl.1 rfl rfl (Nat.le_of_ble_eq_true rfl) dX4_weaveNext_25 ⟨Nat.le_refl _, Nat.le_refl _⟩ (fun H locs hH hS => ?_)
          refine lv_istore_n (lv' := [(3, .int v11), (2, .int v7), (0, .ref a), (1, .int x1)]) hx hb dX4_weaveNext_28 rfl hl (by decide) rfl (fun ls hl => ?_)
          refine lv_iload_n hx hb dX4_weaveNext_29 rfl (lv_at hl 0 rfl) ?_
          refine lv_bipush (v := 119) hx hb dX4_weaveNext_30 (by decide) ?_
          have hg := gif hf
          refine lv_icmp_ne (tgt := 42) hx hb dX4_weaveNext_32 (by decide) (fun c13 => ?_) (fun c13 => ?_)
          · have hf := hg.2 c13
            refine lv_aload_n hx hb dX4_weaveNext_42 rfl (lv_at hl 2 rfl) ?_
            refine lv_iload_n hx hb dX4_weaveNext_43 rfl (lv_at hl 0 rfl) ?_
            obtain ⟨g14, h15, hf⟩ := gbind hf
            refine g_Vv (As := [.int v11]) (rest := []) ⟨hx, hb, hml, hown, hts⟩ (c4_doStep l w K g S a v11 g14 h15 hk0) (gcwV hts i4_doStep wd_429 rfl rfl ⟨Nat.le_of_ble_eq_true rfl, Nat.le_of_ble_eq_true rfl⟩) (gRecv.of hK rfl (hH.o5 hk0)) hH hK hS hl.1 rfl rfl (Nat.le_of_ble_eq_true rfl) dX4_weaveNext_44 ⟨Nat.le_refl _, Nat.le_refl _⟩ (fun H locs hH hS => ?_)
            exact B47 _ (ih) _ _ _ _ _ _ hH hS (lv_sub hl [2, 3, 0] rfl) hf
          · have hf := hg.1 c13
            refine lv_aload_n hx hb dX4_weaveNext_35 rfl (lv_at hl 2 rfl) ?_
            obtain ⟨g16, h17, hf⟩ := gbind hf
            refine g_Vv (As := []) (rest := []) ⟨hx, hb, hml, hown, hts⟩ (c4_weavePick l w K g S a g16 h17 hk0) (gcwV hts i4_weavePick wd_408 rfl rfl ⟨Nat.le_of_ble_eq_true rfl, Nat.le_of_ble_eq_true rfl⟩) (gRecv.of hK rfl (hH.o5 hk0)) hH hK hS hl.1 rfl rfl (Nat.le_of_ble_eq_true rfl) dX4_weaveNext_36 ⟨Nat.le_refl _, Nat.le_refl _⟩ (fun H locs hH hS => ?_)
            refine lv_goto (tgt := 47) hx hb dX4_weaveNext_39 (by decide) ?_
            exact B47 _ (ih) _ _ _ _ _ _ hH hS (lv_sub hl [2, 3, 0] rfl) hf
        · have hf := hg.2 c9
          refine lv_iload_n hx hb dX4_weaveNext_19 rfl (lv_at hl 0 rfl) ?_
          have ho := Option.some.inj hf
          exact W.iret (v := v7) hx hb hr (fun t ht hW => ⟨⟨v7, (), rfl, congrArg Prod.snd ho, hrP ht ho hH⟩, hS.F ht⟩) hS.2.2 dX4_weaveNext_20
  have hl : lv_has ls 4 [(0, .ref a)] := hl
  refine lv_iconst (v := 0) hx hb dX4_weaveNext_0 (by decide) ?_
  refine lv_istore_n (lv' := [(1, .int 0), (0, .ref a)]) hx hb dX4_weaveNext_1 rfl hl (by decide) rfl (fun ls hl => ?_)
  exact B2 _ _ _ _ _ _ hH hS (lv_sub hl [1, 0] rfl) hf
set_option maxRecDepth 100000 in
set_option maxHeartbeats 8000000 in
theorem c4_goOn (l : Launch) (w : GW) (K : GK) (g : GM) (S : GS) (a : Nat) (p0 : Int32) (out : GM × Int32) (hf : f4_goOn K g a p0 = some out) (hk0 : gkd K a = 5) : Met l yX4_goOn (wA yX4_goOn cX4_goOn 3 (some .int)) ({ frames := 5, cells := 0, slots := 0, locals := 110 } : Room) (PRE w K g S [.ref a, .int p0]) (QI w K out.1 S out.2) 0 0 (FR w) := by
  unfold f4_goOn at hf
  refine Met.ofW (cc := cX4_goOn) (maxL := 3) (ret := (some .int)) (by decide) rfl ?_
  intro p e s m args below meth c s₁ B hml hv
  obtain ⟨rfl, hH, hK⟩ := hv
  have hx := B.exec
  have hb := B.bytes
  have hr := B.returns
  have hts : ∀ q ∈ gALL, q.before _ s = true := fun q h => atoms_spec (ws := (wA yX4_goOn cX4_goOn 3 (some .int))) B.pre q (List.mem_cons_of_mem _ h)
  have hown : s.vm.findClass RX4 = some m.cls := findClass_of_methodNamed B.named
  have hlocks := B.notSynchronized
  have hS : va_S (FR w) s.heap s.heap [] := va_S.rf
  show W p l e ({ frames := 5, cells := 0, slots := 0, locals := 110 } : Room) s m _ below meth c s.heap [] 0 0 (MQ below (QI w K out.1 S out.2) _ s 0 0 (FR w)) _
  have hl := lv_entry ([.ref a, .int p0]) (n := 3) (Nat.le_of_ble_eq_true rfl)
  rw [lg_entry_eq]
  generalize (lg_sl ([.ref a, .int p0]) ++ List.replicate (3 - (lg_sl ([.ref a, .int p0])).length) Slot.unset).toArray = ls at hl ⊢
  clear B
  generalize ([.ref a, .int p0] : List Value).toArray = args at hts ⊢
  have B2 : ∀ n : Nat, ∀ (g : GM) (x2 : Int32) (H : Heap) (locs : List Loc) (ls : Array Slot), HR w K g S H → va_S (FR w) s.heap H locs → lv_has ls 3 [(0, .ref a), (1, .int p0), (2, .int x2)] → f4_goOn_2 K a p0 n g x2 = some out → W p l e ({ frames := 5, cells := 0, slots := 0, locals := 110 } : Room) s m args below meth c H locs 0 0 (MQ below (QI w K out.1 S out.2) args s 0 0 (FR w)) (F0 m 2 ls []) := by
    intro n
    induction n with
    | zero =>
      intro g x2 H locs ls hH hS hl hf
      cases hf
    | succ n ih =>
      intro g x2 H locs ls hH hS hl hf
      rw [f4_goOn_2] at hf
      refine lv_iload_n hx hb dX4_goOn_2 rfl (lv_at hl 2 rfl) ?_
      refine lv_iload_n hx hb dX4_goOn_3 rfl (lv_at hl 1 rfl) ?_
      have hg := gif hf
      refine lv_icmp_ge (tgt := 30) hx hb dX4_goOn_4 (by decide) (fun c1 => ?_) (fun c1 => ?_)
      · have hf := hg.1 c1
        refine lv_iload_n hx hb dX4_goOn_30 rfl (lv_at hl 1 rfl) ?_
        have ho := Option.some.inj hf
        exact W.iret (v := p0) hx hb hr (fun t ht hW => ⟨⟨p0, (), rfl, congrArg Prod.snd ho, hrP ht ho hH⟩, hS.F ht⟩) hS.2.2 dX4_goOn_31
      · have hf := hg.2 c1
        refine lv_aload_n hx hb dX4_goOn_7 rfl (lv_at hl 0 rfl) ?_
        refine lv_aload_n hx hb dX4_goOn_8 rfl (lv_at hl 0 rfl) ?_
        obtain ⟨r2, h3, hf⟩ := gbind hf
        refine g_Vi (As := []) (rest := [.ref a]) ⟨hx, hb, hml, hown, hts⟩ (c4_weaveNext l w K g S a r2 h3 hk0) (gcwV hts i4_weaveNext wd_376 rfl rfl ⟨Nat.le_of_ble_eq_true rfl, Nat.le_of_ble_eq_true rfl⟩) (gRecv.of hK rfl (hH.o5 hk0)) hH hK hS hl.1 rfl rfl (Nat.le_of_ble_eq_true rfl) dX4_goOn_9 ⟨Nat.le_refl _, Nat.le_refl _⟩ (fun H locs hH hS => ?_)
        refine p_4_12 hx hb hts hown hK hH hS hk0 (hts _ wd_72) dX4_goOn_12 (fun H locs hH hS => ?_)
        obtain ⟨g4, eg4⟩ : ∃ z : GM, z = gsI r2.1 a 12 r2.2 := ⟨_, rfl⟩
        have hf := gl_at hf eg4
        replace hH : HR w K g4 S H := by rw [eg4]; exact hH
        refine lv_aload_n hx hb dX4_goOn_15 rfl (lv_at hl 0 rfl) ?_
        refine e_4_12 hx hb hts hown hK hH hk0 (hts _ wd_72) dX4_goOn_16 ?_
        have hg := gif hf
        refine lv_if_eq (tgt := 24) hx hb dX4_goOn_19 (by decide) (fun c5 => ?_) (fun c5 => ?_)
        · have hf := hg.1 c5
          obtain ⟨v6, ev6⟩ : ∃ z : Int32, z = x2 + 1 := ⟨_, rfl⟩
          have hf := gl_at hf ev6
          refine lv_iinc (v := v6) (lv' := [(2, .int v6), (0, .ref a), (1, .int p0)]) hx hb dX4_goOn_24 hl (k := 2) rfl (by rw [ev6]; rfl) (by decide) rfl (fun ls hl => ?_)
          refine lv_goto (tgt := 2) hx hb dX4_goOn_27 (by decide) ?_
          exact ih _ _ _ _ _ hH hS (lv_sub hl [1, 2, 0] rfl) hf
        · have hf := hg.2 c5
          refine lv_iload_n hx hb dX4_goOn_22 rfl (lv_at hl 2 rfl) ?_
          have ho := Option.some.inj hf
          exact W.iret (v := x2) hx hb hr (fun t ht hW => ⟨⟨x2, (), rfl, congrArg Prod.snd ho, hrP ht ho hH⟩, hS.F ht⟩) hS.2.2 dX4_goOn_23
  have hl : lv_has ls 3 [(0, .ref a), (1, .int p0)] := hl
  refine lv_iconst (v := 0) hx hb dX4_goOn_0 (by decide) ?_
  refine lv_istore_n (lv' := [(2, .int 0), (0, .ref a), (1, .int p0)]) hx hb dX4_goOn_1 rfl hl (by decide) rfl (fun ls hl => ?_)
  exact B2 _ _ _ _ _ _ hH hS (lv_sub hl [1, 2, 0] rfl) hf
set_option maxRecDepth 100000 in
set_option maxHeartbeats 8000000 in
theorem c4_longestRow (l : Launch) (w : GW) (K : GK) (g : GM) (S : GS) (a : Nat) (p0 : Int32) (out : Int32) (hf : f4_longestRow K g a p0 = some out) (hk0 : gkd K a = 5) : Met l yX4_longestRow (wA yX4_longestRow cX4_longestRow 5 (some .int)) ({ frames := 1, cells := 0, slots := 0, locals := 30 } : Room) (PRE w K g S [.ref a, .int p0]) (QI w K g S out) 0 0 (FR w) := by
  unfold f4_longestRow at hf
  refine Met.ofW (cc := cX4_longestRow) (maxL := 5) (ret := (some .int)) (by decide) rfl ?_
  intro p e s m args below meth c s₁ B hml hv
  obtain ⟨rfl, hH, hK⟩ := hv
  have hx := B.exec
  have hb := B.bytes
  have hr := B.returns
  have hts : ∀ q ∈ gALL, q.before _ s = true := fun q h => atoms_spec (ws := (wA yX4_longestRow cX4_longestRow 5 (some .int))) B.pre q (List.mem_cons_of_mem _ h)
  have hown : s.vm.findClass RX4 = some m.cls := findClass_of_methodNamed B.named
  have hlocks := B.notSynchronized
  have hS : va_S (FR w) s.heap s.heap [] := va_S.rf
  show W p l e ({ frames := 1, cells := 0, slots := 0, locals := 30 } : Room) s m _ below meth c s.heap [] 0 0 (MQ below (QI w K g S out) _ s 0 0 (FR w)) _
  have hl := lv_entry ([.ref a, .int p0]) (n := 5) (Nat.le_of_ble_eq_true rfl)
  rw [lg_entry_eq]
  generalize (lg_sl ([.ref a, .int p0]) ++ List.replicate (5 - (lg_sl ([.ref a, .int p0])).length) Slot.unset).toArray = ls at hl ⊢
  clear B
  generalize ([.ref a, .int p0] : List Value).toArray = args at hts ⊢
  have B34 : ∀ (k7 : Int32 → Int32 → Int32 → Option (Int32)), (∀ (x2 : Int32) (x3 : Int32) (x4 : Int32) (H : Heap) (locs : List Loc) (ls : Array Slot), HR w K g S H → va_S (FR w) s.heap H locs → lv_has ls 5 [(0, .ref a), (1, .int p0), (2, .int x2), (3, .int x3), (4, .int x4)] → k7 x2 x3 x4 = some out → W p l e ({ frames := 1, cells := 0, slots := 0, locals := 30 } : Room) s m args below meth c H locs 0 0 (MQ below (QI w K g S out) args s 0 0 (FR w)) (F0 m 7 ls [])) → ∀ (x2 : Int32) (x4 : Int32) (s0 : Int32) (H : Heap) (locs : List Loc) (ls : Array Slot), HR w K g S H → va_S (FR w) s.heap H locs → lv_has ls 5 [(0, .ref a), (1, .int p0), (2, .int x2), (4, .int x4)] → f4_longestRow_34 k7 K g a p0 x2 x4 s0 = some out → W p l e ({ frames := 1, cells := 0, slots := 0, locals := 30 } : Room) s m args below meth c H locs 0 0 (MQ below (QI w K g S out) args s 0 0 (FR w)) (F0 m 34 ls [.int s0]) := by
    intro k7 hk7 x2 x4 s0 H locs ls hH hS hl hf
    unfold f4_longestRow_34 at hf
    refine lv_istore_n (lv' := [(3, .int s0), (0, .ref a), (1, .int p0), (2, .int x2), (4, .int x4)]) hx hb dX4_longestRow_34 rfl hl (by decide) rfl (fun ls hl => ?_)
    refine lv_iload_n hx hb dX4_longestRow_35 rfl (lv_at hl 3 rfl) ?_
    refine lv_iload_n hx hb dX4_longestRow_36 rfl (lv_at hl 0 rfl) ?_
    refine va_mmax hx hb (hml.trans hl.1.symm) hown (hts _ wd_343) (hts _ wd_227) (hts _ wd_135) (hts _ wd_228) (Nat.le_of_ble_eq_true rfl) (Nat.le_of_ble_eq_true rfl) (Nat.le_of_ble_eq_true rfl) (Nat.le_of_ble_eq_true rfl) dX4_longestRow_37 ?_
    refine lv_topi (fun v1 ev1 => ?_)
    have hf := gl_at hf ev1
    refine lv_istore_n (lv' := [(2, .int v1), (3, .int s0), (0, .ref a), (1, .int p0), (4, .int x4)]) hx hb dX4_longestRow_40 rfl hl (by decide) rfl (fun ls hl => ?_)
    obtain ⟨v2, ev2⟩ : ∃ z : Int32, z = x4 + 1 := ⟨_, rfl⟩
    have hf := gl_at hf ev2
    refine lv_iinc (v := v2) (lv' := [(4, .int v2), (2, .int v1), (3, .int s0), (0, .ref a), (1, .int p0)]) hx hb dX4_longestRow_41 hl (k := 4) rfl (by rw [ev2]; rfl) (by decide) rfl (fun ls hl => ?_)
    refine lv_goto (tgt := 7) hx hb dX4_longestRow_44 (by decide) ?_
    exact hk7 _ _ _ _ _ _ hH hS (lv_sub hl [3, 4, 1, 2, 0] rfl) hf
  have B7 : ∀ n : Nat, ∀ (x2 : Int32) (x3 : Int32) (x4 : Int32) (H : Heap) (locs : List Loc) (ls : Array Slot), HR w K g S H → va_S (FR w) s.heap H locs → lv_has ls 5 [(0, .ref a), (1, .int p0), (2, .int x2), (3, .int x3), (4, .int x4)] → f4_longestRow_7 K g a p0 n x2 x3 x4 = some out → W p l e ({ frames := 1, cells := 0, slots := 0, locals := 30 } : Room) s m args below meth c H locs 0 0 (MQ below (QI w K g S out) args s 0 0 (FR w)) (F0 m 7 ls []) := by
    intro n
    induction n with
    | zero =>
      intro x2 x3 x4 H locs ls hH hS hl hf
      cases hf
    | succ n ih =>
      intro x2 x3 x4 H locs ls hH hS hl hf
      rw [f4_longestRow_7] at hf
      refine lv_iload hx hb dX4_longestRow_7 (lv_at hl 4 rfl) ?_
      refine lv_aload_n hx hb dX4_longestRow_9 rfl (lv_at hl 0 rfl) ?_
      refine e_4_9 hx hb hts hown hK hH hk0 (hts _ wd_69) dX4_longestRow_10 ?_
      have hg := gif hf
      refine lv_icmp_ge (tgt := 47) hx hb dX4_longestRow_13 (by decide) (fun c3 => ?_) (fun c3 => ?_)
      · have hf := hg.1 c3
        refine lv_iload_n hx hb dX4_longestRow_47 rfl (lv_at hl 2 rfl) ?_
        have ho := Option.some.inj hf
        exact W.iret (v := x2) hx hb hr (fun t ht hW => ⟨⟨x2, (), rfl, ho, hrE ht hH⟩, hS.F ht⟩) hS.2.2 dX4_longestRow_48
      · have hf := hg.2 c3
        refine lv_aload_n hx hb dX4_longestRow_16 rfl (lv_at hl 0 rfl) ?_
        have k4 : K.1 (a + 8) = (12, 400) := hH.sub hk0 7 (t := (8, 12, 400)) rfl
        refine e_4_7 hx hb hts hown hK hH hk0 (hts _ wd_64) dX4_longestRow_17 ?_
        refine lv_iload hx hb dX4_longestRow_20 (lv_at hl 4 rfl) ?_
        obtain ⟨h6, hf⟩ := gd_some hf
        refine g_bald hx hb hK hH k4 h6 dX4_longestRow_22 ?_
        refine lv_iload_n hx hb dX4_longestRow_23 rfl (lv_at hl 1 rfl) ?_
        have hg := gif hf
        refine lv_icmp_ne (tgt := 33) hx hb dX4_longestRow_24 (by decide) (fun c7 => ?_) (fun c7 => ?_)
        · have hf := hg.2 c7
          refine lv_iconst (v := 0) hx hb dX4_longestRow_33 (by decide) ?_
          exact B34 _ (ih) _ _ _ _ _ _ hH hS (lv_sub hl [0, 1, 2, 4] rfl) hf
        · have hf := hg.1 c7
          refine lv_iload_n hx hb dX4_longestRow_27 rfl (lv_at hl 3 rfl) ?_
          refine lv_iconst (v := 1) hx hb dX4_longestRow_28 (by decide) ?_
          refine lv_iadd hx hb dX4_longestRow_29 ?_
          refine lv_goto (tgt := 34) hx hb dX4_longestRow_30 (by decide) ?_
          exact B34 _ (ih) _ _ _ _ _ _ hH hS (lv_sub hl [0, 1, 2, 4] rfl) hf
  have hl : lv_has ls 5 [(0, .ref a), (1, .int p0)] := hl
  refine lv_iconst (v := 0) hx hb dX4_longestRow_0 (by decide) ?_
  refine lv_istore_n (lv' := [(2, .int 0), (0, .ref a), (1, .int p0)]) hx hb dX4_longestRow_1 rfl hl (by decide) rfl (fun ls hl => ?_)
  refine lv_iconst (v := 0) hx hb dX4_longestRow_2 (by decide) ?_
  refine lv_istore_n (lv' := [(3, .int 0), (2, .int 0), (0, .ref a), (1, .int p0)]) hx hb dX4_longestRow_3 rfl hl (by decide) rfl (fun ls hl => ?_)
  refine lv_iconst (v := 0) hx hb dX4_longestRow_4 (by decide) ?_
  refine lv_istore (lv' := [(4, .int 0), (3, .int 0), (2, .int 0), (0, .ref a), (1, .int p0)]) hx hb dX4_longestRow_5 hl (by decide) rfl (fun ls hl => ?_)
  exact B7 _ _ _ _ _ _ _ hH hS (lv_sub hl [3, 4, 2, 1, 0] rfl) hf
set_option maxRecDepth 100000 in
set_option maxHeartbeats 8000000 in
theorem c4_tieThread (l : Launch) (w : GW) (K : GK) (g : GM) (S : GS) (a : Nat) (p0 : Int32) (p1 : Int32) (out : GM × Int32) (hf : f4_tieThread K g a p0 p1 = some out) (hk0 : gkd K a = 5) : Met l yX4_tieThread (wA yX4_tieThread cX4_tieThread 3 (some .int)) ({ frames := 1, cells := 0, slots := 0, locals := 30 } : Room) (PRE w K g S [.ref a, .int p0, .int p1]) (QI w K out.1 S out.2) 0 0 (FR w) := by
  unfold f4_tieThread at hf
  refine Met.ofW (cc := cX4_tieThread) (maxL := 3) (ret := (some .int)) (by decide) rfl ?_
  intro p e s m args below meth c s₁ B hml hv
  obtain ⟨rfl, hH, hK⟩ := hv
  have hx := B.exec
  have hb := B.bytes
  have hr := B.returns
  have hts : ∀ q ∈ gALL, q.before _ s = true := fun q h => atoms_spec (ws := (wA yX4_tieThread cX4_tieThread 3 (some .int))) B.pre q (List.mem_cons_of_mem _ h)
  have hown : s.vm.findClass RX4 = some m.cls := findClass_of_methodNamed B.named
  have hlocks := B.notSynchronized
  have hS : va_S (FR w) s.heap s.heap [] := va_S.rf
  show W p l e ({ frames := 1, cells := 0, slots := 0, locals := 30 } : Room) s m _ below meth c s.heap [] 0 0 (MQ below (QI w K out.1 S out.2) _ s 0 0 (FR w)) _
  have hl := lv_entry ([.ref a, .int p0, .int p1]) (n := 3) (Nat.le_of_ble_eq_true rfl)
  rw [lg_entry_eq]
  generalize (lg_sl ([.ref a, .int p0, .int p1]) ++ List.replicate (3 - (lg_sl ([.ref a, .int p0, .int p1])).length) Slot.unset).toArray = ls at hl ⊢
  clear B
  generalize ([.ref a, .int p0, .int p1] : List Value).toArray = args at hts ⊢
  have hl : lv_has ls 3 [(0, .ref a), (1, .int p0), (2, .int p1)] := hl
  refine lv_aload_n hx hb dX4_tieThread_0 rfl (lv_at hl 0 rfl) ?_
  have k1 : K.1 (a + 4) = (10, 6) := hH.sub hk0 3 (t := (4, 10, 6)) rfl
  refine e_4_3 hx hb hts hown hK hH hk0 (hts _ wd_59) dX4_tieThread_1 ?_
  refine lv_iload_n hx hb dX4_tieThread_4 rfl (lv_at hl 1 rfl) ?_
  refine lv_sipush (v := 999) hx hb dX4_tieThread_5 (by decide) ?_
  refine lv_aload_n hx hb dX4_tieThread_8 rfl (lv_at hl 0 rfl) ?_
  refine e_4_3 hx hb hts hown hK hH hk0 (hts _ wd_59) dX4_tieThread_9 ?_
  refine lv_iload_n hx hb dX4_tieThread_12 rfl (lv_at hl 1 rfl) ?_
  obtain ⟨h3, hf⟩ := gd_some hf
  refine g_iald hx hb hK hH k1 h3 dX4_tieThread_13 ?_
  refine lv_iload_n hx hb dX4_tieThread_14 rfl (lv_at hl 2 rfl) ?_
  refine lv_iadd hx hb dX4_tieThread_15 ?_
  refine va_mmin hx hb (hml.trans hl.1.symm) hown (hts _ wd_133) (hts _ wd_134) (hts _ wd_135) (hts _ wd_136) (Nat.le_of_ble_eq_true rfl) (Nat.le_of_ble_eq_true rfl) (Nat.le_of_ble_eq_true rfl) (Nat.le_of_ble_eq_true rfl) dX4_tieThread_16 ?_
  refine g_iast hx hb hK hH hS k1 h3 dX4_tieThread_19 (fun H locs hH hS => ?_)
  obtain ⟨g5, eg5⟩ : ∃ z : GM, z = gsI g (a + 4) p0.toNatClampNeg (if ((gI g (a + 4) p0.toNatClampNeg) + p1) < 999 then ((gI g (a + 4) p0.toNatClampNeg) + p1) else 999) := ⟨_, rfl⟩
  have hf := gl_at hf eg5
  replace hH : HR w K g5 S H := by rw [eg5]; exact hH
  refine lv_aload_n hx hb dX4_tieThread_20 rfl (lv_at hl 0 rfl) ?_
  have k6 : K.1 (a + 5) = (10, 6) := hH.sub hk0 4 (t := (5, 10, 6)) rfl
  refine e_4_4 hx hb hts hown hK hH hk0 (hts _ wd_60) dX4_tieThread_21 ?_
  refine lv_iload_n hx hb dX4_tieThread_24 rfl (lv_at hl 1 rfl) ?_
  refine lv_iconst (v := 0) hx hb dX4_tieThread_25 (by decide) ?_
  refine g_iast hx hb hK hH hS k6 h3 dX4_tieThread_26 (fun H locs hH hS => ?_)
  obtain ⟨g8, eg8⟩ : ∃ z : GM, z = gsI g5 (a + 5) p0.toNatClampNeg 0 := ⟨_, rfl⟩
  have hf := gl_at hf eg8
  replace hH : HR w K g8 S H := by rw [eg8]; exact hH
  refine lv_aload_n hx hb dX4_tieThread_27 rfl (lv_at hl 0 rfl) ?_
  have k9 : K.1 (a + 6) = (10, 6) := hH.sub hk0 5 (t := (6, 10, 6)) rfl
  refine e_4_5 hx hb hts hown hK hH hk0 (hts _ wd_61) dX4_tieThread_28 ?_
  refine lv_iload_n hx hb dX4_tieThread_31 rfl (lv_at hl 1 rfl) ?_
  refine lv_dup2_11 hx hb dX4_tieThread_32 rfl rfl ?_
  refine g_iald hx hb hK hH k9 h3 dX4_tieThread_33 ?_
  refine lv_iconst (v := 1) hx hb dX4_tieThread_34 (by decide) ?_
  refine lv_iadd hx hb dX4_tieThread_35 ?_
  refine g_iast hx hb hK hH hS k9 h3 dX4_tieThread_36 (fun H locs hH hS => ?_)
  obtain ⟨g12, eg12⟩ : ∃ z : GM, z = gsI g8 (a + 6) p0.toNatClampNeg ((gI g8 (a + 6) p0.toNatClampNeg) + 1) := ⟨_, rfl⟩
  have hf := gl_at hf eg12
  replace hH : HR w K g12 S H := by rw [eg12]; exact hH
  refine lv_aload_n hx hb dX4_tieThread_37 rfl (lv_at hl 0 rfl) ?_
  refine e_4_3 hx hb hts hown hK hH hk0 (hts _ wd_59) dX4_tieThread_38 ?_
  refine lv_iload_n hx hb dX4_tieThread_41 rfl (lv_at hl 1 rfl) ?_
  refine g_iald hx hb hK hH k1 h3 dX4_tieThread_42 ?_
  have ho := Option.some.inj hf
  exact W.iret (v := (gI g12 (a + 4) p0.toNatClampNeg)) hx hb hr (fun t ht hW => ⟨⟨(gI g12 (a + 4) p0.toNatClampNeg), (), rfl, congrArg Prod.snd ho, hrP ht ho hH⟩, hS.F ht⟩) hS.2.2 dX4_tieThread_43
set_option maxRecDepth 100000 in
set_option maxHeartbeats 8000000 in
theorem c5_append (l : Launch) (w : GW) (K : GK) (g : GM) (S : GS) (a : Nat) (p0 : Int64) (p1 : Int32) (out : GM) (hf : f5_append K g a p0 p1 = some out) (hk0 : gkd K a = 6) : Met l yX5_append (wA yX5_append cX5_append 5 none) ({ frames := 0, cells := 0, slots := 0, locals := 0 } : Room) (PRE w K g S [.ref a, .long p0, .int p1]) (QV w K out S) 0 0 (FR w) := by
  unfold f5_append at hf
  refine Met.ofW (cc := cX5_append) (maxL := 5) (ret := none) (by decide) rfl ?_
  intro p e s m args below meth c s₁ B hml hv
  obtain ⟨rfl, hH, hK⟩ := hv
  have hx := B.exec
  have hb := B.bytes
  have hr := B.returns
  have hts : ∀ q ∈ gALL, q.before _ s = true := fun q h => atoms_spec (ws := (wA yX5_append cX5_append 5 none)) B.pre q (List.mem_cons_of_mem _ h)
  have hown : s.vm.findClass RX5 = some m.cls := findClass_of_methodNamed B.named
  have hlocks := B.notSynchronized
  have hS : va_S (FR w) s.heap s.heap [] := va_S.rf
  show W p l e ({ frames := 0, cells := 0, slots := 0, locals := 0 } : Room) s m _ below meth c s.heap [] 0 0 (MQ below (QV w K out S) _ s 0 0 (FR w)) _
  have hl := lv_entry ([.ref a, .long p0, .int p1]) (n := 5) (Nat.le_of_ble_eq_true rfl)
  rw [lg_entry_eq]
  generalize (lg_sl ([.ref a, .long p0, .int p1]) ++ List.replicate (5 - (lg_sl ([.ref a, .long p0, .int p1])).length) Slot.unset).toArray = ls at hl ⊢
  clear B
  generalize ([.ref a, .long p0, .int p1] : List Value).toArray = args at hts ⊢
  have B25 : ∀ n : Nat, ∀ (g : GM) (x4 : Int32) (H : Heap) (locs : List Loc) (ls : Array Slot), HR w K g S H → va_S (FR w) s.heap H locs → lv_has ls 5 [(0, .ref a), (1, .long p0), (3, .int p1), (4, .int x4)] → f5_append_25 K a p0 p1 n g x4 = some out → W p l e ({ frames := 0, cells := 0, slots := 0, locals := 0 } : Room) s m args below meth c H locs 0 0 (MQ below (QV w K out S) args s 0 0 (FR w)) (F0 m 25 ls []) := by
    intro n
    induction n with
    | zero =>
      intro g x4 H locs ls hH hS hl hf
      cases hf
    | succ n ih =>
      intro g x4 H locs ls hH hS hl hf
      rw [f5_append_25] at hf
      refine lv_iload hx hb dX5_append_25 (lv_at hl 3 rfl) ?_
      refine lv_iload_n hx hb dX5_append_27 rfl (lv_at hl 2 rfl) ?_
      have hg := gif hf
      refine lv_icmp_ge (tgt := 66) hx hb dX5_append_28 (by decide) (fun c1 => ?_) (fun c1 => ?_)
      · have hf := hg.1 c1
        refine lv_aload_n hx hb dX5_append_66 rfl (lv_at hl 0 rfl) ?_
        refine lv_dup hx hb dX5_append_67 rfl ?_
        refine e_5_1 hx hb hts hown hK hH hk0 (hts _ wd_40) dX5_append_68 ?_
        refine lv_iload_n hx hb dX5_append_71 rfl (lv_at hl 2 rfl) ?_
        refine lv_iadd hx hb dX5_append_72 ?_
        refine p_5_1 hx hb hts hown hK hH hS hk0 (hts _ wd_40) dX5_append_73 (fun H locs hH hS => ?_)
        obtain ⟨g2, eg2⟩ : ∃ z : GM, z = gsI g a 1 ((gI g a 1) + p1) := ⟨_, rfl⟩
        have hf := gl_at hf eg2
        replace hH : HR w K g2 S H := by rw [eg2]; exact hH
        have ho := Option.some.inj hf
        exact W.vret hx hb hr (fun t ht hW => ⟨⟨(), rfl, trivial, hrV ht ho hH⟩, hS.F ht⟩) hS.2.2 dX5_append_76
      · have hf := hg.2 c1
        refine lv_aload_n hx hb dX5_append_31 rfl (lv_at hl 0 rfl) ?_
        have k3 : K.1 (a + 1) = (11, 80) := hH.sub hk0 0 (t := (1, 11, 80)) rfl
        refine e_5_0 hx hb hts hown hK hH hk0 (hts _ wd_39) dX5_append_32 ?_
        refine lv_aload_n hx hb dX5_append_35 rfl (lv_at hl 0 rfl) ?_
        refine e_5_1 hx hb hts hown hK hH hk0 (hts _ wd_40) dX5_append_36 ?_
        refine lv_iload hx hb dX5_append_39 (lv_at hl 3 rfl) ?_
        refine lv_iadd hx hb dX5_append_41 ?_
        refine lv_lload_n hx hb dX5_append_42 rfl (lv_at hl 1 rfl) ?_
        refine lv_bipush (v := 8) hx hb dX5_append_43 (by decide) ?_
        refine lv_iload_n hx hb dX5_append_45 rfl (lv_at hl 2 rfl) ?_
        refine lv_iconst (v := 1) hx hb dX5_append_46 (by decide) ?_
        refine lv_isub hx hb dX5_append_47 ?_
        refine lv_iload hx hb dX5_append_48 (lv_at hl 3 rfl) ?_
        refine lv_isub hx hb dX5_append_50 ?_
        refine lv_imul hx hb dX5_append_51 ?_
        refine lv_lushr hx hb dX5_append_52 rfl ?_
        refine lv_ldc2 (v := 255) hx hb hown (hts _ wd_876) dX5_append_53 ?_
        refine lv_land hx hb dX5_append_56 ?_
        refine lv_l2i hx hb dX5_append_57 rfl ?_
        refine lv_i2c hx hb dX5_append_58 rfl ?_
        obtain ⟨h5, hf⟩ := gd_some hf
        refine g_cast hx hb hK hH hS k3 h5 dX5_append_59 (fun H locs hH hS => ?_)
        obtain ⟨g6, eg6⟩ : ∃ z : GM, z = gsI g (a + 1) ((gI g a 1) + x4).toNatClampNeg (vp_nar .char ((((((p0.toUInt64 >>> ((8 * ((p1 - 1) - x4)).toInt64.toUInt64 &&& Int64.toUInt64 63)).toInt64) &&& ((255 : Int64))).toInt32).toUInt32 % 65536).toInt32)) := ⟨_, rfl⟩
        have hf := gl_at hf eg6
        replace hH : HR w K g6 S H := by rw [eg6]; exact hH
        obtain ⟨v7, ev7⟩ : ∃ z : Int32, z = x4 + 1 := ⟨_, rfl⟩
        have hf := gl_at hf ev7
        refine lv_iinc (v := v7) (lv' := [(4, .int v7), (0, .ref a), (1, .long p0), (3, .int p1)]) hx hb dX5_append_60 hl (k := 3) rfl (by rw [ev7]; rfl) (by decide) rfl (fun ls hl => ?_)
        refine lv_goto (tgt := 25) hx hb dX5_append_63 (by decide) ?_
        exact ih _ _ _ _ _ hH hS (lv_sub hl [1, 2, 3, 0] rfl) hf
  have hl : lv_has ls 5 [(0, .ref a), (1, .long p0), (3, .int p1)] := hl
  refine lv_iload_n hx hb dX5_append_0 rfl (lv_at hl 2 rfl) ?_
  have hg := gif hf
  refine lv_if_lt (tgt := 21) hx hb dX5_append_1 (by decide) (fun c8 => ?_) (fun c8 => ?_)
  · have hf := hg.1 c8
    have ho := Option.some.inj hf
    exact W.vret hx hb hr (fun t ht hW => ⟨⟨(), rfl, trivial, hrV ht ho hH⟩, hS.F ht⟩) hS.2.2 dX5_append_21
  · have hf := hg.2 c8
    refine lv_iload_n hx hb dX5_append_4 rfl (lv_at hl 2 rfl) ?_
    refine lv_bipush (v := 8) hx hb dX5_append_5 (by decide) ?_
    have hg := gif hf
    refine lv_icmp_gt (tgt := 21) hx hb dX5_append_7 (by decide) (fun c9 => ?_) (fun c9 => ?_)
    · have hf := hg.1 c9
      have ho := Option.some.inj hf
      exact W.vret hx hb hr (fun t ht hW => ⟨⟨(), rfl, trivial, hrV ht ho hH⟩, hS.F ht⟩) hS.2.2 dX5_append_21
    · have hf := hg.2 c9
      refine lv_iload_n hx hb dX5_append_10 rfl (lv_at hl 2 rfl) ?_
      refine lv_bipush (v := 80) hx hb dX5_append_11 (by decide) ?_
      refine lv_aload_n hx hb dX5_append_13 rfl (lv_at hl 0 rfl) ?_
      refine e_5_1 hx hb hts hown hK hH hk0 (hts _ wd_40) dX5_append_14 ?_
      refine lv_isub hx hb dX5_append_17 ?_
      have hg := gif hf
      refine lv_icmp_le (tgt := 22) hx hb dX5_append_18 (by decide) (fun c10 => ?_) (fun c10 => ?_)
      · have hf := hg.1 c10
        refine lv_iconst (v := 0) hx hb dX5_append_22 (by decide) ?_
        refine lv_istore (lv' := [(4, .int 0), (0, .ref a), (1, .long p0), (3, .int p1)]) hx hb dX5_append_23 hl (by decide) rfl (fun ls hl => ?_)
        exact B25 _ _ _ _ _ _ hH hS (lv_sub hl [1, 2, 3, 0] rfl) hf
      · have hf := hg.2 c10
        have ho := Option.some.inj hf
        exact W.vret hx hb hr (fun t ht hW => ⟨⟨(), rfl, trivial, hrV ht ho hH⟩, hS.F ht⟩) hS.2.2 dX5_append_21
set_option maxRecDepth 100000 in
set_option maxHeartbeats 8000000 in
theorem c5_charactersIn (l : Launch) (w : GW) (K : GK) (g : GM) (S : GS) (p0 : Int64) (out : Int32) (hf : f5_charactersIn p0 = some out) : Met l yX5_charactersIn (wA yX5_charactersIn cX5_charactersIn 7 (some .int)) ({ frames := 0, cells := 0, slots := 0, locals := 0 } : Room) (PRE w K g S [.long p0]) (QI w K g S out) 0 0 (FR w) := by
  unfold f5_charactersIn at hf
  refine Met.ofW (cc := cX5_charactersIn) (maxL := 7) (ret := (some .int)) (by decide) rfl ?_
  intro p e s m args below meth c s₁ B hml hv
  obtain ⟨rfl, hH, hK⟩ := hv
  have hx := B.exec
  have hb := B.bytes
  have hr := B.returns
  have hts : ∀ q ∈ gALL, q.before _ s = true := fun q h => atoms_spec (ws := (wA yX5_charactersIn cX5_charactersIn 7 (some .int))) B.pre q (List.mem_cons_of_mem _ h)
  have hown : s.vm.findClass RX5 = some m.cls := findClass_of_methodNamed B.named
  have hlocks := B.notSynchronized
  have hS : va_S (FR w) s.heap s.heap [] := va_S.rf
  show W p l e ({ frames := 0, cells := 0, slots := 0, locals := 0 } : Room) s m _ below meth c s.heap [] 0 0 (MQ below (QI w K g S out) _ s 0 0 (FR w)) _
  have hl := lv_entry ([.long p0]) (n := 7) (Nat.le_of_ble_eq_true rfl)
  rw [lg_entry_eq]
  generalize (lg_sl ([.long p0]) ++ List.replicate (7 - (lg_sl ([.long p0])).length) Slot.unset).toArray = ls at hl ⊢
  clear B
  generalize ([.long p0] : List Value).toArray = args at hts ⊢
  have B8 : ∀ n : Nat, ∀ (x2 : Int64) (x4 : Int32) (x5 : Int32) (H : Heap) (locs : List Loc) (ls : Array Slot), HR w K g S H → va_S (FR w) s.heap H locs → lv_has ls 7 [(2, .long x2), (4, .int x4), (5, .int x5)] → f5_charactersIn_8 p0 n x2 x4 x5 = some out → W p l e ({ frames := 0, cells := 0, slots := 0, locals := 0 } : Room) s m args below meth c H locs 0 0 (MQ below (QI w K g S out) args s 0 0 (FR w)) (F0 m 8 ls []) := by
    intro n
    induction n with
    | zero =>
      intro x2 x4 x5 H locs ls hH hS hl hf
      cases hf
    | succ n ih =>
      intro x2 x4 x5 H locs ls hH hS hl hf
      rw [f5_charactersIn_8] at hf
      refine lv_iload hx hb dX5_charactersIn_8 (lv_at hl 2 rfl) ?_
      refine lv_bipush (v := 8) hx hb dX5_charactersIn_10 (by decide) ?_
      have hg := gif hf
      refine lv_icmp_ge (tgt := 59) hx hb dX5_charactersIn_12 (by decide) (fun c1 => ?_) (fun c1 => ?_)
      · have hf := hg.1 c1
        refine lv_iload hx hb dX5_charactersIn_59 (lv_at hl 1 rfl) ?_
        have ho := Option.some.inj hf
        exact W.iret (v := x4) hx hb hr (fun t ht hW => ⟨⟨x4, (), rfl, ho, hrE ht hH⟩, hS.F ht⟩) hS.2.2 dX5_charactersIn_61
      · have hf := hg.2 c1
        refine lv_lload_n hx hb dX5_charactersIn_15 rfl (lv_at hl 0 rfl) ?_
        refine lv_lconst (v := 0) hx hb dX5_charactersIn_16 (by decide) ?_
        refine W.lcmp hx hb dX5_charactersIn_17 ?_
        have hg := gif hf
        refine lv_if_eq (tgt := 59) hx hb dX5_charactersIn_18 (by decide) (fun c2 => ?_) (fun c2 => ?_)
        · have hf := hg.1 c2
          refine lv_iload hx hb dX5_charactersIn_59 (lv_at hl 1 rfl) ?_
          have ho := Option.some.inj hf
          exact W.iret (v := x4) hx hb hr (fun t ht hW => ⟨⟨x4, (), rfl, ho, hrE ht hH⟩, hS.F ht⟩) hS.2.2 dX5_charactersIn_61
        · have hf := hg.2 c2
          refine lv_lload_n hx hb dX5_charactersIn_21 rfl (lv_at hl 0 rfl) ?_
          refine lv_ldc2 (v := 255) hx hb hown (hts _ wd_876) dX5_charactersIn_22 ?_
          refine lv_land hx hb dX5_charactersIn_25 ?_
          refine lv_l2i hx hb dX5_charactersIn_26 rfl ?_
          refine lv_topi (fun v3 ev3 => ?_)
          have hf := gl_at hf ev3
          refine lv_istore (lv' := [(6, .int v3), (2, .long x2), (4, .int x4), (5, .int x5)]) hx hb dX5_charactersIn_27 hl (by decide) rfl (fun ls hl => ?_)
          refine lv_iload hx hb dX5_charactersIn_29 (lv_at hl 0 rfl) ?_
          refine lv_bipush (v := 33) hx hb dX5_charactersIn_31 (by decide) ?_
          have hg := gif hf
          refine lv_icmp_lt (tgt := 43) hx hb dX5_charactersIn_33 (by decide) (fun c4 => ?_) (fun c4 => ?_)
          · have hf := hg.1 c4
            refine lv_iconst (v := 0) hx hb dX5_charactersIn_43 (by decide) ?_
            have ho := Option.some.inj hf
            exact W.iret (v := 0) hx hb hr (fun t ht hW => ⟨⟨0, (), rfl, ho, hrE ht hH⟩, hS.F ht⟩) hS.2.2 dX5_charactersIn_44
          · have hf := hg.2 c4
            refine lv_iload hx hb dX5_charactersIn_36 (lv_at hl 0 rfl) ?_
            refine lv_bipush (v := 126) hx hb dX5_charactersIn_38 (by decide) ?_
            have hg := gif hf
            refine lv_icmp_le (tgt := 45) hx hb dX5_charactersIn_40 (by decide) (fun c5 => ?_) (fun c5 => ?_)
            · have hf := hg.1 c5
              refine lv_lload_n hx hb dX5_charactersIn_45 rfl (lv_at hl 1 rfl) ?_
              refine lv_bipush (v := 8) hx hb dX5_charactersIn_46 (by decide) ?_
              refine lv_lushr hx hb dX5_charactersIn_48 rfl ?_
              refine lv_topl (fun v6 ev6 => ?_)
              have hf := gl_at hf ev6
              refine lv_lstore_n (lv' := [(2, .long v6), (6, .int v3), (4, .int x4), (5, .int x5)]) hx hb dX5_charactersIn_49 rfl hl (by decide) rfl (fun ls hl => ?_)
              obtain ⟨v7, ev7⟩ : ∃ z : Int32, z = x4 + 1 := ⟨_, rfl⟩
              have hf := gl_at hf ev7
              refine lv_iinc (v := v7) (lv' := [(4, .int v7), (2, .long v6), (6, .int v3), (5, .int x5)]) hx hb dX5_charactersIn_50 hl (k := 2) rfl (by rw [ev7]; rfl) (by decide) rfl (fun ls hl => ?_)
              obtain ⟨v8, ev8⟩ : ∃ z : Int32, z = x5 + 1 := ⟨_, rfl⟩
              have hf := gl_at hf ev8
              refine lv_iinc (v := v8) (lv' := [(5, .int v8), (4, .int v7), (2, .long v6), (6, .int v3)]) hx hb dX5_charactersIn_53 hl (k := 3) rfl (by rw [ev8]; rfl) (by decide) rfl (fun ls hl => ?_)
              refine lv_goto (tgt := 8) hx hb dX5_charactersIn_56 (by decide) ?_
              exact ih _ _ _ _ _ _ hH hS (lv_sub hl [2, 1, 0] rfl) hf
            · have hf := hg.2 c5
              refine lv_iconst (v := 0) hx hb dX5_charactersIn_43 (by decide) ?_
              have ho := Option.some.inj hf
              exact W.iret (v := 0) hx hb hr (fun t ht hW => ⟨⟨0, (), rfl, ho, hrE ht hH⟩, hS.F ht⟩) hS.2.2 dX5_charactersIn_44
  have hl : lv_has ls 7 [(0, .long p0)] := hl
  refine lv_lload_n hx hb dX5_charactersIn_0 rfl (lv_at hl 0 rfl) ?_
  refine lv_lstore_n (lv' := [(2, .long p0), (0, .long p0)]) hx hb dX5_charactersIn_1 rfl hl (by decide) rfl (fun ls hl => ?_)
  refine lv_iconst (v := 0) hx hb dX5_charactersIn_2 (by decide) ?_
  refine lv_istore (lv' := [(4, .int 0), (2, .long p0), (0, .long p0)]) hx hb dX5_charactersIn_3 hl (by decide) rfl (fun ls hl => ?_)
  refine lv_iconst (v := 0) hx hb dX5_charactersIn_5 (by decide) ?_
  refine lv_istore (lv' := [(5, .int 0), (4, .int 0), (2, .long p0), (0, .long p0)]) hx hb dX5_charactersIn_6 hl (by decide) rfl (fun ls hl => ?_)
  exact B8 _ _ _ _ _ _ _ hH hS (lv_sub hl [2, 1, 0] rfl) hf
set_option maxRecDepth 100000 in
set_option maxHeartbeats 8000000 in
theorem c5_takeOver (l : Launch) (w : GW) (K : GK) (g : GM) (S : GS) (a : Nat) (p0 : Option Nat) (out : GM) (hf : f5_takeOver K g a p0 = some out) (hk0 : gkd K a = 6) : Met l yX5_takeOver (wA yX5_takeOver cX5_takeOver 2 none) ({ frames := 1, cells := 0, slots := 0, locals := 60 } : Room) (PRE w K g S [.ref a, va_rf p0]) (QV w K out S) 0 0 (FR w) := by
  unfold f5_takeOver at hf
  rcases gopt_c hf with ⟨rfl, hf⟩ | ⟨tp0, rfl, hf⟩
  · cases hf
  · show Met l yX5_takeOver (wA yX5_takeOver cX5_takeOver 2 none) ({ frames := 1, cells := 0, slots := 0, locals := 60 } : Room) (PRE w K g S [.ref a, .ref tp0]) (QV w K out S) 0 0 (FR w)
    refine Met.ofW (cc := cX5_takeOver) (maxL := 2) (ret := none) (by decide) rfl ?_
    intro p e s m args below meth c s₁ B hml hv
    obtain ⟨rfl, hH, hK⟩ := hv
    have hx := B.exec
    have hb := B.bytes
    have hr := B.returns
    have hts : ∀ q ∈ gALL, q.before _ s = true := fun q h => atoms_spec (ws := (wA yX5_takeOver cX5_takeOver 2 none)) B.pre q (List.mem_cons_of_mem _ h)
    have hown : s.vm.findClass RX5 = some m.cls := findClass_of_methodNamed B.named
    have hlocks := B.notSynchronized
    have hS : va_S (FR w) s.heap s.heap [] := va_S.rf
    show W p l e ({ frames := 1, cells := 0, slots := 0, locals := 60 } : Room) s m _ below meth c s.heap [] 0 0 (MQ below (QV w K out S) _ s 0 0 (FR w)) _
    have hl := lv_entry ([.ref a, .ref tp0]) (n := 2) (Nat.le_of_ble_eq_true rfl)
    rw [lg_entry_eq]
    generalize (lg_sl ([.ref a, .ref tp0]) ++ List.replicate (2 - (lg_sl ([.ref a, .ref tp0])).length) Slot.unset).toArray = ls at hl ⊢
    clear B
    generalize ([.ref a, .ref tp0] : List Value).toArray = args at hts ⊢
    have hl : lv_has ls 2 [(0, .ref a), (1, .ref tp0)] := hl
    refine lv_aload_n hx hb dX5_takeOver_0 rfl (lv_at hl 0 rfl) ?_
    refine lv_aload_n hx hb dX5_takeOver_1 rfl (lv_at hl 1 rfl) ?_
    obtain ⟨k1, hf⟩ := gd_some hf
    have k1 := gk_obj k1
    refine e_1_0 hx hb hts hown hK hH k1 (hts _ wd_682) dX5_takeOver_2 ?_
    refine lv_bipush (v := 80) hx hb dX5_takeOver_5 (by decide) ?_
    refine va_mmin hx hb (hml.trans hl.1.symm) hown (hts _ wd_683) (hts _ wd_134) (hts _ wd_135) (hts _ wd_136) (Nat.le_of_ble_eq_true rfl) (Nat.le_of_ble_eq_true rfl) (Nat.le_of_ble_eq_true rfl) (Nat.le_of_ble_eq_true rfl) dX5_takeOver_7 ?_
    refine p_5_1 hx hb hts hown hK hH hS hk0 (hts _ wd_40) dX5_takeOver_10 (fun H locs hH hS => ?_)
    obtain ⟨g2, eg2⟩ : ∃ z : GM, z = gsI g a 1 (if 80 < (gI g tp0 0) then 80 else (gI g tp0 0)) := ⟨_, rfl⟩
    have hf := gl_at hf eg2
    replace hH : HR w K g2 S H := by rw [eg2]; exact hH
    refine lv_aload_n hx hb dX5_takeOver_13 rfl (lv_at hl 1 rfl) ?_
    have k3 : K.1 (tp0 + 1) = (11, gkn K tp0) := hH.sub k1 0 (t := (1, 11, gkn K tp0)) rfl
    refine e_1_4 hx hb hts hown hK hH k1 (hts _ wd_684) dX5_takeOver_14 ?_
    refine lv_iconst (v := 0) hx hb dX5_takeOver_17 (by decide) ?_
    refine lv_aload_n hx hb dX5_takeOver_18 rfl (lv_at hl 0 rfl) ?_
    have k4 : K.1 (a + 1) = (11, 80) := hH.sub hk0 0 (t := (1, 11, 80)) rfl
    refine e_5_0 hx hb hts hown hK hH hk0 (hts _ wd_39) dX5_takeOver_19 ?_
    refine lv_iconst (v := 0) hx hb dX5_takeOver_22 (by decide) ?_
    refine lv_aload_n hx hb dX5_takeOver_23 rfl (lv_at hl 0 rfl) ?_
    refine e_5_1 hx hb hts hown hK hH hk0 (hts _ wd_40) dX5_takeOver_24 ?_
    obtain ⟨h5, hf⟩ := gd_some hf
    obtain ⟨h51, h52, h53, h54, h55⟩ := of_decide_eq_true h5
    obtain ⟨h6, hf⟩ := gd_some hf
    refine g_copy hx hb (hml.trans hl.1.symm) hown (hts _ wd_685) (hts _ wd_138) (hts _ wd_139) (hts _ wd_140) hK hH hS (t := 1) (ty := .char) k3 k4 (fun _ _ _ h => gcell11 h) (by decide) rfl rfl h51 h52 h53 h54 h55 (gft_at h6) (Nat.le_of_ble_eq_true rfl) (Nat.le_of_ble_eq_true rfl) dX5_takeOver_27 (fun H locs hH hS => ?_)
    obtain ⟨g7, eg7⟩ : ∃ z : GM, z = gsC g2 (a + 1) (va_cpy (g2.1 (tp0 + 1)) (g2.1 (a + 1)) (0 : Int32).toNatClampNeg (0 : Int32).toNatClampNeg (gI g2 a 1).toNatClampNeg) := ⟨_, rfl⟩
    have hf := gl_at hf eg7
    replace hH : HR w K g7 S H := by rw [eg7]; exact hH
    have ho := Option.some.inj hf
    exact W.vret hx hb hr (fun t ht hW => ⟨⟨(), rfl, trivial, hrV ht ho hH⟩, hS.F ht⟩) hS.2.2 dX5_takeOver_30
set_option maxRecDepth 100000 in
set_option maxHeartbeats 8000000 in
theorem c6_takesStep (l : Launch) (w : GW) (K : GK) (g : GM) (S : GS) (a : Nat) (p0 : Int32) (p1 : Int32) (out : GM × Int32) (hf : f6_takesStep K g a p0 p1 = some out) (hk0 : gkd K a = 7) : Met l yX6_takesStep (wA yX6_takesStep cX6_takesStep 3 (some .boolean)) ({ frames := 0, cells := 0, slots := 0, locals := 0 } : Room) (PRE w K g S [.ref a, .int p0, .int p1]) (QI w K out.1 S out.2) 0 0 (FR w) := by
  unfold f6_takesStep at hf
  refine Met.ofW (cc := cX6_takesStep) (maxL := 3) (ret := (some .boolean)) (by decide) rfl ?_
  intro p e s m args below meth c s₁ B hml hv
  obtain ⟨rfl, hH, hK⟩ := hv
  have hx := B.exec
  have hb := B.bytes
  have hr := B.returns
  have hts : ∀ q ∈ gALL, q.before _ s = true := fun q h => atoms_spec (ws := (wA yX6_takesStep cX6_takesStep 3 (some .boolean))) B.pre q (List.mem_cons_of_mem _ h)
  have hown : s.vm.findClass RX6 = some m.cls := findClass_of_methodNamed B.named
  have hlocks := B.notSynchronized
  have hS : va_S (FR w) s.heap s.heap [] := va_S.rf
  show W p l e ({ frames := 0, cells := 0, slots := 0, locals := 0 } : Room) s m _ below meth c s.heap [] 0 0 (MQ below (QI w K out.1 S out.2) _ s 0 0 (FR w)) _
  have hl := lv_entry ([.ref a, .int p0, .int p1]) (n := 3) (Nat.le_of_ble_eq_true rfl)
  rw [lg_entry_eq]
  generalize (lg_sl ([.ref a, .int p0, .int p1]) ++ List.replicate (3 - (lg_sl ([.ref a, .int p0, .int p1])).length) Slot.unset).toArray = ls at hl ⊢
  clear B
  generalize ([.ref a, .int p0, .int p1] : List Value).toArray = args at hts ⊢
  have B103 : ∀ (g : GM) (H : Heap) (locs : List Loc) (ls : Array Slot), HR w K g S H → va_S (FR w) s.heap H locs → lv_has ls 3 [(0, .ref a), (2, .int p1)] → f6_takesStep_103 K a p0 p1 g = some out → W p l e ({ frames := 0, cells := 0, slots := 0, locals := 0 } : Room) s m args below meth c H locs 0 0 (MQ below (QI w K out.1 S out.2) args s 0 0 (FR w)) (F0 m 103 ls []) := by
    intro  g H locs ls hH hS hl hf
    unfold f6_takesStep_103 at hf
    refine lv_aload_n hx hb dX6_takesStep_103 rfl (lv_at hl 0 rfl) ?_
    refine lv_iload_n hx hb dX6_takesStep_104 rfl (lv_at hl 1 rfl) ?_
    refine p_6_12 hx hb hts hown hK hH hS hk0 (hts _ wd_190) dX6_takesStep_105 (fun H locs hH hS => ?_)
    obtain ⟨g1, eg1⟩ : ∃ z : GM, z = gsI g a 12 p1 := ⟨_, rfl⟩
    have hf := gl_at hf eg1
    replace hH : HR w K g1 S H := by rw [eg1]; exact hH
    refine lv_aload_n hx hb dX6_takesStep_108 rfl (lv_at hl 0 rfl) ?_
    have k2 : K.1 (a + 2) = (10, 80) := hH.sub hk0 1 (t := (2, 10, 80)) rfl
    refine e_6_1 hx hb hts hown hK hH hk0 (hts _ wd_46) dX6_takesStep_109 ?_
    refine lv_iload_n hx hb dX6_takesStep_112 rfl (lv_at hl 1 rfl) ?_
    refine lv_iconst (v := 1) hx hb dX6_takesStep_113 (by decide) ?_
    obtain ⟨h4, hf⟩ := gd_some hf
    refine g_iast hx hb hK hH hS k2 h4 dX6_takesStep_114 (fun H locs hH hS => ?_)
    obtain ⟨g5, eg5⟩ : ∃ z : GM, z = gsI g1 (a + 2) p1.toNatClampNeg 1 := ⟨_, rfl⟩
    have hf := gl_at hf eg5
    replace hH : HR w K g5 S H := by rw [eg5]; exact hH
    refine lv_aload_n hx hb dX6_takesStep_115 rfl (lv_at hl 0 rfl) ?_
    have k6 : K.1 (a + 3) = (10, 80) := hH.sub hk0 2 (t := (3, 10, 80)) rfl
    refine e_6_2 hx hb hts hown hK hH hk0 (hts _ wd_47) dX6_takesStep_116 ?_
    refine lv_iload_n hx hb dX6_takesStep_119 rfl (lv_at hl 1 rfl) ?_
    refine lv_iconst (v := 0) hx hb dX6_takesStep_120 (by decide) ?_
    refine g_iast hx hb hK hH hS k6 h4 dX6_takesStep_121 (fun H locs hH hS => ?_)
    obtain ⟨g8, eg8⟩ : ∃ z : GM, z = gsI g5 (a + 3) p1.toNatClampNeg 0 := ⟨_, rfl⟩
    have hf := gl_at hf eg8
    replace hH : HR w K g8 S H := by rw [eg8]; exact hH
    refine lv_aload_n hx hb dX6_takesStep_122 rfl (lv_at hl 0 rfl) ?_
    have k9 : K.1 (a + 4) = (10, 80) := hH.sub hk0 3 (t := (4, 10, 80)) rfl
    refine e_6_3 hx hb hts hown hK hH hk0 (hts _ wd_48) dX6_takesStep_123 ?_
    refine lv_iload_n hx hb dX6_takesStep_126 rfl (lv_at hl 1 rfl) ?_
    refine lv_iload_n hx hb dX6_takesStep_127 rfl (lv_at hl 1 rfl) ?_
    refine lv_iconst (v := 1) hx hb dX6_takesStep_128 (by decide) ?_
    refine lv_iadd hx hb dX6_takesStep_129 ?_
    refine g_iast hx hb hK hH hS k9 h4 dX6_takesStep_130 (fun H locs hH hS => ?_)
    obtain ⟨g11, eg11⟩ : ∃ z : GM, z = gsI g8 (a + 4) p1.toNatClampNeg (p1 + 1) := ⟨_, rfl⟩
    have hf := gl_at hf eg11
    replace hH : HR w K g11 S H := by rw [eg11]; exact hH
    refine lv_aload_n hx hb dX6_takesStep_131 rfl (lv_at hl 0 rfl) ?_
    have k12 : K.1 (a + 5) = (10, 80) := hH.sub hk0 4 (t := (5, 10, 80)) rfl
    refine e_6_4 hx hb hts hown hK hH hk0 (hts _ wd_49) dX6_takesStep_132 ?_
    refine lv_iload_n hx hb dX6_takesStep_135 rfl (lv_at hl 1 rfl) ?_
    refine lv_iload_n hx hb dX6_takesStep_136 rfl (lv_at hl 1 rfl) ?_
    refine lv_iconst (v := 1) hx hb dX6_takesStep_137 (by decide) ?_
    refine lv_iadd hx hb dX6_takesStep_138 ?_
    refine g_iast hx hb hK hH hS k12 h4 dX6_takesStep_139 (fun H locs hH hS => ?_)
    obtain ⟨g14, eg14⟩ : ∃ z : GM, z = gsI g11 (a + 5) p1.toNatClampNeg (p1 + 1) := ⟨_, rfl⟩
    have hf := gl_at hf eg14
    replace hH : HR w K g14 S H := by rw [eg14]; exact hH
    refine lv_aload_n hx hb dX6_takesStep_140 rfl (lv_at hl 0 rfl) ?_
    refine lv_dup hx hb dX6_takesStep_141 rfl ?_
    refine e_6_6 hx hb hts hown hK hH hk0 (hts _ wd_186) dX6_takesStep_142 ?_
    refine lv_iconst (v := 1) hx hb dX6_takesStep_145 (by decide) ?_
    refine lv_iadd hx hb dX6_takesStep_146 ?_
    refine p_6_6 hx hb hts hown hK hH hS hk0 (hts _ wd_186) dX6_takesStep_147 (fun H locs hH hS => ?_)
    obtain ⟨g15, eg15⟩ : ∃ z : GM, z = gsI g14 a 6 ((gI g14 a 6) + 1) := ⟨_, rfl⟩
    have hf := gl_at hf eg15
    replace hH : HR w K g15 S H := by rw [eg15]; exact hH
    refine lv_iconst (v := 1) hx hb dX6_takesStep_150 (by decide) ?_
    have ho := Option.some.inj hf
    exact W.zret (v := 1) (ty := .boolean) hx hb hr rfl (fun t ht hW => ⟨⟨1, (), rfl, congrArg Prod.snd ho, hrP ht ho hH⟩, hS.F ht⟩) hS.2.2 dX6_takesStep_151
  have hl : lv_has ls 3 [(0, .ref a), (1, .int p0), (2, .int p1)] := hl
  refine lv_iload_n hx hb dX6_takesStep_0 rfl (lv_at hl 1 rfl) ?_
  have hg := gif hf
  by_cases c16 : p0 = 99
  · have hf := hg.1 c16
    refine lv_lookup (tgt := 68) hx hb dX6_takesStep_1 (by decide +kernel) (by rw [c16]; first | done | decide +kernel) (by decide) ?_
    refine lv_aload_n hx hb dX6_takesStep_68 rfl (lv_at hl 0 rfl) ?_
    refine lv_iconst (v := 4) hx hb dX6_takesStep_69 (by decide) ?_
    refine p_6_11 hx hb hts hown hK hH hS hk0 (hts _ wd_191) dX6_takesStep_70 (fun H locs hH hS => ?_)
    obtain ⟨g17, eg17⟩ : ∃ z : GM, z = gsI g a 11 4 := ⟨_, rfl⟩
    have hf := gl_at hf eg17
    replace hH : HR w K g17 S H := by rw [eg17]; exact hH
    refine lv_goto (tgt := 103) hx hb dX6_takesStep_73 (by decide) ?_
    exact B103 _ _ _ _ hH hS (lv_sub hl [0, 2] rfl) hf
  have hf := hg.2 c16
  have hg := gif hf
  by_cases c18 : p0 = 107
  · have hf := hg.1 c18
    refine lv_lookup (tgt := 76) hx hb dX6_takesStep_1 (by decide +kernel) (by rw [c18]; first | done | decide +kernel) (by decide) ?_
    refine lv_aload_n hx hb dX6_takesStep_76 rfl (lv_at hl 0 rfl) ?_
    refine lv_iconst (v := 5) hx hb dX6_takesStep_77 (by decide) ?_
    refine p_6_11 hx hb hts hown hK hH hS hk0 (hts _ wd_191) dX6_takesStep_78 (fun H locs hH hS => ?_)
    obtain ⟨g19, eg19⟩ : ∃ z : GM, z = gsI g a 11 5 := ⟨_, rfl⟩
    have hf := gl_at hf eg19
    replace hH : HR w K g19 S H := by rw [eg19]; exact hH
    refine lv_goto (tgt := 103) hx hb dX6_takesStep_81 (by decide) ?_
    exact B103 _ _ _ _ hH hS (lv_sub hl [0, 2] rfl) hf
  have hf := hg.2 c18
  have hg := gif hf
  by_cases c20 : p0 = 108
  · have hf := hg.1 c20
    refine lv_lookup (tgt := 92) hx hb dX6_takesStep_1 (by decide +kernel) (by rw [c20]; first | done | decide +kernel) (by decide) ?_
    refine lv_aload_n hx hb dX6_takesStep_92 rfl (lv_at hl 0 rfl) ?_
    refine lv_bipush (v := 6) hx hb dX6_takesStep_93 (by decide) ?_
    refine p_6_11 hx hb hts hown hK hH hS hk0 (hts _ wd_191) dX6_takesStep_95 (fun H locs hH hS => ?_)
    obtain ⟨g21, eg21⟩ : ∃ z : GM, z = gsI g a 11 6 := ⟨_, rfl⟩
    have hf := gl_at hf eg21
    replace hH : HR w K g21 S H := by rw [eg21]; exact hH
    refine lv_goto (tgt := 103) hx hb dX6_takesStep_98 (by decide) ?_
    exact B103 _ _ _ _ hH hS (lv_sub hl [0, 2] rfl) hf
  have hf := hg.2 c20
  have hg := gif hf
  by_cases c22 : p0 = 115
  · have hf := hg.1 c22
    refine lv_lookup (tgt := 92) hx hb dX6_takesStep_1 (by decide +kernel) (by rw [c22]; first | done | decide +kernel) (by decide) ?_
    refine lv_aload_n hx hb dX6_takesStep_92 rfl (lv_at hl 0 rfl) ?_
    refine lv_bipush (v := 6) hx hb dX6_takesStep_93 (by decide) ?_
    refine p_6_11 hx hb hts hown hK hH hS hk0 (hts _ wd_191) dX6_takesStep_95 (fun H locs hH hS => ?_)
    obtain ⟨g23, eg23⟩ : ∃ z : GM, z = gsI g a 11 6 := ⟨_, rfl⟩
    have hf := gl_at hf eg23
    replace hH : HR w K g23 S H := by rw [eg23]; exact hH
    refine lv_goto (tgt := 103) hx hb dX6_takesStep_98 (by decide) ?_
    exact B103 _ _ _ _ hH hS (lv_sub hl [0, 2] rfl) hf
  have hf := hg.2 c22
  have hg := gif hf
  by_cases c24 : p0 = 119
  · have hf := hg.1 c24
    refine lv_lookup (tgt := 60) hx hb dX6_takesStep_1 (by decide +kernel) (by rw [c24]; first | done | decide +kernel) (by decide) ?_
    refine lv_aload_n hx hb dX6_takesStep_60 rfl (lv_at hl 0 rfl) ?_
    refine lv_iconst (v := 2) hx hb dX6_takesStep_61 (by decide) ?_
    refine p_6_11 hx hb hts hown hK hH hS hk0 (hts _ wd_191) dX6_takesStep_62 (fun H locs hH hS => ?_)
    obtain ⟨g25, eg25⟩ : ∃ z : GM, z = gsI g a 11 2 := ⟨_, rfl⟩
    have hf := gl_at hf eg25
    replace hH : HR w K g25 S H := by rw [eg25]; exact hH
    refine lv_goto (tgt := 103) hx hb dX6_takesStep_65 (by decide) ?_
    exact B103 _ _ _ _ hH hS (lv_sub hl [0, 2] rfl) hf
  have hf := hg.2 c24
  have hg := gif hf
  by_cases c26 : p0 = 120
  · have hf := hg.1 c26
    refine lv_lookup (tgt := 84) hx hb dX6_takesStep_1 (by decide +kernel) (by rw [c26]; first | done | decide +kernel) (by decide) ?_
    refine lv_aload_n hx hb dX6_takesStep_84 rfl (lv_at hl 0 rfl) ?_
    refine lv_iconst (v := 3) hx hb dX6_takesStep_85 (by decide) ?_
    refine p_6_11 hx hb hts hown hK hH hS hk0 (hts _ wd_191) dX6_takesStep_86 (fun H locs hH hS => ?_)
    obtain ⟨g27, eg27⟩ : ∃ z : GM, z = gsI g a 11 3 := ⟨_, rfl⟩
    have hf := gl_at hf eg27
    replace hH : HR w K g27 S H := by rw [eg27]; exact hH
    refine lv_goto (tgt := 103) hx hb dX6_takesStep_89 (by decide) ?_
    exact B103 _ _ _ _ hH hS (lv_sub hl [0, 2] rfl) hf
  have hf := hg.2 c26
  have nc16 : p0.toInt ≠ 99 := g_ne c16 (by decide)
  have nc18 : p0.toInt ≠ 107 := g_ne c18 (by decide)
  have nc20 : p0.toInt ≠ 108 := g_ne c20 (by decide)
  have nc22 : p0.toInt ≠ 115 := g_ne c22 (by decide)
  have nc24 : p0.toInt ≠ 119 := g_ne c24 (by decide)
  have nc26 : p0.toInt ≠ 120 := g_ne c26 (by decide)
  refine lv_lookup (off := 100) (tgt := 101) hx hb dX6_takesStep_1 (by decide +kernel) (by simp [Op.lookupswitch.offset, nc16, nc18, nc20, nc22, nc24, nc26, nc16.symm, nc18.symm, nc20.symm, nc22.symm, nc24.symm, nc26.symm]) (by decide) ?_
  refine lv_iconst (v := 0) hx hb dX6_takesStep_101 (by decide) ?_
  have ho := Option.some.inj hf
  exact W.zret (v := 0) (ty := .boolean) hx hb hr rfl (fun t ht hW => ⟨⟨0, (), rfl, congrArg Prod.snd ho, hrP ht ho hH⟩, hS.F ht⟩) hS.2.2 dX6_takesStep_102
set_option maxRecDepth 100000 in
set_option maxHeartbeats 8000000 in
theorem c6_takesEnd (l : Launch) (w : GW) (K : GK) (g : GM) (S : GS) (a : Nat) (p0 : Int32) (out : GM × Int32) (hf : f6_takesEnd K g a p0 = some out) (hk0 : gkd K a = 7) : Met l yX6_takesEnd (wA yX6_takesEnd cX6_takesEnd 2 (some .boolean)) ({ frames := 0, cells := 0, slots := 0, locals := 0 } : Room) (PRE w K g S [.ref a, .int p0]) (QI w K out.1 S out.2) 0 0 (FR w) := by
  unfold f6_takesEnd at hf
  refine Met.ofW (cc := cX6_takesEnd) (maxL := 2) (ret := (some .boolean)) (by decide) rfl ?_
  intro p e s m args below meth c s₁ B hml hv
  obtain ⟨rfl, hH, hK⟩ := hv
  have hx := B.exec
  have hb := B.bytes
  have hr := B.returns
  have hts : ∀ q ∈ gALL, q.before _ s = true := fun q h => atoms_spec (ws := (wA yX6_takesEnd cX6_takesEnd 2 (some .boolean))) B.pre q (List.mem_cons_of_mem _ h)
  have hown : s.vm.findClass RX6 = some m.cls := findClass_of_methodNamed B.named
  have hlocks := B.notSynchronized
  have hS : va_S (FR w) s.heap s.heap [] := va_S.rf
  show W p l e ({ frames := 0, cells := 0, slots := 0, locals := 0 } : Room) s m _ below meth c s.heap [] 0 0 (MQ below (QI w K out.1 S out.2) _ s 0 0 (FR w)) _
  have hl := lv_entry ([.ref a, .int p0]) (n := 2) (Nat.le_of_ble_eq_true rfl)
  rw [lg_entry_eq]
  generalize (lg_sl ([.ref a, .int p0]) ++ List.replicate (2 - (lg_sl ([.ref a, .int p0])).length) Slot.unset).toArray = ls at hl ⊢
  clear B
  generalize ([.ref a, .int p0] : List Value).toArray = args at hts ⊢
  have hl : lv_has ls 2 [(0, .ref a), (1, .int p0)] := hl
  refine lv_aload_n hx hb dX6_takesEnd_0 rfl (lv_at hl 0 rfl) ?_
  refine e_6_10 hx hb hts hown hK hH hk0 (hts _ wd_189) dX6_takesEnd_1 ?_
  have hg := gif hf
  refine lv_if_gt (tgt := 9) hx hb dX6_takesEnd_4 (by decide) (fun c1 => ?_) (fun c1 => ?_)
  · have hf := hg.1 c1
    refine lv_aload_n hx hb dX6_takesEnd_9 rfl (lv_at hl 0 rfl) ?_
    refine lv_dup hx hb dX6_takesEnd_10 rfl ?_
    refine e_6_10 hx hb hts hown hK hH hk0 (hts _ wd_189) dX6_takesEnd_11 ?_
    refine lv_iconst (v := 1) hx hb dX6_takesEnd_14 (by decide) ?_
    refine lv_isub hx hb dX6_takesEnd_15 ?_
    refine p_6_10 hx hb hts hown hK hH hS hk0 (hts _ wd_189) dX6_takesEnd_16 (fun H locs hH hS => ?_)
    obtain ⟨g2, eg2⟩ : ∃ z : GM, z = gsI g a 10 ((gI g a 10) - 1) := ⟨_, rfl⟩
    have hf := gl_at hf eg2
    replace hH : HR w K g2 S H := by rw [eg2]; exact hH
    refine lv_aload_n hx hb dX6_takesEnd_19 rfl (lv_at hl 0 rfl) ?_
    have k3 : K.1 (a + 5) = (10, 80) := hH.sub hk0 4 (t := (5, 10, 80)) rfl
    refine e_6_4 hx hb hts hown hK hH hk0 (hts _ wd_49) dX6_takesEnd_20 ?_
    refine lv_aload_n hx hb dX6_takesEnd_23 rfl (lv_at hl 0 rfl) ?_
    have k4 : K.1 (a + 6) = (10, 3) := hH.sub hk0 5 (t := (6, 10, 3)) rfl
    refine e_6_9 hx hb hts hown hK hH hk0 (hts _ wd_50) dX6_takesEnd_24 ?_
    refine lv_aload_n hx hb dX6_takesEnd_27 rfl (lv_at hl 0 rfl) ?_
    refine e_6_10 hx hb hts hown hK hH hk0 (hts _ wd_189) dX6_takesEnd_28 ?_
    obtain ⟨h6, hf⟩ := gd_some hf
    refine g_iald hx hb hK hH k4 h6 dX6_takesEnd_31 ?_
    refine lv_iload_n hx hb dX6_takesEnd_32 rfl (lv_at hl 1 rfl) ?_
    refine lv_iconst (v := 1) hx hb dX6_takesEnd_33 (by decide) ?_
    refine lv_iadd hx hb dX6_takesEnd_34 ?_
    obtain ⟨h8, hf⟩ := gd_some hf
    refine g_iast hx hb hK hH hS k3 h8 dX6_takesEnd_35 (fun H locs hH hS => ?_)
    obtain ⟨g9, eg9⟩ : ∃ z : GM, z = gsI g2 (a + 5) (gI g2 (a + 6) (gI g2 a 10).toNatClampNeg).toNatClampNeg (p0 + 1) := ⟨_, rfl⟩
    have hf := gl_at hf eg9
    replace hH : HR w K g9 S H := by rw [eg9]; exact hH
    refine lv_aload_n hx hb dX6_takesEnd_36 rfl (lv_at hl 0 rfl) ?_
    refine lv_iconst (v := 1) hx hb dX6_takesEnd_37 (by decide) ?_
    refine p_6_11 hx hb hts hown hK hH hS hk0 (hts _ wd_191) dX6_takesEnd_38 (fun H locs hH hS => ?_)
    obtain ⟨g10, eg10⟩ : ∃ z : GM, z = gsI g9 a 11 1 := ⟨_, rfl⟩
    have hf := gl_at hf eg10
    replace hH : HR w K g10 S H := by rw [eg10]; exact hH
    refine lv_iconst (v := 1) hx hb dX6_takesEnd_41 (by decide) ?_
    have ho := Option.some.inj hf
    exact W.zret (v := 1) (ty := .boolean) hx hb hr rfl (fun t ht hW => ⟨⟨1, (), rfl, congrArg Prod.snd ho, hrP ht ho hH⟩, hS.F ht⟩) hS.2.2 dX6_takesEnd_42
  · have hf := hg.2 c1
    refine lv_iconst (v := 0) hx hb dX6_takesEnd_7 (by decide) ?_
    have ho := Option.some.inj hf
    exact W.zret (v := 0) (ty := .boolean) hx hb hr rfl (fun t ht hW => ⟨⟨0, (), rfl, congrArg Prod.snd ho, hrP ht ho hH⟩, hS.F ht⟩) hS.2.2 dX6_takesEnd_8
set_option maxRecDepth 100000 in
set_option maxHeartbeats 8000000 in
theorem c6_isCount (l : Launch) (w : GW) (K : GK) (g : GM) (S : GS) (p0 : Int32) (out : Int32) (hf : f6_isCount p0 = some out) : Met l yX6_isCount (wA yX6_isCount cX6_isCount 1 (some .boolean)) ({ frames := 0, cells := 0, slots := 0, locals := 0 } : Room) (PRE w K g S [.int p0]) (QI w K g S out) 0 0 (FR w) := by
  unfold f6_isCount at hf
  refine Met.ofW (cc := cX6_isCount) (maxL := 1) (ret := (some .boolean)) (by decide) rfl ?_
  intro p e s m args below meth c s₁ B hml hv
  obtain ⟨rfl, hH, hK⟩ := hv
  have hx := B.exec
  have hb := B.bytes
  have hr := B.returns
  have hts : ∀ q ∈ gALL, q.before _ s = true := fun q h => atoms_spec (ws := (wA yX6_isCount cX6_isCount 1 (some .boolean))) B.pre q (List.mem_cons_of_mem _ h)
  have hown : s.vm.findClass RX6 = some m.cls := findClass_of_methodNamed B.named
  have hlocks := B.notSynchronized
  have hS : va_S (FR w) s.heap s.heap [] := va_S.rf
  show W p l e ({ frames := 0, cells := 0, slots := 0, locals := 0 } : Room) s m _ below meth c s.heap [] 0 0 (MQ below (QI w K g S out) _ s 0 0 (FR w)) _
  have hl := lv_entry ([.int p0]) (n := 1) (Nat.le_of_ble_eq_true rfl)
  rw [lg_entry_eq]
  generalize (lg_sl ([.int p0]) ++ List.replicate (1 - (lg_sl ([.int p0])).length) Slot.unset).toArray = ls at hl ⊢
  clear B
  generalize ([.int p0] : List Value).toArray = args at hts ⊢
  have B16 : ∀ (H : Heap) (locs : List Loc) (ls : Array Slot), HR w K g S H → va_S (FR w) s.heap H locs → lv_has ls 1 [] → f6_isCount_16 p0 = some out → W p l e ({ frames := 0, cells := 0, slots := 0, locals := 0 } : Room) s m args below meth c H locs 0 0 (MQ below (QI w K g S out) args s 0 0 (FR w)) (F0 m 16 ls []) := by
    intro   H locs ls hH hS hl hf
    unfold f6_isCount_16 at hf
    refine lv_iconst (v := 0) hx hb dX6_isCount_16 (by decide) ?_
    have ho := Option.some.inj hf
    exact W.zret (v := 0) (ty := .boolean) hx hb hr rfl (fun t ht hW => ⟨⟨0, (), rfl, ho, hrE ht hH⟩, hS.F ht⟩) hS.2.2 dX6_isCount_17
  have hl : lv_has ls 1 [(0, .int p0)] := hl
  refine lv_iload_n hx hb dX6_isCount_0 rfl (lv_at hl 0 rfl) ?_
  refine lv_bipush (v := 50) hx hb dX6_isCount_1 (by decide) ?_
  have hg := gif hf
  refine lv_icmp_lt (tgt := 16) hx hb dX6_isCount_3 (by decide) (fun c1 => ?_) (fun c1 => ?_)
  · have hf := hg.1 c1
    exact B16 _ _ _ hH hS (lv_sub hl [] rfl) hf
  · have hf := hg.2 c1
    refine lv_iload_n hx hb dX6_isCount_6 rfl (lv_at hl 0 rfl) ?_
    refine lv_bipush (v := 57) hx hb dX6_isCount_7 (by decide) ?_
    have hg := gif hf
    refine lv_icmp_gt (tgt := 16) hx hb dX6_isCount_9 (by decide) (fun c2 => ?_) (fun c2 => ?_)
    · have hf := hg.1 c2
      exact B16 _ _ _ hH hS (lv_sub hl [] rfl) hf
    · have hf := hg.2 c2
      refine lv_iconst (v := 1) hx hb dX6_isCount_12 (by decide) ?_
      refine lv_goto (tgt := 17) hx hb dX6_isCount_13 (by decide) ?_
      have ho := Option.some.inj hf
      exact W.zret (v := 1) (ty := .boolean) hx hb hr rfl (fun t ht hW => ⟨⟨1, (), rfl, ho, hrE ht hH⟩, hS.F ht⟩) hS.2.2 dX6_isCount_17
set_option maxRecDepth 100000 in
set_option maxHeartbeats 8000000 in
theorem c6_takesPickCount (l : Launch) (w : GW) (K : GK) (g : GM) (S : GS) (a : Nat) (p0 : Int32) (p1 : Int32) (out : GM × Int32) (hf : f6_takesPickCount K g a p0 p1 = some out) (hk0 : gkd K a = 7) : Met l yX6_takesPickCount (wA yX6_takesPickCount cX6_takesPickCount 3 (some .boolean)) ({ frames := 0, cells := 0, slots := 0, locals := 0 } : Room) (PRE w K g S [.ref a, .int p0, .int p1]) (QI w K out.1 S out.2) 0 0 (FR w) := by
  unfold f6_takesPickCount at hf
  refine Met.ofW (cc := cX6_takesPickCount) (maxL := 3) (ret := (some .boolean)) (by decide) rfl ?_
  intro p e s m args below meth c s₁ B hml hv
  obtain ⟨rfl, hH, hK⟩ := hv
  have hx := B.exec
  have hb := B.bytes
  have hr := B.returns
  have hts : ∀ q ∈ gALL, q.before _ s = true := fun q h => atoms_spec (ws := (wA yX6_takesPickCount cX6_takesPickCount 3 (some .boolean))) B.pre q (List.mem_cons_of_mem _ h)
  have hown : s.vm.findClass RX6 = some m.cls := findClass_of_methodNamed B.named
  have hlocks := B.notSynchronized
  have hS : va_S (FR w) s.heap s.heap [] := va_S.rf
  show W p l e ({ frames := 0, cells := 0, slots := 0, locals := 0 } : Room) s m _ below meth c s.heap [] 0 0 (MQ below (QI w K out.1 S out.2) _ s 0 0 (FR w)) _
  have hl := lv_entry ([.ref a, .int p0, .int p1]) (n := 3) (Nat.le_of_ble_eq_true rfl)
  rw [lg_entry_eq]
  generalize (lg_sl ([.ref a, .int p0, .int p1]) ++ List.replicate (3 - (lg_sl ([.ref a, .int p0, .int p1])).length) Slot.unset).toArray = ls at hl ⊢
  clear B
  generalize ([.ref a, .int p0, .int p1] : List Value).toArray = args at hts ⊢
  have hl : lv_has ls 3 [(0, .ref a), (1, .int p0), (2, .int p1)] := hl
  refine lv_aload_n hx hb dX6_takesPickCount_0 rfl (lv_at hl 0 rfl) ?_
  have k1 : K.1 (a + 2) = (10, 80) := hH.sub hk0 1 (t := (2, 10, 80)) rfl
  refine e_6_1 hx hb hts hown hK hH hk0 (hts _ wd_46) dX6_takesPickCount_1 ?_
  refine lv_aload_n hx hb dX6_takesPickCount_4 rfl (lv_at hl 0 rfl) ?_
  refine e_6_12 hx hb hts hown hK hH hk0 (hts _ wd_190) dX6_takesPickCount_5 ?_
  refine lv_iload_n hx hb dX6_takesPickCount_8 rfl (lv_at hl 1 rfl) ?_
  refine lv_bipush (v := 48) hx hb dX6_takesPickCount_9 (by decide) ?_
  refine lv_isub hx hb dX6_takesPickCount_11 ?_
  obtain ⟨h3, hf⟩ := gd_some hf
  refine g_iast hx hb hK hH hS k1 h3 dX6_takesPickCount_12 (fun H locs hH hS => ?_)
  obtain ⟨g4, eg4⟩ : ∃ z : GM, z = gsI g (a + 2) (gI g a 12).toNatClampNeg (p0 - 48) := ⟨_, rfl⟩
  have hf := gl_at hf eg4
  replace hH : HR w K g4 S H := by rw [eg4]; exact hH
  refine lv_aload_n hx hb dX6_takesPickCount_13 rfl (lv_at hl 0 rfl) ?_
  have k5 : K.1 (a + 5) = (10, 80) := hH.sub hk0 4 (t := (5, 10, 80)) rfl
  refine e_6_4 hx hb hts hown hK hH hk0 (hts _ wd_49) dX6_takesPickCount_14 ?_
  refine lv_aload_n hx hb dX6_takesPickCount_17 rfl (lv_at hl 0 rfl) ?_
  refine e_6_12 hx hb hts hown hK hH hk0 (hts _ wd_190) dX6_takesPickCount_18 ?_
  refine lv_iload_n hx hb dX6_takesPickCount_21 rfl (lv_at hl 2 rfl) ?_
  refine lv_iconst (v := 1) hx hb dX6_takesPickCount_22 (by decide) ?_
  refine lv_iadd hx hb dX6_takesPickCount_23 ?_
  obtain ⟨h7, hf⟩ := gd_some hf
  refine g_iast hx hb hK hH hS k5 h7 dX6_takesPickCount_24 (fun H locs hH hS => ?_)
  obtain ⟨g8, eg8⟩ : ∃ z : GM, z = gsI g4 (a + 5) (gI g4 a 12).toNatClampNeg (p1 + 1) := ⟨_, rfl⟩
  have hf := gl_at hf eg8
  replace hH : HR w K g8 S H := by rw [eg8]; exact hH
  refine lv_aload_n hx hb dX6_takesPickCount_25 rfl (lv_at hl 0 rfl) ?_
  refine lv_iconst (v := 1) hx hb dX6_takesPickCount_26 (by decide) ?_
  refine p_6_11 hx hb hts hown hK hH hS hk0 (hts _ wd_191) dX6_takesPickCount_27 (fun H locs hH hS => ?_)
  obtain ⟨g9, eg9⟩ : ∃ z : GM, z = gsI g8 a 11 1 := ⟨_, rfl⟩
  have hf := gl_at hf eg9
  replace hH : HR w K g9 S H := by rw [eg9]; exact hH
  refine lv_iconst (v := 1) hx hb dX6_takesPickCount_30 (by decide) ?_
  have ho := Option.some.inj hf
  exact W.zret (v := 1) (ty := .boolean) hx hb hr rfl (fun t ht hW => ⟨⟨1, (), rfl, congrArg Prod.snd ho, hrP ht ho hH⟩, hS.F ht⟩) hS.2.2 dX6_takesPickCount_31
set_option maxRecDepth 100000 in
set_option maxHeartbeats 8000000 in
theorem c6_takesPartCount (l : Launch) (w : GW) (K : GK) (g : GM) (S : GS) (a : Nat) (p0 : Int32) (out : GM × Int32) (hf : f6_takesPartCount K g a p0 = some out) (hk0 : gkd K a = 7) : Met l yX6_takesPartCount (wA yX6_takesPartCount cX6_takesPartCount 2 (some .boolean)) ({ frames := 1, cells := 0, slots := 0, locals := 20 } : Room) (PRE w K g S [.ref a, .int p0]) (QI w K out.1 S out.2) 0 0 (FR w) := by
  unfold f6_takesPartCount at hf
  refine Met.ofW (cc := cX6_takesPartCount) (maxL := 2) (ret := (some .boolean)) (by decide) rfl ?_
  intro p e s m args below meth c s₁ B hml hv
  obtain ⟨rfl, hH, hK⟩ := hv
  have hx := B.exec
  have hb := B.bytes
  have hr := B.returns
  have hts : ∀ q ∈ gALL, q.before _ s = true := fun q h => atoms_spec (ws := (wA yX6_takesPartCount cX6_takesPartCount 2 (some .boolean))) B.pre q (List.mem_cons_of_mem _ h)
  have hown : s.vm.findClass RX6 = some m.cls := findClass_of_methodNamed B.named
  have hlocks := B.notSynchronized
  have hS : va_S (FR w) s.heap s.heap [] := va_S.rf
  show W p l e ({ frames := 1, cells := 0, slots := 0, locals := 20 } : Room) s m _ below meth c s.heap [] 0 0 (MQ below (QI w K out.1 S out.2) _ s 0 0 (FR w)) _
  have hl := lv_entry ([.ref a, .int p0]) (n := 2) (Nat.le_of_ble_eq_true rfl)
  rw [lg_entry_eq]
  generalize (lg_sl ([.ref a, .int p0]) ++ List.replicate (2 - (lg_sl ([.ref a, .int p0])).length) Slot.unset).toArray = ls at hl ⊢
  clear B
  generalize ([.ref a, .int p0] : List Value).toArray = args at hts ⊢
  have hl : lv_has ls 2 [(0, .ref a), (1, .int p0)] := hl
  refine lv_iload_n hx hb dX6_takesPartCount_0 rfl (lv_at hl 1 rfl) ?_
  obtain ⟨v1, h2, hf⟩ := gbind hf
  refine g_Si (As := [.int p0]) (rest := []) ⟨hx, hb, hml, hown, hts⟩ (c6_isCount l w K g S p0 v1 h2) (gcwS hts i6_isCount wd_207 rfl rfl ⟨Nat.le_of_ble_eq_true rfl, Nat.le_of_ble_eq_true rfl⟩) hH hK hS hl.1 rfl rfl (Nat.le_of_ble_eq_true rfl) dX6_takesPartCount_1 ⟨Nat.le_refl _, Nat.le_refl _⟩ (fun H locs hH hS => ?_)
  have hg := gif hf
  refine lv_if_ne (tgt := 9) hx hb dX6_takesPartCount_4 (by decide) (fun c3 => ?_) (fun c3 => ?_)
  · have hf := hg.2 c3
    refine lv_aload_n hx hb dX6_takesPartCount_9 rfl (lv_at hl 0 rfl) ?_
    have k4 : K.1 (a + 2) = (10, 80) := hH.sub hk0 1 (t := (2, 10, 80)) rfl
    refine e_6_1 hx hb hts hown hK hH hk0 (hts _ wd_46) dX6_takesPartCount_10 ?_
    refine lv_aload_n hx hb dX6_takesPartCount_13 rfl (lv_at hl 0 rfl) ?_
    refine e_6_12 hx hb hts hown hK hH hk0 (hts _ wd_190) dX6_takesPartCount_14 ?_
    refine lv_iload_n hx hb dX6_takesPartCount_17 rfl (lv_at hl 1 rfl) ?_
    refine lv_bipush (v := 48) hx hb dX6_takesPartCount_18 (by decide) ?_
    refine lv_isub hx hb dX6_takesPartCount_20 ?_
    obtain ⟨h6, hf⟩ := gd_some hf
    refine g_iast hx hb hK hH hS k4 h6 dX6_takesPartCount_21 (fun H locs hH hS => ?_)
    obtain ⟨g7, eg7⟩ : ∃ z : GM, z = gsI g (a + 2) (gI g a 12).toNatClampNeg (p0 - 48) := ⟨_, rfl⟩
    have hf := gl_at hf eg7
    replace hH : HR w K g7 S H := by rw [eg7]; exact hH
    refine lv_aload_n hx hb dX6_takesPartCount_22 rfl (lv_at hl 0 rfl) ?_
    refine lv_bipush (v := 6) hx hb dX6_takesPartCount_23 (by decide) ?_
    refine p_6_11 hx hb hts hown hK hH hS hk0 (hts _ wd_191) dX6_takesPartCount_25 (fun H locs hH hS => ?_)
    obtain ⟨g8, eg8⟩ : ∃ z : GM, z = gsI g7 a 11 6 := ⟨_, rfl⟩
    have hf := gl_at hf eg8
    replace hH : HR w K g8 S H := by rw [eg8]; exact hH
    refine lv_iconst (v := 1) hx hb dX6_takesPartCount_28 (by decide) ?_
    have ho := Option.some.inj hf
    exact W.zret (v := 1) (ty := .boolean) hx hb hr rfl (fun t ht hW => ⟨⟨1, (), rfl, congrArg Prod.snd ho, hrP ht ho hH⟩, hS.F ht⟩) hS.2.2 dX6_takesPartCount_29
  · have hf := hg.1 c3
    refine lv_iconst (v := 0) hx hb dX6_takesPartCount_7 (by decide) ?_
    have ho := Option.some.inj hf
    exact W.zret (v := 0) (ty := .boolean) hx hb hr rfl (fun t ht hW => ⟨⟨0, (), rfl, congrArg Prod.snd ho, hrP ht ho hH⟩, hS.F ht⟩) hS.2.2 dX6_takesPartCount_8
set_option maxRecDepth 100000 in
set_option maxHeartbeats 8000000 in
theorem c6_takesDigit (l : Launch) (w : GW) (K : GK) (g : GM) (S : GS) (a : Nat) (p0 : Int32) (p1 : Int32) (out : GM × Int32) (hf : f6_takesDigit K g a p0 p1 = some out) (hk0 : gkd K a = 7) : Met l yX6_takesDigit (wA yX6_takesDigit cX6_takesDigit 3 (some .boolean)) ({ frames := 0, cells := 0, slots := 0, locals := 0 } : Room) (PRE w K g S [.ref a, .int p0, .int p1]) (QI w K out.1 S out.2) 0 0 (FR w) := by
  unfold f6_takesDigit at hf
  refine Met.ofW (cc := cX6_takesDigit) (maxL := 3) (ret := (some .boolean)) (by decide) rfl ?_
  intro p e s m args below meth c s₁ B hml hv
  obtain ⟨rfl, hH, hK⟩ := hv
  have hx := B.exec
  have hb := B.bytes
  have hr := B.returns
  have hts : ∀ q ∈ gALL, q.before _ s = true := fun q h => atoms_spec (ws := (wA yX6_takesDigit cX6_takesDigit 3 (some .boolean))) B.pre q (List.mem_cons_of_mem _ h)
  have hown : s.vm.findClass RX6 = some m.cls := findClass_of_methodNamed B.named
  have hlocks := B.notSynchronized
  have hS : va_S (FR w) s.heap s.heap [] := va_S.rf
  show W p l e ({ frames := 0, cells := 0, slots := 0, locals := 0 } : Room) s m _ below meth c s.heap [] 0 0 (MQ below (QI w K out.1 S out.2) _ s 0 0 (FR w)) _
  have hl := lv_entry ([.ref a, .int p0, .int p1]) (n := 3) (Nat.le_of_ble_eq_true rfl)
  rw [lg_entry_eq]
  generalize (lg_sl ([.ref a, .int p0, .int p1]) ++ List.replicate (3 - (lg_sl ([.ref a, .int p0, .int p1])).length) Slot.unset).toArray = ls at hl ⊢
  clear B
  generalize ([.ref a, .int p0, .int p1] : List Value).toArray = args at hts ⊢
  have hl : lv_has ls 3 [(0, .ref a), (1, .int p0), (2, .int p1)] := hl
  refine lv_aload_n hx hb dX6_takesDigit_0 rfl (lv_at hl 0 rfl) ?_
  have k1 : K.1 (a + 3) = (10, 80) := hH.sub hk0 2 (t := (3, 10, 80)) rfl
  refine e_6_2 hx hb hts hown hK hH hk0 (hts _ wd_47) dX6_takesDigit_1 ?_
  refine lv_aload_n hx hb dX6_takesDigit_4 rfl (lv_at hl 0 rfl) ?_
  refine e_6_12 hx hb hts hown hK hH hk0 (hts _ wd_190) dX6_takesDigit_5 ?_
  refine lv_iload_n hx hb dX6_takesDigit_8 rfl (lv_at hl 1 rfl) ?_
  refine lv_bipush (v := 48) hx hb dX6_takesDigit_9 (by decide) ?_
  refine lv_isub hx hb dX6_takesDigit_11 ?_
  obtain ⟨h3, hf⟩ := gd_some hf
  refine g_iast hx hb hK hH hS k1 h3 dX6_takesDigit_12 (fun H locs hH hS => ?_)
  obtain ⟨g4, eg4⟩ : ∃ z : GM, z = gsI g (a + 3) (gI g a 12).toNatClampNeg (p0 - 48) := ⟨_, rfl⟩
  have hf := gl_at hf eg4
  replace hH : HR w K g4 S H := by rw [eg4]; exact hH
  refine lv_aload_n hx hb dX6_takesDigit_13 rfl (lv_at hl 0 rfl) ?_
  have k5 : K.1 (a + 5) = (10, 80) := hH.sub hk0 4 (t := (5, 10, 80)) rfl
  refine e_6_4 hx hb hts hown hK hH hk0 (hts _ wd_49) dX6_takesDigit_14 ?_
  refine lv_aload_n hx hb dX6_takesDigit_17 rfl (lv_at hl 0 rfl) ?_
  refine e_6_12 hx hb hts hown hK hH hk0 (hts _ wd_190) dX6_takesDigit_18 ?_
  refine lv_iload_n hx hb dX6_takesDigit_21 rfl (lv_at hl 2 rfl) ?_
  refine lv_iconst (v := 1) hx hb dX6_takesDigit_22 (by decide) ?_
  refine lv_iadd hx hb dX6_takesDigit_23 ?_
  obtain ⟨h7, hf⟩ := gd_some hf
  refine g_iast hx hb hK hH hS k5 h7 dX6_takesDigit_24 (fun H locs hH hS => ?_)
  obtain ⟨g8, eg8⟩ : ∃ z : GM, z = gsI g4 (a + 5) (gI g4 a 12).toNatClampNeg (p1 + 1) := ⟨_, rfl⟩
  have hf := gl_at hf eg8
  replace hH : HR w K g8 S H := by rw [eg8]; exact hH
  refine lv_aload_n hx hb dX6_takesDigit_25 rfl (lv_at hl 0 rfl) ?_
  refine lv_iconst (v := 1) hx hb dX6_takesDigit_26 (by decide) ?_
  refine p_6_11 hx hb hts hown hK hH hS hk0 (hts _ wd_191) dX6_takesDigit_27 (fun H locs hH hS => ?_)
  obtain ⟨g9, eg9⟩ : ∃ z : GM, z = gsI g8 a 11 1 := ⟨_, rfl⟩
  have hf := gl_at hf eg9
  replace hH : HR w K g9 S H := by rw [eg9]; exact hH
  refine lv_iconst (v := 1) hx hb dX6_takesDigit_30 (by decide) ?_
  have ho := Option.some.inj hf
  exact W.zret (v := 1) (ty := .boolean) hx hb hr rfl (fun t ht hW => ⟨⟨1, (), rfl, congrArg Prod.snd ho, hrP ht ho hH⟩, hS.F ht⟩) hS.2.2 dX6_takesDigit_31
set_option maxRecDepth 100000 in
set_option maxHeartbeats 8000000 in
theorem c6_takesBracket (l : Launch) (w : GW) (K : GK) (g : GM) (S : GS) (a : Nat) (p0 : Int32) (p1 : Int32) (out : GM × Int32) (hf : f6_takesBracket K g a p0 p1 = some out) (hk0 : gkd K a = 7) : Met l yX6_takesBracket (wA yX6_takesBracket cX6_takesBracket 3 (some .boolean)) ({ frames := 1, cells := 0, slots := 0, locals := 30 } : Room) (PRE w K g S [.ref a, .int p0, .int p1]) (QI w K out.1 S out.2) 0 0 (FR w) := by
  unfold f6_takesBracket at hf
  refine Met.ofW (cc := cX6_takesBracket) (maxL := 3) (ret := (some .boolean)) (by decide) rfl ?_
  intro p e s m args below meth c s₁ B hml hv
  obtain ⟨rfl, hH, hK⟩ := hv
  have hx := B.exec
  have hb := B.bytes
  have hr := B.returns
  have hts : ∀ q ∈ gALL, q.before _ s = true := fun q h => atoms_spec (ws := (wA yX6_takesBracket cX6_takesBracket 3 (some .boolean))) B.pre q (List.mem_cons_of_mem _ h)
  have hown : s.vm.findClass RX6 = some m.cls := findClass_of_methodNamed B.named
  have hlocks := B.notSynchronized
  have hS : va_S (FR w) s.heap s.heap [] := va_S.rf
  show W p l e ({ frames := 1, cells := 0, slots := 0, locals := 30 } : Room) s m _ below meth c s.heap [] 0 0 (MQ below (QI w K out.1 S out.2) _ s 0 0 (FR w)) _
  have hl := lv_entry ([.ref a, .int p0, .int p1]) (n := 3) (Nat.le_of_ble_eq_true rfl)
  rw [lg_entry_eq]
  generalize (lg_sl ([.ref a, .int p0, .int p1]) ++ List.replicate (3 - (lg_sl ([.ref a, .int p0, .int p1])).length) Slot.unset).toArray = ls at hl ⊢
  clear B
  generalize ([.ref a, .int p0, .int p1] : List Value).toArray = args at hts ⊢
  have hl : lv_has ls 3 [(0, .ref a), (1, .int p0), (2, .int p1)] := hl
  refine lv_iload_n hx hb dX6_takesBracket_0 rfl (lv_at hl 1 rfl) ?_
  refine lv_bipush (v := 40) hx hb dX6_takesBracket_1 (by decide) ?_
  have hg := gif hf
  refine lv_icmp_ne (tgt := 14) hx hb dX6_takesBracket_3 (by decide) (fun c1 => ?_) (fun c1 => ?_)
  · have hf := hg.2 c1
    refine lv_iconst (v := 0) hx hb dX6_takesBracket_14 (by decide) ?_
    have ho := Option.some.inj hf
    exact W.zret (v := 0) (ty := .boolean) hx hb hr rfl (fun t ht hW => ⟨⟨0, (), rfl, congrArg Prod.snd ho, hrP ht ho hH⟩, hS.F ht⟩) hS.2.2 dX6_takesBracket_15
  · have hf := hg.1 c1
    refine lv_aload_n hx hb dX6_takesBracket_6 rfl (lv_at hl 0 rfl) ?_
    refine e_6_10 hx hb hts hown hK hH hk0 (hts _ wd_189) dX6_takesBracket_7 ?_
    refine lv_iconst (v := 3) hx hb dX6_takesBracket_10 (by decide) ?_
    have hg := gif hf
    refine lv_icmp_lt (tgt := 16) hx hb dX6_takesBracket_11 (by decide) (fun c2 => ?_) (fun c2 => ?_)
    · have hf := hg.1 c2
      refine lv_aload_n hx hb dX6_takesBracket_16 rfl (lv_at hl 0 rfl) ?_
      have k3 : K.1 (a + 4) = (10, 80) := hH.sub hk0 3 (t := (4, 10, 80)) rfl
      refine e_6_3 hx hb hts hown hK hH hk0 (hts _ wd_48) dX6_takesBracket_17 ?_
      refine lv_aload_n hx hb dX6_takesBracket_20 rfl (lv_at hl 0 rfl) ?_
      refine e_6_12 hx hb hts hown hK hH hk0 (hts _ wd_190) dX6_takesBracket_21 ?_
      refine lv_iload_n hx hb dX6_takesBracket_24 rfl (lv_at hl 2 rfl) ?_
      refine lv_iconst (v := 1) hx hb dX6_takesBracket_25 (by decide) ?_
      refine lv_iadd hx hb dX6_takesBracket_26 ?_
      obtain ⟨h5, hf⟩ := gd_some hf
      refine g_iast hx hb hK hH hS k3 h5 dX6_takesBracket_27 (fun H locs hH hS => ?_)
      obtain ⟨g6, eg6⟩ : ∃ z : GM, z = gsI g (a + 4) (gI g a 12).toNatClampNeg (p1 + 1) := ⟨_, rfl⟩
      have hf := gl_at hf eg6
      replace hH : HR w K g6 S H := by rw [eg6]; exact hH
      refine lv_aload_n hx hb dX6_takesBracket_28 rfl (lv_at hl 0 rfl) ?_
      have k7 : K.1 (a + 6) = (10, 3) := hH.sub hk0 5 (t := (6, 10, 3)) rfl
      refine e_6_9 hx hb hts hown hK hH hk0 (hts _ wd_50) dX6_takesBracket_29 ?_
      refine lv_aload_n hx hb dX6_takesBracket_32 rfl (lv_at hl 0 rfl) ?_
      refine e_6_10 hx hb hts hown hK hH hk0 (hts _ wd_189) dX6_takesBracket_33 ?_
      refine lv_aload_n hx hb dX6_takesBracket_36 rfl (lv_at hl 0 rfl) ?_
      refine e_6_12 hx hb hts hown hK hH hk0 (hts _ wd_190) dX6_takesBracket_37 ?_
      obtain ⟨h9, hf⟩ := gd_some hf
      refine g_iast hx hb hK hH hS k7 h9 dX6_takesBracket_40 (fun H locs hH hS => ?_)
      obtain ⟨g10, eg10⟩ : ∃ z : GM, z = gsI g6 (a + 6) (gI g6 a 10).toNatClampNeg (gI g6 a 12) := ⟨_, rfl⟩
      have hf := gl_at hf eg10
      replace hH : HR w K g10 S H := by rw [eg10]; exact hH
      refine lv_aload_n hx hb dX6_takesBracket_41 rfl (lv_at hl 0 rfl) ?_
      refine lv_dup hx hb dX6_takesBracket_42 rfl ?_
      refine e_6_10 hx hb hts hown hK hH hk0 (hts _ wd_189) dX6_takesBracket_43 ?_
      refine lv_iconst (v := 1) hx hb dX6_takesBracket_46 (by decide) ?_
      refine lv_iadd hx hb dX6_takesBracket_47 ?_
      refine p_6_10 hx hb hts hown hK hH hS hk0 (hts _ wd_189) dX6_takesBracket_48 (fun H locs hH hS => ?_)
      obtain ⟨g11, eg11⟩ : ∃ z : GM, z = gsI g10 a 10 ((gI g10 a 10) + 1) := ⟨_, rfl⟩
      have hf := gl_at hf eg11
      replace hH : HR w K g11 S H := by rw [eg11]; exact hH
      refine lv_aload_n hx hb dX6_takesBracket_51 rfl (lv_at hl 0 rfl) ?_
      refine lv_aload_n hx hb dX6_takesBracket_52 rfl (lv_at hl 0 rfl) ?_
      refine e_6_8 hx hb hts hown hK hH hk0 (hts _ wd_188) dX6_takesBracket_53 ?_
      refine lv_aload_n hx hb dX6_takesBracket_56 rfl (lv_at hl 0 rfl) ?_
      refine e_6_10 hx hb hts hown hK hH hk0 (hts _ wd_189) dX6_takesBracket_57 ?_
      refine va_mmax hx hb (hml.trans hl.1.symm) hown (hts _ wd_226) (hts _ wd_227) (hts _ wd_135) (hts _ wd_228) (Nat.le_of_ble_eq_true rfl) (Nat.le_of_ble_eq_true rfl) (Nat.le_of_ble_eq_true rfl) (Nat.le_of_ble_eq_true rfl) dX6_takesBracket_60 ?_
      refine p_6_8 hx hb hts hown hK hH hS hk0 (hts _ wd_188) dX6_takesBracket_63 (fun H locs hH hS => ?_)
      obtain ⟨g12, eg12⟩ : ∃ z : GM, z = gsI g11 a 8 (if (gI g11 a 8) < (gI g11 a 10) then (gI g11 a 10) else (gI g11 a 8)) := ⟨_, rfl⟩
      have hf := gl_at hf eg12
      replace hH : HR w K g12 S H := by rw [eg12]; exact hH
      refine lv_aload_n hx hb dX6_takesBracket_66 rfl (lv_at hl 0 rfl) ?_
      refine lv_iconst (v := 0) hx hb dX6_takesBracket_67 (by decide) ?_
      refine p_6_11 hx hb hts hown hK hH hS hk0 (hts _ wd_191) dX6_takesBracket_68 (fun H locs hH hS => ?_)
      obtain ⟨g13, eg13⟩ : ∃ z : GM, z = gsI g12 a 11 0 := ⟨_, rfl⟩
      have hf := gl_at hf eg13
      replace hH : HR w K g13 S H := by rw [eg13]; exact hH
      refine lv_iconst (v := 1) hx hb dX6_takesBracket_71 (by decide) ?_
      have ho := Option.some.inj hf
      exact W.zret (v := 1) (ty := .boolean) hx hb hr rfl (fun t ht hW => ⟨⟨1, (), rfl, congrArg Prod.snd ho, hrP ht ho hH⟩, hS.F ht⟩) hS.2.2 dX6_takesBracket_72
    · have hf := hg.2 c2
      refine lv_iconst (v := 0) hx hb dX6_takesBracket_14 (by decide) ?_
      have ho := Option.some.inj hf
      exact W.zret (v := 0) (ty := .boolean) hx hb hr rfl (fun t ht hW => ⟨⟨0, (), rfl, congrArg Prod.snd ho, hrP ht ho hH⟩, hS.F ht⟩) hS.2.2 dX6_takesBracket_15
set_option maxRecDepth 100000 in
set_option maxHeartbeats 8000000 in
theorem c6_takes (l : Launch) (w : GW) (K : GK) (g : GM) (S : GS) (a : Nat) (p0 : Int32) (p1 : Int32) (out : GM × Int32) (hf : f6_takes K g a p0 p1 = some out) (hk0 : gkd K a = 7) : Met l yX6_takes (wA yX6_takes cX6_takes 3 (some .boolean)) ({ frames := 2, cells := 0, slots := 0, locals := 52 } : Room) (PRE w K g S [.ref a, .int p0, .int p1]) (QI w K out.1 S out.2) 0 0 (FR w) := by
  unfold f6_takes at hf
  refine Met.ofW (cc := cX6_takes) (maxL := 3) (ret := (some .boolean)) (by decide) rfl ?_
  intro p e s m args below meth c s₁ B hml hv
  obtain ⟨rfl, hH, hK⟩ := hv
  have hx := B.exec
  have hb := B.bytes
  have hr := B.returns
  have hts : ∀ q ∈ gALL, q.before _ s = true := fun q h => atoms_spec (ws := (wA yX6_takes cX6_takes 3 (some .boolean))) B.pre q (List.mem_cons_of_mem _ h)
  have hown : s.vm.findClass RX6 = some m.cls := findClass_of_methodNamed B.named
  have hlocks := B.notSynchronized
  have hS : va_S (FR w) s.heap s.heap [] := va_S.rf
  show W p l e ({ frames := 2, cells := 0, slots := 0, locals := 52 } : Room) s m _ below meth c s.heap [] 0 0 (MQ below (QI w K out.1 S out.2) _ s 0 0 (FR w)) _
  have hl := lv_entry ([.ref a, .int p0, .int p1]) (n := 3) (Nat.le_of_ble_eq_true rfl)
  rw [lg_entry_eq]
  generalize (lg_sl ([.ref a, .int p0, .int p1]) ++ List.replicate (3 - (lg_sl ([.ref a, .int p0, .int p1])).length) Slot.unset).toArray = ls at hl ⊢
  clear B
  generalize ([.ref a, .int p0, .int p1] : List Value).toArray = args at hts ⊢
  have B138 : ∀ (g : GM) (H : Heap) (locs : List Loc) (ls : Array Slot), HR w K g S H → va_S (FR w) s.heap H locs → lv_has ls 3 [] → f6_takes_138 K a p0 p1 g = some out → W p l e ({ frames := 2, cells := 0, slots := 0, locals := 52 } : Room) s m args below meth c H locs 0 0 (MQ below (QI w K out.1 S out.2) args s 0 0 (FR w)) (F0 m 138 ls []) := by
    intro  g H locs ls hH hS hl hf
    unfold f6_takes_138 at hf
    refine lv_iconst (v := 0) hx hb dX6_takes_138 (by decide) ?_
    have ho := Option.some.inj hf
    exact W.zret (v := 0) (ty := .boolean) hx hb hr rfl (fun t ht hW => ⟨⟨0, (), rfl, congrArg Prod.snd ho, hrP ht ho hH⟩, hS.F ht⟩) hS.2.2 dX6_takes_139
  have hl : lv_has ls 3 [(0, .ref a), (1, .int p0), (2, .int p1)] := hl
  refine lv_aload_n hx hb dX6_takes_0 rfl (lv_at hl 0 rfl) ?_
  refine e_6_11 hx hb hts hown hK hH hk0 (hts _ wd_191) dX6_takes_1 ?_
  refine lv_topi (fun v1 ev1 => ?_)
  have hf := gl_at hf ev1
  have hg := gif hf
  by_cases c2 : v1 = 0
  · have hf := hg.1 c2
    refine lv_tableIn (off := 40) (tgt := 44) hx hb dX6_takes_4 (by rw [c2]; decide) (by rw [c2]; decide) (by rw [c2]; decide +kernel) (by decide) ?_
    refine lv_aload_n hx hb dX6_takes_44 rfl (lv_at hl 0 rfl) ?_
    refine lv_iload_n hx hb dX6_takes_45 rfl (lv_at hl 1 rfl) ?_
    refine lv_iload_n hx hb dX6_takes_46 rfl (lv_at hl 2 rfl) ?_
    obtain ⟨r3, h4, hf⟩ := gbind hf
    refine g_Vi (As := [.int p0, .int p1]) (rest := []) ⟨hx, hb, hml, hown, hts⟩ (c6_takesStep l w K g S a p0 p1 r3 h4 hk0) (gcwV hts i6_takesStep wd_199 rfl rfl ⟨Nat.le_of_ble_eq_true rfl, Nat.le_of_ble_eq_true rfl⟩) (gRecv.of hK rfl (hH.o7 hk0)) hH hK hS hl.1 rfl rfl (Nat.le_of_ble_eq_true rfl) dX6_takes_47 ⟨Nat.le_refl _, Nat.le_refl _⟩ (fun H locs hH hS => ?_)
    obtain ⟨h5, hf⟩ := gd_some hf
    have ho := Option.some.inj hf
    exact W.zret (v := r3.2) (ty := .boolean) hx hb hr (gbl_n h5) (fun t ht hW => ⟨⟨r3.2, (), rfl, congrArg Prod.snd ho, hrP ht ho hH⟩, hS.F ht⟩) hS.2.2 dX6_takes_50
  have hf := hg.2 c2
  have hg := gif hf
  by_cases c6 : v1 = 1
  · have hf := hg.1 c6
    refine lv_tableIn (off := 47) (tgt := 51) hx hb dX6_takes_4 (by rw [c6]; decide) (by rw [c6]; decide) (by rw [c6]; decide +kernel) (by decide) ?_
    refine lv_iload_n hx hb dX6_takes_51 rfl (lv_at hl 1 rfl) ?_
    refine lv_bipush (v := 41) hx hb dX6_takes_52 (by decide) ?_
    have hg := gif hf
    refine lv_icmp_ne (tgt := 65) hx hb dX6_takes_54 (by decide) (fun c7 => ?_) (fun c7 => ?_)
    · have hf := hg.2 c7
      refine lv_aload_n hx hb dX6_takes_65 rfl (lv_at hl 0 rfl) ?_
      refine lv_iload_n hx hb dX6_takes_66 rfl (lv_at hl 1 rfl) ?_
      refine lv_iload_n hx hb dX6_takes_67 rfl (lv_at hl 2 rfl) ?_
      obtain ⟨r8, h9, hf⟩ := gbind hf
      refine g_Vi (As := [.int p0, .int p1]) (rest := []) ⟨hx, hb, hml, hown, hts⟩ (c6_takesStep l w K g S a p0 p1 r8 h9 hk0) (gcwV hts i6_takesStep wd_199 rfl rfl ⟨Nat.le_of_ble_eq_true rfl, Nat.le_of_ble_eq_true rfl⟩) (gRecv.of hK rfl (hH.o7 hk0)) hH hK hS hl.1 rfl rfl (Nat.le_of_ble_eq_true rfl) dX6_takes_68 ⟨Nat.le_refl _, Nat.le_refl _⟩ (fun H locs hH hS => ?_)
      obtain ⟨h10, hf⟩ := gd_some hf
      have ho := Option.some.inj hf
      exact W.zret (v := r8.2) (ty := .boolean) hx hb hr (gbl_n h10) (fun t ht hW => ⟨⟨r8.2, (), rfl, congrArg Prod.snd ho, hrP ht ho hH⟩, hS.F ht⟩) hS.2.2 dX6_takes_71
    · have hf := hg.1 c7
      refine lv_aload_n hx hb dX6_takes_57 rfl (lv_at hl 0 rfl) ?_
      refine lv_iload_n hx hb dX6_takes_58 rfl (lv_at hl 2 rfl) ?_
      obtain ⟨r11, h12, hf⟩ := gbind hf
      refine g_Vi (As := [.int p1]) (rest := []) ⟨hx, hb, hml, hown, hts⟩ (c6_takesEnd l w K g S a p1 r11 h12 hk0) (gcwV hts i6_takesEnd wd_203 rfl rfl ⟨Nat.le_of_ble_eq_true rfl, Nat.le_of_ble_eq_true rfl⟩) (gRecv.of hK rfl (hH.o7 hk0)) hH hK hS hl.1 rfl rfl (Nat.le_of_ble_eq_true rfl) dX6_takes_59 ⟨Nat.le_refl _, Nat.le_refl _⟩ (fun H locs hH hS => ?_)
      refine lv_goto (tgt := 71) hx hb dX6_takes_62 (by decide) ?_
      obtain ⟨h13, hf⟩ := gd_some hf
      have ho := Option.some.inj hf
      exact W.zret (v := r11.2) (ty := .boolean) hx hb hr (gbl_n h13) (fun t ht hW => ⟨⟨r11.2, (), rfl, congrArg Prod.snd ho, hrP ht ho hH⟩, hS.F ht⟩) hS.2.2 dX6_takes_71
  have hf := hg.2 c6
  have hg := gif hf
  by_cases c14 : v1 = 2
  · have hf := hg.1 c14
    refine lv_tableIn (off := 68) (tgt := 72) hx hb dX6_takes_4 (by rw [c14]; decide) (by rw [c14]; decide) (by rw [c14]; decide +kernel) (by decide) ?_
    refine lv_iload_n hx hb dX6_takes_72 rfl (lv_at hl 1 rfl) ?_
    obtain ⟨v15, h16, hf⟩ := gbind hf
    refine g_Si (As := [.int p0]) (rest := []) ⟨hx, hb, hml, hown, hts⟩ (c6_isCount l w K g S p0 v15 h16) (gcwS hts i6_isCount wd_207 rfl rfl ⟨Nat.le_of_ble_eq_true rfl, Nat.le_of_ble_eq_true rfl⟩) hH hK hS hl.1 rfl rfl (Nat.le_of_ble_eq_true rfl) dX6_takes_73 ⟨Nat.le_refl _, Nat.le_refl _⟩ (fun H locs hH hS => ?_)
    have hg := gif hf
    refine lv_if_eq (tgt := 86) hx hb dX6_takes_76 (by decide) (fun c17 => ?_) (fun c17 => ?_)
    · have hf := hg.1 c17
      refine lv_iload_n hx hb dX6_takes_86 rfl (lv_at hl 1 rfl) ?_
      refine lv_bipush (v := 41) hx hb dX6_takes_87 (by decide) ?_
      have hg := gif hf
      refine lv_icmp_ne (tgt := 100) hx hb dX6_takes_89 (by decide) (fun c18 => ?_) (fun c18 => ?_)
      · have hf := hg.2 c18
        refine lv_aload_n hx hb dX6_takes_100 rfl (lv_at hl 0 rfl) ?_
        refine lv_iload_n hx hb dX6_takes_101 rfl (lv_at hl 1 rfl) ?_
        refine lv_iload_n hx hb dX6_takes_102 rfl (lv_at hl 2 rfl) ?_
        obtain ⟨r19, h20, hf⟩ := gbind hf
        refine g_Vi (As := [.int p0, .int p1]) (rest := []) ⟨hx, hb, hml, hown, hts⟩ (c6_takesStep l w K g S a p0 p1 r19 h20 hk0) (gcwV hts i6_takesStep wd_199 rfl rfl ⟨Nat.le_of_ble_eq_true rfl, Nat.le_of_ble_eq_true rfl⟩) (gRecv.of hK rfl (hH.o7 hk0)) hH hK hS hl.1 rfl rfl (Nat.le_of_ble_eq_true rfl) dX6_takes_103 ⟨Nat.le_refl _, Nat.le_refl _⟩ (fun H locs hH hS => ?_)
        obtain ⟨h21, hf⟩ := gd_some hf
        have ho := Option.some.inj hf
        exact W.zret (v := r19.2) (ty := .boolean) hx hb hr (gbl_n h21) (fun t ht hW => ⟨⟨r19.2, (), rfl, congrArg Prod.snd ho, hrP ht ho hH⟩, hS.F ht⟩) hS.2.2 dX6_takes_106
      · have hf := hg.1 c18
        refine lv_aload_n hx hb dX6_takes_92 rfl (lv_at hl 0 rfl) ?_
        refine lv_iload_n hx hb dX6_takes_93 rfl (lv_at hl 2 rfl) ?_
        obtain ⟨r22, h23, hf⟩ := gbind hf
        refine g_Vi (As := [.int p1]) (rest := []) ⟨hx, hb, hml, hown, hts⟩ (c6_takesEnd l w K g S a p1 r22 h23 hk0) (gcwV hts i6_takesEnd wd_203 rfl rfl ⟨Nat.le_of_ble_eq_true rfl, Nat.le_of_ble_eq_true rfl⟩) (gRecv.of hK rfl (hH.o7 hk0)) hH hK hS hl.1 rfl rfl (Nat.le_of_ble_eq_true rfl) dX6_takes_94 ⟨Nat.le_refl _, Nat.le_refl _⟩ (fun H locs hH hS => ?_)
        refine lv_goto (tgt := 106) hx hb dX6_takes_97 (by decide) ?_
        obtain ⟨h24, hf⟩ := gd_some hf
        have ho := Option.some.inj hf
        exact W.zret (v := r22.2) (ty := .boolean) hx hb hr (gbl_n h24) (fun t ht hW => ⟨⟨r22.2, (), rfl, congrArg Prod.snd ho, hrP ht ho hH⟩, hS.F ht⟩) hS.2.2 dX6_takes_106
    · have hf := hg.2 c17
      refine lv_aload_n hx hb dX6_takes_79 rfl (lv_at hl 0 rfl) ?_
      refine lv_iload_n hx hb dX6_takes_80 rfl (lv_at hl 1 rfl) ?_
      refine lv_iload_n hx hb dX6_takes_81 rfl (lv_at hl 2 rfl) ?_
      obtain ⟨r25, h26, hf⟩ := gbind hf
      refine g_Vi (As := [.int p0, .int p1]) (rest := []) ⟨hx, hb, hml, hown, hts⟩ (c6_takesPickCount l w K g S a p0 p1 r25 h26 hk0) (gcwV hts i6_takesPickCount wd_210 rfl rfl ⟨Nat.le_of_ble_eq_true rfl, Nat.le_of_ble_eq_true rfl⟩) (gRecv.of hK rfl (hH.o7 hk0)) hH hK hS hl.1 rfl rfl (Nat.le_of_ble_eq_true rfl) dX6_takes_82 ⟨Nat.le_refl _, Nat.le_refl _⟩ (fun H locs hH hS => ?_)
      obtain ⟨h27, hf⟩ := gd_some hf
      have ho := Option.some.inj hf
      exact W.zret (v := r25.2) (ty := .boolean) hx hb hr (gbl_n h27) (fun t ht hW => ⟨⟨r25.2, (), rfl, congrArg Prod.snd ho, hrP ht ho hH⟩, hS.F ht⟩) hS.2.2 dX6_takes_85
  have hf := hg.2 c14
  have hg := gif hf
  by_cases c28 : v1 = 3
  · have hf := hg.1 c28
    refine lv_tableIn (off := 103) (tgt := 107) hx hb dX6_takes_4 (by rw [c28]; decide) (by rw [c28]; decide) (by rw [c28]; decide +kernel) (by decide) ?_
    refine lv_aload_n hx hb dX6_takes_107 rfl (lv_at hl 0 rfl) ?_
    refine lv_iload_n hx hb dX6_takes_108 rfl (lv_at hl 1 rfl) ?_
    obtain ⟨r29, h30, hf⟩ := gbind hf
    refine g_Vi (As := [.int p0]) (rest := []) ⟨hx, hb, hml, hown, hts⟩ (c6_takesPartCount l w K g S a p0 r29 h30 hk0) (gcwV hts i6_takesPartCount wd_214 rfl rfl ⟨Nat.le_of_ble_eq_true rfl, Nat.le_of_ble_eq_true rfl⟩) (gRecv.of hK rfl (hH.o7 hk0)) hH hK hS hl.1 rfl rfl (Nat.le_of_ble_eq_true rfl) dX6_takes_109 ⟨Nat.le_refl _, Nat.le_refl _⟩ (fun H locs hH hS => ?_)
    obtain ⟨h31, hf⟩ := gd_some hf
    have ho := Option.some.inj hf
    exact W.zret (v := r29.2) (ty := .boolean) hx hb hr (gbl_n h31) (fun t ht hW => ⟨⟨r29.2, (), rfl, congrArg Prod.snd ho, hrP ht ho hH⟩, hS.F ht⟩) hS.2.2 dX6_takes_112
  have hf := hg.2 c28
  have hg := gif hf
  by_cases c32 : v1 = 4
  · have hf := hg.1 c32
    refine lv_tableIn (off := 109) (tgt := 113) hx hb dX6_takes_4 (by rw [c32]; decide) (by rw [c32]; decide) (by rw [c32]; decide +kernel) (by decide) ?_
    refine lv_iload_n hx hb dX6_takes_113 rfl (lv_at hl 1 rfl) ?_
    refine lv_bipush (v := 48) hx hb dX6_takes_114 (by decide) ?_
    have hg := gif hf
    refine lv_icmp_lt (tgt := 138) hx hb dX6_takes_116 (by decide) (fun c33 => ?_) (fun c33 => ?_)
    · have hf := hg.1 c33
      exact B138 _ _ _ _ hH hS (lv_sub hl [] rfl) hf
    · have hf := hg.2 c33
      refine lv_iload_n hx hb dX6_takes_119 rfl (lv_at hl 1 rfl) ?_
      refine lv_bipush (v := 54) hx hb dX6_takes_120 (by decide) ?_
      have hg := gif hf
      refine lv_icmp_ge (tgt := 138) hx hb dX6_takes_122 (by decide) (fun c34 => ?_) (fun c34 => ?_)
      · have hf := hg.1 c34
        exact B138 _ _ _ _ hH hS (lv_sub hl [] rfl) hf
      · have hf := hg.2 c34
        refine lv_aload_n hx hb dX6_takes_125 rfl (lv_at hl 0 rfl) ?_
        refine lv_iload_n hx hb dX6_takes_126 rfl (lv_at hl 1 rfl) ?_
        refine lv_iload_n hx hb dX6_takes_127 rfl (lv_at hl 2 rfl) ?_
        obtain ⟨r35, h36, hf⟩ := gbind hf
        refine g_Vi (As := [.int p0, .int p1]) (rest := []) ⟨hx, hb, hml, hown, hts⟩ (c6_takesDigit l w K g S a p0 p1 r35 h36 hk0) (gcwV hts i6_takesDigit wd_218 rfl rfl ⟨Nat.le_of_ble_eq_true rfl, Nat.le_of_ble_eq_true rfl⟩) (gRecv.of hK rfl (hH.o7 hk0)) hH hK hS hl.1 rfl rfl (Nat.le_of_ble_eq_true rfl) dX6_takes_128 ⟨Nat.le_refl _, Nat.le_refl _⟩ (fun H locs hH hS => ?_)
        have hg := gif hf
        refine lv_if_eq (tgt := 138) hx hb dX6_takes_131 (by decide) (fun c37 => ?_) (fun c37 => ?_)
        · have hf := hg.1 c37
          exact B138 _ _ _ _ hH hS (lv_sub hl [] rfl) hf
        · have hf := hg.2 c37
          refine lv_iconst (v := 1) hx hb dX6_takes_134 (by decide) ?_
          refine lv_goto (tgt := 139) hx hb dX6_takes_135 (by decide) ?_
          have ho := Option.some.inj hf
          exact W.zret (v := 1) (ty := .boolean) hx hb hr rfl (fun t ht hW => ⟨⟨1, (), rfl, congrArg Prod.snd ho, hrP ht ho hH⟩, hS.F ht⟩) hS.2.2 dX6_takes_139
  have hf := hg.2 c32
  have hg := gif hf
  by_cases c38 : v1 = 5
  · have hf := hg.1 c38
    refine lv_tableIn (off := 136) (tgt := 140) hx hb dX6_takes_4 (by rw [c38]; decide) (by rw [c38]; decide) (by rw [c38]; decide +kernel) (by decide) ?_
    refine lv_iload_n hx hb dX6_takes_140 rfl (lv_at hl 1 rfl) ?_
    refine lv_bipush (v := 48) hx hb dX6_takes_141 (by decide) ?_
    have hg := gif hf
    refine lv_icmp_lt (tgt := 152) hx hb dX6_takes_143 (by decide) (fun c39 => ?_) (fun c39 => ?_)
    · have hf := hg.1 c39
      refine lv_iconst (v := 0) hx hb dX6_takes_152 (by decide) ?_
      have ho := Option.some.inj hf
      exact W.zret (v := 0) (ty := .boolean) hx hb hr rfl (fun t ht hW => ⟨⟨0, (), rfl, congrArg Prod.snd ho, hrP ht ho hH⟩, hS.F ht⟩) hS.2.2 dX6_takes_153
    · have hf := hg.2 c39
      refine lv_iload_n hx hb dX6_takes_146 rfl (lv_at hl 1 rfl) ?_
      refine lv_bipush (v := 58) hx hb dX6_takes_147 (by decide) ?_
      have hg := gif hf
      refine lv_icmp_lt (tgt := 154) hx hb dX6_takes_149 (by decide) (fun c40 => ?_) (fun c40 => ?_)
      · have hf := hg.1 c40
        refine lv_aload_n hx hb dX6_takes_154 rfl (lv_at hl 0 rfl) ?_
        refine lv_dup hx hb dX6_takes_155 rfl ?_
        refine e_6_7 hx hb hts hown hK hH hk0 (hts _ wd_187) dX6_takes_156 ?_
        refine lv_iconst (v := 1) hx hb dX6_takes_159 (by decide) ?_
        refine lv_iload_n hx hb dX6_takes_160 rfl (lv_at hl 1 rfl) ?_
        refine lv_bipush (v := 48) hx hb dX6_takes_161 (by decide) ?_
        refine lv_isub hx hb dX6_takes_163 ?_
        refine lv_ishl hx hb dX6_takes_164 ?_
        refine lv_ior hx hb dX6_takes_165 ?_
        refine p_6_7 hx hb hts hown hK hH hS hk0 (hts _ wd_187) dX6_takes_166 (fun H locs hH hS => ?_)
        obtain ⟨g41, eg41⟩ : ∃ z : GM, z = gsI g a 7 ((gI g a 7) ||| (1 <<< ((p0 - 48) &&& 31))) := ⟨_, rfl⟩
        have hf := gl_at hf eg41
        replace hH : HR w K g41 S H := by rw [eg41]; exact hH
        refine lv_aload_n hx hb dX6_takes_169 rfl (lv_at hl 0 rfl) ?_
        refine lv_iload_n hx hb dX6_takes_170 rfl (lv_at hl 1 rfl) ?_
        refine lv_iload_n hx hb dX6_takes_171 rfl (lv_at hl 2 rfl) ?_
        obtain ⟨r42, h43, hf⟩ := gbind hf
        refine g_Vi (As := [.int p0, .int p1]) (rest := []) ⟨hx, hb, hml, hown, hts⟩ (c6_takesDigit l w K g41 S a p0 p1 r42 h43 hk0) (gcwV hts i6_takesDigit wd_218 rfl rfl ⟨Nat.le_of_ble_eq_true rfl, Nat.le_of_ble_eq_true rfl⟩) (gRecv.of hK rfl (hH.o7 hk0)) hH hK hS hl.1 rfl rfl (Nat.le_of_ble_eq_true rfl) dX6_takes_172 ⟨Nat.le_refl _, Nat.le_refl _⟩ (fun H locs hH hS => ?_)
        obtain ⟨h44, hf⟩ := gd_some hf
        have ho := Option.some.inj hf
        exact W.zret (v := r42.2) (ty := .boolean) hx hb hr (gbl_n h44) (fun t ht hW => ⟨⟨r42.2, (), rfl, congrArg Prod.snd ho, hrP ht ho hH⟩, hS.F ht⟩) hS.2.2 dX6_takes_175
      · have hf := hg.2 c40
        refine lv_iconst (v := 0) hx hb dX6_takes_152 (by decide) ?_
        have ho := Option.some.inj hf
        exact W.zret (v := 0) (ty := .boolean) hx hb hr rfl (fun t ht hW => ⟨⟨0, (), rfl, congrArg Prod.snd ho, hrP ht ho hH⟩, hS.F ht⟩) hS.2.2 dX6_takes_153
  have hf := hg.2 c38
  have nc2 : v1.toInt ≠ 0 := g_ne c2 (by decide)
  have nc6 : v1.toInt ≠ 1 := g_ne c6 (by decide)
  have nc14 : v1.toInt ≠ 2 := g_ne c14 (by decide)
  have nc28 : v1.toInt ≠ 3 := g_ne c28 (by decide)
  have nc32 : v1.toInt ≠ 4 := g_ne c32 (by decide)
  have nc38 : v1.toInt ≠ 5 := g_ne c38 (by decide)
  refine lv_tableOut (tgt := 176) hx hb dX6_takes_4 (by omega) (by decide) ?_
  refine lv_aload_n hx hb dX6_takes_176 rfl (lv_at hl 0 rfl) ?_
  refine lv_iload_n hx hb dX6_takes_177 rfl (lv_at hl 1 rfl) ?_
  refine lv_iload_n hx hb dX6_takes_178 rfl (lv_at hl 2 rfl) ?_
  obtain ⟨r45, h46, hf⟩ := gbind hf
  refine g_Vi (As := [.int p0, .int p1]) (rest := []) ⟨hx, hb, hml, hown, hts⟩ (c6_takesBracket l w K g S a p0 p1 r45 h46 hk0) (gcwV hts i6_takesBracket wd_222 rfl rfl ⟨Nat.le_of_ble_eq_true rfl, Nat.le_of_ble_eq_true rfl⟩) (gRecv.of hK rfl (hH.o7 hk0)) hH hK hS hl.1 rfl rfl (Nat.le_of_ble_eq_true rfl) dX6_takes_179 ⟨Nat.le_refl _, Nat.le_refl _⟩ (fun H locs hH hS => ?_)
  obtain ⟨h47, hf⟩ := gd_some hf
  have ho := Option.some.inj hf
  exact W.zret (v := r45.2) (ty := .boolean) hx hb hr (gbl_n h47) (fun t ht hW => ⟨⟨r45.2, (), rfl, congrArg Prod.snd ho, hrP ht ho hH⟩, hS.F ht⟩) hS.2.2 dX6_takes_182
set_option maxRecDepth 100000 in
set_option maxHeartbeats 8000000 in
theorem c6_faultOf (l : Launch) (w : GW) (K : GK) (g : GM) (S : GS) (a : Nat) (p0 : Nat) (out : GM × Int32) (hf : f6_faultOf K g a p0 = some out) (hk0 : gkd K a = 7) : Met l yX6_faultOf (wA yX6_faultOf cX6_faultOf 4 (some .int)) ({ frames := 3, cells := 0, slots := 0, locals := 74 } : Room) (PRE w K g S [.ref a, .ref p0]) (QI w K out.1 S out.2) 0 0 (FR w) := by
  unfold f6_faultOf at hf
  refine Met.ofW (cc := cX6_faultOf) (maxL := 4) (ret := (some .int)) (by decide) rfl ?_
  intro p e s m args below meth c s₁ B hml hv
  obtain ⟨rfl, hH, hK⟩ := hv
  have hx := B.exec
  have hb := B.bytes
  have hr := B.returns
  have hts : ∀ q ∈ gALL, q.before _ s = true := fun q h => atoms_spec (ws := (wA yX6_faultOf cX6_faultOf 4 (some .int))) B.pre q (List.mem_cons_of_mem _ h)
  have hown : s.vm.findClass RX6 = some m.cls := findClass_of_methodNamed B.named
  have hlocks := B.notSynchronized
  have hS : va_S (FR w) s.heap s.heap [] := va_S.rf
  show W p l e ({ frames := 3, cells := 0, slots := 0, locals := 74 } : Room) s m _ below meth c s.heap [] 0 0 (MQ below (QI w K out.1 S out.2) _ s 0 0 (FR w)) _
  have hl := lv_entry ([.ref a, .ref p0]) (n := 4) (Nat.le_of_ble_eq_true rfl)
  rw [lg_entry_eq]
  generalize (lg_sl ([.ref a, .ref p0]) ++ List.replicate (4 - (lg_sl ([.ref a, .ref p0])).length) Slot.unset).toArray = ls at hl ⊢
  clear B
  generalize ([.ref a, .ref p0] : List Value).toArray = args at hts ⊢
  have B121 : ∀ (g : GM) (x2 : Int32) (s0 : Int32) (H : Heap) (locs : List Loc) (ls : Array Slot), HR w K g S H → va_S (FR w) s.heap H locs → lv_has ls 4 [(2, .int x2)] → f6_faultOf_121 K a p0 g x2 s0 = some out → W p l e ({ frames := 3, cells := 0, slots := 0, locals := 74 } : Room) s m args below meth c H locs 0 0 (MQ below (QI w K out.1 S out.2) args s 0 0 (FR w)) (F0 m 121 ls [.int s0]) := by
    intro  g x2 s0 H locs ls hH hS hl hf
    unfold f6_faultOf_121 at hf
    refine lv_istore_n (lv' := [(3, .int s0), (2, .int x2)]) hx hb dX6_faultOf_121 rfl hl (by decide) rfl (fun ls hl => ?_)
    refine lv_iload_n hx hb dX6_faultOf_122 rfl (lv_at hl 0 rfl) ?_
    have hg := gif hf
    refine lv_if_eq (tgt := 131) hx hb dX6_faultOf_123 (by decide) (fun c1 => ?_) (fun c1 => ?_)
    · have hf := hg.1 c1
      refine lv_iload_n hx hb dX6_faultOf_131 rfl (lv_at hl 1 rfl) ?_
      have ho := Option.some.inj hf
      exact W.iret (v := x2) hx hb hr (fun t ht hW => ⟨⟨x2, (), rfl, congrArg Prod.snd ho, hrP ht ho hH⟩, hS.F ht⟩) hS.2.2 dX6_faultOf_132
    · have hf := hg.2 c1
      refine lv_bipush (v := (-6)) hx hb dX6_faultOf_126 (by decide) ?_
      refine lv_goto (tgt := 132) hx hb dX6_faultOf_128 (by decide) ?_
      have ho := Option.some.inj hf
      exact W.iret (v := (-6)) hx hb hr (fun t ht hW => ⟨⟨(-6), (), rfl, congrArg Prod.snd ho, hrP ht ho hH⟩, hS.F ht⟩) hS.2.2 dX6_faultOf_132
  have B120 : ∀ (g : GM) (x2 : Int32) (H : Heap) (locs : List Loc) (ls : Array Slot), HR w K g S H → va_S (FR w) s.heap H locs → lv_has ls 4 [(2, .int x2)] → f6_faultOf_120 K a p0 g x2 = some out → W p l e ({ frames := 3, cells := 0, slots := 0, locals := 74 } : Room) s m args below meth c H locs 0 0 (MQ below (QI w K out.1 S out.2) args s 0 0 (FR w)) (F0 m 120 ls []) := by
    intro  g x2 H locs ls hH hS hl hf
    unfold f6_faultOf_120 at hf
    refine lv_iconst (v := 0) hx hb dX6_faultOf_120 (by decide) ?_
    exact B121 _ _ _ _ _ _ hH hS (lv_sub hl [0] rfl) hf
  have B116 : ∀ (g : GM) (x2 : Int32) (H : Heap) (locs : List Loc) (ls : Array Slot), HR w K g S H → va_S (FR w) s.heap H locs → lv_has ls 4 [(2, .int x2)] → f6_faultOf_116 K a p0 g x2 = some out → W p l e ({ frames := 3, cells := 0, slots := 0, locals := 74 } : Room) s m args below meth c H locs 0 0 (MQ below (QI w K out.1 S out.2) args s 0 0 (FR w)) (F0 m 116 ls []) := by
    intro  g x2 H locs ls hH hS hl hf
    unfold f6_faultOf_116 at hf
    refine lv_iconst (v := 1) hx hb dX6_faultOf_116 (by decide) ?_
    refine lv_goto (tgt := 121) hx hb dX6_faultOf_117 (by decide) ?_
    exact B121 _ _ _ _ _ _ hH hS (lv_sub hl [0] rfl) hf
  have B47 : ∀ n : Nat, ∀ (g : GM) (x2 : Int32) (x3 : Int32) (H : Heap) (locs : List Loc) (ls : Array Slot), HR w K g S H → va_S (FR w) s.heap H locs → lv_has ls 4 [(0, .ref a), (1, .ref p0), (2, .int x2), (3, .int x3)] → f6_faultOf_47 K a p0 n g x2 x3 = some out → W p l e ({ frames := 3, cells := 0, slots := 0, locals := 74 } : Room) s m args below meth c H locs 0 0 (MQ below (QI w K out.1 S out.2) args s 0 0 (FR w)) (F0 m 47 ls []) := by
    intro n
    induction n with
    | zero =>
      intro g x2 x3 H locs ls hH hS hl hf
      cases hf
    | succ n ih =>
      intro g x2 x3 H locs ls hH hS hl hf
      rw [f6_faultOf_47] at hf
      refine lv_iload_n hx hb dX6_faultOf_47 rfl (lv_at hl 3 rfl) ?_
      refine lv_iload_n hx hb dX6_faultOf_48 rfl (lv_at hl 2 rfl) ?_
      have hg := gif hf
      refine lv_icmp_ge (tgt := 93) hx hb dX6_faultOf_49 (by decide) (fun c2 => ?_) (fun c2 => ?_)
      · have hf := hg.1 c2
        refine lv_aload_n hx hb dX6_faultOf_93 rfl (lv_at hl 0 rfl) ?_
        refine e_6_10 hx hb hts hown hK hH hk0 (hts _ wd_189) dX6_faultOf_94 ?_
        have hg := gif hf
        refine lv_if_ne (tgt := 120) hx hb dX6_faultOf_97 (by decide) (fun c3 => ?_) (fun c3 => ?_)
        · have hf := hg.2 c3
          exact B120 _ _ _ _ _ hH hS (lv_sub hl [2] rfl) hf
        · have hf := hg.1 c3
          refine lv_aload_n hx hb dX6_faultOf_100 rfl (lv_at hl 0 rfl) ?_
          refine e_6_11 hx hb hts hown hK hH hk0 (hts _ wd_191) dX6_faultOf_101 ?_
          refine lv_iconst (v := 1) hx hb dX6_faultOf_104 (by decide) ?_
          have hg := gif hf
          refine lv_icmp_eq (tgt := 116) hx hb dX6_faultOf_105 (by decide) (fun c4 => ?_) (fun c4 => ?_)
          · have hf := hg.1 c4
            exact B116 _ _ _ _ _ hH hS (lv_sub hl [2] rfl) hf
          · have hf := hg.2 c4
            refine lv_aload_n hx hb dX6_faultOf_108 rfl (lv_at hl 0 rfl) ?_
            refine e_6_11 hx hb hts hown hK hH hk0 (hts _ wd_191) dX6_faultOf_109 ?_
            refine lv_iconst (v := 2) hx hb dX6_faultOf_112 (by decide) ?_
            have hg := gif hf
            refine lv_icmp_ne (tgt := 120) hx hb dX6_faultOf_113 (by decide) (fun c5 => ?_) (fun c5 => ?_)
            · have hf := hg.2 c5
              exact B120 _ _ _ _ _ hH hS (lv_sub hl [2] rfl) hf
            · have hf := hg.1 c5
              exact B116 _ _ _ _ _ hH hS (lv_sub hl [2] rfl) hf
      · have hf := hg.2 c2
        refine lv_aload_n hx hb dX6_faultOf_52 rfl (lv_at hl 0 rfl) ?_
        refine lv_aload_n hx hb dX6_faultOf_53 rfl (lv_at hl 1 rfl) ?_
        obtain ⟨k6, hf⟩ := gd_some hf
        have k6 := gk_obj k6
        have k7 : K.1 (p0 + 1) = (11, 80) := hH.sub k6 0 (t := (1, 11, 80)) rfl
        refine e_5_0 hx hb hts hown hK hH k6 (hts _ wd_194) dX6_faultOf_54 ?_
        refine lv_iload_n hx hb dX6_faultOf_57 rfl (lv_at hl 3 rfl) ?_
        obtain ⟨h9, hf⟩ := gd_some hf
        refine g_cald hx hb hK hH k7 h9 dX6_faultOf_58 ?_
        refine lv_iload_n hx hb dX6_faultOf_59 rfl (lv_at hl 3 rfl) ?_
        obtain ⟨r10, h11, hf⟩ := gbind hf
        refine g_Vi (As := [.int (gI g (p0 + 1) x3.toNatClampNeg), .int x3]) (rest := []) ⟨hx, hb, hml, hown, hts⟩ (c6_takes l w K g S a (gI g (p0 + 1) x3.toNatClampNeg) x3 r10 h11 hk0) (gcwV hts i6_takes wd_195 rfl rfl ⟨Nat.le_of_ble_eq_true rfl, Nat.le_of_ble_eq_true rfl⟩) (gRecv.of hK rfl (hH.o7 hk0)) hH hK hS hl.1 rfl rfl (Nat.le_of_ble_eq_true rfl) dX6_faultOf_60 ⟨Nat.le_refl _, Nat.le_refl _⟩ (fun H locs hH hS => ?_)
        have hg := gif hf
        refine lv_if_ne (tgt := 68) hx hb dX6_faultOf_63 (by decide) (fun c12 => ?_) (fun c12 => ?_)
        · have hf := hg.2 c12
          refine lv_aload_n hx hb dX6_faultOf_68 rfl (lv_at hl 0 rfl) ?_
          have k13 : K.1 (a + 1) = (11, 80) := hH.sub hk0 0 (t := (1, 11, 80)) rfl
          refine e_6_0 hx hb hts hown hK hH hk0 (hts _ wd_44) dX6_faultOf_69 ?_
          refine lv_iload_n hx hb dX6_faultOf_72 rfl (lv_at hl 3 rfl) ?_
          refine lv_aload_n hx hb dX6_faultOf_73 rfl (lv_at hl 1 rfl) ?_
          refine e_5_0 hx hb hts hown hK hH k6 (hts _ wd_194) dX6_faultOf_74 ?_
          refine lv_iload_n hx hb dX6_faultOf_77 rfl (lv_at hl 3 rfl) ?_
          refine g_cald hx hb hK hH k7 h9 dX6_faultOf_78 ?_
          refine g_cast hx hb hK hH hS k13 h9 dX6_faultOf_79 (fun H locs hH hS => ?_)
          obtain ⟨g16, eg16⟩ : ∃ z : GM, z = gsI r10.1 (a + 1) x3.toNatClampNeg (vp_nar .char (gI r10.1 (p0 + 1) x3.toNatClampNeg)) := ⟨_, rfl⟩
          have hf := gl_at hf eg16
          replace hH : HR w K g16 S H := by rw [eg16]; exact hH
          refine lv_aload_n hx hb dX6_faultOf_80 rfl (lv_at hl 0 rfl) ?_
          refine lv_iload_n hx hb dX6_faultOf_81 rfl (lv_at hl 3 rfl) ?_
          refine lv_iconst (v := 1) hx hb dX6_faultOf_82 (by decide) ?_
          refine lv_iadd hx hb dX6_faultOf_83 ?_
          refine p_6_5 hx hb hts hown hK hH hS hk0 (hts _ wd_185) dX6_faultOf_84 (fun H locs hH hS => ?_)
          obtain ⟨g17, eg17⟩ : ∃ z : GM, z = gsI g16 a 5 (x3 + 1) := ⟨_, rfl⟩
          have hf := gl_at hf eg17
          replace hH : HR w K g17 S H := by rw [eg17]; exact hH
          obtain ⟨v18, ev18⟩ : ∃ z : Int32, z = x3 + 1 := ⟨_, rfl⟩
          have hf := gl_at hf ev18
          refine lv_iinc (v := v18) (lv' := [(3, .int v18), (0, .ref a), (1, .ref p0), (2, .int x2)]) hx hb dX6_faultOf_87 hl (k := 3) rfl (by rw [ev18]; rfl) (by decide) rfl (fun ls hl => ?_)
          refine lv_goto (tgt := 47) hx hb dX6_faultOf_90 (by decide) ?_
          exact ih _ _ _ _ _ _ hH hS (lv_sub hl [1, 2, 3, 0] rfl) hf
        · have hf := hg.1 c12
          refine lv_iload_n hx hb dX6_faultOf_66 rfl (lv_at hl 3 rfl) ?_
          have ho := Option.some.inj hf
          exact W.iret (v := x3) hx hb hr (fun t ht hW => ⟨⟨x3, (), rfl, congrArg Prod.snd ho, hrP ht ho hH⟩, hS.F ht⟩) hS.2.2 dX6_faultOf_67
  have hl : lv_has ls 4 [(0, .ref a), (1, .ref p0)] := hl
  refine lv_aload_n hx hb dX6_faultOf_0 rfl (lv_at hl 0 rfl) ?_
  refine lv_iconst (v := 0) hx hb dX6_faultOf_1 (by decide) ?_
  refine p_6_5 hx hb hts hown hK hH hS hk0 (hts _ wd_185) dX6_faultOf_2 (fun H locs hH hS => ?_)
  obtain ⟨g19, eg19⟩ : ∃ z : GM, z = gsI g a 5 0 := ⟨_, rfl⟩
  have hf := gl_at hf eg19
  replace hH : HR w K g19 S H := by rw [eg19]; exact hH
  refine lv_aload_n hx hb dX6_faultOf_5 rfl (lv_at hl 0 rfl) ?_
  refine lv_iconst (v := 0) hx hb dX6_faultOf_6 (by decide) ?_
  refine p_6_6 hx hb hts hown hK hH hS hk0 (hts _ wd_186) dX6_faultOf_7 (fun H locs hH hS => ?_)
  obtain ⟨g20, eg20⟩ : ∃ z : GM, z = gsI g19 a 6 0 := ⟨_, rfl⟩
  have hf := gl_at hf eg20
  replace hH : HR w K g20 S H := by rw [eg20]; exact hH
  refine lv_aload_n hx hb dX6_faultOf_10 rfl (lv_at hl 0 rfl) ?_
  refine lv_iconst (v := 0) hx hb dX6_faultOf_11 (by decide) ?_
  refine p_6_7 hx hb hts hown hK hH hS hk0 (hts _ wd_187) dX6_faultOf_12 (fun H locs hH hS => ?_)
  obtain ⟨g21, eg21⟩ : ∃ z : GM, z = gsI g20 a 7 0 := ⟨_, rfl⟩
  have hf := gl_at hf eg21
  replace hH : HR w K g21 S H := by rw [eg21]; exact hH
  refine lv_aload_n hx hb dX6_faultOf_15 rfl (lv_at hl 0 rfl) ?_
  refine lv_iconst (v := 0) hx hb dX6_faultOf_16 (by decide) ?_
  refine p_6_8 hx hb hts hown hK hH hS hk0 (hts _ wd_188) dX6_faultOf_17 (fun H locs hH hS => ?_)
  obtain ⟨g22, eg22⟩ : ∃ z : GM, z = gsI g21 a 8 0 := ⟨_, rfl⟩
  have hf := gl_at hf eg22
  replace hH : HR w K g22 S H := by rw [eg22]; exact hH
  refine lv_aload_n hx hb dX6_faultOf_20 rfl (lv_at hl 0 rfl) ?_
  refine lv_iconst (v := 0) hx hb dX6_faultOf_21 (by decide) ?_
  refine p_6_10 hx hb hts hown hK hH hS hk0 (hts _ wd_189) dX6_faultOf_22 (fun H locs hH hS => ?_)
  obtain ⟨g23, eg23⟩ : ∃ z : GM, z = gsI g22 a 10 0 := ⟨_, rfl⟩
  have hf := gl_at hf eg23
  replace hH : HR w K g23 S H := by rw [eg23]; exact hH
  refine lv_aload_n hx hb dX6_faultOf_25 rfl (lv_at hl 0 rfl) ?_
  refine lv_iconst (v := 0) hx hb dX6_faultOf_26 (by decide) ?_
  refine p_6_12 hx hb hts hown hK hH hS hk0 (hts _ wd_190) dX6_faultOf_27 (fun H locs hH hS => ?_)
  obtain ⟨g24, eg24⟩ : ∃ z : GM, z = gsI g23 a 12 0 := ⟨_, rfl⟩
  have hf := gl_at hf eg24
  replace hH : HR w K g24 S H := by rw [eg24]; exact hH
  refine lv_aload_n hx hb dX6_faultOf_30 rfl (lv_at hl 0 rfl) ?_
  refine lv_iconst (v := 0) hx hb dX6_faultOf_31 (by decide) ?_
  refine p_6_11 hx hb hts hown hK hH hS hk0 (hts _ wd_191) dX6_faultOf_32 (fun H locs hH hS => ?_)
  obtain ⟨g25, eg25⟩ : ∃ z : GM, z = gsI g24 a 11 0 := ⟨_, rfl⟩
  have hf := gl_at hf eg25
  replace hH : HR w K g25 S H := by rw [eg25]; exact hH
  refine lv_aload_n hx hb dX6_faultOf_35 rfl (lv_at hl 1 rfl) ?_
  obtain ⟨k26, hf⟩ := gd_some hf
  have k26 := gk_obj k26
  refine e_5_1 hx hb hts hown hK hH k26 (hts _ wd_192) dX6_faultOf_36 ?_
  refine lv_bipush (v := 80) hx hb dX6_faultOf_39 (by decide) ?_
  refine va_mmin hx hb (hml.trans hl.1.symm) hown (hts _ wd_193) (hts _ wd_134) (hts _ wd_135) (hts _ wd_136) (Nat.le_of_ble_eq_true rfl) (Nat.le_of_ble_eq_true rfl) (Nat.le_of_ble_eq_true rfl) (Nat.le_of_ble_eq_true rfl) dX6_faultOf_41 ?_
  refine lv_topi (fun v27 ev27 => ?_)
  have hf := gl_at hf ev27
  refine lv_istore_n (lv' := [(2, .int v27), (0, .ref a), (1, .ref p0)]) hx hb dX6_faultOf_44 rfl hl (by decide) rfl (fun ls hl => ?_)
  refine lv_iconst (v := 0) hx hb dX6_faultOf_45 (by decide) ?_
  refine lv_istore_n (lv' := [(3, .int 0), (2, .int v27), (0, .ref a), (1, .ref p0)]) hx hb dX6_faultOf_46 rfl hl (by decide) rfl (fun ls hl => ?_)
  exact B47 _ _ _ _ _ _ _ hH hS (lv_sub hl [2, 3, 1, 0] rfl) hf
set_option maxRecDepth 100000 in
set_option maxHeartbeats 8000000 in
theorem c7_ahead (l : Launch) (w : GW) (K : GK) (g : GM) (S : GS) (a : Nat) (p0 : Int32) (out : GM × Int32) (hf : f7_ahead K g a p0 = some out) (hk0 : gkd K a = 8) : Met l yX7_ahead (wA yX7_ahead cX7_ahead 3 (some .int)) ({ frames := 6, cells := 0, slots := 0, locals := 132 } : Room) (PRE w K g S [.ref a, .int p0]) (QI w K out.1 S out.2) 0 0 (FR w) := by
  unfold f7_ahead at hf
  refine Met.ofW (cc := cX7_ahead) (maxL := 3) (ret := (some .int)) (by decide) rfl ?_
  intro p e s m args below meth c s₁ B hml hv
  obtain ⟨rfl, hH, hK⟩ := hv
  have hx := B.exec
  have hb := B.bytes
  have hr := B.returns
  have hts : ∀ q ∈ gALL, q.before _ s = true := fun q h => atoms_spec (ws := (wA yX7_ahead cX7_ahead 3 (some .int))) B.pre q (List.mem_cons_of_mem _ h)
  have hown : s.vm.findClass RX7 = some m.cls := findClass_of_methodNamed B.named
  have hlocks := B.notSynchronized
  have hS : va_S (FR w) s.heap s.heap [] := va_S.rf
  show W p l e ({ frames := 6, cells := 0, slots := 0, locals := 132 } : Room) s m _ below meth c s.heap [] 0 0 (MQ below (QI w K out.1 S out.2) _ s 0 0 (FR w)) _
  have hl := lv_entry ([.ref a, .int p0]) (n := 3) (Nat.le_of_ble_eq_true rfl)
  rw [lg_entry_eq]
  generalize (lg_sl ([.ref a, .int p0]) ++ List.replicate (3 - (lg_sl ([.ref a, .int p0])).length) Slot.unset).toArray = ls at hl ⊢
  clear B
  generalize ([.ref a, .int p0] : List Value).toArray = args at hts ⊢
  have hl : lv_has ls 3 [(0, .ref a), (1, .int p0)] := hl
  refine lv_iload_n hx hb dX7_ahead_0 rfl (lv_at hl 1 rfl) ?_
  refine lv_iconst (v := 1) hx hb dX7_ahead_1 (by decide) ?_
  have hg := gif hf
  refine lv_icmp_lt (tgt := 11) hx hb dX7_ahead_2 (by decide) (fun c1 => ?_) (fun c1 => ?_)
  · have hf := hg.1 c1
    refine lv_bipush (v := (-2)) hx hb dX7_ahead_11 (by decide) ?_
    have ho := Option.some.inj hf
    exact W.iret (v := (-2)) hx hb hr (fun t ht hW => ⟨⟨(-2), (), rfl, congrArg Prod.snd ho, hrP ht ho hH⟩, hS.F ht⟩) hS.2.2 dX7_ahead_13
  · have hf := hg.2 c1
    refine lv_iload_n hx hb dX7_ahead_5 rfl (lv_at hl 1 rfl) ?_
    refine lv_bipush (v := 99) hx hb dX7_ahead_6 (by decide) ?_
    have hg := gif hf
    refine lv_icmp_le (tgt := 14) hx hb dX7_ahead_8 (by decide) (fun c2 => ?_) (fun c2 => ?_)
    · have hf := hg.1 c2
      refine lv_aload_n hx hb dX7_ahead_14 rfl (lv_at hl 0 rfl) ?_
      have k3 : gkd K (a + 26) = 5 := congrArg Prod.fst (hH.sub hk0 3 (t := (26, 5, 0)) rfl)
      refine e_7_3 hx hb hts hown hK hH hk0 (hts _ wd_25) dX7_ahead_15 ?_
      refine lv_aload_n hx hb dX7_ahead_18 rfl (lv_at hl 0 rfl) ?_
      have k4 : gkd K (a + 10) = 5 := congrArg Prod.fst (hH.sub hk0 2 (t := (10, 5, 0)) rfl)
      refine e_7_2 hx hb hts hown hK hH hk0 (hts _ wd_24) dX7_ahead_19 ?_
      obtain ⟨g5, h6, hf⟩ := gbind hf
      refine g_Vv (As := [.ref (a + 10)]) (rest := []) ⟨hx, hb, hml, hown, hts⟩ (c4_copyFrom l w K g S (a + 26) (a + 10) g5 h6 k3) (gcwV hts i4_copyFrom wd_844 rfl rfl ⟨Nat.le_of_ble_eq_true rfl, Nat.le_of_ble_eq_true rfl⟩) (gRecv.of hK rfl (hH.o5 k3)) hH hK hS hl.1 rfl rfl (Nat.le_of_ble_eq_true rfl) dX7_ahead_22 ⟨Nat.le_refl _, Nat.le_refl _⟩ (fun H locs hH hS => ?_)
      refine lv_aload_n hx hb dX7_ahead_25 rfl (lv_at hl 0 rfl) ?_
      refine e_7_3 hx hb hts hown hK hH hk0 (hts _ wd_25) dX7_ahead_26 ?_
      refine lv_iload_n hx hb dX7_ahead_29 rfl (lv_at hl 1 rfl) ?_
      obtain ⟨r7, h8, hf⟩ := gbind hf
      refine g_Vi (As := [.int p0]) (rest := []) ⟨hx, hb, hml, hown, hts⟩ (c4_goOn l w K g5 S (a + 26) p0 r7 h8 k3) (gcwV hts i4_goOn wd_372 rfl rfl ⟨Nat.le_of_ble_eq_true rfl, Nat.le_of_ble_eq_true rfl⟩) (gRecv.of hK rfl (hH.o5 k3)) hH hK hS hl.1 rfl rfl (Nat.le_of_ble_eq_true rfl) dX7_ahead_30 ⟨Nat.le_refl _, Nat.le_refl _⟩ (fun H locs hH hS => ?_)
      refine lv_istore_n (lv' := [(2, .int r7.2), (0, .ref a), (1, .int p0)]) hx hb dX7_ahead_33 rfl hl (by decide) rfl (fun ls hl => ?_)
      refine lv_iload_n hx hb dX7_ahead_34 rfl (lv_at hl 0 rfl) ?_
      refine lv_iload_n hx hb dX7_ahead_35 rfl (lv_at hl 2 rfl) ?_
      have hg := gif hf
      refine lv_icmp_lt (tgt := 49) hx hb dX7_ahead_36 (by decide) (fun c9 => ?_) (fun c9 => ?_)
      · have hf := hg.1 c9
        refine lv_bipush (v := (-6)) hx hb dX7_ahead_49 (by decide) ?_
        have ho := Option.some.inj hf
        exact W.iret (v := (-6)) hx hb hr (fun t ht hW => ⟨⟨(-6), (), rfl, congrArg Prod.snd ho, hrP ht ho hH⟩, hS.F ht⟩) hS.2.2 dX7_ahead_51
      · have hf := hg.2 c9
        refine lv_aload_n hx hb dX7_ahead_39 rfl (lv_at hl 1 rfl) ?_
        refine e_7_3 hx hb hts hown hK hH hk0 (hts _ wd_25) dX7_ahead_40 ?_
        refine e_4_9 hx hb hts hown hK hH k3 (hts _ wd_560) dX7_ahead_43 ?_
        have hg := gif hf
        refine lv_if_ne (tgt := 52) hx hb dX7_ahead_46 (by decide) (fun c10 => ?_) (fun c10 => ?_)
        · have hf := hg.2 c10
          refine lv_aload_n hx hb dX7_ahead_52 rfl (lv_at hl 1 rfl) ?_
          refine e_7_3 hx hb hts hown hK hH hk0 (hts _ wd_25) dX7_ahead_53 ?_
          have k11 : K.1 (a + 34) = (12, 400) := hH.sub k3 7 (t := (8, 12, 400)) rfl
          refine e_4_7 hx hb hts hown hK hH k3 (hts _ wd_636) dX7_ahead_56 ?_
          refine lv_aload_n hx hb dX7_ahead_59 rfl (lv_at hl 1 rfl) ?_
          refine e_7_3 hx hb hts hown hK hH hk0 (hts _ wd_25) dX7_ahead_60 ?_
          refine e_4_9 hx hb hts hown hK hH k3 (hts _ wd_560) dX7_ahead_63 ?_
          refine lv_iconst (v := 1) hx hb dX7_ahead_66 (by decide) ?_
          refine lv_isub hx hb dX7_ahead_67 ?_
          obtain ⟨h13, hf⟩ := gd_some hf
          refine g_bald hx hb hK hH k11 h13 dX7_ahead_68 ?_
          have ho := Option.some.inj hf
          exact W.iret (v := (gI r7.1 (a + 34) ((gI r7.1 (a + 26) 9) - 1).toNatClampNeg)) hx hb hr (fun t ht hW => ⟨⟨(gI r7.1 (a + 34) ((gI r7.1 (a + 26) 9) - 1).toNatClampNeg), (), rfl, congrArg Prod.snd ho, hrP ht ho hH⟩, hS.F ht⟩) hS.2.2 dX7_ahead_69
        · have hf := hg.1 c10
          refine lv_bipush (v := (-6)) hx hb dX7_ahead_49 (by decide) ?_
          have ho := Option.some.inj hf
          exact W.iret (v := (-6)) hx hb hr (fun t ht hW => ⟨⟨(-6), (), rfl, congrArg Prod.snd ho, hrP ht ho hH⟩, hS.F ht⟩) hS.2.2 dX7_ahead_51
    · have hf := hg.2 c2
      refine lv_bipush (v := (-2)) hx hb dX7_ahead_11 (by decide) ?_
      have ho := Option.some.inj hf
      exact W.iret (v := (-2)) hx hb hr (fun t ht hW => ⟨⟨(-2), (), rfl, congrArg Prod.snd ho, hrP ht ho hH⟩, hS.F ht⟩) hS.2.2 dX7_ahead_13
set_option maxRecDepth 100000 in
set_option maxHeartbeats 8000000 in
theorem c7_begin (l : Launch) (w : GW) (K : GK) (g : GM) (S : GS) (a : Nat) (p0 : Int32) (out : GM × Int32) (hf : f7_begin K g a p0 = some out) (hk0 : gkd K a = 8) : Met l yX7_begin (wA yX7_begin cX7_begin 2 (some .int)) ({ frames := 5, cells := 0, slots := 0, locals := 144 } : Room) (PRE w K g S [.ref a, .int p0]) (QI w K out.1 S out.2) 0 0 (FR w) := by
  unfold f7_begin at hf
  refine Met.ofW (cc := cX7_begin) (maxL := 2) (ret := (some .int)) (by decide) rfl ?_
  intro p e s m args below meth c s₁ B hml hv
  obtain ⟨rfl, hH, hK⟩ := hv
  have hx := B.exec
  have hb := B.bytes
  have hr := B.returns
  have hts : ∀ q ∈ gALL, q.before _ s = true := fun q h => atoms_spec (ws := (wA yX7_begin cX7_begin 2 (some .int))) B.pre q (List.mem_cons_of_mem _ h)
  have hown : s.vm.findClass RX7 = some m.cls := findClass_of_methodNamed B.named
  have hlocks := B.notSynchronized
  have hS : va_S (FR w) s.heap s.heap [] := va_S.rf
  show W p l e ({ frames := 5, cells := 0, slots := 0, locals := 144 } : Room) s m _ below meth c s.heap [] 0 0 (MQ below (QI w K out.1 S out.2) _ s 0 0 (FR w)) _
  have hl := lv_entry ([.ref a, .int p0]) (n := 2) (Nat.le_of_ble_eq_true rfl)
  rw [lg_entry_eq]
  generalize (lg_sl ([.ref a, .int p0]) ++ List.replicate (2 - (lg_sl ([.ref a, .int p0])).length) Slot.unset).toArray = ls at hl ⊢
  clear B
  generalize ([.ref a, .int p0] : List Value).toArray = args at hts ⊢
  have hl : lv_has ls 2 [(0, .ref a), (1, .int p0)] := hl
  refine lv_iload_n hx hb dX7_begin_0 rfl (lv_at hl 1 rfl) ?_
  refine lv_bipush (v := 10) hx hb dX7_begin_1 (by decide) ?_
  obtain ⟨v1, h2, hf⟩ := gbind hf
  refine g_Si (As := [.int p0, .int 10]) (rest := []) ⟨hx, hb, hml, hown, hts⟩ (c7_inRange l w K g S p0 10 v1 h2) (gcwS hts i7_inRange wd_118 rfl rfl ⟨Nat.le_of_ble_eq_true rfl, Nat.le_of_ble_eq_true rfl⟩) hH hK hS hl.1 rfl rfl (Nat.le_of_ble_eq_true rfl) dX7_begin_3 ⟨Nat.le_refl _, Nat.le_refl _⟩ (fun H locs hH hS => ?_)
  have hg := gif hf
  refine lv_if_ne (tgt := 11) hx hb dX7_begin_6 (by decide) (fun c3 => ?_) (fun c3 => ?_)
  · have hf := hg.2 c3
    refine lv_aload_n hx hb dX7_begin_11 rfl (lv_at hl 0 rfl) ?_
    have k4 : gkd K (a + 10) = 5 := congrArg Prod.fst (hH.sub hk0 2 (t := (10, 5, 0)) rfl)
    refine e_7_2 hx hb hts hown hK hH hk0 (hts _ wd_24) dX7_begin_12 ?_
    have k5 : K.1 (a + 11) = (13, 10) := hH.sub k4 0 (t := (1, 13, 10)) rfl
    refine e_4_0 hx hb hts hown hK hH k4 (hts _ wd_178) dX7_begin_15 ?_
    refine lv_iload_n hx hb dX7_begin_18 rfl (lv_at hl 1 rfl) ?_
    obtain ⟨h7, hf⟩ := gd_some hf
    refine g_tald hx hb hK hH k5 h7 dX7_begin_19 ?_
    rcases gopt_c hf with ⟨q9, hf⟩ | ⟨t8, q9, hf⟩
    · refine g_rfN q9 ?_
      refine lv_ifnonnullN hx hb dX7_begin_20 ?_
      refine lv_bipush (v := (-5)) hx hb dX7_begin_23 (by decide) ?_
      have ho := Option.some.inj hf
      exact W.iret (v := (-5)) hx hb hr (fun t ht hW => ⟨⟨(-5), (), rfl, congrArg Prod.snd ho, hrP ht ho hH⟩, hS.F ht⟩) hS.2.2 dX7_begin_25
    · refine g_rfS q9 ?_
      refine lv_ifnonnull (tgt := 26) hx hb dX7_begin_20 (by decide) ?_
      refine lv_aload_n hx hb dX7_begin_26 rfl (lv_at hl 0 rfl) ?_
      have k10 : gkd K (a + 42) = 4 := congrArg Prod.fst (hH.sub hk0 4 (t := (42, 4, 0)) rfl)
      refine e_7_4 hx hb hts hown hK hH hk0 (hts _ wd_29) dX7_begin_27 ?_
      refine lv_aload_n hx hb dX7_begin_30 rfl (lv_at hl 0 rfl) ?_
      refine e_7_2 hx hb hts hown hK hH hk0 (hts _ wd_24) dX7_begin_31 ?_
      obtain ⟨g11, h12, hf⟩ := gbind hf
      refine g_Vv (As := [.ref (a + 10)]) (rest := []) ⟨hx, hb, hml, hown, hts⟩ (c3_keep l w K g S (a + 42) (a + 10) g11 h12 k10) (gcwV hts i3_keep wd_121 rfl rfl ⟨Nat.le_of_ble_eq_true rfl, Nat.le_of_ble_eq_true rfl⟩) (gRecv.of hK rfl (hH.o4 k10)) hH hK hS hl.1 rfl rfl (Nat.le_of_ble_eq_true rfl) dX7_begin_34 ⟨Nat.le_refl _, Nat.le_refl _⟩ (fun H locs hH hS => ?_)
      refine lv_aload_n hx hb dX7_begin_37 rfl (lv_at hl 0 rfl) ?_
      refine e_7_2 hx hb hts hown hK hH hk0 (hts _ wd_24) dX7_begin_38 ?_
      refine lv_iload_n hx hb dX7_begin_41 rfl (lv_at hl 1 rfl) ?_
      obtain ⟨r13, h14, hf⟩ := gbind hf
      refine g_Vi (As := [.int p0]) (rest := []) ⟨hx, hb, hml, hown, hts⟩ (c4_beginWith l w K g11 S (a + 10) p0 r13 h14 k4) (gcwV hts i4_beginWith wd_334 rfl rfl ⟨Nat.le_of_ble_eq_true rfl, Nat.le_of_ble_eq_true rfl⟩) (gRecv.of hK rfl (hH.o5 k4)) hH hK hS hl.1 rfl rfl (Nat.le_of_ble_eq_true rfl) dX7_begin_42 ⟨Nat.le_refl _, Nat.le_refl _⟩ (fun H locs hH hS => ?_)
      have ho := Option.some.inj hf
      exact W.iret (v := r13.2) hx hb hr (fun t ht hW => ⟨⟨r13.2, (), rfl, congrArg Prod.snd ho, hrP ht ho hH⟩, hS.F ht⟩) hS.2.2 dX7_begin_45
  · have hf := hg.1 c3
    refine lv_iconst (v := (-1)) hx hb dX7_begin_9 (by decide) ?_
    have ho := Option.some.inj hf
    exact W.iret (v := (-1)) hx hb hr (fun t ht hW => ⟨⟨(-1), (), rfl, congrArg Prod.snd ho, hrP ht ho hH⟩, hS.F ht⟩) hS.2.2 dX7_begin_10
set_option maxRecDepth 100000 in
set_option maxHeartbeats 8000000 in
theorem c7_blank (l : Launch) (w : GW) (K : GK) (g : GM) (S : GS) (a : Nat) (p0 : Int32) (out : GM × Int32) (hf : f7_blank K g a p0 = some out) (hk0 : gkd K a = 8) : Met l yX7_blank (wA yX7_blank cX7_blank 2 (some .int)) ({ frames := 5, cells := 0, slots := 0, locals := 144 } : Room) (PRE w K g S [.ref a, .int p0]) (QI w K out.1 S out.2) 0 0 (FR w) := by
  unfold f7_blank at hf
  refine Met.ofW (cc := cX7_blank) (maxL := 2) (ret := (some .int)) (by decide) rfl ?_
  intro p e s m args below meth c s₁ B hml hv
  obtain ⟨rfl, hH, hK⟩ := hv
  have hx := B.exec
  have hb := B.bytes
  have hr := B.returns
  have hts : ∀ q ∈ gALL, q.before _ s = true := fun q h => atoms_spec (ws := (wA yX7_blank cX7_blank 2 (some .int))) B.pre q (List.mem_cons_of_mem _ h)
  have hown : s.vm.findClass RX7 = some m.cls := findClass_of_methodNamed B.named
  have hlocks := B.notSynchronized
  have hS : va_S (FR w) s.heap s.heap [] := va_S.rf
  show W p l e ({ frames := 5, cells := 0, slots := 0, locals := 144 } : Room) s m _ below meth c s.heap [] 0 0 (MQ below (QI w K out.1 S out.2) _ s 0 0 (FR w)) _
  have hl := lv_entry ([.ref a, .int p0]) (n := 2) (Nat.le_of_ble_eq_true rfl)
  rw [lg_entry_eq]
  generalize (lg_sl ([.ref a, .int p0]) ++ List.replicate (2 - (lg_sl ([.ref a, .int p0])).length) Slot.unset).toArray = ls at hl ⊢
  clear B
  generalize ([.ref a, .int p0] : List Value).toArray = args at hts ⊢
  have hl : lv_has ls 2 [(0, .ref a), (1, .int p0)] := hl
  refine lv_iload_n hx hb dX7_blank_0 rfl (lv_at hl 1 rfl) ?_
  refine lv_bipush (v := 10) hx hb dX7_blank_1 (by decide) ?_
  obtain ⟨v1, h2, hf⟩ := gbind hf
  refine g_Si (As := [.int p0, .int 10]) (rest := []) ⟨hx, hb, hml, hown, hts⟩ (c7_inRange l w K g S p0 10 v1 h2) (gcwS hts i7_inRange wd_118 rfl rfl ⟨Nat.le_of_ble_eq_true rfl, Nat.le_of_ble_eq_true rfl⟩) hH hK hS hl.1 rfl rfl (Nat.le_of_ble_eq_true rfl) dX7_blank_3 ⟨Nat.le_refl _, Nat.le_refl _⟩ (fun H locs hH hS => ?_)
  have hg := gif hf
  refine lv_if_ne (tgt := 11) hx hb dX7_blank_6 (by decide) (fun c3 => ?_) (fun c3 => ?_)
  · have hf := hg.2 c3
    refine lv_aload_n hx hb dX7_blank_11 rfl (lv_at hl 0 rfl) ?_
    have k4 : gkd K (a + 10) = 5 := congrArg Prod.fst (hH.sub hk0 2 (t := (10, 5, 0)) rfl)
    refine e_7_2 hx hb hts hown hK hH hk0 (hts _ wd_24) dX7_blank_12 ?_
    have k5 : K.1 (a + 11) = (13, 10) := hH.sub k4 0 (t := (1, 13, 10)) rfl
    refine e_4_0 hx hb hts hown hK hH k4 (hts _ wd_178) dX7_blank_15 ?_
    refine lv_iload_n hx hb dX7_blank_18 rfl (lv_at hl 1 rfl) ?_
    obtain ⟨h7, hf⟩ := gd_some hf
    refine g_tald hx hb hK hH k5 h7 dX7_blank_19 ?_
    rcases gopt_c hf with ⟨q9, hf⟩ | ⟨t8, q9, hf⟩
    · refine g_rfN q9 ?_
      refine lv_ifnonnullN hx hb dX7_blank_20 ?_
      refine lv_bipush (v := (-5)) hx hb dX7_blank_23 (by decide) ?_
      have ho := Option.some.inj hf
      exact W.iret (v := (-5)) hx hb hr (fun t ht hW => ⟨⟨(-5), (), rfl, congrArg Prod.snd ho, hrP ht ho hH⟩, hS.F ht⟩) hS.2.2 dX7_blank_25
    · refine g_rfS q9 ?_
      refine lv_ifnonnull (tgt := 26) hx hb dX7_blank_20 (by decide) ?_
      refine lv_aload_n hx hb dX7_blank_26 rfl (lv_at hl 0 rfl) ?_
      have k10 : gkd K (a + 42) = 4 := congrArg Prod.fst (hH.sub hk0 4 (t := (42, 4, 0)) rfl)
      refine e_7_4 hx hb hts hown hK hH hk0 (hts _ wd_29) dX7_blank_27 ?_
      refine lv_aload_n hx hb dX7_blank_30 rfl (lv_at hl 0 rfl) ?_
      refine e_7_2 hx hb hts hown hK hH hk0 (hts _ wd_24) dX7_blank_31 ?_
      obtain ⟨g11, h12, hf⟩ := gbind hf
      refine g_Vv (As := [.ref (a + 10)]) (rest := []) ⟨hx, hb, hml, hown, hts⟩ (c3_keep l w K g S (a + 42) (a + 10) g11 h12 k10) (gcwV hts i3_keep wd_121 rfl rfl ⟨Nat.le_of_ble_eq_true rfl, Nat.le_of_ble_eq_true rfl⟩) (gRecv.of hK rfl (hH.o4 k10)) hH hK hS hl.1 rfl rfl (Nat.le_of_ble_eq_true rfl) dX7_blank_34 ⟨Nat.le_refl _, Nat.le_refl _⟩ (fun H locs hH hS => ?_)
      refine lv_aload_n hx hb dX7_blank_37 rfl (lv_at hl 0 rfl) ?_
      refine e_7_2 hx hb hts hown hK hH hk0 (hts _ wd_24) dX7_blank_38 ?_
      refine e_4_0 hx hb hts hown hK hH k4 (hts _ wd_178) dX7_blank_41 ?_
      refine lv_iload_n hx hb dX7_blank_44 rfl (lv_at hl 1 rfl) ?_
      refine lv_null hx hb dX7_blank_45 ?_
      refine g_tastN hx hb hK hH hS k5 h7 dX7_blank_46 (fun H locs hH hS => ?_)
      obtain ⟨g14, eg14⟩ : ∃ z : GM, z = gsR g11 (a + 11) p0.toNatClampNeg none := ⟨_, rfl⟩
      have hf := gl_at hf eg14
      replace hH : HR w K g14 S H := by rw [eg14]; exact hH
      refine lv_aload_n hx hb dX7_blank_47 rfl (lv_at hl 0 rfl) ?_
      refine e_7_2 hx hb hts hown hK hH hk0 (hts _ wd_24) dX7_blank_48 ?_
      refine e_4_0 hx hb hts hown hK hH k4 (hts _ wd_178) dX7_blank_51 ?_
      refine lv_iload_n hx hb dX7_blank_54 rfl (lv_at hl 1 rfl) ?_
      obtain ⟨v15, h16, hf⟩ := gbind hf
      refine g_Si (As := [.ref (a + 11), .int p0]) (rest := []) ⟨hx, hb, hml, hown, hts⟩ (c2_callersOf l w K g14 S (a + 11) p0 v15 h16) (gcwS hts i2_callersOf wd_304 rfl rfl ⟨Nat.le_of_ble_eq_true rfl, Nat.le_of_ble_eq_true rfl⟩) hH hK hS hl.1 rfl rfl (Nat.le_of_ble_eq_true rfl) dX7_blank_55 ⟨Nat.le_refl _, Nat.le_refl _⟩ (fun H locs hH hS => ?_)
      have ho := Option.some.inj hf
      exact W.iret (v := v15) hx hb hr (fun t ht hW => ⟨⟨v15, (), rfl, congrArg Prod.snd ho, hrP ht ho hH⟩, hS.F ht⟩) hS.2.2 dX7_blank_58
  · have hf := hg.1 c3
    refine lv_iconst (v := (-1)) hx hb dX7_blank_9 (by decide) ?_
    have ho := Option.some.inj hf
    exact W.iret (v := (-1)) hx hb hr (fun t ht hW => ⟨⟨(-1), (), rfl, congrArg Prod.snd ho, hrP ht ho hH⟩, hS.F ht⟩) hS.2.2 dX7_blank_10
set_option maxRecDepth 100000 in
set_option maxHeartbeats 8000000 in
theorem c7_byCloth (l : Launch) (w : GW) (K : GK) (g : GM) (S : GS) (a : Nat) (p0 : Int32) (out : Int32) (hf : f7_byCloth K g a p0 = some out) (hk0 : gkd K a = 8) : Met l yX7_byCloth (wA yX7_byCloth cX7_byCloth 3 (some .int)) ({ frames := 2, cells := 0, slots := 0, locals := 48 } : Room) (PRE w K g S [.ref a, .int p0]) (QI w K g S out) 0 0 (FR w) := by
  unfold f7_byCloth at hf
  refine Met.ofW (cc := cX7_byCloth) (maxL := 3) (ret := (some .int)) (by decide) rfl ?_
  intro p e s m args below meth c s₁ B hml hv
  obtain ⟨rfl, hH, hK⟩ := hv
  have hx := B.exec
  have hb := B.bytes
  have hr := B.returns
  have hts : ∀ q ∈ gALL, q.before _ s = true := fun q h => atoms_spec (ws := (wA yX7_byCloth cX7_byCloth 3 (some .int))) B.pre q (List.mem_cons_of_mem _ h)
  have hown : s.vm.findClass RX7 = some m.cls := findClass_of_methodNamed B.named
  have hlocks := B.notSynchronized
  have hS : va_S (FR w) s.heap s.heap [] := va_S.rf
  show W p l e ({ frames := 2, cells := 0, slots := 0, locals := 48 } : Room) s m _ below meth c s.heap [] 0 0 (MQ below (QI w K g S out) _ s 0 0 (FR w)) _
  have hl := lv_entry ([.ref a, .int p0]) (n := 3) (Nat.le_of_ble_eq_true rfl)
  rw [lg_entry_eq]
  generalize (lg_sl ([.ref a, .int p0]) ++ List.replicate (3 - (lg_sl ([.ref a, .int p0])).length) Slot.unset).toArray = ls at hl ⊢
  clear B
  generalize ([.ref a, .int p0] : List Value).toArray = args at hts ⊢
  have B44 : ∀ (k13 : Int32 → Option (Int32)), (∀ (x2 : Int32) (H : Heap) (locs : List Loc) (ls : Array Slot), HR w K g S H → va_S (FR w) s.heap H locs → lv_has ls 3 [(0, .ref a), (1, .int p0), (2, .int x2)] → k13 x2 = some out → W p l e ({ frames := 2, cells := 0, slots := 0, locals := 48 } : Room) s m args below meth c H locs 0 0 (MQ below (QI w K g S out) args s 0 0 (FR w)) (F0 m 13 ls [])) → ∀ (x2 : Int32) (H : Heap) (locs : List Loc) (ls : Array Slot), HR w K g S H → va_S (FR w) s.heap H locs → lv_has ls 3 [(0, .ref a), (1, .int p0), (2, .int x2)] → f7_byCloth_44 k13 K g a p0 x2 = some out → W p l e ({ frames := 2, cells := 0, slots := 0, locals := 48 } : Room) s m args below meth c H locs 0 0 (MQ below (QI w K g S out) args s 0 0 (FR w)) (F0 m 44 ls []) := by
    intro k13 hk13 x2 H locs ls hH hS hl hf
    unfold f7_byCloth_44 at hf
    obtain ⟨v1, ev1⟩ : ∃ z : Int32, z = x2 + 1 := ⟨_, rfl⟩
    have hf := gl_at hf ev1
    refine lv_iinc (v := v1) (lv' := [(2, .int v1), (0, .ref a), (1, .int p0)]) hx hb dX7_byCloth_44 hl (k := 2) rfl (by rw [ev1]; rfl) (by decide) rfl (fun ls hl => ?_)
    refine lv_goto (tgt := 13) hx hb dX7_byCloth_47 (by decide) ?_
    exact hk13 _ _ _ _ hH hS (lv_sub hl [1, 2, 0] rfl) hf
  have B13 : ∀ n : Nat, ∀ (x2 : Int32) (H : Heap) (locs : List Loc) (ls : Array Slot), HR w K g S H → va_S (FR w) s.heap H locs → lv_has ls 3 [(0, .ref a), (1, .int p0), (2, .int x2)] → f7_byCloth_13 K g a p0 n x2 = some out → W p l e ({ frames := 2, cells := 0, slots := 0, locals := 48 } : Room) s m args below meth c H locs 0 0 (MQ below (QI w K g S out) args s 0 0 (FR w)) (F0 m 13 ls []) := by
    intro n
    induction n with
    | zero =>
      intro x2 H locs ls hH hS hl hf
      cases hf
    | succ n ih =>
      intro x2 H locs ls hH hS hl hf
      rw [f7_byCloth_13] at hf
      refine lv_iload_n hx hb dX7_byCloth_13 rfl (lv_at hl 2 rfl) ?_
      refine lv_bipush (v := 6) hx hb dX7_byCloth_14 (by decide) ?_
      have hg := gif hf
      refine lv_icmp_ge (tgt := 50) hx hb dX7_byCloth_16 (by decide) (fun c2 => ?_) (fun c2 => ?_)
      · have hf := hg.1 c2
        refine lv_iconst (v := (-1)) hx hb dX7_byCloth_50 (by decide) ?_
        have ho := Option.some.inj hf
        exact W.iret (v := (-1)) hx hb hr (fun t ht hW => ⟨⟨(-1), (), rfl, ho, hrE ht hH⟩, hS.F ht⟩) hS.2.2 dX7_byCloth_51
      · have hf := hg.2 c2
        refine lv_aload_n hx hb dX7_byCloth_19 rfl (lv_at hl 0 rfl) ?_
        have k3 : gkd K (a + 10) = 5 := congrArg Prod.fst (hH.sub hk0 2 (t := (10, 5, 0)) rfl)
        refine e_7_2 hx hb hts hown hK hH hk0 (hts _ wd_24) dX7_byCloth_20 ?_
        refine lv_iload_n hx hb dX7_byCloth_23 rfl (lv_at hl 2 rfl) ?_
        obtain ⟨v4, h5, hf⟩ := gbind hf
        refine g_Vi (As := [.int x2]) (rest := []) ⟨hx, hb, hml, hown, hts⟩ (c4_clothPicks l w K g S (a + 10) x2 v4 h5 k3) (gcwV hts i4_clothPicks wd_612 rfl rfl ⟨Nat.le_of_ble_eq_true rfl, Nat.le_of_ble_eq_true rfl⟩) (gRecv.of hK rfl (hH.o5 k3)) hH hK hS hl.1 rfl rfl (Nat.le_of_ble_eq_true rfl) dX7_byCloth_24 ⟨Nat.le_refl _, Nat.le_refl _⟩ (fun H locs hH hS => ?_)
        have hg := gif hf
        refine lv_if_le (tgt := 44) hx hb dX7_byCloth_27 (by decide) (fun c6 => ?_) (fun c6 => ?_)
        · have hf := hg.1 c6
          exact B44 _ (ih) _ _ _ _ hH hS (lv_sub hl [0, 1, 2] rfl) hf
        · have hf := hg.2 c6
          refine lv_aload_n hx hb dX7_byCloth_30 rfl (lv_at hl 0 rfl) ?_
          refine e_7_2 hx hb hts hown hK hH hk0 (hts _ wd_24) dX7_byCloth_31 ?_
          refine lv_iload_n hx hb dX7_byCloth_34 rfl (lv_at hl 2 rfl) ?_
          obtain ⟨v7, h8, hf⟩ := gbind hf
          refine g_Vi (As := [.int x2]) (rest := []) ⟨hx, hb, hml, hown, hts⟩ (c4_clothRank l w K g S (a + 10) x2 v7 h8 k3) (gcwV hts i4_clothRank wd_661 rfl rfl ⟨Nat.le_of_ble_eq_true rfl, Nat.le_of_ble_eq_true rfl⟩) (gRecv.of hK rfl (hH.o5 k3)) hH hK hS hl.1 rfl rfl (Nat.le_of_ble_eq_true rfl) dX7_byCloth_35 ⟨Nat.le_refl _, Nat.le_refl _⟩ (fun H locs hH hS => ?_)
          refine lv_iload_n hx hb dX7_byCloth_38 rfl (lv_at hl 1 rfl) ?_
          have hg := gif hf
          refine lv_icmp_ne (tgt := 44) hx hb dX7_byCloth_39 (by decide) (fun c9 => ?_) (fun c9 => ?_)
          · have hf := hg.2 c9
            exact B44 _ (ih) _ _ _ _ hH hS (lv_sub hl [0, 1, 2] rfl) hf
          · have hf := hg.1 c9
            refine lv_iload_n hx hb dX7_byCloth_42 rfl (lv_at hl 2 rfl) ?_
            have ho := Option.some.inj hf
            exact W.iret (v := x2) hx hb hr (fun t ht hW => ⟨⟨x2, (), rfl, ho, hrE ht hH⟩, hS.F ht⟩) hS.2.2 dX7_byCloth_43
  have hl : lv_has ls 3 [(0, .ref a), (1, .int p0)] := hl
  refine lv_iload_n hx hb dX7_byCloth_0 rfl (lv_at hl 1 rfl) ?_
  refine lv_bipush (v := 6) hx hb dX7_byCloth_1 (by decide) ?_
  obtain ⟨v10, h11, hf⟩ := gbind hf
  refine g_Si (As := [.int p0, .int 6]) (rest := []) ⟨hx, hb, hml, hown, hts⟩ (c7_inRange l w K g S p0 6 v10 h11) (gcwS hts i7_inRange wd_118 rfl rfl ⟨Nat.le_of_ble_eq_true rfl, Nat.le_of_ble_eq_true rfl⟩) hH hK hS hl.1 rfl rfl (Nat.le_of_ble_eq_true rfl) dX7_byCloth_3 ⟨Nat.le_refl _, Nat.le_refl _⟩ (fun H locs hH hS => ?_)
  have hg := gif hf
  refine lv_if_ne (tgt := 11) hx hb dX7_byCloth_6 (by decide) (fun c12 => ?_) (fun c12 => ?_)
  · have hf := hg.2 c12
    refine lv_iconst (v := 0) hx hb dX7_byCloth_11 (by decide) ?_
    refine lv_istore_n (lv' := [(2, .int 0), (0, .ref a), (1, .int p0)]) hx hb dX7_byCloth_12 rfl hl (by decide) rfl (fun ls hl => ?_)
    exact B13 _ _ _ _ _ hH hS (lv_sub hl [1, 2, 0] rfl) hf
  · have hf := hg.1 c12
    refine lv_iconst (v := (-1)) hx hb dX7_byCloth_9 (by decide) ?_
    have ho := Option.some.inj hf
    exact W.iret (v := (-1)) hx hb hr (fun t ht hW => ⟨⟨(-1), (), rfl, ho, hrE ht hH⟩, hS.F ht⟩) hS.2.2 dX7_byCloth_10
set_option maxRecDepth 100000 in
set_option maxHeartbeats 8000000 in
theorem c7_byEnd (l : Launch) (w : GW) (K : GK) (g : GM) (S : GS) (a : Nat) (p0 : Int32) (out : Int32) (hf : f7_byEnd K g a p0 = some out) (hk0 : gkd K a = 8) : Met l yX7_byEnd (wA yX7_byEnd cX7_byEnd 3 (some .int)) ({ frames := 1, cells := 0, slots := 0, locals := 24 } : Room) (PRE w K g S [.ref a, .int p0]) (QI w K g S out) 0 0 (FR w) := by
  unfold f7_byEnd at hf
  refine Met.ofW (cc := cX7_byEnd) (maxL := 3) (ret := (some .int)) (by decide) rfl ?_
  intro p e s m args below meth c s₁ B hml hv
  obtain ⟨rfl, hH, hK⟩ := hv
  have hx := B.exec
  have hb := B.bytes
  have hr := B.returns
  have hts : ∀ q ∈ gALL, q.before _ s = true := fun q h => atoms_spec (ws := (wA yX7_byEnd cX7_byEnd 3 (some .int))) B.pre q (List.mem_cons_of_mem _ h)
  have hown : s.vm.findClass RX7 = some m.cls := findClass_of_methodNamed B.named
  have hlocks := B.notSynchronized
  have hS : va_S (FR w) s.heap s.heap [] := va_S.rf
  show W p l e ({ frames := 1, cells := 0, slots := 0, locals := 24 } : Room) s m _ below meth c s.heap [] 0 0 (MQ below (QI w K g S out) _ s 0 0 (FR w)) _
  have hl := lv_entry ([.ref a, .int p0]) (n := 3) (Nat.le_of_ble_eq_true rfl)
  rw [lg_entry_eq]
  generalize (lg_sl ([.ref a, .int p0]) ++ List.replicate (3 - (lg_sl ([.ref a, .int p0])).length) Slot.unset).toArray = ls at hl ⊢
  clear B
  generalize ([.ref a, .int p0] : List Value).toArray = args at hts ⊢
  have B13 : ∀ n : Nat, ∀ (x2 : Int32) (H : Heap) (locs : List Loc) (ls : Array Slot), HR w K g S H → va_S (FR w) s.heap H locs → lv_has ls 3 [(0, .ref a), (1, .int p0), (2, .int x2)] → f7_byEnd_13 K g a p0 n x2 = some out → W p l e ({ frames := 1, cells := 0, slots := 0, locals := 24 } : Room) s m args below meth c H locs 0 0 (MQ below (QI w K g S out) args s 0 0 (FR w)) (F0 m 13 ls []) := by
    intro n
    induction n with
    | zero =>
      intro x2 H locs ls hH hS hl hf
      cases hf
    | succ n ih =>
      intro x2 H locs ls hH hS hl hf
      rw [f7_byEnd_13] at hf
      refine lv_iload_n hx hb dX7_byEnd_13 rfl (lv_at hl 2 rfl) ?_
      refine lv_bipush (v := 6) hx hb dX7_byEnd_14 (by decide) ?_
      have hg := gif hf
      refine lv_icmp_ge (tgt := 39) hx hb dX7_byEnd_16 (by decide) (fun c1 => ?_) (fun c1 => ?_)
      · have hf := hg.1 c1
        refine lv_iconst (v := (-1)) hx hb dX7_byEnd_39 (by decide) ?_
        have ho := Option.some.inj hf
        exact W.iret (v := (-1)) hx hb hr (fun t ht hW => ⟨⟨(-1), (), rfl, ho, hrE ht hH⟩, hS.F ht⟩) hS.2.2 dX7_byEnd_40
      · have hf := hg.2 c1
        refine lv_aload_n hx hb dX7_byEnd_19 rfl (lv_at hl 0 rfl) ?_
        have k2 : gkd K (a + 10) = 5 := congrArg Prod.fst (hH.sub hk0 2 (t := (10, 5, 0)) rfl)
        refine e_7_2 hx hb hts hown hK hH hk0 (hts _ wd_24) dX7_byEnd_20 ?_
        refine lv_iload_n hx hb dX7_byEnd_23 rfl (lv_at hl 2 rfl) ?_
        obtain ⟨v3, h4, hf⟩ := gbind hf
        refine g_Vi (As := [.int x2]) (rest := []) ⟨hx, hb, hml, hown, hts⟩ (c4_endRank l w K g S (a + 10) x2 v3 h4 k2) (gcwV hts i4_endRank wd_645 rfl rfl ⟨Nat.le_of_ble_eq_true rfl, Nat.le_of_ble_eq_true rfl⟩) (gRecv.of hK rfl (hH.o5 k2)) hH hK hS hl.1 rfl rfl (Nat.le_of_ble_eq_true rfl) dX7_byEnd_24 ⟨Nat.le_refl _, Nat.le_refl _⟩ (fun H locs hH hS => ?_)
        refine lv_iload_n hx hb dX7_byEnd_27 rfl (lv_at hl 1 rfl) ?_
        have hg := gif hf
        refine lv_icmp_ne (tgt := 33) hx hb dX7_byEnd_28 (by decide) (fun c5 => ?_) (fun c5 => ?_)
        · have hf := hg.2 c5
          obtain ⟨v6, ev6⟩ : ∃ z : Int32, z = x2 + 1 := ⟨_, rfl⟩
          have hf := gl_at hf ev6
          refine lv_iinc (v := v6) (lv' := [(2, .int v6), (0, .ref a), (1, .int p0)]) hx hb dX7_byEnd_33 hl (k := 2) rfl (by rw [ev6]; rfl) (by decide) rfl (fun ls hl => ?_)
          refine lv_goto (tgt := 13) hx hb dX7_byEnd_36 (by decide) ?_
          exact ih _ _ _ _ hH hS (lv_sub hl [1, 2, 0] rfl) hf
        · have hf := hg.1 c5
          refine lv_iload_n hx hb dX7_byEnd_31 rfl (lv_at hl 2 rfl) ?_
          have ho := Option.some.inj hf
          exact W.iret (v := x2) hx hb hr (fun t ht hW => ⟨⟨x2, (), rfl, ho, hrE ht hH⟩, hS.F ht⟩) hS.2.2 dX7_byEnd_32
  have hl : lv_has ls 3 [(0, .ref a), (1, .int p0)] := hl
  refine lv_iload_n hx hb dX7_byEnd_0 rfl (lv_at hl 1 rfl) ?_
  refine lv_bipush (v := 6) hx hb dX7_byEnd_1 (by decide) ?_
  obtain ⟨v7, h8, hf⟩ := gbind hf
  refine g_Si (As := [.int p0, .int 6]) (rest := []) ⟨hx, hb, hml, hown, hts⟩ (c7_inRange l w K g S p0 6 v7 h8) (gcwS hts i7_inRange wd_118 rfl rfl ⟨Nat.le_of_ble_eq_true rfl, Nat.le_of_ble_eq_true rfl⟩) hH hK hS hl.1 rfl rfl (Nat.le_of_ble_eq_true rfl) dX7_byEnd_3 ⟨Nat.le_refl _, Nat.le_refl _⟩ (fun H locs hH hS => ?_)
  have hg := gif hf
  refine lv_if_ne (tgt := 11) hx hb dX7_byEnd_6 (by decide) (fun c9 => ?_) (fun c9 => ?_)
  · have hf := hg.2 c9
    refine lv_iconst (v := 0) hx hb dX7_byEnd_11 (by decide) ?_
    refine lv_istore_n (lv' := [(2, .int 0), (0, .ref a), (1, .int p0)]) hx hb dX7_byEnd_12 rfl hl (by decide) rfl (fun ls hl => ?_)
    exact B13 _ _ _ _ _ hH hS (lv_sub hl [1, 2, 0] rfl) hf
  · have hf := hg.1 c9
    refine lv_iconst (v := (-1)) hx hb dX7_byEnd_9 (by decide) ?_
    have ho := Option.some.inj hf
    exact W.iret (v := (-1)) hx hb hr (fun t ht hW => ⟨⟨(-1), (), rfl, ho, hrE ht hH⟩, hS.F ht⟩) hS.2.2 dX7_byEnd_10
set_option maxRecDepth 100000 in
set_option maxHeartbeats 8000000 in
theorem c7_card (l : Launch) (w : GW) (K : GK) (g : GM) (S : GS) (a : Nat) (p0 : Int32) (out : GK × GM × Int32) (hf : f7_card K g a p0 = some out) (hk0 : gkd K a = 8) : Met l yX7_card (wA yX7_card cX7_card 3 (some .int)) ({ frames := 5, cells := 6, slots := 409, locals := 144 } : Room) (PRE w K g S [.ref a, .int p0]) (QI w out.1 out.2.1 S out.2.2) 6 409 (FR w) := by
  unfold f7_card at hf
  refine Met.ofW (cc := cX7_card) (maxL := 3) (ret := (some .int)) (by decide) rfl ?_
  intro p e s m args below meth c s₁ B hml hv
  obtain ⟨rfl, hH, hK⟩ := hv
  have hx := B.exec
  have hb := B.bytes
  have hr := B.returns
  have hts : ∀ q ∈ gALL, q.before _ s = true := fun q h => atoms_spec (ws := (wA yX7_card cX7_card 3 (some .int))) B.pre q (List.mem_cons_of_mem _ h)
  have hown : s.vm.findClass RX7 = some m.cls := findClass_of_methodNamed B.named
  have hlocks := B.notSynchronized
  have hS : va_S (FR w) s.heap s.heap [] := va_S.rf
  show W p l e ({ frames := 5, cells := 6, slots := 409, locals := 144 } : Room) s m _ below meth c s.heap [] 0 0 (MQ below (QI w out.1 out.2.1 S out.2.2) _ s 6 409 (FR w)) _
  have hl := lv_entry ([.ref a, .int p0]) (n := 3) (Nat.le_of_ble_eq_true rfl)
  rw [lg_entry_eq]
  generalize (lg_sl ([.ref a, .int p0]) ++ List.replicate (3 - (lg_sl ([.ref a, .int p0])).length) Slot.unset).toArray = ls at hl ⊢
  clear B
  generalize ([.ref a, .int p0] : List Value).toArray = args at hts ⊢
  have hl : lv_has ls 3 [(0, .ref a), (1, .int p0)] := hl
  refine lv_iload_n hx hb dX7_card_0 rfl (lv_at hl 1 rfl) ?_
  refine lv_bipush (v := 10) hx hb dX7_card_1 (by decide) ?_
  obtain ⟨v1, h2, hf⟩ := gbind hf
  refine g_Si (As := [.int p0, .int 10]) (rest := []) ⟨hx, hb, hml, hown, hts⟩ (c7_inRange l w K g S p0 10 v1 h2) (gcwS hts i7_inRange wd_118 rfl rfl ⟨Nat.le_of_ble_eq_true rfl, Nat.le_of_ble_eq_true rfl⟩) hH hK hS hl.1 rfl rfl (Nat.le_of_ble_eq_true rfl) dX7_card_3 ⟨Nat.le_of_ble_eq_true rfl, Nat.le_of_ble_eq_true rfl⟩ (fun H locs hH hS => ?_)
  have hg := gif hf
  refine lv_if_ne (tgt := 11) hx hb dX7_card_6 (by decide) (fun c3 => ?_) (fun c3 => ?_)
  · have hf := hg.2 c3
    refine lv_aload_n hx hb dX7_card_11 rfl (lv_at hl 0 rfl) ?_
    have k4 : gkd K (a + 3) = 7 := congrArg Prod.fst (hH.sub hk0 1 (t := (3, 7, 0)) rfl)
    refine e_7_1 hx hb hts hown hK hH hk0 (hts _ wd_20) dX7_card_12 ?_
    refine lv_aload_n hx hb dX7_card_15 rfl (lv_at hl 0 rfl) ?_
    have k5 : gkd K (a + 1) = 6 := congrArg Prod.fst (hH.sub hk0 0 (t := (1, 6, 0)) rfl)
    refine e_7_0 hx hb hts hown hK hH hk0 (hts _ wd_16) dX7_card_16 ?_
    obtain ⟨r6, h7, hf⟩ := gbind hf
    refine g_Vi (As := [.ref (a + 1)]) (rest := []) ⟨hx, hb, hml, hown, hts⟩ (c6_faultOf l w K g S (a + 3) (a + 1) r6 h7 k4) (gcwV hts i6_faultOf wd_181 rfl rfl ⟨Nat.le_of_ble_eq_true rfl, Nat.le_of_ble_eq_true rfl⟩) (gRecv.of hK rfl (hH.o7 k4)) hH hK hS hl.1 rfl rfl (Nat.le_of_ble_eq_true rfl) dX7_card_19 ⟨Nat.le_of_ble_eq_true rfl, Nat.le_of_ble_eq_true rfl⟩ (fun H locs hH hS => ?_)
    refine lv_bipush (v := (-6)) hx hb dX7_card_22 (by decide) ?_
    have hg := gif hf
    refine lv_icmp_eq (tgt := 30) hx hb dX7_card_24 (by decide) (fun c8 => ?_) (fun c8 => ?_)
    · have hf := hg.1 c8
      refine lv_aload_n hx hb dX7_card_30 rfl (lv_at hl 0 rfl) ?_
      have k9 : gkd K (a + 42) = 4 := congrArg Prod.fst (hH.sub hk0 4 (t := (42, 4, 0)) rfl)
      refine e_7_4 hx hb hts hown hK hH hk0 (hts _ wd_29) dX7_card_31 ?_
      refine lv_aload_n hx hb dX7_card_34 rfl (lv_at hl 0 rfl) ?_
      have k10 : gkd K (a + 10) = 5 := congrArg Prod.fst (hH.sub hk0 2 (t := (10, 5, 0)) rfl)
      refine e_7_2 hx hb hts hown hK hH hk0 (hts _ wd_24) dX7_card_35 ?_
      obtain ⟨g11, h12, hf⟩ := gbind hf
      refine g_Vv (As := [.ref (a + 10)]) (rest := []) ⟨hx, hb, hml, hown, hts⟩ (c3_keep l w K r6.1 S (a + 42) (a + 10) g11 h12 k9) (gcwV hts i3_keep wd_121 rfl rfl ⟨Nat.le_of_ble_eq_true rfl, Nat.le_of_ble_eq_true rfl⟩) (gRecv.of hK rfl (hH.o4 k9)) hH hK hS hl.1 rfl rfl (Nat.le_of_ble_eq_true rfl) dX7_card_38 ⟨Nat.le_of_ble_eq_true rfl, Nat.le_of_ble_eq_true rfl⟩ (fun H locs hH hS => ?_)
      refine lv_aload_n hx hb dX7_card_41 rfl (lv_at hl 0 rfl) ?_
      refine e_7_1 hx hb hts hown hK hH hk0 (hts _ wd_20) dX7_card_42 ?_
      obtain ⟨r13, h14, hf⟩ := gbind hf
      refine g_Va (As := []) (rest := []) ⟨hx, hb, hml, hown, hts⟩ (c6_readText l w K g11 S (a + 3) r13 h14 k4) (gcwV hts i6_readText wd_229 rfl rfl ⟨Nat.le_of_ble_eq_true rfl, Nat.le_of_ble_eq_true rfl⟩) (gRecv.of hK rfl (hH.o7 k4)) hH hK hS hl.1 rfl rfl (Nat.le_of_ble_eq_true rfl) dX7_card_45 ⟨Nat.le_of_ble_eq_true rfl, Nat.le_of_ble_eq_true rfl⟩ (fun H locs hH hS => ?_)
      refine lv_astore_n (lv' := [(2, .ref K.2), (0, .ref a), (1, .int p0)]) hx hb dX7_card_48 rfl hl (by decide) rfl (fun ls hl => ?_)
      refine lv_aload_n hx hb dX7_card_49 rfl (lv_at hl 1 rfl) ?_
      obtain ⟨k15, hf⟩ := gd_some hf
      have k15 := gk_obj k15
      have k16 : gkd r13.1 (a + 10) = 5 := congrArg Prod.fst (hH.sub k15 2 (t := (10, 5, 0)) rfl)
      refine e_7_2 hx hb hts hown hK hH k15 (hts _ wd_24) dX7_card_50 ?_
      have k17 : r13.1.1 (a + 11) = (13, 10) := hH.sub k16 0 (t := (1, 13, 10)) rfl
      refine e_4_0 hx hb hts hown hK hH k16 (hts _ wd_178) dX7_card_53 ?_
      refine lv_iload_n hx hb dX7_card_56 rfl (lv_at hl 2 rfl) ?_
      refine lv_aload_n hx hb dX7_card_57 rfl (lv_at hl 0 rfl) ?_
      obtain ⟨k19, hf⟩ := gd_some hf
      have k19 := gk_obj k19
      obtain ⟨h20, hf⟩ := gd_some hf
      refine g_tast hx hb hK hH hS k17 k19 h20 dX7_card_58 (fun H locs hH hS => ?_)
      obtain ⟨g21, eg21⟩ : ∃ z : GM, z = gsR r13.2 (a + 11) p0.toNatClampNeg (some K.2) := ⟨_, rfl⟩
      have hf := gl_at hf eg21
      replace hH : HR w r13.1 g21 S H := by rw [eg21]; exact hH
      refine lv_aload_n hx hb dX7_card_59 rfl (lv_at hl 1 rfl) ?_
      have k22 : gkd r13.1 (a + 1) = 6 := congrArg Prod.fst (hH.sub k15 0 (t := (1, 6, 0)) rfl)
      refine e_7_0 hx hb hts hown hK hH k15 (hts _ wd_16) dX7_card_60 ?_
      refine lv_iconst (v := 0) hx hb dX7_card_63 (by decide) ?_
      refine p_5_1 hx hb hts hown hK hH hS k22 (hts _ wd_179) dX7_card_64 (fun H locs hH hS => ?_)
      obtain ⟨g23, eg23⟩ : ∃ z : GM, z = gsI g21 (a + 1) 1 0 := ⟨_, rfl⟩
      have hf := gl_at hf eg23
      replace hH : HR w r13.1 g23 S H := by rw [eg23]; exact hH
      refine lv_aload_n hx hb dX7_card_67 rfl (lv_at hl 0 rfl) ?_
      refine e_1_1 hx hb hts hown hK hH k19 (hts _ wd_180) dX7_card_68 ?_
      refine W.widen (k := 6) (n := 409) (Nat.le_of_ble_eq_true rfl) (Nat.le_of_ble_eq_true rfl) ?_
      have ho := Option.some.inj hf
      exact W.iret (v := (gI g23 K.2 1)) hx hb hr (fun t ht hW => ⟨⟨(gI g23 K.2 1), (), rfl, congrArg (fun q => q.2.2) ho, hrA ht ho hH⟩, hS.F ht⟩) hS.2.2 dX7_card_71
    · have hf := hg.2 c8
      refine lv_bipush (v := (-3)) hx hb dX7_card_27 (by decide) ?_
      refine W.widen (k := 6) (n := 409) (Nat.le_of_ble_eq_true rfl) (Nat.le_of_ble_eq_true rfl) ?_
      have ho := Option.some.inj hf
      exact W.iret (v := (-3)) hx hb hr (fun t ht hW => ⟨⟨(-3), (), rfl, congrArg (fun q => q.2.2) ho, hrA ht ho hH⟩, hS.F ht⟩) hS.2.2 dX7_card_29
  · have hf := hg.1 c3
    refine lv_iconst (v := (-1)) hx hb dX7_card_9 (by decide) ?_
    refine W.widen (k := 6) (n := 409) (Nat.le_of_ble_eq_true rfl) (Nat.le_of_ble_eq_true rfl) ?_
    have ho := Option.some.inj hf
    exact W.iret (v := (-1)) hx hb hr (fun t ht hW => ⟨⟨(-1), (), rfl, congrArg (fun q => q.2.2) ho, hrA ht ho hH⟩, hS.F ht⟩) hS.2.2 dX7_card_10
set_option maxRecDepth 100000 in
set_option maxHeartbeats 8000000 in
theorem c7_sum (l : Launch) (w : GW) (K : GK) (g : GM) (S : GS) (p0 : Nat) (out : Int32) (hf : f7_sum K g p0 = some out) : Met l yX7_sum (wA yX7_sum cX7_sum 6 (some .int)) ({ frames := 0, cells := 0, slots := 0, locals := 0 } : Room) (PRE w K g S [.ref p0]) (QI w K g S out) 0 0 (FR w) := by
  unfold f7_sum at hf
  refine Met.ofW (cc := cX7_sum) (maxL := 6) (ret := (some .int)) (by decide) rfl ?_
  intro p e s m args below meth c s₁ B hml hv
  obtain ⟨rfl, hH, hK⟩ := hv
  have hx := B.exec
  have hb := B.bytes
  have hr := B.returns
  have hts : ∀ q ∈ gALL, q.before _ s = true := fun q h => atoms_spec (ws := (wA yX7_sum cX7_sum 6 (some .int))) B.pre q (List.mem_cons_of_mem _ h)
  have hown : s.vm.findClass RX7 = some m.cls := findClass_of_methodNamed B.named
  have hlocks := B.notSynchronized
  have hS : va_S (FR w) s.heap s.heap [] := va_S.rf
  show W p l e ({ frames := 0, cells := 0, slots := 0, locals := 0 } : Room) s m _ below meth c s.heap [] 0 0 (MQ below (QI w K g S out) _ s 0 0 (FR w)) _
  have hl := lv_entry ([.ref p0]) (n := 6) (Nat.le_of_ble_eq_true rfl)
  rw [lg_entry_eq]
  generalize (lg_sl ([.ref p0]) ++ List.replicate (6 - (lg_sl ([.ref p0])).length) Slot.unset).toArray = ls at hl ⊢
  clear B
  generalize ([.ref p0] : List Value).toArray = args at hts ⊢
  have B10 : ∀ n : Nat, ∀ (x1 : Int32) (x2 : Nat) (x3 : Int32) (x4 : Int32) (H : Heap) (locs : List Loc) (ls : Array Slot), HR w K g S H → va_S (FR w) s.heap H locs → lv_has ls 6 [(1, .int x1), (2, .ref x2), (3, .int x3), (4, .int x4)] → f7_sum_10 K g p0 n x1 x2 x3 x4 = some out → W p l e ({ frames := 0, cells := 0, slots := 0, locals := 0 } : Room) s m args below meth c H locs 0 0 (MQ below (QI w K g S out) args s 0 0 (FR w)) (F0 m 10 ls []) := by
    intro n
    induction n with
    | zero =>
      intro x1 x2 x3 x4 H locs ls hH hS hl hf
      cases hf
    | succ n ih =>
      intro x1 x2 x3 x4 H locs ls hH hS hl hf
      rw [f7_sum_10] at hf
      refine lv_iload hx hb dX7_sum_10 (lv_at hl 3 rfl) ?_
      refine lv_iload_n hx hb dX7_sum_12 rfl (lv_at hl 2 rfl) ?_
      have hg := gif hf
      refine lv_icmp_ge (tgt := 33) hx hb dX7_sum_13 (by decide) (fun c1 => ?_) (fun c1 => ?_)
      · have hf := hg.1 c1
        refine lv_iload_n hx hb dX7_sum_33 rfl (lv_at hl 0 rfl) ?_
        have ho := Option.some.inj hf
        exact W.iret (v := x1) hx hb hr (fun t ht hW => ⟨⟨x1, (), rfl, ho, hrE ht hH⟩, hS.F ht⟩) hS.2.2 dX7_sum_34
      · have hf := hg.2 c1
        refine lv_aload_n hx hb dX7_sum_16 rfl (lv_at hl 1 rfl) ?_
        refine lv_iload hx hb dX7_sum_17 (lv_at hl 3 rfl) ?_
        obtain ⟨k3, hf⟩ := gd_some hf
        have k3 := gk_arr k3
        obtain ⟨h4, hf⟩ := gd_some hf
        refine g_iald hx hb hK hH k3 h4 dX7_sum_19 ?_
        refine lv_topi (fun v5 ev5 => ?_)
        have hf := gl_at hf ev5
        refine lv_istore (lv' := [(5, .int v5), (1, .int x1), (2, .ref x2), (3, .int x3), (4, .int x4)]) hx hb dX7_sum_20 hl (by decide) rfl (fun ls hl => ?_)
        refine lv_iload_n hx hb dX7_sum_22 rfl (lv_at hl 1 rfl) ?_
        refine lv_iload hx hb dX7_sum_23 (lv_at hl 0 rfl) ?_
        refine lv_iadd hx hb dX7_sum_25 ?_
        refine lv_topi (fun v6 ev6 => ?_)
        have hf := gl_at hf ev6
        refine lv_istore_n (lv' := [(1, .int v6), (5, .int v5), (2, .ref x2), (3, .int x3), (4, .int x4)]) hx hb dX7_sum_26 rfl hl (by decide) rfl (fun ls hl => ?_)
        obtain ⟨v7, ev7⟩ : ∃ z : Int32, z = x4 + 1 := ⟨_, rfl⟩
        have hf := gl_at hf ev7
        refine lv_iinc (v := v7) (lv' := [(4, .int v7), (1, .int v6), (5, .int v5), (2, .ref x2), (3, .int x3)]) hx hb dX7_sum_27 hl (k := 4) rfl (by rw [ev7]; rfl) (by decide) rfl (fun ls hl => ?_)
        refine lv_goto (tgt := 10) hx hb dX7_sum_30 (by decide) ?_
        exact ih _ _ _ _ _ _ _ hH hS (lv_sub hl [1, 3, 4, 0] rfl) hf
  have hl : lv_has ls 6 [(0, .ref p0)] := hl
  refine lv_iconst (v := 0) hx hb dX7_sum_0 (by decide) ?_
  refine lv_istore_n (lv' := [(1, .int 0), (0, .ref p0)]) hx hb dX7_sum_1 rfl hl (by decide) rfl (fun ls hl => ?_)
  refine lv_aload_n hx hb dX7_sum_2 rfl (lv_at hl 1 rfl) ?_
  refine lv_astore_n (lv' := [(2, .ref p0), (1, .int 0), (0, .ref p0)]) hx hb dX7_sum_3 rfl hl (by decide) rfl (fun ls hl => ?_)
  refine lv_aload_n hx hb dX7_sum_4 rfl (lv_at hl 0 rfl) ?_
  obtain ⟨k8, hf⟩ := gd_some hf
  have k8 := gk_arr k8
  refine g_alen hx hb hK hH k8 (Or.inl rfl) dX7_sum_5 ?_
  refine lv_topi (fun v9 ev9 => ?_)
  have hf := gl_at hf ev9
  refine lv_istore_n (lv' := [(3, .int v9), (2, .ref p0), (1, .int 0), (0, .ref p0)]) hx hb dX7_sum_6 rfl hl (by decide) rfl (fun ls hl => ?_)
  refine lv_iconst (v := 0) hx hb dX7_sum_7 (by decide) ?_
  refine lv_istore (lv' := [(4, .int 0), (3, .int v9), (2, .ref p0), (1, .int 0), (0, .ref p0)]) hx hb dX7_sum_8 hl (by decide) rfl (fun ls hl => ?_)
  exact B10 _ _ _ _ _ _ _ _ hH hS (lv_sub hl [3, 2, 1, 0] rfl) hf
set_option maxRecDepth 100000 in
set_option maxHeartbeats 8000000 in
theorem c7_count (l : Launch) (w : GW) (K : GK) (g : GM) (S : GS) (a : Nat) (p0 : Int32) (out : Int32) (hf : f7_count K g a p0 = some out) (hk0 : gkd K a = 8) : Met l yX7_count (wA yX7_count cX7_count 2 (some .int)) ({ frames := 1, cells := 0, slots := 0, locals := 25 } : Room) (PRE w K g S [.ref a, .int p0]) (QI w K g S out) 0 0 (FR w) := by
  unfold f7_count at hf
  refine Met.ofW (cc := cX7_count) (maxL := 2) (ret := (some .int)) (by decide) rfl ?_
  intro p e s m args below meth c s₁ B hml hv
  obtain ⟨rfl, hH, hK⟩ := hv
  have hx := B.exec
  have hb := B.bytes
  have hr := B.returns
  have hts : ∀ q ∈ gALL, q.before _ s = true := fun q h => atoms_spec (ws := (wA yX7_count cX7_count 2 (some .int))) B.pre q (List.mem_cons_of_mem _ h)
  have hown : s.vm.findClass RX7 = some m.cls := findClass_of_methodNamed B.named
  have hlocks := B.notSynchronized
  have hS : va_S (FR w) s.heap s.heap [] := va_S.rf
  show W p l e ({ frames := 1, cells := 0, slots := 0, locals := 25 } : Room) s m _ below meth c s.heap [] 0 0 (MQ below (QI w K g S out) _ s 0 0 (FR w)) _
  have hl := lv_entry ([.ref a, .int p0]) (n := 2) (Nat.le_of_ble_eq_true rfl)
  rw [lg_entry_eq]
  generalize (lg_sl ([.ref a, .int p0]) ++ List.replicate (2 - (lg_sl ([.ref a, .int p0])).length) Slot.unset).toArray = ls at hl ⊢
  clear B
  generalize ([.ref a, .int p0] : List Value).toArray = args at hts ⊢
  have hl : lv_has ls 2 [(0, .ref a), (1, .int p0)] := hl
  refine lv_iload_n hx hb dX7_count_0 rfl (lv_at hl 1 rfl) ?_
  have hg := gif hf
  by_cases c1 : p0 = 0
  · have hf := hg.1 c1
    refine lv_tableIn (off := 71) (tgt := 72) hx hb dX7_count_1 (by rw [c1]; decide) (by rw [c1]; decide) (by rw [c1]; decide +kernel) (by decide) ?_
    refine lv_aload_n hx hb dX7_count_72 rfl (lv_at hl 0 rfl) ?_
    have k2 : gkd K (a + 10) = 5 := congrArg Prod.fst (hH.sub hk0 2 (t := (10, 5, 0)) rfl)
    refine e_7_2 hx hb hts hown hK hH hk0 (hts _ wd_24) dX7_count_73 ?_
    have k3 : K.1 (a + 11) = (13, 10) := hH.sub k2 0 (t := (1, 13, 10)) rfl
    refine e_4_0 hx hb hts hown hK hH k2 (hts _ wd_178) dX7_count_76 ?_
    obtain ⟨v4, h5, hf⟩ := gbind hf
    refine g_Si (As := [.ref (a + 11)]) (rest := []) ⟨hx, hb, hml, hown, hts⟩ (c2_written l w K g S (a + 11) v4 h5) (gcwS hts i2_written wd_707 rfl rfl ⟨Nat.le_of_ble_eq_true rfl, Nat.le_of_ble_eq_true rfl⟩) hH hK hS hl.1 rfl rfl (Nat.le_of_ble_eq_true rfl) dX7_count_79 ⟨Nat.le_refl _, Nat.le_refl _⟩ (fun H locs hH hS => ?_)
    have ho := Option.some.inj hf
    exact W.iret (v := v4) hx hb hr (fun t ht hW => ⟨⟨v4, (), rfl, ho, hrE ht hH⟩, hS.F ht⟩) hS.2.2 dX7_count_82
  have hf := hg.2 c1
  have hg := gif hf
  by_cases c6 : p0 = 1
  · have hf := hg.1 c6
    refine lv_tableIn (off := 82) (tgt := 83) hx hb dX7_count_1 (by rw [c6]; decide) (by rw [c6]; decide) (by rw [c6]; decide +kernel) (by decide) ?_
    refine lv_aload_n hx hb dX7_count_83 rfl (lv_at hl 0 rfl) ?_
    have k7 : gkd K (a + 10) = 5 := congrArg Prod.fst (hH.sub hk0 2 (t := (10, 5, 0)) rfl)
    refine e_7_2 hx hb hts hown hK hH hk0 (hts _ wd_24) dX7_count_84 ?_
    have k8 : gkd K (a + 19) = 1 := congrArg Prod.fst (hH.sub k7 8 (t := (9, 1, 0)) rfl)
    refine e_4_8 hx hb hts hown hK hH k7 (hts _ wd_533) dX7_count_87 ?_
    refine e_0_6 hx hb hts hown hK hH k8 (hts _ wd_534) dX7_count_90 ?_
    have ho := Option.some.inj hf
    exact W.iret (v := (gI g (a + 19) 6)) hx hb hr (fun t ht hW => ⟨⟨(gI g (a + 19) 6), (), rfl, ho, hrE ht hH⟩, hS.F ht⟩) hS.2.2 dX7_count_93
  have hf := hg.2 c6
  have hg := gif hf
  by_cases c9 : p0 = 2
  · have hf := hg.1 c9
    refine lv_tableIn (off := 93) (tgt := 94) hx hb dX7_count_1 (by rw [c9]; decide) (by rw [c9]; decide) (by rw [c9]; decide +kernel) (by decide) ?_
    refine lv_aload_n hx hb dX7_count_94 rfl (lv_at hl 0 rfl) ?_
    have k10 : gkd K (a + 10) = 5 := congrArg Prod.fst (hH.sub hk0 2 (t := (10, 5, 0)) rfl)
    refine e_7_2 hx hb hts hown hK hH hk0 (hts _ wd_24) dX7_count_95 ?_
    refine e_4_9 hx hb hts hown hK hH k10 (hts _ wd_560) dX7_count_98 ?_
    have ho := Option.some.inj hf
    exact W.iret (v := (gI g (a + 10) 9)) hx hb hr (fun t ht hW => ⟨⟨(gI g (a + 10) 9), (), rfl, ho, hrE ht hH⟩, hS.F ht⟩) hS.2.2 dX7_count_101
  have hf := hg.2 c9
  have hg := gif hf
  by_cases c11 : p0 = 3
  · have hf := hg.1 c11
    refine lv_tableIn (off := 101) (tgt := 102) hx hb dX7_count_1 (by rw [c11]; decide) (by rw [c11]; decide) (by rw [c11]; decide +kernel) (by decide) ?_
    refine lv_aload_n hx hb dX7_count_102 rfl (lv_at hl 0 rfl) ?_
    have k12 : gkd K (a + 10) = 5 := congrArg Prod.fst (hH.sub hk0 2 (t := (10, 5, 0)) rfl)
    refine e_7_2 hx hb hts hown hK hH hk0 (hts _ wd_24) dX7_count_103 ?_
    have k13 : K.1 (a + 17) = (10, 6) := hH.sub k12 6 (t := (7, 10, 6)) rfl
    refine e_4_6 hx hb hts hown hK hH k12 (hts _ wd_611) dX7_count_106 ?_
    obtain ⟨v14, h15, hf⟩ := gbind hf
    refine g_Si (As := [.ref (a + 17)]) (rest := []) ⟨hx, hb, hml, hown, hts⟩ (c7_sum l w K g S (a + 17) v14 h15) (gcwS hts i7_sum wd_710 rfl rfl ⟨Nat.le_of_ble_eq_true rfl, Nat.le_of_ble_eq_true rfl⟩) hH hK hS hl.1 rfl rfl (Nat.le_of_ble_eq_true rfl) dX7_count_109 ⟨Nat.le_refl _, Nat.le_refl _⟩ (fun H locs hH hS => ?_)
    have ho := Option.some.inj hf
    exact W.iret (v := v14) hx hb hr (fun t ht hW => ⟨⟨v14, (), rfl, ho, hrE ht hH⟩, hS.F ht⟩) hS.2.2 dX7_count_112
  have hf := hg.2 c11
  have hg := gif hf
  by_cases c16 : p0 = 4
  · have hf := hg.1 c16
    refine lv_tableIn (off := 112) (tgt := 113) hx hb dX7_count_1 (by rw [c16]; decide) (by rw [c16]; decide) (by rw [c16]; decide +kernel) (by decide) ?_
    refine lv_aload_n hx hb dX7_count_113 rfl (lv_at hl 0 rfl) ?_
    have k17 : gkd K (a + 10) = 5 := congrArg Prod.fst (hH.sub hk0 2 (t := (10, 5, 0)) rfl)
    refine e_7_2 hx hb hts hown hK hH hk0 (hts _ wd_24) dX7_count_114 ?_
    refine e_4_10 hx hb hts hown hK hH k17 (hts _ wd_703) dX7_count_117 ?_
    have ho := Option.some.inj hf
    exact W.iret (v := (gI g (a + 10) 10)) hx hb hr (fun t ht hW => ⟨⟨(gI g (a + 10) 10), (), rfl, ho, hrE ht hH⟩, hS.F ht⟩) hS.2.2 dX7_count_120
  have hf := hg.2 c16
  have hg := gif hf
  by_cases c18 : p0 = 5
  · have hf := hg.1 c18
    refine lv_tableIn (off := 120) (tgt := 121) hx hb dX7_count_1 (by rw [c18]; decide) (by rw [c18]; decide) (by rw [c18]; decide +kernel) (by decide) ?_
    refine lv_aload_n hx hb dX7_count_121 rfl (lv_at hl 0 rfl) ?_
    have k19 : gkd K (a + 10) = 5 := congrArg Prod.fst (hH.sub hk0 2 (t := (10, 5, 0)) rfl)
    refine e_7_2 hx hb hts hown hK hH hk0 (hts _ wd_24) dX7_count_122 ?_
    refine e_4_11 hx hb hts hown hK hH k19 (hts _ wd_704) dX7_count_125 ?_
    have ho := Option.some.inj hf
    exact W.iret (v := (gI g (a + 10) 11)) hx hb hr (fun t ht hW => ⟨⟨(gI g (a + 10) 11), (), rfl, ho, hrE ht hH⟩, hS.F ht⟩) hS.2.2 dX7_count_128
  have hf := hg.2 c18
  have hg := gif hf
  by_cases c20 : p0 = 6
  · have hf := hg.1 c20
    refine lv_tableIn (off := 128) (tgt := 129) hx hb dX7_count_1 (by rw [c20]; decide) (by rw [c20]; decide) (by rw [c20]; decide +kernel) (by decide) ?_
    refine lv_aload_n hx hb dX7_count_129 rfl (lv_at hl 0 rfl) ?_
    have k21 : gkd K (a + 10) = 5 := congrArg Prod.fst (hH.sub hk0 2 (t := (10, 5, 0)) rfl)
    refine e_7_2 hx hb hts hown hK hH hk0 (hts _ wd_24) dX7_count_130 ?_
    refine e_4_12 hx hb hts hown hK hH k21 (hts _ wd_705) dX7_count_133 ?_
    have ho := Option.some.inj hf
    exact W.iret (v := (gI g (a + 10) 12)) hx hb hr (fun t ht hW => ⟨⟨(gI g (a + 10) 12), (), rfl, ho, hrE ht hH⟩, hS.F ht⟩) hS.2.2 dX7_count_136
  have hf := hg.2 c20
  have hg := gif hf
  by_cases c22 : p0 = 7
  · have hf := hg.1 c22
    refine lv_tableIn (off := 136) (tgt := 137) hx hb dX7_count_1 (by rw [c22]; decide) (by rw [c22]; decide) (by rw [c22]; decide +kernel) (by decide) ?_
    refine lv_aload_n hx hb dX7_count_137 rfl (lv_at hl 0 rfl) ?_
    have k23 : gkd K (a + 10) = 5 := congrArg Prod.fst (hH.sub hk0 2 (t := (10, 5, 0)) rfl)
    refine e_7_2 hx hb hts hown hK hH hk0 (hts _ wd_24) dX7_count_138 ?_
    have k24 : K.1 (a + 16) = (10, 6) := hH.sub k23 5 (t := (6, 10, 6)) rfl
    refine e_4_5 hx hb hts hown hK hH k23 (hts _ wd_610) dX7_count_141 ?_
    obtain ⟨v25, h26, hf⟩ := gbind hf
    refine g_Si (As := [.ref (a + 16)]) (rest := []) ⟨hx, hb, hml, hown, hts⟩ (c7_sum l w K g S (a + 16) v25 h26) (gcwS hts i7_sum wd_710 rfl rfl ⟨Nat.le_of_ble_eq_true rfl, Nat.le_of_ble_eq_true rfl⟩) hH hK hS hl.1 rfl rfl (Nat.le_of_ble_eq_true rfl) dX7_count_144 ⟨Nat.le_refl _, Nat.le_refl _⟩ (fun H locs hH hS => ?_)
    have ho := Option.some.inj hf
    exact W.iret (v := v25) hx hb hr (fun t ht hW => ⟨⟨v25, (), rfl, ho, hrE ht hH⟩, hS.F ht⟩) hS.2.2 dX7_count_147
  have hf := hg.2 c22
  have hg := gif hf
  by_cases c27 : p0 = 8
  · have hf := hg.1 c27
    refine lv_tableIn (off := 147) (tgt := 148) hx hb dX7_count_1 (by rw [c27]; decide) (by rw [c27]; decide) (by rw [c27]; decide +kernel) (by decide) ?_
    refine lv_aload_n hx hb dX7_count_148 rfl (lv_at hl 0 rfl) ?_
    have k28 : gkd K (a + 10) = 5 := congrArg Prod.fst (hH.sub hk0 2 (t := (10, 5, 0)) rfl)
    refine e_7_2 hx hb hts hown hK hH hk0 (hts _ wd_24) dX7_count_149 ?_
    have k29 : K.1 (a + 14) = (10, 6) := hH.sub k28 3 (t := (4, 10, 6)) rfl
    refine e_4_3 hx hb hts hown hK hH k28 (hts _ wd_608) dX7_count_152 ?_
    obtain ⟨v30, h31, hf⟩ := gbind hf
    refine g_Si (As := [.ref (a + 14)]) (rest := []) ⟨hx, hb, hml, hown, hts⟩ (c7_sum l w K g S (a + 14) v30 h31) (gcwS hts i7_sum wd_710 rfl rfl ⟨Nat.le_of_ble_eq_true rfl, Nat.le_of_ble_eq_true rfl⟩) hH hK hS hl.1 rfl rfl (Nat.le_of_ble_eq_true rfl) dX7_count_155 ⟨Nat.le_refl _, Nat.le_refl _⟩ (fun H locs hH hS => ?_)
    have ho := Option.some.inj hf
    exact W.iret (v := v30) hx hb hr (fun t ht hW => ⟨⟨v30, (), rfl, ho, hrE ht hH⟩, hS.F ht⟩) hS.2.2 dX7_count_158
  have hf := hg.2 c27
  have hg := gif hf
  by_cases c32 : p0 = 9
  · have hf := hg.1 c32
    refine lv_tableIn (off := 158) (tgt := 159) hx hb dX7_count_1 (by rw [c32]; decide) (by rw [c32]; decide) (by rw [c32]; decide +kernel) (by decide) ?_
    refine lv_aload_n hx hb dX7_count_159 rfl (lv_at hl 0 rfl) ?_
    have k33 : gkd K (a + 10) = 5 := congrArg Prod.fst (hH.sub hk0 2 (t := (10, 5, 0)) rfl)
    refine e_7_2 hx hb hts hown hK hH hk0 (hts _ wd_24) dX7_count_160 ?_
    have k34 : K.1 (a + 13) = (10, 3) := hH.sub k33 2 (t := (3, 10, 3)) rfl
    refine e_4_2 hx hb hts hown hK hH k33 (hts _ wd_117) dX7_count_163 ?_
    refine lv_iconst (v := 0) hx hb dX7_count_166 (by decide) ?_
    obtain ⟨h36, hf⟩ := gd_some hf
    refine g_iald hx hb hK hH k34 h36 dX7_count_167 ?_
    have ho := Option.some.inj hf
    exact W.iret (v := (gI g (a + 13) (0 : Int32).toNatClampNeg)) hx hb hr (fun t ht hW => ⟨⟨(gI g (a + 13) (0 : Int32).toNatClampNeg), (), rfl, ho, hrE ht hH⟩, hS.F ht⟩) hS.2.2 dX7_count_168
  have hf := hg.2 c32
  have hg := gif hf
  by_cases c37 : p0 = 10
  · have hf := hg.1 c37
    refine lv_tableIn (off := 168) (tgt := 169) hx hb dX7_count_1 (by rw [c37]; decide) (by rw [c37]; decide) (by rw [c37]; decide +kernel) (by decide) ?_
    refine lv_aload_n hx hb dX7_count_169 rfl (lv_at hl 0 rfl) ?_
    have k38 : gkd K (a + 10) = 5 := congrArg Prod.fst (hH.sub hk0 2 (t := (10, 5, 0)) rfl)
    refine e_7_2 hx hb hts hown hK hH hk0 (hts _ wd_24) dX7_count_170 ?_
    have k39 : K.1 (a + 13) = (10, 3) := hH.sub k38 2 (t := (3, 10, 3)) rfl
    refine e_4_2 hx hb hts hown hK hH k38 (hts _ wd_117) dX7_count_173 ?_
    refine lv_iconst (v := 1) hx hb dX7_count_176 (by decide) ?_
    obtain ⟨h41, hf⟩ := gd_some hf
    refine g_iald hx hb hK hH k39 h41 dX7_count_177 ?_
    have ho := Option.some.inj hf
    exact W.iret (v := (gI g (a + 13) (1 : Int32).toNatClampNeg)) hx hb hr (fun t ht hW => ⟨⟨(gI g (a + 13) (1 : Int32).toNatClampNeg), (), rfl, ho, hrE ht hH⟩, hS.F ht⟩) hS.2.2 dX7_count_178
  have hf := hg.2 c37
  have hg := gif hf
  by_cases c42 : p0 = 11
  · have hf := hg.1 c42
    refine lv_tableIn (off := 178) (tgt := 179) hx hb dX7_count_1 (by rw [c42]; decide) (by rw [c42]; decide) (by rw [c42]; decide +kernel) (by decide) ?_
    refine lv_aload_n hx hb dX7_count_179 rfl (lv_at hl 0 rfl) ?_
    have k43 : gkd K (a + 10) = 5 := congrArg Prod.fst (hH.sub hk0 2 (t := (10, 5, 0)) rfl)
    refine e_7_2 hx hb hts hown hK hH hk0 (hts _ wd_24) dX7_count_180 ?_
    have k44 : K.1 (a + 13) = (10, 3) := hH.sub k43 2 (t := (3, 10, 3)) rfl
    refine e_4_2 hx hb hts hown hK hH k43 (hts _ wd_117) dX7_count_183 ?_
    refine lv_iconst (v := 2) hx hb dX7_count_186 (by decide) ?_
    obtain ⟨h46, hf⟩ := gd_some hf
    refine g_iald hx hb hK hH k44 h46 dX7_count_187 ?_
    have ho := Option.some.inj hf
    exact W.iret (v := (gI g (a + 13) (2 : Int32).toNatClampNeg)) hx hb hr (fun t ht hW => ⟨⟨(gI g (a + 13) (2 : Int32).toNatClampNeg), (), rfl, ho, hrE ht hH⟩, hS.F ht⟩) hS.2.2 dX7_count_188
  have hf := hg.2 c42
  have hg := gif hf
  by_cases c47 : p0 = 12
  · have hf := hg.1 c47
    refine lv_tableIn (off := 188) (tgt := 189) hx hb dX7_count_1 (by rw [c47]; decide) (by rw [c47]; decide) (by rw [c47]; decide +kernel) (by decide) ?_
    refine lv_aload_n hx hb dX7_count_189 rfl (lv_at hl 0 rfl) ?_
    have k48 : gkd K (a + 1) = 6 := congrArg Prod.fst (hH.sub hk0 0 (t := (1, 6, 0)) rfl)
    refine e_7_0 hx hb hts hown hK hH hk0 (hts _ wd_16) dX7_count_190 ?_
    refine e_5_1 hx hb hts hown hK hH k48 (hts _ wd_179) dX7_count_193 ?_
    have ho := Option.some.inj hf
    exact W.iret (v := (gI g (a + 1) 1)) hx hb hr (fun t ht hW => ⟨⟨(gI g (a + 1) 1), (), rfl, ho, hrE ht hH⟩, hS.F ht⟩) hS.2.2 dX7_count_196
  have hf := hg.2 c47
  have hg := gif hf
  by_cases c49 : p0 = 13
  · have hf := hg.1 c49
    refine lv_tableIn (off := 196) (tgt := 197) hx hb dX7_count_1 (by rw [c49]; decide) (by rw [c49]; decide) (by rw [c49]; decide +kernel) (by decide) ?_
    refine lv_aload_n hx hb dX7_count_197 rfl (lv_at hl 0 rfl) ?_
    have k50 : gkd K (a + 42) = 4 := congrArg Prod.fst (hH.sub hk0 4 (t := (42, 4, 0)) rfl)
    refine e_7_4 hx hb hts hown hK hH hk0 (hts _ wd_29) dX7_count_198 ?_
    refine e_3_1 hx hb hts hown hK hH k50 (hts _ wd_706) dX7_count_201 ?_
    have ho := Option.some.inj hf
    exact W.iret (v := (gI g (a + 42) 1)) hx hb hr (fun t ht hW => ⟨⟨(gI g (a + 42) 1), (), rfl, ho, hrE ht hH⟩, hS.F ht⟩) hS.2.2 dX7_count_204
  have hf := hg.2 c49
  have nc1 : p0.toInt ≠ 0 := g_ne c1 (by decide)
  have nc6 : p0.toInt ≠ 1 := g_ne c6 (by decide)
  have nc9 : p0.toInt ≠ 2 := g_ne c9 (by decide)
  have nc11 : p0.toInt ≠ 3 := g_ne c11 (by decide)
  have nc16 : p0.toInt ≠ 4 := g_ne c16 (by decide)
  have nc18 : p0.toInt ≠ 5 := g_ne c18 (by decide)
  have nc20 : p0.toInt ≠ 6 := g_ne c20 (by decide)
  have nc22 : p0.toInt ≠ 7 := g_ne c22 (by decide)
  have nc27 : p0.toInt ≠ 8 := g_ne c27 (by decide)
  have nc32 : p0.toInt ≠ 9 := g_ne c32 (by decide)
  have nc37 : p0.toInt ≠ 10 := g_ne c37 (by decide)
  have nc42 : p0.toInt ≠ 11 := g_ne c42 (by decide)
  have nc47 : p0.toInt ≠ 12 := g_ne c47 (by decide)
  have nc49 : p0.toInt ≠ 13 := g_ne c49 (by decide)
  refine lv_tableOut (tgt := 205) hx hb dX7_count_1 (by omega) (by decide) ?_
  refine lv_bipush (v := (-2)) hx hb dX7_count_205 (by decide) ?_
  have ho := Option.some.inj hf
  exact W.iret (v := (-2)) hx hb hr (fun t ht hW => ⟨⟨(-2), (), rfl, ho, hrE ht hH⟩, hS.F ht⟩) hS.2.2 dX7_count_207
set_option maxRecDepth 100000 in
set_option maxHeartbeats 8000000 in
theorem c7_cut (l : Launch) (w : GW) (K : GK) (g : GM) (S : GS) (a : Nat) (out : GM × Int32) (hf : f7_cut K g a = some out) (hk0 : gkd K a = 8) : Met l yX7_cut (wA yX7_cut cX7_cut 2 (some .int)) ({ frames := 5, cells := 0, slots := 0, locals := 144 } : Room) (PRE w K g S [.ref a]) (QI w K out.1 S out.2) 0 0 (FR w) := by
  unfold f7_cut at hf
  refine Met.ofW (cc := cX7_cut) (maxL := 2) (ret := (some .int)) (by decide) rfl ?_
  intro p e s m args below meth c s₁ B hml hv
  obtain ⟨rfl, hH, hK⟩ := hv
  have hx := B.exec
  have hb := B.bytes
  have hr := B.returns
  have hts : ∀ q ∈ gALL, q.before _ s = true := fun q h => atoms_spec (ws := (wA yX7_cut cX7_cut 2 (some .int))) B.pre q (List.mem_cons_of_mem _ h)
  have hown : s.vm.findClass RX7 = some m.cls := findClass_of_methodNamed B.named
  have hlocks := B.notSynchronized
  have hS : va_S (FR w) s.heap s.heap [] := va_S.rf
  show W p l e ({ frames := 5, cells := 0, slots := 0, locals := 144 } : Room) s m _ below meth c s.heap [] 0 0 (MQ below (QI w K out.1 S out.2) _ s 0 0 (FR w)) _
  have hl := lv_entry ([.ref a]) (n := 2) (Nat.le_of_ble_eq_true rfl)
  rw [lg_entry_eq]
  generalize (lg_sl ([.ref a]) ++ List.replicate (2 - (lg_sl ([.ref a])).length) Slot.unset).toArray = ls at hl ⊢
  clear B
  generalize ([.ref a] : List Value).toArray = args at hts ⊢
  have hl : lv_has ls 2 [(0, .ref a)] := hl
  refine lv_aload_n hx hb dX7_cut_0 rfl (lv_at hl 0 rfl) ?_
  have k1 : gkd K (a + 42) = 4 := congrArg Prod.fst (hH.sub hk0 4 (t := (42, 4, 0)) rfl)
  refine e_7_4 hx hb hts hown hK hH hk0 (hts _ wd_29) dX7_cut_1 ?_
  refine lv_aload_n hx hb dX7_cut_4 rfl (lv_at hl 0 rfl) ?_
  have k2 : gkd K (a + 10) = 5 := congrArg Prod.fst (hH.sub hk0 2 (t := (10, 5, 0)) rfl)
  refine e_7_2 hx hb hts hown hK hH hk0 (hts _ wd_24) dX7_cut_5 ?_
  obtain ⟨g3, h4, hf⟩ := gbind hf
  refine g_Vv (As := [.ref (a + 10)]) (rest := []) ⟨hx, hb, hml, hown, hts⟩ (c3_keep l w K g S (a + 42) (a + 10) g3 h4 k1) (gcwV hts i3_keep wd_121 rfl rfl ⟨Nat.le_of_ble_eq_true rfl, Nat.le_of_ble_eq_true rfl⟩) (gRecv.of hK rfl (hH.o4 k1)) hH hK hS hl.1 rfl rfl (Nat.le_of_ble_eq_true rfl) dX7_cut_8 ⟨Nat.le_refl _, Nat.le_refl _⟩ (fun H locs hH hS => ?_)
  refine lv_aload_n hx hb dX7_cut_11 rfl (lv_at hl 0 rfl) ?_
  refine e_7_2 hx hb hts hown hK hH hk0 (hts _ wd_24) dX7_cut_12 ?_
  refine e_4_9 hx hb hts hown hK hH k2 (hts _ wd_560) dX7_cut_15 ?_
  refine lv_topi (fun v5 ev5 => ?_)
  have hf := gl_at hf ev5
  refine lv_istore_n (lv' := [(1, .int v5), (0, .ref a)]) hx hb dX7_cut_18 rfl hl (by decide) rfl (fun ls hl => ?_)
  refine lv_aload_n hx hb dX7_cut_19 rfl (lv_at hl 1 rfl) ?_
  refine e_7_2 hx hb hts hown hK hH hk0 (hts _ wd_24) dX7_cut_20 ?_
  refine lv_iconst (v := 0) hx hb dX7_cut_23 (by decide) ?_
  refine p_4_9 hx hb hts hown hK hH hS k2 (hts _ wd_560) dX7_cut_24 (fun H locs hH hS => ?_)
  obtain ⟨g6, eg6⟩ : ∃ z : GM, z = gsI g3 (a + 10) 9 0 := ⟨_, rfl⟩
  have hf := gl_at hf eg6
  replace hH : HR w K g6 S H := by rw [eg6]; exact hH
  refine lv_iload_n hx hb dX7_cut_27 rfl (lv_at hl 0 rfl) ?_
  have ho := Option.some.inj hf
  exact W.iret (v := v5) hx hb hr (fun t ht hW => ⟨⟨v5, (), rfl, congrArg Prod.snd ho, hrP ht ho hH⟩, hS.F ht⟩) hS.2.2 dX7_cut_28
set_option maxRecDepth 100000 in
set_option maxHeartbeats 8000000 in
theorem c7_depth (l : Launch) (w : GW) (K : GK) (g : GM) (S : GS) (a : Nat) (p0 : Int32) (out : GM × Int32) (hf : f7_depth K g a p0 = some out) (hk0 : gkd K a = 8) : Met l yX7_depth (wA yX7_depth cX7_depth 3 (some .int)) ({ frames := 3, cells := 0, slots := 0, locals := 77 } : Room) (PRE w K g S [.ref a, .int p0]) (QI w K out.1 S out.2) 0 0 (FR w) := by
  unfold f7_depth at hf
  refine Met.ofW (cc := cX7_depth) (maxL := 3) (ret := (some .int)) (by decide) rfl ?_
  intro p e s m args below meth c s₁ B hml hv
  obtain ⟨rfl, hH, hK⟩ := hv
  have hx := B.exec
  have hb := B.bytes
  have hr := B.returns
  have hts : ∀ q ∈ gALL, q.before _ s = true := fun q h => atoms_spec (ws := (wA yX7_depth cX7_depth 3 (some .int))) B.pre q (List.mem_cons_of_mem _ h)
  have hown : s.vm.findClass RX7 = some m.cls := findClass_of_methodNamed B.named
  have hlocks := B.notSynchronized
  have hS : va_S (FR w) s.heap s.heap [] := va_S.rf
  show W p l e ({ frames := 3, cells := 0, slots := 0, locals := 77 } : Room) s m _ below meth c s.heap [] 0 0 (MQ below (QI w K out.1 S out.2) _ s 0 0 (FR w)) _
  have hl := lv_entry ([.ref a, .int p0]) (n := 3) (Nat.le_of_ble_eq_true rfl)
  rw [lg_entry_eq]
  generalize (lg_sl ([.ref a, .int p0]) ++ List.replicate (3 - (lg_sl ([.ref a, .int p0])).length) Slot.unset).toArray = ls at hl ⊢
  clear B
  generalize ([.ref a, .int p0] : List Value).toArray = args at hts ⊢
  have hl : lv_has ls 3 [(0, .ref a), (1, .int p0)] := hl
  refine lv_iload_n hx hb dX7_depth_0 rfl (lv_at hl 1 rfl) ?_
  refine lv_bipush (v := 10) hx hb dX7_depth_1 (by decide) ?_
  obtain ⟨v1, h2, hf⟩ := gbind hf
  refine g_Si (As := [.int p0, .int 10]) (rest := []) ⟨hx, hb, hml, hown, hts⟩ (c7_inRange l w K g S p0 10 v1 h2) (gcwS hts i7_inRange wd_118 rfl rfl ⟨Nat.le_of_ble_eq_true rfl, Nat.le_of_ble_eq_true rfl⟩) hH hK hS hl.1 rfl rfl (Nat.le_of_ble_eq_true rfl) dX7_depth_3 ⟨Nat.le_refl _, Nat.le_refl _⟩ (fun H locs hH hS => ?_)
  have hg := gif hf
  refine lv_if_ne (tgt := 11) hx hb dX7_depth_6 (by decide) (fun c3 => ?_) (fun c3 => ?_)
  · have hf := hg.2 c3
    refine lv_aload_n hx hb dX7_depth_11 rfl (lv_at hl 0 rfl) ?_
    have k4 : gkd K (a + 10) = 5 := congrArg Prod.fst (hH.sub hk0 2 (t := (10, 5, 0)) rfl)
    refine e_7_2 hx hb hts hown hK hH hk0 (hts _ wd_24) dX7_depth_12 ?_
    have k5 : K.1 (a + 11) = (13, 10) := hH.sub k4 0 (t := (1, 13, 10)) rfl
    refine e_4_0 hx hb hts hown hK hH k4 (hts _ wd_178) dX7_depth_15 ?_
    refine lv_iload_n hx hb dX7_depth_18 rfl (lv_at hl 1 rfl) ?_
    obtain ⟨v6, h7, hf⟩ := gbind hf
    refine g_Si (As := [.ref (a + 11), .int p0]) (rest := []) ⟨hx, hb, hml, hown, hts⟩ (c2_troubleOf l w K g S (a + 11) p0 v6 h7) (gcwS hts i2_troubleOf wd_729 rfl rfl ⟨Nat.le_of_ble_eq_true rfl, Nat.le_of_ble_eq_true rfl⟩) hH hK hS hl.1 rfl rfl (Nat.le_of_ble_eq_true rfl) dX7_depth_19 ⟨Nat.le_refl _, Nat.le_refl _⟩ (fun H locs hH hS => ?_)
    refine lv_istore_n (lv' := [(2, .int v6), (0, .ref a), (1, .int p0)]) hx hb dX7_depth_22 rfl hl (by decide) rfl (fun ls hl => ?_)
    refine lv_iload_n hx hb dX7_depth_23 rfl (lv_at hl 0 rfl) ?_
    have hg := gif hf
    refine lv_if_eq (tgt := 31) hx hb dX7_depth_24 (by decide) (fun c8 => ?_) (fun c8 => ?_)
    · have hf := hg.1 c8
      refine lv_aload_n hx hb dX7_depth_31 rfl (lv_at hl 1 rfl) ?_
      have k9 : gkd K (a + 141) = 3 := congrArg Prod.fst (hH.sub hk0 6 (t := (141, 3, 0)) rfl)
      refine e_7_6 hx hb hts hown hK hH hk0 (hts _ wd_34) dX7_depth_32 ?_
      refine lv_aload_n hx hb dX7_depth_35 rfl (lv_at hl 1 rfl) ?_
      refine e_7_2 hx hb hts hown hK hH hk0 (hts _ wd_24) dX7_depth_36 ?_
      refine e_4_0 hx hb hts hown hK hH k4 (hts _ wd_178) dX7_depth_39 ?_
      refine lv_iload_n hx hb dX7_depth_42 rfl (lv_at hl 2 rfl) ?_
      obtain ⟨r10, h11, hf⟩ := gbind hf
      refine g_Vi (As := [.ref (a + 11), .int p0]) (rest := []) ⟨hx, hb, hml, hown, hts⟩ (c2_depthOf l w K g S (a + 141) (a + 11) p0 r10 h11 k9) (gcwV hts i2_depthOf wd_814 rfl rfl ⟨Nat.le_of_ble_eq_true rfl, Nat.le_of_ble_eq_true rfl⟩) (gRecv.of hK rfl (hH.o3 k9)) hH hK hS hl.1 rfl rfl (Nat.le_of_ble_eq_true rfl) dX7_depth_43 ⟨Nat.le_refl _, Nat.le_refl _⟩ (fun H locs hH hS => ?_)
      have ho := Option.some.inj hf
      exact W.iret (v := r10.2) hx hb hr (fun t ht hW => ⟨⟨r10.2, (), rfl, congrArg Prod.snd ho, hrP ht ho hH⟩, hS.F ht⟩) hS.2.2 dX7_depth_46
    · have hf := hg.2 c8
      refine lv_iload_n hx hb dX7_depth_27 rfl (lv_at hl 0 rfl) ?_
      refine lv_goto (tgt := 46) hx hb dX7_depth_28 (by decide) ?_
      have ho := Option.some.inj hf
      exact W.iret (v := v6) hx hb hr (fun t ht hW => ⟨⟨v6, (), rfl, congrArg Prod.snd ho, hrP ht ho hH⟩, hS.F ht⟩) hS.2.2 dX7_depth_46
  · have hf := hg.1 c3
    refine lv_iconst (v := (-1)) hx hb dX7_depth_9 (by decide) ?_
    have ho := Option.some.inj hf
    exact W.iret (v := (-1)) hx hb hr (fun t ht hW => ⟨⟨(-1), (), rfl, congrArg Prod.snd ho, hrP ht ho hH⟩, hS.F ht⟩) hS.2.2 dX7_depth_10
set_option maxRecDepth 100000 in
set_option maxHeartbeats 8000000 in
theorem c7_fault (l : Launch) (w : GW) (K : GK) (g : GM) (S : GS) (a : Nat) (out : GM × Int32) (hf : f7_fault K g a = some out) (hk0 : gkd K a = 8) : Met l yX7_fault (wA yX7_fault cX7_fault 1 (some .int)) ({ frames := 4, cells := 0, slots := 0, locals := 97 } : Room) (PRE w K g S [.ref a]) (QI w K out.1 S out.2) 0 0 (FR w) := by
  unfold f7_fault at hf
  refine Met.ofW (cc := cX7_fault) (maxL := 1) (ret := (some .int)) (by decide) rfl ?_
  intro p e s m args below meth c s₁ B hml hv
  obtain ⟨rfl, hH, hK⟩ := hv
  have hx := B.exec
  have hb := B.bytes
  have hr := B.returns
  have hts : ∀ q ∈ gALL, q.before _ s = true := fun q h => atoms_spec (ws := (wA yX7_fault cX7_fault 1 (some .int))) B.pre q (List.mem_cons_of_mem _ h)
  have hown : s.vm.findClass RX7 = some m.cls := findClass_of_methodNamed B.named
  have hlocks := B.notSynchronized
  have hS : va_S (FR w) s.heap s.heap [] := va_S.rf
  show W p l e ({ frames := 4, cells := 0, slots := 0, locals := 97 } : Room) s m _ below meth c s.heap [] 0 0 (MQ below (QI w K out.1 S out.2) _ s 0 0 (FR w)) _
  have hl := lv_entry ([.ref a]) (n := 1) (Nat.le_of_ble_eq_true rfl)
  rw [lg_entry_eq]
  generalize (lg_sl ([.ref a]) ++ List.replicate (1 - (lg_sl ([.ref a])).length) Slot.unset).toArray = ls at hl ⊢
  clear B
  generalize ([.ref a] : List Value).toArray = args at hts ⊢
  have hl : lv_has ls 1 [(0, .ref a)] := hl
  refine lv_aload_n hx hb dX7_fault_0 rfl (lv_at hl 0 rfl) ?_
  have k1 : gkd K (a + 3) = 7 := congrArg Prod.fst (hH.sub hk0 1 (t := (3, 7, 0)) rfl)
  refine e_7_1 hx hb hts hown hK hH hk0 (hts _ wd_20) dX7_fault_1 ?_
  refine lv_aload_n hx hb dX7_fault_4 rfl (lv_at hl 0 rfl) ?_
  have k2 : gkd K (a + 1) = 6 := congrArg Prod.fst (hH.sub hk0 0 (t := (1, 6, 0)) rfl)
  refine e_7_0 hx hb hts hown hK hH hk0 (hts _ wd_16) dX7_fault_5 ?_
  obtain ⟨r3, h4, hf⟩ := gbind hf
  refine g_Vi (As := [.ref (a + 1)]) (rest := []) ⟨hx, hb, hml, hown, hts⟩ (c6_faultOf l w K g S (a + 3) (a + 1) r3 h4 k1) (gcwV hts i6_faultOf wd_181 rfl rfl ⟨Nat.le_of_ble_eq_true rfl, Nat.le_of_ble_eq_true rfl⟩) (gRecv.of hK rfl (hH.o7 k1)) hH hK hS hl.1 rfl rfl (Nat.le_of_ble_eq_true rfl) dX7_fault_8 ⟨Nat.le_refl _, Nat.le_refl _⟩ (fun H locs hH hS => ?_)
  have ho := Option.some.inj hf
  exact W.iret (v := r3.2) hx hb hr (fun t ht hW => ⟨⟨r3.2, (), rfl, congrArg Prod.snd ho, hrP ht ho hH⟩, hS.F ht⟩) hS.2.2 dX7_fault_11
