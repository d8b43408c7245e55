/-! contracts, by program -/
set_option maxRecDepth 100000 in
set_option maxHeartbeats 8000000 in
theorem c8_save (l : Launch) (w : GW) (K : GK) (g : GM) (S : GS) (p0 : Int32) (out : GS × Int32) (hf : f8_save S p0 = some out) : Met l yX8_save (wA yX8_save cX8_save 3 (some .int)) ({ frames := 2, cells := 0, slots := 0, locals := 42 } : Room) (PRE w K g S [.ref w.2.2.2, .int p0]) (QI w K g out.1 out.2) 0 0 (FR w) := by
  unfold f8_save at hf
  refine Met.ofW (cc := cX8_save) (maxL := 3) (ret := (some .int)) (by decide) rfl ?_
  intro p e s m args below meth c s₁ B hml hv
  obtain ⟨rfl, hH, hK⟩ := hv
  have hx := B.exec
  have hb := B.bytes
  have hr := B.returns
  have hts : ∀ q ∈ gALL, q.before _ s = true := fun q h => atoms_spec (ws := (wA yX8_save cX8_save 3 (some .int))) B.pre q (List.mem_cons_of_mem _ h)
  have hown : s.vm.findClass RX8 = some m.cls := findClass_of_methodNamed B.named
  have hlocks := B.notSynchronized
  have hS : va_S (FR w) s.heap s.heap [] := va_S.rf
  show W p l e ({ frames := 2, cells := 0, slots := 0, locals := 42 } : Room) s m _ below meth c s.heap [] 0 0 (MQ below (QI w K g out.1 out.2) _ s 0 0 (FR w)) _
  have hl := lv_entry ([.ref w.2.2.2, .int p0]) (n := 3) (Nat.le_of_ble_eq_true rfl)
  rw [lg_entry_eq]
  generalize (lg_sl ([.ref w.2.2.2, .int p0]) ++ List.replicate (3 - (lg_sl ([.ref w.2.2.2, .int p0])).length) Slot.unset).toArray = ls at hl ⊢
  clear B
  generalize ([.ref w.2.2.2, .int p0] : List Value).toArray = args at hts ⊢
  have B12 : ∀ n : Nat, ∀ (S : GS) (x2 : Int32) (H : Heap) (locs : List Loc) (ls : Array Slot), HR w K g S H → va_S (FR w) s.heap H locs → lv_has ls 3 [(0, .ref w.2.2.2), (1, .int p0), (2, .int x2)] → f8_save_12 p0 n S x2 = some out → W p l e ({ frames := 2, cells := 0, slots := 0, locals := 42 } : Room) s m args below meth c H locs 0 0 (MQ below (QI w K g out.1 out.2) args s 0 0 (FR w)) (F0 m 12 ls []) := by
    intro n
    induction n with
    | zero =>
      intro S x2 H locs ls hH hS hl hf
      cases hf
    | succ n ih =>
      intro S x2 H locs ls hH hS hl hf
      rw [f8_save_12] at hf
      refine lv_iload_n hx hb dX8_save_12 rfl (lv_at hl 2 rfl) ?_
      refine lv_sipush (v := 2081) hx hb dX8_save_13 (by decide) ?_
      have hg := gif hf
      refine lv_icmp_ge (tgt := 43) hx hb dX8_save_16 (by decide) (fun c1 => ?_) (fun c1 => ?_)
      · have hf := hg.1 c1
        refine lv_aload_n hx hb dX8_save_43 rfl (lv_at hl 0 rfl) ?_
        refine e_8_5 hx hb hts hown hK hH (hts _ wd_105) dX8_save_44 ?_
        refine lv_iload_n hx hb dX8_save_47 rfl (lv_at hl 1 rfl) ?_
        refine lv_iconst (v := 1) hx hb dX8_save_48 (by decide) ?_
        obtain ⟨h3, hf⟩ := gd_some hf
        refine m_iast hx hb hK hH hS 5 (by decide) (by decide) rfl h3 dX8_save_49 (fun H locs hH hS => ?_)
        obtain ⟨S4, eS4⟩ : ∃ z : GS, z = ssI S 5 p0.toNatClampNeg 1 := ⟨_, rfl⟩
        have hf := gl_at hf eS4
        replace hH : HR w K g S4 H := by rw [eS4]; exact hH
        refine lv_aload_n hx hb dX8_save_50 rfl (lv_at hl 0 rfl) ?_
        refine e_8_0 hx hb hts hown hK hH (hts _ wd_101) dX8_save_51 ?_
        refine lv_iconst (v := 4) hx hb dX8_save_54 (by decide) ?_
        obtain ⟨h6, hf⟩ := gd_some hf
        refine m_iald hx hb hK hH 1 (by decide) (by decide) rfl h6 dX8_save_55 ?_
        have ho := Option.some.inj hf
        exact W.iret (v := (S4 1 (4 : Int32).toNatClampNeg)) hx hb hr (fun t ht hW => ⟨⟨(S4 1 (4 : Int32).toNatClampNeg), (), rfl, congrArg Prod.snd ho, hrPm ht ho hH⟩, hS.F ht⟩) hS.2.2 dX8_save_56
      · have hf := hg.2 c1
        refine lv_aload_n hx hb dX8_save_19 rfl (lv_at hl 0 rfl) ?_
        refine e_8_4 hx hb hts hown hK hH (hts _ wd_104) dX8_save_20 ?_
        refine lv_iload_n hx hb dX8_save_23 rfl (lv_at hl 1 rfl) ?_
        refine lv_sipush (v := 2081) hx hb dX8_save_24 (by decide) ?_
        refine lv_imul hx hb dX8_save_27 ?_
        refine lv_iload_n hx hb dX8_save_28 rfl (lv_at hl 2 rfl) ?_
        refine lv_iadd hx hb dX8_save_29 ?_
        refine lv_aload_n hx hb dX8_save_30 rfl (lv_at hl 0 rfl) ?_
        refine e_8_0 hx hb hts hown hK hH (hts _ wd_101) dX8_save_31 ?_
        refine lv_iload_n hx hb dX8_save_34 rfl (lv_at hl 2 rfl) ?_
        obtain ⟨h8, hf⟩ := gd_some hf
        refine m_iald hx hb hK hH 1 (by decide) (by decide) rfl h8 dX8_save_35 ?_
        obtain ⟨h10, hf⟩ := gd_some hf
        refine m_iast hx hb hK hH hS 4 (by decide) (by decide) rfl h10 dX8_save_36 (fun H locs hH hS => ?_)
        obtain ⟨S11, eS11⟩ : ∃ z : GS, z = ssI S 4 ((p0 * 2081) + x2).toNatClampNeg (S 1 x2.toNatClampNeg) := ⟨_, rfl⟩
        have hf := gl_at hf eS11
        replace hH : HR w K g S11 H := by rw [eS11]; exact hH
        obtain ⟨v12, ev12⟩ : ∃ z : Int32, z = x2 + 1 := ⟨_, rfl⟩
        have hf := gl_at hf ev12
        refine lv_iinc (v := v12) (lv' := [(2, .int v12), (0, .ref w.2.2.2), (1, .int p0)]) hx hb dX8_save_37 hl (k := 2) rfl (by rw [ev12]; rfl) (by decide) rfl (fun ls hl => ?_)
        refine lv_goto (tgt := 12) hx hb dX8_save_40 (by decide) ?_
        exact ih _ _ _ _ _ hH hS (lv_sub hl [1, 2, 0] rfl) hf
  have hl : lv_has ls 3 [(0, .ref w.2.2.2), (1, .int p0)] := hl
  refine lv_iload_n hx hb dX8_save_0 rfl (lv_at hl 1 rfl) ?_
  obtain ⟨v13, h14, hf⟩ := gbind hf
  refine g_Si (As := [.int p0]) (rest := []) ⟨hx, hb, hml, hown, hts⟩ (c8_isSlot l w K g S p0 v13 h14) (gcwS hts i8_isSlot wd_928 rfl rfl ⟨Nat.le_of_ble_eq_true rfl, Nat.le_of_ble_eq_true rfl⟩) hH hK hS hl.1 rfl rfl (Nat.le_of_ble_eq_true rfl) dX8_save_1 ⟨Nat.le_refl _, Nat.le_refl _⟩ (fun H locs hH hS => ?_)
  have hg := gif hf
  refine lv_if_ne (tgt := 10) hx hb dX8_save_4 (by decide) (fun c15 => ?_) (fun c15 => ?_)
  · have hf := hg.2 c15
    refine lv_iconst (v := 0) hx hb dX8_save_10 (by decide) ?_
    refine lv_istore_n (lv' := [(2, .int 0), (0, .ref w.2.2.2), (1, .int p0)]) hx hb dX8_save_11 rfl hl (by decide) rfl (fun ls hl => ?_)
    exact B12 _ _ _ _ _ _ hH hS (lv_sub hl [1, 2, 0] rfl) hf
  · have hf := hg.1 c15
    refine lv_bipush (v := (-2)) hx hb dX8_save_7 (by decide) ?_
    have ho := Option.some.inj hf
    exact W.iret (v := (-2)) hx hb hr (fun t ht hW => ⟨⟨(-2), (), rfl, congrArg Prod.snd ho, hrPm ht ho hH⟩, hS.F ht⟩) hS.2.2 dX8_save_9
set_option maxRecDepth 100000 in
set_option maxHeartbeats 8000000 in
theorem c8_set (l : Launch) (w : GW) (K : GK) (g : GM) (S : GS) (p0 : Int32) (p1 : Int32) (out : GS × Int32) (hf : f8_set S p0 p1 = some out) : Met l yX8_set (wA yX8_set cX8_set 4 (some .int)) ({ frames := 2, cells := 0, slots := 0, locals := 41 } : Room) (PRE w K g S [.ref w.2.2.2, .int p0, .int p1]) (QI w K g out.1 out.2) 0 0 (FR w) := by
  unfold f8_set at hf
  refine Met.ofW (cc := cX8_set) (maxL := 4) (ret := (some .int)) (by decide) rfl ?_
  intro p e s m args below meth c s₁ B hml hv
  obtain ⟨rfl, hH, hK⟩ := hv
  have hx := B.exec
  have hb := B.bytes
  have hr := B.returns
  have hts : ∀ q ∈ gALL, q.before _ s = true := fun q h => atoms_spec (ws := (wA yX8_set cX8_set 4 (some .int))) B.pre q (List.mem_cons_of_mem _ h)
  have hown : s.vm.findClass RX8 = some m.cls := findClass_of_methodNamed B.named
  have hlocks := B.notSynchronized
  have hS : va_S (FR w) s.heap s.heap [] := va_S.rf
  show W p l e ({ frames := 2, cells := 0, slots := 0, locals := 41 } : Room) s m _ below meth c s.heap [] 0 0 (MQ below (QI w K g out.1 out.2) _ s 0 0 (FR w)) _
  have hl := lv_entry ([.ref w.2.2.2, .int p0, .int p1]) (n := 4) (Nat.le_of_ble_eq_true rfl)
  rw [lg_entry_eq]
  generalize (lg_sl ([.ref w.2.2.2, .int p0, .int p1]) ++ List.replicate (4 - (lg_sl ([.ref w.2.2.2, .int p0, .int p1])).length) Slot.unset).toArray = ls at hl ⊢
  clear B
  generalize ([.ref w.2.2.2, .int p0, .int p1] : List Value).toArray = args at hts ⊢
  have B25 : ∀ (S : GS) (s0 : Int32) (s1 : Int32) (s2 : Int32) (H : Heap) (locs : List Loc) (ls : Array Slot), HR w K g S H → va_S (FR w) s.heap H locs → lv_has ls 4 [(0, .ref w.2.2.2), (1, .int p0), (2, .int p1)] → f8_set_25 p0 p1 S s0 s1 s2 = some out → W p l e ({ frames := 2, cells := 0, slots := 0, locals := 41 } : Room) s m args below meth c H locs 0 0 (MQ below (QI w K g out.1 out.2) args s 0 0 (FR w)) (F0 m 25 ls [.int s2, .int s1, .int s0]) := by
    intro  S s0 s1 s2 H locs ls hH hS hl hf
    unfold f8_set_25 at hf
    obtain ⟨v1, h2, hf⟩ := gbind hf
    refine g_Si (As := [.int s0, .int s1, .int s2]) (rest := []) ⟨hx, hb, hml, hown, hts⟩ (c8_within l w K g S s0 s1 s2 v1 h2) (gcwS hts i8_within wd_155 rfl rfl ⟨Nat.le_of_ble_eq_true rfl, Nat.le_of_ble_eq_true rfl⟩) hH hK hS hl.1 rfl rfl (Nat.le_of_ble_eq_true rfl) dX8_set_25 ⟨Nat.le_refl _, Nat.le_refl _⟩ (fun H locs hH hS => ?_)
    have hg := gif hf
    refine lv_if_ne (tgt := 34) hx hb dX8_set_28 (by decide) (fun c3 => ?_) (fun c3 => ?_)
    · have hf := hg.2 c3
      refine lv_aload_n hx hb dX8_set_34 rfl (lv_at hl 0 rfl) ?_
      obtain ⟨g4, h5, hf⟩ := gbind hf
      refine g_Vv (As := []) (rest := []) ⟨hx, hb, hml, hown, hts⟩ (c8_record l w K g S g4 h5) (gcwV hts i8_record wd_161 rfl rfl ⟨Nat.le_of_ble_eq_true rfl, Nat.le_of_ble_eq_true rfl⟩) (gRecv.of hK rfl hH.ob) hH hK hS hl.1 rfl rfl (Nat.le_of_ble_eq_true rfl) dX8_set_35 ⟨Nat.le_refl _, Nat.le_refl _⟩ (fun H locs hH hS => ?_)
      refine lv_aload_n hx hb dX8_set_38 rfl (lv_at hl 0 rfl) ?_
      refine e_8_0 hx hb hts hown hK hH (hts _ wd_101) dX8_set_39 ?_
      refine lv_iload_n hx hb dX8_set_42 rfl (lv_at hl 1 rfl) ?_
      obtain ⟨h7, hf⟩ := gd_some hf
      refine m_iald hx hb hK hH 1 (by decide) (by decide) rfl h7 dX8_set_43 ?_
      refine lv_topi (fun v8 ev8 => ?_)
      have hf := gl_at hf ev8
      refine lv_istore_n (lv' := [(3, .int v8), (0, .ref w.2.2.2), (1, .int p0), (2, .int p1)]) hx hb dX8_set_44 rfl hl (by decide) rfl (fun ls hl => ?_)
      refine lv_aload_n hx hb dX8_set_45 rfl (lv_at hl 1 rfl) ?_
      refine e_8_0 hx hb hts hown hK hH (hts _ wd_101) dX8_set_46 ?_
      refine lv_iload_n hx hb dX8_set_49 rfl (lv_at hl 2 rfl) ?_
      refine lv_iload_n hx hb dX8_set_50 rfl (lv_at hl 3 rfl) ?_
      refine m_iast hx hb hK hH hS 1 (by decide) (by decide) rfl h7 dX8_set_51 (fun H locs hH hS => ?_)
      obtain ⟨S10, eS10⟩ : ∃ z : GS, z = ssI g4 1 p0.toNatClampNeg p1 := ⟨_, rfl⟩
      have hf := gl_at hf eS10
      replace hH : HR w K g S10 H := by rw [eS10]; exact hH
      refine lv_iload_n hx hb dX8_set_52 rfl (lv_at hl 0 rfl) ?_
      have ho := Option.some.inj hf
      exact W.iret (v := v8) hx hb hr (fun t ht hW => ⟨⟨v8, (), rfl, congrArg Prod.snd ho, hrPm ht ho hH⟩, hS.F ht⟩) hS.2.2 dX8_set_53
    · have hf := hg.1 c3
      refine lv_bipush (v := (-2)) hx hb dX8_set_31 (by decide) ?_
      have ho := Option.some.inj hf
      exact W.iret (v := (-2)) hx hb hr (fun t ht hW => ⟨⟨(-2), (), rfl, congrArg Prod.snd ho, hrPm ht ho hH⟩, hS.F ht⟩) hS.2.2 dX8_set_33
  have hl : lv_has ls 4 [(0, .ref w.2.2.2), (1, .int p0), (2, .int p1)] := hl
  refine lv_iload_n hx hb dX8_set_0 rfl (lv_at hl 1 rfl) ?_
  refine lv_iconst (v := 0) hx hb dX8_set_1 (by decide) ?_
  refine lv_iconst (v := 2) hx hb dX8_set_2 (by decide) ?_
  obtain ⟨v11, h12, hf⟩ := gbind hf
  refine g_Si (As := [.int p0, .int 0, .int 2]) (rest := []) ⟨hx, hb, hml, hown, hts⟩ (c8_within l w K g S p0 0 2 v11 h12) (gcwS hts i8_within wd_155 rfl rfl ⟨Nat.le_of_ble_eq_true rfl, Nat.le_of_ble_eq_true rfl⟩) hH hK hS hl.1 rfl rfl (Nat.le_of_ble_eq_true rfl) dX8_set_3 ⟨Nat.le_refl _, Nat.le_refl _⟩ (fun H locs hH hS => ?_)
  have hg := gif hf
  refine lv_if_eq (tgt := 31) hx hb dX8_set_6 (by decide) (fun c13 => ?_) (fun c13 => ?_)
  · have hf := hg.1 c13
    refine lv_bipush (v := (-2)) hx hb dX8_set_31 (by decide) ?_
    have ho := Option.some.inj hf
    exact W.iret (v := (-2)) hx hb hr (fun t ht hW => ⟨⟨(-2), (), rfl, congrArg Prod.snd ho, hrPm ht ho hH⟩, hS.F ht⟩) hS.2.2 dX8_set_33
  · have hf := hg.2 c13
    refine lv_iload_n hx hb dX8_set_9 rfl (lv_at hl 2 rfl) ?_
    refine lv_iload_n hx hb dX8_set_10 rfl (lv_at hl 1 rfl) ?_
    obtain ⟨v14, h15, hf⟩ := gbind hf
    refine g_Si (As := [.int p0]) (rest := [.int p1]) ⟨hx, hb, hml, hown, hts⟩ (c8_leastOf l w K g S p0 v14 h15) (gcwS hts i8_leastOf wd_158 rfl rfl ⟨Nat.le_of_ble_eq_true rfl, Nat.le_of_ble_eq_true rfl⟩) hH hK hS hl.1 rfl rfl (Nat.le_of_ble_eq_true rfl) dX8_set_11 ⟨Nat.le_refl _, Nat.le_refl _⟩ (fun H locs hH hS => ?_)
    refine lv_iload_n hx hb dX8_set_14 rfl (lv_at hl 1 rfl) ?_
    have hg := gif hf
    refine lv_if_ne (tgt := 23) hx hb dX8_set_15 (by decide) (fun c16 => ?_) (fun c16 => ?_)
    · have hf := hg.2 c16
      refine lv_bipush (v := 99) hx hb dX8_set_23 (by decide) ?_
      exact B25 _ _ _ _ _ _ _ hH hS (lv_sub hl [0, 1, 2] rfl) hf
    · have hf := hg.1 c16
      refine lv_bipush (v := 9) hx hb dX8_set_18 (by decide) ?_
      refine lv_goto (tgt := 25) hx hb dX8_set_20 (by decide) ?_
      exact B25 _ _ _ _ _ _ _ hH hS (lv_sub hl [0, 1, 2] rfl) hf
set_option maxRecDepth 100000 in
set_option maxHeartbeats 8000000 in
theorem c8_sign (l : Launch) (w : GW) (K : GK) (g : GM) (S : GS) (p0 : Int32) (out : Int32) (hf : f8_sign S p0 = some out) : Met l yX8_sign (wA yX8_sign cX8_sign 2 (some .int)) ({ frames := 1, cells := 0, slots := 0, locals := 22 } : Room) (PRE w K g S [.ref w.2.2.2, .int p0]) (QI w K g S out) 0 0 (FR w) := by
  unfold f8_sign at hf
  refine Met.ofW (cc := cX8_sign) (maxL := 2) (ret := (some .int)) (by decide) rfl ?_
  intro p e s m args below meth c s₁ B hml hv
  obtain ⟨rfl, hH, hK⟩ := hv
  have hx := B.exec
  have hb := B.bytes
  have hr := B.returns
  have hts : ∀ q ∈ gALL, q.before _ s = true := fun q h => atoms_spec (ws := (wA yX8_sign cX8_sign 2 (some .int))) B.pre q (List.mem_cons_of_mem _ h)
  have hown : s.vm.findClass RX8 = some m.cls := findClass_of_methodNamed B.named
  have hlocks := B.notSynchronized
  have hS : va_S (FR w) s.heap s.heap [] := va_S.rf
  show W p l e ({ frames := 1, cells := 0, slots := 0, locals := 22 } : Room) s m _ below meth c s.heap [] 0 0 (MQ below (QI w K g S out) _ s 0 0 (FR w)) _
  have hl := lv_entry ([.ref w.2.2.2, .int p0]) (n := 2) (Nat.le_of_ble_eq_true rfl)
  rw [lg_entry_eq]
  generalize (lg_sl ([.ref w.2.2.2, .int p0]) ++ List.replicate (2 - (lg_sl ([.ref w.2.2.2, .int p0])).length) Slot.unset).toArray = ls at hl ⊢
  clear B
  generalize ([.ref w.2.2.2, .int p0] : List Value).toArray = args at hts ⊢
  have hl : lv_has ls 2 [(0, .ref w.2.2.2), (1, .int p0)] := hl
  refine lv_iload_n hx hb dX8_sign_0 rfl (lv_at hl 1 rfl) ?_
  refine lv_iconst (v := 0) hx hb dX8_sign_1 (by decide) ?_
  refine lv_aload_n hx hb dX8_sign_2 rfl (lv_at hl 0 rfl) ?_
  refine e_8_7 hx hb hts hown hK hH (hts _ wd_263) dX8_sign_3 ?_
  refine lv_iconst (v := 1) hx hb dX8_sign_6 (by decide) ?_
  refine lv_isub hx hb dX8_sign_7 ?_
  obtain ⟨v1, h2, hf⟩ := gbind hf
  refine g_Si (As := [.int p0, .int 0, .int ((S 0 7) - 1)]) (rest := []) ⟨hx, hb, hml, hown, hts⟩ (c8_within l w K g S p0 0 ((S 0 7) - 1) v1 h2) (gcwS hts i8_within wd_155 rfl rfl ⟨Nat.le_of_ble_eq_true rfl, Nat.le_of_ble_eq_true rfl⟩) hH hK hS hl.1 rfl rfl (Nat.le_of_ble_eq_true rfl) dX8_sign_8 ⟨Nat.le_refl _, Nat.le_refl _⟩ (fun H locs hH hS => ?_)
  have hg := gif hf
  refine lv_if_eq (tgt := 23) hx hb dX8_sign_11 (by decide) (fun c3 => ?_) (fun c3 => ?_)
  · have hf := hg.1 c3
    refine lv_iconst (v := (-1)) hx hb dX8_sign_23 (by decide) ?_
    have ho := Option.some.inj hf
    exact W.iret (v := (-1)) hx hb hr (fun t ht hW => ⟨⟨(-1), (), rfl, ho, hrE ht hH⟩, hS.F ht⟩) hS.2.2 dX8_sign_24
  · have hf := hg.2 c3
    refine lv_aload_n hx hb dX8_sign_14 rfl (lv_at hl 0 rfl) ?_
    refine e_8_6 hx hb hts hown hK hH (hts _ wd_106) dX8_sign_15 ?_
    refine lv_iload_n hx hb dX8_sign_18 rfl (lv_at hl 1 rfl) ?_
    obtain ⟨h5, hf⟩ := gd_some hf
    refine m_iald hx hb hK hH 6 (by decide) (by decide) rfl h5 dX8_sign_19 ?_
    refine lv_goto (tgt := 24) hx hb dX8_sign_20 (by decide) ?_
    have ho := Option.some.inj hf
    exact W.iret (v := (S 6 p0.toNatClampNeg)) hx hb hr (fun t ht hW => ⟨⟨(S 6 p0.toNatClampNeg), (), rfl, ho, hrE ht hH⟩, hS.F ht⟩) hS.2.2 dX8_sign_24
set_option maxRecDepth 100000 in
set_option maxHeartbeats 8000000 in
theorem c8_skip (l : Launch) (w : GW) (K : GK) (g : GM) (S : GS) (out : GS × Int32) (hf : f8_skip S = some out) : Met l yX8_skip (wA yX8_skip cX8_skip 2 (some .int)) ({ frames := 6, cells := 0, slots := 0, locals := 126 } : Room) (PRE w K g S [.ref w.2.2.2]) (QI w K g out.1 out.2) 0 0 (FR w) := by
  unfold f8_skip at hf
  refine Met.ofW (cc := cX8_skip) (maxL := 2) (ret := (some .int)) (by decide) rfl ?_
  intro p e s m args below meth c s₁ B hml hv
  obtain ⟨rfl, hH, hK⟩ := hv
  have hx := B.exec
  have hb := B.bytes
  have hr := B.returns
  have hts : ∀ q ∈ gALL, q.before _ s = true := fun q h => atoms_spec (ws := (wA yX8_skip cX8_skip 2 (some .int))) B.pre q (List.mem_cons_of_mem _ h)
  have hown : s.vm.findClass RX8 = some m.cls := findClass_of_methodNamed B.named
  have hlocks := B.notSynchronized
  have hS : va_S (FR w) s.heap s.heap [] := va_S.rf
  show W p l e ({ frames := 6, cells := 0, slots := 0, locals := 126 } : Room) s m _ below meth c s.heap [] 0 0 (MQ below (QI w K g out.1 out.2) _ s 0 0 (FR w)) _
  have hl := lv_entry ([.ref w.2.2.2]) (n := 2) (Nat.le_of_ble_eq_true rfl)
  rw [lg_entry_eq]
  generalize (lg_sl ([.ref w.2.2.2]) ++ List.replicate (2 - (lg_sl ([.ref w.2.2.2])).length) Slot.unset).toArray = ls at hl ⊢
  clear B
  generalize ([.ref w.2.2.2] : List Value).toArray = args at hts ⊢
  have B100 : ∀ (S : GS) (H : Heap) (locs : List Loc) (ls : Array Slot), HR w K g S H → va_S (FR w) s.heap H locs → lv_has ls 2 [(0, .ref w.2.2.2)] → f8_skip_100 S = some out → W p l e ({ frames := 6, cells := 0, slots := 0, locals := 126 } : Room) s m args below meth c H locs 0 0 (MQ below (QI w K g out.1 out.2) args s 0 0 (FR w)) (F0 m 100 ls []) := by
    intro  S H locs ls hH hS hl hf
    unfold f8_skip_100 at hf
    refine lv_aload_n hx hb dX8_skip_100 rfl (lv_at hl 0 rfl) ?_
    obtain ⟨g1, h2, hf⟩ := gbind hf
    refine g_Vv (As := []) (rest := []) ⟨hx, hb, hml, hown, hts⟩ (c8_settle l w K g S g1 h2) (gcwV hts i8_settle wd_521 rfl rfl ⟨Nat.le_of_ble_eq_true rfl, Nat.le_of_ble_eq_true rfl⟩) (gRecv.of hK rfl hH.ob) hH hK hS hl.1 rfl rfl (Nat.le_of_ble_eq_true rfl) dX8_skip_101 ⟨Nat.le_refl _, Nat.le_refl _⟩ (fun H locs hH hS => ?_)
    refine lv_aload_n hx hb dX8_skip_104 rfl (lv_at hl 0 rfl) ?_
    refine e_8_0 hx hb hts hown hK hH (hts _ wd_101) dX8_skip_105 ?_
    refine lv_iconst (v := 3) hx hb dX8_skip_108 (by decide) ?_
    obtain ⟨h4, hf⟩ := gd_some hf
    refine m_iald hx hb hK hH 1 (by decide) (by decide) rfl h4 dX8_skip_109 ?_
    have ho := Option.some.inj hf
    exact W.iret (v := (g1 1 (3 : Int32).toNatClampNeg)) hx hb hr (fun t ht hW => ⟨⟨(g1 1 (3 : Int32).toNatClampNeg), (), rfl, congrArg Prod.snd ho, hrPm ht ho hH⟩, hS.F ht⟩) hS.2.2 dX8_skip_110
  have hl : lv_has ls 2 [(0, .ref w.2.2.2)] := hl
  refine lv_aload_n hx hb dX8_skip_0 rfl (lv_at hl 0 rfl) ?_
  refine e_8_0 hx hb hts hown hK hH (hts _ wd_101) dX8_skip_1 ?_
  refine lv_iconst (v := 3) hx hb dX8_skip_4 (by decide) ?_
  obtain ⟨h6, hf⟩ := gd_some hf
  refine m_iald hx hb hK hH 1 (by decide) (by decide) rfl h6 dX8_skip_5 ?_
  have hg := gif hf
  refine lv_if_ne (tgt := 12) hx hb dX8_skip_6 (by decide) (fun c7 => ?_) (fun c7 => ?_)
  · have hf := hg.2 c7
    refine lv_aload_n hx hb dX8_skip_12 rfl (lv_at hl 0 rfl) ?_
    obtain ⟨g8, h9, hf⟩ := gbind hf
    refine g_Vv (As := []) (rest := []) ⟨hx, hb, hml, hown, hts⟩ (c8_record l w K g S g8 h9) (gcwV hts i8_record wd_161 rfl rfl ⟨Nat.le_of_ble_eq_true rfl, Nat.le_of_ble_eq_true rfl⟩) (gRecv.of hK rfl hH.ob) hH hK hS hl.1 rfl rfl (Nat.le_of_ble_eq_true rfl) dX8_skip_13 ⟨Nat.le_refl _, Nat.le_refl _⟩ (fun H locs hH hS => ?_)
    refine lv_aload_n hx hb dX8_skip_16 rfl (lv_at hl 0 rfl) ?_
    refine lv_iconst (v := 2) hx hb dX8_skip_17 (by decide) ?_
    obtain ⟨v10, h11, hf⟩ := gbind hf
    refine g_Vi (As := [.int 2]) (rest := []) ⟨hx, hb, hml, hown, hts⟩ (c8_onTop l w K g g8 2 v10 h11) (gcwV hts i8_onTop wd_465 rfl rfl ⟨Nat.le_of_ble_eq_true rfl, Nat.le_of_ble_eq_true rfl⟩) (gRecv.of hK rfl hH.ob) hH hK hS hl.1 rfl rfl (Nat.le_of_ble_eq_true rfl) dX8_skip_18 ⟨Nat.le_refl _, Nat.le_refl _⟩ (fun H locs hH hS => ?_)
    refine lv_istore_n (lv' := [(1, .int v10), (0, .ref w.2.2.2)]) hx hb dX8_skip_21 rfl hl (by decide) rfl (fun ls hl => ?_)
    refine lv_aload_n hx hb dX8_skip_22 rfl (lv_at hl 1 rfl) ?_
    refine lv_iload_n hx hb dX8_skip_23 rfl (lv_at hl 0 rfl) ?_
    obtain ⟨v12, h13, hf⟩ := gbind hf
    refine g_Vi (As := [.int v10]) (rest := []) ⟨hx, hb, hml, hown, hts⟩ (c8_signAt l w K g g8 v10 v12 h13) (gcwV hts i8_signAt wd_469 rfl rfl ⟨Nat.le_of_ble_eq_true rfl, Nat.le_of_ble_eq_true rfl⟩) (gRecv.of hK rfl hH.ob) hH hK hS hl.1 rfl rfl (Nat.le_of_ble_eq_true rfl) dX8_skip_24 ⟨Nat.le_refl _, Nat.le_refl _⟩ (fun H locs hH hS => ?_)
    have hg := gif hf
    by_cases c14 : v12 = 99
    · have hf := hg.1 c14
      refine lv_lookup (tgt := 75) hx hb dX8_skip_27 (by decide +kernel) (by rw [c14]; first | done | decide +kernel) (by decide) ?_
      refine lv_aload_n hx hb dX8_skip_75 rfl (lv_at hl 1 rfl) ?_
      refine lv_iconst (v := 2) hx hb dX8_skip_76 (by decide) ?_
      obtain ⟨g15, h16, hf⟩ := gbind hf
      refine g_Vv (As := [.int 2]) (rest := []) ⟨hx, hb, hml, hown, hts⟩ (c8_go l w K g g8 2 g15 h16) (gcwV hts i8_go wd_501 rfl rfl ⟨Nat.le_of_ble_eq_true rfl, Nat.le_of_ble_eq_true rfl⟩) (gRecv.of hK rfl hH.ob) hH hK hS hl.1 rfl rfl (Nat.le_of_ble_eq_true rfl) dX8_skip_77 ⟨Nat.le_refl _, Nat.le_refl _⟩ (fun H locs hH hS => ?_)
      refine lv_goto (tgt := 100) hx hb dX8_skip_80 (by decide) ?_
      exact B100 _ _ _ _ hH hS (lv_sub hl [1] rfl) hf
    have hf := hg.2 c14
    have hg := gif hf
    by_cases c17 : v12 = 107
    · have hf := hg.1 c17
      refine lv_lookup (tgt := 75) hx hb dX8_skip_27 (by decide +kernel) (by rw [c17]; first | done | decide +kernel) (by decide) ?_
      refine lv_aload_n hx hb dX8_skip_75 rfl (lv_at hl 1 rfl) ?_
      refine lv_iconst (v := 2) hx hb dX8_skip_76 (by decide) ?_
      obtain ⟨g18, h19, hf⟩ := gbind hf
      refine g_Vv (As := [.int 2]) (rest := []) ⟨hx, hb, hml, hown, hts⟩ (c8_go l w K g g8 2 g18 h19) (gcwV hts i8_go wd_501 rfl rfl ⟨Nat.le_of_ble_eq_true rfl, Nat.le_of_ble_eq_true rfl⟩) (gRecv.of hK rfl hH.ob) hH hK hS hl.1 rfl rfl (Nat.le_of_ble_eq_true rfl) dX8_skip_77 ⟨Nat.le_refl _, Nat.le_refl _⟩ (fun H locs hH hS => ?_)
      refine lv_goto (tgt := 100) hx hb dX8_skip_80 (by decide) ?_
      exact B100 _ _ _ _ hH hS (lv_sub hl [1] rfl) hf
    have hf := hg.2 c17
    have hg := gif hf
    by_cases c20 : v12 = 119
    · have hf := hg.1 c20
      refine lv_lookup (tgt := 68) hx hb dX8_skip_27 (by decide +kernel) (by rw [c20]; first | done | decide +kernel) (by decide) ?_
      refine lv_aload_n hx hb dX8_skip_68 rfl (lv_at hl 1 rfl) ?_
      obtain ⟨g21, h22, hf⟩ := gbind hf
      refine g_Vv (As := []) (rest := []) ⟨hx, hb, hml, hown, hts⟩ (c8_donePick l w K g g8 g21 h22) (gcwV hts i8_donePick wd_489 rfl rfl ⟨Nat.le_of_ble_eq_true rfl, Nat.le_of_ble_eq_true rfl⟩) (gRecv.of hK rfl hH.ob) hH hK hS hl.1 rfl rfl (Nat.le_of_ble_eq_true rfl) dX8_skip_69 ⟨Nat.le_refl _, Nat.le_refl _⟩ (fun H locs hH hS => ?_)
      refine lv_goto (tgt := 100) hx hb dX8_skip_72 (by decide) ?_
      exact B100 _ _ _ _ hH hS (lv_sub hl [1] rfl) hf
    have hf := hg.2 c20
    have hg := gif hf
    by_cases c23 : v12 = 120
    · have hf := hg.1 c23
      refine lv_lookup (tgt := 83) hx hb dX8_skip_27 (by decide +kernel) (by rw [c23]; first | done | decide +kernel) (by decide) ?_
      refine lv_aload_n hx hb dX8_skip_83 rfl (lv_at hl 1 rfl) ?_
      refine lv_iload_n hx hb dX8_skip_84 rfl (lv_at hl 0 rfl) ?_
      refine lv_iconst (v := 2) hx hb dX8_skip_85 (by decide) ?_
      refine lv_iadd hx hb dX8_skip_86 ?_
      obtain ⟨g24, h25, hf⟩ := gbind hf
      refine g_Vv (As := [.int (v10 + 2)]) (rest := []) ⟨hx, hb, hml, hown, hts⟩ (c8_passPart l w K g g8 (v10 + 2) g24 h25) (gcwV hts i8_passPart wd_517 rfl rfl ⟨Nat.le_of_ble_eq_true rfl, Nat.le_of_ble_eq_true rfl⟩) (gRecv.of hK rfl hH.ob) hH hK hS hl.1 rfl rfl (Nat.le_of_ble_eq_true rfl) dX8_skip_87 ⟨Nat.le_refl _, Nat.le_refl _⟩ (fun H locs hH hS => ?_)
      refine lv_goto (tgt := 100) hx hb dX8_skip_90 (by decide) ?_
      exact B100 _ _ _ _ hH hS (lv_sub hl [1] rfl) hf
    have hf := hg.2 c23
    have nc14 : v12.toInt ≠ 99 := g_ne c14 (by decide)
    have nc17 : v12.toInt ≠ 107 := g_ne c17 (by decide)
    have nc20 : v12.toInt ≠ 119 := g_ne c20 (by decide)
    have nc23 : v12.toInt ≠ 120 := g_ne c23 (by decide)
    refine lv_lookup (off := 66) (tgt := 93) hx hb dX8_skip_27 (by decide +kernel) (by simp [Op.lookupswitch.offset, nc14, nc17, nc20, nc23, nc14.symm, nc17.symm, nc20.symm, nc23.symm]) (by decide) ?_
    refine lv_aload_n hx hb dX8_skip_93 rfl (lv_at hl 1 rfl) ?_
    refine lv_iload_n hx hb dX8_skip_94 rfl (lv_at hl 0 rfl) ?_
    refine lv_iconst (v := 1) hx hb dX8_skip_95 (by decide) ?_
    refine lv_iadd hx hb dX8_skip_96 ?_
    obtain ⟨g26, h27, hf⟩ := gbind hf
    refine g_Vv (As := [.int (v10 + 1)]) (rest := []) ⟨hx, hb, hml, hown, hts⟩ (c8_passPart l w K g g8 (v10 + 1) g26 h27) (gcwV hts i8_passPart wd_517 rfl rfl ⟨Nat.le_of_ble_eq_true rfl, Nat.le_of_ble_eq_true rfl⟩) (gRecv.of hK rfl hH.ob) hH hK hS hl.1 rfl rfl (Nat.le_of_ble_eq_true rfl) dX8_skip_97 ⟨Nat.le_refl _, Nat.le_refl _⟩ (fun H locs hH hS => ?_)
    exact B100 _ _ _ _ hH hS (lv_sub hl [1] rfl) hf
  · have hf := hg.1 c7
    refine lv_bipush (v := (-5)) hx hb dX8_skip_9 (by decide) ?_
    have ho := Option.some.inj hf
    exact W.iret (v := (-5)) hx hb hr (fun t ht hW => ⟨⟨(-5), (), rfl, congrArg Prod.snd ho, hrPm ht ho hH⟩, hS.F ht⟩) hS.2.2 dX8_skip_11
set_option maxRecDepth 100000 in
set_option maxHeartbeats 8000000 in
theorem c8_stack (l : Launch) (w : GW) (K : GK) (g : GM) (S : GS) (p0 : Int32) (p1 : Int32) (out : Int32) (hf : f8_stack S p0 p1 = some out) : Met l yX8_stack (wA yX8_stack cX8_stack 3 (some .int)) ({ frames := 1, cells := 0, slots := 0, locals := 22 } : Room) (PRE w K g S [.ref w.2.2.2, .int p0, .int p1]) (QI w K g S out) 0 0 (FR w) := by
  unfold f8_stack at hf
  refine Met.ofW (cc := cX8_stack) (maxL := 3) (ret := (some .int)) (by decide) rfl ?_
  intro p e s m args below meth c s₁ B hml hv
  obtain ⟨rfl, hH, hK⟩ := hv
  have hx := B.exec
  have hb := B.bytes
  have hr := B.returns
  have hts : ∀ q ∈ gALL, q.before _ s = true := fun q h => atoms_spec (ws := (wA yX8_stack cX8_stack 3 (some .int))) B.pre q (List.mem_cons_of_mem _ h)
  have hown : s.vm.findClass RX8 = some m.cls := findClass_of_methodNamed B.named
  have hlocks := B.notSynchronized
  have hS : va_S (FR w) s.heap s.heap [] := va_S.rf
  show W p l e ({ frames := 1, cells := 0, slots := 0, locals := 22 } : Room) s m _ below meth c s.heap [] 0 0 (MQ below (QI w K g S out) _ s 0 0 (FR w)) _
  have hl := lv_entry ([.ref w.2.2.2, .int p0, .int p1]) (n := 3) (Nat.le_of_ble_eq_true rfl)
  rw [lg_entry_eq]
  generalize (lg_sl ([.ref w.2.2.2, .int p0, .int p1]) ++ List.replicate (3 - (lg_sl ([.ref w.2.2.2, .int p0, .int p1])).length) Slot.unset).toArray = ls at hl ⊢
  clear B
  generalize ([.ref w.2.2.2, .int p0, .int p1] : List Value).toArray = args at hts ⊢
  have hl : lv_has ls 3 [(0, .ref w.2.2.2), (1, .int p0), (2, .int p1)] := hl
  refine lv_iload_n hx hb dX8_stack_0 rfl (lv_at hl 1 rfl) ?_
  refine lv_iconst (v := 0) hx hb dX8_stack_1 (by decide) ?_
  refine lv_aload_n hx hb dX8_stack_2 rfl (lv_at hl 0 rfl) ?_
  refine e_8_0 hx hb hts hown hK hH (hts _ wd_101) dX8_stack_3 ?_
  refine lv_iconst (v := 3) hx hb dX8_stack_6 (by decide) ?_
  obtain ⟨h2, hf⟩ := gd_some hf
  refine m_iald hx hb hK hH 1 (by decide) (by decide) rfl h2 dX8_stack_7 ?_
  refine lv_iconst (v := 1) hx hb dX8_stack_8 (by decide) ?_
  refine lv_isub hx hb dX8_stack_9 ?_
  obtain ⟨v3, h4, hf⟩ := gbind hf
  refine g_Si (As := [.int p0, .int 0, .int ((S 1 (3 : Int32).toNatClampNeg) - 1)]) (rest := []) ⟨hx, hb, hml, hown, hts⟩ (c8_within l w K g S p0 0 ((S 1 (3 : Int32).toNatClampNeg) - 1) v3 h4) (gcwS hts i8_within wd_155 rfl rfl ⟨Nat.le_of_ble_eq_true rfl, Nat.le_of_ble_eq_true rfl⟩) hH hK hS hl.1 rfl rfl (Nat.le_of_ble_eq_true rfl) dX8_stack_10 ⟨Nat.le_refl _, Nat.le_refl _⟩ (fun H locs hH hS => ?_)
  have hg := gif hf
  refine lv_if_ne (tgt := 18) hx hb dX8_stack_13 (by decide) (fun c5 => ?_) (fun c5 => ?_)
  · have hf := hg.2 c5
    refine lv_iload_n hx hb dX8_stack_18 rfl (lv_at hl 2 rfl) ?_
    have hg := gif hf
    by_cases c6 : p1 = 0
    · have hf := hg.1 c6
      refine lv_tableIn (off := 29) (tgt := 48) hx hb dX8_stack_19 (by rw [c6]; decide) (by rw [c6]; decide) (by rw [c6]; decide +kernel) (by decide) ?_
      refine lv_aload_n hx hb dX8_stack_48 rfl (lv_at hl 0 rfl) ?_
      refine e_8_0 hx hb hts hown hK hH (hts _ wd_101) dX8_stack_49 ?_
      refine lv_aload_n hx hb dX8_stack_52 rfl (lv_at hl 0 rfl) ?_
      refine lv_iload_n hx hb dX8_stack_53 rfl (lv_at hl 1 rfl) ?_
      obtain ⟨v7, h8, hf⟩ := gbind hf
      refine g_Vi (As := [.int p0]) (rest := [.ref (w.2.2.2 + 1)]) ⟨hx, hb, hml, hown, hts⟩ (c8_frame l w K g S p0 v7 h8) (gcwV hts i8_frame wd_364 rfl rfl ⟨Nat.le_of_ble_eq_true rfl, Nat.le_of_ble_eq_true rfl⟩) (gRecv.of hK rfl hH.ob) hH hK hS hl.1 rfl rfl (Nat.le_of_ble_eq_true rfl) dX8_stack_54 ⟨Nat.le_refl _, Nat.le_refl _⟩ (fun H locs hH hS => ?_)
      refine lv_iconst (v := 0) hx hb dX8_stack_57 (by decide) ?_
      refine lv_iadd hx hb dX8_stack_58 ?_
      obtain ⟨h10, hf⟩ := gd_some hf
      refine m_iald hx hb hK hH 1 (by decide) (by decide) rfl h10 dX8_stack_59 ?_
      have ho := Option.some.inj hf
      exact W.iret (v := (S 1 (v7 + 0).toNatClampNeg)) hx hb hr (fun t ht hW => ⟨⟨(S 1 (v7 + 0).toNatClampNeg), (), rfl, ho, hrE ht hH⟩, hS.F ht⟩) hS.2.2 dX8_stack_60
    have hf := hg.2 c6
    have hg := gif hf
    by_cases c11 : p1 = 1
    · have hf := hg.1 c11
      refine lv_tableIn (off := 42) (tgt := 61) hx hb dX8_stack_19 (by rw [c11]; decide) (by rw [c11]; decide) (by rw [c11]; decide +kernel) (by decide) ?_
      refine lv_aload_n hx hb dX8_stack_61 rfl (lv_at hl 0 rfl) ?_
      refine e_8_0 hx hb hts hown hK hH (hts _ wd_101) dX8_stack_62 ?_
      refine lv_aload_n hx hb dX8_stack_65 rfl (lv_at hl 0 rfl) ?_
      refine lv_iload_n hx hb dX8_stack_66 rfl (lv_at hl 1 rfl) ?_
      obtain ⟨v12, h13, hf⟩ := gbind hf
      refine g_Vi (As := [.int p0]) (rest := [.ref (w.2.2.2 + 1)]) ⟨hx, hb, hml, hown, hts⟩ (c8_frame l w K g S p0 v12 h13) (gcwV hts i8_frame wd_364 rfl rfl ⟨Nat.le_of_ble_eq_true rfl, Nat.le_of_ble_eq_true rfl⟩) (gRecv.of hK rfl hH.ob) hH hK hS hl.1 rfl rfl (Nat.le_of_ble_eq_true rfl) dX8_stack_67 ⟨Nat.le_refl _, Nat.le_refl _⟩ (fun H locs hH hS => ?_)
      refine lv_iconst (v := 1) hx hb dX8_stack_70 (by decide) ?_
      refine lv_iadd hx hb dX8_stack_71 ?_
      obtain ⟨h15, hf⟩ := gd_some hf
      refine m_iald hx hb hK hH 1 (by decide) (by decide) rfl h15 dX8_stack_72 ?_
      have ho := Option.some.inj hf
      exact W.iret (v := (S 1 (v12 + 1).toNatClampNeg)) hx hb hr (fun t ht hW => ⟨⟨(S 1 (v12 + 1).toNatClampNeg), (), rfl, ho, hrE ht hH⟩, hS.F ht⟩) hS.2.2 dX8_stack_73
    have hf := hg.2 c11
    have hg := gif hf
    by_cases c16 : p1 = 2
    · have hf := hg.1 c16
      refine lv_tableIn (off := 55) (tgt := 74) hx hb dX8_stack_19 (by rw [c16]; decide) (by rw [c16]; decide) (by rw [c16]; decide +kernel) (by decide) ?_
      refine lv_aload_n hx hb dX8_stack_74 rfl (lv_at hl 0 rfl) ?_
      refine e_8_0 hx hb hts hown hK hH (hts _ wd_101) dX8_stack_75 ?_
      refine lv_aload_n hx hb dX8_stack_78 rfl (lv_at hl 0 rfl) ?_
      refine lv_iload_n hx hb dX8_stack_79 rfl (lv_at hl 1 rfl) ?_
      obtain ⟨v17, h18, hf⟩ := gbind hf
      refine g_Vi (As := [.int p0]) (rest := [.ref (w.2.2.2 + 1)]) ⟨hx, hb, hml, hown, hts⟩ (c8_frame l w K g S p0 v17 h18) (gcwV hts i8_frame wd_364 rfl rfl ⟨Nat.le_of_ble_eq_true rfl, Nat.le_of_ble_eq_true rfl⟩) (gRecv.of hK rfl hH.ob) hH hK hS hl.1 rfl rfl (Nat.le_of_ble_eq_true rfl) dX8_stack_80 ⟨Nat.le_refl _, Nat.le_refl _⟩ (fun H locs hH hS => ?_)
      refine lv_iconst (v := 2) hx hb dX8_stack_83 (by decide) ?_
      refine lv_iadd hx hb dX8_stack_84 ?_
      obtain ⟨h20, hf⟩ := gd_some hf
      refine m_iald hx hb hK hH 1 (by decide) (by decide) rfl h20 dX8_stack_85 ?_
      have ho := Option.some.inj hf
      exact W.iret (v := (S 1 (v17 + 2).toNatClampNeg)) hx hb hr (fun t ht hW => ⟨⟨(S 1 (v17 + 2).toNatClampNeg), (), rfl, ho, hrE ht hH⟩, hS.F ht⟩) hS.2.2 dX8_stack_86
    have hf := hg.2 c16
    have hg := gif hf
    by_cases c21 : p1 = 3
    · have hf := hg.1 c21
      refine lv_tableIn (off := 68) (tgt := 87) hx hb dX8_stack_19 (by rw [c21]; decide) (by rw [c21]; decide) (by rw [c21]; decide +kernel) (by decide) ?_
      refine lv_aload_n hx hb dX8_stack_87 rfl (lv_at hl 0 rfl) ?_
      refine e_8_0 hx hb hts hown hK hH (hts _ wd_101) dX8_stack_88 ?_
      refine lv_aload_n hx hb dX8_stack_91 rfl (lv_at hl 0 rfl) ?_
      refine lv_iload_n hx hb dX8_stack_92 rfl (lv_at hl 1 rfl) ?_
      obtain ⟨v22, h23, hf⟩ := gbind hf
      refine g_Vi (As := [.int p0]) (rest := [.ref (w.2.2.2 + 1)]) ⟨hx, hb, hml, hown, hts⟩ (c8_frame l w K g S p0 v22 h23) (gcwV hts i8_frame wd_364 rfl rfl ⟨Nat.le_of_ble_eq_true rfl, Nat.le_of_ble_eq_true rfl⟩) (gRecv.of hK rfl hH.ob) hH hK hS hl.1 rfl rfl (Nat.le_of_ble_eq_true rfl) dX8_stack_93 ⟨Nat.le_refl _, Nat.le_refl _⟩ (fun H locs hH hS => ?_)
      refine lv_iconst (v := 4) hx hb dX8_stack_96 (by decide) ?_
      refine lv_iadd hx hb dX8_stack_97 ?_
      obtain ⟨h25, hf⟩ := gd_some hf
      refine m_iald hx hb hK hH 1 (by decide) (by decide) rfl h25 dX8_stack_98 ?_
      have ho := Option.some.inj hf
      exact W.iret (v := (S 1 (v22 + 4).toNatClampNeg)) hx hb hr (fun t ht hW => ⟨⟨(S 1 (v22 + 4).toNatClampNeg), (), rfl, ho, hrE ht hH⟩, hS.F ht⟩) hS.2.2 dX8_stack_99
    have hf := hg.2 c21
    have nc6 : p1.toInt ≠ 0 := g_ne c6 (by decide)
    have nc11 : p1.toInt ≠ 1 := g_ne c11 (by decide)
    have nc16 : p1.toInt ≠ 2 := g_ne c16 (by decide)
    have nc21 : p1.toInt ≠ 3 := g_ne c21 (by decide)
    refine lv_tableOut (tgt := 100) hx hb dX8_stack_19 (by omega) (by decide) ?_
    refine lv_bipush (v := (-2)) hx hb dX8_stack_100 (by decide) ?_
    have ho := Option.some.inj hf
    exact W.iret (v := (-2)) hx hb hr (fun t ht hW => ⟨⟨(-2), (), rfl, ho, hrE ht hH⟩, hS.F ht⟩) hS.2.2 dX8_stack_102
  · have hf := hg.1 c5
    refine lv_iconst (v := (-1)) hx hb dX8_stack_16 (by decide) ?_
    have ho := Option.some.inj hf
    exact W.iret (v := (-1)) hx hb hr (fun t ht hW => ⟨⟨(-1), (), rfl, ho, hrE ht hH⟩, hS.F ht⟩) hS.2.2 dX8_stack_17
set_option maxRecDepth 100000 in
set_option maxHeartbeats 8000000 in
theorem c8_tellsStop (l : Launch) (w : GW) (K : GK) (g : GM) (S : GS) (p0 : Int32) (out : GS × Int32) (hf : f8_tellsStop S p0 = some out) : Met l yX8_tellsStop (wA yX8_tellsStop cX8_tellsStop 5 (some .int)) ({ frames := 9, cells := 0, slots := 0, locals := 193 } : Room) (PRE w K g S [.ref w.2.2.2, .int p0]) (QI w K g out.1 out.2) 0 0 (FR w) := by
  unfold f8_tellsStop at hf
  refine Met.ofW (cc := cX8_tellsStop) (maxL := 5) (ret := (some .int)) (by decide) rfl ?_
  intro p e s m args below meth c s₁ B hml hv
  obtain ⟨rfl, hH, hK⟩ := hv
  have hx := B.exec
  have hb := B.bytes
  have hr := B.returns
  have hts : ∀ q ∈ gALL, q.before _ s = true := fun q h => atoms_spec (ws := (wA yX8_tellsStop cX8_tellsStop 5 (some .int))) B.pre q (List.mem_cons_of_mem _ h)
  have hown : s.vm.findClass RX8 = some m.cls := findClass_of_methodNamed B.named
  have hlocks := B.notSynchronized
  have hS : va_S (FR w) s.heap s.heap [] := va_S.rf
  show W p l e ({ frames := 9, cells := 0, slots := 0, locals := 193 } : Room) s m _ below meth c s.heap [] 0 0 (MQ below (QI w K g out.1 out.2) _ s 0 0 (FR w)) _
  have hl := lv_entry ([.ref w.2.2.2, .int p0]) (n := 5) (Nat.le_of_ble_eq_true rfl)
  rw [lg_entry_eq]
  generalize (lg_sl ([.ref w.2.2.2, .int p0]) ++ List.replicate (5 - (lg_sl ([.ref w.2.2.2, .int p0])).length) Slot.unset).toArray = ls at hl ⊢
  clear B
  generalize ([.ref w.2.2.2, .int p0] : List Value).toArray = args at hts ⊢
  have B39 : ∀ (S : GS) (x2 : Int32) (x3 : Int32) (s0 : Int32) (H : Heap) (locs : List Loc) (ls : Array Slot), HR w K g S H → va_S (FR w) s.heap H locs → lv_has ls 5 [(0, .ref w.2.2.2), (1, .int p0), (2, .int x2), (3, .int x3)] → f8_tellsStop_39 p0 S x2 x3 s0 = some out → W p l e ({ frames := 9, cells := 0, slots := 0, locals := 193 } : Room) s m args below meth c H locs 0 0 (MQ below (QI w K g out.1 out.2) args s 0 0 (FR w)) (F0 m 39 ls [.int s0]) := by
    intro  S x2 x3 s0 H locs ls hH hS hl hf
    unfold f8_tellsStop_39 at hf
    refine lv_istore (lv' := [(4, .int s0), (0, .ref w.2.2.2), (1, .int p0), (2, .int x2), (3, .int x3)]) hx hb dX8_tellsStop_39 hl (by decide) rfl (fun ls hl => ?_)
    refine lv_aload_n hx hb dX8_tellsStop_41 rfl (lv_at hl 1 rfl) ?_
    obtain ⟨g1, h2, hf⟩ := gbind hf
    refine g_Vv (As := []) (rest := []) ⟨hx, hb, hml, hown, hts⟩ (c8_takeBack l w K g S g1 h2) (gcwV hts i8_takeBack wd_853 rfl rfl ⟨Nat.le_of_ble_eq_true rfl, Nat.le_of_ble_eq_true rfl⟩) (gRecv.of hK rfl hH.ob) hH hK hS hl.1 rfl rfl (Nat.le_of_ble_eq_true rfl) dX8_tellsStop_42 ⟨Nat.le_refl _, Nat.le_refl _⟩ (fun H locs hH hS => ?_)
    refine lv_iload_n hx hb dX8_tellsStop_45 rfl (lv_at hl 4 rfl) ?_
    have hg := gif hf
    refine lv_if_ne (tgt := 54) hx hb dX8_tellsStop_46 (by decide) (fun c3 => ?_) (fun c3 => ?_)
    · have hf := hg.2 c3
      refine lv_iload_n hx hb dX8_tellsStop_54 rfl (lv_at hl 2 rfl) ?_
      have hg := gif hf
      refine lv_if_ne (tgt := 62) hx hb dX8_tellsStop_55 (by decide) (fun c4 => ?_) (fun c4 => ?_)
      · have hf := hg.2 c4
        refine lv_iload_n hx hb dX8_tellsStop_62 rfl (lv_at hl 2 rfl) ?_
        refine lv_iconst (v := 1) hx hb dX8_tellsStop_63 (by decide) ?_
        have hg := gif hf
        refine lv_icmp_ne (tgt := 71) hx hb dX8_tellsStop_64 (by decide) (fun c5 => ?_) (fun c5 => ?_)
        · have hf := hg.2 c5
          refine lv_iload hx hb dX8_tellsStop_71 (lv_at hl 0 rfl) ?_
          have ho := Option.some.inj hf
          exact W.iret (v := s0) hx hb hr (fun t ht hW => ⟨⟨s0, (), rfl, congrArg Prod.snd ho, hrPm ht ho hH⟩, hS.F ht⟩) hS.2.2 dX8_tellsStop_73
        · have hf := hg.1 c5
          refine lv_iload_n hx hb dX8_tellsStop_67 rfl (lv_at hl 4 rfl) ?_
          refine lv_goto (tgt := 73) hx hb dX8_tellsStop_68 (by decide) ?_
          have ho := Option.some.inj hf
          exact W.iret (v := x3) hx hb hr (fun t ht hW => ⟨⟨x3, (), rfl, congrArg Prod.snd ho, hrPm ht ho hH⟩, hS.F ht⟩) hS.2.2 dX8_tellsStop_73
      · have hf := hg.1 c4
        refine lv_iload_n hx hb dX8_tellsStop_58 rfl (lv_at hl 3 rfl) ?_
        refine lv_goto (tgt := 73) hx hb dX8_tellsStop_59 (by decide) ?_
        have ho := Option.some.inj hf
        exact W.iret (v := x2) hx hb hr (fun t ht hW => ⟨⟨x2, (), rfl, congrArg Prod.snd ho, hrPm ht ho hH⟩, hS.F ht⟩) hS.2.2 dX8_tellsStop_73
    · have hf := hg.1 c3
      refine lv_bipush (v := (-6)) hx hb dX8_tellsStop_49 (by decide) ?_
      refine lv_goto (tgt := 73) hx hb dX8_tellsStop_51 (by decide) ?_
      have ho := Option.some.inj hf
      exact W.iret (v := (-6)) hx hb hr (fun t ht hW => ⟨⟨(-6), (), rfl, congrArg Prod.snd ho, hrPm ht ho hH⟩, hS.F ht⟩) hS.2.2 dX8_tellsStop_73
  have hl : lv_has ls 5 [(0, .ref w.2.2.2), (1, .int p0)] := hl
  refine lv_aload_n hx hb dX8_tellsStop_0 rfl (lv_at hl 0 rfl) ?_
  obtain ⟨g6, h7, hf⟩ := gbind hf
  refine g_Vv (As := []) (rest := []) ⟨hx, hb, hml, hown, hts⟩ (c8_putAside l w K g S g6 h7) (gcwV hts i8_putAside wd_165 rfl rfl ⟨Nat.le_of_ble_eq_true rfl, Nat.le_of_ble_eq_true rfl⟩) (gRecv.of hK rfl hH.ob) hH hK hS hl.1 rfl rfl (Nat.le_of_ble_eq_true rfl) dX8_tellsStop_1 ⟨Nat.le_refl _, Nat.le_refl _⟩ (fun H locs hH hS => ?_)
  refine lv_aload_n hx hb dX8_tellsStop_4 rfl (lv_at hl 0 rfl) ?_
  refine lv_sipush (v := 999) hx hb dX8_tellsStop_5 (by decide) ?_
  obtain ⟨r8, h9, hf⟩ := gbind hf
  refine g_Vi (As := [.int 999]) (rest := []) ⟨hx, hb, hml, hown, hts⟩ (c8_weaves l w K g g6 999 r8 h9) (gcwV hts i8_weaves wd_457 rfl rfl ⟨Nat.le_of_ble_eq_true rfl, Nat.le_of_ble_eq_true rfl⟩) (gRecv.of hK rfl hH.ob) hH hK hS hl.1 rfl rfl (Nat.le_of_ble_eq_true rfl) dX8_tellsStop_8 ⟨Nat.le_refl _, Nat.le_refl _⟩ (fun H locs hH hS => ?_)
  refine lv_istore_n (lv' := [(2, .int r8.2), (0, .ref w.2.2.2), (1, .int p0)]) hx hb dX8_tellsStop_11 rfl hl (by decide) rfl (fun ls hl => ?_)
  refine lv_aload_n hx hb dX8_tellsStop_12 rfl (lv_at hl 1 rfl) ?_
  refine e_8_0 hx hb hts hown hK hH (hts _ wd_101) dX8_tellsStop_13 ?_
  refine lv_bipush (v := 8) hx hb dX8_tellsStop_16 (by decide) ?_
  obtain ⟨h11, hf⟩ := gd_some hf
  refine m_iald hx hb hK hH 1 (by decide) (by decide) rfl h11 dX8_tellsStop_18 ?_
  refine lv_topi (fun v12 ev12 => ?_)
  have hf := gl_at hf ev12
  refine lv_istore_n (lv' := [(3, .int v12), (2, .int r8.2), (0, .ref w.2.2.2), (1, .int p0)]) hx hb dX8_tellsStop_19 rfl hl (by decide) rfl (fun ls hl => ?_)
  refine lv_aload_n hx hb dX8_tellsStop_20 rfl (lv_at hl 2 rfl) ?_
  refine e_8_0 hx hb hts hown hK hH (hts _ wd_101) dX8_tellsStop_21 ?_
  refine lv_iconst (v := 3) hx hb dX8_tellsStop_24 (by decide) ?_
  obtain ⟨h14, hf⟩ := gd_some hf
  refine m_iald hx hb hK hH 1 (by decide) (by decide) rfl h14 dX8_tellsStop_25 ?_
  have hg := gif hf
  refine lv_if_ne (tgt := 34) hx hb dX8_tellsStop_26 (by decide) (fun c15 => ?_) (fun c15 => ?_)
  · have hf := hg.2 c15
    refine lv_aload_n hx hb dX8_tellsStop_34 rfl (lv_at hl 2 rfl) ?_
    refine lv_iconst (v := 0) hx hb dX8_tellsStop_35 (by decide) ?_
    obtain ⟨v16, h17, hf⟩ := gbind hf
    refine g_Vi (As := [.int 0]) (rest := []) ⟨hx, hb, hml, hown, hts⟩ (c8_onTop l w K g r8.1 0 v16 h17) (gcwV hts i8_onTop wd_465 rfl rfl ⟨Nat.le_of_ble_eq_true rfl, Nat.le_of_ble_eq_true rfl⟩) (gRecv.of hK rfl hH.ob) hH hK hS hl.1 rfl rfl (Nat.le_of_ble_eq_true rfl) dX8_tellsStop_36 ⟨Nat.le_refl _, Nat.le_refl _⟩ (fun H locs hH hS => ?_)
    exact B39 _ _ _ _ _ _ _ hH hS (lv_sub hl [2, 3, 1, 0] rfl) hf
  · have hf := hg.1 c15
    refine lv_bipush (v := (-6)) hx hb dX8_tellsStop_29 (by decide) ?_
    refine lv_goto (tgt := 39) hx hb dX8_tellsStop_31 (by decide) ?_
    exact B39 _ _ _ _ _ _ _ hH hS (lv_sub hl [2, 3, 1, 0] rfl) hf
set_option maxRecDepth 100000 in
set_option maxHeartbeats 8000000 in
theorem c8_stop (l : Launch) (w : GW) (K : GK) (g : GM) (S : GS) (p0 : Int32) (out : GS × Int32) (hf : f8_stop S p0 = some out) : Met l yX8_stop (wA yX8_stop cX8_stop 2 (some .int)) ({ frames := 10, cells := 0, slots := 0, locals := 217 } : Room) (PRE w K g S [.ref w.2.2.2, .int p0]) (QI w K g out.1 out.2) 0 0 (FR w) := by
  unfold f8_stop at hf
  refine Met.ofW (cc := cX8_stop) (maxL := 2) (ret := (some .int)) (by decide) rfl ?_
  intro p e s m args below meth c s₁ B hml hv
  obtain ⟨rfl, hH, hK⟩ := hv
  have hx := B.exec
  have hb := B.bytes
  have hr := B.returns
  have hts : ∀ q ∈ gALL, q.before _ s = true := fun q h => atoms_spec (ws := (wA yX8_stop cX8_stop 2 (some .int))) B.pre q (List.mem_cons_of_mem _ h)
  have hown : s.vm.findClass RX8 = some m.cls := findClass_of_methodNamed B.named
  have hlocks := B.notSynchronized
  have hS : va_S (FR w) s.heap s.heap [] := va_S.rf
  show W p l e ({ frames := 10, cells := 0, slots := 0, locals := 217 } : Room) s m _ below meth c s.heap [] 0 0 (MQ below (QI w K g out.1 out.2) _ s 0 0 (FR w)) _
  have hl := lv_entry ([.ref w.2.2.2, .int p0]) (n := 2) (Nat.le_of_ble_eq_true rfl)
  rw [lg_entry_eq]
  generalize (lg_sl ([.ref w.2.2.2, .int p0]) ++ List.replicate (2 - (lg_sl ([.ref w.2.2.2, .int p0])).length) Slot.unset).toArray = ls at hl ⊢
  clear B
  generalize ([.ref w.2.2.2, .int p0] : List Value).toArray = args at hts ⊢
  have hl : lv_has ls 2 [(0, .ref w.2.2.2), (1, .int p0)] := hl
  refine lv_iload_n hx hb dX8_stop_0 rfl (lv_at hl 1 rfl) ?_
  refine lv_iconst (v := 0) hx hb dX8_stop_1 (by decide) ?_
  refine lv_iconst (v := 2) hx hb dX8_stop_2 (by decide) ?_
  obtain ⟨v1, h2, hf⟩ := gbind hf
  refine g_Si (As := [.int p0, .int 0, .int 2]) (rest := []) ⟨hx, hb, hml, hown, hts⟩ (c8_within l w K g S p0 0 2 v1 h2) (gcwS hts i8_within wd_155 rfl rfl ⟨Nat.le_of_ble_eq_true rfl, Nat.le_of_ble_eq_true rfl⟩) hH hK hS hl.1 rfl rfl (Nat.le_of_ble_eq_true rfl) dX8_stop_3 ⟨Nat.le_refl _, Nat.le_refl _⟩ (fun H locs hH hS => ?_)
  have hg := gif hf
  refine lv_if_eq (tgt := 17) hx hb dX8_stop_6 (by decide) (fun c3 => ?_) (fun c3 => ?_)
  · have hf := hg.1 c3
    refine lv_bipush (v := (-2)) hx hb dX8_stop_17 (by decide) ?_
    have ho := Option.some.inj hf
    exact W.iret (v := (-2)) hx hb hr (fun t ht hW => ⟨⟨(-2), (), rfl, congrArg Prod.snd ho, hrPm ht ho hH⟩, hS.F ht⟩) hS.2.2 dX8_stop_19
  · have hf := hg.2 c3
    refine lv_aload_n hx hb dX8_stop_9 rfl (lv_at hl 0 rfl) ?_
    refine lv_iload_n hx hb dX8_stop_10 rfl (lv_at hl 1 rfl) ?_
    obtain ⟨r4, h5, hf⟩ := gbind hf
    refine g_Vi (As := [.int p0]) (rest := []) ⟨hx, hb, hml, hown, hts⟩ (c8_tellsStop l w K g S p0 r4 h5) (gcwV hts i8_tellsStop wd_849 rfl rfl ⟨Nat.le_of_ble_eq_true rfl, Nat.le_of_ble_eq_true rfl⟩) (gRecv.of hK rfl hH.ob) hH hK hS hl.1 rfl rfl (Nat.le_of_ble_eq_true rfl) dX8_stop_11 ⟨Nat.le_refl _, Nat.le_refl _⟩ (fun H locs hH hS => ?_)
    refine lv_goto (tgt := 19) hx hb dX8_stop_14 (by decide) ?_
    have ho := Option.some.inj hf
    exact W.iret (v := r4.2) hx hb hr (fun t ht hW => ⟨⟨r4.2, (), rfl, congrArg Prod.snd ho, hrPm ht ho hH⟩, hS.F ht⟩) hS.2.2 dX8_stop_19
set_option maxRecDepth 100000 in
set_option maxHeartbeats 8000000 in
theorem c8_thread (l : Launch) (w : GW) (K : GK) (g : GM) (S : GS) (p0 : Int32) (p1 : Int32) (out : Int32) (hf : f8_thread S p0 p1 = some out) : Met l yX8_thread (wA yX8_thread cX8_thread 3 (some .int)) ({ frames := 2, cells := 0, slots := 0, locals := 42 } : Room) (PRE w K g S [.ref w.2.2.2, .int p0, .int p1]) (QI w K g S out) 0 0 (FR w) := by
  unfold f8_thread at hf
  refine Met.ofW (cc := cX8_thread) (maxL := 3) (ret := (some .int)) (by decide) rfl ?_
  intro p e s m args below meth c s₁ B hml hv
  obtain ⟨rfl, hH, hK⟩ := hv
  have hx := B.exec
  have hb := B.bytes
  have hr := B.returns
  have hts : ∀ q ∈ gALL, q.before _ s = true := fun q h => atoms_spec (ws := (wA yX8_thread cX8_thread 3 (some .int))) B.pre q (List.mem_cons_of_mem _ h)
  have hown : s.vm.findClass RX8 = some m.cls := findClass_of_methodNamed B.named
  have hlocks := B.notSynchronized
  have hS : va_S (FR w) s.heap s.heap [] := va_S.rf
  show W p l e ({ frames := 2, cells := 0, slots := 0, locals := 42 } : Room) s m _ below meth c s.heap [] 0 0 (MQ below (QI w K g S out) _ s 0 0 (FR w)) _
  have hl := lv_entry ([.ref w.2.2.2, .int p0, .int p1]) (n := 3) (Nat.le_of_ble_eq_true rfl)
  rw [lg_entry_eq]
  generalize (lg_sl ([.ref w.2.2.2, .int p0, .int p1]) ++ List.replicate (3 - (lg_sl ([.ref w.2.2.2, .int p0, .int p1])).length) Slot.unset).toArray = ls at hl ⊢
  clear B
  generalize ([.ref w.2.2.2, .int p0, .int p1] : List Value).toArray = args at hts ⊢
  have hl : lv_has ls 3 [(0, .ref w.2.2.2), (1, .int p0), (2, .int p1)] := hl
  refine lv_iload_n hx hb dX8_thread_0 rfl (lv_at hl 1 rfl) ?_
  obtain ⟨v1, h2, hf⟩ := gbind hf
  refine g_Si (As := [.int p0]) (rest := []) ⟨hx, hb, hml, hown, hts⟩ (c8_isColour l w K g S p0 v1 h2) (gcwS hts i8_isColour wd_553 rfl rfl ⟨Nat.le_of_ble_eq_true rfl, Nat.le_of_ble_eq_true rfl⟩) hH hK hS hl.1 rfl rfl (Nat.le_of_ble_eq_true rfl) dX8_thread_1 ⟨Nat.le_refl _, Nat.le_refl _⟩ (fun H locs hH hS => ?_)
  have hg := gif hf
  refine lv_if_ne (tgt := 9) hx hb dX8_thread_4 (by decide) (fun c3 => ?_) (fun c3 => ?_)
  · have hf := hg.2 c3
    refine lv_iload_n hx hb dX8_thread_9 rfl (lv_at hl 2 rfl) ?_
    have hg := gif hf
    by_cases c4 : p1 = 0
    · have hf := hg.1 c4
      refine lv_tableIn (off := 38) (tgt := 48) hx hb dX8_thread_10 (by rw [c4]; decide) (by rw [c4]; decide) (by rw [c4]; decide +kernel) (by decide) ?_
      refine lv_aload_n hx hb dX8_thread_48 rfl (lv_at hl 0 rfl) ?_
      refine e_8_0 hx hb hts hown hK hH (hts _ wd_101) dX8_thread_49 ?_
      refine lv_bipush (v := 19) hx hb dX8_thread_52 (by decide) ?_
      refine lv_bipush (v := 6) hx hb dX8_thread_54 (by decide) ?_
      refine lv_iload_n hx hb dX8_thread_56 rfl (lv_at hl 2 rfl) ?_
      refine lv_imul hx hb dX8_thread_57 ?_
      refine lv_iadd hx hb dX8_thread_58 ?_
      refine lv_iload_n hx hb dX8_thread_59 rfl (lv_at hl 1 rfl) ?_
      refine lv_iadd hx hb dX8_thread_60 ?_
      obtain ⟨h6, hf⟩ := gd_some hf
      refine m_iald hx hb hK hH 1 (by decide) (by decide) rfl h6 dX8_thread_61 ?_
      have ho := Option.some.inj hf
      exact W.iret (v := (S 1 ((19 + (6 * p1)) + p0).toNatClampNeg)) hx hb hr (fun t ht hW => ⟨⟨(S 1 ((19 + (6 * p1)) + p0).toNatClampNeg), (), rfl, ho, hrE ht hH⟩, hS.F ht⟩) hS.2.2 dX8_thread_62
    have hf := hg.2 c4
    have hg := gif hf
    by_cases c7 : p1 = 1
    · have hf := hg.1 c7
      refine lv_tableIn (off := 38) (tgt := 48) hx hb dX8_thread_10 (by rw [c7]; decide) (by rw [c7]; decide) (by rw [c7]; decide +kernel) (by decide) ?_
      refine lv_aload_n hx hb dX8_thread_48 rfl (lv_at hl 0 rfl) ?_
      refine e_8_0 hx hb hts hown hK hH (hts _ wd_101) dX8_thread_49 ?_
      refine lv_bipush (v := 19) hx hb dX8_thread_52 (by decide) ?_
      refine lv_bipush (v := 6) hx hb dX8_thread_54 (by decide) ?_
      refine lv_iload_n hx hb dX8_thread_56 rfl (lv_at hl 2 rfl) ?_
      refine lv_imul hx hb dX8_thread_57 ?_
      refine lv_iadd hx hb dX8_thread_58 ?_
      refine lv_iload_n hx hb dX8_thread_59 rfl (lv_at hl 1 rfl) ?_
      refine lv_iadd hx hb dX8_thread_60 ?_
      obtain ⟨h9, hf⟩ := gd_some hf
      refine m_iald hx hb hK hH 1 (by decide) (by decide) rfl h9 dX8_thread_61 ?_
      have ho := Option.some.inj hf
      exact W.iret (v := (S 1 ((19 + (6 * p1)) + p0).toNatClampNeg)) hx hb hr (fun t ht hW => ⟨⟨(S 1 ((19 + (6 * p1)) + p0).toNatClampNeg), (), rfl, ho, hrE ht hH⟩, hS.F ht⟩) hS.2.2 dX8_thread_62
    have hf := hg.2 c7
    have hg := gif hf
    by_cases c10 : p1 = 2
    · have hf := hg.1 c10
      refine lv_tableIn (off := 38) (tgt := 48) hx hb dX8_thread_10 (by rw [c10]; decide) (by rw [c10]; decide) (by rw [c10]; decide +kernel) (by decide) ?_
      refine lv_aload_n hx hb dX8_thread_48 rfl (lv_at hl 0 rfl) ?_
      refine e_8_0 hx hb hts hown hK hH (hts _ wd_101) dX8_thread_49 ?_
      refine lv_bipush (v := 19) hx hb dX8_thread_52 (by decide) ?_
      refine lv_bipush (v := 6) hx hb dX8_thread_54 (by decide) ?_
      refine lv_iload_n hx hb dX8_thread_56 rfl (lv_at hl 2 rfl) ?_
      refine lv_imul hx hb dX8_thread_57 ?_
      refine lv_iadd hx hb dX8_thread_58 ?_
      refine lv_iload_n hx hb dX8_thread_59 rfl (lv_at hl 1 rfl) ?_
      refine lv_iadd hx hb dX8_thread_60 ?_
      obtain ⟨h12, hf⟩ := gd_some hf
      refine m_iald hx hb hK hH 1 (by decide) (by decide) rfl h12 dX8_thread_61 ?_
      have ho := Option.some.inj hf
      exact W.iret (v := (S 1 ((19 + (6 * p1)) + p0).toNatClampNeg)) hx hb hr (fun t ht hW => ⟨⟨(S 1 ((19 + (6 * p1)) + p0).toNatClampNeg), (), rfl, ho, hrE ht hH⟩, hS.F ht⟩) hS.2.2 dX8_thread_62
    have hf := hg.2 c10
    have hg := gif hf
    by_cases c13 : p1 = 3
    · have hf := hg.1 c13
      refine lv_tableIn (off := 38) (tgt := 48) hx hb dX8_thread_10 (by rw [c13]; decide) (by rw [c13]; decide) (by rw [c13]; decide +kernel) (by decide) ?_
      refine lv_aload_n hx hb dX8_thread_48 rfl (lv_at hl 0 rfl) ?_
      refine e_8_0 hx hb hts hown hK hH (hts _ wd_101) dX8_thread_49 ?_
      refine lv_bipush (v := 19) hx hb dX8_thread_52 (by decide) ?_
      refine lv_bipush (v := 6) hx hb dX8_thread_54 (by decide) ?_
      refine lv_iload_n hx hb dX8_thread_56 rfl (lv_at hl 2 rfl) ?_
      refine lv_imul hx hb dX8_thread_57 ?_
      refine lv_iadd hx hb dX8_thread_58 ?_
      refine lv_iload_n hx hb dX8_thread_59 rfl (lv_at hl 1 rfl) ?_
      refine lv_iadd hx hb dX8_thread_60 ?_
      obtain ⟨h15, hf⟩ := gd_some hf
      refine m_iald hx hb hK hH 1 (by decide) (by decide) rfl h15 dX8_thread_61 ?_
      have ho := Option.some.inj hf
      exact W.iret (v := (S 1 ((19 + (6 * p1)) + p0).toNatClampNeg)) hx hb hr (fun t ht hW => ⟨⟨(S 1 ((19 + (6 * p1)) + p0).toNatClampNeg), (), rfl, ho, hrE ht hH⟩, hS.F ht⟩) hS.2.2 dX8_thread_62
    have hf := hg.2 c13
    have hg := gif hf
    by_cases c16 : p1 = 4
    · have hf := hg.1 c16
      refine lv_tableIn (off := 53) (tgt := 63) hx hb dX8_thread_10 (by rw [c16]; decide) (by rw [c16]; decide) (by rw [c16]; decide +kernel) (by decide) ?_
      refine lv_aload_n hx hb dX8_thread_63 rfl (lv_at hl 0 rfl) ?_
      refine lv_iload_n hx hb dX8_thread_64 rfl (lv_at hl 1 rfl) ?_
      obtain ⟨v17, h18, hf⟩ := gbind hf
      refine g_Vi (As := [.int p0]) (rest := []) ⟨hx, hb, hml, hown, hts⟩ (c8_inCloth l w K g S p0 v17 h18) (gcwV hts i8_inCloth wd_624 rfl rfl ⟨Nat.le_of_ble_eq_true rfl, Nat.le_of_ble_eq_true rfl⟩) (gRecv.of hK rfl hH.ob) hH hK hS hl.1 rfl rfl (Nat.le_of_ble_eq_true rfl) dX8_thread_65 ⟨Nat.le_refl _, Nat.le_refl _⟩ (fun H locs hH hS => ?_)
      have ho := Option.some.inj hf
      exact W.iret (v := v17) hx hb hr (fun t ht hW => ⟨⟨v17, (), rfl, ho, hrE ht hH⟩, hS.F ht⟩) hS.2.2 dX8_thread_68
    have hf := hg.2 c16
    have hg := gif hf
    by_cases c19 : p1 = 5
    · have hf := hg.1 c19
      refine lv_tableIn (off := 59) (tgt := 69) hx hb dX8_thread_10 (by rw [c19]; decide) (by rw [c19]; decide) (by rw [c19]; decide +kernel) (by decide) ?_
      refine lv_aload_n hx hb dX8_thread_69 rfl (lv_at hl 0 rfl) ?_
      refine lv_iload_n hx hb dX8_thread_70 rfl (lv_at hl 1 rfl) ?_
      obtain ⟨v20, h21, hf⟩ := gbind hf
      refine g_Vi (As := [.int p0]) (rest := []) ⟨hx, hb, hml, hown, hts⟩ (c8_longestRow l w K g S p0 v20 h21) (gcwV hts i8_longestRow wd_628 rfl rfl ⟨Nat.le_of_ble_eq_true rfl, Nat.le_of_ble_eq_true rfl⟩) (gRecv.of hK rfl hH.ob) hH hK hS hl.1 rfl rfl (Nat.le_of_ble_eq_true rfl) dX8_thread_71 ⟨Nat.le_refl _, Nat.le_refl _⟩ (fun H locs hH hS => ?_)
      have ho := Option.some.inj hf
      exact W.iret (v := v20) hx hb hr (fun t ht hW => ⟨⟨v20, (), rfl, ho, hrE ht hH⟩, hS.F ht⟩) hS.2.2 dX8_thread_74
    have hf := hg.2 c19
    have nc4 : p1.toInt ≠ 0 := g_ne c4 (by decide)
    have nc7 : p1.toInt ≠ 1 := g_ne c7 (by decide)
    have nc10 : p1.toInt ≠ 2 := g_ne c10 (by decide)
    have nc13 : p1.toInt ≠ 3 := g_ne c13 (by decide)
    have nc16 : p1.toInt ≠ 4 := g_ne c16 (by decide)
    have nc19 : p1.toInt ≠ 5 := g_ne c19 (by decide)
    refine lv_tableOut (tgt := 75) hx hb dX8_thread_10 (by omega) (by decide) ?_
    refine lv_bipush (v := (-2)) hx hb dX8_thread_75 (by decide) ?_
    have ho := Option.some.inj hf
    exact W.iret (v := (-2)) hx hb hr (fun t ht hW => ⟨⟨(-2), (), rfl, ho, hrE ht hH⟩, hS.F ht⟩) hS.2.2 dX8_thread_77
  · have hf := hg.1 c3
    refine lv_iconst (v := (-1)) hx hb dX8_thread_7 (by decide) ?_
    have ho := Option.some.inj hf
    exact W.iret (v := (-1)) hx hb hr (fun t ht hW => ⟨⟨(-1), (), rfl, ho, hrE ht hH⟩, hS.F ht⟩) hS.2.2 dX8_thread_8
set_option maxRecDepth 100000 in
set_option maxHeartbeats 8000000 in
theorem c8_tie (l : Launch) (w : GW) (K : GK) (g : GM) (S : GS) (p0 : Int32) (p1 : Int32) (out : GS × Int32) (hf : f8_tie S p0 p1 = some out) : Met l yX8_tie (wA yX8_tie cX8_tie 4 (some .int)) ({ frames := 2, cells := 0, slots := 0, locals := 42 } : Room) (PRE w K g S [.ref w.2.2.2, .int p0, .int p1]) (QI w K g out.1 out.2) 0 0 (FR w) := by
  unfold f8_tie at hf
  refine Met.ofW (cc := cX8_tie) (maxL := 4) (ret := (some .int)) (by decide) rfl ?_
  intro p e s m args below meth c s₁ B hml hv
  obtain ⟨rfl, hH, hK⟩ := hv
  have hx := B.exec
  have hb := B.bytes
  have hr := B.returns
  have hts : ∀ q ∈ gALL, q.before _ s = true := fun q h => atoms_spec (ws := (wA yX8_tie cX8_tie 4 (some .int))) B.pre q (List.mem_cons_of_mem _ h)
  have hown : s.vm.findClass RX8 = some m.cls := findClass_of_methodNamed B.named
  have hlocks := B.notSynchronized
  have hS : va_S (FR w) s.heap s.heap [] := va_S.rf
  show W p l e ({ frames := 2, cells := 0, slots := 0, locals := 42 } : Room) s m _ below meth c s.heap [] 0 0 (MQ below (QI w K g out.1 out.2) _ s 0 0 (FR w)) _
  have hl := lv_entry ([.ref w.2.2.2, .int p0, .int p1]) (n := 4) (Nat.le_of_ble_eq_true rfl)
  rw [lg_entry_eq]
  generalize (lg_sl ([.ref w.2.2.2, .int p0, .int p1]) ++ List.replicate (4 - (lg_sl ([.ref w.2.2.2, .int p0, .int p1])).length) Slot.unset).toArray = ls at hl ⊢
  clear B
  generalize ([.ref w.2.2.2, .int p0, .int p1] : List Value).toArray = args at hts ⊢
  have B60 : ∀ (S : GS) (s1 : Int32) (s2 : Int32) (H : Heap) (locs : List Loc) (ls : Array Slot), HR w K g S H → va_S (FR w) s.heap H locs → lv_has ls 4 [(0, .ref w.2.2.2), (1, .int p0)] → f8_tie_60 p0 p1 S s1 s2 = some out → W p l e ({ frames := 2, cells := 0, slots := 0, locals := 42 } : Room) s m args below meth c H locs 0 0 (MQ below (QI w K g out.1 out.2) args s 0 0 (FR w)) (F0 m 60 ls [.int s2, .int s1, .ref (w.2.2.2 + 1)]) := by
    intro  S s1 s2 H locs ls hH hS hl hf
    unfold f8_tie_60 at hf
    obtain ⟨h2, hf⟩ := gd_some hf
    refine m_iast hx hb hK hH hS 1 (by decide) (by decide) rfl h2 dX8_tie_60 (fun H locs hH hS => ?_)
    obtain ⟨S3, eS3⟩ : ∃ z : GS, z = ssI S 1 s1.toNatClampNeg s2 := ⟨_, rfl⟩
    have hf := gl_at hf eS3
    replace hH : HR w K g S3 H := by rw [eS3]; exact hH
    refine lv_aload_n hx hb dX8_tie_61 rfl (lv_at hl 0 rfl) ?_
    refine e_8_0 hx hb hts hown hK hH (hts _ wd_101) dX8_tie_62 ?_
    refine lv_bipush (v := 25) hx hb dX8_tie_65 (by decide) ?_
    refine lv_iload_n hx hb dX8_tie_67 rfl (lv_at hl 1 rfl) ?_
    refine lv_iadd hx hb dX8_tie_68 ?_
    refine lv_iconst (v := 0) hx hb dX8_tie_69 (by decide) ?_
    obtain ⟨h5, hf⟩ := gd_some hf
    refine m_iast hx hb hK hH hS 1 (by decide) (by decide) rfl h5 dX8_tie_70 (fun H locs hH hS => ?_)
    obtain ⟨S6, eS6⟩ : ∃ z : GS, z = ssI S3 1 (25 + p0).toNatClampNeg 0 := ⟨_, rfl⟩
    have hf := gl_at hf eS6
    replace hH : HR w K g S6 H := by rw [eS6]; exact hH
    refine lv_aload_n hx hb dX8_tie_71 rfl (lv_at hl 0 rfl) ?_
    refine e_8_0 hx hb hts hown hK hH (hts _ wd_101) dX8_tie_72 ?_
    refine lv_bipush (v := 31) hx hb dX8_tie_75 (by decide) ?_
    refine lv_iload_n hx hb dX8_tie_77 rfl (lv_at hl 1 rfl) ?_
    refine lv_iadd hx hb dX8_tie_78 ?_
    refine lv_dup2_11 hx hb dX8_tie_79 rfl rfl ?_
    obtain ⟨h8, hf⟩ := gd_some hf
    refine m_iald hx hb hK hH 1 (by decide) (by decide) rfl h8 dX8_tie_80 ?_
    refine lv_iconst (v := 1) hx hb dX8_tie_81 (by decide) ?_
    refine lv_iadd hx hb dX8_tie_82 ?_
    refine m_iast hx hb hK hH hS 1 (by decide) (by decide) rfl h8 dX8_tie_83 (fun H locs hH hS => ?_)
    obtain ⟨S10, eS10⟩ : ∃ z : GS, z = ssI S6 1 (31 + p0).toNatClampNeg ((S6 1 (31 + p0).toNatClampNeg) + 1) := ⟨_, rfl⟩
    have hf := gl_at hf eS10
    replace hH : HR w K g S10 H := by rw [eS10]; exact hH
    refine lv_aload_n hx hb dX8_tie_84 rfl (lv_at hl 0 rfl) ?_
    refine e_8_0 hx hb hts hown hK hH (hts _ wd_101) dX8_tie_85 ?_
    refine lv_bipush (v := 19) hx hb dX8_tie_88 (by decide) ?_
    refine lv_iload_n hx hb dX8_tie_90 rfl (lv_at hl 1 rfl) ?_
    refine lv_iadd hx hb dX8_tie_91 ?_
    obtain ⟨h12, hf⟩ := gd_some hf
    refine m_iald hx hb hK hH 1 (by decide) (by decide) rfl h12 dX8_tie_92 ?_
    have ho := Option.some.inj hf
    exact W.iret (v := (S10 1 (19 + p0).toNatClampNeg)) hx hb hr (fun t ht hW => ⟨⟨(S10 1 (19 + p0).toNatClampNeg), (), rfl, congrArg Prod.snd ho, hrPm ht ho hH⟩, hS.F ht⟩) hS.2.2 dX8_tie_93
  have hl : lv_has ls 4 [(0, .ref w.2.2.2), (1, .int p0), (2, .int p1)] := hl
  refine lv_iload_n hx hb dX8_tie_0 rfl (lv_at hl 1 rfl) ?_
  obtain ⟨v13, h14, hf⟩ := gbind hf
  refine g_Si (As := [.int p0]) (rest := []) ⟨hx, hb, hml, hown, hts⟩ (c8_isColour l w K g S p0 v13 h14) (gcwS hts i8_isColour wd_553 rfl rfl ⟨Nat.le_of_ble_eq_true rfl, Nat.le_of_ble_eq_true rfl⟩) hH hK hS hl.1 rfl rfl (Nat.le_of_ble_eq_true rfl) dX8_tie_1 ⟨Nat.le_refl _, Nat.le_refl _⟩ (fun H locs hH hS => ?_)
  have hg := gif hf
  refine lv_if_ne (tgt := 9) hx hb dX8_tie_4 (by decide) (fun c15 => ?_) (fun c15 => ?_)
  · have hf := hg.2 c15
    refine lv_iload_n hx hb dX8_tie_9 rfl (lv_at hl 2 rfl) ?_
    refine lv_iconst (v := 1) hx hb dX8_tie_10 (by decide) ?_
    refine lv_bipush (v := 99) hx hb dX8_tie_11 (by decide) ?_
    obtain ⟨v16, h17, hf⟩ := gbind hf
    refine g_Si (As := [.int p1, .int 1, .int 99]) (rest := []) ⟨hx, hb, hml, hown, hts⟩ (c8_within l w K g S p1 1 99 v16 h17) (gcwS hts i8_within wd_155 rfl rfl ⟨Nat.le_of_ble_eq_true rfl, Nat.le_of_ble_eq_true rfl⟩) hH hK hS hl.1 rfl rfl (Nat.le_of_ble_eq_true rfl) dX8_tie_13 ⟨Nat.le_refl _, Nat.le_refl _⟩ (fun H locs hH hS => ?_)
    have hg := gif hf
    refine lv_if_ne (tgt := 22) hx hb dX8_tie_16 (by decide) (fun c18 => ?_) (fun c18 => ?_)
    · have hf := hg.2 c18
      refine lv_aload_n hx hb dX8_tie_22 rfl (lv_at hl 0 rfl) ?_
      obtain ⟨g19, h20, hf⟩ := gbind hf
      refine g_Vv (As := []) (rest := []) ⟨hx, hb, hml, hown, hts⟩ (c8_record l w K g S g19 h20) (gcwV hts i8_record wd_161 rfl rfl ⟨Nat.le_of_ble_eq_true rfl, Nat.le_of_ble_eq_true rfl⟩) (gRecv.of hK rfl hH.ob) hH hK hS hl.1 rfl rfl (Nat.le_of_ble_eq_true rfl) dX8_tie_23 ⟨Nat.le_refl _, Nat.le_refl _⟩ (fun H locs hH hS => ?_)
      refine lv_aload_n hx hb dX8_tie_26 rfl (lv_at hl 0 rfl) ?_
      refine e_8_0 hx hb hts hown hK hH (hts _ wd_101) dX8_tie_27 ?_
      refine lv_bipush (v := 19) hx hb dX8_tie_30 (by decide) ?_
      refine lv_iload_n hx hb dX8_tie_32 rfl (lv_at hl 1 rfl) ?_
      refine lv_iadd hx hb dX8_tie_33 ?_
      obtain ⟨h22, hf⟩ := gd_some hf
      refine m_iald hx hb hK hH 1 (by decide) (by decide) rfl h22 dX8_tie_34 ?_
      refine lv_iload_n hx hb dX8_tie_35 rfl (lv_at hl 2 rfl) ?_
      refine lv_iadd hx hb dX8_tie_36 ?_
      refine lv_topi (fun v23 ev23 => ?_)
      have hf := gl_at hf ev23
      refine lv_istore_n (lv' := [(3, .int v23), (0, .ref w.2.2.2), (1, .int p0), (2, .int p1)]) hx hb dX8_tie_37 rfl hl (by decide) rfl (fun ls hl => ?_)
      refine lv_aload_n hx hb dX8_tie_38 rfl (lv_at hl 1 rfl) ?_
      refine e_8_0 hx hb hts hown hK hH (hts _ wd_101) dX8_tie_39 ?_
      refine lv_bipush (v := 19) hx hb dX8_tie_42 (by decide) ?_
      refine lv_iload_n hx hb dX8_tie_44 rfl (lv_at hl 2 rfl) ?_
      refine lv_iadd hx hb dX8_tie_45 ?_
      refine lv_iload_n hx hb dX8_tie_46 rfl (lv_at hl 0 rfl) ?_
      refine lv_sipush (v := 999) hx hb dX8_tie_47 (by decide) ?_
      have hg := gif hf
      refine lv_icmp_le (tgt := 59) hx hb dX8_tie_50 (by decide) (fun c24 => ?_) (fun c24 => ?_)
      · have hf := hg.1 c24
        refine lv_iload_n hx hb dX8_tie_59 rfl (lv_at hl 0 rfl) ?_
        exact B60 _ _ _ _ _ _ hH hS (lv_sub hl [1, 2] rfl) hf
      · have hf := hg.2 c24
        refine lv_sipush (v := 999) hx hb dX8_tie_53 (by decide) ?_
        refine lv_goto (tgt := 60) hx hb dX8_tie_56 (by decide) ?_
        exact B60 _ _ _ _ _ _ hH hS (lv_sub hl [1, 2] rfl) hf
    · have hf := hg.1 c18
      refine lv_bipush (v := (-2)) hx hb dX8_tie_19 (by decide) ?_
      have ho := Option.some.inj hf
      exact W.iret (v := (-2)) hx hb hr (fun t ht hW => ⟨⟨(-2), (), rfl, congrArg Prod.snd ho, hrPm ht ho hH⟩, hS.F ht⟩) hS.2.2 dX8_tie_21
  · have hf := hg.1 c15
    refine lv_iconst (v := (-1)) hx hb dX8_tie_7 (by decide) ?_
    have ho := Option.some.inj hf
    exact W.iret (v := (-1)) hx hb hr (fun t ht hW => ⟨⟨(-1), (), rfl, congrArg Prod.snd ho, hrPm ht ho hH⟩, hS.F ht⟩) hS.2.2 dX8_tie_8
set_option maxRecDepth 100000 in
set_option maxHeartbeats 8000000 in
theorem c8_undo (l : Launch) (w : GW) (K : GK) (g : GM) (S : GS) (out : GS × Int32) (hf : f8_undo S = some out) : Met l yX8_undo (wA yX8_undo cX8_undo 2 (some .int)) ({ frames := 0, cells := 0, slots := 0, locals := 0 } : Room) (PRE w K g S [.ref w.2.2.2]) (QI w K g out.1 out.2) 0 0 (FR w) := by
  unfold f8_undo at hf
  refine Met.ofW (cc := cX8_undo) (maxL := 2) (ret := (some .int)) (by decide) rfl ?_
  intro p e s m args below meth c s₁ B hml hv
  obtain ⟨rfl, hH, hK⟩ := hv
  have hx := B.exec
  have hb := B.bytes
  have hr := B.returns
  have hts : ∀ q ∈ gALL, q.before _ s = true := fun q h => atoms_spec (ws := (wA yX8_undo cX8_undo 2 (some .int))) B.pre q (List.mem_cons_of_mem _ h)
  have hown : s.vm.findClass RX8 = some m.cls := findClass_of_methodNamed B.named
  have hlocks := B.notSynchronized
  have hS : va_S (FR w) s.heap s.heap [] := va_S.rf
  show W p l e ({ frames := 0, cells := 0, slots := 0, locals := 0 } : Room) s m _ below meth c s.heap [] 0 0 (MQ below (QI w K g out.1 out.2) _ s 0 0 (FR w)) _
  have hl := lv_entry ([.ref w.2.2.2]) (n := 2) (Nat.le_of_ble_eq_true rfl)
  rw [lg_entry_eq]
  generalize (lg_sl ([.ref w.2.2.2]) ++ List.replicate (2 - (lg_sl ([.ref w.2.2.2])).length) Slot.unset).toArray = ls at hl ⊢
  clear B
  generalize ([.ref w.2.2.2] : List Value).toArray = args at hts ⊢
  have B22 : ∀ n : Nat, ∀ (S : GS) (x1 : Int32) (H : Heap) (locs : List Loc) (ls : Array Slot), HR w K g S H → va_S (FR w) s.heap H locs → lv_has ls 2 [(0, .ref w.2.2.2), (1, .int x1)] → f8_undo_22 n S x1 = some out → W p l e ({ frames := 0, cells := 0, slots := 0, locals := 0 } : Room) s m args below meth c H locs 0 0 (MQ below (QI w K g out.1 out.2) args s 0 0 (FR w)) (F0 m 22 ls []) := by
    intro n
    induction n with
    | zero =>
      intro S x1 H locs ls hH hS hl hf
      cases hf
    | succ n ih =>
      intro S x1 H locs ls hH hS hl hf
      rw [f8_undo_22] at hf
      refine lv_iload_n hx hb dX8_undo_22 rfl (lv_at hl 1 rfl) ?_
      refine lv_sipush (v := 2081) hx hb dX8_undo_23 (by decide) ?_
      have hg := gif hf
      refine lv_icmp_ge (tgt := 56) hx hb dX8_undo_26 (by decide) (fun c1 => ?_) (fun c1 => ?_)
      · have hf := hg.1 c1
        refine lv_aload_n hx hb dX8_undo_56 rfl (lv_at hl 0 rfl) ?_
        refine e_8_3 hx hb hts hown hK hH (hts _ wd_173) dX8_undo_57 ?_
        have ho := Option.some.inj hf
        exact W.iret (v := (S 0 3)) hx hb hr (fun t ht hW => ⟨⟨(S 0 3), (), rfl, congrArg Prod.snd ho, hrPm ht ho hH⟩, hS.F ht⟩) hS.2.2 dX8_undo_60
      · have hf := hg.2 c1
        refine lv_aload_n hx hb dX8_undo_29 rfl (lv_at hl 0 rfl) ?_
        refine e_8_0 hx hb hts hown hK hH (hts _ wd_101) dX8_undo_30 ?_
        refine lv_iload_n hx hb dX8_undo_33 rfl (lv_at hl 1 rfl) ?_
        refine lv_aload_n hx hb dX8_undo_34 rfl (lv_at hl 0 rfl) ?_
        refine e_8_2 hx hb hts hown hK hH (hts _ wd_103) dX8_undo_35 ?_
        refine lv_aload_n hx hb dX8_undo_38 rfl (lv_at hl 0 rfl) ?_
        refine e_8_3 hx hb hts hown hK hH (hts _ wd_173) dX8_undo_39 ?_
        refine lv_sipush (v := 2081) hx hb dX8_undo_42 (by decide) ?_
        refine lv_imul hx hb dX8_undo_45 ?_
        refine lv_iload_n hx hb dX8_undo_46 rfl (lv_at hl 1 rfl) ?_
        refine lv_iadd hx hb dX8_undo_47 ?_
        obtain ⟨h3, hf⟩ := gd_some hf
        refine m_iald hx hb hK hH 3 (by decide) (by decide) rfl h3 dX8_undo_48 ?_
        obtain ⟨h5, hf⟩ := gd_some hf
        refine m_iast hx hb hK hH hS 1 (by decide) (by decide) rfl h5 dX8_undo_49 (fun H locs hH hS => ?_)
        obtain ⟨S6, eS6⟩ : ∃ z : GS, z = ssI S 1 x1.toNatClampNeg (S 3 (((S 0 3) * 2081) + x1).toNatClampNeg) := ⟨_, rfl⟩
        have hf := gl_at hf eS6
        replace hH : HR w K g S6 H := by rw [eS6]; exact hH
        obtain ⟨v7, ev7⟩ : ∃ z : Int32, z = x1 + 1 := ⟨_, rfl⟩
        have hf := gl_at hf ev7
        refine lv_iinc (v := v7) (lv' := [(1, .int v7), (0, .ref w.2.2.2)]) hx hb dX8_undo_50 hl (k := 1) rfl (by rw [ev7]; rfl) (by decide) rfl (fun ls hl => ?_)
        refine lv_goto (tgt := 22) hx hb dX8_undo_53 (by decide) ?_
        exact ih _ _ _ _ _ hH hS (lv_sub hl [1, 0] rfl) hf
  have hl : lv_has ls 2 [(0, .ref w.2.2.2)] := hl
  refine lv_aload_n hx hb dX8_undo_0 rfl (lv_at hl 0 rfl) ?_
  refine e_8_3 hx hb hts hown hK hH (hts _ wd_173) dX8_undo_1 ?_
  have hg := gif hf
  refine lv_if_ne (tgt := 10) hx hb dX8_undo_4 (by decide) (fun c8 => ?_) (fun c8 => ?_)
  · have hf := hg.2 c8
    refine lv_aload_n hx hb dX8_undo_10 rfl (lv_at hl 0 rfl) ?_
    refine lv_dup hx hb dX8_undo_11 rfl ?_
    refine e_8_3 hx hb hts hown hK hH (hts _ wd_173) dX8_undo_12 ?_
    refine lv_iconst (v := 1) hx hb dX8_undo_15 (by decide) ?_
    refine lv_isub hx hb dX8_undo_16 ?_
    refine p_8_3 hx hb hts hown hK hH hS (hts _ wd_173) dX8_undo_17 (fun H locs hH hS => ?_)
    obtain ⟨S9, eS9⟩ : ∃ z : GS, z = ssI S 0 3 ((S 0 3) - 1) := ⟨_, rfl⟩
    have hf := gl_at hf eS9
    replace hH : HR w K g S9 H := by rw [eS9]; exact hH
    refine lv_iconst (v := 0) hx hb dX8_undo_20 (by decide) ?_
    refine lv_istore_n (lv' := [(1, .int 0), (0, .ref w.2.2.2)]) hx hb dX8_undo_21 rfl hl (by decide) rfl (fun ls hl => ?_)
    exact B22 _ _ _ _ _ _ hH hS (lv_sub hl [1, 0] rfl) hf
  · have hf := hg.1 c8
    refine lv_bipush (v := (-5)) hx hb dX8_undo_7 (by decide) ?_
    have ho := Option.some.inj hf
    exact W.iret (v := (-5)) hx hb hr (fun t ht hW => ⟨⟨(-5), (), rfl, congrArg Prod.snd ho, hrPm ht ho hH⟩, hS.F ht⟩) hS.2.2 dX8_undo_9
set_option maxRecDepth 100000 in
set_option maxHeartbeats 8000000 in
theorem c8_weave (l : Launch) (w : GW) (K : GK) (g : GM) (S : GS) (p0 : Int32) (out : GS × Int32) (hf : f8_weave S p0 = some out) : Met l yX8_weave (wA yX8_weave cX8_weave 2 (some .int)) ({ frames := 9, cells := 0, slots := 0, locals := 193 } : Room) (PRE w K g S [.ref w.2.2.2, .int p0]) (QI w K g out.1 out.2) 0 0 (FR w) := by
  unfold f8_weave at hf
  refine Met.ofW (cc := cX8_weave) (maxL := 2) (ret := (some .int)) (by decide) rfl ?_
  intro p e s m args below meth c s₁ B hml hv
  obtain ⟨rfl, hH, hK⟩ := hv
  have hx := B.exec
  have hb := B.bytes
  have hr := B.returns
  have hts : ∀ q ∈ gALL, q.before _ s = true := fun q h => atoms_spec (ws := (wA yX8_weave cX8_weave 2 (some .int))) B.pre q (List.mem_cons_of_mem _ h)
  have hown : s.vm.findClass RX8 = some m.cls := findClass_of_methodNamed B.named
  have hlocks := B.notSynchronized
  have hS : va_S (FR w) s.heap s.heap [] := va_S.rf
  show W p l e ({ frames := 9, cells := 0, slots := 0, locals := 193 } : Room) s m _ below meth c s.heap [] 0 0 (MQ below (QI w K g out.1 out.2) _ s 0 0 (FR w)) _
  have hl := lv_entry ([.ref w.2.2.2, .int p0]) (n := 2) (Nat.le_of_ble_eq_true rfl)
  rw [lg_entry_eq]
  generalize (lg_sl ([.ref w.2.2.2, .int p0]) ++ List.replicate (2 - (lg_sl ([.ref w.2.2.2, .int p0])).length) Slot.unset).toArray = ls at hl ⊢
  clear B
  generalize ([.ref w.2.2.2, .int p0] : List Value).toArray = args at hts ⊢
  have hl : lv_has ls 2 [(0, .ref w.2.2.2), (1, .int p0)] := hl
  refine lv_iload_n hx hb dX8_weave_0 rfl (lv_at hl 1 rfl) ?_
  refine lv_iconst (v := 1) hx hb dX8_weave_1 (by decide) ?_
  refine lv_bipush (v := 99) hx hb dX8_weave_2 (by decide) ?_
  obtain ⟨v1, h2, hf⟩ := gbind hf
  refine g_Si (As := [.int p0, .int 1, .int 99]) (rest := []) ⟨hx, hb, hml, hown, hts⟩ (c8_within l w K g S p0 1 99 v1 h2) (gcwS hts i8_within wd_155 rfl rfl ⟨Nat.le_of_ble_eq_true rfl, Nat.le_of_ble_eq_true rfl⟩) hH hK hS hl.1 rfl rfl (Nat.le_of_ble_eq_true rfl) dX8_weave_4 ⟨Nat.le_refl _, Nat.le_refl _⟩ (fun H locs hH hS => ?_)
  have hg := gif hf
  refine lv_if_ne (tgt := 13) hx hb dX8_weave_7 (by decide) (fun c3 => ?_) (fun c3 => ?_)
  · have hf := hg.2 c3
    refine lv_aload_n hx hb dX8_weave_13 rfl (lv_at hl 0 rfl) ?_
    obtain ⟨g4, h5, hf⟩ := gbind hf
    refine g_Vv (As := []) (rest := []) ⟨hx, hb, hml, hown, hts⟩ (c8_record l w K g S g4 h5) (gcwV hts i8_record wd_161 rfl rfl ⟨Nat.le_of_ble_eq_true rfl, Nat.le_of_ble_eq_true rfl⟩) (gRecv.of hK rfl hH.ob) hH hK hS hl.1 rfl rfl (Nat.le_of_ble_eq_true rfl) dX8_weave_14 ⟨Nat.le_refl _, Nat.le_refl _⟩ (fun H locs hH hS => ?_)
    refine lv_aload_n hx hb dX8_weave_17 rfl (lv_at hl 0 rfl) ?_
    refine lv_iload_n hx hb dX8_weave_18 rfl (lv_at hl 1 rfl) ?_
    obtain ⟨r6, h7, hf⟩ := gbind hf
    refine g_Vi (As := [.int p0]) (rest := []) ⟨hx, hb, hml, hown, hts⟩ (c8_weaves l w K g g4 p0 r6 h7) (gcwV hts i8_weaves wd_457 rfl rfl ⟨Nat.le_of_ble_eq_true rfl, Nat.le_of_ble_eq_true rfl⟩) (gRecv.of hK rfl hH.ob) hH hK hS hl.1 rfl rfl (Nat.le_of_ble_eq_true rfl) dX8_weave_19 ⟨Nat.le_refl _, Nat.le_refl _⟩ (fun H locs hH hS => ?_)
    have ho := Option.some.inj hf
    exact W.iret (v := r6.2) hx hb hr (fun t ht hW => ⟨⟨r6.2, (), rfl, congrArg Prod.snd ho, hrPm ht ho hH⟩, hS.F ht⟩) hS.2.2 dX8_weave_22
  · have hf := hg.1 c3
    refine lv_bipush (v := (-2)) hx hb dX8_weave_10 (by decide) ?_
    have ho := Option.some.inj hf
    exact W.iret (v := (-2)) hx hb hr (fun t ht hW => ⟨⟨(-2), (), rfl, congrArg Prod.snd ho, hrPm ht ho hH⟩, hS.F ht⟩) hS.2.2 dX8_weave_12
set_option maxRecDepth 100000 in
set_option maxHeartbeats 8000000 in
theorem c8_wipe (l : Launch) (w : GW) (K : GK) (g : GM) (S : GS) (out : GS × Int32) (hf : f8_wipe S = some out) : Met l yX8_wipe (wA yX8_wipe cX8_wipe 2 (some .int)) ({ frames := 0, cells := 0, slots := 0, locals := 0 } : Room) (PRE w K g S [.ref w.2.2.2]) (QI w K g out.1 out.2) 0 0 (FR w) := by
  unfold f8_wipe at hf
  refine Met.ofW (cc := cX8_wipe) (maxL := 2) (ret := (some .int)) (by decide) rfl ?_
  intro p e s m args below meth c s₁ B hml hv
  obtain ⟨rfl, hH, hK⟩ := hv
  have hx := B.exec
  have hb := B.bytes
  have hr := B.returns
  have hts : ∀ q ∈ gALL, q.before _ s = true := fun q h => atoms_spec (ws := (wA yX8_wipe cX8_wipe 2 (some .int))) B.pre q (List.mem_cons_of_mem _ h)
  have hown : s.vm.findClass RX8 = some m.cls := findClass_of_methodNamed B.named
  have hlocks := B.notSynchronized
  have hS : va_S (FR w) s.heap s.heap [] := va_S.rf
  show W p l e ({ frames := 0, cells := 0, slots := 0, locals := 0 } : Room) s m _ below meth c s.heap [] 0 0 (MQ below (QI w K g out.1 out.2) _ s 0 0 (FR w)) _
  have hl := lv_entry ([.ref w.2.2.2]) (n := 2) (Nat.le_of_ble_eq_true rfl)
  rw [lg_entry_eq]
  generalize (lg_sl ([.ref w.2.2.2]) ++ List.replicate (2 - (lg_sl ([.ref w.2.2.2])).length) Slot.unset).toArray = ls at hl ⊢
  clear B
  generalize ([.ref w.2.2.2] : List Value).toArray = args at hts ⊢
  have hl : lv_has ls 2 [(0, .ref w.2.2.2)] := hl
  refine lv_aload_n hx hb dX8_wipe_0 rfl (lv_at hl 0 rfl) ?_
  refine e_8_7 hx hb hts hown hK hH (hts _ wd_263) dX8_wipe_1 ?_
  refine lv_topi (fun v1 ev1 => ?_)
  have hf := gl_at hf ev1
  refine lv_istore_n (lv' := [(1, .int v1), (0, .ref w.2.2.2)]) hx hb dX8_wipe_4 rfl hl (by decide) rfl (fun ls hl => ?_)
  refine lv_aload_n hx hb dX8_wipe_5 rfl (lv_at hl 1 rfl) ?_
  refine lv_iconst (v := 0) hx hb dX8_wipe_6 (by decide) ?_
  refine p_8_7 hx hb hts hown hK hH hS (hts _ wd_263) dX8_wipe_7 (fun H locs hH hS => ?_)
  obtain ⟨S2, eS2⟩ : ∃ z : GS, z = ssI S 0 7 0 := ⟨_, rfl⟩
  have hf := gl_at hf eS2
  replace hH : HR w K g S2 H := by rw [eS2]; exact hH
  refine lv_iload_n hx hb dX8_wipe_10 rfl (lv_at hl 0 rfl) ?_
  have ho := Option.some.inj hf
  exact W.iret (v := v1) hx hb hr (fun t ht hW => ⟨⟨v1, (), rfl, congrArg Prod.snd ho, hrPm ht ho hH⟩, hS.F ht⟩) hS.2.2 dX8_wipe_11
set_option maxRecDepth 100000 in
set_option maxHeartbeats 8000000 in
theorem c8_write (l : Launch) (w : GW) (K : GK) (g : GM) (S : GS) (p0 : Int32) (out : GS × Int32) (hf : f8_write S p0 = some out) : Met l yX8_write (wA yX8_write cX8_write 3 (some .int)) ({ frames := 2, cells := 0, slots := 0, locals := 42 } : Room) (PRE w K g S [.ref w.2.2.2, .int p0]) (QI w K g out.1 out.2) 0 0 (FR w) := by
  unfold f8_write at hf
  refine Met.ofW (cc := cX8_write) (maxL := 3) (ret := (some .int)) (by decide) rfl ?_
  intro p e s m args below meth c s₁ B hml hv
  obtain ⟨rfl, hH, hK⟩ := hv
  have hx := B.exec
  have hb := B.bytes
  have hr := B.returns
  have hts : ∀ q ∈ gALL, q.before _ s = true := fun q h => atoms_spec (ws := (wA yX8_write cX8_write 3 (some .int))) B.pre q (List.mem_cons_of_mem _ h)
  have hown : s.vm.findClass RX8 = some m.cls := findClass_of_methodNamed B.named
  have hlocks := B.notSynchronized
  have hS : va_S (FR w) s.heap s.heap [] := va_S.rf
  show W p l e ({ frames := 2, cells := 0, slots := 0, locals := 42 } : Room) s m _ below meth c s.heap [] 0 0 (MQ below (QI w K g out.1 out.2) _ s 0 0 (FR w)) _
  have hl := lv_entry ([.ref w.2.2.2, .int p0]) (n := 3) (Nat.le_of_ble_eq_true rfl)
  rw [lg_entry_eq]
  generalize (lg_sl ([.ref w.2.2.2, .int p0]) ++ List.replicate (3 - (lg_sl ([.ref w.2.2.2, .int p0])).length) Slot.unset).toArray = ls at hl ⊢
  clear B
  generalize ([.ref w.2.2.2, .int p0] : List Value).toArray = args at hts ⊢
  have B35 : ∀ n : Nat, ∀ (S : GS) (x2 : Int32) (H : Heap) (locs : List Loc) (ls : Array Slot), HR w K g S H → va_S (FR w) s.heap H locs → lv_has ls 3 [(0, .ref w.2.2.2), (1, .int p0), (2, .int x2)] → f8_write_35 p0 n S x2 = some out → W p l e ({ frames := 2, cells := 0, slots := 0, locals := 42 } : Room) s m args below meth c H locs 0 0 (MQ below (QI w K g out.1 out.2) args s 0 0 (FR w)) (F0 m 35 ls []) := by
    intro n
    induction n with
    | zero =>
      intro S x2 H locs ls hH hS hl hf
      cases hf
    | succ n ih =>
      intro S x2 H locs ls hH hS hl hf
      rw [f8_write_35] at hf
      refine lv_iload_n hx hb dX8_write_35 rfl (lv_at hl 2 rfl) ?_
      refine lv_aload_n hx hb dX8_write_36 rfl (lv_at hl 0 rfl) ?_
      refine e_8_7 hx hb hts hown hK hH (hts _ wd_263) dX8_write_37 ?_
      have hg := gif hf
      refine lv_icmp_ge (tgt := 61) hx hb dX8_write_40 (by decide) (fun c1 => ?_) (fun c1 => ?_)
      · have hf := hg.1 c1
        refine lv_aload_n hx hb dX8_write_61 rfl (lv_at hl 0 rfl) ?_
        refine e_8_7 hx hb hts hown hK hH (hts _ wd_263) dX8_write_62 ?_
        have ho := Option.some.inj hf
        exact W.iret (v := (S 0 7)) hx hb hr (fun t ht hW => ⟨⟨(S 0 7), (), rfl, congrArg Prod.snd ho, hrPm ht ho hH⟩, hS.F ht⟩) hS.2.2 dX8_write_65
      · have hf := hg.2 c1
        refine lv_aload_n hx hb dX8_write_43 rfl (lv_at hl 0 rfl) ?_
        refine e_8_6 hx hb hts hown hK hH (hts _ wd_106) dX8_write_44 ?_
        refine lv_iload_n hx hb dX8_write_47 rfl (lv_at hl 2 rfl) ?_
        refine lv_aload_n hx hb dX8_write_48 rfl (lv_at hl 0 rfl) ?_
        refine lv_iload_n hx hb dX8_write_49 rfl (lv_at hl 1 rfl) ?_
        refine lv_iload_n hx hb dX8_write_50 rfl (lv_at hl 2 rfl) ?_
        obtain ⟨v2, h3, hf⟩ := gbind hf
        refine g_Vi (As := [.int p0, .int x2]) (rest := [.int x2, .ref (w.2.2.2 + 6)]) ⟨hx, hb, hml, hown, hts⟩ (c8_textAt l w K g S p0 x2 v2 h3) (gcwV hts i8_textAt wd_293 rfl rfl ⟨Nat.le_of_ble_eq_true rfl, Nat.le_of_ble_eq_true rfl⟩) (gRecv.of hK rfl hH.ob) hH hK hS hl.1 rfl rfl (Nat.le_of_ble_eq_true rfl) dX8_write_51 ⟨Nat.le_refl _, Nat.le_refl _⟩ (fun H locs hH hS => ?_)
        obtain ⟨h5, hf⟩ := gd_some hf
        refine m_iast hx hb hK hH hS 6 (by decide) (by decide) rfl h5 dX8_write_54 (fun H locs hH hS => ?_)
        obtain ⟨S6, eS6⟩ : ∃ z : GS, z = ssI S 6 x2.toNatClampNeg v2 := ⟨_, rfl⟩
        have hf := gl_at hf eS6
        replace hH : HR w K g S6 H := by rw [eS6]; exact hH
        obtain ⟨v7, ev7⟩ : ∃ z : Int32, z = x2 + 1 := ⟨_, rfl⟩
        have hf := gl_at hf ev7
        refine lv_iinc (v := v7) (lv' := [(2, .int v7), (0, .ref w.2.2.2), (1, .int p0)]) hx hb dX8_write_55 hl (k := 2) rfl (by rw [ev7]; rfl) (by decide) rfl (fun ls hl => ?_)
        refine lv_goto (tgt := 35) hx hb dX8_write_58 (by decide) ?_
        exact ih _ _ _ _ _ hH hS (lv_sub hl [1, 2, 0] rfl) hf
  have hl : lv_has ls 3 [(0, .ref w.2.2.2), (1, .int p0)] := hl
  refine lv_iload_n hx hb dX8_write_0 rfl (lv_at hl 1 rfl) ?_
  obtain ⟨v8, h9, hf⟩ := gbind hf
  refine g_Si (As := [.int p0]) (rest := []) ⟨hx, hb, hml, hown, hts⟩ (c8_isCard l w K g S p0 v8 h9) (gcwS hts i8_isCard wd_264 rfl rfl ⟨Nat.le_of_ble_eq_true rfl, Nat.le_of_ble_eq_true rfl⟩) hH hK hS hl.1 rfl rfl (Nat.le_of_ble_eq_true rfl) dX8_write_1 ⟨Nat.le_refl _, Nat.le_refl _⟩ (fun H locs hH hS => ?_)
  have hg := gif hf
  refine lv_if_ne (tgt := 9) hx hb dX8_write_4 (by decide) (fun c10 => ?_) (fun c10 => ?_)
  · have hf := hg.2 c10
    refine lv_aload_n hx hb dX8_write_9 rfl (lv_at hl 0 rfl) ?_
    refine lv_iload_n hx hb dX8_write_10 rfl (lv_at hl 1 rfl) ?_
    obtain ⟨v11, h12, hf⟩ := gbind hf
    refine g_Vi (As := [.int p0]) (rest := []) ⟨hx, hb, hml, hown, hts⟩ (c8_hasText l w K g S p0 v11 h12) (gcwV hts i8_hasText wd_318 rfl rfl ⟨Nat.le_of_ble_eq_true rfl, Nat.le_of_ble_eq_true rfl⟩) (gRecv.of hK rfl hH.ob) hH hK hS hl.1 rfl rfl (Nat.le_of_ble_eq_true rfl) dX8_write_11 ⟨Nat.le_refl _, Nat.le_refl _⟩ (fun H locs hH hS => ?_)
    have hg := gif hf
    refine lv_if_ne (tgt := 20) hx hb dX8_write_14 (by decide) (fun c13 => ?_) (fun c13 => ?_)
    · have hf := hg.2 c13
      refine lv_aload_n hx hb dX8_write_20 rfl (lv_at hl 0 rfl) ?_
      refine lv_aload_n hx hb dX8_write_21 rfl (lv_at hl 0 rfl) ?_
      refine e_8_0 hx hb hts hown hK hH (hts _ wd_101) dX8_write_22 ?_
      refine lv_bipush (v := 43) hx hb dX8_write_25 (by decide) ?_
      refine lv_iload_n hx hb dX8_write_27 rfl (lv_at hl 1 rfl) ?_
      refine lv_iadd hx hb dX8_write_28 ?_
      obtain ⟨h15, hf⟩ := gd_some hf
      refine m_iald hx hb hK hH 1 (by decide) (by decide) rfl h15 dX8_write_29 ?_
      refine p_8_7 hx hb hts hown hK hH hS (hts _ wd_263) dX8_write_30 (fun H locs hH hS => ?_)
      obtain ⟨S16, eS16⟩ : ∃ z : GS, z = ssI S 0 7 (S 1 (43 + p0).toNatClampNeg) := ⟨_, rfl⟩
      have hf := gl_at hf eS16
      replace hH : HR w K g S16 H := by rw [eS16]; exact hH
      refine lv_iconst (v := 0) hx hb dX8_write_33 (by decide) ?_
      refine lv_istore_n (lv' := [(2, .int 0), (0, .ref w.2.2.2), (1, .int p0)]) hx hb dX8_write_34 rfl hl (by decide) rfl (fun ls hl => ?_)
      exact B35 _ _ _ _ _ _ hH hS (lv_sub hl [1, 2, 0] rfl) hf
    · have hf := hg.1 c13
      refine lv_bipush (v := (-5)) hx hb dX8_write_17 (by decide) ?_
      have ho := Option.some.inj hf
      exact W.iret (v := (-5)) hx hb hr (fun t ht hW => ⟨⟨(-5), (), rfl, congrArg Prod.snd ho, hrPm ht ho hH⟩, hS.F ht⟩) hS.2.2 dX8_write_19
  · have hf := hg.1 c10
    refine lv_iconst (v := (-1)) hx hb dX8_write_7 (by decide) ?_
    have ho := Option.some.inj hf
    exact W.iret (v := (-1)) hx hb hr (fun t ht hW => ⟨⟨(-1), (), rfl, congrArg Prod.snd ho, hrPm ht ho hH⟩, hS.F ht⟩) hS.2.2 dX8_write_8
