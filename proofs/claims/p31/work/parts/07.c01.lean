/-! contracts, by program -/
set_option maxRecDepth 100000 in
set_option maxHeartbeats 8000000 in
theorem c4_goOn (l : Launch) (w : GW) (K : GK) (g : GM) (S : GS) (a : Nat) (p0 : Int32) (out : GM × Int32) (hf : f4_goOn K g a p0 = some out) (hk0 : gkd K a = 5) : Met l yX4_goOn (wA yX4_goOn cX4_goOn 3 (some .int)) ({ frames := 5, cells := 0, slots := 0, locals := 110 } : Room) (PRE w K g S [.ref a, .int p0]) (QI w K out.1 S out.2) 0 0 (FR w) := by
  unfold f4_goOn at hf
  refine Met.ofW (cc := cX4_goOn) (maxL := 3) (ret := (some .int)) (by decide) rfl ?_
  intro p e s m args below meth c s₁ B hml hv
  obtain ⟨rfl, hH, hK⟩ := hv
  have hx := B.exec
  have hb := B.bytes
  have hr := B.returns
  have hts : ∀ q ∈ gALL, q.before _ s = true := fun q h => atoms_spec (ws := (wA yX4_goOn cX4_goOn 3 (some .int))) B.pre q (List.mem_cons_of_mem _ h)
  have hown : s.vm.findClass RX4 = some m.cls := findClass_of_methodNamed B.named
  have hlocks := B.notSynchronized
  have hS : va_S (FR w) s.heap s.heap [] := va_S.rf
  show W p l e ({ frames := 5, cells := 0, slots := 0, locals := 110 } : Room) s m _ below meth c s.heap [] 0 0 (MQ below (QI w K out.1 S out.2) _ s 0 0 (FR w)) _
  have hl := lv_entry ([.ref a, .int p0]) (n := 3) (Nat.le_of_ble_eq_true rfl)
  rw [lg_entry_eq]
  generalize (lg_sl ([.ref a, .int p0]) ++ List.replicate (3 - (lg_sl ([.ref a, .int p0])).length) Slot.unset).toArray = ls at hl ⊢
  clear B
  generalize ([.ref a, .int p0] : List Value).toArray = args at hts ⊢
  have B2 : ∀ n : Nat, ∀ (g : GM) (x2 : Int32) (H : Heap) (locs : List Loc) (ls : Array Slot), HR w K g S H → va_S (FR w) s.heap H locs → lv_has ls 3 [(0, .ref a), (1, .int p0), (2, .int x2)] → f4_goOn_2 K a p0 n g x2 = some out → W p l e ({ frames := 5, cells := 0, slots := 0, locals := 110 } : Room) s m args below meth c H locs 0 0 (MQ below (QI w K out.1 S out.2) args s 0 0 (FR w)) (F0 m 2 ls []) := by
    intro n
    induction n with
    | zero =>
      intro g x2 H locs ls hH hS hl hf
      cases hf
    | succ n ih =>
      intro g x2 H locs ls hH hS hl hf
      rw [f4_goOn_2] at hf
      refine lv_iload_n hx hb dX4_goOn_2 rfl (lv_at hl 2 rfl) ?_
      refine lv_iload_n hx hb dX4_goOn_3 rfl (lv_at hl 1 rfl) ?_
      have hg := gif hf
      refine lv_icmp_ge (tgt := 30) hx hb dX4_goOn_4 (by decide) (fun c1 => ?_) (fun c1 => ?_)
      · have hf := hg.1 c1
        refine lv_iload_n hx hb dX4_goOn_30 rfl (lv_at hl 1 rfl) ?_
        have ho := Option.some.inj hf
        exact W.iret (v := p0) hx hb hr (fun t ht hW => ⟨⟨p0, (), rfl, congrArg Prod.snd ho, hrP ht ho hH⟩, hS.F ht⟩) hS.2.2 dX4_goOn_31
      · have hf := hg.2 c1
        refine lv_aload_n hx hb dX4_goOn_7 rfl (lv_at hl 0 rfl) ?_
        refine lv_aload_n hx hb dX4_goOn_8 rfl (lv_at hl 0 rfl) ?_
        obtain ⟨r2, h3, hf⟩ := gbind hf
        refine g_Vi (As := []) (rest := [.ref a]) ⟨hx, hb, hml, hown, hts⟩ (c4_weaveNext l w K g S a r2 h3 hk0) (gcwV hts i4_weaveNext wd_359 rfl rfl ⟨Nat.le_of_ble_eq_true rfl, Nat.le_of_ble_eq_true rfl⟩) (gRecv.of hK rfl (hH.o5 hk0)) hH hK hS hl.1 rfl rfl (Nat.le_of_ble_eq_true rfl) dX4_goOn_9 ⟨Nat.le_refl _, Nat.le_refl _⟩ (fun H locs hH hS => ?_)
        refine p_4_12 hx hb hts hown hK hH hS hk0 (hts _ wd_68) dX4_goOn_12 (fun H locs hH hS => ?_)
        obtain ⟨g4, eg4⟩ : ∃ z : GM, z = gsI r2.1 a 12 r2.2 := ⟨_, rfl⟩
        have hf := gl_at hf eg4
        replace hH : HR w K g4 S H := by rw [eg4]; exact hH
        refine lv_aload_n hx hb dX4_goOn_15 rfl (lv_at hl 0 rfl) ?_
        refine e_4_12 hx hb hts hown hK hH hk0 (hts _ wd_68) dX4_goOn_16 ?_
        have hg := gif hf
        refine lv_if_eq (tgt := 24) hx hb dX4_goOn_19 (by decide) (fun c5 => ?_) (fun c5 => ?_)
        · have hf := hg.1 c5
          obtain ⟨v6, ev6⟩ : ∃ z : Int32, z = x2 + 1 := ⟨_, rfl⟩
          have hf := gl_at hf ev6
          refine lv_iinc (v := v6) (lv' := [(2, .int v6), (0, .ref a), (1, .int p0)]) hx hb dX4_goOn_24 hl (k := 2) rfl (by rw [ev6]; rfl) (by decide) rfl (fun ls hl => ?_)
          refine lv_goto (tgt := 2) hx hb dX4_goOn_27 (by decide) ?_
          exact ih _ _ _ _ _ hH hS (lv_sub hl [1, 2, 0] rfl) hf
        · have hf := hg.2 c5
          refine lv_iload_n hx hb dX4_goOn_22 rfl (lv_at hl 2 rfl) ?_
          have ho := Option.some.inj hf
          exact W.iret (v := x2) hx hb hr (fun t ht hW => ⟨⟨x2, (), rfl, congrArg Prod.snd ho, hrP ht ho hH⟩, hS.F ht⟩) hS.2.2 dX4_goOn_23
  have hl : lv_has ls 3 [(0, .ref a), (1, .int p0)] := hl
  refine lv_iconst (v := 0) hx hb dX4_goOn_0 (by decide) ?_
  refine lv_istore_n (lv' := [(2, .int 0), (0, .ref a), (1, .int p0)]) hx hb dX4_goOn_1 rfl hl (by decide) rfl (fun ls hl => ?_)
  exact B2 _ _ _ _ _ _ hH hS (lv_sub hl [1, 2, 0] rfl) hf
set_option maxRecDepth 100000 in
set_option maxHeartbeats 8000000 in
theorem c7_weave (l : Launch) (w : GW) (K : GK) (g : GM) (S : GS) (a : Nat) (p0 : Int32) (out : GM × Int32) (hf : f7_weave K g a p0 = some out) (hk0 : gkd K a = 8) : Met l yX7_weave (wA yX7_weave cX7_weave 2 (some .int)) ({ frames := 6, cells := 0, slots := 0, locals := 144 } : Room) (PRE w K g S [.ref a, .int p0]) (QI w K out.1 S out.2) 0 0 (FR w) := by
  unfold f7_weave at hf
  refine Met.ofW (cc := cX7_weave) (maxL := 2) (ret := (some .int)) (by decide) rfl ?_
  intro p e s m args below meth c s₁ B hml hv
  obtain ⟨rfl, hH, hK⟩ := hv
  have hx := B.exec
  have hb := B.bytes
  have hr := B.returns
  have hts : ∀ q ∈ gALL, q.before _ s = true := fun q h => atoms_spec (ws := (wA yX7_weave cX7_weave 2 (some .int))) B.pre q (List.mem_cons_of_mem _ h)
  have hown : s.vm.findClass RX7 = some m.cls := findClass_of_methodNamed B.named
  have hlocks := B.notSynchronized
  have hS : va_S (FR w) s.heap s.heap [] := va_S.rf
  show W p l e ({ frames := 6, cells := 0, slots := 0, locals := 144 } : Room) s m _ below meth c s.heap [] 0 0 (MQ below (QI w K out.1 S out.2) _ s 0 0 (FR w)) _
  have hl := lv_entry ([.ref a, .int p0]) (n := 2) (Nat.le_of_ble_eq_true rfl)
  rw [lg_entry_eq]
  generalize (lg_sl ([.ref a, .int p0]) ++ List.replicate (2 - (lg_sl ([.ref a, .int p0])).length) Slot.unset).toArray = ls at hl ⊢
  clear B
  generalize ([.ref a, .int p0] : List Value).toArray = args at hts ⊢
  have hl : lv_has ls 2 [(0, .ref a), (1, .int p0)] := hl
  refine lv_iload_n hx hb dX7_weave_0 rfl (lv_at hl 1 rfl) ?_
  refine lv_iconst (v := 1) hx hb dX7_weave_1 (by decide) ?_
  have hg := gif hf
  refine lv_icmp_lt (tgt := 11) hx hb dX7_weave_2 (by decide) (fun c1 => ?_) (fun c1 => ?_)
  · have hf := hg.1 c1
    refine lv_bipush (v := (-2)) hx hb dX7_weave_11 (by decide) ?_
    have ho := Option.some.inj hf
    exact W.iret (v := (-2)) hx hb hr (fun t ht hW => ⟨⟨(-2), (), rfl, congrArg Prod.snd ho, hrP ht ho hH⟩, hS.F ht⟩) hS.2.2 dX7_weave_13
  · have hf := hg.2 c1
    refine lv_iload_n hx hb dX7_weave_5 rfl (lv_at hl 1 rfl) ?_
    refine lv_bipush (v := 99) hx hb dX7_weave_6 (by decide) ?_
    have hg := gif hf
    refine lv_icmp_le (tgt := 14) hx hb dX7_weave_8 (by decide) (fun c2 => ?_) (fun c2 => ?_)
    · have hf := hg.1 c2
      refine lv_aload_n hx hb dX7_weave_14 rfl (lv_at hl 0 rfl) ?_
      have k3 : gkd K (a + 42) = 4 := congrArg Prod.fst (hH.sub hk0 4 (t := (42, 4, 0)) rfl)
      refine e_7_4 hx hb hts hown hK hH hk0 (hts _ wd_26) dX7_weave_15 ?_
      refine lv_aload_n hx hb dX7_weave_18 rfl (lv_at hl 0 rfl) ?_
      have k4 : gkd K (a + 10) = 5 := congrArg Prod.fst (hH.sub hk0 2 (t := (10, 5, 0)) rfl)
      refine e_7_2 hx hb hts hown hK hH hk0 (hts _ wd_21) dX7_weave_19 ?_
      obtain ⟨g5, h6, hf⟩ := gbind hf
      refine g_Vv (As := [.ref (a + 10)]) (rest := []) ⟨hx, hb, hml, hown, hts⟩ (c3_keep l w K g S (a + 42) (a + 10) g5 h6 k3) (gcwV hts i3_keep wd_264 rfl rfl ⟨Nat.le_of_ble_eq_true rfl, Nat.le_of_ble_eq_true rfl⟩) (gRecv.of hK rfl (hH.o4 k3)) hH hK hS hl.1 rfl rfl (Nat.le_of_ble_eq_true rfl) dX7_weave_22 ⟨Nat.le_refl _, Nat.le_refl _⟩ (fun H locs hH hS => ?_)
      refine lv_aload_n hx hb dX7_weave_25 rfl (lv_at hl 0 rfl) ?_
      refine e_7_2 hx hb hts hown hK hH hk0 (hts _ wd_21) dX7_weave_26 ?_
      refine lv_iload_n hx hb dX7_weave_29 rfl (lv_at hl 1 rfl) ?_
      obtain ⟨r7, h8, hf⟩ := gbind hf
      refine g_Vi (As := [.int p0]) (rest := []) ⟨hx, hb, hml, hown, hts⟩ (c4_goOn l w K g5 S (a + 10) p0 r7 h8 k4) (gcwV hts i4_goOn wd_355 rfl rfl ⟨Nat.le_of_ble_eq_true rfl, Nat.le_of_ble_eq_true rfl⟩) (gRecv.of hK rfl (hH.o5 k4)) hH hK hS hl.1 rfl rfl (Nat.le_of_ble_eq_true rfl) dX7_weave_30 ⟨Nat.le_refl _, Nat.le_refl _⟩ (fun H locs hH hS => ?_)
      have ho := Option.some.inj hf
      exact W.iret (v := r7.2) hx hb hr (fun t ht hW => ⟨⟨r7.2, (), rfl, congrArg Prod.snd ho, hrP ht ho hH⟩, hS.F ht⟩) hS.2.2 dX7_weave_33
    · have hf := hg.2 c2
      refine lv_bipush (v := (-2)) hx hb dX7_weave_11 (by decide) ?_
      have ho := Option.some.inj hf
      exact W.iret (v := (-2)) hx hb hr (fun t ht hW => ⟨⟨(-2), (), rfl, congrArg Prod.snd ho, hrP ht ho hH⟩, hS.F ht⟩) hS.2.2 dX7_weave_13
set_option maxRecDepth 100000 in
set_option maxHeartbeats 8000000 in
theorem c4_tieThread (l : Launch) (w : GW) (K : GK) (g : GM) (S : GS) (a : Nat) (p0 : Int32) (p1 : Int32) (out : GM × Int32) (hf : f4_tieThread K g a p0 p1 = some out) (hk0 : gkd K a = 5) : Met l yX4_tieThread (wA yX4_tieThread cX4_tieThread 3 (some .int)) ({ frames := 1, cells := 0, slots := 0, locals := 30 } : Room) (PRE w K g S [.ref a, .int p0, .int p1]) (QI w K out.1 S out.2) 0 0 (FR w) := by
  unfold f4_tieThread at hf
  refine Met.ofW (cc := cX4_tieThread) (maxL := 3) (ret := (some .int)) (by decide) rfl ?_
  intro p e s m args below meth c s₁ B hml hv
  obtain ⟨rfl, hH, hK⟩ := hv
  have hx := B.exec
  have hb := B.bytes
  have hr := B.returns
  have hts : ∀ q ∈ gALL, q.before _ s = true := fun q h => atoms_spec (ws := (wA yX4_tieThread cX4_tieThread 3 (some .int))) B.pre q (List.mem_cons_of_mem _ h)
  have hown : s.vm.findClass RX4 = some m.cls := findClass_of_methodNamed B.named
  have hlocks := B.notSynchronized
  have hS : va_S (FR w) s.heap s.heap [] := va_S.rf
  show W p l e ({ frames := 1, cells := 0, slots := 0, locals := 30 } : Room) s m _ below meth c s.heap [] 0 0 (MQ below (QI w K out.1 S out.2) _ s 0 0 (FR w)) _
  have hl := lv_entry ([.ref a, .int p0, .int p1]) (n := 3) (Nat.le_of_ble_eq_true rfl)
  rw [lg_entry_eq]
  generalize (lg_sl ([.ref a, .int p0, .int p1]) ++ List.replicate (3 - (lg_sl ([.ref a, .int p0, .int p1])).length) Slot.unset).toArray = ls at hl ⊢
  clear B
  generalize ([.ref a, .int p0, .int p1] : List Value).toArray = args at hts ⊢
  have hl : lv_has ls 3 [(0, .ref a), (1, .int p0), (2, .int p1)] := hl
  refine lv_aload_n hx hb dX4_tieThread_0 rfl (lv_at hl 0 rfl) ?_
  have k1 : K.1 (a + 4) = (10, 6) := hH.sub hk0 3 (t := (4, 10, 6)) rfl
  refine e_4_3 hx hb hts hown hK hH hk0 (hts _ wd_55) dX4_tieThread_1 ?_
  refine lv_iload_n hx hb dX4_tieThread_4 rfl (lv_at hl 1 rfl) ?_
  refine lv_sipush (v := 999) hx hb dX4_tieThread_5 (by decide) ?_
  refine lv_aload_n hx hb dX4_tieThread_8 rfl (lv_at hl 0 rfl) ?_
  refine e_4_3 hx hb hts hown hK hH hk0 (hts _ wd_55) dX4_tieThread_9 ?_
  refine lv_iload_n hx hb dX4_tieThread_12 rfl (lv_at hl 1 rfl) ?_
  obtain ⟨h3, hf⟩ := gd_some hf
  refine g_iald hx hb hK hH k1 h3 dX4_tieThread_13 ?_
  refine lv_iload_n hx hb dX4_tieThread_14 rfl (lv_at hl 2 rfl) ?_
  refine lv_iadd hx hb dX4_tieThread_15 ?_
  refine va_mmin hx hb (hml.trans hl.1.symm) hown (hts _ wd_276) (hts _ wd_229) (hts _ wd_150) (hts _ wd_230) (Nat.le_of_ble_eq_true rfl) (Nat.le_of_ble_eq_true rfl) (Nat.le_of_ble_eq_true rfl) (Nat.le_of_ble_eq_true rfl) dX4_tieThread_16 ?_
  refine g_iast hx hb hK hH hS k1 h3 dX4_tieThread_19 (fun H locs hH hS => ?_)
  obtain ⟨g5, eg5⟩ : ∃ z : GM, z = gsI g (a + 4) p0.toNatClampNeg (if ((gI g (a + 4) p0.toNatClampNeg) + p1) < 999 then ((gI g (a + 4) p0.toNatClampNeg) + p1) else 999) := ⟨_, rfl⟩
  have hf := gl_at hf eg5
  replace hH : HR w K g5 S H := by rw [eg5]; exact hH
  refine lv_aload_n hx hb dX4_tieThread_20 rfl (lv_at hl 0 rfl) ?_
  have k6 : K.1 (a + 5) = (10, 6) := hH.sub hk0 4 (t := (5, 10, 6)) rfl
  refine e_4_4 hx hb hts hown hK hH hk0 (hts _ wd_56) dX4_tieThread_21 ?_
  refine lv_iload_n hx hb dX4_tieThread_24 rfl (lv_at hl 1 rfl) ?_
  refine lv_iconst (v := 0) hx hb dX4_tieThread_25 (by decide) ?_
  refine g_iast hx hb hK hH hS k6 h3 dX4_tieThread_26 (fun H locs hH hS => ?_)
  obtain ⟨g8, eg8⟩ : ∃ z : GM, z = gsI g5 (a + 5) p0.toNatClampNeg 0 := ⟨_, rfl⟩
  have hf := gl_at hf eg8
  replace hH : HR w K g8 S H := by rw [eg8]; exact hH
  refine lv_aload_n hx hb dX4_tieThread_27 rfl (lv_at hl 0 rfl) ?_
  have k9 : K.1 (a + 6) = (10, 6) := hH.sub hk0 5 (t := (6, 10, 6)) rfl
  refine e_4_5 hx hb hts hown hK hH hk0 (hts _ wd_57) dX4_tieThread_28 ?_
  refine lv_iload_n hx hb dX4_tieThread_31 rfl (lv_at hl 1 rfl) ?_
  refine lv_dup2_11 hx hb dX4_tieThread_32 rfl rfl ?_
  refine g_iald hx hb hK hH k9 h3 dX4_tieThread_33 ?_
  refine lv_iconst (v := 1) hx hb dX4_tieThread_34 (by decide) ?_
  refine lv_iadd hx hb dX4_tieThread_35 ?_
  refine g_iast hx hb hK hH hS k9 h3 dX4_tieThread_36 (fun H locs hH hS => ?_)
  obtain ⟨g12, eg12⟩ : ∃ z : GM, z = gsI g8 (a + 6) p0.toNatClampNeg ((gI g8 (a + 6) p0.toNatClampNeg) + 1) := ⟨_, rfl⟩
  have hf := gl_at hf eg12
  replace hH : HR w K g12 S H := by rw [eg12]; exact hH
  refine lv_aload_n hx hb dX4_tieThread_37 rfl (lv_at hl 0 rfl) ?_
  refine e_4_3 hx hb hts hown hK hH hk0 (hts _ wd_55) dX4_tieThread_38 ?_
  refine lv_iload_n hx hb dX4_tieThread_41 rfl (lv_at hl 1 rfl) ?_
  refine g_iald hx hb hK hH k1 h3 dX4_tieThread_42 ?_
  have ho := Option.some.inj hf
  exact W.iret (v := (gI g12 (a + 4) p0.toNatClampNeg)) hx hb hr (fun t ht hW => ⟨⟨(gI g12 (a + 4) p0.toNatClampNeg), (), rfl, congrArg Prod.snd ho, hrP ht ho hH⟩, hS.F ht⟩) hS.2.2 dX4_tieThread_43
set_option maxRecDepth 100000 in
set_option maxHeartbeats 8000000 in
theorem c7_tie (l : Launch) (w : GW) (K : GK) (g : GM) (S : GS) (a : Nat) (p0 : Int32) (p1 : Int32) (out : GM × Int32) (hf : f7_tie K g a p0 p1 = some out) (hk0 : gkd K a = 8) : Met l yX7_tie (wA yX7_tie cX7_tie 3 (some .int)) ({ frames := 5, cells := 0, slots := 0, locals := 144 } : Room) (PRE w K g S [.ref a, .int p0, .int p1]) (QI w K out.1 S out.2) 0 0 (FR w) := by
  unfold f7_tie at hf
  refine Met.ofW (cc := cX7_tie) (maxL := 3) (ret := (some .int)) (by decide) rfl ?_
  intro p e s m args below meth c s₁ B hml hv
  obtain ⟨rfl, hH, hK⟩ := hv
  have hx := B.exec
  have hb := B.bytes
  have hr := B.returns
  have hts : ∀ q ∈ gALL, q.before _ s = true := fun q h => atoms_spec (ws := (wA yX7_tie cX7_tie 3 (some .int))) B.pre q (List.mem_cons_of_mem _ h)
  have hown : s.vm.findClass RX7 = some m.cls := findClass_of_methodNamed B.named
  have hlocks := B.notSynchronized
  have hS : va_S (FR w) s.heap s.heap [] := va_S.rf
  show W p l e ({ frames := 5, cells := 0, slots := 0, locals := 144 } : Room) s m _ below meth c s.heap [] 0 0 (MQ below (QI w K out.1 S out.2) _ s 0 0 (FR w)) _
  have hl := lv_entry ([.ref a, .int p0, .int p1]) (n := 3) (Nat.le_of_ble_eq_true rfl)
  rw [lg_entry_eq]
  generalize (lg_sl ([.ref a, .int p0, .int p1]) ++ List.replicate (3 - (lg_sl ([.ref a, .int p0, .int p1])).length) Slot.unset).toArray = ls at hl ⊢
  clear B
  generalize ([.ref a, .int p0, .int p1] : List Value).toArray = args at hts ⊢
  have hl : lv_has ls 3 [(0, .ref a), (1, .int p0), (2, .int p1)] := hl
  refine lv_iload_n hx hb dX7_tie_0 rfl (lv_at hl 1 rfl) ?_
  refine lv_bipush (v := 6) hx hb dX7_tie_1 (by decide) ?_
  obtain ⟨v1, h2, hf⟩ := gbind hf
  refine g_Si (As := [.int p0, .int 6]) (rest := []) ⟨hx, hb, hml, hown, hts⟩ (c7_inRange l w K g S p0 6 v1 h2) (gcwS hts i7_inRange wd_137 rfl rfl ⟨Nat.le_of_ble_eq_true rfl, Nat.le_of_ble_eq_true rfl⟩) hH hK hS hl.1 rfl rfl (Nat.le_of_ble_eq_true rfl) dX7_tie_3 ⟨Nat.le_refl _, Nat.le_refl _⟩ (fun H locs hH hS => ?_)
  have hg := gif hf
  refine lv_if_ne (tgt := 11) hx hb dX7_tie_6 (by decide) (fun c3 => ?_) (fun c3 => ?_)
  · have hf := hg.2 c3
    refine lv_iload_n hx hb dX7_tie_11 rfl (lv_at hl 2 rfl) ?_
    refine lv_iconst (v := 1) hx hb dX7_tie_12 (by decide) ?_
    have hg := gif hf
    refine lv_icmp_lt (tgt := 22) hx hb dX7_tie_13 (by decide) (fun c4 => ?_) (fun c4 => ?_)
    · have hf := hg.1 c4
      refine lv_bipush (v := (-2)) hx hb dX7_tie_22 (by decide) ?_
      have ho := Option.some.inj hf
      exact W.iret (v := (-2)) hx hb hr (fun t ht hW => ⟨⟨(-2), (), rfl, congrArg Prod.snd ho, hrP ht ho hH⟩, hS.F ht⟩) hS.2.2 dX7_tie_24
    · have hf := hg.2 c4
      refine lv_iload_n hx hb dX7_tie_16 rfl (lv_at hl 2 rfl) ?_
      refine lv_bipush (v := 99) hx hb dX7_tie_17 (by decide) ?_
      have hg := gif hf
      refine lv_icmp_le (tgt := 25) hx hb dX7_tie_19 (by decide) (fun c5 => ?_) (fun c5 => ?_)
      · have hf := hg.1 c5
        refine lv_aload_n hx hb dX7_tie_25 rfl (lv_at hl 0 rfl) ?_
        have k6 : gkd K (a + 42) = 4 := congrArg Prod.fst (hH.sub hk0 4 (t := (42, 4, 0)) rfl)
        refine e_7_4 hx hb hts hown hK hH hk0 (hts _ wd_26) dX7_tie_26 ?_
        refine lv_aload_n hx hb dX7_tie_29 rfl (lv_at hl 0 rfl) ?_
        have k7 : gkd K (a + 10) = 5 := congrArg Prod.fst (hH.sub hk0 2 (t := (10, 5, 0)) rfl)
        refine e_7_2 hx hb hts hown hK hH hk0 (hts _ wd_21) dX7_tie_30 ?_
        obtain ⟨g8, h9, hf⟩ := gbind hf
        refine g_Vv (As := [.ref (a + 10)]) (rest := []) ⟨hx, hb, hml, hown, hts⟩ (c3_keep l w K g S (a + 42) (a + 10) g8 h9 k6) (gcwV hts i3_keep wd_264 rfl rfl ⟨Nat.le_of_ble_eq_true rfl, Nat.le_of_ble_eq_true rfl⟩) (gRecv.of hK rfl (hH.o4 k6)) hH hK hS hl.1 rfl rfl (Nat.le_of_ble_eq_true rfl) dX7_tie_33 ⟨Nat.le_refl _, Nat.le_refl _⟩ (fun H locs hH hS => ?_)
        refine lv_aload_n hx hb dX7_tie_36 rfl (lv_at hl 0 rfl) ?_
        refine e_7_2 hx hb hts hown hK hH hk0 (hts _ wd_21) dX7_tie_37 ?_
        refine lv_iload_n hx hb dX7_tie_40 rfl (lv_at hl 1 rfl) ?_
        refine lv_iload_n hx hb dX7_tie_41 rfl (lv_at hl 2 rfl) ?_
        obtain ⟨r10, h11, hf⟩ := gbind hf
        refine g_Vi (As := [.int p0, .int p1]) (rest := []) ⟨hx, hb, hml, hown, hts⟩ (c4_tieThread l w K g8 S (a + 10) p0 p1 r10 h11 k7) (gcwV hts i4_tieThread wd_436 rfl rfl ⟨Nat.le_of_ble_eq_true rfl, Nat.le_of_ble_eq_true rfl⟩) (gRecv.of hK rfl (hH.o5 k7)) hH hK hS hl.1 rfl rfl (Nat.le_of_ble_eq_true rfl) dX7_tie_42 ⟨Nat.le_refl _, Nat.le_refl _⟩ (fun H locs hH hS => ?_)
        have ho := Option.some.inj hf
        exact W.iret (v := r10.2) hx hb hr (fun t ht hW => ⟨⟨r10.2, (), rfl, congrArg Prod.snd ho, hrP ht ho hH⟩, hS.F ht⟩) hS.2.2 dX7_tie_45
      · have hf := hg.2 c5
        refine lv_bipush (v := (-2)) hx hb dX7_tie_22 (by decide) ?_
        have ho := Option.some.inj hf
        exact W.iret (v := (-2)) hx hb hr (fun t ht hW => ⟨⟨(-2), (), rfl, congrArg Prod.snd ho, hrP ht ho hH⟩, hS.F ht⟩) hS.2.2 dX7_tie_24
  · have hf := hg.1 c3
    refine lv_iconst (v := (-1)) hx hb dX7_tie_9 (by decide) ?_
    have ho := Option.some.inj hf
    exact W.iret (v := (-1)) hx hb hr (fun t ht hW => ⟨⟨(-1), (), rfl, congrArg Prod.snd ho, hrP ht ho hH⟩, hS.F ht⟩) hS.2.2 dX7_tie_10
set_option maxRecDepth 100000 in
set_option maxHeartbeats 8000000 in
theorem c7_skip (l : Launch) (w : GW) (K : GK) (g : GM) (S : GS) (a : Nat) (out : GM × Int32) (hf : f7_skip K g a = some out) (hk0 : gkd K a = 8) : Met l yX7_skip (wA yX7_skip cX7_skip 1 (some .int)) ({ frames := 5, cells := 0, slots := 0, locals := 144 } : Room) (PRE w K g S [.ref a]) (QI w K out.1 S out.2) 0 0 (FR w) := by
  unfold f7_skip at hf
  refine Met.ofW (cc := cX7_skip) (maxL := 1) (ret := (some .int)) (by decide) rfl ?_
  intro p e s m args below meth c s₁ B hml hv
  obtain ⟨rfl, hH, hK⟩ := hv
  have hx := B.exec
  have hb := B.bytes
  have hr := B.returns
  have hts : ∀ q ∈ gALL, q.before _ s = true := fun q h => atoms_spec (ws := (wA yX7_skip cX7_skip 1 (some .int))) B.pre q (List.mem_cons_of_mem _ h)
  have hown : s.vm.findClass RX7 = some m.cls := findClass_of_methodNamed B.named
  have hlocks := B.notSynchronized
  have hS : va_S (FR w) s.heap s.heap [] := va_S.rf
  show W p l e ({ frames := 5, cells := 0, slots := 0, locals := 144 } : Room) s m _ below meth c s.heap [] 0 0 (MQ below (QI w K out.1 S out.2) _ s 0 0 (FR w)) _
  have hl := lv_entry ([.ref a]) (n := 1) (Nat.le_of_ble_eq_true rfl)
  rw [lg_entry_eq]
  generalize (lg_sl ([.ref a]) ++ List.replicate (1 - (lg_sl ([.ref a])).length) Slot.unset).toArray = ls at hl ⊢
  clear B
  generalize ([.ref a] : List Value).toArray = args at hts ⊢
  have hl : lv_has ls 1 [(0, .ref a)] := hl
  refine lv_aload_n hx hb dX7_skip_0 rfl (lv_at hl 0 rfl) ?_
  have k1 : gkd K (a + 10) = 5 := congrArg Prod.fst (hH.sub hk0 2 (t := (10, 5, 0)) rfl)
  refine e_7_2 hx hb hts hown hK hH hk0 (hts _ wd_21) dX7_skip_1 ?_
  have k2 : gkd K (a + 19) = 1 := congrArg Prod.fst (hH.sub k1 8 (t := (9, 1, 0)) rfl)
  refine e_4_8 hx hb hts hown hK hH k1 (hts _ wd_114) dX7_skip_4 ?_
  refine e_0_6 hx hb hts hown hK hH k2 (hts _ wd_115) dX7_skip_7 ?_
  have hg := gif hf
  refine lv_if_ne (tgt := 16) hx hb dX7_skip_10 (by decide) (fun c3 => ?_) (fun c3 => ?_)
  · have hf := hg.2 c3
    refine lv_aload_n hx hb dX7_skip_16 rfl (lv_at hl 0 rfl) ?_
    have k4 : gkd K (a + 42) = 4 := congrArg Prod.fst (hH.sub hk0 4 (t := (42, 4, 0)) rfl)
    refine e_7_4 hx hb hts hown hK hH hk0 (hts _ wd_26) dX7_skip_17 ?_
    refine lv_aload_n hx hb dX7_skip_20 rfl (lv_at hl 0 rfl) ?_
    refine e_7_2 hx hb hts hown hK hH hk0 (hts _ wd_21) dX7_skip_21 ?_
    obtain ⟨g5, h6, hf⟩ := gbind hf
    refine g_Vv (As := [.ref (a + 10)]) (rest := []) ⟨hx, hb, hml, hown, hts⟩ (c3_keep l w K g S (a + 42) (a + 10) g5 h6 k4) (gcwV hts i3_keep wd_264 rfl rfl ⟨Nat.le_of_ble_eq_true rfl, Nat.le_of_ble_eq_true rfl⟩) (gRecv.of hK rfl (hH.o4 k4)) hH hK hS hl.1 rfl rfl (Nat.le_of_ble_eq_true rfl) dX7_skip_24 ⟨Nat.le_refl _, Nat.le_refl _⟩ (fun H locs hH hS => ?_)
    refine lv_aload_n hx hb dX7_skip_27 rfl (lv_at hl 0 rfl) ?_
    refine e_7_2 hx hb hts hown hK hH hk0 (hts _ wd_21) dX7_skip_28 ?_
    refine e_4_8 hx hb hts hown hK hH k1 (hts _ wd_114) dX7_skip_31 ?_
    obtain ⟨g7, h8, hf⟩ := gbind hf
    refine g_Vv (As := []) (rest := []) ⟨hx, hb, hml, hown, hts⟩ (c0_passOver l w K g5 S (a + 19) g7 h8 k2) (gcwV hts i0_passOver wd_444 rfl rfl ⟨Nat.le_of_ble_eq_true rfl, Nat.le_of_ble_eq_true rfl⟩) (gRecv.of hK rfl (hH.o1 k2)) hH hK hS hl.1 rfl rfl (Nat.le_of_ble_eq_true rfl) dX7_skip_34 ⟨Nat.le_refl _, Nat.le_refl _⟩ (fun H locs hH hS => ?_)
    refine lv_aload_n hx hb dX7_skip_37 rfl (lv_at hl 0 rfl) ?_
    refine e_7_2 hx hb hts hown hK hH hk0 (hts _ wd_21) dX7_skip_38 ?_
    refine e_4_8 hx hb hts hown hK hH k1 (hts _ wd_114) dX7_skip_41 ?_
    obtain ⟨g9, h10, hf⟩ := gbind hf
    refine g_Vv (As := []) (rest := []) ⟨hx, hb, hml, hown, hts⟩ (c0_leaveEnds l w K g7 S (a + 19) g9 h10 k2) (gcwV hts i0_leaveEnds wd_445 rfl rfl ⟨Nat.le_of_ble_eq_true rfl, Nat.le_of_ble_eq_true rfl⟩) (gRecv.of hK rfl (hH.o1 k2)) hH hK hS hl.1 rfl rfl (Nat.le_of_ble_eq_true rfl) dX7_skip_44 ⟨Nat.le_refl _, Nat.le_refl _⟩ (fun H locs hH hS => ?_)
    refine lv_aload_n hx hb dX7_skip_47 rfl (lv_at hl 0 rfl) ?_
    refine e_7_2 hx hb hts hown hK hH hk0 (hts _ wd_21) dX7_skip_48 ?_
    refine e_4_8 hx hb hts hown hK hH k1 (hts _ wd_114) dX7_skip_51 ?_
    refine e_0_6 hx hb hts hown hK hH k2 (hts _ wd_115) dX7_skip_54 ?_
    have ho := Option.some.inj hf
    exact W.iret (v := (gI g9 (a + 19) 6)) hx hb hr (fun t ht hW => ⟨⟨(gI g9 (a + 19) 6), (), rfl, congrArg Prod.snd ho, hrP ht ho hH⟩, hS.F ht⟩) hS.2.2 dX7_skip_57
  · have hf := hg.1 c3
    refine lv_bipush (v := (-5)) hx hb dX7_skip_13 (by decide) ?_
    have ho := Option.some.inj hf
    exact W.iret (v := (-5)) hx hb hr (fun t ht hW => ⟨⟨(-5), (), rfl, congrArg Prod.snd ho, hrP ht ho hH⟩, hS.F ht⟩) hS.2.2 dX7_skip_15
set_option maxRecDepth 100000 in
set_option maxHeartbeats 8000000 in
theorem c2_calledBy (l : Launch) (w : GW) (K : GK) (g : GM) (S : GS) (p0 : Nat) (p1 : Int32) (out : Int32) (hf : f2_calledBy K g p0 p1 = some out) : Met l yX2_calledBy (wA yX2_calledBy cX2_calledBy 2 (some .int)) ({ frames := 0, cells := 0, slots := 0, locals := 0 } : Room) (PRE w K g S [.ref p0, .int p1]) (QI w K g S out) 0 0 (FR w) := by
  unfold f2_calledBy at hf
  refine Met.ofW (cc := cX2_calledBy) (maxL := 2) (ret := (some .int)) (by decide) rfl ?_
  intro p e s m args below meth c s₁ B hml hv
  obtain ⟨rfl, hH, hK⟩ := hv
  have hx := B.exec
  have hb := B.bytes
  have hr := B.returns
  have hts : ∀ q ∈ gALL, q.before _ s = true := fun q h => atoms_spec (ws := (wA yX2_calledBy cX2_calledBy 2 (some .int))) B.pre q (List.mem_cons_of_mem _ h)
  have hown : s.vm.findClass RX2 = some m.cls := findClass_of_methodNamed B.named
  have hlocks := B.notSynchronized
  have hS : va_S (FR w) s.heap s.heap [] := va_S.rf
  show W p l e ({ frames := 0, cells := 0, slots := 0, locals := 0 } : Room) s m _ below meth c s.heap [] 0 0 (MQ below (QI w K g S out) _ s 0 0 (FR w)) _
  have hl := lv_entry ([.ref p0, .int p1]) (n := 2) (Nat.le_of_ble_eq_true rfl)
  rw [lg_entry_eq]
  generalize (lg_sl ([.ref p0, .int p1]) ++ List.replicate (2 - (lg_sl ([.ref p0, .int p1])).length) Slot.unset).toArray = ls at hl ⊢
  clear B
  generalize ([.ref p0, .int p1] : List Value).toArray = args at hts ⊢
  have hl : lv_has ls 2 [(0, .ref p0), (1, .int p1)] := hl
  refine lv_aload_n hx hb dX2_calledBy_0 rfl (lv_at hl 0 rfl) ?_
  refine lv_iload_n hx hb dX2_calledBy_1 rfl (lv_at hl 1 rfl) ?_
  obtain ⟨k2, hf⟩ := gd_some hf
  have k2 := gk_arr k2
  obtain ⟨h3, hf⟩ := gd_some hf
  refine g_tald hx hb hK hH k2 h3 dX2_calledBy_2 ?_
  rcases gopt_c hf with ⟨q5, hf⟩ | ⟨t4, q5, hf⟩
  · refine g_rfN q5 ?_
    refine lv_ifnonnullN hx hb dX2_calledBy_3 ?_
    refine lv_iconst (v := 0) hx hb dX2_calledBy_6 (by decide) ?_
    refine lv_goto (tgt := 16) hx hb dX2_calledBy_7 (by decide) ?_
    have ho := Option.some.inj hf
    exact W.iret (v := 0) hx hb hr (fun t ht hW => ⟨⟨0, (), rfl, ho, hrE ht hH⟩, hS.F ht⟩) hS.2.2 dX2_calledBy_16
  · refine g_rfS q5 ?_
    refine lv_ifnonnull (tgt := 10) hx hb dX2_calledBy_3 (by decide) ?_
    refine lv_aload_n hx hb dX2_calledBy_10 rfl (lv_at hl 0 rfl) ?_
    refine lv_iload_n hx hb dX2_calledBy_11 rfl (lv_at hl 1 rfl) ?_
    refine g_tald hx hb hK hH k2 h3 dX2_calledBy_12 ?_
    rcases gopt_c hf with ⟨q8, hf⟩ | ⟨t7, q8, hf⟩
    · cases hf
    · refine g_rfS q8 ?_
      obtain ⟨k9, hf⟩ := gd_some hf
      have k9 := gk_obj k9
      refine e_1_2 hx hb hts hown hK hH k9 (hts _ wd_182) dX2_calledBy_13 ?_
      have ho := Option.some.inj hf
      exact W.iret (v := (gI g t7 2)) hx hb hr (fun t ht hW => ⟨⟨(gI g t7 2), (), rfl, ho, hrE ht hH⟩, hS.F ht⟩) hS.2.2 dX2_calledBy_16
set_option maxRecDepth 100000 in
set_option maxHeartbeats 8000000 in
theorem c2_holds (l : Launch) (w : GW) (K : GK) (g : GM) (S : GS) (p0 : Int32) (p1 : Int32) (out : Int32) (hf : f2_holds p0 p1 = some out) : Met l yX2_holds (wA yX2_holds cX2_holds 2 (some .boolean)) ({ frames := 0, cells := 0, slots := 0, locals := 0 } : Room) (PRE w K g S [.int p0, .int p1]) (QI w K g S out) 0 0 (FR w) := by
  unfold f2_holds at hf
  refine Met.ofW (cc := cX2_holds) (maxL := 2) (ret := (some .boolean)) (by decide) rfl ?_
  intro p e s m args below meth c s₁ B hml hv
  obtain ⟨rfl, hH, hK⟩ := hv
  have hx := B.exec
  have hb := B.bytes
  have hr := B.returns
  have hts : ∀ q ∈ gALL, q.before _ s = true := fun q h => atoms_spec (ws := (wA yX2_holds cX2_holds 2 (some .boolean))) B.pre q (List.mem_cons_of_mem _ h)
  have hown : s.vm.findClass RX2 = some m.cls := findClass_of_methodNamed B.named
  have hlocks := B.notSynchronized
  have hS : va_S (FR w) s.heap s.heap [] := va_S.rf
  show W p l e ({ frames := 0, cells := 0, slots := 0, locals := 0 } : Room) s m _ below meth c s.heap [] 0 0 (MQ below (QI w K g S out) _ s 0 0 (FR w)) _
  have hl := lv_entry ([.int p0, .int p1]) (n := 2) (Nat.le_of_ble_eq_true rfl)
  rw [lg_entry_eq]
  generalize (lg_sl ([.int p0, .int p1]) ++ List.replicate (2 - (lg_sl ([.int p0, .int p1])).length) Slot.unset).toArray = ls at hl ⊢
  clear B
  generalize ([.int p0, .int p1] : List Value).toArray = args at hts ⊢
  have hl : lv_has ls 2 [(0, .int p0), (1, .int p1)] := hl
  refine lv_iload_n hx hb dX2_holds_0 rfl (lv_at hl 0 rfl) ?_
  refine lv_iload_n hx hb dX2_holds_1 rfl (lv_at hl 1 rfl) ?_
  refine lv_ishr hx hb dX2_holds_2 ?_
  refine lv_iconst (v := 1) hx hb dX2_holds_3 (by decide) ?_
  refine lv_iand hx hb dX2_holds_4 ?_
  refine lv_iconst (v := 1) hx hb dX2_holds_5 (by decide) ?_
  have hg := gif hf
  refine lv_icmp_ne (tgt := 13) hx hb dX2_holds_6 (by decide) (fun c1 => ?_) (fun c1 => ?_)
  · have hf := hg.2 c1
    refine lv_iconst (v := 0) hx hb dX2_holds_13 (by decide) ?_
    have ho := Option.some.inj hf
    exact W.zret (v := 0) (ty := .boolean) hx hb hr rfl (fun t ht hW => ⟨⟨0, (), rfl, ho, hrE ht hH⟩, hS.F ht⟩) hS.2.2 dX2_holds_14
  · have hf := hg.1 c1
    refine lv_iconst (v := 1) hx hb dX2_holds_9 (by decide) ?_
    refine lv_goto (tgt := 14) hx hb dX2_holds_10 (by decide) ?_
    have ho := Option.some.inj hf
    exact W.zret (v := 1) (ty := .boolean) hx hb hr rfl (fun t ht hW => ⟨⟨1, (), rfl, ho, hrE ht hH⟩, hS.F ht⟩) hS.2.2 dX2_holds_14
set_option maxRecDepth 100000 in
set_option maxHeartbeats 8000000 in
theorem c2_callersOf (l : Launch) (w : GW) (K : GK) (g : GM) (S : GS) (p0 : Nat) (p1 : Int32) (out : Int32) (hf : f2_callersOf K g p0 p1 = some out) : Met l yX2_callersOf (wA yX2_callersOf cX2_callersOf 4 (some .int)) ({ frames := 1, cells := 0, slots := 0, locals := 21 } : Room) (PRE w K g S [.ref p0, .int p1]) (QI w K g S out) 0 0 (FR w) := by
  unfold f2_callersOf at hf
  refine Met.ofW (cc := cX2_callersOf) (maxL := 4) (ret := (some .int)) (by decide) rfl ?_
  intro p e s m args below meth c s₁ B hml hv
  obtain ⟨rfl, hH, hK⟩ := hv
  have hx := B.exec
  have hb := B.bytes
  have hr := B.returns
  have hts : ∀ q ∈ gALL, q.before _ s = true := fun q h => atoms_spec (ws := (wA yX2_callersOf cX2_callersOf 4 (some .int))) B.pre q (List.mem_cons_of_mem _ h)
  have hown : s.vm.findClass RX2 = some m.cls := findClass_of_methodNamed B.named
  have hlocks := B.notSynchronized
  have hS : va_S (FR w) s.heap s.heap [] := va_S.rf
  show W p l e ({ frames := 1, cells := 0, slots := 0, locals := 21 } : Room) s m _ below meth c s.heap [] 0 0 (MQ below (QI w K g S out) _ s 0 0 (FR w)) _
  have hl := lv_entry ([.ref p0, .int p1]) (n := 4) (Nat.le_of_ble_eq_true rfl)
  rw [lg_entry_eq]
  generalize (lg_sl ([.ref p0, .int p1]) ++ List.replicate (4 - (lg_sl ([.ref p0, .int p1])).length) Slot.unset).toArray = ls at hl ⊢
  clear B
  generalize ([.ref p0, .int p1] : List Value).toArray = args at hts ⊢
  have B28 : ∀ (k4 : Int32 → Int32 → Option (Int32)), (∀ (x2 : Int32) (x3 : Int32) (H : Heap) (locs : List Loc) (ls : Array Slot), HR w K g S H → va_S (FR w) s.heap H locs → lv_has ls 4 [(0, .ref p0), (1, .int p1), (2, .int x2), (3, .int x3)] → k4 x2 x3 = some out → W p l e ({ frames := 1, cells := 0, slots := 0, locals := 21 } : Room) s m args below meth c H locs 0 0 (MQ below (QI w K g S out) args s 0 0 (FR w)) (F0 m 4 ls [])) → ∀ (x2 : Int32) (x3 : Int32) (H : Heap) (locs : List Loc) (ls : Array Slot), HR w K g S H → va_S (FR w) s.heap H locs → lv_has ls 4 [(0, .ref p0), (1, .int p1), (2, .int x2), (3, .int x3)] → f2_callersOf_28 k4 K g p0 p1 x2 x3 = some out → W p l e ({ frames := 1, cells := 0, slots := 0, locals := 21 } : Room) s m args below meth c H locs 0 0 (MQ below (QI w K g S out) args s 0 0 (FR w)) (F0 m 28 ls []) := by
    intro k4 hk4 x2 x3 H locs ls hH hS hl hf
    unfold f2_callersOf_28 at hf
    obtain ⟨v1, ev1⟩ : ∃ z : Int32, z = x3 + 1 := ⟨_, rfl⟩
    have hf := gl_at hf ev1
    refine lv_iinc (v := v1) (lv' := [(3, .int v1), (0, .ref p0), (1, .int p1), (2, .int x2)]) hx hb dX2_callersOf_28 hl (k := 3) rfl (by rw [ev1]; rfl) (by decide) rfl (fun ls hl => ?_)
    refine lv_goto (tgt := 4) hx hb dX2_callersOf_31 (by decide) ?_
    exact hk4 _ _ _ _ _ hH hS (lv_sub hl [1, 2, 3, 0] rfl) hf
  have B4 : ∀ n : Nat, ∀ (x2 : Int32) (x3 : Int32) (H : Heap) (locs : List Loc) (ls : Array Slot), HR w K g S H → va_S (FR w) s.heap H locs → lv_has ls 4 [(0, .ref p0), (1, .int p1), (2, .int x2), (3, .int x3)] → f2_callersOf_4 K g p0 p1 n x2 x3 = some out → W p l e ({ frames := 1, cells := 0, slots := 0, locals := 21 } : Room) s m args below meth c H locs 0 0 (MQ below (QI w K g S out) args s 0 0 (FR w)) (F0 m 4 ls []) := by
    intro n
    induction n with
    | zero =>
      intro x2 x3 H locs ls hH hS hl hf
      cases hf
    | succ n ih =>
      intro x2 x3 H locs ls hH hS hl hf
      rw [f2_callersOf_4] at hf
      refine lv_iload_n hx hb dX2_callersOf_4 rfl (lv_at hl 3 rfl) ?_
      refine lv_bipush (v := 10) hx hb dX2_callersOf_5 (by decide) ?_
      have hg := gif hf
      refine lv_icmp_ge (tgt := 34) hx hb dX2_callersOf_7 (by decide) (fun c2 => ?_) (fun c2 => ?_)
      · have hf := hg.1 c2
        refine lv_iload_n hx hb dX2_callersOf_34 rfl (lv_at hl 2 rfl) ?_
        have ho := Option.some.inj hf
        exact W.iret (v := x2) hx hb hr (fun t ht hW => ⟨⟨x2, (), rfl, ho, hrE ht hH⟩, hS.F ht⟩) hS.2.2 dX2_callersOf_35
      · have hf := hg.2 c2
        refine lv_aload_n hx hb dX2_callersOf_10 rfl (lv_at hl 0 rfl) ?_
        refine lv_iload_n hx hb dX2_callersOf_11 rfl (lv_at hl 3 rfl) ?_
        obtain ⟨v3, h4, hf⟩ := gbind hf
        refine g_Si (As := [.ref p0, .int x3]) (rest := []) ⟨hx, hb, hml, hown, hts⟩ (c2_calledBy l w K g S p0 x3 v3 h4) (gcwS hts i2_calledBy wd_179 rfl rfl ⟨Nat.le_of_ble_eq_true rfl, Nat.le_of_ble_eq_true rfl⟩) hH hK hS hl.1 rfl rfl (Nat.le_of_ble_eq_true rfl) dX2_callersOf_12 ⟨Nat.le_refl _, Nat.le_refl _⟩ (fun H locs hH hS => ?_)
        refine lv_iload_n hx hb dX2_callersOf_15 rfl (lv_at hl 1 rfl) ?_
        obtain ⟨v5, h6, hf⟩ := gbind hf
        refine g_Si (As := [.int v3, .int p1]) (rest := []) ⟨hx, hb, hml, hown, hts⟩ (c2_holds l w K g S v3 p1 v5 h6) (gcwS hts i2_holds wd_183 rfl rfl ⟨Nat.le_of_ble_eq_true rfl, Nat.le_of_ble_eq_true rfl⟩) hH hK hS hl.1 rfl rfl (Nat.le_of_ble_eq_true rfl) dX2_callersOf_16 ⟨Nat.le_refl _, Nat.le_refl _⟩ (fun H locs hH hS => ?_)
        have hg := gif hf
        refine lv_if_eq (tgt := 28) hx hb dX2_callersOf_19 (by decide) (fun c7 => ?_) (fun c7 => ?_)
        · have hf := hg.1 c7
          exact B28 _ (ih) _ _ _ _ _ hH hS (lv_sub hl [0, 1, 2, 3] rfl) hf
        · have hf := hg.2 c7
          refine lv_iload_n hx hb dX2_callersOf_22 rfl (lv_at hl 2 rfl) ?_
          refine lv_iconst (v := 1) hx hb dX2_callersOf_23 (by decide) ?_
          refine lv_iload_n hx hb dX2_callersOf_24 rfl (lv_at hl 3 rfl) ?_
          refine lv_ishl hx hb dX2_callersOf_25 ?_
          refine lv_ior hx hb dX2_callersOf_26 ?_
          refine lv_topi (fun v8 ev8 => ?_)
          have hf := gl_at hf ev8
          refine lv_istore_n (lv' := [(2, .int v8), (0, .ref p0), (1, .int p1), (3, .int x3)]) hx hb dX2_callersOf_27 rfl hl (by decide) rfl (fun ls hl => ?_)
          exact B28 _ (ih) _ _ _ _ _ hH hS (lv_sub hl [1, 2, 0, 3] rfl) hf
  have hl : lv_has ls 4 [(0, .ref p0), (1, .int p1)] := hl
  refine lv_iconst (v := 0) hx hb dX2_callersOf_0 (by decide) ?_
  refine lv_istore_n (lv' := [(2, .int 0), (0, .ref p0), (1, .int p1)]) hx hb dX2_callersOf_1 rfl hl (by decide) rfl (fun ls hl => ?_)
  refine lv_iconst (v := 0) hx hb dX2_callersOf_2 (by decide) ?_
  refine lv_istore_n (lv' := [(3, .int 0), (2, .int 0), (0, .ref p0), (1, .int p1)]) hx hb dX2_callersOf_3 rfl hl (by decide) rfl (fun ls hl => ?_)
  exact B4 _ _ _ _ _ _ hH hS (lv_sub hl [2, 3, 1, 0] rfl) hf
set_option maxRecDepth 100000 in
set_option maxHeartbeats 8000000 in
theorem c7_blank (l : Launch) (w : GW) (K : GK) (g : GM) (S : GS) (a : Nat) (p0 : Int32) (out : GM × Int32) (hf : f7_blank K g a p0 = some out) (hk0 : gkd K a = 8) : Met l yX7_blank (wA yX7_blank cX7_blank 2 (some .int)) ({ frames := 5, cells := 0, slots := 0, locals := 144 } : Room) (PRE w K g S [.ref a, .int p0]) (QI w K out.1 S out.2) 0 0 (FR w) := by
  unfold f7_blank at hf
  refine Met.ofW (cc := cX7_blank) (maxL := 2) (ret := (some .int)) (by decide) rfl ?_
  intro p e s m args below meth c s₁ B hml hv
  obtain ⟨rfl, hH, hK⟩ := hv
  have hx := B.exec
  have hb := B.bytes
  have hr := B.returns
  have hts : ∀ q ∈ gALL, q.before _ s = true := fun q h => atoms_spec (ws := (wA yX7_blank cX7_blank 2 (some .int))) B.pre q (List.mem_cons_of_mem _ h)
  have hown : s.vm.findClass RX7 = some m.cls := findClass_of_methodNamed B.named
  have hlocks := B.notSynchronized
  have hS : va_S (FR w) s.heap s.heap [] := va_S.rf
  show W p l e ({ frames := 5, cells := 0, slots := 0, locals := 144 } : Room) s m _ below meth c s.heap [] 0 0 (MQ below (QI w K out.1 S out.2) _ s 0 0 (FR w)) _
  have hl := lv_entry ([.ref a, .int p0]) (n := 2) (Nat.le_of_ble_eq_true rfl)
  rw [lg_entry_eq]
  generalize (lg_sl ([.ref a, .int p0]) ++ List.replicate (2 - (lg_sl ([.ref a, .int p0])).length) Slot.unset).toArray = ls at hl ⊢
  clear B
  generalize ([.ref a, .int p0] : List Value).toArray = args at hts ⊢
  have hl : lv_has ls 2 [(0, .ref a), (1, .int p0)] := hl
  refine lv_iload_n hx hb dX7_blank_0 rfl (lv_at hl 1 rfl) ?_
  refine lv_bipush (v := 10) hx hb dX7_blank_1 (by decide) ?_
  obtain ⟨v1, h2, hf⟩ := gbind hf
  refine g_Si (As := [.int p0, .int 10]) (rest := []) ⟨hx, hb, hml, hown, hts⟩ (c7_inRange l w K g S p0 10 v1 h2) (gcwS hts i7_inRange wd_137 rfl rfl ⟨Nat.le_of_ble_eq_true rfl, Nat.le_of_ble_eq_true rfl⟩) hH hK hS hl.1 rfl rfl (Nat.le_of_ble_eq_true rfl) dX7_blank_3 ⟨Nat.le_refl _, Nat.le_refl _⟩ (fun H locs hH hS => ?_)
  have hg := gif hf
  refine lv_if_ne (tgt := 11) hx hb dX7_blank_6 (by decide) (fun c3 => ?_) (fun c3 => ?_)
  · have hf := hg.2 c3
    refine lv_aload_n hx hb dX7_blank_11 rfl (lv_at hl 0 rfl) ?_
    have k4 : gkd K (a + 10) = 5 := congrArg Prod.fst (hH.sub hk0 2 (t := (10, 5, 0)) rfl)
    refine e_7_2 hx hb hts hown hK hH hk0 (hts _ wd_21) dX7_blank_12 ?_
    have k5 : K.1 (a + 11) = (13, 10) := hH.sub k4 0 (t := (1, 13, 10)) rfl
    refine e_4_0 hx hb hts hown hK hH k4 (hts _ wd_113) dX7_blank_15 ?_
    refine lv_iload_n hx hb dX7_blank_18 rfl (lv_at hl 1 rfl) ?_
    obtain ⟨h7, hf⟩ := gd_some hf
    refine g_tald hx hb hK hH k5 h7 dX7_blank_19 ?_
    rcases gopt_c hf with ⟨q9, hf⟩ | ⟨t8, q9, hf⟩
    · refine g_rfN q9 ?_
      refine lv_ifnonnullN hx hb dX7_blank_20 ?_
      refine lv_bipush (v := (-5)) hx hb dX7_blank_23 (by decide) ?_
      have ho := Option.some.inj hf
      exact W.iret (v := (-5)) hx hb hr (fun t ht hW => ⟨⟨(-5), (), rfl, congrArg Prod.snd ho, hrP ht ho hH⟩, hS.F ht⟩) hS.2.2 dX7_blank_25
    · refine g_rfS q9 ?_
      refine lv_ifnonnull (tgt := 26) hx hb dX7_blank_20 (by decide) ?_
      refine lv_aload_n hx hb dX7_blank_26 rfl (lv_at hl 0 rfl) ?_
      have k10 : gkd K (a + 42) = 4 := congrArg Prod.fst (hH.sub hk0 4 (t := (42, 4, 0)) rfl)
      refine e_7_4 hx hb hts hown hK hH hk0 (hts _ wd_26) dX7_blank_27 ?_
      refine lv_aload_n hx hb dX7_blank_30 rfl (lv_at hl 0 rfl) ?_
      refine e_7_2 hx hb hts hown hK hH hk0 (hts _ wd_21) dX7_blank_31 ?_
      obtain ⟨g11, h12, hf⟩ := gbind hf
      refine g_Vv (As := [.ref (a + 10)]) (rest := []) ⟨hx, hb, hml, hown, hts⟩ (c3_keep l w K g S (a + 42) (a + 10) g11 h12 k10) (gcwV hts i3_keep wd_264 rfl rfl ⟨Nat.le_of_ble_eq_true rfl, Nat.le_of_ble_eq_true rfl⟩) (gRecv.of hK rfl (hH.o4 k10)) hH hK hS hl.1 rfl rfl (Nat.le_of_ble_eq_true rfl) dX7_blank_34 ⟨Nat.le_refl _, Nat.le_refl _⟩ (fun H locs hH hS => ?_)
      refine lv_aload_n hx hb dX7_blank_37 rfl (lv_at hl 0 rfl) ?_
      refine e_7_2 hx hb hts hown hK hH hk0 (hts _ wd_21) dX7_blank_38 ?_
      refine e_4_0 hx hb hts hown hK hH k4 (hts _ wd_113) dX7_blank_41 ?_
      refine lv_iload_n hx hb dX7_blank_44 rfl (lv_at hl 1 rfl) ?_
      refine lv_null hx hb dX7_blank_45 ?_
      refine g_tastN hx hb hK hH hS k5 h7 dX7_blank_46 (fun H locs hH hS => ?_)
      obtain ⟨g14, eg14⟩ : ∃ z : GM, z = gsR g11 (a + 11) p0.toNatClampNeg none := ⟨_, rfl⟩
      have hf := gl_at hf eg14
      replace hH : HR w K g14 S H := by rw [eg14]; exact hH
      refine lv_aload_n hx hb dX7_blank_47 rfl (lv_at hl 0 rfl) ?_
      refine e_7_2 hx hb hts hown hK hH hk0 (hts _ wd_21) dX7_blank_48 ?_
      refine e_4_0 hx hb hts hown hK hH k4 (hts _ wd_113) dX7_blank_51 ?_
      refine lv_iload_n hx hb dX7_blank_54 rfl (lv_at hl 1 rfl) ?_
      obtain ⟨v15, h16, hf⟩ := gbind hf
      refine g_Si (As := [.ref (a + 11), .int p0]) (rest := []) ⟨hx, hb, hml, hown, hts⟩ (c2_callersOf l w K g14 S (a + 11) p0 v15 h16) (gcwS hts i2_callersOf wd_176 rfl rfl ⟨Nat.le_of_ble_eq_true rfl, Nat.le_of_ble_eq_true rfl⟩) hH hK hS hl.1 rfl rfl (Nat.le_of_ble_eq_true rfl) dX7_blank_55 ⟨Nat.le_refl _, Nat.le_refl _⟩ (fun H locs hH hS => ?_)
      have ho := Option.some.inj hf
      exact W.iret (v := v15) hx hb hr (fun t ht hW => ⟨⟨v15, (), rfl, congrArg Prod.snd ho, hrP ht ho hH⟩, hS.F ht⟩) hS.2.2 dX7_blank_58
  · have hf := hg.1 c3
    refine lv_iconst (v := (-1)) hx hb dX7_blank_9 (by decide) ?_
    have ho := Option.some.inj hf
    exact W.iret (v := (-1)) hx hb hr (fun t ht hW => ⟨⟨(-1), (), rfl, congrArg Prod.snd ho, hrP ht ho hH⟩, hS.F ht⟩) hS.2.2 dX7_blank_10
set_option maxRecDepth 100000 in
set_option maxHeartbeats 8000000 in
theorem c7_cut (l : Launch) (w : GW) (K : GK) (g : GM) (S : GS) (a : Nat) (out : GM × Int32) (hf : f7_cut K g a = some out) (hk0 : gkd K a = 8) : Met l yX7_cut (wA yX7_cut cX7_cut 2 (some .int)) ({ frames := 5, cells := 0, slots := 0, locals := 144 } : Room) (PRE w K g S [.ref a]) (QI w K out.1 S out.2) 0 0 (FR w) := by
  unfold f7_cut at hf
  refine Met.ofW (cc := cX7_cut) (maxL := 2) (ret := (some .int)) (by decide) rfl ?_
  intro p e s m args below meth c s₁ B hml hv
  obtain ⟨rfl, hH, hK⟩ := hv
  have hx := B.exec
  have hb := B.bytes
  have hr := B.returns
  have hts : ∀ q ∈ gALL, q.before _ s = true := fun q h => atoms_spec (ws := (wA yX7_cut cX7_cut 2 (some .int))) B.pre q (List.mem_cons_of_mem _ h)
  have hown : s.vm.findClass RX7 = some m.cls := findClass_of_methodNamed B.named
  have hlocks := B.notSynchronized
  have hS : va_S (FR w) s.heap s.heap [] := va_S.rf
  show W p l e ({ frames := 5, cells := 0, slots := 0, locals := 144 } : Room) s m _ below meth c s.heap [] 0 0 (MQ below (QI w K out.1 S out.2) _ s 0 0 (FR w)) _
  have hl := lv_entry ([.ref a]) (n := 2) (Nat.le_of_ble_eq_true rfl)
  rw [lg_entry_eq]
  generalize (lg_sl ([.ref a]) ++ List.replicate (2 - (lg_sl ([.ref a])).length) Slot.unset).toArray = ls at hl ⊢
  clear B
  generalize ([.ref a] : List Value).toArray = args at hts ⊢
  have hl : lv_has ls 2 [(0, .ref a)] := hl
  refine lv_aload_n hx hb dX7_cut_0 rfl (lv_at hl 0 rfl) ?_
  have k1 : gkd K (a + 42) = 4 := congrArg Prod.fst (hH.sub hk0 4 (t := (42, 4, 0)) rfl)
  refine e_7_4 hx hb hts hown hK hH hk0 (hts _ wd_26) dX7_cut_1 ?_
  refine lv_aload_n hx hb dX7_cut_4 rfl (lv_at hl 0 rfl) ?_
  have k2 : gkd K (a + 10) = 5 := congrArg Prod.fst (hH.sub hk0 2 (t := (10, 5, 0)) rfl)
  refine e_7_2 hx hb hts hown hK hH hk0 (hts _ wd_21) dX7_cut_5 ?_
  obtain ⟨g3, h4, hf⟩ := gbind hf
  refine g_Vv (As := [.ref (a + 10)]) (rest := []) ⟨hx, hb, hml, hown, hts⟩ (c3_keep l w K g S (a + 42) (a + 10) g3 h4 k1) (gcwV hts i3_keep wd_264 rfl rfl ⟨Nat.le_of_ble_eq_true rfl, Nat.le_of_ble_eq_true rfl⟩) (gRecv.of hK rfl (hH.o4 k1)) hH hK hS hl.1 rfl rfl (Nat.le_of_ble_eq_true rfl) dX7_cut_8 ⟨Nat.le_refl _, Nat.le_refl _⟩ (fun H locs hH hS => ?_)
  refine lv_aload_n hx hb dX7_cut_11 rfl (lv_at hl 0 rfl) ?_
  refine e_7_2 hx hb hts hown hK hH hk0 (hts _ wd_21) dX7_cut_12 ?_
  refine e_4_9 hx hb hts hown hK hH k2 (hts _ wd_116) dX7_cut_15 ?_
  refine lv_topi (fun v5 ev5 => ?_)
  have hf := gl_at hf ev5
  refine lv_istore_n (lv' := [(1, .int v5), (0, .ref a)]) hx hb dX7_cut_18 rfl hl (by decide) rfl (fun ls hl => ?_)
  refine lv_aload_n hx hb dX7_cut_19 rfl (lv_at hl 1 rfl) ?_
  refine e_7_2 hx hb hts hown hK hH hk0 (hts _ wd_21) dX7_cut_20 ?_
  refine lv_iconst (v := 0) hx hb dX7_cut_23 (by decide) ?_
  refine p_4_9 hx hb hts hown hK hH hS k2 (hts _ wd_116) dX7_cut_24 (fun H locs hH hS => ?_)
  obtain ⟨g6, eg6⟩ : ∃ z : GM, z = gsI g3 (a + 10) 9 0 := ⟨_, rfl⟩
  have hf := gl_at hf eg6
  replace hH : HR w K g6 S H := by rw [eg6]; exact hH
  refine lv_iload_n hx hb dX7_cut_27 rfl (lv_at hl 0 rfl) ?_
  have ho := Option.some.inj hf
  exact W.iret (v := v5) hx hb hr (fun t ht hW => ⟨⟨v5, (), rfl, congrArg Prod.snd ho, hrP ht ho hH⟩, hS.F ht⟩) hS.2.2 dX7_cut_28
set_option maxRecDepth 100000 in
set_option maxHeartbeats 8000000 in
theorem c7_set (l : Launch) (w : GW) (K : GK) (g : GM) (S : GS) (a : Nat) (p0 : Int32) (p1 : Int32) (out : GM × Int32) (hf : f7_set K g a p0 p1 = some out) (hk0 : gkd K a = 8) : Met l yX7_set (wA yX7_set cX7_set 4 (some .int)) ({ frames := 5, cells := 0, slots := 0, locals := 144 } : Room) (PSET w K g S [.ref a, .int p0, .int p1]) (QI w K out.1 S out.2) 0 0 (FR w) := by
  unfold f7_set at hf
  refine Met.ofW (cc := cX7_set) (maxL := 4) (ret := (some .int)) (by decide) rfl ?_
  intro p e s m args below meth c s₁ B hml hv
  obtain ⟨rfl, hH, hK, t1_, t2_, hZ1, hT1, hZ2, hT2⟩ := hv
  have hx := B.exec
  have hb := B.bytes
  have hr := B.returns
  have hts : ∀ q ∈ gALL, q.before _ s = true := fun q h => atoms_spec (ws := (wA yX7_set cX7_set 4 (some .int))) B.pre q (List.mem_cons_of_mem _ h)
  have hown : s.vm.findClass RX7 = some m.cls := findClass_of_methodNamed B.named
  have hlocks := B.notSynchronized
  have hS : va_S (FR w) s.heap s.heap [] := va_S.rf
  show W p l e ({ frames := 5, cells := 0, slots := 0, locals := 144 } : Room) s m _ below meth c s.heap [] 0 0 (MQ below (QI w K out.1 S out.2) _ s 0 0 (FR w)) _
  have hl := lv_entry ([.ref a, .int p0, .int p1]) (n := 4) (Nat.le_of_ble_eq_true rfl)
  rw [lg_entry_eq]
  generalize (lg_sl ([.ref a, .int p0, .int p1]) ++ List.replicate (4 - (lg_sl ([.ref a, .int p0, .int p1])).length) Slot.unset).toArray = ls at hl ⊢
  clear B
  generalize ([.ref a, .int p0, .int p1] : List Value).toArray = args at hts ⊢
  have hl : lv_has ls 4 [(0, .ref a), (1, .int p0), (2, .int p1)] := hl
  refine lv_iload_n hx hb dX7_set_0 rfl (lv_at hl 1 rfl) ?_
  refine lv_iconst (v := 3) hx hb dX7_set_1 (by decide) ?_
  obtain ⟨v1, h2, hf⟩ := gbind hf
  refine g_Si (As := [.int p0, .int 3]) (rest := []) ⟨hx, hb, hml, hown, hts⟩ (c7_inRange l w K g S p0 3 v1 h2) (gcwS hts i7_inRange wd_137 rfl rfl ⟨Nat.le_of_ble_eq_true rfl, Nat.le_of_ble_eq_true rfl⟩) hH hK hS hl.1 rfl rfl (Nat.le_of_ble_eq_true rfl) dX7_set_2 ⟨Nat.le_refl _, Nat.le_refl _⟩ (fun H locs hH hS => ?_)
  have hg := gif hf
  refine lv_if_ne (tgt := 11) hx hb dX7_set_5 (by decide) (fun c3 => ?_) (fun c3 => ?_)
  · have hf := hg.2 c3
    refine lv_iload_n hx hb dX7_set_11 rfl (lv_at hl 2 rfl) ?_
    refine va_gets hx hb hZ1 hS hown (hts _ wd_458) (fun _ h => h) dX7_set_12 ?_
    refine lv_iload_n hx hb dX7_set_15 rfl (lv_at hl 1 rfl) ?_
    obtain ⟨h5, hf⟩ := gd_some hf
    refine va_ti hx hb hT1 hS (gok_in h5) rfl dX7_set_16 ?_
    have hg := gif hf
    refine lv_icmp_lt (tgt := 29) hx hb dX7_set_17 (by decide) (fun c6 => ?_) (fun c6 => ?_)
    · have hf := hg.1 c6
      refine lv_bipush (v := (-2)) hx hb dX7_set_29 (by decide) ?_
      have ho := Option.some.inj hf
      exact W.iret (v := (-2)) hx hb hr (fun t ht hW => ⟨⟨(-2), (), rfl, congrArg Prod.snd ho, hrP ht ho hH⟩, hS.F ht⟩) hS.2.2 dX7_set_31
    · have hf := hg.2 c6
      refine lv_iload_n hx hb dX7_set_20 rfl (lv_at hl 2 rfl) ?_
      refine va_gets hx hb hZ2 hS hown (hts _ wd_459) (fun _ h => h) dX7_set_21 ?_
      refine lv_iload_n hx hb dX7_set_24 rfl (lv_at hl 1 rfl) ?_
      refine va_ti hx hb hT2 hS (gok_in h5) rfl dX7_set_25 ?_
      have hg := gif hf
      refine lv_icmp_le (tgt := 32) hx hb dX7_set_26 (by decide) (fun c8 => ?_) (fun c8 => ?_)
      · have hf := hg.1 c8
        refine lv_aload_n hx hb dX7_set_32 rfl (lv_at hl 0 rfl) ?_
        have k9 : gkd K (a + 42) = 4 := congrArg Prod.fst (hH.sub hk0 4 (t := (42, 4, 0)) rfl)
        refine e_7_4 hx hb hts hown hK hH hk0 (hts _ wd_26) dX7_set_33 ?_
        refine lv_aload_n hx hb dX7_set_36 rfl (lv_at hl 0 rfl) ?_
        have k10 : gkd K (a + 10) = 5 := congrArg Prod.fst (hH.sub hk0 2 (t := (10, 5, 0)) rfl)
        refine e_7_2 hx hb hts hown hK hH hk0 (hts _ wd_21) dX7_set_37 ?_
        obtain ⟨g11, h12, hf⟩ := gbind hf
        refine g_Vv (As := [.ref (a + 10)]) (rest := []) ⟨hx, hb, hml, hown, hts⟩ (c3_keep l w K g S (a + 42) (a + 10) g11 h12 k9) (gcwV hts i3_keep wd_264 rfl rfl ⟨Nat.le_of_ble_eq_true rfl, Nat.le_of_ble_eq_true rfl⟩) (gRecv.of hK rfl (hH.o4 k9)) hH hK hS hl.1 rfl rfl (Nat.le_of_ble_eq_true rfl) dX7_set_40 ⟨Nat.le_refl _, Nat.le_refl _⟩ (fun H locs hH hS => ?_)
        refine lv_aload_n hx hb dX7_set_43 rfl (lv_at hl 0 rfl) ?_
        refine e_7_2 hx hb hts hown hK hH hk0 (hts _ wd_21) dX7_set_44 ?_
        have k13 : K.1 (a + 13) = (10, 3) := hH.sub k10 2 (t := (3, 10, 3)) rfl
        refine e_4_2 hx hb hts hown hK hH k10 (hts _ wd_123) dX7_set_47 ?_
        refine lv_iload_n hx hb dX7_set_50 rfl (lv_at hl 1 rfl) ?_
        obtain ⟨h15, hf⟩ := gd_some hf
        refine g_iald hx hb hK hH k13 h15 dX7_set_51 ?_
        refine lv_topi (fun v16 ev16 => ?_)
        have hf := gl_at hf ev16
        refine lv_istore_n (lv' := [(3, .int v16), (0, .ref a), (1, .int p0), (2, .int p1)]) hx hb dX7_set_52 rfl hl (by decide) rfl (fun ls hl => ?_)
        refine lv_aload_n hx hb dX7_set_53 rfl (lv_at hl 1 rfl) ?_
        refine e_7_2 hx hb hts hown hK hH hk0 (hts _ wd_21) dX7_set_54 ?_
        refine e_4_2 hx hb hts hown hK hH k10 (hts _ wd_123) dX7_set_57 ?_
        refine lv_iload_n hx hb dX7_set_60 rfl (lv_at hl 2 rfl) ?_
        refine lv_iload_n hx hb dX7_set_61 rfl (lv_at hl 3 rfl) ?_
        refine g_iast hx hb hK hH hS k13 h15 dX7_set_62 (fun H locs hH hS => ?_)
        obtain ⟨g18, eg18⟩ : ∃ z : GM, z = gsI g11 (a + 13) p0.toNatClampNeg p1 := ⟨_, rfl⟩
        have hf := gl_at hf eg18
        replace hH : HR w K g18 S H := by rw [eg18]; exact hH
        refine lv_iload_n hx hb dX7_set_63 rfl (lv_at hl 0 rfl) ?_
        have ho := Option.some.inj hf
        exact W.iret (v := v16) hx hb hr (fun t ht hW => ⟨⟨v16, (), rfl, congrArg Prod.snd ho, hrP ht ho hH⟩, hS.F ht⟩) hS.2.2 dX7_set_64
      · have hf := hg.2 c8
        refine lv_bipush (v := (-2)) hx hb dX7_set_29 (by decide) ?_
        have ho := Option.some.inj hf
        exact W.iret (v := (-2)) hx hb hr (fun t ht hW => ⟨⟨(-2), (), rfl, congrArg Prod.snd ho, hrP ht ho hH⟩, hS.F ht⟩) hS.2.2 dX7_set_31
  · have hf := hg.1 c3
    refine lv_bipush (v := (-2)) hx hb dX7_set_8 (by decide) ?_
    have ho := Option.some.inj hf
    exact W.iret (v := (-2)) hx hb hr (fun t ht hW => ⟨⟨(-2), (), rfl, congrArg Prod.snd ho, hrP ht ho hH⟩, hS.F ht⟩) hS.2.2 dX7_set_10
set_option maxRecDepth 100000 in
set_option maxHeartbeats 8000000 in
theorem c0_timesOn (l : Launch) (w : GW) (K : GK) (g : GM) (S : GS) (a : Nat) (p0 : Int32) (out : Int32) (hf : f0_timesOn K g a p0 = some out) (hk0 : gkd K a = 1) : Met l yX0_timesOn (wA yX0_timesOn cX0_timesOn 4 (some .int)) ({ frames := 0, cells := 0, slots := 0, locals := 0 } : Room) (PRE w K g S [.ref a, .int p0]) (QI w K g S out) 0 0 (FR w) := by
  unfold f0_timesOn at hf
  refine Met.ofW (cc := cX0_timesOn) (maxL := 4) (ret := (some .int)) (by decide) rfl ?_
  intro p e s m args below meth c s₁ B hml hv
  obtain ⟨rfl, hH, hK⟩ := hv
  have hx := B.exec
  have hb := B.bytes
  have hr := B.returns
  have hts : ∀ q ∈ gALL, q.before _ s = true := fun q h => atoms_spec (ws := (wA yX0_timesOn cX0_timesOn 4 (some .int))) B.pre q (List.mem_cons_of_mem _ h)
  have hown : s.vm.findClass RX0 = some m.cls := findClass_of_methodNamed B.named
  have hlocks := B.notSynchronized
  have hS : va_S (FR w) s.heap s.heap [] := va_S.rf
  show W p l e ({ frames := 0, cells := 0, slots := 0, locals := 0 } : Room) s m _ below meth c s.heap [] 0 0 (MQ below (QI w K g S out) _ s 0 0 (FR w)) _
  have hl := lv_entry ([.ref a, .int p0]) (n := 4) (Nat.le_of_ble_eq_true rfl)
  rw [lg_entry_eq]
  generalize (lg_sl ([.ref a, .int p0]) ++ List.replicate (4 - (lg_sl ([.ref a, .int p0])).length) Slot.unset).toArray = ls at hl ⊢
  clear B
  generalize ([.ref a, .int p0] : List Value).toArray = args at hts ⊢
  have B25 : ∀ (k4 : Int32 → Int32 → Option (Int32)), (∀ (x2 : Int32) (x3 : Int32) (H : Heap) (locs : List Loc) (ls : Array Slot), HR w K g S H → va_S (FR w) s.heap H locs → lv_has ls 4 [(0, .ref a), (1, .int p0), (2, .int x2), (3, .int x3)] → k4 x2 x3 = some out → W p l e ({ frames := 0, cells := 0, slots := 0, locals := 0 } : Room) s m args below meth c H locs 0 0 (MQ below (QI w K g S out) args s 0 0 (FR w)) (F0 m 4 ls [])) → ∀ (x2 : Int32) (x3 : Int32) (H : Heap) (locs : List Loc) (ls : Array Slot), HR w K g S H → va_S (FR w) s.heap H locs → lv_has ls 4 [(0, .ref a), (1, .int p0), (2, .int x2), (3, .int x3)] → f0_timesOn_25 k4 K g a p0 x2 x3 = some out → W p l e ({ frames := 0, cells := 0, slots := 0, locals := 0 } : Room) s m args below meth c H locs 0 0 (MQ below (QI w K g S out) args s 0 0 (FR w)) (F0 m 25 ls []) := by
    intro k4 hk4 x2 x3 H locs ls hH hS hl hf
    unfold f0_timesOn_25 at hf
    obtain ⟨v1, ev1⟩ : ∃ z : Int32, z = x3 + 1 := ⟨_, rfl⟩
    have hf := gl_at hf ev1
    refine lv_iinc (v := v1) (lv' := [(3, .int v1), (0, .ref a), (1, .int p0), (2, .int x2)]) hx hb dX0_timesOn_25 hl (k := 3) rfl (by rw [ev1]; rfl) (by decide) rfl (fun ls hl => ?_)
    refine lv_goto (tgt := 4) hx hb dX0_timesOn_28 (by decide) ?_
    exact hk4 _ _ _ _ _ hH hS (lv_sub hl [1, 2, 3, 0] rfl) hf
  have B4 : ∀ n : Nat, ∀ (x2 : Int32) (x3 : Int32) (H : Heap) (locs : List Loc) (ls : Array Slot), HR w K g S H → va_S (FR w) s.heap H locs → lv_has ls 4 [(0, .ref a), (1, .int p0), (2, .int x2), (3, .int x3)] → f0_timesOn_4 K g a p0 n x2 x3 = some out → W p l e ({ frames := 0, cells := 0, slots := 0, locals := 0 } : Room) s m args below meth c H locs 0 0 (MQ below (QI w K g S out) args s 0 0 (FR w)) (F0 m 4 ls []) := by
    intro n
    induction n with
    | zero =>
      intro x2 x3 H locs ls hH hS hl hf
      cases hf
    | succ n ih =>
      intro x2 x3 H locs ls hH hS hl hf
      rw [f0_timesOn_4] at hf
      refine lv_iload_n hx hb dX0_timesOn_4 rfl (lv_at hl 3 rfl) ?_
      refine lv_aload_n hx hb dX0_timesOn_5 rfl (lv_at hl 0 rfl) ?_
      refine e_0_6 hx hb hts hown hK hH hk0 (hts _ wd_79) dX0_timesOn_6 ?_
      have hg := gif hf
      refine lv_icmp_ge (tgt := 31) hx hb dX0_timesOn_9 (by decide) (fun c2 => ?_) (fun c2 => ?_)
      · have hf := hg.1 c2
        refine lv_iload_n hx hb dX0_timesOn_31 rfl (lv_at hl 2 rfl) ?_
        have ho := Option.some.inj hf
        exact W.iret (v := x2) hx hb hr (fun t ht hW => ⟨⟨x2, (), rfl, ho, hrE ht hH⟩, hS.F ht⟩) hS.2.2 dX0_timesOn_32
      · have hf := hg.2 c2
        refine lv_aload_n hx hb dX0_timesOn_12 rfl (lv_at hl 0 rfl) ?_
        have k3 : K.1 (a + 1) = (10, 9) := hH.sub hk0 0 (t := (1, 10, 9)) rfl
        refine e_0_0 hx hb hts hown hK hH hk0 (hts _ wd_72) dX0_timesOn_13 ?_
        refine lv_iload_n hx hb dX0_timesOn_16 rfl (lv_at hl 3 rfl) ?_
        obtain ⟨h5, hf⟩ := gd_some hf
        refine g_iald hx hb hK hH k3 h5 dX0_timesOn_17 ?_
        refine lv_iload_n hx hb dX0_timesOn_18 rfl (lv_at hl 1 rfl) ?_
        have hg := gif hf
        refine lv_icmp_ne (tgt := 25) hx hb dX0_timesOn_19 (by decide) (fun c6 => ?_) (fun c6 => ?_)
        · have hf := hg.2 c6
          exact B25 _ (ih) _ _ _ _ _ hH hS (lv_sub hl [0, 1, 2, 3] rfl) hf
        · have hf := hg.1 c6
          obtain ⟨v7, ev7⟩ : ∃ z : Int32, z = x2 + 1 := ⟨_, rfl⟩
          have hf := gl_at hf ev7
          refine lv_iinc (v := v7) (lv' := [(2, .int v7), (0, .ref a), (1, .int p0), (3, .int x3)]) hx hb dX0_timesOn_22 hl (k := 2) rfl (by rw [ev7]; rfl) (by decide) rfl (fun ls hl => ?_)
          exact B25 _ (ih) _ _ _ _ _ hH hS (lv_sub hl [1, 2, 0, 3] rfl) hf
  have hl : lv_has ls 4 [(0, .ref a), (1, .int p0)] := hl
  refine lv_iconst (v := 0) hx hb dX0_timesOn_0 (by decide) ?_
  refine lv_istore_n (lv' := [(2, .int 0), (0, .ref a), (1, .int p0)]) hx hb dX0_timesOn_1 rfl hl (by decide) rfl (fun ls hl => ?_)
  refine lv_iconst (v := 0) hx hb dX0_timesOn_2 (by decide) ?_
  refine lv_istore_n (lv' := [(3, .int 0), (2, .int 0), (0, .ref a), (1, .int p0)]) hx hb dX0_timesOn_3 rfl hl (by decide) rfl (fun ls hl => ?_)
  exact B4 _ _ _ _ _ _ hH hS (lv_sub hl [2, 3, 1, 0] rfl) hf
set_option maxRecDepth 100000 in
set_option maxHeartbeats 8000000 in
theorem c7_of (l : Launch) (w : GW) (K : GK) (g : GM) (S : GS) (a : Nat) (p0 : Int32) (p1 : Int32) (out : Int32) (hf : f7_of K g a p0 p1 = some out) (hk0 : gkd K a = 8) : Met l yX7_of (wA yX7_of cX7_of 4 (some .int)) ({ frames := 2, cells := 0, slots := 0, locals := 44 } : Room) (PRE w K g S [.ref a, .int p0, .int p1]) (QI w K g S out) 0 0 (FR w) := by
  unfold f7_of at hf
  refine Met.ofW (cc := cX7_of) (maxL := 4) (ret := (some .int)) (by decide) rfl ?_
  intro p e s m args below meth c s₁ B hml hv
  obtain ⟨rfl, hH, hK⟩ := hv
  have hx := B.exec
  have hb := B.bytes
  have hr := B.returns
  have hts : ∀ q ∈ gALL, q.before _ s = true := fun q h => atoms_spec (ws := (wA yX7_of cX7_of 4 (some .int))) B.pre q (List.mem_cons_of_mem _ h)
  have hown : s.vm.findClass RX7 = some m.cls := findClass_of_methodNamed B.named
  have hlocks := B.notSynchronized
  have hS : va_S (FR w) s.heap s.heap [] := va_S.rf
  show W p l e ({ frames := 2, cells := 0, slots := 0, locals := 44 } : Room) s m _ below meth c s.heap [] 0 0 (MQ below (QI w K g S out) _ s 0 0 (FR w)) _
  have hl := lv_entry ([.ref a, .int p0, .int p1]) (n := 4) (Nat.le_of_ble_eq_true rfl)
  rw [lg_entry_eq]
  generalize (lg_sl ([.ref a, .int p0, .int p1]) ++ List.replicate (4 - (lg_sl ([.ref a, .int p0, .int p1])).length) Slot.unset).toArray = ls at hl ⊢
  clear B
  generalize ([.ref a, .int p0, .int p1] : List Value).toArray = args at hts ⊢
  have hl : lv_has ls 4 [(0, .ref a), (1, .int p0), (2, .int p1)] := hl
  refine lv_iload_n hx hb dX7_of_0 rfl (lv_at hl 1 rfl) ?_
  refine lv_bipush (v := 10) hx hb dX7_of_1 (by decide) ?_
  obtain ⟨v1, h2, hf⟩ := gbind hf
  refine g_Si (As := [.int p0, .int 10]) (rest := []) ⟨hx, hb, hml, hown, hts⟩ (c7_inRange l w K g S p0 10 v1 h2) (gcwS hts i7_inRange wd_137 rfl rfl ⟨Nat.le_of_ble_eq_true rfl, Nat.le_of_ble_eq_true rfl⟩) hH hK hS hl.1 rfl rfl (Nat.le_of_ble_eq_true rfl) dX7_of_3 ⟨Nat.le_refl _, Nat.le_refl _⟩ (fun H locs hH hS => ?_)
  have hg := gif hf
  refine lv_if_ne (tgt := 11) hx hb dX7_of_6 (by decide) (fun c3 => ?_) (fun c3 => ?_)
  · have hf := hg.2 c3
    refine lv_aload_n hx hb dX7_of_11 rfl (lv_at hl 0 rfl) ?_
    have k4 : gkd K (a + 10) = 5 := congrArg Prod.fst (hH.sub hk0 2 (t := (10, 5, 0)) rfl)
    refine e_7_2 hx hb hts hown hK hH hk0 (hts _ wd_21) dX7_of_12 ?_
    have k5 : K.1 (a + 11) = (13, 10) := hH.sub k4 0 (t := (1, 13, 10)) rfl
    refine e_4_0 hx hb hts hown hK hH k4 (hts _ wd_113) dX7_of_15 ?_
    refine lv_iload_n hx hb dX7_of_18 rfl (lv_at hl 1 rfl) ?_
    obtain ⟨h7, hf⟩ := gd_some hf
    refine g_tald hx hb hK hH k5 h7 dX7_of_19 ?_
    rcases gopt_c hf with ⟨q9, hf⟩ | ⟨t8, q9, hf⟩
    · refine g_rfN q9 ?_
      refine lv_astore_nN (lv' := [(3, .null), (0, .ref a), (1, .int p0), (2, .int p1)]) hx hb dX7_of_20 rfl hl (by decide) rfl (fun ls hl => ?_)
      refine lv_iload_n hx hb dX7_of_21 rfl (lv_at hl 3 rfl) ?_
      have hg := gif hf
      by_cases c10 : p1 = 0
      · have hf := hg.1 c10
        refine lv_tableIn (off := 42) (tgt := 64) hx hb dX7_of_22 (by rw [c10]; decide) (by rw [c10]; decide) (by rw [c10]; decide +kernel) (by decide) ?_
        refine lv_aload_nN hx hb dX7_of_64 rfl (lv_at hl 0 rfl) ?_
        refine lv_ifnonnullN hx hb dX7_of_65 ?_
        refine lv_iconst (v := 0) hx hb dX7_of_68 (by decide) ?_
        refine lv_goto (tgt := 76) hx hb dX7_of_69 (by decide) ?_
        have ho := Option.some.inj hf
        exact W.iret (v := 0) hx hb hr (fun t ht hW => ⟨⟨0, (), rfl, ho, hrE ht hH⟩, hS.F ht⟩) hS.2.2 dX7_of_76
      have hf := hg.2 c10
      have hg := gif hf
      by_cases c11 : p1 = 1
      · have hf := hg.1 c11
        refine lv_tableIn (off := 55) (tgt := 77) hx hb dX7_of_22 (by rw [c11]; decide) (by rw [c11]; decide) (by rw [c11]; decide +kernel) (by decide) ?_
        refine lv_aload_nN hx hb dX7_of_77 rfl (lv_at hl 0 rfl) ?_
        refine lv_ifnonnullN hx hb dX7_of_78 ?_
        refine lv_iconst (v := 0) hx hb dX7_of_81 (by decide) ?_
        refine lv_goto (tgt := 89) hx hb dX7_of_82 (by decide) ?_
        have ho := Option.some.inj hf
        exact W.iret (v := 0) hx hb hr (fun t ht hW => ⟨⟨0, (), rfl, ho, hrE ht hH⟩, hS.F ht⟩) hS.2.2 dX7_of_89
      have hf := hg.2 c11
      have hg := gif hf
      by_cases c12 : p1 = 2
      · have hf := hg.1 c12
        refine lv_tableIn (off := 68) (tgt := 90) hx hb dX7_of_22 (by rw [c12]; decide) (by rw [c12]; decide) (by rw [c12]; decide +kernel) (by decide) ?_
        refine lv_aload_nN hx hb dX7_of_90 rfl (lv_at hl 0 rfl) ?_
        refine lv_ifnonnullN hx hb dX7_of_91 ?_
        refine lv_iconst (v := 0) hx hb dX7_of_94 (by decide) ?_
        refine lv_goto (tgt := 102) hx hb dX7_of_95 (by decide) ?_
        have ho := Option.some.inj hf
        exact W.iret (v := 0) hx hb hr (fun t ht hW => ⟨⟨0, (), rfl, ho, hrE ht hH⟩, hS.F ht⟩) hS.2.2 dX7_of_102
      have hf := hg.2 c12
      have hg := gif hf
      by_cases c13 : p1 = 3
      · have hf := hg.1 c13
        refine lv_tableIn (off := 81) (tgt := 103) hx hb dX7_of_22 (by rw [c13]; decide) (by rw [c13]; decide) (by rw [c13]; decide +kernel) (by decide) ?_
        refine lv_aload_n hx hb dX7_of_103 rfl (lv_at hl 1 rfl) ?_
        refine e_7_2 hx hb hts hown hK hH hk0 (hts _ wd_21) dX7_of_104 ?_
        refine e_4_0 hx hb hts hown hK hH k4 (hts _ wd_113) dX7_of_107 ?_
        refine lv_iload_n hx hb dX7_of_110 rfl (lv_at hl 2 rfl) ?_
        obtain ⟨v14, h15, hf⟩ := gbind hf
        refine g_Si (As := [.ref (a + 11), .int p0]) (rest := []) ⟨hx, hb, hml, hown, hts⟩ (c2_callersOf l w K g S (a + 11) p0 v14 h15) (gcwS hts i2_callersOf wd_176 rfl rfl ⟨Nat.le_of_ble_eq_true rfl, Nat.le_of_ble_eq_true rfl⟩) hH hK hS hl.1 rfl rfl (Nat.le_of_ble_eq_true rfl) dX7_of_111 ⟨Nat.le_refl _, Nat.le_refl _⟩ (fun H locs hH hS => ?_)
        have ho := Option.some.inj hf
        exact W.iret (v := v14) hx hb hr (fun t ht hW => ⟨⟨v14, (), rfl, ho, hrE ht hH⟩, hS.F ht⟩) hS.2.2 dX7_of_114
      have hf := hg.2 c13
      have hg := gif hf
      by_cases c16 : p1 = 4
      · have hf := hg.1 c16
        refine lv_tableIn (off := 93) (tgt := 115) hx hb dX7_of_22 (by rw [c16]; decide) (by rw [c16]; decide) (by rw [c16]; decide +kernel) (by decide) ?_
        refine lv_aload_n hx hb dX7_of_115 rfl (lv_at hl 1 rfl) ?_
        refine e_7_2 hx hb hts hown hK hH hk0 (hts _ wd_21) dX7_of_116 ?_
        have k17 : K.1 (a + 12) = (10, 10) := hH.sub k4 1 (t := (2, 10, 10)) rfl
        refine e_4_1 hx hb hts hown hK hH k4 (hts _ wd_174) dX7_of_119 ?_
        refine lv_iload_n hx hb dX7_of_122 rfl (lv_at hl 2 rfl) ?_
        refine g_iald hx hb hK hH k17 h7 dX7_of_123 ?_
        have ho := Option.some.inj hf
        exact W.iret (v := (gI g (a + 12) p0.toNatClampNeg)) hx hb hr (fun t ht hW => ⟨⟨(gI g (a + 12) p0.toNatClampNeg), (), rfl, ho, hrE ht hH⟩, hS.F ht⟩) hS.2.2 dX7_of_124
      have hf := hg.2 c16
      have hg := gif hf
      by_cases c19 : p1 = 5
      · have hf := hg.1 c19
        refine lv_tableIn (off := 103) (tgt := 125) hx hb dX7_of_22 (by rw [c19]; decide) (by rw [c19]; decide) (by rw [c19]; decide +kernel) (by decide) ?_
        refine lv_aload_n hx hb dX7_of_125 rfl (lv_at hl 1 rfl) ?_
        refine e_7_2 hx hb hts hown hK hH hk0 (hts _ wd_21) dX7_of_126 ?_
        have k20 : gkd K (a + 19) = 1 := congrArg Prod.fst (hH.sub k4 8 (t := (9, 1, 0)) rfl)
        refine e_4_8 hx hb hts hown hK hH k4 (hts _ wd_114) dX7_of_129 ?_
        refine lv_iload_n hx hb dX7_of_132 rfl (lv_at hl 2 rfl) ?_
        obtain ⟨v21, h22, hf⟩ := gbind hf
        refine g_Vi (As := [.int p0]) (rest := []) ⟨hx, hb, hml, hown, hts⟩ (c0_timesOn l w K g S (a + 19) p0 v21 h22 k20) (gcwV hts i0_timesOn wd_186 rfl rfl ⟨Nat.le_of_ble_eq_true rfl, Nat.le_of_ble_eq_true rfl⟩) (gRecv.of hK rfl (hH.o1 k20)) hH hK hS hl.1 rfl rfl (Nat.le_of_ble_eq_true rfl) dX7_of_133 ⟨Nat.le_refl _, Nat.le_refl _⟩ (fun H locs hH hS => ?_)
        have ho := Option.some.inj hf
        exact W.iret (v := v21) hx hb hr (fun t ht hW => ⟨⟨v21, (), rfl, ho, hrE ht hH⟩, hS.F ht⟩) hS.2.2 dX7_of_136
      have hf := hg.2 c19
      have hg := gif hf
      by_cases c23 : p1 = 6
      · have hf := hg.1 c23
        refine lv_tableIn (off := 115) (tgt := 137) hx hb dX7_of_22 (by rw [c23]; decide) (by rw [c23]; decide) (by rw [c23]; decide +kernel) (by decide) ?_
        refine lv_aload_nN hx hb dX7_of_137 rfl (lv_at hl 0 rfl) ?_
        refine lv_ifnonnullN hx hb dX7_of_138 ?_
        refine lv_iconst (v := 0) hx hb dX7_of_141 (by decide) ?_
        refine lv_goto (tgt := 149) hx hb dX7_of_142 (by decide) ?_
        have ho := Option.some.inj hf
        exact W.iret (v := 0) hx hb hr (fun t ht hW => ⟨⟨0, (), rfl, ho, hrE ht hH⟩, hS.F ht⟩) hS.2.2 dX7_of_149
      have hf := hg.2 c23
      have nc10 : p1.toInt ≠ 0 := g_ne c10 (by decide)
      have nc11 : p1.toInt ≠ 1 := g_ne c11 (by decide)
      have nc12 : p1.toInt ≠ 2 := g_ne c12 (by decide)
      have nc13 : p1.toInt ≠ 3 := g_ne c13 (by decide)
      have nc16 : p1.toInt ≠ 4 := g_ne c16 (by decide)
      have nc19 : p1.toInt ≠ 5 := g_ne c19 (by decide)
      have nc23 : p1.toInt ≠ 6 := g_ne c23 (by decide)
      refine lv_tableOut (tgt := 150) hx hb dX7_of_22 (by omega) (by decide) ?_
      refine lv_bipush (v := (-2)) hx hb dX7_of_150 (by decide) ?_
      have ho := Option.some.inj hf
      exact W.iret (v := (-2)) hx hb hr (fun t ht hW => ⟨⟨(-2), (), rfl, ho, hrE ht hH⟩, hS.F ht⟩) hS.2.2 dX7_of_152
    · refine g_rfS q9 ?_
      refine lv_astore_n (lv' := [(3, .ref t8), (0, .ref a), (1, .int p0), (2, .int p1)]) hx hb dX7_of_20 rfl hl (by decide) rfl (fun ls hl => ?_)
      refine lv_iload_n hx hb dX7_of_21 rfl (lv_at hl 3 rfl) ?_
      have hg := gif hf
      by_cases c24 : p1 = 0
      · have hf := hg.1 c24
        refine lv_tableIn (off := 42) (tgt := 64) hx hb dX7_of_22 (by rw [c24]; decide) (by rw [c24]; decide) (by rw [c24]; decide +kernel) (by decide) ?_
        refine lv_aload_n hx hb dX7_of_64 rfl (lv_at hl 0 rfl) ?_
        refine lv_ifnonnull (tgt := 72) hx hb dX7_of_65 (by decide) ?_
        refine lv_aload_n hx hb dX7_of_72 rfl (lv_at hl 0 rfl) ?_
        obtain ⟨k25, hf⟩ := gd_some hf
        have k25 := gk_obj k25
        refine e_1_0 hx hb hts hown hK hH k25 (hts _ wd_171) dX7_of_73 ?_
        have ho := Option.some.inj hf
        exact W.iret (v := (gI g t8 0)) hx hb hr (fun t ht hW => ⟨⟨(gI g t8 0), (), rfl, ho, hrE ht hH⟩, hS.F ht⟩) hS.2.2 dX7_of_76
      have hf := hg.2 c24
      have hg := gif hf
      by_cases c26 : p1 = 1
      · have hf := hg.1 c26
        refine lv_tableIn (off := 55) (tgt := 77) hx hb dX7_of_22 (by rw [c26]; decide) (by rw [c26]; decide) (by rw [c26]; decide +kernel) (by decide) ?_
        refine lv_aload_n hx hb dX7_of_77 rfl (lv_at hl 0 rfl) ?_
        refine lv_ifnonnull (tgt := 85) hx hb dX7_of_78 (by decide) ?_
        refine lv_aload_n hx hb dX7_of_85 rfl (lv_at hl 0 rfl) ?_
        obtain ⟨k27, hf⟩ := gd_some hf
        have k27 := gk_obj k27
        refine e_1_1 hx hb hts hown hK hH k27 (hts _ wd_172) dX7_of_86 ?_
        have ho := Option.some.inj hf
        exact W.iret (v := (gI g t8 1)) hx hb hr (fun t ht hW => ⟨⟨(gI g t8 1), (), rfl, ho, hrE ht hH⟩, hS.F ht⟩) hS.2.2 dX7_of_89
      have hf := hg.2 c26
      have hg := gif hf
      by_cases c28 : p1 = 2
      · have hf := hg.1 c28
        refine lv_tableIn (off := 68) (tgt := 90) hx hb dX7_of_22 (by rw [c28]; decide) (by rw [c28]; decide) (by rw [c28]; decide +kernel) (by decide) ?_
        refine lv_aload_n hx hb dX7_of_90 rfl (lv_at hl 0 rfl) ?_
        refine lv_ifnonnull (tgt := 98) hx hb dX7_of_91 (by decide) ?_
        refine lv_aload_n hx hb dX7_of_98 rfl (lv_at hl 0 rfl) ?_
        obtain ⟨k29, hf⟩ := gd_some hf
        have k29 := gk_obj k29
        refine e_1_2 hx hb hts hown hK hH k29 (hts _ wd_173) dX7_of_99 ?_
        have ho := Option.some.inj hf
        exact W.iret (v := (gI g t8 2)) hx hb hr (fun t ht hW => ⟨⟨(gI g t8 2), (), rfl, ho, hrE ht hH⟩, hS.F ht⟩) hS.2.2 dX7_of_102
      have hf := hg.2 c28
      have hg := gif hf
      by_cases c30 : p1 = 3
      · have hf := hg.1 c30
        refine lv_tableIn (off := 81) (tgt := 103) hx hb dX7_of_22 (by rw [c30]; decide) (by rw [c30]; decide) (by rw [c30]; decide +kernel) (by decide) ?_
        refine lv_aload_n hx hb dX7_of_103 rfl (lv_at hl 1 rfl) ?_
        refine e_7_2 hx hb hts hown hK hH hk0 (hts _ wd_21) dX7_of_104 ?_
        refine e_4_0 hx hb hts hown hK hH k4 (hts _ wd_113) dX7_of_107 ?_
        refine lv_iload_n hx hb dX7_of_110 rfl (lv_at hl 2 rfl) ?_
        obtain ⟨v31, h32, hf⟩ := gbind hf
        refine g_Si (As := [.ref (a + 11), .int p0]) (rest := []) ⟨hx, hb, hml, hown, hts⟩ (c2_callersOf l w K g S (a + 11) p0 v31 h32) (gcwS hts i2_callersOf wd_176 rfl rfl ⟨Nat.le_of_ble_eq_true rfl, Nat.le_of_ble_eq_true rfl⟩) hH hK hS hl.1 rfl rfl (Nat.le_of_ble_eq_true rfl) dX7_of_111 ⟨Nat.le_refl _, Nat.le_refl _⟩ (fun H locs hH hS => ?_)
        have ho := Option.some.inj hf
        exact W.iret (v := v31) hx hb hr (fun t ht hW => ⟨⟨v31, (), rfl, ho, hrE ht hH⟩, hS.F ht⟩) hS.2.2 dX7_of_114
      have hf := hg.2 c30
      have hg := gif hf
      by_cases c33 : p1 = 4
      · have hf := hg.1 c33
        refine lv_tableIn (off := 93) (tgt := 115) hx hb dX7_of_22 (by rw [c33]; decide) (by rw [c33]; decide) (by rw [c33]; decide +kernel) (by decide) ?_
        refine lv_aload_n hx hb dX7_of_115 rfl (lv_at hl 1 rfl) ?_
        refine e_7_2 hx hb hts hown hK hH hk0 (hts _ wd_21) dX7_of_116 ?_
        have k34 : K.1 (a + 12) = (10, 10) := hH.sub k4 1 (t := (2, 10, 10)) rfl
        refine e_4_1 hx hb hts hown hK hH k4 (hts _ wd_174) dX7_of_119 ?_
        refine lv_iload_n hx hb dX7_of_122 rfl (lv_at hl 2 rfl) ?_
        refine g_iald hx hb hK hH k34 h7 dX7_of_123 ?_
        have ho := Option.some.inj hf
        exact W.iret (v := (gI g (a + 12) p0.toNatClampNeg)) hx hb hr (fun t ht hW => ⟨⟨(gI g (a + 12) p0.toNatClampNeg), (), rfl, ho, hrE ht hH⟩, hS.F ht⟩) hS.2.2 dX7_of_124
      have hf := hg.2 c33
      have hg := gif hf
      by_cases c36 : p1 = 5
      · have hf := hg.1 c36
        refine lv_tableIn (off := 103) (tgt := 125) hx hb dX7_of_22 (by rw [c36]; decide) (by rw [c36]; decide) (by rw [c36]; decide +kernel) (by decide) ?_
        refine lv_aload_n hx hb dX7_of_125 rfl (lv_at hl 1 rfl) ?_
        refine e_7_2 hx hb hts hown hK hH hk0 (hts _ wd_21) dX7_of_126 ?_
        have k37 : gkd K (a + 19) = 1 := congrArg Prod.fst (hH.sub k4 8 (t := (9, 1, 0)) rfl)
        refine e_4_8 hx hb hts hown hK hH k4 (hts _ wd_114) dX7_of_129 ?_
        refine lv_iload_n hx hb dX7_of_132 rfl (lv_at hl 2 rfl) ?_
        obtain ⟨v38, h39, hf⟩ := gbind hf
        refine g_Vi (As := [.int p0]) (rest := []) ⟨hx, hb, hml, hown, hts⟩ (c0_timesOn l w K g S (a + 19) p0 v38 h39 k37) (gcwV hts i0_timesOn wd_186 rfl rfl ⟨Nat.le_of_ble_eq_true rfl, Nat.le_of_ble_eq_true rfl⟩) (gRecv.of hK rfl (hH.o1 k37)) hH hK hS hl.1 rfl rfl (Nat.le_of_ble_eq_true rfl) dX7_of_133 ⟨Nat.le_refl _, Nat.le_refl _⟩ (fun H locs hH hS => ?_)
        have ho := Option.some.inj hf
        exact W.iret (v := v38) hx hb hr (fun t ht hW => ⟨⟨v38, (), rfl, ho, hrE ht hH⟩, hS.F ht⟩) hS.2.2 dX7_of_136
      have hf := hg.2 c36
      have hg := gif hf
      by_cases c40 : p1 = 6
      · have hf := hg.1 c40
        refine lv_tableIn (off := 115) (tgt := 137) hx hb dX7_of_22 (by rw [c40]; decide) (by rw [c40]; decide) (by rw [c40]; decide +kernel) (by decide) ?_
        refine lv_aload_n hx hb dX7_of_137 rfl (lv_at hl 0 rfl) ?_
        refine lv_ifnonnull (tgt := 145) hx hb dX7_of_138 (by decide) ?_
        refine lv_aload_n hx hb dX7_of_145 rfl (lv_at hl 0 rfl) ?_
        obtain ⟨k41, hf⟩ := gd_some hf
        have k41 := gk_obj k41
        refine e_1_3 hx hb hts hown hK hH k41 (hts _ wd_175) dX7_of_146 ?_
        have ho := Option.some.inj hf
        exact W.iret (v := (gI g t8 3)) hx hb hr (fun t ht hW => ⟨⟨(gI g t8 3), (), rfl, ho, hrE ht hH⟩, hS.F ht⟩) hS.2.2 dX7_of_149
      have hf := hg.2 c40
      have nc24 : p1.toInt ≠ 0 := g_ne c24 (by decide)
      have nc26 : p1.toInt ≠ 1 := g_ne c26 (by decide)
      have nc28 : p1.toInt ≠ 2 := g_ne c28 (by decide)
      have nc30 : p1.toInt ≠ 3 := g_ne c30 (by decide)
      have nc33 : p1.toInt ≠ 4 := g_ne c33 (by decide)
      have nc36 : p1.toInt ≠ 5 := g_ne c36 (by decide)
      have nc40 : p1.toInt ≠ 6 := g_ne c40 (by decide)
      refine lv_tableOut (tgt := 150) hx hb dX7_of_22 (by omega) (by decide) ?_
      refine lv_bipush (v := (-2)) hx hb dX7_of_150 (by decide) ?_
      have ho := Option.some.inj hf
      exact W.iret (v := (-2)) hx hb hr (fun t ht hW => ⟨⟨(-2), (), rfl, ho, hrE ht hH⟩, hS.F ht⟩) hS.2.2 dX7_of_152
  · have hf := hg.1 c3
    refine lv_iconst (v := (-1)) hx hb dX7_of_9 (by decide) ?_
    have ho := Option.some.inj hf
    exact W.iret (v := (-1)) hx hb hr (fun t ht hW => ⟨⟨(-1), (), rfl, ho, hrE ht hH⟩, hS.F ht⟩) hS.2.2 dX7_of_10
set_option maxRecDepth 100000 in
set_option maxHeartbeats 8000000 in
theorem c2_written (l : Launch) (w : GW) (K : GK) (g : GM) (S : GS) (p0 : Nat) (out : Int32) (hf : f2_written K g p0 = some out) : Met l yX2_written (wA yX2_written cX2_written 3 (some .int)) ({ frames := 0, cells := 0, slots := 0, locals := 0 } : Room) (PRE w K g S [.ref p0]) (QI w K g S out) 0 0 (FR w) := by
  unfold f2_written at hf
  refine Met.ofW (cc := cX2_written) (maxL := 3) (ret := (some .int)) (by decide) rfl ?_
  intro p e s m args below meth c s₁ B hml hv
  obtain ⟨rfl, hH, hK⟩ := hv
  have hx := B.exec
  have hb := B.bytes
  have hr := B.returns
  have hts : ∀ q ∈ gALL, q.before _ s = true := fun q h => atoms_spec (ws := (wA yX2_written cX2_written 3 (some .int))) B.pre q (List.mem_cons_of_mem _ h)
  have hown : s.vm.findClass RX2 = some m.cls := findClass_of_methodNamed B.named
  have hlocks := B.notSynchronized
  have hS : va_S (FR w) s.heap s.heap [] := va_S.rf
  show W p l e ({ frames := 0, cells := 0, slots := 0, locals := 0 } : Room) s m _ below meth c s.heap [] 0 0 (MQ below (QI w K g S out) _ s 0 0 (FR w)) _
  have hl := lv_entry ([.ref p0]) (n := 3) (Nat.le_of_ble_eq_true rfl)
  rw [lg_entry_eq]
  generalize (lg_sl ([.ref p0]) ++ List.replicate (3 - (lg_sl ([.ref p0])).length) Slot.unset).toArray = ls at hl ⊢
  clear B
  generalize ([.ref p0] : List Value).toArray = args at hts ⊢
  have B22 : ∀ (k4 : Int32 → Int32 → Option (Int32)), (∀ (x1 : Int32) (x2 : Int32) (H : Heap) (locs : List Loc) (ls : Array Slot), HR w K g S H → va_S (FR w) s.heap H locs → lv_has ls 3 [(0, .ref p0), (1, .int x1), (2, .int x2)] → k4 x1 x2 = some out → W p l e ({ frames := 0, cells := 0, slots := 0, locals := 0 } : Room) s m args below meth c H locs 0 0 (MQ below (QI w K g S out) args s 0 0 (FR w)) (F0 m 4 ls [])) → ∀ (x1 : Int32) (x2 : Int32) (H : Heap) (locs : List Loc) (ls : Array Slot), HR w K g S H → va_S (FR w) s.heap H locs → lv_has ls 3 [(0, .ref p0), (1, .int x1), (2, .int x2)] → f2_written_22 k4 K g p0 x1 x2 = some out → W p l e ({ frames := 0, cells := 0, slots := 0, locals := 0 } : Room) s m args below meth c H locs 0 0 (MQ below (QI w K g S out) args s 0 0 (FR w)) (F0 m 22 ls []) := by
    intro k4 hk4 x1 x2 H locs ls hH hS hl hf
    unfold f2_written_22 at hf
    obtain ⟨v1, ev1⟩ : ∃ z : Int32, z = x2 + 1 := ⟨_, rfl⟩
    have hf := gl_at hf ev1
    refine lv_iinc (v := v1) (lv' := [(2, .int v1), (0, .ref p0), (1, .int x1)]) hx hb dX2_written_22 hl (k := 2) rfl (by rw [ev1]; rfl) (by decide) rfl (fun ls hl => ?_)
    refine lv_goto (tgt := 4) hx hb dX2_written_25 (by decide) ?_
    exact hk4 _ _ _ _ _ hH hS (lv_sub hl [1, 2, 0] rfl) hf
  have B4 : ∀ n : Nat, ∀ (x1 : Int32) (x2 : Int32) (H : Heap) (locs : List Loc) (ls : Array Slot), HR w K g S H → va_S (FR w) s.heap H locs → lv_has ls 3 [(0, .ref p0), (1, .int x1), (2, .int x2)] → f2_written_4 K g p0 n x1 x2 = some out → W p l e ({ frames := 0, cells := 0, slots := 0, locals := 0 } : Room) s m args below meth c H locs 0 0 (MQ below (QI w K g S out) args s 0 0 (FR w)) (F0 m 4 ls []) := by
    intro n
    induction n with
    | zero =>
      intro x1 x2 H locs ls hH hS hl hf
      cases hf
    | succ n ih =>
      intro x1 x2 H locs ls hH hS hl hf
      rw [f2_written_4] at hf
      refine lv_iload_n hx hb dX2_written_4 rfl (lv_at hl 2 rfl) ?_
      refine lv_bipush (v := 10) hx hb dX2_written_5 (by decide) ?_
      have hg := gif hf
      refine lv_icmp_ge (tgt := 28) hx hb dX2_written_7 (by decide) (fun c2 => ?_) (fun c2 => ?_)
      · have hf := hg.1 c2
        refine lv_iload_n hx hb dX2_written_28 rfl (lv_at hl 1 rfl) ?_
        have ho := Option.some.inj hf
        exact W.iret (v := x1) hx hb hr (fun t ht hW => ⟨⟨x1, (), rfl, ho, hrE ht hH⟩, hS.F ht⟩) hS.2.2 dX2_written_29
      · have hf := hg.2 c2
        refine lv_aload_n hx hb dX2_written_10 rfl (lv_at hl 0 rfl) ?_
        refine lv_iload_n hx hb dX2_written_11 rfl (lv_at hl 2 rfl) ?_
        obtain ⟨k4, hf⟩ := gd_some hf
        have k4 := gk_arr k4
        obtain ⟨h5, hf⟩ := gd_some hf
        refine g_tald hx hb hK hH k4 h5 dX2_written_12 ?_
        rcases gopt_c hf with ⟨q7, hf⟩ | ⟨t6, q7, hf⟩
        · refine g_rfN q7 ?_
          refine lv_ifnullN (tgt := 22) hx hb dX2_written_13 (by decide) ?_
          exact B22 _ (ih) _ _ _ _ _ hH hS (lv_sub hl [0, 1, 2] rfl) hf
        · refine g_rfS q7 ?_
          refine lv_ifnull hx hb dX2_written_13 ?_
          refine lv_iload_n hx hb dX2_written_16 rfl (lv_at hl 1 rfl) ?_
          refine lv_iconst (v := 1) hx hb dX2_written_17 (by decide) ?_
          refine lv_iload_n hx hb dX2_written_18 rfl (lv_at hl 2 rfl) ?_
          refine lv_ishl hx hb dX2_written_19 ?_
          refine lv_ior hx hb dX2_written_20 ?_
          refine lv_topi (fun v8 ev8 => ?_)
          have hf := gl_at hf ev8
          refine lv_istore_n (lv' := [(1, .int v8), (0, .ref p0), (2, .int x2)]) hx hb dX2_written_21 rfl hl (by decide) rfl (fun ls hl => ?_)
          exact B22 _ (ih) _ _ _ _ _ hH hS (lv_sub hl [1, 0, 2] rfl) hf
  have hl : lv_has ls 3 [(0, .ref p0)] := hl
  refine lv_iconst (v := 0) hx hb dX2_written_0 (by decide) ?_
  refine lv_istore_n (lv' := [(1, .int 0), (0, .ref p0)]) hx hb dX2_written_1 rfl hl (by decide) rfl (fun ls hl => ?_)
  refine lv_iconst (v := 0) hx hb dX2_written_2 (by decide) ?_
  refine lv_istore_n (lv' := [(2, .int 0), (1, .int 0), (0, .ref p0)]) hx hb dX2_written_3 rfl hl (by decide) rfl (fun ls hl => ?_)
  exact B4 _ _ _ _ _ _ hH hS (lv_sub hl [2, 1, 0] rfl) hf
set_option maxRecDepth 100000 in
set_option maxHeartbeats 8000000 in
theorem c7_sum (l : Launch) (w : GW) (K : GK) (g : GM) (S : GS) (p0 : Nat) (out : Int32) (hf : f7_sum K g p0 = some out) : Met l yX7_sum (wA yX7_sum cX7_sum 6 (some .int)) ({ frames := 0, cells := 0, slots := 0, locals := 0 } : Room) (PRE w K g S [.ref p0]) (QI w K g S out) 0 0 (FR w) := by
  unfold f7_sum at hf
  refine Met.ofW (cc := cX7_sum) (maxL := 6) (ret := (some .int)) (by decide) rfl ?_
  intro p e s m args below meth c s₁ B hml hv
  obtain ⟨rfl, hH, hK⟩ := hv
  have hx := B.exec
  have hb := B.bytes
  have hr := B.returns
  have hts : ∀ q ∈ gALL, q.before _ s = true := fun q h => atoms_spec (ws := (wA yX7_sum cX7_sum 6 (some .int))) B.pre q (List.mem_cons_of_mem _ h)
  have hown : s.vm.findClass RX7 = some m.cls := findClass_of_methodNamed B.named
  have hlocks := B.notSynchronized
  have hS : va_S (FR w) s.heap s.heap [] := va_S.rf
  show W p l e ({ frames := 0, cells := 0, slots := 0, locals := 0 } : Room) s m _ below meth c s.heap [] 0 0 (MQ below (QI w K g S out) _ s 0 0 (FR w)) _
  have hl := lv_entry ([.ref p0]) (n := 6) (Nat.le_of_ble_eq_true rfl)
  rw [lg_entry_eq]
  generalize (lg_sl ([.ref p0]) ++ List.replicate (6 - (lg_sl ([.ref p0])).length) Slot.unset).toArray = ls at hl ⊢
  clear B
  generalize ([.ref p0] : List Value).toArray = args at hts ⊢
  have B10 : ∀ n : Nat, ∀ (x1 : Int32) (x2 : Nat) (x3 : Int32) (x4 : Int32) (H : Heap) (locs : List Loc) (ls : Array Slot), HR w K g S H → va_S (FR w) s.heap H locs → lv_has ls 6 [(1, .int x1), (2, .ref x2), (3, .int x3), (4, .int x4)] → f7_sum_10 K g p0 n x1 x2 x3 x4 = some out → W p l e ({ frames := 0, cells := 0, slots := 0, locals := 0 } : Room) s m args below meth c H locs 0 0 (MQ below (QI w K g S out) args s 0 0 (FR w)) (F0 m 10 ls []) := by
    intro n
    induction n with
    | zero =>
      intro x1 x2 x3 x4 H locs ls hH hS hl hf
      cases hf
    | succ n ih =>
      intro x1 x2 x3 x4 H locs ls hH hS hl hf
      rw [f7_sum_10] at hf
      refine lv_iload hx hb dX7_sum_10 (lv_at hl 3 rfl) ?_
      refine lv_iload_n hx hb dX7_sum_12 rfl (lv_at hl 2 rfl) ?_
      have hg := gif hf
      refine lv_icmp_ge (tgt := 33) hx hb dX7_sum_13 (by decide) (fun c1 => ?_) (fun c1 => ?_)
      · have hf := hg.1 c1
        refine lv_iload_n hx hb dX7_sum_33 rfl (lv_at hl 0 rfl) ?_
        have ho := Option.some.inj hf
        exact W.iret (v := x1) hx hb hr (fun t ht hW => ⟨⟨x1, (), rfl, ho, hrE ht hH⟩, hS.F ht⟩) hS.2.2 dX7_sum_34
      · have hf := hg.2 c1
        refine lv_aload_n hx hb dX7_sum_16 rfl (lv_at hl 1 rfl) ?_
        refine lv_iload hx hb dX7_sum_17 (lv_at hl 3 rfl) ?_
        obtain ⟨k3, hf⟩ := gd_some hf
        have k3 := gk_arr k3
        obtain ⟨h4, hf⟩ := gd_some hf
        refine g_iald hx hb hK hH k3 h4 dX7_sum_19 ?_
        refine lv_topi (fun v5 ev5 => ?_)
        have hf := gl_at hf ev5
        refine lv_istore (lv' := [(5, .int v5), (1, .int x1), (2, .ref x2), (3, .int x3), (4, .int x4)]) hx hb dX7_sum_20 hl (by decide) rfl (fun ls hl => ?_)
        refine lv_iload_n hx hb dX7_sum_22 rfl (lv_at hl 1 rfl) ?_
        refine lv_iload hx hb dX7_sum_23 (lv_at hl 0 rfl) ?_
        refine lv_iadd hx hb dX7_sum_25 ?_
        refine lv_topi (fun v6 ev6 => ?_)
        have hf := gl_at hf ev6
        refine lv_istore_n (lv' := [(1, .int v6), (5, .int v5), (2, .ref x2), (3, .int x3), (4, .int x4)]) hx hb dX7_sum_26 rfl hl (by decide) rfl (fun ls hl => ?_)
        obtain ⟨v7, ev7⟩ : ∃ z : Int32, z = x4 + 1 := ⟨_, rfl⟩
        have hf := gl_at hf ev7
        refine lv_iinc (v := v7) (lv' := [(4, .int v7), (1, .int v6), (5, .int v5), (2, .ref x2), (3, .int x3)]) hx hb dX7_sum_27 hl (k := 4) rfl (by rw [ev7]; rfl) (by decide) rfl (fun ls hl => ?_)
        refine lv_goto (tgt := 10) hx hb dX7_sum_30 (by decide) ?_
        exact ih _ _ _ _ _ _ _ hH hS (lv_sub hl [1, 3, 4, 0] rfl) hf
  have hl : lv_has ls 6 [(0, .ref p0)] := hl
  refine lv_iconst (v := 0) hx hb dX7_sum_0 (by decide) ?_
  refine lv_istore_n (lv' := [(1, .int 0), (0, .ref p0)]) hx hb dX7_sum_1 rfl hl (by decide) rfl (fun ls hl => ?_)
  refine lv_aload_n hx hb dX7_sum_2 rfl (lv_at hl 1 rfl) ?_
  refine lv_astore_n (lv' := [(2, .ref p0), (1, .int 0), (0, .ref p0)]) hx hb dX7_sum_3 rfl hl (by decide) rfl (fun ls hl => ?_)
  refine lv_aload_n hx hb dX7_sum_4 rfl (lv_at hl 0 rfl) ?_
  obtain ⟨k8, hf⟩ := gd_some hf
  have k8 := gk_arr k8
  refine g_alen hx hb hK hH k8 (Or.inl rfl) dX7_sum_5 ?_
  refine lv_topi (fun v9 ev9 => ?_)
  have hf := gl_at hf ev9
  refine lv_istore_n (lv' := [(3, .int v9), (2, .ref p0), (1, .int 0), (0, .ref p0)]) hx hb dX7_sum_6 rfl hl (by decide) rfl (fun ls hl => ?_)
  refine lv_iconst (v := 0) hx hb dX7_sum_7 (by decide) ?_
  refine lv_istore (lv' := [(4, .int 0), (3, .int v9), (2, .ref p0), (1, .int 0), (0, .ref p0)]) hx hb dX7_sum_8 hl (by decide) rfl (fun ls hl => ?_)
  exact B10 _ _ _ _ _ _ _ _ hH hS (lv_sub hl [3, 2, 1, 0] rfl) hf
set_option maxRecDepth 100000 in
set_option maxHeartbeats 8000000 in
theorem c7_count (l : Launch) (w : GW) (K : GK) (g : GM) (S : GS) (a : Nat) (p0 : Int32) (out : Int32) (hf : f7_count K g a p0 = some out) (hk0 : gkd K a = 8) : Met l yX7_count (wA yX7_count cX7_count 2 (some .int)) ({ frames := 1, cells := 0, slots := 0, locals := 25 } : Room) (PRE w K g S [.ref a, .int p0]) (QI w K g S out) 0 0 (FR w) := by
  unfold f7_count at hf
  refine Met.ofW (cc := cX7_count) (maxL := 2) (ret := (some .int)) (by decide) rfl ?_
  intro p e s m args below meth c s₁ B hml hv
  obtain ⟨rfl, hH, hK⟩ := hv
  have hx := B.exec
  have hb := B.bytes
  have hr := B.returns
  have hts : ∀ q ∈ gALL, q.before _ s = true := fun q h => atoms_spec (ws := (wA yX7_count cX7_count 2 (some .int))) B.pre q (List.mem_cons_of_mem _ h)
  have hown : s.vm.findClass RX7 = some m.cls := findClass_of_methodNamed B.named
  have hlocks := B.notSynchronized
  have hS : va_S (FR w) s.heap s.heap [] := va_S.rf
  show W p l e ({ frames := 1, cells := 0, slots := 0, locals := 25 } : Room) s m _ below meth c s.heap [] 0 0 (MQ below (QI w K g S out) _ s 0 0 (FR w)) _
  have hl := lv_entry ([.ref a, .int p0]) (n := 2) (Nat.le_of_ble_eq_true rfl)
  rw [lg_entry_eq]
  generalize (lg_sl ([.ref a, .int p0]) ++ List.replicate (2 - (lg_sl ([.ref a, .int p0])).length) Slot.unset).toArray = ls at hl ⊢
  clear B
  generalize ([.ref a, .int p0] : List Value).toArray = args at hts ⊢
  have hl : lv_has ls 2 [(0, .ref a), (1, .int p0)] := hl
  refine lv_iload_n hx hb dX7_count_0 rfl (lv_at hl 1 rfl) ?_
  have hg := gif hf
  by_cases c1 : p0 = 0
  · have hf := hg.1 c1
    refine lv_tableIn (off := 71) (tgt := 72) hx hb dX7_count_1 (by rw [c1]; decide) (by rw [c1]; decide) (by rw [c1]; decide +kernel) (by decide) ?_
    refine lv_aload_n hx hb dX7_count_72 rfl (lv_at hl 0 rfl) ?_
    have k2 : gkd K (a + 10) = 5 := congrArg Prod.fst (hH.sub hk0 2 (t := (10, 5, 0)) rfl)
    refine e_7_2 hx hb hts hown hK hH hk0 (hts _ wd_21) dX7_count_73 ?_
    have k3 : K.1 (a + 11) = (13, 10) := hH.sub k2 0 (t := (1, 13, 10)) rfl
    refine e_4_0 hx hb hts hown hK hH k2 (hts _ wd_113) dX7_count_76 ?_
    obtain ⟨v4, h5, hf⟩ := gbind hf
    refine g_Si (As := [.ref (a + 11)]) (rest := []) ⟨hx, hb, hml, hown, hts⟩ (c2_written l w K g S (a + 11) v4 h5) (gcwS hts i2_written wd_126 rfl rfl ⟨Nat.le_of_ble_eq_true rfl, Nat.le_of_ble_eq_true rfl⟩) hH hK hS hl.1 rfl rfl (Nat.le_of_ble_eq_true rfl) dX7_count_79 ⟨Nat.le_refl _, Nat.le_refl _⟩ (fun H locs hH hS => ?_)
    have ho := Option.some.inj hf
    exact W.iret (v := v4) hx hb hr (fun t ht hW => ⟨⟨v4, (), rfl, ho, hrE ht hH⟩, hS.F ht⟩) hS.2.2 dX7_count_82
  have hf := hg.2 c1
  have hg := gif hf
  by_cases c6 : p0 = 1
  · have hf := hg.1 c6
    refine lv_tableIn (off := 82) (tgt := 83) hx hb dX7_count_1 (by rw [c6]; decide) (by rw [c6]; decide) (by rw [c6]; decide +kernel) (by decide) ?_
    refine lv_aload_n hx hb dX7_count_83 rfl (lv_at hl 0 rfl) ?_
    have k7 : gkd K (a + 10) = 5 := congrArg Prod.fst (hH.sub hk0 2 (t := (10, 5, 0)) rfl)
    refine e_7_2 hx hb hts hown hK hH hk0 (hts _ wd_21) dX7_count_84 ?_
    have k8 : gkd K (a + 19) = 1 := congrArg Prod.fst (hH.sub k7 8 (t := (9, 1, 0)) rfl)
    refine e_4_8 hx hb hts hown hK hH k7 (hts _ wd_114) dX7_count_87 ?_
    refine e_0_6 hx hb hts hown hK hH k8 (hts _ wd_115) dX7_count_90 ?_
    have ho := Option.some.inj hf
    exact W.iret (v := (gI g (a + 19) 6)) hx hb hr (fun t ht hW => ⟨⟨(gI g (a + 19) 6), (), rfl, ho, hrE ht hH⟩, hS.F ht⟩) hS.2.2 dX7_count_93
  have hf := hg.2 c6
  have hg := gif hf
  by_cases c9 : p0 = 2
  · have hf := hg.1 c9
    refine lv_tableIn (off := 93) (tgt := 94) hx hb dX7_count_1 (by rw [c9]; decide) (by rw [c9]; decide) (by rw [c9]; decide +kernel) (by decide) ?_
    refine lv_aload_n hx hb dX7_count_94 rfl (lv_at hl 0 rfl) ?_
    have k10 : gkd K (a + 10) = 5 := congrArg Prod.fst (hH.sub hk0 2 (t := (10, 5, 0)) rfl)
    refine e_7_2 hx hb hts hown hK hH hk0 (hts _ wd_21) dX7_count_95 ?_
    refine e_4_9 hx hb hts hown hK hH k10 (hts _ wd_116) dX7_count_98 ?_
    have ho := Option.some.inj hf
    exact W.iret (v := (gI g (a + 10) 9)) hx hb hr (fun t ht hW => ⟨⟨(gI g (a + 10) 9), (), rfl, ho, hrE ht hH⟩, hS.F ht⟩) hS.2.2 dX7_count_101
  have hf := hg.2 c9
  have hg := gif hf
  by_cases c11 : p0 = 3
  · have hf := hg.1 c11
    refine lv_tableIn (off := 101) (tgt := 102) hx hb dX7_count_1 (by rw [c11]; decide) (by rw [c11]; decide) (by rw [c11]; decide +kernel) (by decide) ?_
    refine lv_aload_n hx hb dX7_count_102 rfl (lv_at hl 0 rfl) ?_
    have k12 : gkd K (a + 10) = 5 := congrArg Prod.fst (hH.sub hk0 2 (t := (10, 5, 0)) rfl)
    refine e_7_2 hx hb hts hown hK hH hk0 (hts _ wd_21) dX7_count_103 ?_
    have k13 : K.1 (a + 17) = (10, 6) := hH.sub k12 6 (t := (7, 10, 6)) rfl
    refine e_4_6 hx hb hts hown hK hH k12 (hts _ wd_117) dX7_count_106 ?_
    obtain ⟨v14, h15, hf⟩ := gbind hf
    refine g_Si (As := [.ref (a + 17)]) (rest := []) ⟨hx, hb, hml, hown, hts⟩ (c7_sum l w K g S (a + 17) v14 h15) (gcwS hts i7_sum wd_129 rfl rfl ⟨Nat.le_of_ble_eq_true rfl, Nat.le_of_ble_eq_true rfl⟩) hH hK hS hl.1 rfl rfl (Nat.le_of_ble_eq_true rfl) dX7_count_109 ⟨Nat.le_refl _, Nat.le_refl _⟩ (fun H locs hH hS => ?_)
    have ho := Option.some.inj hf
    exact W.iret (v := v14) hx hb hr (fun t ht hW => ⟨⟨v14, (), rfl, ho, hrE ht hH⟩, hS.F ht⟩) hS.2.2 dX7_count_112
  have hf := hg.2 c11
  have hg := gif hf
  by_cases c16 : p0 = 4
  · have hf := hg.1 c16
    refine lv_tableIn (off := 112) (tgt := 113) hx hb dX7_count_1 (by rw [c16]; decide) (by rw [c16]; decide) (by rw [c16]; decide +kernel) (by decide) ?_
    refine lv_aload_n hx hb dX7_count_113 rfl (lv_at hl 0 rfl) ?_
    have k17 : gkd K (a + 10) = 5 := congrArg Prod.fst (hH.sub hk0 2 (t := (10, 5, 0)) rfl)
    refine e_7_2 hx hb hts hown hK hH hk0 (hts _ wd_21) dX7_count_114 ?_
    refine e_4_10 hx hb hts hown hK hH k17 (hts _ wd_118) dX7_count_117 ?_
    have ho := Option.some.inj hf
    exact W.iret (v := (gI g (a + 10) 10)) hx hb hr (fun t ht hW => ⟨⟨(gI g (a + 10) 10), (), rfl, ho, hrE ht hH⟩, hS.F ht⟩) hS.2.2 dX7_count_120
  have hf := hg.2 c16
  have hg := gif hf
  by_cases c18 : p0 = 5
  · have hf := hg.1 c18
    refine lv_tableIn (off := 120) (tgt := 121) hx hb dX7_count_1 (by rw [c18]; decide) (by rw [c18]; decide) (by rw [c18]; decide +kernel) (by decide) ?_
    refine lv_aload_n hx hb dX7_count_121 rfl (lv_at hl 0 rfl) ?_
    have k19 : gkd K (a + 10) = 5 := congrArg Prod.fst (hH.sub hk0 2 (t := (10, 5, 0)) rfl)
    refine e_7_2 hx hb hts hown hK hH hk0 (hts _ wd_21) dX7_count_122 ?_
    refine e_4_11 hx hb hts hown hK hH k19 (hts _ wd_119) dX7_count_125 ?_
    have ho := Option.some.inj hf
    exact W.iret (v := (gI g (a + 10) 11)) hx hb hr (fun t ht hW => ⟨⟨(gI g (a + 10) 11), (), rfl, ho, hrE ht hH⟩, hS.F ht⟩) hS.2.2 dX7_count_128
  have hf := hg.2 c18
  have hg := gif hf
  by_cases c20 : p0 = 6
  · have hf := hg.1 c20
    refine lv_tableIn (off := 128) (tgt := 129) hx hb dX7_count_1 (by rw [c20]; decide) (by rw [c20]; decide) (by rw [c20]; decide +kernel) (by decide) ?_
    refine lv_aload_n hx hb dX7_count_129 rfl (lv_at hl 0 rfl) ?_
    have k21 : gkd K (a + 10) = 5 := congrArg Prod.fst (hH.sub hk0 2 (t := (10, 5, 0)) rfl)
    refine e_7_2 hx hb hts hown hK hH hk0 (hts _ wd_21) dX7_count_130 ?_
    refine e_4_12 hx hb hts hown hK hH k21 (hts _ wd_120) dX7_count_133 ?_
    have ho := Option.some.inj hf
    exact W.iret (v := (gI g (a + 10) 12)) hx hb hr (fun t ht hW => ⟨⟨(gI g (a + 10) 12), (), rfl, ho, hrE ht hH⟩, hS.F ht⟩) hS.2.2 dX7_count_136
  have hf := hg.2 c20
  have hg := gif hf
  by_cases c22 : p0 = 7
  · have hf := hg.1 c22
    refine lv_tableIn (off := 136) (tgt := 137) hx hb dX7_count_1 (by rw [c22]; decide) (by rw [c22]; decide) (by rw [c22]; decide +kernel) (by decide) ?_
    refine lv_aload_n hx hb dX7_count_137 rfl (lv_at hl 0 rfl) ?_
    have k23 : gkd K (a + 10) = 5 := congrArg Prod.fst (hH.sub hk0 2 (t := (10, 5, 0)) rfl)
    refine e_7_2 hx hb hts hown hK hH hk0 (hts _ wd_21) dX7_count_138 ?_
    have k24 : K.1 (a + 16) = (10, 6) := hH.sub k23 5 (t := (6, 10, 6)) rfl
    refine e_4_5 hx hb hts hown hK hH k23 (hts _ wd_121) dX7_count_141 ?_
    obtain ⟨v25, h26, hf⟩ := gbind hf
    refine g_Si (As := [.ref (a + 16)]) (rest := []) ⟨hx, hb, hml, hown, hts⟩ (c7_sum l w K g S (a + 16) v25 h26) (gcwS hts i7_sum wd_129 rfl rfl ⟨Nat.le_of_ble_eq_true rfl, Nat.le_of_ble_eq_true rfl⟩) hH hK hS hl.1 rfl rfl (Nat.le_of_ble_eq_true rfl) dX7_count_144 ⟨Nat.le_refl _, Nat.le_refl _⟩ (fun H locs hH hS => ?_)
    have ho := Option.some.inj hf
    exact W.iret (v := v25) hx hb hr (fun t ht hW => ⟨⟨v25, (), rfl, ho, hrE ht hH⟩, hS.F ht⟩) hS.2.2 dX7_count_147
  have hf := hg.2 c22
  have hg := gif hf
  by_cases c27 : p0 = 8
  · have hf := hg.1 c27
    refine lv_tableIn (off := 147) (tgt := 148) hx hb dX7_count_1 (by rw [c27]; decide) (by rw [c27]; decide) (by rw [c27]; decide +kernel) (by decide) ?_
    refine lv_aload_n hx hb dX7_count_148 rfl (lv_at hl 0 rfl) ?_
    have k28 : gkd K (a + 10) = 5 := congrArg Prod.fst (hH.sub hk0 2 (t := (10, 5, 0)) rfl)
    refine e_7_2 hx hb hts hown hK hH hk0 (hts _ wd_21) dX7_count_149 ?_
    have k29 : K.1 (a + 14) = (10, 6) := hH.sub k28 3 (t := (4, 10, 6)) rfl
    refine e_4_3 hx hb hts hown hK hH k28 (hts _ wd_122) dX7_count_152 ?_
    obtain ⟨v30, h31, hf⟩ := gbind hf
    refine g_Si (As := [.ref (a + 14)]) (rest := []) ⟨hx, hb, hml, hown, hts⟩ (c7_sum l w K g S (a + 14) v30 h31) (gcwS hts i7_sum wd_129 rfl rfl ⟨Nat.le_of_ble_eq_true rfl, Nat.le_of_ble_eq_true rfl⟩) hH hK hS hl.1 rfl rfl (Nat.le_of_ble_eq_true rfl) dX7_count_155 ⟨Nat.le_refl _, Nat.le_refl _⟩ (fun H locs hH hS => ?_)
    have ho := Option.some.inj hf
    exact W.iret (v := v30) hx hb hr (fun t ht hW => ⟨⟨v30, (), rfl, ho, hrE ht hH⟩, hS.F ht⟩) hS.2.2 dX7_count_158
  have hf := hg.2 c27
  have hg := gif hf
  by_cases c32 : p0 = 9
  · have hf := hg.1 c32
    refine lv_tableIn (off := 158) (tgt := 159) hx hb dX7_count_1 (by rw [c32]; decide) (by rw [c32]; decide) (by rw [c32]; decide +kernel) (by decide) ?_
    refine lv_aload_n hx hb dX7_count_159 rfl (lv_at hl 0 rfl) ?_
    have k33 : gkd K (a + 10) = 5 := congrArg Prod.fst (hH.sub hk0 2 (t := (10, 5, 0)) rfl)
    refine e_7_2 hx hb hts hown hK hH hk0 (hts _ wd_21) dX7_count_160 ?_
    have k34 : K.1 (a + 13) = (10, 3) := hH.sub k33 2 (t := (3, 10, 3)) rfl
    refine e_4_2 hx hb hts hown hK hH k33 (hts _ wd_123) dX7_count_163 ?_
    refine lv_iconst (v := 0) hx hb dX7_count_166 (by decide) ?_
    obtain ⟨h36, hf⟩ := gd_some hf
    refine g_iald hx hb hK hH k34 h36 dX7_count_167 ?_
    have ho := Option.some.inj hf
    exact W.iret (v := (gI g (a + 13) (0 : Int32).toNatClampNeg)) hx hb hr (fun t ht hW => ⟨⟨(gI g (a + 13) (0 : Int32).toNatClampNeg), (), rfl, ho, hrE ht hH⟩, hS.F ht⟩) hS.2.2 dX7_count_168
  have hf := hg.2 c32
  have hg := gif hf
  by_cases c37 : p0 = 10
  · have hf := hg.1 c37
    refine lv_tableIn (off := 168) (tgt := 169) hx hb dX7_count_1 (by rw [c37]; decide) (by rw [c37]; decide) (by rw [c37]; decide +kernel) (by decide) ?_
    refine lv_aload_n hx hb dX7_count_169 rfl (lv_at hl 0 rfl) ?_
    have k38 : gkd K (a + 10) = 5 := congrArg Prod.fst (hH.sub hk0 2 (t := (10, 5, 0)) rfl)
    refine e_7_2 hx hb hts hown hK hH hk0 (hts _ wd_21) dX7_count_170 ?_
    have k39 : K.1 (a + 13) = (10, 3) := hH.sub k38 2 (t := (3, 10, 3)) rfl
    refine e_4_2 hx hb hts hown hK hH k38 (hts _ wd_123) dX7_count_173 ?_
    refine lv_iconst (v := 1) hx hb dX7_count_176 (by decide) ?_
    obtain ⟨h41, hf⟩ := gd_some hf
    refine g_iald hx hb hK hH k39 h41 dX7_count_177 ?_
    have ho := Option.some.inj hf
    exact W.iret (v := (gI g (a + 13) (1 : Int32).toNatClampNeg)) hx hb hr (fun t ht hW => ⟨⟨(gI g (a + 13) (1 : Int32).toNatClampNeg), (), rfl, ho, hrE ht hH⟩, hS.F ht⟩) hS.2.2 dX7_count_178
  have hf := hg.2 c37
  have hg := gif hf
  by_cases c42 : p0 = 11
  · have hf := hg.1 c42
    refine lv_tableIn (off := 178) (tgt := 179) hx hb dX7_count_1 (by rw [c42]; decide) (by rw [c42]; decide) (by rw [c42]; decide +kernel) (by decide) ?_
    refine lv_aload_n hx hb dX7_count_179 rfl (lv_at hl 0 rfl) ?_
    have k43 : gkd K (a + 10) = 5 := congrArg Prod.fst (hH.sub hk0 2 (t := (10, 5, 0)) rfl)
    refine e_7_2 hx hb hts hown hK hH hk0 (hts _ wd_21) dX7_count_180 ?_
    have k44 : K.1 (a + 13) = (10, 3) := hH.sub k43 2 (t := (3, 10, 3)) rfl
    refine e_4_2 hx hb hts hown hK hH k43 (hts _ wd_123) dX7_count_183 ?_
    refine lv_iconst (v := 2) hx hb dX7_count_186 (by decide) ?_
    obtain ⟨h46, hf⟩ := gd_some hf
    refine g_iald hx hb hK hH k44 h46 dX7_count_187 ?_
    have ho := Option.some.inj hf
    exact W.iret (v := (gI g (a + 13) (2 : Int32).toNatClampNeg)) hx hb hr (fun t ht hW => ⟨⟨(gI g (a + 13) (2 : Int32).toNatClampNeg), (), rfl, ho, hrE ht hH⟩, hS.F ht⟩) hS.2.2 dX7_count_188
  have hf := hg.2 c42
  have hg := gif hf
  by_cases c47 : p0 = 12
  · have hf := hg.1 c47
    refine lv_tableIn (off := 188) (tgt := 189) hx hb dX7_count_1 (by rw [c47]; decide) (by rw [c47]; decide) (by rw [c47]; decide +kernel) (by decide) ?_
    refine lv_aload_n hx hb dX7_count_189 rfl (lv_at hl 0 rfl) ?_
    have k48 : gkd K (a + 1) = 6 := congrArg Prod.fst (hH.sub hk0 0 (t := (1, 6, 0)) rfl)
    refine e_7_0 hx hb hts hown hK hH hk0 (hts _ wd_13) dX7_count_190 ?_
    refine e_5_1 hx hb hts hown hK hH k48 (hts _ wd_124) dX7_count_193 ?_
    have ho := Option.some.inj hf
    exact W.iret (v := (gI g (a + 1) 1)) hx hb hr (fun t ht hW => ⟨⟨(gI g (a + 1) 1), (), rfl, ho, hrE ht hH⟩, hS.F ht⟩) hS.2.2 dX7_count_196
  have hf := hg.2 c47
  have hg := gif hf
  by_cases c49 : p0 = 13
  · have hf := hg.1 c49
    refine lv_tableIn (off := 196) (tgt := 197) hx hb dX7_count_1 (by rw [c49]; decide) (by rw [c49]; decide) (by rw [c49]; decide +kernel) (by decide) ?_
    refine lv_aload_n hx hb dX7_count_197 rfl (lv_at hl 0 rfl) ?_
    have k50 : gkd K (a + 42) = 4 := congrArg Prod.fst (hH.sub hk0 4 (t := (42, 4, 0)) rfl)
    refine e_7_4 hx hb hts hown hK hH hk0 (hts _ wd_26) dX7_count_198 ?_
    refine e_3_1 hx hb hts hown hK hH k50 (hts _ wd_125) dX7_count_201 ?_
    have ho := Option.some.inj hf
    exact W.iret (v := (gI g (a + 42) 1)) hx hb hr (fun t ht hW => ⟨⟨(gI g (a + 42) 1), (), rfl, ho, hrE ht hH⟩, hS.F ht⟩) hS.2.2 dX7_count_204
  have hf := hg.2 c49
  have nc1 : p0.toInt ≠ 0 := g_ne c1 (by decide)
  have nc6 : p0.toInt ≠ 1 := g_ne c6 (by decide)
  have nc9 : p0.toInt ≠ 2 := g_ne c9 (by decide)
  have nc11 : p0.toInt ≠ 3 := g_ne c11 (by decide)
  have nc16 : p0.toInt ≠ 4 := g_ne c16 (by decide)
  have nc18 : p0.toInt ≠ 5 := g_ne c18 (by decide)
  have nc20 : p0.toInt ≠ 6 := g_ne c20 (by decide)
  have nc22 : p0.toInt ≠ 7 := g_ne c22 (by decide)
  have nc27 : p0.toInt ≠ 8 := g_ne c27 (by decide)
  have nc32 : p0.toInt ≠ 9 := g_ne c32 (by decide)
  have nc37 : p0.toInt ≠ 10 := g_ne c37 (by decide)
  have nc42 : p0.toInt ≠ 11 := g_ne c42 (by decide)
  have nc47 : p0.toInt ≠ 12 := g_ne c47 (by decide)
  have nc49 : p0.toInt ≠ 13 := g_ne c49 (by decide)
  refine lv_tableOut (tgt := 205) hx hb dX7_count_1 (by omega) (by decide) ?_
  refine lv_bipush (v := (-2)) hx hb dX7_count_205 (by decide) ?_
  have ho := Option.some.inj hf
  exact W.iret (v := (-2)) hx hb hr (fun t ht hW => ⟨⟨(-2), (), rfl, ho, hrE ht hH⟩, hS.F ht⟩) hS.2.2 dX7_count_207
set_option maxRecDepth 100000 in
set_option maxHeartbeats 8000000 in
theorem c0_placeOf (l : Launch) (w : GW) (K : GK) (g : GM) (S : GS) (a : Nat) (p0 : Int32) (out : Int32) (hf : f0_placeOf K g a p0 = some out) (hk0 : gkd K a = 1) : Met l yX0_placeOf (wA yX0_placeOf cX0_placeOf 2 (some .int)) ({ frames := 1, cells := 0, slots := 0, locals := 21 } : Room) (PRE w K g S [.ref a, .int p0]) (QI w K g S out) 0 0 (FR w) := by
  unfold f0_placeOf at hf
  refine Met.ofW (cc := cX0_placeOf) (maxL := 2) (ret := (some .int)) (by decide) rfl ?_
  intro p e s m args below meth c s₁ B hml hv
  obtain ⟨rfl, hH, hK⟩ := hv
  have hx := B.exec
  have hb := B.bytes
  have hr := B.returns
  have hts : ∀ q ∈ gALL, q.before _ s = true := fun q h => atoms_spec (ws := (wA yX0_placeOf cX0_placeOf 2 (some .int))) B.pre q (List.mem_cons_of_mem _ h)
  have hown : s.vm.findClass RX0 = some m.cls := findClass_of_methodNamed B.named
  have hlocks := B.notSynchronized
  have hS : va_S (FR w) s.heap s.heap [] := va_S.rf
  show W p l e ({ frames := 1, cells := 0, slots := 0, locals := 21 } : Room) s m _ below meth c s.heap [] 0 0 (MQ below (QI w K g S out) _ s 0 0 (FR w)) _
  have hl := lv_entry ([.ref a, .int p0]) (n := 2) (Nat.le_of_ble_eq_true rfl)
  rw [lg_entry_eq]
  generalize (lg_sl ([.ref a, .int p0]) ++ List.replicate (2 - (lg_sl ([.ref a, .int p0])).length) Slot.unset).toArray = ls at hl ⊢
  clear B
  generalize ([.ref a, .int p0] : List Value).toArray = args at hts ⊢
  have hl : lv_has ls 2 [(0, .ref a), (1, .int p0)] := hl
  refine lv_iload_n hx hb dX0_placeOf_0 rfl (lv_at hl 1 rfl) ?_
  refine lv_aload_n hx hb dX0_placeOf_1 rfl (lv_at hl 0 rfl) ?_
  refine e_0_6 hx hb hts hown hK hH hk0 (hts _ wd_79) dX0_placeOf_2 ?_
  obtain ⟨v1, h2, hf⟩ := gbind hf
  refine g_SiN (As := [.int p0, .int (gI g a 6)]) (rest := []) ⟨hx, hb, hml, hown, hts⟩ (c7_inRange l w K g S p0 (gI g a 6) v1 h2) (gcwSN (host := "CallingLooms") hts i7_inRange hK (List.mem_of_getElem? (i := 2) rfl) rfl rfl ⟨Nat.le_of_ble_eq_true rfl, Nat.le_of_ble_eq_true rfl⟩) hH hK hS hl.1 rfl rfl (Nat.le_of_ble_eq_true rfl) dX0_placeOf_5 ⟨Nat.le_refl _, Nat.le_refl _⟩ (fun H locs hH hS => ?_)
  have hg := gif hf
  refine lv_if_eq (tgt := 24) hx hb dX0_placeOf_8 (by decide) (fun c3 => ?_) (fun c3 => ?_)
  · have hf := hg.1 c3
    refine lv_iconst (v := 0) hx hb dX0_placeOf_24 (by decide) ?_
    have ho := Option.some.inj hf
    exact W.iret (v := 0) hx hb hr (fun t ht hW => ⟨⟨0, (), rfl, ho, hrE ht hH⟩, hS.F ht⟩) hS.2.2 dX0_placeOf_25
  · have hf := hg.2 c3
    refine lv_aload_n hx hb dX0_placeOf_11 rfl (lv_at hl 0 rfl) ?_
    have k4 : K.1 (a + 4) = (10, 36) := hH.sub hk0 3 (t := (4, 10, 36)) rfl
    refine e_0_3 hx hb hts hown hK hH hk0 (hts _ wd_75) dX0_placeOf_12 ?_
    refine lv_aload_n hx hb dX0_placeOf_15 rfl (lv_at hl 0 rfl) ?_
    refine lv_iload_n hx hb dX0_placeOf_16 rfl (lv_at hl 1 rfl) ?_
    obtain ⟨v5, h6, hf⟩ := gbind hf
    refine g_Vi (As := [.int p0]) (rest := [.ref (a + 4)]) ⟨hx, hb, hml, hown, hts⟩ (c0_spotOf l w K g S a p0 v5 h6 hk0) (gcwV hts i0_spotOf wd_163 rfl rfl ⟨Nat.le_of_ble_eq_true rfl, Nat.le_of_ble_eq_true rfl⟩) (gRecv.of hK rfl (hH.o1 hk0)) hH hK hS hl.1 rfl rfl (Nat.le_of_ble_eq_true rfl) dX0_placeOf_17 ⟨Nat.le_refl _, Nat.le_refl _⟩ (fun H locs hH hS => ?_)
    obtain ⟨h8, hf⟩ := gd_some hf
    refine g_iald hx hb hK hH k4 h8 dX0_placeOf_20 ?_
    refine lv_goto (tgt := 25) hx hb dX0_placeOf_21 (by decide) ?_
    have ho := Option.some.inj hf
    exact W.iret (v := (gI g (a + 4) v5.toNatClampNeg)) hx hb hr (fun t ht hW => ⟨⟨(gI g (a + 4) v5.toNatClampNeg), (), rfl, ho, hrE ht hH⟩, hS.F ht⟩) hS.2.2 dX0_placeOf_25
set_option maxRecDepth 100000 in
set_option maxHeartbeats 8000000 in
theorem c7_stack (l : Launch) (w : GW) (K : GK) (g : GM) (S : GS) (a : Nat) (p0 : Int32) (p1 : Int32) (out : Int32) (hf : f7_stack K g a p0 p1 = some out) (hk0 : gkd K a = 8) : Met l yX7_stack (wA yX7_stack cX7_stack 4 (some .int)) ({ frames := 2, cells := 0, slots := 0, locals := 42 } : Room) (PRE w K g S [.ref a, .int p0, .int p1]) (QI w K g S out) 0 0 (FR w) := by
  unfold f7_stack at hf
  refine Met.ofW (cc := cX7_stack) (maxL := 4) (ret := (some .int)) (by decide) rfl ?_
  intro p e s m args below meth c s₁ B hml hv
  obtain ⟨rfl, hH, hK⟩ := hv
  have hx := B.exec
  have hb := B.bytes
  have hr := B.returns
  have hts : ∀ q ∈ gALL, q.before _ s = true := fun q h => atoms_spec (ws := (wA yX7_stack cX7_stack 4 (some .int))) B.pre q (List.mem_cons_of_mem _ h)
  have hown : s.vm.findClass RX7 = some m.cls := findClass_of_methodNamed B.named
  have hlocks := B.notSynchronized
  have hS : va_S (FR w) s.heap s.heap [] := va_S.rf
  show W p l e ({ frames := 2, cells := 0, slots := 0, locals := 42 } : Room) s m _ below meth c s.heap [] 0 0 (MQ below (QI w K g S out) _ s 0 0 (FR w)) _
  have hl := lv_entry ([.ref a, .int p0, .int p1]) (n := 4) (Nat.le_of_ble_eq_true rfl)
  rw [lg_entry_eq]
  generalize (lg_sl ([.ref a, .int p0, .int p1]) ++ List.replicate (4 - (lg_sl ([.ref a, .int p0, .int p1])).length) Slot.unset).toArray = ls at hl ⊢
  clear B
  generalize ([.ref a, .int p0, .int p1] : List Value).toArray = args at hts ⊢
  have hl : lv_has ls 4 [(0, .ref a), (1, .int p0), (2, .int p1)] := hl
  refine lv_iload_n hx hb dX7_stack_0 rfl (lv_at hl 1 rfl) ?_
  refine lv_aload_n hx hb dX7_stack_1 rfl (lv_at hl 0 rfl) ?_
  have k1 : gkd K (a + 10) = 5 := congrArg Prod.fst (hH.sub hk0 2 (t := (10, 5, 0)) rfl)
  refine e_7_2 hx hb hts hown hK hH hk0 (hts _ wd_21) dX7_stack_2 ?_
  have k2 : gkd K (a + 19) = 1 := congrArg Prod.fst (hH.sub k1 8 (t := (9, 1, 0)) rfl)
  refine e_4_8 hx hb hts hown hK hH k1 (hts _ wd_114) dX7_stack_5 ?_
  refine e_0_6 hx hb hts hown hK hH k2 (hts _ wd_115) dX7_stack_8 ?_
  obtain ⟨v3, h4, hf⟩ := gbind hf
  refine g_Si (As := [.int p0, .int (gI g (a + 19) 6)]) (rest := []) ⟨hx, hb, hml, hown, hts⟩ (c7_inRange l w K g S p0 (gI g (a + 19) 6) v3 h4) (gcwS hts i7_inRange wd_137 rfl rfl ⟨Nat.le_of_ble_eq_true rfl, Nat.le_of_ble_eq_true rfl⟩) hH hK hS hl.1 rfl rfl (Nat.le_of_ble_eq_true rfl) dX7_stack_11 ⟨Nat.le_refl _, Nat.le_refl _⟩ (fun H locs hH hS => ?_)
  have hg := gif hf
  refine lv_if_ne (tgt := 19) hx hb dX7_stack_14 (by decide) (fun c5 => ?_) (fun c5 => ?_)
  · have hf := hg.2 c5
    refine lv_aload_n hx hb dX7_stack_19 rfl (lv_at hl 0 rfl) ?_
    refine e_7_2 hx hb hts hown hK hH hk0 (hts _ wd_21) dX7_stack_20 ?_
    refine e_4_8 hx hb hts hown hK hH k1 (hts _ wd_114) dX7_stack_23 ?_
    refine e_0_6 hx hb hts hown hK hH k2 (hts _ wd_115) dX7_stack_26 ?_
    refine lv_iconst (v := 1) hx hb dX7_stack_29 (by decide) ?_
    refine lv_isub hx hb dX7_stack_30 ?_
    refine lv_iload_n hx hb dX7_stack_31 rfl (lv_at hl 1 rfl) ?_
    refine lv_isub hx hb dX7_stack_32 ?_
    refine lv_topi (fun v6 ev6 => ?_)
    have hf := gl_at hf ev6
    refine lv_istore_n (lv' := [(3, .int v6), (0, .ref a), (1, .int p0), (2, .int p1)]) hx hb dX7_stack_33 rfl hl (by decide) rfl (fun ls hl => ?_)
    refine lv_iload_n hx hb dX7_stack_34 rfl (lv_at hl 3 rfl) ?_
    have hg := gif hf
    by_cases c7 : p1 = 0
    · have hf := hg.1 c7
      refine lv_tableIn (off := 29) (tgt := 64) hx hb dX7_stack_35 (by rw [c7]; decide) (by rw [c7]; decide) (by rw [c7]; decide +kernel) (by decide) ?_
      refine lv_aload_n hx hb dX7_stack_64 rfl (lv_at hl 1 rfl) ?_
      refine e_7_2 hx hb hts hown hK hH hk0 (hts _ wd_21) dX7_stack_65 ?_
      refine e_4_8 hx hb hts hown hK hH k1 (hts _ wd_114) dX7_stack_68 ?_
      have k8 : K.1 (a + 20) = (10, 9) := hH.sub k2 0 (t := (1, 10, 9)) rfl
      refine e_0_0 hx hb hts hown hK hH k2 (hts _ wd_156) dX7_stack_71 ?_
      refine lv_iload_n hx hb dX7_stack_74 rfl (lv_at hl 0 rfl) ?_
      obtain ⟨h10, hf⟩ := gd_some hf
      refine g_iald hx hb hK hH k8 h10 dX7_stack_75 ?_
      have ho := Option.some.inj hf
      exact W.iret (v := (gI g (a + 20) v6.toNatClampNeg)) hx hb hr (fun t ht hW => ⟨⟨(gI g (a + 20) v6.toNatClampNeg), (), rfl, ho, hrE ht hH⟩, hS.F ht⟩) hS.2.2 dX7_stack_76
    have hf := hg.2 c7
    have hg := gif hf
    by_cases c11 : p1 = 1
    · have hf := hg.1 c11
      refine lv_tableIn (off := 42) (tgt := 77) hx hb dX7_stack_35 (by rw [c11]; decide) (by rw [c11]; decide) (by rw [c11]; decide +kernel) (by decide) ?_
      refine lv_aload_n hx hb dX7_stack_77 rfl (lv_at hl 1 rfl) ?_
      refine e_7_2 hx hb hts hown hK hH hk0 (hts _ wd_21) dX7_stack_78 ?_
      refine e_4_8 hx hb hts hown hK hH k1 (hts _ wd_114) dX7_stack_81 ?_
      have k12 : K.1 (a + 21) = (10, 9) := hH.sub k2 1 (t := (2, 10, 9)) rfl
      refine e_0_1 hx hb hts hown hK hH k2 (hts _ wd_157) dX7_stack_84 ?_
      refine lv_iload_n hx hb dX7_stack_87 rfl (lv_at hl 0 rfl) ?_
      obtain ⟨h14, hf⟩ := gd_some hf
      refine g_iald hx hb hK hH k12 h14 dX7_stack_88 ?_
      have ho := Option.some.inj hf
      exact W.iret (v := (gI g (a + 21) v6.toNatClampNeg)) hx hb hr (fun t ht hW => ⟨⟨(gI g (a + 21) v6.toNatClampNeg), (), rfl, ho, hrE ht hH⟩, hS.F ht⟩) hS.2.2 dX7_stack_89
    have hf := hg.2 c11
    have hg := gif hf
    by_cases c15 : p1 = 2
    · have hf := hg.1 c15
      refine lv_tableIn (off := 55) (tgt := 90) hx hb dX7_stack_35 (by rw [c15]; decide) (by rw [c15]; decide) (by rw [c15]; decide +kernel) (by decide) ?_
      refine lv_aload_n hx hb dX7_stack_90 rfl (lv_at hl 1 rfl) ?_
      refine e_7_2 hx hb hts hown hK hH hk0 (hts _ wd_21) dX7_stack_91 ?_
      refine e_4_8 hx hb hts hown hK hH k1 (hts _ wd_114) dX7_stack_94 ?_
      refine lv_iload_n hx hb dX7_stack_97 rfl (lv_at hl 0 rfl) ?_
      obtain ⟨v16, h17, hf⟩ := gbind hf
      refine g_Vi (As := [.int v6]) (rest := []) ⟨hx, hb, hml, hown, hts⟩ (c0_placeOf l w K g S (a + 19) v6 v16 h17 k2) (gcwV hts i0_placeOf wd_159 rfl rfl ⟨Nat.le_of_ble_eq_true rfl, Nat.le_of_ble_eq_true rfl⟩) (gRecv.of hK rfl (hH.o1 k2)) hH hK hS hl.1 rfl rfl (Nat.le_of_ble_eq_true rfl) dX7_stack_98 ⟨Nat.le_refl _, Nat.le_refl _⟩ (fun H locs hH hS => ?_)
      have ho := Option.some.inj hf
      exact W.iret (v := v16) hx hb hr (fun t ht hW => ⟨⟨v16, (), rfl, ho, hrE ht hH⟩, hS.F ht⟩) hS.2.2 dX7_stack_101
    have hf := hg.2 c15
    have hg := gif hf
    by_cases c18 : p1 = 3
    · have hf := hg.1 c18
      refine lv_tableIn (off := 67) (tgt := 102) hx hb dX7_stack_35 (by rw [c18]; decide) (by rw [c18]; decide) (by rw [c18]; decide +kernel) (by decide) ?_
      refine lv_aload_n hx hb dX7_stack_102 rfl (lv_at hl 1 rfl) ?_
      refine e_7_2 hx hb hts hown hK hH hk0 (hts _ wd_21) dX7_stack_103 ?_
      refine e_4_8 hx hb hts hown hK hH k1 (hts _ wd_114) dX7_stack_106 ?_
      have k19 : K.1 (a + 22) = (10, 9) := hH.sub k2 2 (t := (3, 10, 9)) rfl
      refine e_0_2 hx hb hts hown hK hH k2 (hts _ wd_158) dX7_stack_109 ?_
      refine lv_iload_n hx hb dX7_stack_112 rfl (lv_at hl 0 rfl) ?_
      obtain ⟨h21, hf⟩ := gd_some hf
      refine g_iald hx hb hK hH k19 h21 dX7_stack_113 ?_
      have ho := Option.some.inj hf
      exact W.iret (v := (gI g (a + 22) v6.toNatClampNeg)) hx hb hr (fun t ht hW => ⟨⟨(gI g (a + 22) v6.toNatClampNeg), (), rfl, ho, hrE ht hH⟩, hS.F ht⟩) hS.2.2 dX7_stack_114
    have hf := hg.2 c18
    have nc7 : p1.toInt ≠ 0 := g_ne c7 (by decide)
    have nc11 : p1.toInt ≠ 1 := g_ne c11 (by decide)
    have nc15 : p1.toInt ≠ 2 := g_ne c15 (by decide)
    have nc18 : p1.toInt ≠ 3 := g_ne c18 (by decide)
    refine lv_tableOut (tgt := 115) hx hb dX7_stack_35 (by omega) (by decide) ?_
    refine lv_bipush (v := (-2)) hx hb dX7_stack_115 (by decide) ?_
    have ho := Option.some.inj hf
    exact W.iret (v := (-2)) hx hb hr (fun t ht hW => ⟨⟨(-2), (), rfl, ho, hrE ht hH⟩, hS.F ht⟩) hS.2.2 dX7_stack_117
  · have hf := hg.1 c5
    refine lv_iconst (v := (-1)) hx hb dX7_stack_17 (by decide) ?_
    have ho := Option.some.inj hf
    exact W.iret (v := (-1)) hx hb hr (fun t ht hW => ⟨⟨(-1), (), rfl, ho, hrE ht hH⟩, hS.F ht⟩) hS.2.2 dX7_stack_18
set_option maxRecDepth 100000 in
set_option maxHeartbeats 8000000 in
theorem c7_pick (l : Launch) (w : GW) (K : GK) (g : GM) (S : GS) (a : Nat) (p0 : Int32) (out : Int32) (hf : f7_pick K g a p0 = some out) (hk0 : gkd K a = 8) : Met l yX7_pick (wA yX7_pick cX7_pick 2 (some .int)) ({ frames := 1, cells := 0, slots := 0, locals := 21 } : Room) (PRE w K g S [.ref a, .int p0]) (QI w K g S out) 0 0 (FR w) := by
  unfold f7_pick at hf
  refine Met.ofW (cc := cX7_pick) (maxL := 2) (ret := (some .int)) (by decide) rfl ?_
  intro p e s m args below meth c s₁ B hml hv
  obtain ⟨rfl, hH, hK⟩ := hv
  have hx := B.exec
  have hb := B.bytes
  have hr := B.returns
  have hts : ∀ q ∈ gALL, q.before _ s = true := fun q h => atoms_spec (ws := (wA yX7_pick cX7_pick 2 (some .int))) B.pre q (List.mem_cons_of_mem _ h)
  have hown : s.vm.findClass RX7 = some m.cls := findClass_of_methodNamed B.named
  have hlocks := B.notSynchronized
  have hS : va_S (FR w) s.heap s.heap [] := va_S.rf
  show W p l e ({ frames := 1, cells := 0, slots := 0, locals := 21 } : Room) s m _ below meth c s.heap [] 0 0 (MQ below (QI w K g S out) _ s 0 0 (FR w)) _
  have hl := lv_entry ([.ref a, .int p0]) (n := 2) (Nat.le_of_ble_eq_true rfl)
  rw [lg_entry_eq]
  generalize (lg_sl ([.ref a, .int p0]) ++ List.replicate (2 - (lg_sl ([.ref a, .int p0])).length) Slot.unset).toArray = ls at hl ⊢
  clear B
  generalize ([.ref a, .int p0] : List Value).toArray = args at hts ⊢
  have hl : lv_has ls 2 [(0, .ref a), (1, .int p0)] := hl
  refine lv_iload_n hx hb dX7_pick_0 rfl (lv_at hl 1 rfl) ?_
  refine lv_aload_n hx hb dX7_pick_1 rfl (lv_at hl 0 rfl) ?_
  have k1 : gkd K (a + 10) = 5 := congrArg Prod.fst (hH.sub hk0 2 (t := (10, 5, 0)) rfl)
  refine e_7_2 hx hb hts hown hK hH hk0 (hts _ wd_21) dX7_pick_2 ?_
  refine e_4_9 hx hb hts hown hK hH k1 (hts _ wd_116) dX7_pick_5 ?_
  obtain ⟨v2, h3, hf⟩ := gbind hf
  refine g_Si (As := [.int p0, .int (gI g (a + 10) 9)]) (rest := []) ⟨hx, hb, hml, hown, hts⟩ (c7_inRange l w K g S p0 (gI g (a + 10) 9) v2 h3) (gcwS hts i7_inRange wd_137 rfl rfl ⟨Nat.le_of_ble_eq_true rfl, Nat.le_of_ble_eq_true rfl⟩) hH hK hS hl.1 rfl rfl (Nat.le_of_ble_eq_true rfl) dX7_pick_8 ⟨Nat.le_refl _, Nat.le_refl _⟩ (fun H locs hH hS => ?_)
  have hg := gif hf
  refine lv_if_ne (tgt := 16) hx hb dX7_pick_11 (by decide) (fun c4 => ?_) (fun c4 => ?_)
  · have hf := hg.2 c4
    refine lv_aload_n hx hb dX7_pick_16 rfl (lv_at hl 0 rfl) ?_
    refine e_7_2 hx hb hts hown hK hH hk0 (hts _ wd_21) dX7_pick_17 ?_
    have k5 : K.1 (a + 18) = (12, 400) := hH.sub k1 7 (t := (8, 12, 400)) rfl
    refine e_4_7 hx hb hts hown hK hH k1 (hts _ wd_511) dX7_pick_20 ?_
    refine lv_iload_n hx hb dX7_pick_23 rfl (lv_at hl 1 rfl) ?_
    obtain ⟨h7, hf⟩ := gd_some hf
    refine g_bald hx hb hK hH k5 h7 dX7_pick_24 ?_
    have ho := Option.some.inj hf
    exact W.iret (v := (gI g (a + 18) p0.toNatClampNeg)) hx hb hr (fun t ht hW => ⟨⟨(gI g (a + 18) p0.toNatClampNeg), (), rfl, ho, hrE ht hH⟩, hS.F ht⟩) hS.2.2 dX7_pick_25
  · have hf := hg.1 c4
    refine lv_iconst (v := (-1)) hx hb dX7_pick_14 (by decide) ?_
    have ho := Option.some.inj hf
    exact W.iret (v := (-1)) hx hb hr (fun t ht hW => ⟨⟨(-1), (), rfl, ho, hrE ht hH⟩, hS.F ht⟩) hS.2.2 dX7_pick_15
set_option maxRecDepth 100000 in
set_option maxHeartbeats 8000000 in
theorem c4_clothPicks (l : Launch) (w : GW) (K : GK) (g : GM) (S : GS) (a : Nat) (p0 : Int32) (out : Int32) (hf : f4_clothPicks K g a p0 = some out) (hk0 : gkd K a = 5) : Met l yX4_clothPicks (wA yX4_clothPicks cX4_clothPicks 4 (some .int)) ({ frames := 0, cells := 0, slots := 0, locals := 0 } : Room) (PRE w K g S [.ref a, .int p0]) (QI w K g S out) 0 0 (FR w) := by
  unfold f4_clothPicks at hf
  refine Met.ofW (cc := cX4_clothPicks) (maxL := 4) (ret := (some .int)) (by decide) rfl ?_
  intro p e s m args below meth c s₁ B hml hv
  obtain ⟨rfl, hH, hK⟩ := hv
  have hx := B.exec
  have hb := B.bytes
  have hr := B.returns
  have hts : ∀ q ∈ gALL, q.before _ s = true := fun q h => atoms_spec (ws := (wA yX4_clothPicks cX4_clothPicks 4 (some .int))) B.pre q (List.mem_cons_of_mem _ h)
  have hown : s.vm.findClass RX4 = some m.cls := findClass_of_methodNamed B.named
  have hlocks := B.notSynchronized
  have hS : va_S (FR w) s.heap s.heap [] := va_S.rf
  show W p l e ({ frames := 0, cells := 0, slots := 0, locals := 0 } : Room) s m _ below meth c s.heap [] 0 0 (MQ below (QI w K g S out) _ s 0 0 (FR w)) _
  have hl := lv_entry ([.ref a, .int p0]) (n := 4) (Nat.le_of_ble_eq_true rfl)
  rw [lg_entry_eq]
  generalize (lg_sl ([.ref a, .int p0]) ++ List.replicate (4 - (lg_sl ([.ref a, .int p0])).length) Slot.unset).toArray = ls at hl ⊢
  clear B
  generalize ([.ref a, .int p0] : List Value).toArray = args at hts ⊢
  have B25 : ∀ (k4 : Int32 → Int32 → Option (Int32)), (∀ (x2 : Int32) (x3 : Int32) (H : Heap) (locs : List Loc) (ls : Array Slot), HR w K g S H → va_S (FR w) s.heap H locs → lv_has ls 4 [(0, .ref a), (1, .int p0), (2, .int x2), (3, .int x3)] → k4 x2 x3 = some out → W p l e ({ frames := 0, cells := 0, slots := 0, locals := 0 } : Room) s m args below meth c H locs 0 0 (MQ below (QI w K g S out) args s 0 0 (FR w)) (F0 m 4 ls [])) → ∀ (x2 : Int32) (x3 : Int32) (H : Heap) (locs : List Loc) (ls : Array Slot), HR w K g S H → va_S (FR w) s.heap H locs → lv_has ls 4 [(0, .ref a), (1, .int p0), (2, .int x2), (3, .int x3)] → f4_clothPicks_25 k4 K g a p0 x2 x3 = some out → W p l e ({ frames := 0, cells := 0, slots := 0, locals := 0 } : Room) s m args below meth c H locs 0 0 (MQ below (QI w K g S out) args s 0 0 (FR w)) (F0 m 25 ls []) := by
    intro k4 hk4 x2 x3 H locs ls hH hS hl hf
    unfold f4_clothPicks_25 at hf
    obtain ⟨v1, ev1⟩ : ∃ z : Int32, z = x3 + 1 := ⟨_, rfl⟩
    have hf := gl_at hf ev1
    refine lv_iinc (v := v1) (lv' := [(3, .int v1), (0, .ref a), (1, .int p0), (2, .int x2)]) hx hb dX4_clothPicks_25 hl (k := 3) rfl (by rw [ev1]; rfl) (by decide) rfl (fun ls hl => ?_)
    refine lv_goto (tgt := 4) hx hb dX4_clothPicks_28 (by decide) ?_
    exact hk4 _ _ _ _ _ hH hS (lv_sub hl [1, 2, 3, 0] rfl) hf
  have B4 : ∀ n : Nat, ∀ (x2 : Int32) (x3 : Int32) (H : Heap) (locs : List Loc) (ls : Array Slot), HR w K g S H → va_S (FR w) s.heap H locs → lv_has ls 4 [(0, .ref a), (1, .int p0), (2, .int x2), (3, .int x3)] → f4_clothPicks_4 K g a p0 n x2 x3 = some out → W p l e ({ frames := 0, cells := 0, slots := 0, locals := 0 } : Room) s m args below meth c H locs 0 0 (MQ below (QI w K g S out) args s 0 0 (FR w)) (F0 m 4 ls []) := by
    intro n
    induction n with
    | zero =>
      intro x2 x3 H locs ls hH hS hl hf
      cases hf
    | succ n ih =>
      intro x2 x3 H locs ls hH hS hl hf
      rw [f4_clothPicks_4] at hf
      refine lv_iload_n hx hb dX4_clothPicks_4 rfl (lv_at hl 3 rfl) ?_
      refine lv_aload_n hx hb dX4_clothPicks_5 rfl (lv_at hl 0 rfl) ?_
      refine e_4_9 hx hb hts hown hK hH hk0 (hts _ wd_65) dX4_clothPicks_6 ?_
      have hg := gif hf
      refine lv_icmp_ge (tgt := 31) hx hb dX4_clothPicks_9 (by decide) (fun c2 => ?_) (fun c2 => ?_)
      · have hf := hg.1 c2
        refine lv_iload_n hx hb dX4_clothPicks_31 rfl (lv_at hl 2 rfl) ?_
        have ho := Option.some.inj hf
        exact W.iret (v := x2) hx hb hr (fun t ht hW => ⟨⟨x2, (), rfl, ho, hrE ht hH⟩, hS.F ht⟩) hS.2.2 dX4_clothPicks_32
      · have hf := hg.2 c2
        refine lv_aload_n hx hb dX4_clothPicks_12 rfl (lv_at hl 0 rfl) ?_
        have k3 : K.1 (a + 8) = (12, 400) := hH.sub hk0 7 (t := (8, 12, 400)) rfl
        refine e_4_7 hx hb hts hown hK hH hk0 (hts _ wd_60) dX4_clothPicks_13 ?_
        refine lv_iload_n hx hb dX4_clothPicks_16 rfl (lv_at hl 3 rfl) ?_
        obtain ⟨h5, hf⟩ := gd_some hf
        refine g_bald hx hb hK hH k3 h5 dX4_clothPicks_17 ?_
        refine lv_iload_n hx hb dX4_clothPicks_18 rfl (lv_at hl 1 rfl) ?_
        have hg := gif hf
        refine lv_icmp_ne (tgt := 25) hx hb dX4_clothPicks_19 (by decide) (fun c6 => ?_) (fun c6 => ?_)
        · have hf := hg.2 c6
          exact B25 _ (ih) _ _ _ _ _ hH hS (lv_sub hl [0, 1, 2, 3] rfl) hf
        · have hf := hg.1 c6
          obtain ⟨v7, ev7⟩ : ∃ z : Int32, z = x2 + 1 := ⟨_, rfl⟩
          have hf := gl_at hf ev7
          refine lv_iinc (v := v7) (lv' := [(2, .int v7), (0, .ref a), (1, .int p0), (3, .int x3)]) hx hb dX4_clothPicks_22 hl (k := 2) rfl (by rw [ev7]; rfl) (by decide) rfl (fun ls hl => ?_)
          exact B25 _ (ih) _ _ _ _ _ hH hS (lv_sub hl [1, 2, 0, 3] rfl) hf
  have hl : lv_has ls 4 [(0, .ref a), (1, .int p0)] := hl
  refine lv_iconst (v := 0) hx hb dX4_clothPicks_0 (by decide) ?_
  refine lv_istore_n (lv' := [(2, .int 0), (0, .ref a), (1, .int p0)]) hx hb dX4_clothPicks_1 rfl hl (by decide) rfl (fun ls hl => ?_)
  refine lv_iconst (v := 0) hx hb dX4_clothPicks_2 (by decide) ?_
  refine lv_istore_n (lv' := [(3, .int 0), (2, .int 0), (0, .ref a), (1, .int p0)]) hx hb dX4_clothPicks_3 rfl hl (by decide) rfl (fun ls hl => ?_)
  exact B4 _ _ _ _ _ _ hH hS (lv_sub hl [2, 3, 1, 0] rfl) hf
set_option maxRecDepth 100000 in
set_option maxHeartbeats 8000000 in
theorem c4_longestRow (l : Launch) (w : GW) (K : GK) (g : GM) (S : GS) (a : Nat) (p0 : Int32) (out : Int32) (hf : f4_longestRow K g a p0 = some out) (hk0 : gkd K a = 5) : Met l yX4_longestRow (wA yX4_longestRow cX4_longestRow 5 (some .int)) ({ frames := 1, cells := 0, slots := 0, locals := 30 } : Room) (PRE w K g S [.ref a, .int p0]) (QI w K g S out) 0 0 (FR w) := by
  unfold f4_longestRow at hf
  refine Met.ofW (cc := cX4_longestRow) (maxL := 5) (ret := (some .int)) (by decide) rfl ?_
  intro p e s m args below meth c s₁ B hml hv
  obtain ⟨rfl, hH, hK⟩ := hv
  have hx := B.exec
  have hb := B.bytes
  have hr := B.returns
  have hts : ∀ q ∈ gALL, q.before _ s = true := fun q h => atoms_spec (ws := (wA yX4_longestRow cX4_longestRow 5 (some .int))) B.pre q (List.mem_cons_of_mem _ h)
  have hown : s.vm.findClass RX4 = some m.cls := findClass_of_methodNamed B.named
  have hlocks := B.notSynchronized
  have hS : va_S (FR w) s.heap s.heap [] := va_S.rf
  show W p l e ({ frames := 1, cells := 0, slots := 0, locals := 30 } : Room) s m _ below meth c s.heap [] 0 0 (MQ below (QI w K g S out) _ s 0 0 (FR w)) _
  have hl := lv_entry ([.ref a, .int p0]) (n := 5) (Nat.le_of_ble_eq_true rfl)
  rw [lg_entry_eq]
  generalize (lg_sl ([.ref a, .int p0]) ++ List.replicate (5 - (lg_sl ([.ref a, .int p0])).length) Slot.unset).toArray = ls at hl ⊢
  clear B
  generalize ([.ref a, .int p0] : List Value).toArray = args at hts ⊢
  have B34 : ∀ (k7 : Int32 → Int32 → Int32 → Option (Int32)), (∀ (x2 : Int32) (x3 : Int32) (x4 : Int32) (H : Heap) (locs : List Loc) (ls : Array Slot), HR w K g S H → va_S (FR w) s.heap H locs → lv_has ls 5 [(0, .ref a), (1, .int p0), (2, .int x2), (3, .int x3), (4, .int x4)] → k7 x2 x3 x4 = some out → W p l e ({ frames := 1, cells := 0, slots := 0, locals := 30 } : Room) s m args below meth c H locs 0 0 (MQ below (QI w K g S out) args s 0 0 (FR w)) (F0 m 7 ls [])) → ∀ (x2 : Int32) (x4 : Int32) (s0 : Int32) (H : Heap) (locs : List Loc) (ls : Array Slot), HR w K g S H → va_S (FR w) s.heap H locs → lv_has ls 5 [(0, .ref a), (1, .int p0), (2, .int x2), (4, .int x4)] → f4_longestRow_34 k7 K g a p0 x2 x4 s0 = some out → W p l e ({ frames := 1, cells := 0, slots := 0, locals := 30 } : Room) s m args below meth c H locs 0 0 (MQ below (QI w K g S out) args s 0 0 (FR w)) (F0 m 34 ls [.int s0]) := by
    intro k7 hk7 x2 x4 s0 H locs ls hH hS hl hf
    unfold f4_longestRow_34 at hf
    refine lv_istore_n (lv' := [(3, .int s0), (0, .ref a), (1, .int p0), (2, .int x2), (4, .int x4)]) hx hb dX4_longestRow_34 rfl hl (by decide) rfl (fun ls hl => ?_)
    refine lv_iload_n hx hb dX4_longestRow_35 rfl (lv_at hl 3 rfl) ?_
    refine lv_iload_n hx hb dX4_longestRow_36 rfl (lv_at hl 0 rfl) ?_
    refine va_mmax hx hb (hml.trans hl.1.symm) hown (hts _ wd_148) (hts _ wd_149) (hts _ wd_150) (hts _ wd_151) (Nat.le_of_ble_eq_true rfl) (Nat.le_of_ble_eq_true rfl) (Nat.le_of_ble_eq_true rfl) (Nat.le_of_ble_eq_true rfl) dX4_longestRow_37 ?_
    refine lv_topi (fun v1 ev1 => ?_)
    have hf := gl_at hf ev1
    refine lv_istore_n (lv' := [(2, .int v1), (3, .int s0), (0, .ref a), (1, .int p0), (4, .int x4)]) hx hb dX4_longestRow_40 rfl hl (by decide) rfl (fun ls hl => ?_)
    obtain ⟨v2, ev2⟩ : ∃ z : Int32, z = x4 + 1 := ⟨_, rfl⟩
    have hf := gl_at hf ev2
    refine lv_iinc (v := v2) (lv' := [(4, .int v2), (2, .int v1), (3, .int s0), (0, .ref a), (1, .int p0)]) hx hb dX4_longestRow_41 hl (k := 4) rfl (by rw [ev2]; rfl) (by decide) rfl (fun ls hl => ?_)
    refine lv_goto (tgt := 7) hx hb dX4_longestRow_44 (by decide) ?_
    exact hk7 _ _ _ _ _ _ hH hS (lv_sub hl [3, 4, 1, 2, 0] rfl) hf
  have B7 : ∀ n : Nat, ∀ (x2 : Int32) (x3 : Int32) (x4 : Int32) (H : Heap) (locs : List Loc) (ls : Array Slot), HR w K g S H → va_S (FR w) s.heap H locs → lv_has ls 5 [(0, .ref a), (1, .int p0), (2, .int x2), (3, .int x3), (4, .int x4)] → f4_longestRow_7 K g a p0 n x2 x3 x4 = some out → W p l e ({ frames := 1, cells := 0, slots := 0, locals := 30 } : Room) s m args below meth c H locs 0 0 (MQ below (QI w K g S out) args s 0 0 (FR w)) (F0 m 7 ls []) := by
    intro n
    induction n with
    | zero =>
      intro x2 x3 x4 H locs ls hH hS hl hf
      cases hf
    | succ n ih =>
      intro x2 x3 x4 H locs ls hH hS hl hf
      rw [f4_longestRow_7] at hf
      refine lv_iload hx hb dX4_longestRow_7 (lv_at hl 4 rfl) ?_
      refine lv_aload_n hx hb dX4_longestRow_9 rfl (lv_at hl 0 rfl) ?_
      refine e_4_9 hx hb hts hown hK hH hk0 (hts _ wd_65) dX4_longestRow_10 ?_
      have hg := gif hf
      refine lv_icmp_ge (tgt := 47) hx hb dX4_longestRow_13 (by decide) (fun c3 => ?_) (fun c3 => ?_)
      · have hf := hg.1 c3
        refine lv_iload_n hx hb dX4_longestRow_47 rfl (lv_at hl 2 rfl) ?_
        have ho := Option.some.inj hf
        exact W.iret (v := x2) hx hb hr (fun t ht hW => ⟨⟨x2, (), rfl, ho, hrE ht hH⟩, hS.F ht⟩) hS.2.2 dX4_longestRow_48
      · have hf := hg.2 c3
        refine lv_aload_n hx hb dX4_longestRow_16 rfl (lv_at hl 0 rfl) ?_
        have k4 : K.1 (a + 8) = (12, 400) := hH.sub hk0 7 (t := (8, 12, 400)) rfl
        refine e_4_7 hx hb hts hown hK hH hk0 (hts _ wd_60) dX4_longestRow_17 ?_
        refine lv_iload hx hb dX4_longestRow_20 (lv_at hl 4 rfl) ?_
        obtain ⟨h6, hf⟩ := gd_some hf
        refine g_bald hx hb hK hH k4 h6 dX4_longestRow_22 ?_
        refine lv_iload_n hx hb dX4_longestRow_23 rfl (lv_at hl 1 rfl) ?_
        have hg := gif hf
        refine lv_icmp_ne (tgt := 33) hx hb dX4_longestRow_24 (by decide) (fun c7 => ?_) (fun c7 => ?_)
        · have hf := hg.2 c7
          refine lv_iconst (v := 0) hx hb dX4_longestRow_33 (by decide) ?_
          exact B34 _ (ih) _ _ _ _ _ _ hH hS (lv_sub hl [0, 1, 2, 4] rfl) hf
        · have hf := hg.1 c7
          refine lv_iload_n hx hb dX4_longestRow_27 rfl (lv_at hl 3 rfl) ?_
          refine lv_iconst (v := 1) hx hb dX4_longestRow_28 (by decide) ?_
          refine lv_iadd hx hb dX4_longestRow_29 ?_
          refine lv_goto (tgt := 34) hx hb dX4_longestRow_30 (by decide) ?_
          exact B34 _ (ih) _ _ _ _ _ _ hH hS (lv_sub hl [0, 1, 2, 4] rfl) hf
  have hl : lv_has ls 5 [(0, .ref a), (1, .int p0)] := hl
  refine lv_iconst (v := 0) hx hb dX4_longestRow_0 (by decide) ?_
  refine lv_istore_n (lv' := [(2, .int 0), (0, .ref a), (1, .int p0)]) hx hb dX4_longestRow_1 rfl hl (by decide) rfl (fun ls hl => ?_)
  refine lv_iconst (v := 0) hx hb dX4_longestRow_2 (by decide) ?_
  refine lv_istore_n (lv' := [(3, .int 0), (2, .int 0), (0, .ref a), (1, .int p0)]) hx hb dX4_longestRow_3 rfl hl (by decide) rfl (fun ls hl => ?_)
  refine lv_iconst (v := 0) hx hb dX4_longestRow_4 (by decide) ?_
  refine lv_istore (lv' := [(4, .int 0), (3, .int 0), (2, .int 0), (0, .ref a), (1, .int p0)]) hx hb dX4_longestRow_5 hl (by decide) rfl (fun ls hl => ?_)
  exact B7 _ _ _ _ _ _ _ hH hS (lv_sub hl [3, 4, 2, 1, 0] rfl) hf
set_option maxRecDepth 100000 in
set_option maxHeartbeats 8000000 in
theorem c7_thread (l : Launch) (w : GW) (K : GK) (g : GM) (S : GS) (a : Nat) (p0 : Int32) (p1 : Int32) (out : Int32) (hf : f7_thread K g a p0 p1 = some out) (hk0 : gkd K a = 8) : Met l yX7_thread (wA yX7_thread cX7_thread 3 (some .int)) ({ frames := 2, cells := 0, slots := 0, locals := 54 } : Room) (PRE w K g S [.ref a, .int p0, .int p1]) (QI w K g S out) 0 0 (FR w) := by
  unfold f7_thread at hf
  refine Met.ofW (cc := cX7_thread) (maxL := 3) (ret := (some .int)) (by decide) rfl ?_
  intro p e s m args below meth c s₁ B hml hv
  obtain ⟨rfl, hH, hK⟩ := hv
  have hx := B.exec
  have hb := B.bytes
  have hr := B.returns
  have hts : ∀ q ∈ gALL, q.before _ s = true := fun q h => atoms_spec (ws := (wA yX7_thread cX7_thread 3 (some .int))) B.pre q (List.mem_cons_of_mem _ h)
  have hown : s.vm.findClass RX7 = some m.cls := findClass_of_methodNamed B.named
  have hlocks := B.notSynchronized
  have hS : va_S (FR w) s.heap s.heap [] := va_S.rf
  show W p l e ({ frames := 2, cells := 0, slots := 0, locals := 54 } : Room) s m _ below meth c s.heap [] 0 0 (MQ below (QI w K g S out) _ s 0 0 (FR w)) _
  have hl := lv_entry ([.ref a, .int p0, .int p1]) (n := 3) (Nat.le_of_ble_eq_true rfl)
  rw [lg_entry_eq]
  generalize (lg_sl ([.ref a, .int p0, .int p1]) ++ List.replicate (3 - (lg_sl ([.ref a, .int p0, .int p1])).length) Slot.unset).toArray = ls at hl ⊢
  clear B
  generalize ([.ref a, .int p0, .int p1] : List Value).toArray = args at hts ⊢
  have hl : lv_has ls 3 [(0, .ref a), (1, .int p0), (2, .int p1)] := hl
  refine lv_iload_n hx hb dX7_thread_0 rfl (lv_at hl 1 rfl) ?_
  refine lv_bipush (v := 6) hx hb dX7_thread_1 (by decide) ?_
  obtain ⟨v1, h2, hf⟩ := gbind hf
  refine g_Si (As := [.int p0, .int 6]) (rest := []) ⟨hx, hb, hml, hown, hts⟩ (c7_inRange l w K g S p0 6 v1 h2) (gcwS hts i7_inRange wd_137 rfl rfl ⟨Nat.le_of_ble_eq_true rfl, Nat.le_of_ble_eq_true rfl⟩) hH hK hS hl.1 rfl rfl (Nat.le_of_ble_eq_true rfl) dX7_thread_3 ⟨Nat.le_refl _, Nat.le_refl _⟩ (fun H locs hH hS => ?_)
  have hg := gif hf
  refine lv_if_ne (tgt := 11) hx hb dX7_thread_6 (by decide) (fun c3 => ?_) (fun c3 => ?_)
  · have hf := hg.2 c3
    refine lv_iload_n hx hb dX7_thread_11 rfl (lv_at hl 2 rfl) ?_
    have hg := gif hf
    by_cases c4 : p1 = 0
    · have hf := hg.1 c4
      refine lv_tableIn (off := 40) (tgt := 52) hx hb dX7_thread_12 (by rw [c4]; decide) (by rw [c4]; decide) (by rw [c4]; decide +kernel) (by decide) ?_
      refine lv_aload_n hx hb dX7_thread_52 rfl (lv_at hl 0 rfl) ?_
      have k5 : gkd K (a + 10) = 5 := congrArg Prod.fst (hH.sub hk0 2 (t := (10, 5, 0)) rfl)
      refine e_7_2 hx hb hts hown hK hH hk0 (hts _ wd_21) dX7_thread_53 ?_
      have k6 : K.1 (a + 14) = (10, 6) := hH.sub k5 3 (t := (4, 10, 6)) rfl
      refine e_4_3 hx hb hts hown hK hH k5 (hts _ wd_122) dX7_thread_56 ?_
      refine lv_iload_n hx hb dX7_thread_59 rfl (lv_at hl 1 rfl) ?_
      obtain ⟨h8, hf⟩ := gd_some hf
      refine g_iald hx hb hK hH k6 h8 dX7_thread_60 ?_
      have ho := Option.some.inj hf
      exact W.iret (v := (gI g (a + 14) p0.toNatClampNeg)) hx hb hr (fun t ht hW => ⟨⟨(gI g (a + 14) p0.toNatClampNeg), (), rfl, ho, hrE ht hH⟩, hS.F ht⟩) hS.2.2 dX7_thread_61
    have hf := hg.2 c4
    have hg := gif hf
    by_cases c9 : p1 = 1
    · have hf := hg.1 c9
      refine lv_tableIn (off := 50) (tgt := 62) hx hb dX7_thread_12 (by rw [c9]; decide) (by rw [c9]; decide) (by rw [c9]; decide +kernel) (by decide) ?_
      refine lv_aload_n hx hb dX7_thread_62 rfl (lv_at hl 0 rfl) ?_
      have k10 : gkd K (a + 10) = 5 := congrArg Prod.fst (hH.sub hk0 2 (t := (10, 5, 0)) rfl)
      refine e_7_2 hx hb hts hown hK hH hk0 (hts _ wd_21) dX7_thread_63 ?_
      have k11 : K.1 (a + 15) = (10, 6) := hH.sub k10 4 (t := (5, 10, 6)) rfl
      refine e_4_4 hx hb hts hown hK hH k10 (hts _ wd_136) dX7_thread_66 ?_
      refine lv_iload_n hx hb dX7_thread_69 rfl (lv_at hl 1 rfl) ?_
      obtain ⟨h13, hf⟩ := gd_some hf
      refine g_iald hx hb hK hH k11 h13 dX7_thread_70 ?_
      have ho := Option.some.inj hf
      exact W.iret (v := (gI g (a + 15) p0.toNatClampNeg)) hx hb hr (fun t ht hW => ⟨⟨(gI g (a + 15) p0.toNatClampNeg), (), rfl, ho, hrE ht hH⟩, hS.F ht⟩) hS.2.2 dX7_thread_71
    have hf := hg.2 c9
    have hg := gif hf
    by_cases c14 : p1 = 2
    · have hf := hg.1 c14
      refine lv_tableIn (off := 60) (tgt := 72) hx hb dX7_thread_12 (by rw [c14]; decide) (by rw [c14]; decide) (by rw [c14]; decide +kernel) (by decide) ?_
      refine lv_aload_n hx hb dX7_thread_72 rfl (lv_at hl 0 rfl) ?_
      have k15 : gkd K (a + 10) = 5 := congrArg Prod.fst (hH.sub hk0 2 (t := (10, 5, 0)) rfl)
      refine e_7_2 hx hb hts hown hK hH hk0 (hts _ wd_21) dX7_thread_73 ?_
      have k16 : K.1 (a + 16) = (10, 6) := hH.sub k15 5 (t := (6, 10, 6)) rfl
      refine e_4_5 hx hb hts hown hK hH k15 (hts _ wd_121) dX7_thread_76 ?_
      refine lv_iload_n hx hb dX7_thread_79 rfl (lv_at hl 1 rfl) ?_
      obtain ⟨h18, hf⟩ := gd_some hf
      refine g_iald hx hb hK hH k16 h18 dX7_thread_80 ?_
      have ho := Option.some.inj hf
      exact W.iret (v := (gI g (a + 16) p0.toNatClampNeg)) hx hb hr (fun t ht hW => ⟨⟨(gI g (a + 16) p0.toNatClampNeg), (), rfl, ho, hrE ht hH⟩, hS.F ht⟩) hS.2.2 dX7_thread_81
    have hf := hg.2 c14
    have hg := gif hf
    by_cases c19 : p1 = 3
    · have hf := hg.1 c19
      refine lv_tableIn (off := 70) (tgt := 82) hx hb dX7_thread_12 (by rw [c19]; decide) (by rw [c19]; decide) (by rw [c19]; decide +kernel) (by decide) ?_
      refine lv_aload_n hx hb dX7_thread_82 rfl (lv_at hl 0 rfl) ?_
      have k20 : gkd K (a + 10) = 5 := congrArg Prod.fst (hH.sub hk0 2 (t := (10, 5, 0)) rfl)
      refine e_7_2 hx hb hts hown hK hH hk0 (hts _ wd_21) dX7_thread_83 ?_
      have k21 : K.1 (a + 17) = (10, 6) := hH.sub k20 6 (t := (7, 10, 6)) rfl
      refine e_4_6 hx hb hts hown hK hH k20 (hts _ wd_117) dX7_thread_86 ?_
      refine lv_iload_n hx hb dX7_thread_89 rfl (lv_at hl 1 rfl) ?_
      obtain ⟨h23, hf⟩ := gd_some hf
      refine g_iald hx hb hK hH k21 h23 dX7_thread_90 ?_
      have ho := Option.some.inj hf
      exact W.iret (v := (gI g (a + 17) p0.toNatClampNeg)) hx hb hr (fun t ht hW => ⟨⟨(gI g (a + 17) p0.toNatClampNeg), (), rfl, ho, hrE ht hH⟩, hS.F ht⟩) hS.2.2 dX7_thread_91
    have hf := hg.2 c19
    have hg := gif hf
    by_cases c24 : p1 = 4
    · have hf := hg.1 c24
      refine lv_tableIn (off := 80) (tgt := 92) hx hb dX7_thread_12 (by rw [c24]; decide) (by rw [c24]; decide) (by rw [c24]; decide +kernel) (by decide) ?_
      refine lv_aload_n hx hb dX7_thread_92 rfl (lv_at hl 0 rfl) ?_
      have k25 : gkd K (a + 10) = 5 := congrArg Prod.fst (hH.sub hk0 2 (t := (10, 5, 0)) rfl)
      refine e_7_2 hx hb hts hown hK hH hk0 (hts _ wd_21) dX7_thread_93 ?_
      refine lv_iload_n hx hb dX7_thread_96 rfl (lv_at hl 1 rfl) ?_
      obtain ⟨v26, h27, hf⟩ := gbind hf
      refine g_Vi (As := [.int p0]) (rest := []) ⟨hx, hb, hml, hown, hts⟩ (c4_clothPicks l w K g S (a + 10) p0 v26 h27 k25) (gcwV hts i4_clothPicks wd_140 rfl rfl ⟨Nat.le_of_ble_eq_true rfl, Nat.le_of_ble_eq_true rfl⟩) (gRecv.of hK rfl (hH.o5 k25)) hH hK hS hl.1 rfl rfl (Nat.le_of_ble_eq_true rfl) dX7_thread_97 ⟨Nat.le_refl _, Nat.le_refl _⟩ (fun H locs hH hS => ?_)
      have ho := Option.some.inj hf
      exact W.iret (v := v26) hx hb hr (fun t ht hW => ⟨⟨v26, (), rfl, ho, hrE ht hH⟩, hS.F ht⟩) hS.2.2 dX7_thread_100
    have hf := hg.2 c24
    have hg := gif hf
    by_cases c28 : p1 = 5
    · have hf := hg.1 c28
      refine lv_tableIn (off := 89) (tgt := 101) hx hb dX7_thread_12 (by rw [c28]; decide) (by rw [c28]; decide) (by rw [c28]; decide +kernel) (by decide) ?_
      refine lv_aload_n hx hb dX7_thread_101 rfl (lv_at hl 0 rfl) ?_
      have k29 : gkd K (a + 10) = 5 := congrArg Prod.fst (hH.sub hk0 2 (t := (10, 5, 0)) rfl)
      refine e_7_2 hx hb hts hown hK hH hk0 (hts _ wd_21) dX7_thread_102 ?_
      refine lv_iload_n hx hb dX7_thread_105 rfl (lv_at hl 1 rfl) ?_
      obtain ⟨v30, h31, hf⟩ := gbind hf
      refine g_Vi (As := [.int p0]) (rest := []) ⟨hx, hb, hml, hown, hts⟩ (c4_longestRow l w K g S (a + 10) p0 v30 h31 k29) (gcwV hts i4_longestRow wd_144 rfl rfl ⟨Nat.le_of_ble_eq_true rfl, Nat.le_of_ble_eq_true rfl⟩) (gRecv.of hK rfl (hH.o5 k29)) hH hK hS hl.1 rfl rfl (Nat.le_of_ble_eq_true rfl) dX7_thread_106 ⟨Nat.le_refl _, Nat.le_refl _⟩ (fun H locs hH hS => ?_)
      have ho := Option.some.inj hf
      exact W.iret (v := v30) hx hb hr (fun t ht hW => ⟨⟨v30, (), rfl, ho, hrE ht hH⟩, hS.F ht⟩) hS.2.2 dX7_thread_109
    have hf := hg.2 c28
    have nc4 : p1.toInt ≠ 0 := g_ne c4 (by decide)
    have nc9 : p1.toInt ≠ 1 := g_ne c9 (by decide)
    have nc14 : p1.toInt ≠ 2 := g_ne c14 (by decide)
    have nc19 : p1.toInt ≠ 3 := g_ne c19 (by decide)
    have nc24 : p1.toInt ≠ 4 := g_ne c24 (by decide)
    have nc28 : p1.toInt ≠ 5 := g_ne c28 (by decide)
    refine lv_tableOut (tgt := 110) hx hb dX7_thread_12 (by omega) (by decide) ?_
    refine lv_bipush (v := (-2)) hx hb dX7_thread_110 (by decide) ?_
    have ho := Option.some.inj hf
    exact W.iret (v := (-2)) hx hb hr (fun t ht hW => ⟨⟨(-2), (), rfl, ho, hrE ht hH⟩, hS.F ht⟩) hS.2.2 dX7_thread_112
  · have hf := hg.1 c3
    refine lv_iconst (v := (-1)) hx hb dX7_thread_9 (by decide) ?_
    have ho := Option.some.inj hf
    exact W.iret (v := (-1)) hx hb hr (fun t ht hW => ⟨⟨(-1), (), rfl, ho, hrE ht hH⟩, hS.F ht⟩) hS.2.2 dX7_thread_10
set_option maxRecDepth 100000 in
set_option maxHeartbeats 8000000 in
theorem c4_endRank (l : Launch) (w : GW) (K : GK) (g : GM) (S : GS) (a : Nat) (p0 : Int32) (out : Int32) (hf : f4_endRank K g a p0 = some out) (hk0 : gkd K a = 5) : Met l yX4_endRank (wA yX4_endRank cX4_endRank 5 (some .int)) ({ frames := 0, cells := 0, slots := 0, locals := 0 } : Room) (PRE w K g S [.ref a, .int p0]) (QI w K g S out) 0 0 (FR w) := by
  unfold f4_endRank at hf
  refine Met.ofW (cc := cX4_endRank) (maxL := 5) (ret := (some .int)) (by decide) rfl ?_
  intro p e s m args below meth c s₁ B hml hv
  obtain ⟨rfl, hH, hK⟩ := hv
  have hx := B.exec
  have hb := B.bytes
  have hr := B.returns
  have hts : ∀ q ∈ gALL, q.before _ s = true := fun q h => atoms_spec (ws := (wA yX4_endRank cX4_endRank 5 (some .int))) B.pre q (List.mem_cons_of_mem _ h)
  have hown : s.vm.findClass RX4 = some m.cls := findClass_of_methodNamed B.named
  have hlocks := B.notSynchronized
  have hS : va_S (FR w) s.heap s.heap [] := va_S.rf
  show W p l e ({ frames := 0, cells := 0, slots := 0, locals := 0 } : Room) s m _ below meth c s.heap [] 0 0 (MQ below (QI w K g S out) _ s 0 0 (FR w)) _
  have hl := lv_entry ([.ref a, .int p0]) (n := 5) (Nat.le_of_ble_eq_true rfl)
  rw [lg_entry_eq]
  generalize (lg_sl ([.ref a, .int p0]) ++ List.replicate (5 - (lg_sl ([.ref a, .int p0])).length) Slot.unset).toArray = ls at hl ⊢
  clear B
  generalize ([.ref a, .int p0] : List Value).toArray = args at hts ⊢
  have B60 : ∀ (k4 : Int32 → Int32 → Option (Int32)), (∀ (x2 : Int32) (x3 : Int32) (H : Heap) (locs : List Loc) (ls : Array Slot), HR w K g S H → va_S (FR w) s.heap H locs → lv_has ls 5 [(0, .ref a), (1, .int p0), (2, .int x2), (3, .int x3)] → k4 x2 x3 = some out → W p l e ({ frames := 0, cells := 0, slots := 0, locals := 0 } : Room) s m args below meth c H locs 0 0 (MQ below (QI w K g S out) args s 0 0 (FR w)) (F0 m 4 ls [])) → ∀ (x2 : Int32) (x3 : Int32) (H : Heap) (locs : List Loc) (ls : Array Slot), HR w K g S H → va_S (FR w) s.heap H locs → lv_has ls 5 [(0, .ref a), (1, .int p0), (2, .int x2), (3, .int x3)] → f4_endRank_60 k4 K g a p0 x2 x3 = some out → W p l e ({ frames := 0, cells := 0, slots := 0, locals := 0 } : Room) s m args below meth c H locs 0 0 (MQ below (QI w K g S out) args s 0 0 (FR w)) (F0 m 60 ls []) := by
    intro k4 hk4 x2 x3 H locs ls hH hS hl hf
    unfold f4_endRank_60 at hf
    obtain ⟨v1, ev1⟩ : ∃ z : Int32, z = x3 + 1 := ⟨_, rfl⟩
    have hf := gl_at hf ev1
    refine lv_iinc (v := v1) (lv' := [(3, .int v1), (0, .ref a), (1, .int p0), (2, .int x2)]) hx hb dX4_endRank_60 hl (k := 3) rfl (by rw [ev1]; rfl) (by decide) rfl (fun ls hl => ?_)
    refine lv_goto (tgt := 4) hx hb dX4_endRank_63 (by decide) ?_
    exact hk4 _ _ _ _ _ hH hS (lv_sub hl [1, 2, 3, 0] rfl) hf
  have B57 : ∀ (k4 : Int32 → Int32 → Option (Int32)), (∀ (x2 : Int32) (x3 : Int32) (H : Heap) (locs : List Loc) (ls : Array Slot), HR w K g S H → va_S (FR w) s.heap H locs → lv_has ls 5 [(0, .ref a), (1, .int p0), (2, .int x2), (3, .int x3)] → k4 x2 x3 = some out → W p l e ({ frames := 0, cells := 0, slots := 0, locals := 0 } : Room) s m args below meth c H locs 0 0 (MQ below (QI w K g S out) args s 0 0 (FR w)) (F0 m 4 ls [])) → ∀ (x2 : Int32) (x3 : Int32) (H : Heap) (locs : List Loc) (ls : Array Slot), HR w K g S H → va_S (FR w) s.heap H locs → lv_has ls 5 [(0, .ref a), (1, .int p0), (2, .int x2), (3, .int x3)] → f4_endRank_57 k4 K g a p0 x2 x3 = some out → W p l e ({ frames := 0, cells := 0, slots := 0, locals := 0 } : Room) s m args below meth c H locs 0 0 (MQ below (QI w K g S out) args s 0 0 (FR w)) (F0 m 57 ls []) := by
    intro k4 hk4 x2 x3 H locs ls hH hS hl hf
    unfold f4_endRank_57 at hf
    obtain ⟨v2, ev2⟩ : ∃ z : Int32, z = x2 + 1 := ⟨_, rfl⟩
    have hf := gl_at hf ev2
    refine lv_iinc (v := v2) (lv' := [(2, .int v2), (0, .ref a), (1, .int p0), (3, .int x3)]) hx hb dX4_endRank_57 hl (k := 2) rfl (by rw [ev2]; rfl) (by decide) rfl (fun ls hl => ?_)
    exact B60 _ (hk4) _ _ _ _ _ hH hS (lv_sub hl [1, 2, 0, 3] rfl) hf
  have B30 : ∀ (k4 : Int32 → Int32 → Option (Int32)), (∀ (x2 : Int32) (x3 : Int32) (H : Heap) (locs : List Loc) (ls : Array Slot), HR w K g S H → va_S (FR w) s.heap H locs → lv_has ls 5 [(0, .ref a), (1, .int p0), (2, .int x2), (3, .int x3)] → k4 x2 x3 = some out → W p l e ({ frames := 0, cells := 0, slots := 0, locals := 0 } : Room) s m args below meth c H locs 0 0 (MQ below (QI w K g S out) args s 0 0 (FR w)) (F0 m 4 ls [])) → ∀ (x2 : Int32) (x3 : Int32) (s0 : Int32) (H : Heap) (locs : List Loc) (ls : Array Slot), HR w K g S H → va_S (FR w) s.heap H locs → lv_has ls 5 [(0, .ref a), (1, .int p0), (2, .int x2), (3, .int x3)] → f4_endRank_30 k4 K g a p0 x2 x3 s0 = some out → W p l e ({ frames := 0, cells := 0, slots := 0, locals := 0 } : Room) s m args below meth c H locs 0 0 (MQ below (QI w K g S out) args s 0 0 (FR w)) (F0 m 30 ls [.int s0]) := by
    intro k4 hk4 x2 x3 s0 H locs ls hH hS hl hf
    unfold f4_endRank_30 at hf
    refine lv_istore (lv' := [(4, .int s0), (0, .ref a), (1, .int p0), (2, .int x2), (3, .int x3)]) hx hb dX4_endRank_30 hl (by decide) rfl (fun ls hl => ?_)
    refine lv_iload hx hb dX4_endRank_32 (lv_at hl 0 rfl) ?_
    have hg := gif hf
    refine lv_if_ne (tgt := 57) hx hb dX4_endRank_34 (by decide) (fun c3 => ?_) (fun c3 => ?_)
    · have hf := hg.2 c3
      exact B57 _ (hk4) _ _ _ _ _ hH hS (lv_sub hl [1, 2, 3, 4] rfl) hf
    · have hf := hg.1 c3
      refine lv_aload_n hx hb dX4_endRank_37 rfl (lv_at hl 1 rfl) ?_
      have k4 : K.1 (a + 4) = (10, 6) := hH.sub hk0 3 (t := (4, 10, 6)) rfl
      refine e_4_3 hx hb hts hown hK hH hk0 (hts _ wd_55) dX4_endRank_38 ?_
      refine lv_iload_n hx hb dX4_endRank_41 rfl (lv_at hl 4 rfl) ?_
      obtain ⟨h6, hf⟩ := gd_some hf
      refine g_iald hx hb hK hH k4 h6 dX4_endRank_42 ?_
      refine lv_aload_n hx hb dX4_endRank_43 rfl (lv_at hl 1 rfl) ?_
      refine e_4_3 hx hb hts hown hK hH hk0 (hts _ wd_55) dX4_endRank_44 ?_
      refine lv_iload_n hx hb dX4_endRank_47 rfl (lv_at hl 2 rfl) ?_
      obtain ⟨h8, hf⟩ := gd_some hf
      refine g_iald hx hb hK hH k4 h8 dX4_endRank_48 ?_
      have hg := gif hf
      refine lv_icmp_ne (tgt := 60) hx hb dX4_endRank_49 (by decide) (fun c9 => ?_) (fun c9 => ?_)
      · have hf := hg.2 c9
        exact B60 _ (hk4) _ _ _ _ _ hH hS (lv_sub hl [1, 2, 3, 4] rfl) hf
      · have hf := hg.1 c9
        refine lv_iload_n hx hb dX4_endRank_52 rfl (lv_at hl 4 rfl) ?_
        refine lv_iload_n hx hb dX4_endRank_53 rfl (lv_at hl 2 rfl) ?_
        have hg := gif hf
        refine lv_icmp_ge (tgt := 60) hx hb dX4_endRank_54 (by decide) (fun c10 => ?_) (fun c10 => ?_)
        · have hf := hg.1 c10
          exact B60 _ (hk4) _ _ _ _ _ hH hS (lv_sub hl [1, 2, 3, 4] rfl) hf
        · have hf := hg.2 c10
          exact B57 _ (hk4) _ _ _ _ _ hH hS (lv_sub hl [1, 2, 3, 4] rfl) hf
  have B4 : ∀ n : Nat, ∀ (x2 : Int32) (x3 : Int32) (H : Heap) (locs : List Loc) (ls : Array Slot), HR w K g S H → va_S (FR w) s.heap H locs → lv_has ls 5 [(0, .ref a), (1, .int p0), (2, .int x2), (3, .int x3)] → f4_endRank_4 K g a p0 n x2 x3 = some out → W p l e ({ frames := 0, cells := 0, slots := 0, locals := 0 } : Room) s m args below meth c H locs 0 0 (MQ below (QI w K g S out) args s 0 0 (FR w)) (F0 m 4 ls []) := by
    intro n
    induction n with
    | zero =>
      intro x2 x3 H locs ls hH hS hl hf
      cases hf
    | succ n ih =>
      intro x2 x3 H locs ls hH hS hl hf
      rw [f4_endRank_4] at hf
      refine lv_iload_n hx hb dX4_endRank_4 rfl (lv_at hl 3 rfl) ?_
      refine lv_bipush (v := 6) hx hb dX4_endRank_5 (by decide) ?_
      have hg := gif hf
      refine lv_icmp_ge (tgt := 66) hx hb dX4_endRank_7 (by decide) (fun c11 => ?_) (fun c11 => ?_)
      · have hf := hg.1 c11
        refine lv_iload_n hx hb dX4_endRank_66 rfl (lv_at hl 2 rfl) ?_
        have ho := Option.some.inj hf
        exact W.iret (v := x2) hx hb hr (fun t ht hW => ⟨⟨x2, (), rfl, ho, hrE ht hH⟩, hS.F ht⟩) hS.2.2 dX4_endRank_67
      · have hf := hg.2 c11
        refine lv_aload_n hx hb dX4_endRank_10 rfl (lv_at hl 0 rfl) ?_
        have k12 : K.1 (a + 4) = (10, 6) := hH.sub hk0 3 (t := (4, 10, 6)) rfl
        refine e_4_3 hx hb hts hown hK hH hk0 (hts _ wd_55) dX4_endRank_11 ?_
        refine lv_iload_n hx hb dX4_endRank_14 rfl (lv_at hl 3 rfl) ?_
        obtain ⟨h14, hf⟩ := gd_some hf
        refine g_iald hx hb hK hH k12 h14 dX4_endRank_15 ?_
        refine lv_aload_n hx hb dX4_endRank_16 rfl (lv_at hl 0 rfl) ?_
        refine e_4_3 hx hb hts hown hK hH hk0 (hts _ wd_55) dX4_endRank_17 ?_
        refine lv_iload_n hx hb dX4_endRank_20 rfl (lv_at hl 1 rfl) ?_
        obtain ⟨h16, hf⟩ := gd_some hf
        refine g_iald hx hb hK hH k12 h16 dX4_endRank_21 ?_
        have hg := gif hf
        refine lv_icmp_ge (tgt := 29) hx hb dX4_endRank_22 (by decide) (fun c17 => ?_) (fun c17 => ?_)
        · have hf := hg.1 c17
          refine lv_iconst (v := 0) hx hb dX4_endRank_29 (by decide) ?_
          exact B30 _ (ih) _ _ _ _ _ _ hH hS (lv_sub hl [0, 1, 2, 3] rfl) hf
        · have hf := hg.2 c17
          refine lv_iconst (v := 1) hx hb dX4_endRank_25 (by decide) ?_
          refine lv_goto (tgt := 30) hx hb dX4_endRank_26 (by decide) ?_
          exact B30 _ (ih) _ _ _ _ _ _ hH hS (lv_sub hl [0, 1, 2, 3] rfl) hf
  have hl : lv_has ls 5 [(0, .ref a), (1, .int p0)] := hl
  refine lv_iconst (v := 0) hx hb dX4_endRank_0 (by decide) ?_
  refine lv_istore_n (lv' := [(2, .int 0), (0, .ref a), (1, .int p0)]) hx hb dX4_endRank_1 rfl hl (by decide) rfl (fun ls hl => ?_)
  refine lv_iconst (v := 0) hx hb dX4_endRank_2 (by decide) ?_
  refine lv_istore_n (lv' := [(3, .int 0), (2, .int 0), (0, .ref a), (1, .int p0)]) hx hb dX4_endRank_3 rfl hl (by decide) rfl (fun ls hl => ?_)
  exact B4 _ _ _ _ _ _ hH hS (lv_sub hl [2, 3, 1, 0] rfl) hf
set_option maxRecDepth 100000 in
set_option maxHeartbeats 8000000 in
theorem c7_byEnd (l : Launch) (w : GW) (K : GK) (g : GM) (S : GS) (a : Nat) (p0 : Int32) (out : Int32) (hf : f7_byEnd K g a p0 = some out) (hk0 : gkd K a = 8) : Met l yX7_byEnd (wA yX7_byEnd cX7_byEnd 3 (some .int)) ({ frames := 1, cells := 0, slots := 0, locals := 24 } : Room) (PRE w K g S [.ref a, .int p0]) (QI w K g S out) 0 0 (FR w) := by
  unfold f7_byEnd at hf
  refine Met.ofW (cc := cX7_byEnd) (maxL := 3) (ret := (some .int)) (by decide) rfl ?_
  intro p e s m args below meth c s₁ B hml hv
  obtain ⟨rfl, hH, hK⟩ := hv
  have hx := B.exec
  have hb := B.bytes
  have hr := B.returns
  have hts : ∀ q ∈ gALL, q.before _ s = true := fun q h => atoms_spec (ws := (wA yX7_byEnd cX7_byEnd 3 (some .int))) B.pre q (List.mem_cons_of_mem _ h)
  have hown : s.vm.findClass RX7 = some m.cls := findClass_of_methodNamed B.named
  have hlocks := B.notSynchronized
  have hS : va_S (FR w) s.heap s.heap [] := va_S.rf
  show W p l e ({ frames := 1, cells := 0, slots := 0, locals := 24 } : Room) s m _ below meth c s.heap [] 0 0 (MQ below (QI w K g S out) _ s 0 0 (FR w)) _
  have hl := lv_entry ([.ref a, .int p0]) (n := 3) (Nat.le_of_ble_eq_true rfl)
  rw [lg_entry_eq]
  generalize (lg_sl ([.ref a, .int p0]) ++ List.replicate (3 - (lg_sl ([.ref a, .int p0])).length) Slot.unset).toArray = ls at hl ⊢
  clear B
  generalize ([.ref a, .int p0] : List Value).toArray = args at hts ⊢
  have B13 : ∀ n : Nat, ∀ (x2 : Int32) (H : Heap) (locs : List Loc) (ls : Array Slot), HR w K g S H → va_S (FR w) s.heap H locs → lv_has ls 3 [(0, .ref a), (1, .int p0), (2, .int x2)] → f7_byEnd_13 K g a p0 n x2 = some out → W p l e ({ frames := 1, cells := 0, slots := 0, locals := 24 } : Room) s m args below meth c H locs 0 0 (MQ below (QI w K g S out) args s 0 0 (FR w)) (F0 m 13 ls []) := by
    intro n
    induction n with
    | zero =>
      intro x2 H locs ls hH hS hl hf
      cases hf
    | succ n ih =>
      intro x2 H locs ls hH hS hl hf
      rw [f7_byEnd_13] at hf
      refine lv_iload_n hx hb dX7_byEnd_13 rfl (lv_at hl 2 rfl) ?_
      refine lv_bipush (v := 6) hx hb dX7_byEnd_14 (by decide) ?_
      have hg := gif hf
      refine lv_icmp_ge (tgt := 39) hx hb dX7_byEnd_16 (by decide) (fun c1 => ?_) (fun c1 => ?_)
      · have hf := hg.1 c1
        refine lv_iconst (v := (-1)) hx hb dX7_byEnd_39 (by decide) ?_
        have ho := Option.some.inj hf
        exact W.iret (v := (-1)) hx hb hr (fun t ht hW => ⟨⟨(-1), (), rfl, ho, hrE ht hH⟩, hS.F ht⟩) hS.2.2 dX7_byEnd_40
      · have hf := hg.2 c1
        refine lv_aload_n hx hb dX7_byEnd_19 rfl (lv_at hl 0 rfl) ?_
        have k2 : gkd K (a + 10) = 5 := congrArg Prod.fst (hH.sub hk0 2 (t := (10, 5, 0)) rfl)
        refine e_7_2 hx hb hts hown hK hH hk0 (hts _ wd_21) dX7_byEnd_20 ?_
        refine lv_iload_n hx hb dX7_byEnd_23 rfl (lv_at hl 2 rfl) ?_
        obtain ⟨v3, h4, hf⟩ := gbind hf
        refine g_Vi (As := [.int x2]) (rest := []) ⟨hx, hb, hml, hown, hts⟩ (c4_endRank l w K g S (a + 10) x2 v3 h4 k2) (gcwV hts i4_endRank wd_522 rfl rfl ⟨Nat.le_of_ble_eq_true rfl, Nat.le_of_ble_eq_true rfl⟩) (gRecv.of hK rfl (hH.o5 k2)) hH hK hS hl.1 rfl rfl (Nat.le_of_ble_eq_true rfl) dX7_byEnd_24 ⟨Nat.le_refl _, Nat.le_refl _⟩ (fun H locs hH hS => ?_)
        refine lv_iload_n hx hb dX7_byEnd_27 rfl (lv_at hl 1 rfl) ?_
        have hg := gif hf
        refine lv_icmp_ne (tgt := 33) hx hb dX7_byEnd_28 (by decide) (fun c5 => ?_) (fun c5 => ?_)
        · have hf := hg.2 c5
          obtain ⟨v6, ev6⟩ : ∃ z : Int32, z = x2 + 1 := ⟨_, rfl⟩
          have hf := gl_at hf ev6
          refine lv_iinc (v := v6) (lv' := [(2, .int v6), (0, .ref a), (1, .int p0)]) hx hb dX7_byEnd_33 hl (k := 2) rfl (by rw [ev6]; rfl) (by decide) rfl (fun ls hl => ?_)
          refine lv_goto (tgt := 13) hx hb dX7_byEnd_36 (by decide) ?_
          exact ih _ _ _ _ hH hS (lv_sub hl [1, 2, 0] rfl) hf
        · have hf := hg.1 c5
          refine lv_iload_n hx hb dX7_byEnd_31 rfl (lv_at hl 2 rfl) ?_
          have ho := Option.some.inj hf
          exact W.iret (v := x2) hx hb hr (fun t ht hW => ⟨⟨x2, (), rfl, ho, hrE ht hH⟩, hS.F ht⟩) hS.2.2 dX7_byEnd_32
  have hl : lv_has ls 3 [(0, .ref a), (1, .int p0)] := hl
  refine lv_iload_n hx hb dX7_byEnd_0 rfl (lv_at hl 1 rfl) ?_
  refine lv_bipush (v := 6) hx hb dX7_byEnd_1 (by decide) ?_
  obtain ⟨v7, h8, hf⟩ := gbind hf
  refine g_Si (As := [.int p0, .int 6]) (rest := []) ⟨hx, hb, hml, hown, hts⟩ (c7_inRange l w K g S p0 6 v7 h8) (gcwS hts i7_inRange wd_137 rfl rfl ⟨Nat.le_of_ble_eq_true rfl, Nat.le_of_ble_eq_true rfl⟩) hH hK hS hl.1 rfl rfl (Nat.le_of_ble_eq_true rfl) dX7_byEnd_3 ⟨Nat.le_refl _, Nat.le_refl _⟩ (fun H locs hH hS => ?_)
  have hg := gif hf
  refine lv_if_ne (tgt := 11) hx hb dX7_byEnd_6 (by decide) (fun c9 => ?_) (fun c9 => ?_)
  · have hf := hg.2 c9
    refine lv_iconst (v := 0) hx hb dX7_byEnd_11 (by decide) ?_
    refine lv_istore_n (lv' := [(2, .int 0), (0, .ref a), (1, .int p0)]) hx hb dX7_byEnd_12 rfl hl (by decide) rfl (fun ls hl => ?_)
    exact B13 _ _ _ _ _ hH hS (lv_sub hl [1, 2, 0] rfl) hf
  · have hf := hg.1 c9
    refine lv_iconst (v := (-1)) hx hb dX7_byEnd_9 (by decide) ?_
    have ho := Option.some.inj hf
    exact W.iret (v := (-1)) hx hb hr (fun t ht hW => ⟨⟨(-1), (), rfl, ho, hrE ht hH⟩, hS.F ht⟩) hS.2.2 dX7_byEnd_10
set_option maxRecDepth 100000 in
set_option maxHeartbeats 8000000 in
theorem c4_clothRank (l : Launch) (w : GW) (K : GK) (g : GM) (S : GS) (a : Nat) (p0 : Int32) (out : Int32) (hf : f4_clothRank K g a p0 = some out) (hk0 : gkd K a = 5) : Met l yX4_clothRank (wA yX4_clothRank cX4_clothRank 6 (some .int)) ({ frames := 1, cells := 0, slots := 0, locals := 23 } : Room) (PRE w K g S [.ref a, .int p0]) (QI w K g S out) 0 0 (FR w) := by
  unfold f4_clothRank at hf
  refine Met.ofW (cc := cX4_clothRank) (maxL := 6) (ret := (some .int)) (by decide) rfl ?_
  intro p e s m args below meth c s₁ B hml hv
  obtain ⟨rfl, hH, hK⟩ := hv
  have hx := B.exec
  have hb := B.bytes
  have hr := B.returns
  have hts : ∀ q ∈ gALL, q.before _ s = true := fun q h => atoms_spec (ws := (wA yX4_clothRank cX4_clothRank 6 (some .int))) B.pre q (List.mem_cons_of_mem _ h)
  have hown : s.vm.findClass RX4 = some m.cls := findClass_of_methodNamed B.named
  have hlocks := B.notSynchronized
  have hS : va_S (FR w) s.heap s.heap [] := va_S.rf
  show W p l e ({ frames := 1, cells := 0, slots := 0, locals := 23 } : Room) s m _ below meth c s.heap [] 0 0 (MQ below (QI w K g S out) _ s 0 0 (FR w)) _
  have hl := lv_entry ([.ref a, .int p0]) (n := 6) (Nat.le_of_ble_eq_true rfl)
  rw [lg_entry_eq]
  generalize (lg_sl ([.ref a, .int p0]) ++ List.replicate (6 - (lg_sl ([.ref a, .int p0])).length) Slot.unset).toArray = ls at hl ⊢
  clear B
  generalize ([.ref a, .int p0] : List Value).toArray = args at hts ⊢
  have B47 : ∀ (k11 : Int32 → Int32 → Int32 → Option (Int32)), (∀ (x2 : Int32) (x3 : Int32) (x4 : Int32) (H : Heap) (locs : List Loc) (ls : Array Slot), HR w K g S H → va_S (FR w) s.heap H locs → lv_has ls 6 [(0, .ref a), (1, .int p0), (2, .int x2), (3, .int x3), (4, .int x4)] → k11 x2 x3 x4 = some out → W p l e ({ frames := 1, cells := 0, slots := 0, locals := 23 } : Room) s m args below meth c H locs 0 0 (MQ below (QI w K g S out) args s 0 0 (FR w)) (F0 m 11 ls [])) → ∀ (x2 : Int32) (x3 : Int32) (x4 : Int32) (H : Heap) (locs : List Loc) (ls : Array Slot), HR w K g S H → va_S (FR w) s.heap H locs → lv_has ls 6 [(0, .ref a), (1, .int p0), (2, .int x2), (3, .int x3), (4, .int x4)] → f4_clothRank_47 k11 K g a p0 x2 x3 x4 = some out → W p l e ({ frames := 1, cells := 0, slots := 0, locals := 23 } : Room) s m args below meth c H locs 0 0 (MQ below (QI w K g S out) args s 0 0 (FR w)) (F0 m 47 ls []) := by
    intro k11 hk11 x2 x3 x4 H locs ls hH hS hl hf
    unfold f4_clothRank_47 at hf
    obtain ⟨v1, ev1⟩ : ∃ z : Int32, z = x4 + 1 := ⟨_, rfl⟩
    have hf := gl_at hf ev1
    refine lv_iinc (v := v1) (lv' := [(4, .int v1), (0, .ref a), (1, .int p0), (2, .int x2), (3, .int x3)]) hx hb dX4_clothRank_47 hl (k := 4) rfl (by rw [ev1]; rfl) (by decide) rfl (fun ls hl => ?_)
    refine lv_goto (tgt := 11) hx hb dX4_clothRank_50 (by decide) ?_
    exact hk11 _ _ _ _ _ _ hH hS (lv_sub hl [1, 2, 3, 4, 0] rfl) hf
  have B44 : ∀ (k11 : Int32 → Int32 → Int32 → Option (Int32)), (∀ (x2 : Int32) (x3 : Int32) (x4 : Int32) (H : Heap) (locs : List Loc) (ls : Array Slot), HR w K g S H → va_S (FR w) s.heap H locs → lv_has ls 6 [(0, .ref a), (1, .int p0), (2, .int x2), (3, .int x3), (4, .int x4)] → k11 x2 x3 x4 = some out → W p l e ({ frames := 1, cells := 0, slots := 0, locals := 23 } : Room) s m args below meth c H locs 0 0 (MQ below (QI w K g S out) args s 0 0 (FR w)) (F0 m 11 ls [])) → ∀ (x2 : Int32) (x3 : Int32) (x4 : Int32) (H : Heap) (locs : List Loc) (ls : Array Slot), HR w K g S H → va_S (FR w) s.heap H locs → lv_has ls 6 [(0, .ref a), (1, .int p0), (2, .int x2), (3, .int x3), (4, .int x4)] → f4_clothRank_44 k11 K g a p0 x2 x3 x4 = some out → W p l e ({ frames := 1, cells := 0, slots := 0, locals := 23 } : Room) s m args below meth c H locs 0 0 (MQ below (QI w K g S out) args s 0 0 (FR w)) (F0 m 44 ls []) := by
    intro k11 hk11 x2 x3 x4 H locs ls hH hS hl hf
    unfold f4_clothRank_44 at hf
    obtain ⟨v2, ev2⟩ : ∃ z : Int32, z = x3 + 1 := ⟨_, rfl⟩
    have hf := gl_at hf ev2
    refine lv_iinc (v := v2) (lv' := [(3, .int v2), (0, .ref a), (1, .int p0), (2, .int x2), (4, .int x4)]) hx hb dX4_clothRank_44 hl (k := 3) rfl (by rw [ev2]; rfl) (by decide) rfl (fun ls hl => ?_)
    exact B47 _ (hk11) _ _ _ _ _ _ hH hS (lv_sub hl [1, 2, 3, 0, 4] rfl) hf
  have B11 : ∀ n : Nat, ∀ (x2 : Int32) (x3 : Int32) (x4 : Int32) (H : Heap) (locs : List Loc) (ls : Array Slot), HR w K g S H → va_S (FR w) s.heap H locs → lv_has ls 6 [(0, .ref a), (1, .int p0), (2, .int x2), (3, .int x3), (4, .int x4)] → f4_clothRank_11 K g a p0 n x2 x3 x4 = some out → W p l e ({ frames := 1, cells := 0, slots := 0, locals := 23 } : Room) s m args below meth c H locs 0 0 (MQ below (QI w K g S out) args s 0 0 (FR w)) (F0 m 11 ls []) := by
    intro n
    induction n with
    | zero =>
      intro x2 x3 x4 H locs ls hH hS hl hf
      cases hf
    | succ n ih =>
      intro x2 x3 x4 H locs ls hH hS hl hf
      rw [f4_clothRank_11] at hf
      refine lv_iload hx hb dX4_clothRank_11 (lv_at hl 4 rfl) ?_
      refine lv_bipush (v := 6) hx hb dX4_clothRank_13 (by decide) ?_
      have hg := gif hf
      refine lv_icmp_ge (tgt := 53) hx hb dX4_clothRank_15 (by decide) (fun c3 => ?_) (fun c3 => ?_)
      · have hf := hg.1 c3
        refine lv_iload_n hx hb dX4_clothRank_53 rfl (lv_at hl 3 rfl) ?_
        have ho := Option.some.inj hf
        exact W.iret (v := x3) hx hb hr (fun t ht hW => ⟨⟨x3, (), rfl, ho, hrE ht hH⟩, hS.F ht⟩) hS.2.2 dX4_clothRank_54
      · have hf := hg.2 c3
        refine lv_aload_n hx hb dX4_clothRank_18 rfl (lv_at hl 0 rfl) ?_
        refine lv_iload hx hb dX4_clothRank_19 (lv_at hl 4 rfl) ?_
        obtain ⟨v4, h5, hf⟩ := gbind hf
        refine g_Vi (As := [.int x4]) (rest := []) ⟨hx, hb, hml, hown, hts⟩ (c4_clothPicks l w K g S a x4 v4 h5 hk0) (gcwV hts i4_clothPicks wd_534 rfl rfl ⟨Nat.le_of_ble_eq_true rfl, Nat.le_of_ble_eq_true rfl⟩) (gRecv.of hK rfl (hH.o5 hk0)) hH hK hS hl.1 rfl rfl (Nat.le_of_ble_eq_true rfl) dX4_clothRank_21 ⟨Nat.le_refl _, Nat.le_refl _⟩ (fun H locs hH hS => ?_)
        refine lv_istore (lv' := [(5, .int v4), (0, .ref a), (1, .int p0), (2, .int x2), (3, .int x3), (4, .int x4)]) hx hb dX4_clothRank_24 hl (by decide) rfl (fun ls hl => ?_)
        refine lv_iload hx hb dX4_clothRank_26 (lv_at hl 0 rfl) ?_
        refine lv_iload_n hx hb dX4_clothRank_28 rfl (lv_at hl 3 rfl) ?_
        have hg := gif hf
        refine lv_icmp_gt (tgt := 44) hx hb dX4_clothRank_29 (by decide) (fun c6 => ?_) (fun c6 => ?_)
        · have hf := hg.1 c6
          exact B44 _ (ih) _ _ _ _ _ _ hH hS (lv_sub hl [1, 2, 3, 4, 5] rfl) hf
        · have hf := hg.2 c6
          refine lv_iload hx hb dX4_clothRank_32 (lv_at hl 0 rfl) ?_
          refine lv_iload_n hx hb dX4_clothRank_34 rfl (lv_at hl 3 rfl) ?_
          have hg := gif hf
          refine lv_icmp_ne (tgt := 47) hx hb dX4_clothRank_35 (by decide) (fun c7 => ?_) (fun c7 => ?_)
          · have hf := hg.2 c7
            exact B47 _ (ih) _ _ _ _ _ _ hH hS (lv_sub hl [1, 2, 3, 4, 5] rfl) hf
          · have hf := hg.1 c7
            refine lv_iload hx hb dX4_clothRank_38 (lv_at hl 5 rfl) ?_
            refine lv_iload_n hx hb dX4_clothRank_40 rfl (lv_at hl 2 rfl) ?_
            have hg := gif hf
            refine lv_icmp_ge (tgt := 47) hx hb dX4_clothRank_41 (by decide) (fun c8 => ?_) (fun c8 => ?_)
            · have hf := hg.1 c8
              exact B47 _ (ih) _ _ _ _ _ _ hH hS (lv_sub hl [1, 2, 3, 4, 5] rfl) hf
            · have hf := hg.2 c8
              exact B44 _ (ih) _ _ _ _ _ _ hH hS (lv_sub hl [1, 2, 3, 4, 5] rfl) hf
  have hl : lv_has ls 6 [(0, .ref a), (1, .int p0)] := hl
  refine lv_aload_n hx hb dX4_clothRank_0 rfl (lv_at hl 0 rfl) ?_
  refine lv_iload_n hx hb dX4_clothRank_1 rfl (lv_at hl 1 rfl) ?_
  obtain ⟨v9, h10, hf⟩ := gbind hf
  refine g_Vi (As := [.int p0]) (rest := []) ⟨hx, hb, hml, hown, hts⟩ (c4_clothPicks l w K g S a p0 v9 h10 hk0) (gcwV hts i4_clothPicks wd_534 rfl rfl ⟨Nat.le_of_ble_eq_true rfl, Nat.le_of_ble_eq_true rfl⟩) (gRecv.of hK rfl (hH.o5 hk0)) hH hK hS hl.1 rfl rfl (Nat.le_of_ble_eq_true rfl) dX4_clothRank_2 ⟨Nat.le_refl _, Nat.le_refl _⟩ (fun H locs hH hS => ?_)
  refine lv_istore_n (lv' := [(2, .int v9), (0, .ref a), (1, .int p0)]) hx hb dX4_clothRank_5 rfl hl (by decide) rfl (fun ls hl => ?_)
  refine lv_iconst (v := 0) hx hb dX4_clothRank_6 (by decide) ?_
  refine lv_istore_n (lv' := [(3, .int 0), (2, .int v9), (0, .ref a), (1, .int p0)]) hx hb dX4_clothRank_7 rfl hl (by decide) rfl (fun ls hl => ?_)
  refine lv_iconst (v := 0) hx hb dX4_clothRank_8 (by decide) ?_
  refine lv_istore (lv' := [(4, .int 0), (3, .int 0), (2, .int v9), (0, .ref a), (1, .int p0)]) hx hb dX4_clothRank_9 hl (by decide) rfl (fun ls hl => ?_)
  exact B11 _ _ _ _ _ _ _ hH hS (lv_sub hl [3, 4, 2, 1, 0] rfl) hf
set_option maxRecDepth 100000 in
set_option maxHeartbeats 8000000 in
theorem c7_byCloth (l : Launch) (w : GW) (K : GK) (g : GM) (S : GS) (a : Nat) (p0 : Int32) (out : Int32) (hf : f7_byCloth K g a p0 = some out) (hk0 : gkd K a = 8) : Met l yX7_byCloth (wA yX7_byCloth cX7_byCloth 3 (some .int)) ({ frames := 2, cells := 0, slots := 0, locals := 48 } : Room) (PRE w K g S [.ref a, .int p0]) (QI w K g S out) 0 0 (FR w) := by
  unfold f7_byCloth at hf
  refine Met.ofW (cc := cX7_byCloth) (maxL := 3) (ret := (some .int)) (by decide) rfl ?_
  intro p e s m args below meth c s₁ B hml hv
  obtain ⟨rfl, hH, hK⟩ := hv
  have hx := B.exec
  have hb := B.bytes
  have hr := B.returns
  have hts : ∀ q ∈ gALL, q.before _ s = true := fun q h => atoms_spec (ws := (wA yX7_byCloth cX7_byCloth 3 (some .int))) B.pre q (List.mem_cons_of_mem _ h)
  have hown : s.vm.findClass RX7 = some m.cls := findClass_of_methodNamed B.named
  have hlocks := B.notSynchronized
  have hS : va_S (FR w) s.heap s.heap [] := va_S.rf
  show W p l e ({ frames := 2, cells := 0, slots := 0, locals := 48 } : Room) s m _ below meth c s.heap [] 0 0 (MQ below (QI w K g S out) _ s 0 0 (FR w)) _
  have hl := lv_entry ([.ref a, .int p0]) (n := 3) (Nat.le_of_ble_eq_true rfl)
  rw [lg_entry_eq]
  generalize (lg_sl ([.ref a, .int p0]) ++ List.replicate (3 - (lg_sl ([.ref a, .int p0])).length) Slot.unset).toArray = ls at hl ⊢
  clear B
  generalize ([.ref a, .int p0] : List Value).toArray = args at hts ⊢
  have B44 : ∀ (k13 : Int32 → Option (Int32)), (∀ (x2 : Int32) (H : Heap) (locs : List Loc) (ls : Array Slot), HR w K g S H → va_S (FR w) s.heap H locs → lv_has ls 3 [(0, .ref a), (1, .int p0), (2, .int x2)] → k13 x2 = some out → W p l e ({ frames := 2, cells := 0, slots := 0, locals := 48 } : Room) s m args below meth c H locs 0 0 (MQ below (QI w K g S out) args s 0 0 (FR w)) (F0 m 13 ls [])) → ∀ (x2 : Int32) (H : Heap) (locs : List Loc) (ls : Array Slot), HR w K g S H → va_S (FR w) s.heap H locs → lv_has ls 3 [(0, .ref a), (1, .int p0), (2, .int x2)] → f7_byCloth_44 k13 K g a p0 x2 = some out → W p l e ({ frames := 2, cells := 0, slots := 0, locals := 48 } : Room) s m args below meth c H locs 0 0 (MQ below (QI w K g S out) args s 0 0 (FR w)) (F0 m 44 ls []) := by
    intro k13 hk13 x2 H locs ls hH hS hl hf
    unfold f7_byCloth_44 at hf
    obtain ⟨v1, ev1⟩ : ∃ z : Int32, z = x2 + 1 := ⟨_, rfl⟩
    have hf := gl_at hf ev1
    refine lv_iinc (v := v1) (lv' := [(2, .int v1), (0, .ref a), (1, .int p0)]) hx hb dX7_byCloth_44 hl (k := 2) rfl (by rw [ev1]; rfl) (by decide) rfl (fun ls hl => ?_)
    refine lv_goto (tgt := 13) hx hb dX7_byCloth_47 (by decide) ?_
    exact hk13 _ _ _ _ hH hS (lv_sub hl [1, 2, 0] rfl) hf
  have B13 : ∀ n : Nat, ∀ (x2 : Int32) (H : Heap) (locs : List Loc) (ls : Array Slot), HR w K g S H → va_S (FR w) s.heap H locs → lv_has ls 3 [(0, .ref a), (1, .int p0), (2, .int x2)] → f7_byCloth_13 K g a p0 n x2 = some out → W p l e ({ frames := 2, cells := 0, slots := 0, locals := 48 } : Room) s m args below meth c H locs 0 0 (MQ below (QI w K g S out) args s 0 0 (FR w)) (F0 m 13 ls []) := by
    intro n
    induction n with
    | zero =>
      intro x2 H locs ls hH hS hl hf
      cases hf
    | succ n ih =>
      intro x2 H locs ls hH hS hl hf
      rw [f7_byCloth_13] at hf
      refine lv_iload_n hx hb dX7_byCloth_13 rfl (lv_at hl 2 rfl) ?_
      refine lv_bipush (v := 6) hx hb dX7_byCloth_14 (by decide) ?_
      have hg := gif hf
      refine lv_icmp_ge (tgt := 50) hx hb dX7_byCloth_16 (by decide) (fun c2 => ?_) (fun c2 => ?_)
      · have hf := hg.1 c2
        refine lv_iconst (v := (-1)) hx hb dX7_byCloth_50 (by decide) ?_
        have ho := Option.some.inj hf
        exact W.iret (v := (-1)) hx hb hr (fun t ht hW => ⟨⟨(-1), (), rfl, ho, hrE ht hH⟩, hS.F ht⟩) hS.2.2 dX7_byCloth_51
      · have hf := hg.2 c2
        refine lv_aload_n hx hb dX7_byCloth_19 rfl (lv_at hl 0 rfl) ?_
        have k3 : gkd K (a + 10) = 5 := congrArg Prod.fst (hH.sub hk0 2 (t := (10, 5, 0)) rfl)
        refine e_7_2 hx hb hts hown hK hH hk0 (hts _ wd_21) dX7_byCloth_20 ?_
        refine lv_iload_n hx hb dX7_byCloth_23 rfl (lv_at hl 2 rfl) ?_
        obtain ⟨v4, h5, hf⟩ := gbind hf
        refine g_Vi (As := [.int x2]) (rest := []) ⟨hx, hb, hml, hown, hts⟩ (c4_clothPicks l w K g S (a + 10) x2 v4 h5 k3) (gcwV hts i4_clothPicks wd_140 rfl rfl ⟨Nat.le_of_ble_eq_true rfl, Nat.le_of_ble_eq_true rfl⟩) (gRecv.of hK rfl (hH.o5 k3)) hH hK hS hl.1 rfl rfl (Nat.le_of_ble_eq_true rfl) dX7_byCloth_24 ⟨Nat.le_refl _, Nat.le_refl _⟩ (fun H locs hH hS => ?_)
        have hg := gif hf
        refine lv_if_le (tgt := 44) hx hb dX7_byCloth_27 (by decide) (fun c6 => ?_) (fun c6 => ?_)
        · have hf := hg.1 c6
          exact B44 _ (ih) _ _ _ _ hH hS (lv_sub hl [0, 1, 2] rfl) hf
        · have hf := hg.2 c6
          refine lv_aload_n hx hb dX7_byCloth_30 rfl (lv_at hl 0 rfl) ?_
          refine e_7_2 hx hb hts hown hK hH hk0 (hts _ wd_21) dX7_byCloth_31 ?_
          refine lv_iload_n hx hb dX7_byCloth_34 rfl (lv_at hl 2 rfl) ?_
          obtain ⟨v7, h8, hf⟩ := gbind hf
          refine g_Vi (As := [.int x2]) (rest := []) ⟨hx, hb, hml, hown, hts⟩ (c4_clothRank l w K g S (a + 10) x2 v7 h8 k3) (gcwV hts i4_clothRank wd_530 rfl rfl ⟨Nat.le_of_ble_eq_true rfl, Nat.le_of_ble_eq_true rfl⟩) (gRecv.of hK rfl (hH.o5 k3)) hH hK hS hl.1 rfl rfl (Nat.le_of_ble_eq_true rfl) dX7_byCloth_35 ⟨Nat.le_refl _, Nat.le_refl _⟩ (fun H locs hH hS => ?_)
          refine lv_iload_n hx hb dX7_byCloth_38 rfl (lv_at hl 1 rfl) ?_
          have hg := gif hf
          refine lv_icmp_ne (tgt := 44) hx hb dX7_byCloth_39 (by decide) (fun c9 => ?_) (fun c9 => ?_)
          · have hf := hg.2 c9
            exact B44 _ (ih) _ _ _ _ hH hS (lv_sub hl [0, 1, 2] rfl) hf
          · have hf := hg.1 c9
            refine lv_iload_n hx hb dX7_byCloth_42 rfl (lv_at hl 2 rfl) ?_
            have ho := Option.some.inj hf
            exact W.iret (v := x2) hx hb hr (fun t ht hW => ⟨⟨x2, (), rfl, ho, hrE ht hH⟩, hS.F ht⟩) hS.2.2 dX7_byCloth_43
  have hl : lv_has ls 3 [(0, .ref a), (1, .int p0)] := hl
  refine lv_iload_n hx hb dX7_byCloth_0 rfl (lv_at hl 1 rfl) ?_
  refine lv_bipush (v := 6) hx hb dX7_byCloth_1 (by decide) ?_
  obtain ⟨v10, h11, hf⟩ := gbind hf
  refine g_Si (As := [.int p0, .int 6]) (rest := []) ⟨hx, hb, hml, hown, hts⟩ (c7_inRange l w K g S p0 6 v10 h11) (gcwS hts i7_inRange wd_137 rfl rfl ⟨Nat.le_of_ble_eq_true rfl, Nat.le_of_ble_eq_true rfl⟩) hH hK hS hl.1 rfl rfl (Nat.le_of_ble_eq_true rfl) dX7_byCloth_3 ⟨Nat.le_refl _, Nat.le_refl _⟩ (fun H locs hH hS => ?_)
  have hg := gif hf
  refine lv_if_ne (tgt := 11) hx hb dX7_byCloth_6 (by decide) (fun c12 => ?_) (fun c12 => ?_)
  · have hf := hg.2 c12
    refine lv_iconst (v := 0) hx hb dX7_byCloth_11 (by decide) ?_
    refine lv_istore_n (lv' := [(2, .int 0), (0, .ref a), (1, .int p0)]) hx hb dX7_byCloth_12 rfl hl (by decide) rfl (fun ls hl => ?_)
    exact B13 _ _ _ _ _ hH hS (lv_sub hl [1, 2, 0] rfl) hf
  · have hf := hg.1 c12
    refine lv_iconst (v := (-1)) hx hb dX7_byCloth_9 (by decide) ?_
    have ho := Option.some.inj hf
    exact W.iret (v := (-1)) hx hb hr (fun t ht hW => ⟨⟨(-1), (), rfl, ho, hrE ht hH⟩, hS.F ht⟩) hS.2.2 dX7_byCloth_10
set_option maxRecDepth 100000 in
set_option maxHeartbeats 8000000 in
theorem c7_wipe (l : Launch) (w : GW) (K : GK) (g : GM) (S : GS) (a : Nat) (out : GM × Int32) (hf : f7_wipe K g a = some out) (hk0 : gkd K a = 8) : Met l yX7_wipe (wA yX7_wipe cX7_wipe 2 (some .int)) ({ frames := 0, cells := 0, slots := 0, locals := 0 } : Room) (PRE w K g S [.ref a]) (QI w K out.1 S out.2) 0 0 (FR w) := by
  unfold f7_wipe at hf
  refine Met.ofW (cc := cX7_wipe) (maxL := 2) (ret := (some .int)) (by decide) rfl ?_
  intro p e s m args below meth c s₁ B hml hv
  obtain ⟨rfl, hH, hK⟩ := hv
  have hx := B.exec
  have hb := B.bytes
  have hr := B.returns
  have hts : ∀ q ∈ gALL, q.before _ s = true := fun q h => atoms_spec (ws := (wA yX7_wipe cX7_wipe 2 (some .int))) B.pre q (List.mem_cons_of_mem _ h)
  have hown : s.vm.findClass RX7 = some m.cls := findClass_of_methodNamed B.named
  have hlocks := B.notSynchronized
  have hS : va_S (FR w) s.heap s.heap [] := va_S.rf
  show W p l e ({ frames := 0, cells := 0, slots := 0, locals := 0 } : Room) s m _ below meth c s.heap [] 0 0 (MQ below (QI w K out.1 S out.2) _ s 0 0 (FR w)) _
  have hl := lv_entry ([.ref a]) (n := 2) (Nat.le_of_ble_eq_true rfl)
  rw [lg_entry_eq]
  generalize (lg_sl ([.ref a]) ++ List.replicate (2 - (lg_sl ([.ref a])).length) Slot.unset).toArray = ls at hl ⊢
  clear B
  generalize ([.ref a] : List Value).toArray = args at hts ⊢
  have hl : lv_has ls 2 [(0, .ref a)] := hl
  refine lv_aload_n hx hb dX7_wipe_0 rfl (lv_at hl 0 rfl) ?_
  have k1 : gkd K (a + 1) = 6 := congrArg Prod.fst (hH.sub hk0 0 (t := (1, 6, 0)) rfl)
  refine e_7_0 hx hb hts hown hK hH hk0 (hts _ wd_13) dX7_wipe_1 ?_
  refine e_5_1 hx hb hts hown hK hH k1 (hts _ wd_124) dX7_wipe_4 ?_
  refine lv_topi (fun v2 ev2 => ?_)
  have hf := gl_at hf ev2
  refine lv_istore_n (lv' := [(1, .int v2), (0, .ref a)]) hx hb dX7_wipe_7 rfl hl (by decide) rfl (fun ls hl => ?_)
  refine lv_aload_n hx hb dX7_wipe_8 rfl (lv_at hl 1 rfl) ?_
  refine e_7_0 hx hb hts hown hK hH hk0 (hts _ wd_13) dX7_wipe_9 ?_
  refine lv_iconst (v := 0) hx hb dX7_wipe_12 (by decide) ?_
  refine p_5_1 hx hb hts hown hK hH hS k1 (hts _ wd_124) dX7_wipe_13 (fun H locs hH hS => ?_)
  obtain ⟨g3, eg3⟩ : ∃ z : GM, z = gsI g (a + 1) 1 0 := ⟨_, rfl⟩
  have hf := gl_at hf eg3
  replace hH : HR w K g3 S H := by rw [eg3]; exact hH
  refine lv_iload_n hx hb dX7_wipe_16 rfl (lv_at hl 0 rfl) ?_
  have ho := Option.some.inj hf
  exact W.iret (v := v2) hx hb hr (fun t ht hW => ⟨⟨v2, (), rfl, congrArg Prod.snd ho, hrP ht ho hH⟩, hS.F ht⟩) hS.2.2 dX7_wipe_17
set_option maxRecDepth 100000 in
set_option maxHeartbeats 8000000 in
theorem c5_charactersIn (l : Launch) (w : GW) (K : GK) (g : GM) (S : GS) (p0 : Int64) (out : Int32) (hf : f5_charactersIn p0 = some out) : Met l yX5_charactersIn (wA yX5_charactersIn cX5_charactersIn 7 (some .int)) ({ frames := 0, cells := 0, slots := 0, locals := 0 } : Room) (PRE w K g S [.long p0]) (QI w K g S out) 0 0 (FR w) := by
  unfold f5_charactersIn at hf
  refine Met.ofW (cc := cX5_charactersIn) (maxL := 7) (ret := (some .int)) (by decide) rfl ?_
  intro p e s m args below meth c s₁ B hml hv
  obtain ⟨rfl, hH, hK⟩ := hv
  have hx := B.exec
  have hb := B.bytes
  have hr := B.returns
  have hts : ∀ q ∈ gALL, q.before _ s = true := fun q h => atoms_spec (ws := (wA yX5_charactersIn cX5_charactersIn 7 (some .int))) B.pre q (List.mem_cons_of_mem _ h)
  have hown : s.vm.findClass RX5 = some m.cls := findClass_of_methodNamed B.named
  have hlocks := B.notSynchronized
  have hS : va_S (FR w) s.heap s.heap [] := va_S.rf
  show W p l e ({ frames := 0, cells := 0, slots := 0, locals := 0 } : Room) s m _ below meth c s.heap [] 0 0 (MQ below (QI w K g S out) _ s 0 0 (FR w)) _
  have hl := lv_entry ([.long p0]) (n := 7) (Nat.le_of_ble_eq_true rfl)
  rw [lg_entry_eq]
  generalize (lg_sl ([.long p0]) ++ List.replicate (7 - (lg_sl ([.long p0])).length) Slot.unset).toArray = ls at hl ⊢
  clear B
  generalize ([.long p0] : List Value).toArray = args at hts ⊢
  have B8 : ∀ n : Nat, ∀ (x2 : Int64) (x4 : Int32) (x5 : Int32) (H : Heap) (locs : List Loc) (ls : Array Slot), HR w K g S H → va_S (FR w) s.heap H locs → lv_has ls 7 [(2, .long x2), (4, .int x4), (5, .int x5)] → f5_charactersIn_8 p0 n x2 x4 x5 = some out → W p l e ({ frames := 0, cells := 0, slots := 0, locals := 0 } : Room) s m args below meth c H locs 0 0 (MQ below (QI w K g S out) args s 0 0 (FR w)) (F0 m 8 ls []) := by
    intro n
    induction n with
    | zero =>
      intro x2 x4 x5 H locs ls hH hS hl hf
      cases hf
    | succ n ih =>
      intro x2 x4 x5 H locs ls hH hS hl hf
      rw [f5_charactersIn_8] at hf
      refine lv_iload hx hb dX5_charactersIn_8 (lv_at hl 2 rfl) ?_
      refine lv_bipush (v := 8) hx hb dX5_charactersIn_10 (by decide) ?_
      have hg := gif hf
      refine lv_icmp_ge (tgt := 59) hx hb dX5_charactersIn_12 (by decide) (fun c1 => ?_) (fun c1 => ?_)
      · have hf := hg.1 c1
        refine lv_iload hx hb dX5_charactersIn_59 (lv_at hl 1 rfl) ?_
        have ho := Option.some.inj hf
        exact W.iret (v := x4) hx hb hr (fun t ht hW => ⟨⟨x4, (), rfl, ho, hrE ht hH⟩, hS.F ht⟩) hS.2.2 dX5_charactersIn_61
      · have hf := hg.2 c1
        refine lv_lload_n hx hb dX5_charactersIn_15 rfl (lv_at hl 0 rfl) ?_
        refine lv_lconst (v := 0) hx hb dX5_charactersIn_16 (by decide) ?_
        refine W.lcmp hx hb dX5_charactersIn_17 ?_
        have hg := gif hf
        refine lv_if_eq (tgt := 59) hx hb dX5_charactersIn_18 (by decide) (fun c2 => ?_) (fun c2 => ?_)
        · have hf := hg.1 c2
          refine lv_iload hx hb dX5_charactersIn_59 (lv_at hl 1 rfl) ?_
          have ho := Option.some.inj hf
          exact W.iret (v := x4) hx hb hr (fun t ht hW => ⟨⟨x4, (), rfl, ho, hrE ht hH⟩, hS.F ht⟩) hS.2.2 dX5_charactersIn_61
        · have hf := hg.2 c2
          refine lv_lload_n hx hb dX5_charactersIn_21 rfl (lv_at hl 0 rfl) ?_
          refine lv_ldc2 (v := 255) hx hb hown (hts _ wd_207) dX5_charactersIn_22 ?_
          refine lv_land hx hb dX5_charactersIn_25 ?_
          refine lv_l2i hx hb dX5_charactersIn_26 rfl ?_
          refine lv_topi (fun v3 ev3 => ?_)
          have hf := gl_at hf ev3
          refine lv_istore (lv' := [(6, .int v3), (2, .long x2), (4, .int x4), (5, .int x5)]) hx hb dX5_charactersIn_27 hl (by decide) rfl (fun ls hl => ?_)
          refine lv_iload hx hb dX5_charactersIn_29 (lv_at hl 0 rfl) ?_
          refine lv_bipush (v := 33) hx hb dX5_charactersIn_31 (by decide) ?_
          have hg := gif hf
          refine lv_icmp_lt (tgt := 43) hx hb dX5_charactersIn_33 (by decide) (fun c4 => ?_) (fun c4 => ?_)
          · have hf := hg.1 c4
            refine lv_iconst (v := 0) hx hb dX5_charactersIn_43 (by decide) ?_
            have ho := Option.some.inj hf
            exact W.iret (v := 0) hx hb hr (fun t ht hW => ⟨⟨0, (), rfl, ho, hrE ht hH⟩, hS.F ht⟩) hS.2.2 dX5_charactersIn_44
          · have hf := hg.2 c4
            refine lv_iload hx hb dX5_charactersIn_36 (lv_at hl 0 rfl) ?_
            refine lv_bipush (v := 126) hx hb dX5_charactersIn_38 (by decide) ?_
            have hg := gif hf
            refine lv_icmp_le (tgt := 45) hx hb dX5_charactersIn_40 (by decide) (fun c5 => ?_) (fun c5 => ?_)
            · have hf := hg.1 c5
              refine lv_lload_n hx hb dX5_charactersIn_45 rfl (lv_at hl 1 rfl) ?_
              refine lv_bipush (v := 8) hx hb dX5_charactersIn_46 (by decide) ?_
              refine lv_lushr hx hb dX5_charactersIn_48 rfl ?_
              refine lv_topl (fun v6 ev6 => ?_)
              have hf := gl_at hf ev6
              refine lv_lstore_n (lv' := [(2, .long v6), (6, .int v3), (4, .int x4), (5, .int x5)]) hx hb dX5_charactersIn_49 rfl hl (by decide) rfl (fun ls hl => ?_)
              obtain ⟨v7, ev7⟩ : ∃ z : Int32, z = x4 + 1 := ⟨_, rfl⟩
              have hf := gl_at hf ev7
              refine lv_iinc (v := v7) (lv' := [(4, .int v7), (2, .long v6), (6, .int v3), (5, .int x5)]) hx hb dX5_charactersIn_50 hl (k := 2) rfl (by rw [ev7]; rfl) (by decide) rfl (fun ls hl => ?_)
              obtain ⟨v8, ev8⟩ : ∃ z : Int32, z = x5 + 1 := ⟨_, rfl⟩
              have hf := gl_at hf ev8
              refine lv_iinc (v := v8) (lv' := [(5, .int v8), (4, .int v7), (2, .long v6), (6, .int v3)]) hx hb dX5_charactersIn_53 hl (k := 3) rfl (by rw [ev8]; rfl) (by decide) rfl (fun ls hl => ?_)
              refine lv_goto (tgt := 8) hx hb dX5_charactersIn_56 (by decide) ?_
              exact ih _ _ _ _ _ _ hH hS (lv_sub hl [2, 1, 0] rfl) hf
            · have hf := hg.2 c5
              refine lv_iconst (v := 0) hx hb dX5_charactersIn_43 (by decide) ?_
              have ho := Option.some.inj hf
              exact W.iret (v := 0) hx hb hr (fun t ht hW => ⟨⟨0, (), rfl, ho, hrE ht hH⟩, hS.F ht⟩) hS.2.2 dX5_charactersIn_44
  have hl : lv_has ls 7 [(0, .long p0)] := hl
  refine lv_lload_n hx hb dX5_charactersIn_0 rfl (lv_at hl 0 rfl) ?_
  refine lv_lstore_n (lv' := [(2, .long p0), (0, .long p0)]) hx hb dX5_charactersIn_1 rfl hl (by decide) rfl (fun ls hl => ?_)
  refine lv_iconst (v := 0) hx hb dX5_charactersIn_2 (by decide) ?_
  refine lv_istore (lv' := [(4, .int 0), (2, .long p0), (0, .long p0)]) hx hb dX5_charactersIn_3 hl (by decide) rfl (fun ls hl => ?_)
  refine lv_iconst (v := 0) hx hb dX5_charactersIn_5 (by decide) ?_
  refine lv_istore (lv' := [(5, .int 0), (4, .int 0), (2, .long p0), (0, .long p0)]) hx hb dX5_charactersIn_6 hl (by decide) rfl (fun ls hl => ?_)
  exact B8 _ _ _ _ _ _ _ hH hS (lv_sub hl [2, 1, 0] rfl) hf
set_option maxRecDepth 100000 in
set_option maxHeartbeats 8000000 in
theorem c5_append (l : Launch) (w : GW) (K : GK) (g : GM) (S : GS) (a : Nat) (p0 : Int64) (p1 : Int32) (out : GM) (hf : f5_append K g a p0 p1 = some out) (hk0 : gkd K a = 6) : Met l yX5_append (wA yX5_append cX5_append 5 none) ({ frames := 0, cells := 0, slots := 0, locals := 0 } : Room) (PRE w K g S [.ref a, .long p0, .int p1]) (QV w K out S) 0 0 (FR w) := by
  unfold f5_append at hf
  refine Met.ofW (cc := cX5_append) (maxL := 5) (ret := none) (by decide) rfl ?_
  intro p e s m args below meth c s₁ B hml hv
  obtain ⟨rfl, hH, hK⟩ := hv
  have hx := B.exec
  have hb := B.bytes
  have hr := B.returns
  have hts : ∀ q ∈ gALL, q.before _ s = true := fun q h => atoms_spec (ws := (wA yX5_append cX5_append 5 none)) B.pre q (List.mem_cons_of_mem _ h)
  have hown : s.vm.findClass RX5 = some m.cls := findClass_of_methodNamed B.named
  have hlocks := B.notSynchronized
  have hS : va_S (FR w) s.heap s.heap [] := va_S.rf
  show W p l e ({ frames := 0, cells := 0, slots := 0, locals := 0 } : Room) s m _ below meth c s.heap [] 0 0 (MQ below (QV w K out S) _ s 0 0 (FR w)) _
  have hl := lv_entry ([.ref a, .long p0, .int p1]) (n := 5) (Nat.le_of_ble_eq_true rfl)
  rw [lg_entry_eq]
  generalize (lg_sl ([.ref a, .long p0, .int p1]) ++ List.replicate (5 - (lg_sl ([.ref a, .long p0, .int p1])).length) Slot.unset).toArray = ls at hl ⊢
  clear B
  generalize ([.ref a, .long p0, .int p1] : List Value).toArray = args at hts ⊢
  have B25 : ∀ n : Nat, ∀ (g : GM) (x4 : Int32) (H : Heap) (locs : List Loc) (ls : Array Slot), HR w K g S H → va_S (FR w) s.heap H locs → lv_has ls 5 [(0, .ref a), (1, .long p0), (3, .int p1), (4, .int x4)] → f5_append_25 K a p0 p1 n g x4 = some out → W p l e ({ frames := 0, cells := 0, slots := 0, locals := 0 } : Room) s m args below meth c H locs 0 0 (MQ below (QV w K out S) args s 0 0 (FR w)) (F0 m 25 ls []) := by
    intro n
    induction n with
    | zero =>
      intro g x4 H locs ls hH hS hl hf
      cases hf
    | succ n ih =>
      intro g x4 H locs ls hH hS hl hf
      rw [f5_append_25] at hf
      refine lv_iload hx hb dX5_append_25 (lv_at hl 3 rfl) ?_
      refine lv_iload_n hx hb dX5_append_27 rfl (lv_at hl 2 rfl) ?_
      have hg := gif hf
      refine lv_icmp_ge (tgt := 66) hx hb dX5_append_28 (by decide) (fun c1 => ?_) (fun c1 => ?_)
      · have hf := hg.1 c1
        refine lv_aload_n hx hb dX5_append_66 rfl (lv_at hl 0 rfl) ?_
        refine lv_dup hx hb dX5_append_67 rfl ?_
        refine e_5_1 hx hb hts hown hK hH hk0 (hts _ wd_37) dX5_append_68 ?_
        refine lv_iload_n hx hb dX5_append_71 rfl (lv_at hl 2 rfl) ?_
        refine lv_iadd hx hb dX5_append_72 ?_
        refine p_5_1 hx hb hts hown hK hH hS hk0 (hts _ wd_37) dX5_append_73 (fun H locs hH hS => ?_)
        obtain ⟨g2, eg2⟩ : ∃ z : GM, z = gsI g a 1 ((gI g a 1) + p1) := ⟨_, rfl⟩
        have hf := gl_at hf eg2
        replace hH : HR w K g2 S H := by rw [eg2]; exact hH
        have ho := Option.some.inj hf
        exact W.vret hx hb hr (fun t ht hW => ⟨⟨(), rfl, trivial, hrV ht ho hH⟩, hS.F ht⟩) hS.2.2 dX5_append_76
      · have hf := hg.2 c1
        refine lv_aload_n hx hb dX5_append_31 rfl (lv_at hl 0 rfl) ?_
        have k3 : K.1 (a + 1) = (11, 80) := hH.sub hk0 0 (t := (1, 11, 80)) rfl
        refine e_5_0 hx hb hts hown hK hH hk0 (hts _ wd_36) dX5_append_32 ?_
        refine lv_aload_n hx hb dX5_append_35 rfl (lv_at hl 0 rfl) ?_
        refine e_5_1 hx hb hts hown hK hH hk0 (hts _ wd_37) dX5_append_36 ?_
        refine lv_iload hx hb dX5_append_39 (lv_at hl 3 rfl) ?_
        refine lv_iadd hx hb dX5_append_41 ?_
        refine lv_lload_n hx hb dX5_append_42 rfl (lv_at hl 1 rfl) ?_
        refine lv_bipush (v := 8) hx hb dX5_append_43 (by decide) ?_
        refine lv_iload_n hx hb dX5_append_45 rfl (lv_at hl 2 rfl) ?_
        refine lv_iconst (v := 1) hx hb dX5_append_46 (by decide) ?_
        refine lv_isub hx hb dX5_append_47 ?_
        refine lv_iload hx hb dX5_append_48 (lv_at hl 3 rfl) ?_
        refine lv_isub hx hb dX5_append_50 ?_
        refine lv_imul hx hb dX5_append_51 ?_
        refine lv_lushr hx hb dX5_append_52 rfl ?_
        refine lv_ldc2 (v := 255) hx hb hown (hts _ wd_207) dX5_append_53 ?_
        refine lv_land hx hb dX5_append_56 ?_
        refine lv_l2i hx hb dX5_append_57 rfl ?_
        refine lv_i2c hx hb dX5_append_58 rfl ?_
        obtain ⟨h5, hf⟩ := gd_some hf
        refine g_cast hx hb hK hH hS k3 h5 dX5_append_59 (fun H locs hH hS => ?_)
        obtain ⟨g6, eg6⟩ : ∃ z : GM, z = gsI g (a + 1) ((gI g a 1) + x4).toNatClampNeg (vp_nar .char ((((((p0.toUInt64 >>> ((8 * ((p1 - 1) - x4)).toInt64.toUInt64 &&& Int64.toUInt64 63)).toInt64) &&& ((255 : Int64))).toInt32).toUInt32 % 65536).toInt32)) := ⟨_, rfl⟩
        have hf := gl_at hf eg6
        replace hH : HR w K g6 S H := by rw [eg6]; exact hH
        obtain ⟨v7, ev7⟩ : ∃ z : Int32, z = x4 + 1 := ⟨_, rfl⟩
        have hf := gl_at hf ev7
        refine lv_iinc (v := v7) (lv' := [(4, .int v7), (0, .ref a), (1, .long p0), (3, .int p1)]) hx hb dX5_append_60 hl (k := 3) rfl (by rw [ev7]; rfl) (by decide) rfl (fun ls hl => ?_)
        refine lv_goto (tgt := 25) hx hb dX5_append_63 (by decide) ?_
        exact ih _ _ _ _ _ hH hS (lv_sub hl [1, 2, 3, 0] rfl) hf
  have hl : lv_has ls 5 [(0, .ref a), (1, .long p0), (3, .int p1)] := hl
  refine lv_iload_n hx hb dX5_append_0 rfl (lv_at hl 2 rfl) ?_
  have hg := gif hf
  refine lv_if_lt (tgt := 21) hx hb dX5_append_1 (by decide) (fun c8 => ?_) (fun c8 => ?_)
  · have hf := hg.1 c8
    have ho := Option.some.inj hf
    exact W.vret hx hb hr (fun t ht hW => ⟨⟨(), rfl, trivial, hrV ht ho hH⟩, hS.F ht⟩) hS.2.2 dX5_append_21
  · have hf := hg.2 c8
    refine lv_iload_n hx hb dX5_append_4 rfl (lv_at hl 2 rfl) ?_
    refine lv_bipush (v := 8) hx hb dX5_append_5 (by decide) ?_
    have hg := gif hf
    refine lv_icmp_gt (tgt := 21) hx hb dX5_append_7 (by decide) (fun c9 => ?_) (fun c9 => ?_)
    · have hf := hg.1 c9
      have ho := Option.some.inj hf
      exact W.vret hx hb hr (fun t ht hW => ⟨⟨(), rfl, trivial, hrV ht ho hH⟩, hS.F ht⟩) hS.2.2 dX5_append_21
    · have hf := hg.2 c9
      refine lv_iload_n hx hb dX5_append_10 rfl (lv_at hl 2 rfl) ?_
      refine lv_bipush (v := 80) hx hb dX5_append_11 (by decide) ?_
      refine lv_aload_n hx hb dX5_append_13 rfl (lv_at hl 0 rfl) ?_
      refine e_5_1 hx hb hts hown hK hH hk0 (hts _ wd_37) dX5_append_14 ?_
      refine lv_isub hx hb dX5_append_17 ?_
      have hg := gif hf
      refine lv_icmp_le (tgt := 22) hx hb dX5_append_18 (by decide) (fun c10 => ?_) (fun c10 => ?_)
      · have hf := hg.1 c10
        refine lv_iconst (v := 0) hx hb dX5_append_22 (by decide) ?_
        refine lv_istore (lv' := [(4, .int 0), (0, .ref a), (1, .long p0), (3, .int p1)]) hx hb dX5_append_23 hl (by decide) rfl (fun ls hl => ?_)
        exact B25 _ _ _ _ _ _ hH hS (lv_sub hl [1, 2, 3, 0] rfl) hf
      · have hf := hg.2 c10
        have ho := Option.some.inj hf
        exact W.vret hx hb hr (fun t ht hW => ⟨⟨(), rfl, trivial, hrV ht ho hH⟩, hS.F ht⟩) hS.2.2 dX5_append_21
set_option maxRecDepth 100000 in
set_option maxHeartbeats 8000000 in
theorem c7_put (l : Launch) (w : GW) (K : GK) (g : GM) (S : GS) (a : Nat) (p0 : Int64) (out : GM × Int32) (hf : f7_put K g a p0 = some out) (hk0 : gkd K a = 8) : Met l yX7_put (wA yX7_put cX7_put 4 (some .int)) ({ frames := 1, cells := 0, slots := 0, locals := 26 } : Room) (PRE w K g S [.ref a, .long p0]) (QI w K out.1 S out.2) 0 0 (FR w) := by
  unfold f7_put at hf
  refine Met.ofW (cc := cX7_put) (maxL := 4) (ret := (some .int)) (by decide) rfl ?_
  intro p e s m args below meth c s₁ B hml hv
  obtain ⟨rfl, hH, hK⟩ := hv
  have hx := B.exec
  have hb := B.bytes
  have hr := B.returns
  have hts : ∀ q ∈ gALL, q.before _ s = true := fun q h => atoms_spec (ws := (wA yX7_put cX7_put 4 (some .int))) B.pre q (List.mem_cons_of_mem _ h)
  have hown : s.vm.findClass RX7 = some m.cls := findClass_of_methodNamed B.named
  have hlocks := B.notSynchronized
  have hS : va_S (FR w) s.heap s.heap [] := va_S.rf
  show W p l e ({ frames := 1, cells := 0, slots := 0, locals := 26 } : Room) s m _ below meth c s.heap [] 0 0 (MQ below (QI w K out.1 S out.2) _ s 0 0 (FR w)) _
  have hl := lv_entry ([.ref a, .long p0]) (n := 4) (Nat.le_of_ble_eq_true rfl)
  rw [lg_entry_eq]
  generalize (lg_sl ([.ref a, .long p0]) ++ List.replicate (4 - (lg_sl ([.ref a, .long p0])).length) Slot.unset).toArray = ls at hl ⊢
  clear B
  generalize ([.ref a, .long p0] : List Value).toArray = args at hts ⊢
  have hl : lv_has ls 4 [(0, .ref a), (1, .long p0)] := hl
  refine lv_lload_n hx hb dX7_put_0 rfl (lv_at hl 1 rfl) ?_
  obtain ⟨v1, h2, hf⟩ := gbind hf
  refine g_Si (As := [.long p0]) (rest := []) ⟨hx, hb, hml, hown, hts⟩ (c5_charactersIn l w K g S p0 v1 h2) (gcwS hts i5_charactersIn wd_204 rfl rfl ⟨Nat.le_of_ble_eq_true rfl, Nat.le_of_ble_eq_true rfl⟩) hH hK hS hl.1 rfl rfl (Nat.le_of_ble_eq_true rfl) dX7_put_1 ⟨Nat.le_refl _, Nat.le_refl _⟩ (fun H locs hH hS => ?_)
  refine lv_istore_n (lv' := [(3, .int v1), (0, .ref a), (1, .long p0)]) hx hb dX7_put_4 rfl hl (by decide) rfl (fun ls hl => ?_)
  refine lv_iload_n hx hb dX7_put_5 rfl (lv_at hl 0 rfl) ?_
  have hg := gif hf
  refine lv_if_ne (tgt := 12) hx hb dX7_put_6 (by decide) (fun c3 => ?_) (fun c3 => ?_)
  · have hf := hg.2 c3
    refine lv_iload_n hx hb dX7_put_12 rfl (lv_at hl 0 rfl) ?_
    refine lv_bipush (v := 80) hx hb dX7_put_13 (by decide) ?_
    refine lv_aload_n hx hb dX7_put_15 rfl (lv_at hl 1 rfl) ?_
    have k4 : gkd K (a + 1) = 6 := congrArg Prod.fst (hH.sub hk0 0 (t := (1, 6, 0)) rfl)
    refine e_7_0 hx hb hts hown hK hH hk0 (hts _ wd_13) dX7_put_16 ?_
    refine e_5_1 hx hb hts hown hK hH k4 (hts _ wd_124) dX7_put_19 ?_
    refine lv_isub hx hb dX7_put_22 ?_
    have hg := gif hf
    refine lv_icmp_le (tgt := 29) hx hb dX7_put_23 (by decide) (fun c5 => ?_) (fun c5 => ?_)
    · have hf := hg.1 c5
      refine lv_aload_n hx hb dX7_put_29 rfl (lv_at hl 1 rfl) ?_
      refine e_7_0 hx hb hts hown hK hH hk0 (hts _ wd_13) dX7_put_30 ?_
      refine lv_lload_n hx hb dX7_put_33 rfl (lv_at hl 2 rfl) ?_
      refine lv_iload_n hx hb dX7_put_34 rfl (lv_at hl 0 rfl) ?_
      obtain ⟨g6, h7, hf⟩ := gbind hf
      refine g_Vv (As := [.long p0, .int v1]) (rest := []) ⟨hx, hb, hml, hown, hts⟩ (c5_append l w K g S (a + 1) p0 v1 g6 h7 k4) (gcwV hts i5_append wd_208 rfl rfl ⟨Nat.le_of_ble_eq_true rfl, Nat.le_of_ble_eq_true rfl⟩) (gRecv.of hK rfl (hH.o6 k4)) hH hK hS hl.1 rfl rfl (Nat.le_of_ble_eq_true rfl) dX7_put_35 ⟨Nat.le_refl _, Nat.le_refl _⟩ (fun H locs hH hS => ?_)
      refine lv_aload_n hx hb dX7_put_38 rfl (lv_at hl 1 rfl) ?_
      refine e_7_0 hx hb hts hown hK hH hk0 (hts _ wd_13) dX7_put_39 ?_
      refine e_5_1 hx hb hts hown hK hH k4 (hts _ wd_124) dX7_put_42 ?_
      have ho := Option.some.inj hf
      exact W.iret (v := (gI g6 (a + 1) 1)) hx hb hr (fun t ht hW => ⟨⟨(gI g6 (a + 1) 1), (), rfl, congrArg Prod.snd ho, hrP ht ho hH⟩, hS.F ht⟩) hS.2.2 dX7_put_45
    · have hf := hg.2 c5
      refine lv_bipush (v := (-4)) hx hb dX7_put_26 (by decide) ?_
      have ho := Option.some.inj hf
      exact W.iret (v := (-4)) hx hb hr (fun t ht hW => ⟨⟨(-4), (), rfl, congrArg Prod.snd ho, hrP ht ho hH⟩, hS.F ht⟩) hS.2.2 dX7_put_28
  · have hf := hg.1 c3
    refine lv_bipush (v := (-2)) hx hb dX7_put_9 (by decide) ?_
    have ho := Option.some.inj hf
    exact W.iret (v := (-2)) hx hb hr (fun t ht hW => ⟨⟨(-2), (), rfl, congrArg Prod.snd ho, hrP ht ho hH⟩, hS.F ht⟩) hS.2.2 dX7_put_11
set_option maxRecDepth 100000 in
set_option maxHeartbeats 8000000 in
theorem c3_takeBack (l : Launch) (w : GW) (K : GK) (g : GM) (S : GS) (a : Nat) (p0 : Nat) (out : GM) (hf : f3_takeBack K g a p0 = some out) (hk0 : gkd K a = 4) : Met l yX3_takeBack (wA yX3_takeBack cX3_takeBack 2 none) ({ frames := 4, cells := 0, slots := 0, locals := 123 } : Room) (PRE w K g S [.ref a, .ref p0]) (QV w K out S) 0 0 (FR w) := by
  unfold f3_takeBack at hf
  refine Met.ofW (cc := cX3_takeBack) (maxL := 2) (ret := none) (by decide) rfl ?_
  intro p e s m args below meth c s₁ B hml hv
  obtain ⟨rfl, hH, hK⟩ := hv
  have hx := B.exec
  have hb := B.bytes
  have hr := B.returns
  have hts : ∀ q ∈ gALL, q.before _ s = true := fun q h => atoms_spec (ws := (wA yX3_takeBack cX3_takeBack 2 none)) B.pre q (List.mem_cons_of_mem _ h)
  have hown : s.vm.findClass RX3 = some m.cls := findClass_of_methodNamed B.named
  have hlocks := B.notSynchronized
  have hS : va_S (FR w) s.heap s.heap [] := va_S.rf
  show W p l e ({ frames := 4, cells := 0, slots := 0, locals := 123 } : Room) s m _ below meth c s.heap [] 0 0 (MQ below (QV w K out S) _ s 0 0 (FR w)) _
  have hl := lv_entry ([.ref a, .ref p0]) (n := 2) (Nat.le_of_ble_eq_true rfl)
  rw [lg_entry_eq]
  generalize (lg_sl ([.ref a, .ref p0]) ++ List.replicate (2 - (lg_sl ([.ref a, .ref p0])).length) Slot.unset).toArray = ls at hl ⊢
  clear B
  generalize ([.ref a, .ref p0] : List Value).toArray = args at hts ⊢
  have hl : lv_has ls 2 [(0, .ref a), (1, .ref p0)] := hl
  refine lv_aload_n hx hb dX3_takeBack_0 rfl (lv_at hl 0 rfl) ?_
  refine e_3_1 hx hb hts hown hK hH hk0 (hts _ wd_86) dX3_takeBack_1 ?_
  have hg := gif hf
  refine lv_if_ne (tgt := 8) hx hb dX3_takeBack_4 (by decide) (fun c1 => ?_) (fun c1 => ?_)
  · have hf := hg.2 c1
    refine lv_aload_n hx hb dX3_takeBack_8 rfl (lv_at hl 0 rfl) ?_
    refine lv_dup hx hb dX3_takeBack_9 rfl ?_
    refine e_3_1 hx hb hts hown hK hH hk0 (hts _ wd_86) dX3_takeBack_10 ?_
    refine lv_iconst (v := 1) hx hb dX3_takeBack_13 (by decide) ?_
    refine lv_isub hx hb dX3_takeBack_14 ?_
    refine p_3_1 hx hb hts hown hK hH hS hk0 (hts _ wd_86) dX3_takeBack_15 (fun H locs hH hS => ?_)
    obtain ⟨g2, eg2⟩ : ∃ z : GM, z = gsI g a 1 ((gI g a 1) - 1) := ⟨_, rfl⟩
    have hf := gl_at hf eg2
    replace hH : HR w K g2 S H := by rw [eg2]; exact hH
    refine lv_aload_n hx hb dX3_takeBack_18 rfl (lv_at hl 1 rfl) ?_
    refine lv_aload_n hx hb dX3_takeBack_19 rfl (lv_at hl 0 rfl) ?_
    have k3 : K.1 (a + 1) = (14, 6) := hH.sub hk0 0 (t := (1, 14, 6)) rfl
    refine e_3_0 hx hb hts hown hK hH hk0 (hts _ wd_85) dX3_takeBack_20 ?_
    refine lv_aload_n hx hb dX3_takeBack_23 rfl (lv_at hl 0 rfl) ?_
    refine e_3_1 hx hb hts hown hK hH hk0 (hts _ wd_86) dX3_takeBack_24 ?_
    obtain ⟨h5, hf⟩ := gd_some hf
    refine g_lald hx hb hK hH k3 h5 dX3_takeBack_27 ?_
    rcases gopt_c hf with ⟨q7, hf⟩ | ⟨t6, q7, hf⟩
    · cases hf
    · refine g_rfS q7 ?_
      obtain ⟨k8, hf⟩ := gd_some hf
      have k8 := gk_obj k8
      obtain ⟨g9, h10, hf⟩ := gbind hf
      refine g_Vv (As := [.ref t6]) (rest := []) ⟨hx, hb, hml, hown, hts⟩ (c4_copyFrom l w K g2 S p0 t6 g9 h10 k8) (gcwV hts i4_copyFrom wd_272 rfl rfl ⟨Nat.le_of_ble_eq_true rfl, Nat.le_of_ble_eq_true rfl⟩) (gRecv.of hK rfl (hH.o5 k8)) hH hK hS hl.1 rfl rfl (Nat.le_of_ble_eq_true rfl) dX3_takeBack_28 ⟨Nat.le_refl _, Nat.le_refl _⟩ (fun H locs hH hS => ?_)
      have ho := Option.some.inj hf
      exact W.vret hx hb hr (fun t ht hW => ⟨⟨(), rfl, trivial, hrV ht ho hH⟩, hS.F ht⟩) hS.2.2 dX3_takeBack_31
  · have hf := hg.1 c1
    have ho := Option.some.inj hf
    exact W.vret hx hb hr (fun t ht hW => ⟨⟨(), rfl, trivial, hrV ht ho hH⟩, hS.F ht⟩) hS.2.2 dX3_takeBack_7
set_option maxRecDepth 100000 in
set_option maxHeartbeats 8000000 in
theorem c7_undo (l : Launch) (w : GW) (K : GK) (g : GM) (S : GS) (a : Nat) (out : GM × Int32) (hf : f7_undo K g a = some out) (hk0 : gkd K a = 8) : Met l yX7_undo (wA yX7_undo cX7_undo 1 (some .int)) ({ frames := 5, cells := 0, slots := 0, locals := 144 } : Room) (PRE w K g S [.ref a]) (QI w K out.1 S out.2) 0 0 (FR w) := by
  unfold f7_undo at hf
  refine Met.ofW (cc := cX7_undo) (maxL := 1) (ret := (some .int)) (by decide) rfl ?_
  intro p e s m args below meth c s₁ B hml hv
  obtain ⟨rfl, hH, hK⟩ := hv
  have hx := B.exec
  have hb := B.bytes
  have hr := B.returns
  have hts : ∀ q ∈ gALL, q.before _ s = true := fun q h => atoms_spec (ws := (wA yX7_undo cX7_undo 1 (some .int))) B.pre q (List.mem_cons_of_mem _ h)
  have hown : s.vm.findClass RX7 = some m.cls := findClass_of_methodNamed B.named
  have hlocks := B.notSynchronized
  have hS : va_S (FR w) s.heap s.heap [] := va_S.rf
  show W p l e ({ frames := 5, cells := 0, slots := 0, locals := 144 } : Room) s m _ below meth c s.heap [] 0 0 (MQ below (QI w K out.1 S out.2) _ s 0 0 (FR w)) _
  have hl := lv_entry ([.ref a]) (n := 1) (Nat.le_of_ble_eq_true rfl)
  rw [lg_entry_eq]
  generalize (lg_sl ([.ref a]) ++ List.replicate (1 - (lg_sl ([.ref a])).length) Slot.unset).toArray = ls at hl ⊢
  clear B
  generalize ([.ref a] : List Value).toArray = args at hts ⊢
  have hl : lv_has ls 1 [(0, .ref a)] := hl
  refine lv_aload_n hx hb dX7_undo_0 rfl (lv_at hl 0 rfl) ?_
  have k1 : gkd K (a + 42) = 4 := congrArg Prod.fst (hH.sub hk0 4 (t := (42, 4, 0)) rfl)
  refine e_7_4 hx hb hts hown hK hH hk0 (hts _ wd_26) dX7_undo_1 ?_
  refine e_3_1 hx hb hts hown hK hH k1 (hts _ wd_125) dX7_undo_4 ?_
  have hg := gif hf
  refine lv_if_ne (tgt := 13) hx hb dX7_undo_7 (by decide) (fun c2 => ?_) (fun c2 => ?_)
  · have hf := hg.2 c2
    refine lv_aload_n hx hb dX7_undo_13 rfl (lv_at hl 0 rfl) ?_
    refine e_7_4 hx hb hts hown hK hH hk0 (hts _ wd_26) dX7_undo_14 ?_
    refine lv_aload_n hx hb dX7_undo_17 rfl (lv_at hl 0 rfl) ?_
    have k3 : gkd K (a + 10) = 5 := congrArg Prod.fst (hH.sub hk0 2 (t := (10, 5, 0)) rfl)
    refine e_7_2 hx hb hts hown hK hH hk0 (hts _ wd_21) dX7_undo_18 ?_
    obtain ⟨g4, h5, hf⟩ := gbind hf
    refine g_Vv (As := [.ref (a + 10)]) (rest := []) ⟨hx, hb, hml, hown, hts⟩ (c3_takeBack l w K g S (a + 42) (a + 10) g4 h5 k1) (gcwV hts i3_takeBack wd_464 rfl rfl ⟨Nat.le_of_ble_eq_true rfl, Nat.le_of_ble_eq_true rfl⟩) (gRecv.of hK rfl (hH.o4 k1)) hH hK hS hl.1 rfl rfl (Nat.le_of_ble_eq_true rfl) dX7_undo_21 ⟨Nat.le_refl _, Nat.le_refl _⟩ (fun H locs hH hS => ?_)
    refine lv_aload_n hx hb dX7_undo_24 rfl (lv_at hl 0 rfl) ?_
    refine e_7_4 hx hb hts hown hK hH hk0 (hts _ wd_26) dX7_undo_25 ?_
    refine e_3_1 hx hb hts hown hK hH k1 (hts _ wd_125) dX7_undo_28 ?_
    have ho := Option.some.inj hf
    exact W.iret (v := (gI g4 (a + 42) 1)) hx hb hr (fun t ht hW => ⟨⟨(gI g4 (a + 42) 1), (), rfl, congrArg Prod.snd ho, hrP ht ho hH⟩, hS.F ht⟩) hS.2.2 dX7_undo_31
  · have hf := hg.1 c2
    refine lv_bipush (v := (-5)) hx hb dX7_undo_10 (by decide) ?_
    have ho := Option.some.inj hf
    exact W.iret (v := (-5)) hx hb hr (fun t ht hW => ⟨⟨(-5), (), rfl, congrArg Prod.snd ho, hrP ht ho hH⟩, hS.F ht⟩) hS.2.2 dX7_undo_12
