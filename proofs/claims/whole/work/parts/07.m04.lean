/-! contracts, by program -/
set_option maxRecDepth 100000 in
set_option maxHeartbeats 8000000 in
theorem c8_opens (l : Launch) (w : GW) (K : GK) (g : GM) (S : GS) (out : GS × Int32) (hf : f8_opens S = some out) : Met l yX8_opens (wA yX8_opens cX8_opens 2 (some .boolean)) ({ frames := 1, cells := 0, slots := 0, locals := 20 } : Room) (PRE w K g S [.ref w.2.2.2]) (QI w K g out.1 out.2) 0 0 (FR w) := by
  unfold f8_opens at hf
  refine Met.ofW (cc := cX8_opens) (maxL := 2) (ret := (some .boolean)) (by decide) rfl ?_
  intro p e s m args below meth c s₁ B hml hv
  obtain ⟨rfl, hH, hK⟩ := hv
  have hx := B.exec
  have hb := B.bytes
  have hr := B.returns
  have hts : ∀ q ∈ gALL, q.before _ s = true := fun q h => atoms_spec (ws := (wA yX8_opens cX8_opens 2 (some .boolean))) B.pre q (List.mem_cons_of_mem _ h)
  have hown : s.vm.findClass RX8 = some m.cls := findClass_of_methodNamed B.named
  have hlocks := B.notSynchronized
  have hS : va_S (FR w) s.heap s.heap [] := va_S.rf
  show W p l e ({ frames := 1, cells := 0, slots := 0, locals := 20 } : Room) s m _ below meth c s.heap [] 0 0 (MQ below (QI w K g out.1 out.2) _ s 0 0 (FR w)) _
  have hl := lv_entry ([.ref w.2.2.2]) (n := 2) (Nat.le_of_ble_eq_true rfl)
  rw [lg_entry_eq]
  generalize (lg_sl ([.ref w.2.2.2]) ++ List.replicate (2 - (lg_sl ([.ref w.2.2.2])).length) Slot.unset).toArray = ls at hl ⊢
  clear B
  generalize ([.ref w.2.2.2] : List Value).toArray = args at hts ⊢
  have B37 : ∀ (S : GS) (x1 : Int32) (s1 : Int32) (s2 : Int32) (H : Heap) (locs : List Loc) (ls : Array Slot), HR w K g S H → va_S (FR w) s.heap H locs → lv_has ls 2 [(0, .ref w.2.2.2), (1, .int x1)] → f8_opens_37 S x1 s1 s2 = some out → W p l e ({ frames := 1, cells := 0, slots := 0, locals := 20 } : Room) s m args below meth c H locs 0 0 (MQ below (QI w K g out.1 out.2) args s 0 0 (FR w)) (F0 m 37 ls [.int s2, .int s1, .ref w.2.2.2]) := by
    intro  S x1 s1 s2 H locs ls hH hS hl hf
    unfold f8_opens_37 at hf
    refine lv_iadd hx hb dX8_opens_37 ?_
    refine p_8_8 hx hb hts hown hK hH hS (hts _ wd_271) dX8_opens_38 (fun H locs hH hS => ?_)
    obtain ⟨S1, eS1⟩ : ∃ z : GS, z = ssI S 0 8 (s1 + s2) := ⟨_, rfl⟩
    have hf := gl_at hf eS1
    replace hH : HR w K g S1 H := by rw [eS1]; exact hH
    refine lv_aload_n hx hb dX8_opens_41 rfl (lv_at hl 0 rfl) ?_
    refine lv_dup hx hb dX8_opens_42 rfl ?_
    refine e_8_9 hx hb hts hown hK hH (hts _ wd_272) dX8_opens_43 ?_
    refine lv_iload_n hx hb dX8_opens_46 rfl (lv_at hl 1 rfl) ?_
    have hg := gif hf
    refine lv_if_eq (tgt := 54) hx hb dX8_opens_47 (by decide) (fun c2 => ?_) (fun c2 => ?_)
    · have hf := hg.1 c2
      refine lv_iconst (v := 0) hx hb dX8_opens_54 (by decide) ?_
      refine lv_iadd hx hb dX8_opens_55 ?_
      refine p_8_9 hx hb hts hown hK hH hS (hts _ wd_272) dX8_opens_56 (fun H locs hH hS => ?_)
      obtain ⟨S3, eS3⟩ : ∃ z : GS, z = ssI S1 0 9 ((S1 0 9) + 0) := ⟨_, rfl⟩
      have hf := gl_at hf eS3
      replace hH : HR w K g S3 H := by rw [eS3]; exact hH
      refine lv_iload_n hx hb dX8_opens_59 rfl (lv_at hl 1 rfl) ?_
      obtain ⟨h4, hf⟩ := gd_some hf
      have ho := Option.some.inj hf
      exact W.zret (v := x1) (ty := .boolean) hx hb hr (gbl_n h4) (fun t ht hW => ⟨⟨x1, (), rfl, congrArg Prod.snd ho, hrPm ht ho hH⟩, hS.F ht⟩) hS.2.2 dX8_opens_60
    · have hf := hg.2 c2
      refine lv_iconst (v := 1) hx hb dX8_opens_50 (by decide) ?_
      refine lv_goto (tgt := 55) hx hb dX8_opens_51 (by decide) ?_
      refine lv_iadd hx hb dX8_opens_55 ?_
      refine p_8_9 hx hb hts hown hK hH hS (hts _ wd_272) dX8_opens_56 (fun H locs hH hS => ?_)
      obtain ⟨S5, eS5⟩ : ∃ z : GS, z = ssI S1 0 9 ((S1 0 9) + 1) := ⟨_, rfl⟩
      have hf := gl_at hf eS5
      replace hH : HR w K g S5 H := by rw [eS5]; exact hH
      refine lv_iload_n hx hb dX8_opens_59 rfl (lv_at hl 1 rfl) ?_
      obtain ⟨h6, hf⟩ := gd_some hf
      have ho := Option.some.inj hf
      exact W.zret (v := x1) (ty := .boolean) hx hb hr (gbl_n h6) (fun t ht hW => ⟨⟨x1, (), rfl, congrArg Prod.snd ho, hrPm ht ho hH⟩, hS.F ht⟩) hS.2.2 dX8_opens_60
  have B22 : ∀ (S : GS) (s0 : Int32) (H : Heap) (locs : List Loc) (ls : Array Slot), HR w K g S H → va_S (FR w) s.heap H locs → lv_has ls 2 [(0, .ref w.2.2.2)] → f8_opens_22 S s0 = some out → W p l e ({ frames := 1, cells := 0, slots := 0, locals := 20 } : Room) s m args below meth c H locs 0 0 (MQ below (QI w K g out.1 out.2) args s 0 0 (FR w)) (F0 m 22 ls [.int s0]) := by
    intro  S s0 H locs ls hH hS hl hf
    unfold f8_opens_22 at hf
    refine lv_istore_n (lv' := [(1, .int s0), (0, .ref w.2.2.2)]) hx hb dX8_opens_22 rfl hl (by decide) rfl (fun ls hl => ?_)
    refine lv_aload_n hx hb dX8_opens_23 rfl (lv_at hl 1 rfl) ?_
    refine lv_dup hx hb dX8_opens_24 rfl ?_
    refine e_8_8 hx hb hts hown hK hH (hts _ wd_271) dX8_opens_25 ?_
    refine lv_iload_n hx hb dX8_opens_28 rfl (lv_at hl 0 rfl) ?_
    have hg := gif hf
    refine lv_if_eq (tgt := 36) hx hb dX8_opens_29 (by decide) (fun c7 => ?_) (fun c7 => ?_)
    · have hf := hg.1 c7
      refine lv_iconst (v := 0) hx hb dX8_opens_36 (by decide) ?_
      exact B37 _ _ _ _ _ _ _ hH hS (lv_sub hl [1, 0] rfl) hf
    · have hf := hg.2 c7
      refine lv_iconst (v := 1) hx hb dX8_opens_32 (by decide) ?_
      refine lv_goto (tgt := 37) hx hb dX8_opens_33 (by decide) ?_
      exact B37 _ _ _ _ _ _ _ hH hS (lv_sub hl [1, 0] rfl) hf
  have B21 : ∀ (S : GS) (H : Heap) (locs : List Loc) (ls : Array Slot), HR w K g S H → va_S (FR w) s.heap H locs → lv_has ls 2 [(0, .ref w.2.2.2)] → f8_opens_21 S = some out → W p l e ({ frames := 1, cells := 0, slots := 0, locals := 20 } : Room) s m args below meth c H locs 0 0 (MQ below (QI w K g out.1 out.2) args s 0 0 (FR w)) (F0 m 21 ls []) := by
    intro  S H locs ls hH hS hl hf
    unfold f8_opens_21 at hf
    refine lv_iconst (v := 0) hx hb dX8_opens_21 (by decide) ?_
    exact B22 _ _ _ _ _ hH hS (lv_sub hl [0] rfl) hf
  have hl : lv_has ls 2 [(0, .ref w.2.2.2)] := hl
  refine lv_aload_n hx hb dX8_opens_0 rfl (lv_at hl 0 rfl) ?_
  obtain ⟨v8, h9, hf⟩ := gbind hf
  refine g_Vi (As := []) (rest := []) ⟨hx, hb, hml, hown, hts⟩ (c8_code l w K g S v8 h9) (gcwV hts i8_code wd_273 rfl rfl ⟨Nat.le_of_ble_eq_true rfl, Nat.le_of_ble_eq_true rfl⟩) (gRecv.of hK rfl hH.ob) hH hK hS hl.1 rfl rfl (Nat.le_of_ble_eq_true rfl) dX8_opens_1 ⟨Nat.le_refl _, Nat.le_refl _⟩ (fun H locs hH hS => ?_)
  refine lv_bipush (v := 40) hx hb dX8_opens_4 (by decide) ?_
  have hg := gif hf
  refine lv_icmp_ne (tgt := 21) hx hb dX8_opens_6 (by decide) (fun c10 => ?_) (fun c10 => ?_)
  · have hf := hg.2 c10
    exact B21 _ _ _ _ hH hS (lv_sub hl [0] rfl) hf
  · have hf := hg.1 c10
    refine lv_aload_n hx hb dX8_opens_9 rfl (lv_at hl 0 rfl) ?_
    refine e_8_9 hx hb hts hown hK hH (hts _ wd_272) dX8_opens_10 ?_
    refine lv_iconst (v := 3) hx hb dX8_opens_13 (by decide) ?_
    have hg := gif hf
    refine lv_icmp_ge (tgt := 21) hx hb dX8_opens_14 (by decide) (fun c11 => ?_) (fun c11 => ?_)
    · have hf := hg.1 c11
      exact B21 _ _ _ _ hH hS (lv_sub hl [0] rfl) hf
    · have hf := hg.2 c11
      refine lv_iconst (v := 1) hx hb dX8_opens_17 (by decide) ?_
      refine lv_goto (tgt := 22) hx hb dX8_opens_18 (by decide) ?_
      exact B22 _ _ _ _ _ hH hS (lv_sub hl [0] rfl) hf
set_option maxRecDepth 100000 in
set_option maxHeartbeats 8000000 in
theorem c8_readsStep (l : Launch) (w : GW) (K : GK) (g : GM) (S : GS) (out : GS × Int32) (hf : f8_readsStep S = some out) : Met l yX8_readsStep (wA yX8_readsStep cX8_readsStep 2 (some .boolean)) ({ frames := 2, cells := 0, slots := 0, locals := 45 } : Room) (PRE w K g S [.ref w.2.2.2]) (QI w K g out.1 out.2) 0 0 (FR w) := by
  unfold f8_readsStep at hf
  refine Met.ofW (cc := cX8_readsStep) (maxL := 2) (ret := (some .boolean)) (by decide) rfl ?_
  intro p e s m args below meth c s₁ B hml hv
  obtain ⟨rfl, hH, hK⟩ := hv
  have hx := B.exec
  have hb := B.bytes
  have hr := B.returns
  have hts : ∀ q ∈ gALL, q.before _ s = true := fun q h => atoms_spec (ws := (wA yX8_readsStep cX8_readsStep 2 (some .boolean))) B.pre q (List.mem_cons_of_mem _ h)
  have hown : s.vm.findClass RX8 = some m.cls := findClass_of_methodNamed B.named
  have hlocks := B.notSynchronized
  have hS : va_S (FR w) s.heap s.heap [] := va_S.rf
  show W p l e ({ frames := 2, cells := 0, slots := 0, locals := 45 } : Room) s m _ below meth c s.heap [] 0 0 (MQ below (QI w K g out.1 out.2) _ s 0 0 (FR w)) _
  have hl := lv_entry ([.ref w.2.2.2]) (n := 2) (Nat.le_of_ble_eq_true rfl)
  rw [lg_entry_eq]
  generalize (lg_sl ([.ref w.2.2.2]) ++ List.replicate (2 - (lg_sl ([.ref w.2.2.2])).length) Slot.unset).toArray = ls at hl ⊢
  clear B
  generalize ([.ref w.2.2.2] : List Value).toArray = args at hts ⊢
  have B144 : ∀ (S : GS) (H : Heap) (locs : List Loc) (ls : Array Slot), HR w K g S H → va_S (FR w) s.heap H locs → lv_has ls 2 [] → f8_readsStep_144 S = some out → W p l e ({ frames := 2, cells := 0, slots := 0, locals := 45 } : Room) s m args below meth c H locs 0 0 (MQ below (QI w K g out.1 out.2) args s 0 0 (FR w)) (F0 m 144 ls []) := by
    intro  S H locs ls hH hS hl hf
    unfold f8_readsStep_144 at hf
    refine lv_iconst (v := 0) hx hb dX8_readsStep_144 (by decide) ?_
    have ho := Option.some.inj hf
    exact W.zret (v := 0) (ty := .boolean) hx hb hr rfl (fun t ht hW => ⟨⟨0, (), rfl, congrArg Prod.snd ho, hrPm ht ho hH⟩, hS.F ht⟩) hS.2.2 dX8_readsStep_145
  have B43 : ∀ (S : GS) (x1 : Int32) (H : Heap) (locs : List Loc) (ls : Array Slot), HR w K g S H → va_S (FR w) s.heap H locs → lv_has ls 2 [(0, .ref w.2.2.2), (1, .int x1)] → f8_readsStep_43 S x1 = some out → W p l e ({ frames := 2, cells := 0, slots := 0, locals := 45 } : Room) s m args below meth c H locs 0 0 (MQ below (QI w K g out.1 out.2) args s 0 0 (FR w)) (F0 m 43 ls []) := by
    intro  S x1 H locs ls hH hS hl hf
    unfold f8_readsStep_43 at hf
    refine lv_aload_n hx hb dX8_readsStep_43 rfl (lv_at hl 0 rfl) ?_
    refine lv_dup hx hb dX8_readsStep_44 rfl ?_
    refine e_8_8 hx hb hts hown hK hH (hts _ wd_271) dX8_readsStep_45 ?_
    refine lv_iconst (v := 1) hx hb dX8_readsStep_48 (by decide) ?_
    refine lv_iadd hx hb dX8_readsStep_49 ?_
    refine p_8_8 hx hb hts hown hK hH hS (hts _ wd_271) dX8_readsStep_50 (fun H locs hH hS => ?_)
    obtain ⟨S1, eS1⟩ : ∃ z : GS, z = ssI S 0 8 ((S 0 8) + 1) := ⟨_, rfl⟩
    have hf := gl_at hf eS1
    replace hH : HR w K g S1 H := by rw [eS1]; exact hH
    refine lv_iload_n hx hb dX8_readsStep_53 rfl (lv_at hl 1 rfl) ?_
    have hg := gif hf
    by_cases c2 : x1 = 99
    · have hf := hg.1 c2
      refine lv_lookup (tgt := 108) hx hb dX8_readsStep_54 (by decide +kernel) (by rw [c2]; first | done | decide +kernel) (by decide) ?_
      refine lv_aload_n hx hb dX8_readsStep_108 rfl (lv_at hl 0 rfl) ?_
      refine lv_iconst (v := 0) hx hb dX8_readsStep_109 (by decide) ?_
      refine lv_iconst (v := 5) hx hb dX8_readsStep_110 (by decide) ?_
      obtain ⟨r3, h4, hf⟩ := gbind hf
      refine g_Vi (As := [.int 0, .int 5]) (rest := []) ⟨hx, hb, hml, hown, hts⟩ (c8_takesDigit l w K g S1 0 5 r3 h4) (gcwV hts i8_takesDigit wd_281 rfl rfl ⟨Nat.le_of_ble_eq_true rfl, Nat.le_of_ble_eq_true rfl⟩) (gRecv.of hK rfl hH.ob) hH hK hS hl.1 rfl rfl (Nat.le_of_ble_eq_true rfl) dX8_readsStep_111 ⟨Nat.le_refl _, Nat.le_refl _⟩ (fun H locs hH hS => ?_)
      obtain ⟨h5, hf⟩ := gd_some hf
      have ho := Option.some.inj hf
      exact W.zret (v := r3.2) (ty := .boolean) hx hb hr (gbl_n h5) (fun t ht hW => ⟨⟨r3.2, (), rfl, congrArg Prod.snd ho, hrPm ht ho hH⟩, hS.F ht⟩) hS.2.2 dX8_readsStep_114
    have hf := hg.2 c2
    have hg := gif hf
    by_cases c6 : x1 = 107
    · have hf := hg.1 c6
      refine lv_lookup (tgt := 115) hx hb dX8_readsStep_54 (by decide +kernel) (by rw [c6]; first | done | decide +kernel) (by decide) ?_
      refine lv_aload_n hx hb dX8_readsStep_115 rfl (lv_at hl 0 rfl) ?_
      refine lv_iconst (v := 0) hx hb dX8_readsStep_116 (by decide) ?_
      refine lv_bipush (v := 9) hx hb dX8_readsStep_117 (by decide) ?_
      obtain ⟨r7, h8, hf⟩ := gbind hf
      refine g_Vi (As := [.int 0, .int 9]) (rest := []) ⟨hx, hb, hml, hown, hts⟩ (c8_takesDigit l w K g S1 0 9 r7 h8) (gcwV hts i8_takesDigit wd_281 rfl rfl ⟨Nat.le_of_ble_eq_true rfl, Nat.le_of_ble_eq_true rfl⟩) (gRecv.of hK rfl hH.ob) hH hK hS hl.1 rfl rfl (Nat.le_of_ble_eq_true rfl) dX8_readsStep_119 ⟨Nat.le_refl _, Nat.le_refl _⟩ (fun H locs hH hS => ?_)
      obtain ⟨h9, hf⟩ := gd_some hf
      have ho := Option.some.inj hf
      exact W.zret (v := r7.2) (ty := .boolean) hx hb hr (gbl_n h9) (fun t ht hW => ⟨⟨r7.2, (), rfl, congrArg Prod.snd ho, hrPm ht ho hH⟩, hS.F ht⟩) hS.2.2 dX8_readsStep_122
    have hf := hg.2 c6
    have hg := gif hf
    by_cases c10 : x1 = 119
    · have hf := hg.1 c10
      refine lv_lookup (tgt := 96) hx hb dX8_readsStep_54 (by decide +kernel) (by rw [c10]; first | done | decide +kernel) (by decide) ?_
      refine lv_aload_n hx hb dX8_readsStep_96 rfl (lv_at hl 0 rfl) ?_
      refine lv_iconst (v := 2) hx hb dX8_readsStep_97 (by decide) ?_
      refine lv_bipush (v := 9) hx hb dX8_readsStep_98 (by decide) ?_
      obtain ⟨r11, h12, hf⟩ := gbind hf
      refine g_Vi (As := [.int 2, .int 9]) (rest := []) ⟨hx, hb, hml, hown, hts⟩ (c8_takesDigit l w K g S1 2 9 r11 h12) (gcwV hts i8_takesDigit wd_281 rfl rfl ⟨Nat.le_of_ble_eq_true rfl, Nat.le_of_ble_eq_true rfl⟩) (gRecv.of hK rfl hH.ob) hH hK hS hl.1 rfl rfl (Nat.le_of_ble_eq_true rfl) dX8_readsStep_100 ⟨Nat.le_refl _, Nat.le_refl _⟩ (fun H locs hH hS => ?_)
      have hg := gif hf
      refine lv_if_ne (tgt := 106) hx hb dX8_readsStep_103 (by decide) (fun c13 => ?_) (fun c13 => ?_)
      · have hf := hg.2 c13
        refine lv_iconst (v := 1) hx hb dX8_readsStep_106 (by decide) ?_
        have ho := Option.some.inj hf
        exact W.zret (v := 1) (ty := .boolean) hx hb hr rfl (fun t ht hW => ⟨⟨1, (), rfl, congrArg Prod.snd ho, hrPm ht ho hH⟩, hS.F ht⟩) hS.2.2 dX8_readsStep_107
      · have hf := hg.1 c13
        refine lv_iconst (v := 1) hx hb dX8_readsStep_106 (by decide) ?_
        have ho := Option.some.inj hf
        exact W.zret (v := 1) (ty := .boolean) hx hb hr rfl (fun t ht hW => ⟨⟨1, (), rfl, congrArg Prod.snd ho, hrPm ht ho hH⟩, hS.F ht⟩) hS.2.2 dX8_readsStep_107
    have hf := hg.2 c10
    have hg := gif hf
    by_cases c14 : x1 = 120
    · have hf := hg.1 c14
      refine lv_lookup (tgt := 123) hx hb dX8_readsStep_54 (by decide +kernel) (by rw [c14]; first | done | decide +kernel) (by decide) ?_
      refine lv_aload_n hx hb dX8_readsStep_123 rfl (lv_at hl 0 rfl) ?_
      refine lv_iconst (v := 2) hx hb dX8_readsStep_124 (by decide) ?_
      refine lv_bipush (v := 9) hx hb dX8_readsStep_125 (by decide) ?_
      obtain ⟨r15, h16, hf⟩ := gbind hf
      refine g_Vi (As := [.int 2, .int 9]) (rest := []) ⟨hx, hb, hml, hown, hts⟩ (c8_takesDigit l w K g S1 2 9 r15 h16) (gcwV hts i8_takesDigit wd_281 rfl rfl ⟨Nat.le_of_ble_eq_true rfl, Nat.le_of_ble_eq_true rfl⟩) (gRecv.of hK rfl hH.ob) hH hK hS hl.1 rfl rfl (Nat.le_of_ble_eq_true rfl) dX8_readsStep_127 ⟨Nat.le_refl _, Nat.le_refl _⟩ (fun H locs hH hS => ?_)
      have hg := gif hf
      refine lv_if_eq (tgt := 144) hx hb dX8_readsStep_130 (by decide) (fun c17 => ?_) (fun c17 => ?_)
      · have hf := hg.1 c17
        exact B144 _ _ _ _ hH hS (lv_sub hl [] rfl) hf
      · have hf := hg.2 c17
        refine lv_aload_n hx hb dX8_readsStep_133 rfl (lv_at hl 0 rfl) ?_
        obtain ⟨r18, h19, hf⟩ := gbind hf
        refine g_Vi (As := []) (rest := []) ⟨hx, hb, hml, hown, hts⟩ (c8_opens l w K g r15.1 r18 h19) (gcwV hts i8_opens wd_285 rfl rfl ⟨Nat.le_of_ble_eq_true rfl, Nat.le_of_ble_eq_true rfl⟩) (gRecv.of hK rfl hH.ob) hH hK hS hl.1 rfl rfl (Nat.le_of_ble_eq_true rfl) dX8_readsStep_134 ⟨Nat.le_refl _, Nat.le_refl _⟩ (fun H locs hH hS => ?_)
        have hg := gif hf
        refine lv_if_eq (tgt := 144) hx hb dX8_readsStep_137 (by decide) (fun c20 => ?_) (fun c20 => ?_)
        · have hf := hg.1 c20
          exact B144 _ _ _ _ hH hS (lv_sub hl [] rfl) hf
        · have hf := hg.2 c20
          refine lv_iconst (v := 1) hx hb dX8_readsStep_140 (by decide) ?_
          refine lv_goto (tgt := 145) hx hb dX8_readsStep_141 (by decide) ?_
          have ho := Option.some.inj hf
          exact W.zret (v := 1) (ty := .boolean) hx hb hr rfl (fun t ht hW => ⟨⟨1, (), rfl, congrArg Prod.snd ho, hrPm ht ho hH⟩, hS.F ht⟩) hS.2.2 dX8_readsStep_145
    have hf := hg.2 c14
    have nc2 : x1.toInt ≠ 99 := g_ne c2 (by decide)
    have nc6 : x1.toInt ≠ 107 := g_ne c6 (by decide)
    have nc10 : x1.toInt ≠ 119 := g_ne c10 (by decide)
    have nc14 : x1.toInt ≠ 120 := g_ne c14 (by decide)
    refine lv_lookup (off := 92) (tgt := 146) hx hb dX8_readsStep_54 (by decide +kernel) (by simp [Op.lookupswitch.offset, nc2, nc6, nc10, nc14, nc2.symm, nc6.symm, nc10.symm, nc14.symm]) (by decide) ?_
    refine lv_aload_n hx hb dX8_readsStep_146 rfl (lv_at hl 0 rfl) ?_
    obtain ⟨r21, h22, hf⟩ := gbind hf
    refine g_Vi (As := []) (rest := []) ⟨hx, hb, hml, hown, hts⟩ (c8_opens l w K g S1 r21 h22) (gcwV hts i8_opens wd_285 rfl rfl ⟨Nat.le_of_ble_eq_true rfl, Nat.le_of_ble_eq_true rfl⟩) (gRecv.of hK rfl hH.ob) hH hK hS hl.1 rfl rfl (Nat.le_of_ble_eq_true rfl) dX8_readsStep_147 ⟨Nat.le_refl _, Nat.le_refl _⟩ (fun H locs hH hS => ?_)
    obtain ⟨h23, hf⟩ := gd_some hf
    have ho := Option.some.inj hf
    exact W.zret (v := r21.2) (ty := .boolean) hx hb hr (gbl_n h23) (fun t ht hW => ⟨⟨r21.2, (), rfl, congrArg Prod.snd ho, hrPm ht ho hH⟩, hS.F ht⟩) hS.2.2 dX8_readsStep_150
  have hl : lv_has ls 2 [(0, .ref w.2.2.2)] := hl
  refine lv_aload_n hx hb dX8_readsStep_0 rfl (lv_at hl 0 rfl) ?_
  obtain ⟨v24, h25, hf⟩ := gbind hf
  refine g_Vi (As := []) (rest := []) ⟨hx, hb, hml, hown, hts⟩ (c8_code l w K g S v24 h25) (gcwV hts i8_code wd_273 rfl rfl ⟨Nat.le_of_ble_eq_true rfl, Nat.le_of_ble_eq_true rfl⟩) (gRecv.of hK rfl hH.ob) hH hK hS hl.1 rfl rfl (Nat.le_of_ble_eq_true rfl) dX8_readsStep_1 ⟨Nat.le_refl _, Nat.le_refl _⟩ (fun H locs hH hS => ?_)
  refine lv_istore_n (lv' := [(1, .int v24), (0, .ref w.2.2.2)]) hx hb dX8_readsStep_4 rfl hl (by decide) rfl (fun ls hl => ?_)
  refine lv_iload_n hx hb dX8_readsStep_5 rfl (lv_at hl 0 rfl) ?_
  refine lv_bipush (v := 119) hx hb dX8_readsStep_6 (by decide) ?_
  have hg := gif hf
  refine lv_icmp_eq (tgt := 43) hx hb dX8_readsStep_8 (by decide) (fun c26 => ?_) (fun c26 => ?_)
  · have hf := hg.1 c26
    exact B43 _ _ _ _ _ hH hS (lv_sub hl [1, 0] rfl) hf
  · have hf := hg.2 c26
    refine lv_iload_n hx hb dX8_readsStep_11 rfl (lv_at hl 0 rfl) ?_
    refine lv_bipush (v := 99) hx hb dX8_readsStep_12 (by decide) ?_
    have hg := gif hf
    refine lv_icmp_eq (tgt := 43) hx hb dX8_readsStep_14 (by decide) (fun c27 => ?_) (fun c27 => ?_)
    · have hf := hg.1 c27
      exact B43 _ _ _ _ _ hH hS (lv_sub hl [1, 0] rfl) hf
    · have hf := hg.2 c27
      refine lv_iload_n hx hb dX8_readsStep_17 rfl (lv_at hl 0 rfl) ?_
      refine lv_bipush (v := 107) hx hb dX8_readsStep_18 (by decide) ?_
      have hg := gif hf
      refine lv_icmp_eq (tgt := 43) hx hb dX8_readsStep_20 (by decide) (fun c28 => ?_) (fun c28 => ?_)
      · have hf := hg.1 c28
        exact B43 _ _ _ _ _ hH hS (lv_sub hl [1, 0] rfl) hf
      · have hf := hg.2 c28
        refine lv_iload_n hx hb dX8_readsStep_23 rfl (lv_at hl 0 rfl) ?_
        refine lv_bipush (v := 120) hx hb dX8_readsStep_24 (by decide) ?_
        have hg := gif hf
        refine lv_icmp_eq (tgt := 43) hx hb dX8_readsStep_26 (by decide) (fun c29 => ?_) (fun c29 => ?_)
        · have hf := hg.1 c29
          exact B43 _ _ _ _ _ hH hS (lv_sub hl [1, 0] rfl) hf
        · have hf := hg.2 c29
          refine lv_iload_n hx hb dX8_readsStep_29 rfl (lv_at hl 0 rfl) ?_
          refine lv_bipush (v := 115) hx hb dX8_readsStep_30 (by decide) ?_
          have hg := gif hf
          refine lv_icmp_eq (tgt := 43) hx hb dX8_readsStep_32 (by decide) (fun c30 => ?_) (fun c30 => ?_)
          · have hf := hg.1 c30
            exact B43 _ _ _ _ _ hH hS (lv_sub hl [1, 0] rfl) hf
          · have hf := hg.2 c30
            refine lv_iload_n hx hb dX8_readsStep_35 rfl (lv_at hl 0 rfl) ?_
            refine lv_bipush (v := 108) hx hb dX8_readsStep_36 (by decide) ?_
            have hg := gif hf
            refine lv_icmp_eq (tgt := 43) hx hb dX8_readsStep_38 (by decide) (fun c31 => ?_) (fun c31 => ?_)
            · have hf := hg.1 c31
              exact B43 _ _ _ _ _ hH hS (lv_sub hl [1, 0] rfl) hf
            · have hf := hg.2 c31
              refine lv_iconst (v := 0) hx hb dX8_readsStep_41 (by decide) ?_
              have ho := Option.some.inj hf
              exact W.zret (v := 0) (ty := .boolean) hx hb hr rfl (fun t ht hW => ⟨⟨0, (), rfl, congrArg Prod.snd ho, hrPm ht ho hH⟩, hS.F ht⟩) hS.2.2 dX8_readsStep_42
set_option maxRecDepth 100000 in
set_option maxHeartbeats 8000000 in
theorem c8_findFault (l : Launch) (w : GW) (K : GK) (g : GM) (S : GS) (out : GS × Int32) (hf : f8_findFault S = some out) : Met l yX8_findFault (wA yX8_findFault cX8_findFault 2 (some .int)) ({ frames := 3, cells := 0, slots := 0, locals := 66 } : Room) (PRE w K g S [.ref w.2.2.2]) (QI w K g out.1 out.2) 0 0 (FR w) := by
  unfold f8_findFault at hf
  refine Met.ofW (cc := cX8_findFault) (maxL := 2) (ret := (some .int)) (by decide) rfl ?_
  intro p e s m args below meth c s₁ B hml hv
  obtain ⟨rfl, hH, hK⟩ := hv
  have hx := B.exec
  have hb := B.bytes
  have hr := B.returns
  have hts : ∀ q ∈ gALL, q.before _ s = true := fun q h => atoms_spec (ws := (wA yX8_findFault cX8_findFault 2 (some .int))) B.pre q (List.mem_cons_of_mem _ h)
  have hown : s.vm.findClass RX8 = some m.cls := findClass_of_methodNamed B.named
  have hlocks := B.notSynchronized
  have hS : va_S (FR w) s.heap s.heap [] := va_S.rf
  show W p l e ({ frames := 3, cells := 0, slots := 0, locals := 66 } : Room) s m _ below meth c s.heap [] 0 0 (MQ below (QI w K g out.1 out.2) _ s 0 0 (FR w)) _
  have hl := lv_entry ([.ref w.2.2.2]) (n := 2) (Nat.le_of_ble_eq_true rfl)
  rw [lg_entry_eq]
  generalize (lg_sl ([.ref w.2.2.2]) ++ List.replicate (2 - (lg_sl ([.ref w.2.2.2])).length) Slot.unset).toArray = ls at hl ⊢
  clear B
  generalize ([.ref w.2.2.2] : List Value).toArray = args at hts ⊢
  have B114 : ∀ (S : GS) (H : Heap) (locs : List Loc) (ls : Array Slot), HR w K g S H → va_S (FR w) s.heap H locs → lv_has ls 2 [(0, .ref w.2.2.2)] → f8_findFault_114 S = some out → W p l e ({ frames := 3, cells := 0, slots := 0, locals := 66 } : Room) s m args below meth c H locs 0 0 (MQ below (QI w K g out.1 out.2) args s 0 0 (FR w)) (F0 m 114 ls []) := by
    intro  S H locs ls hH hS hl hf
    unfold f8_findFault_114 at hf
    refine lv_aload_n hx hb dX8_findFault_114 rfl (lv_at hl 0 rfl) ?_
    refine e_8_7 hx hb hts hown hK hH (hts _ wd_263) dX8_findFault_115 ?_
    refine lv_goto (tgt := 123) hx hb dX8_findFault_118 (by decide) ?_
    have ho := Option.some.inj hf
    exact W.iret (v := (S 0 7)) hx hb hr (fun t ht hW => ⟨⟨(S 0 7), (), rfl, congrArg Prod.snd ho, hrPm ht ho hH⟩, hS.F ht⟩) hS.2.2 dX8_findFault_123
  have B99 : ∀ (k12 : GS → Int32 → Option (GS × Int32)), (∀ (S : GS) (x1 : Int32) (H : Heap) (locs : List Loc) (ls : Array Slot), HR w K g S H → va_S (FR w) s.heap H locs → lv_has ls 2 [(0, .ref w.2.2.2), (1, .int x1)] → k12 S x1 = some out → W p l e ({ frames := 3, cells := 0, slots := 0, locals := 66 } : Room) s m args below meth c H locs 0 0 (MQ below (QI w K g out.1 out.2) args s 0 0 (FR w)) (F0 m 12 ls [])) → ∀ (S : GS) (s0 : Int32) (H : Heap) (locs : List Loc) (ls : Array Slot), HR w K g S H → va_S (FR w) s.heap H locs → lv_has ls 2 [(0, .ref w.2.2.2)] → f8_findFault_99 k12 S s0 = some out → W p l e ({ frames := 3, cells := 0, slots := 0, locals := 66 } : Room) s m args below meth c H locs 0 0 (MQ below (QI w K g out.1 out.2) args s 0 0 (FR w)) (F0 m 99 ls [.int s0]) := by
    intro k12 hk12 S s0 H locs ls hH hS hl hf
    unfold f8_findFault_99 at hf
    refine lv_istore_n (lv' := [(1, .int s0), (0, .ref w.2.2.2)]) hx hb dX8_findFault_99 rfl hl (by decide) rfl (fun ls hl => ?_)
    refine lv_goto (tgt := 12) hx hb dX8_findFault_100 (by decide) ?_
    exact hk12 _ _ _ _ _ hH hS (lv_sub hl [1, 0] rfl) hf
  have B66 : ∀ (k12 : GS → Int32 → Option (GS × Int32)), (∀ (S : GS) (x1 : Int32) (H : Heap) (locs : List Loc) (ls : Array Slot), HR w K g S H → va_S (FR w) s.heap H locs → lv_has ls 2 [(0, .ref w.2.2.2), (1, .int x1)] → k12 S x1 = some out → W p l e ({ frames := 3, cells := 0, slots := 0, locals := 66 } : Room) s m args below meth c H locs 0 0 (MQ below (QI w K g out.1 out.2) args s 0 0 (FR w)) (F0 m 12 ls [])) → ∀ (S : GS) (H : Heap) (locs : List Loc) (ls : Array Slot), HR w K g S H → va_S (FR w) s.heap H locs → lv_has ls 2 [(0, .ref w.2.2.2)] → f8_findFault_66 k12 S = some out → W p l e ({ frames := 3, cells := 0, slots := 0, locals := 66 } : Room) s m args below meth c H locs 0 0 (MQ below (QI w K g out.1 out.2) args s 0 0 (FR w)) (F0 m 66 ls []) := by
    intro k12 hk12 S H locs ls hH hS hl hf
    unfold f8_findFault_66 at hf
    refine lv_aload_n hx hb dX8_findFault_66 rfl (lv_at hl 0 rfl) ?_
    obtain ⟨r1, h2, hf⟩ := gbind hf
    refine g_Vi (As := []) (rest := []) ⟨hx, hb, hml, hown, hts⟩ (c8_readsStep l w K g S r1 h2) (gcwV hts i8_readsStep wd_277 rfl rfl ⟨Nat.le_of_ble_eq_true rfl, Nat.le_of_ble_eq_true rfl⟩) (gRecv.of hK rfl hH.ob) hH hK hS hl.1 rfl rfl (Nat.le_of_ble_eq_true rfl) dX8_findFault_67 ⟨Nat.le_refl _, Nat.le_refl _⟩ (fun H locs hH hS => ?_)
    have hg := gif hf
    refine lv_if_ne (tgt := 78) hx hb dX8_findFault_70 (by decide) (fun c3 => ?_) (fun c3 => ?_)
    · have hf := hg.2 c3
      refine lv_aload_n hx hb dX8_findFault_78 rfl (lv_at hl 0 rfl) ?_
      refine e_8_6 hx hb hts hown hK hH (hts _ wd_106) dX8_findFault_79 ?_
      refine lv_aload_n hx hb dX8_findFault_82 rfl (lv_at hl 0 rfl) ?_
      refine e_8_8 hx hb hts hown hK hH (hts _ wd_271) dX8_findFault_83 ?_
      refine lv_iconst (v := 1) hx hb dX8_findFault_86 (by decide) ?_
      refine lv_isub hx hb dX8_findFault_87 ?_
      obtain ⟨h5, hf⟩ := gd_some hf
      refine m_iald hx hb hK hH 6 (by decide) (by decide) rfl h5 dX8_findFault_88 ?_
      refine lv_bipush (v := 40) hx hb dX8_findFault_89 (by decide) ?_
      have hg := gif hf
      refine lv_icmp_ne (tgt := 98) hx hb dX8_findFault_91 (by decide) (fun c6 => ?_) (fun c6 => ?_)
      · have hf := hg.2 c6
        refine lv_iconst (v := 0) hx hb dX8_findFault_98 (by decide) ?_
        exact B99 _ (hk12) _ _ _ _ _ hH hS (lv_sub hl [0] rfl) hf
      · have hf := hg.1 c6
        refine lv_iconst (v := 1) hx hb dX8_findFault_94 (by decide) ?_
        refine lv_goto (tgt := 99) hx hb dX8_findFault_95 (by decide) ?_
        exact B99 _ (hk12) _ _ _ _ _ hH hS (lv_sub hl [0] rfl) hf
    · have hf := hg.1 c3
      refine lv_aload_n hx hb dX8_findFault_73 rfl (lv_at hl 0 rfl) ?_
      refine e_8_8 hx hb hts hown hK hH (hts _ wd_271) dX8_findFault_74 ?_
      have ho := Option.some.inj hf
      exact W.iret (v := (r1.1 0 8)) hx hb hr (fun t ht hW => ⟨⟨(r1.1 0 8), (), rfl, congrArg Prod.snd ho, hrPm ht ho hH⟩, hS.F ht⟩) hS.2.2 dX8_findFault_77
  have B12 : ∀ n : Nat, ∀ (S : GS) (x1 : Int32) (H : Heap) (locs : List Loc) (ls : Array Slot), HR w K g S H → va_S (FR w) s.heap H locs → lv_has ls 2 [(0, .ref w.2.2.2), (1, .int x1)] → f8_findFault_12 n S x1 = some out → W p l e ({ frames := 3, cells := 0, slots := 0, locals := 66 } : Room) s m args below meth c H locs 0 0 (MQ below (QI w K g out.1 out.2) args s 0 0 (FR w)) (F0 m 12 ls []) := by
    intro n
    induction n with
    | zero =>
      intro S x1 H locs ls hH hS hl hf
      cases hf
    | succ n ih =>
      intro S x1 H locs ls hH hS hl hf
      rw [f8_findFault_12] at hf
      refine lv_aload_n hx hb dX8_findFault_12 rfl (lv_at hl 0 rfl) ?_
      refine e_8_8 hx hb hts hown hK hH (hts _ wd_271) dX8_findFault_13 ?_
      refine lv_aload_n hx hb dX8_findFault_16 rfl (lv_at hl 0 rfl) ?_
      refine e_8_7 hx hb hts hown hK hH (hts _ wd_263) dX8_findFault_17 ?_
      have hg := gif hf
      refine lv_icmp_ge (tgt := 103) hx hb dX8_findFault_20 (by decide) (fun c7 => ?_) (fun c7 => ?_)
      · have hf := hg.1 c7
        refine lv_iload_n hx hb dX8_findFault_103 rfl (lv_at hl 1 rfl) ?_
        have hg := gif hf
        refine lv_if_ne (tgt := 114) hx hb dX8_findFault_104 (by decide) (fun c8 => ?_) (fun c8 => ?_)
        · have hf := hg.2 c8
          exact B114 _ _ _ _ hH hS (lv_sub hl [0] rfl) hf
        · have hf := hg.1 c8
          refine lv_aload_n hx hb dX8_findFault_107 rfl (lv_at hl 0 rfl) ?_
          refine e_8_9 hx hb hts hown hK hH (hts _ wd_272) dX8_findFault_108 ?_
          have hg := gif hf
          refine lv_if_le (tgt := 121) hx hb dX8_findFault_111 (by decide) (fun c9 => ?_) (fun c9 => ?_)
          · have hf := hg.1 c9
            refine lv_bipush (v := (-6)) hx hb dX8_findFault_121 (by decide) ?_
            have ho := Option.some.inj hf
            exact W.iret (v := (-6)) hx hb hr (fun t ht hW => ⟨⟨(-6), (), rfl, congrArg Prod.snd ho, hrPm ht ho hH⟩, hS.F ht⟩) hS.2.2 dX8_findFault_123
          · have hf := hg.2 c9
            exact B114 _ _ _ _ hH hS (lv_sub hl [0] rfl) hf
      · have hf := hg.2 c7
        refine lv_aload_n hx hb dX8_findFault_23 rfl (lv_at hl 0 rfl) ?_
        obtain ⟨v10, h11, hf⟩ := gbind hf
        refine g_Vi (As := []) (rest := []) ⟨hx, hb, hml, hown, hts⟩ (c8_code l w K g S v10 h11) (gcwV hts i8_code wd_273 rfl rfl ⟨Nat.le_of_ble_eq_true rfl, Nat.le_of_ble_eq_true rfl⟩) (gRecv.of hK rfl hH.ob) hH hK hS hl.1 rfl rfl (Nat.le_of_ble_eq_true rfl) dX8_findFault_24 ⟨Nat.le_refl _, Nat.le_refl _⟩ (fun H locs hH hS => ?_)
        refine lv_bipush (v := 41) hx hb dX8_findFault_27 (by decide) ?_
        have hg := gif hf
        refine lv_icmp_ne (tgt := 66) hx hb dX8_findFault_29 (by decide) (fun c12 => ?_) (fun c12 => ?_)
        · have hf := hg.2 c12
          exact B66 _ (ih) _ _ _ _ hH hS (lv_sub hl [0] rfl) hf
        · have hf := hg.1 c12
          refine lv_aload_n hx hb dX8_findFault_32 rfl (lv_at hl 0 rfl) ?_
          refine e_8_9 hx hb hts hown hK hH (hts _ wd_272) dX8_findFault_33 ?_
          have hg := gif hf
          refine lv_if_le (tgt := 66) hx hb dX8_findFault_36 (by decide) (fun c13 => ?_) (fun c13 => ?_)
          · have hf := hg.1 c13
            exact B66 _ (ih) _ _ _ _ hH hS (lv_sub hl [0] rfl) hf
          · have hf := hg.2 c13
            refine lv_iload_n hx hb dX8_findFault_39 rfl (lv_at hl 1 rfl) ?_
            have hg := gif hf
            refine lv_if_ne (tgt := 66) hx hb dX8_findFault_40 (by decide) (fun c14 => ?_) (fun c14 => ?_)
            · have hf := hg.2 c14
              exact B66 _ (ih) _ _ _ _ hH hS (lv_sub hl [0] rfl) hf
            · have hf := hg.1 c14
              refine lv_aload_n hx hb dX8_findFault_43 rfl (lv_at hl 0 rfl) ?_
              refine lv_dup hx hb dX8_findFault_44 rfl ?_
              refine e_8_9 hx hb hts hown hK hH (hts _ wd_272) dX8_findFault_45 ?_
              refine lv_iconst (v := 1) hx hb dX8_findFault_48 (by decide) ?_
              refine lv_isub hx hb dX8_findFault_49 ?_
              refine p_8_9 hx hb hts hown hK hH hS (hts _ wd_272) dX8_findFault_50 (fun H locs hH hS => ?_)
              obtain ⟨S15, eS15⟩ : ∃ z : GS, z = ssI S 0 9 ((S 0 9) - 1) := ⟨_, rfl⟩
              have hf := gl_at hf eS15
              replace hH : HR w K g S15 H := by rw [eS15]; exact hH
              refine lv_aload_n hx hb dX8_findFault_53 rfl (lv_at hl 0 rfl) ?_
              refine lv_dup hx hb dX8_findFault_54 rfl ?_
              refine e_8_8 hx hb hts hown hK hH (hts _ wd_271) dX8_findFault_55 ?_
              refine lv_iconst (v := 1) hx hb dX8_findFault_58 (by decide) ?_
              refine lv_iadd hx hb dX8_findFault_59 ?_
              refine p_8_8 hx hb hts hown hK hH hS (hts _ wd_271) dX8_findFault_60 (fun H locs hH hS => ?_)
              obtain ⟨S16, eS16⟩ : ∃ z : GS, z = ssI S15 0 8 ((S15 0 8) + 1) := ⟨_, rfl⟩
              have hf := gl_at hf eS16
              replace hH : HR w K g S16 H := by rw [eS16]; exact hH
              refine lv_goto (tgt := 12) hx hb dX8_findFault_63 (by decide) ?_
              exact ih _ _ _ _ _ hH hS (lv_sub hl [0, 1] rfl) hf
  have hl : lv_has ls 2 [(0, .ref w.2.2.2)] := hl
  refine lv_aload_n hx hb dX8_findFault_0 rfl (lv_at hl 0 rfl) ?_
  refine lv_iconst (v := 0) hx hb dX8_findFault_1 (by decide) ?_
  refine p_8_8 hx hb hts hown hK hH hS (hts _ wd_271) dX8_findFault_2 (fun H locs hH hS => ?_)
  obtain ⟨S17, eS17⟩ : ∃ z : GS, z = ssI S 0 8 0 := ⟨_, rfl⟩
  have hf := gl_at hf eS17
  replace hH : HR w K g S17 H := by rw [eS17]; exact hH
  refine lv_aload_n hx hb dX8_findFault_5 rfl (lv_at hl 0 rfl) ?_
  refine lv_iconst (v := 0) hx hb dX8_findFault_6 (by decide) ?_
  refine p_8_9 hx hb hts hown hK hH hS (hts _ wd_272) dX8_findFault_7 (fun H locs hH hS => ?_)
  obtain ⟨S18, eS18⟩ : ∃ z : GS, z = ssI S17 0 9 0 := ⟨_, rfl⟩
  have hf := gl_at hf eS18
  replace hH : HR w K g S18 H := by rw [eS18]; exact hH
  refine lv_iconst (v := 1) hx hb dX8_findFault_10 (by decide) ?_
  refine lv_istore_n (lv' := [(1, .int 1), (0, .ref w.2.2.2)]) hx hb dX8_findFault_11 rfl hl (by decide) rfl (fun ls hl => ?_)
  exact B12 _ _ _ _ _ _ hH hS (lv_sub hl [1, 0] rfl) hf
set_option maxRecDepth 100000 in
set_option maxHeartbeats 8000000 in
theorem c8_isLetter (l : Launch) (w : GW) (K : GK) (g : GM) (S : GS) (p0 : Int32) (out : Int32) (hf : f8_isLetter p0 = some out) : Met l yX8_isLetter (wA yX8_isLetter cX8_isLetter 1 (some .boolean)) ({ frames := 1, cells := 0, slots := 0, locals := 22 } : Room) (PRE w K g S [.int p0]) (QI w K g S out) 0 0 (FR w) := by
  unfold f8_isLetter at hf
  refine Met.ofW (cc := cX8_isLetter) (maxL := 1) (ret := (some .boolean)) (by decide) rfl ?_
  intro p e s m args below meth c s₁ B hml hv
  obtain ⟨rfl, hH, hK⟩ := hv
  have hx := B.exec
  have hb := B.bytes
  have hr := B.returns
  have hts : ∀ q ∈ gALL, q.before _ s = true := fun q h => atoms_spec (ws := (wA yX8_isLetter cX8_isLetter 1 (some .boolean))) B.pre q (List.mem_cons_of_mem _ h)
  have hown : s.vm.findClass RX8 = some m.cls := findClass_of_methodNamed B.named
  have hlocks := B.notSynchronized
  have hS : va_S (FR w) s.heap s.heap [] := va_S.rf
  show W p l e ({ frames := 1, cells := 0, slots := 0, locals := 22 } : Room) s m _ below meth c s.heap [] 0 0 (MQ below (QI w K g S out) _ s 0 0 (FR w)) _
  have hl := lv_entry ([.int p0]) (n := 1) (Nat.le_of_ble_eq_true rfl)
  rw [lg_entry_eq]
  generalize (lg_sl ([.int p0]) ++ List.replicate (1 - (lg_sl ([.int p0])).length) Slot.unset).toArray = ls at hl ⊢
  clear B
  generalize ([.int p0] : List Value).toArray = args at hts ⊢
  have hl : lv_has ls 1 [(0, .int p0)] := hl
  refine lv_iload_n hx hb dX8_isLetter_0 rfl (lv_at hl 0 rfl) ?_
  refine lv_bipush (v := 97) hx hb dX8_isLetter_1 (by decide) ?_
  refine lv_bipush (v := 122) hx hb dX8_isLetter_3 (by decide) ?_
  obtain ⟨v1, h2, hf⟩ := gbind hf
  refine g_Si (As := [.int p0, .int 97, .int 122]) (rest := []) ⟨hx, hb, hml, hown, hts⟩ (c8_within l w K g S p0 97 122 v1 h2) (gcwS hts i8_within wd_155 rfl rfl ⟨Nat.le_of_ble_eq_true rfl, Nat.le_of_ble_eq_true rfl⟩) hH hK hS hl.1 rfl rfl (Nat.le_of_ble_eq_true rfl) dX8_isLetter_5 ⟨Nat.le_refl _, Nat.le_refl _⟩ (fun H locs hH hS => ?_)
  obtain ⟨h3, hf⟩ := gd_some hf
  have ho := Option.some.inj hf
  exact W.zret (v := v1) (ty := .boolean) hx hb hr (gbl_n h3) (fun t ht hW => ⟨⟨v1, (), rfl, ho, hrE ht hH⟩, hS.F ht⟩) hS.2.2 dX8_isLetter_8
set_option maxRecDepth 100000 in
set_option maxHeartbeats 8000000 in
theorem c8_steps (l : Launch) (w : GW) (K : GK) (g : GM) (S : GS) (p0 : Int32) (out : Int32) (hf : f8_steps S p0 = some out) : Met l yX8_steps (wA yX8_steps cX8_steps 4 (some .int)) ({ frames := 2, cells := 0, slots := 0, locals := 42 } : Room) (PRE w K g S [.ref w.2.2.2, .int p0]) (QI w K g S out) 0 0 (FR w) := by
  unfold f8_steps at hf
  refine Met.ofW (cc := cX8_steps) (maxL := 4) (ret := (some .int)) (by decide) rfl ?_
  intro p e s m args below meth c s₁ B hml hv
  obtain ⟨rfl, hH, hK⟩ := hv
  have hx := B.exec
  have hb := B.bytes
  have hr := B.returns
  have hts : ∀ q ∈ gALL, q.before _ s = true := fun q h => atoms_spec (ws := (wA yX8_steps cX8_steps 4 (some .int))) B.pre q (List.mem_cons_of_mem _ h)
  have hown : s.vm.findClass RX8 = some m.cls := findClass_of_methodNamed B.named
  have hlocks := B.notSynchronized
  have hS : va_S (FR w) s.heap s.heap [] := va_S.rf
  show W p l e ({ frames := 2, cells := 0, slots := 0, locals := 42 } : Room) s m _ below meth c s.heap [] 0 0 (MQ below (QI w K g S out) _ s 0 0 (FR w)) _
  have hl := lv_entry ([.ref w.2.2.2, .int p0]) (n := 4) (Nat.le_of_ble_eq_true rfl)
  rw [lg_entry_eq]
  generalize (lg_sl ([.ref w.2.2.2, .int p0]) ++ List.replicate (4 - (lg_sl ([.ref w.2.2.2, .int p0])).length) Slot.unset).toArray = ls at hl ⊢
  clear B
  generalize ([.ref w.2.2.2, .int p0] : List Value).toArray = args at hts ⊢
  have B35 : ∀ (k4 : Int32 → Int32 → Option (Int32)), (∀ (x2 : Int32) (x3 : Int32) (H : Heap) (locs : List Loc) (ls : Array Slot), HR w K g S H → va_S (FR w) s.heap H locs → lv_has ls 4 [(0, .ref w.2.2.2), (1, .int p0), (2, .int x2), (3, .int x3)] → k4 x2 x3 = some out → W p l e ({ frames := 2, cells := 0, slots := 0, locals := 42 } : Room) s m args below meth c H locs 0 0 (MQ below (QI w K g S out) args s 0 0 (FR w)) (F0 m 4 ls [])) → ∀ (x3 : Int32) (s0 : Int32) (s1 : Int32) (H : Heap) (locs : List Loc) (ls : Array Slot), HR w K g S H → va_S (FR w) s.heap H locs → lv_has ls 4 [(0, .ref w.2.2.2), (1, .int p0), (3, .int x3)] → f8_steps_35 k4 S p0 x3 s0 s1 = some out → W p l e ({ frames := 2, cells := 0, slots := 0, locals := 42 } : Room) s m args below meth c H locs 0 0 (MQ below (QI w K g S out) args s 0 0 (FR w)) (F0 m 35 ls [.int s1, .int s0]) := by
    intro k4 hk4 x3 s0 s1 H locs ls hH hS hl hf
    unfold f8_steps_35 at hf
    refine lv_iadd hx hb dX8_steps_35 ?_
    refine lv_topi (fun v1 ev1 => ?_)
    have hf := gl_at hf ev1
    refine lv_istore_n (lv' := [(2, .int v1), (0, .ref w.2.2.2), (1, .int p0), (3, .int x3)]) hx hb dX8_steps_36 rfl hl (by decide) rfl (fun ls hl => ?_)
    obtain ⟨v2, ev2⟩ : ∃ z : Int32, z = x3 + 1 := ⟨_, rfl⟩
    have hf := gl_at hf ev2
    refine lv_iinc (v := v2) (lv' := [(3, .int v2), (2, .int v1), (0, .ref w.2.2.2), (1, .int p0)]) hx hb dX8_steps_37 hl (k := 3) rfl (by rw [ev2]; rfl) (by decide) rfl (fun ls hl => ?_)
    refine lv_goto (tgt := 4) hx hb dX8_steps_40 (by decide) ?_
    exact hk4 _ _ _ _ _ hH hS (lv_sub hl [2, 3, 1, 0] rfl) hf
  have B4 : ∀ n : Nat, ∀ (x2 : Int32) (x3 : Int32) (H : Heap) (locs : List Loc) (ls : Array Slot), HR w K g S H → va_S (FR w) s.heap H locs → lv_has ls 4 [(0, .ref w.2.2.2), (1, .int p0), (2, .int x2), (3, .int x3)] → f8_steps_4 S p0 n x2 x3 = some out → W p l e ({ frames := 2, cells := 0, slots := 0, locals := 42 } : Room) s m args below meth c H locs 0 0 (MQ below (QI w K g S out) args s 0 0 (FR w)) (F0 m 4 ls []) := by
    intro n
    induction n with
    | zero =>
      intro x2 x3 H locs ls hH hS hl hf
      cases hf
    | succ n ih =>
      intro x2 x3 H locs ls hH hS hl hf
      rw [f8_steps_4] at hf
      refine lv_iload_n hx hb dX8_steps_4 rfl (lv_at hl 3 rfl) ?_
      refine lv_aload_n hx hb dX8_steps_5 rfl (lv_at hl 0 rfl) ?_
      refine e_8_0 hx hb hts hown hK hH (hts _ wd_101) dX8_steps_6 ?_
      refine lv_bipush (v := 43) hx hb dX8_steps_9 (by decide) ?_
      refine lv_iload_n hx hb dX8_steps_11 rfl (lv_at hl 1 rfl) ?_
      refine lv_iadd hx hb dX8_steps_12 ?_
      obtain ⟨h4, hf⟩ := gd_some hf
      refine m_iald hx hb hK hH 1 (by decide) (by decide) rfl h4 dX8_steps_13 ?_
      have hg := gif hf
      refine lv_icmp_ge (tgt := 43) hx hb dX8_steps_14 (by decide) (fun c5 => ?_) (fun c5 => ?_)
      · have hf := hg.1 c5
        refine lv_iload_n hx hb dX8_steps_43 rfl (lv_at hl 2 rfl) ?_
        have ho := Option.some.inj hf
        exact W.iret (v := x2) hx hb hr (fun t ht hW => ⟨⟨x2, (), rfl, ho, hrE ht hH⟩, hS.F ht⟩) hS.2.2 dX8_steps_44
      · have hf := hg.2 c5
        refine lv_iload_n hx hb dX8_steps_17 rfl (lv_at hl 2 rfl) ?_
        refine lv_aload_n hx hb dX8_steps_18 rfl (lv_at hl 0 rfl) ?_
        refine lv_iload_n hx hb dX8_steps_19 rfl (lv_at hl 1 rfl) ?_
        refine lv_iload_n hx hb dX8_steps_20 rfl (lv_at hl 3 rfl) ?_
        obtain ⟨v6, h7, hf⟩ := gbind hf
        refine g_Vi (As := [.int p0, .int x3]) (rest := [.int x2]) ⟨hx, hb, hml, hown, hts⟩ (c8_textAt l w K g S p0 x3 v6 h7) (gcwV hts i8_textAt wd_293 rfl rfl ⟨Nat.le_of_ble_eq_true rfl, Nat.le_of_ble_eq_true rfl⟩) (gRecv.of hK rfl hH.ob) hH hK hS hl.1 rfl rfl (Nat.le_of_ble_eq_true rfl) dX8_steps_21 ⟨Nat.le_refl _, Nat.le_refl _⟩ (fun H locs hH hS => ?_)
        obtain ⟨v8, h9, hf⟩ := gbind hf
        refine g_Si (As := [.int v6]) (rest := [.int x2]) ⟨hx, hb, hml, hown, hts⟩ (c8_isLetter l w K g S v6 v8 h9) (gcwS hts i8_isLetter wd_297 rfl rfl ⟨Nat.le_of_ble_eq_true rfl, Nat.le_of_ble_eq_true rfl⟩) hH hK hS hl.1 rfl rfl (Nat.le_of_ble_eq_true rfl) dX8_steps_24 ⟨Nat.le_refl _, Nat.le_refl _⟩ (fun H locs hH hS => ?_)
        have hg := gif hf
        refine lv_if_eq (tgt := 34) hx hb dX8_steps_27 (by decide) (fun c10 => ?_) (fun c10 => ?_)
        · have hf := hg.1 c10
          refine lv_iconst (v := 0) hx hb dX8_steps_34 (by decide) ?_
          exact B35 _ (ih) _ _ _ _ _ _ hH hS (lv_sub hl [0, 1, 3] rfl) hf
        · have hf := hg.2 c10
          refine lv_iconst (v := 1) hx hb dX8_steps_30 (by decide) ?_
          refine lv_goto (tgt := 35) hx hb dX8_steps_31 (by decide) ?_
          exact B35 _ (ih) _ _ _ _ _ _ hH hS (lv_sub hl [0, 1, 3] rfl) hf
  have hl : lv_has ls 4 [(0, .ref w.2.2.2), (1, .int p0)] := hl
  refine lv_iconst (v := 0) hx hb dX8_steps_0 (by decide) ?_
  refine lv_istore_n (lv' := [(2, .int 0), (0, .ref w.2.2.2), (1, .int p0)]) hx hb dX8_steps_1 rfl hl (by decide) rfl (fun ls hl => ?_)
  refine lv_iconst (v := 0) hx hb dX8_steps_2 (by decide) ?_
  refine lv_istore_n (lv' := [(3, .int 0), (2, .int 0), (0, .ref w.2.2.2), (1, .int p0)]) hx hb dX8_steps_3 rfl hl (by decide) rfl (fun ls hl => ?_)
  exact B4 _ _ _ _ _ _ hH hS (lv_sub hl [2, 3, 1, 0] rfl) hf
set_option maxRecDepth 100000 in
set_option maxHeartbeats 8000000 in
theorem c8_card (l : Launch) (w : GW) (K : GK) (g : GM) (S : GS) (p0 : Int32) (out : GS × Int32) (hf : f8_card S p0 = some out) : Met l yX8_card (wA yX8_card cX8_card 3 (some .int)) ({ frames := 4, cells := 0, slots := 0, locals := 87 } : Room) (PRE w K g S [.ref w.2.2.2, .int p0]) (QI w K g out.1 out.2) 0 0 (FR w) := by
  unfold f8_card at hf
  refine Met.ofW (cc := cX8_card) (maxL := 3) (ret := (some .int)) (by decide) rfl ?_
  intro p e s m args below meth c s₁ B hml hv
  obtain ⟨rfl, hH, hK⟩ := hv
  have hx := B.exec
  have hb := B.bytes
  have hr := B.returns
  have hts : ∀ q ∈ gALL, q.before _ s = true := fun q h => atoms_spec (ws := (wA yX8_card cX8_card 3 (some .int))) B.pre q (List.mem_cons_of_mem _ h)
  have hown : s.vm.findClass RX8 = some m.cls := findClass_of_methodNamed B.named
  have hlocks := B.notSynchronized
  have hS : va_S (FR w) s.heap s.heap [] := va_S.rf
  show W p l e ({ frames := 4, cells := 0, slots := 0, locals := 87 } : Room) s m _ below meth c s.heap [] 0 0 (MQ below (QI w K g out.1 out.2) _ s 0 0 (FR w)) _
  have hl := lv_entry ([.ref w.2.2.2, .int p0]) (n := 3) (Nat.le_of_ble_eq_true rfl)
  rw [lg_entry_eq]
  generalize (lg_sl ([.ref w.2.2.2, .int p0]) ++ List.replicate (3 - (lg_sl ([.ref w.2.2.2, .int p0])).length) Slot.unset).toArray = ls at hl ⊢
  clear B
  generalize ([.ref w.2.2.2, .int p0] : List Value).toArray = args at hts ⊢
  have B40 : ∀ n : Nat, ∀ (S : GS) (x2 : Int32) (H : Heap) (locs : List Loc) (ls : Array Slot), HR w K g S H → va_S (FR w) s.heap H locs → lv_has ls 3 [(0, .ref w.2.2.2), (1, .int p0), (2, .int x2)] → f8_card_40 p0 n S x2 = some out → W p l e ({ frames := 4, cells := 0, slots := 0, locals := 87 } : Room) s m args below meth c H locs 0 0 (MQ below (QI w K g out.1 out.2) args s 0 0 (FR w)) (F0 m 40 ls []) := by
    intro n
    induction n with
    | zero =>
      intro S x2 H locs ls hH hS hl hf
      cases hf
    | succ n ih =>
      intro S x2 H locs ls hH hS hl hf
      rw [f8_card_40] at hf
      refine lv_iload_n hx hb dX8_card_40 rfl (lv_at hl 2 rfl) ?_
      refine lv_aload_n hx hb dX8_card_41 rfl (lv_at hl 0 rfl) ?_
      refine e_8_7 hx hb hts hown hK hH (hts _ wd_263) dX8_card_42 ?_
      have hg := gif hf
      refine lv_icmp_ge (tgt := 74) hx hb dX8_card_45 (by decide) (fun c1 => ?_) (fun c1 => ?_)
      · have hf := hg.1 c1
        refine lv_aload_n hx hb dX8_card_74 rfl (lv_at hl 0 rfl) ?_
        refine lv_iconst (v := 0) hx hb dX8_card_75 (by decide) ?_
        refine p_8_7 hx hb hts hown hK hH hS (hts _ wd_263) dX8_card_76 (fun H locs hH hS => ?_)
        obtain ⟨S2, eS2⟩ : ∃ z : GS, z = ssI S 0 7 0 := ⟨_, rfl⟩
        have hf := gl_at hf eS2
        replace hH : HR w K g S2 H := by rw [eS2]; exact hH
        refine lv_aload_n hx hb dX8_card_79 rfl (lv_at hl 0 rfl) ?_
        refine lv_iload_n hx hb dX8_card_80 rfl (lv_at hl 1 rfl) ?_
        obtain ⟨v3, h4, hf⟩ := gbind hf
        refine g_Vi (As := [.int p0]) (rest := []) ⟨hx, hb, hml, hown, hts⟩ (c8_steps l w K g S2 p0 v3 h4) (gcwV hts i8_steps wd_289 rfl rfl ⟨Nat.le_of_ble_eq_true rfl, Nat.le_of_ble_eq_true rfl⟩) (gRecv.of hK rfl hH.ob) hH hK hS hl.1 rfl rfl (Nat.le_of_ble_eq_true rfl) dX8_card_81 ⟨Nat.le_refl _, Nat.le_refl _⟩ (fun H locs hH hS => ?_)
        have ho := Option.some.inj hf
        exact W.iret (v := v3) hx hb hr (fun t ht hW => ⟨⟨v3, (), rfl, congrArg Prod.snd ho, hrPm ht ho hH⟩, hS.F ht⟩) hS.2.2 dX8_card_84
      · have hf := hg.2 c1
        refine lv_aload_n hx hb dX8_card_48 rfl (lv_at hl 0 rfl) ?_
        refine e_8_0 hx hb hts hown hK hH (hts _ wd_101) dX8_card_49 ?_
        refine lv_bipush (v := 53) hx hb dX8_card_52 (by decide) ?_
        refine lv_bipush (v := 80) hx hb dX8_card_54 (by decide) ?_
        refine lv_iload_n hx hb dX8_card_56 rfl (lv_at hl 1 rfl) ?_
        refine lv_imul hx hb dX8_card_57 ?_
        refine lv_iadd hx hb dX8_card_58 ?_
        refine lv_iload_n hx hb dX8_card_59 rfl (lv_at hl 2 rfl) ?_
        refine lv_iadd hx hb dX8_card_60 ?_
        refine lv_aload_n hx hb dX8_card_61 rfl (lv_at hl 0 rfl) ?_
        refine e_8_6 hx hb hts hown hK hH (hts _ wd_106) dX8_card_62 ?_
        refine lv_iload_n hx hb dX8_card_65 rfl (lv_at hl 2 rfl) ?_
        obtain ⟨h6, hf⟩ := gd_some hf
        refine m_iald hx hb hK hH 6 (by decide) (by decide) rfl h6 dX8_card_66 ?_
        obtain ⟨h8, hf⟩ := gd_some hf
        refine m_iast hx hb hK hH hS 1 (by decide) (by decide) rfl h8 dX8_card_67 (fun H locs hH hS => ?_)
        obtain ⟨S9, eS9⟩ : ∃ z : GS, z = ssI S 1 ((53 + (80 * p0)) + x2).toNatClampNeg (S 6 x2.toNatClampNeg) := ⟨_, rfl⟩
        have hf := gl_at hf eS9
        replace hH : HR w K g S9 H := by rw [eS9]; exact hH
        obtain ⟨v10, ev10⟩ : ∃ z : Int32, z = x2 + 1 := ⟨_, rfl⟩
        have hf := gl_at hf ev10
        refine lv_iinc (v := v10) (lv' := [(2, .int v10), (0, .ref w.2.2.2), (1, .int p0)]) hx hb dX8_card_68 hl (k := 2) rfl (by rw [ev10]; rfl) (by decide) rfl (fun ls hl => ?_)
        refine lv_goto (tgt := 40) hx hb dX8_card_71 (by decide) ?_
        exact ih _ _ _ _ _ hH hS (lv_sub hl [1, 2, 0] rfl) hf
  have hl : lv_has ls 3 [(0, .ref w.2.2.2), (1, .int p0)] := hl
  refine lv_iload_n hx hb dX8_card_0 rfl (lv_at hl 1 rfl) ?_
  obtain ⟨v11, h12, hf⟩ := gbind hf
  refine g_Si (As := [.int p0]) (rest := []) ⟨hx, hb, hml, hown, hts⟩ (c8_isCard l w K g S p0 v11 h12) (gcwS hts i8_isCard wd_264 rfl rfl ⟨Nat.le_of_ble_eq_true rfl, Nat.le_of_ble_eq_true rfl⟩) hH hK hS hl.1 rfl rfl (Nat.le_of_ble_eq_true rfl) dX8_card_1 ⟨Nat.le_refl _, Nat.le_refl _⟩ (fun H locs hH hS => ?_)
  have hg := gif hf
  refine lv_if_ne (tgt := 9) hx hb dX8_card_4 (by decide) (fun c13 => ?_) (fun c13 => ?_)
  · have hf := hg.2 c13
    refine lv_aload_n hx hb dX8_card_9 rfl (lv_at hl 0 rfl) ?_
    obtain ⟨r14, h15, hf⟩ := gbind hf
    refine g_Vi (As := []) (rest := []) ⟨hx, hb, hml, hown, hts⟩ (c8_findFault l w K g S r14 h15) (gcwV hts i8_findFault wd_267 rfl rfl ⟨Nat.le_of_ble_eq_true rfl, Nat.le_of_ble_eq_true rfl⟩) (gRecv.of hK rfl hH.ob) hH hK hS hl.1 rfl rfl (Nat.le_of_ble_eq_true rfl) dX8_card_10 ⟨Nat.le_refl _, Nat.le_refl _⟩ (fun H locs hH hS => ?_)
    refine lv_bipush (v := (-6)) hx hb dX8_card_13 (by decide) ?_
    have hg := gif hf
    refine lv_icmp_eq (tgt := 21) hx hb dX8_card_15 (by decide) (fun c16 => ?_) (fun c16 => ?_)
    · have hf := hg.1 c16
      refine lv_aload_n hx hb dX8_card_21 rfl (lv_at hl 0 rfl) ?_
      obtain ⟨g17, h18, hf⟩ := gbind hf
      refine g_Vv (As := []) (rest := []) ⟨hx, hb, hml, hown, hts⟩ (c8_record l w K g r14.1 g17 h18) (gcwV hts i8_record wd_161 rfl rfl ⟨Nat.le_of_ble_eq_true rfl, Nat.le_of_ble_eq_true rfl⟩) (gRecv.of hK rfl hH.ob) hH hK hS hl.1 rfl rfl (Nat.le_of_ble_eq_true rfl) dX8_card_22 ⟨Nat.le_refl _, Nat.le_refl _⟩ (fun H locs hH hS => ?_)
      refine lv_aload_n hx hb dX8_card_25 rfl (lv_at hl 0 rfl) ?_
      refine e_8_0 hx hb hts hown hK hH (hts _ wd_101) dX8_card_26 ?_
      refine lv_bipush (v := 43) hx hb dX8_card_29 (by decide) ?_
      refine lv_iload_n hx hb dX8_card_31 rfl (lv_at hl 1 rfl) ?_
      refine lv_iadd hx hb dX8_card_32 ?_
      refine lv_aload_n hx hb dX8_card_33 rfl (lv_at hl 0 rfl) ?_
      refine e_8_7 hx hb hts hown hK hH (hts _ wd_263) dX8_card_34 ?_
      obtain ⟨h20, hf⟩ := gd_some hf
      refine m_iast hx hb hK hH hS 1 (by decide) (by decide) rfl h20 dX8_card_37 (fun H locs hH hS => ?_)
      obtain ⟨S21, eS21⟩ : ∃ z : GS, z = ssI g17 1 (43 + p0).toNatClampNeg (g17 0 7) := ⟨_, rfl⟩
      have hf := gl_at hf eS21
      replace hH : HR w K g S21 H := by rw [eS21]; exact hH
      refine lv_iconst (v := 0) hx hb dX8_card_38 (by decide) ?_
      refine lv_istore_n (lv' := [(2, .int 0), (0, .ref w.2.2.2), (1, .int p0)]) hx hb dX8_card_39 rfl hl (by decide) rfl (fun ls hl => ?_)
      exact B40 _ _ _ _ _ _ hH hS (lv_sub hl [1, 2, 0] rfl) hf
    · have hf := hg.2 c16
      refine lv_bipush (v := (-3)) hx hb dX8_card_18 (by decide) ?_
      have ho := Option.some.inj hf
      exact W.iret (v := (-3)) hx hb hr (fun t ht hW => ⟨⟨(-3), (), rfl, congrArg Prod.snd ho, hrPm ht ho hH⟩, hS.F ht⟩) hS.2.2 dX8_card_20
  · have hf := hg.1 c13
    refine lv_iconst (v := (-1)) hx hb dX8_card_7 (by decide) ?_
    have ho := Option.some.inj hf
    exact W.iret (v := (-1)) hx hb hr (fun t ht hW => ⟨⟨(-1), (), rfl, congrArg Prod.snd ho, hrPm ht ho hH⟩, hS.F ht⟩) hS.2.2 dX8_card_8
set_option maxRecDepth 100000 in
set_option maxHeartbeats 8000000 in
theorem c8_isCharacter (l : Launch) (w : GW) (K : GK) (g : GM) (S : GS) (p0 : Int32) (out : Int32) (hf : f8_isCharacter p0 = some out) : Met l yX8_isCharacter (wA yX8_isCharacter cX8_isCharacter 1 (some .boolean)) ({ frames := 1, cells := 0, slots := 0, locals := 22 } : Room) (PRE w K g S [.int p0]) (QI w K g S out) 0 0 (FR w) := by
  unfold f8_isCharacter at hf
  refine Met.ofW (cc := cX8_isCharacter) (maxL := 1) (ret := (some .boolean)) (by decide) rfl ?_
  intro p e s m args below meth c s₁ B hml hv
  obtain ⟨rfl, hH, hK⟩ := hv
  have hx := B.exec
  have hb := B.bytes
  have hr := B.returns
  have hts : ∀ q ∈ gALL, q.before _ s = true := fun q h => atoms_spec (ws := (wA yX8_isCharacter cX8_isCharacter 1 (some .boolean))) B.pre q (List.mem_cons_of_mem _ h)
  have hown : s.vm.findClass RX8 = some m.cls := findClass_of_methodNamed B.named
  have hlocks := B.notSynchronized
  have hS : va_S (FR w) s.heap s.heap [] := va_S.rf
  show W p l e ({ frames := 1, cells := 0, slots := 0, locals := 22 } : Room) s m _ below meth c s.heap [] 0 0 (MQ below (QI w K g S out) _ s 0 0 (FR w)) _
  have hl := lv_entry ([.int p0]) (n := 1) (Nat.le_of_ble_eq_true rfl)
  rw [lg_entry_eq]
  generalize (lg_sl ([.int p0]) ++ List.replicate (1 - (lg_sl ([.int p0])).length) Slot.unset).toArray = ls at hl ⊢
  clear B
  generalize ([.int p0] : List Value).toArray = args at hts ⊢
  have hl : lv_has ls 1 [(0, .int p0)] := hl
  refine lv_iload_n hx hb dX8_isCharacter_0 rfl (lv_at hl 0 rfl) ?_
  refine lv_bipush (v := 33) hx hb dX8_isCharacter_1 (by decide) ?_
  refine lv_bipush (v := 126) hx hb dX8_isCharacter_3 (by decide) ?_
  obtain ⟨v1, h2, hf⟩ := gbind hf
  refine g_Si (As := [.int p0, .int 33, .int 126]) (rest := []) ⟨hx, hb, hml, hown, hts⟩ (c8_within l w K g S p0 33 126 v1 h2) (gcwS hts i8_within wd_155 rfl rfl ⟨Nat.le_of_ble_eq_true rfl, Nat.le_of_ble_eq_true rfl⟩) hH hK hS hl.1 rfl rfl (Nat.le_of_ble_eq_true rfl) dX8_isCharacter_5 ⟨Nat.le_refl _, Nat.le_refl _⟩ (fun H locs hH hS => ?_)
  obtain ⟨h3, hf⟩ := gd_some hf
  have ho := Option.some.inj hf
  exact W.zret (v := v1) (ty := .boolean) hx hb hr (gbl_n h3) (fun t ht hW => ⟨⟨v1, (), rfl, ho, hrE ht hH⟩, hS.F ht⟩) hS.2.2 dX8_isCharacter_8
set_option maxRecDepth 100000 in
set_option maxHeartbeats 8000000 in
theorem c8_charactersIn (l : Launch) (w : GW) (K : GK) (g : GM) (S : GS) (p0 : Int64) (out : Int32) (hf : f8_charactersIn p0 = some out) : Met l yX8_charactersIn (wA yX8_charactersIn cX8_charactersIn 5 (some .int)) ({ frames := 2, cells := 0, slots := 0, locals := 42 } : Room) (PRE w K g S [.long p0]) (QI w K g S out) 0 0 (FR w) := by
  unfold f8_charactersIn at hf
  refine Met.ofW (cc := cX8_charactersIn) (maxL := 5) (ret := (some .int)) (by decide) rfl ?_
  intro p e s m args below meth c s₁ B hml hv
  obtain ⟨rfl, hH, hK⟩ := hv
  have hx := B.exec
  have hb := B.bytes
  have hr := B.returns
  have hts : ∀ q ∈ gALL, q.before _ s = true := fun q h => atoms_spec (ws := (wA yX8_charactersIn cX8_charactersIn 5 (some .int))) B.pre q (List.mem_cons_of_mem _ h)
  have hown : s.vm.findClass RX8 = some m.cls := findClass_of_methodNamed B.named
  have hlocks := B.notSynchronized
  have hS : va_S (FR w) s.heap s.heap [] := va_S.rf
  show W p l e ({ frames := 2, cells := 0, slots := 0, locals := 42 } : Room) s m _ below meth c s.heap [] 0 0 (MQ below (QI w K g S out) _ s 0 0 (FR w)) _
  have hl := lv_entry ([.long p0]) (n := 5) (Nat.le_of_ble_eq_true rfl)
  rw [lg_entry_eq]
  generalize (lg_sl ([.long p0]) ++ List.replicate (5 - (lg_sl ([.long p0])).length) Slot.unset).toArray = ls at hl ⊢
  clear B
  generalize ([.long p0] : List Value).toArray = args at hts ⊢
  have B45 : ∀ (x2 : Int32) (x3 : Int64) (H : Heap) (locs : List Loc) (ls : Array Slot), HR w K g S H → va_S (FR w) s.heap H locs → lv_has ls 5 [(2, .int x2), (3, .long x3)] → f8_charactersIn_45 p0 x2 x3 = some out → W p l e ({ frames := 2, cells := 0, slots := 0, locals := 42 } : Room) s m args below meth c H locs 0 0 (MQ below (QI w K g S out) args s 0 0 (FR w)) (F0 m 45 ls []) := by
    intro  x2 x3 H locs ls hH hS hl hf
    unfold f8_charactersIn_45 at hf
    refine lv_lload_n hx hb dX8_charactersIn_45 rfl (lv_at hl 1 rfl) ?_
    refine lv_lconst (v := 0) hx hb dX8_charactersIn_46 (by decide) ?_
    refine W.lcmp hx hb dX8_charactersIn_47 ?_
    have hg := gif hf
    refine lv_if_ne (tgt := 55) hx hb dX8_charactersIn_48 (by decide) (fun c1 => ?_) (fun c1 => ?_)
    · have hf := hg.2 c1
      refine lv_iconst (v := 0) hx hb dX8_charactersIn_55 (by decide) ?_
      have ho := Option.some.inj hf
      exact W.iret (v := 0) hx hb hr (fun t ht hW => ⟨⟨0, (), rfl, ho, hrE ht hH⟩, hS.F ht⟩) hS.2.2 dX8_charactersIn_56
    · have hf := hg.1 c1
      refine lv_iload_n hx hb dX8_charactersIn_51 rfl (lv_at hl 0 rfl) ?_
      refine lv_goto (tgt := 56) hx hb dX8_charactersIn_52 (by decide) ?_
      have ho := Option.some.inj hf
      exact W.iret (v := x2) hx hb hr (fun t ht hW => ⟨⟨x2, (), rfl, ho, hrE ht hH⟩, hS.F ht⟩) hS.2.2 dX8_charactersIn_56
  have B4 : ∀ n : Nat, ∀ (x2 : Int32) (x3 : Int64) (H : Heap) (locs : List Loc) (ls : Array Slot), HR w K g S H → va_S (FR w) s.heap H locs → lv_has ls 5 [(2, .int x2), (3, .long x3)] → f8_charactersIn_4 p0 n x2 x3 = some out → W p l e ({ frames := 2, cells := 0, slots := 0, locals := 42 } : Room) s m args below meth c H locs 0 0 (MQ below (QI w K g S out) args s 0 0 (FR w)) (F0 m 4 ls []) := by
    intro n
    induction n with
    | zero =>
      intro x2 x3 H locs ls hH hS hl hf
      cases hf
    | succ n ih =>
      intro x2 x3 H locs ls hH hS hl hf
      rw [f8_charactersIn_4] at hf
      refine lv_iload_n hx hb dX8_charactersIn_4 rfl (lv_at hl 0 rfl) ?_
      refine lv_bipush (v := 8) hx hb dX8_charactersIn_5 (by decide) ?_
      have hg := gif hf
      refine lv_icmp_ge (tgt := 45) hx hb dX8_charactersIn_7 (by decide) (fun c2 => ?_) (fun c2 => ?_)
      · have hf := hg.1 c2
        exact B45 _ _ _ _ _ hH hS (lv_sub hl [0, 1] rfl) hf
      · have hf := hg.2 c2
        refine lv_lload_n hx hb dX8_charactersIn_10 rfl (lv_at hl 1 rfl) ?_
        refine lv_ldc2 (v := 255) hx hb hown (hts _ wd_885) dX8_charactersIn_11 ?_
        refine lv_land hx hb dX8_charactersIn_14 ?_
        refine lv_lconst (v := 0) hx hb dX8_charactersIn_15 (by decide) ?_
        refine W.lcmp hx hb dX8_charactersIn_16 ?_
        have hg := gif hf
        refine lv_if_eq (tgt := 45) hx hb dX8_charactersIn_17 (by decide) (fun c3 => ?_) (fun c3 => ?_)
        · have hf := hg.1 c3
          exact B45 _ _ _ _ _ hH hS (lv_sub hl [0, 1] rfl) hf
        · have hf := hg.2 c3
          refine lv_lload_n hx hb dX8_charactersIn_20 rfl (lv_at hl 1 rfl) ?_
          refine lv_ldc2 (v := 255) hx hb hown (hts _ wd_885) dX8_charactersIn_21 ?_
          refine lv_land hx hb dX8_charactersIn_24 ?_
          refine lv_l2i hx hb dX8_charactersIn_25 rfl ?_
          obtain ⟨v4, h5, hf⟩ := gbind hf
          refine g_Si (As := [.int ((x3 &&& ((255 : Int64))).toInt32)]) (rest := []) ⟨hx, hb, hml, hown, hts⟩ (c8_isCharacter l w K g S ((x3 &&& ((255 : Int64))).toInt32) v4 h5) (gcwS hts i8_isCharacter wd_889 rfl rfl ⟨Nat.le_of_ble_eq_true rfl, Nat.le_of_ble_eq_true rfl⟩) hH hK hS hl.1 rfl rfl (Nat.le_of_ble_eq_true rfl) dX8_charactersIn_26 ⟨Nat.le_refl _, Nat.le_refl _⟩ (fun H locs hH hS => ?_)
          have hg := gif hf
          refine lv_if_ne (tgt := 34) hx hb dX8_charactersIn_29 (by decide) (fun c6 => ?_) (fun c6 => ?_)
          · have hf := hg.2 c6
            refine lv_lload_n hx hb dX8_charactersIn_34 rfl (lv_at hl 1 rfl) ?_
            refine lv_bipush (v := 8) hx hb dX8_charactersIn_35 (by decide) ?_
            refine lv_lushr hx hb dX8_charactersIn_37 rfl ?_
            refine lv_topl (fun v7 ev7 => ?_)
            have hf := gl_at hf ev7
            refine lv_lstore_n (lv' := [(3, .long v7), (2, .int x2)]) hx hb dX8_charactersIn_38 rfl hl (by decide) rfl (fun ls hl => ?_)
            obtain ⟨v8, ev8⟩ : ∃ z : Int32, z = x2 + 1 := ⟨_, rfl⟩
            have hf := gl_at hf ev8
            refine lv_iinc (v := v8) (lv' := [(2, .int v8), (3, .long v7)]) hx hb dX8_charactersIn_39 hl (k := 1) rfl (by rw [ev8]; rfl) (by decide) rfl (fun ls hl => ?_)
            refine lv_goto (tgt := 4) hx hb dX8_charactersIn_42 (by decide) ?_
            exact ih _ _ _ _ _ hH hS (lv_sub hl [0, 1] rfl) hf
          · have hf := hg.1 c6
            refine lv_iconst (v := 0) hx hb dX8_charactersIn_32 (by decide) ?_
            have ho := Option.some.inj hf
            exact W.iret (v := 0) hx hb hr (fun t ht hW => ⟨⟨0, (), rfl, ho, hrE ht hH⟩, hS.F ht⟩) hS.2.2 dX8_charactersIn_33
  have hl : lv_has ls 5 [(0, .long p0)] := hl
  refine lv_iconst (v := 0) hx hb dX8_charactersIn_0 (by decide) ?_
  refine lv_istore_n (lv' := [(2, .int 0), (0, .long p0)]) hx hb dX8_charactersIn_1 rfl hl (by decide) rfl (fun ls hl => ?_)
  refine lv_lload_n hx hb dX8_charactersIn_2 rfl (lv_at hl 1 rfl) ?_
  refine lv_lstore_n (lv' := [(3, .long p0), (2, .int 0), (0, .long p0)]) hx hb dX8_charactersIn_3 rfl hl (by decide) rfl (fun ls hl => ?_)
  exact B4 _ _ _ _ _ _ hH hS (lv_sub hl [1, 0] rfl) hf
set_option maxRecDepth 100000 in
set_option maxHeartbeats 8000000 in
theorem c8_withTexts (l : Launch) (w : GW) (K : GK) (g : GM) (S : GS) (out : Int32) (hf : f8_withTexts S = some out) : Met l yX8_withTexts (wA yX8_withTexts cX8_withTexts 3 (some .int)) ({ frames := 1, cells := 0, slots := 0, locals := 21 } : Room) (PRE w K g S [.ref w.2.2.2]) (QI w K g S out) 0 0 (FR w) := by
  unfold f8_withTexts at hf
  refine Met.ofW (cc := cX8_withTexts) (maxL := 3) (ret := (some .int)) (by decide) rfl ?_
  intro p e s m args below meth c s₁ B hml hv
  obtain ⟨rfl, hH, hK⟩ := hv
  have hx := B.exec
  have hb := B.bytes
  have hr := B.returns
  have hts : ∀ q ∈ gALL, q.before _ s = true := fun q h => atoms_spec (ws := (wA yX8_withTexts cX8_withTexts 3 (some .int))) B.pre q (List.mem_cons_of_mem _ h)
  have hown : s.vm.findClass RX8 = some m.cls := findClass_of_methodNamed B.named
  have hlocks := B.notSynchronized
  have hS : va_S (FR w) s.heap s.heap [] := va_S.rf
  show W p l e ({ frames := 1, cells := 0, slots := 0, locals := 21 } : Room) s m _ below meth c s.heap [] 0 0 (MQ below (QI w K g S out) _ s 0 0 (FR w)) _
  have hl := lv_entry ([.ref w.2.2.2]) (n := 3) (Nat.le_of_ble_eq_true rfl)
  rw [lg_entry_eq]
  generalize (lg_sl ([.ref w.2.2.2]) ++ List.replicate (3 - (lg_sl ([.ref w.2.2.2])).length) Slot.unset).toArray = ls at hl ⊢
  clear B
  generalize ([.ref w.2.2.2] : List Value).toArray = args at hts ⊢
  have B26 : ∀ (k4 : Int32 → Int32 → Option (Int32)), (∀ (x1 : Int32) (x2 : Int32) (H : Heap) (locs : List Loc) (ls : Array Slot), HR w K g S H → va_S (FR w) s.heap H locs → lv_has ls 3 [(0, .ref w.2.2.2), (1, .int x1), (2, .int x2)] → k4 x1 x2 = some out → W p l e ({ frames := 1, cells := 0, slots := 0, locals := 21 } : Room) s m args below meth c H locs 0 0 (MQ below (QI w K g S out) args s 0 0 (FR w)) (F0 m 4 ls [])) → ∀ (x2 : Int32) (s0 : Int32) (s1 : Int32) (H : Heap) (locs : List Loc) (ls : Array Slot), HR w K g S H → va_S (FR w) s.heap H locs → lv_has ls 3 [(0, .ref w.2.2.2), (2, .int x2)] → f8_withTexts_26 k4 S x2 s0 s1 = some out → W p l e ({ frames := 1, cells := 0, slots := 0, locals := 21 } : Room) s m args below meth c H locs 0 0 (MQ below (QI w K g S out) args s 0 0 (FR w)) (F0 m 26 ls [.int s1, .int s0]) := by
    intro k4 hk4 x2 s0 s1 H locs ls hH hS hl hf
    unfold f8_withTexts_26 at hf
    refine lv_ior hx hb dX8_withTexts_26 ?_
    refine lv_topi (fun v1 ev1 => ?_)
    have hf := gl_at hf ev1
    refine lv_istore_n (lv' := [(1, .int v1), (0, .ref w.2.2.2), (2, .int x2)]) hx hb dX8_withTexts_27 rfl hl (by decide) rfl (fun ls hl => ?_)
    obtain ⟨v2, ev2⟩ : ∃ z : Int32, z = x2 + 1 := ⟨_, rfl⟩
    have hf := gl_at hf ev2
    refine lv_iinc (v := v2) (lv' := [(2, .int v2), (1, .int v1), (0, .ref w.2.2.2)]) hx hb dX8_withTexts_28 hl (k := 2) rfl (by rw [ev2]; rfl) (by decide) rfl (fun ls hl => ?_)
    refine lv_goto (tgt := 4) hx hb dX8_withTexts_31 (by decide) ?_
    exact hk4 _ _ _ _ _ hH hS (lv_sub hl [2, 1, 0] rfl) hf
  have B4 : ∀ n : Nat, ∀ (x1 : Int32) (x2 : Int32) (H : Heap) (locs : List Loc) (ls : Array Slot), HR w K g S H → va_S (FR w) s.heap H locs → lv_has ls 3 [(0, .ref w.2.2.2), (1, .int x1), (2, .int x2)] → f8_withTexts_4 S n x1 x2 = some out → W p l e ({ frames := 1, cells := 0, slots := 0, locals := 21 } : Room) s m args below meth c H locs 0 0 (MQ below (QI w K g S out) args s 0 0 (FR w)) (F0 m 4 ls []) := by
    intro n
    induction n with
    | zero =>
      intro x1 x2 H locs ls hH hS hl hf
      cases hf
    | succ n ih =>
      intro x1 x2 H locs ls hH hS hl hf
      rw [f8_withTexts_4] at hf
      refine lv_iload_n hx hb dX8_withTexts_4 rfl (lv_at hl 2 rfl) ?_
      refine lv_bipush (v := 10) hx hb dX8_withTexts_5 (by decide) ?_
      have hg := gif hf
      refine lv_icmp_ge (tgt := 34) hx hb dX8_withTexts_7 (by decide) (fun c3 => ?_) (fun c3 => ?_)
      · have hf := hg.1 c3
        refine lv_iload_n hx hb dX8_withTexts_34 rfl (lv_at hl 1 rfl) ?_
        have ho := Option.some.inj hf
        exact W.iret (v := x1) hx hb hr (fun t ht hW => ⟨⟨x1, (), rfl, ho, hrE ht hH⟩, hS.F ht⟩) hS.2.2 dX8_withTexts_35
      · have hf := hg.2 c3
        refine lv_iload_n hx hb dX8_withTexts_10 rfl (lv_at hl 1 rfl) ?_
        refine lv_aload_n hx hb dX8_withTexts_11 rfl (lv_at hl 0 rfl) ?_
        refine lv_iload_n hx hb dX8_withTexts_12 rfl (lv_at hl 2 rfl) ?_
        obtain ⟨v4, h5, hf⟩ := gbind hf
        refine g_Vi (As := [.int x2]) (rest := [.int x1]) ⟨hx, hb, hml, hown, hts⟩ (c8_hasText l w K g S x2 v4 h5) (gcwV hts i8_hasText wd_318 rfl rfl ⟨Nat.le_of_ble_eq_true rfl, Nat.le_of_ble_eq_true rfl⟩) (gRecv.of hK rfl hH.ob) hH hK hS hl.1 rfl rfl (Nat.le_of_ble_eq_true rfl) dX8_withTexts_13 ⟨Nat.le_refl _, Nat.le_refl _⟩ (fun H locs hH hS => ?_)
        have hg := gif hf
        refine lv_if_eq (tgt := 25) hx hb dX8_withTexts_16 (by decide) (fun c6 => ?_) (fun c6 => ?_)
        · have hf := hg.1 c6
          refine lv_iconst (v := 0) hx hb dX8_withTexts_25 (by decide) ?_
          exact B26 _ (ih) _ _ _ _ _ _ hH hS (lv_sub hl [0, 2] rfl) hf
        · have hf := hg.2 c6
          refine lv_iconst (v := 1) hx hb dX8_withTexts_19 (by decide) ?_
          refine lv_iload_n hx hb dX8_withTexts_20 rfl (lv_at hl 2 rfl) ?_
          refine lv_ishl hx hb dX8_withTexts_21 ?_
          refine lv_goto (tgt := 26) hx hb dX8_withTexts_22 (by decide) ?_
          exact B26 _ (ih) _ _ _ _ _ _ hH hS (lv_sub hl [0, 2] rfl) hf
  have hl : lv_has ls 3 [(0, .ref w.2.2.2)] := hl
  refine lv_iconst (v := 0) hx hb dX8_withTexts_0 (by decide) ?_
  refine lv_istore_n (lv' := [(1, .int 0), (0, .ref w.2.2.2)]) hx hb dX8_withTexts_1 rfl hl (by decide) rfl (fun ls hl => ?_)
  refine lv_iconst (v := 0) hx hb dX8_withTexts_2 (by decide) ?_
  refine lv_istore_n (lv' := [(2, .int 0), (1, .int 0), (0, .ref w.2.2.2)]) hx hb dX8_withTexts_3 rfl hl (by decide) rfl (fun ls hl => ?_)
  exact B4 _ _ _ _ _ _ hH hS (lv_sub hl [2, 1, 0] rfl) hf
set_option maxRecDepth 100000 in
set_option maxHeartbeats 8000000 in
theorem c8_sumOf (l : Launch) (w : GW) (K : GK) (g : GM) (S : GS) (p0 : Int32) (out : Int32) (hf : f8_sumOf S p0 = some out) : Met l yX8_sumOf (wA yX8_sumOf cX8_sumOf 4 (some .int)) ({ frames := 0, cells := 0, slots := 0, locals := 0 } : Room) (PRE w K g S [.ref w.2.2.2, .int p0]) (QI w K g S out) 0 0 (FR w) := by
  unfold f8_sumOf at hf
  refine Met.ofW (cc := cX8_sumOf) (maxL := 4) (ret := (some .int)) (by decide) rfl ?_
  intro p e s m args below meth c s₁ B hml hv
  obtain ⟨rfl, hH, hK⟩ := hv
  have hx := B.exec
  have hb := B.bytes
  have hr := B.returns
  have hts : ∀ q ∈ gALL, q.before _ s = true := fun q h => atoms_spec (ws := (wA yX8_sumOf cX8_sumOf 4 (some .int))) B.pre q (List.mem_cons_of_mem _ h)
  have hown : s.vm.findClass RX8 = some m.cls := findClass_of_methodNamed B.named
  have hlocks := B.notSynchronized
  have hS : va_S (FR w) s.heap s.heap [] := va_S.rf
  show W p l e ({ frames := 0, cells := 0, slots := 0, locals := 0 } : Room) s m _ below meth c s.heap [] 0 0 (MQ below (QI w K g S out) _ s 0 0 (FR w)) _
  have hl := lv_entry ([.ref w.2.2.2, .int p0]) (n := 4) (Nat.le_of_ble_eq_true rfl)
  rw [lg_entry_eq]
  generalize (lg_sl ([.ref w.2.2.2, .int p0]) ++ List.replicate (4 - (lg_sl ([.ref w.2.2.2, .int p0])).length) Slot.unset).toArray = ls at hl ⊢
  clear B
  generalize ([.ref w.2.2.2, .int p0] : List Value).toArray = args at hts ⊢
  have B4 : ∀ n : Nat, ∀ (x2 : Int32) (x3 : Int32) (H : Heap) (locs : List Loc) (ls : Array Slot), HR w K g S H → va_S (FR w) s.heap H locs → lv_has ls 4 [(0, .ref w.2.2.2), (1, .int p0), (2, .int x2), (3, .int x3)] → f8_sumOf_4 S p0 n x2 x3 = some out → W p l e ({ frames := 0, cells := 0, slots := 0, locals := 0 } : Room) s m args below meth c H locs 0 0 (MQ below (QI w K g S out) args s 0 0 (FR w)) (F0 m 4 ls []) := by
    intro n
    induction n with
    | zero =>
      intro x2 x3 H locs ls hH hS hl hf
      cases hf
    | succ n ih =>
      intro x2 x3 H locs ls hH hS hl hf
      rw [f8_sumOf_4] at hf
      refine lv_iload_n hx hb dX8_sumOf_4 rfl (lv_at hl 3 rfl) ?_
      refine lv_bipush (v := 6) hx hb dX8_sumOf_5 (by decide) ?_
      have hg := gif hf
      refine lv_icmp_ge (tgt := 27) hx hb dX8_sumOf_7 (by decide) (fun c1 => ?_) (fun c1 => ?_)
      · have hf := hg.1 c1
        refine lv_iload_n hx hb dX8_sumOf_27 rfl (lv_at hl 2 rfl) ?_
        have ho := Option.some.inj hf
        exact W.iret (v := x2) hx hb hr (fun t ht hW => ⟨⟨x2, (), rfl, ho, hrE ht hH⟩, hS.F ht⟩) hS.2.2 dX8_sumOf_28
      · have hf := hg.2 c1
        refine lv_iload_n hx hb dX8_sumOf_10 rfl (lv_at hl 2 rfl) ?_
        refine lv_aload_n hx hb dX8_sumOf_11 rfl (lv_at hl 0 rfl) ?_
        refine e_8_0 hx hb hts hown hK hH (hts _ wd_101) dX8_sumOf_12 ?_
        refine lv_iload_n hx hb dX8_sumOf_15 rfl (lv_at hl 1 rfl) ?_
        refine lv_iload_n hx hb dX8_sumOf_16 rfl (lv_at hl 3 rfl) ?_
        refine lv_iadd hx hb dX8_sumOf_17 ?_
        obtain ⟨h3, hf⟩ := gd_some hf
        refine m_iald hx hb hK hH 1 (by decide) (by decide) rfl h3 dX8_sumOf_18 ?_
        refine lv_iadd hx hb dX8_sumOf_19 ?_
        refine lv_topi (fun v4 ev4 => ?_)
        have hf := gl_at hf ev4
        refine lv_istore_n (lv' := [(2, .int v4), (0, .ref w.2.2.2), (1, .int p0), (3, .int x3)]) hx hb dX8_sumOf_20 rfl hl (by decide) rfl (fun ls hl => ?_)
        obtain ⟨v5, ev5⟩ : ∃ z : Int32, z = x3 + 1 := ⟨_, rfl⟩
        have hf := gl_at hf ev5
        refine lv_iinc (v := v5) (lv' := [(3, .int v5), (2, .int v4), (0, .ref w.2.2.2), (1, .int p0)]) hx hb dX8_sumOf_21 hl (k := 3) rfl (by rw [ev5]; rfl) (by decide) rfl (fun ls hl => ?_)
        refine lv_goto (tgt := 4) hx hb dX8_sumOf_24 (by decide) ?_
        exact ih _ _ _ _ _ hH hS (lv_sub hl [2, 3, 1, 0] rfl) hf
  have hl : lv_has ls 4 [(0, .ref w.2.2.2), (1, .int p0)] := hl
  refine lv_iconst (v := 0) hx hb dX8_sumOf_0 (by decide) ?_
  refine lv_istore_n (lv' := [(2, .int 0), (0, .ref w.2.2.2), (1, .int p0)]) hx hb dX8_sumOf_1 rfl hl (by decide) rfl (fun ls hl => ?_)
  refine lv_iconst (v := 0) hx hb dX8_sumOf_2 (by decide) ?_
  refine lv_istore_n (lv' := [(3, .int 0), (2, .int 0), (0, .ref w.2.2.2), (1, .int p0)]) hx hb dX8_sumOf_3 rfl hl (by decide) rfl (fun ls hl => ?_)
  exact B4 _ _ _ _ _ _ hH hS (lv_sub hl [2, 3, 1, 0] rfl) hf
set_option maxRecDepth 100000 in
set_option maxHeartbeats 8000000 in
theorem c8_count (l : Launch) (w : GW) (K : GK) (g : GM) (S : GS) (p0 : Int32) (out : Int32) (hf : f8_count S p0 = some out) : Met l yX8_count (wA yX8_count cX8_count 2 (some .int)) ({ frames := 2, cells := 0, slots := 0, locals := 43 } : Room) (PRE w K g S [.ref w.2.2.2, .int p0]) (QI w K g S out) 0 0 (FR w) := by
  unfold f8_count at hf
  refine Met.ofW (cc := cX8_count) (maxL := 2) (ret := (some .int)) (by decide) rfl ?_
  intro p e s m args below meth c s₁ B hml hv
  obtain ⟨rfl, hH, hK⟩ := hv
  have hx := B.exec
  have hb := B.bytes
  have hr := B.returns
  have hts : ∀ q ∈ gALL, q.before _ s = true := fun q h => atoms_spec (ws := (wA yX8_count cX8_count 2 (some .int))) B.pre q (List.mem_cons_of_mem _ h)
  have hown : s.vm.findClass RX8 = some m.cls := findClass_of_methodNamed B.named
  have hlocks := B.notSynchronized
  have hS : va_S (FR w) s.heap s.heap [] := va_S.rf
  show W p l e ({ frames := 2, cells := 0, slots := 0, locals := 43 } : Room) s m _ below meth c s.heap [] 0 0 (MQ below (QI w K g S out) _ s 0 0 (FR w)) _
  have hl := lv_entry ([.ref w.2.2.2, .int p0]) (n := 2) (Nat.le_of_ble_eq_true rfl)
  rw [lg_entry_eq]
  generalize (lg_sl ([.ref w.2.2.2, .int p0]) ++ List.replicate (2 - (lg_sl ([.ref w.2.2.2, .int p0])).length) Slot.unset).toArray = ls at hl ⊢
  clear B
  generalize ([.ref w.2.2.2, .int p0] : List Value).toArray = args at hts ⊢
  have hl : lv_has ls 2 [(0, .ref w.2.2.2), (1, .int p0)] := hl
  refine lv_iload_n hx hb dX8_count_0 rfl (lv_at hl 1 rfl) ?_
  have hg := gif hf
  by_cases c1 : p0 = 0
  · have hf := hg.1 c1
    refine lv_tableIn (off := 71) (tgt := 72) hx hb dX8_count_1 (by rw [c1]; decide) (by rw [c1]; decide) (by rw [c1]; decide +kernel) (by decide) ?_
    refine lv_aload_n hx hb dX8_count_72 rfl (lv_at hl 0 rfl) ?_
    obtain ⟨v2, h3, hf⟩ := gbind hf
    refine g_Vi (As := []) (rest := []) ⟨hx, hb, hml, hown, hts⟩ (c8_withTexts l w K g S v2 h3) (gcwV hts i8_withTexts wd_717 rfl rfl ⟨Nat.le_of_ble_eq_true rfl, Nat.le_of_ble_eq_true rfl⟩) (gRecv.of hK rfl hH.ob) hH hK hS hl.1 rfl rfl (Nat.le_of_ble_eq_true rfl) dX8_count_73 ⟨Nat.le_refl _, Nat.le_refl _⟩ (fun H locs hH hS => ?_)
    have ho := Option.some.inj hf
    exact W.iret (v := v2) hx hb hr (fun t ht hW => ⟨⟨v2, (), rfl, ho, hrE ht hH⟩, hS.F ht⟩) hS.2.2 dX8_count_76
  have hf := hg.2 c1
  have hg := gif hf
  by_cases c4 : p0 = 1
  · have hf := hg.1 c4
    refine lv_tableIn (off := 76) (tgt := 77) hx hb dX8_count_1 (by rw [c4]; decide) (by rw [c4]; decide) (by rw [c4]; decide +kernel) (by decide) ?_
    refine lv_aload_n hx hb dX8_count_77 rfl (lv_at hl 0 rfl) ?_
    refine e_8_0 hx hb hts hown hK hH (hts _ wd_101) dX8_count_78 ?_
    refine lv_iconst (v := 3) hx hb dX8_count_81 (by decide) ?_
    obtain ⟨h6, hf⟩ := gd_some hf
    refine m_iald hx hb hK hH 1 (by decide) (by decide) rfl h6 dX8_count_82 ?_
    have ho := Option.some.inj hf
    exact W.iret (v := (S 1 (3 : Int32).toNatClampNeg)) hx hb hr (fun t ht hW => ⟨⟨(S 1 (3 : Int32).toNatClampNeg), (), rfl, ho, hrE ht hH⟩, hS.F ht⟩) hS.2.2 dX8_count_83
  have hf := hg.2 c4
  have hg := gif hf
  by_cases c7 : p0 = 2
  · have hf := hg.1 c7
    refine lv_tableIn (off := 83) (tgt := 84) hx hb dX8_count_1 (by rw [c7]; decide) (by rw [c7]; decide) (by rw [c7]; decide +kernel) (by decide) ?_
    refine lv_aload_n hx hb dX8_count_84 rfl (lv_at hl 0 rfl) ?_
    refine e_8_0 hx hb hts hown hK hH (hts _ wd_101) dX8_count_85 ?_
    refine lv_iconst (v := 4) hx hb dX8_count_88 (by decide) ?_
    obtain ⟨h9, hf⟩ := gd_some hf
    refine m_iald hx hb hK hH 1 (by decide) (by decide) rfl h9 dX8_count_89 ?_
    have ho := Option.some.inj hf
    exact W.iret (v := (S 1 (4 : Int32).toNatClampNeg)) hx hb hr (fun t ht hW => ⟨⟨(S 1 (4 : Int32).toNatClampNeg), (), rfl, ho, hrE ht hH⟩, hS.F ht⟩) hS.2.2 dX8_count_90
  have hf := hg.2 c7
  have hg := gif hf
  by_cases c10 : p0 = 3
  · have hf := hg.1 c10
    refine lv_tableIn (off := 90) (tgt := 91) hx hb dX8_count_1 (by rw [c10]; decide) (by rw [c10]; decide) (by rw [c10]; decide +kernel) (by decide) ?_
    refine lv_aload_n hx hb dX8_count_91 rfl (lv_at hl 0 rfl) ?_
    refine e_8_0 hx hb hts hown hK hH (hts _ wd_101) dX8_count_92 ?_
    refine lv_iconst (v := 5) hx hb dX8_count_95 (by decide) ?_
    obtain ⟨h12, hf⟩ := gd_some hf
    refine m_iald hx hb hK hH 1 (by decide) (by decide) rfl h12 dX8_count_96 ?_
    have ho := Option.some.inj hf
    exact W.iret (v := (S 1 (5 : Int32).toNatClampNeg)) hx hb hr (fun t ht hW => ⟨⟨(S 1 (5 : Int32).toNatClampNeg), (), rfl, ho, hrE ht hH⟩, hS.F ht⟩) hS.2.2 dX8_count_97
  have hf := hg.2 c10
  have hg := gif hf
  by_cases c13 : p0 = 4
  · have hf := hg.1 c13
    refine lv_tableIn (off := 97) (tgt := 98) hx hb dX8_count_1 (by rw [c13]; decide) (by rw [c13]; decide) (by rw [c13]; decide +kernel) (by decide) ?_
    refine lv_aload_n hx hb dX8_count_98 rfl (lv_at hl 0 rfl) ?_
    refine e_8_0 hx hb hts hown hK hH (hts _ wd_101) dX8_count_99 ?_
    refine lv_bipush (v := 6) hx hb dX8_count_102 (by decide) ?_
    obtain ⟨h15, hf⟩ := gd_some hf
    refine m_iald hx hb hK hH 1 (by decide) (by decide) rfl h15 dX8_count_104 ?_
    have ho := Option.some.inj hf
    exact W.iret (v := (S 1 (6 : Int32).toNatClampNeg)) hx hb hr (fun t ht hW => ⟨⟨(S 1 (6 : Int32).toNatClampNeg), (), rfl, ho, hrE ht hH⟩, hS.F ht⟩) hS.2.2 dX8_count_105
  have hf := hg.2 c13
  have hg := gif hf
  by_cases c16 : p0 = 5
  · have hf := hg.1 c16
    refine lv_tableIn (off := 105) (tgt := 106) hx hb dX8_count_1 (by rw [c16]; decide) (by rw [c16]; decide) (by rw [c16]; decide +kernel) (by decide) ?_
    refine lv_aload_n hx hb dX8_count_106 rfl (lv_at hl 0 rfl) ?_
    refine e_8_0 hx hb hts hown hK hH (hts _ wd_101) dX8_count_107 ?_
    refine lv_bipush (v := 7) hx hb dX8_count_110 (by decide) ?_
    obtain ⟨h18, hf⟩ := gd_some hf
    refine m_iald hx hb hK hH 1 (by decide) (by decide) rfl h18 dX8_count_112 ?_
    have ho := Option.some.inj hf
    exact W.iret (v := (S 1 (7 : Int32).toNatClampNeg)) hx hb hr (fun t ht hW => ⟨⟨(S 1 (7 : Int32).toNatClampNeg), (), rfl, ho, hrE ht hH⟩, hS.F ht⟩) hS.2.2 dX8_count_113
  have hf := hg.2 c16
  have hg := gif hf
  by_cases c19 : p0 = 6
  · have hf := hg.1 c19
    refine lv_tableIn (off := 113) (tgt := 114) hx hb dX8_count_1 (by rw [c19]; decide) (by rw [c19]; decide) (by rw [c19]; decide +kernel) (by decide) ?_
    refine lv_aload_n hx hb dX8_count_114 rfl (lv_at hl 0 rfl) ?_
    refine e_8_0 hx hb hts hown hK hH (hts _ wd_101) dX8_count_115 ?_
    refine lv_bipush (v := 8) hx hb dX8_count_118 (by decide) ?_
    obtain ⟨h21, hf⟩ := gd_some hf
    refine m_iald hx hb hK hH 1 (by decide) (by decide) rfl h21 dX8_count_120 ?_
    have ho := Option.some.inj hf
    exact W.iret (v := (S 1 (8 : Int32).toNatClampNeg)) hx hb hr (fun t ht hW => ⟨⟨(S 1 (8 : Int32).toNatClampNeg), (), rfl, ho, hrE ht hH⟩, hS.F ht⟩) hS.2.2 dX8_count_121
  have hf := hg.2 c19
  have hg := gif hf
  by_cases c22 : p0 = 7
  · have hf := hg.1 c22
    refine lv_tableIn (off := 121) (tgt := 122) hx hb dX8_count_1 (by rw [c22]; decide) (by rw [c22]; decide) (by rw [c22]; decide +kernel) (by decide) ?_
    refine lv_aload_n hx hb dX8_count_122 rfl (lv_at hl 0 rfl) ?_
    refine lv_bipush (v := 31) hx hb dX8_count_123 (by decide) ?_
    obtain ⟨v23, h24, hf⟩ := gbind hf
    refine g_Vi (As := [.int 31]) (rest := []) ⟨hx, hb, hml, hown, hts⟩ (c8_sumOf l w K g S 31 v23 h24) (gcwV hts i8_sumOf wd_721 rfl rfl ⟨Nat.le_of_ble_eq_true rfl, Nat.le_of_ble_eq_true rfl⟩) (gRecv.of hK rfl hH.ob) hH hK hS hl.1 rfl rfl (Nat.le_of_ble_eq_true rfl) dX8_count_125 ⟨Nat.le_refl _, Nat.le_refl _⟩ (fun H locs hH hS => ?_)
    have ho := Option.some.inj hf
    exact W.iret (v := v23) hx hb hr (fun t ht hW => ⟨⟨v23, (), rfl, ho, hrE ht hH⟩, hS.F ht⟩) hS.2.2 dX8_count_128
  have hf := hg.2 c22
  have hg := gif hf
  by_cases c25 : p0 = 8
  · have hf := hg.1 c25
    refine lv_tableIn (off := 128) (tgt := 129) hx hb dX8_count_1 (by rw [c25]; decide) (by rw [c25]; decide) (by rw [c25]; decide +kernel) (by decide) ?_
    refine lv_aload_n hx hb dX8_count_129 rfl (lv_at hl 0 rfl) ?_
    refine lv_bipush (v := 19) hx hb dX8_count_130 (by decide) ?_
    obtain ⟨v26, h27, hf⟩ := gbind hf
    refine g_Vi (As := [.int 19]) (rest := []) ⟨hx, hb, hml, hown, hts⟩ (c8_sumOf l w K g S 19 v26 h27) (gcwV hts i8_sumOf wd_721 rfl rfl ⟨Nat.le_of_ble_eq_true rfl, Nat.le_of_ble_eq_true rfl⟩) (gRecv.of hK rfl hH.ob) hH hK hS hl.1 rfl rfl (Nat.le_of_ble_eq_true rfl) dX8_count_132 ⟨Nat.le_refl _, Nat.le_refl _⟩ (fun H locs hH hS => ?_)
    have ho := Option.some.inj hf
    exact W.iret (v := v26) hx hb hr (fun t ht hW => ⟨⟨v26, (), rfl, ho, hrE ht hH⟩, hS.F ht⟩) hS.2.2 dX8_count_135
  have hf := hg.2 c25
  have hg := gif hf
  by_cases c28 : p0 = 9
  · have hf := hg.1 c28
    refine lv_tableIn (off := 135) (tgt := 136) hx hb dX8_count_1 (by rw [c28]; decide) (by rw [c28]; decide) (by rw [c28]; decide +kernel) (by decide) ?_
    refine lv_aload_n hx hb dX8_count_136 rfl (lv_at hl 0 rfl) ?_
    refine e_8_0 hx hb hts hown hK hH (hts _ wd_101) dX8_count_137 ?_
    refine lv_iload_n hx hb dX8_count_140 rfl (lv_at hl 1 rfl) ?_
    refine lv_bipush (v := 9) hx hb dX8_count_141 (by decide) ?_
    refine lv_isub hx hb dX8_count_143 ?_
    obtain ⟨h30, hf⟩ := gd_some hf
    refine m_iald hx hb hK hH 1 (by decide) (by decide) rfl h30 dX8_count_144 ?_
    have ho := Option.some.inj hf
    exact W.iret (v := (S 1 (p0 - 9).toNatClampNeg)) hx hb hr (fun t ht hW => ⟨⟨(S 1 (p0 - 9).toNatClampNeg), (), rfl, ho, hrE ht hH⟩, hS.F ht⟩) hS.2.2 dX8_count_145
  have hf := hg.2 c28
  have hg := gif hf
  by_cases c31 : p0 = 10
  · have hf := hg.1 c31
    refine lv_tableIn (off := 135) (tgt := 136) hx hb dX8_count_1 (by rw [c31]; decide) (by rw [c31]; decide) (by rw [c31]; decide +kernel) (by decide) ?_
    refine lv_aload_n hx hb dX8_count_136 rfl (lv_at hl 0 rfl) ?_
    refine e_8_0 hx hb hts hown hK hH (hts _ wd_101) dX8_count_137 ?_
    refine lv_iload_n hx hb dX8_count_140 rfl (lv_at hl 1 rfl) ?_
    refine lv_bipush (v := 9) hx hb dX8_count_141 (by decide) ?_
    refine lv_isub hx hb dX8_count_143 ?_
    obtain ⟨h33, hf⟩ := gd_some hf
    refine m_iald hx hb hK hH 1 (by decide) (by decide) rfl h33 dX8_count_144 ?_
    have ho := Option.some.inj hf
    exact W.iret (v := (S 1 (p0 - 9).toNatClampNeg)) hx hb hr (fun t ht hW => ⟨⟨(S 1 (p0 - 9).toNatClampNeg), (), rfl, ho, hrE ht hH⟩, hS.F ht⟩) hS.2.2 dX8_count_145
  have hf := hg.2 c31
  have hg := gif hf
  by_cases c34 : p0 = 11
  · have hf := hg.1 c34
    refine lv_tableIn (off := 135) (tgt := 136) hx hb dX8_count_1 (by rw [c34]; decide) (by rw [c34]; decide) (by rw [c34]; decide +kernel) (by decide) ?_
    refine lv_aload_n hx hb dX8_count_136 rfl (lv_at hl 0 rfl) ?_
    refine e_8_0 hx hb hts hown hK hH (hts _ wd_101) dX8_count_137 ?_
    refine lv_iload_n hx hb dX8_count_140 rfl (lv_at hl 1 rfl) ?_
    refine lv_bipush (v := 9) hx hb dX8_count_141 (by decide) ?_
    refine lv_isub hx hb dX8_count_143 ?_
    obtain ⟨h36, hf⟩ := gd_some hf
    refine m_iald hx hb hK hH 1 (by decide) (by decide) rfl h36 dX8_count_144 ?_
    have ho := Option.some.inj hf
    exact W.iret (v := (S 1 (p0 - 9).toNatClampNeg)) hx hb hr (fun t ht hW => ⟨⟨(S 1 (p0 - 9).toNatClampNeg), (), rfl, ho, hrE ht hH⟩, hS.F ht⟩) hS.2.2 dX8_count_145
  have hf := hg.2 c34
  have hg := gif hf
  by_cases c37 : p0 = 12
  · have hf := hg.1 c37
    refine lv_tableIn (off := 145) (tgt := 146) hx hb dX8_count_1 (by rw [c37]; decide) (by rw [c37]; decide) (by rw [c37]; decide +kernel) (by decide) ?_
    refine lv_aload_n hx hb dX8_count_146 rfl (lv_at hl 0 rfl) ?_
    refine e_8_7 hx hb hts hown hK hH (hts _ wd_263) dX8_count_147 ?_
    have ho := Option.some.inj hf
    exact W.iret (v := (S 0 7)) hx hb hr (fun t ht hW => ⟨⟨(S 0 7), (), rfl, ho, hrE ht hH⟩, hS.F ht⟩) hS.2.2 dX8_count_150
  have hf := hg.2 c37
  have hg := gif hf
  by_cases c38 : p0 = 13
  · have hf := hg.1 c38
    refine lv_tableIn (off := 150) (tgt := 151) hx hb dX8_count_1 (by rw [c38]; decide) (by rw [c38]; decide) (by rw [c38]; decide +kernel) (by decide) ?_
    refine lv_aload_n hx hb dX8_count_151 rfl (lv_at hl 0 rfl) ?_
    refine e_8_3 hx hb hts hown hK hH (hts _ wd_173) dX8_count_152 ?_
    have ho := Option.some.inj hf
    exact W.iret (v := (S 0 3)) hx hb hr (fun t ht hW => ⟨⟨(S 0 3), (), rfl, ho, hrE ht hH⟩, hS.F ht⟩) hS.2.2 dX8_count_155
  have hf := hg.2 c38
  have nc1 : p0.toInt ≠ 0 := g_ne c1 (by decide)
  have nc4 : p0.toInt ≠ 1 := g_ne c4 (by decide)
  have nc7 : p0.toInt ≠ 2 := g_ne c7 (by decide)
  have nc10 : p0.toInt ≠ 3 := g_ne c10 (by decide)
  have nc13 : p0.toInt ≠ 4 := g_ne c13 (by decide)
  have nc16 : p0.toInt ≠ 5 := g_ne c16 (by decide)
  have nc19 : p0.toInt ≠ 6 := g_ne c19 (by decide)
  have nc22 : p0.toInt ≠ 7 := g_ne c22 (by decide)
  have nc25 : p0.toInt ≠ 8 := g_ne c25 (by decide)
  have nc28 : p0.toInt ≠ 9 := g_ne c28 (by decide)
  have nc31 : p0.toInt ≠ 10 := g_ne c31 (by decide)
  have nc34 : p0.toInt ≠ 11 := g_ne c34 (by decide)
  have nc37 : p0.toInt ≠ 12 := g_ne c37 (by decide)
  have nc38 : p0.toInt ≠ 13 := g_ne c38 (by decide)
  refine lv_tableOut (tgt := 156) hx hb dX8_count_1 (by omega) (by decide) ?_
  refine lv_bipush (v := (-2)) hx hb dX8_count_156 (by decide) ?_
  have ho := Option.some.inj hf
  exact W.iret (v := (-2)) hx hb hr (fun t ht hW => ⟨⟨(-2), (), rfl, ho, hrE ht hH⟩, hS.F ht⟩) hS.2.2 dX8_count_158
set_option maxRecDepth 100000 in
set_option maxHeartbeats 8000000 in
theorem c8_digitAt (l : Launch) (w : GW) (K : GK) (g : GM) (S : GS) (p0 : Int32) (p1 : Int32) (out : Int32) (hf : f8_digitAt S p0 p1 = some out) : Met l yX8_digitAt (wA yX8_digitAt cX8_digitAt 3 (some .int)) ({ frames := 1, cells := 0, slots := 0, locals := 22 } : Room) (PRE w K g S [.ref w.2.2.2, .int p0, .int p1]) (QI w K g S out) 0 0 (FR w) := by
  unfold f8_digitAt at hf
  refine Met.ofW (cc := cX8_digitAt) (maxL := 3) (ret := (some .int)) (by decide) rfl ?_
  intro p e s m args below meth c s₁ B hml hv
  obtain ⟨rfl, hH, hK⟩ := hv
  have hx := B.exec
  have hb := B.bytes
  have hr := B.returns
  have hts : ∀ q ∈ gALL, q.before _ s = true := fun q h => atoms_spec (ws := (wA yX8_digitAt cX8_digitAt 3 (some .int))) B.pre q (List.mem_cons_of_mem _ h)
  have hown : s.vm.findClass RX8 = some m.cls := findClass_of_methodNamed B.named
  have hlocks := B.notSynchronized
  have hS : va_S (FR w) s.heap s.heap [] := va_S.rf
  show W p l e ({ frames := 1, cells := 0, slots := 0, locals := 22 } : Room) s m _ below meth c s.heap [] 0 0 (MQ below (QI w K g S out) _ s 0 0 (FR w)) _
  have hl := lv_entry ([.ref w.2.2.2, .int p0, .int p1]) (n := 3) (Nat.le_of_ble_eq_true rfl)
  rw [lg_entry_eq]
  generalize (lg_sl ([.ref w.2.2.2, .int p0, .int p1]) ++ List.replicate (3 - (lg_sl ([.ref w.2.2.2, .int p0, .int p1])).length) Slot.unset).toArray = ls at hl ⊢
  clear B
  generalize ([.ref w.2.2.2, .int p0, .int p1] : List Value).toArray = args at hts ⊢
  have hl : lv_has ls 3 [(0, .ref w.2.2.2), (1, .int p0), (2, .int p1)] := hl
  refine lv_iload_n hx hb dX8_digitAt_0 rfl (lv_at hl 2 rfl) ?_
  refine lv_aload_n hx hb dX8_digitAt_1 rfl (lv_at hl 0 rfl) ?_
  refine e_8_0 hx hb hts hown hK hH (hts _ wd_101) dX8_digitAt_2 ?_
  refine lv_bipush (v := 43) hx hb dX8_digitAt_5 (by decide) ?_
  refine lv_iload_n hx hb dX8_digitAt_7 rfl (lv_at hl 1 rfl) ?_
  refine lv_iadd hx hb dX8_digitAt_8 ?_
  obtain ⟨h2, hf⟩ := gd_some hf
  refine m_iald hx hb hK hH 1 (by decide) (by decide) rfl h2 dX8_digitAt_9 ?_
  have hg := gif hf
  refine lv_icmp_ge (tgt := 25) hx hb dX8_digitAt_10 (by decide) (fun c3 => ?_) (fun c3 => ?_)
  · have hf := hg.1 c3
    refine lv_iconst (v := 0) hx hb dX8_digitAt_25 (by decide) ?_
    have ho := Option.some.inj hf
    exact W.iret (v := 0) hx hb hr (fun t ht hW => ⟨⟨0, (), rfl, ho, hrE ht hH⟩, hS.F ht⟩) hS.2.2 dX8_digitAt_26
  · have hf := hg.2 c3
    refine lv_aload_n hx hb dX8_digitAt_13 rfl (lv_at hl 0 rfl) ?_
    refine lv_iload_n hx hb dX8_digitAt_14 rfl (lv_at hl 1 rfl) ?_
    refine lv_iload_n hx hb dX8_digitAt_15 rfl (lv_at hl 2 rfl) ?_
    obtain ⟨v4, h5, hf⟩ := gbind hf
    refine g_Vi (As := [.int p0, .int p1]) (rest := []) ⟨hx, hb, hml, hown, hts⟩ (c8_textAt l w K g S p0 p1 v4 h5) (gcwV hts i8_textAt wd_293 rfl rfl ⟨Nat.le_of_ble_eq_true rfl, Nat.le_of_ble_eq_true rfl⟩) (gRecv.of hK rfl hH.ob) hH hK hS hl.1 rfl rfl (Nat.le_of_ble_eq_true rfl) dX8_digitAt_16 ⟨Nat.le_refl _, Nat.le_refl _⟩ (fun H locs hH hS => ?_)
    refine lv_bipush (v := 48) hx hb dX8_digitAt_19 (by decide) ?_
    refine lv_isub hx hb dX8_digitAt_21 ?_
    refine lv_goto (tgt := 26) hx hb dX8_digitAt_22 (by decide) ?_
    have ho := Option.some.inj hf
    exact W.iret (v := (v4 - 48)) hx hb hr (fun t ht hW => ⟨⟨(v4 - 48), (), rfl, ho, hrE ht hH⟩, hS.F ht⟩) hS.2.2 dX8_digitAt_26
set_option maxRecDepth 100000 in
set_option maxHeartbeats 8000000 in
theorem c8_countCard (l : Launch) (w : GW) (K : GK) (g : GM) (S : GS) (p0 : Int32) (p1 : Int32) (out : GS) (hf : f8_countCard S p0 p1 = some out) : Met l yX8_countCard (wA yX8_countCard cX8_countCard 10 none) ({ frames := 3, cells := 0, slots := 0, locals := 66 } : Room) (PRE w K g S [.ref w.2.2.2, .int p0, .int p1]) (QV w K g out) 0 0 (FR w) := by
  unfold f8_countCard at hf
  refine Met.ofW (cc := cX8_countCard) (maxL := 10) (ret := none) (by decide) rfl ?_
  intro p e s m args below meth c s₁ B hml hv
  obtain ⟨rfl, hH, hK⟩ := hv
  have hx := B.exec
  have hb := B.bytes
  have hr := B.returns
  have hts : ∀ q ∈ gALL, q.before _ s = true := fun q h => atoms_spec (ws := (wA yX8_countCard cX8_countCard 10 none)) B.pre q (List.mem_cons_of_mem _ h)
  have hown : s.vm.findClass RX8 = some m.cls := findClass_of_methodNamed B.named
  have hlocks := B.notSynchronized
  have hS : va_S (FR w) s.heap s.heap [] := va_S.rf
  show W p l e ({ frames := 3, cells := 0, slots := 0, locals := 66 } : Room) s m _ below meth c s.heap [] 0 0 (MQ below (QV w K g out) _ s 0 0 (FR w)) _
  have hl := lv_entry ([.ref w.2.2.2, .int p0, .int p1]) (n := 10) (Nat.le_of_ble_eq_true rfl)
  rw [lg_entry_eq]
  generalize (lg_sl ([.ref w.2.2.2, .int p0, .int p1]) ++ List.replicate (10 - (lg_sl ([.ref w.2.2.2, .int p0, .int p1])).length) Slot.unset).toArray = ls at hl ⊢
  clear B
  generalize ([.ref w.2.2.2, .int p0, .int p1] : List Value).toArray = args at hts ⊢
  have B324 : ∀ (k19 : GS → Int32 → Int32 → Int32 → Int32 → Option (GS)), (∀ (S : GS) (x3 : Int32) (x4 : Int32) (x5 : Int32) (x6 : Int32) (H : Heap) (locs : List Loc) (ls : Array Slot), HR w K g S H → va_S (FR w) s.heap H locs → lv_has ls 10 [(0, .ref w.2.2.2), (1, .int p0), (3, .int x3), (4, .int x4), (5, .int x5), (6, .int x6)] → k19 S x3 x4 x5 x6 = some out → W p l e ({ frames := 3, cells := 0, slots := 0, locals := 66 } : Room) s m args below meth c H locs 0 0 (MQ below (QV w K g out) args s 0 0 (FR w)) (F0 m 19 ls [])) → ∀ (S : GS) (x3 : Int32) (x4 : Int32) (x5 : Int32) (x6 : Int32) (H : Heap) (locs : List Loc) (ls : Array Slot), HR w K g S H → va_S (FR w) s.heap H locs → lv_has ls 10 [(0, .ref w.2.2.2), (1, .int p0), (3, .int x3), (4, .int x4), (5, .int x5), (6, .int x6)] → f8_countCard_324 k19 p0 p1 S x3 x4 x5 x6 = some out → W p l e ({ frames := 3, cells := 0, slots := 0, locals := 66 } : Room) s m args below meth c H locs 0 0 (MQ below (QV w K g out) args s 0 0 (FR w)) (F0 m 324 ls []) := by
    intro k19 hk19 S x3 x4 x5 x6 H locs ls hH hS hl hf
    unfold f8_countCard_324 at hf
    refine lv_goto (tgt := 19) hx hb dX8_countCard_324 (by decide) ?_
    exact hk19 _ _ _ _ _ _ _ _ hH hS (lv_sub hl [0, 1, 2, 3, 4, 5] rfl) hf
  have B309 : ∀ (k19 : GS → Int32 → Int32 → Int32 → Int32 → Option (GS)), (∀ (S : GS) (x3 : Int32) (x4 : Int32) (x5 : Int32) (x6 : Int32) (H : Heap) (locs : List Loc) (ls : Array Slot), HR w K g S H → va_S (FR w) s.heap H locs → lv_has ls 10 [(0, .ref w.2.2.2), (1, .int p0), (3, .int x3), (4, .int x4), (5, .int x5), (6, .int x6)] → k19 S x3 x4 x5 x6 = some out → W p l e ({ frames := 3, cells := 0, slots := 0, locals := 66 } : Room) s m args below meth c H locs 0 0 (MQ below (QV w K g out) args s 0 0 (FR w)) (F0 m 19 ls [])) → ∀ (S : GS) (x3 : Int32) (x4 : Int32) (x5 : Int32) (s0 : Int32) (s1 : Int32) (H : Heap) (locs : List Loc) (ls : Array Slot), HR w K g S H → va_S (FR w) s.heap H locs → lv_has ls 10 [(0, .ref w.2.2.2), (1, .int p0), (3, .int x3), (4, .int x4), (5, .int x5)] → f8_countCard_309 k19 p0 p1 S x3 x4 x5 s0 s1 = some out → W p l e ({ frames := 3, cells := 0, slots := 0, locals := 66 } : Room) s m args below meth c H locs 0 0 (MQ below (QV w K g out) args s 0 0 (FR w)) (F0 m 309 ls [.int s1, .int s0]) := by
    intro k19 hk19 S x3 x4 x5 s0 s1 H locs ls hH hS hl hf
    unfold f8_countCard_309 at hf
    refine lv_iadd hx hb dX8_countCard_309 ?_
    refine lv_topi (fun v1 ev1 => ?_)
    have hf := gl_at hf ev1
    refine lv_istore (lv' := [(6, .int v1), (0, .ref w.2.2.2), (1, .int p0), (3, .int x3), (4, .int x4), (5, .int x5)]) hx hb dX8_countCard_310 hl (by decide) rfl (fun ls hl => ?_)
    refine lv_aload_n hx hb dX8_countCard_312 rfl (lv_at hl 1 rfl) ?_
    refine e_8_12 hx hb hts hown hK hH (hts _ wd_109) dX8_countCard_313 ?_
    refine lv_iload hx hb dX8_countCard_316 (lv_at hl 5 rfl) ?_
    refine lv_iload hx hb dX8_countCard_318 (lv_at hl 0 rfl) ?_
    obtain ⟨h3, hf⟩ := gd_some hf
    refine m_iast hx hb hK hH hS 9 (by decide) (by decide) rfl h3 dX8_countCard_320 (fun H locs hH hS => ?_)
    obtain ⟨S4, eS4⟩ : ∃ z : GS, z = ssI S 9 x5.toNatClampNeg v1 := ⟨_, rfl⟩
    have hf := gl_at hf eS4
    replace hH : HR w K g S4 H := by rw [eS4]; exact hH
    obtain ⟨v5, ev5⟩ : ∃ z : Int32, z = x5 + 1 := ⟨_, rfl⟩
    have hf := gl_at hf ev5
    refine lv_iinc (v := v5) (lv' := [(5, .int v5), (6, .int v1), (0, .ref w.2.2.2), (1, .int p0), (3, .int x3), (4, .int x4)]) hx hb dX8_countCard_321 hl (k := 5) rfl (by rw [ev5]; rfl) (by decide) rfl (fun ls hl => ?_)
    exact B324 _ (hk19) _ _ _ _ _ _ _ _ hH hS (lv_sub hl [2, 3, 4, 5, 0, 1] rfl) hf
  have B296 : ∀ (k19 : GS → Int32 → Int32 → Int32 → Int32 → Option (GS)), (∀ (S : GS) (x3 : Int32) (x4 : Int32) (x5 : Int32) (x6 : Int32) (H : Heap) (locs : List Loc) (ls : Array Slot), HR w K g S H → va_S (FR w) s.heap H locs → lv_has ls 10 [(0, .ref w.2.2.2), (1, .int p0), (3, .int x3), (4, .int x4), (5, .int x5), (6, .int x6)] → k19 S x3 x4 x5 x6 = some out → W p l e ({ frames := 3, cells := 0, slots := 0, locals := 66 } : Room) s m args below meth c H locs 0 0 (MQ below (QV w K g out) args s 0 0 (FR w)) (F0 m 19 ls [])) → ∀ (S : GS) (x3 : Int32) (x4 : Int32) (x5 : Int32) (x6 : Int32) (x9 : Int32) (s1 : Int32) (s2 : Int32) (H : Heap) (locs : List Loc) (ls : Array Slot), HR w K g S H → va_S (FR w) s.heap H locs → lv_has ls 10 [(0, .ref w.2.2.2), (1, .int p0), (3, .int x3), (4, .int x4), (5, .int x5), (6, .int x6), (9, .int x9)] → f8_countCard_296 k19 p0 p1 S x3 x4 x5 x6 x9 s1 s2 = some out → W p l e ({ frames := 3, cells := 0, slots := 0, locals := 66 } : Room) s m args below meth c H locs 0 0 (MQ below (QV w K g out) args s 0 0 (FR w)) (F0 m 296 ls [.int s2, .int s1, .ref (w.2.2.2 + 10)]) := by
    intro k19 hk19 S x3 x4 x5 x6 x9 s1 s2 H locs ls hH hS hl hf
    unfold f8_countCard_296 at hf
    obtain ⟨h7, hf⟩ := gd_some hf
    refine m_iast hx hb hK hH hS 10 (by decide) (by decide) rfl h7 dX8_countCard_296 (fun H locs hH hS => ?_)
    obtain ⟨S8, eS8⟩ : ∃ z : GS, z = ssI S 10 s1.toNatClampNeg s2 := ⟨_, rfl⟩
    have hf := gl_at hf eS8
    replace hH : HR w K g S8 H := by rw [eS8]; exact hH
    refine lv_iload hx hb dX8_countCard_297 (lv_at hl 5 rfl) ?_
    refine lv_iload hx hb dX8_countCard_299 (lv_at hl 6 rfl) ?_
    have hg := gif hf
    refine lv_if_eq (tgt := 308) hx hb dX8_countCard_301 (by decide) (fun c9 => ?_) (fun c9 => ?_)
    · have hf := hg.1 c9
      refine lv_iconst (v := 2) hx hb dX8_countCard_308 (by decide) ?_
      exact B309 _ (hk19) _ _ _ _ _ _ _ _ _ hH hS (lv_sub hl [0, 1, 2, 3, 4] rfl) hf
    · have hf := hg.2 c9
      refine lv_iconst (v := 3) hx hb dX8_countCard_304 (by decide) ?_
      refine lv_goto (tgt := 309) hx hb dX8_countCard_305 (by decide) ?_
      exact B309 _ (hk19) _ _ _ _ _ _ _ _ _ hH hS (lv_sub hl [0, 1, 2, 3, 4] rfl) hf
  have B277 : ∀ (k19 : GS → Int32 → Int32 → Int32 → Int32 → Option (GS)), (∀ (S : GS) (x3 : Int32) (x4 : Int32) (x5 : Int32) (x6 : Int32) (H : Heap) (locs : List Loc) (ls : Array Slot), HR w K g S H → va_S (FR w) s.heap H locs → lv_has ls 10 [(0, .ref w.2.2.2), (1, .int p0), (3, .int x3), (4, .int x4), (5, .int x5), (6, .int x6)] → k19 S x3 x4 x5 x6 = some out → W p l e ({ frames := 3, cells := 0, slots := 0, locals := 66 } : Room) s m args below meth c H locs 0 0 (MQ below (QV w K g out) args s 0 0 (FR w)) (F0 m 19 ls [])) → ∀ (S : GS) (x3 : Int32) (x4 : Int32) (x5 : Int32) (x6 : Int32) (x7 : Int32) (s0 : Int32) (H : Heap) (locs : List Loc) (ls : Array Slot), HR w K g S H → va_S (FR w) s.heap H locs → lv_has ls 10 [(0, .ref w.2.2.2), (1, .int p0), (3, .int x3), (4, .int x4), (5, .int x5), (6, .int x6), (7, .int x7)] → f8_countCard_277 k19 p0 p1 S x3 x4 x5 x6 x7 s0 = some out → W p l e ({ frames := 3, cells := 0, slots := 0, locals := 66 } : Room) s m args below meth c H locs 0 0 (MQ below (QV w K g out) args s 0 0 (FR w)) (F0 m 277 ls [.int s0]) := by
    intro k19 hk19 S x3 x4 x5 x6 x7 s0 H locs ls hH hS hl hf
    unfold f8_countCard_277 at hf
    refine lv_istore (lv' := [(9, .int s0), (0, .ref w.2.2.2), (1, .int p0), (3, .int x3), (4, .int x4), (5, .int x5), (6, .int x6), (7, .int x7)]) hx hb dX8_countCard_277 hl (by decide) rfl (fun ls hl => ?_)
    refine lv_aload_n hx hb dX8_countCard_279 rfl (lv_at hl 1 rfl) ?_
    refine e_8_13 hx hb hts hown hK hH (hts _ wd_110) dX8_countCard_280 ?_
    refine lv_iload hx hb dX8_countCard_283 (lv_at hl 5 rfl) ?_
    refine lv_iload hx hb dX8_countCard_285 (lv_at hl 0 rfl) ?_
    have hg := gif hf
    refine lv_if_eq (tgt := 295) hx hb dX8_countCard_287 (by decide) (fun c10 => ?_) (fun c10 => ?_)
    · have hf := hg.1 c10
      refine lv_iconst (v := 1) hx hb dX8_countCard_295 (by decide) ?_
      exact B296 _ (hk19) _ _ _ _ _ _ _ _ _ _ _ hH hS (lv_sub hl [1, 2, 3, 4, 5, 6, 0] rfl) hf
    · have hf := hg.2 c10
      refine lv_iload hx hb dX8_countCard_290 (lv_at hl 7 rfl) ?_
      refine lv_goto (tgt := 296) hx hb dX8_countCard_292 (by decide) ?_
      exact B296 _ (hk19) _ _ _ _ _ _ _ _ _ _ _ hH hS (lv_sub hl [1, 2, 3, 4, 5, 6, 0] rfl) hf
  have B254 : ∀ (k19 : GS → Int32 → Int32 → Int32 → Int32 → Option (GS)), (∀ (S : GS) (x3 : Int32) (x4 : Int32) (x5 : Int32) (x6 : Int32) (H : Heap) (locs : List Loc) (ls : Array Slot), HR w K g S H → va_S (FR w) s.heap H locs → lv_has ls 10 [(0, .ref w.2.2.2), (1, .int p0), (3, .int x3), (4, .int x4), (5, .int x5), (6, .int x6)] → k19 S x3 x4 x5 x6 = some out → W p l e ({ frames := 3, cells := 0, slots := 0, locals := 66 } : Room) s m args below meth c H locs 0 0 (MQ below (QV w K g out) args s 0 0 (FR w)) (F0 m 19 ls [])) → ∀ (S : GS) (x3 : Int32) (x4 : Int32) (x6 : Int32) (s0 : Int32) (s1 : Int32) (H : Heap) (locs : List Loc) (ls : Array Slot), HR w K g S H → va_S (FR w) s.heap H locs → lv_has ls 10 [(0, .ref w.2.2.2), (1, .int p0), (3, .int x3), (4, .int x4), (6, .int x6)] → f8_countCard_254 k19 p0 p1 S x3 x4 x6 s0 s1 = some out → W p l e ({ frames := 3, cells := 0, slots := 0, locals := 66 } : Room) s m args below meth c H locs 0 0 (MQ below (QV w K g out) args s 0 0 (FR w)) (F0 m 254 ls [.int s1, .int s0]) := by
    intro k19 hk19 S x3 x4 x6 s0 s1 H locs ls hH hS hl hf
    unfold f8_countCard_254 at hf
    refine lv_isub hx hb dX8_countCard_254 ?_
    refine lv_topi (fun v11 ev11 => ?_)
    have hf := gl_at hf ev11
    refine lv_istore (lv' := [(5, .int v11), (0, .ref w.2.2.2), (1, .int p0), (3, .int x3), (4, .int x4), (6, .int x6)]) hx hb dX8_countCard_255 hl (by decide) rfl (fun ls hl => ?_)
    refine lv_goto (tgt := 324) hx hb dX8_countCard_257 (by decide) ?_
    exact B324 _ (hk19) _ _ _ _ _ _ _ _ hH hS (lv_sub hl [1, 2, 3, 4, 0, 5] rfl) hf
  have B233 : ∀ (k19 : GS → Int32 → Int32 → Int32 → Int32 → Option (GS)), (∀ (S : GS) (x3 : Int32) (x4 : Int32) (x5 : Int32) (x6 : Int32) (H : Heap) (locs : List Loc) (ls : Array Slot), HR w K g S H → va_S (FR w) s.heap H locs → lv_has ls 10 [(0, .ref w.2.2.2), (1, .int p0), (3, .int x3), (4, .int x4), (5, .int x5), (6, .int x6)] → k19 S x3 x4 x5 x6 = some out → W p l e ({ frames := 3, cells := 0, slots := 0, locals := 66 } : Room) s m args below meth c H locs 0 0 (MQ below (QV w K g out) args s 0 0 (FR w)) (F0 m 19 ls [])) → ∀ (S : GS) (x3 : Int32) (x4 : Int32) (x5 : Int32) (s0 : Int32) (H : Heap) (locs : List Loc) (ls : Array Slot), HR w K g S H → va_S (FR w) s.heap H locs → lv_has ls 10 [(0, .ref w.2.2.2), (1, .int p0), (3, .int x3), (4, .int x4), (5, .int x5)] → f8_countCard_233 k19 p0 p1 S x3 x4 x5 s0 = some out → W p l e ({ frames := 3, cells := 0, slots := 0, locals := 66 } : Room) s m args below meth c H locs 0 0 (MQ below (QV w K g out) args s 0 0 (FR w)) (F0 m 233 ls [.int s0]) := by
    intro k19 hk19 S x3 x4 x5 s0 H locs ls hH hS hl hf
    unfold f8_countCard_233 at hf
    refine lv_istore (lv' := [(6, .int s0), (0, .ref w.2.2.2), (1, .int p0), (3, .int x3), (4, .int x4), (5, .int x5)]) hx hb dX8_countCard_233 hl (by decide) rfl (fun ls hl => ?_)
    refine lv_iload hx hb dX8_countCard_235 (lv_at hl 5 rfl) ?_
    refine lv_aload_n hx hb dX8_countCard_237 rfl (lv_at hl 1 rfl) ?_
    refine e_8_13 hx hb hts hown hK hH (hts _ wd_110) dX8_countCard_238 ?_
    refine lv_iload hx hb dX8_countCard_241 (lv_at hl 5 rfl) ?_
    refine lv_iconst (v := 1) hx hb dX8_countCard_243 (by decide) ?_
    refine lv_isub hx hb dX8_countCard_244 ?_
    obtain ⟨h13, hf⟩ := gd_some hf
    refine m_iald hx hb hK hH 10 (by decide) (by decide) rfl h13 dX8_countCard_245 ?_
    have hg := gif hf
    refine lv_if_le (tgt := 253) hx hb dX8_countCard_246 (by decide) (fun c14 => ?_) (fun c14 => ?_)
    · have hf := hg.1 c14
      refine lv_iconst (v := 1) hx hb dX8_countCard_253 (by decide) ?_
      exact B254 _ (hk19) _ _ _ _ _ _ _ _ _ hH hS (lv_sub hl [1, 2, 3, 4, 0] rfl) hf
    · have hf := hg.2 c14
      refine lv_iconst (v := 0) hx hb dX8_countCard_249 (by decide) ?_
      refine lv_goto (tgt := 254) hx hb dX8_countCard_250 (by decide) ?_
      exact B254 _ (hk19) _ _ _ _ _ _ _ _ _ hH hS (lv_sub hl [1, 2, 3, 4, 0] rfl) hf
  have B140 : ∀ (k19 : GS → Int32 → Int32 → Int32 → Int32 → Option (GS)), (∀ (S : GS) (x3 : Int32) (x4 : Int32) (x5 : Int32) (x6 : Int32) (H : Heap) (locs : List Loc) (ls : Array Slot), HR w K g S H → va_S (FR w) s.heap H locs → lv_has ls 10 [(0, .ref w.2.2.2), (1, .int p0), (3, .int x3), (4, .int x4), (5, .int x5), (6, .int x6)] → k19 S x3 x4 x5 x6 = some out → W p l e ({ frames := 3, cells := 0, slots := 0, locals := 66 } : Room) s m args below meth c H locs 0 0 (MQ below (QV w K g out) args s 0 0 (FR w)) (F0 m 19 ls [])) → ∀ (S : GS) (x3 : Int32) (x4 : Int32) (x5 : Int32) (s0 : Int32) (s1 : Int32) (H : Heap) (locs : List Loc) (ls : Array Slot), HR w K g S H → va_S (FR w) s.heap H locs → lv_has ls 10 [(0, .ref w.2.2.2), (1, .int p0), (3, .int x3), (4, .int x4), (5, .int x5)] → f8_countCard_140 k19 p0 p1 S x3 x4 x5 s0 s1 = some out → W p l e ({ frames := 3, cells := 0, slots := 0, locals := 66 } : Room) s m args below meth c H locs 0 0 (MQ below (QV w K g out) args s 0 0 (FR w)) (F0 m 140 ls [.int s1, .int s0]) := by
    intro k19 hk19 S x3 x4 x5 s0 s1 H locs ls hH hS hl hf
    unfold f8_countCard_140 at hf
    refine lv_iadd hx hb dX8_countCard_140 ?_
    refine lv_topi (fun v15 ev15 => ?_)
    have hf := gl_at hf ev15
    refine lv_istore (lv' := [(6, .int v15), (0, .ref w.2.2.2), (1, .int p0), (3, .int x3), (4, .int x4), (5, .int x5)]) hx hb dX8_countCard_141 hl (by decide) rfl (fun ls hl => ?_)
    refine lv_goto (tgt := 324) hx hb dX8_countCard_143 (by decide) ?_
    exact B324 _ (hk19) _ _ _ _ _ _ _ _ hH hS (lv_sub hl [1, 2, 3, 4, 5, 0] rfl) hf
  have B125 : ∀ (k19 : GS → Int32 → Int32 → Int32 → Int32 → Option (GS)), (∀ (S : GS) (x3 : Int32) (x4 : Int32) (x5 : Int32) (x6 : Int32) (H : Heap) (locs : List Loc) (ls : Array Slot), HR w K g S H → va_S (FR w) s.heap H locs → lv_has ls 10 [(0, .ref w.2.2.2), (1, .int p0), (3, .int x3), (4, .int x4), (5, .int x5), (6, .int x6)] → k19 S x3 x4 x5 x6 = some out → W p l e ({ frames := 3, cells := 0, slots := 0, locals := 66 } : Room) s m args below meth c H locs 0 0 (MQ below (QV w K g out) args s 0 0 (FR w)) (F0 m 19 ls [])) → ∀ (S : GS) (x3 : Int32) (x4 : Int32) (x5 : Int32) (x6 : Int32) (x8 : Int32) (s1 : Int32) (s2 : Int32) (s3 : Int32) (H : Heap) (locs : List Loc) (ls : Array Slot), HR w K g S H → va_S (FR w) s.heap H locs → lv_has ls 10 [(0, .ref w.2.2.2), (1, .int p0), (3, .int x3), (4, .int x4), (5, .int x5), (6, .int x6), (8, .int x8)] → f8_countCard_125 k19 p0 p1 S x3 x4 x5 x6 x8 s1 s2 s3 = some out → W p l e ({ frames := 3, cells := 0, slots := 0, locals := 66 } : Room) s m args below meth c H locs 0 0 (MQ below (QV w K g out) args s 0 0 (FR w)) (F0 m 125 ls [.int s3, .int s2, .int s1, .ref w.2.2.2]) := by
    intro k19 hk19 S x3 x4 x5 x6 x8 s1 s2 s3 H locs ls hH hS hl hf
    unfold f8_countCard_125 at hf
    obtain ⟨g16, h17, hf⟩ := gbind hf
    refine g_Vv (As := [.int s1, .int s2, .int s3]) (rest := []) ⟨hx, hb, hml, hown, hts⟩ (c8_countPicks l w K g S s1 s2 s3 g16 h17) (gcwV hts i8_countPicks wd_790 rfl rfl ⟨Nat.le_of_ble_eq_true rfl, Nat.le_of_ble_eq_true rfl⟩) (gRecv.of hK rfl hH.ob) hH hK hS hl.1 rfl rfl (Nat.le_of_ble_eq_true rfl) dX8_countCard_125 ⟨Nat.le_refl _, Nat.le_refl _⟩ (fun H locs hH hS => ?_)
    refine lv_iload hx hb dX8_countCard_128 (lv_at hl 5 rfl) ?_
    refine lv_iload hx hb dX8_countCard_130 (lv_at hl 6 rfl) ?_
    have hg := gif hf
    refine lv_if_eq (tgt := 139) hx hb dX8_countCard_132 (by decide) (fun c18 => ?_) (fun c18 => ?_)
    · have hf := hg.1 c18
      refine lv_iconst (v := 1) hx hb dX8_countCard_139 (by decide) ?_
      exact B140 _ (hk19) _ _ _ _ _ _ _ _ _ hH hS (lv_sub hl [0, 1, 2, 3, 4] rfl) hf
    · have hf := hg.2 c18
      refine lv_iconst (v := 2) hx hb dX8_countCard_135 (by decide) ?_
      refine lv_goto (tgt := 140) hx hb dX8_countCard_136 (by decide) ?_
      exact B140 _ (hk19) _ _ _ _ _ _ _ _ _ hH hS (lv_sub hl [0, 1, 2, 3, 4] rfl) hf
  have B19 : ∀ n : Nat, ∀ (S : GS) (x3 : Int32) (x4 : Int32) (x5 : Int32) (x6 : Int32) (H : Heap) (locs : List Loc) (ls : Array Slot), HR w K g S H → va_S (FR w) s.heap H locs → lv_has ls 10 [(0, .ref w.2.2.2), (1, .int p0), (3, .int x3), (4, .int x4), (5, .int x5), (6, .int x6)] → f8_countCard_19 p0 p1 n S x3 x4 x5 x6 = some out → W p l e ({ frames := 3, cells := 0, slots := 0, locals := 66 } : Room) s m args below meth c H locs 0 0 (MQ below (QV w K g out) args s 0 0 (FR w)) (F0 m 19 ls []) := by
    intro n
    induction n with
    | zero =>
      intro S x3 x4 x5 x6 H locs ls hH hS hl hf
      cases hf
    | succ n ih =>
      intro S x3 x4 x5 x6 H locs ls hH hS hl hf
      rw [f8_countCard_19] at hf
      refine lv_iload hx hb dX8_countCard_19 (lv_at hl 5 rfl) ?_
      refine lv_aload_n hx hb dX8_countCard_21 rfl (lv_at hl 0 rfl) ?_
      refine e_8_0 hx hb hts hown hK hH (hts _ wd_101) dX8_countCard_22 ?_
      refine lv_bipush (v := 43) hx hb dX8_countCard_25 (by decide) ?_
      refine lv_iload_n hx hb dX8_countCard_27 rfl (lv_at hl 1 rfl) ?_
      refine lv_iadd hx hb dX8_countCard_28 ?_
      obtain ⟨h20, hf⟩ := gd_some hf
      refine m_iald hx hb hK hH 1 (by decide) (by decide) rfl h20 dX8_countCard_29 ?_
      have hg := gif hf
      refine lv_icmp_ge (tgt := 327) hx hb dX8_countCard_30 (by decide) (fun c21 => ?_) (fun c21 => ?_)
      · have hf := hg.1 c21
        have ho := Option.some.inj hf
        exact W.vret hx hb hr (fun t ht hW => ⟨⟨(), rfl, trivial, hrVm ht ho hH⟩, hS.F ht⟩) hS.2.2 dX8_countCard_327
      · have hf := hg.2 c21
        refine lv_aload_n hx hb dX8_countCard_33 rfl (lv_at hl 0 rfl) ?_
        refine lv_iload_n hx hb dX8_countCard_34 rfl (lv_at hl 1 rfl) ?_
        refine lv_iload hx hb dX8_countCard_35 (lv_at hl 5 rfl) ?_
        refine lv_iconst (v := 1) hx hb dX8_countCard_37 (by decide) ?_
        refine lv_iadd hx hb dX8_countCard_38 ?_
        obtain ⟨v22, h23, hf⟩ := gbind hf
        refine g_Vi (As := [.int p0, .int (x6 + 1)]) (rest := []) ⟨hx, hb, hml, hown, hts⟩ (c8_digitAt l w K g S p0 (x6 + 1) v22 h23) (gcwV hts i8_digitAt wd_786 rfl rfl ⟨Nat.le_of_ble_eq_true rfl, Nat.le_of_ble_eq_true rfl⟩) (gRecv.of hK rfl hH.ob) hH hK hS hl.1 rfl rfl (Nat.le_of_ble_eq_true rfl) dX8_countCard_39 ⟨Nat.le_refl _, Nat.le_refl _⟩ (fun H locs hH hS => ?_)
        refine lv_istore (lv' := [(7, .int v22), (0, .ref w.2.2.2), (1, .int p0), (3, .int x3), (4, .int x4), (5, .int x5), (6, .int x6)]) hx hb dX8_countCard_42 hl (by decide) rfl (fun ls hl => ?_)
        refine lv_aload_n hx hb dX8_countCard_44 rfl (lv_at hl 1 rfl) ?_
        refine lv_iload_n hx hb dX8_countCard_45 rfl (lv_at hl 2 rfl) ?_
        refine lv_iload hx hb dX8_countCard_46 (lv_at hl 6 rfl) ?_
        obtain ⟨v24, h25, hf⟩ := gbind hf
        refine g_Vi (As := [.int p0, .int x6]) (rest := []) ⟨hx, hb, hml, hown, hts⟩ (c8_textAt l w K g S p0 x6 v24 h25) (gcwV hts i8_textAt wd_293 rfl rfl ⟨Nat.le_of_ble_eq_true rfl, Nat.le_of_ble_eq_true rfl⟩) (gRecv.of hK rfl hH.ob) hH hK hS hl.1 rfl rfl (Nat.le_of_ble_eq_true rfl) dX8_countCard_48 ⟨Nat.le_refl _, Nat.le_refl _⟩ (fun H locs hH hS => ?_)
        have hg := gif hf
        by_cases c26 : v24 = 41
        · have hf := hg.1 c26
          refine lv_lookup (tgt := 192) hx hb dX8_countCard_51 (by decide +kernel) (by rw [c26]; first | done | decide +kernel) (by decide) ?_
          refine lv_aload_n hx hb dX8_countCard_192 rfl (lv_at hl 1 rfl) ?_
          refine e_8_13 hx hb hts hown hK hH (hts _ wd_110) dX8_countCard_193 ?_
          refine lv_iload hx hb dX8_countCard_196 (lv_at hl 5 rfl) ?_
          refine lv_iconst (v := 1) hx hb dX8_countCard_198 (by decide) ?_
          refine lv_isub hx hb dX8_countCard_199 ?_
          refine lv_dup2_11 hx hb dX8_countCard_200 rfl rfl ?_
          obtain ⟨h28, hf⟩ := gd_some hf
          refine m_iald hx hb hK hH 10 (by decide) (by decide) rfl h28 dX8_countCard_201 ?_
          refine lv_iconst (v := 1) hx hb dX8_countCard_202 (by decide) ?_
          refine lv_isub hx hb dX8_countCard_203 ?_
          refine m_iast hx hb hK hH hS 10 (by decide) (by decide) rfl h28 dX8_countCard_204 (fun H locs hH hS => ?_)
          obtain ⟨S30, eS30⟩ : ∃ z : GS, z = ssI S 10 (x5 - 1).toNatClampNeg ((S 10 (x5 - 1).toNatClampNeg) - 1) := ⟨_, rfl⟩
          have hf := gl_at hf eS30
          replace hH : HR w K g S30 H := by rw [eS30]; exact hH
          refine lv_aload_n hx hb dX8_countCard_205 rfl (lv_at hl 1 rfl) ?_
          refine e_8_13 hx hb hts hown hK hH (hts _ wd_110) dX8_countCard_206 ?_
          refine lv_iload hx hb dX8_countCard_209 (lv_at hl 5 rfl) ?_
          refine lv_iconst (v := 1) hx hb dX8_countCard_211 (by decide) ?_
          refine lv_isub hx hb dX8_countCard_212 ?_
          refine m_iald hx hb hK hH 10 (by decide) (by decide) rfl h28 dX8_countCard_213 ?_
          have hg := gif hf
          refine lv_if_le (tgt := 229) hx hb dX8_countCard_214 (by decide) (fun c32 => ?_) (fun c32 => ?_)
          · have hf := hg.1 c32
            refine lv_iload hx hb dX8_countCard_229 (lv_at hl 6 rfl) ?_
            refine lv_iconst (v := 1) hx hb dX8_countCard_231 (by decide) ?_
            refine lv_iadd hx hb dX8_countCard_232 ?_
            exact B233 _ (ih) _ _ _ _ _ _ _ _ hH hS (lv_sub hl [1, 2, 3, 4, 5] rfl) hf
          · have hf := hg.2 c32
            refine lv_aload_n hx hb dX8_countCard_217 rfl (lv_at hl 1 rfl) ?_
            refine e_8_12 hx hb hts hown hK hH (hts _ wd_109) dX8_countCard_218 ?_
            refine lv_iload hx hb dX8_countCard_221 (lv_at hl 5 rfl) ?_
            refine lv_iconst (v := 1) hx hb dX8_countCard_223 (by decide) ?_
            refine lv_isub hx hb dX8_countCard_224 ?_
            refine m_iald hx hb hK hH 9 (by decide) (by decide) rfl h28 dX8_countCard_225 ?_
            refine lv_goto (tgt := 233) hx hb dX8_countCard_226 (by decide) ?_
            exact B233 _ (ih) _ _ _ _ _ _ _ _ hH hS (lv_sub hl [1, 2, 3, 4, 5] rfl) hf
        have hf := hg.2 c26
        have hg := gif hf
        by_cases c34 : v24 = 99
        · have hf := hg.1 c34
          refine lv_lookup (tgt := 146) hx hb dX8_countCard_51 (by decide +kernel) (by rw [c34]; first | done | decide +kernel) (by decide) ?_
          refine lv_iload hx hb dX8_countCard_146 (lv_at hl 0 rfl) ?_
          refine lv_istore (lv' := [(4, .int v22), (7, .int v22), (0, .ref w.2.2.2), (1, .int p0), (3, .int x3), (5, .int x5), (6, .int x6)]) hx hb dX8_countCard_148 hl (by decide) rfl (fun ls hl => ?_)
          obtain ⟨v35, ev35⟩ : ∃ z : Int32, z = x6 + 2 := ⟨_, rfl⟩
          have hf := gl_at hf ev35
          refine lv_iinc (v := v35) (lv' := [(6, .int v35), (4, .int v22), (7, .int v22), (0, .ref w.2.2.2), (1, .int p0), (3, .int x3), (5, .int x5)]) hx hb dX8_countCard_150 hl (k := 6) rfl (by rw [ev35]; rfl) (by decide) rfl (fun ls hl => ?_)
          refine lv_goto (tgt := 324) hx hb dX8_countCard_153 (by decide) ?_
          exact B324 _ (ih) _ _ _ _ _ _ _ _ hH hS (lv_sub hl [3, 4, 5, 1, 6, 0] rfl) hf
        have hf := hg.2 c34
        have hg := gif hf
        by_cases c36 : v24 = 107
        · have hf := hg.1 c36
          refine lv_lookup (tgt := 156) hx hb dX8_countCard_51 (by decide +kernel) (by rw [c36]; first | done | decide +kernel) (by decide) ?_
          refine lv_aload_n hx hb dX8_countCard_156 rfl (lv_at hl 1 rfl) ?_
          refine lv_iload_n hx hb dX8_countCard_157 rfl (lv_at hl 3 rfl) ?_
          refine lv_bipush (v := 36) hx hb dX8_countCard_158 (by decide) ?_
          refine lv_iload hx hb dX8_countCard_160 (lv_at hl 0 rfl) ?_
          refine lv_imul hx hb dX8_countCard_162 ?_
          refine lv_bipush (v := 6) hx hb dX8_countCard_163 (by decide) ?_
          refine lv_iload hx hb dX8_countCard_165 (lv_at hl 4 rfl) ?_
          refine lv_imul hx hb dX8_countCard_167 ?_
          refine lv_iadd hx hb dX8_countCard_168 ?_
          obtain ⟨g37, h38, hf⟩ := gbind hf
          refine g_Vv (As := [.int x3, .int ((36 * v22) + (6 * x4))]) (rest := []) ⟨hx, hb, hml, hown, hts⟩ (c8_addCalled l w K g S x3 ((36 * v22) + (6 * x4)) g37 h38) (gcwV hts i8_addCalled wd_798 rfl rfl ⟨Nat.le_of_ble_eq_true rfl, Nat.le_of_ble_eq_true rfl⟩) (gRecv.of hK rfl hH.ob) hH hK hS hl.1 rfl rfl (Nat.le_of_ble_eq_true rfl) dX8_countCard_169 ⟨Nat.le_refl _, Nat.le_refl _⟩ (fun H locs hH hS => ?_)
          obtain ⟨v39, ev39⟩ : ∃ z : Int32, z = x6 + 2 := ⟨_, rfl⟩
          have hf := gl_at hf ev39
          refine lv_iinc (v := v39) (lv' := [(6, .int v39), (7, .int v22), (0, .ref w.2.2.2), (1, .int p0), (3, .int x3), (4, .int x4), (5, .int x5)]) hx hb dX8_countCard_172 hl (k := 6) rfl (by rw [ev39]; rfl) (by decide) rfl (fun ls hl => ?_)
          refine lv_goto (tgt := 324) hx hb dX8_countCard_175 (by decide) ?_
          exact B324 _ (ih) _ _ _ _ _ _ _ _ hH hS (lv_sub hl [2, 3, 4, 5, 6, 0] rfl) hf
        have hf := hg.2 c36
        have hg := gif hf
        by_cases c40 : v24 = 115
        · have hf := hg.1 c40
          refine lv_lookup (tgt := 178) hx hb dX8_countCard_51 (by decide +kernel) (by rw [c40]; first | done | decide +kernel) (by decide) ?_
          refine lv_aload_n hx hb dX8_countCard_178 rfl (lv_at hl 1 rfl) ?_
          refine lv_iload_n hx hb dX8_countCard_179 rfl (lv_at hl 2 rfl) ?_
          refine lv_iload hx hb dX8_countCard_180 (lv_at hl 6 rfl) ?_
          refine lv_iconst (v := 1) hx hb dX8_countCard_182 (by decide) ?_
          refine lv_iadd hx hb dX8_countCard_183 ?_
          obtain ⟨v41, h42, hf⟩ := gbind hf
          refine g_Vi (As := [.int p0, .int (x6 + 1)]) (rest := []) ⟨hx, hb, hml, hown, hts⟩ (c8_behindPart l w K g S p0 (x6 + 1) v41 h42) (gcwV hts i8_behindPart wd_802 rfl rfl ⟨Nat.le_of_ble_eq_true rfl, Nat.le_of_ble_eq_true rfl⟩) (gRecv.of hK rfl hH.ob) hH hK hS hl.1 rfl rfl (Nat.le_of_ble_eq_true rfl) dX8_countCard_184 ⟨Nat.le_refl _, Nat.le_refl _⟩ (fun H locs hH hS => ?_)
          refine lv_istore (lv' := [(6, .int v41), (7, .int v22), (0, .ref w.2.2.2), (1, .int p0), (3, .int x3), (4, .int x4), (5, .int x5)]) hx hb dX8_countCard_187 hl (by decide) rfl (fun ls hl => ?_)
          refine lv_goto (tgt := 324) hx hb dX8_countCard_189 (by decide) ?_
          exact B324 _ (ih) _ _ _ _ _ _ _ _ hH hS (lv_sub hl [2, 3, 4, 5, 6, 0] rfl) hf
        have hf := hg.2 c40
        have hg := gif hf
        by_cases c43 : v24 = 119
        · have hf := hg.1 c43
          refine lv_lookup (tgt := 100) hx hb dX8_countCard_51 (by decide +kernel) (by rw [c43]; first | done | decide +kernel) (by decide) ?_
          refine lv_iload hx hb dX8_countCard_100 (lv_at hl 0 rfl) ?_
          refine lv_iconst (v := 2) hx hb dX8_countCard_102 (by decide) ?_
          refine lv_bipush (v := 9) hx hb dX8_countCard_103 (by decide) ?_
          obtain ⟨v44, h45, hf⟩ := gbind hf
          refine g_Si (As := [.int v22, .int 2, .int 9]) (rest := []) ⟨hx, hb, hml, hown, hts⟩ (c8_within l w K g S v22 2 9 v44 h45) (gcwS hts i8_within wd_155 rfl rfl ⟨Nat.le_of_ble_eq_true rfl, Nat.le_of_ble_eq_true rfl⟩) hH hK hS hl.1 rfl rfl (Nat.le_of_ble_eq_true rfl) dX8_countCard_105 ⟨Nat.le_refl _, Nat.le_refl _⟩ (fun H locs hH hS => ?_)
          refine lv_istore (lv' := [(8, .int v44), (7, .int v22), (0, .ref w.2.2.2), (1, .int p0), (3, .int x3), (4, .int x4), (5, .int x5), (6, .int x6)]) hx hb dX8_countCard_108 hl (by decide) rfl (fun ls hl => ?_)
          refine lv_aload_n hx hb dX8_countCard_110 rfl (lv_at hl 2 rfl) ?_
          refine lv_iload_n hx hb dX8_countCard_111 rfl (lv_at hl 4 rfl) ?_
          refine lv_iload hx hb dX8_countCard_112 (lv_at hl 5 rfl) ?_
          refine lv_iload hx hb dX8_countCard_114 (lv_at hl 0 rfl) ?_
          have hg := gif hf
          refine lv_if_eq (tgt := 124) hx hb dX8_countCard_116 (by decide) (fun c46 => ?_) (fun c46 => ?_)
          · have hf := hg.1 c46
            refine lv_iconst (v := 1) hx hb dX8_countCard_124 (by decide) ?_
            exact B125 _ (ih) _ _ _ _ _ _ _ _ _ _ _ _ hH hS (lv_sub hl [2, 3, 4, 5, 6, 7, 0] rfl) hf
          · have hf := hg.2 c46
            refine lv_iload hx hb dX8_countCard_119 (lv_at hl 1 rfl) ?_
            refine lv_goto (tgt := 125) hx hb dX8_countCard_121 (by decide) ?_
            exact B125 _ (ih) _ _ _ _ _ _ _ _ _ _ _ _ hH hS (lv_sub hl [2, 3, 4, 5, 6, 7, 0] rfl) hf
        have hf := hg.2 c43
        have nc26 : v24.toInt ≠ 41 := g_ne c26 (by decide)
        have nc34 : v24.toInt ≠ 99 := g_ne c34 (by decide)
        have nc36 : v24.toInt ≠ 107 := g_ne c36 (by decide)
        have nc40 : v24.toInt ≠ 115 := g_ne c40 (by decide)
        have nc43 : v24.toInt ≠ 119 := g_ne c43 (by decide)
        refine lv_lookup (off := 209) (tgt := 260) hx hb dX8_countCard_51 (by decide +kernel) (by simp [Op.lookupswitch.offset, nc26, nc34, nc36, nc40, nc43, nc26.symm, nc34.symm, nc36.symm, nc40.symm, nc43.symm]) (by decide) ?_
        refine lv_aload_n hx hb dX8_countCard_260 rfl (lv_at hl 1 rfl) ?_
        refine lv_iload_n hx hb dX8_countCard_261 rfl (lv_at hl 2 rfl) ?_
        refine lv_iload hx hb dX8_countCard_262 (lv_at hl 6 rfl) ?_
        obtain ⟨v47, h48, hf⟩ := gbind hf
        refine g_Vi (As := [.int p0, .int x6]) (rest := []) ⟨hx, hb, hml, hown, hts⟩ (c8_textAt l w K g S p0 x6 v47 h48) (gcwV hts i8_textAt wd_293 rfl rfl ⟨Nat.le_of_ble_eq_true rfl, Nat.le_of_ble_eq_true rfl⟩) (gRecv.of hK rfl hH.ob) hH hK hS hl.1 rfl rfl (Nat.le_of_ble_eq_true rfl) dX8_countCard_264 ⟨Nat.le_refl _, Nat.le_refl _⟩ (fun H locs hH hS => ?_)
        refine lv_bipush (v := 120) hx hb dX8_countCard_267 (by decide) ?_
        have hg := gif hf
        refine lv_icmp_ne (tgt := 276) hx hb dX8_countCard_269 (by decide) (fun c49 => ?_) (fun c49 => ?_)
        · have hf := hg.2 c49
          refine lv_iconst (v := 0) hx hb dX8_countCard_276 (by decide) ?_
          exact B277 _ (ih) _ _ _ _ _ _ _ _ _ _ hH hS (lv_sub hl [1, 2, 3, 4, 5, 6, 0] rfl) hf
        · have hf := hg.1 c49
          refine lv_iconst (v := 1) hx hb dX8_countCard_272 (by decide) ?_
          refine lv_goto (tgt := 277) hx hb dX8_countCard_273 (by decide) ?_
          exact B277 _ (ih) _ _ _ _ _ _ _ _ _ _ hH hS (lv_sub hl [1, 2, 3, 4, 5, 6, 0] rfl) hf
  have hl : lv_has ls 10 [(0, .ref w.2.2.2), (1, .int p0), (2, .int p1)] := hl
  refine lv_bipush (v := 36) hx hb dX8_countCard_0 (by decide) ?_
  refine lv_iload_n hx hb dX8_countCard_2 rfl (lv_at hl 1 rfl) ?_
  refine lv_imul hx hb dX8_countCard_3 ?_
  refine lv_bipush (v := 6) hx hb dX8_countCard_4 (by decide) ?_
  refine lv_iload_n hx hb dX8_countCard_6 rfl (lv_at hl 2 rfl) ?_
  refine lv_imul hx hb dX8_countCard_7 ?_
  refine lv_iadd hx hb dX8_countCard_8 ?_
  refine lv_topi (fun v50 ev50 => ?_)
  have hf := gl_at hf ev50
  refine lv_istore_n (lv' := [(3, .int v50), (0, .ref w.2.2.2), (1, .int p0), (2, .int p1)]) hx hb dX8_countCard_9 rfl hl (by decide) rfl (fun ls hl => ?_)
  refine lv_iload_n hx hb dX8_countCard_10 rfl (lv_at hl 3 rfl) ?_
  refine lv_istore (lv' := [(4, .int p1), (3, .int v50), (0, .ref w.2.2.2), (1, .int p0), (2, .int p1)]) hx hb dX8_countCard_11 hl (by decide) rfl (fun ls hl => ?_)
  refine lv_iconst (v := 0) hx hb dX8_countCard_13 (by decide) ?_
  refine lv_istore (lv' := [(5, .int 0), (4, .int p1), (3, .int v50), (0, .ref w.2.2.2), (1, .int p0), (2, .int p1)]) hx hb dX8_countCard_14 hl (by decide) rfl (fun ls hl => ?_)
  refine lv_iconst (v := 0) hx hb dX8_countCard_16 (by decide) ?_
  refine lv_istore (lv' := [(6, .int 0), (5, .int 0), (4, .int p1), (3, .int v50), (0, .ref w.2.2.2), (1, .int p0), (2, .int p1)]) hx hb dX8_countCard_17 hl (by decide) rfl (fun ls hl => ?_)
  exact B19 _ _ _ _ _ _ _ _ _ hH hS (lv_sub hl [4, 5, 3, 2, 1, 0] rfl) hf
set_option maxRecDepth 100000 in
set_option maxHeartbeats 8000000 in
theorem c8_deepest (l : Launch) (w : GW) (K : GK) (g : GM) (S : GS) (p0 : Int32) (out : Int32) (hf : f8_deepest S p0 = some out) : Met l yX8_deepest (wA yX8_deepest cX8_deepest 4 (some .int)) ({ frames := 0, cells := 0, slots := 0, locals := 0 } : Room) (PRE w K g S [.ref w.2.2.2, .int p0]) (QI w K g S out) 0 0 (FR w) := by
  unfold f8_deepest at hf
  refine Met.ofW (cc := cX8_deepest) (maxL := 4) (ret := (some .int)) (by decide) rfl ?_
  intro p e s m args below meth c s₁ B hml hv
  obtain ⟨rfl, hH, hK⟩ := hv
  have hx := B.exec
  have hb := B.bytes
  have hr := B.returns
  have hts : ∀ q ∈ gALL, q.before _ s = true := fun q h => atoms_spec (ws := (wA yX8_deepest cX8_deepest 4 (some .int))) B.pre q (List.mem_cons_of_mem _ h)
  have hown : s.vm.findClass RX8 = some m.cls := findClass_of_methodNamed B.named
  have hlocks := B.notSynchronized
  have hS : va_S (FR w) s.heap s.heap [] := va_S.rf
  show W p l e ({ frames := 0, cells := 0, slots := 0, locals := 0 } : Room) s m _ below meth c s.heap [] 0 0 (MQ below (QI w K g S out) _ s 0 0 (FR w)) _
  have hl := lv_entry ([.ref w.2.2.2, .int p0]) (n := 4) (Nat.le_of_ble_eq_true rfl)
  rw [lg_entry_eq]
  generalize (lg_sl ([.ref w.2.2.2, .int p0]) ++ List.replicate (4 - (lg_sl ([.ref w.2.2.2, .int p0])).length) Slot.unset).toArray = ls at hl ⊢
  clear B
  generalize ([.ref w.2.2.2, .int p0] : List Value).toArray = args at hts ⊢
  have B39 : ∀ (k4 : Int32 → Int32 → Option (Int32)), (∀ (x2 : Int32) (x3 : Int32) (H : Heap) (locs : List Loc) (ls : Array Slot), HR w K g S H → va_S (FR w) s.heap H locs → lv_has ls 4 [(0, .ref w.2.2.2), (1, .int p0), (2, .int x2), (3, .int x3)] → k4 x2 x3 = some out → W p l e ({ frames := 0, cells := 0, slots := 0, locals := 0 } : Room) s m args below meth c H locs 0 0 (MQ below (QI w K g S out) args s 0 0 (FR w)) (F0 m 4 ls [])) → ∀ (x3 : Int32) (s0 : Int32) (H : Heap) (locs : List Loc) (ls : Array Slot), HR w K g S H → va_S (FR w) s.heap H locs → lv_has ls 4 [(0, .ref w.2.2.2), (1, .int p0), (3, .int x3)] → f8_deepest_39 k4 S p0 x3 s0 = some out → W p l e ({ frames := 0, cells := 0, slots := 0, locals := 0 } : Room) s m args below meth c H locs 0 0 (MQ below (QI w K g S out) args s 0 0 (FR w)) (F0 m 39 ls [.int s0]) := by
    intro k4 hk4 x3 s0 H locs ls hH hS hl hf
    unfold f8_deepest_39 at hf
    refine lv_istore_n (lv' := [(2, .int s0), (0, .ref w.2.2.2), (1, .int p0), (3, .int x3)]) hx hb dX8_deepest_39 rfl hl (by decide) rfl (fun ls hl => ?_)
    obtain ⟨v1, ev1⟩ : ∃ z : Int32, z = x3 + 1 := ⟨_, rfl⟩
    have hf := gl_at hf ev1
    refine lv_iinc (v := v1) (lv' := [(3, .int v1), (2, .int s0), (0, .ref w.2.2.2), (1, .int p0)]) hx hb dX8_deepest_40 hl (k := 3) rfl (by rw [ev1]; rfl) (by decide) rfl (fun ls hl => ?_)
    refine lv_goto (tgt := 4) hx hb dX8_deepest_43 (by decide) ?_
    exact hk4 _ _ _ _ _ hH hS (lv_sub hl [2, 3, 1, 0] rfl) hf
  have B38 : ∀ (k4 : Int32 → Int32 → Option (Int32)), (∀ (x2 : Int32) (x3 : Int32) (H : Heap) (locs : List Loc) (ls : Array Slot), HR w K g S H → va_S (FR w) s.heap H locs → lv_has ls 4 [(0, .ref w.2.2.2), (1, .int p0), (2, .int x2), (3, .int x3)] → k4 x2 x3 = some out → W p l e ({ frames := 0, cells := 0, slots := 0, locals := 0 } : Room) s m args below meth c H locs 0 0 (MQ below (QI w K g S out) args s 0 0 (FR w)) (F0 m 4 ls [])) → ∀ (x2 : Int32) (x3 : Int32) (H : Heap) (locs : List Loc) (ls : Array Slot), HR w K g S H → va_S (FR w) s.heap H locs → lv_has ls 4 [(0, .ref w.2.2.2), (1, .int p0), (2, .int x2), (3, .int x3)] → f8_deepest_38 k4 S p0 x2 x3 = some out → W p l e ({ frames := 0, cells := 0, slots := 0, locals := 0 } : Room) s m args below meth c H locs 0 0 (MQ below (QI w K g S out) args s 0 0 (FR w)) (F0 m 38 ls []) := by
    intro k4 hk4 x2 x3 H locs ls hH hS hl hf
    unfold f8_deepest_38 at hf
    refine lv_iload_n hx hb dX8_deepest_38 rfl (lv_at hl 2 rfl) ?_
    exact B39 _ (hk4) _ _ _ _ _ hH hS (lv_sub hl [0, 1, 3] rfl) hf
  have B4 : ∀ n : Nat, ∀ (x2 : Int32) (x3 : Int32) (H : Heap) (locs : List Loc) (ls : Array Slot), HR w K g S H → va_S (FR w) s.heap H locs → lv_has ls 4 [(0, .ref w.2.2.2), (1, .int p0), (2, .int x2), (3, .int x3)] → f8_deepest_4 S p0 n x2 x3 = some out → W p l e ({ frames := 0, cells := 0, slots := 0, locals := 0 } : Room) s m args below meth c H locs 0 0 (MQ below (QI w K g S out) args s 0 0 (FR w)) (F0 m 4 ls []) := by
    intro n
    induction n with
    | zero =>
      intro x2 x3 H locs ls hH hS hl hf
      cases hf
    | succ n ih =>
      intro x2 x3 H locs ls hH hS hl hf
      rw [f8_deepest_4] at hf
      refine lv_iload_n hx hb dX8_deepest_4 rfl (lv_at hl 3 rfl) ?_
      refine lv_bipush (v := 10) hx hb dX8_deepest_5 (by decide) ?_
      have hg := gif hf
      refine lv_icmp_ge (tgt := 46) hx hb dX8_deepest_7 (by decide) (fun c2 => ?_) (fun c2 => ?_)
      · have hf := hg.1 c2
        refine lv_iload_n hx hb dX8_deepest_46 rfl (lv_at hl 2 rfl) ?_
        have ho := Option.some.inj hf
        exact W.iret (v := x2) hx hb hr (fun t ht hW => ⟨⟨x2, (), rfl, ho, hrE ht hH⟩, hS.F ht⟩) hS.2.2 dX8_deepest_47
      · have hf := hg.2 c2
        refine lv_iload_n hx hb dX8_deepest_10 rfl (lv_at hl 1 rfl) ?_
        refine lv_iload_n hx hb dX8_deepest_11 rfl (lv_at hl 3 rfl) ?_
        refine lv_ishr hx hb dX8_deepest_12 ?_
        refine lv_iconst (v := 1) hx hb dX8_deepest_13 (by decide) ?_
        refine lv_iand hx hb dX8_deepest_14 ?_
        refine lv_iconst (v := 1) hx hb dX8_deepest_15 (by decide) ?_
        have hg := gif hf
        refine lv_icmp_ne (tgt := 38) hx hb dX8_deepest_16 (by decide) (fun c3 => ?_) (fun c3 => ?_)
        · have hf := hg.2 c3
          exact B38 _ (ih) _ _ _ _ _ hH hS (lv_sub hl [0, 1, 2, 3] rfl) hf
        · have hf := hg.1 c3
          refine lv_aload_n hx hb dX8_deepest_19 rfl (lv_at hl 0 rfl) ?_
          refine e_8_11 hx hb hts hown hK hH (hts _ wd_108) dX8_deepest_20 ?_
          refine lv_iload_n hx hb dX8_deepest_23 rfl (lv_at hl 3 rfl) ?_
          obtain ⟨h5, hf⟩ := gd_some hf
          refine m_iald hx hb hK hH 8 (by decide) (by decide) rfl h5 dX8_deepest_24 ?_
          refine lv_iload_n hx hb dX8_deepest_25 rfl (lv_at hl 2 rfl) ?_
          have hg := gif hf
          refine lv_icmp_le (tgt := 38) hx hb dX8_deepest_26 (by decide) (fun c6 => ?_) (fun c6 => ?_)
          · have hf := hg.1 c6
            exact B38 _ (ih) _ _ _ _ _ hH hS (lv_sub hl [0, 1, 2, 3] rfl) hf
          · have hf := hg.2 c6
            refine lv_aload_n hx hb dX8_deepest_29 rfl (lv_at hl 0 rfl) ?_
            refine e_8_11 hx hb hts hown hK hH (hts _ wd_108) dX8_deepest_30 ?_
            refine lv_iload_n hx hb dX8_deepest_33 rfl (lv_at hl 3 rfl) ?_
            refine m_iald hx hb hK hH 8 (by decide) (by decide) rfl h5 dX8_deepest_34 ?_
            refine lv_goto (tgt := 39) hx hb dX8_deepest_35 (by decide) ?_
            exact B39 _ (ih) _ _ _ _ _ hH hS (lv_sub hl [0, 1, 3] rfl) hf
  have hl : lv_has ls 4 [(0, .ref w.2.2.2), (1, .int p0)] := hl
  refine lv_iconst (v := 0) hx hb dX8_deepest_0 (by decide) ?_
  refine lv_istore_n (lv' := [(2, .int 0), (0, .ref w.2.2.2), (1, .int p0)]) hx hb dX8_deepest_1 rfl hl (by decide) rfl (fun ls hl => ?_)
  refine lv_iconst (v := 0) hx hb dX8_deepest_2 (by decide) ?_
  refine lv_istore_n (lv' := [(3, .int 0), (2, .int 0), (0, .ref w.2.2.2), (1, .int p0)]) hx hb dX8_deepest_3 rfl hl (by decide) rfl (fun ls hl => ?_)
  exact B4 _ _ _ _ _ _ hH hS (lv_sub hl [2, 3, 1, 0] rfl) hf
set_option maxRecDepth 100000 in
set_option maxHeartbeats 8000000 in
theorem c8_countAll (l : Launch) (w : GW) (K : GK) (g : GM) (S : GS) (out : GS) (hf : f8_countAll S = some out) : Met l yX8_countAll (wA yX8_countAll cX8_countAll 4 none) ({ frames := 4, cells := 0, slots := 0, locals := 95 } : Room) (PRE w K g S [.ref w.2.2.2]) (QV w K g out) 0 0 (FR w) := by
  unfold f8_countAll at hf
  refine Met.ofW (cc := cX8_countAll) (maxL := 4) (ret := none) (by decide) rfl ?_
  intro p e s m args below meth c s₁ B hml hv
  obtain ⟨rfl, hH, hK⟩ := hv
  have hx := B.exec
  have hb := B.bytes
  have hr := B.returns
  have hts : ∀ q ∈ gALL, q.before _ s = true := fun q h => atoms_spec (ws := (wA yX8_countAll cX8_countAll 4 none)) B.pre q (List.mem_cons_of_mem _ h)
  have hown : s.vm.findClass RX8 = some m.cls := findClass_of_methodNamed B.named
  have hlocks := B.notSynchronized
  have hS : va_S (FR w) s.heap s.heap [] := va_S.rf
  show W p l e ({ frames := 4, cells := 0, slots := 0, locals := 95 } : Room) s m _ below meth c s.heap [] 0 0 (MQ below (QV w K g out) _ s 0 0 (FR w)) _
  have hl := lv_entry ([.ref w.2.2.2]) (n := 4) (Nat.le_of_ble_eq_true rfl)
  rw [lg_entry_eq]
  generalize (lg_sl ([.ref w.2.2.2]) ++ List.replicate (4 - (lg_sl ([.ref w.2.2.2])).length) Slot.unset).toArray = ls at hl ⊢
  clear B
  generalize ([.ref w.2.2.2] : List Value).toArray = args at hts ⊢
  have B125 : ∀ (k45 : GS → Int32 → Option (GS)), (∀ (S : GS) (x1 : Int32) (H : Heap) (locs : List Loc) (ls : Array Slot), HR w K g S H → va_S (FR w) s.heap H locs → lv_has ls 4 [(0, .ref w.2.2.2), (1, .int x1)] → k45 S x1 = some out → W p l e ({ frames := 4, cells := 0, slots := 0, locals := 95 } : Room) s m args below meth c H locs 0 0 (MQ below (QV w K g out) args s 0 0 (FR w)) (F0 m 45 ls [])) → ∀ (k53 : GS → Int32 → Int32 → Option (GS)), (∀ (S : GS) (x1 : Int32) (x2 : Int32) (H : Heap) (locs : List Loc) (ls : Array Slot), HR w K g S H → va_S (FR w) s.heap H locs → lv_has ls 4 [(0, .ref w.2.2.2), (1, .int x1), (2, .int x2)] → k53 S x1 x2 = some out → W p l e ({ frames := 4, cells := 0, slots := 0, locals := 95 } : Room) s m args below meth c H locs 0 0 (MQ below (QV w K g out) args s 0 0 (FR w)) (F0 m 53 ls [])) → ∀ (S : GS) (x1 : Int32) (x2 : Int32) (H : Heap) (locs : List Loc) (ls : Array Slot), HR w K g S H → va_S (FR w) s.heap H locs → lv_has ls 4 [(0, .ref w.2.2.2), (1, .int x1), (2, .int x2)] → f8_countAll_125 k45 k53 S x1 x2 = some out → W p l e ({ frames := 4, cells := 0, slots := 0, locals := 95 } : Room) s m args below meth c H locs 0 0 (MQ below (QV w K g out) args s 0 0 (FR w)) (F0 m 125 ls []) := by
    intro k45 hk45 k53 hk53 S x1 x2 H locs ls hH hS hl hf
    unfold f8_countAll_125 at hf
    obtain ⟨v1, ev1⟩ : ∃ z : Int32, z = x2 + 1 := ⟨_, rfl⟩
    have hf := gl_at hf ev1
    refine lv_iinc (v := v1) (lv' := [(2, .int v1), (0, .ref w.2.2.2), (1, .int x1)]) hx hb dX8_countAll_125 hl (k := 2) rfl (by rw [ev1]; rfl) (by decide) rfl (fun ls hl => ?_)
    refine lv_goto (tgt := 53) hx hb dX8_countAll_128 (by decide) ?_
    exact hk53 _ _ _ _ _ _ hH hS (lv_sub hl [1, 2, 0] rfl) hf
  have B90 : ∀ (k45 : GS → Int32 → Option (GS)), (∀ (S : GS) (x1 : Int32) (H : Heap) (locs : List Loc) (ls : Array Slot), HR w K g S H → va_S (FR w) s.heap H locs → lv_has ls 4 [(0, .ref w.2.2.2), (1, .int x1)] → k45 S x1 = some out → W p l e ({ frames := 4, cells := 0, slots := 0, locals := 95 } : Room) s m args below meth c H locs 0 0 (MQ below (QV w K g out) args s 0 0 (FR w)) (F0 m 45 ls [])) → ∀ (k53 : GS → Int32 → Int32 → Option (GS)), (∀ (S : GS) (x1 : Int32) (x2 : Int32) (H : Heap) (locs : List Loc) (ls : Array Slot), HR w K g S H → va_S (FR w) s.heap H locs → lv_has ls 4 [(0, .ref w.2.2.2), (1, .int x1), (2, .int x2)] → k53 S x1 x2 = some out → W p l e ({ frames := 4, cells := 0, slots := 0, locals := 95 } : Room) s m args below meth c H locs 0 0 (MQ below (QV w K g out) args s 0 0 (FR w)) (F0 m 53 ls [])) → ∀ n : Nat, ∀ (S : GS) (x1 : Int32) (x2 : Int32) (x3 : Int32) (H : Heap) (locs : List Loc) (ls : Array Slot), HR w K g S H → va_S (FR w) s.heap H locs → lv_has ls 4 [(0, .ref w.2.2.2), (1, .int x1), (2, .int x2), (3, .int x3)] → f8_countAll_90 k45 k53 n S x1 x2 x3 = some out → W p l e ({ frames := 4, cells := 0, slots := 0, locals := 95 } : Room) s m args below meth c H locs 0 0 (MQ below (QV w K g out) args s 0 0 (FR w)) (F0 m 90 ls []) := by
    intro k45 hk45 k53 hk53
    intro n
    induction n with
    | zero =>
      intro S x1 x2 x3 H locs ls hH hS hl hf
      cases hf
    | succ n ih =>
      intro S x1 x2 x3 H locs ls hH hS hl hf
      rw [f8_countAll_90] at hf
      refine lv_iload_n hx hb dX8_countAll_90 rfl (lv_at hl 3 rfl) ?_
      refine lv_bipush (v := 6) hx hb dX8_countAll_91 (by decide) ?_
      have hg := gif hf
      refine lv_icmp_ge (tgt := 108) hx hb dX8_countAll_93 (by decide) (fun c2 => ?_) (fun c2 => ?_)
      · have hf := hg.1 c2
        refine lv_aload_n hx hb dX8_countAll_108 rfl (lv_at hl 0 rfl) ?_
        refine e_8_11 hx hb hts hown hK hH (hts _ wd_108) dX8_countAll_109 ?_
        refine lv_iload_n hx hb dX8_countAll_112 rfl (lv_at hl 2 rfl) ?_
        refine lv_iconst (v := 1) hx hb dX8_countAll_113 (by decide) ?_
        refine lv_aload_n hx hb dX8_countAll_114 rfl (lv_at hl 0 rfl) ?_
        refine lv_aload_n hx hb dX8_countAll_115 rfl (lv_at hl 0 rfl) ?_
        refine lv_iload_n hx hb dX8_countAll_116 rfl (lv_at hl 2 rfl) ?_
        obtain ⟨v3, h4, hf⟩ := gbind hf
        refine g_Vi (As := [.int x2]) (rest := [.ref w.2.2.2, .int 1, .int x2, .ref (w.2.2.2 + 8)]) ⟨hx, hb, hml, hown, hts⟩ (c8_calls l w K g S x2 v3 h4) (gcwV hts i8_calls wd_326 rfl rfl ⟨Nat.le_of_ble_eq_true rfl, Nat.le_of_ble_eq_true rfl⟩) (gRecv.of hK rfl hH.ob) hH hK hS hl.1 rfl rfl (Nat.le_of_ble_eq_true rfl) dX8_countAll_117 ⟨Nat.le_refl _, Nat.le_refl _⟩ (fun H locs hH hS => ?_)
        obtain ⟨v5, h6, hf⟩ := gbind hf
        refine g_Vi (As := [.int v3]) (rest := [.int 1, .int x2, .ref (w.2.2.2 + 8)]) ⟨hx, hb, hml, hown, hts⟩ (c8_deepest l w K g S v3 v5 h6) (gcwV hts i8_deepest wd_806 rfl rfl ⟨Nat.le_of_ble_eq_true rfl, Nat.le_of_ble_eq_true rfl⟩) (gRecv.of hK rfl hH.ob) hH hK hS hl.1 rfl rfl (Nat.le_of_ble_eq_true rfl) dX8_countAll_120 ⟨Nat.le_refl _, Nat.le_refl _⟩ (fun H locs hH hS => ?_)
        refine lv_iadd hx hb dX8_countAll_123 ?_
        obtain ⟨h8, hf⟩ := gd_some hf
        refine m_iast hx hb hK hH hS 8 (by decide) (by decide) rfl h8 dX8_countAll_124 (fun H locs hH hS => ?_)
        obtain ⟨S9, eS9⟩ : ∃ z : GS, z = ssI S 8 x2.toNatClampNeg (1 + v5) := ⟨_, rfl⟩
        have hf := gl_at hf eS9
        replace hH : HR w K g S9 H := by rw [eS9]; exact hH
        exact B125 _ (hk45) _ (hk53) _ _ _ _ _ _ hH hS (lv_sub hl [0, 1, 2] rfl) hf
      · have hf := hg.2 c2
        refine lv_aload_n hx hb dX8_countAll_96 rfl (lv_at hl 0 rfl) ?_
        refine lv_iload_n hx hb dX8_countAll_97 rfl (lv_at hl 2 rfl) ?_
        refine lv_iload_n hx hb dX8_countAll_98 rfl (lv_at hl 3 rfl) ?_
        obtain ⟨g10, h11, hf⟩ := gbind hf
        refine g_Vv (As := [.int x2, .int x3]) (rest := []) ⟨hx, hb, hml, hown, hts⟩ (c8_countCard l w K g S x2 x3 g10 h11) (gcwV hts i8_countCard wd_782 rfl rfl ⟨Nat.le_of_ble_eq_true rfl, Nat.le_of_ble_eq_true rfl⟩) (gRecv.of hK rfl hH.ob) hH hK hS hl.1 rfl rfl (Nat.le_of_ble_eq_true rfl) dX8_countAll_99 ⟨Nat.le_refl _, Nat.le_refl _⟩ (fun H locs hH hS => ?_)
        obtain ⟨v12, ev12⟩ : ∃ z : Int32, z = x3 + 1 := ⟨_, rfl⟩
        have hf := gl_at hf ev12
        refine lv_iinc (v := v12) (lv' := [(3, .int v12), (0, .ref w.2.2.2), (1, .int x1), (2, .int x2)]) hx hb dX8_countAll_102 hl (k := 3) rfl (by rw [ev12]; rfl) (by decide) rfl (fun ls hl => ?_)
        refine lv_goto (tgt := 90) hx hb dX8_countAll_105 (by decide) ?_
        exact ih _ _ _ _ _ _ _ hH hS (lv_sub hl [1, 2, 3, 0] rfl) hf
  have B53 : ∀ (k45 : GS → Int32 → Option (GS)), (∀ (S : GS) (x1 : Int32) (H : Heap) (locs : List Loc) (ls : Array Slot), HR w K g S H → va_S (FR w) s.heap H locs → lv_has ls 4 [(0, .ref w.2.2.2), (1, .int x1)] → k45 S x1 = some out → W p l e ({ frames := 4, cells := 0, slots := 0, locals := 95 } : Room) s m args below meth c H locs 0 0 (MQ below (QV w K g out) args s 0 0 (FR w)) (F0 m 45 ls [])) → ∀ n : Nat, ∀ (S : GS) (x1 : Int32) (x2 : Int32) (H : Heap) (locs : List Loc) (ls : Array Slot), HR w K g S H → va_S (FR w) s.heap H locs → lv_has ls 4 [(0, .ref w.2.2.2), (1, .int x1), (2, .int x2)] → f8_countAll_53 k45 n S x1 x2 = some out → W p l e ({ frames := 4, cells := 0, slots := 0, locals := 95 } : Room) s m args below meth c H locs 0 0 (MQ below (QV w K g out) args s 0 0 (FR w)) (F0 m 53 ls []) := by
    intro k45 hk45
    intro n
    induction n with
    | zero =>
      intro S x1 x2 H locs ls hH hS hl hf
      cases hf
    | succ n ih =>
      intro S x1 x2 H locs ls hH hS hl hf
      rw [f8_countAll_53] at hf
      refine lv_iload_n hx hb dX8_countAll_53 rfl (lv_at hl 2 rfl) ?_
      refine lv_bipush (v := 10) hx hb dX8_countAll_54 (by decide) ?_
      have hg := gif hf
      refine lv_icmp_ge (tgt := 131) hx hb dX8_countAll_56 (by decide) (fun c13 => ?_) (fun c13 => ?_)
      · have hf := hg.1 c13
        obtain ⟨v14, ev14⟩ : ∃ z : Int32, z = x1 + 1 := ⟨_, rfl⟩
        have hf := gl_at hf ev14
        refine lv_iinc (v := v14) (lv' := [(1, .int v14), (0, .ref w.2.2.2), (2, .int x2)]) hx hb dX8_countAll_131 hl (k := 1) rfl (by rw [ev14]; rfl) (by decide) rfl (fun ls hl => ?_)
        refine lv_goto (tgt := 45) hx hb dX8_countAll_134 (by decide) ?_
        exact hk45 _ _ _ _ _ hH hS (lv_sub hl [1, 0] rfl) hf
      · have hf := hg.2 c13
        refine lv_aload_n hx hb dX8_countAll_59 rfl (lv_at hl 0 rfl) ?_
        refine e_8_11 hx hb hts hown hK hH (hts _ wd_108) dX8_countAll_60 ?_
        refine lv_iload_n hx hb dX8_countAll_63 rfl (lv_at hl 2 rfl) ?_
        obtain ⟨h16, hf⟩ := gd_some hf
        refine m_iald hx hb hK hH 8 (by decide) (by decide) rfl h16 dX8_countAll_64 ?_
        have hg := gif hf
        refine lv_if_ne (tgt := 125) hx hb dX8_countAll_65 (by decide) (fun c17 => ?_) (fun c17 => ?_)
        · have hf := hg.2 c17
          exact B125 _ (hk45) _ (ih) _ _ _ _ _ _ hH hS (lv_sub hl [0, 1, 2] rfl) hf
        · have hf := hg.1 c17
          refine lv_aload_n hx hb dX8_countAll_68 rfl (lv_at hl 0 rfl) ?_
          refine lv_iload_n hx hb dX8_countAll_69 rfl (lv_at hl 2 rfl) ?_
          obtain ⟨v18, h19, hf⟩ := gbind hf
          refine g_Vi (As := [.int x2]) (rest := []) ⟨hx, hb, hml, hown, hts⟩ (c8_hasText l w K g S x2 v18 h19) (gcwV hts i8_hasText wd_318 rfl rfl ⟨Nat.le_of_ble_eq_true rfl, Nat.le_of_ble_eq_true rfl⟩) (gRecv.of hK rfl hH.ob) hH hK hS hl.1 rfl rfl (Nat.le_of_ble_eq_true rfl) dX8_countAll_70 ⟨Nat.le_refl _, Nat.le_refl _⟩ (fun H locs hH hS => ?_)
          have hg := gif hf
          refine lv_if_eq (tgt := 125) hx hb dX8_countAll_73 (by decide) (fun c20 => ?_) (fun c20 => ?_)
          · have hf := hg.1 c20
            exact B125 _ (hk45) _ (ih) _ _ _ _ _ _ hH hS (lv_sub hl [0, 1, 2] rfl) hf
          · have hf := hg.2 c20
            refine lv_aload_n hx hb dX8_countAll_76 rfl (lv_at hl 0 rfl) ?_
            refine lv_aload_n hx hb dX8_countAll_77 rfl (lv_at hl 0 rfl) ?_
            refine lv_iload_n hx hb dX8_countAll_78 rfl (lv_at hl 2 rfl) ?_
            obtain ⟨v21, h22, hf⟩ := gbind hf
            refine g_Vi (As := [.int x2]) (rest := [.ref w.2.2.2]) ⟨hx, hb, hml, hown, hts⟩ (c8_calls l w K g S x2 v21 h22) (gcwV hts i8_calls wd_326 rfl rfl ⟨Nat.le_of_ble_eq_true rfl, Nat.le_of_ble_eq_true rfl⟩) (gRecv.of hK rfl hH.ob) hH hK hS hl.1 rfl rfl (Nat.le_of_ble_eq_true rfl) dX8_countAll_79 ⟨Nat.le_refl _, Nat.le_refl _⟩ (fun H locs hH hS => ?_)
            obtain ⟨v23, h24, hf⟩ := gbind hf
            refine g_Vi (As := [.int v21]) (rest := []) ⟨hx, hb, hml, hown, hts⟩ (c8_areKnown l w K g S v21 v23 h24) (gcwV hts i8_areKnown wd_778 rfl rfl ⟨Nat.le_of_ble_eq_true rfl, Nat.le_of_ble_eq_true rfl⟩) (gRecv.of hK rfl hH.ob) hH hK hS hl.1 rfl rfl (Nat.le_of_ble_eq_true rfl) dX8_countAll_82 ⟨Nat.le_refl _, Nat.le_refl _⟩ (fun H locs hH hS => ?_)
            have hg := gif hf
            refine lv_if_eq (tgt := 125) hx hb dX8_countAll_85 (by decide) (fun c25 => ?_) (fun c25 => ?_)
            · have hf := hg.1 c25
              exact B125 _ (hk45) _ (ih) _ _ _ _ _ _ hH hS (lv_sub hl [0, 1, 2] rfl) hf
            · have hf := hg.2 c25
              refine lv_iconst (v := 0) hx hb dX8_countAll_88 (by decide) ?_
              refine lv_istore_n (lv' := [(3, .int 0), (0, .ref w.2.2.2), (1, .int x1), (2, .int x2)]) hx hb dX8_countAll_89 rfl hl (by decide) rfl (fun ls hl => ?_)
              exact B90 _ (hk45) _ (ih) _ _ _ _ _ _ _ _ hH hS (lv_sub hl [1, 2, 3, 0] rfl) hf
  have B45 : ∀ n : Nat, ∀ (S : GS) (x1 : Int32) (H : Heap) (locs : List Loc) (ls : Array Slot), HR w K g S H → va_S (FR w) s.heap H locs → lv_has ls 4 [(0, .ref w.2.2.2), (1, .int x1)] → f8_countAll_45 n S x1 = some out → W p l e ({ frames := 4, cells := 0, slots := 0, locals := 95 } : Room) s m args below meth c H locs 0 0 (MQ below (QV w K g out) args s 0 0 (FR w)) (F0 m 45 ls []) := by
    intro n
    induction n with
    | zero =>
      intro S x1 H locs ls hH hS hl hf
      cases hf
    | succ n ih =>
      intro S x1 H locs ls hH hS hl hf
      rw [f8_countAll_45] at hf
      refine lv_iload_n hx hb dX8_countAll_45 rfl (lv_at hl 1 rfl) ?_
      refine lv_bipush (v := 10) hx hb dX8_countAll_46 (by decide) ?_
      have hg := gif hf
      refine lv_icmp_ge (tgt := 137) hx hb dX8_countAll_48 (by decide) (fun c26 => ?_) (fun c26 => ?_)
      · have hf := hg.1 c26
        have ho := Option.some.inj hf
        exact W.vret hx hb hr (fun t ht hW => ⟨⟨(), rfl, trivial, hrVm ht ho hH⟩, hS.F ht⟩) hS.2.2 dX8_countAll_137
      · have hf := hg.2 c26
        refine lv_iconst (v := 0) hx hb dX8_countAll_51 (by decide) ?_
        refine lv_istore_n (lv' := [(2, .int 0), (0, .ref w.2.2.2), (1, .int x1)]) hx hb dX8_countAll_52 rfl hl (by decide) rfl (fun ls hl => ?_)
        exact B53 _ (ih) _ _ _ _ _ _ _ hH hS (lv_sub hl [1, 2, 0] rfl) hf
  have B24 : ∀ n : Nat, ∀ (S : GS) (x1 : Int32) (H : Heap) (locs : List Loc) (ls : Array Slot), HR w K g S H → va_S (FR w) s.heap H locs → lv_has ls 4 [(0, .ref w.2.2.2), (1, .int x1)] → f8_countAll_24 n S x1 = some out → W p l e ({ frames := 4, cells := 0, slots := 0, locals := 95 } : Room) s m args below meth c H locs 0 0 (MQ below (QV w K g out) args s 0 0 (FR w)) (F0 m 24 ls []) := by
    intro n
    induction n with
    | zero =>
      intro S x1 H locs ls hH hS hl hf
      cases hf
    | succ n ih =>
      intro S x1 H locs ls hH hS hl hf
      rw [f8_countAll_24] at hf
      refine lv_iload_n hx hb dX8_countAll_24 rfl (lv_at hl 1 rfl) ?_
      refine lv_bipush (v := 10) hx hb dX8_countAll_25 (by decide) ?_
      have hg := gif hf
      refine lv_icmp_ge (tgt := 43) hx hb dX8_countAll_27 (by decide) (fun c27 => ?_) (fun c27 => ?_)
      · have hf := hg.1 c27
        refine lv_iconst (v := 0) hx hb dX8_countAll_43 (by decide) ?_
        refine lv_istore_n (lv' := [(1, .int 0), (0, .ref w.2.2.2)]) hx hb dX8_countAll_44 rfl hl (by decide) rfl (fun ls hl => ?_)
        exact B45 _ _ _ _ _ _ hH hS (lv_sub hl [1, 0] rfl) hf
      · have hf := hg.2 c27
        refine lv_aload_n hx hb dX8_countAll_30 rfl (lv_at hl 0 rfl) ?_
        refine e_8_11 hx hb hts hown hK hH (hts _ wd_108) dX8_countAll_31 ?_
        refine lv_iload_n hx hb dX8_countAll_34 rfl (lv_at hl 1 rfl) ?_
        refine lv_iconst (v := 0) hx hb dX8_countAll_35 (by decide) ?_
        obtain ⟨h29, hf⟩ := gd_some hf
        refine m_iast hx hb hK hH hS 8 (by decide) (by decide) rfl h29 dX8_countAll_36 (fun H locs hH hS => ?_)
        obtain ⟨S30, eS30⟩ : ∃ z : GS, z = ssI S 8 x1.toNatClampNeg 0 := ⟨_, rfl⟩
        have hf := gl_at hf eS30
        replace hH : HR w K g S30 H := by rw [eS30]; exact hH
        obtain ⟨v31, ev31⟩ : ∃ z : Int32, z = x1 + 1 := ⟨_, rfl⟩
        have hf := gl_at hf ev31
        refine lv_iinc (v := v31) (lv' := [(1, .int v31), (0, .ref w.2.2.2)]) hx hb dX8_countAll_37 hl (k := 1) rfl (by rw [ev31]; rfl) (by decide) rfl (fun ls hl => ?_)
        refine lv_goto (tgt := 24) hx hb dX8_countAll_40 (by decide) ?_
        exact ih _ _ _ _ _ hH hS (lv_sub hl [1, 0] rfl) hf
  have B2 : ∀ n : Nat, ∀ (S : GS) (x1 : Int32) (H : Heap) (locs : List Loc) (ls : Array Slot), HR w K g S H → va_S (FR w) s.heap H locs → lv_has ls 4 [(0, .ref w.2.2.2), (1, .int x1)] → f8_countAll_2 n S x1 = some out → W p l e ({ frames := 4, cells := 0, slots := 0, locals := 95 } : Room) s m args below meth c H locs 0 0 (MQ below (QV w K g out) args s 0 0 (FR w)) (F0 m 2 ls []) := by
    intro n
    induction n with
    | zero =>
      intro S x1 H locs ls hH hS hl hf
      cases hf
    | succ n ih =>
      intro S x1 H locs ls hH hS hl hf
      rw [f8_countAll_2] at hf
      refine lv_iload_n hx hb dX8_countAll_2 rfl (lv_at hl 1 rfl) ?_
      refine lv_sipush (v := 360) hx hb dX8_countAll_3 (by decide) ?_
      have hg := gif hf
      refine lv_icmp_ge (tgt := 22) hx hb dX8_countAll_6 (by decide) (fun c32 => ?_) (fun c32 => ?_)
      · have hf := hg.1 c32
        refine lv_iconst (v := 0) hx hb dX8_countAll_22 (by decide) ?_
        refine lv_istore_n (lv' := [(1, .int 0), (0, .ref w.2.2.2)]) hx hb dX8_countAll_23 rfl hl (by decide) rfl (fun ls hl => ?_)
        exact B24 _ _ _ _ _ _ hH hS (lv_sub hl [1, 0] rfl) hf
      · have hf := hg.2 c32
        refine lv_aload_n hx hb dX8_countAll_9 rfl (lv_at hl 0 rfl) ?_
        refine e_8_10 hx hb hts hown hK hH (hts _ wd_107) dX8_countAll_10 ?_
        refine lv_iload_n hx hb dX8_countAll_13 rfl (lv_at hl 1 rfl) ?_
        refine lv_iconst (v := 0) hx hb dX8_countAll_14 (by decide) ?_
        obtain ⟨h34, hf⟩ := gd_some hf
        refine m_iast hx hb hK hH hS 7 (by decide) (by decide) rfl h34 dX8_countAll_15 (fun H locs hH hS => ?_)
        obtain ⟨S35, eS35⟩ : ∃ z : GS, z = ssI S 7 x1.toNatClampNeg 0 := ⟨_, rfl⟩
        have hf := gl_at hf eS35
        replace hH : HR w K g S35 H := by rw [eS35]; exact hH
        obtain ⟨v36, ev36⟩ : ∃ z : Int32, z = x1 + 1 := ⟨_, rfl⟩
        have hf := gl_at hf ev36
        refine lv_iinc (v := v36) (lv' := [(1, .int v36), (0, .ref w.2.2.2)]) hx hb dX8_countAll_16 hl (k := 1) rfl (by rw [ev36]; rfl) (by decide) rfl (fun ls hl => ?_)
        refine lv_goto (tgt := 2) hx hb dX8_countAll_19 (by decide) ?_
        exact ih _ _ _ _ _ hH hS (lv_sub hl [1, 0] rfl) hf
  have hl : lv_has ls 4 [(0, .ref w.2.2.2)] := hl
  refine lv_iconst (v := 0) hx hb dX8_countAll_0 (by decide) ?_
  refine lv_istore_n (lv' := [(1, .int 0), (0, .ref w.2.2.2)]) hx hb dX8_countAll_1 rfl hl (by decide) rfl (fun ls hl => ?_)
  exact B2 _ _ _ _ _ _ hH hS (lv_sub hl [1, 0] rfl) hf
set_option maxRecDepth 100000 in
set_option maxHeartbeats 8000000 in
theorem c8_cut (l : Launch) (w : GW) (K : GK) (g : GM) (S : GS) (out : GS × Int32) (hf : f8_cut S = some out) : Met l yX8_cut (wA yX8_cut cX8_cut 2 (some .int)) ({ frames := 2, cells := 0, slots := 0, locals := 41 } : Room) (PRE w K g S [.ref w.2.2.2]) (QI w K g out.1 out.2) 0 0 (FR w) := by
  unfold f8_cut at hf
  refine Met.ofW (cc := cX8_cut) (maxL := 2) (ret := (some .int)) (by decide) rfl ?_
  intro p e s m args below meth c s₁ B hml hv
  obtain ⟨rfl, hH, hK⟩ := hv
  have hx := B.exec
  have hb := B.bytes
  have hr := B.returns
  have hts : ∀ q ∈ gALL, q.before _ s = true := fun q h => atoms_spec (ws := (wA yX8_cut cX8_cut 2 (some .int))) B.pre q (List.mem_cons_of_mem _ h)
  have hown : s.vm.findClass RX8 = some m.cls := findClass_of_methodNamed B.named
  have hlocks := B.notSynchronized
  have hS : va_S (FR w) s.heap s.heap [] := va_S.rf
  show W p l e ({ frames := 2, cells := 0, slots := 0, locals := 41 } : Room) s m _ below meth c s.heap [] 0 0 (MQ below (QI w K g out.1 out.2) _ s 0 0 (FR w)) _
  have hl := lv_entry ([.ref w.2.2.2]) (n := 2) (Nat.le_of_ble_eq_true rfl)
  rw [lg_entry_eq]
  generalize (lg_sl ([.ref w.2.2.2]) ++ List.replicate (2 - (lg_sl ([.ref w.2.2.2])).length) Slot.unset).toArray = ls at hl ⊢
  clear B
  generalize ([.ref w.2.2.2] : List Value).toArray = args at hts ⊢
  have hl : lv_has ls 2 [(0, .ref w.2.2.2)] := hl
  refine lv_aload_n hx hb dX8_cut_0 rfl (lv_at hl 0 rfl) ?_
  obtain ⟨g1, h2, hf⟩ := gbind hf
  refine g_Vv (As := []) (rest := []) ⟨hx, hb, hml, hown, hts⟩ (c8_record l w K g S g1 h2) (gcwV hts i8_record wd_161 rfl rfl ⟨Nat.le_of_ble_eq_true rfl, Nat.le_of_ble_eq_true rfl⟩) (gRecv.of hK rfl hH.ob) hH hK hS hl.1 rfl rfl (Nat.le_of_ble_eq_true rfl) dX8_cut_1 ⟨Nat.le_refl _, Nat.le_refl _⟩ (fun H locs hH hS => ?_)
  refine lv_aload_n hx hb dX8_cut_4 rfl (lv_at hl 0 rfl) ?_
  refine e_8_0 hx hb hts hown hK hH (hts _ wd_101) dX8_cut_5 ?_
  refine lv_iconst (v := 4) hx hb dX8_cut_8 (by decide) ?_
  obtain ⟨h4, hf⟩ := gd_some hf
  refine m_iald hx hb hK hH 1 (by decide) (by decide) rfl h4 dX8_cut_9 ?_
  refine lv_topi (fun v5 ev5 => ?_)
  have hf := gl_at hf ev5
  refine lv_istore_n (lv' := [(1, .int v5), (0, .ref w.2.2.2)]) hx hb dX8_cut_10 rfl hl (by decide) rfl (fun ls hl => ?_)
  refine lv_aload_n hx hb dX8_cut_11 rfl (lv_at hl 1 rfl) ?_
  refine e_8_0 hx hb hts hown hK hH (hts _ wd_101) dX8_cut_12 ?_
  refine lv_iconst (v := 4) hx hb dX8_cut_15 (by decide) ?_
  refine lv_iconst (v := 0) hx hb dX8_cut_16 (by decide) ?_
  refine m_iast hx hb hK hH hS 1 (by decide) (by decide) rfl h4 dX8_cut_17 (fun H locs hH hS => ?_)
  obtain ⟨S7, eS7⟩ : ∃ z : GS, z = ssI g1 1 (4 : Int32).toNatClampNeg 0 := ⟨_, rfl⟩
  have hf := gl_at hf eS7
  replace hH : HR w K g S7 H := by rw [eS7]; exact hH
  refine lv_iload_n hx hb dX8_cut_18 rfl (lv_at hl 0 rfl) ?_
  have ho := Option.some.inj hf
  exact W.iret (v := v5) hx hb hr (fun t ht hW => ⟨⟨v5, (), rfl, congrArg Prod.snd ho, hrPm ht ho hH⟩, hS.F ht⟩) hS.2.2 dX8_cut_19
set_option maxRecDepth 100000 in
set_option maxHeartbeats 8000000 in
theorem c8_reached (l : Launch) (w : GW) (K : GK) (g : GM) (S : GS) (p0 : Int32) (out : Int32) (hf : f8_reached S p0 = some out) : Met l yX8_reached (wA yX8_reached cX8_reached 5 (some .int)) ({ frames := 2, cells := 0, slots := 0, locals := 45 } : Room) (PRE w K g S [.ref w.2.2.2, .int p0]) (QI w K g S out) 0 0 (FR w) := by
  unfold f8_reached at hf
  refine Met.ofW (cc := cX8_reached) (maxL := 5) (ret := (some .int)) (by decide) rfl ?_
  intro p e s m args below meth c s₁ B hml hv
  obtain ⟨rfl, hH, hK⟩ := hv
  have hx := B.exec
  have hb := B.bytes
  have hr := B.returns
  have hts : ∀ q ∈ gALL, q.before _ s = true := fun q h => atoms_spec (ws := (wA yX8_reached cX8_reached 5 (some .int))) B.pre q (List.mem_cons_of_mem _ h)
  have hown : s.vm.findClass RX8 = some m.cls := findClass_of_methodNamed B.named
  have hlocks := B.notSynchronized
  have hS : va_S (FR w) s.heap s.heap [] := va_S.rf
  show W p l e ({ frames := 2, cells := 0, slots := 0, locals := 45 } : Room) s m _ below meth c s.heap [] 0 0 (MQ below (QI w K g S out) _ s 0 0 (FR w)) _
  have hl := lv_entry ([.ref w.2.2.2, .int p0]) (n := 5) (Nat.le_of_ble_eq_true rfl)
  rw [lg_entry_eq]
  generalize (lg_sl ([.ref w.2.2.2, .int p0]) ++ List.replicate (5 - (lg_sl ([.ref w.2.2.2, .int p0])).length) Slot.unset).toArray = ls at hl ⊢
  clear B
  generalize ([.ref w.2.2.2, .int p0] : List Value).toArray = args at hts ⊢
  have B45 : ∀ (k8 : Int32 → Int32 → Option (Int32)), (∀ (x2 : Int32) (x3 : Int32) (H : Heap) (locs : List Loc) (ls : Array Slot), HR w K g S H → va_S (FR w) s.heap H locs → lv_has ls 5 [(0, .ref w.2.2.2), (2, .int x2), (3, .int x3)] → k8 x2 x3 = some out → W p l e ({ frames := 2, cells := 0, slots := 0, locals := 45 } : Room) s m args below meth c H locs 0 0 (MQ below (QI w K g S out) args s 0 0 (FR w)) (F0 m 8 ls [])) → ∀ (k17 : Int32 → Int32 → Int32 → Option (Int32)), (∀ (x2 : Int32) (x3 : Int32) (x4 : Int32) (H : Heap) (locs : List Loc) (ls : Array Slot), HR w K g S H → va_S (FR w) s.heap H locs → lv_has ls 5 [(0, .ref w.2.2.2), (2, .int x2), (3, .int x3), (4, .int x4)] → k17 x2 x3 x4 = some out → W p l e ({ frames := 2, cells := 0, slots := 0, locals := 45 } : Room) s m args below meth c H locs 0 0 (MQ below (QI w K g S out) args s 0 0 (FR w)) (F0 m 17 ls [])) → ∀ (x3 : Int32) (x4 : Int32) (s0 : Int32) (s1 : Int32) (H : Heap) (locs : List Loc) (ls : Array Slot), HR w K g S H → va_S (FR w) s.heap H locs → lv_has ls 5 [(0, .ref w.2.2.2), (3, .int x3), (4, .int x4)] → f8_reached_45 k8 k17 S p0 x3 x4 s0 s1 = some out → W p l e ({ frames := 2, cells := 0, slots := 0, locals := 45 } : Room) s m args below meth c H locs 0 0 (MQ below (QI w K g S out) args s 0 0 (FR w)) (F0 m 45 ls [.int s1, .int s0]) := by
    intro k8 hk8 k17 hk17 x3 x4 s0 s1 H locs ls hH hS hl hf
    unfold f8_reached_45 at hf
    refine lv_ior hx hb dX8_reached_45 ?_
    refine lv_topi (fun v1 ev1 => ?_)
    have hf := gl_at hf ev1
    refine lv_istore_n (lv' := [(2, .int v1), (0, .ref w.2.2.2), (3, .int x3), (4, .int x4)]) hx hb dX8_reached_46 rfl hl (by decide) rfl (fun ls hl => ?_)
    obtain ⟨v2, ev2⟩ : ∃ z : Int32, z = x4 + 1 := ⟨_, rfl⟩
    have hf := gl_at hf ev2
    refine lv_iinc (v := v2) (lv' := [(4, .int v2), (2, .int v1), (0, .ref w.2.2.2), (3, .int x3)]) hx hb dX8_reached_47 hl (k := 3) rfl (by rw [ev2]; rfl) (by decide) rfl (fun ls hl => ?_)
    refine lv_goto (tgt := 17) hx hb dX8_reached_50 (by decide) ?_
    exact hk17 _ _ _ _ _ _ hH hS (lv_sub hl [2, 1, 3, 0] rfl) hf
  have B17 : ∀ (k8 : Int32 → Int32 → Option (Int32)), (∀ (x2 : Int32) (x3 : Int32) (H : Heap) (locs : List Loc) (ls : Array Slot), HR w K g S H → va_S (FR w) s.heap H locs → lv_has ls 5 [(0, .ref w.2.2.2), (2, .int x2), (3, .int x3)] → k8 x2 x3 = some out → W p l e ({ frames := 2, cells := 0, slots := 0, locals := 45 } : Room) s m args below meth c H locs 0 0 (MQ below (QI w K g S out) args s 0 0 (FR w)) (F0 m 8 ls [])) → ∀ n : Nat, ∀ (x2 : Int32) (x3 : Int32) (x4 : Int32) (H : Heap) (locs : List Loc) (ls : Array Slot), HR w K g S H → va_S (FR w) s.heap H locs → lv_has ls 5 [(0, .ref w.2.2.2), (2, .int x2), (3, .int x3), (4, .int x4)] → f8_reached_17 k8 S p0 n x2 x3 x4 = some out → W p l e ({ frames := 2, cells := 0, slots := 0, locals := 45 } : Room) s m args below meth c H locs 0 0 (MQ below (QI w K g S out) args s 0 0 (FR w)) (F0 m 17 ls []) := by
    intro k8 hk8
    intro n
    induction n with
    | zero =>
      intro x2 x3 x4 H locs ls hH hS hl hf
      cases hf
    | succ n ih =>
      intro x2 x3 x4 H locs ls hH hS hl hf
      rw [f8_reached_17] at hf
      refine lv_iload hx hb dX8_reached_17 (lv_at hl 3 rfl) ?_
      refine lv_bipush (v := 10) hx hb dX8_reached_19 (by decide) ?_
      have hg := gif hf
      refine lv_icmp_ge (tgt := 53) hx hb dX8_reached_21 (by decide) (fun c3 => ?_) (fun c3 => ?_)
      · have hf := hg.1 c3
        obtain ⟨v4, ev4⟩ : ∃ z : Int32, z = x3 + 1 := ⟨_, rfl⟩
        have hf := gl_at hf ev4
        refine lv_iinc (v := v4) (lv' := [(3, .int v4), (0, .ref w.2.2.2), (2, .int x2), (4, .int x4)]) hx hb dX8_reached_53 hl (k := 2) rfl (by rw [ev4]; rfl) (by decide) rfl (fun ls hl => ?_)
        refine lv_goto (tgt := 8) hx hb dX8_reached_56 (by decide) ?_
        exact hk8 _ _ _ _ _ hH hS (lv_sub hl [1, 2, 0] rfl) hf
      · have hf := hg.2 c3
        refine lv_iload_n hx hb dX8_reached_24 rfl (lv_at hl 1 rfl) ?_
        refine lv_iload_n hx hb dX8_reached_25 rfl (lv_at hl 1 rfl) ?_
        refine lv_iload hx hb dX8_reached_26 (lv_at hl 3 rfl) ?_
        refine lv_ishr hx hb dX8_reached_28 ?_
        refine lv_iconst (v := 1) hx hb dX8_reached_29 (by decide) ?_
        refine lv_iand hx hb dX8_reached_30 ?_
        refine lv_iconst (v := 1) hx hb dX8_reached_31 (by decide) ?_
        have hg := gif hf
        refine lv_icmp_ne (tgt := 44) hx hb dX8_reached_32 (by decide) (fun c5 => ?_) (fun c5 => ?_)
        · have hf := hg.2 c5
          refine lv_iconst (v := 0) hx hb dX8_reached_44 (by decide) ?_
          exact B45 _ (hk8) _ (ih) _ _ _ _ _ _ _ hH hS (lv_sub hl [0, 2, 3] rfl) hf
        · have hf := hg.1 c5
          refine lv_aload_n hx hb dX8_reached_35 rfl (lv_at hl 0 rfl) ?_
          refine lv_iload hx hb dX8_reached_36 (lv_at hl 3 rfl) ?_
          obtain ⟨v6, h7, hf⟩ := gbind hf
          refine g_Vi (As := [.int x4]) (rest := [.int x2]) ⟨hx, hb, hml, hown, hts⟩ (c8_calls l w K g S x4 v6 h7) (gcwV hts i8_calls wd_326 rfl rfl ⟨Nat.le_of_ble_eq_true rfl, Nat.le_of_ble_eq_true rfl⟩) (gRecv.of hK rfl hH.ob) hH hK hS hl.1 rfl rfl (Nat.le_of_ble_eq_true rfl) dX8_reached_38 ⟨Nat.le_refl _, Nat.le_refl _⟩ (fun H locs hH hS => ?_)
          refine lv_goto (tgt := 45) hx hb dX8_reached_41 (by decide) ?_
          exact B45 _ (hk8) _ (ih) _ _ _ _ _ _ _ hH hS (lv_sub hl [0, 2, 3] rfl) hf
  have B8 : ∀ n : Nat, ∀ (x2 : Int32) (x3 : Int32) (H : Heap) (locs : List Loc) (ls : Array Slot), HR w K g S H → va_S (FR w) s.heap H locs → lv_has ls 5 [(0, .ref w.2.2.2), (2, .int x2), (3, .int x3)] → f8_reached_8 S p0 n x2 x3 = some out → W p l e ({ frames := 2, cells := 0, slots := 0, locals := 45 } : Room) s m args below meth c H locs 0 0 (MQ below (QI w K g S out) args s 0 0 (FR w)) (F0 m 8 ls []) := by
    intro n
    induction n with
    | zero =>
      intro x2 x3 H locs ls hH hS hl hf
      cases hf
    | succ n ih =>
      intro x2 x3 H locs ls hH hS hl hf
      rw [f8_reached_8] at hf
      refine lv_iload_n hx hb dX8_reached_8 rfl (lv_at hl 2 rfl) ?_
      refine lv_bipush (v := 10) hx hb dX8_reached_9 (by decide) ?_
      have hg := gif hf
      refine lv_icmp_ge (tgt := 59) hx hb dX8_reached_11 (by decide) (fun c8 => ?_) (fun c8 => ?_)
      · have hf := hg.1 c8
        refine lv_iload_n hx hb dX8_reached_59 rfl (lv_at hl 1 rfl) ?_
        have ho := Option.some.inj hf
        exact W.iret (v := x2) hx hb hr (fun t ht hW => ⟨⟨x2, (), rfl, ho, hrE ht hH⟩, hS.F ht⟩) hS.2.2 dX8_reached_60
      · have hf := hg.2 c8
        refine lv_iconst (v := 0) hx hb dX8_reached_14 (by decide) ?_
        refine lv_istore (lv' := [(4, .int 0), (0, .ref w.2.2.2), (2, .int x2), (3, .int x3)]) hx hb dX8_reached_15 hl (by decide) rfl (fun ls hl => ?_)
        exact B17 _ (ih) _ _ _ _ _ _ _ hH hS (lv_sub hl [1, 2, 3, 0] rfl) hf
  have hl : lv_has ls 5 [(0, .ref w.2.2.2), (1, .int p0)] := hl
  refine lv_aload_n hx hb dX8_reached_0 rfl (lv_at hl 0 rfl) ?_
  refine lv_iload_n hx hb dX8_reached_1 rfl (lv_at hl 1 rfl) ?_
  obtain ⟨v9, h10, hf⟩ := gbind hf
  refine g_Vi (As := [.int p0]) (rest := []) ⟨hx, hb, hml, hown, hts⟩ (c8_calls l w K g S p0 v9 h10) (gcwV hts i8_calls wd_326 rfl rfl ⟨Nat.le_of_ble_eq_true rfl, Nat.le_of_ble_eq_true rfl⟩) (gRecv.of hK rfl hH.ob) hH hK hS hl.1 rfl rfl (Nat.le_of_ble_eq_true rfl) dX8_reached_2 ⟨Nat.le_refl _, Nat.le_refl _⟩ (fun H locs hH hS => ?_)
  refine lv_istore_n (lv' := [(2, .int v9), (0, .ref w.2.2.2), (1, .int p0)]) hx hb dX8_reached_5 rfl hl (by decide) rfl (fun ls hl => ?_)
  refine lv_iconst (v := 0) hx hb dX8_reached_6 (by decide) ?_
  refine lv_istore_n (lv' := [(3, .int 0), (2, .int v9), (0, .ref w.2.2.2), (1, .int p0)]) hx hb dX8_reached_7 rfl hl (by decide) rfl (fun ls hl => ?_)
  exact B8 _ _ _ _ _ _ hH hS (lv_sub hl [2, 1, 0] rfl) hf
set_option maxRecDepth 100000 in
set_option maxHeartbeats 8000000 in
theorem c8_whyNot (l : Launch) (w : GW) (K : GK) (g : GM) (S : GS) (p0 : Int32) (out : Int32) (hf : f8_whyNot S p0 = some out) : Met l yX8_whyNot (wA yX8_whyNot cX8_whyNot 5 (some .int)) ({ frames := 3, cells := 0, slots := 0, locals := 69 } : Room) (PRE w K g S [.ref w.2.2.2, .int p0]) (QI w K g S out) 0 0 (FR w) := by
  unfold f8_whyNot at hf
  refine Met.ofW (cc := cX8_whyNot) (maxL := 5) (ret := (some .int)) (by decide) rfl ?_
  intro p e s m args below meth c s₁ B hml hv
  obtain ⟨rfl, hH, hK⟩ := hv
  have hx := B.exec
  have hb := B.bytes
  have hr := B.returns
  have hts : ∀ q ∈ gALL, q.before _ s = true := fun q h => atoms_spec (ws := (wA yX8_whyNot cX8_whyNot 5 (some .int))) B.pre q (List.mem_cons_of_mem _ h)
  have hown : s.vm.findClass RX8 = some m.cls := findClass_of_methodNamed B.named
  have hlocks := B.notSynchronized
  have hS : va_S (FR w) s.heap s.heap [] := va_S.rf
  show W p l e ({ frames := 3, cells := 0, slots := 0, locals := 69 } : Room) s m _ below meth c s.heap [] 0 0 (MQ below (QI w K g S out) _ s 0 0 (FR w)) _
  have hl := lv_entry ([.ref w.2.2.2, .int p0]) (n := 5) (Nat.le_of_ble_eq_true rfl)
  rw [lg_entry_eq]
  generalize (lg_sl ([.ref w.2.2.2, .int p0]) ++ List.replicate (5 - (lg_sl ([.ref w.2.2.2, .int p0])).length) Slot.unset).toArray = ls at hl ⊢
  clear B
  generalize ([.ref w.2.2.2, .int p0] : List Value).toArray = args at hts ⊢
  have B78 : ∀ (k15 : Int32 → Int32 → Int32 → Option (Int32)), (∀ (x2 : Int32) (x3 : Int32) (x4 : Int32) (H : Heap) (locs : List Loc) (ls : Array Slot), HR w K g S H → va_S (FR w) s.heap H locs → lv_has ls 5 [(0, .ref w.2.2.2), (2, .int x2), (3, .int x3), (4, .int x4)] → k15 x2 x3 x4 = some out → W p l e ({ frames := 3, cells := 0, slots := 0, locals := 69 } : Room) s m args below meth c H locs 0 0 (MQ below (QI w K g S out) args s 0 0 (FR w)) (F0 m 15 ls [])) → ∀ (x2 : Int32) (x4 : Int32) (s0 : Int32) (H : Heap) (locs : List Loc) (ls : Array Slot), HR w K g S H → va_S (FR w) s.heap H locs → lv_has ls 5 [(0, .ref w.2.2.2), (2, .int x2), (4, .int x4)] → f8_whyNot_78 k15 S p0 x2 x4 s0 = some out → W p l e ({ frames := 3, cells := 0, slots := 0, locals := 69 } : Room) s m args below meth c H locs 0 0 (MQ below (QI w K g S out) args s 0 0 (FR w)) (F0 m 78 ls [.int s0]) := by
    intro k15 hk15 x2 x4 s0 H locs ls hH hS hl hf
    unfold f8_whyNot_78 at hf
    refine lv_istore_n (lv' := [(3, .int s0), (0, .ref w.2.2.2), (2, .int x2), (4, .int x4)]) hx hb dX8_whyNot_78 rfl hl (by decide) rfl (fun ls hl => ?_)
    obtain ⟨v1, ev1⟩ : ∃ z : Int32, z = x4 + 1 := ⟨_, rfl⟩
    have hf := gl_at hf ev1
    refine lv_iinc (v := v1) (lv' := [(4, .int v1), (3, .int s0), (0, .ref w.2.2.2), (2, .int x2)]) hx hb dX8_whyNot_79 hl (k := 3) rfl (by rw [ev1]; rfl) (by decide) rfl (fun ls hl => ?_)
    refine lv_goto (tgt := 15) hx hb dX8_whyNot_82 (by decide) ?_
    exact hk15 _ _ _ _ _ _ hH hS (lv_sub hl [2, 3, 1, 0] rfl) hf
  have B73 : ∀ (k15 : Int32 → Int32 → Int32 → Option (Int32)), (∀ (x2 : Int32) (x3 : Int32) (x4 : Int32) (H : Heap) (locs : List Loc) (ls : Array Slot), HR w K g S H → va_S (FR w) s.heap H locs → lv_has ls 5 [(0, .ref w.2.2.2), (2, .int x2), (3, .int x3), (4, .int x4)] → k15 x2 x3 x4 = some out → W p l e ({ frames := 3, cells := 0, slots := 0, locals := 69 } : Room) s m args below meth c H locs 0 0 (MQ below (QI w K g S out) args s 0 0 (FR w)) (F0 m 15 ls [])) → ∀ (x2 : Int32) (x4 : Int32) (H : Heap) (locs : List Loc) (ls : Array Slot), HR w K g S H → va_S (FR w) s.heap H locs → lv_has ls 5 [(0, .ref w.2.2.2), (2, .int x2), (4, .int x4)] → f8_whyNot_73 k15 S p0 x2 x4 = some out → W p l e ({ frames := 3, cells := 0, slots := 0, locals := 69 } : Room) s m args below meth c H locs 0 0 (MQ below (QI w K g S out) args s 0 0 (FR w)) (F0 m 73 ls []) := by
    intro k15 hk15 x2 x4 H locs ls hH hS hl hf
    unfold f8_whyNot_73 at hf
    refine lv_iconst (v := 1) hx hb dX8_whyNot_73 (by decide) ?_
    refine lv_goto (tgt := 78) hx hb dX8_whyNot_74 (by decide) ?_
    exact B78 _ (hk15) _ _ _ _ _ _ hH hS (lv_sub hl [0, 1, 2] rfl) hf
  have B77 : ∀ (k15 : Int32 → Int32 → Int32 → Option (Int32)), (∀ (x2 : Int32) (x3 : Int32) (x4 : Int32) (H : Heap) (locs : List Loc) (ls : Array Slot), HR w K g S H → va_S (FR w) s.heap H locs → lv_has ls 5 [(0, .ref w.2.2.2), (2, .int x2), (3, .int x3), (4, .int x4)] → k15 x2 x3 x4 = some out → W p l e ({ frames := 3, cells := 0, slots := 0, locals := 69 } : Room) s m args below meth c H locs 0 0 (MQ below (QI w K g S out) args s 0 0 (FR w)) (F0 m 15 ls [])) → ∀ (x2 : Int32) (x4 : Int32) (H : Heap) (locs : List Loc) (ls : Array Slot), HR w K g S H → va_S (FR w) s.heap H locs → lv_has ls 5 [(0, .ref w.2.2.2), (2, .int x2), (4, .int x4)] → f8_whyNot_77 k15 S p0 x2 x4 = some out → W p l e ({ frames := 3, cells := 0, slots := 0, locals := 69 } : Room) s m args below meth c H locs 0 0 (MQ below (QI w K g S out) args s 0 0 (FR w)) (F0 m 77 ls []) := by
    intro k15 hk15 x2 x4 H locs ls hH hS hl hf
    unfold f8_whyNot_77 at hf
    refine lv_iconst (v := 0) hx hb dX8_whyNot_77 (by decide) ?_
    exact B78 _ (hk15) _ _ _ _ _ _ hH hS (lv_sub hl [0, 1, 2] rfl) hf
  have B44 : ∀ (k15 : Int32 → Int32 → Int32 → Option (Int32)), (∀ (x2 : Int32) (x3 : Int32) (x4 : Int32) (H : Heap) (locs : List Loc) (ls : Array Slot), HR w K g S H → va_S (FR w) s.heap H locs → lv_has ls 5 [(0, .ref w.2.2.2), (2, .int x2), (3, .int x3), (4, .int x4)] → k15 x2 x3 x4 = some out → W p l e ({ frames := 3, cells := 0, slots := 0, locals := 69 } : Room) s m args below meth c H locs 0 0 (MQ below (QI w K g S out) args s 0 0 (FR w)) (F0 m 15 ls [])) → ∀ (x2 : Int32) (x3 : Int32) (x4 : Int32) (H : Heap) (locs : List Loc) (ls : Array Slot), HR w K g S H → va_S (FR w) s.heap H locs → lv_has ls 5 [(0, .ref w.2.2.2), (2, .int x2), (3, .int x3), (4, .int x4)] → f8_whyNot_44 k15 S p0 x2 x3 x4 = some out → W p l e ({ frames := 3, cells := 0, slots := 0, locals := 69 } : Room) s m args below meth c H locs 0 0 (MQ below (QI w K g S out) args s 0 0 (FR w)) (F0 m 44 ls []) := by
    intro k15 hk15 x2 x3 x4 H locs ls hH hS hl hf
    unfold f8_whyNot_44 at hf
    refine lv_iload_n hx hb dX8_whyNot_44 rfl (lv_at hl 2 rfl) ?_
    have hg := gif hf
    refine lv_if_ne (tgt := 73) hx hb dX8_whyNot_45 (by decide) (fun c2 => ?_) (fun c2 => ?_)
    · have hf := hg.2 c2
      exact B73 _ (hk15) _ _ _ _ _ hH hS (lv_sub hl [0, 1, 3] rfl) hf
    · have hf := hg.1 c2
      refine lv_iload_n hx hb dX8_whyNot_48 rfl (lv_at hl 1 rfl) ?_
      refine lv_iload hx hb dX8_whyNot_49 (lv_at hl 3 rfl) ?_
      refine lv_ishr hx hb dX8_whyNot_51 ?_
      refine lv_iconst (v := 1) hx hb dX8_whyNot_52 (by decide) ?_
      refine lv_iand hx hb dX8_whyNot_53 ?_
      refine lv_iconst (v := 1) hx hb dX8_whyNot_54 (by decide) ?_
      have hg := gif hf
      refine lv_icmp_ne (tgt := 77) hx hb dX8_whyNot_55 (by decide) (fun c3 => ?_) (fun c3 => ?_)
      · have hf := hg.2 c3
        exact B77 _ (hk15) _ _ _ _ _ hH hS (lv_sub hl [0, 1, 3] rfl) hf
      · have hf := hg.1 c3
        refine lv_aload_n hx hb dX8_whyNot_58 rfl (lv_at hl 0 rfl) ?_
        refine lv_iload hx hb dX8_whyNot_59 (lv_at hl 3 rfl) ?_
        obtain ⟨v4, h5, hf⟩ := gbind hf
        refine g_Vi (As := [.int x4]) (rest := []) ⟨hx, hb, hml, hown, hts⟩ (c8_reached l w K g S x4 v4 h5) (gcwV hts i8_reached wd_765 rfl rfl ⟨Nat.le_of_ble_eq_true rfl, Nat.le_of_ble_eq_true rfl⟩) (gRecv.of hK rfl hH.ob) hH hK hS hl.1 rfl rfl (Nat.le_of_ble_eq_true rfl) dX8_whyNot_61 ⟨Nat.le_refl _, Nat.le_refl _⟩ (fun H locs hH hS => ?_)
        refine lv_iload hx hb dX8_whyNot_64 (lv_at hl 3 rfl) ?_
        refine lv_ishr hx hb dX8_whyNot_66 ?_
        refine lv_iconst (v := 1) hx hb dX8_whyNot_67 (by decide) ?_
        refine lv_iand hx hb dX8_whyNot_68 ?_
        refine lv_iconst (v := 1) hx hb dX8_whyNot_69 (by decide) ?_
        have hg := gif hf
        refine lv_icmp_ne (tgt := 77) hx hb dX8_whyNot_70 (by decide) (fun c6 => ?_) (fun c6 => ?_)
        · have hf := hg.2 c6
          exact B77 _ (hk15) _ _ _ _ _ hH hS (lv_sub hl [0, 1, 3] rfl) hf
        · have hf := hg.1 c6
          exact B73 _ (hk15) _ _ _ _ _ hH hS (lv_sub hl [0, 1, 3] rfl) hf
  have B15 : ∀ n : Nat, ∀ (x2 : Int32) (x3 : Int32) (x4 : Int32) (H : Heap) (locs : List Loc) (ls : Array Slot), HR w K g S H → va_S (FR w) s.heap H locs → lv_has ls 5 [(0, .ref w.2.2.2), (2, .int x2), (3, .int x3), (4, .int x4)] → f8_whyNot_15 S p0 n x2 x3 x4 = some out → W p l e ({ frames := 3, cells := 0, slots := 0, locals := 69 } : Room) s m args below meth c H locs 0 0 (MQ below (QI w K g S out) args s 0 0 (FR w)) (F0 m 15 ls []) := by
    intro n
    induction n with
    | zero =>
      intro x2 x3 x4 H locs ls hH hS hl hf
      cases hf
    | succ n ih =>
      intro x2 x3 x4 H locs ls hH hS hl hf
      rw [f8_whyNot_15] at hf
      refine lv_iload hx hb dX8_whyNot_15 (lv_at hl 3 rfl) ?_
      refine lv_bipush (v := 10) hx hb dX8_whyNot_17 (by decide) ?_
      have hg := gif hf
      refine lv_icmp_ge (tgt := 85) hx hb dX8_whyNot_19 (by decide) (fun c7 => ?_) (fun c7 => ?_)
      · have hf := hg.1 c7
        refine lv_iload_n hx hb dX8_whyNot_85 rfl (lv_at hl 2 rfl) ?_
        have hg := gif hf
        refine lv_if_eq (tgt := 94) hx hb dX8_whyNot_86 (by decide) (fun c8 => ?_) (fun c8 => ?_)
        · have hf := hg.1 c8
          refine lv_iconst (v := 0) hx hb dX8_whyNot_94 (by decide) ?_
          have ho := Option.some.inj hf
          exact W.iret (v := 0) hx hb hr (fun t ht hW => ⟨⟨0, (), rfl, ho, hrE ht hH⟩, hS.F ht⟩) hS.2.2 dX8_whyNot_95
        · have hf := hg.2 c8
          refine lv_bipush (v := (-6)) hx hb dX8_whyNot_89 (by decide) ?_
          refine lv_goto (tgt := 95) hx hb dX8_whyNot_91 (by decide) ?_
          have ho := Option.some.inj hf
          exact W.iret (v := (-6)) hx hb hr (fun t ht hW => ⟨⟨(-6), (), rfl, ho, hrE ht hH⟩, hS.F ht⟩) hS.2.2 dX8_whyNot_95
      · have hf := hg.2 c7
        refine lv_iload_n hx hb dX8_whyNot_22 rfl (lv_at hl 1 rfl) ?_
        refine lv_iload hx hb dX8_whyNot_23 (lv_at hl 3 rfl) ?_
        refine lv_ishr hx hb dX8_whyNot_25 ?_
        refine lv_iconst (v := 1) hx hb dX8_whyNot_26 (by decide) ?_
        refine lv_iand hx hb dX8_whyNot_27 ?_
        refine lv_iconst (v := 1) hx hb dX8_whyNot_28 (by decide) ?_
        have hg := gif hf
        refine lv_icmp_ne (tgt := 44) hx hb dX8_whyNot_29 (by decide) (fun c9 => ?_) (fun c9 => ?_)
        · have hf := hg.2 c9
          exact B44 _ (ih) _ _ _ _ _ _ hH hS (lv_sub hl [0, 1, 2, 3] rfl) hf
        · have hf := hg.1 c9
          refine lv_aload_n hx hb dX8_whyNot_32 rfl (lv_at hl 0 rfl) ?_
          refine lv_iload hx hb dX8_whyNot_33 (lv_at hl 3 rfl) ?_
          obtain ⟨v10, h11, hf⟩ := gbind hf
          refine g_Vi (As := [.int x4]) (rest := []) ⟨hx, hb, hml, hown, hts⟩ (c8_hasText l w K g S x4 v10 h11) (gcwV hts i8_hasText wd_318 rfl rfl ⟨Nat.le_of_ble_eq_true rfl, Nat.le_of_ble_eq_true rfl⟩) (gRecv.of hK rfl hH.ob) hH hK hS hl.1 rfl rfl (Nat.le_of_ble_eq_true rfl) dX8_whyNot_35 ⟨Nat.le_refl _, Nat.le_refl _⟩ (fun H locs hH hS => ?_)
          have hg := gif hf
          refine lv_if_ne (tgt := 44) hx hb dX8_whyNot_38 (by decide) (fun c12 => ?_) (fun c12 => ?_)
          · have hf := hg.2 c12
            exact B44 _ (ih) _ _ _ _ _ _ hH hS (lv_sub hl [0, 1, 2, 3] rfl) hf
          · have hf := hg.1 c12
            refine lv_bipush (v := (-5)) hx hb dX8_whyNot_41 (by decide) ?_
            have ho := Option.some.inj hf
            exact W.iret (v := (-5)) hx hb hr (fun t ht hW => ⟨⟨(-5), (), rfl, ho, hrE ht hH⟩, hS.F ht⟩) hS.2.2 dX8_whyNot_43
  have hl : lv_has ls 5 [(0, .ref w.2.2.2), (1, .int p0)] := hl
  refine lv_aload_n hx hb dX8_whyNot_0 rfl (lv_at hl 0 rfl) ?_
  refine lv_iload_n hx hb dX8_whyNot_1 rfl (lv_at hl 1 rfl) ?_
  obtain ⟨v13, h14, hf⟩ := gbind hf
  refine g_Vi (As := [.int p0]) (rest := []) ⟨hx, hb, hml, hown, hts⟩ (c8_reached l w K g S p0 v13 h14) (gcwV hts i8_reached wd_765 rfl rfl ⟨Nat.le_of_ble_eq_true rfl, Nat.le_of_ble_eq_true rfl⟩) (gRecv.of hK rfl hH.ob) hH hK hS hl.1 rfl rfl (Nat.le_of_ble_eq_true rfl) dX8_whyNot_2 ⟨Nat.le_refl _, Nat.le_refl _⟩ (fun H locs hH hS => ?_)
  refine lv_iconst (v := 1) hx hb dX8_whyNot_5 (by decide) ?_
  refine lv_iload_n hx hb dX8_whyNot_6 rfl (lv_at hl 1 rfl) ?_
  refine lv_ishl hx hb dX8_whyNot_7 ?_
  refine lv_ior hx hb dX8_whyNot_8 ?_
  refine lv_topi (fun v15 ev15 => ?_)
  have hf := gl_at hf ev15
  refine lv_istore_n (lv' := [(2, .int v15), (0, .ref w.2.2.2), (1, .int p0)]) hx hb dX8_whyNot_9 rfl hl (by decide) rfl (fun ls hl => ?_)
  refine lv_iconst (v := 0) hx hb dX8_whyNot_10 (by decide) ?_
  refine lv_istore_n (lv' := [(3, .int 0), (2, .int v15), (0, .ref w.2.2.2), (1, .int p0)]) hx hb dX8_whyNot_11 rfl hl (by decide) rfl (fun ls hl => ?_)
  refine lv_iconst (v := 0) hx hb dX8_whyNot_12 (by decide) ?_
  refine lv_istore (lv' := [(4, .int 0), (3, .int 0), (2, .int v15), (0, .ref w.2.2.2), (1, .int p0)]) hx hb dX8_whyNot_13 hl (by decide) rfl (fun ls hl => ?_)
  exact B15 _ _ _ _ _ _ _ hH hS (lv_sub hl [3, 2, 1, 0] rfl) hf
set_option maxRecDepth 100000 in
set_option maxHeartbeats 8000000 in
theorem c8_tellsDepth (l : Launch) (w : GW) (K : GK) (g : GM) (S : GS) (p0 : Int32) (out : GS × Int32) (hf : f8_tellsDepth S p0 = some out) : Met l yX8_tellsDepth (wA yX8_tellsDepth cX8_tellsDepth 2 (some .int)) ({ frames := 5, cells := 0, slots := 0, locals := 118 } : Room) (PRE w K g S [.ref w.2.2.2, .int p0]) (QI w K g out.1 out.2) 0 0 (FR w) := by
  unfold f8_tellsDepth at hf
  refine Met.ofW (cc := cX8_tellsDepth) (maxL := 2) (ret := (some .int)) (by decide) rfl ?_
  intro p e s m args below meth c s₁ B hml hv
  obtain ⟨rfl, hH, hK⟩ := hv
  have hx := B.exec
  have hb := B.bytes
  have hr := B.returns
  have hts : ∀ q ∈ gALL, q.before _ s = true := fun q h => atoms_spec (ws := (wA yX8_tellsDepth cX8_tellsDepth 2 (some .int))) B.pre q (List.mem_cons_of_mem _ h)
  have hown : s.vm.findClass RX8 = some m.cls := findClass_of_methodNamed B.named
  have hlocks := B.notSynchronized
  have hS : va_S (FR w) s.heap s.heap [] := va_S.rf
  show W p l e ({ frames := 5, cells := 0, slots := 0, locals := 118 } : Room) s m _ below meth c s.heap [] 0 0 (MQ below (QI w K g out.1 out.2) _ s 0 0 (FR w)) _
  have hl := lv_entry ([.ref w.2.2.2, .int p0]) (n := 2) (Nat.le_of_ble_eq_true rfl)
  rw [lg_entry_eq]
  generalize (lg_sl ([.ref w.2.2.2, .int p0]) ++ List.replicate (2 - (lg_sl ([.ref w.2.2.2, .int p0])).length) Slot.unset).toArray = ls at hl ⊢
  clear B
  generalize ([.ref w.2.2.2, .int p0] : List Value).toArray = args at hts ⊢
  have hl : lv_has ls 2 [(0, .ref w.2.2.2), (1, .int p0)] := hl
  refine lv_aload_n hx hb dX8_tellsDepth_0 rfl (lv_at hl 0 rfl) ?_
  obtain ⟨g1, h2, hf⟩ := gbind hf
  refine g_Vv (As := []) (rest := []) ⟨hx, hb, hml, hown, hts⟩ (c8_countAll l w K g S g1 h2) (gcwV hts i8_countAll wd_774 rfl rfl ⟨Nat.le_of_ble_eq_true rfl, Nat.le_of_ble_eq_true rfl⟩) (gRecv.of hK rfl hH.ob) hH hK hS hl.1 rfl rfl (Nat.le_of_ble_eq_true rfl) dX8_tellsDepth_1 ⟨Nat.le_refl _, Nat.le_refl _⟩ (fun H locs hH hS => ?_)
  refine lv_aload_n hx hb dX8_tellsDepth_4 rfl (lv_at hl 0 rfl) ?_
  refine e_8_11 hx hb hts hown hK hH (hts _ wd_108) dX8_tellsDepth_5 ?_
  refine lv_iload_n hx hb dX8_tellsDepth_8 rfl (lv_at hl 1 rfl) ?_
  obtain ⟨h4, hf⟩ := gd_some hf
  refine m_iald hx hb hK hH 8 (by decide) (by decide) rfl h4 dX8_tellsDepth_9 ?_
  have ho := Option.some.inj hf
  exact W.iret (v := (g1 8 p0.toNatClampNeg)) hx hb hr (fun t ht hW => ⟨⟨(g1 8 p0.toNatClampNeg), (), rfl, congrArg Prod.snd ho, hrPm ht ho hH⟩, hS.F ht⟩) hS.2.2 dX8_tellsDepth_10
set_option maxRecDepth 100000 in
set_option maxHeartbeats 8000000 in
theorem c8_depth (l : Launch) (w : GW) (K : GK) (g : GM) (S : GS) (p0 : Int32) (out : GS × Int32) (hf : f8_depth S p0 = some out) : Met l yX8_depth (wA yX8_depth cX8_depth 3 (some .int)) ({ frames := 6, cells := 0, slots := 0, locals := 139 } : Room) (PRE w K g S [.ref w.2.2.2, .int p0]) (QI w K g out.1 out.2) 0 0 (FR w) := by
  unfold f8_depth at hf
  refine Met.ofW (cc := cX8_depth) (maxL := 3) (ret := (some .int)) (by decide) rfl ?_
  intro p e s m args below meth c s₁ B hml hv
  obtain ⟨rfl, hH, hK⟩ := hv
  have hx := B.exec
  have hb := B.bytes
  have hr := B.returns
  have hts : ∀ q ∈ gALL, q.before _ s = true := fun q h => atoms_spec (ws := (wA yX8_depth cX8_depth 3 (some .int))) B.pre q (List.mem_cons_of_mem _ h)
  have hown : s.vm.findClass RX8 = some m.cls := findClass_of_methodNamed B.named
  have hlocks := B.notSynchronized
  have hS : va_S (FR w) s.heap s.heap [] := va_S.rf
  show W p l e ({ frames := 6, cells := 0, slots := 0, locals := 139 } : Room) s m _ below meth c s.heap [] 0 0 (MQ below (QI w K g out.1 out.2) _ s 0 0 (FR w)) _
  have hl := lv_entry ([.ref w.2.2.2, .int p0]) (n := 3) (Nat.le_of_ble_eq_true rfl)
  rw [lg_entry_eq]
  generalize (lg_sl ([.ref w.2.2.2, .int p0]) ++ List.replicate (3 - (lg_sl ([.ref w.2.2.2, .int p0])).length) Slot.unset).toArray = ls at hl ⊢
  clear B
  generalize ([.ref w.2.2.2, .int p0] : List Value).toArray = args at hts ⊢
  have hl : lv_has ls 3 [(0, .ref w.2.2.2), (1, .int p0)] := hl
  refine lv_iload_n hx hb dX8_depth_0 rfl (lv_at hl 1 rfl) ?_
  obtain ⟨v1, h2, hf⟩ := gbind hf
  refine g_Si (As := [.int p0]) (rest := []) ⟨hx, hb, hml, hown, hts⟩ (c8_isCard l w K g S p0 v1 h2) (gcwS hts i8_isCard wd_264 rfl rfl ⟨Nat.le_of_ble_eq_true rfl, Nat.le_of_ble_eq_true rfl⟩) hH hK hS hl.1 rfl rfl (Nat.le_of_ble_eq_true rfl) dX8_depth_1 ⟨Nat.le_refl _, Nat.le_refl _⟩ (fun H locs hH hS => ?_)
  have hg := gif hf
  refine lv_if_ne (tgt := 9) hx hb dX8_depth_4 (by decide) (fun c3 => ?_) (fun c3 => ?_)
  · have hf := hg.2 c3
    refine lv_aload_n hx hb dX8_depth_9 rfl (lv_at hl 0 rfl) ?_
    refine lv_iload_n hx hb dX8_depth_10 rfl (lv_at hl 1 rfl) ?_
    obtain ⟨v4, h5, hf⟩ := gbind hf
    refine g_Vi (As := [.int p0]) (rest := []) ⟨hx, hb, hml, hown, hts⟩ (c8_whyNot l w K g S p0 v4 h5) (gcwV hts i8_whyNot wd_761 rfl rfl ⟨Nat.le_of_ble_eq_true rfl, Nat.le_of_ble_eq_true rfl⟩) (gRecv.of hK rfl hH.ob) hH hK hS hl.1 rfl rfl (Nat.le_of_ble_eq_true rfl) dX8_depth_11 ⟨Nat.le_refl _, Nat.le_refl _⟩ (fun H locs hH hS => ?_)
    refine lv_istore_n (lv' := [(2, .int v4), (0, .ref w.2.2.2), (1, .int p0)]) hx hb dX8_depth_14 rfl hl (by decide) rfl (fun ls hl => ?_)
    refine lv_iload_n hx hb dX8_depth_15 rfl (lv_at hl 0 rfl) ?_
    have hg := gif hf
    refine lv_if_eq (tgt := 23) hx hb dX8_depth_16 (by decide) (fun c6 => ?_) (fun c6 => ?_)
    · have hf := hg.1 c6
      refine lv_aload_n hx hb dX8_depth_23 rfl (lv_at hl 1 rfl) ?_
      refine lv_iload_n hx hb dX8_depth_24 rfl (lv_at hl 2 rfl) ?_
      obtain ⟨r7, h8, hf⟩ := gbind hf
      refine g_Vi (As := [.int p0]) (rest := []) ⟨hx, hb, hml, hown, hts⟩ (c8_tellsDepth l w K g S p0 r7 h8) (gcwV hts i8_tellsDepth wd_827 rfl rfl ⟨Nat.le_of_ble_eq_true rfl, Nat.le_of_ble_eq_true rfl⟩) (gRecv.of hK rfl hH.ob) hH hK hS hl.1 rfl rfl (Nat.le_of_ble_eq_true rfl) dX8_depth_25 ⟨Nat.le_refl _, Nat.le_refl _⟩ (fun H locs hH hS => ?_)
      have ho := Option.some.inj hf
      exact W.iret (v := r7.2) hx hb hr (fun t ht hW => ⟨⟨r7.2, (), rfl, congrArg Prod.snd ho, hrPm ht ho hH⟩, hS.F ht⟩) hS.2.2 dX8_depth_28
    · have hf := hg.2 c6
      refine lv_iload_n hx hb dX8_depth_19 rfl (lv_at hl 0 rfl) ?_
      refine lv_goto (tgt := 28) hx hb dX8_depth_20 (by decide) ?_
      have ho := Option.some.inj hf
      exact W.iret (v := v4) hx hb hr (fun t ht hW => ⟨⟨v4, (), rfl, congrArg Prod.snd ho, hrPm ht ho hH⟩, hS.F ht⟩) hS.2.2 dX8_depth_28
  · have hf := hg.1 c3
    refine lv_iconst (v := (-1)) hx hb dX8_depth_7 (by decide) ?_
    have ho := Option.some.inj hf
    exact W.iret (v := (-1)) hx hb hr (fun t ht hW => ⟨⟨(-1), (), rfl, congrArg Prod.snd ho, hrPm ht ho hH⟩, hS.F ht⟩) hS.2.2 dX8_depth_8
set_option maxRecDepth 100000 in
set_option maxHeartbeats 8000000 in
theorem c8_fault (l : Launch) (w : GW) (K : GK) (g : GM) (S : GS) (out : GS × Int32) (hf : f8_fault S = some out) : Met l yX8_fault (wA yX8_fault cX8_fault 1 (some .int)) ({ frames := 4, cells := 0, slots := 0, locals := 87 } : Room) (PRE w K g S [.ref w.2.2.2]) (QI w K g out.1 out.2) 0 0 (FR w) := by
  unfold f8_fault at hf
  refine Met.ofW (cc := cX8_fault) (maxL := 1) (ret := (some .int)) (by decide) rfl ?_
  intro p e s m args below meth c s₁ B hml hv
  obtain ⟨rfl, hH, hK⟩ := hv
  have hx := B.exec
  have hb := B.bytes
  have hr := B.returns
  have hts : ∀ q ∈ gALL, q.before _ s = true := fun q h => atoms_spec (ws := (wA yX8_fault cX8_fault 1 (some .int))) B.pre q (List.mem_cons_of_mem _ h)
  have hown : s.vm.findClass RX8 = some m.cls := findClass_of_methodNamed B.named
  have hlocks := B.notSynchronized
  have hS : va_S (FR w) s.heap s.heap [] := va_S.rf
  show W p l e ({ frames := 4, cells := 0, slots := 0, locals := 87 } : Room) s m _ below meth c s.heap [] 0 0 (MQ below (QI w K g out.1 out.2) _ s 0 0 (FR w)) _
  have hl := lv_entry ([.ref w.2.2.2]) (n := 1) (Nat.le_of_ble_eq_true rfl)
  rw [lg_entry_eq]
  generalize (lg_sl ([.ref w.2.2.2]) ++ List.replicate (1 - (lg_sl ([.ref w.2.2.2])).length) Slot.unset).toArray = ls at hl ⊢
  clear B
  generalize ([.ref w.2.2.2] : List Value).toArray = args at hts ⊢
  have hl : lv_has ls 1 [(0, .ref w.2.2.2)] := hl
  refine lv_aload_n hx hb dX8_fault_0 rfl (lv_at hl 0 rfl) ?_
  obtain ⟨r1, h2, hf⟩ := gbind hf
  refine g_Vi (As := []) (rest := []) ⟨hx, hb, hml, hown, hts⟩ (c8_findFault l w K g S r1 h2) (gcwV hts i8_findFault wd_267 rfl rfl ⟨Nat.le_of_ble_eq_true rfl, Nat.le_of_ble_eq_true rfl⟩) (gRecv.of hK rfl hH.ob) hH hK hS hl.1 rfl rfl (Nat.le_of_ble_eq_true rfl) dX8_fault_1 ⟨Nat.le_refl _, Nat.le_refl _⟩ (fun H locs hH hS => ?_)
  have ho := Option.some.inj hf
  exact W.iret (v := r1.2) hx hb hr (fun t ht hW => ⟨⟨r1.2, (), rfl, congrArg Prod.snd ho, hrPm ht ho hH⟩, hS.F ht⟩) hS.2.2 dX8_fault_4
set_option maxRecDepth 100000 in
set_option maxHeartbeats 8000000 in
theorem c8_isColour (l : Launch) (w : GW) (K : GK) (g : GM) (S : GS) (p0 : Int32) (out : Int32) (hf : f8_isColour p0 = some out) : Met l yX8_isColour (wA yX8_isColour cX8_isColour 1 (some .boolean)) ({ frames := 1, cells := 0, slots := 0, locals := 22 } : Room) (PRE w K g S [.int p0]) (QI w K g S out) 0 0 (FR w) := by
  unfold f8_isColour at hf
  refine Met.ofW (cc := cX8_isColour) (maxL := 1) (ret := (some .boolean)) (by decide) rfl ?_
  intro p e s m args below meth c s₁ B hml hv
  obtain ⟨rfl, hH, hK⟩ := hv
  have hx := B.exec
  have hb := B.bytes
  have hr := B.returns
  have hts : ∀ q ∈ gALL, q.before _ s = true := fun q h => atoms_spec (ws := (wA yX8_isColour cX8_isColour 1 (some .boolean))) B.pre q (List.mem_cons_of_mem _ h)
  have hown : s.vm.findClass RX8 = some m.cls := findClass_of_methodNamed B.named
  have hlocks := B.notSynchronized
  have hS : va_S (FR w) s.heap s.heap [] := va_S.rf
  show W p l e ({ frames := 1, cells := 0, slots := 0, locals := 22 } : Room) s m _ below meth c s.heap [] 0 0 (MQ below (QI w K g S out) _ s 0 0 (FR w)) _
  have hl := lv_entry ([.int p0]) (n := 1) (Nat.le_of_ble_eq_true rfl)
  rw [lg_entry_eq]
  generalize (lg_sl ([.int p0]) ++ List.replicate (1 - (lg_sl ([.int p0])).length) Slot.unset).toArray = ls at hl ⊢
  clear B
  generalize ([.int p0] : List Value).toArray = args at hts ⊢
  have hl : lv_has ls 1 [(0, .int p0)] := hl
  refine lv_iload_n hx hb dX8_isColour_0 rfl (lv_at hl 0 rfl) ?_
  refine lv_iconst (v := 0) hx hb dX8_isColour_1 (by decide) ?_
  refine lv_iconst (v := 5) hx hb dX8_isColour_2 (by decide) ?_
  obtain ⟨v1, h2, hf⟩ := gbind hf
  refine g_Si (As := [.int p0, .int 0, .int 5]) (rest := []) ⟨hx, hb, hml, hown, hts⟩ (c8_within l w K g S p0 0 5 v1 h2) (gcwS hts i8_within wd_155 rfl rfl ⟨Nat.le_of_ble_eq_true rfl, Nat.le_of_ble_eq_true rfl⟩) hH hK hS hl.1 rfl rfl (Nat.le_of_ble_eq_true rfl) dX8_isColour_3 ⟨Nat.le_refl _, Nat.le_refl _⟩ (fun H locs hH hS => ?_)
  obtain ⟨h3, hf⟩ := gd_some hf
  have ho := Option.some.inj hf
  exact W.zret (v := v1) (ty := .boolean) hx hb hr (gbl_n h3) (fun t ht hW => ⟨⟨v1, (), rfl, ho, hrE ht hH⟩, hS.F ht⟩) hS.2.2 dX8_isColour_6
set_option maxRecDepth 100000 in
set_option maxHeartbeats 8000000 in
theorem c8_isSlot (l : Launch) (w : GW) (K : GK) (g : GM) (S : GS) (p0 : Int32) (out : Int32) (hf : f8_isSlot p0 = some out) : Met l yX8_isSlot (wA yX8_isSlot cX8_isSlot 1 (some .boolean)) ({ frames := 1, cells := 0, slots := 0, locals := 22 } : Room) (PRE w K g S [.int p0]) (QI w K g S out) 0 0 (FR w) := by
  unfold f8_isSlot at hf
  refine Met.ofW (cc := cX8_isSlot) (maxL := 1) (ret := (some .boolean)) (by decide) rfl ?_
  intro p e s m args below meth c s₁ B hml hv
  obtain ⟨rfl, hH, hK⟩ := hv
  have hx := B.exec
  have hb := B.bytes
  have hr := B.returns
  have hts : ∀ q ∈ gALL, q.before _ s = true := fun q h => atoms_spec (ws := (wA yX8_isSlot cX8_isSlot 1 (some .boolean))) B.pre q (List.mem_cons_of_mem _ h)
  have hown : s.vm.findClass RX8 = some m.cls := findClass_of_methodNamed B.named
  have hlocks := B.notSynchronized
  have hS : va_S (FR w) s.heap s.heap [] := va_S.rf
  show W p l e ({ frames := 1, cells := 0, slots := 0, locals := 22 } : Room) s m _ below meth c s.heap [] 0 0 (MQ below (QI w K g S out) _ s 0 0 (FR w)) _
  have hl := lv_entry ([.int p0]) (n := 1) (Nat.le_of_ble_eq_true rfl)
  rw [lg_entry_eq]
  generalize (lg_sl ([.int p0]) ++ List.replicate (1 - (lg_sl ([.int p0])).length) Slot.unset).toArray = ls at hl ⊢
  clear B
  generalize ([.int p0] : List Value).toArray = args at hts ⊢
  have hl : lv_has ls 1 [(0, .int p0)] := hl
  refine lv_iload_n hx hb dX8_isSlot_0 rfl (lv_at hl 0 rfl) ?_
  refine lv_iconst (v := 0) hx hb dX8_isSlot_1 (by decide) ?_
  refine lv_iconst (v := 1) hx hb dX8_isSlot_2 (by decide) ?_
  obtain ⟨v1, h2, hf⟩ := gbind hf
  refine g_Si (As := [.int p0, .int 0, .int 1]) (rest := []) ⟨hx, hb, hml, hown, hts⟩ (c8_within l w K g S p0 0 1 v1 h2) (gcwS hts i8_within wd_155 rfl rfl ⟨Nat.le_of_ble_eq_true rfl, Nat.le_of_ble_eq_true rfl⟩) hH hK hS hl.1 rfl rfl (Nat.le_of_ble_eq_true rfl) dX8_isSlot_3 ⟨Nat.le_refl _, Nat.le_refl _⟩ (fun H locs hH hS => ?_)
  obtain ⟨h3, hf⟩ := gd_some hf
  have ho := Option.some.inj hf
  exact W.zret (v := v1) (ty := .boolean) hx hb hr (gbl_n h3) (fun t ht hW => ⟨⟨v1, (), rfl, ho, hrE ht hH⟩, hS.F ht⟩) hS.2.2 dX8_isSlot_6
set_option maxRecDepth 100000 in
set_option maxHeartbeats 8000000 in
theorem c8_leastOf (l : Launch) (w : GW) (K : GK) (g : GM) (S : GS) (p0 : Int32) (out : Int32) (hf : f8_leastOf p0 = some out) : Met l yX8_leastOf (wA yX8_leastOf cX8_leastOf 1 (some .int)) ({ frames := 0, cells := 0, slots := 0, locals := 0 } : Room) (PRE w K g S [.int p0]) (QI w K g S out) 0 0 (FR w) := by
  unfold f8_leastOf at hf
  refine Met.ofW (cc := cX8_leastOf) (maxL := 1) (ret := (some .int)) (by decide) rfl ?_
  intro p e s m args below meth c s₁ B hml hv
  obtain ⟨rfl, hH, hK⟩ := hv
  have hx := B.exec
  have hb := B.bytes
  have hr := B.returns
  have hts : ∀ q ∈ gALL, q.before _ s = true := fun q h => atoms_spec (ws := (wA yX8_leastOf cX8_leastOf 1 (some .int))) B.pre q (List.mem_cons_of_mem _ h)
  have hown : s.vm.findClass RX8 = some m.cls := findClass_of_methodNamed B.named
  have hlocks := B.notSynchronized
  have hS : va_S (FR w) s.heap s.heap [] := va_S.rf
  show W p l e ({ frames := 0, cells := 0, slots := 0, locals := 0 } : Room) s m _ below meth c s.heap [] 0 0 (MQ below (QI w K g S out) _ s 0 0 (FR w)) _
  have hl := lv_entry ([.int p0]) (n := 1) (Nat.le_of_ble_eq_true rfl)
  rw [lg_entry_eq]
  generalize (lg_sl ([.int p0]) ++ List.replicate (1 - (lg_sl ([.int p0])).length) Slot.unset).toArray = ls at hl ⊢
  clear B
  generalize ([.int p0] : List Value).toArray = args at hts ⊢
  have hl : lv_has ls 1 [(0, .int p0)] := hl
  refine lv_iload_n hx hb dX8_leastOf_0 rfl (lv_at hl 0 rfl) ?_
  have hg := gif hf
  refine lv_if_ne (tgt := 8) hx hb dX8_leastOf_1 (by decide) (fun c1 => ?_) (fun c1 => ?_)
  · have hf := hg.2 c1
    refine lv_iload_n hx hb dX8_leastOf_8 rfl (lv_at hl 0 rfl) ?_
    refine lv_iconst (v := 1) hx hb dX8_leastOf_9 (by decide) ?_
    have hg := gif hf
    refine lv_icmp_ne (tgt := 17) hx hb dX8_leastOf_10 (by decide) (fun c2 => ?_) (fun c2 => ?_)
    · have hf := hg.2 c2
      refine lv_iconst (v := 0) hx hb dX8_leastOf_17 (by decide) ?_
      have ho := Option.some.inj hf
      exact W.iret (v := 0) hx hb hr (fun t ht hW => ⟨⟨0, (), rfl, ho, hrE ht hH⟩, hS.F ht⟩) hS.2.2 dX8_leastOf_18
    · have hf := hg.1 c2
      refine lv_iconst (v := 2) hx hb dX8_leastOf_13 (by decide) ?_
      refine lv_goto (tgt := 18) hx hb dX8_leastOf_14 (by decide) ?_
      have ho := Option.some.inj hf
      exact W.iret (v := 2) hx hb hr (fun t ht hW => ⟨⟨2, (), rfl, ho, hrE ht hH⟩, hS.F ht⟩) hS.2.2 dX8_leastOf_18
  · have hf := hg.1 c1
    refine lv_iconst (v := 1) hx hb dX8_leastOf_4 (by decide) ?_
    refine lv_goto (tgt := 18) hx hb dX8_leastOf_5 (by decide) ?_
    have ho := Option.some.inj hf
    exact W.iret (v := 1) hx hb hr (fun t ht hW => ⟨⟨1, (), rfl, ho, hrE ht hH⟩, hS.F ht⟩) hS.2.2 dX8_leastOf_18
set_option maxRecDepth 100000 in
set_option maxHeartbeats 8000000 in
theorem c8_longestRow (l : Launch) (w : GW) (K : GK) (g : GM) (S : GS) (p0 : Int32) (out : Int32) (hf : f8_longestRow S p0 = some out) : Met l yX8_longestRow (wA yX8_longestRow cX8_longestRow 5 (some .int)) ({ frames := 0, cells := 0, slots := 0, locals := 0 } : Room) (PRE w K g S [.ref w.2.2.2, .int p0]) (QI w K g S out) 0 0 (FR w) := by
  unfold f8_longestRow at hf
  refine Met.ofW (cc := cX8_longestRow) (maxL := 5) (ret := (some .int)) (by decide) rfl ?_
  intro p e s m args below meth c s₁ B hml hv
  obtain ⟨rfl, hH, hK⟩ := hv
  have hx := B.exec
  have hb := B.bytes
  have hr := B.returns
  have hts : ∀ q ∈ gALL, q.before _ s = true := fun q h => atoms_spec (ws := (wA yX8_longestRow cX8_longestRow 5 (some .int))) B.pre q (List.mem_cons_of_mem _ h)
  have hown : s.vm.findClass RX8 = some m.cls := findClass_of_methodNamed B.named
  have hlocks := B.notSynchronized
  have hS : va_S (FR w) s.heap s.heap [] := va_S.rf
  show W p l e ({ frames := 0, cells := 0, slots := 0, locals := 0 } : Room) s m _ below meth c s.heap [] 0 0 (MQ below (QI w K g S out) _ s 0 0 (FR w)) _
  have hl := lv_entry ([.ref w.2.2.2, .int p0]) (n := 5) (Nat.le_of_ble_eq_true rfl)
  rw [lg_entry_eq]
  generalize (lg_sl ([.ref w.2.2.2, .int p0]) ++ List.replicate (5 - (lg_sl ([.ref w.2.2.2, .int p0])).length) Slot.unset).toArray = ls at hl ⊢
  clear B
  generalize ([.ref w.2.2.2, .int p0] : List Value).toArray = args at hts ⊢
  have B51 : ∀ (k7 : Int32 → Int32 → Int32 → Option (Int32)), (∀ (x2 : Int32) (x3 : Int32) (x4 : Int32) (H : Heap) (locs : List Loc) (ls : Array Slot), HR w K g S H → va_S (FR w) s.heap H locs → lv_has ls 5 [(0, .ref w.2.2.2), (1, .int p0), (2, .int x2), (3, .int x3), (4, .int x4)] → k7 x2 x3 x4 = some out → W p l e ({ frames := 0, cells := 0, slots := 0, locals := 0 } : Room) s m args below meth c H locs 0 0 (MQ below (QI w K g S out) args s 0 0 (FR w)) (F0 m 7 ls [])) → ∀ (x3 : Int32) (x4 : Int32) (s0 : Int32) (H : Heap) (locs : List Loc) (ls : Array Slot), HR w K g S H → va_S (FR w) s.heap H locs → lv_has ls 5 [(0, .ref w.2.2.2), (1, .int p0), (3, .int x3), (4, .int x4)] → f8_longestRow_51 k7 S p0 x3 x4 s0 = some out → W p l e ({ frames := 0, cells := 0, slots := 0, locals := 0 } : Room) s m args below meth c H locs 0 0 (MQ below (QI w K g S out) args s 0 0 (FR w)) (F0 m 51 ls [.int s0]) := by
    intro k7 hk7 x3 x4 s0 H locs ls hH hS hl hf
    unfold f8_longestRow_51 at hf
    refine lv_istore_n (lv' := [(2, .int s0), (0, .ref w.2.2.2), (1, .int p0), (3, .int x3), (4, .int x4)]) hx hb dX8_longestRow_51 rfl hl (by decide) rfl (fun ls hl => ?_)
    obtain ⟨v1, ev1⟩ : ∃ z : Int32, z = x4 + 1 := ⟨_, rfl⟩
    have hf := gl_at hf ev1
    refine lv_iinc (v := v1) (lv' := [(4, .int v1), (2, .int s0), (0, .ref w.2.2.2), (1, .int p0), (3, .int x3)]) hx hb dX8_longestRow_52 hl (k := 4) rfl (by rw [ev1]; rfl) (by decide) rfl (fun ls hl => ?_)
    refine lv_goto (tgt := 7) hx hb dX8_longestRow_55 (by decide) ?_
    exact hk7 _ _ _ _ _ _ hH hS (lv_sub hl [2, 3, 1, 4, 0] rfl) hf
  have B40 : ∀ (k7 : Int32 → Int32 → Int32 → Option (Int32)), (∀ (x2 : Int32) (x3 : Int32) (x4 : Int32) (H : Heap) (locs : List Loc) (ls : Array Slot), HR w K g S H → va_S (FR w) s.heap H locs → lv_has ls 5 [(0, .ref w.2.2.2), (1, .int p0), (2, .int x2), (3, .int x3), (4, .int x4)] → k7 x2 x3 x4 = some out → W p l e ({ frames := 0, cells := 0, slots := 0, locals := 0 } : Room) s m args below meth c H locs 0 0 (MQ below (QI w K g S out) args s 0 0 (FR w)) (F0 m 7 ls [])) → ∀ (x2 : Int32) (x4 : Int32) (s0 : Int32) (H : Heap) (locs : List Loc) (ls : Array Slot), HR w K g S H → va_S (FR w) s.heap H locs → lv_has ls 5 [(0, .ref w.2.2.2), (1, .int p0), (2, .int x2), (4, .int x4)] → f8_longestRow_40 k7 S p0 x2 x4 s0 = some out → W p l e ({ frames := 0, cells := 0, slots := 0, locals := 0 } : Room) s m args below meth c H locs 0 0 (MQ below (QI w K g S out) args s 0 0 (FR w)) (F0 m 40 ls [.int s0]) := by
    intro k7 hk7 x2 x4 s0 H locs ls hH hS hl hf
    unfold f8_longestRow_40 at hf
    refine lv_istore_n (lv' := [(3, .int s0), (0, .ref w.2.2.2), (1, .int p0), (2, .int x2), (4, .int x4)]) hx hb dX8_longestRow_40 rfl hl (by decide) rfl (fun ls hl => ?_)
    refine lv_iload_n hx hb dX8_longestRow_41 rfl (lv_at hl 0 rfl) ?_
    refine lv_iload_n hx hb dX8_longestRow_42 rfl (lv_at hl 3 rfl) ?_
    have hg := gif hf
    refine lv_icmp_le (tgt := 50) hx hb dX8_longestRow_43 (by decide) (fun c2 => ?_) (fun c2 => ?_)
    · have hf := hg.1 c2
      refine lv_iload_n hx hb dX8_longestRow_50 rfl (lv_at hl 3 rfl) ?_
      exact B51 _ (hk7) _ _ _ _ _ _ hH hS (lv_sub hl [1, 2, 0, 4] rfl) hf
    · have hf := hg.2 c2
      refine lv_iload_n hx hb dX8_longestRow_46 rfl (lv_at hl 0 rfl) ?_
      refine lv_goto (tgt := 51) hx hb dX8_longestRow_47 (by decide) ?_
      exact B51 _ (hk7) _ _ _ _ _ _ hH hS (lv_sub hl [1, 2, 0, 4] rfl) hf
  have B7 : ∀ n : Nat, ∀ (x2 : Int32) (x3 : Int32) (x4 : Int32) (H : Heap) (locs : List Loc) (ls : Array Slot), HR w K g S H → va_S (FR w) s.heap H locs → lv_has ls 5 [(0, .ref w.2.2.2), (1, .int p0), (2, .int x2), (3, .int x3), (4, .int x4)] → f8_longestRow_7 S p0 n x2 x3 x4 = some out → W p l e ({ frames := 0, cells := 0, slots := 0, locals := 0 } : Room) s m args below meth c H locs 0 0 (MQ below (QI w K g S out) args s 0 0 (FR w)) (F0 m 7 ls []) := by
    intro n
    induction n with
    | zero =>
      intro x2 x3 x4 H locs ls hH hS hl hf
      cases hf
    | succ n ih =>
      intro x2 x3 x4 H locs ls hH hS hl hf
      rw [f8_longestRow_7] at hf
      refine lv_iload hx hb dX8_longestRow_7 (lv_at hl 4 rfl) ?_
      refine lv_aload_n hx hb dX8_longestRow_9 rfl (lv_at hl 0 rfl) ?_
      refine e_8_0 hx hb hts hown hK hH (hts _ wd_101) dX8_longestRow_10 ?_
      refine lv_iconst (v := 4) hx hb dX8_longestRow_13 (by decide) ?_
      obtain ⟨h4, hf⟩ := gd_some hf
      refine m_iald hx hb hK hH 1 (by decide) (by decide) rfl h4 dX8_longestRow_14 ?_
      have hg := gif hf
      refine lv_icmp_ge (tgt := 58) hx hb dX8_longestRow_15 (by decide) (fun c5 => ?_) (fun c5 => ?_)
      · have hf := hg.1 c5
        refine lv_iload_n hx hb dX8_longestRow_58 rfl (lv_at hl 2 rfl) ?_
        have ho := Option.some.inj hf
        exact W.iret (v := x2) hx hb hr (fun t ht hW => ⟨⟨x2, (), rfl, ho, hrE ht hH⟩, hS.F ht⟩) hS.2.2 dX8_longestRow_59
      · have hf := hg.2 c5
        refine lv_aload_n hx hb dX8_longestRow_18 rfl (lv_at hl 0 rfl) ?_
        refine e_8_0 hx hb hts hown hK hH (hts _ wd_101) dX8_longestRow_19 ?_
        refine lv_sipush (v := 853) hx hb dX8_longestRow_22 (by decide) ?_
        refine lv_iload hx hb dX8_longestRow_25 (lv_at hl 4 rfl) ?_
        refine lv_iadd hx hb dX8_longestRow_27 ?_
        obtain ⟨h7, hf⟩ := gd_some hf
        refine m_iald hx hb hK hH 1 (by decide) (by decide) rfl h7 dX8_longestRow_28 ?_
        refine lv_iload_n hx hb dX8_longestRow_29 rfl (lv_at hl 1 rfl) ?_
        have hg := gif hf
        refine lv_icmp_ne (tgt := 39) hx hb dX8_longestRow_30 (by decide) (fun c8 => ?_) (fun c8 => ?_)
        · have hf := hg.2 c8
          refine lv_iconst (v := 0) hx hb dX8_longestRow_39 (by decide) ?_
          exact B40 _ (ih) _ _ _ _ _ _ hH hS (lv_sub hl [0, 1, 2, 4] rfl) hf
        · have hf := hg.1 c8
          refine lv_iload_n hx hb dX8_longestRow_33 rfl (lv_at hl 3 rfl) ?_
          refine lv_iconst (v := 1) hx hb dX8_longestRow_34 (by decide) ?_
          refine lv_iadd hx hb dX8_longestRow_35 ?_
          refine lv_goto (tgt := 40) hx hb dX8_longestRow_36 (by decide) ?_
          exact B40 _ (ih) _ _ _ _ _ _ hH hS (lv_sub hl [0, 1, 2, 4] rfl) hf
  have hl : lv_has ls 5 [(0, .ref w.2.2.2), (1, .int p0)] := hl
  refine lv_iconst (v := 0) hx hb dX8_longestRow_0 (by decide) ?_
  refine lv_istore_n (lv' := [(2, .int 0), (0, .ref w.2.2.2), (1, .int p0)]) hx hb dX8_longestRow_1 rfl hl (by decide) rfl (fun ls hl => ?_)
  refine lv_iconst (v := 0) hx hb dX8_longestRow_2 (by decide) ?_
  refine lv_istore_n (lv' := [(3, .int 0), (2, .int 0), (0, .ref w.2.2.2), (1, .int p0)]) hx hb dX8_longestRow_3 rfl hl (by decide) rfl (fun ls hl => ?_)
  refine lv_iconst (v := 0) hx hb dX8_longestRow_4 (by decide) ?_
  refine lv_istore (lv' := [(4, .int 0), (3, .int 0), (2, .int 0), (0, .ref w.2.2.2), (1, .int p0)]) hx hb dX8_longestRow_5 hl (by decide) rfl (fun ls hl => ?_)
  exact B7 _ _ _ _ _ _ _ hH hS (lv_sub hl [3, 4, 2, 1, 0] rfl) hf
set_option maxRecDepth 100000 in
set_option maxHeartbeats 8000000 in
theorem c8_nested (l : Launch) (w : GW) (K : GK) (g : GM) (S : GS) (p0 : Int32) (out : Int32) (hf : f8_nested S p0 = some out) : Met l yX8_nested (wA yX8_nested cX8_nested 5 (some .int)) ({ frames := 1, cells := 0, slots := 0, locals := 22 } : Room) (PRE w K g S [.ref w.2.2.2, .int p0]) (QI w K g S out) 0 0 (FR w) := by
  unfold f8_nested at hf
  refine Met.ofW (cc := cX8_nested) (maxL := 5) (ret := (some .int)) (by decide) rfl ?_
  intro p e s m args below meth c s₁ B hml hv
  obtain ⟨rfl, hH, hK⟩ := hv
  have hx := B.exec
  have hb := B.bytes
  have hr := B.returns
  have hts : ∀ q ∈ gALL, q.before _ s = true := fun q h => atoms_spec (ws := (wA yX8_nested cX8_nested 5 (some .int))) B.pre q (List.mem_cons_of_mem _ h)
  have hown : s.vm.findClass RX8 = some m.cls := findClass_of_methodNamed B.named
  have hlocks := B.notSynchronized
  have hS : va_S (FR w) s.heap s.heap [] := va_S.rf
  show W p l e ({ frames := 1, cells := 0, slots := 0, locals := 22 } : Room) s m _ below meth c s.heap [] 0 0 (MQ below (QI w K g S out) _ s 0 0 (FR w)) _
  have hl := lv_entry ([.ref w.2.2.2, .int p0]) (n := 5) (Nat.le_of_ble_eq_true rfl)
  rw [lg_entry_eq]
  generalize (lg_sl ([.ref w.2.2.2, .int p0]) ++ List.replicate (5 - (lg_sl ([.ref w.2.2.2, .int p0])).length) Slot.unset).toArray = ls at hl ⊢
  clear B
  generalize ([.ref w.2.2.2, .int p0] : List Value).toArray = args at hts ⊢
  have B67 : ∀ (k7 : Int32 → Int32 → Int32 → Option (Int32)), (∀ (x2 : Int32) (x3 : Int32) (x4 : Int32) (H : Heap) (locs : List Loc) (ls : Array Slot), HR w K g S H → va_S (FR w) s.heap H locs → lv_has ls 5 [(0, .ref w.2.2.2), (1, .int p0), (2, .int x2), (3, .int x3), (4, .int x4)] → k7 x2 x3 x4 = some out → W p l e ({ frames := 1, cells := 0, slots := 0, locals := 22 } : Room) s m args below meth c H locs 0 0 (MQ below (QI w K g S out) args s 0 0 (FR w)) (F0 m 7 ls [])) → ∀ (x2 : Int32) (x4 : Int32) (s0 : Int32) (H : Heap) (locs : List Loc) (ls : Array Slot), HR w K g S H → va_S (FR w) s.heap H locs → lv_has ls 5 [(0, .ref w.2.2.2), (1, .int p0), (2, .int x2), (4, .int x4)] → f8_nested_67 k7 S p0 x2 x4 s0 = some out → W p l e ({ frames := 1, cells := 0, slots := 0, locals := 22 } : Room) s m args below meth c H locs 0 0 (MQ below (QI w K g S out) args s 0 0 (FR w)) (F0 m 67 ls [.int s0]) := by
    intro k7 hk7 x2 x4 s0 H locs ls hH hS hl hf
    unfold f8_nested_67 at hf
    refine lv_istore_n (lv' := [(3, .int s0), (0, .ref w.2.2.2), (1, .int p0), (2, .int x2), (4, .int x4)]) hx hb dX8_nested_67 rfl hl (by decide) rfl (fun ls hl => ?_)
    obtain ⟨v1, ev1⟩ : ∃ z : Int32, z = x4 + 1 := ⟨_, rfl⟩
    have hf := gl_at hf ev1
    refine lv_iinc (v := v1) (lv' := [(4, .int v1), (3, .int s0), (0, .ref w.2.2.2), (1, .int p0), (2, .int x2)]) hx hb dX8_nested_68 hl (k := 4) rfl (by rw [ev1]; rfl) (by decide) rfl (fun ls hl => ?_)
    refine lv_goto (tgt := 7) hx hb dX8_nested_71 (by decide) ?_
    exact hk7 _ _ _ _ _ _ hH hS (lv_sub hl [2, 3, 4, 1, 0] rfl) hf
  have B55 : ∀ (k7 : Int32 → Int32 → Int32 → Option (Int32)), (∀ (x2 : Int32) (x3 : Int32) (x4 : Int32) (H : Heap) (locs : List Loc) (ls : Array Slot), HR w K g S H → va_S (FR w) s.heap H locs → lv_has ls 5 [(0, .ref w.2.2.2), (1, .int p0), (2, .int x2), (3, .int x3), (4, .int x4)] → k7 x2 x3 x4 = some out → W p l e ({ frames := 1, cells := 0, slots := 0, locals := 22 } : Room) s m args below meth c H locs 0 0 (MQ below (QI w K g S out) args s 0 0 (FR w)) (F0 m 7 ls [])) → ∀ (x3 : Int32) (x4 : Int32) (s0 : Int32) (s1 : Int32) (H : Heap) (locs : List Loc) (ls : Array Slot), HR w K g S H → va_S (FR w) s.heap H locs → lv_has ls 5 [(0, .ref w.2.2.2), (1, .int p0), (3, .int x3), (4, .int x4)] → f8_nested_55 k7 S p0 x3 x4 s0 s1 = some out → W p l e ({ frames := 1, cells := 0, slots := 0, locals := 22 } : Room) s m args below meth c H locs 0 0 (MQ below (QI w K g S out) args s 0 0 (FR w)) (F0 m 55 ls [.int s1, .int s0]) := by
    intro k7 hk7 x3 x4 s0 s1 H locs ls hH hS hl hf
    unfold f8_nested_55 at hf
    refine lv_iadd hx hb dX8_nested_55 ?_
    refine lv_topi (fun v2 ev2 => ?_)
    have hf := gl_at hf ev2
    refine lv_istore_n (lv' := [(2, .int v2), (0, .ref w.2.2.2), (1, .int p0), (3, .int x3), (4, .int x4)]) hx hb dX8_nested_56 rfl hl (by decide) rfl (fun ls hl => ?_)
    refine lv_iload_n hx hb dX8_nested_57 rfl (lv_at hl 0 rfl) ?_
    refine lv_iload_n hx hb dX8_nested_58 rfl (lv_at hl 3 rfl) ?_
    have hg := gif hf
    refine lv_icmp_le (tgt := 66) hx hb dX8_nested_59 (by decide) (fun c3 => ?_) (fun c3 => ?_)
    · have hf := hg.1 c3
      refine lv_iload_n hx hb dX8_nested_66 rfl (lv_at hl 3 rfl) ?_
      exact B67 _ (hk7) _ _ _ _ _ _ hH hS (lv_sub hl [1, 2, 0, 4] rfl) hf
    · have hf := hg.2 c3
      refine lv_iload_n hx hb dX8_nested_62 rfl (lv_at hl 0 rfl) ?_
      refine lv_goto (tgt := 67) hx hb dX8_nested_63 (by decide) ?_
      exact B67 _ (hk7) _ _ _ _ _ _ hH hS (lv_sub hl [1, 2, 0, 4] rfl) hf
  have B7 : ∀ n : Nat, ∀ (x2 : Int32) (x3 : Int32) (x4 : Int32) (H : Heap) (locs : List Loc) (ls : Array Slot), HR w K g S H → va_S (FR w) s.heap H locs → lv_has ls 5 [(0, .ref w.2.2.2), (1, .int p0), (2, .int x2), (3, .int x3), (4, .int x4)] → f8_nested_7 S p0 n x2 x3 x4 = some out → W p l e ({ frames := 1, cells := 0, slots := 0, locals := 22 } : Room) s m args below meth c H locs 0 0 (MQ below (QI w K g S out) args s 0 0 (FR w)) (F0 m 7 ls []) := by
    intro n
    induction n with
    | zero =>
      intro x2 x3 x4 H locs ls hH hS hl hf
      cases hf
    | succ n ih =>
      intro x2 x3 x4 H locs ls hH hS hl hf
      rw [f8_nested_7] at hf
      refine lv_iload hx hb dX8_nested_7 (lv_at hl 4 rfl) ?_
      refine lv_aload_n hx hb dX8_nested_9 rfl (lv_at hl 0 rfl) ?_
      refine e_8_0 hx hb hts hown hK hH (hts _ wd_101) dX8_nested_10 ?_
      refine lv_bipush (v := 43) hx hb dX8_nested_13 (by decide) ?_
      refine lv_iload_n hx hb dX8_nested_15 rfl (lv_at hl 1 rfl) ?_
      refine lv_iadd hx hb dX8_nested_16 ?_
      obtain ⟨h5, hf⟩ := gd_some hf
      refine m_iald hx hb hK hH 1 (by decide) (by decide) rfl h5 dX8_nested_17 ?_
      have hg := gif hf
      refine lv_icmp_ge (tgt := 74) hx hb dX8_nested_18 (by decide) (fun c6 => ?_) (fun c6 => ?_)
      · have hf := hg.1 c6
        refine lv_iload_n hx hb dX8_nested_74 rfl (lv_at hl 3 rfl) ?_
        have ho := Option.some.inj hf
        exact W.iret (v := x3) hx hb hr (fun t ht hW => ⟨⟨x3, (), rfl, ho, hrE ht hH⟩, hS.F ht⟩) hS.2.2 dX8_nested_75
      · have hf := hg.2 c6
        refine lv_iload_n hx hb dX8_nested_21 rfl (lv_at hl 2 rfl) ?_
        refine lv_aload_n hx hb dX8_nested_22 rfl (lv_at hl 0 rfl) ?_
        refine lv_iload_n hx hb dX8_nested_23 rfl (lv_at hl 1 rfl) ?_
        refine lv_iload hx hb dX8_nested_24 (lv_at hl 4 rfl) ?_
        obtain ⟨v7, h8, hf⟩ := gbind hf
        refine g_Vi (As := [.int p0, .int x4]) (rest := [.int x2]) ⟨hx, hb, hml, hown, hts⟩ (c8_textAt l w K g S p0 x4 v7 h8) (gcwV hts i8_textAt wd_293 rfl rfl ⟨Nat.le_of_ble_eq_true rfl, Nat.le_of_ble_eq_true rfl⟩) (gRecv.of hK rfl hH.ob) hH hK hS hl.1 rfl rfl (Nat.le_of_ble_eq_true rfl) dX8_nested_26 ⟨Nat.le_refl _, Nat.le_refl _⟩ (fun H locs hH hS => ?_)
        refine lv_bipush (v := 40) hx hb dX8_nested_29 (by decide) ?_
        have hg := gif hf
        refine lv_icmp_ne (tgt := 38) hx hb dX8_nested_31 (by decide) (fun c9 => ?_) (fun c9 => ?_)
        · have hf := hg.2 c9
          refine lv_aload_n hx hb dX8_nested_38 rfl (lv_at hl 0 rfl) ?_
          refine lv_iload_n hx hb dX8_nested_39 rfl (lv_at hl 1 rfl) ?_
          refine lv_iload hx hb dX8_nested_40 (lv_at hl 4 rfl) ?_
          obtain ⟨v10, h11, hf⟩ := gbind hf
          refine g_Vi (As := [.int p0, .int x4]) (rest := [.int x2]) ⟨hx, hb, hml, hown, hts⟩ (c8_textAt l w K g S p0 x4 v10 h11) (gcwV hts i8_textAt wd_293 rfl rfl ⟨Nat.le_of_ble_eq_true rfl, Nat.le_of_ble_eq_true rfl⟩) (gRecv.of hK rfl hH.ob) hH hK hS hl.1 rfl rfl (Nat.le_of_ble_eq_true rfl) dX8_nested_42 ⟨Nat.le_refl _, Nat.le_refl _⟩ (fun H locs hH hS => ?_)
          refine lv_bipush (v := 41) hx hb dX8_nested_45 (by decide) ?_
          have hg := gif hf
          refine lv_icmp_ne (tgt := 54) hx hb dX8_nested_47 (by decide) (fun c12 => ?_) (fun c12 => ?_)
          · have hf := hg.2 c12
            refine lv_iconst (v := 0) hx hb dX8_nested_54 (by decide) ?_
            exact B55 _ (ih) _ _ _ _ _ _ _ hH hS (lv_sub hl [0, 1, 3, 4] rfl) hf
          · have hf := hg.1 c12
            refine lv_iconst (v := (-1)) hx hb dX8_nested_50 (by decide) ?_
            refine lv_goto (tgt := 55) hx hb dX8_nested_51 (by decide) ?_
            exact B55 _ (ih) _ _ _ _ _ _ _ hH hS (lv_sub hl [0, 1, 3, 4] rfl) hf
        · have hf := hg.1 c9
          refine lv_iconst (v := 1) hx hb dX8_nested_34 (by decide) ?_
          refine lv_goto (tgt := 55) hx hb dX8_nested_35 (by decide) ?_
          exact B55 _ (ih) _ _ _ _ _ _ _ hH hS (lv_sub hl [0, 1, 3, 4] rfl) hf
  have hl : lv_has ls 5 [(0, .ref w.2.2.2), (1, .int p0)] := hl
  refine lv_iconst (v := 0) hx hb dX8_nested_0 (by decide) ?_
  refine lv_istore_n (lv' := [(2, .int 0), (0, .ref w.2.2.2), (1, .int p0)]) hx hb dX8_nested_1 rfl hl (by decide) rfl (fun ls hl => ?_)
  refine lv_iconst (v := 0) hx hb dX8_nested_2 (by decide) ?_
  refine lv_istore_n (lv' := [(3, .int 0), (2, .int 0), (0, .ref w.2.2.2), (1, .int p0)]) hx hb dX8_nested_3 rfl hl (by decide) rfl (fun ls hl => ?_)
  refine lv_iconst (v := 0) hx hb dX8_nested_4 (by decide) ?_
  refine lv_istore (lv' := [(4, .int 0), (3, .int 0), (2, .int 0), (0, .ref w.2.2.2), (1, .int p0)]) hx hb dX8_nested_5 hl (by decide) rfl (fun ls hl => ?_)
  exact B7 _ _ _ _ _ _ _ hH hS (lv_sub hl [3, 4, 2, 1, 0] rfl) hf
set_option maxRecDepth 100000 in
set_option maxHeartbeats 8000000 in
theorem c8_timesOnStack (l : Launch) (w : GW) (K : GK) (g : GM) (S : GS) (p0 : Int32) (out : Int32) (hf : f8_timesOnStack S p0 = some out) : Met l yX8_timesOnStack (wA yX8_timesOnStack cX8_timesOnStack 4 (some .int)) ({ frames := 1, cells := 0, slots := 0, locals := 21 } : Room) (PRE w K g S [.ref w.2.2.2, .int p0]) (QI w K g S out) 0 0 (FR w) := by
  unfold f8_timesOnStack at hf
  refine Met.ofW (cc := cX8_timesOnStack) (maxL := 4) (ret := (some .int)) (by decide) rfl ?_
  intro p e s m args below meth c s₁ B hml hv
  obtain ⟨rfl, hH, hK⟩ := hv
  have hx := B.exec
  have hb := B.bytes
  have hr := B.returns
  have hts : ∀ q ∈ gALL, q.before _ s = true := fun q h => atoms_spec (ws := (wA yX8_timesOnStack cX8_timesOnStack 4 (some .int))) B.pre q (List.mem_cons_of_mem _ h)
  have hown : s.vm.findClass RX8 = some m.cls := findClass_of_methodNamed B.named
  have hlocks := B.notSynchronized
  have hS : va_S (FR w) s.heap s.heap [] := va_S.rf
  show W p l e ({ frames := 1, cells := 0, slots := 0, locals := 21 } : Room) s m _ below meth c s.heap [] 0 0 (MQ below (QI w K g S out) _ s 0 0 (FR w)) _
  have hl := lv_entry ([.ref w.2.2.2, .int p0]) (n := 4) (Nat.le_of_ble_eq_true rfl)
  rw [lg_entry_eq]
  generalize (lg_sl ([.ref w.2.2.2, .int p0]) ++ List.replicate (4 - (lg_sl ([.ref w.2.2.2, .int p0])).length) Slot.unset).toArray = ls at hl ⊢
  clear B
  generalize ([.ref w.2.2.2, .int p0] : List Value).toArray = args at hts ⊢
  have B36 : ∀ (k4 : Int32 → Int32 → Option (Int32)), (∀ (x2 : Int32) (x3 : Int32) (H : Heap) (locs : List Loc) (ls : Array Slot), HR w K g S H → va_S (FR w) s.heap H locs → lv_has ls 4 [(0, .ref w.2.2.2), (1, .int p0), (2, .int x2), (3, .int x3)] → k4 x2 x3 = some out → W p l e ({ frames := 1, cells := 0, slots := 0, locals := 21 } : Room) s m args below meth c H locs 0 0 (MQ below (QI w K g S out) args s 0 0 (FR w)) (F0 m 4 ls [])) → ∀ (x3 : Int32) (s0 : Int32) (s1 : Int32) (H : Heap) (locs : List Loc) (ls : Array Slot), HR w K g S H → va_S (FR w) s.heap H locs → lv_has ls 4 [(0, .ref w.2.2.2), (1, .int p0), (3, .int x3)] → f8_timesOnStack_36 k4 S p0 x3 s0 s1 = some out → W p l e ({ frames := 1, cells := 0, slots := 0, locals := 21 } : Room) s m args below meth c H locs 0 0 (MQ below (QI w K g S out) args s 0 0 (FR w)) (F0 m 36 ls [.int s1, .int s0]) := by
    intro k4 hk4 x3 s0 s1 H locs ls hH hS hl hf
    unfold f8_timesOnStack_36 at hf
    refine lv_iadd hx hb dX8_timesOnStack_36 ?_
    refine lv_topi (fun v1 ev1 => ?_)
    have hf := gl_at hf ev1
    refine lv_istore_n (lv' := [(2, .int v1), (0, .ref w.2.2.2), (1, .int p0), (3, .int x3)]) hx hb dX8_timesOnStack_37 rfl hl (by decide) rfl (fun ls hl => ?_)
    obtain ⟨v2, ev2⟩ : ∃ z : Int32, z = x3 + 1 := ⟨_, rfl⟩
    have hf := gl_at hf ev2
    refine lv_iinc (v := v2) (lv' := [(3, .int v2), (2, .int v1), (0, .ref w.2.2.2), (1, .int p0)]) hx hb dX8_timesOnStack_38 hl (k := 3) rfl (by rw [ev2]; rfl) (by decide) rfl (fun ls hl => ?_)
    refine lv_goto (tgt := 4) hx hb dX8_timesOnStack_41 (by decide) ?_
    exact hk4 _ _ _ _ _ hH hS (lv_sub hl [2, 3, 1, 0] rfl) hf
  have B4 : ∀ n : Nat, ∀ (x2 : Int32) (x3 : Int32) (H : Heap) (locs : List Loc) (ls : Array Slot), HR w K g S H → va_S (FR w) s.heap H locs → lv_has ls 4 [(0, .ref w.2.2.2), (1, .int p0), (2, .int x2), (3, .int x3)] → f8_timesOnStack_4 S p0 n x2 x3 = some out → W p l e ({ frames := 1, cells := 0, slots := 0, locals := 21 } : Room) s m args below meth c H locs 0 0 (MQ below (QI w K g S out) args s 0 0 (FR w)) (F0 m 4 ls []) := by
    intro n
    induction n with
    | zero =>
      intro x2 x3 H locs ls hH hS hl hf
      cases hf
    | succ n ih =>
      intro x2 x3 H locs ls hH hS hl hf
      rw [f8_timesOnStack_4] at hf
      refine lv_iload_n hx hb dX8_timesOnStack_4 rfl (lv_at hl 3 rfl) ?_
      refine lv_aload_n hx hb dX8_timesOnStack_5 rfl (lv_at hl 0 rfl) ?_
      refine e_8_0 hx hb hts hown hK hH (hts _ wd_101) dX8_timesOnStack_6 ?_
      refine lv_iconst (v := 3) hx hb dX8_timesOnStack_9 (by decide) ?_
      obtain ⟨h4, hf⟩ := gd_some hf
      refine m_iald hx hb hK hH 1 (by decide) (by decide) rfl h4 dX8_timesOnStack_10 ?_
      have hg := gif hf
      refine lv_icmp_ge (tgt := 44) hx hb dX8_timesOnStack_11 (by decide) (fun c5 => ?_) (fun c5 => ?_)
      · have hf := hg.1 c5
        refine lv_iload_n hx hb dX8_timesOnStack_44 rfl (lv_at hl 2 rfl) ?_
        have ho := Option.some.inj hf
        exact W.iret (v := x2) hx hb hr (fun t ht hW => ⟨⟨x2, (), rfl, ho, hrE ht hH⟩, hS.F ht⟩) hS.2.2 dX8_timesOnStack_45
      · have hf := hg.2 c5
        refine lv_iload_n hx hb dX8_timesOnStack_14 rfl (lv_at hl 2 rfl) ?_
        refine lv_aload_n hx hb dX8_timesOnStack_15 rfl (lv_at hl 0 rfl) ?_
        refine e_8_0 hx hb hts hown hK hH (hts _ wd_101) dX8_timesOnStack_16 ?_
        refine lv_aload_n hx hb dX8_timesOnStack_19 rfl (lv_at hl 0 rfl) ?_
        refine lv_iload_n hx hb dX8_timesOnStack_20 rfl (lv_at hl 3 rfl) ?_
        obtain ⟨v6, h7, hf⟩ := gbind hf
        refine g_Vi (As := [.int x3]) (rest := [.ref (w.2.2.2 + 1), .int x2]) ⟨hx, hb, hml, hown, hts⟩ (c8_frame l w K g S x3 v6 h7) (gcwV hts i8_frame wd_364 rfl rfl ⟨Nat.le_of_ble_eq_true rfl, Nat.le_of_ble_eq_true rfl⟩) (gRecv.of hK rfl hH.ob) hH hK hS hl.1 rfl rfl (Nat.le_of_ble_eq_true rfl) dX8_timesOnStack_21 ⟨Nat.le_refl _, Nat.le_refl _⟩ (fun H locs hH hS => ?_)
        refine lv_iconst (v := 0) hx hb dX8_timesOnStack_24 (by decide) ?_
        refine lv_iadd hx hb dX8_timesOnStack_25 ?_
        obtain ⟨h9, hf⟩ := gd_some hf
        refine m_iald hx hb hK hH 1 (by decide) (by decide) rfl h9 dX8_timesOnStack_26 ?_
        refine lv_iload_n hx hb dX8_timesOnStack_27 rfl (lv_at hl 1 rfl) ?_
        have hg := gif hf
        refine lv_icmp_ne (tgt := 35) hx hb dX8_timesOnStack_28 (by decide) (fun c10 => ?_) (fun c10 => ?_)
        · have hf := hg.2 c10
          refine lv_iconst (v := 0) hx hb dX8_timesOnStack_35 (by decide) ?_
          exact B36 _ (ih) _ _ _ _ _ _ hH hS (lv_sub hl [0, 1, 3] rfl) hf
        · have hf := hg.1 c10
          refine lv_iconst (v := 1) hx hb dX8_timesOnStack_31 (by decide) ?_
          refine lv_goto (tgt := 36) hx hb dX8_timesOnStack_32 (by decide) ?_
          exact B36 _ (ih) _ _ _ _ _ _ hH hS (lv_sub hl [0, 1, 3] rfl) hf
  have hl : lv_has ls 4 [(0, .ref w.2.2.2), (1, .int p0)] := hl
  refine lv_iconst (v := 0) hx hb dX8_timesOnStack_0 (by decide) ?_
  refine lv_istore_n (lv' := [(2, .int 0), (0, .ref w.2.2.2), (1, .int p0)]) hx hb dX8_timesOnStack_1 rfl hl (by decide) rfl (fun ls hl => ?_)
  refine lv_iconst (v := 0) hx hb dX8_timesOnStack_2 (by decide) ?_
  refine lv_istore_n (lv' := [(3, .int 0), (2, .int 0), (0, .ref w.2.2.2), (1, .int p0)]) hx hb dX8_timesOnStack_3 rfl hl (by decide) rfl (fun ls hl => ?_)
  exact B4 _ _ _ _ _ _ hH hS (lv_sub hl [2, 3, 1, 0] rfl) hf
set_option maxRecDepth 100000 in
set_option maxHeartbeats 8000000 in
theorem c8_of (l : Launch) (w : GW) (K : GK) (g : GM) (S : GS) (p0 : Int32) (p1 : Int32) (out : Int32) (hf : f8_of S p0 p1 = some out) : Met l yX8_of (wA yX8_of cX8_of 3 (some .int)) ({ frames := 3, cells := 0, slots := 0, locals := 68 } : Room) (PRE w K g S [.ref w.2.2.2, .int p0, .int p1]) (QI w K g S out) 0 0 (FR w) := by
  unfold f8_of at hf
  refine Met.ofW (cc := cX8_of) (maxL := 3) (ret := (some .int)) (by decide) rfl ?_
  intro p e s m args below meth c s₁ B hml hv
  obtain ⟨rfl, hH, hK⟩ := hv
  have hx := B.exec
  have hb := B.bytes
  have hr := B.returns
  have hts : ∀ q ∈ gALL, q.before _ s = true := fun q h => atoms_spec (ws := (wA yX8_of cX8_of 3 (some .int))) B.pre q (List.mem_cons_of_mem _ h)
  have hown : s.vm.findClass RX8 = some m.cls := findClass_of_methodNamed B.named
  have hlocks := B.notSynchronized
  have hS : va_S (FR w) s.heap s.heap [] := va_S.rf
  show W p l e ({ frames := 3, cells := 0, slots := 0, locals := 68 } : Room) s m _ below meth c s.heap [] 0 0 (MQ below (QI w K g S out) _ s 0 0 (FR w)) _
  have hl := lv_entry ([.ref w.2.2.2, .int p0, .int p1]) (n := 3) (Nat.le_of_ble_eq_true rfl)
  rw [lg_entry_eq]
  generalize (lg_sl ([.ref w.2.2.2, .int p0, .int p1]) ++ List.replicate (3 - (lg_sl ([.ref w.2.2.2, .int p0, .int p1])).length) Slot.unset).toArray = ls at hl ⊢
  clear B
  generalize ([.ref w.2.2.2, .int p0, .int p1] : List Value).toArray = args at hts ⊢
  have hl : lv_has ls 3 [(0, .ref w.2.2.2), (1, .int p0), (2, .int p1)] := hl
  refine lv_iload_n hx hb dX8_of_0 rfl (lv_at hl 1 rfl) ?_
  obtain ⟨v1, h2, hf⟩ := gbind hf
  refine g_Si (As := [.int p0]) (rest := []) ⟨hx, hb, hml, hown, hts⟩ (c8_isCard l w K g S p0 v1 h2) (gcwS hts i8_isCard wd_264 rfl rfl ⟨Nat.le_of_ble_eq_true rfl, Nat.le_of_ble_eq_true rfl⟩) hH hK hS hl.1 rfl rfl (Nat.le_of_ble_eq_true rfl) dX8_of_1 ⟨Nat.le_refl _, Nat.le_refl _⟩ (fun H locs hH hS => ?_)
  have hg := gif hf
  refine lv_if_ne (tgt := 9) hx hb dX8_of_4 (by decide) (fun c3 => ?_) (fun c3 => ?_)
  · have hf := hg.2 c3
    refine lv_iload_n hx hb dX8_of_9 rfl (lv_at hl 2 rfl) ?_
    have hg := gif hf
    by_cases c4 : p1 = 0
    · have hf := hg.1 c4
      refine lv_tableIn (off := 42) (tgt := 52) hx hb dX8_of_10 (by rw [c4]; decide) (by rw [c4]; decide) (by rw [c4]; decide +kernel) (by decide) ?_
      refine lv_aload_n hx hb dX8_of_52 rfl (lv_at hl 0 rfl) ?_
      refine e_8_0 hx hb hts hown hK hH (hts _ wd_101) dX8_of_53 ?_
      refine lv_bipush (v := 43) hx hb dX8_of_56 (by decide) ?_
      refine lv_iload_n hx hb dX8_of_58 rfl (lv_at hl 1 rfl) ?_
      refine lv_iadd hx hb dX8_of_59 ?_
      obtain ⟨h6, hf⟩ := gd_some hf
      refine m_iald hx hb hK hH 1 (by decide) (by decide) rfl h6 dX8_of_60 ?_
      have ho := Option.some.inj hf
      exact W.iret (v := (S 1 (43 + p0).toNatClampNeg)) hx hb hr (fun t ht hW => ⟨⟨(S 1 (43 + p0).toNatClampNeg), (), rfl, ho, hrE ht hH⟩, hS.F ht⟩) hS.2.2 dX8_of_61
    have hf := hg.2 c4
    have hg := gif hf
    by_cases c7 : p1 = 1
    · have hf := hg.1 c7
      refine lv_tableIn (off := 52) (tgt := 62) hx hb dX8_of_10 (by rw [c7]; decide) (by rw [c7]; decide) (by rw [c7]; decide +kernel) (by decide) ?_
      refine lv_aload_n hx hb dX8_of_62 rfl (lv_at hl 0 rfl) ?_
      refine lv_iload_n hx hb dX8_of_63 rfl (lv_at hl 1 rfl) ?_
      obtain ⟨v8, h9, hf⟩ := gbind hf
      refine g_Vi (As := [.int p0]) (rest := []) ⟨hx, hb, hml, hown, hts⟩ (c8_steps l w K g S p0 v8 h9) (gcwV hts i8_steps wd_289 rfl rfl ⟨Nat.le_of_ble_eq_true rfl, Nat.le_of_ble_eq_true rfl⟩) (gRecv.of hK rfl hH.ob) hH hK hS hl.1 rfl rfl (Nat.le_of_ble_eq_true rfl) dX8_of_64 ⟨Nat.le_refl _, Nat.le_refl _⟩ (fun H locs hH hS => ?_)
      have ho := Option.some.inj hf
      exact W.iret (v := v8) hx hb hr (fun t ht hW => ⟨⟨v8, (), rfl, ho, hrE ht hH⟩, hS.F ht⟩) hS.2.2 dX8_of_67
    have hf := hg.2 c7
    have hg := gif hf
    by_cases c10 : p1 = 2
    · have hf := hg.1 c10
      refine lv_tableIn (off := 58) (tgt := 68) hx hb dX8_of_10 (by rw [c10]; decide) (by rw [c10]; decide) (by rw [c10]; decide +kernel) (by decide) ?_
      refine lv_aload_n hx hb dX8_of_68 rfl (lv_at hl 0 rfl) ?_
      refine lv_iload_n hx hb dX8_of_69 rfl (lv_at hl 1 rfl) ?_
      obtain ⟨v11, h12, hf⟩ := gbind hf
      refine g_Vi (As := [.int p0]) (rest := []) ⟨hx, hb, hml, hown, hts⟩ (c8_calls l w K g S p0 v11 h12) (gcwV hts i8_calls wd_326 rfl rfl ⟨Nat.le_of_ble_eq_true rfl, Nat.le_of_ble_eq_true rfl⟩) (gRecv.of hK rfl hH.ob) hH hK hS hl.1 rfl rfl (Nat.le_of_ble_eq_true rfl) dX8_of_70 ⟨Nat.le_refl _, Nat.le_refl _⟩ (fun H locs hH hS => ?_)
      have ho := Option.some.inj hf
      exact W.iret (v := v11) hx hb hr (fun t ht hW => ⟨⟨v11, (), rfl, ho, hrE ht hH⟩, hS.F ht⟩) hS.2.2 dX8_of_73
    have hf := hg.2 c10
    have hg := gif hf
    by_cases c13 : p1 = 3
    · have hf := hg.1 c13
      refine lv_tableIn (off := 64) (tgt := 74) hx hb dX8_of_10 (by rw [c13]; decide) (by rw [c13]; decide) (by rw [c13]; decide +kernel) (by decide) ?_
      refine lv_aload_n hx hb dX8_of_74 rfl (lv_at hl 0 rfl) ?_
      refine lv_iload_n hx hb dX8_of_75 rfl (lv_at hl 1 rfl) ?_
      obtain ⟨v14, h15, hf⟩ := gbind hf
      refine g_Vi (As := [.int p0]) (rest := []) ⟨hx, hb, hml, hown, hts⟩ (c8_callers l w K g S p0 v14 h15) (gcwV hts i8_callers wd_322 rfl rfl ⟨Nat.le_of_ble_eq_true rfl, Nat.le_of_ble_eq_true rfl⟩) (gRecv.of hK rfl hH.ob) hH hK hS hl.1 rfl rfl (Nat.le_of_ble_eq_true rfl) dX8_of_76 ⟨Nat.le_refl _, Nat.le_refl _⟩ (fun H locs hH hS => ?_)
      have ho := Option.some.inj hf
      exact W.iret (v := v14) hx hb hr (fun t ht hW => ⟨⟨v14, (), rfl, ho, hrE ht hH⟩, hS.F ht⟩) hS.2.2 dX8_of_79
    have hf := hg.2 c13
    have hg := gif hf
    by_cases c16 : p1 = 4
    · have hf := hg.1 c16
      refine lv_tableIn (off := 70) (tgt := 80) hx hb dX8_of_10 (by rw [c16]; decide) (by rw [c16]; decide) (by rw [c16]; decide +kernel) (by decide) ?_
      refine lv_aload_n hx hb dX8_of_80 rfl (lv_at hl 0 rfl) ?_
      refine e_8_0 hx hb hts hown hK hH (hts _ wd_101) dX8_of_81 ?_
      refine lv_bipush (v := 9) hx hb dX8_of_84 (by decide) ?_
      refine lv_iload_n hx hb dX8_of_86 rfl (lv_at hl 1 rfl) ?_
      refine lv_iadd hx hb dX8_of_87 ?_
      obtain ⟨h18, hf⟩ := gd_some hf
      refine m_iald hx hb hK hH 1 (by decide) (by decide) rfl h18 dX8_of_88 ?_
      have ho := Option.some.inj hf
      exact W.iret (v := (S 1 (9 + p0).toNatClampNeg)) hx hb hr (fun t ht hW => ⟨⟨(S 1 (9 + p0).toNatClampNeg), (), rfl, ho, hrE ht hH⟩, hS.F ht⟩) hS.2.2 dX8_of_89
    have hf := hg.2 c16
    have hg := gif hf
    by_cases c19 : p1 = 5
    · have hf := hg.1 c19
      refine lv_tableIn (off := 80) (tgt := 90) hx hb dX8_of_10 (by rw [c19]; decide) (by rw [c19]; decide) (by rw [c19]; decide +kernel) (by decide) ?_
      refine lv_aload_n hx hb dX8_of_90 rfl (lv_at hl 0 rfl) ?_
      refine lv_iload_n hx hb dX8_of_91 rfl (lv_at hl 1 rfl) ?_
      obtain ⟨v20, h21, hf⟩ := gbind hf
      refine g_Vi (As := [.int p0]) (rest := []) ⟨hx, hb, hml, hown, hts⟩ (c8_timesOnStack l w K g S p0 v20 h21) (gcwV hts i8_timesOnStack wd_581 rfl rfl ⟨Nat.le_of_ble_eq_true rfl, Nat.le_of_ble_eq_true rfl⟩) (gRecv.of hK rfl hH.ob) hH hK hS hl.1 rfl rfl (Nat.le_of_ble_eq_true rfl) dX8_of_92 ⟨Nat.le_refl _, Nat.le_refl _⟩ (fun H locs hH hS => ?_)
      have ho := Option.some.inj hf
      exact W.iret (v := v20) hx hb hr (fun t ht hW => ⟨⟨v20, (), rfl, ho, hrE ht hH⟩, hS.F ht⟩) hS.2.2 dX8_of_95
    have hf := hg.2 c19
    have hg := gif hf
    by_cases c22 : p1 = 6
    · have hf := hg.1 c22
      refine lv_tableIn (off := 86) (tgt := 96) hx hb dX8_of_10 (by rw [c22]; decide) (by rw [c22]; decide) (by rw [c22]; decide +kernel) (by decide) ?_
      refine lv_aload_n hx hb dX8_of_96 rfl (lv_at hl 0 rfl) ?_
      refine lv_iload_n hx hb dX8_of_97 rfl (lv_at hl 1 rfl) ?_
      obtain ⟨v23, h24, hf⟩ := gbind hf
      refine g_Vi (As := [.int p0]) (rest := []) ⟨hx, hb, hml, hown, hts⟩ (c8_nested l w K g S p0 v23 h24) (gcwV hts i8_nested wd_585 rfl rfl ⟨Nat.le_of_ble_eq_true rfl, Nat.le_of_ble_eq_true rfl⟩) (gRecv.of hK rfl hH.ob) hH hK hS hl.1 rfl rfl (Nat.le_of_ble_eq_true rfl) dX8_of_98 ⟨Nat.le_refl _, Nat.le_refl _⟩ (fun H locs hH hS => ?_)
      have ho := Option.some.inj hf
      exact W.iret (v := v23) hx hb hr (fun t ht hW => ⟨⟨v23, (), rfl, ho, hrE ht hH⟩, hS.F ht⟩) hS.2.2 dX8_of_101
    have hf := hg.2 c22
    have nc4 : p1.toInt ≠ 0 := g_ne c4 (by decide)
    have nc7 : p1.toInt ≠ 1 := g_ne c7 (by decide)
    have nc10 : p1.toInt ≠ 2 := g_ne c10 (by decide)
    have nc13 : p1.toInt ≠ 3 := g_ne c13 (by decide)
    have nc16 : p1.toInt ≠ 4 := g_ne c16 (by decide)
    have nc19 : p1.toInt ≠ 5 := g_ne c19 (by decide)
    have nc22 : p1.toInt ≠ 6 := g_ne c22 (by decide)
    refine lv_tableOut (tgt := 102) hx hb dX8_of_10 (by omega) (by decide) ?_
    refine lv_bipush (v := (-2)) hx hb dX8_of_102 (by decide) ?_
    have ho := Option.some.inj hf
    exact W.iret (v := (-2)) hx hb hr (fun t ht hW => ⟨⟨(-2), (), rfl, ho, hrE ht hH⟩, hS.F ht⟩) hS.2.2 dX8_of_104
  · have hf := hg.1 c3
    refine lv_iconst (v := (-1)) hx hb dX8_of_7 (by decide) ?_
    have ho := Option.some.inj hf
    exact W.iret (v := (-1)) hx hb hr (fun t ht hW => ⟨⟨(-1), (), rfl, ho, hrE ht hH⟩, hS.F ht⟩) hS.2.2 dX8_of_8
set_option maxRecDepth 100000 in
set_option maxHeartbeats 8000000 in
theorem c8_pick (l : Launch) (w : GW) (K : GK) (g : GM) (S : GS) (p0 : Int32) (out : Int32) (hf : f8_pick S p0 = some out) : Met l yX8_pick (wA yX8_pick cX8_pick 2 (some .int)) ({ frames := 1, cells := 0, slots := 0, locals := 22 } : Room) (PRE w K g S [.ref w.2.2.2, .int p0]) (QI w K g S out) 0 0 (FR w) := by
  unfold f8_pick at hf
  refine Met.ofW (cc := cX8_pick) (maxL := 2) (ret := (some .int)) (by decide) rfl ?_
  intro p e s m args below meth c s₁ B hml hv
  obtain ⟨rfl, hH, hK⟩ := hv
  have hx := B.exec
  have hb := B.bytes
  have hr := B.returns
  have hts : ∀ q ∈ gALL, q.before _ s = true := fun q h => atoms_spec (ws := (wA yX8_pick cX8_pick 2 (some .int))) B.pre q (List.mem_cons_of_mem _ h)
  have hown : s.vm.findClass RX8 = some m.cls := findClass_of_methodNamed B.named
  have hlocks := B.notSynchronized
  have hS : va_S (FR w) s.heap s.heap [] := va_S.rf
  show W p l e ({ frames := 1, cells := 0, slots := 0, locals := 22 } : Room) s m _ below meth c s.heap [] 0 0 (MQ below (QI w K g S out) _ s 0 0 (FR w)) _
  have hl := lv_entry ([.ref w.2.2.2, .int p0]) (n := 2) (Nat.le_of_ble_eq_true rfl)
  rw [lg_entry_eq]
  generalize (lg_sl ([.ref w.2.2.2, .int p0]) ++ List.replicate (2 - (lg_sl ([.ref w.2.2.2, .int p0])).length) Slot.unset).toArray = ls at hl ⊢
  clear B
  generalize ([.ref w.2.2.2, .int p0] : List Value).toArray = args at hts ⊢
  have hl : lv_has ls 2 [(0, .ref w.2.2.2), (1, .int p0)] := hl
  refine lv_iload_n hx hb dX8_pick_0 rfl (lv_at hl 1 rfl) ?_
  refine lv_iconst (v := 0) hx hb dX8_pick_1 (by decide) ?_
  refine lv_aload_n hx hb dX8_pick_2 rfl (lv_at hl 0 rfl) ?_
  refine e_8_0 hx hb hts hown hK hH (hts _ wd_101) dX8_pick_3 ?_
  refine lv_iconst (v := 4) hx hb dX8_pick_6 (by decide) ?_
  obtain ⟨h2, hf⟩ := gd_some hf
  refine m_iald hx hb hK hH 1 (by decide) (by decide) rfl h2 dX8_pick_7 ?_
  refine lv_iconst (v := 1) hx hb dX8_pick_8 (by decide) ?_
  refine lv_isub hx hb dX8_pick_9 ?_
  obtain ⟨v3, h4, hf⟩ := gbind hf
  refine g_Si (As := [.int p0, .int 0, .int ((S 1 (4 : Int32).toNatClampNeg) - 1)]) (rest := []) ⟨hx, hb, hml, hown, hts⟩ (c8_within l w K g S p0 0 ((S 1 (4 : Int32).toNatClampNeg) - 1) v3 h4) (gcwS hts i8_within wd_155 rfl rfl ⟨Nat.le_of_ble_eq_true rfl, Nat.le_of_ble_eq_true rfl⟩) hH hK hS hl.1 rfl rfl (Nat.le_of_ble_eq_true rfl) dX8_pick_10 ⟨Nat.le_refl _, Nat.le_refl _⟩ (fun H locs hH hS => ?_)
  have hg := gif hf
  refine lv_if_eq (tgt := 29) hx hb dX8_pick_13 (by decide) (fun c5 => ?_) (fun c5 => ?_)
  · have hf := hg.1 c5
    refine lv_iconst (v := (-1)) hx hb dX8_pick_29 (by decide) ?_
    have ho := Option.some.inj hf
    exact W.iret (v := (-1)) hx hb hr (fun t ht hW => ⟨⟨(-1), (), rfl, ho, hrE ht hH⟩, hS.F ht⟩) hS.2.2 dX8_pick_30
  · have hf := hg.2 c5
    refine lv_aload_n hx hb dX8_pick_16 rfl (lv_at hl 0 rfl) ?_
    refine e_8_0 hx hb hts hown hK hH (hts _ wd_101) dX8_pick_17 ?_
    refine lv_sipush (v := 853) hx hb dX8_pick_20 (by decide) ?_
    refine lv_iload_n hx hb dX8_pick_23 rfl (lv_at hl 1 rfl) ?_
    refine lv_iadd hx hb dX8_pick_24 ?_
    obtain ⟨h7, hf⟩ := gd_some hf
    refine m_iald hx hb hK hH 1 (by decide) (by decide) rfl h7 dX8_pick_25 ?_
    refine lv_goto (tgt := 30) hx hb dX8_pick_26 (by decide) ?_
    have ho := Option.some.inj hf
    exact W.iret (v := (S 1 (853 + p0).toNatClampNeg)) hx hb hr (fun t ht hW => ⟨⟨(S 1 (853 + p0).toNatClampNeg), (), rfl, ho, hrE ht hH⟩, hS.F ht⟩) hS.2.2 dX8_pick_30
set_option maxRecDepth 100000 in
set_option maxHeartbeats 8000000 in
theorem c8_tellsPicks (l : Launch) (w : GW) (K : GK) (g : GM) (S : GS) (p0 : Int32) (p1 : Int32) (out : GS × Int32) (hf : f8_tellsPicks S p0 p1 = some out) : Met l yX8_tellsPicks (wA yX8_tellsPicks cX8_tellsPicks 5 (some .int)) ({ frames := 5, cells := 0, slots := 0, locals := 118 } : Room) (PRE w K g S [.ref w.2.2.2, .int p0, .int p1]) (QI w K g out.1 out.2) 0 0 (FR w) := by
  unfold f8_tellsPicks at hf
  refine Met.ofW (cc := cX8_tellsPicks) (maxL := 5) (ret := (some .int)) (by decide) rfl ?_
  intro p e s m args below meth c s₁ B hml hv
  obtain ⟨rfl, hH, hK⟩ := hv
  have hx := B.exec
  have hb := B.bytes
  have hr := B.returns
  have hts : ∀ q ∈ gALL, q.before _ s = true := fun q h => atoms_spec (ws := (wA yX8_tellsPicks cX8_tellsPicks 5 (some .int))) B.pre q (List.mem_cons_of_mem _ h)
  have hown : s.vm.findClass RX8 = some m.cls := findClass_of_methodNamed B.named
  have hlocks := B.notSynchronized
  have hS : va_S (FR w) s.heap s.heap [] := va_S.rf
  show W p l e ({ frames := 5, cells := 0, slots := 0, locals := 118 } : Room) s m _ below meth c s.heap [] 0 0 (MQ below (QI w K g out.1 out.2) _ s 0 0 (FR w)) _
  have hl := lv_entry ([.ref w.2.2.2, .int p0, .int p1]) (n := 5) (Nat.le_of_ble_eq_true rfl)
  rw [lg_entry_eq]
  generalize (lg_sl ([.ref w.2.2.2, .int p0, .int p1]) ++ List.replicate (5 - (lg_sl ([.ref w.2.2.2, .int p0, .int p1])).length) Slot.unset).toArray = ls at hl ⊢
  clear B
  generalize ([.ref w.2.2.2, .int p0, .int p1] : List Value).toArray = args at hts ⊢
  have B45 : ∀ (k9 : GS → Int32 → Int32 → Option (GS × Int32)), (∀ (S : GS) (x3 : Int32) (x4 : Int32) (H : Heap) (locs : List Loc) (ls : Array Slot), HR w K g S H → va_S (FR w) s.heap H locs → lv_has ls 5 [(0, .ref w.2.2.2), (1, .int p0), (2, .int p1), (3, .int x3), (4, .int x4)] → k9 S x3 x4 = some out → W p l e ({ frames := 5, cells := 0, slots := 0, locals := 118 } : Room) s m args below meth c H locs 0 0 (MQ below (QI w K g out.1 out.2) args s 0 0 (FR w)) (F0 m 9 ls [])) → ∀ (S : GS) (x4 : Int32) (s0 : Int32) (s1 : Int32) (H : Heap) (locs : List Loc) (ls : Array Slot), HR w K g S H → va_S (FR w) s.heap H locs → lv_has ls 5 [(0, .ref w.2.2.2), (1, .int p0), (2, .int p1), (4, .int x4)] → f8_tellsPicks_45 k9 p0 p1 S x4 s0 s1 = some out → W p l e ({ frames := 5, cells := 0, slots := 0, locals := 118 } : Room) s m args below meth c H locs 0 0 (MQ below (QI w K g out.1 out.2) args s 0 0 (FR w)) (F0 m 45 ls [.int s1, .int s0]) := by
    intro k9 hk9 S x4 s0 s1 H locs ls hH hS hl hf
    unfold f8_tellsPicks_45 at hf
    refine lv_iadd hx hb dX8_tellsPicks_45 ?_
    refine lv_topi (fun v1 ev1 => ?_)
    have hf := gl_at hf ev1
    refine lv_istore_n (lv' := [(3, .int v1), (0, .ref w.2.2.2), (1, .int p0), (2, .int p1), (4, .int x4)]) hx hb dX8_tellsPicks_46 rfl hl (by decide) rfl (fun ls hl => ?_)
    obtain ⟨v2, ev2⟩ : ∃ z : Int32, z = x4 + 1 := ⟨_, rfl⟩
    have hf := gl_at hf ev2
    refine lv_iinc (v := v2) (lv' := [(4, .int v2), (3, .int v1), (0, .ref w.2.2.2), (1, .int p0), (2, .int p1)]) hx hb dX8_tellsPicks_47 hl (k := 4) rfl (by rw [ev2]; rfl) (by decide) rfl (fun ls hl => ?_)
    refine lv_goto (tgt := 9) hx hb dX8_tellsPicks_50 (by decide) ?_
    exact hk9 _ _ _ _ _ _ hH hS (lv_sub hl [2, 3, 4, 1, 0] rfl) hf
  have B29 : ∀ (k9 : GS → Int32 → Int32 → Option (GS × Int32)), (∀ (S : GS) (x3 : Int32) (x4 : Int32) (H : Heap) (locs : List Loc) (ls : Array Slot), HR w K g S H → va_S (FR w) s.heap H locs → lv_has ls 5 [(0, .ref w.2.2.2), (1, .int p0), (2, .int p1), (3, .int x3), (4, .int x4)] → k9 S x3 x4 = some out → W p l e ({ frames := 5, cells := 0, slots := 0, locals := 118 } : Room) s m args below meth c H locs 0 0 (MQ below (QI w K g out.1 out.2) args s 0 0 (FR w)) (F0 m 9 ls [])) → ∀ (S : GS) (x4 : Int32) (s0 : Int32) (H : Heap) (locs : List Loc) (ls : Array Slot), HR w K g S H → va_S (FR w) s.heap H locs → lv_has ls 5 [(0, .ref w.2.2.2), (1, .int p0), (2, .int p1), (4, .int x4)] → f8_tellsPicks_29 k9 p0 p1 S x4 s0 = some out → W p l e ({ frames := 5, cells := 0, slots := 0, locals := 118 } : Room) s m args below meth c H locs 0 0 (MQ below (QI w K g out.1 out.2) args s 0 0 (FR w)) (F0 m 29 ls [.int s0]) := by
    intro k9 hk9 S x4 s0 H locs ls hH hS hl hf
    unfold f8_tellsPicks_29 at hf
    refine lv_aload_n hx hb dX8_tellsPicks_29 rfl (lv_at hl 0 rfl) ?_
    refine e_8_10 hx hb hts hown hK hH (hts _ wd_107) dX8_tellsPicks_30 ?_
    refine lv_bipush (v := 36) hx hb dX8_tellsPicks_33 (by decide) ?_
    refine lv_iload_n hx hb dX8_tellsPicks_35 rfl (lv_at hl 1 rfl) ?_
    refine lv_imul hx hb dX8_tellsPicks_36 ?_
    refine lv_iload hx hb dX8_tellsPicks_37 (lv_at hl 3 rfl) ?_
    refine lv_iadd hx hb dX8_tellsPicks_39 ?_
    obtain ⟨h4, hf⟩ := gd_some hf
    refine m_iald hx hb hK hH 7 (by decide) (by decide) rfl h4 dX8_tellsPicks_40 ?_
    refine lv_goto (tgt := 45) hx hb dX8_tellsPicks_41 (by decide) ?_
    exact B45 _ (hk9) _ _ _ _ _ _ _ hH hS (lv_sub hl [0, 1, 2, 3] rfl) hf
  have B9 : ∀ n : Nat, ∀ (S : GS) (x3 : Int32) (x4 : Int32) (H : Heap) (locs : List Loc) (ls : Array Slot), HR w K g S H → va_S (FR w) s.heap H locs → lv_has ls 5 [(0, .ref w.2.2.2), (1, .int p0), (2, .int p1), (3, .int x3), (4, .int x4)] → f8_tellsPicks_9 p0 p1 n S x3 x4 = some out → W p l e ({ frames := 5, cells := 0, slots := 0, locals := 118 } : Room) s m args below meth c H locs 0 0 (MQ below (QI w K g out.1 out.2) args s 0 0 (FR w)) (F0 m 9 ls []) := by
    intro n
    induction n with
    | zero =>
      intro S x3 x4 H locs ls hH hS hl hf
      cases hf
    | succ n ih =>
      intro S x3 x4 H locs ls hH hS hl hf
      rw [f8_tellsPicks_9] at hf
      refine lv_iload hx hb dX8_tellsPicks_9 (lv_at hl 4 rfl) ?_
      refine lv_bipush (v := 6) hx hb dX8_tellsPicks_11 (by decide) ?_
      have hg := gif hf
      refine lv_icmp_ge (tgt := 53) hx hb dX8_tellsPicks_13 (by decide) (fun c5 => ?_) (fun c5 => ?_)
      · have hf := hg.1 c5
        refine lv_iload_n hx hb dX8_tellsPicks_53 rfl (lv_at hl 3 rfl) ?_
        refine lv_ldc (v := 1000000) hx hb hown (hts _ wd_773) dX8_tellsPicks_54 ?_
        have hg := gif hf
        refine lv_icmp_le (tgt := 64) hx hb dX8_tellsPicks_56 (by decide) (fun c6 => ?_) (fun c6 => ?_)
        · have hf := hg.1 c6
          refine lv_iload_n hx hb dX8_tellsPicks_64 rfl (lv_at hl 3 rfl) ?_
          have ho := Option.some.inj hf
          exact W.iret (v := x3) hx hb hr (fun t ht hW => ⟨⟨x3, (), rfl, congrArg Prod.snd ho, hrPm ht ho hH⟩, hS.F ht⟩) hS.2.2 dX8_tellsPicks_65
        · have hf := hg.2 c6
          refine lv_ldc (v := 1000000) hx hb hown (hts _ wd_773) dX8_tellsPicks_59 ?_
          refine lv_goto (tgt := 65) hx hb dX8_tellsPicks_61 (by decide) ?_
          have ho := Option.some.inj hf
          exact W.iret (v := 1000000) hx hb hr (fun t ht hW => ⟨⟨1000000, (), rfl, congrArg Prod.snd ho, hrPm ht ho hH⟩, hS.F ht⟩) hS.2.2 dX8_tellsPicks_65
      · have hf := hg.2 c5
        refine lv_iload_n hx hb dX8_tellsPicks_16 rfl (lv_at hl 3 rfl) ?_
        refine lv_iload_n hx hb dX8_tellsPicks_17 rfl (lv_at hl 2 rfl) ?_
        refine lv_bipush (v := (-6)) hx hb dX8_tellsPicks_18 (by decide) ?_
        have hg := gif hf
        refine lv_icmp_eq (tgt := 29) hx hb dX8_tellsPicks_20 (by decide) (fun c7 => ?_) (fun c7 => ?_)
        · have hf := hg.1 c7
          exact B29 _ (ih) _ _ _ _ _ _ hH hS (lv_sub hl [0, 1, 2, 4] rfl) hf
        · have hf := hg.2 c7
          refine lv_iload_n hx hb dX8_tellsPicks_23 rfl (lv_at hl 2 rfl) ?_
          refine lv_iload hx hb dX8_tellsPicks_24 (lv_at hl 4 rfl) ?_
          have hg := gif hf
          refine lv_icmp_ne (tgt := 44) hx hb dX8_tellsPicks_26 (by decide) (fun c8 => ?_) (fun c8 => ?_)
          · have hf := hg.2 c8
            refine lv_iconst (v := 0) hx hb dX8_tellsPicks_44 (by decide) ?_
            exact B45 _ (ih) _ _ _ _ _ _ _ hH hS (lv_sub hl [0, 1, 2, 4] rfl) hf
          · have hf := hg.1 c8
            exact B29 _ (ih) _ _ _ _ _ _ hH hS (lv_sub hl [0, 1, 2, 4] rfl) hf
  have hl : lv_has ls 5 [(0, .ref w.2.2.2), (1, .int p0), (2, .int p1)] := hl
  refine lv_aload_n hx hb dX8_tellsPicks_0 rfl (lv_at hl 0 rfl) ?_
  obtain ⟨g9, h10, hf⟩ := gbind hf
  refine g_Vv (As := []) (rest := []) ⟨hx, hb, hml, hown, hts⟩ (c8_countAll l w K g S g9 h10) (gcwV hts i8_countAll wd_774 rfl rfl ⟨Nat.le_of_ble_eq_true rfl, Nat.le_of_ble_eq_true rfl⟩) (gRecv.of hK rfl hH.ob) hH hK hS hl.1 rfl rfl (Nat.le_of_ble_eq_true rfl) dX8_tellsPicks_1 ⟨Nat.le_refl _, Nat.le_refl _⟩ (fun H locs hH hS => ?_)
  refine lv_iconst (v := 0) hx hb dX8_tellsPicks_4 (by decide) ?_
  refine lv_istore_n (lv' := [(3, .int 0), (0, .ref w.2.2.2), (1, .int p0), (2, .int p1)]) hx hb dX8_tellsPicks_5 rfl hl (by decide) rfl (fun ls hl => ?_)
  refine lv_iconst (v := 0) hx hb dX8_tellsPicks_6 (by decide) ?_
  refine lv_istore (lv' := [(4, .int 0), (3, .int 0), (0, .ref w.2.2.2), (1, .int p0), (2, .int p1)]) hx hb dX8_tellsPicks_7 hl (by decide) rfl (fun ls hl => ?_)
  exact B9 _ _ _ _ _ _ _ hH hS (lv_sub hl [2, 3, 4, 1, 0] rfl) hf
set_option maxRecDepth 100000 in
set_option maxHeartbeats 8000000 in
theorem c8_picks (l : Launch) (w : GW) (K : GK) (g : GM) (S : GS) (p0 : Int32) (p1 : Int32) (out : GS × Int32) (hf : f8_picks S p0 p1 = some out) : Met l yX8_picks (wA yX8_picks cX8_picks 4 (some .int)) ({ frames := 6, cells := 0, slots := 0, locals := 142 } : Room) (PRE w K g S [.ref w.2.2.2, .int p0, .int p1]) (QI w K g out.1 out.2) 0 0 (FR w) := by
  unfold f8_picks at hf
  refine Met.ofW (cc := cX8_picks) (maxL := 4) (ret := (some .int)) (by decide) rfl ?_
  intro p e s m args below meth c s₁ B hml hv
  obtain ⟨rfl, hH, hK⟩ := hv
  have hx := B.exec
  have hb := B.bytes
  have hr := B.returns
  have hts : ∀ q ∈ gALL, q.before _ s = true := fun q h => atoms_spec (ws := (wA yX8_picks cX8_picks 4 (some .int))) B.pre q (List.mem_cons_of_mem _ h)
  have hown : s.vm.findClass RX8 = some m.cls := findClass_of_methodNamed B.named
  have hlocks := B.notSynchronized
  have hS : va_S (FR w) s.heap s.heap [] := va_S.rf
  show W p l e ({ frames := 6, cells := 0, slots := 0, locals := 142 } : Room) s m _ below meth c s.heap [] 0 0 (MQ below (QI w K g out.1 out.2) _ s 0 0 (FR w)) _
  have hl := lv_entry ([.ref w.2.2.2, .int p0, .int p1]) (n := 4) (Nat.le_of_ble_eq_true rfl)
  rw [lg_entry_eq]
  generalize (lg_sl ([.ref w.2.2.2, .int p0, .int p1]) ++ List.replicate (4 - (lg_sl ([.ref w.2.2.2, .int p0, .int p1])).length) Slot.unset).toArray = ls at hl ⊢
  clear B
  generalize ([.ref w.2.2.2, .int p0, .int p1] : List Value).toArray = args at hts ⊢
  have B25 : ∀ (S : GS) (H : Heap) (locs : List Loc) (ls : Array Slot), HR w K g S H → va_S (FR w) s.heap H locs → lv_has ls 4 [(0, .ref w.2.2.2), (1, .int p0), (2, .int p1)] → f8_picks_25 p0 p1 S = some out → W p l e ({ frames := 6, cells := 0, slots := 0, locals := 142 } : Room) s m args below meth c H locs 0 0 (MQ below (QI w K g out.1 out.2) args s 0 0 (FR w)) (F0 m 25 ls []) := by
    intro  S H locs ls hH hS hl hf
    unfold f8_picks_25 at hf
    refine lv_aload_n hx hb dX8_picks_25 rfl (lv_at hl 0 rfl) ?_
    refine lv_iload_n hx hb dX8_picks_26 rfl (lv_at hl 1 rfl) ?_
    obtain ⟨v1, h2, hf⟩ := gbind hf
    refine g_Vi (As := [.int p0]) (rest := []) ⟨hx, hb, hml, hown, hts⟩ (c8_whyNot l w K g S p0 v1 h2) (gcwV hts i8_whyNot wd_761 rfl rfl ⟨Nat.le_of_ble_eq_true rfl, Nat.le_of_ble_eq_true rfl⟩) (gRecv.of hK rfl hH.ob) hH hK hS hl.1 rfl rfl (Nat.le_of_ble_eq_true rfl) dX8_picks_27 ⟨Nat.le_refl _, Nat.le_refl _⟩ (fun H locs hH hS => ?_)
    refine lv_istore_n (lv' := [(3, .int v1), (0, .ref w.2.2.2), (1, .int p0), (2, .int p1)]) hx hb dX8_picks_30 rfl hl (by decide) rfl (fun ls hl => ?_)
    refine lv_iload_n hx hb dX8_picks_31 rfl (lv_at hl 0 rfl) ?_
    have hg := gif hf
    refine lv_if_eq (tgt := 39) hx hb dX8_picks_32 (by decide) (fun c3 => ?_) (fun c3 => ?_)
    · have hf := hg.1 c3
      refine lv_aload_n hx hb dX8_picks_39 rfl (lv_at hl 1 rfl) ?_
      refine lv_iload_n hx hb dX8_picks_40 rfl (lv_at hl 2 rfl) ?_
      refine lv_iload_n hx hb dX8_picks_41 rfl (lv_at hl 3 rfl) ?_
      obtain ⟨r4, h5, hf⟩ := gbind hf
      refine g_Vi (As := [.int p0, .int p1]) (rest := []) ⟨hx, hb, hml, hown, hts⟩ (c8_tellsPicks l w K g S p0 p1 r4 h5) (gcwV hts i8_tellsPicks wd_769 rfl rfl ⟨Nat.le_of_ble_eq_true rfl, Nat.le_of_ble_eq_true rfl⟩) (gRecv.of hK rfl hH.ob) hH hK hS hl.1 rfl rfl (Nat.le_of_ble_eq_true rfl) dX8_picks_42 ⟨Nat.le_refl _, Nat.le_refl _⟩ (fun H locs hH hS => ?_)
      have ho := Option.some.inj hf
      exact W.iret (v := r4.2) hx hb hr (fun t ht hW => ⟨⟨r4.2, (), rfl, congrArg Prod.snd ho, hrPm ht ho hH⟩, hS.F ht⟩) hS.2.2 dX8_picks_45
    · have hf := hg.2 c3
      refine lv_iload_n hx hb dX8_picks_35 rfl (lv_at hl 0 rfl) ?_
      refine lv_goto (tgt := 45) hx hb dX8_picks_36 (by decide) ?_
      have ho := Option.some.inj hf
      exact W.iret (v := v1) hx hb hr (fun t ht hW => ⟨⟨v1, (), rfl, congrArg Prod.snd ho, hrPm ht ho hH⟩, hS.F ht⟩) hS.2.2 dX8_picks_45
  have hl : lv_has ls 4 [(0, .ref w.2.2.2), (1, .int p0), (2, .int p1)] := hl
  refine lv_iload_n hx hb dX8_picks_0 rfl (lv_at hl 1 rfl) ?_
  obtain ⟨v6, h7, hf⟩ := gbind hf
  refine g_Si (As := [.int p0]) (rest := []) ⟨hx, hb, hml, hown, hts⟩ (c8_isCard l w K g S p0 v6 h7) (gcwS hts i8_isCard wd_264 rfl rfl ⟨Nat.le_of_ble_eq_true rfl, Nat.le_of_ble_eq_true rfl⟩) hH hK hS hl.1 rfl rfl (Nat.le_of_ble_eq_true rfl) dX8_picks_1 ⟨Nat.le_refl _, Nat.le_refl _⟩ (fun H locs hH hS => ?_)
  have hg := gif hf
  refine lv_if_ne (tgt := 9) hx hb dX8_picks_4 (by decide) (fun c8 => ?_) (fun c8 => ?_)
  · have hf := hg.2 c8
    refine lv_iload_n hx hb dX8_picks_9 rfl (lv_at hl 2 rfl) ?_
    obtain ⟨v9, h10, hf⟩ := gbind hf
    refine g_Si (As := [.int p1]) (rest := []) ⟨hx, hb, hml, hown, hts⟩ (c8_isColour l w K g S p1 v9 h10) (gcwS hts i8_isColour wd_553 rfl rfl ⟨Nat.le_of_ble_eq_true rfl, Nat.le_of_ble_eq_true rfl⟩) hH hK hS hl.1 rfl rfl (Nat.le_of_ble_eq_true rfl) dX8_picks_10 ⟨Nat.le_refl _, Nat.le_refl _⟩ (fun H locs hH hS => ?_)
    have hg := gif hf
    refine lv_if_ne (tgt := 25) hx hb dX8_picks_13 (by decide) (fun c11 => ?_) (fun c11 => ?_)
    · have hf := hg.2 c11
      exact B25 _ _ _ _ hH hS (lv_sub hl [0, 1, 2] rfl) hf
    · have hf := hg.1 c11
      refine lv_iload_n hx hb dX8_picks_16 rfl (lv_at hl 2 rfl) ?_
      refine lv_bipush (v := (-6)) hx hb dX8_picks_17 (by decide) ?_
      have hg := gif hf
      refine lv_icmp_eq (tgt := 25) hx hb dX8_picks_19 (by decide) (fun c12 => ?_) (fun c12 => ?_)
      · have hf := hg.1 c12
        exact B25 _ _ _ _ hH hS (lv_sub hl [0, 1, 2] rfl) hf
      · have hf := hg.2 c12
        refine lv_bipush (v := (-2)) hx hb dX8_picks_22 (by decide) ?_
        have ho := Option.some.inj hf
        exact W.iret (v := (-2)) hx hb hr (fun t ht hW => ⟨⟨(-2), (), rfl, congrArg Prod.snd ho, hrPm ht ho hH⟩, hS.F ht⟩) hS.2.2 dX8_picks_24
  · have hf := hg.1 c8
    refine lv_iconst (v := (-1)) hx hb dX8_picks_7 (by decide) ?_
    have ho := Option.some.inj hf
    exact W.iret (v := (-1)) hx hb hr (fun t ht hW => ⟨⟨(-1), (), rfl, congrArg Prod.snd ho, hrPm ht ho hH⟩, hS.F ht⟩) hS.2.2 dX8_picks_8
set_option maxRecDepth 100000 in
set_option maxHeartbeats 8000000 in
theorem c8_put (l : Launch) (w : GW) (K : GK) (g : GM) (S : GS) (p0 : Int64) (out : GS × Int32) (hf : f8_put S p0 = some out) : Met l yX8_put (wA yX8_put cX8_put 5 (some .int)) ({ frames := 3, cells := 0, slots := 0, locals := 66 } : Room) (PRE w K g S [.ref w.2.2.2, .long p0]) (QI w K g out.1 out.2) 0 0 (FR w) := by
  unfold f8_put at hf
  refine Met.ofW (cc := cX8_put) (maxL := 5) (ret := (some .int)) (by decide) rfl ?_
  intro p e s m args below meth c s₁ B hml hv
  obtain ⟨rfl, hH, hK⟩ := hv
  have hx := B.exec
  have hb := B.bytes
  have hr := B.returns
  have hts : ∀ q ∈ gALL, q.before _ s = true := fun q h => atoms_spec (ws := (wA yX8_put cX8_put 5 (some .int))) B.pre q (List.mem_cons_of_mem _ h)
  have hown : s.vm.findClass RX8 = some m.cls := findClass_of_methodNamed B.named
  have hlocks := B.notSynchronized
  have hS : va_S (FR w) s.heap s.heap [] := va_S.rf
  show W p l e ({ frames := 3, cells := 0, slots := 0, locals := 66 } : Room) s m _ below meth c s.heap [] 0 0 (MQ below (QI w K g out.1 out.2) _ s 0 0 (FR w)) _
  have hl := lv_entry ([.ref w.2.2.2, .long p0]) (n := 5) (Nat.le_of_ble_eq_true rfl)
  rw [lg_entry_eq]
  generalize (lg_sl ([.ref w.2.2.2, .long p0]) ++ List.replicate (5 - (lg_sl ([.ref w.2.2.2, .long p0])).length) Slot.unset).toArray = ls at hl ⊢
  clear B
  generalize ([.ref w.2.2.2, .long p0] : List Value).toArray = args at hts ⊢
  have B31 : ∀ n : Nat, ∀ (S : GS) (x4 : Int32) (H : Heap) (locs : List Loc) (ls : Array Slot), HR w K g S H → va_S (FR w) s.heap H locs → lv_has ls 5 [(0, .ref w.2.2.2), (1, .long p0), (4, .int x4)] → f8_put_31 p0 n S x4 = some out → W p l e ({ frames := 3, cells := 0, slots := 0, locals := 66 } : Room) s m args below meth c H locs 0 0 (MQ below (QI w K g out.1 out.2) args s 0 0 (FR w)) (F0 m 31 ls []) := by
    intro n
    induction n with
    | zero =>
      intro S x4 H locs ls hH hS hl hf
      cases hf
    | succ n ih =>
      intro S x4 H locs ls hH hS hl hf
      rw [f8_put_31] at hf
      refine lv_iload hx hb dX8_put_31 (lv_at hl 2 rfl) ?_
      have hg := gif hf
      refine lv_if_lt (tgt := 73) hx hb dX8_put_33 (by decide) (fun c1 => ?_) (fun c1 => ?_)
      · have hf := hg.1 c1
        refine lv_aload_n hx hb dX8_put_73 rfl (lv_at hl 0 rfl) ?_
        refine e_8_7 hx hb hts hown hK hH (hts _ wd_263) dX8_put_74 ?_
        have ho := Option.some.inj hf
        exact W.iret (v := (S 0 7)) hx hb hr (fun t ht hW => ⟨⟨(S 0 7), (), rfl, congrArg Prod.snd ho, hrPm ht ho hH⟩, hS.F ht⟩) hS.2.2 dX8_put_77
      · have hf := hg.2 c1
        refine lv_aload_n hx hb dX8_put_36 rfl (lv_at hl 0 rfl) ?_
        refine e_8_6 hx hb hts hown hK hH (hts _ wd_106) dX8_put_37 ?_
        refine lv_aload_n hx hb dX8_put_40 rfl (lv_at hl 0 rfl) ?_
        refine e_8_7 hx hb hts hown hK hH (hts _ wd_263) dX8_put_41 ?_
        refine lv_lload_n hx hb dX8_put_44 rfl (lv_at hl 1 rfl) ?_
        refine lv_bipush (v := 8) hx hb dX8_put_45 (by decide) ?_
        refine lv_iload hx hb dX8_put_47 (lv_at hl 2 rfl) ?_
        refine lv_imul hx hb dX8_put_49 ?_
        refine lv_lshr hx hb dX8_put_50 rfl ?_
        refine lv_ldc2 (v := 255) hx hb hown (hts _ wd_885) dX8_put_51 ?_
        refine lv_land hx hb dX8_put_54 ?_
        refine lv_l2i hx hb dX8_put_55 rfl ?_
        obtain ⟨h3, hf⟩ := gd_some hf
        refine m_iast hx hb hK hH hS 6 (by decide) (by decide) rfl h3 dX8_put_56 (fun H locs hH hS => ?_)
        obtain ⟨S4, eS4⟩ : ∃ z : GS, z = ssI S 6 (S 0 7).toNatClampNeg (((p0 >>> ((8 * x4).toInt64 &&& 63)) &&& ((255 : Int64))).toInt32) := ⟨_, rfl⟩
        have hf := gl_at hf eS4
        replace hH : HR w K g S4 H := by rw [eS4]; exact hH
        refine lv_aload_n hx hb dX8_put_57 rfl (lv_at hl 0 rfl) ?_
        refine lv_dup hx hb dX8_put_58 rfl ?_
        refine e_8_7 hx hb hts hown hK hH (hts _ wd_263) dX8_put_59 ?_
        refine lv_iconst (v := 1) hx hb dX8_put_62 (by decide) ?_
        refine lv_iadd hx hb dX8_put_63 ?_
        refine p_8_7 hx hb hts hown hK hH hS (hts _ wd_263) dX8_put_64 (fun H locs hH hS => ?_)
        obtain ⟨S5, eS5⟩ : ∃ z : GS, z = ssI S4 0 7 ((S4 0 7) + 1) := ⟨_, rfl⟩
        have hf := gl_at hf eS5
        replace hH : HR w K g S5 H := by rw [eS5]; exact hH
        obtain ⟨v6, ev6⟩ : ∃ z : Int32, z = x4 + (-1) := ⟨_, rfl⟩
        have hf := gl_at hf ev6
        refine lv_iinc (v := v6) (lv' := [(4, .int v6), (0, .ref w.2.2.2), (1, .long p0)]) hx hb dX8_put_67 hl (k := 2) rfl (by rw [ev6]; rfl) (by decide) rfl (fun ls hl => ?_)
        refine lv_goto (tgt := 31) hx hb dX8_put_70 (by decide) ?_
        exact ih _ _ _ _ _ hH hS (lv_sub hl [1, 2, 0] rfl) hf
  have hl : lv_has ls 5 [(0, .ref w.2.2.2), (1, .long p0)] := hl
  refine lv_lload_n hx hb dX8_put_0 rfl (lv_at hl 1 rfl) ?_
  obtain ⟨v7, h8, hf⟩ := gbind hf
  refine g_Si (As := [.long p0]) (rest := []) ⟨hx, hb, hml, hown, hts⟩ (c8_charactersIn l w K g S p0 v7 h8) (gcwS hts i8_charactersIn wd_886 rfl rfl ⟨Nat.le_of_ble_eq_true rfl, Nat.le_of_ble_eq_true rfl⟩) hH hK hS hl.1 rfl rfl (Nat.le_of_ble_eq_true rfl) dX8_put_1 ⟨Nat.le_refl _, Nat.le_refl _⟩ (fun H locs hH hS => ?_)
  refine lv_istore_n (lv' := [(3, .int v7), (0, .ref w.2.2.2), (1, .long p0)]) hx hb dX8_put_4 rfl hl (by decide) rfl (fun ls hl => ?_)
  refine lv_iload_n hx hb dX8_put_5 rfl (lv_at hl 0 rfl) ?_
  have hg := gif hf
  refine lv_if_ne (tgt := 12) hx hb dX8_put_6 (by decide) (fun c9 => ?_) (fun c9 => ?_)
  · have hf := hg.2 c9
    refine lv_aload_n hx hb dX8_put_12 rfl (lv_at hl 1 rfl) ?_
    refine e_8_7 hx hb hts hown hK hH (hts _ wd_263) dX8_put_13 ?_
    refine lv_iload_n hx hb dX8_put_16 rfl (lv_at hl 0 rfl) ?_
    refine lv_iadd hx hb dX8_put_17 ?_
    refine lv_bipush (v := 80) hx hb dX8_put_18 (by decide) ?_
    have hg := gif hf
    refine lv_icmp_le (tgt := 26) hx hb dX8_put_20 (by decide) (fun c10 => ?_) (fun c10 => ?_)
    · have hf := hg.1 c10
      refine lv_iload_n hx hb dX8_put_26 rfl (lv_at hl 0 rfl) ?_
      refine lv_iconst (v := 1) hx hb dX8_put_27 (by decide) ?_
      refine lv_isub hx hb dX8_put_28 ?_
      refine lv_topi (fun v11 ev11 => ?_)
      have hf := gl_at hf ev11
      refine lv_istore (lv' := [(4, .int v11), (3, .int v7), (0, .ref w.2.2.2), (1, .long p0)]) hx hb dX8_put_29 hl (by decide) rfl (fun ls hl => ?_)
      exact B31 _ _ _ _ _ _ hH hS (lv_sub hl [2, 3, 0] rfl) hf
    · have hf := hg.2 c10
      refine lv_bipush (v := (-4)) hx hb dX8_put_23 (by decide) ?_
      have ho := Option.some.inj hf
      exact W.iret (v := (-4)) hx hb hr (fun t ht hW => ⟨⟨(-4), (), rfl, congrArg Prod.snd ho, hrPm ht ho hH⟩, hS.F ht⟩) hS.2.2 dX8_put_25
  · have hf := hg.1 c9
    refine lv_bipush (v := (-2)) hx hb dX8_put_9 (by decide) ?_
    have ho := Option.some.inj hf
    exact W.iret (v := (-2)) hx hb hr (fun t ht hW => ⟨⟨(-2), (), rfl, congrArg Prod.snd ho, hrPm ht ho hH⟩, hS.F ht⟩) hS.2.2 dX8_put_11
set_option maxRecDepth 100000 in
set_option maxHeartbeats 8000000 in
theorem c8_reaches (l : Launch) (w : GW) (K : GK) (g : GM) (S : GS) (p0 : Int32) (out : Int32) (hf : f8_reaches S p0 = some out) : Met l yX8_reaches (wA yX8_reaches cX8_reaches 2 (some .int)) ({ frames := 3, cells := 0, slots := 0, locals := 69 } : Room) (PRE w K g S [.ref w.2.2.2, .int p0]) (QI w K g S out) 0 0 (FR w) := by
  unfold f8_reaches at hf
  refine Met.ofW (cc := cX8_reaches) (maxL := 2) (ret := (some .int)) (by decide) rfl ?_
  intro p e s m args below meth c s₁ B hml hv
  obtain ⟨rfl, hH, hK⟩ := hv
  have hx := B.exec
  have hb := B.bytes
  have hr := B.returns
  have hts : ∀ q ∈ gALL, q.before _ s = true := fun q h => atoms_spec (ws := (wA yX8_reaches cX8_reaches 2 (some .int))) B.pre q (List.mem_cons_of_mem _ h)
  have hown : s.vm.findClass RX8 = some m.cls := findClass_of_methodNamed B.named
  have hlocks := B.notSynchronized
  have hS : va_S (FR w) s.heap s.heap [] := va_S.rf
  show W p l e ({ frames := 3, cells := 0, slots := 0, locals := 69 } : Room) s m _ below meth c s.heap [] 0 0 (MQ below (QI w K g S out) _ s 0 0 (FR w)) _
  have hl := lv_entry ([.ref w.2.2.2, .int p0]) (n := 2) (Nat.le_of_ble_eq_true rfl)
  rw [lg_entry_eq]
  generalize (lg_sl ([.ref w.2.2.2, .int p0]) ++ List.replicate (2 - (lg_sl ([.ref w.2.2.2, .int p0])).length) Slot.unset).toArray = ls at hl ⊢
  clear B
  generalize ([.ref w.2.2.2, .int p0] : List Value).toArray = args at hts ⊢
  have hl : lv_has ls 2 [(0, .ref w.2.2.2), (1, .int p0)] := hl
  refine lv_iload_n hx hb dX8_reaches_0 rfl (lv_at hl 1 rfl) ?_
  obtain ⟨v1, h2, hf⟩ := gbind hf
  refine g_Si (As := [.int p0]) (rest := []) ⟨hx, hb, hml, hown, hts⟩ (c8_isCard l w K g S p0 v1 h2) (gcwS hts i8_isCard wd_264 rfl rfl ⟨Nat.le_of_ble_eq_true rfl, Nat.le_of_ble_eq_true rfl⟩) hH hK hS hl.1 rfl rfl (Nat.le_of_ble_eq_true rfl) dX8_reaches_1 ⟨Nat.le_refl _, Nat.le_refl _⟩ (fun H locs hH hS => ?_)
  have hg := gif hf
  refine lv_if_eq (tgt := 15) hx hb dX8_reaches_4 (by decide) (fun c3 => ?_) (fun c3 => ?_)
  · have hf := hg.1 c3
    refine lv_iconst (v := (-1)) hx hb dX8_reaches_15 (by decide) ?_
    have ho := Option.some.inj hf
    exact W.iret (v := (-1)) hx hb hr (fun t ht hW => ⟨⟨(-1), (), rfl, ho, hrE ht hH⟩, hS.F ht⟩) hS.2.2 dX8_reaches_16
  · have hf := hg.2 c3
    refine lv_aload_n hx hb dX8_reaches_7 rfl (lv_at hl 0 rfl) ?_
    refine lv_iload_n hx hb dX8_reaches_8 rfl (lv_at hl 1 rfl) ?_
    obtain ⟨v4, h5, hf⟩ := gbind hf
    refine g_Vi (As := [.int p0]) (rest := []) ⟨hx, hb, hml, hown, hts⟩ (c8_reached l w K g S p0 v4 h5) (gcwV hts i8_reached wd_765 rfl rfl ⟨Nat.le_of_ble_eq_true rfl, Nat.le_of_ble_eq_true rfl⟩) (gRecv.of hK rfl hH.ob) hH hK hS hl.1 rfl rfl (Nat.le_of_ble_eq_true rfl) dX8_reaches_9 ⟨Nat.le_refl _, Nat.le_refl _⟩ (fun H locs hH hS => ?_)
    refine lv_goto (tgt := 16) hx hb dX8_reaches_12 (by decide) ?_
    have ho := Option.some.inj hf
    exact W.iret (v := v4) hx hb hr (fun t ht hW => ⟨⟨v4, (), rfl, ho, hrE ht hH⟩, hS.F ht⟩) hS.2.2 dX8_reaches_16
set_option maxRecDepth 100000 in
set_option maxHeartbeats 8000000 in
theorem c8_restore (l : Launch) (w : GW) (K : GK) (g : GM) (S : GS) (p0 : Int32) (out : GS × Int32) (hf : f8_restore S p0 = some out) : Met l yX8_restore (wA yX8_restore cX8_restore 3 (some .int)) ({ frames := 2, cells := 0, slots := 0, locals := 42 } : Room) (PRE w K g S [.ref w.2.2.2, .int p0]) (QI w K g out.1 out.2) 0 0 (FR w) := by
  unfold f8_restore at hf
  refine Met.ofW (cc := cX8_restore) (maxL := 3) (ret := (some .int)) (by decide) rfl ?_
  intro p e s m args below meth c s₁ B hml hv
  obtain ⟨rfl, hH, hK⟩ := hv
  have hx := B.exec
  have hb := B.bytes
  have hr := B.returns
  have hts : ∀ q ∈ gALL, q.before _ s = true := fun q h => atoms_spec (ws := (wA yX8_restore cX8_restore 3 (some .int))) B.pre q (List.mem_cons_of_mem _ h)
  have hown : s.vm.findClass RX8 = some m.cls := findClass_of_methodNamed B.named
  have hlocks := B.notSynchronized
  have hS : va_S (FR w) s.heap s.heap [] := va_S.rf
  show W p l e ({ frames := 2, cells := 0, slots := 0, locals := 42 } : Room) s m _ below meth c s.heap [] 0 0 (MQ below (QI w K g out.1 out.2) _ s 0 0 (FR w)) _
  have hl := lv_entry ([.ref w.2.2.2, .int p0]) (n := 3) (Nat.le_of_ble_eq_true rfl)
  rw [lg_entry_eq]
  generalize (lg_sl ([.ref w.2.2.2, .int p0]) ++ List.replicate (3 - (lg_sl ([.ref w.2.2.2, .int p0])).length) Slot.unset).toArray = ls at hl ⊢
  clear B
  generalize ([.ref w.2.2.2, .int p0] : List Value).toArray = args at hts ⊢
  have B28 : ∀ n : Nat, ∀ (S : GS) (x2 : Int32) (H : Heap) (locs : List Loc) (ls : Array Slot), HR w K g S H → va_S (FR w) s.heap H locs → lv_has ls 3 [(0, .ref w.2.2.2), (1, .int p0), (2, .int x2)] → f8_restore_28 p0 n S x2 = some out → W p l e ({ frames := 2, cells := 0, slots := 0, locals := 42 } : Room) s m args below meth c H locs 0 0 (MQ below (QI w K g out.1 out.2) args s 0 0 (FR w)) (F0 m 28 ls []) := by
    intro n
    induction n with
    | zero =>
      intro S x2 H locs ls hH hS hl hf
      cases hf
    | succ n ih =>
      intro S x2 H locs ls hH hS hl hf
      rw [f8_restore_28] at hf
      refine lv_iload_n hx hb dX8_restore_28 rfl (lv_at hl 2 rfl) ?_
      refine lv_sipush (v := 2081) hx hb dX8_restore_29 (by decide) ?_
      have hg := gif hf
      refine lv_icmp_ge (tgt := 59) hx hb dX8_restore_32 (by decide) (fun c1 => ?_) (fun c1 => ?_)
      · have hf := hg.1 c1
        refine lv_aload_n hx hb dX8_restore_59 rfl (lv_at hl 0 rfl) ?_
        refine e_8_0 hx hb hts hown hK hH (hts _ wd_101) dX8_restore_60 ?_
        refine lv_iconst (v := 4) hx hb dX8_restore_63 (by decide) ?_
        obtain ⟨h3, hf⟩ := gd_some hf
        refine m_iald hx hb hK hH 1 (by decide) (by decide) rfl h3 dX8_restore_64 ?_
        have ho := Option.some.inj hf
        exact W.iret (v := (S 1 (4 : Int32).toNatClampNeg)) hx hb hr (fun t ht hW => ⟨⟨(S 1 (4 : Int32).toNatClampNeg), (), rfl, congrArg Prod.snd ho, hrPm ht ho hH⟩, hS.F ht⟩) hS.2.2 dX8_restore_65
      · have hf := hg.2 c1
        refine lv_aload_n hx hb dX8_restore_35 rfl (lv_at hl 0 rfl) ?_
        refine e_8_0 hx hb hts hown hK hH (hts _ wd_101) dX8_restore_36 ?_
        refine lv_iload_n hx hb dX8_restore_39 rfl (lv_at hl 2 rfl) ?_
        refine lv_aload_n hx hb dX8_restore_40 rfl (lv_at hl 0 rfl) ?_
        refine e_8_4 hx hb hts hown hK hH (hts _ wd_104) dX8_restore_41 ?_
        refine lv_iload_n hx hb dX8_restore_44 rfl (lv_at hl 1 rfl) ?_
        refine lv_sipush (v := 2081) hx hb dX8_restore_45 (by decide) ?_
        refine lv_imul hx hb dX8_restore_48 ?_
        refine lv_iload_n hx hb dX8_restore_49 rfl (lv_at hl 2 rfl) ?_
        refine lv_iadd hx hb dX8_restore_50 ?_
        obtain ⟨h5, hf⟩ := gd_some hf
        refine m_iald hx hb hK hH 4 (by decide) (by decide) rfl h5 dX8_restore_51 ?_
        obtain ⟨h7, hf⟩ := gd_some hf
        refine m_iast hx hb hK hH hS 1 (by decide) (by decide) rfl h7 dX8_restore_52 (fun H locs hH hS => ?_)
        obtain ⟨S8, eS8⟩ : ∃ z : GS, z = ssI S 1 x2.toNatClampNeg (S 4 ((p0 * 2081) + x2).toNatClampNeg) := ⟨_, rfl⟩
        have hf := gl_at hf eS8
        replace hH : HR w K g S8 H := by rw [eS8]; exact hH
        obtain ⟨v9, ev9⟩ : ∃ z : Int32, z = x2 + 1 := ⟨_, rfl⟩
        have hf := gl_at hf ev9
        refine lv_iinc (v := v9) (lv' := [(2, .int v9), (0, .ref w.2.2.2), (1, .int p0)]) hx hb dX8_restore_53 hl (k := 2) rfl (by rw [ev9]; rfl) (by decide) rfl (fun ls hl => ?_)
        refine lv_goto (tgt := 28) hx hb dX8_restore_56 (by decide) ?_
        exact ih _ _ _ _ _ hH hS (lv_sub hl [1, 2, 0] rfl) hf
  have hl : lv_has ls 3 [(0, .ref w.2.2.2), (1, .int p0)] := hl
  refine lv_iload_n hx hb dX8_restore_0 rfl (lv_at hl 1 rfl) ?_
  obtain ⟨v10, h11, hf⟩ := gbind hf
  refine g_Si (As := [.int p0]) (rest := []) ⟨hx, hb, hml, hown, hts⟩ (c8_isSlot l w K g S p0 v10 h11) (gcwS hts i8_isSlot wd_928 rfl rfl ⟨Nat.le_of_ble_eq_true rfl, Nat.le_of_ble_eq_true rfl⟩) hH hK hS hl.1 rfl rfl (Nat.le_of_ble_eq_true rfl) dX8_restore_1 ⟨Nat.le_refl _, Nat.le_refl _⟩ (fun H locs hH hS => ?_)
  have hg := gif hf
  refine lv_if_ne (tgt := 10) hx hb dX8_restore_4 (by decide) (fun c12 => ?_) (fun c12 => ?_)
  · have hf := hg.2 c12
    refine lv_aload_n hx hb dX8_restore_10 rfl (lv_at hl 0 rfl) ?_
    refine e_8_5 hx hb hts hown hK hH (hts _ wd_105) dX8_restore_11 ?_
    refine lv_iload_n hx hb dX8_restore_14 rfl (lv_at hl 1 rfl) ?_
    obtain ⟨h14, hf⟩ := gd_some hf
    refine m_iald hx hb hK hH 5 (by decide) (by decide) rfl h14 dX8_restore_15 ?_
    have hg := gif hf
    refine lv_if_ne (tgt := 22) hx hb dX8_restore_16 (by decide) (fun c15 => ?_) (fun c15 => ?_)
    · have hf := hg.2 c15
      refine lv_aload_n hx hb dX8_restore_22 rfl (lv_at hl 0 rfl) ?_
      obtain ⟨g16, h17, hf⟩ := gbind hf
      refine g_Vv (As := []) (rest := []) ⟨hx, hb, hml, hown, hts⟩ (c8_record l w K g S g16 h17) (gcwV hts i8_record wd_161 rfl rfl ⟨Nat.le_of_ble_eq_true rfl, Nat.le_of_ble_eq_true rfl⟩) (gRecv.of hK rfl hH.ob) hH hK hS hl.1 rfl rfl (Nat.le_of_ble_eq_true rfl) dX8_restore_23 ⟨Nat.le_refl _, Nat.le_refl _⟩ (fun H locs hH hS => ?_)
      refine lv_iconst (v := 0) hx hb dX8_restore_26 (by decide) ?_
      refine lv_istore_n (lv' := [(2, .int 0), (0, .ref w.2.2.2), (1, .int p0)]) hx hb dX8_restore_27 rfl hl (by decide) rfl (fun ls hl => ?_)
      exact B28 _ _ _ _ _ _ hH hS (lv_sub hl [1, 2, 0] rfl) hf
    · have hf := hg.1 c15
      refine lv_bipush (v := (-5)) hx hb dX8_restore_19 (by decide) ?_
      have ho := Option.some.inj hf
      exact W.iret (v := (-5)) hx hb hr (fun t ht hW => ⟨⟨(-5), (), rfl, congrArg Prod.snd ho, hrPm ht ho hH⟩, hS.F ht⟩) hS.2.2 dX8_restore_21
  · have hf := hg.1 c12
    refine lv_bipush (v := (-2)) hx hb dX8_restore_7 (by decide) ?_
    have ho := Option.some.inj hf
    exact W.iret (v := (-2)) hx hb hr (fun t ht hW => ⟨⟨(-2), (), rfl, congrArg Prod.snd ho, hrPm ht ho hH⟩, hS.F ht⟩) hS.2.2 dX8_restore_9
