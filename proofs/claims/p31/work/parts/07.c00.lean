/-! contracts, by program -/
set_option maxRecDepth 100000 in
set_option maxHeartbeats 8000000 in
theorem c7_inRange (l : Launch) (w : GW) (K : GK) (g : GM) (S : GS) (p0 : Int32) (p1 : Int32) (out : Int32) (hf : f7_inRange p0 p1 = some out) : Met l yX7_inRange (wA yX7_inRange cX7_inRange 2 (some .boolean)) ({ frames := 0, cells := 0, slots := 0, locals := 0 } : Room) (PRE w K g S [.int p0, .int p1]) (QI w K g S out) 0 0 (FR w) := by
  unfold f7_inRange at hf
  refine Met.ofW (cc := cX7_inRange) (maxL := 2) (ret := (some .boolean)) (by decide) rfl ?_
  intro p e s m args below meth c s₁ B hml hv
  obtain ⟨rfl, hH, hK⟩ := hv
  have hx := B.exec
  have hb := B.bytes
  have hr := B.returns
  have hts : ∀ q ∈ gALL, q.before _ s = true := fun q h => atoms_spec (ws := (wA yX7_inRange cX7_inRange 2 (some .boolean))) B.pre q (List.mem_cons_of_mem _ h)
  have hown : s.vm.findClass RX7 = some m.cls := findClass_of_methodNamed B.named
  have hlocks := B.notSynchronized
  have hS : va_S (FR w) s.heap s.heap [] := va_S.rf
  show W p l e ({ frames := 0, cells := 0, slots := 0, locals := 0 } : Room) s m _ below meth c s.heap [] 0 0 (MQ below (QI w K g S out) _ s 0 0 (FR w)) _
  have hl := lv_entry ([.int p0, .int p1]) (n := 2) (Nat.le_of_ble_eq_true rfl)
  rw [lg_entry_eq]
  generalize (lg_sl ([.int p0, .int p1]) ++ List.replicate (2 - (lg_sl ([.int p0, .int p1])).length) Slot.unset).toArray = ls at hl ⊢
  clear B
  generalize ([.int p0, .int p1] : List Value).toArray = args at hts ⊢
  have B13 : ∀ (H : Heap) (locs : List Loc) (ls : Array Slot), HR w K g S H → va_S (FR w) s.heap H locs → lv_has ls 2 [] → f7_inRange_13 p0 p1 = some out → W p l e ({ frames := 0, cells := 0, slots := 0, locals := 0 } : Room) s m args below meth c H locs 0 0 (MQ below (QI w K g S out) args s 0 0 (FR w)) (F0 m 13 ls []) := by
    intro   H locs ls hH hS hl hf
    unfold f7_inRange_13 at hf
    refine lv_iconst (v := 0) hx hb dX7_inRange_13 (by decide) ?_
    have ho := Option.some.inj hf
    exact W.zret (v := 0) (ty := .boolean) hx hb hr rfl (fun t ht hW => ⟨⟨0, (), rfl, ho, hrE ht hH⟩, hS.F ht⟩) hS.2.2 dX7_inRange_14
  have hl : lv_has ls 2 [(0, .int p0), (1, .int p1)] := hl
  refine lv_iload_n hx hb dX7_inRange_0 rfl (lv_at hl 0 rfl) ?_
  have hg := gif hf
  refine lv_if_lt (tgt := 13) hx hb dX7_inRange_1 (by decide) (fun c1 => ?_) (fun c1 => ?_)
  · have hf := hg.1 c1
    exact B13 _ _ _ hH hS (lv_sub hl [] rfl) hf
  · have hf := hg.2 c1
    refine lv_iload_n hx hb dX7_inRange_4 rfl (lv_at hl 0 rfl) ?_
    refine lv_iload_n hx hb dX7_inRange_5 rfl (lv_at hl 1 rfl) ?_
    have hg := gif hf
    refine lv_icmp_ge (tgt := 13) hx hb dX7_inRange_6 (by decide) (fun c2 => ?_) (fun c2 => ?_)
    · have hf := hg.1 c2
      exact B13 _ _ _ hH hS (lv_sub hl [] rfl) hf
    · have hf := hg.2 c2
      refine lv_iconst (v := 1) hx hb dX7_inRange_9 (by decide) ?_
      refine lv_goto (tgt := 14) hx hb dX7_inRange_10 (by decide) ?_
      have ho := Option.some.inj hf
      exact W.zret (v := 1) (ty := .boolean) hx hb hr rfl (fun t ht hW => ⟨⟨1, (), rfl, ho, hrE ht hH⟩, hS.F ht⟩) hS.2.2 dX7_inRange_14
set_option maxRecDepth 100000 in
set_option maxHeartbeats 8000000 in
theorem c6_takesStep (l : Launch) (w : GW) (K : GK) (g : GM) (S : GS) (a : Nat) (p0 : Int32) (p1 : Int32) (out : GM × Int32) (hf : f6_takesStep K g a p0 p1 = some out) (hk0 : gkd K a = 7) : Met l yX6_takesStep (wA yX6_takesStep cX6_takesStep 3 (some .boolean)) ({ frames := 0, cells := 0, slots := 0, locals := 0 } : Room) (PRE w K g S [.ref a, .int p0, .int p1]) (QI w K out.1 S out.2) 0 0 (FR w) := by
  unfold f6_takesStep at hf
  refine Met.ofW (cc := cX6_takesStep) (maxL := 3) (ret := (some .boolean)) (by decide) rfl ?_
  intro p e s m args below meth c s₁ B hml hv
  obtain ⟨rfl, hH, hK⟩ := hv
  have hx := B.exec
  have hb := B.bytes
  have hr := B.returns
  have hts : ∀ q ∈ gALL, q.before _ s = true := fun q h => atoms_spec (ws := (wA yX6_takesStep cX6_takesStep 3 (some .boolean))) B.pre q (List.mem_cons_of_mem _ h)
  have hown : s.vm.findClass RX6 = some m.cls := findClass_of_methodNamed B.named
  have hlocks := B.notSynchronized
  have hS : va_S (FR w) s.heap s.heap [] := va_S.rf
  show W p l e ({ frames := 0, cells := 0, slots := 0, locals := 0 } : Room) s m _ below meth c s.heap [] 0 0 (MQ below (QI w K out.1 S out.2) _ s 0 0 (FR w)) _
  have hl := lv_entry ([.ref a, .int p0, .int p1]) (n := 3) (Nat.le_of_ble_eq_true rfl)
  rw [lg_entry_eq]
  generalize (lg_sl ([.ref a, .int p0, .int p1]) ++ List.replicate (3 - (lg_sl ([.ref a, .int p0, .int p1])).length) Slot.unset).toArray = ls at hl ⊢
  clear B
  generalize ([.ref a, .int p0, .int p1] : List Value).toArray = args at hts ⊢
  have B103 : ∀ (g : GM) (H : Heap) (locs : List Loc) (ls : Array Slot), HR w K g S H → va_S (FR w) s.heap H locs → lv_has ls 3 [(0, .ref a), (2, .int p1)] → f6_takesStep_103 K a p0 p1 g = some out → W p l e ({ frames := 0, cells := 0, slots := 0, locals := 0 } : Room) s m args below meth c H locs 0 0 (MQ below (QI w K out.1 S out.2) args s 0 0 (FR w)) (F0 m 103 ls []) := by
    intro  g H locs ls hH hS hl hf
    unfold f6_takesStep_103 at hf
    refine lv_aload_n hx hb dX6_takesStep_103 rfl (lv_at hl 0 rfl) ?_
    refine lv_iload_n hx hb dX6_takesStep_104 rfl (lv_at hl 1 rfl) ?_
    refine p_6_12 hx hb hts hown hK hH hS hk0 (hts _ wd_225) dX6_takesStep_105 (fun H locs hH hS => ?_)
    obtain ⟨g1, eg1⟩ : ∃ z : GM, z = gsI g a 12 p1 := ⟨_, rfl⟩
    have hf := gl_at hf eg1
    replace hH : HR w K g1 S H := by rw [eg1]; exact hH
    refine lv_aload_n hx hb dX6_takesStep_108 rfl (lv_at hl 0 rfl) ?_
    have k2 : K.1 (a + 2) = (10, 80) := hH.sub hk0 1 (t := (2, 10, 80)) rfl
    refine e_6_1 hx hb hts hown hK hH hk0 (hts _ wd_42) dX6_takesStep_109 ?_
    refine lv_iload_n hx hb dX6_takesStep_112 rfl (lv_at hl 1 rfl) ?_
    refine lv_iconst (v := 1) hx hb dX6_takesStep_113 (by decide) ?_
    obtain ⟨h4, hf⟩ := gd_some hf
    refine g_iast hx hb hK hH hS k2 h4 dX6_takesStep_114 (fun H locs hH hS => ?_)
    obtain ⟨g5, eg5⟩ : ∃ z : GM, z = gsI g1 (a + 2) p1.toNatClampNeg 1 := ⟨_, rfl⟩
    have hf := gl_at hf eg5
    replace hH : HR w K g5 S H := by rw [eg5]; exact hH
    refine lv_aload_n hx hb dX6_takesStep_115 rfl (lv_at hl 0 rfl) ?_
    have k6 : K.1 (a + 3) = (10, 80) := hH.sub hk0 2 (t := (3, 10, 80)) rfl
    refine e_6_2 hx hb hts hown hK hH hk0 (hts _ wd_43) dX6_takesStep_116 ?_
    refine lv_iload_n hx hb dX6_takesStep_119 rfl (lv_at hl 1 rfl) ?_
    refine lv_iconst (v := 0) hx hb dX6_takesStep_120 (by decide) ?_
    refine g_iast hx hb hK hH hS k6 h4 dX6_takesStep_121 (fun H locs hH hS => ?_)
    obtain ⟨g8, eg8⟩ : ∃ z : GM, z = gsI g5 (a + 3) p1.toNatClampNeg 0 := ⟨_, rfl⟩
    have hf := gl_at hf eg8
    replace hH : HR w K g8 S H := by rw [eg8]; exact hH
    refine lv_aload_n hx hb dX6_takesStep_122 rfl (lv_at hl 0 rfl) ?_
    have k9 : K.1 (a + 4) = (10, 80) := hH.sub hk0 3 (t := (4, 10, 80)) rfl
    refine e_6_3 hx hb hts hown hK hH hk0 (hts _ wd_44) dX6_takesStep_123 ?_
    refine lv_iload_n hx hb dX6_takesStep_126 rfl (lv_at hl 1 rfl) ?_
    refine lv_iload_n hx hb dX6_takesStep_127 rfl (lv_at hl 1 rfl) ?_
    refine lv_iconst (v := 1) hx hb dX6_takesStep_128 (by decide) ?_
    refine lv_iadd hx hb dX6_takesStep_129 ?_
    refine g_iast hx hb hK hH hS k9 h4 dX6_takesStep_130 (fun H locs hH hS => ?_)
    obtain ⟨g11, eg11⟩ : ∃ z : GM, z = gsI g8 (a + 4) p1.toNatClampNeg (p1 + 1) := ⟨_, rfl⟩
    have hf := gl_at hf eg11
    replace hH : HR w K g11 S H := by rw [eg11]; exact hH
    refine lv_aload_n hx hb dX6_takesStep_131 rfl (lv_at hl 0 rfl) ?_
    have k12 : K.1 (a + 5) = (10, 80) := hH.sub hk0 4 (t := (5, 10, 80)) rfl
    refine e_6_4 hx hb hts hown hK hH hk0 (hts _ wd_45) dX6_takesStep_132 ?_
    refine lv_iload_n hx hb dX6_takesStep_135 rfl (lv_at hl 1 rfl) ?_
    refine lv_iload_n hx hb dX6_takesStep_136 rfl (lv_at hl 1 rfl) ?_
    refine lv_iconst (v := 1) hx hb dX6_takesStep_137 (by decide) ?_
    refine lv_iadd hx hb dX6_takesStep_138 ?_
    refine g_iast hx hb hK hH hS k12 h4 dX6_takesStep_139 (fun H locs hH hS => ?_)
    obtain ⟨g14, eg14⟩ : ∃ z : GM, z = gsI g11 (a + 5) p1.toNatClampNeg (p1 + 1) := ⟨_, rfl⟩
    have hf := gl_at hf eg14
    replace hH : HR w K g14 S H := by rw [eg14]; exact hH
    refine lv_aload_n hx hb dX6_takesStep_140 rfl (lv_at hl 0 rfl) ?_
    refine lv_dup hx hb dX6_takesStep_141 rfl ?_
    refine e_6_6 hx hb hts hown hK hH hk0 (hts _ wd_221) dX6_takesStep_142 ?_
    refine lv_iconst (v := 1) hx hb dX6_takesStep_145 (by decide) ?_
    refine lv_iadd hx hb dX6_takesStep_146 ?_
    refine p_6_6 hx hb hts hown hK hH hS hk0 (hts _ wd_221) dX6_takesStep_147 (fun H locs hH hS => ?_)
    obtain ⟨g15, eg15⟩ : ∃ z : GM, z = gsI g14 a 6 ((gI g14 a 6) + 1) := ⟨_, rfl⟩
    have hf := gl_at hf eg15
    replace hH : HR w K g15 S H := by rw [eg15]; exact hH
    refine lv_iconst (v := 1) hx hb dX6_takesStep_150 (by decide) ?_
    have ho := Option.some.inj hf
    exact W.zret (v := 1) (ty := .boolean) hx hb hr rfl (fun t ht hW => ⟨⟨1, (), rfl, congrArg Prod.snd ho, hrP ht ho hH⟩, hS.F ht⟩) hS.2.2 dX6_takesStep_151
  have hl : lv_has ls 3 [(0, .ref a), (1, .int p0), (2, .int p1)] := hl
  refine lv_iload_n hx hb dX6_takesStep_0 rfl (lv_at hl 1 rfl) ?_
  have hg := gif hf
  by_cases c16 : p0 = 99
  · have hf := hg.1 c16
    refine lv_lookup (tgt := 68) hx hb dX6_takesStep_1 (by decide +kernel) (by rw [c16]; first | done | decide +kernel) (by decide) ?_
    refine lv_aload_n hx hb dX6_takesStep_68 rfl (lv_at hl 0 rfl) ?_
    refine lv_iconst (v := 4) hx hb dX6_takesStep_69 (by decide) ?_
    refine p_6_11 hx hb hts hown hK hH hS hk0 (hts _ wd_226) dX6_takesStep_70 (fun H locs hH hS => ?_)
    obtain ⟨g17, eg17⟩ : ∃ z : GM, z = gsI g a 11 4 := ⟨_, rfl⟩
    have hf := gl_at hf eg17
    replace hH : HR w K g17 S H := by rw [eg17]; exact hH
    refine lv_goto (tgt := 103) hx hb dX6_takesStep_73 (by decide) ?_
    exact B103 _ _ _ _ hH hS (lv_sub hl [0, 2] rfl) hf
  have hf := hg.2 c16
  have hg := gif hf
  by_cases c18 : p0 = 107
  · have hf := hg.1 c18
    refine lv_lookup (tgt := 76) hx hb dX6_takesStep_1 (by decide +kernel) (by rw [c18]; first | done | decide +kernel) (by decide) ?_
    refine lv_aload_n hx hb dX6_takesStep_76 rfl (lv_at hl 0 rfl) ?_
    refine lv_iconst (v := 5) hx hb dX6_takesStep_77 (by decide) ?_
    refine p_6_11 hx hb hts hown hK hH hS hk0 (hts _ wd_226) dX6_takesStep_78 (fun H locs hH hS => ?_)
    obtain ⟨g19, eg19⟩ : ∃ z : GM, z = gsI g a 11 5 := ⟨_, rfl⟩
    have hf := gl_at hf eg19
    replace hH : HR w K g19 S H := by rw [eg19]; exact hH
    refine lv_goto (tgt := 103) hx hb dX6_takesStep_81 (by decide) ?_
    exact B103 _ _ _ _ hH hS (lv_sub hl [0, 2] rfl) hf
  have hf := hg.2 c18
  have hg := gif hf
  by_cases c20 : p0 = 108
  · have hf := hg.1 c20
    refine lv_lookup (tgt := 92) hx hb dX6_takesStep_1 (by decide +kernel) (by rw [c20]; first | done | decide +kernel) (by decide) ?_
    refine lv_aload_n hx hb dX6_takesStep_92 rfl (lv_at hl 0 rfl) ?_
    refine lv_bipush (v := 6) hx hb dX6_takesStep_93 (by decide) ?_
    refine p_6_11 hx hb hts hown hK hH hS hk0 (hts _ wd_226) dX6_takesStep_95 (fun H locs hH hS => ?_)
    obtain ⟨g21, eg21⟩ : ∃ z : GM, z = gsI g a 11 6 := ⟨_, rfl⟩
    have hf := gl_at hf eg21
    replace hH : HR w K g21 S H := by rw [eg21]; exact hH
    refine lv_goto (tgt := 103) hx hb dX6_takesStep_98 (by decide) ?_
    exact B103 _ _ _ _ hH hS (lv_sub hl [0, 2] rfl) hf
  have hf := hg.2 c20
  have hg := gif hf
  by_cases c22 : p0 = 115
  · have hf := hg.1 c22
    refine lv_lookup (tgt := 92) hx hb dX6_takesStep_1 (by decide +kernel) (by rw [c22]; first | done | decide +kernel) (by decide) ?_
    refine lv_aload_n hx hb dX6_takesStep_92 rfl (lv_at hl 0 rfl) ?_
    refine lv_bipush (v := 6) hx hb dX6_takesStep_93 (by decide) ?_
    refine p_6_11 hx hb hts hown hK hH hS hk0 (hts _ wd_226) dX6_takesStep_95 (fun H locs hH hS => ?_)
    obtain ⟨g23, eg23⟩ : ∃ z : GM, z = gsI g a 11 6 := ⟨_, rfl⟩
    have hf := gl_at hf eg23
    replace hH : HR w K g23 S H := by rw [eg23]; exact hH
    refine lv_goto (tgt := 103) hx hb dX6_takesStep_98 (by decide) ?_
    exact B103 _ _ _ _ hH hS (lv_sub hl [0, 2] rfl) hf
  have hf := hg.2 c22
  have hg := gif hf
  by_cases c24 : p0 = 119
  · have hf := hg.1 c24
    refine lv_lookup (tgt := 60) hx hb dX6_takesStep_1 (by decide +kernel) (by rw [c24]; first | done | decide +kernel) (by decide) ?_
    refine lv_aload_n hx hb dX6_takesStep_60 rfl (lv_at hl 0 rfl) ?_
    refine lv_iconst (v := 2) hx hb dX6_takesStep_61 (by decide) ?_
    refine p_6_11 hx hb hts hown hK hH hS hk0 (hts _ wd_226) dX6_takesStep_62 (fun H locs hH hS => ?_)
    obtain ⟨g25, eg25⟩ : ∃ z : GM, z = gsI g a 11 2 := ⟨_, rfl⟩
    have hf := gl_at hf eg25
    replace hH : HR w K g25 S H := by rw [eg25]; exact hH
    refine lv_goto (tgt := 103) hx hb dX6_takesStep_65 (by decide) ?_
    exact B103 _ _ _ _ hH hS (lv_sub hl [0, 2] rfl) hf
  have hf := hg.2 c24
  have hg := gif hf
  by_cases c26 : p0 = 120
  · have hf := hg.1 c26
    refine lv_lookup (tgt := 84) hx hb dX6_takesStep_1 (by decide +kernel) (by rw [c26]; first | done | decide +kernel) (by decide) ?_
    refine lv_aload_n hx hb dX6_takesStep_84 rfl (lv_at hl 0 rfl) ?_
    refine lv_iconst (v := 3) hx hb dX6_takesStep_85 (by decide) ?_
    refine p_6_11 hx hb hts hown hK hH hS hk0 (hts _ wd_226) dX6_takesStep_86 (fun H locs hH hS => ?_)
    obtain ⟨g27, eg27⟩ : ∃ z : GM, z = gsI g a 11 3 := ⟨_, rfl⟩
    have hf := gl_at hf eg27
    replace hH : HR w K g27 S H := by rw [eg27]; exact hH
    refine lv_goto (tgt := 103) hx hb dX6_takesStep_89 (by decide) ?_
    exact B103 _ _ _ _ hH hS (lv_sub hl [0, 2] rfl) hf
  have hf := hg.2 c26
  have nc16 : p0.toInt ≠ 99 := g_ne c16 (by decide)
  have nc18 : p0.toInt ≠ 107 := g_ne c18 (by decide)
  have nc20 : p0.toInt ≠ 108 := g_ne c20 (by decide)
  have nc22 : p0.toInt ≠ 115 := g_ne c22 (by decide)
  have nc24 : p0.toInt ≠ 119 := g_ne c24 (by decide)
  have nc26 : p0.toInt ≠ 120 := g_ne c26 (by decide)
  refine lv_lookup (off := 100) (tgt := 101) hx hb dX6_takesStep_1 (by decide +kernel) (by simp [Op.lookupswitch.offset, nc16, nc18, nc20, nc22, nc24, nc26, nc16.symm, nc18.symm, nc20.symm, nc22.symm, nc24.symm, nc26.symm]) (by decide) ?_
  refine lv_iconst (v := 0) hx hb dX6_takesStep_101 (by decide) ?_
  have ho := Option.some.inj hf
  exact W.zret (v := 0) (ty := .boolean) hx hb hr rfl (fun t ht hW => ⟨⟨0, (), rfl, congrArg Prod.snd ho, hrP ht ho hH⟩, hS.F ht⟩) hS.2.2 dX6_takesStep_102
set_option maxRecDepth 100000 in
set_option maxHeartbeats 8000000 in
theorem c6_takesEnd (l : Launch) (w : GW) (K : GK) (g : GM) (S : GS) (a : Nat) (p0 : Int32) (out : GM × Int32) (hf : f6_takesEnd K g a p0 = some out) (hk0 : gkd K a = 7) : Met l yX6_takesEnd (wA yX6_takesEnd cX6_takesEnd 2 (some .boolean)) ({ frames := 0, cells := 0, slots := 0, locals := 0 } : Room) (PRE w K g S [.ref a, .int p0]) (QI w K out.1 S out.2) 0 0 (FR w) := by
  unfold f6_takesEnd at hf
  refine Met.ofW (cc := cX6_takesEnd) (maxL := 2) (ret := (some .boolean)) (by decide) rfl ?_
  intro p e s m args below meth c s₁ B hml hv
  obtain ⟨rfl, hH, hK⟩ := hv
  have hx := B.exec
  have hb := B.bytes
  have hr := B.returns
  have hts : ∀ q ∈ gALL, q.before _ s = true := fun q h => atoms_spec (ws := (wA yX6_takesEnd cX6_takesEnd 2 (some .boolean))) B.pre q (List.mem_cons_of_mem _ h)
  have hown : s.vm.findClass RX6 = some m.cls := findClass_of_methodNamed B.named
  have hlocks := B.notSynchronized
  have hS : va_S (FR w) s.heap s.heap [] := va_S.rf
  show W p l e ({ frames := 0, cells := 0, slots := 0, locals := 0 } : Room) s m _ below meth c s.heap [] 0 0 (MQ below (QI w K out.1 S out.2) _ s 0 0 (FR w)) _
  have hl := lv_entry ([.ref a, .int p0]) (n := 2) (Nat.le_of_ble_eq_true rfl)
  rw [lg_entry_eq]
  generalize (lg_sl ([.ref a, .int p0]) ++ List.replicate (2 - (lg_sl ([.ref a, .int p0])).length) Slot.unset).toArray = ls at hl ⊢
  clear B
  generalize ([.ref a, .int p0] : List Value).toArray = args at hts ⊢
  have hl : lv_has ls 2 [(0, .ref a), (1, .int p0)] := hl
  refine lv_aload_n hx hb dX6_takesEnd_0 rfl (lv_at hl 0 rfl) ?_
  refine e_6_10 hx hb hts hown hK hH hk0 (hts _ wd_224) dX6_takesEnd_1 ?_
  have hg := gif hf
  refine lv_if_gt (tgt := 9) hx hb dX6_takesEnd_4 (by decide) (fun c1 => ?_) (fun c1 => ?_)
  · have hf := hg.1 c1
    refine lv_aload_n hx hb dX6_takesEnd_9 rfl (lv_at hl 0 rfl) ?_
    refine lv_dup hx hb dX6_takesEnd_10 rfl ?_
    refine e_6_10 hx hb hts hown hK hH hk0 (hts _ wd_224) dX6_takesEnd_11 ?_
    refine lv_iconst (v := 1) hx hb dX6_takesEnd_14 (by decide) ?_
    refine lv_isub hx hb dX6_takesEnd_15 ?_
    refine p_6_10 hx hb hts hown hK hH hS hk0 (hts _ wd_224) dX6_takesEnd_16 (fun H locs hH hS => ?_)
    obtain ⟨g2, eg2⟩ : ∃ z : GM, z = gsI g a 10 ((gI g a 10) - 1) := ⟨_, rfl⟩
    have hf := gl_at hf eg2
    replace hH : HR w K g2 S H := by rw [eg2]; exact hH
    refine lv_aload_n hx hb dX6_takesEnd_19 rfl (lv_at hl 0 rfl) ?_
    have k3 : K.1 (a + 5) = (10, 80) := hH.sub hk0 4 (t := (5, 10, 80)) rfl
    refine e_6_4 hx hb hts hown hK hH hk0 (hts _ wd_45) dX6_takesEnd_20 ?_
    refine lv_aload_n hx hb dX6_takesEnd_23 rfl (lv_at hl 0 rfl) ?_
    have k4 : K.1 (a + 6) = (10, 3) := hH.sub hk0 5 (t := (6, 10, 3)) rfl
    refine e_6_9 hx hb hts hown hK hH hk0 (hts _ wd_46) dX6_takesEnd_24 ?_
    refine lv_aload_n hx hb dX6_takesEnd_27 rfl (lv_at hl 0 rfl) ?_
    refine e_6_10 hx hb hts hown hK hH hk0 (hts _ wd_224) dX6_takesEnd_28 ?_
    obtain ⟨h6, hf⟩ := gd_some hf
    refine g_iald hx hb hK hH k4 h6 dX6_takesEnd_31 ?_
    refine lv_iload_n hx hb dX6_takesEnd_32 rfl (lv_at hl 1 rfl) ?_
    refine lv_iconst (v := 1) hx hb dX6_takesEnd_33 (by decide) ?_
    refine lv_iadd hx hb dX6_takesEnd_34 ?_
    obtain ⟨h8, hf⟩ := gd_some hf
    refine g_iast hx hb hK hH hS k3 h8 dX6_takesEnd_35 (fun H locs hH hS => ?_)
    obtain ⟨g9, eg9⟩ : ∃ z : GM, z = gsI g2 (a + 5) (gI g2 (a + 6) (gI g2 a 10).toNatClampNeg).toNatClampNeg (p0 + 1) := ⟨_, rfl⟩
    have hf := gl_at hf eg9
    replace hH : HR w K g9 S H := by rw [eg9]; exact hH
    refine lv_aload_n hx hb dX6_takesEnd_36 rfl (lv_at hl 0 rfl) ?_
    refine lv_iconst (v := 1) hx hb dX6_takesEnd_37 (by decide) ?_
    refine p_6_11 hx hb hts hown hK hH hS hk0 (hts _ wd_226) dX6_takesEnd_38 (fun H locs hH hS => ?_)
    obtain ⟨g10, eg10⟩ : ∃ z : GM, z = gsI g9 a 11 1 := ⟨_, rfl⟩
    have hf := gl_at hf eg10
    replace hH : HR w K g10 S H := by rw [eg10]; exact hH
    refine lv_iconst (v := 1) hx hb dX6_takesEnd_41 (by decide) ?_
    have ho := Option.some.inj hf
    exact W.zret (v := 1) (ty := .boolean) hx hb hr rfl (fun t ht hW => ⟨⟨1, (), rfl, congrArg Prod.snd ho, hrP ht ho hH⟩, hS.F ht⟩) hS.2.2 dX6_takesEnd_42
  · have hf := hg.2 c1
    refine lv_iconst (v := 0) hx hb dX6_takesEnd_7 (by decide) ?_
    have ho := Option.some.inj hf
    exact W.zret (v := 0) (ty := .boolean) hx hb hr rfl (fun t ht hW => ⟨⟨0, (), rfl, congrArg Prod.snd ho, hrP ht ho hH⟩, hS.F ht⟩) hS.2.2 dX6_takesEnd_8
set_option maxRecDepth 100000 in
set_option maxHeartbeats 8000000 in
theorem c6_isCount (l : Launch) (w : GW) (K : GK) (g : GM) (S : GS) (p0 : Int32) (out : Int32) (hf : f6_isCount p0 = some out) : Met l yX6_isCount (wA yX6_isCount cX6_isCount 1 (some .boolean)) ({ frames := 0, cells := 0, slots := 0, locals := 0 } : Room) (PRE w K g S [.int p0]) (QI w K g S out) 0 0 (FR w) := by
  unfold f6_isCount at hf
  refine Met.ofW (cc := cX6_isCount) (maxL := 1) (ret := (some .boolean)) (by decide) rfl ?_
  intro p e s m args below meth c s₁ B hml hv
  obtain ⟨rfl, hH, hK⟩ := hv
  have hx := B.exec
  have hb := B.bytes
  have hr := B.returns
  have hts : ∀ q ∈ gALL, q.before _ s = true := fun q h => atoms_spec (ws := (wA yX6_isCount cX6_isCount 1 (some .boolean))) B.pre q (List.mem_cons_of_mem _ h)
  have hown : s.vm.findClass RX6 = some m.cls := findClass_of_methodNamed B.named
  have hlocks := B.notSynchronized
  have hS : va_S (FR w) s.heap s.heap [] := va_S.rf
  show W p l e ({ frames := 0, cells := 0, slots := 0, locals := 0 } : Room) s m _ below meth c s.heap [] 0 0 (MQ below (QI w K g S out) _ s 0 0 (FR w)) _
  have hl := lv_entry ([.int p0]) (n := 1) (Nat.le_of_ble_eq_true rfl)
  rw [lg_entry_eq]
  generalize (lg_sl ([.int p0]) ++ List.replicate (1 - (lg_sl ([.int p0])).length) Slot.unset).toArray = ls at hl ⊢
  clear B
  generalize ([.int p0] : List Value).toArray = args at hts ⊢
  have B16 : ∀ (H : Heap) (locs : List Loc) (ls : Array Slot), HR w K g S H → va_S (FR w) s.heap H locs → lv_has ls 1 [] → f6_isCount_16 p0 = some out → W p l e ({ frames := 0, cells := 0, slots := 0, locals := 0 } : Room) s m args below meth c H locs 0 0 (MQ below (QI w K g S out) args s 0 0 (FR w)) (F0 m 16 ls []) := by
    intro   H locs ls hH hS hl hf
    unfold f6_isCount_16 at hf
    refine lv_iconst (v := 0) hx hb dX6_isCount_16 (by decide) ?_
    have ho := Option.some.inj hf
    exact W.zret (v := 0) (ty := .boolean) hx hb hr rfl (fun t ht hW => ⟨⟨0, (), rfl, ho, hrE ht hH⟩, hS.F ht⟩) hS.2.2 dX6_isCount_17
  have hl : lv_has ls 1 [(0, .int p0)] := hl
  refine lv_iload_n hx hb dX6_isCount_0 rfl (lv_at hl 0 rfl) ?_
  refine lv_bipush (v := 50) hx hb dX6_isCount_1 (by decide) ?_
  have hg := gif hf
  refine lv_icmp_lt (tgt := 16) hx hb dX6_isCount_3 (by decide) (fun c1 => ?_) (fun c1 => ?_)
  · have hf := hg.1 c1
    exact B16 _ _ _ hH hS (lv_sub hl [] rfl) hf
  · have hf := hg.2 c1
    refine lv_iload_n hx hb dX6_isCount_6 rfl (lv_at hl 0 rfl) ?_
    refine lv_bipush (v := 57) hx hb dX6_isCount_7 (by decide) ?_
    have hg := gif hf
    refine lv_icmp_gt (tgt := 16) hx hb dX6_isCount_9 (by decide) (fun c2 => ?_) (fun c2 => ?_)
    · have hf := hg.1 c2
      exact B16 _ _ _ hH hS (lv_sub hl [] rfl) hf
    · have hf := hg.2 c2
      refine lv_iconst (v := 1) hx hb dX6_isCount_12 (by decide) ?_
      refine lv_goto (tgt := 17) hx hb dX6_isCount_13 (by decide) ?_
      have ho := Option.some.inj hf
      exact W.zret (v := 1) (ty := .boolean) hx hb hr rfl (fun t ht hW => ⟨⟨1, (), rfl, ho, hrE ht hH⟩, hS.F ht⟩) hS.2.2 dX6_isCount_17
set_option maxRecDepth 100000 in
set_option maxHeartbeats 8000000 in
theorem c6_takesPickCount (l : Launch) (w : GW) (K : GK) (g : GM) (S : GS) (a : Nat) (p0 : Int32) (p1 : Int32) (out : GM × Int32) (hf : f6_takesPickCount K g a p0 p1 = some out) (hk0 : gkd K a = 7) : Met l yX6_takesPickCount (wA yX6_takesPickCount cX6_takesPickCount 3 (some .boolean)) ({ frames := 0, cells := 0, slots := 0, locals := 0 } : Room) (PRE w K g S [.ref a, .int p0, .int p1]) (QI w K out.1 S out.2) 0 0 (FR w) := by
  unfold f6_takesPickCount at hf
  refine Met.ofW (cc := cX6_takesPickCount) (maxL := 3) (ret := (some .boolean)) (by decide) rfl ?_
  intro p e s m args below meth c s₁ B hml hv
  obtain ⟨rfl, hH, hK⟩ := hv
  have hx := B.exec
  have hb := B.bytes
  have hr := B.returns
  have hts : ∀ q ∈ gALL, q.before _ s = true := fun q h => atoms_spec (ws := (wA yX6_takesPickCount cX6_takesPickCount 3 (some .boolean))) B.pre q (List.mem_cons_of_mem _ h)
  have hown : s.vm.findClass RX6 = some m.cls := findClass_of_methodNamed B.named
  have hlocks := B.notSynchronized
  have hS : va_S (FR w) s.heap s.heap [] := va_S.rf
  show W p l e ({ frames := 0, cells := 0, slots := 0, locals := 0 } : Room) s m _ below meth c s.heap [] 0 0 (MQ below (QI w K out.1 S out.2) _ s 0 0 (FR w)) _
  have hl := lv_entry ([.ref a, .int p0, .int p1]) (n := 3) (Nat.le_of_ble_eq_true rfl)
  rw [lg_entry_eq]
  generalize (lg_sl ([.ref a, .int p0, .int p1]) ++ List.replicate (3 - (lg_sl ([.ref a, .int p0, .int p1])).length) Slot.unset).toArray = ls at hl ⊢
  clear B
  generalize ([.ref a, .int p0, .int p1] : List Value).toArray = args at hts ⊢
  have hl : lv_has ls 3 [(0, .ref a), (1, .int p0), (2, .int p1)] := hl
  refine lv_aload_n hx hb dX6_takesPickCount_0 rfl (lv_at hl 0 rfl) ?_
  have k1 : K.1 (a + 2) = (10, 80) := hH.sub hk0 1 (t := (2, 10, 80)) rfl
  refine e_6_1 hx hb hts hown hK hH hk0 (hts _ wd_42) dX6_takesPickCount_1 ?_
  refine lv_aload_n hx hb dX6_takesPickCount_4 rfl (lv_at hl 0 rfl) ?_
  refine e_6_12 hx hb hts hown hK hH hk0 (hts _ wd_225) dX6_takesPickCount_5 ?_
  refine lv_iload_n hx hb dX6_takesPickCount_8 rfl (lv_at hl 1 rfl) ?_
  refine lv_bipush (v := 48) hx hb dX6_takesPickCount_9 (by decide) ?_
  refine lv_isub hx hb dX6_takesPickCount_11 ?_
  obtain ⟨h3, hf⟩ := gd_some hf
  refine g_iast hx hb hK hH hS k1 h3 dX6_takesPickCount_12 (fun H locs hH hS => ?_)
  obtain ⟨g4, eg4⟩ : ∃ z : GM, z = gsI g (a + 2) (gI g a 12).toNatClampNeg (p0 - 48) := ⟨_, rfl⟩
  have hf := gl_at hf eg4
  replace hH : HR w K g4 S H := by rw [eg4]; exact hH
  refine lv_aload_n hx hb dX6_takesPickCount_13 rfl (lv_at hl 0 rfl) ?_
  have k5 : K.1 (a + 5) = (10, 80) := hH.sub hk0 4 (t := (5, 10, 80)) rfl
  refine e_6_4 hx hb hts hown hK hH hk0 (hts _ wd_45) dX6_takesPickCount_14 ?_
  refine lv_aload_n hx hb dX6_takesPickCount_17 rfl (lv_at hl 0 rfl) ?_
  refine e_6_12 hx hb hts hown hK hH hk0 (hts _ wd_225) dX6_takesPickCount_18 ?_
  refine lv_iload_n hx hb dX6_takesPickCount_21 rfl (lv_at hl 2 rfl) ?_
  refine lv_iconst (v := 1) hx hb dX6_takesPickCount_22 (by decide) ?_
  refine lv_iadd hx hb dX6_takesPickCount_23 ?_
  obtain ⟨h7, hf⟩ := gd_some hf
  refine g_iast hx hb hK hH hS k5 h7 dX6_takesPickCount_24 (fun H locs hH hS => ?_)
  obtain ⟨g8, eg8⟩ : ∃ z : GM, z = gsI g4 (a + 5) (gI g4 a 12).toNatClampNeg (p1 + 1) := ⟨_, rfl⟩
  have hf := gl_at hf eg8
  replace hH : HR w K g8 S H := by rw [eg8]; exact hH
  refine lv_aload_n hx hb dX6_takesPickCount_25 rfl (lv_at hl 0 rfl) ?_
  refine lv_iconst (v := 1) hx hb dX6_takesPickCount_26 (by decide) ?_
  refine p_6_11 hx hb hts hown hK hH hS hk0 (hts _ wd_226) dX6_takesPickCount_27 (fun H locs hH hS => ?_)
  obtain ⟨g9, eg9⟩ : ∃ z : GM, z = gsI g8 a 11 1 := ⟨_, rfl⟩
  have hf := gl_at hf eg9
  replace hH : HR w K g9 S H := by rw [eg9]; exact hH
  refine lv_iconst (v := 1) hx hb dX6_takesPickCount_30 (by decide) ?_
  have ho := Option.some.inj hf
  exact W.zret (v := 1) (ty := .boolean) hx hb hr rfl (fun t ht hW => ⟨⟨1, (), rfl, congrArg Prod.snd ho, hrP ht ho hH⟩, hS.F ht⟩) hS.2.2 dX6_takesPickCount_31
set_option maxRecDepth 100000 in
set_option maxHeartbeats 8000000 in
theorem c6_takesPartCount (l : Launch) (w : GW) (K : GK) (g : GM) (S : GS) (a : Nat) (p0 : Int32) (out : GM × Int32) (hf : f6_takesPartCount K g a p0 = some out) (hk0 : gkd K a = 7) : Met l yX6_takesPartCount (wA yX6_takesPartCount cX6_takesPartCount 2 (some .boolean)) ({ frames := 1, cells := 0, slots := 0, locals := 20 } : Room) (PRE w K g S [.ref a, .int p0]) (QI w K out.1 S out.2) 0 0 (FR w) := by
  unfold f6_takesPartCount at hf
  refine Met.ofW (cc := cX6_takesPartCount) (maxL := 2) (ret := (some .boolean)) (by decide) rfl ?_
  intro p e s m args below meth c s₁ B hml hv
  obtain ⟨rfl, hH, hK⟩ := hv
  have hx := B.exec
  have hb := B.bytes
  have hr := B.returns
  have hts : ∀ q ∈ gALL, q.before _ s = true := fun q h => atoms_spec (ws := (wA yX6_takesPartCount cX6_takesPartCount 2 (some .boolean))) B.pre q (List.mem_cons_of_mem _ h)
  have hown : s.vm.findClass RX6 = some m.cls := findClass_of_methodNamed B.named
  have hlocks := B.notSynchronized
  have hS : va_S (FR w) s.heap s.heap [] := va_S.rf
  show W p l e ({ frames := 1, cells := 0, slots := 0, locals := 20 } : Room) s m _ below meth c s.heap [] 0 0 (MQ below (QI w K out.1 S out.2) _ s 0 0 (FR w)) _
  have hl := lv_entry ([.ref a, .int p0]) (n := 2) (Nat.le_of_ble_eq_true rfl)
  rw [lg_entry_eq]
  generalize (lg_sl ([.ref a, .int p0]) ++ List.replicate (2 - (lg_sl ([.ref a, .int p0])).length) Slot.unset).toArray = ls at hl ⊢
  clear B
  generalize ([.ref a, .int p0] : List Value).toArray = args at hts ⊢
  have hl : lv_has ls 2 [(0, .ref a), (1, .int p0)] := hl
  refine lv_iload_n hx hb dX6_takesPartCount_0 rfl (lv_at hl 1 rfl) ?_
  obtain ⟨v1, h2, hf⟩ := gbind hf
  refine g_Si (As := [.int p0]) (rest := []) ⟨hx, hb, hml, hown, hts⟩ (c6_isCount l w K g S p0 v1 h2) (gcwS hts i6_isCount wd_244 rfl rfl ⟨Nat.le_of_ble_eq_true rfl, Nat.le_of_ble_eq_true rfl⟩) hH hK hS hl.1 rfl rfl (Nat.le_of_ble_eq_true rfl) dX6_takesPartCount_1 ⟨Nat.le_refl _, Nat.le_refl _⟩ (fun H locs hH hS => ?_)
  have hg := gif hf
  refine lv_if_ne (tgt := 9) hx hb dX6_takesPartCount_4 (by decide) (fun c3 => ?_) (fun c3 => ?_)
  · have hf := hg.2 c3
    refine lv_aload_n hx hb dX6_takesPartCount_9 rfl (lv_at hl 0 rfl) ?_
    have k4 : K.1 (a + 2) = (10, 80) := hH.sub hk0 1 (t := (2, 10, 80)) rfl
    refine e_6_1 hx hb hts hown hK hH hk0 (hts _ wd_42) dX6_takesPartCount_10 ?_
    refine lv_aload_n hx hb dX6_takesPartCount_13 rfl (lv_at hl 0 rfl) ?_
    refine e_6_12 hx hb hts hown hK hH hk0 (hts _ wd_225) dX6_takesPartCount_14 ?_
    refine lv_iload_n hx hb dX6_takesPartCount_17 rfl (lv_at hl 1 rfl) ?_
    refine lv_bipush (v := 48) hx hb dX6_takesPartCount_18 (by decide) ?_
    refine lv_isub hx hb dX6_takesPartCount_20 ?_
    obtain ⟨h6, hf⟩ := gd_some hf
    refine g_iast hx hb hK hH hS k4 h6 dX6_takesPartCount_21 (fun H locs hH hS => ?_)
    obtain ⟨g7, eg7⟩ : ∃ z : GM, z = gsI g (a + 2) (gI g a 12).toNatClampNeg (p0 - 48) := ⟨_, rfl⟩
    have hf := gl_at hf eg7
    replace hH : HR w K g7 S H := by rw [eg7]; exact hH
    refine lv_aload_n hx hb dX6_takesPartCount_22 rfl (lv_at hl 0 rfl) ?_
    refine lv_bipush (v := 6) hx hb dX6_takesPartCount_23 (by decide) ?_
    refine p_6_11 hx hb hts hown hK hH hS hk0 (hts _ wd_226) dX6_takesPartCount_25 (fun H locs hH hS => ?_)
    obtain ⟨g8, eg8⟩ : ∃ z : GM, z = gsI g7 a 11 6 := ⟨_, rfl⟩
    have hf := gl_at hf eg8
    replace hH : HR w K g8 S H := by rw [eg8]; exact hH
    refine lv_iconst (v := 1) hx hb dX6_takesPartCount_28 (by decide) ?_
    have ho := Option.some.inj hf
    exact W.zret (v := 1) (ty := .boolean) hx hb hr rfl (fun t ht hW => ⟨⟨1, (), rfl, congrArg Prod.snd ho, hrP ht ho hH⟩, hS.F ht⟩) hS.2.2 dX6_takesPartCount_29
  · have hf := hg.1 c3
    refine lv_iconst (v := 0) hx hb dX6_takesPartCount_7 (by decide) ?_
    have ho := Option.some.inj hf
    exact W.zret (v := 0) (ty := .boolean) hx hb hr rfl (fun t ht hW => ⟨⟨0, (), rfl, congrArg Prod.snd ho, hrP ht ho hH⟩, hS.F ht⟩) hS.2.2 dX6_takesPartCount_8
set_option maxRecDepth 100000 in
set_option maxHeartbeats 8000000 in
theorem c6_takesDigit (l : Launch) (w : GW) (K : GK) (g : GM) (S : GS) (a : Nat) (p0 : Int32) (p1 : Int32) (out : GM × Int32) (hf : f6_takesDigit K g a p0 p1 = some out) (hk0 : gkd K a = 7) : Met l yX6_takesDigit (wA yX6_takesDigit cX6_takesDigit 3 (some .boolean)) ({ frames := 0, cells := 0, slots := 0, locals := 0 } : Room) (PRE w K g S [.ref a, .int p0, .int p1]) (QI w K out.1 S out.2) 0 0 (FR w) := by
  unfold f6_takesDigit at hf
  refine Met.ofW (cc := cX6_takesDigit) (maxL := 3) (ret := (some .boolean)) (by decide) rfl ?_
  intro p e s m args below meth c s₁ B hml hv
  obtain ⟨rfl, hH, hK⟩ := hv
  have hx := B.exec
  have hb := B.bytes
  have hr := B.returns
  have hts : ∀ q ∈ gALL, q.before _ s = true := fun q h => atoms_spec (ws := (wA yX6_takesDigit cX6_takesDigit 3 (some .boolean))) B.pre q (List.mem_cons_of_mem _ h)
  have hown : s.vm.findClass RX6 = some m.cls := findClass_of_methodNamed B.named
  have hlocks := B.notSynchronized
  have hS : va_S (FR w) s.heap s.heap [] := va_S.rf
  show W p l e ({ frames := 0, cells := 0, slots := 0, locals := 0 } : Room) s m _ below meth c s.heap [] 0 0 (MQ below (QI w K out.1 S out.2) _ s 0 0 (FR w)) _
  have hl := lv_entry ([.ref a, .int p0, .int p1]) (n := 3) (Nat.le_of_ble_eq_true rfl)
  rw [lg_entry_eq]
  generalize (lg_sl ([.ref a, .int p0, .int p1]) ++ List.replicate (3 - (lg_sl ([.ref a, .int p0, .int p1])).length) Slot.unset).toArray = ls at hl ⊢
  clear B
  generalize ([.ref a, .int p0, .int p1] : List Value).toArray = args at hts ⊢
  have hl : lv_has ls 3 [(0, .ref a), (1, .int p0), (2, .int p1)] := hl
  refine lv_aload_n hx hb dX6_takesDigit_0 rfl (lv_at hl 0 rfl) ?_
  have k1 : K.1 (a + 3) = (10, 80) := hH.sub hk0 2 (t := (3, 10, 80)) rfl
  refine e_6_2 hx hb hts hown hK hH hk0 (hts _ wd_43) dX6_takesDigit_1 ?_
  refine lv_aload_n hx hb dX6_takesDigit_4 rfl (lv_at hl 0 rfl) ?_
  refine e_6_12 hx hb hts hown hK hH hk0 (hts _ wd_225) dX6_takesDigit_5 ?_
  refine lv_iload_n hx hb dX6_takesDigit_8 rfl (lv_at hl 1 rfl) ?_
  refine lv_bipush (v := 48) hx hb dX6_takesDigit_9 (by decide) ?_
  refine lv_isub hx hb dX6_takesDigit_11 ?_
  obtain ⟨h3, hf⟩ := gd_some hf
  refine g_iast hx hb hK hH hS k1 h3 dX6_takesDigit_12 (fun H locs hH hS => ?_)
  obtain ⟨g4, eg4⟩ : ∃ z : GM, z = gsI g (a + 3) (gI g a 12).toNatClampNeg (p0 - 48) := ⟨_, rfl⟩
  have hf := gl_at hf eg4
  replace hH : HR w K g4 S H := by rw [eg4]; exact hH
  refine lv_aload_n hx hb dX6_takesDigit_13 rfl (lv_at hl 0 rfl) ?_
  have k5 : K.1 (a + 5) = (10, 80) := hH.sub hk0 4 (t := (5, 10, 80)) rfl
  refine e_6_4 hx hb hts hown hK hH hk0 (hts _ wd_45) dX6_takesDigit_14 ?_
  refine lv_aload_n hx hb dX6_takesDigit_17 rfl (lv_at hl 0 rfl) ?_
  refine e_6_12 hx hb hts hown hK hH hk0 (hts _ wd_225) dX6_takesDigit_18 ?_
  refine lv_iload_n hx hb dX6_takesDigit_21 rfl (lv_at hl 2 rfl) ?_
  refine lv_iconst (v := 1) hx hb dX6_takesDigit_22 (by decide) ?_
  refine lv_iadd hx hb dX6_takesDigit_23 ?_
  obtain ⟨h7, hf⟩ := gd_some hf
  refine g_iast hx hb hK hH hS k5 h7 dX6_takesDigit_24 (fun H locs hH hS => ?_)
  obtain ⟨g8, eg8⟩ : ∃ z : GM, z = gsI g4 (a + 5) (gI g4 a 12).toNatClampNeg (p1 + 1) := ⟨_, rfl⟩
  have hf := gl_at hf eg8
  replace hH : HR w K g8 S H := by rw [eg8]; exact hH
  refine lv_aload_n hx hb dX6_takesDigit_25 rfl (lv_at hl 0 rfl) ?_
  refine lv_iconst (v := 1) hx hb dX6_takesDigit_26 (by decide) ?_
  refine p_6_11 hx hb hts hown hK hH hS hk0 (hts _ wd_226) dX6_takesDigit_27 (fun H locs hH hS => ?_)
  obtain ⟨g9, eg9⟩ : ∃ z : GM, z = gsI g8 a 11 1 := ⟨_, rfl⟩
  have hf := gl_at hf eg9
  replace hH : HR w K g9 S H := by rw [eg9]; exact hH
  refine lv_iconst (v := 1) hx hb dX6_takesDigit_30 (by decide) ?_
  have ho := Option.some.inj hf
  exact W.zret (v := 1) (ty := .boolean) hx hb hr rfl (fun t ht hW => ⟨⟨1, (), rfl, congrArg Prod.snd ho, hrP ht ho hH⟩, hS.F ht⟩) hS.2.2 dX6_takesDigit_31
set_option maxRecDepth 100000 in
set_option maxHeartbeats 8000000 in
theorem c6_takesBracket (l : Launch) (w : GW) (K : GK) (g : GM) (S : GS) (a : Nat) (p0 : Int32) (p1 : Int32) (out : GM × Int32) (hf : f6_takesBracket K g a p0 p1 = some out) (hk0 : gkd K a = 7) : Met l yX6_takesBracket (wA yX6_takesBracket cX6_takesBracket 3 (some .boolean)) ({ frames := 1, cells := 0, slots := 0, locals := 30 } : Room) (PRE w K g S [.ref a, .int p0, .int p1]) (QI w K out.1 S out.2) 0 0 (FR w) := by
  unfold f6_takesBracket at hf
  refine Met.ofW (cc := cX6_takesBracket) (maxL := 3) (ret := (some .boolean)) (by decide) rfl ?_
  intro p e s m args below meth c s₁ B hml hv
  obtain ⟨rfl, hH, hK⟩ := hv
  have hx := B.exec
  have hb := B.bytes
  have hr := B.returns
  have hts : ∀ q ∈ gALL, q.before _ s = true := fun q h => atoms_spec (ws := (wA yX6_takesBracket cX6_takesBracket 3 (some .boolean))) B.pre q (List.mem_cons_of_mem _ h)
  have hown : s.vm.findClass RX6 = some m.cls := findClass_of_methodNamed B.named
  have hlocks := B.notSynchronized
  have hS : va_S (FR w) s.heap s.heap [] := va_S.rf
  show W p l e ({ frames := 1, cells := 0, slots := 0, locals := 30 } : Room) s m _ below meth c s.heap [] 0 0 (MQ below (QI w K out.1 S out.2) _ s 0 0 (FR w)) _
  have hl := lv_entry ([.ref a, .int p0, .int p1]) (n := 3) (Nat.le_of_ble_eq_true rfl)
  rw [lg_entry_eq]
  generalize (lg_sl ([.ref a, .int p0, .int p1]) ++ List.replicate (3 - (lg_sl ([.ref a, .int p0, .int p1])).length) Slot.unset).toArray = ls at hl ⊢
  clear B
  generalize ([.ref a, .int p0, .int p1] : List Value).toArray = args at hts ⊢
  have hl : lv_has ls 3 [(0, .ref a), (1, .int p0), (2, .int p1)] := hl
  refine lv_iload_n hx hb dX6_takesBracket_0 rfl (lv_at hl 1 rfl) ?_
  refine lv_bipush (v := 40) hx hb dX6_takesBracket_1 (by decide) ?_
  have hg := gif hf
  refine lv_icmp_ne (tgt := 14) hx hb dX6_takesBracket_3 (by decide) (fun c1 => ?_) (fun c1 => ?_)
  · have hf := hg.2 c1
    refine lv_iconst (v := 0) hx hb dX6_takesBracket_14 (by decide) ?_
    have ho := Option.some.inj hf
    exact W.zret (v := 0) (ty := .boolean) hx hb hr rfl (fun t ht hW => ⟨⟨0, (), rfl, congrArg Prod.snd ho, hrP ht ho hH⟩, hS.F ht⟩) hS.2.2 dX6_takesBracket_15
  · have hf := hg.1 c1
    refine lv_aload_n hx hb dX6_takesBracket_6 rfl (lv_at hl 0 rfl) ?_
    refine e_6_10 hx hb hts hown hK hH hk0 (hts _ wd_224) dX6_takesBracket_7 ?_
    refine lv_iconst (v := 3) hx hb dX6_takesBracket_10 (by decide) ?_
    have hg := gif hf
    refine lv_icmp_lt (tgt := 16) hx hb dX6_takesBracket_11 (by decide) (fun c2 => ?_) (fun c2 => ?_)
    · have hf := hg.1 c2
      refine lv_aload_n hx hb dX6_takesBracket_16 rfl (lv_at hl 0 rfl) ?_
      have k3 : K.1 (a + 4) = (10, 80) := hH.sub hk0 3 (t := (4, 10, 80)) rfl
      refine e_6_3 hx hb hts hown hK hH hk0 (hts _ wd_44) dX6_takesBracket_17 ?_
      refine lv_aload_n hx hb dX6_takesBracket_20 rfl (lv_at hl 0 rfl) ?_
      refine e_6_12 hx hb hts hown hK hH hk0 (hts _ wd_225) dX6_takesBracket_21 ?_
      refine lv_iload_n hx hb dX6_takesBracket_24 rfl (lv_at hl 2 rfl) ?_
      refine lv_iconst (v := 1) hx hb dX6_takesBracket_25 (by decide) ?_
      refine lv_iadd hx hb dX6_takesBracket_26 ?_
      obtain ⟨h5, hf⟩ := gd_some hf
      refine g_iast hx hb hK hH hS k3 h5 dX6_takesBracket_27 (fun H locs hH hS => ?_)
      obtain ⟨g6, eg6⟩ : ∃ z : GM, z = gsI g (a + 4) (gI g a 12).toNatClampNeg (p1 + 1) := ⟨_, rfl⟩
      have hf := gl_at hf eg6
      replace hH : HR w K g6 S H := by rw [eg6]; exact hH
      refine lv_aload_n hx hb dX6_takesBracket_28 rfl (lv_at hl 0 rfl) ?_
      have k7 : K.1 (a + 6) = (10, 3) := hH.sub hk0 5 (t := (6, 10, 3)) rfl
      refine e_6_9 hx hb hts hown hK hH hk0 (hts _ wd_46) dX6_takesBracket_29 ?_
      refine lv_aload_n hx hb dX6_takesBracket_32 rfl (lv_at hl 0 rfl) ?_
      refine e_6_10 hx hb hts hown hK hH hk0 (hts _ wd_224) dX6_takesBracket_33 ?_
      refine lv_aload_n hx hb dX6_takesBracket_36 rfl (lv_at hl 0 rfl) ?_
      refine e_6_12 hx hb hts hown hK hH hk0 (hts _ wd_225) dX6_takesBracket_37 ?_
      obtain ⟨h9, hf⟩ := gd_some hf
      refine g_iast hx hb hK hH hS k7 h9 dX6_takesBracket_40 (fun H locs hH hS => ?_)
      obtain ⟨g10, eg10⟩ : ∃ z : GM, z = gsI g6 (a + 6) (gI g6 a 10).toNatClampNeg (gI g6 a 12) := ⟨_, rfl⟩
      have hf := gl_at hf eg10
      replace hH : HR w K g10 S H := by rw [eg10]; exact hH
      refine lv_aload_n hx hb dX6_takesBracket_41 rfl (lv_at hl 0 rfl) ?_
      refine lv_dup hx hb dX6_takesBracket_42 rfl ?_
      refine e_6_10 hx hb hts hown hK hH hk0 (hts _ wd_224) dX6_takesBracket_43 ?_
      refine lv_iconst (v := 1) hx hb dX6_takesBracket_46 (by decide) ?_
      refine lv_iadd hx hb dX6_takesBracket_47 ?_
      refine p_6_10 hx hb hts hown hK hH hS hk0 (hts _ wd_224) dX6_takesBracket_48 (fun H locs hH hS => ?_)
      obtain ⟨g11, eg11⟩ : ∃ z : GM, z = gsI g10 a 10 ((gI g10 a 10) + 1) := ⟨_, rfl⟩
      have hf := gl_at hf eg11
      replace hH : HR w K g11 S H := by rw [eg11]; exact hH
      refine lv_aload_n hx hb dX6_takesBracket_51 rfl (lv_at hl 0 rfl) ?_
      refine lv_aload_n hx hb dX6_takesBracket_52 rfl (lv_at hl 0 rfl) ?_
      refine e_6_8 hx hb hts hown hK hH hk0 (hts _ wd_223) dX6_takesBracket_53 ?_
      refine lv_aload_n hx hb dX6_takesBracket_56 rfl (lv_at hl 0 rfl) ?_
      refine e_6_10 hx hb hts hown hK hH hk0 (hts _ wd_224) dX6_takesBracket_57 ?_
      refine va_mmax hx hb (hml.trans hl.1.symm) hown (hts _ wd_263) (hts _ wd_149) (hts _ wd_150) (hts _ wd_151) (Nat.le_of_ble_eq_true rfl) (Nat.le_of_ble_eq_true rfl) (Nat.le_of_ble_eq_true rfl) (Nat.le_of_ble_eq_true rfl) dX6_takesBracket_60 ?_
      refine p_6_8 hx hb hts hown hK hH hS hk0 (hts _ wd_223) dX6_takesBracket_63 (fun H locs hH hS => ?_)
      obtain ⟨g12, eg12⟩ : ∃ z : GM, z = gsI g11 a 8 (if (gI g11 a 8) < (gI g11 a 10) then (gI g11 a 10) else (gI g11 a 8)) := ⟨_, rfl⟩
      have hf := gl_at hf eg12
      replace hH : HR w K g12 S H := by rw [eg12]; exact hH
      refine lv_aload_n hx hb dX6_takesBracket_66 rfl (lv_at hl 0 rfl) ?_
      refine lv_iconst (v := 0) hx hb dX6_takesBracket_67 (by decide) ?_
      refine p_6_11 hx hb hts hown hK hH hS hk0 (hts _ wd_226) dX6_takesBracket_68 (fun H locs hH hS => ?_)
      obtain ⟨g13, eg13⟩ : ∃ z : GM, z = gsI g12 a 11 0 := ⟨_, rfl⟩
      have hf := gl_at hf eg13
      replace hH : HR w K g13 S H := by rw [eg13]; exact hH
      refine lv_iconst (v := 1) hx hb dX6_takesBracket_71 (by decide) ?_
      have ho := Option.some.inj hf
      exact W.zret (v := 1) (ty := .boolean) hx hb hr rfl (fun t ht hW => ⟨⟨1, (), rfl, congrArg Prod.snd ho, hrP ht ho hH⟩, hS.F ht⟩) hS.2.2 dX6_takesBracket_72
    · have hf := hg.2 c2
      refine lv_iconst (v := 0) hx hb dX6_takesBracket_14 (by decide) ?_
      have ho := Option.some.inj hf
      exact W.zret (v := 0) (ty := .boolean) hx hb hr rfl (fun t ht hW => ⟨⟨0, (), rfl, congrArg Prod.snd ho, hrP ht ho hH⟩, hS.F ht⟩) hS.2.2 dX6_takesBracket_15
set_option maxRecDepth 100000 in
set_option maxHeartbeats 8000000 in
theorem c6_takes (l : Launch) (w : GW) (K : GK) (g : GM) (S : GS) (a : Nat) (p0 : Int32) (p1 : Int32) (out : GM × Int32) (hf : f6_takes K g a p0 p1 = some out) (hk0 : gkd K a = 7) : Met l yX6_takes (wA yX6_takes cX6_takes 3 (some .boolean)) ({ frames := 2, cells := 0, slots := 0, locals := 52 } : Room) (PRE w K g S [.ref a, .int p0, .int p1]) (QI w K out.1 S out.2) 0 0 (FR w) := by
  unfold f6_takes at hf
  refine Met.ofW (cc := cX6_takes) (maxL := 3) (ret := (some .boolean)) (by decide) rfl ?_
  intro p e s m args below meth c s₁ B hml hv
  obtain ⟨rfl, hH, hK⟩ := hv
  have hx := B.exec
  have hb := B.bytes
  have hr := B.returns
  have hts : ∀ q ∈ gALL, q.before _ s = true := fun q h => atoms_spec (ws := (wA yX6_takes cX6_takes 3 (some .boolean))) B.pre q (List.mem_cons_of_mem _ h)
  have hown : s.vm.findClass RX6 = some m.cls := findClass_of_methodNamed B.named
  have hlocks := B.notSynchronized
  have hS : va_S (FR w) s.heap s.heap [] := va_S.rf
  show W p l e ({ frames := 2, cells := 0, slots := 0, locals := 52 } : Room) s m _ below meth c s.heap [] 0 0 (MQ below (QI w K out.1 S out.2) _ s 0 0 (FR w)) _
  have hl := lv_entry ([.ref a, .int p0, .int p1]) (n := 3) (Nat.le_of_ble_eq_true rfl)
  rw [lg_entry_eq]
  generalize (lg_sl ([.ref a, .int p0, .int p1]) ++ List.replicate (3 - (lg_sl ([.ref a, .int p0, .int p1])).length) Slot.unset).toArray = ls at hl ⊢
  clear B
  generalize ([.ref a, .int p0, .int p1] : List Value).toArray = args at hts ⊢
  have B138 : ∀ (g : GM) (H : Heap) (locs : List Loc) (ls : Array Slot), HR w K g S H → va_S (FR w) s.heap H locs → lv_has ls 3 [] → f6_takes_138 K a p0 p1 g = some out → W p l e ({ frames := 2, cells := 0, slots := 0, locals := 52 } : Room) s m args below meth c H locs 0 0 (MQ below (QI w K out.1 S out.2) args s 0 0 (FR w)) (F0 m 138 ls []) := by
    intro  g H locs ls hH hS hl hf
    unfold f6_takes_138 at hf
    refine lv_iconst (v := 0) hx hb dX6_takes_138 (by decide) ?_
    have ho := Option.some.inj hf
    exact W.zret (v := 0) (ty := .boolean) hx hb hr rfl (fun t ht hW => ⟨⟨0, (), rfl, congrArg Prod.snd ho, hrP ht ho hH⟩, hS.F ht⟩) hS.2.2 dX6_takes_139
  have hl : lv_has ls 3 [(0, .ref a), (1, .int p0), (2, .int p1)] := hl
  refine lv_aload_n hx hb dX6_takes_0 rfl (lv_at hl 0 rfl) ?_
  refine e_6_11 hx hb hts hown hK hH hk0 (hts _ wd_226) dX6_takes_1 ?_
  refine lv_topi (fun v1 ev1 => ?_)
  have hf := gl_at hf ev1
  have hg := gif hf
  by_cases c2 : v1 = 0
  · have hf := hg.1 c2
    refine lv_tableIn (off := 40) (tgt := 44) hx hb dX6_takes_4 (by rw [c2]; decide) (by rw [c2]; decide) (by rw [c2]; decide +kernel) (by decide) ?_
    refine lv_aload_n hx hb dX6_takes_44 rfl (lv_at hl 0 rfl) ?_
    refine lv_iload_n hx hb dX6_takes_45 rfl (lv_at hl 1 rfl) ?_
    refine lv_iload_n hx hb dX6_takes_46 rfl (lv_at hl 2 rfl) ?_
    obtain ⟨r3, h4, hf⟩ := gbind hf
    refine g_Vi (As := [.int p0, .int p1]) (rest := []) ⟨hx, hb, hml, hown, hts⟩ (c6_takesStep l w K g S a p0 p1 r3 h4 hk0) (gcwV hts i6_takesStep wd_236 rfl rfl ⟨Nat.le_of_ble_eq_true rfl, Nat.le_of_ble_eq_true rfl⟩) (gRecv.of hK rfl (hH.o7 hk0)) hH hK hS hl.1 rfl rfl (Nat.le_of_ble_eq_true rfl) dX6_takes_47 ⟨Nat.le_refl _, Nat.le_refl _⟩ (fun H locs hH hS => ?_)
    obtain ⟨h5, hf⟩ := gd_some hf
    have ho := Option.some.inj hf
    exact W.zret (v := r3.2) (ty := .boolean) hx hb hr (gbl_n h5) (fun t ht hW => ⟨⟨r3.2, (), rfl, congrArg Prod.snd ho, hrP ht ho hH⟩, hS.F ht⟩) hS.2.2 dX6_takes_50
  have hf := hg.2 c2
  have hg := gif hf
  by_cases c6 : v1 = 1
  · have hf := hg.1 c6
    refine lv_tableIn (off := 47) (tgt := 51) hx hb dX6_takes_4 (by rw [c6]; decide) (by rw [c6]; decide) (by rw [c6]; decide +kernel) (by decide) ?_
    refine lv_iload_n hx hb dX6_takes_51 rfl (lv_at hl 1 rfl) ?_
    refine lv_bipush (v := 41) hx hb dX6_takes_52 (by decide) ?_
    have hg := gif hf
    refine lv_icmp_ne (tgt := 65) hx hb dX6_takes_54 (by decide) (fun c7 => ?_) (fun c7 => ?_)
    · have hf := hg.2 c7
      refine lv_aload_n hx hb dX6_takes_65 rfl (lv_at hl 0 rfl) ?_
      refine lv_iload_n hx hb dX6_takes_66 rfl (lv_at hl 1 rfl) ?_
      refine lv_iload_n hx hb dX6_takes_67 rfl (lv_at hl 2 rfl) ?_
      obtain ⟨r8, h9, hf⟩ := gbind hf
      refine g_Vi (As := [.int p0, .int p1]) (rest := []) ⟨hx, hb, hml, hown, hts⟩ (c6_takesStep l w K g S a p0 p1 r8 h9 hk0) (gcwV hts i6_takesStep wd_236 rfl rfl ⟨Nat.le_of_ble_eq_true rfl, Nat.le_of_ble_eq_true rfl⟩) (gRecv.of hK rfl (hH.o7 hk0)) hH hK hS hl.1 rfl rfl (Nat.le_of_ble_eq_true rfl) dX6_takes_68 ⟨Nat.le_refl _, Nat.le_refl _⟩ (fun H locs hH hS => ?_)
      obtain ⟨h10, hf⟩ := gd_some hf
      have ho := Option.some.inj hf
      exact W.zret (v := r8.2) (ty := .boolean) hx hb hr (gbl_n h10) (fun t ht hW => ⟨⟨r8.2, (), rfl, congrArg Prod.snd ho, hrP ht ho hH⟩, hS.F ht⟩) hS.2.2 dX6_takes_71
    · have hf := hg.1 c7
      refine lv_aload_n hx hb dX6_takes_57 rfl (lv_at hl 0 rfl) ?_
      refine lv_iload_n hx hb dX6_takes_58 rfl (lv_at hl 2 rfl) ?_
      obtain ⟨r11, h12, hf⟩ := gbind hf
      refine g_Vi (As := [.int p1]) (rest := []) ⟨hx, hb, hml, hown, hts⟩ (c6_takesEnd l w K g S a p1 r11 h12 hk0) (gcwV hts i6_takesEnd wd_240 rfl rfl ⟨Nat.le_of_ble_eq_true rfl, Nat.le_of_ble_eq_true rfl⟩) (gRecv.of hK rfl (hH.o7 hk0)) hH hK hS hl.1 rfl rfl (Nat.le_of_ble_eq_true rfl) dX6_takes_59 ⟨Nat.le_refl _, Nat.le_refl _⟩ (fun H locs hH hS => ?_)
      refine lv_goto (tgt := 71) hx hb dX6_takes_62 (by decide) ?_
      obtain ⟨h13, hf⟩ := gd_some hf
      have ho := Option.some.inj hf
      exact W.zret (v := r11.2) (ty := .boolean) hx hb hr (gbl_n h13) (fun t ht hW => ⟨⟨r11.2, (), rfl, congrArg Prod.snd ho, hrP ht ho hH⟩, hS.F ht⟩) hS.2.2 dX6_takes_71
  have hf := hg.2 c6
  have hg := gif hf
  by_cases c14 : v1 = 2
  · have hf := hg.1 c14
    refine lv_tableIn (off := 68) (tgt := 72) hx hb dX6_takes_4 (by rw [c14]; decide) (by rw [c14]; decide) (by rw [c14]; decide +kernel) (by decide) ?_
    refine lv_iload_n hx hb dX6_takes_72 rfl (lv_at hl 1 rfl) ?_
    obtain ⟨v15, h16, hf⟩ := gbind hf
    refine g_Si (As := [.int p0]) (rest := []) ⟨hx, hb, hml, hown, hts⟩ (c6_isCount l w K g S p0 v15 h16) (gcwS hts i6_isCount wd_244 rfl rfl ⟨Nat.le_of_ble_eq_true rfl, Nat.le_of_ble_eq_true rfl⟩) hH hK hS hl.1 rfl rfl (Nat.le_of_ble_eq_true rfl) dX6_takes_73 ⟨Nat.le_refl _, Nat.le_refl _⟩ (fun H locs hH hS => ?_)
    have hg := gif hf
    refine lv_if_eq (tgt := 86) hx hb dX6_takes_76 (by decide) (fun c17 => ?_) (fun c17 => ?_)
    · have hf := hg.1 c17
      refine lv_iload_n hx hb dX6_takes_86 rfl (lv_at hl 1 rfl) ?_
      refine lv_bipush (v := 41) hx hb dX6_takes_87 (by decide) ?_
      have hg := gif hf
      refine lv_icmp_ne (tgt := 100) hx hb dX6_takes_89 (by decide) (fun c18 => ?_) (fun c18 => ?_)
      · have hf := hg.2 c18
        refine lv_aload_n hx hb dX6_takes_100 rfl (lv_at hl 0 rfl) ?_
        refine lv_iload_n hx hb dX6_takes_101 rfl (lv_at hl 1 rfl) ?_
        refine lv_iload_n hx hb dX6_takes_102 rfl (lv_at hl 2 rfl) ?_
        obtain ⟨r19, h20, hf⟩ := gbind hf
        refine g_Vi (As := [.int p0, .int p1]) (rest := []) ⟨hx, hb, hml, hown, hts⟩ (c6_takesStep l w K g S a p0 p1 r19 h20 hk0) (gcwV hts i6_takesStep wd_236 rfl rfl ⟨Nat.le_of_ble_eq_true rfl, Nat.le_of_ble_eq_true rfl⟩) (gRecv.of hK rfl (hH.o7 hk0)) hH hK hS hl.1 rfl rfl (Nat.le_of_ble_eq_true rfl) dX6_takes_103 ⟨Nat.le_refl _, Nat.le_refl _⟩ (fun H locs hH hS => ?_)
        obtain ⟨h21, hf⟩ := gd_some hf
        have ho := Option.some.inj hf
        exact W.zret (v := r19.2) (ty := .boolean) hx hb hr (gbl_n h21) (fun t ht hW => ⟨⟨r19.2, (), rfl, congrArg Prod.snd ho, hrP ht ho hH⟩, hS.F ht⟩) hS.2.2 dX6_takes_106
      · have hf := hg.1 c18
        refine lv_aload_n hx hb dX6_takes_92 rfl (lv_at hl 0 rfl) ?_
        refine lv_iload_n hx hb dX6_takes_93 rfl (lv_at hl 2 rfl) ?_
        obtain ⟨r22, h23, hf⟩ := gbind hf
        refine g_Vi (As := [.int p1]) (rest := []) ⟨hx, hb, hml, hown, hts⟩ (c6_takesEnd l w K g S a p1 r22 h23 hk0) (gcwV hts i6_takesEnd wd_240 rfl rfl ⟨Nat.le_of_ble_eq_true rfl, Nat.le_of_ble_eq_true rfl⟩) (gRecv.of hK rfl (hH.o7 hk0)) hH hK hS hl.1 rfl rfl (Nat.le_of_ble_eq_true rfl) dX6_takes_94 ⟨Nat.le_refl _, Nat.le_refl _⟩ (fun H locs hH hS => ?_)
        refine lv_goto (tgt := 106) hx hb dX6_takes_97 (by decide) ?_
        obtain ⟨h24, hf⟩ := gd_some hf
        have ho := Option.some.inj hf
        exact W.zret (v := r22.2) (ty := .boolean) hx hb hr (gbl_n h24) (fun t ht hW => ⟨⟨r22.2, (), rfl, congrArg Prod.snd ho, hrP ht ho hH⟩, hS.F ht⟩) hS.2.2 dX6_takes_106
    · have hf := hg.2 c17
      refine lv_aload_n hx hb dX6_takes_79 rfl (lv_at hl 0 rfl) ?_
      refine lv_iload_n hx hb dX6_takes_80 rfl (lv_at hl 1 rfl) ?_
      refine lv_iload_n hx hb dX6_takes_81 rfl (lv_at hl 2 rfl) ?_
      obtain ⟨r25, h26, hf⟩ := gbind hf
      refine g_Vi (As := [.int p0, .int p1]) (rest := []) ⟨hx, hb, hml, hown, hts⟩ (c6_takesPickCount l w K g S a p0 p1 r25 h26 hk0) (gcwV hts i6_takesPickCount wd_247 rfl rfl ⟨Nat.le_of_ble_eq_true rfl, Nat.le_of_ble_eq_true rfl⟩) (gRecv.of hK rfl (hH.o7 hk0)) hH hK hS hl.1 rfl rfl (Nat.le_of_ble_eq_true rfl) dX6_takes_82 ⟨Nat.le_refl _, Nat.le_refl _⟩ (fun H locs hH hS => ?_)
      obtain ⟨h27, hf⟩ := gd_some hf
      have ho := Option.some.inj hf
      exact W.zret (v := r25.2) (ty := .boolean) hx hb hr (gbl_n h27) (fun t ht hW => ⟨⟨r25.2, (), rfl, congrArg Prod.snd ho, hrP ht ho hH⟩, hS.F ht⟩) hS.2.2 dX6_takes_85
  have hf := hg.2 c14
  have hg := gif hf
  by_cases c28 : v1 = 3
  · have hf := hg.1 c28
    refine lv_tableIn (off := 103) (tgt := 107) hx hb dX6_takes_4 (by rw [c28]; decide) (by rw [c28]; decide) (by rw [c28]; decide +kernel) (by decide) ?_
    refine lv_aload_n hx hb dX6_takes_107 rfl (lv_at hl 0 rfl) ?_
    refine lv_iload_n hx hb dX6_takes_108 rfl (lv_at hl 1 rfl) ?_
    obtain ⟨r29, h30, hf⟩ := gbind hf
    refine g_Vi (As := [.int p0]) (rest := []) ⟨hx, hb, hml, hown, hts⟩ (c6_takesPartCount l w K g S a p0 r29 h30 hk0) (gcwV hts i6_takesPartCount wd_251 rfl rfl ⟨Nat.le_of_ble_eq_true rfl, Nat.le_of_ble_eq_true rfl⟩) (gRecv.of hK rfl (hH.o7 hk0)) hH hK hS hl.1 rfl rfl (Nat.le_of_ble_eq_true rfl) dX6_takes_109 ⟨Nat.le_refl _, Nat.le_refl _⟩ (fun H locs hH hS => ?_)
    obtain ⟨h31, hf⟩ := gd_some hf
    have ho := Option.some.inj hf
    exact W.zret (v := r29.2) (ty := .boolean) hx hb hr (gbl_n h31) (fun t ht hW => ⟨⟨r29.2, (), rfl, congrArg Prod.snd ho, hrP ht ho hH⟩, hS.F ht⟩) hS.2.2 dX6_takes_112
  have hf := hg.2 c28
  have hg := gif hf
  by_cases c32 : v1 = 4
  · have hf := hg.1 c32
    refine lv_tableIn (off := 109) (tgt := 113) hx hb dX6_takes_4 (by rw [c32]; decide) (by rw [c32]; decide) (by rw [c32]; decide +kernel) (by decide) ?_
    refine lv_iload_n hx hb dX6_takes_113 rfl (lv_at hl 1 rfl) ?_
    refine lv_bipush (v := 48) hx hb dX6_takes_114 (by decide) ?_
    have hg := gif hf
    refine lv_icmp_lt (tgt := 138) hx hb dX6_takes_116 (by decide) (fun c33 => ?_) (fun c33 => ?_)
    · have hf := hg.1 c33
      exact B138 _ _ _ _ hH hS (lv_sub hl [] rfl) hf
    · have hf := hg.2 c33
      refine lv_iload_n hx hb dX6_takes_119 rfl (lv_at hl 1 rfl) ?_
      refine lv_bipush (v := 54) hx hb dX6_takes_120 (by decide) ?_
      have hg := gif hf
      refine lv_icmp_ge (tgt := 138) hx hb dX6_takes_122 (by decide) (fun c34 => ?_) (fun c34 => ?_)
      · have hf := hg.1 c34
        exact B138 _ _ _ _ hH hS (lv_sub hl [] rfl) hf
      · have hf := hg.2 c34
        refine lv_aload_n hx hb dX6_takes_125 rfl (lv_at hl 0 rfl) ?_
        refine lv_iload_n hx hb dX6_takes_126 rfl (lv_at hl 1 rfl) ?_
        refine lv_iload_n hx hb dX6_takes_127 rfl (lv_at hl 2 rfl) ?_
        obtain ⟨r35, h36, hf⟩ := gbind hf
        refine g_Vi (As := [.int p0, .int p1]) (rest := []) ⟨hx, hb, hml, hown, hts⟩ (c6_takesDigit l w K g S a p0 p1 r35 h36 hk0) (gcwV hts i6_takesDigit wd_255 rfl rfl ⟨Nat.le_of_ble_eq_true rfl, Nat.le_of_ble_eq_true rfl⟩) (gRecv.of hK rfl (hH.o7 hk0)) hH hK hS hl.1 rfl rfl (Nat.le_of_ble_eq_true rfl) dX6_takes_128 ⟨Nat.le_refl _, Nat.le_refl _⟩ (fun H locs hH hS => ?_)
        have hg := gif hf
        refine lv_if_eq (tgt := 138) hx hb dX6_takes_131 (by decide) (fun c37 => ?_) (fun c37 => ?_)
        · have hf := hg.1 c37
          exact B138 _ _ _ _ hH hS (lv_sub hl [] rfl) hf
        · have hf := hg.2 c37
          refine lv_iconst (v := 1) hx hb dX6_takes_134 (by decide) ?_
          refine lv_goto (tgt := 139) hx hb dX6_takes_135 (by decide) ?_
          have ho := Option.some.inj hf
          exact W.zret (v := 1) (ty := .boolean) hx hb hr rfl (fun t ht hW => ⟨⟨1, (), rfl, congrArg Prod.snd ho, hrP ht ho hH⟩, hS.F ht⟩) hS.2.2 dX6_takes_139
  have hf := hg.2 c32
  have hg := gif hf
  by_cases c38 : v1 = 5
  · have hf := hg.1 c38
    refine lv_tableIn (off := 136) (tgt := 140) hx hb dX6_takes_4 (by rw [c38]; decide) (by rw [c38]; decide) (by rw [c38]; decide +kernel) (by decide) ?_
    refine lv_iload_n hx hb dX6_takes_140 rfl (lv_at hl 1 rfl) ?_
    refine lv_bipush (v := 48) hx hb dX6_takes_141 (by decide) ?_
    have hg := gif hf
    refine lv_icmp_lt (tgt := 152) hx hb dX6_takes_143 (by decide) (fun c39 => ?_) (fun c39 => ?_)
    · have hf := hg.1 c39
      refine lv_iconst (v := 0) hx hb dX6_takes_152 (by decide) ?_
      have ho := Option.some.inj hf
      exact W.zret (v := 0) (ty := .boolean) hx hb hr rfl (fun t ht hW => ⟨⟨0, (), rfl, congrArg Prod.snd ho, hrP ht ho hH⟩, hS.F ht⟩) hS.2.2 dX6_takes_153
    · have hf := hg.2 c39
      refine lv_iload_n hx hb dX6_takes_146 rfl (lv_at hl 1 rfl) ?_
      refine lv_bipush (v := 58) hx hb dX6_takes_147 (by decide) ?_
      have hg := gif hf
      refine lv_icmp_lt (tgt := 154) hx hb dX6_takes_149 (by decide) (fun c40 => ?_) (fun c40 => ?_)
      · have hf := hg.1 c40
        refine lv_aload_n hx hb dX6_takes_154 rfl (lv_at hl 0 rfl) ?_
        refine lv_dup hx hb dX6_takes_155 rfl ?_
        refine e_6_7 hx hb hts hown hK hH hk0 (hts _ wd_222) dX6_takes_156 ?_
        refine lv_iconst (v := 1) hx hb dX6_takes_159 (by decide) ?_
        refine lv_iload_n hx hb dX6_takes_160 rfl (lv_at hl 1 rfl) ?_
        refine lv_bipush (v := 48) hx hb dX6_takes_161 (by decide) ?_
        refine lv_isub hx hb dX6_takes_163 ?_
        refine lv_ishl hx hb dX6_takes_164 ?_
        refine lv_ior hx hb dX6_takes_165 ?_
        refine p_6_7 hx hb hts hown hK hH hS hk0 (hts _ wd_222) dX6_takes_166 (fun H locs hH hS => ?_)
        obtain ⟨g41, eg41⟩ : ∃ z : GM, z = gsI g a 7 ((gI g a 7) ||| (1 <<< ((p0 - 48) &&& 31))) := ⟨_, rfl⟩
        have hf := gl_at hf eg41
        replace hH : HR w K g41 S H := by rw [eg41]; exact hH
        refine lv_aload_n hx hb dX6_takes_169 rfl (lv_at hl 0 rfl) ?_
        refine lv_iload_n hx hb dX6_takes_170 rfl (lv_at hl 1 rfl) ?_
        refine lv_iload_n hx hb dX6_takes_171 rfl (lv_at hl 2 rfl) ?_
        obtain ⟨r42, h43, hf⟩ := gbind hf
        refine g_Vi (As := [.int p0, .int p1]) (rest := []) ⟨hx, hb, hml, hown, hts⟩ (c6_takesDigit l w K g41 S a p0 p1 r42 h43 hk0) (gcwV hts i6_takesDigit wd_255 rfl rfl ⟨Nat.le_of_ble_eq_true rfl, Nat.le_of_ble_eq_true rfl⟩) (gRecv.of hK rfl (hH.o7 hk0)) hH hK hS hl.1 rfl rfl (Nat.le_of_ble_eq_true rfl) dX6_takes_172 ⟨Nat.le_refl _, Nat.le_refl _⟩ (fun H locs hH hS => ?_)
        obtain ⟨h44, hf⟩ := gd_some hf
        have ho := Option.some.inj hf
        exact W.zret (v := r42.2) (ty := .boolean) hx hb hr (gbl_n h44) (fun t ht hW => ⟨⟨r42.2, (), rfl, congrArg Prod.snd ho, hrP ht ho hH⟩, hS.F ht⟩) hS.2.2 dX6_takes_175
      · have hf := hg.2 c40
        refine lv_iconst (v := 0) hx hb dX6_takes_152 (by decide) ?_
        have ho := Option.some.inj hf
        exact W.zret (v := 0) (ty := .boolean) hx hb hr rfl (fun t ht hW => ⟨⟨0, (), rfl, congrArg Prod.snd ho, hrP ht ho hH⟩, hS.F ht⟩) hS.2.2 dX6_takes_153
  have hf := hg.2 c38
  have nc2 : v1.toInt ≠ 0 := g_ne c2 (by decide)
  have nc6 : v1.toInt ≠ 1 := g_ne c6 (by decide)
  have nc14 : v1.toInt ≠ 2 := g_ne c14 (by decide)
  have nc28 : v1.toInt ≠ 3 := g_ne c28 (by decide)
  have nc32 : v1.toInt ≠ 4 := g_ne c32 (by decide)
  have nc38 : v1.toInt ≠ 5 := g_ne c38 (by decide)
  refine lv_tableOut (tgt := 176) hx hb dX6_takes_4 (by omega) (by decide) ?_
  refine lv_aload_n hx hb dX6_takes_176 rfl (lv_at hl 0 rfl) ?_
  refine lv_iload_n hx hb dX6_takes_177 rfl (lv_at hl 1 rfl) ?_
  refine lv_iload_n hx hb dX6_takes_178 rfl (lv_at hl 2 rfl) ?_
  obtain ⟨r45, h46, hf⟩ := gbind hf
  refine g_Vi (As := [.int p0, .int p1]) (rest := []) ⟨hx, hb, hml, hown, hts⟩ (c6_takesBracket l w K g S a p0 p1 r45 h46 hk0) (gcwV hts i6_takesBracket wd_259 rfl rfl ⟨Nat.le_of_ble_eq_true rfl, Nat.le_of_ble_eq_true rfl⟩) (gRecv.of hK rfl (hH.o7 hk0)) hH hK hS hl.1 rfl rfl (Nat.le_of_ble_eq_true rfl) dX6_takes_179 ⟨Nat.le_refl _, Nat.le_refl _⟩ (fun H locs hH hS => ?_)
  obtain ⟨h47, hf⟩ := gd_some hf
  have ho := Option.some.inj hf
  exact W.zret (v := r45.2) (ty := .boolean) hx hb hr (gbl_n h47) (fun t ht hW => ⟨⟨r45.2, (), rfl, congrArg Prod.snd ho, hrP ht ho hH⟩, hS.F ht⟩) hS.2.2 dX6_takes_182
set_option maxRecDepth 100000 in
set_option maxHeartbeats 8000000 in
theorem c6_faultOf (l : Launch) (w : GW) (K : GK) (g : GM) (S : GS) (a : Nat) (p0 : Nat) (out : GM × Int32) (hf : f6_faultOf K g a p0 = some out) (hk0 : gkd K a = 7) : Met l yX6_faultOf (wA yX6_faultOf cX6_faultOf 4 (some .int)) ({ frames := 3, cells := 0, slots := 0, locals := 74 } : Room) (PRE w K g S [.ref a, .ref p0]) (QI w K out.1 S out.2) 0 0 (FR w) := by
  unfold f6_faultOf at hf
  refine Met.ofW (cc := cX6_faultOf) (maxL := 4) (ret := (some .int)) (by decide) rfl ?_
  intro p e s m args below meth c s₁ B hml hv
  obtain ⟨rfl, hH, hK⟩ := hv
  have hx := B.exec
  have hb := B.bytes
  have hr := B.returns
  have hts : ∀ q ∈ gALL, q.before _ s = true := fun q h => atoms_spec (ws := (wA yX6_faultOf cX6_faultOf 4 (some .int))) B.pre q (List.mem_cons_of_mem _ h)
  have hown : s.vm.findClass RX6 = some m.cls := findClass_of_methodNamed B.named
  have hlocks := B.notSynchronized
  have hS : va_S (FR w) s.heap s.heap [] := va_S.rf
  show W p l e ({ frames := 3, cells := 0, slots := 0, locals := 74 } : Room) s m _ below meth c s.heap [] 0 0 (MQ below (QI w K out.1 S out.2) _ s 0 0 (FR w)) _
  have hl := lv_entry ([.ref a, .ref p0]) (n := 4) (Nat.le_of_ble_eq_true rfl)
  rw [lg_entry_eq]
  generalize (lg_sl ([.ref a, .ref p0]) ++ List.replicate (4 - (lg_sl ([.ref a, .ref p0])).length) Slot.unset).toArray = ls at hl ⊢
  clear B
  generalize ([.ref a, .ref p0] : List Value).toArray = args at hts ⊢
  have B121 : ∀ (g : GM) (x2 : Int32) (s0 : Int32) (H : Heap) (locs : List Loc) (ls : Array Slot), HR w K g S H → va_S (FR w) s.heap H locs → lv_has ls 4 [(2, .int x2)] → f6_faultOf_121 K a p0 g x2 s0 = some out → W p l e ({ frames := 3, cells := 0, slots := 0, locals := 74 } : Room) s m args below meth c H locs 0 0 (MQ below (QI w K out.1 S out.2) args s 0 0 (FR w)) (F0 m 121 ls [.int s0]) := by
    intro  g x2 s0 H locs ls hH hS hl hf
    unfold f6_faultOf_121 at hf
    refine lv_istore_n (lv' := [(3, .int s0), (2, .int x2)]) hx hb dX6_faultOf_121 rfl hl (by decide) rfl (fun ls hl => ?_)
    refine lv_iload_n hx hb dX6_faultOf_122 rfl (lv_at hl 0 rfl) ?_
    have hg := gif hf
    refine lv_if_eq (tgt := 131) hx hb dX6_faultOf_123 (by decide) (fun c1 => ?_) (fun c1 => ?_)
    · have hf := hg.1 c1
      refine lv_iload_n hx hb dX6_faultOf_131 rfl (lv_at hl 1 rfl) ?_
      have ho := Option.some.inj hf
      exact W.iret (v := x2) hx hb hr (fun t ht hW => ⟨⟨x2, (), rfl, congrArg Prod.snd ho, hrP ht ho hH⟩, hS.F ht⟩) hS.2.2 dX6_faultOf_132
    · have hf := hg.2 c1
      refine lv_bipush (v := (-6)) hx hb dX6_faultOf_126 (by decide) ?_
      refine lv_goto (tgt := 132) hx hb dX6_faultOf_128 (by decide) ?_
      have ho := Option.some.inj hf
      exact W.iret (v := (-6)) hx hb hr (fun t ht hW => ⟨⟨(-6), (), rfl, congrArg Prod.snd ho, hrP ht ho hH⟩, hS.F ht⟩) hS.2.2 dX6_faultOf_132
  have B120 : ∀ (g : GM) (x2 : Int32) (H : Heap) (locs : List Loc) (ls : Array Slot), HR w K g S H → va_S (FR w) s.heap H locs → lv_has ls 4 [(2, .int x2)] → f6_faultOf_120 K a p0 g x2 = some out → W p l e ({ frames := 3, cells := 0, slots := 0, locals := 74 } : Room) s m args below meth c H locs 0 0 (MQ below (QI w K out.1 S out.2) args s 0 0 (FR w)) (F0 m 120 ls []) := by
    intro  g x2 H locs ls hH hS hl hf
    unfold f6_faultOf_120 at hf
    refine lv_iconst (v := 0) hx hb dX6_faultOf_120 (by decide) ?_
    exact B121 _ _ _ _ _ _ hH hS (lv_sub hl [0] rfl) hf
  have B116 : ∀ (g : GM) (x2 : Int32) (H : Heap) (locs : List Loc) (ls : Array Slot), HR w K g S H → va_S (FR w) s.heap H locs → lv_has ls 4 [(2, .int x2)] → f6_faultOf_116 K a p0 g x2 = some out → W p l e ({ frames := 3, cells := 0, slots := 0, locals := 74 } : Room) s m args below meth c H locs 0 0 (MQ below (QI w K out.1 S out.2) args s 0 0 (FR w)) (F0 m 116 ls []) := by
    intro  g x2 H locs ls hH hS hl hf
    unfold f6_faultOf_116 at hf
    refine lv_iconst (v := 1) hx hb dX6_faultOf_116 (by decide) ?_
    refine lv_goto (tgt := 121) hx hb dX6_faultOf_117 (by decide) ?_
    exact B121 _ _ _ _ _ _ hH hS (lv_sub hl [0] rfl) hf
  have B47 : ∀ n : Nat, ∀ (g : GM) (x2 : Int32) (x3 : Int32) (H : Heap) (locs : List Loc) (ls : Array Slot), HR w K g S H → va_S (FR w) s.heap H locs → lv_has ls 4 [(0, .ref a), (1, .ref p0), (2, .int x2), (3, .int x3)] → f6_faultOf_47 K a p0 n g x2 x3 = some out → W p l e ({ frames := 3, cells := 0, slots := 0, locals := 74 } : Room) s m args below meth c H locs 0 0 (MQ below (QI w K out.1 S out.2) args s 0 0 (FR w)) (F0 m 47 ls []) := by
    intro n
    induction n with
    | zero =>
      intro g x2 x3 H locs ls hH hS hl hf
      cases hf
    | succ n ih =>
      intro g x2 x3 H locs ls hH hS hl hf
      rw [f6_faultOf_47] at hf
      refine lv_iload_n hx hb dX6_faultOf_47 rfl (lv_at hl 3 rfl) ?_
      refine lv_iload_n hx hb dX6_faultOf_48 rfl (lv_at hl 2 rfl) ?_
      have hg := gif hf
      refine lv_icmp_ge (tgt := 93) hx hb dX6_faultOf_49 (by decide) (fun c2 => ?_) (fun c2 => ?_)
      · have hf := hg.1 c2
        refine lv_aload_n hx hb dX6_faultOf_93 rfl (lv_at hl 0 rfl) ?_
        refine e_6_10 hx hb hts hown hK hH hk0 (hts _ wd_224) dX6_faultOf_94 ?_
        have hg := gif hf
        refine lv_if_ne (tgt := 120) hx hb dX6_faultOf_97 (by decide) (fun c3 => ?_) (fun c3 => ?_)
        · have hf := hg.2 c3
          exact B120 _ _ _ _ _ hH hS (lv_sub hl [2] rfl) hf
        · have hf := hg.1 c3
          refine lv_aload_n hx hb dX6_faultOf_100 rfl (lv_at hl 0 rfl) ?_
          refine e_6_11 hx hb hts hown hK hH hk0 (hts _ wd_226) dX6_faultOf_101 ?_
          refine lv_iconst (v := 1) hx hb dX6_faultOf_104 (by decide) ?_
          have hg := gif hf
          refine lv_icmp_eq (tgt := 116) hx hb dX6_faultOf_105 (by decide) (fun c4 => ?_) (fun c4 => ?_)
          · have hf := hg.1 c4
            exact B116 _ _ _ _ _ hH hS (lv_sub hl [2] rfl) hf
          · have hf := hg.2 c4
            refine lv_aload_n hx hb dX6_faultOf_108 rfl (lv_at hl 0 rfl) ?_
            refine e_6_11 hx hb hts hown hK hH hk0 (hts _ wd_226) dX6_faultOf_109 ?_
            refine lv_iconst (v := 2) hx hb dX6_faultOf_112 (by decide) ?_
            have hg := gif hf
            refine lv_icmp_ne (tgt := 120) hx hb dX6_faultOf_113 (by decide) (fun c5 => ?_) (fun c5 => ?_)
            · have hf := hg.2 c5
              exact B120 _ _ _ _ _ hH hS (lv_sub hl [2] rfl) hf
            · have hf := hg.1 c5
              exact B116 _ _ _ _ _ hH hS (lv_sub hl [2] rfl) hf
      · have hf := hg.2 c2
        refine lv_aload_n hx hb dX6_faultOf_52 rfl (lv_at hl 0 rfl) ?_
        refine lv_aload_n hx hb dX6_faultOf_53 rfl (lv_at hl 1 rfl) ?_
        obtain ⟨k6, hf⟩ := gd_some hf
        have k6 := gk_obj k6
        have k7 : K.1 (p0 + 1) = (11, 80) := hH.sub k6 0 (t := (1, 11, 80)) rfl
        refine e_5_0 hx hb hts hown hK hH k6 (hts _ wd_231) dX6_faultOf_54 ?_
        refine lv_iload_n hx hb dX6_faultOf_57 rfl (lv_at hl 3 rfl) ?_
        obtain ⟨h9, hf⟩ := gd_some hf
        refine g_cald hx hb hK hH k7 h9 dX6_faultOf_58 ?_
        refine lv_iload_n hx hb dX6_faultOf_59 rfl (lv_at hl 3 rfl) ?_
        obtain ⟨r10, h11, hf⟩ := gbind hf
        refine g_Vi (As := [.int (gI g (p0 + 1) x3.toNatClampNeg), .int x3]) (rest := []) ⟨hx, hb, hml, hown, hts⟩ (c6_takes l w K g S a (gI g (p0 + 1) x3.toNatClampNeg) x3 r10 h11 hk0) (gcwV hts i6_takes wd_232 rfl rfl ⟨Nat.le_of_ble_eq_true rfl, Nat.le_of_ble_eq_true rfl⟩) (gRecv.of hK rfl (hH.o7 hk0)) hH hK hS hl.1 rfl rfl (Nat.le_of_ble_eq_true rfl) dX6_faultOf_60 ⟨Nat.le_refl _, Nat.le_refl _⟩ (fun H locs hH hS => ?_)
        have hg := gif hf
        refine lv_if_ne (tgt := 68) hx hb dX6_faultOf_63 (by decide) (fun c12 => ?_) (fun c12 => ?_)
        · have hf := hg.2 c12
          refine lv_aload_n hx hb dX6_faultOf_68 rfl (lv_at hl 0 rfl) ?_
          have k13 : K.1 (a + 1) = (11, 80) := hH.sub hk0 0 (t := (1, 11, 80)) rfl
          refine e_6_0 hx hb hts hown hK hH hk0 (hts _ wd_41) dX6_faultOf_69 ?_
          refine lv_iload_n hx hb dX6_faultOf_72 rfl (lv_at hl 3 rfl) ?_
          refine lv_aload_n hx hb dX6_faultOf_73 rfl (lv_at hl 1 rfl) ?_
          refine e_5_0 hx hb hts hown hK hH k6 (hts _ wd_231) dX6_faultOf_74 ?_
          refine lv_iload_n hx hb dX6_faultOf_77 rfl (lv_at hl 3 rfl) ?_
          refine g_cald hx hb hK hH k7 h9 dX6_faultOf_78 ?_
          refine g_cast hx hb hK hH hS k13 h9 dX6_faultOf_79 (fun H locs hH hS => ?_)
          obtain ⟨g16, eg16⟩ : ∃ z : GM, z = gsI r10.1 (a + 1) x3.toNatClampNeg (vp_nar .char (gI r10.1 (p0 + 1) x3.toNatClampNeg)) := ⟨_, rfl⟩
          have hf := gl_at hf eg16
          replace hH : HR w K g16 S H := by rw [eg16]; exact hH
          refine lv_aload_n hx hb dX6_faultOf_80 rfl (lv_at hl 0 rfl) ?_
          refine lv_iload_n hx hb dX6_faultOf_81 rfl (lv_at hl 3 rfl) ?_
          refine lv_iconst (v := 1) hx hb dX6_faultOf_82 (by decide) ?_
          refine lv_iadd hx hb dX6_faultOf_83 ?_
          refine p_6_5 hx hb hts hown hK hH hS hk0 (hts _ wd_220) dX6_faultOf_84 (fun H locs hH hS => ?_)
          obtain ⟨g17, eg17⟩ : ∃ z : GM, z = gsI g16 a 5 (x3 + 1) := ⟨_, rfl⟩
          have hf := gl_at hf eg17
          replace hH : HR w K g17 S H := by rw [eg17]; exact hH
          obtain ⟨v18, ev18⟩ : ∃ z : Int32, z = x3 + 1 := ⟨_, rfl⟩
          have hf := gl_at hf ev18
          refine lv_iinc (v := v18) (lv' := [(3, .int v18), (0, .ref a), (1, .ref p0), (2, .int x2)]) hx hb dX6_faultOf_87 hl (k := 3) rfl (by rw [ev18]; rfl) (by decide) rfl (fun ls hl => ?_)
          refine lv_goto (tgt := 47) hx hb dX6_faultOf_90 (by decide) ?_
          exact ih _ _ _ _ _ _ hH hS (lv_sub hl [1, 2, 3, 0] rfl) hf
        · have hf := hg.1 c12
          refine lv_iload_n hx hb dX6_faultOf_66 rfl (lv_at hl 3 rfl) ?_
          have ho := Option.some.inj hf
          exact W.iret (v := x3) hx hb hr (fun t ht hW => ⟨⟨x3, (), rfl, congrArg Prod.snd ho, hrP ht ho hH⟩, hS.F ht⟩) hS.2.2 dX6_faultOf_67
  have hl : lv_has ls 4 [(0, .ref a), (1, .ref p0)] := hl
  refine lv_aload_n hx hb dX6_faultOf_0 rfl (lv_at hl 0 rfl) ?_
  refine lv_iconst (v := 0) hx hb dX6_faultOf_1 (by decide) ?_
  refine p_6_5 hx hb hts hown hK hH hS hk0 (hts _ wd_220) dX6_faultOf_2 (fun H locs hH hS => ?_)
  obtain ⟨g19, eg19⟩ : ∃ z : GM, z = gsI g a 5 0 := ⟨_, rfl⟩
  have hf := gl_at hf eg19
  replace hH : HR w K g19 S H := by rw [eg19]; exact hH
  refine lv_aload_n hx hb dX6_faultOf_5 rfl (lv_at hl 0 rfl) ?_
  refine lv_iconst (v := 0) hx hb dX6_faultOf_6 (by decide) ?_
  refine p_6_6 hx hb hts hown hK hH hS hk0 (hts _ wd_221) dX6_faultOf_7 (fun H locs hH hS => ?_)
  obtain ⟨g20, eg20⟩ : ∃ z : GM, z = gsI g19 a 6 0 := ⟨_, rfl⟩
  have hf := gl_at hf eg20
  replace hH : HR w K g20 S H := by rw [eg20]; exact hH
  refine lv_aload_n hx hb dX6_faultOf_10 rfl (lv_at hl 0 rfl) ?_
  refine lv_iconst (v := 0) hx hb dX6_faultOf_11 (by decide) ?_
  refine p_6_7 hx hb hts hown hK hH hS hk0 (hts _ wd_222) dX6_faultOf_12 (fun H locs hH hS => ?_)
  obtain ⟨g21, eg21⟩ : ∃ z : GM, z = gsI g20 a 7 0 := ⟨_, rfl⟩
  have hf := gl_at hf eg21
  replace hH : HR w K g21 S H := by rw [eg21]; exact hH
  refine lv_aload_n hx hb dX6_faultOf_15 rfl (lv_at hl 0 rfl) ?_
  refine lv_iconst (v := 0) hx hb dX6_faultOf_16 (by decide) ?_
  refine p_6_8 hx hb hts hown hK hH hS hk0 (hts _ wd_223) dX6_faultOf_17 (fun H locs hH hS => ?_)
  obtain ⟨g22, eg22⟩ : ∃ z : GM, z = gsI g21 a 8 0 := ⟨_, rfl⟩
  have hf := gl_at hf eg22
  replace hH : HR w K g22 S H := by rw [eg22]; exact hH
  refine lv_aload_n hx hb dX6_faultOf_20 rfl (lv_at hl 0 rfl) ?_
  refine lv_iconst (v := 0) hx hb dX6_faultOf_21 (by decide) ?_
  refine p_6_10 hx hb hts hown hK hH hS hk0 (hts _ wd_224) dX6_faultOf_22 (fun H locs hH hS => ?_)
  obtain ⟨g23, eg23⟩ : ∃ z : GM, z = gsI g22 a 10 0 := ⟨_, rfl⟩
  have hf := gl_at hf eg23
  replace hH : HR w K g23 S H := by rw [eg23]; exact hH
  refine lv_aload_n hx hb dX6_faultOf_25 rfl (lv_at hl 0 rfl) ?_
  refine lv_iconst (v := 0) hx hb dX6_faultOf_26 (by decide) ?_
  refine p_6_12 hx hb hts hown hK hH hS hk0 (hts _ wd_225) dX6_faultOf_27 (fun H locs hH hS => ?_)
  obtain ⟨g24, eg24⟩ : ∃ z : GM, z = gsI g23 a 12 0 := ⟨_, rfl⟩
  have hf := gl_at hf eg24
  replace hH : HR w K g24 S H := by rw [eg24]; exact hH
  refine lv_aload_n hx hb dX6_faultOf_30 rfl (lv_at hl 0 rfl) ?_
  refine lv_iconst (v := 0) hx hb dX6_faultOf_31 (by decide) ?_
  refine p_6_11 hx hb hts hown hK hH hS hk0 (hts _ wd_226) dX6_faultOf_32 (fun H locs hH hS => ?_)
  obtain ⟨g25, eg25⟩ : ∃ z : GM, z = gsI g24 a 11 0 := ⟨_, rfl⟩
  have hf := gl_at hf eg25
  replace hH : HR w K g25 S H := by rw [eg25]; exact hH
  refine lv_aload_n hx hb dX6_faultOf_35 rfl (lv_at hl 1 rfl) ?_
  obtain ⟨k26, hf⟩ := gd_some hf
  have k26 := gk_obj k26
  refine e_5_1 hx hb hts hown hK hH k26 (hts _ wd_227) dX6_faultOf_36 ?_
  refine lv_bipush (v := 80) hx hb dX6_faultOf_39 (by decide) ?_
  refine va_mmin hx hb (hml.trans hl.1.symm) hown (hts _ wd_228) (hts _ wd_229) (hts _ wd_150) (hts _ wd_230) (Nat.le_of_ble_eq_true rfl) (Nat.le_of_ble_eq_true rfl) (Nat.le_of_ble_eq_true rfl) (Nat.le_of_ble_eq_true rfl) dX6_faultOf_41 ?_
  refine lv_topi (fun v27 ev27 => ?_)
  have hf := gl_at hf ev27
  refine lv_istore_n (lv' := [(2, .int v27), (0, .ref a), (1, .ref p0)]) hx hb dX6_faultOf_44 rfl hl (by decide) rfl (fun ls hl => ?_)
  refine lv_iconst (v := 0) hx hb dX6_faultOf_45 (by decide) ?_
  refine lv_istore_n (lv' := [(3, .int 0), (2, .int v27), (0, .ref a), (1, .ref p0)]) hx hb dX6_faultOf_46 rfl hl (by decide) rfl (fun ls hl => ?_)
  exact B47 _ _ _ _ _ _ _ hH hS (lv_sub hl [2, 3, 1, 0] rfl) hf
set_option maxRecDepth 100000 in
set_option maxHeartbeats 8000000 in
theorem c3_dropOldest (l : Launch) (w : GW) (K : GK) (g : GM) (S : GS) (a : Nat) (out : GM) (hf : f3_dropOldest K g a = some out) (hk0 : gkd K a = 4) : Met l yX3_dropOldest (wA yX3_dropOldest cX3_dropOldest 3 none) ({ frames := 0, cells := 0, slots := 0, locals := 0 } : Room) (PRE w K g S [.ref a]) (QV w K out S) 0 0 (FR w) := by
  unfold f3_dropOldest at hf
  refine Met.ofW (cc := cX3_dropOldest) (maxL := 3) (ret := none) (by decide) rfl ?_
  intro p e s m args below meth c s₁ B hml hv
  obtain ⟨rfl, hH, hK⟩ := hv
  have hx := B.exec
  have hb := B.bytes
  have hr := B.returns
  have hts : ∀ q ∈ gALL, q.before _ s = true := fun q h => atoms_spec (ws := (wA yX3_dropOldest cX3_dropOldest 3 none)) B.pre q (List.mem_cons_of_mem _ h)
  have hown : s.vm.findClass RX3 = some m.cls := findClass_of_methodNamed B.named
  have hlocks := B.notSynchronized
  have hS : va_S (FR w) s.heap s.heap [] := va_S.rf
  show W p l e ({ frames := 0, cells := 0, slots := 0, locals := 0 } : Room) s m _ below meth c s.heap [] 0 0 (MQ below (QV w K out S) _ s 0 0 (FR w)) _
  have hl := lv_entry ([.ref a]) (n := 3) (Nat.le_of_ble_eq_true rfl)
  rw [lg_entry_eq]
  generalize (lg_sl ([.ref a]) ++ List.replicate (3 - (lg_sl ([.ref a])).length) Slot.unset).toArray = ls at hl ⊢
  clear B
  generalize ([.ref a] : List Value).toArray = args at hts ⊢
  have B9 : ∀ n : Nat, ∀ (g : GM) (x1 : Nat) (x2 : Int32) (H : Heap) (locs : List Loc) (ls : Array Slot), HR w K g S H → va_S (FR w) s.heap H locs → lv_has ls 3 [(0, .ref a), (1, .ref x1), (2, .int x2)] → f3_dropOldest_9 K a n g x1 x2 = some out → W p l e ({ frames := 0, cells := 0, slots := 0, locals := 0 } : Room) s m args below meth c H locs 0 0 (MQ below (QV w K out S) args s 0 0 (FR w)) (F0 m 9 ls []) := by
    intro n
    induction n with
    | zero =>
      intro g x1 x2 H locs ls hH hS hl hf
      cases hf
    | succ n ih =>
      intro g x1 x2 H locs ls hH hS hl hf
      rw [f3_dropOldest_9] at hf
      refine lv_iload_n hx hb dX3_dropOldest_9 rfl (lv_at hl 2 rfl) ?_
      refine lv_bipush (v := 6) hx hb dX3_dropOldest_10 (by decide) ?_
      have hg := gif hf
      refine lv_icmp_ge (tgt := 35) hx hb dX3_dropOldest_12 (by decide) (fun c1 => ?_) (fun c1 => ?_)
      · have hf := hg.1 c1
        refine lv_aload_n hx hb dX3_dropOldest_35 rfl (lv_at hl 0 rfl) ?_
        have k2 : K.1 (a + 1) = (14, 6) := hH.sub hk0 0 (t := (1, 14, 6)) rfl
        refine e_3_0 hx hb hts hown hK hH hk0 (hts _ wd_85) dX3_dropOldest_36 ?_
        refine lv_iconst (v := 5) hx hb dX3_dropOldest_39 (by decide) ?_
        refine lv_aload_n hx hb dX3_dropOldest_40 rfl (lv_at hl 1 rfl) ?_
        obtain ⟨k4, hf⟩ := gd_some hf
        have k4 := gk_obj k4
        obtain ⟨h5, hf⟩ := gd_some hf
        refine g_last hx hb hK hH hS k2 k4 h5 dX3_dropOldest_41 (fun H locs hH hS => ?_)
        obtain ⟨g6, eg6⟩ : ∃ z : GM, z = gsR g (a + 1) (5 : Int32).toNatClampNeg (some x1) := ⟨_, rfl⟩
        have hf := gl_at hf eg6
        replace hH : HR w K g6 S H := by rw [eg6]; exact hH
        refine lv_aload_n hx hb dX3_dropOldest_42 rfl (lv_at hl 0 rfl) ?_
        refine lv_iconst (v := 5) hx hb dX3_dropOldest_43 (by decide) ?_
        refine p_3_1 hx hb hts hown hK hH hS hk0 (hts _ wd_86) dX3_dropOldest_44 (fun H locs hH hS => ?_)
        obtain ⟨g7, eg7⟩ : ∃ z : GM, z = gsI g6 a 1 5 := ⟨_, rfl⟩
        have hf := gl_at hf eg7
        replace hH : HR w K g7 S H := by rw [eg7]; exact hH
        have ho := Option.some.inj hf
        exact W.vret hx hb hr (fun t ht hW => ⟨⟨(), rfl, trivial, hrV ht ho hH⟩, hS.F ht⟩) hS.2.2 dX3_dropOldest_47
      · have hf := hg.2 c1
        refine lv_aload_n hx hb dX3_dropOldest_15 rfl (lv_at hl 0 rfl) ?_
        have k8 : K.1 (a + 1) = (14, 6) := hH.sub hk0 0 (t := (1, 14, 6)) rfl
        refine e_3_0 hx hb hts hown hK hH hk0 (hts _ wd_85) dX3_dropOldest_16 ?_
        refine lv_iload_n hx hb dX3_dropOldest_19 rfl (lv_at hl 2 rfl) ?_
        refine lv_iconst (v := 1) hx hb dX3_dropOldest_20 (by decide) ?_
        refine lv_isub hx hb dX3_dropOldest_21 ?_
        refine lv_aload_n hx hb dX3_dropOldest_22 rfl (lv_at hl 0 rfl) ?_
        refine e_3_0 hx hb hts hown hK hH hk0 (hts _ wd_85) dX3_dropOldest_23 ?_
        refine lv_iload_n hx hb dX3_dropOldest_26 rfl (lv_at hl 2 rfl) ?_
        obtain ⟨h10, hf⟩ := gd_some hf
        refine g_lald hx hb hK hH k8 h10 dX3_dropOldest_27 ?_
        rcases gopt_c hf with ⟨q12, hf⟩ | ⟨t11, q12, hf⟩
        · cases hf
        · refine g_rfS q12 ?_
          obtain ⟨k14, hf⟩ := gd_some hf
          have k14 := gk_obj k14
          obtain ⟨h15, hf⟩ := gd_some hf
          refine g_last hx hb hK hH hS k8 k14 h15 dX3_dropOldest_28 (fun H locs hH hS => ?_)
          obtain ⟨g16, eg16⟩ : ∃ z : GM, z = gsR g (a + 1) (x2 - 1).toNatClampNeg (some t11) := ⟨_, rfl⟩
          have hf := gl_at hf eg16
          replace hH : HR w K g16 S H := by rw [eg16]; exact hH
          obtain ⟨v17, ev17⟩ : ∃ z : Int32, z = x2 + 1 := ⟨_, rfl⟩
          have hf := gl_at hf ev17
          refine lv_iinc (v := v17) (lv' := [(2, .int v17), (0, .ref a), (1, .ref x1)]) hx hb dX3_dropOldest_29 hl (k := 2) rfl (by rw [ev17]; rfl) (by decide) rfl (fun ls hl => ?_)
          refine lv_goto (tgt := 9) hx hb dX3_dropOldest_32 (by decide) ?_
          exact ih _ _ _ _ _ _ hH hS (lv_sub hl [1, 2, 0] rfl) hf
  have hl : lv_has ls 3 [(0, .ref a)] := hl
  refine lv_aload_n hx hb dX3_dropOldest_0 rfl (lv_at hl 0 rfl) ?_
  have k18 : K.1 (a + 1) = (14, 6) := hH.sub hk0 0 (t := (1, 14, 6)) rfl
  refine e_3_0 hx hb hts hown hK hH hk0 (hts _ wd_85) dX3_dropOldest_1 ?_
  refine lv_iconst (v := 0) hx hb dX3_dropOldest_4 (by decide) ?_
  obtain ⟨h20, hf⟩ := gd_some hf
  refine g_lald hx hb hK hH k18 h20 dX3_dropOldest_5 ?_
  rcases gopt_c hf with ⟨q22, hf⟩ | ⟨t21, q22, hf⟩
  · cases hf
  · refine g_rfS q22 ?_
    refine lv_astore_n (lv' := [(1, .ref t21), (0, .ref a)]) hx hb dX3_dropOldest_6 rfl hl (by decide) rfl (fun ls hl => ?_)
    refine lv_iconst (v := 1) hx hb dX3_dropOldest_7 (by decide) ?_
    refine lv_istore_n (lv' := [(2, .int 1), (1, .ref t21), (0, .ref a)]) hx hb dX3_dropOldest_8 rfl hl (by decide) rfl (fun ls hl => ?_)
    exact B9 _ _ _ _ _ _ _ hH hS (lv_sub hl [2, 1, 0] rfl) hf
set_option maxRecDepth 100000 in
set_option maxHeartbeats 8000000 in
theorem c7_copyTexts (l : Launch) (w : GW) (K : GK) (g : GM) (S : GS) (p0 : Nat) (p1 : Nat) (out : GM) (hf : f7_copyTexts K g p0 p1 = some out) : Met l yX7_copyTexts (wA yX7_copyTexts cX7_copyTexts 4 none) ({ frames := 1, cells := 0, slots := 0, locals := 30 } : Room) (PRE w K g S [.ref p0, .ref p1]) (QV w K out S) 0 0 (FR w) := by
  unfold f7_copyTexts at hf
  refine Met.ofW (cc := cX7_copyTexts) (maxL := 4) (ret := none) (by decide) rfl ?_
  intro p e s m args below meth c s₁ B hml hv
  obtain ⟨rfl, hH, hK⟩ := hv
  have hx := B.exec
  have hb := B.bytes
  have hr := B.returns
  have hts : ∀ q ∈ gALL, q.before _ s = true := fun q h => atoms_spec (ws := (wA yX7_copyTexts cX7_copyTexts 4 none)) B.pre q (List.mem_cons_of_mem _ h)
  have hown : s.vm.findClass RX7 = some m.cls := findClass_of_methodNamed B.named
  have hlocks := B.notSynchronized
  have hS : va_S (FR w) s.heap s.heap [] := va_S.rf
  show W p l e ({ frames := 1, cells := 0, slots := 0, locals := 30 } : Room) s m _ below meth c s.heap [] 0 0 (MQ below (QV w K out S) _ s 0 0 (FR w)) _
  have hl := lv_entry ([.ref p0, .ref p1]) (n := 4) (Nat.le_of_ble_eq_true rfl)
  rw [lg_entry_eq]
  generalize (lg_sl ([.ref p0, .ref p1]) ++ List.replicate (4 - (lg_sl ([.ref p0, .ref p1])).length) Slot.unset).toArray = ls at hl ⊢
  clear B
  generalize ([.ref p0, .ref p1] : List Value).toArray = args at hts ⊢
  have B10 : ∀ n : Nat, ∀ (g : GM) (x2 : Int32) (x3 : Int32) (H : Heap) (locs : List Loc) (ls : Array Slot), HR w K g S H → va_S (FR w) s.heap H locs → lv_has ls 4 [(0, .ref p0), (1, .ref p1), (2, .int x2), (3, .int x3)] → f7_copyTexts_10 K p0 p1 n g x2 x3 = some out → W p l e ({ frames := 1, cells := 0, slots := 0, locals := 30 } : Room) s m args below meth c H locs 0 0 (MQ below (QV w K out S) args s 0 0 (FR w)) (F0 m 10 ls []) := by
    intro n
    induction n with
    | zero =>
      intro g x2 x3 H locs ls hH hS hl hf
      cases hf
    | succ n ih =>
      intro g x2 x3 H locs ls hH hS hl hf
      rw [f7_copyTexts_10] at hf
      refine lv_iload_n hx hb dX7_copyTexts_10 rfl (lv_at hl 3 rfl) ?_
      refine lv_iload_n hx hb dX7_copyTexts_11 rfl (lv_at hl 2 rfl) ?_
      have hg := gif hf
      refine lv_icmp_ge (tgt := 27) hx hb dX7_copyTexts_12 (by decide) (fun c1 => ?_) (fun c1 => ?_)
      · have hf := hg.1 c1
        have ho := Option.some.inj hf
        exact W.vret hx hb hr (fun t ht hW => ⟨⟨(), rfl, trivial, hrV ht ho hH⟩, hS.F ht⟩) hS.2.2 dX7_copyTexts_27
      · have hf := hg.2 c1
        refine lv_aload_n hx hb dX7_copyTexts_15 rfl (lv_at hl 1 rfl) ?_
        refine lv_iload_n hx hb dX7_copyTexts_16 rfl (lv_at hl 3 rfl) ?_
        refine lv_aload_n hx hb dX7_copyTexts_17 rfl (lv_at hl 0 rfl) ?_
        refine lv_iload_n hx hb dX7_copyTexts_18 rfl (lv_at hl 3 rfl) ?_
        obtain ⟨k3, hf⟩ := gd_some hf
        have k3 := gk_arr k3
        obtain ⟨h4, hf⟩ := gd_some hf
        refine g_tald hx hb hK hH k3 h4 dX7_copyTexts_19 ?_
        rcases gopt_c hf with ⟨q6, hf⟩ | ⟨t5, q6, hf⟩
        · refine g_rfN q6 ?_
          obtain ⟨k8, hf⟩ := gd_some hf
          have k8 := gk_arr k8
          obtain ⟨h9, hf⟩ := gd_some hf
          refine g_tastN hx hb hK hH hS k8 h9 dX7_copyTexts_20 (fun H locs hH hS => ?_)
          obtain ⟨g10, eg10⟩ : ∃ z : GM, z = gsR g p1 x3.toNatClampNeg none := ⟨_, rfl⟩
          have hf := gl_at hf eg10
          replace hH : HR w K g10 S H := by rw [eg10]; exact hH
          obtain ⟨v11, ev11⟩ : ∃ z : Int32, z = x3 + 1 := ⟨_, rfl⟩
          have hf := gl_at hf ev11
          refine lv_iinc (v := v11) (lv' := [(3, .int v11), (0, .ref p0), (1, .ref p1), (2, .int x2)]) hx hb dX7_copyTexts_21 hl (k := 3) rfl (by rw [ev11]; rfl) (by decide) rfl (fun ls hl => ?_)
          refine lv_goto (tgt := 10) hx hb dX7_copyTexts_24 (by decide) ?_
          exact ih _ _ _ _ _ _ hH hS (lv_sub hl [1, 2, 3, 0] rfl) hf
        · refine g_rfS q6 ?_
          obtain ⟨k13, hf⟩ := gd_some hf
          have k13 := gk_arr k13
          obtain ⟨k14, hf⟩ := gd_some hf
          have k14 := gk_obj k14
          obtain ⟨h15, hf⟩ := gd_some hf
          refine g_tast hx hb hK hH hS k13 k14 h15 dX7_copyTexts_20 (fun H locs hH hS => ?_)
          obtain ⟨g16, eg16⟩ : ∃ z : GM, z = gsR g p1 x3.toNatClampNeg (some t5) := ⟨_, rfl⟩
          have hf := gl_at hf eg16
          replace hH : HR w K g16 S H := by rw [eg16]; exact hH
          obtain ⟨v17, ev17⟩ : ∃ z : Int32, z = x3 + 1 := ⟨_, rfl⟩
          have hf := gl_at hf ev17
          refine lv_iinc (v := v17) (lv' := [(3, .int v17), (0, .ref p0), (1, .ref p1), (2, .int x2)]) hx hb dX7_copyTexts_21 hl (k := 3) rfl (by rw [ev17]; rfl) (by decide) rfl (fun ls hl => ?_)
          refine lv_goto (tgt := 10) hx hb dX7_copyTexts_24 (by decide) ?_
          exact ih _ _ _ _ _ _ hH hS (lv_sub hl [1, 2, 3, 0] rfl) hf
  have hl : lv_has ls 4 [(0, .ref p0), (1, .ref p1)] := hl
  refine lv_aload_n hx hb dX7_copyTexts_0 rfl (lv_at hl 0 rfl) ?_
  obtain ⟨k18, hf⟩ := gd_some hf
  have k18 := gk_arr k18
  refine g_alen hx hb hK hH k18 (Or.inr rfl) dX7_copyTexts_1 ?_
  refine lv_aload_n hx hb dX7_copyTexts_2 rfl (lv_at hl 1 rfl) ?_
  obtain ⟨k19, hf⟩ := gd_some hf
  have k19 := gk_arr k19
  refine g_alen hx hb hK hH k19 (Or.inr rfl) dX7_copyTexts_3 ?_
  refine va_mmin hx hb (hml.trans hl.1.symm) hown (hts _ wd_283) (hts _ wd_229) (hts _ wd_150) (hts _ wd_230) (Nat.le_of_ble_eq_true rfl) (Nat.le_of_ble_eq_true rfl) (Nat.le_of_ble_eq_true rfl) (Nat.le_of_ble_eq_true rfl) dX7_copyTexts_4 ?_
  refine lv_topi (fun v20 ev20 => ?_)
  have hf := gl_at hf ev20
  refine lv_istore_n (lv' := [(2, .int v20), (0, .ref p0), (1, .ref p1)]) hx hb dX7_copyTexts_7 rfl hl (by decide) rfl (fun ls hl => ?_)
  refine lv_iconst (v := 0) hx hb dX7_copyTexts_8 (by decide) ?_
  refine lv_istore_n (lv' := [(3, .int 0), (2, .int v20), (0, .ref p0), (1, .ref p1)]) hx hb dX7_copyTexts_9 rfl hl (by decide) rfl (fun ls hl => ?_)
  exact B10 _ _ _ _ _ _ _ hH hS (lv_sub hl [2, 3, 1, 0] rfl) hf
set_option maxRecDepth 100000 in
set_option maxHeartbeats 8000000 in
theorem c7_copyRow (l : Launch) (w : GW) (K : GK) (g : GM) (S : GS) (p0 : Nat) (p1 : Nat) (out : GM) (hf : f7_copyRow K g p0 p1 = some out) : Met l yX7_copyRow (wA yX7_copyRow cX7_copyRow 2 none) ({ frames := 1, cells := 0, slots := 0, locals := 60 } : Room) (PRE w K g S [.ref p0, .ref p1]) (QV w K out S) 0 0 (FR w) := by
  unfold f7_copyRow at hf
  refine Met.ofW (cc := cX7_copyRow) (maxL := 2) (ret := none) (by decide) rfl ?_
  intro p e s m args below meth c s₁ B hml hv
  obtain ⟨rfl, hH, hK⟩ := hv
  have hx := B.exec
  have hb := B.bytes
  have hr := B.returns
  have hts : ∀ q ∈ gALL, q.before _ s = true := fun q h => atoms_spec (ws := (wA yX7_copyRow cX7_copyRow 2 none)) B.pre q (List.mem_cons_of_mem _ h)
  have hown : s.vm.findClass RX7 = some m.cls := findClass_of_methodNamed B.named
  have hlocks := B.notSynchronized
  have hS : va_S (FR w) s.heap s.heap [] := va_S.rf
  show W p l e ({ frames := 1, cells := 0, slots := 0, locals := 60 } : Room) s m _ below meth c s.heap [] 0 0 (MQ below (QV w K out S) _ s 0 0 (FR w)) _
  have hl := lv_entry ([.ref p0, .ref p1]) (n := 2) (Nat.le_of_ble_eq_true rfl)
  rw [lg_entry_eq]
  generalize (lg_sl ([.ref p0, .ref p1]) ++ List.replicate (2 - (lg_sl ([.ref p0, .ref p1])).length) Slot.unset).toArray = ls at hl ⊢
  clear B
  generalize ([.ref p0, .ref p1] : List Value).toArray = args at hts ⊢
  have hl : lv_has ls 2 [(0, .ref p0), (1, .ref p1)] := hl
  refine lv_aload_n hx hb dX7_copyRow_0 rfl (lv_at hl 0 rfl) ?_
  refine lv_iconst (v := 0) hx hb dX7_copyRow_1 (by decide) ?_
  refine lv_aload_n hx hb dX7_copyRow_2 rfl (lv_at hl 1 rfl) ?_
  refine lv_iconst (v := 0) hx hb dX7_copyRow_3 (by decide) ?_
  refine lv_aload_n hx hb dX7_copyRow_4 rfl (lv_at hl 0 rfl) ?_
  obtain ⟨k1, hf⟩ := gd_some hf
  have k1 := gk_arr k1
  refine g_alen hx hb hK hH k1 (Or.inl rfl) dX7_copyRow_5 ?_
  refine lv_aload_n hx hb dX7_copyRow_6 rfl (lv_at hl 1 rfl) ?_
  obtain ⟨k2, hf⟩ := gd_some hf
  have k2 := gk_arr k2
  refine g_alen hx hb hK hH k2 (Or.inl rfl) dX7_copyRow_7 ?_
  refine va_mmin hx hb (hml.trans hl.1.symm) hown (hts _ wd_283) (hts _ wd_229) (hts _ wd_150) (hts _ wd_230) (Nat.le_of_ble_eq_true rfl) (Nat.le_of_ble_eq_true rfl) (Nat.le_of_ble_eq_true rfl) (Nat.le_of_ble_eq_true rfl) dX7_copyRow_8 ?_
  obtain ⟨h3, hf⟩ := gd_some hf
  obtain ⟨h31, h32, h33, h34, h35⟩ := of_decide_eq_true h3
  refine g_copy hx hb (hml.trans hl.1.symm) hown (hts _ wd_286) (hts _ wd_278) (hts _ wd_279) (hts _ wd_280) hK hH hS (t := 0) (ty := .int) k1 k2 (fun _ _ _ h => gcell10 h) (by decide) rfl rfl h31 h32 h33 h34 h35 (fun _ _ => rfl) (Nat.le_of_ble_eq_true rfl) (Nat.le_of_ble_eq_true rfl) dX7_copyRow_11 (fun H locs hH hS => ?_)
  obtain ⟨g4, eg4⟩ : ∃ z : GM, z = gsC g p1 (va_cpy (g.1 p0) (g.1 p1) (0 : Int32).toNatClampNeg (0 : Int32).toNatClampNeg (if (nI (gkn K p1)) < (nI (gkn K p0)) then (nI (gkn K p1)) else (nI (gkn K p0))).toNatClampNeg) := ⟨_, rfl⟩
  have hf := gl_at hf eg4
  replace hH : HR w K g4 S H := by rw [eg4]; exact hH
  have ho := Option.some.inj hf
  exact W.vret hx hb hr (fun t ht hW => ⟨⟨(), rfl, trivial, hrV ht ho hH⟩, hS.F ht⟩) hS.2.2 dX7_copyRow_14
set_option maxRecDepth 100000 in
set_option maxHeartbeats 8000000 in
theorem c0_copyFrom (l : Launch) (w : GW) (K : GK) (g : GM) (S : GS) (a : Nat) (p0 : Nat) (out : GM) (hf : f0_copyFrom K g a p0 = some out) (hk0 : gkd K a = 1) : Met l yX0_copyFrom (wA yX0_copyFrom cX0_copyFrom 2 none) ({ frames := 2, cells := 0, slots := 0, locals := 81 } : Room) (PRE w K g S [.ref a, .ref p0]) (QV w K out S) 0 0 (FR w) := by
  unfold f0_copyFrom at hf
  refine Met.ofW (cc := cX0_copyFrom) (maxL := 2) (ret := none) (by decide) rfl ?_
  intro p e s m args below meth c s₁ B hml hv
  obtain ⟨rfl, hH, hK⟩ := hv
  have hx := B.exec
  have hb := B.bytes
  have hr := B.returns
  have hts : ∀ q ∈ gALL, q.before _ s = true := fun q h => atoms_spec (ws := (wA yX0_copyFrom cX0_copyFrom 2 none)) B.pre q (List.mem_cons_of_mem _ h)
  have hown : s.vm.findClass RX0 = some m.cls := findClass_of_methodNamed B.named
  have hlocks := B.notSynchronized
  have hS : va_S (FR w) s.heap s.heap [] := va_S.rf
  show W p l e ({ frames := 2, cells := 0, slots := 0, locals := 81 } : Room) s m _ below meth c s.heap [] 0 0 (MQ below (QV w K out S) _ s 0 0 (FR w)) _
  have hl := lv_entry ([.ref a, .ref p0]) (n := 2) (Nat.le_of_ble_eq_true rfl)
  rw [lg_entry_eq]
  generalize (lg_sl ([.ref a, .ref p0]) ++ List.replicate (2 - (lg_sl ([.ref a, .ref p0])).length) Slot.unset).toArray = ls at hl ⊢
  clear B
  generalize ([.ref a, .ref p0] : List Value).toArray = args at hts ⊢
  have hl : lv_has ls 2 [(0, .ref a), (1, .ref p0)] := hl
  refine lv_aload_n hx hb dX0_copyFrom_0 rfl (lv_at hl 1 rfl) ?_
  obtain ⟨k1, hf⟩ := gd_some hf
  have k1 := gk_obj k1
  have k2 : K.1 (p0 + 1) = (10, 9) := hH.sub k1 0 (t := (1, 10, 9)) rfl
  refine e_0_0 hx hb hts hown hK hH k1 (hts _ wd_72) dX0_copyFrom_1 ?_
  refine lv_aload_n hx hb dX0_copyFrom_4 rfl (lv_at hl 0 rfl) ?_
  have k3 : K.1 (a + 1) = (10, 9) := hH.sub hk0 0 (t := (1, 10, 9)) rfl
  refine e_0_0 hx hb hts hown hK hH hk0 (hts _ wd_72) dX0_copyFrom_5 ?_
  obtain ⟨g4, h5, hf⟩ := gbind hf
  refine g_SvN (As := [.ref (p0 + 1), .ref (a + 1)]) (rest := []) ⟨hx, hb, hml, hown, hts⟩ (c7_copyRow l w K g S (p0 + 1) (a + 1) g4 h5) (gcwSN (host := "CallingLooms") hts i7_copyRow hK (List.mem_of_getElem? (i := 0) rfl) rfl rfl ⟨Nat.le_of_ble_eq_true rfl, Nat.le_of_ble_eq_true rfl⟩) hH hK hS hl.1 rfl rfl (Nat.le_of_ble_eq_true rfl) dX0_copyFrom_8 ⟨Nat.le_refl _, Nat.le_refl _⟩ (fun H locs hH hS => ?_)
  refine lv_aload_n hx hb dX0_copyFrom_11 rfl (lv_at hl 1 rfl) ?_
  have k6 : K.1 (p0 + 2) = (10, 9) := hH.sub k1 1 (t := (2, 10, 9)) rfl
  refine e_0_1 hx hb hts hown hK hH k1 (hts _ wd_73) dX0_copyFrom_12 ?_
  refine lv_aload_n hx hb dX0_copyFrom_15 rfl (lv_at hl 0 rfl) ?_
  have k7 : K.1 (a + 2) = (10, 9) := hH.sub hk0 1 (t := (2, 10, 9)) rfl
  refine e_0_1 hx hb hts hown hK hH hk0 (hts _ wd_73) dX0_copyFrom_16 ?_
  obtain ⟨g8, h9, hf⟩ := gbind hf
  refine g_SvN (As := [.ref (p0 + 2), .ref (a + 2)]) (rest := []) ⟨hx, hb, hml, hown, hts⟩ (c7_copyRow l w K g4 S (p0 + 2) (a + 2) g8 h9) (gcwSN (host := "CallingLooms") hts i7_copyRow hK (List.mem_of_getElem? (i := 0) rfl) rfl rfl ⟨Nat.le_of_ble_eq_true rfl, Nat.le_of_ble_eq_true rfl⟩) hH hK hS hl.1 rfl rfl (Nat.le_of_ble_eq_true rfl) dX0_copyFrom_19 ⟨Nat.le_refl _, Nat.le_refl _⟩ (fun H locs hH hS => ?_)
  refine lv_aload_n hx hb dX0_copyFrom_22 rfl (lv_at hl 1 rfl) ?_
  have k10 : K.1 (p0 + 3) = (10, 9) := hH.sub k1 2 (t := (3, 10, 9)) rfl
  refine e_0_2 hx hb hts hown hK hH k1 (hts _ wd_74) dX0_copyFrom_23 ?_
  refine lv_aload_n hx hb dX0_copyFrom_26 rfl (lv_at hl 0 rfl) ?_
  have k11 : K.1 (a + 3) = (10, 9) := hH.sub hk0 2 (t := (3, 10, 9)) rfl
  refine e_0_2 hx hb hts hown hK hH hk0 (hts _ wd_74) dX0_copyFrom_27 ?_
  obtain ⟨g12, h13, hf⟩ := gbind hf
  refine g_SvN (As := [.ref (p0 + 3), .ref (a + 3)]) (rest := []) ⟨hx, hb, hml, hown, hts⟩ (c7_copyRow l w K g8 S (p0 + 3) (a + 3) g12 h13) (gcwSN (host := "CallingLooms") hts i7_copyRow hK (List.mem_of_getElem? (i := 0) rfl) rfl rfl ⟨Nat.le_of_ble_eq_true rfl, Nat.le_of_ble_eq_true rfl⟩) hH hK hS hl.1 rfl rfl (Nat.le_of_ble_eq_true rfl) dX0_copyFrom_30 ⟨Nat.le_refl _, Nat.le_refl _⟩ (fun H locs hH hS => ?_)
  refine lv_aload_n hx hb dX0_copyFrom_33 rfl (lv_at hl 1 rfl) ?_
  have k14 : K.1 (p0 + 4) = (10, 36) := hH.sub k1 3 (t := (4, 10, 36)) rfl
  refine e_0_3 hx hb hts hown hK hH k1 (hts _ wd_75) dX0_copyFrom_34 ?_
  refine lv_aload_n hx hb dX0_copyFrom_37 rfl (lv_at hl 0 rfl) ?_
  have k15 : K.1 (a + 4) = (10, 36) := hH.sub hk0 3 (t := (4, 10, 36)) rfl
  refine e_0_3 hx hb hts hown hK hH hk0 (hts _ wd_75) dX0_copyFrom_38 ?_
  obtain ⟨g16, h17, hf⟩ := gbind hf
  refine g_SvN (As := [.ref (p0 + 4), .ref (a + 4)]) (rest := []) ⟨hx, hb, hml, hown, hts⟩ (c7_copyRow l w K g12 S (p0 + 4) (a + 4) g16 h17) (gcwSN (host := "CallingLooms") hts i7_copyRow hK (List.mem_of_getElem? (i := 0) rfl) rfl rfl ⟨Nat.le_of_ble_eq_true rfl, Nat.le_of_ble_eq_true rfl⟩) hH hK hS hl.1 rfl rfl (Nat.le_of_ble_eq_true rfl) dX0_copyFrom_41 ⟨Nat.le_refl _, Nat.le_refl _⟩ (fun H locs hH hS => ?_)
  refine lv_aload_n hx hb dX0_copyFrom_44 rfl (lv_at hl 1 rfl) ?_
  have k18 : K.1 (p0 + 5) = (10, 36) := hH.sub k1 4 (t := (5, 10, 36)) rfl
  refine e_0_4 hx hb hts hown hK hH k1 (hts _ wd_76) dX0_copyFrom_45 ?_
  refine lv_aload_n hx hb dX0_copyFrom_48 rfl (lv_at hl 0 rfl) ?_
  have k19 : K.1 (a + 5) = (10, 36) := hH.sub hk0 4 (t := (5, 10, 36)) rfl
  refine e_0_4 hx hb hts hown hK hH hk0 (hts _ wd_76) dX0_copyFrom_49 ?_
  obtain ⟨g20, h21, hf⟩ := gbind hf
  refine g_SvN (As := [.ref (p0 + 5), .ref (a + 5)]) (rest := []) ⟨hx, hb, hml, hown, hts⟩ (c7_copyRow l w K g16 S (p0 + 5) (a + 5) g20 h21) (gcwSN (host := "CallingLooms") hts i7_copyRow hK (List.mem_of_getElem? (i := 0) rfl) rfl rfl ⟨Nat.le_of_ble_eq_true rfl, Nat.le_of_ble_eq_true rfl⟩) hH hK hS hl.1 rfl rfl (Nat.le_of_ble_eq_true rfl) dX0_copyFrom_52 ⟨Nat.le_refl _, Nat.le_refl _⟩ (fun H locs hH hS => ?_)
  refine lv_aload_n hx hb dX0_copyFrom_55 rfl (lv_at hl 1 rfl) ?_
  have k22 : K.1 (p0 + 6) = (13, 9) := hH.sub k1 5 (t := (6, 13, 9)) rfl
  refine e_0_5 hx hb hts hown hK hH k1 (hts _ wd_78) dX0_copyFrom_56 ?_
  refine lv_aload_n hx hb dX0_copyFrom_59 rfl (lv_at hl 0 rfl) ?_
  have k23 : K.1 (a + 6) = (13, 9) := hH.sub hk0 5 (t := (6, 13, 9)) rfl
  refine e_0_5 hx hb hts hown hK hH hk0 (hts _ wd_78) dX0_copyFrom_60 ?_
  obtain ⟨g24, h25, hf⟩ := gbind hf
  refine g_SvN (As := [.ref (p0 + 6), .ref (a + 6)]) (rest := []) ⟨hx, hb, hml, hown, hts⟩ (c7_copyTexts l w K g20 S (p0 + 6) (a + 6) g24 h25) (gcwSN (host := "CallingLooms") hts i7_copyTexts hK (List.mem_of_getElem? (i := 1) rfl) rfl rfl ⟨Nat.le_of_ble_eq_true rfl, Nat.le_of_ble_eq_true rfl⟩) hH hK hS hl.1 rfl rfl (Nat.le_of_ble_eq_true rfl) dX0_copyFrom_63 ⟨Nat.le_refl _, Nat.le_refl _⟩ (fun H locs hH hS => ?_)
  refine lv_aload_n hx hb dX0_copyFrom_66 rfl (lv_at hl 0 rfl) ?_
  refine lv_aload_n hx hb dX0_copyFrom_67 rfl (lv_at hl 1 rfl) ?_
  refine e_0_6 hx hb hts hown hK hH k1 (hts _ wd_79) dX0_copyFrom_68 ?_
  refine p_0_6 hx hb hts hown hK hH hS hk0 (hts _ wd_79) dX0_copyFrom_71 (fun H locs hH hS => ?_)
  obtain ⟨g26, eg26⟩ : ∃ z : GM, z = gsI g24 a 6 (gI g24 p0 6) := ⟨_, rfl⟩
  have hf := gl_at hf eg26
  replace hH : HR w K g26 S H := by rw [eg26]; exact hH
  have ho := Option.some.inj hf
  exact W.vret hx hb hr (fun t ht hW => ⟨⟨(), rfl, trivial, hrV ht ho hH⟩, hS.F ht⟩) hS.2.2 dX0_copyFrom_74
set_option maxRecDepth 100000 in
set_option maxHeartbeats 8000000 in
theorem c4_copyFrom (l : Launch) (w : GW) (K : GK) (g : GM) (S : GS) (a : Nat) (p0 : Nat) (out : GM) (hf : f4_copyFrom K g a p0 = some out) (hk0 : gkd K a = 5) : Met l yX4_copyFrom (wA yX4_copyFrom cX4_copyFrom 2 none) ({ frames := 3, cells := 0, slots := 0, locals := 102 } : Room) (PRE w K g S [.ref a, .ref p0]) (QV w K out S) 0 0 (FR w) := by
  unfold f4_copyFrom at hf
  refine Met.ofW (cc := cX4_copyFrom) (maxL := 2) (ret := none) (by decide) rfl ?_
  intro p e s m args below meth c s₁ B hml hv
  obtain ⟨rfl, hH, hK⟩ := hv
  have hx := B.exec
  have hb := B.bytes
  have hr := B.returns
  have hts : ∀ q ∈ gALL, q.before _ s = true := fun q h => atoms_spec (ws := (wA yX4_copyFrom cX4_copyFrom 2 none)) B.pre q (List.mem_cons_of_mem _ h)
  have hown : s.vm.findClass RX4 = some m.cls := findClass_of_methodNamed B.named
  have hlocks := B.notSynchronized
  have hS : va_S (FR w) s.heap s.heap [] := va_S.rf
  show W p l e ({ frames := 3, cells := 0, slots := 0, locals := 102 } : Room) s m _ below meth c s.heap [] 0 0 (MQ below (QV w K out S) _ s 0 0 (FR w)) _
  have hl := lv_entry ([.ref a, .ref p0]) (n := 2) (Nat.le_of_ble_eq_true rfl)
  rw [lg_entry_eq]
  generalize (lg_sl ([.ref a, .ref p0]) ++ List.replicate (2 - (lg_sl ([.ref a, .ref p0])).length) Slot.unset).toArray = ls at hl ⊢
  clear B
  generalize ([.ref a, .ref p0] : List Value).toArray = args at hts ⊢
  have hl : lv_has ls 2 [(0, .ref a), (1, .ref p0)] := hl
  refine lv_aload_n hx hb dX4_copyFrom_0 rfl (lv_at hl 1 rfl) ?_
  obtain ⟨k1, hf⟩ := gd_some hf
  have k1 := gk_obj k1
  have k2 : K.1 (p0 + 1) = (13, 10) := hH.sub k1 0 (t := (1, 13, 10)) rfl
  refine e_4_0 hx hb hts hown hK hH k1 (hts _ wd_52) dX4_copyFrom_1 ?_
  refine lv_aload_n hx hb dX4_copyFrom_4 rfl (lv_at hl 0 rfl) ?_
  have k3 : K.1 (a + 1) = (13, 10) := hH.sub hk0 0 (t := (1, 13, 10)) rfl
  refine e_4_0 hx hb hts hown hK hH hk0 (hts _ wd_52) dX4_copyFrom_5 ?_
  obtain ⟨g4, h5, hf⟩ := gbind hf
  refine g_SvN (As := [.ref (p0 + 1), .ref (a + 1)]) (rest := []) ⟨hx, hb, hml, hown, hts⟩ (c7_copyTexts l w K g S (p0 + 1) (a + 1) g4 h5) (gcwSN (host := "CallingLooms") hts i7_copyTexts hK (List.mem_of_getElem? (i := 3) rfl) rfl rfl ⟨Nat.le_of_ble_eq_true rfl, Nat.le_of_ble_eq_true rfl⟩) hH hK hS hl.1 rfl rfl (Nat.le_of_ble_eq_true rfl) dX4_copyFrom_8 ⟨Nat.le_refl _, Nat.le_refl _⟩ (fun H locs hH hS => ?_)
  refine lv_aload_n hx hb dX4_copyFrom_11 rfl (lv_at hl 1 rfl) ?_
  have k6 : K.1 (p0 + 2) = (10, 10) := hH.sub k1 1 (t := (2, 10, 10)) rfl
  refine e_4_1 hx hb hts hown hK hH k1 (hts _ wd_53) dX4_copyFrom_12 ?_
  refine lv_aload_n hx hb dX4_copyFrom_15 rfl (lv_at hl 0 rfl) ?_
  have k7 : K.1 (a + 2) = (10, 10) := hH.sub hk0 1 (t := (2, 10, 10)) rfl
  refine e_4_1 hx hb hts hown hK hH hk0 (hts _ wd_53) dX4_copyFrom_16 ?_
  obtain ⟨g8, h9, hf⟩ := gbind hf
  refine g_SvN (As := [.ref (p0 + 2), .ref (a + 2)]) (rest := []) ⟨hx, hb, hml, hown, hts⟩ (c7_copyRow l w K g4 S (p0 + 2) (a + 2) g8 h9) (gcwSN (host := "CallingLooms") hts i7_copyRow hK (List.mem_of_getElem? (i := 4) rfl) rfl rfl ⟨Nat.le_of_ble_eq_true rfl, Nat.le_of_ble_eq_true rfl⟩) hH hK hS hl.1 rfl rfl (Nat.le_of_ble_eq_true rfl) dX4_copyFrom_19 ⟨Nat.le_refl _, Nat.le_refl _⟩ (fun H locs hH hS => ?_)
  refine lv_aload_n hx hb dX4_copyFrom_22 rfl (lv_at hl 1 rfl) ?_
  have k10 : K.1 (p0 + 3) = (10, 3) := hH.sub k1 2 (t := (3, 10, 3)) rfl
  refine e_4_2 hx hb hts hown hK hH k1 (hts _ wd_54) dX4_copyFrom_23 ?_
  refine lv_aload_n hx hb dX4_copyFrom_26 rfl (lv_at hl 0 rfl) ?_
  have k11 : K.1 (a + 3) = (10, 3) := hH.sub hk0 2 (t := (3, 10, 3)) rfl
  refine e_4_2 hx hb hts hown hK hH hk0 (hts _ wd_54) dX4_copyFrom_27 ?_
  obtain ⟨g12, h13, hf⟩ := gbind hf
  refine g_SvN (As := [.ref (p0 + 3), .ref (a + 3)]) (rest := []) ⟨hx, hb, hml, hown, hts⟩ (c7_copyRow l w K g8 S (p0 + 3) (a + 3) g12 h13) (gcwSN (host := "CallingLooms") hts i7_copyRow hK (List.mem_of_getElem? (i := 4) rfl) rfl rfl ⟨Nat.le_of_ble_eq_true rfl, Nat.le_of_ble_eq_true rfl⟩) hH hK hS hl.1 rfl rfl (Nat.le_of_ble_eq_true rfl) dX4_copyFrom_30 ⟨Nat.le_refl _, Nat.le_refl _⟩ (fun H locs hH hS => ?_)
  refine lv_aload_n hx hb dX4_copyFrom_33 rfl (lv_at hl 1 rfl) ?_
  have k14 : K.1 (p0 + 4) = (10, 6) := hH.sub k1 3 (t := (4, 10, 6)) rfl
  refine e_4_3 hx hb hts hown hK hH k1 (hts _ wd_55) dX4_copyFrom_34 ?_
  refine lv_aload_n hx hb dX4_copyFrom_37 rfl (lv_at hl 0 rfl) ?_
  have k15 : K.1 (a + 4) = (10, 6) := hH.sub hk0 3 (t := (4, 10, 6)) rfl
  refine e_4_3 hx hb hts hown hK hH hk0 (hts _ wd_55) dX4_copyFrom_38 ?_
  obtain ⟨g16, h17, hf⟩ := gbind hf
  refine g_SvN (As := [.ref (p0 + 4), .ref (a + 4)]) (rest := []) ⟨hx, hb, hml, hown, hts⟩ (c7_copyRow l w K g12 S (p0 + 4) (a + 4) g16 h17) (gcwSN (host := "CallingLooms") hts i7_copyRow hK (List.mem_of_getElem? (i := 4) rfl) rfl rfl ⟨Nat.le_of_ble_eq_true rfl, Nat.le_of_ble_eq_true rfl⟩) hH hK hS hl.1 rfl rfl (Nat.le_of_ble_eq_true rfl) dX4_copyFrom_41 ⟨Nat.le_refl _, Nat.le_refl _⟩ (fun H locs hH hS => ?_)
  refine lv_aload_n hx hb dX4_copyFrom_44 rfl (lv_at hl 1 rfl) ?_
  have k18 : K.1 (p0 + 5) = (10, 6) := hH.sub k1 4 (t := (5, 10, 6)) rfl
  refine e_4_4 hx hb hts hown hK hH k1 (hts _ wd_56) dX4_copyFrom_45 ?_
  refine lv_aload_n hx hb dX4_copyFrom_48 rfl (lv_at hl 0 rfl) ?_
  have k19 : K.1 (a + 5) = (10, 6) := hH.sub hk0 4 (t := (5, 10, 6)) rfl
  refine e_4_4 hx hb hts hown hK hH hk0 (hts _ wd_56) dX4_copyFrom_49 ?_
  obtain ⟨g20, h21, hf⟩ := gbind hf
  refine g_SvN (As := [.ref (p0 + 5), .ref (a + 5)]) (rest := []) ⟨hx, hb, hml, hown, hts⟩ (c7_copyRow l w K g16 S (p0 + 5) (a + 5) g20 h21) (gcwSN (host := "CallingLooms") hts i7_copyRow hK (List.mem_of_getElem? (i := 4) rfl) rfl rfl ⟨Nat.le_of_ble_eq_true rfl, Nat.le_of_ble_eq_true rfl⟩) hH hK hS hl.1 rfl rfl (Nat.le_of_ble_eq_true rfl) dX4_copyFrom_52 ⟨Nat.le_refl _, Nat.le_refl _⟩ (fun H locs hH hS => ?_)
  refine lv_aload_n hx hb dX4_copyFrom_55 rfl (lv_at hl 1 rfl) ?_
  have k22 : K.1 (p0 + 6) = (10, 6) := hH.sub k1 5 (t := (6, 10, 6)) rfl
  refine e_4_5 hx hb hts hown hK hH k1 (hts _ wd_57) dX4_copyFrom_56 ?_
  refine lv_aload_n hx hb dX4_copyFrom_59 rfl (lv_at hl 0 rfl) ?_
  have k23 : K.1 (a + 6) = (10, 6) := hH.sub hk0 5 (t := (6, 10, 6)) rfl
  refine e_4_5 hx hb hts hown hK hH hk0 (hts _ wd_57) dX4_copyFrom_60 ?_
  obtain ⟨g24, h25, hf⟩ := gbind hf
  refine g_SvN (As := [.ref (p0 + 6), .ref (a + 6)]) (rest := []) ⟨hx, hb, hml, hown, hts⟩ (c7_copyRow l w K g20 S (p0 + 6) (a + 6) g24 h25) (gcwSN (host := "CallingLooms") hts i7_copyRow hK (List.mem_of_getElem? (i := 4) rfl) rfl rfl ⟨Nat.le_of_ble_eq_true rfl, Nat.le_of_ble_eq_true rfl⟩) hH hK hS hl.1 rfl rfl (Nat.le_of_ble_eq_true rfl) dX4_copyFrom_63 ⟨Nat.le_refl _, Nat.le_refl _⟩ (fun H locs hH hS => ?_)
  refine lv_aload_n hx hb dX4_copyFrom_66 rfl (lv_at hl 1 rfl) ?_
  have k26 : K.1 (p0 + 7) = (10, 6) := hH.sub k1 6 (t := (7, 10, 6)) rfl
  refine e_4_6 hx hb hts hown hK hH k1 (hts _ wd_58) dX4_copyFrom_67 ?_
  refine lv_aload_n hx hb dX4_copyFrom_70 rfl (lv_at hl 0 rfl) ?_
  have k27 : K.1 (a + 7) = (10, 6) := hH.sub hk0 6 (t := (7, 10, 6)) rfl
  refine e_4_6 hx hb hts hown hK hH hk0 (hts _ wd_58) dX4_copyFrom_71 ?_
  obtain ⟨g28, h29, hf⟩ := gbind hf
  refine g_SvN (As := [.ref (p0 + 7), .ref (a + 7)]) (rest := []) ⟨hx, hb, hml, hown, hts⟩ (c7_copyRow l w K g24 S (p0 + 7) (a + 7) g28 h29) (gcwSN (host := "CallingLooms") hts i7_copyRow hK (List.mem_of_getElem? (i := 4) rfl) rfl rfl ⟨Nat.le_of_ble_eq_true rfl, Nat.le_of_ble_eq_true rfl⟩) hH hK hS hl.1 rfl rfl (Nat.le_of_ble_eq_true rfl) dX4_copyFrom_74 ⟨Nat.le_refl _, Nat.le_refl _⟩ (fun H locs hH hS => ?_)
  refine lv_aload_n hx hb dX4_copyFrom_77 rfl (lv_at hl 0 rfl) ?_
  refine lv_aload_n hx hb dX4_copyFrom_78 rfl (lv_at hl 1 rfl) ?_
  refine e_4_9 hx hb hts hown hK hH k1 (hts _ wd_65) dX4_copyFrom_79 ?_
  refine lv_sipush (v := 400) hx hb dX4_copyFrom_82 (by decide) ?_
  refine va_mmin hx hb (hml.trans hl.1.symm) hown (hts _ wd_276) (hts _ wd_229) (hts _ wd_150) (hts _ wd_230) (Nat.le_of_ble_eq_true rfl) (Nat.le_of_ble_eq_true rfl) (Nat.le_of_ble_eq_true rfl) (Nat.le_of_ble_eq_true rfl) dX4_copyFrom_85 ?_
  refine p_4_9 hx hb hts hown hK hH hS hk0 (hts _ wd_65) dX4_copyFrom_88 (fun H locs hH hS => ?_)
  obtain ⟨g30, eg30⟩ : ∃ z : GM, z = gsI g28 a 9 (if 400 < (gI g28 p0 9) then 400 else (gI g28 p0 9)) := ⟨_, rfl⟩
  have hf := gl_at hf eg30
  replace hH : HR w K g30 S H := by rw [eg30]; exact hH
  refine lv_aload_n hx hb dX4_copyFrom_91 rfl (lv_at hl 1 rfl) ?_
  have k31 : K.1 (p0 + 8) = (12, 400) := hH.sub k1 7 (t := (8, 12, 400)) rfl
  refine e_4_7 hx hb hts hown hK hH k1 (hts _ wd_60) dX4_copyFrom_92 ?_
  refine lv_iconst (v := 0) hx hb dX4_copyFrom_95 (by decide) ?_
  refine lv_aload_n hx hb dX4_copyFrom_96 rfl (lv_at hl 0 rfl) ?_
  have k32 : K.1 (a + 8) = (12, 400) := hH.sub hk0 7 (t := (8, 12, 400)) rfl
  refine e_4_7 hx hb hts hown hK hH hk0 (hts _ wd_60) dX4_copyFrom_97 ?_
  refine lv_iconst (v := 0) hx hb dX4_copyFrom_100 (by decide) ?_
  refine lv_aload_n hx hb dX4_copyFrom_101 rfl (lv_at hl 0 rfl) ?_
  refine e_4_9 hx hb hts hown hK hH hk0 (hts _ wd_65) dX4_copyFrom_102 ?_
  obtain ⟨h33, hf⟩ := gd_some hf
  obtain ⟨h331, h332, h333, h334, h335⟩ := of_decide_eq_true h33
  obtain ⟨h34, hf⟩ := gd_some hf
  refine g_copy hx hb (hml.trans hl.1.symm) hown (hts _ wd_277) (hts _ wd_278) (hts _ wd_279) (hts _ wd_280) hK hH hS (t := 2) (ty := .byte) k31 k32 (fun _ _ _ h => gcell12 h) (by decide) rfl rfl h331 h332 h333 h334 h335 (gft_at h34) (Nat.le_of_ble_eq_true rfl) (Nat.le_of_ble_eq_true rfl) dX4_copyFrom_105 (fun H locs hH hS => ?_)
  obtain ⟨g35, eg35⟩ : ∃ z : GM, z = gsC g30 (a + 8) (va_cpy (g30.1 (p0 + 8)) (g30.1 (a + 8)) (0 : Int32).toNatClampNeg (0 : Int32).toNatClampNeg (gI g30 a 9).toNatClampNeg) := ⟨_, rfl⟩
  have hf := gl_at hf eg35
  replace hH : HR w K g35 S H := by rw [eg35]; exact hH
  refine lv_aload_n hx hb dX4_copyFrom_108 rfl (lv_at hl 0 rfl) ?_
  have k36 : gkd K (a + 9) = 1 := congrArg Prod.fst (hH.sub hk0 8 (t := (9, 1, 0)) rfl)
  refine e_4_8 hx hb hts hown hK hH hk0 (hts _ wd_64) dX4_copyFrom_109 ?_
  refine lv_aload_n hx hb dX4_copyFrom_112 rfl (lv_at hl 1 rfl) ?_
  have k37 : gkd K (p0 + 9) = 1 := congrArg Prod.fst (hH.sub k1 8 (t := (9, 1, 0)) rfl)
  refine e_4_8 hx hb hts hown hK hH k1 (hts _ wd_64) dX4_copyFrom_113 ?_
  obtain ⟨g38, h39, hf⟩ := gbind hf
  refine g_Vv (As := [.ref (p0 + 9)]) (rest := []) ⟨hx, hb, hml, hown, hts⟩ (c0_copyFrom l w K g35 S (a + 9) (p0 + 9) g38 h39 k36) (gcwV hts i0_copyFrom wd_287 rfl rfl ⟨Nat.le_of_ble_eq_true rfl, Nat.le_of_ble_eq_true rfl⟩) (gRecv.of hK rfl (hH.o1 k36)) hH hK hS hl.1 rfl rfl (Nat.le_of_ble_eq_true rfl) dX4_copyFrom_116 ⟨Nat.le_refl _, Nat.le_refl _⟩ (fun H locs hH hS => ?_)
  refine lv_aload_n hx hb dX4_copyFrom_119 rfl (lv_at hl 0 rfl) ?_
  refine lv_aload_n hx hb dX4_copyFrom_120 rfl (lv_at hl 1 rfl) ?_
  refine e_4_10 hx hb hts hown hK hH k1 (hts _ wd_66) dX4_copyFrom_121 ?_
  refine p_4_10 hx hb hts hown hK hH hS hk0 (hts _ wd_66) dX4_copyFrom_124 (fun H locs hH hS => ?_)
  obtain ⟨g40, eg40⟩ : ∃ z : GM, z = gsI g38 a 10 (gI g38 p0 10) := ⟨_, rfl⟩
  have hf := gl_at hf eg40
  replace hH : HR w K g40 S H := by rw [eg40]; exact hH
  refine lv_aload_n hx hb dX4_copyFrom_127 rfl (lv_at hl 0 rfl) ?_
  refine lv_aload_n hx hb dX4_copyFrom_128 rfl (lv_at hl 1 rfl) ?_
  refine e_4_11 hx hb hts hown hK hH k1 (hts _ wd_67) dX4_copyFrom_129 ?_
  refine p_4_11 hx hb hts hown hK hH hS hk0 (hts _ wd_67) dX4_copyFrom_132 (fun H locs hH hS => ?_)
  obtain ⟨g41, eg41⟩ : ∃ z : GM, z = gsI g40 a 11 (gI g40 p0 11) := ⟨_, rfl⟩
  have hf := gl_at hf eg41
  replace hH : HR w K g41 S H := by rw [eg41]; exact hH
  refine lv_aload_n hx hb dX4_copyFrom_135 rfl (lv_at hl 0 rfl) ?_
  refine lv_aload_n hx hb dX4_copyFrom_136 rfl (lv_at hl 1 rfl) ?_
  refine e_4_12 hx hb hts hown hK hH k1 (hts _ wd_68) dX4_copyFrom_137 ?_
  refine p_4_12 hx hb hts hown hK hH hS hk0 (hts _ wd_68) dX4_copyFrom_140 (fun H locs hH hS => ?_)
  obtain ⟨g42, eg42⟩ : ∃ z : GM, z = gsI g41 a 12 (gI g41 p0 12) := ⟨_, rfl⟩
  have hf := gl_at hf eg42
  replace hH : HR w K g42 S H := by rw [eg42]; exact hH
  have ho := Option.some.inj hf
  exact W.vret hx hb hr (fun t ht hW => ⟨⟨(), rfl, trivial, hrV ht ho hH⟩, hS.F ht⟩) hS.2.2 dX4_copyFrom_143
set_option maxRecDepth 100000 in
set_option maxHeartbeats 8000000 in
theorem c3_keep (l : Launch) (w : GW) (K : GK) (g : GM) (S : GS) (a : Nat) (p0 : Nat) (out : GM) (hf : f3_keep K g a p0 = some out) (hk0 : gkd K a = 4) : Met l yX3_keep (wA yX3_keep cX3_keep 2 none) ({ frames := 4, cells := 0, slots := 0, locals := 123 } : Room) (PRE w K g S [.ref a, .ref p0]) (QV w K out S) 0 0 (FR w) := by
  unfold f3_keep at hf
  refine Met.ofW (cc := cX3_keep) (maxL := 2) (ret := none) (by decide) rfl ?_
  intro p e s m args below meth c s₁ B hml hv
  obtain ⟨rfl, hH, hK⟩ := hv
  have hx := B.exec
  have hb := B.bytes
  have hr := B.returns
  have hts : ∀ q ∈ gALL, q.before _ s = true := fun q h => atoms_spec (ws := (wA yX3_keep cX3_keep 2 none)) B.pre q (List.mem_cons_of_mem _ h)
  have hown : s.vm.findClass RX3 = some m.cls := findClass_of_methodNamed B.named
  have hlocks := B.notSynchronized
  have hS : va_S (FR w) s.heap s.heap [] := va_S.rf
  show W p l e ({ frames := 4, cells := 0, slots := 0, locals := 123 } : Room) s m _ below meth c s.heap [] 0 0 (MQ below (QV w K out S) _ s 0 0 (FR w)) _
  have hl := lv_entry ([.ref a, .ref p0]) (n := 2) (Nat.le_of_ble_eq_true rfl)
  rw [lg_entry_eq]
  generalize (lg_sl ([.ref a, .ref p0]) ++ List.replicate (2 - (lg_sl ([.ref a, .ref p0])).length) Slot.unset).toArray = ls at hl ⊢
  clear B
  generalize ([.ref a, .ref p0] : List Value).toArray = args at hts ⊢
  have B13 : ∀ (g : GM) (H : Heap) (locs : List Loc) (ls : Array Slot), HR w K g S H → va_S (FR w) s.heap H locs → lv_has ls 2 [(0, .ref a), (1, .ref p0)] → f3_keep_13 K a p0 g = some out → W p l e ({ frames := 4, cells := 0, slots := 0, locals := 123 } : Room) s m args below meth c H locs 0 0 (MQ below (QV w K out S) args s 0 0 (FR w)) (F0 m 13 ls []) := by
    intro  g H locs ls hH hS hl hf
    unfold f3_keep_13 at hf
    refine lv_aload_n hx hb dX3_keep_13 rfl (lv_at hl 0 rfl) ?_
    have k1 : K.1 (a + 1) = (14, 6) := hH.sub hk0 0 (t := (1, 14, 6)) rfl
    refine e_3_0 hx hb hts hown hK hH hk0 (hts _ wd_85) dX3_keep_14 ?_
    refine lv_aload_n hx hb dX3_keep_17 rfl (lv_at hl 0 rfl) ?_
    refine e_3_1 hx hb hts hown hK hH hk0 (hts _ wd_86) dX3_keep_18 ?_
    obtain ⟨h3, hf⟩ := gd_some hf
    refine g_lald hx hb hK hH k1 h3 dX3_keep_21 ?_
    rcases gopt_c hf with ⟨q5, hf⟩ | ⟨t4, q5, hf⟩
    · cases hf
    · refine g_rfS q5 ?_
      refine lv_aload_n hx hb dX3_keep_22 rfl (lv_at hl 1 rfl) ?_
      obtain ⟨k6, hf⟩ := gd_some hf
      have k6 := gk_obj k6
      obtain ⟨g7, h8, hf⟩ := gbind hf
      refine g_Vv (As := [.ref p0]) (rest := []) ⟨hx, hb, hml, hown, hts⟩ (c4_copyFrom l w K g S t4 p0 g7 h8 k6) (gcwV hts i4_copyFrom wd_272 rfl rfl ⟨Nat.le_of_ble_eq_true rfl, Nat.le_of_ble_eq_true rfl⟩) (gRecv.of hK rfl (hH.o5 k6)) hH hK hS hl.1 rfl rfl (Nat.le_of_ble_eq_true rfl) dX3_keep_23 ⟨Nat.le_refl _, Nat.le_refl _⟩ (fun H locs hH hS => ?_)
      refine lv_aload_n hx hb dX3_keep_26 rfl (lv_at hl 0 rfl) ?_
      refine lv_dup hx hb dX3_keep_27 rfl ?_
      refine e_3_1 hx hb hts hown hK hH hk0 (hts _ wd_86) dX3_keep_28 ?_
      refine lv_iconst (v := 1) hx hb dX3_keep_31 (by decide) ?_
      refine lv_iadd hx hb dX3_keep_32 ?_
      refine p_3_1 hx hb hts hown hK hH hS hk0 (hts _ wd_86) dX3_keep_33 (fun H locs hH hS => ?_)
      obtain ⟨g9, eg9⟩ : ∃ z : GM, z = gsI g7 a 1 ((gI g7 a 1) + 1) := ⟨_, rfl⟩
      have hf := gl_at hf eg9
      replace hH : HR w K g9 S H := by rw [eg9]; exact hH
      have ho := Option.some.inj hf
      exact W.vret hx hb hr (fun t ht hW => ⟨⟨(), rfl, trivial, hrV ht ho hH⟩, hS.F ht⟩) hS.2.2 dX3_keep_36
  have hl : lv_has ls 2 [(0, .ref a), (1, .ref p0)] := hl
  refine lv_aload_n hx hb dX3_keep_0 rfl (lv_at hl 0 rfl) ?_
  refine e_3_1 hx hb hts hown hK hH hk0 (hts _ wd_86) dX3_keep_1 ?_
  refine lv_bipush (v := 6) hx hb dX3_keep_4 (by decide) ?_
  have hg := gif hf
  refine lv_icmp_ne (tgt := 13) hx hb dX3_keep_6 (by decide) (fun c10 => ?_) (fun c10 => ?_)
  · have hf := hg.2 c10
    exact B13 _ _ _ _ hH hS (lv_sub hl [0, 1] rfl) hf
  · have hf := hg.1 c10
    refine lv_aload_n hx hb dX3_keep_9 rfl (lv_at hl 0 rfl) ?_
    obtain ⟨g11, h12, hf⟩ := gbind hf
    refine g_Vv (As := []) (rest := []) ⟨hx, hb, hml, hown, hts⟩ (c3_dropOldest l w K g S a g11 h12 hk0) (gcwV hts i3_dropOldest wd_268 rfl rfl ⟨Nat.le_of_ble_eq_true rfl, Nat.le_of_ble_eq_true rfl⟩) (gRecv.of hK rfl (hH.o4 hk0)) hH hK hS hl.1 rfl rfl (Nat.le_of_ble_eq_true rfl) dX3_keep_10 ⟨Nat.le_refl _, Nat.le_refl _⟩ (fun H locs hH hS => ?_)
    exact B13 _ _ _ _ hH hS (lv_sub hl [0, 1] rfl) hf
set_option maxRecDepth 100000 in
set_option maxHeartbeats 8000000 in
theorem c7_card (l : Launch) (w : GW) (K : GK) (g : GM) (S : GS) (a : Nat) (p0 : Int32) (out : GK × GM × Int32) (hf : f7_card K g a p0 = some out) (hk0 : gkd K a = 8) : Met l yX7_card (wA yX7_card cX7_card 3 (some .int)) ({ frames := 5, cells := 6, slots := 409, locals := 144 } : Room) (PRE w K g S [.ref a, .int p0]) (QI w out.1 out.2.1 S out.2.2) 6 409 (FR w) := by
  unfold f7_card at hf
  refine Met.ofW (cc := cX7_card) (maxL := 3) (ret := (some .int)) (by decide) rfl ?_
  intro p e s m args below meth c s₁ B hml hv
  obtain ⟨rfl, hH, hK⟩ := hv
  have hx := B.exec
  have hb := B.bytes
  have hr := B.returns
  have hts : ∀ q ∈ gALL, q.before _ s = true := fun q h => atoms_spec (ws := (wA yX7_card cX7_card 3 (some .int))) B.pre q (List.mem_cons_of_mem _ h)
  have hown : s.vm.findClass RX7 = some m.cls := findClass_of_methodNamed B.named
  have hlocks := B.notSynchronized
  have hS : va_S (FR w) s.heap s.heap [] := va_S.rf
  show W p l e ({ frames := 5, cells := 6, slots := 409, locals := 144 } : Room) s m _ below meth c s.heap [] 0 0 (MQ below (QI w out.1 out.2.1 S out.2.2) _ s 6 409 (FR w)) _
  have hl := lv_entry ([.ref a, .int p0]) (n := 3) (Nat.le_of_ble_eq_true rfl)
  rw [lg_entry_eq]
  generalize (lg_sl ([.ref a, .int p0]) ++ List.replicate (3 - (lg_sl ([.ref a, .int p0])).length) Slot.unset).toArray = ls at hl ⊢
  clear B
  generalize ([.ref a, .int p0] : List Value).toArray = args at hts ⊢
  have hl : lv_has ls 3 [(0, .ref a), (1, .int p0)] := hl
  refine lv_iload_n hx hb dX7_card_0 rfl (lv_at hl 1 rfl) ?_
  refine lv_bipush (v := 10) hx hb dX7_card_1 (by decide) ?_
  obtain ⟨v1, h2, hf⟩ := gbind hf
  refine g_Si (As := [.int p0, .int 10]) (rest := []) ⟨hx, hb, hml, hown, hts⟩ (c7_inRange l w K g S p0 10 v1 h2) (gcwS hts i7_inRange wd_137 rfl rfl ⟨Nat.le_of_ble_eq_true rfl, Nat.le_of_ble_eq_true rfl⟩) hH hK hS hl.1 rfl rfl (Nat.le_of_ble_eq_true rfl) dX7_card_3 ⟨Nat.le_of_ble_eq_true rfl, Nat.le_of_ble_eq_true rfl⟩ (fun H locs hH hS => ?_)
  have hg := gif hf
  refine lv_if_ne (tgt := 11) hx hb dX7_card_6 (by decide) (fun c3 => ?_) (fun c3 => ?_)
  · have hf := hg.2 c3
    refine lv_aload_n hx hb dX7_card_11 rfl (lv_at hl 0 rfl) ?_
    have k4 : gkd K (a + 3) = 7 := congrArg Prod.fst (hH.sub hk0 1 (t := (3, 7, 0)) rfl)
    refine e_7_1 hx hb hts hown hK hH hk0 (hts _ wd_17) dX7_card_12 ?_
    refine lv_aload_n hx hb dX7_card_15 rfl (lv_at hl 0 rfl) ?_
    have k5 : gkd K (a + 1) = 6 := congrArg Prod.fst (hH.sub hk0 0 (t := (1, 6, 0)) rfl)
    refine e_7_0 hx hb hts hown hK hH hk0 (hts _ wd_13) dX7_card_16 ?_
    obtain ⟨r6, h7, hf⟩ := gbind hf
    refine g_Vi (As := [.ref (a + 1)]) (rest := []) ⟨hx, hb, hml, hown, hts⟩ (c6_faultOf l w K g S (a + 3) (a + 1) r6 h7 k4) (gcwV hts i6_faultOf wd_216 rfl rfl ⟨Nat.le_of_ble_eq_true rfl, Nat.le_of_ble_eq_true rfl⟩) (gRecv.of hK rfl (hH.o7 k4)) hH hK hS hl.1 rfl rfl (Nat.le_of_ble_eq_true rfl) dX7_card_19 ⟨Nat.le_of_ble_eq_true rfl, Nat.le_of_ble_eq_true rfl⟩ (fun H locs hH hS => ?_)
    refine lv_bipush (v := (-6)) hx hb dX7_card_22 (by decide) ?_
    have hg := gif hf
    refine lv_icmp_eq (tgt := 30) hx hb dX7_card_24 (by decide) (fun c8 => ?_) (fun c8 => ?_)
    · have hf := hg.1 c8
      refine lv_aload_n hx hb dX7_card_30 rfl (lv_at hl 0 rfl) ?_
      have k9 : gkd K (a + 42) = 4 := congrArg Prod.fst (hH.sub hk0 4 (t := (42, 4, 0)) rfl)
      refine e_7_4 hx hb hts hown hK hH hk0 (hts _ wd_26) dX7_card_31 ?_
      refine lv_aload_n hx hb dX7_card_34 rfl (lv_at hl 0 rfl) ?_
      have k10 : gkd K (a + 10) = 5 := congrArg Prod.fst (hH.sub hk0 2 (t := (10, 5, 0)) rfl)
      refine e_7_2 hx hb hts hown hK hH hk0 (hts _ wd_21) dX7_card_35 ?_
      obtain ⟨g11, h12, hf⟩ := gbind hf
      refine g_Vv (As := [.ref (a + 10)]) (rest := []) ⟨hx, hb, hml, hown, hts⟩ (c3_keep l w K r6.1 S (a + 42) (a + 10) g11 h12 k9) (gcwV hts i3_keep wd_264 rfl rfl ⟨Nat.le_of_ble_eq_true rfl, Nat.le_of_ble_eq_true rfl⟩) (gRecv.of hK rfl (hH.o4 k9)) hH hK hS hl.1 rfl rfl (Nat.le_of_ble_eq_true rfl) dX7_card_38 ⟨Nat.le_of_ble_eq_true rfl, Nat.le_of_ble_eq_true rfl⟩ (fun H locs hH hS => ?_)
      refine lv_aload_n hx hb dX7_card_41 rfl (lv_at hl 0 rfl) ?_
      refine e_7_1 hx hb hts hown hK hH hk0 (hts _ wd_17) dX7_card_42 ?_
      obtain ⟨r13, h14, hf⟩ := gbind hf
      refine g_Va (As := []) (rest := []) ⟨hx, hb, hml, hown, hts⟩ (c6_readText l w K g11 S (a + 3) r13 h14 k4) (gcwV hts i6_readText wd_291 rfl rfl ⟨Nat.le_of_ble_eq_true rfl, Nat.le_of_ble_eq_true rfl⟩) (gRecv.of hK rfl (hH.o7 k4)) hH hK hS hl.1 rfl rfl (Nat.le_of_ble_eq_true rfl) dX7_card_45 ⟨Nat.le_of_ble_eq_true rfl, Nat.le_of_ble_eq_true rfl⟩ (fun H locs hH hS => ?_)
      refine lv_astore_n (lv' := [(2, .ref K.2), (0, .ref a), (1, .int p0)]) hx hb dX7_card_48 rfl hl (by decide) rfl (fun ls hl => ?_)
      refine lv_aload_n hx hb dX7_card_49 rfl (lv_at hl 1 rfl) ?_
      obtain ⟨k15, hf⟩ := gd_some hf
      have k15 := gk_obj k15
      have k16 : gkd r13.1 (a + 10) = 5 := congrArg Prod.fst (hH.sub k15 2 (t := (10, 5, 0)) rfl)
      refine e_7_2 hx hb hts hown hK hH k15 (hts _ wd_21) dX7_card_50 ?_
      have k17 : r13.1.1 (a + 11) = (13, 10) := hH.sub k16 0 (t := (1, 13, 10)) rfl
      refine e_4_0 hx hb hts hown hK hH k16 (hts _ wd_113) dX7_card_53 ?_
      refine lv_iload_n hx hb dX7_card_56 rfl (lv_at hl 2 rfl) ?_
      refine lv_aload_n hx hb dX7_card_57 rfl (lv_at hl 0 rfl) ?_
      obtain ⟨k19, hf⟩ := gd_some hf
      have k19 := gk_obj k19
      obtain ⟨h20, hf⟩ := gd_some hf
      refine g_tast hx hb hK hH hS k17 k19 h20 dX7_card_58 (fun H locs hH hS => ?_)
      obtain ⟨g21, eg21⟩ : ∃ z : GM, z = gsR r13.2 (a + 11) p0.toNatClampNeg (some K.2) := ⟨_, rfl⟩
      have hf := gl_at hf eg21
      replace hH : HR w r13.1 g21 S H := by rw [eg21]; exact hH
      refine lv_aload_n hx hb dX7_card_59 rfl (lv_at hl 1 rfl) ?_
      have k22 : gkd r13.1 (a + 1) = 6 := congrArg Prod.fst (hH.sub k15 0 (t := (1, 6, 0)) rfl)
      refine e_7_0 hx hb hts hown hK hH k15 (hts _ wd_13) dX7_card_60 ?_
      refine lv_iconst (v := 0) hx hb dX7_card_63 (by decide) ?_
      refine p_5_1 hx hb hts hown hK hH hS k22 (hts _ wd_124) dX7_card_64 (fun H locs hH hS => ?_)
      obtain ⟨g23, eg23⟩ : ∃ z : GM, z = gsI g21 (a + 1) 1 0 := ⟨_, rfl⟩
      have hf := gl_at hf eg23
      replace hH : HR w r13.1 g23 S H := by rw [eg23]; exact hH
      refine lv_aload_n hx hb dX7_card_67 rfl (lv_at hl 0 rfl) ?_
      refine e_1_1 hx hb hts hown hK hH k19 (hts _ wd_172) dX7_card_68 ?_
      refine W.widen (k := 6) (n := 409) (Nat.le_of_ble_eq_true rfl) (Nat.le_of_ble_eq_true rfl) ?_
      have ho := Option.some.inj hf
      exact W.iret (v := (gI g23 K.2 1)) hx hb hr (fun t ht hW => ⟨⟨(gI g23 K.2 1), (), rfl, congrArg (fun q => q.2.2) ho, hrA ht ho hH⟩, hS.F ht⟩) hS.2.2 dX7_card_71
    · have hf := hg.2 c8
      refine lv_bipush (v := (-3)) hx hb dX7_card_27 (by decide) ?_
      refine W.widen (k := 6) (n := 409) (Nat.le_of_ble_eq_true rfl) (Nat.le_of_ble_eq_true rfl) ?_
      have ho := Option.some.inj hf
      exact W.iret (v := (-3)) hx hb hr (fun t ht hW => ⟨⟨(-3), (), rfl, congrArg (fun q => q.2.2) ho, hrA ht ho hH⟩, hS.F ht⟩) hS.2.2 dX7_card_29
  · have hf := hg.1 c3
    refine lv_iconst (v := (-1)) hx hb dX7_card_9 (by decide) ?_
    refine W.widen (k := 6) (n := 409) (Nat.le_of_ble_eq_true rfl) (Nat.le_of_ble_eq_true rfl) ?_
    have ho := Option.some.inj hf
    exact W.iret (v := (-1)) hx hb hr (fun t ht hW => ⟨⟨(-1), (), rfl, congrArg (fun q => q.2.2) ho, hrA ht ho hH⟩, hS.F ht⟩) hS.2.2 dX7_card_10
set_option maxRecDepth 100000 in
set_option maxHeartbeats 8000000 in
theorem c1_timesAt (l : Launch) (w : GW) (K : GK) (g : GM) (S : GS) (a : Nat) (p0 : Int32) (out : Int32) (hf : f1_timesAt K g a p0 = some out) (hk0 : gkd K a = 2) : Met l yX1_timesAt (wA yX1_timesAt cX1_timesAt 2 (some .int)) ({ frames := 0, cells := 0, slots := 0, locals := 0 } : Room) (PRE w K g S [.ref a, .int p0]) (QI w K g S out) 0 0 (FR w) := by
  unfold f1_timesAt at hf
  refine Met.ofW (cc := cX1_timesAt) (maxL := 2) (ret := (some .int)) (by decide) rfl ?_
  intro p e s m args below meth c s₁ B hml hv
  obtain ⟨rfl, hH, hK⟩ := hv
  have hx := B.exec
  have hb := B.bytes
  have hr := B.returns
  have hts : ∀ q ∈ gALL, q.before _ s = true := fun q h => atoms_spec (ws := (wA yX1_timesAt cX1_timesAt 2 (some .int))) B.pre q (List.mem_cons_of_mem _ h)
  have hown : s.vm.findClass RX1 = some m.cls := findClass_of_methodNamed B.named
  have hlocks := B.notSynchronized
  have hS : va_S (FR w) s.heap s.heap [] := va_S.rf
  show W p l e ({ frames := 0, cells := 0, slots := 0, locals := 0 } : Room) s m _ below meth c s.heap [] 0 0 (MQ below (QI w K g S out) _ s 0 0 (FR w)) _
  have hl := lv_entry ([.ref a, .int p0]) (n := 2) (Nat.le_of_ble_eq_true rfl)
  rw [lg_entry_eq]
  generalize (lg_sl ([.ref a, .int p0]) ++ List.replicate (2 - (lg_sl ([.ref a, .int p0])).length) Slot.unset).toArray = ls at hl ⊢
  clear B
  generalize ([.ref a, .int p0] : List Value).toArray = args at hts ⊢
  have B21 : ∀ (H : Heap) (locs : List Loc) (ls : Array Slot), HR w K g S H → va_S (FR w) s.heap H locs → lv_has ls 2 [] → f1_timesAt_21 K g a p0 = some out → W p l e ({ frames := 0, cells := 0, slots := 0, locals := 0 } : Room) s m args below meth c H locs 0 0 (MQ below (QI w K g S out) args s 0 0 (FR w)) (F0 m 21 ls []) := by
    intro   H locs ls hH hS hl hf
    unfold f1_timesAt_21 at hf
    refine lv_iconst (v := 0) hx hb dX1_timesAt_21 (by decide) ?_
    have ho := Option.some.inj hf
    exact W.iret (v := 0) hx hb hr (fun t ht hW => ⟨⟨0, (), rfl, ho, hrE ht hH⟩, hS.F ht⟩) hS.2.2 dX1_timesAt_22
  have hl : lv_has ls 2 [(0, .ref a), (1, .int p0)] := hl
  refine lv_iload_n hx hb dX1_timesAt_0 rfl (lv_at hl 1 rfl) ?_
  have hg := gif hf
  refine lv_if_lt (tgt := 21) hx hb dX1_timesAt_1 (by decide) (fun c1 => ?_) (fun c1 => ?_)
  · have hf := hg.1 c1
    exact B21 _ _ _ hH hS (lv_sub hl [] rfl) hf
  · have hf := hg.2 c1
    refine lv_iload_n hx hb dX1_timesAt_4 rfl (lv_at hl 1 rfl) ?_
    refine lv_aload_n hx hb dX1_timesAt_5 rfl (lv_at hl 0 rfl) ?_
    refine e_1_0 hx hb hts hown hK hH hk0 (hts _ wd_303) dX1_timesAt_6 ?_
    have hg := gif hf
    refine lv_icmp_ge (tgt := 21) hx hb dX1_timesAt_9 (by decide) (fun c2 => ?_) (fun c2 => ?_)
    · have hf := hg.1 c2
      exact B21 _ _ _ hH hS (lv_sub hl [] rfl) hf
    · have hf := hg.2 c2
      refine lv_aload_n hx hb dX1_timesAt_12 rfl (lv_at hl 0 rfl) ?_
      have k3 : K.1 (a + 2) = (10, gkn K a) := hH.sub hk0 1 (t := (2, 10, gkn K a)) rfl
      refine e_1_5 hx hb hts hown hK hH hk0 (hts _ wd_311) dX1_timesAt_13 ?_
      refine lv_iload_n hx hb dX1_timesAt_16 rfl (lv_at hl 1 rfl) ?_
      obtain ⟨h5, hf⟩ := gd_some hf
      refine g_iald hx hb hK hH k3 h5 dX1_timesAt_17 ?_
      refine lv_goto (tgt := 22) hx hb dX1_timesAt_18 (by decide) ?_
      have ho := Option.some.inj hf
      exact W.iret (v := (gI g (a + 2) p0.toNatClampNeg)) hx hb hr (fun t ht hW => ⟨⟨(gI g (a + 2) p0.toNatClampNeg), (), rfl, ho, hrE ht hH⟩, hS.F ht⟩) hS.2.2 dX1_timesAt_22
set_option maxRecDepth 100000 in
set_option maxHeartbeats 8000000 in
theorem c0_layOn (l : Launch) (w : GW) (K : GK) (g : GM) (S : GS) (a : Nat) (p0 : Int32) (p1 : Option Nat) (p2 : Int32) (out : GM) (hf : f0_layOn K g a p0 p1 p2 = some out) (hk0 : gkd K a = 1) : Met l yX0_layOn (wA yX0_layOn cX0_layOn 4 none) ({ frames := 1, cells := 0, slots := 0, locals := 21 } : Room) (PRE w K g S [.ref a, .int p0, va_rf p1, .int p2]) (QV w K out S) 0 0 (FR w) := by
  unfold f0_layOn at hf
  rcases gopt_c hf with ⟨rfl, hf⟩ | ⟨tp1, rfl, hf⟩
  · show Met l yX0_layOn (wA yX0_layOn cX0_layOn 4 none) ({ frames := 1, cells := 0, slots := 0, locals := 21 } : Room) (PRE w K g S [.ref a, .int p0, .null, .int p2]) (QV w K out S) 0 0 (FR w)
    refine Met.ofW (cc := cX0_layOn) (maxL := 4) (ret := none) (by decide) rfl ?_
    intro p e s m args below meth c s₁ B hml hv
    obtain ⟨rfl, hH, hK⟩ := hv
    have hx := B.exec
    have hb := B.bytes
    have hr := B.returns
    have hts : ∀ q ∈ gALL, q.before _ s = true := fun q h => atoms_spec (ws := (wA yX0_layOn cX0_layOn 4 none)) B.pre q (List.mem_cons_of_mem _ h)
    have hown : s.vm.findClass RX0 = some m.cls := findClass_of_methodNamed B.named
    have hlocks := B.notSynchronized
    have hS : va_S (FR w) s.heap s.heap [] := va_S.rf
    show W p l e ({ frames := 1, cells := 0, slots := 0, locals := 21 } : Room) s m _ below meth c s.heap [] 0 0 (MQ below (QV w K out S) _ s 0 0 (FR w)) _
    have hl := lv_entry ([.ref a, .int p0, .null, .int p2]) (n := 4) (Nat.le_of_ble_eq_true rfl)
    rw [lg_entry_eq]
    generalize (lg_sl ([.ref a, .int p0, .null, .int p2]) ++ List.replicate (4 - (lg_sl ([.ref a, .int p0, .null, .int p2])).length) Slot.unset).toArray = ls at hl ⊢
    clear B
    generalize ([.ref a, .int p0, .null, .int p2] : List Value).toArray = args at hts ⊢
    have hl : lv_has ls 4 [(0, .ref a), (1, .int p0), (2, .null), (3, .int p2)] := hl
    refine lv_aload_nN hx hb dX0_layOn_0 rfl (lv_at hl 2 rfl) ?_
    refine lv_ifnullN (tgt := 13) hx hb dX0_layOn_1 (by decide) ?_
    have ho := Option.some.inj hf
    exact W.vret hx hb hr (fun t ht hW => ⟨⟨(), rfl, trivial, hrV ht ho hH⟩, hS.F ht⟩) hS.2.2 dX0_layOn_13
  · show Met l yX0_layOn (wA yX0_layOn cX0_layOn 4 none) ({ frames := 1, cells := 0, slots := 0, locals := 21 } : Room) (PRE w K g S [.ref a, .int p0, .ref tp1, .int p2]) (QV w K out S) 0 0 (FR w)
    refine Met.ofW (cc := cX0_layOn) (maxL := 4) (ret := none) (by decide) rfl ?_
    intro p e s m args below meth c s₁ B hml hv
    obtain ⟨rfl, hH, hK⟩ := hv
    have hx := B.exec
    have hb := B.bytes
    have hr := B.returns
    have hts : ∀ q ∈ gALL, q.before _ s = true := fun q h => atoms_spec (ws := (wA yX0_layOn cX0_layOn 4 none)) B.pre q (List.mem_cons_of_mem _ h)
    have hown : s.vm.findClass RX0 = some m.cls := findClass_of_methodNamed B.named
    have hlocks := B.notSynchronized
    have hS : va_S (FR w) s.heap s.heap [] := va_S.rf
    show W p l e ({ frames := 1, cells := 0, slots := 0, locals := 21 } : Room) s m _ below meth c s.heap [] 0 0 (MQ below (QV w K out S) _ s 0 0 (FR w)) _
    have hl := lv_entry ([.ref a, .int p0, .ref tp1, .int p2]) (n := 4) (Nat.le_of_ble_eq_true rfl)
    rw [lg_entry_eq]
    generalize (lg_sl ([.ref a, .int p0, .ref tp1, .int p2]) ++ List.replicate (4 - (lg_sl ([.ref a, .int p0, .ref tp1, .int p2])).length) Slot.unset).toArray = ls at hl ⊢
    clear B
    generalize ([.ref a, .int p0, .ref tp1, .int p2] : List Value).toArray = args at hts ⊢
    have hl : lv_has ls 4 [(0, .ref a), (1, .int p0), (2, .ref tp1), (3, .int p2)] := hl
    refine lv_aload_n hx hb dX0_layOn_0 rfl (lv_at hl 2 rfl) ?_
    refine lv_ifnull hx hb dX0_layOn_1 ?_
    refine lv_aload_n hx hb dX0_layOn_4 rfl (lv_at hl 0 rfl) ?_
    refine e_0_6 hx hb hts hown hK hH hk0 (hts _ wd_79) dX0_layOn_5 ?_
    refine lv_bipush (v := 9) hx hb dX0_layOn_8 (by decide) ?_
    have hg := gif hf
    refine lv_icmp_lt (tgt := 14) hx hb dX0_layOn_10 (by decide) (fun c1 => ?_) (fun c1 => ?_)
    · have hf := hg.1 c1
      refine lv_aload_n hx hb dX0_layOn_14 rfl (lv_at hl 0 rfl) ?_
      have k2 : K.1 (a + 1) = (10, 9) := hH.sub hk0 0 (t := (1, 10, 9)) rfl
      refine e_0_0 hx hb hts hown hK hH hk0 (hts _ wd_72) dX0_layOn_15 ?_
      refine lv_aload_n hx hb dX0_layOn_18 rfl (lv_at hl 0 rfl) ?_
      refine e_0_6 hx hb hts hown hK hH hk0 (hts _ wd_79) dX0_layOn_19 ?_
      refine lv_iload_n hx hb dX0_layOn_22 rfl (lv_at hl 1 rfl) ?_
      obtain ⟨h4, hf⟩ := gd_some hf
      refine g_iast hx hb hK hH hS k2 h4 dX0_layOn_23 (fun H locs hH hS => ?_)
      obtain ⟨g5, eg5⟩ : ∃ z : GM, z = gsI g (a + 1) (gI g a 6).toNatClampNeg p0 := ⟨_, rfl⟩
      have hf := gl_at hf eg5
      replace hH : HR w K g5 S H := by rw [eg5]; exact hH
      refine lv_aload_n hx hb dX0_layOn_24 rfl (lv_at hl 0 rfl) ?_
      have k6 : K.1 (a + 6) = (13, 9) := hH.sub hk0 5 (t := (6, 13, 9)) rfl
      refine e_0_5 hx hb hts hown hK hH hk0 (hts _ wd_78) dX0_layOn_25 ?_
      refine lv_aload_n hx hb dX0_layOn_28 rfl (lv_at hl 0 rfl) ?_
      refine e_0_6 hx hb hts hown hK hH hk0 (hts _ wd_79) dX0_layOn_29 ?_
      refine lv_aload_n hx hb dX0_layOn_32 rfl (lv_at hl 2 rfl) ?_
      obtain ⟨k8, hf⟩ := gd_some hf
      have k8 := gk_obj k8
      obtain ⟨h9, hf⟩ := gd_some hf
      refine g_tast hx hb hK hH hS k6 k8 h9 dX0_layOn_33 (fun H locs hH hS => ?_)
      obtain ⟨g10, eg10⟩ : ∃ z : GM, z = gsR g5 (a + 6) (gI g5 a 6).toNatClampNeg (some tp1) := ⟨_, rfl⟩
      have hf := gl_at hf eg10
      replace hH : HR w K g10 S H := by rw [eg10]; exact hH
      refine lv_aload_n hx hb dX0_layOn_34 rfl (lv_at hl 0 rfl) ?_
      have k11 : K.1 (a + 2) = (10, 9) := hH.sub hk0 1 (t := (2, 10, 9)) rfl
      refine e_0_1 hx hb hts hown hK hH hk0 (hts _ wd_73) dX0_layOn_35 ?_
      refine lv_aload_n hx hb dX0_layOn_38 rfl (lv_at hl 0 rfl) ?_
      refine e_0_6 hx hb hts hown hK hH hk0 (hts _ wd_79) dX0_layOn_39 ?_
      refine lv_iload_n hx hb dX0_layOn_42 rfl (lv_at hl 3 rfl) ?_
      obtain ⟨h13, hf⟩ := gd_some hf
      refine g_iast hx hb hK hH hS k11 h13 dX0_layOn_43 (fun H locs hH hS => ?_)
      obtain ⟨g14, eg14⟩ : ∃ z : GM, z = gsI g10 (a + 2) (gI g10 a 6).toNatClampNeg p2 := ⟨_, rfl⟩
      have hf := gl_at hf eg14
      replace hH : HR w K g14 S H := by rw [eg14]; exact hH
      refine lv_aload_n hx hb dX0_layOn_44 rfl (lv_at hl 0 rfl) ?_
      have k15 : K.1 (a + 3) = (10, 9) := hH.sub hk0 2 (t := (3, 10, 9)) rfl
      refine e_0_2 hx hb hts hown hK hH hk0 (hts _ wd_74) dX0_layOn_45 ?_
      refine lv_aload_n hx hb dX0_layOn_48 rfl (lv_at hl 0 rfl) ?_
      refine e_0_6 hx hb hts hown hK hH hk0 (hts _ wd_79) dX0_layOn_49 ?_
      refine lv_iconst (v := 0) hx hb dX0_layOn_52 (by decide) ?_
      obtain ⟨h17, hf⟩ := gd_some hf
      refine g_iast hx hb hK hH hS k15 h17 dX0_layOn_53 (fun H locs hH hS => ?_)
      obtain ⟨g18, eg18⟩ : ∃ z : GM, z = gsI g14 (a + 3) (gI g14 a 6).toNatClampNeg 0 := ⟨_, rfl⟩
      have hf := gl_at hf eg18
      replace hH : HR w K g18 S H := by rw [eg18]; exact hH
      refine lv_aload_n hx hb dX0_layOn_54 rfl (lv_at hl 0 rfl) ?_
      have k19 : K.1 (a + 4) = (10, 36) := hH.sub hk0 3 (t := (4, 10, 36)) rfl
      refine e_0_3 hx hb hts hown hK hH hk0 (hts _ wd_75) dX0_layOn_55 ?_
      refine lv_aload_n hx hb dX0_layOn_58 rfl (lv_at hl 0 rfl) ?_
      refine e_0_6 hx hb hts hown hK hH hk0 (hts _ wd_79) dX0_layOn_59 ?_
      refine lv_iconst (v := 4) hx hb dX0_layOn_62 (by decide) ?_
      refine lv_imul hx hb dX0_layOn_63 ?_
      refine lv_iconst (v := 0) hx hb dX0_layOn_64 (by decide) ?_
      obtain ⟨h21, hf⟩ := gd_some hf
      refine g_iast hx hb hK hH hS k19 h21 dX0_layOn_65 (fun H locs hH hS => ?_)
      obtain ⟨g22, eg22⟩ : ∃ z : GM, z = gsI g18 (a + 4) ((gI g18 a 6) * 4).toNatClampNeg 0 := ⟨_, rfl⟩
      have hf := gl_at hf eg22
      replace hH : HR w K g22 S H := by rw [eg22]; exact hH
      refine lv_aload_n hx hb dX0_layOn_66 rfl (lv_at hl 0 rfl) ?_
      have k23 : K.1 (a + 5) = (10, 36) := hH.sub hk0 4 (t := (5, 10, 36)) rfl
      refine e_0_4 hx hb hts hown hK hH hk0 (hts _ wd_76) dX0_layOn_67 ?_
      refine lv_aload_n hx hb dX0_layOn_70 rfl (lv_at hl 0 rfl) ?_
      refine e_0_6 hx hb hts hown hK hH hk0 (hts _ wd_79) dX0_layOn_71 ?_
      refine lv_iconst (v := 4) hx hb dX0_layOn_74 (by decide) ?_
      refine lv_imul hx hb dX0_layOn_75 ?_
      refine lv_aload_n hx hb dX0_layOn_76 rfl (lv_at hl 2 rfl) ?_
      refine lv_iconst (v := 0) hx hb dX0_layOn_77 (by decide) ?_
      obtain ⟨v24, h25, hf⟩ := gbind hf
      refine g_Vi (As := [.int 0]) (rest := [.int ((gI g22 a 6) * 4), .ref (a + 5)]) ⟨hx, hb, hml, hown, hts⟩ (c1_timesAt l w K g22 S tp1 0 v24 h25 k8) (gcwV hts i1_timesAt wd_347 rfl rfl ⟨Nat.le_of_ble_eq_true rfl, Nat.le_of_ble_eq_true rfl⟩) (gRecv.of hK rfl (hH.o2 k8)) hH hK hS hl.1 rfl rfl (Nat.le_of_ble_eq_true rfl) dX0_layOn_78 ⟨Nat.le_refl _, Nat.le_refl _⟩ (fun H locs hH hS => ?_)
      obtain ⟨h27, hf⟩ := gd_some hf
      refine g_iast hx hb hK hH hS k23 h27 dX0_layOn_81 (fun H locs hH hS => ?_)
      obtain ⟨g28, eg28⟩ : ∃ z : GM, z = gsI g22 (a + 5) ((gI g22 a 6) * 4).toNatClampNeg v24 := ⟨_, rfl⟩
      have hf := gl_at hf eg28
      replace hH : HR w K g28 S H := by rw [eg28]; exact hH
      refine lv_aload_n hx hb dX0_layOn_82 rfl (lv_at hl 0 rfl) ?_
      refine lv_dup hx hb dX0_layOn_83 rfl ?_
      refine e_0_6 hx hb hts hown hK hH hk0 (hts _ wd_79) dX0_layOn_84 ?_
      refine lv_iconst (v := 1) hx hb dX0_layOn_87 (by decide) ?_
      refine lv_iadd hx hb dX0_layOn_88 ?_
      refine p_0_6 hx hb hts hown hK hH hS hk0 (hts _ wd_79) dX0_layOn_89 (fun H locs hH hS => ?_)
      obtain ⟨g29, eg29⟩ : ∃ z : GM, z = gsI g28 a 6 ((gI g28 a 6) + 1) := ⟨_, rfl⟩
      have hf := gl_at hf eg29
      replace hH : HR w K g29 S H := by rw [eg29]; exact hH
      have ho := Option.some.inj hf
      exact W.vret hx hb hr (fun t ht hW => ⟨⟨(), rfl, trivial, hrV ht ho hH⟩, hS.F ht⟩) hS.2.2 dX0_layOn_92
    · have hf := hg.2 c1
      have ho := Option.some.inj hf
      exact W.vret hx hb hr (fun t ht hW => ⟨⟨(), rfl, trivial, hrV ht ho hH⟩, hS.F ht⟩) hS.2.2 dX0_layOn_13
set_option maxRecDepth 100000 in
set_option maxHeartbeats 8000000 in
theorem c4_layOnStack (l : Launch) (w : GW) (K : GK) (g : GM) (S : GS) (a : Nat) (p0 : Int32) (p1 : Int32) (out : GM) (hf : f4_layOnStack K g a p0 p1 = some out) (hk0 : gkd K a = 5) : Met l yX4_layOnStack (wA yX4_layOnStack cX4_layOnStack 3 none) ({ frames := 2, cells := 0, slots := 0, locals := 44 } : Room) (PRE w K g S [.ref a, .int p0, .int p1]) (QV w K out S) 0 0 (FR w) := by
  unfold f4_layOnStack at hf
  refine Met.ofW (cc := cX4_layOnStack) (maxL := 3) (ret := none) (by decide) rfl ?_
  intro p e s m args below meth c s₁ B hml hv
  obtain ⟨rfl, hH, hK⟩ := hv
  have hx := B.exec
  have hb := B.bytes
  have hr := B.returns
  have hts : ∀ q ∈ gALL, q.before _ s = true := fun q h => atoms_spec (ws := (wA yX4_layOnStack cX4_layOnStack 3 none)) B.pre q (List.mem_cons_of_mem _ h)
  have hown : s.vm.findClass RX4 = some m.cls := findClass_of_methodNamed B.named
  have hlocks := B.notSynchronized
  have hS : va_S (FR w) s.heap s.heap [] := va_S.rf
  show W p l e ({ frames := 2, cells := 0, slots := 0, locals := 44 } : Room) s m _ below meth c s.heap [] 0 0 (MQ below (QV w K out S) _ s 0 0 (FR w)) _
  have hl := lv_entry ([.ref a, .int p0, .int p1]) (n := 3) (Nat.le_of_ble_eq_true rfl)
  rw [lg_entry_eq]
  generalize (lg_sl ([.ref a, .int p0, .int p1]) ++ List.replicate (3 - (lg_sl ([.ref a, .int p0, .int p1])).length) Slot.unset).toArray = ls at hl ⊢
  clear B
  generalize ([.ref a, .int p0, .int p1] : List Value).toArray = args at hts ⊢
  have hl : lv_has ls 3 [(0, .ref a), (1, .int p0), (2, .int p1)] := hl
  refine lv_aload_n hx hb dX4_layOnStack_0 rfl (lv_at hl 0 rfl) ?_
  have k1 : gkd K (a + 9) = 1 := congrArg Prod.fst (hH.sub hk0 8 (t := (9, 1, 0)) rfl)
  refine e_4_8 hx hb hts hown hK hH hk0 (hts _ wd_64) dX4_layOnStack_1 ?_
  refine lv_iload_n hx hb dX4_layOnStack_4 rfl (lv_at hl 1 rfl) ?_
  refine lv_aload_n hx hb dX4_layOnStack_5 rfl (lv_at hl 0 rfl) ?_
  have k2 : K.1 (a + 1) = (13, 10) := hH.sub hk0 0 (t := (1, 13, 10)) rfl
  refine e_4_0 hx hb hts hown hK hH hk0 (hts _ wd_52) dX4_layOnStack_6 ?_
  refine lv_iload_n hx hb dX4_layOnStack_9 rfl (lv_at hl 1 rfl) ?_
  obtain ⟨h4, hf⟩ := gd_some hf
  refine g_tald hx hb hK hH k2 h4 dX4_layOnStack_10 ?_
  rcases gopt_c hf with ⟨q6, hf⟩ | ⟨t5, q6, hf⟩
  · refine g_rfN q6 ?_
    refine lv_iload_n hx hb dX4_layOnStack_11 rfl (lv_at hl 2 rfl) ?_
    obtain ⟨g7, h8, hf⟩ := gbind hf
    refine g_Vv (As := [.int p0, va_rf none, .int p1]) (rest := []) ⟨hx, hb, hml, hown, hts⟩ (c0_layOn l w K g S (a + 9) p0 none p1 g7 h8 k1) (gcwV hts i0_layOn wd_343 rfl rfl ⟨Nat.le_of_ble_eq_true rfl, Nat.le_of_ble_eq_true rfl⟩) (gRecv.of hK rfl (hH.o1 k1)) hH hK hS hl.1 rfl rfl (Nat.le_of_ble_eq_true rfl) dX4_layOnStack_12 ⟨Nat.le_refl _, Nat.le_refl _⟩ (fun H locs hH hS => ?_)
    refine lv_aload_n hx hb dX4_layOnStack_15 rfl (lv_at hl 0 rfl) ?_
    have k9 : K.1 (a + 2) = (10, 10) := hH.sub hk0 1 (t := (2, 10, 10)) rfl
    refine e_4_1 hx hb hts hown hK hH hk0 (hts _ wd_53) dX4_layOnStack_16 ?_
    refine lv_iload_n hx hb dX4_layOnStack_19 rfl (lv_at hl 1 rfl) ?_
    refine lv_dup2_11 hx hb dX4_layOnStack_20 rfl rfl ?_
    refine g_iald hx hb hK hH k9 h4 dX4_layOnStack_21 ?_
    refine lv_iconst (v := 1) hx hb dX4_layOnStack_22 (by decide) ?_
    refine lv_iadd hx hb dX4_layOnStack_23 ?_
    refine g_iast hx hb hK hH hS k9 h4 dX4_layOnStack_24 (fun H locs hH hS => ?_)
    obtain ⟨g12, eg12⟩ : ∃ z : GM, z = gsI g7 (a + 2) p0.toNatClampNeg ((gI g7 (a + 2) p0.toNatClampNeg) + 1) := ⟨_, rfl⟩
    have hf := gl_at hf eg12
    replace hH : HR w K g12 S H := by rw [eg12]; exact hH
    refine lv_aload_n hx hb dX4_layOnStack_25 rfl (lv_at hl 0 rfl) ?_
    refine lv_aload_n hx hb dX4_layOnStack_26 rfl (lv_at hl 0 rfl) ?_
    refine e_4_10 hx hb hts hown hK hH hk0 (hts _ wd_66) dX4_layOnStack_27 ?_
    refine lv_aload_n hx hb dX4_layOnStack_30 rfl (lv_at hl 0 rfl) ?_
    refine e_4_8 hx hb hts hown hK hH hk0 (hts _ wd_64) dX4_layOnStack_31 ?_
    refine e_0_6 hx hb hts hown hK hH k1 (hts _ wd_338) dX4_layOnStack_34 ?_
    refine va_mmax hx hb (hml.trans hl.1.symm) hown (hts _ wd_148) (hts _ wd_149) (hts _ wd_150) (hts _ wd_151) (Nat.le_of_ble_eq_true rfl) (Nat.le_of_ble_eq_true rfl) (Nat.le_of_ble_eq_true rfl) (Nat.le_of_ble_eq_true rfl) dX4_layOnStack_37 ?_
    refine p_4_10 hx hb hts hown hK hH hS hk0 (hts _ wd_66) dX4_layOnStack_40 (fun H locs hH hS => ?_)
    obtain ⟨g13, eg13⟩ : ∃ z : GM, z = gsI g12 a 10 (if (gI g12 a 10) < (gI g12 (a + 9) 6) then (gI g12 (a + 9) 6) else (gI g12 a 10)) := ⟨_, rfl⟩
    have hf := gl_at hf eg13
    replace hH : HR w K g13 S H := by rw [eg13]; exact hH
    have ho := Option.some.inj hf
    exact W.vret hx hb hr (fun t ht hW => ⟨⟨(), rfl, trivial, hrV ht ho hH⟩, hS.F ht⟩) hS.2.2 dX4_layOnStack_43
  · refine g_rfS q6 ?_
    refine lv_iload_n hx hb dX4_layOnStack_11 rfl (lv_at hl 2 rfl) ?_
    obtain ⟨g14, h15, hf⟩ := gbind hf
    refine g_Vv (As := [.int p0, va_rf (some t5), .int p1]) (rest := []) ⟨hx, hb, hml, hown, hts⟩ (c0_layOn l w K g S (a + 9) p0 ((some t5)) p1 g14 h15 k1) (gcwV hts i0_layOn wd_343 rfl rfl ⟨Nat.le_of_ble_eq_true rfl, Nat.le_of_ble_eq_true rfl⟩) (gRecv.of hK rfl (hH.o1 k1)) hH hK hS hl.1 rfl rfl (Nat.le_of_ble_eq_true rfl) dX4_layOnStack_12 ⟨Nat.le_refl _, Nat.le_refl _⟩ (fun H locs hH hS => ?_)
    refine lv_aload_n hx hb dX4_layOnStack_15 rfl (lv_at hl 0 rfl) ?_
    have k16 : K.1 (a + 2) = (10, 10) := hH.sub hk0 1 (t := (2, 10, 10)) rfl
    refine e_4_1 hx hb hts hown hK hH hk0 (hts _ wd_53) dX4_layOnStack_16 ?_
    refine lv_iload_n hx hb dX4_layOnStack_19 rfl (lv_at hl 1 rfl) ?_
    refine lv_dup2_11 hx hb dX4_layOnStack_20 rfl rfl ?_
    refine g_iald hx hb hK hH k16 h4 dX4_layOnStack_21 ?_
    refine lv_iconst (v := 1) hx hb dX4_layOnStack_22 (by decide) ?_
    refine lv_iadd hx hb dX4_layOnStack_23 ?_
    refine g_iast hx hb hK hH hS k16 h4 dX4_layOnStack_24 (fun H locs hH hS => ?_)
    obtain ⟨g19, eg19⟩ : ∃ z : GM, z = gsI g14 (a + 2) p0.toNatClampNeg ((gI g14 (a + 2) p0.toNatClampNeg) + 1) := ⟨_, rfl⟩
    have hf := gl_at hf eg19
    replace hH : HR w K g19 S H := by rw [eg19]; exact hH
    refine lv_aload_n hx hb dX4_layOnStack_25 rfl (lv_at hl 0 rfl) ?_
    refine lv_aload_n hx hb dX4_layOnStack_26 rfl (lv_at hl 0 rfl) ?_
    refine e_4_10 hx hb hts hown hK hH hk0 (hts _ wd_66) dX4_layOnStack_27 ?_
    refine lv_aload_n hx hb dX4_layOnStack_30 rfl (lv_at hl 0 rfl) ?_
    refine e_4_8 hx hb hts hown hK hH hk0 (hts _ wd_64) dX4_layOnStack_31 ?_
    refine e_0_6 hx hb hts hown hK hH k1 (hts _ wd_338) dX4_layOnStack_34 ?_
    refine va_mmax hx hb (hml.trans hl.1.symm) hown (hts _ wd_148) (hts _ wd_149) (hts _ wd_150) (hts _ wd_151) (Nat.le_of_ble_eq_true rfl) (Nat.le_of_ble_eq_true rfl) (Nat.le_of_ble_eq_true rfl) (Nat.le_of_ble_eq_true rfl) dX4_layOnStack_37 ?_
    refine p_4_10 hx hb hts hown hK hH hS hk0 (hts _ wd_66) dX4_layOnStack_40 (fun H locs hH hS => ?_)
    obtain ⟨g20, eg20⟩ : ∃ z : GM, z = gsI g19 a 10 (if (gI g19 a 10) < (gI g19 (a + 9) 6) then (gI g19 (a + 9) 6) else (gI g19 a 10)) := ⟨_, rfl⟩
    have hf := gl_at hf eg20
    replace hH : HR w K g20 S H := by rw [eg20]; exact hH
    have ho := Option.some.inj hf
    exact W.vret hx hb hr (fun t ht hW => ⟨⟨(), rfl, trivial, hrV ht ho hH⟩, hS.F ht⟩) hS.2.2 dX4_layOnStack_43
set_option maxRecDepth 100000 in
set_option maxHeartbeats 8000000 in
theorem c4_beginWith (l : Launch) (w : GW) (K : GK) (g : GM) (S : GS) (a : Nat) (p0 : Int32) (out : GM × Int32) (hf : f4_beginWith K g a p0 = some out) (hk0 : gkd K a = 5) : Met l yX4_beginWith (wA yX4_beginWith cX4_beginWith 3 (some .int)) ({ frames := 3, cells := 0, slots := 0, locals := 66 } : Room) (PRE w K g S [.ref a, .int p0]) (QI w K out.1 S out.2) 0 0 (FR w) := by
  unfold f4_beginWith at hf
  refine Met.ofW (cc := cX4_beginWith) (maxL := 3) (ret := (some .int)) (by decide) rfl ?_
  intro p e s m args below meth c s₁ B hml hv
  obtain ⟨rfl, hH, hK⟩ := hv
  have hx := B.exec
  have hb := B.bytes
  have hr := B.returns
  have hts : ∀ q ∈ gALL, q.before _ s = true := fun q h => atoms_spec (ws := (wA yX4_beginWith cX4_beginWith 3 (some .int))) B.pre q (List.mem_cons_of_mem _ h)
  have hown : s.vm.findClass RX4 = some m.cls := findClass_of_methodNamed B.named
  have hlocks := B.notSynchronized
  have hS : va_S (FR w) s.heap s.heap [] := va_S.rf
  show W p l e ({ frames := 3, cells := 0, slots := 0, locals := 66 } : Room) s m _ below meth c s.heap [] 0 0 (MQ below (QI w K out.1 S out.2) _ s 0 0 (FR w)) _
  have hl := lv_entry ([.ref a, .int p0]) (n := 3) (Nat.le_of_ble_eq_true rfl)
  rw [lg_entry_eq]
  generalize (lg_sl ([.ref a, .int p0]) ++ List.replicate (3 - (lg_sl ([.ref a, .int p0])).length) Slot.unset).toArray = ls at hl ⊢
  clear B
  generalize ([.ref a, .int p0] : List Value).toArray = args at hts ⊢
  have hl : lv_has ls 3 [(0, .ref a), (1, .int p0)] := hl
  refine lv_aload_n hx hb dX4_beginWith_0 rfl (lv_at hl 0 rfl) ?_
  have k1 : gkd K (a + 9) = 1 := congrArg Prod.fst (hH.sub hk0 8 (t := (9, 1, 0)) rfl)
  refine e_4_8 hx hb hts hown hK hH hk0 (hts _ wd_64) dX4_beginWith_1 ?_
  refine e_0_6 hx hb hts hown hK hH k1 (hts _ wd_338) dX4_beginWith_4 ?_
  refine lv_topi (fun v2 ev2 => ?_)
  have hf := gl_at hf ev2
  refine lv_istore_n (lv' := [(2, .int v2), (0, .ref a), (1, .int p0)]) hx hb dX4_beginWith_7 rfl hl (by decide) rfl (fun ls hl => ?_)
  refine lv_aload_n hx hb dX4_beginWith_8 rfl (lv_at hl 1 rfl) ?_
  refine e_4_8 hx hb hts hown hK hH hk0 (hts _ wd_64) dX4_beginWith_9 ?_
  refine lv_iconst (v := 0) hx hb dX4_beginWith_12 (by decide) ?_
  refine p_0_6 hx hb hts hown hK hH hS k1 (hts _ wd_338) dX4_beginWith_13 (fun H locs hH hS => ?_)
  obtain ⟨g3, eg3⟩ : ∃ z : GM, z = gsI g (a + 9) 6 0 := ⟨_, rfl⟩
  have hf := gl_at hf eg3
  replace hH : HR w K g3 S H := by rw [eg3]; exact hH
  refine lv_aload_n hx hb dX4_beginWith_16 rfl (lv_at hl 1 rfl) ?_
  refine lv_iload_n hx hb dX4_beginWith_17 rfl (lv_at hl 2 rfl) ?_
  refine lv_iconst (v := 0) hx hb dX4_beginWith_18 (by decide) ?_
  obtain ⟨g4, h5, hf⟩ := gbind hf
  refine g_Vv (As := [.int p0, .int 0]) (rest := []) ⟨hx, hb, hml, hown, hts⟩ (c4_layOnStack l w K g3 S a p0 0 g4 h5 hk0) (gcwV hts i4_layOnStack wd_339 rfl rfl ⟨Nat.le_of_ble_eq_true rfl, Nat.le_of_ble_eq_true rfl⟩) (gRecv.of hK rfl (hH.o5 hk0)) hH hK hS hl.1 rfl rfl (Nat.le_of_ble_eq_true rfl) dX4_beginWith_19 ⟨Nat.le_refl _, Nat.le_refl _⟩ (fun H locs hH hS => ?_)
  refine lv_iload_n hx hb dX4_beginWith_22 rfl (lv_at hl 0 rfl) ?_
  have ho := Option.some.inj hf
  exact W.iret (v := v2) hx hb hr (fun t ht hW => ⟨⟨v2, (), rfl, congrArg Prod.snd ho, hrP ht ho hH⟩, hS.F ht⟩) hS.2.2 dX4_beginWith_23
set_option maxRecDepth 100000 in
set_option maxHeartbeats 8000000 in
theorem c7_begin (l : Launch) (w : GW) (K : GK) (g : GM) (S : GS) (a : Nat) (p0 : Int32) (out : GM × Int32) (hf : f7_begin K g a p0 = some out) (hk0 : gkd K a = 8) : Met l yX7_begin (wA yX7_begin cX7_begin 2 (some .int)) ({ frames := 5, cells := 0, slots := 0, locals := 144 } : Room) (PRE w K g S [.ref a, .int p0]) (QI w K out.1 S out.2) 0 0 (FR w) := by
  unfold f7_begin at hf
  refine Met.ofW (cc := cX7_begin) (maxL := 2) (ret := (some .int)) (by decide) rfl ?_
  intro p e s m args below meth c s₁ B hml hv
  obtain ⟨rfl, hH, hK⟩ := hv
  have hx := B.exec
  have hb := B.bytes
  have hr := B.returns
  have hts : ∀ q ∈ gALL, q.before _ s = true := fun q h => atoms_spec (ws := (wA yX7_begin cX7_begin 2 (some .int))) B.pre q (List.mem_cons_of_mem _ h)
  have hown : s.vm.findClass RX7 = some m.cls := findClass_of_methodNamed B.named
  have hlocks := B.notSynchronized
  have hS : va_S (FR w) s.heap s.heap [] := va_S.rf
  show W p l e ({ frames := 5, cells := 0, slots := 0, locals := 144 } : Room) s m _ below meth c s.heap [] 0 0 (MQ below (QI w K out.1 S out.2) _ s 0 0 (FR w)) _
  have hl := lv_entry ([.ref a, .int p0]) (n := 2) (Nat.le_of_ble_eq_true rfl)
  rw [lg_entry_eq]
  generalize (lg_sl ([.ref a, .int p0]) ++ List.replicate (2 - (lg_sl ([.ref a, .int p0])).length) Slot.unset).toArray = ls at hl ⊢
  clear B
  generalize ([.ref a, .int p0] : List Value).toArray = args at hts ⊢
  have hl : lv_has ls 2 [(0, .ref a), (1, .int p0)] := hl
  refine lv_iload_n hx hb dX7_begin_0 rfl (lv_at hl 1 rfl) ?_
  refine lv_bipush (v := 10) hx hb dX7_begin_1 (by decide) ?_
  obtain ⟨v1, h2, hf⟩ := gbind hf
  refine g_Si (As := [.int p0, .int 10]) (rest := []) ⟨hx, hb, hml, hown, hts⟩ (c7_inRange l w K g S p0 10 v1 h2) (gcwS hts i7_inRange wd_137 rfl rfl ⟨Nat.le_of_ble_eq_true rfl, Nat.le_of_ble_eq_true rfl⟩) hH hK hS hl.1 rfl rfl (Nat.le_of_ble_eq_true rfl) dX7_begin_3 ⟨Nat.le_refl _, Nat.le_refl _⟩ (fun H locs hH hS => ?_)
  have hg := gif hf
  refine lv_if_ne (tgt := 11) hx hb dX7_begin_6 (by decide) (fun c3 => ?_) (fun c3 => ?_)
  · have hf := hg.2 c3
    refine lv_aload_n hx hb dX7_begin_11 rfl (lv_at hl 0 rfl) ?_
    have k4 : gkd K (a + 10) = 5 := congrArg Prod.fst (hH.sub hk0 2 (t := (10, 5, 0)) rfl)
    refine e_7_2 hx hb hts hown hK hH hk0 (hts _ wd_21) dX7_begin_12 ?_
    have k5 : K.1 (a + 11) = (13, 10) := hH.sub k4 0 (t := (1, 13, 10)) rfl
    refine e_4_0 hx hb hts hown hK hH k4 (hts _ wd_113) dX7_begin_15 ?_
    refine lv_iload_n hx hb dX7_begin_18 rfl (lv_at hl 1 rfl) ?_
    obtain ⟨h7, hf⟩ := gd_some hf
    refine g_tald hx hb hK hH k5 h7 dX7_begin_19 ?_
    rcases gopt_c hf with ⟨q9, hf⟩ | ⟨t8, q9, hf⟩
    · refine g_rfN q9 ?_
      refine lv_ifnonnullN hx hb dX7_begin_20 ?_
      refine lv_bipush (v := (-5)) hx hb dX7_begin_23 (by decide) ?_
      have ho := Option.some.inj hf
      exact W.iret (v := (-5)) hx hb hr (fun t ht hW => ⟨⟨(-5), (), rfl, congrArg Prod.snd ho, hrP ht ho hH⟩, hS.F ht⟩) hS.2.2 dX7_begin_25
    · refine g_rfS q9 ?_
      refine lv_ifnonnull (tgt := 26) hx hb dX7_begin_20 (by decide) ?_
      refine lv_aload_n hx hb dX7_begin_26 rfl (lv_at hl 0 rfl) ?_
      have k10 : gkd K (a + 42) = 4 := congrArg Prod.fst (hH.sub hk0 4 (t := (42, 4, 0)) rfl)
      refine e_7_4 hx hb hts hown hK hH hk0 (hts _ wd_26) dX7_begin_27 ?_
      refine lv_aload_n hx hb dX7_begin_30 rfl (lv_at hl 0 rfl) ?_
      refine e_7_2 hx hb hts hown hK hH hk0 (hts _ wd_21) dX7_begin_31 ?_
      obtain ⟨g11, h12, hf⟩ := gbind hf
      refine g_Vv (As := [.ref (a + 10)]) (rest := []) ⟨hx, hb, hml, hown, hts⟩ (c3_keep l w K g S (a + 42) (a + 10) g11 h12 k10) (gcwV hts i3_keep wd_264 rfl rfl ⟨Nat.le_of_ble_eq_true rfl, Nat.le_of_ble_eq_true rfl⟩) (gRecv.of hK rfl (hH.o4 k10)) hH hK hS hl.1 rfl rfl (Nat.le_of_ble_eq_true rfl) dX7_begin_34 ⟨Nat.le_refl _, Nat.le_refl _⟩ (fun H locs hH hS => ?_)
      refine lv_aload_n hx hb dX7_begin_37 rfl (lv_at hl 0 rfl) ?_
      refine e_7_2 hx hb hts hown hK hH hk0 (hts _ wd_21) dX7_begin_38 ?_
      refine lv_iload_n hx hb dX7_begin_41 rfl (lv_at hl 1 rfl) ?_
      obtain ⟨r13, h14, hf⟩ := gbind hf
      refine g_Vi (As := [.int p0]) (rest := []) ⟨hx, hb, hml, hown, hts⟩ (c4_beginWith l w K g11 S (a + 10) p0 r13 h14 k4) (gcwV hts i4_beginWith wd_334 rfl rfl ⟨Nat.le_of_ble_eq_true rfl, Nat.le_of_ble_eq_true rfl⟩) (gRecv.of hK rfl (hH.o5 k4)) hH hK hS hl.1 rfl rfl (Nat.le_of_ble_eq_true rfl) dX7_begin_42 ⟨Nat.le_refl _, Nat.le_refl _⟩ (fun H locs hH hS => ?_)
      have ho := Option.some.inj hf
      exact W.iret (v := r13.2) hx hb hr (fun t ht hW => ⟨⟨r13.2, (), rfl, congrArg Prod.snd ho, hrP ht ho hH⟩, hS.F ht⟩) hS.2.2 dX7_begin_45
  · have hf := hg.1 c3
    refine lv_iconst (v := (-1)) hx hb dX7_begin_9 (by decide) ?_
    have ho := Option.some.inj hf
    exact W.iret (v := (-1)) hx hb hr (fun t ht hW => ⟨⟨(-1), (), rfl, congrArg Prod.snd ho, hrP ht ho hH⟩, hS.F ht⟩) hS.2.2 dX7_begin_10
set_option maxRecDepth 100000 in
set_option maxHeartbeats 8000000 in
theorem c0_spotOf (l : Launch) (w : GW) (K : GK) (g : GM) (S : GS) (a : Nat) (p0 : Int32) (out : Int32) (hf : f0_spotOf K g a p0 = some out) (hk0 : gkd K a = 1) : Met l yX0_spotOf (wA yX0_spotOf cX0_spotOf 2 (some .int)) ({ frames := 0, cells := 0, slots := 0, locals := 0 } : Room) (PRE w K g S [.ref a, .int p0]) (QI w K g S out) 0 0 (FR w) := by
  unfold f0_spotOf at hf
  refine Met.ofW (cc := cX0_spotOf) (maxL := 2) (ret := (some .int)) (by decide) rfl ?_
  intro p e s m args below meth c s₁ B hml hv
  obtain ⟨rfl, hH, hK⟩ := hv
  have hx := B.exec
  have hb := B.bytes
  have hr := B.returns
  have hts : ∀ q ∈ gALL, q.before _ s = true := fun q h => atoms_spec (ws := (wA yX0_spotOf cX0_spotOf 2 (some .int))) B.pre q (List.mem_cons_of_mem _ h)
  have hown : s.vm.findClass RX0 = some m.cls := findClass_of_methodNamed B.named
  have hlocks := B.notSynchronized
  have hS : va_S (FR w) s.heap s.heap [] := va_S.rf
  show W p l e ({ frames := 0, cells := 0, slots := 0, locals := 0 } : Room) s m _ below meth c s.heap [] 0 0 (MQ below (QI w K g S out) _ s 0 0 (FR w)) _
  have hl := lv_entry ([.ref a, .int p0]) (n := 2) (Nat.le_of_ble_eq_true rfl)
  rw [lg_entry_eq]
  generalize (lg_sl ([.ref a, .int p0]) ++ List.replicate (2 - (lg_sl ([.ref a, .int p0])).length) Slot.unset).toArray = ls at hl ⊢
  clear B
  generalize ([.ref a, .int p0] : List Value).toArray = args at hts ⊢
  have hl : lv_has ls 2 [(0, .ref a), (1, .int p0)] := hl
  refine lv_iload_n hx hb dX0_spotOf_0 rfl (lv_at hl 1 rfl) ?_
  refine lv_iconst (v := 4) hx hb dX0_spotOf_1 (by decide) ?_
  refine lv_imul hx hb dX0_spotOf_2 ?_
  refine lv_aload_n hx hb dX0_spotOf_3 rfl (lv_at hl 0 rfl) ?_
  have k1 : K.1 (a + 3) = (10, 9) := hH.sub hk0 2 (t := (3, 10, 9)) rfl
  refine e_0_2 hx hb hts hown hK hH hk0 (hts _ wd_74) dX0_spotOf_4 ?_
  refine lv_iload_n hx hb dX0_spotOf_7 rfl (lv_at hl 1 rfl) ?_
  obtain ⟨h3, hf⟩ := gd_some hf
  refine g_iald hx hb hK hH k1 h3 dX0_spotOf_8 ?_
  refine lv_iadd hx hb dX0_spotOf_9 ?_
  have ho := Option.some.inj hf
  exact W.iret (v := ((p0 * 4) + (gI g (a + 3) p0.toNatClampNeg))) hx hb hr (fun t ht hW => ⟨⟨((p0 * 4) + (gI g (a + 3) p0.toNatClampNeg)), (), rfl, ho, hrE ht hH⟩, hS.F ht⟩) hS.2.2 dX0_spotOf_10
set_option maxRecDepth 100000 in
set_option maxHeartbeats 8000000 in
theorem c1_signAt (l : Launch) (w : GW) (K : GK) (g : GM) (S : GS) (a : Nat) (p0 : Int32) (out : Int32) (hf : f1_signAt K g a p0 = some out) (hk0 : gkd K a = 2) : Met l yX1_signAt (wA yX1_signAt cX1_signAt 2 (some .int)) ({ frames := 0, cells := 0, slots := 0, locals := 0 } : Room) (PRE w K g S [.ref a, .int p0]) (QI w K g S out) 0 0 (FR w) := by
  unfold f1_signAt at hf
  refine Met.ofW (cc := cX1_signAt) (maxL := 2) (ret := (some .int)) (by decide) rfl ?_
  intro p e s m args below meth c s₁ B hml hv
  obtain ⟨rfl, hH, hK⟩ := hv
  have hx := B.exec
  have hb := B.bytes
  have hr := B.returns
  have hts : ∀ q ∈ gALL, q.before _ s = true := fun q h => atoms_spec (ws := (wA yX1_signAt cX1_signAt 2 (some .int))) B.pre q (List.mem_cons_of_mem _ h)
  have hown : s.vm.findClass RX1 = some m.cls := findClass_of_methodNamed B.named
  have hlocks := B.notSynchronized
  have hS : va_S (FR w) s.heap s.heap [] := va_S.rf
  show W p l e ({ frames := 0, cells := 0, slots := 0, locals := 0 } : Room) s m _ below meth c s.heap [] 0 0 (MQ below (QI w K g S out) _ s 0 0 (FR w)) _
  have hl := lv_entry ([.ref a, .int p0]) (n := 2) (Nat.le_of_ble_eq_true rfl)
  rw [lg_entry_eq]
  generalize (lg_sl ([.ref a, .int p0]) ++ List.replicate (2 - (lg_sl ([.ref a, .int p0])).length) Slot.unset).toArray = ls at hl ⊢
  clear B
  generalize ([.ref a, .int p0] : List Value).toArray = args at hts ⊢
  have B21 : ∀ (H : Heap) (locs : List Loc) (ls : Array Slot), HR w K g S H → va_S (FR w) s.heap H locs → lv_has ls 2 [] → f1_signAt_21 K g a p0 = some out → W p l e ({ frames := 0, cells := 0, slots := 0, locals := 0 } : Room) s m args below meth c H locs 0 0 (MQ below (QI w K g S out) args s 0 0 (FR w)) (F0 m 21 ls []) := by
    intro   H locs ls hH hS hl hf
    unfold f1_signAt_21 at hf
    refine lv_iconst (v := 0) hx hb dX1_signAt_21 (by decide) ?_
    have ho := Option.some.inj hf
    exact W.iret (v := 0) hx hb hr (fun t ht hW => ⟨⟨0, (), rfl, ho, hrE ht hH⟩, hS.F ht⟩) hS.2.2 dX1_signAt_22
  have hl : lv_has ls 2 [(0, .ref a), (1, .int p0)] := hl
  refine lv_iload_n hx hb dX1_signAt_0 rfl (lv_at hl 1 rfl) ?_
  have hg := gif hf
  refine lv_if_lt (tgt := 21) hx hb dX1_signAt_1 (by decide) (fun c1 => ?_) (fun c1 => ?_)
  · have hf := hg.1 c1
    exact B21 _ _ _ hH hS (lv_sub hl [] rfl) hf
  · have hf := hg.2 c1
    refine lv_iload_n hx hb dX1_signAt_4 rfl (lv_at hl 1 rfl) ?_
    refine lv_aload_n hx hb dX1_signAt_5 rfl (lv_at hl 0 rfl) ?_
    refine e_1_0 hx hb hts hown hK hH hk0 (hts _ wd_303) dX1_signAt_6 ?_
    have hg := gif hf
    refine lv_icmp_ge (tgt := 21) hx hb dX1_signAt_9 (by decide) (fun c2 => ?_) (fun c2 => ?_)
    · have hf := hg.1 c2
      exact B21 _ _ _ hH hS (lv_sub hl [] rfl) hf
    · have hf := hg.2 c2
      refine lv_aload_n hx hb dX1_signAt_12 rfl (lv_at hl 0 rfl) ?_
      have k3 : K.1 (a + 1) = (11, gkn K a) := hH.sub hk0 0 (t := (1, 11, gkn K a)) rfl
      refine e_1_4 hx hb hts hown hK hH hk0 (hts _ wd_310) dX1_signAt_13 ?_
      refine lv_iload_n hx hb dX1_signAt_16 rfl (lv_at hl 1 rfl) ?_
      obtain ⟨h5, hf⟩ := gd_some hf
      refine g_cald hx hb hK hH k3 h5 dX1_signAt_17 ?_
      refine lv_goto (tgt := 22) hx hb dX1_signAt_18 (by decide) ?_
      have ho := Option.some.inj hf
      exact W.iret (v := (gI g (a + 1) p0.toNatClampNeg)) hx hb hr (fun t ht hW => ⟨⟨(gI g (a + 1) p0.toNatClampNeg), (), rfl, ho, hrE ht hH⟩, hS.F ht⟩) hS.2.2 dX1_signAt_22
set_option maxRecDepth 100000 in
set_option maxHeartbeats 8000000 in
theorem c0_stepLetter (l : Launch) (w : GW) (K : GK) (g : GM) (S : GS) (a : Nat) (out : Int32) (hf : f0_stepLetter K g a = some out) (hk0 : gkd K a = 1) : Met l yX0_stepLetter (wA yX0_stepLetter cX0_stepLetter 1 (some .int)) ({ frames := 1, cells := 0, slots := 0, locals := 21 } : Room) (PRE w K g S [.ref a]) (QI w K g S out) 0 0 (FR w) := by
  unfold f0_stepLetter at hf
  refine Met.ofW (cc := cX0_stepLetter) (maxL := 1) (ret := (some .int)) (by decide) rfl ?_
  intro p e s m args below meth c s₁ B hml hv
  obtain ⟨rfl, hH, hK⟩ := hv
  have hx := B.exec
  have hb := B.bytes
  have hr := B.returns
  have hts : ∀ q ∈ gALL, q.before _ s = true := fun q h => atoms_spec (ws := (wA yX0_stepLetter cX0_stepLetter 1 (some .int))) B.pre q (List.mem_cons_of_mem _ h)
  have hown : s.vm.findClass RX0 = some m.cls := findClass_of_methodNamed B.named
  have hlocks := B.notSynchronized
  have hS : va_S (FR w) s.heap s.heap [] := va_S.rf
  show W p l e ({ frames := 1, cells := 0, slots := 0, locals := 21 } : Room) s m _ below meth c s.heap [] 0 0 (MQ below (QI w K g S out) _ s 0 0 (FR w)) _
  have hl := lv_entry ([.ref a]) (n := 1) (Nat.le_of_ble_eq_true rfl)
  rw [lg_entry_eq]
  generalize (lg_sl ([.ref a]) ++ List.replicate (1 - (lg_sl ([.ref a])).length) Slot.unset).toArray = ls at hl ⊢
  clear B
  generalize ([.ref a] : List Value).toArray = args at hts ⊢
  have hl : lv_has ls 1 [(0, .ref a)] := hl
  refine lv_aload_n hx hb dX0_stepLetter_0 rfl (lv_at hl 0 rfl) ?_
  refine e_0_6 hx hb hts hown hK hH hk0 (hts _ wd_79) dX0_stepLetter_1 ?_
  have hg := gif hf
  refine lv_if_le (tgt := 39) hx hb dX0_stepLetter_4 (by decide) (fun c1 => ?_) (fun c1 => ?_)
  · have hf := hg.1 c1
    refine lv_iconst (v := 0) hx hb dX0_stepLetter_39 (by decide) ?_
    have ho := Option.some.inj hf
    exact W.iret (v := 0) hx hb hr (fun t ht hW => ⟨⟨0, (), rfl, ho, hrE ht hH⟩, hS.F ht⟩) hS.2.2 dX0_stepLetter_40
  · have hf := hg.2 c1
    refine lv_aload_n hx hb dX0_stepLetter_7 rfl (lv_at hl 0 rfl) ?_
    have k2 : K.1 (a + 6) = (13, 9) := hH.sub hk0 5 (t := (6, 13, 9)) rfl
    refine e_0_5 hx hb hts hown hK hH hk0 (hts _ wd_78) dX0_stepLetter_8 ?_
    refine lv_aload_n hx hb dX0_stepLetter_11 rfl (lv_at hl 0 rfl) ?_
    refine e_0_6 hx hb hts hown hK hH hk0 (hts _ wd_79) dX0_stepLetter_12 ?_
    refine lv_iconst (v := 1) hx hb dX0_stepLetter_15 (by decide) ?_
    refine lv_isub hx hb dX0_stepLetter_16 ?_
    obtain ⟨h4, hf⟩ := gd_some hf
    refine g_tald hx hb hK hH k2 h4 dX0_stepLetter_17 ?_
    rcases gopt_c hf with ⟨q6, hf⟩ | ⟨t5, q6, hf⟩
    · cases hf
    · refine g_rfS q6 ?_
      refine lv_aload_n hx hb dX0_stepLetter_18 rfl (lv_at hl 0 rfl) ?_
      have k12 : K.1 (a + 4) = (10, 36) := hH.sub hk0 3 (t := (4, 10, 36)) rfl
      refine e_0_3 hx hb hts hown hK hH hk0 (hts _ wd_75) dX0_stepLetter_19 ?_
      refine lv_aload_n hx hb dX0_stepLetter_22 rfl (lv_at hl 0 rfl) ?_
      refine lv_aload_n hx hb dX0_stepLetter_23 rfl (lv_at hl 0 rfl) ?_
      refine e_0_6 hx hb hts hown hK hH hk0 (hts _ wd_79) dX0_stepLetter_24 ?_
      refine lv_iconst (v := 1) hx hb dX0_stepLetter_27 (by decide) ?_
      refine lv_isub hx hb dX0_stepLetter_28 ?_
      obtain ⟨v13, h14, hf⟩ := gbind hf
      refine g_Vi (As := [.int ((gI g a 6) - 1)]) (rest := [.ref (a + 4), .ref t5]) ⟨hx, hb, hml, hown, hts⟩ (c0_spotOf l w K g S a ((gI g a 6) - 1) v13 h14 hk0) (gcwV hts i0_spotOf wd_163 rfl rfl ⟨Nat.le_of_ble_eq_true rfl, Nat.le_of_ble_eq_true rfl⟩) (gRecv.of hK rfl (hH.o1 hk0)) hH hK hS hl.1 rfl rfl (Nat.le_of_ble_eq_true rfl) dX0_stepLetter_29 ⟨Nat.le_refl _, Nat.le_refl _⟩ (fun H locs hH hS => ?_)
      obtain ⟨h16, hf⟩ := gd_some hf
      refine g_iald hx hb hK hH k12 h16 dX0_stepLetter_32 ?_
      obtain ⟨k17, hf⟩ := gd_some hf
      have k17 := gk_obj k17
      obtain ⟨v18, h19, hf⟩ := gbind hf
      refine g_Vi (As := [.int (gI g (a + 4) v13.toNatClampNeg)]) (rest := []) ⟨hx, hb, hml, hown, hts⟩ (c1_signAt l w K g S t5 (gI g (a + 4) v13.toNatClampNeg) v18 h19 k17) (gcwV hts i1_signAt wd_371 rfl rfl ⟨Nat.le_of_ble_eq_true rfl, Nat.le_of_ble_eq_true rfl⟩) (gRecv.of hK rfl (hH.o2 k17)) hH hK hS hl.1 rfl rfl (Nat.le_of_ble_eq_true rfl) dX0_stepLetter_33 ⟨Nat.le_refl _, Nat.le_refl _⟩ (fun H locs hH hS => ?_)
      refine lv_goto (tgt := 40) hx hb dX0_stepLetter_36 (by decide) ?_
      have ho := Option.some.inj hf
      exact W.iret (v := v18) hx hb hr (fun t ht hW => ⟨⟨v18, (), rfl, ho, hrE ht hH⟩, hS.F ht⟩) hS.2.2 dX0_stepLetter_40
set_option maxRecDepth 100000 in
set_option maxHeartbeats 8000000 in
theorem c0_topColour (l : Launch) (w : GW) (K : GK) (g : GM) (S : GS) (a : Nat) (out : Int32) (hf : f0_topColour K g a = some out) (hk0 : gkd K a = 1) : Met l yX0_topColour (wA yX0_topColour cX0_topColour 1 (some .int)) ({ frames := 0, cells := 0, slots := 0, locals := 0 } : Room) (PRE w K g S [.ref a]) (QI w K g S out) 0 0 (FR w) := by
  unfold f0_topColour at hf
  refine Met.ofW (cc := cX0_topColour) (maxL := 1) (ret := (some .int)) (by decide) rfl ?_
  intro p e s m args below meth c s₁ B hml hv
  obtain ⟨rfl, hH, hK⟩ := hv
  have hx := B.exec
  have hb := B.bytes
  have hr := B.returns
  have hts : ∀ q ∈ gALL, q.before _ s = true := fun q h => atoms_spec (ws := (wA yX0_topColour cX0_topColour 1 (some .int))) B.pre q (List.mem_cons_of_mem _ h)
  have hown : s.vm.findClass RX0 = some m.cls := findClass_of_methodNamed B.named
  have hlocks := B.notSynchronized
  have hS : va_S (FR w) s.heap s.heap [] := va_S.rf
  show W p l e ({ frames := 0, cells := 0, slots := 0, locals := 0 } : Room) s m _ below meth c s.heap [] 0 0 (MQ below (QI w K g S out) _ s 0 0 (FR w)) _
  have hl := lv_entry ([.ref a]) (n := 1) (Nat.le_of_ble_eq_true rfl)
  rw [lg_entry_eq]
  generalize (lg_sl ([.ref a]) ++ List.replicate (1 - (lg_sl ([.ref a])).length) Slot.unset).toArray = ls at hl ⊢
  clear B
  generalize ([.ref a] : List Value).toArray = args at hts ⊢
  have hl : lv_has ls 1 [(0, .ref a)] := hl
  refine lv_aload_n hx hb dX0_topColour_0 rfl (lv_at hl 0 rfl) ?_
  refine e_0_6 hx hb hts hown hK hH hk0 (hts _ wd_79) dX0_topColour_1 ?_
  have hg := gif hf
  refine lv_if_le (tgt := 21) hx hb dX0_topColour_4 (by decide) (fun c1 => ?_) (fun c1 => ?_)
  · have hf := hg.1 c1
    refine lv_iconst (v := 0) hx hb dX0_topColour_21 (by decide) ?_
    have ho := Option.some.inj hf
    exact W.iret (v := 0) hx hb hr (fun t ht hW => ⟨⟨0, (), rfl, ho, hrE ht hH⟩, hS.F ht⟩) hS.2.2 dX0_topColour_22
  · have hf := hg.2 c1
    refine lv_aload_n hx hb dX0_topColour_7 rfl (lv_at hl 0 rfl) ?_
    have k2 : K.1 (a + 2) = (10, 9) := hH.sub hk0 1 (t := (2, 10, 9)) rfl
    refine e_0_1 hx hb hts hown hK hH hk0 (hts _ wd_73) dX0_topColour_8 ?_
    refine lv_aload_n hx hb dX0_topColour_11 rfl (lv_at hl 0 rfl) ?_
    refine e_0_6 hx hb hts hown hK hH hk0 (hts _ wd_79) dX0_topColour_12 ?_
    refine lv_iconst (v := 1) hx hb dX0_topColour_15 (by decide) ?_
    refine lv_isub hx hb dX0_topColour_16 ?_
    obtain ⟨h4, hf⟩ := gd_some hf
    refine g_iald hx hb hK hH k2 h4 dX0_topColour_17 ?_
    refine lv_goto (tgt := 22) hx hb dX0_topColour_18 (by decide) ?_
    have ho := Option.some.inj hf
    exact W.iret (v := (gI g (a + 2) ((gI g a 6) - 1).toNatClampNeg)) hx hb hr (fun t ht hW => ⟨⟨(gI g (a + 2) ((gI g a 6) - 1).toNatClampNeg), (), rfl, ho, hrE ht hH⟩, hS.F ht⟩) hS.2.2 dX0_topColour_22
set_option maxRecDepth 100000 in
set_option maxHeartbeats 8000000 in
theorem c1_digitAt (l : Launch) (w : GW) (K : GK) (g : GM) (S : GS) (a : Nat) (p0 : Int32) (out : Int32) (hf : f1_digitAt K g a p0 = some out) (hk0 : gkd K a = 2) : Met l yX1_digitAt (wA yX1_digitAt cX1_digitAt 2 (some .int)) ({ frames := 0, cells := 0, slots := 0, locals := 0 } : Room) (PRE w K g S [.ref a, .int p0]) (QI w K g S out) 0 0 (FR w) := by
  unfold f1_digitAt at hf
  refine Met.ofW (cc := cX1_digitAt) (maxL := 2) (ret := (some .int)) (by decide) rfl ?_
  intro p e s m args below meth c s₁ B hml hv
  obtain ⟨rfl, hH, hK⟩ := hv
  have hx := B.exec
  have hb := B.bytes
  have hr := B.returns
  have hts : ∀ q ∈ gALL, q.before _ s = true := fun q h => atoms_spec (ws := (wA yX1_digitAt cX1_digitAt 2 (some .int))) B.pre q (List.mem_cons_of_mem _ h)
  have hown : s.vm.findClass RX1 = some m.cls := findClass_of_methodNamed B.named
  have hlocks := B.notSynchronized
  have hS : va_S (FR w) s.heap s.heap [] := va_S.rf
  show W p l e ({ frames := 0, cells := 0, slots := 0, locals := 0 } : Room) s m _ below meth c s.heap [] 0 0 (MQ below (QI w K g S out) _ s 0 0 (FR w)) _
  have hl := lv_entry ([.ref a, .int p0]) (n := 2) (Nat.le_of_ble_eq_true rfl)
  rw [lg_entry_eq]
  generalize (lg_sl ([.ref a, .int p0]) ++ List.replicate (2 - (lg_sl ([.ref a, .int p0])).length) Slot.unset).toArray = ls at hl ⊢
  clear B
  generalize ([.ref a, .int p0] : List Value).toArray = args at hts ⊢
  have B21 : ∀ (H : Heap) (locs : List Loc) (ls : Array Slot), HR w K g S H → va_S (FR w) s.heap H locs → lv_has ls 2 [] → f1_digitAt_21 K g a p0 = some out → W p l e ({ frames := 0, cells := 0, slots := 0, locals := 0 } : Room) s m args below meth c H locs 0 0 (MQ below (QI w K g S out) args s 0 0 (FR w)) (F0 m 21 ls []) := by
    intro   H locs ls hH hS hl hf
    unfold f1_digitAt_21 at hf
    refine lv_iconst (v := 0) hx hb dX1_digitAt_21 (by decide) ?_
    have ho := Option.some.inj hf
    exact W.iret (v := 0) hx hb hr (fun t ht hW => ⟨⟨0, (), rfl, ho, hrE ht hH⟩, hS.F ht⟩) hS.2.2 dX1_digitAt_22
  have hl : lv_has ls 2 [(0, .ref a), (1, .int p0)] := hl
  refine lv_iload_n hx hb dX1_digitAt_0 rfl (lv_at hl 1 rfl) ?_
  have hg := gif hf
  refine lv_if_lt (tgt := 21) hx hb dX1_digitAt_1 (by decide) (fun c1 => ?_) (fun c1 => ?_)
  · have hf := hg.1 c1
    exact B21 _ _ _ hH hS (lv_sub hl [] rfl) hf
  · have hf := hg.2 c1
    refine lv_iload_n hx hb dX1_digitAt_4 rfl (lv_at hl 1 rfl) ?_
    refine lv_aload_n hx hb dX1_digitAt_5 rfl (lv_at hl 0 rfl) ?_
    refine e_1_0 hx hb hts hown hK hH hk0 (hts _ wd_303) dX1_digitAt_6 ?_
    have hg := gif hf
    refine lv_icmp_ge (tgt := 21) hx hb dX1_digitAt_9 (by decide) (fun c2 => ?_) (fun c2 => ?_)
    · have hf := hg.1 c2
      exact B21 _ _ _ hH hS (lv_sub hl [] rfl) hf
    · have hf := hg.2 c2
      refine lv_aload_n hx hb dX1_digitAt_12 rfl (lv_at hl 0 rfl) ?_
      have k3 : K.1 (a + 3) = (10, gkn K a) := hH.sub hk0 2 (t := (3, 10, gkn K a)) rfl
      refine e_1_6 hx hb hts hown hK hH hk0 (hts _ wd_312) dX1_digitAt_13 ?_
      refine lv_iload_n hx hb dX1_digitAt_16 rfl (lv_at hl 1 rfl) ?_
      obtain ⟨h5, hf⟩ := gd_some hf
      refine g_iald hx hb hK hH k3 h5 dX1_digitAt_17 ?_
      refine lv_goto (tgt := 22) hx hb dX1_digitAt_18 (by decide) ?_
      have ho := Option.some.inj hf
      exact W.iret (v := (gI g (a + 3) p0.toNatClampNeg)) hx hb hr (fun t ht hW => ⟨⟨(gI g (a + 3) p0.toNatClampNeg), (), rfl, ho, hrE ht hH⟩, hS.F ht⟩) hS.2.2 dX1_digitAt_22
set_option maxRecDepth 100000 in
set_option maxHeartbeats 8000000 in
theorem c0_stepDigit (l : Launch) (w : GW) (K : GK) (g : GM) (S : GS) (a : Nat) (out : Int32) (hf : f0_stepDigit K g a = some out) (hk0 : gkd K a = 1) : Met l yX0_stepDigit (wA yX0_stepDigit cX0_stepDigit 1 (some .int)) ({ frames := 1, cells := 0, slots := 0, locals := 21 } : Room) (PRE w K g S [.ref a]) (QI w K g S out) 0 0 (FR w) := by
  unfold f0_stepDigit at hf
  refine Met.ofW (cc := cX0_stepDigit) (maxL := 1) (ret := (some .int)) (by decide) rfl ?_
  intro p e s m args below meth c s₁ B hml hv
  obtain ⟨rfl, hH, hK⟩ := hv
  have hx := B.exec
  have hb := B.bytes
  have hr := B.returns
  have hts : ∀ q ∈ gALL, q.before _ s = true := fun q h => atoms_spec (ws := (wA yX0_stepDigit cX0_stepDigit 1 (some .int))) B.pre q (List.mem_cons_of_mem _ h)
  have hown : s.vm.findClass RX0 = some m.cls := findClass_of_methodNamed B.named
  have hlocks := B.notSynchronized
  have hS : va_S (FR w) s.heap s.heap [] := va_S.rf
  show W p l e ({ frames := 1, cells := 0, slots := 0, locals := 21 } : Room) s m _ below meth c s.heap [] 0 0 (MQ below (QI w K g S out) _ s 0 0 (FR w)) _
  have hl := lv_entry ([.ref a]) (n := 1) (Nat.le_of_ble_eq_true rfl)
  rw [lg_entry_eq]
  generalize (lg_sl ([.ref a]) ++ List.replicate (1 - (lg_sl ([.ref a])).length) Slot.unset).toArray = ls at hl ⊢
  clear B
  generalize ([.ref a] : List Value).toArray = args at hts ⊢
  have hl : lv_has ls 1 [(0, .ref a)] := hl
  refine lv_aload_n hx hb dX0_stepDigit_0 rfl (lv_at hl 0 rfl) ?_
  refine e_0_6 hx hb hts hown hK hH hk0 (hts _ wd_79) dX0_stepDigit_1 ?_
  have hg := gif hf
  refine lv_if_le (tgt := 39) hx hb dX0_stepDigit_4 (by decide) (fun c1 => ?_) (fun c1 => ?_)
  · have hf := hg.1 c1
    refine lv_iconst (v := 0) hx hb dX0_stepDigit_39 (by decide) ?_
    have ho := Option.some.inj hf
    exact W.iret (v := 0) hx hb hr (fun t ht hW => ⟨⟨0, (), rfl, ho, hrE ht hH⟩, hS.F ht⟩) hS.2.2 dX0_stepDigit_40
  · have hf := hg.2 c1
    refine lv_aload_n hx hb dX0_stepDigit_7 rfl (lv_at hl 0 rfl) ?_
    have k2 : K.1 (a + 6) = (13, 9) := hH.sub hk0 5 (t := (6, 13, 9)) rfl
    refine e_0_5 hx hb hts hown hK hH hk0 (hts _ wd_78) dX0_stepDigit_8 ?_
    refine lv_aload_n hx hb dX0_stepDigit_11 rfl (lv_at hl 0 rfl) ?_
    refine e_0_6 hx hb hts hown hK hH hk0 (hts _ wd_79) dX0_stepDigit_12 ?_
    refine lv_iconst (v := 1) hx hb dX0_stepDigit_15 (by decide) ?_
    refine lv_isub hx hb dX0_stepDigit_16 ?_
    obtain ⟨h4, hf⟩ := gd_some hf
    refine g_tald hx hb hK hH k2 h4 dX0_stepDigit_17 ?_
    rcases gopt_c hf with ⟨q6, hf⟩ | ⟨t5, q6, hf⟩
    · cases hf
    · refine g_rfS q6 ?_
      refine lv_aload_n hx hb dX0_stepDigit_18 rfl (lv_at hl 0 rfl) ?_
      have k12 : K.1 (a + 4) = (10, 36) := hH.sub hk0 3 (t := (4, 10, 36)) rfl
      refine e_0_3 hx hb hts hown hK hH hk0 (hts _ wd_75) dX0_stepDigit_19 ?_
      refine lv_aload_n hx hb dX0_stepDigit_22 rfl (lv_at hl 0 rfl) ?_
      refine lv_aload_n hx hb dX0_stepDigit_23 rfl (lv_at hl 0 rfl) ?_
      refine e_0_6 hx hb hts hown hK hH hk0 (hts _ wd_79) dX0_stepDigit_24 ?_
      refine lv_iconst (v := 1) hx hb dX0_stepDigit_27 (by decide) ?_
      refine lv_isub hx hb dX0_stepDigit_28 ?_
      obtain ⟨v13, h14, hf⟩ := gbind hf
      refine g_Vi (As := [.int ((gI g a 6) - 1)]) (rest := [.ref (a + 4), .ref t5]) ⟨hx, hb, hml, hown, hts⟩ (c0_spotOf l w K g S a ((gI g a 6) - 1) v13 h14 hk0) (gcwV hts i0_spotOf wd_163 rfl rfl ⟨Nat.le_of_ble_eq_true rfl, Nat.le_of_ble_eq_true rfl⟩) (gRecv.of hK rfl (hH.o1 hk0)) hH hK hS hl.1 rfl rfl (Nat.le_of_ble_eq_true rfl) dX0_stepDigit_29 ⟨Nat.le_refl _, Nat.le_refl _⟩ (fun H locs hH hS => ?_)
      obtain ⟨h16, hf⟩ := gd_some hf
      refine g_iald hx hb hK hH k12 h16 dX0_stepDigit_32 ?_
      obtain ⟨k17, hf⟩ := gd_some hf
      have k17 := gk_obj k17
      obtain ⟨v18, h19, hf⟩ := gbind hf
      refine g_Vi (As := [.int (gI g (a + 4) v13.toNatClampNeg)]) (rest := []) ⟨hx, hb, hml, hown, hts⟩ (c1_digitAt l w K g S t5 (gI g (a + 4) v13.toNatClampNeg) v18 h19 k17) (gcwV hts i1_digitAt wd_383 rfl rfl ⟨Nat.le_of_ble_eq_true rfl, Nat.le_of_ble_eq_true rfl⟩) (gRecv.of hK rfl (hH.o2 k17)) hH hK hS hl.1 rfl rfl (Nat.le_of_ble_eq_true rfl) dX0_stepDigit_33 ⟨Nat.le_refl _, Nat.le_refl _⟩ (fun H locs hH hS => ?_)
      refine lv_goto (tgt := 40) hx hb dX0_stepDigit_36 (by decide) ?_
      have ho := Option.some.inj hf
      exact W.iret (v := v18) hx hb hr (fun t ht hW => ⟨⟨v18, (), rfl, ho, hrE ht hH⟩, hS.F ht⟩) hS.2.2 dX0_stepDigit_40
set_option maxRecDepth 100000 in
set_option maxHeartbeats 8000000 in
theorem c4_hindranceAfter (l : Launch) (w : GW) (K : GK) (g : GM) (S : GS) (a : Nat) (p0 : Int32) (out : Int32) (hf : f4_hindranceAfter K g a p0 = some out) (hk0 : gkd K a = 5) : Met l yX4_hindranceAfter (wA yX4_hindranceAfter cX4_hindranceAfter 4 (some .int)) ({ frames := 2, cells := 0, slots := 0, locals := 41 } : Room) (PRE w K g S [.ref a, .int p0]) (QI w K g S out) 0 0 (FR w) := by
  unfold f4_hindranceAfter at hf
  refine Met.ofW (cc := cX4_hindranceAfter) (maxL := 4) (ret := (some .int)) (by decide) rfl ?_
  intro p e s m args below meth c s₁ B hml hv
  obtain ⟨rfl, hH, hK⟩ := hv
  have hx := B.exec
  have hb := B.bytes
  have hr := B.returns
  have hts : ∀ q ∈ gALL, q.before _ s = true := fun q h => atoms_spec (ws := (wA yX4_hindranceAfter cX4_hindranceAfter 4 (some .int))) B.pre q (List.mem_cons_of_mem _ h)
  have hown : s.vm.findClass RX4 = some m.cls := findClass_of_methodNamed B.named
  have hlocks := B.notSynchronized
  have hS : va_S (FR w) s.heap s.heap [] := va_S.rf
  show W p l e ({ frames := 2, cells := 0, slots := 0, locals := 41 } : Room) s m _ below meth c s.heap [] 0 0 (MQ below (QI w K g S out) _ s 0 0 (FR w)) _
  have hl := lv_entry ([.ref a, .int p0]) (n := 4) (Nat.le_of_ble_eq_true rfl)
  rw [lg_entry_eq]
  generalize (lg_sl ([.ref a, .int p0]) ++ List.replicate (4 - (lg_sl ([.ref a, .int p0])).length) Slot.unset).toArray = ls at hl ⊢
  clear B
  generalize ([.ref a, .int p0] : List Value).toArray = args at hts ⊢
  have B116 : ∀ (H : Heap) (locs : List Loc) (ls : Array Slot), HR w K g S H → va_S (FR w) s.heap H locs → lv_has ls 4 [(1, .int p0)] → f4_hindranceAfter_116 K g a p0 = some out → W p l e ({ frames := 2, cells := 0, slots := 0, locals := 41 } : Room) s m args below meth c H locs 0 0 (MQ below (QI w K g S out) args s 0 0 (FR w)) (F0 m 116 ls []) := by
    intro   H locs ls hH hS hl hf
    unfold f4_hindranceAfter_116 at hf
    refine lv_iload_n hx hb dX4_hindranceAfter_116 rfl (lv_at hl 0 rfl) ?_
    refine lv_sipush (v := 500) hx hb dX4_hindranceAfter_117 (by decide) ?_
    have hg := gif hf
    refine lv_icmp_lt (tgt := 128) hx hb dX4_hindranceAfter_120 (by decide) (fun c1 => ?_) (fun c1 => ?_)
    · have hf := hg.1 c1
      refine lv_iconst (v := 0) hx hb dX4_hindranceAfter_128 (by decide) ?_
      have ho := Option.some.inj hf
      exact W.iret (v := 0) hx hb hr (fun t ht hW => ⟨⟨0, (), rfl, ho, hrE ht hH⟩, hS.F ht⟩) hS.2.2 dX4_hindranceAfter_129
    · have hf := hg.2 c1
      refine lv_bipush (v := 7) hx hb dX4_hindranceAfter_123 (by decide) ?_
      refine lv_goto (tgt := 129) hx hb dX4_hindranceAfter_125 (by decide) ?_
      have ho := Option.some.inj hf
      exact W.iret (v := 7) hx hb hr (fun t ht hW => ⟨⟨7, (), rfl, ho, hrE ht hH⟩, hS.F ht⟩) hS.2.2 dX4_hindranceAfter_129
  have B74 : ∀ (x2 : Int32) (H : Heap) (locs : List Loc) (ls : Array Slot), HR w K g S H → va_S (FR w) s.heap H locs → lv_has ls 4 [(0, .ref a), (1, .int p0), (2, .int x2)] → f4_hindranceAfter_74 K g a p0 x2 = some out → W p l e ({ frames := 2, cells := 0, slots := 0, locals := 41 } : Room) s m args below meth c H locs 0 0 (MQ below (QI w K g S out) args s 0 0 (FR w)) (F0 m 74 ls []) := by
    intro  x2 H locs ls hH hS hl hf
    unfold f4_hindranceAfter_74 at hf
    refine lv_iload_n hx hb dX4_hindranceAfter_74 rfl (lv_at hl 2 rfl) ?_
    refine lv_bipush (v := 107) hx hb dX4_hindranceAfter_75 (by decide) ?_
    have hg := gif hf
    refine lv_icmp_ne (tgt := 116) hx hb dX4_hindranceAfter_77 (by decide) (fun c2 => ?_) (fun c2 => ?_)
    · have hf := hg.2 c2
      exact B116 _ _ _ hH hS (lv_sub hl [1] rfl) hf
    · have hf := hg.1 c2
      refine lv_aload_n hx hb dX4_hindranceAfter_80 rfl (lv_at hl 0 rfl) ?_
      have k3 : K.1 (a + 1) = (13, 10) := hH.sub hk0 0 (t := (1, 13, 10)) rfl
      refine e_4_0 hx hb hts hown hK hH hk0 (hts _ wd_52) dX4_hindranceAfter_81 ?_
      refine lv_aload_n hx hb dX4_hindranceAfter_84 rfl (lv_at hl 0 rfl) ?_
      have k4 : gkd K (a + 9) = 1 := congrArg Prod.fst (hH.sub hk0 8 (t := (9, 1, 0)) rfl)
      refine e_4_8 hx hb hts hown hK hH hk0 (hts _ wd_64) dX4_hindranceAfter_85 ?_
      obtain ⟨v5, h6, hf⟩ := gbind hf
      refine g_Vi (As := []) (rest := [.ref (a + 1)]) ⟨hx, hb, hml, hown, hts⟩ (c0_stepDigit l w K g S (a + 9) v5 h6 k4) (gcwV hts i0_stepDigit wd_379 rfl rfl ⟨Nat.le_of_ble_eq_true rfl, Nat.le_of_ble_eq_true rfl⟩) (gRecv.of hK rfl (hH.o1 k4)) hH hK hS hl.1 rfl rfl (Nat.le_of_ble_eq_true rfl) dX4_hindranceAfter_88 ⟨Nat.le_refl _, Nat.le_refl _⟩ (fun H locs hH hS => ?_)
      obtain ⟨h8, hf⟩ := gd_some hf
      refine g_tald hx hb hK hH k3 h8 dX4_hindranceAfter_91 ?_
      rcases gopt_c hf with ⟨q10, hf⟩ | ⟨t9, q10, hf⟩
      · refine g_rfN q10 ?_
        refine lv_ifnonnullN hx hb dX4_hindranceAfter_92 ?_
        refine lv_iconst (v := 5) hx hb dX4_hindranceAfter_95 (by decide) ?_
        have ho := Option.some.inj hf
        exact W.iret (v := 5) hx hb hr (fun t ht hW => ⟨⟨5, (), rfl, ho, hrE ht hH⟩, hS.F ht⟩) hS.2.2 dX4_hindranceAfter_96
      · refine g_rfS q10 ?_
        refine lv_ifnonnull (tgt := 97) hx hb dX4_hindranceAfter_92 (by decide) ?_
        refine lv_aload_n hx hb dX4_hindranceAfter_97 rfl (lv_at hl 0 rfl) ?_
        refine e_4_8 hx hb hts hown hK hH hk0 (hts _ wd_64) dX4_hindranceAfter_98 ?_
        refine e_0_6 hx hb hts hown hK hH k4 (hts _ wd_338) dX4_hindranceAfter_101 ?_
        refine lv_aload_n hx hb dX4_hindranceAfter_104 rfl (lv_at hl 0 rfl) ?_
        have k11 : K.1 (a + 3) = (10, 3) := hH.sub hk0 2 (t := (3, 10, 3)) rfl
        refine e_4_2 hx hb hts hown hK hH hk0 (hts _ wd_54) dX4_hindranceAfter_105 ?_
        refine lv_iconst (v := 0) hx hb dX4_hindranceAfter_108 (by decide) ?_
        obtain ⟨h13, hf⟩ := gd_some hf
        refine g_iald hx hb hK hH k11 h13 dX4_hindranceAfter_109 ?_
        have hg := gif hf
        refine lv_icmp_lt (tgt := 116) hx hb dX4_hindranceAfter_110 (by decide) (fun c14 => ?_) (fun c14 => ?_)
        · have hf := hg.1 c14
          exact B116 _ _ _ hH hS (lv_sub hl [1] rfl) hf
        · have hf := hg.2 c14
          refine lv_bipush (v := 6) hx hb dX4_hindranceAfter_113 (by decide) ?_
          have ho := Option.some.inj hf
          exact W.iret (v := 6) hx hb hr (fun t ht hW => ⟨⟨6, (), rfl, ho, hrE ht hH⟩, hS.F ht⟩) hS.2.2 dX4_hindranceAfter_115
  have hl : lv_has ls 4 [(0, .ref a), (1, .int p0)] := hl
  refine lv_aload_n hx hb dX4_hindranceAfter_0 rfl (lv_at hl 0 rfl) ?_
  have k15 : gkd K (a + 9) = 1 := congrArg Prod.fst (hH.sub hk0 8 (t := (9, 1, 0)) rfl)
  refine e_4_8 hx hb hts hown hK hH hk0 (hts _ wd_64) dX4_hindranceAfter_1 ?_
  refine e_0_6 hx hb hts hown hK hH k15 (hts _ wd_338) dX4_hindranceAfter_4 ?_
  have hg := gif hf
  refine lv_if_ne (tgt := 12) hx hb dX4_hindranceAfter_7 (by decide) (fun c16 => ?_) (fun c16 => ?_)
  · have hf := hg.2 c16
    refine lv_aload_n hx hb dX4_hindranceAfter_12 rfl (lv_at hl 0 rfl) ?_
    refine e_4_8 hx hb hts hown hK hH hk0 (hts _ wd_64) dX4_hindranceAfter_13 ?_
    obtain ⟨v17, h18, hf⟩ := gbind hf
    refine g_Vi (As := []) (rest := []) ⟨hx, hb, hml, hown, hts⟩ (c0_stepLetter l w K g S (a + 9) v17 h18 k15) (gcwV hts i0_stepLetter wd_367 rfl rfl ⟨Nat.le_of_ble_eq_true rfl, Nat.le_of_ble_eq_true rfl⟩) (gRecv.of hK rfl (hH.o1 k15)) hH hK hS hl.1 rfl rfl (Nat.le_of_ble_eq_true rfl) dX4_hindranceAfter_16 ⟨Nat.le_refl _, Nat.le_refl _⟩ (fun H locs hH hS => ?_)
    refine lv_istore_n (lv' := [(2, .int v17), (0, .ref a), (1, .int p0)]) hx hb dX4_hindranceAfter_19 rfl hl (by decide) rfl (fun ls hl => ?_)
    refine lv_iload_n hx hb dX4_hindranceAfter_20 rfl (lv_at hl 0 rfl) ?_
    refine lv_bipush (v := 119) hx hb dX4_hindranceAfter_21 (by decide) ?_
    have hg := gif hf
    refine lv_icmp_ne (tgt := 74) hx hb dX4_hindranceAfter_23 (by decide) (fun c19 => ?_) (fun c19 => ?_)
    · have hf := hg.2 c19
      exact B74 _ _ _ _ hH hS (lv_sub hl [1, 2, 0] rfl) hf
    · have hf := hg.1 c19
      refine lv_aload_n hx hb dX4_hindranceAfter_26 rfl (lv_at hl 1 rfl) ?_
      refine e_4_8 hx hb hts hown hK hH hk0 (hts _ wd_64) dX4_hindranceAfter_27 ?_
      obtain ⟨v20, h21, hf⟩ := gbind hf
      refine g_Vi (As := []) (rest := []) ⟨hx, hb, hml, hown, hts⟩ (c0_topColour l w K g S (a + 9) v20 h21 k15) (gcwV hts i0_topColour wd_375 rfl rfl ⟨Nat.le_of_ble_eq_true rfl, Nat.le_of_ble_eq_true rfl⟩) (gRecv.of hK rfl (hH.o1 k15)) hH hK hS hl.1 rfl rfl (Nat.le_of_ble_eq_true rfl) dX4_hindranceAfter_30 ⟨Nat.le_refl _, Nat.le_refl _⟩ (fun H locs hH hS => ?_)
      refine lv_istore_n (lv' := [(3, .int v20), (2, .int v17), (0, .ref a), (1, .int p0)]) hx hb dX4_hindranceAfter_33 rfl hl (by decide) rfl (fun ls hl => ?_)
      refine lv_aload_n hx hb dX4_hindranceAfter_34 rfl (lv_at hl 2 rfl) ?_
      have k22 : K.1 (a + 4) = (10, 6) := hH.sub hk0 3 (t := (4, 10, 6)) rfl
      refine e_4_3 hx hb hts hown hK hH hk0 (hts _ wd_55) dX4_hindranceAfter_35 ?_
      refine lv_iload_n hx hb dX4_hindranceAfter_38 rfl (lv_at hl 0 rfl) ?_
      obtain ⟨h24, hf⟩ := gd_some hf
      refine g_iald hx hb hK hH k22 h24 dX4_hindranceAfter_39 ?_
      have hg := gif hf
      refine lv_if_ne (tgt := 45) hx hb dX4_hindranceAfter_40 (by decide) (fun c25 => ?_) (fun c25 => ?_)
      · have hf := hg.2 c25
        refine lv_aload_n hx hb dX4_hindranceAfter_45 rfl (lv_at hl 2 rfl) ?_
        have k26 : K.1 (a + 5) = (10, 6) := hH.sub hk0 4 (t := (5, 10, 6)) rfl
        refine e_4_4 hx hb hts hown hK hH hk0 (hts _ wd_56) dX4_hindranceAfter_46 ?_
        refine lv_iload_n hx hb dX4_hindranceAfter_49 rfl (lv_at hl 0 rfl) ?_
        refine g_iald hx hb hK hH k26 h24 dX4_hindranceAfter_50 ?_
        refine lv_aload_n hx hb dX4_hindranceAfter_51 rfl (lv_at hl 2 rfl) ?_
        have k28 : K.1 (a + 3) = (10, 3) := hH.sub hk0 2 (t := (3, 10, 3)) rfl
        refine e_4_2 hx hb hts hown hK hH hk0 (hts _ wd_54) dX4_hindranceAfter_52 ?_
        refine lv_iconst (v := 1) hx hb dX4_hindranceAfter_55 (by decide) ?_
        obtain ⟨h30, hf⟩ := gd_some hf
        refine g_iald hx hb hK hH k28 h30 dX4_hindranceAfter_56 ?_
        have hg := gif hf
        refine lv_icmp_lt (tgt := 62) hx hb dX4_hindranceAfter_57 (by decide) (fun c31 => ?_) (fun c31 => ?_)
        · have hf := hg.1 c31
          refine lv_aload_n hx hb dX4_hindranceAfter_62 rfl (lv_at hl 2 rfl) ?_
          refine e_4_9 hx hb hts hown hK hH hk0 (hts _ wd_65) dX4_hindranceAfter_63 ?_
          refine lv_sipush (v := 400) hx hb dX4_hindranceAfter_66 (by decide) ?_
          have hg := gif hf
          refine lv_icmp_lt (tgt := 74) hx hb dX4_hindranceAfter_69 (by decide) (fun c32 => ?_) (fun c32 => ?_)
          · have hf := hg.1 c32
            exact B74 _ _ _ _ hH hS (lv_sub hl [2, 3, 1] rfl) hf
          · have hf := hg.2 c32
            refine lv_iconst (v := 4) hx hb dX4_hindranceAfter_72 (by decide) ?_
            have ho := Option.some.inj hf
            exact W.iret (v := 4) hx hb hr (fun t ht hW => ⟨⟨4, (), rfl, ho, hrE ht hH⟩, hS.F ht⟩) hS.2.2 dX4_hindranceAfter_73
        · have hf := hg.2 c31
          refine lv_iconst (v := 3) hx hb dX4_hindranceAfter_60 (by decide) ?_
          have ho := Option.some.inj hf
          exact W.iret (v := 3) hx hb hr (fun t ht hW => ⟨⟨3, (), rfl, ho, hrE ht hH⟩, hS.F ht⟩) hS.2.2 dX4_hindranceAfter_61
      · have hf := hg.1 c25
        refine lv_iconst (v := 2) hx hb dX4_hindranceAfter_43 (by decide) ?_
        have ho := Option.some.inj hf
        exact W.iret (v := 2) hx hb hr (fun t ht hW => ⟨⟨2, (), rfl, ho, hrE ht hH⟩, hS.F ht⟩) hS.2.2 dX4_hindranceAfter_44
  · have hf := hg.1 c16
    refine lv_iconst (v := 1) hx hb dX4_hindranceAfter_10 (by decide) ?_
    have ho := Option.some.inj hf
    exact W.iret (v := 1) hx hb hr (fun t ht hW => ⟨⟨1, (), rfl, ho, hrE ht hH⟩, hS.F ht⟩) hS.2.2 dX4_hindranceAfter_11
set_option maxRecDepth 100000 in
set_option maxHeartbeats 8000000 in
theorem c1_behind (l : Launch) (w : GW) (K : GK) (g : GM) (S : GS) (a : Nat) (p0 : Int32) (out : Int32) (hf : f1_behind K g a p0 = some out) (hk0 : gkd K a = 2) : Met l yX1_behind (wA yX1_behind cX1_behind 2 (some .int)) ({ frames := 0, cells := 0, slots := 0, locals := 0 } : Room) (PRE w K g S [.ref a, .int p0]) (QI w K g S out) 0 0 (FR w) := by
  unfold f1_behind at hf
  refine Met.ofW (cc := cX1_behind) (maxL := 2) (ret := (some .int)) (by decide) rfl ?_
  intro p e s m args below meth c s₁ B hml hv
  obtain ⟨rfl, hH, hK⟩ := hv
  have hx := B.exec
  have hb := B.bytes
  have hr := B.returns
  have hts : ∀ q ∈ gALL, q.before _ s = true := fun q h => atoms_spec (ws := (wA yX1_behind cX1_behind 2 (some .int))) B.pre q (List.mem_cons_of_mem _ h)
  have hown : s.vm.findClass RX1 = some m.cls := findClass_of_methodNamed B.named
  have hlocks := B.notSynchronized
  have hS : va_S (FR w) s.heap s.heap [] := va_S.rf
  show W p l e ({ frames := 0, cells := 0, slots := 0, locals := 0 } : Room) s m _ below meth c s.heap [] 0 0 (MQ below (QI w K g S out) _ s 0 0 (FR w)) _
  have hl := lv_entry ([.ref a, .int p0]) (n := 2) (Nat.le_of_ble_eq_true rfl)
  rw [lg_entry_eq]
  generalize (lg_sl ([.ref a, .int p0]) ++ List.replicate (2 - (lg_sl ([.ref a, .int p0])).length) Slot.unset).toArray = ls at hl ⊢
  clear B
  generalize ([.ref a, .int p0] : List Value).toArray = args at hts ⊢
  have B21 : ∀ (H : Heap) (locs : List Loc) (ls : Array Slot), HR w K g S H → va_S (FR w) s.heap H locs → lv_has ls 2 [(0, .ref a)] → f1_behind_21 K g a p0 = some out → W p l e ({ frames := 0, cells := 0, slots := 0, locals := 0 } : Room) s m args below meth c H locs 0 0 (MQ below (QI w K g S out) args s 0 0 (FR w)) (F0 m 21 ls []) := by
    intro   H locs ls hH hS hl hf
    unfold f1_behind_21 at hf
    refine lv_aload_n hx hb dX1_behind_21 rfl (lv_at hl 0 rfl) ?_
    refine e_1_0 hx hb hts hown hK hH hk0 (hts _ wd_303) dX1_behind_22 ?_
    have ho := Option.some.inj hf
    exact W.iret (v := (gI g a 0)) hx hb hr (fun t ht hW => ⟨⟨(gI g a 0), (), rfl, ho, hrE ht hH⟩, hS.F ht⟩) hS.2.2 dX1_behind_25
  have hl : lv_has ls 2 [(0, .ref a), (1, .int p0)] := hl
  refine lv_iload_n hx hb dX1_behind_0 rfl (lv_at hl 1 rfl) ?_
  have hg := gif hf
  refine lv_if_lt (tgt := 21) hx hb dX1_behind_1 (by decide) (fun c1 => ?_) (fun c1 => ?_)
  · have hf := hg.1 c1
    exact B21 _ _ _ hH hS (lv_sub hl [0] rfl) hf
  · have hf := hg.2 c1
    refine lv_iload_n hx hb dX1_behind_4 rfl (lv_at hl 1 rfl) ?_
    refine lv_aload_n hx hb dX1_behind_5 rfl (lv_at hl 0 rfl) ?_
    refine e_1_0 hx hb hts hown hK hH hk0 (hts _ wd_303) dX1_behind_6 ?_
    have hg := gif hf
    refine lv_icmp_ge (tgt := 21) hx hb dX1_behind_9 (by decide) (fun c2 => ?_) (fun c2 => ?_)
    · have hf := hg.1 c2
      exact B21 _ _ _ hH hS (lv_sub hl [0] rfl) hf
    · have hf := hg.2 c2
      refine lv_aload_n hx hb dX1_behind_12 rfl (lv_at hl 0 rfl) ?_
      have k3 : K.1 (a + 5) = (10, gkn K a) := hH.sub hk0 4 (t := (5, 10, gkn K a)) rfl
      refine e_1_8 hx hb hts hown hK hH hk0 (hts _ wd_314) dX1_behind_13 ?_
      refine lv_iload_n hx hb dX1_behind_16 rfl (lv_at hl 1 rfl) ?_
      obtain ⟨h5, hf⟩ := gd_some hf
      refine g_iald hx hb hK hH k3 h5 dX1_behind_17 ?_
      refine lv_goto (tgt := 25) hx hb dX1_behind_18 (by decide) ?_
      have ho := Option.some.inj hf
      exact W.iret (v := (gI g (a + 5) p0.toNatClampNeg)) hx hb hr (fun t ht hW => ⟨⟨(gI g (a + 5) p0.toNatClampNeg), (), rfl, ho, hrE ht hH⟩, hS.F ht⟩) hS.2.2 dX1_behind_25
set_option maxRecDepth 100000 in
set_option maxHeartbeats 8000000 in
theorem c0_placeBehind (l : Launch) (w : GW) (K : GK) (g : GM) (S : GS) (a : Nat) (out : Int32) (hf : f0_placeBehind K g a = some out) (hk0 : gkd K a = 1) : Met l yX0_placeBehind (wA yX0_placeBehind cX0_placeBehind 1 (some .int)) ({ frames := 1, cells := 0, slots := 0, locals := 21 } : Room) (PRE w K g S [.ref a]) (QI w K g S out) 0 0 (FR w) := by
  unfold f0_placeBehind at hf
  refine Met.ofW (cc := cX0_placeBehind) (maxL := 1) (ret := (some .int)) (by decide) rfl ?_
  intro p e s m args below meth c s₁ B hml hv
  obtain ⟨rfl, hH, hK⟩ := hv
  have hx := B.exec
  have hb := B.bytes
  have hr := B.returns
  have hts : ∀ q ∈ gALL, q.before _ s = true := fun q h => atoms_spec (ws := (wA yX0_placeBehind cX0_placeBehind 1 (some .int))) B.pre q (List.mem_cons_of_mem _ h)
  have hown : s.vm.findClass RX0 = some m.cls := findClass_of_methodNamed B.named
  have hlocks := B.notSynchronized
  have hS : va_S (FR w) s.heap s.heap [] := va_S.rf
  show W p l e ({ frames := 1, cells := 0, slots := 0, locals := 21 } : Room) s m _ below meth c s.heap [] 0 0 (MQ below (QI w K g S out) _ s 0 0 (FR w)) _
  have hl := lv_entry ([.ref a]) (n := 1) (Nat.le_of_ble_eq_true rfl)
  rw [lg_entry_eq]
  generalize (lg_sl ([.ref a]) ++ List.replicate (1 - (lg_sl ([.ref a])).length) Slot.unset).toArray = ls at hl ⊢
  clear B
  generalize ([.ref a] : List Value).toArray = args at hts ⊢
  have hl : lv_has ls 1 [(0, .ref a)] := hl
  refine lv_aload_n hx hb dX0_placeBehind_0 rfl (lv_at hl 0 rfl) ?_
  refine e_0_6 hx hb hts hown hK hH hk0 (hts _ wd_79) dX0_placeBehind_1 ?_
  have hg := gif hf
  refine lv_if_le (tgt := 39) hx hb dX0_placeBehind_4 (by decide) (fun c1 => ?_) (fun c1 => ?_)
  · have hf := hg.1 c1
    refine lv_iconst (v := 0) hx hb dX0_placeBehind_39 (by decide) ?_
    have ho := Option.some.inj hf
    exact W.iret (v := 0) hx hb hr (fun t ht hW => ⟨⟨0, (), rfl, ho, hrE ht hH⟩, hS.F ht⟩) hS.2.2 dX0_placeBehind_40
  · have hf := hg.2 c1
    refine lv_aload_n hx hb dX0_placeBehind_7 rfl (lv_at hl 0 rfl) ?_
    have k2 : K.1 (a + 6) = (13, 9) := hH.sub hk0 5 (t := (6, 13, 9)) rfl
    refine e_0_5 hx hb hts hown hK hH hk0 (hts _ wd_78) dX0_placeBehind_8 ?_
    refine lv_aload_n hx hb dX0_placeBehind_11 rfl (lv_at hl 0 rfl) ?_
    refine e_0_6 hx hb hts hown hK hH hk0 (hts _ wd_79) dX0_placeBehind_12 ?_
    refine lv_iconst (v := 1) hx hb dX0_placeBehind_15 (by decide) ?_
    refine lv_isub hx hb dX0_placeBehind_16 ?_
    obtain ⟨h4, hf⟩ := gd_some hf
    refine g_tald hx hb hK hH k2 h4 dX0_placeBehind_17 ?_
    rcases gopt_c hf with ⟨q6, hf⟩ | ⟨t5, q6, hf⟩
    · cases hf
    · refine g_rfS q6 ?_
      refine lv_aload_n hx hb dX0_placeBehind_18 rfl (lv_at hl 0 rfl) ?_
      have k12 : K.1 (a + 4) = (10, 36) := hH.sub hk0 3 (t := (4, 10, 36)) rfl
      refine e_0_3 hx hb hts hown hK hH hk0 (hts _ wd_75) dX0_placeBehind_19 ?_
      refine lv_aload_n hx hb dX0_placeBehind_22 rfl (lv_at hl 0 rfl) ?_
      refine lv_aload_n hx hb dX0_placeBehind_23 rfl (lv_at hl 0 rfl) ?_
      refine e_0_6 hx hb hts hown hK hH hk0 (hts _ wd_79) dX0_placeBehind_24 ?_
      refine lv_iconst (v := 1) hx hb dX0_placeBehind_27 (by decide) ?_
      refine lv_isub hx hb dX0_placeBehind_28 ?_
      obtain ⟨v13, h14, hf⟩ := gbind hf
      refine g_Vi (As := [.int ((gI g a 6) - 1)]) (rest := [.ref (a + 4), .ref t5]) ⟨hx, hb, hml, hown, hts⟩ (c0_spotOf l w K g S a ((gI g a 6) - 1) v13 h14 hk0) (gcwV hts i0_spotOf wd_163 rfl rfl ⟨Nat.le_of_ble_eq_true rfl, Nat.le_of_ble_eq_true rfl⟩) (gRecv.of hK rfl (hH.o1 hk0)) hH hK hS hl.1 rfl rfl (Nat.le_of_ble_eq_true rfl) dX0_placeBehind_29 ⟨Nat.le_refl _, Nat.le_refl _⟩ (fun H locs hH hS => ?_)
      obtain ⟨h16, hf⟩ := gd_some hf
      refine g_iald hx hb hK hH k12 h16 dX0_placeBehind_32 ?_
      obtain ⟨k17, hf⟩ := gd_some hf
      have k17 := gk_obj k17
      obtain ⟨v18, h19, hf⟩ := gbind hf
      refine g_Vi (As := [.int (gI g (a + 4) v13.toNatClampNeg)]) (rest := []) ⟨hx, hb, hml, hown, hts⟩ (c1_behind l w K g S t5 (gI g (a + 4) v13.toNatClampNeg) v18 h19 k17) (gcwV hts i1_behind wd_400 rfl rfl ⟨Nat.le_of_ble_eq_true rfl, Nat.le_of_ble_eq_true rfl⟩) (gRecv.of hK rfl (hH.o2 k17)) hH hK hS hl.1 rfl rfl (Nat.le_of_ble_eq_true rfl) dX0_placeBehind_33 ⟨Nat.le_refl _, Nat.le_refl _⟩ (fun H locs hH hS => ?_)
      refine lv_goto (tgt := 40) hx hb dX0_placeBehind_36 (by decide) ?_
      have ho := Option.some.inj hf
      exact W.iret (v := v18) hx hb hr (fun t ht hW => ⟨⟨v18, (), rfl, ho, hrE ht hH⟩, hS.F ht⟩) hS.2.2 dX0_placeBehind_40
set_option maxRecDepth 100000 in
set_option maxHeartbeats 8000000 in
theorem c0_arriveAt (l : Launch) (w : GW) (K : GK) (g : GM) (S : GS) (a : Nat) (p0 : Int32) (out : GM) (hf : f0_arriveAt K g a p0 = some out) (hk0 : gkd K a = 1) : Met l yX0_arriveAt (wA yX0_arriveAt cX0_arriveAt 3 none) ({ frames := 1, cells := 0, slots := 0, locals := 21 } : Room) (PRE w K g S [.ref a, .int p0]) (QV w K out S) 0 0 (FR w) := by
  unfold f0_arriveAt at hf
  refine Met.ofW (cc := cX0_arriveAt) (maxL := 3) (ret := none) (by decide) rfl ?_
  intro p e s m args below meth c s₁ B hml hv
  obtain ⟨rfl, hH, hK⟩ := hv
  have hx := B.exec
  have hb := B.bytes
  have hr := B.returns
  have hts : ∀ q ∈ gALL, q.before _ s = true := fun q h => atoms_spec (ws := (wA yX0_arriveAt cX0_arriveAt 3 none)) B.pre q (List.mem_cons_of_mem _ h)
  have hown : s.vm.findClass RX0 = some m.cls := findClass_of_methodNamed B.named
  have hlocks := B.notSynchronized
  have hS : va_S (FR w) s.heap s.heap [] := va_S.rf
  show W p l e ({ frames := 1, cells := 0, slots := 0, locals := 21 } : Room) s m _ below meth c s.heap [] 0 0 (MQ below (QV w K out S) _ s 0 0 (FR w)) _
  have hl := lv_entry ([.ref a, .int p0]) (n := 3) (Nat.le_of_ble_eq_true rfl)
  rw [lg_entry_eq]
  generalize (lg_sl ([.ref a, .int p0]) ++ List.replicate (3 - (lg_sl ([.ref a, .int p0])).length) Slot.unset).toArray = ls at hl ⊢
  clear B
  generalize ([.ref a, .int p0] : List Value).toArray = args at hts ⊢
  have hl : lv_has ls 3 [(0, .ref a), (1, .int p0)] := hl
  refine lv_aload_n hx hb dX0_arriveAt_0 rfl (lv_at hl 0 rfl) ?_
  refine e_0_6 hx hb hts hown hK hH hk0 (hts _ wd_79) dX0_arriveAt_1 ?_
  have hg := gif hf
  refine lv_if_ne (tgt := 8) hx hb dX0_arriveAt_4 (by decide) (fun c1 => ?_) (fun c1 => ?_)
  · have hf := hg.2 c1
    refine lv_aload_n hx hb dX0_arriveAt_8 rfl (lv_at hl 0 rfl) ?_
    refine lv_aload_n hx hb dX0_arriveAt_9 rfl (lv_at hl 0 rfl) ?_
    refine e_0_6 hx hb hts hown hK hH hk0 (hts _ wd_79) dX0_arriveAt_10 ?_
    refine lv_iconst (v := 1) hx hb dX0_arriveAt_13 (by decide) ?_
    refine lv_isub hx hb dX0_arriveAt_14 ?_
    obtain ⟨v2, h3, hf⟩ := gbind hf
    refine g_Vi (As := [.int ((gI g a 6) - 1)]) (rest := []) ⟨hx, hb, hml, hown, hts⟩ (c0_spotOf l w K g S a ((gI g a 6) - 1) v2 h3 hk0) (gcwV hts i0_spotOf wd_163 rfl rfl ⟨Nat.le_of_ble_eq_true rfl, Nat.le_of_ble_eq_true rfl⟩) (gRecv.of hK rfl (hH.o1 hk0)) hH hK hS hl.1 rfl rfl (Nat.le_of_ble_eq_true rfl) dX0_arriveAt_15 ⟨Nat.le_refl _, Nat.le_refl _⟩ (fun H locs hH hS => ?_)
    refine lv_istore_n (lv' := [(2, .int v2), (0, .ref a), (1, .int p0)]) hx hb dX0_arriveAt_18 rfl hl (by decide) rfl (fun ls hl => ?_)
    refine lv_aload_n hx hb dX0_arriveAt_19 rfl (lv_at hl 1 rfl) ?_
    have k4 : K.1 (a + 4) = (10, 36) := hH.sub hk0 3 (t := (4, 10, 36)) rfl
    refine e_0_3 hx hb hts hown hK hH hk0 (hts _ wd_75) dX0_arriveAt_20 ?_
    refine lv_iload_n hx hb dX0_arriveAt_23 rfl (lv_at hl 0 rfl) ?_
    refine lv_iload_n hx hb dX0_arriveAt_24 rfl (lv_at hl 2 rfl) ?_
    obtain ⟨h6, hf⟩ := gd_some hf
    refine g_iast hx hb hK hH hS k4 h6 dX0_arriveAt_25 (fun H locs hH hS => ?_)
    obtain ⟨g7, eg7⟩ : ∃ z : GM, z = gsI g (a + 4) v2.toNatClampNeg p0 := ⟨_, rfl⟩
    have hf := gl_at hf eg7
    replace hH : HR w K g7 S H := by rw [eg7]; exact hH
    refine lv_aload_n hx hb dX0_arriveAt_26 rfl (lv_at hl 1 rfl) ?_
    have k8 : K.1 (a + 5) = (10, 36) := hH.sub hk0 4 (t := (5, 10, 36)) rfl
    refine e_0_4 hx hb hts hown hK hH hk0 (hts _ wd_76) dX0_arriveAt_27 ?_
    refine lv_iload_n hx hb dX0_arriveAt_30 rfl (lv_at hl 0 rfl) ?_
    refine lv_aload_n hx hb dX0_arriveAt_31 rfl (lv_at hl 1 rfl) ?_
    have k9 : K.1 (a + 6) = (13, 9) := hH.sub hk0 5 (t := (6, 13, 9)) rfl
    refine e_0_5 hx hb hts hown hK hH hk0 (hts _ wd_78) dX0_arriveAt_32 ?_
    refine lv_aload_n hx hb dX0_arriveAt_35 rfl (lv_at hl 1 rfl) ?_
    refine e_0_6 hx hb hts hown hK hH hk0 (hts _ wd_79) dX0_arriveAt_36 ?_
    refine lv_iconst (v := 1) hx hb dX0_arriveAt_39 (by decide) ?_
    refine lv_isub hx hb dX0_arriveAt_40 ?_
    obtain ⟨h11, hf⟩ := gd_some hf
    refine g_tald hx hb hK hH k9 h11 dX0_arriveAt_41 ?_
    rcases gopt_c hf with ⟨q13, hf⟩ | ⟨t12, q13, hf⟩
    · cases hf
    · refine g_rfS q13 ?_
      refine lv_iload_n hx hb dX0_arriveAt_42 rfl (lv_at hl 2 rfl) ?_
      obtain ⟨k14, hf⟩ := gd_some hf
      have k14 := gk_obj k14
      obtain ⟨v15, h16, hf⟩ := gbind hf
      refine g_Vi (As := [.int p0]) (rest := [.int v2, .ref (a + 5)]) ⟨hx, hb, hml, hown, hts⟩ (c1_timesAt l w K g7 S t12 p0 v15 h16 k14) (gcwV hts i1_timesAt wd_347 rfl rfl ⟨Nat.le_of_ble_eq_true rfl, Nat.le_of_ble_eq_true rfl⟩) (gRecv.of hK rfl (hH.o2 k14)) hH hK hS hl.1 rfl rfl (Nat.le_of_ble_eq_true rfl) dX0_arriveAt_43 ⟨Nat.le_refl _, Nat.le_refl _⟩ (fun H locs hH hS => ?_)
      refine g_iast hx hb hK hH hS k8 h6 dX0_arriveAt_46 (fun H locs hH hS => ?_)
      obtain ⟨g18, eg18⟩ : ∃ z : GM, z = gsI g7 (a + 5) v2.toNatClampNeg v15 := ⟨_, rfl⟩
      have hf := gl_at hf eg18
      replace hH : HR w K g18 S H := by rw [eg18]; exact hH
      have ho := Option.some.inj hf
      exact W.vret hx hb hr (fun t ht hW => ⟨⟨(), rfl, trivial, hrV ht ho hH⟩, hS.F ht⟩) hS.2.2 dX0_arriveAt_47
  · have hf := hg.1 c1
    have ho := Option.some.inj hf
    exact W.vret hx hb hr (fun t ht hW => ⟨⟨(), rfl, trivial, hrV ht ho hH⟩, hS.F ht⟩) hS.2.2 dX0_arriveAt_7
set_option maxRecDepth 100000 in
set_option maxHeartbeats 8000000 in
theorem c0_passOver (l : Launch) (w : GW) (K : GK) (g : GM) (S : GS) (a : Nat) (out : GM) (hf : f0_passOver K g a = some out) (hk0 : gkd K a = 1) : Met l yX0_passOver (wA yX0_passOver cX0_passOver 2 none) ({ frames := 2, cells := 0, slots := 0, locals := 43 } : Room) (PRE w K g S [.ref a]) (QV w K out S) 0 0 (FR w) := by
  unfold f0_passOver at hf
  refine Met.ofW (cc := cX0_passOver) (maxL := 2) (ret := none) (by decide) rfl ?_
  intro p e s m args below meth c s₁ B hml hv
  obtain ⟨rfl, hH, hK⟩ := hv
  have hx := B.exec
  have hb := B.bytes
  have hr := B.returns
  have hts : ∀ q ∈ gALL, q.before _ s = true := fun q h => atoms_spec (ws := (wA yX0_passOver cX0_passOver 2 none)) B.pre q (List.mem_cons_of_mem _ h)
  have hown : s.vm.findClass RX0 = some m.cls := findClass_of_methodNamed B.named
  have hlocks := B.notSynchronized
  have hS : va_S (FR w) s.heap s.heap [] := va_S.rf
  show W p l e ({ frames := 2, cells := 0, slots := 0, locals := 43 } : Room) s m _ below meth c s.heap [] 0 0 (MQ below (QV w K out S) _ s 0 0 (FR w)) _
  have hl := lv_entry ([.ref a]) (n := 2) (Nat.le_of_ble_eq_true rfl)
  rw [lg_entry_eq]
  generalize (lg_sl ([.ref a]) ++ List.replicate (2 - (lg_sl ([.ref a])).length) Slot.unset).toArray = ls at hl ⊢
  clear B
  generalize ([.ref a] : List Value).toArray = args at hts ⊢
  have B51 : ∀ (g : GM) (H : Heap) (locs : List Loc) (ls : Array Slot), HR w K g S H → va_S (FR w) s.heap H locs → lv_has ls 2 [(0, .ref a)] → f0_passOver_51 K a g = some out → W p l e ({ frames := 2, cells := 0, slots := 0, locals := 43 } : Room) s m args below meth c H locs 0 0 (MQ below (QV w K out S) args s 0 0 (FR w)) (F0 m 51 ls []) := by
    intro  g H locs ls hH hS hl hf
    unfold f0_passOver_51 at hf
    refine lv_aload_n hx hb dX0_passOver_51 rfl (lv_at hl 0 rfl) ?_
    refine lv_aload_n hx hb dX0_passOver_52 rfl (lv_at hl 0 rfl) ?_
    obtain ⟨v1, h2, hf⟩ := gbind hf
    refine g_Vi (As := []) (rest := [.ref a]) ⟨hx, hb, hml, hown, hts⟩ (c0_placeBehind l w K g S a v1 h2 hk0) (gcwV hts i0_placeBehind wd_396 rfl rfl ⟨Nat.le_of_ble_eq_true rfl, Nat.le_of_ble_eq_true rfl⟩) (gRecv.of hK rfl (hH.o1 hk0)) hH hK hS hl.1 rfl rfl (Nat.le_of_ble_eq_true rfl) dX0_passOver_53 ⟨Nat.le_refl _, Nat.le_refl _⟩ (fun H locs hH hS => ?_)
    obtain ⟨g3, h4, hf⟩ := gbind hf
    refine g_Vv (As := [.int v1]) (rest := []) ⟨hx, hb, hml, hown, hts⟩ (c0_arriveAt l w K g S a v1 g3 h4 hk0) (gcwV hts i0_arriveAt wd_404 rfl rfl ⟨Nat.le_of_ble_eq_true rfl, Nat.le_of_ble_eq_true rfl⟩) (gRecv.of hK rfl (hH.o1 hk0)) hH hK hS hl.1 rfl rfl (Nat.le_of_ble_eq_true rfl) dX0_passOver_56 ⟨Nat.le_refl _, Nat.le_refl _⟩ (fun H locs hH hS => ?_)
    have ho := Option.some.inj hf
    exact W.vret hx hb hr (fun t ht hW => ⟨⟨(), rfl, trivial, hrV ht ho hH⟩, hS.F ht⟩) hS.2.2 dX0_passOver_59
  have hl : lv_has ls 2 [(0, .ref a)] := hl
  refine lv_aload_n hx hb dX0_passOver_0 rfl (lv_at hl 0 rfl) ?_
  refine e_0_6 hx hb hts hown hK hH hk0 (hts _ wd_79) dX0_passOver_1 ?_
  have hg := gif hf
  refine lv_if_ne (tgt := 8) hx hb dX0_passOver_4 (by decide) (fun c5 => ?_) (fun c5 => ?_)
  · have hf := hg.2 c5
    refine lv_aload_n hx hb dX0_passOver_8 rfl (lv_at hl 0 rfl) ?_
    refine lv_aload_n hx hb dX0_passOver_9 rfl (lv_at hl 0 rfl) ?_
    refine e_0_6 hx hb hts hown hK hH hk0 (hts _ wd_79) dX0_passOver_10 ?_
    refine lv_iconst (v := 1) hx hb dX0_passOver_13 (by decide) ?_
    refine lv_isub hx hb dX0_passOver_14 ?_
    obtain ⟨v6, h7, hf⟩ := gbind hf
    refine g_Vi (As := [.int ((gI g a 6) - 1)]) (rest := []) ⟨hx, hb, hml, hown, hts⟩ (c0_spotOf l w K g S a ((gI g a 6) - 1) v6 h7 hk0) (gcwV hts i0_spotOf wd_163 rfl rfl ⟨Nat.le_of_ble_eq_true rfl, Nat.le_of_ble_eq_true rfl⟩) (gRecv.of hK rfl (hH.o1 hk0)) hH hK hS hl.1 rfl rfl (Nat.le_of_ble_eq_true rfl) dX0_passOver_15 ⟨Nat.le_refl _, Nat.le_refl _⟩ (fun H locs hH hS => ?_)
    refine lv_istore_n (lv' := [(1, .int v6), (0, .ref a)]) hx hb dX0_passOver_18 rfl hl (by decide) rfl (fun ls hl => ?_)
    refine lv_aload_n hx hb dX0_passOver_19 rfl (lv_at hl 1 rfl) ?_
    obtain ⟨v8, h9, hf⟩ := gbind hf
    refine g_Vi (As := []) (rest := []) ⟨hx, hb, hml, hown, hts⟩ (c0_stepLetter l w K g S a v8 h9 hk0) (gcwV hts i0_stepLetter wd_395 rfl rfl ⟨Nat.le_of_ble_eq_true rfl, Nat.le_of_ble_eq_true rfl⟩) (gRecv.of hK rfl (hH.o1 hk0)) hH hK hS hl.1 rfl rfl (Nat.le_of_ble_eq_true rfl) dX0_passOver_20 ⟨Nat.le_refl _, Nat.le_refl _⟩ (fun H locs hH hS => ?_)
    refine lv_bipush (v := 119) hx hb dX0_passOver_23 (by decide) ?_
    have hg := gif hf
    refine lv_icmp_ne (tgt := 51) hx hb dX0_passOver_25 (by decide) (fun c10 => ?_) (fun c10 => ?_)
    · have hf := hg.2 c10
      exact B51 _ _ _ _ hH hS (lv_sub hl [1] rfl) hf
    · have hf := hg.1 c10
      refine lv_aload_n hx hb dX0_passOver_28 rfl (lv_at hl 1 rfl) ?_
      have k11 : K.1 (a + 5) = (10, 36) := hH.sub hk0 4 (t := (5, 10, 36)) rfl
      refine e_0_4 hx hb hts hown hK hH hk0 (hts _ wd_76) dX0_passOver_29 ?_
      refine lv_iload_n hx hb dX0_passOver_32 rfl (lv_at hl 0 rfl) ?_
      obtain ⟨h13, hf⟩ := gd_some hf
      refine g_iald hx hb hK hH k11 h13 dX0_passOver_33 ?_
      refine lv_iconst (v := 1) hx hb dX0_passOver_34 (by decide) ?_
      have hg := gif hf
      refine lv_icmp_le (tgt := 51) hx hb dX0_passOver_35 (by decide) (fun c14 => ?_) (fun c14 => ?_)
      · have hf := hg.1 c14
        exact B51 _ _ _ _ hH hS (lv_sub hl [1] rfl) hf
      · have hf := hg.2 c14
        refine lv_aload_n hx hb dX0_passOver_38 rfl (lv_at hl 1 rfl) ?_
        refine e_0_4 hx hb hts hown hK hH hk0 (hts _ wd_76) dX0_passOver_39 ?_
        refine lv_iload_n hx hb dX0_passOver_42 rfl (lv_at hl 0 rfl) ?_
        refine lv_dup2_11 hx hb dX0_passOver_43 rfl rfl ?_
        refine g_iald hx hb hK hH k11 h13 dX0_passOver_44 ?_
        refine lv_iconst (v := 1) hx hb dX0_passOver_45 (by decide) ?_
        refine lv_isub hx hb dX0_passOver_46 ?_
        refine g_iast hx hb hK hH hS k11 h13 dX0_passOver_47 (fun H locs hH hS => ?_)
        obtain ⟨g17, eg17⟩ : ∃ z : GM, z = gsI g (a + 5) v6.toNatClampNeg ((gI g (a + 5) v6.toNatClampNeg) - 1) := ⟨_, rfl⟩
        have hf := gl_at hf eg17
        replace hH : HR w K g17 S H := by rw [eg17]; exact hH
        refine lv_goto (tgt := 59) hx hb dX0_passOver_48 (by decide) ?_
        have ho := Option.some.inj hf
        exact W.vret hx hb hr (fun t ht hW => ⟨⟨(), rfl, trivial, hrV ht ho hH⟩, hS.F ht⟩) hS.2.2 dX0_passOver_59
  · have hf := hg.1 c5
    have ho := Option.some.inj hf
    exact W.vret hx hb hr (fun t ht hW => ⟨⟨(), rfl, trivial, hrV ht ho hH⟩, hS.F ht⟩) hS.2.2 dX0_passOver_7
set_option maxRecDepth 100000 in
set_option maxHeartbeats 8000000 in
theorem c4_weavePick (l : Launch) (w : GW) (K : GK) (g : GM) (S : GS) (a : Nat) (out : GM) (hf : f4_weavePick K g a = some out) (hk0 : gkd K a = 5) : Met l yX4_weavePick (wA yX4_weavePick cX4_weavePick 2 none) ({ frames := 3, cells := 0, slots := 0, locals := 64 } : Room) (PRE w K g S [.ref a]) (QV w K out S) 0 0 (FR w) := by
  unfold f4_weavePick at hf
  refine Met.ofW (cc := cX4_weavePick) (maxL := 2) (ret := none) (by decide) rfl ?_
  intro p e s m args below meth c s₁ B hml hv
  obtain ⟨rfl, hH, hK⟩ := hv
  have hx := B.exec
  have hb := B.bytes
  have hr := B.returns
  have hts : ∀ q ∈ gALL, q.before _ s = true := fun q h => atoms_spec (ws := (wA yX4_weavePick cX4_weavePick 2 none)) B.pre q (List.mem_cons_of_mem _ h)
  have hown : s.vm.findClass RX4 = some m.cls := findClass_of_methodNamed B.named
  have hlocks := B.notSynchronized
  have hS : va_S (FR w) s.heap s.heap [] := va_S.rf
  show W p l e ({ frames := 3, cells := 0, slots := 0, locals := 64 } : Room) s m _ below meth c s.heap [] 0 0 (MQ below (QV w K out S) _ s 0 0 (FR w)) _
  have hl := lv_entry ([.ref a]) (n := 2) (Nat.le_of_ble_eq_true rfl)
  rw [lg_entry_eq]
  generalize (lg_sl ([.ref a]) ++ List.replicate (2 - (lg_sl ([.ref a])).length) Slot.unset).toArray = ls at hl ⊢
  clear B
  generalize ([.ref a] : List Value).toArray = args at hts ⊢
  have hl : lv_has ls 2 [(0, .ref a)] := hl
  refine lv_aload_n hx hb dX4_weavePick_0 rfl (lv_at hl 0 rfl) ?_
  have k1 : gkd K (a + 9) = 1 := congrArg Prod.fst (hH.sub hk0 8 (t := (9, 1, 0)) rfl)
  refine e_4_8 hx hb hts hown hK hH hk0 (hts _ wd_64) dX4_weavePick_1 ?_
  obtain ⟨v2, h3, hf⟩ := gbind hf
  refine g_Vi (As := []) (rest := []) ⟨hx, hb, hml, hown, hts⟩ (c0_topColour l w K g S (a + 9) v2 h3 k1) (gcwV hts i0_topColour wd_375 rfl rfl ⟨Nat.le_of_ble_eq_true rfl, Nat.le_of_ble_eq_true rfl⟩) (gRecv.of hK rfl (hH.o1 k1)) hH hK hS hl.1 rfl rfl (Nat.le_of_ble_eq_true rfl) dX4_weavePick_4 ⟨Nat.le_refl _, Nat.le_refl _⟩ (fun H locs hH hS => ?_)
  refine lv_istore_n (lv' := [(1, .int v2), (0, .ref a)]) hx hb dX4_weavePick_7 rfl hl (by decide) rfl (fun ls hl => ?_)
  refine lv_aload_n hx hb dX4_weavePick_8 rfl (lv_at hl 1 rfl) ?_
  have k4 : K.1 (a + 4) = (10, 6) := hH.sub hk0 3 (t := (4, 10, 6)) rfl
  refine e_4_3 hx hb hts hown hK hH hk0 (hts _ wd_55) dX4_weavePick_9 ?_
  refine lv_iload_n hx hb dX4_weavePick_12 rfl (lv_at hl 0 rfl) ?_
  refine lv_dup2_11 hx hb dX4_weavePick_13 rfl rfl ?_
  obtain ⟨h6, hf⟩ := gd_some hf
  refine g_iald hx hb hK hH k4 h6 dX4_weavePick_14 ?_
  refine lv_iconst (v := 1) hx hb dX4_weavePick_15 (by decide) ?_
  refine lv_isub hx hb dX4_weavePick_16 ?_
  refine g_iast hx hb hK hH hS k4 h6 dX4_weavePick_17 (fun H locs hH hS => ?_)
  obtain ⟨g8, eg8⟩ : ∃ z : GM, z = gsI g (a + 4) v2.toNatClampNeg ((gI g (a + 4) v2.toNatClampNeg) - 1) := ⟨_, rfl⟩
  have hf := gl_at hf eg8
  replace hH : HR w K g8 S H := by rw [eg8]; exact hH
  refine lv_aload_n hx hb dX4_weavePick_18 rfl (lv_at hl 1 rfl) ?_
  have k9 : K.1 (a + 5) = (10, 6) := hH.sub hk0 4 (t := (5, 10, 6)) rfl
  refine e_4_4 hx hb hts hown hK hH hk0 (hts _ wd_56) dX4_weavePick_19 ?_
  refine lv_iload_n hx hb dX4_weavePick_22 rfl (lv_at hl 0 rfl) ?_
  refine lv_dup2_11 hx hb dX4_weavePick_23 rfl rfl ?_
  refine g_iald hx hb hK hH k9 h6 dX4_weavePick_24 ?_
  refine lv_iconst (v := 1) hx hb dX4_weavePick_25 (by decide) ?_
  refine lv_iadd hx hb dX4_weavePick_26 ?_
  refine g_iast hx hb hK hH hS k9 h6 dX4_weavePick_27 (fun H locs hH hS => ?_)
  obtain ⟨g12, eg12⟩ : ∃ z : GM, z = gsI g8 (a + 5) v2.toNatClampNeg ((gI g8 (a + 5) v2.toNatClampNeg) + 1) := ⟨_, rfl⟩
  have hf := gl_at hf eg12
  replace hH : HR w K g12 S H := by rw [eg12]; exact hH
  refine lv_aload_n hx hb dX4_weavePick_28 rfl (lv_at hl 1 rfl) ?_
  have k13 : K.1 (a + 7) = (10, 6) := hH.sub hk0 6 (t := (7, 10, 6)) rfl
  refine e_4_6 hx hb hts hown hK hH hk0 (hts _ wd_58) dX4_weavePick_29 ?_
  refine lv_iload_n hx hb dX4_weavePick_32 rfl (lv_at hl 0 rfl) ?_
  refine lv_dup2_11 hx hb dX4_weavePick_33 rfl rfl ?_
  refine g_iald hx hb hK hH k13 h6 dX4_weavePick_34 ?_
  refine lv_iconst (v := 1) hx hb dX4_weavePick_35 (by decide) ?_
  refine lv_iadd hx hb dX4_weavePick_36 ?_
  refine g_iast hx hb hK hH hS k13 h6 dX4_weavePick_37 (fun H locs hH hS => ?_)
  obtain ⟨g16, eg16⟩ : ∃ z : GM, z = gsI g12 (a + 7) v2.toNatClampNeg ((gI g12 (a + 7) v2.toNatClampNeg) + 1) := ⟨_, rfl⟩
  have hf := gl_at hf eg16
  replace hH : HR w K g16 S H := by rw [eg16]; exact hH
  refine lv_aload_n hx hb dX4_weavePick_38 rfl (lv_at hl 1 rfl) ?_
  have k17 : K.1 (a + 8) = (12, 400) := hH.sub hk0 7 (t := (8, 12, 400)) rfl
  refine e_4_7 hx hb hts hown hK hH hk0 (hts _ wd_60) dX4_weavePick_39 ?_
  refine lv_aload_n hx hb dX4_weavePick_42 rfl (lv_at hl 1 rfl) ?_
  refine e_4_9 hx hb hts hown hK hH hk0 (hts _ wd_65) dX4_weavePick_43 ?_
  refine lv_iload_n hx hb dX4_weavePick_46 rfl (lv_at hl 0 rfl) ?_
  refine lv_i2b hx hb dX4_weavePick_47 rfl ?_
  obtain ⟨h19, hf⟩ := gd_some hf
  refine g_bast hx hb hK hH hS k17 h19 dX4_weavePick_48 (fun H locs hH hS => ?_)
  obtain ⟨g20, eg20⟩ : ∃ z : GM, z = gsI g16 (a + 8) (gI g16 a 9).toNatClampNeg v2.toInt8.toInt32.toInt8.toInt32 := ⟨_, rfl⟩
  have hf := gl_at hf eg20
  replace hH : HR w K g20 S H := by rw [eg20]; exact hH
  refine lv_aload_n hx hb dX4_weavePick_49 rfl (lv_at hl 1 rfl) ?_
  refine lv_dup hx hb dX4_weavePick_50 rfl ?_
  refine e_4_9 hx hb hts hown hK hH hk0 (hts _ wd_65) dX4_weavePick_51 ?_
  refine lv_iconst (v := 1) hx hb dX4_weavePick_54 (by decide) ?_
  refine lv_iadd hx hb dX4_weavePick_55 ?_
  refine p_4_9 hx hb hts hown hK hH hS hk0 (hts _ wd_65) dX4_weavePick_56 (fun H locs hH hS => ?_)
  obtain ⟨g21, eg21⟩ : ∃ z : GM, z = gsI g20 a 9 ((gI g20 a 9) + 1) := ⟨_, rfl⟩
  have hf := gl_at hf eg21
  replace hH : HR w K g21 S H := by rw [eg21]; exact hH
  refine lv_aload_n hx hb dX4_weavePick_59 rfl (lv_at hl 1 rfl) ?_
  refine e_4_8 hx hb hts hown hK hH hk0 (hts _ wd_64) dX4_weavePick_60 ?_
  obtain ⟨g22, h23, hf⟩ := gbind hf
  refine g_Vv (As := []) (rest := []) ⟨hx, hb, hml, hown, hts⟩ (c0_passOver l w K g21 S (a + 9) g22 h23 k1) (gcwV hts i0_passOver wd_391 rfl rfl ⟨Nat.le_of_ble_eq_true rfl, Nat.le_of_ble_eq_true rfl⟩) (gRecv.of hK rfl (hH.o1 k1)) hH hK hS hl.1 rfl rfl (Nat.le_of_ble_eq_true rfl) dX4_weavePick_63 ⟨Nat.le_refl _, Nat.le_refl _⟩ (fun H locs hH hS => ?_)
  have ho := Option.some.inj hf
  exact W.vret hx hb hr (fun t ht hW => ⟨⟨(), rfl, trivial, hrV ht ho hH⟩, hS.F ht⟩) hS.2.2 dX4_weavePick_66
set_option maxRecDepth 100000 in
set_option maxHeartbeats 8000000 in
theorem c0_dye (l : Launch) (w : GW) (K : GK) (g : GM) (S : GS) (a : Nat) (p0 : Int32) (out : GM) (hf : f0_dye K g a p0 = some out) (hk0 : gkd K a = 1) : Met l yX0_dye (wA yX0_dye cX0_dye 2 none) ({ frames := 0, cells := 0, slots := 0, locals := 0 } : Room) (PRE w K g S [.ref a, .int p0]) (QV w K out S) 0 0 (FR w) := by
  unfold f0_dye at hf
  refine Met.ofW (cc := cX0_dye) (maxL := 2) (ret := none) (by decide) rfl ?_
  intro p e s m args below meth c s₁ B hml hv
  obtain ⟨rfl, hH, hK⟩ := hv
  have hx := B.exec
  have hb := B.bytes
  have hr := B.returns
  have hts : ∀ q ∈ gALL, q.before _ s = true := fun q h => atoms_spec (ws := (wA yX0_dye cX0_dye 2 none)) B.pre q (List.mem_cons_of_mem _ h)
  have hown : s.vm.findClass RX0 = some m.cls := findClass_of_methodNamed B.named
  have hlocks := B.notSynchronized
  have hS : va_S (FR w) s.heap s.heap [] := va_S.rf
  show W p l e ({ frames := 0, cells := 0, slots := 0, locals := 0 } : Room) s m _ below meth c s.heap [] 0 0 (MQ below (QV w K out S) _ s 0 0 (FR w)) _
  have hl := lv_entry ([.ref a, .int p0]) (n := 2) (Nat.le_of_ble_eq_true rfl)
  rw [lg_entry_eq]
  generalize (lg_sl ([.ref a, .int p0]) ++ List.replicate (2 - (lg_sl ([.ref a, .int p0])).length) Slot.unset).toArray = ls at hl ⊢
  clear B
  generalize ([.ref a, .int p0] : List Value).toArray = args at hts ⊢
  have hl : lv_has ls 2 [(0, .ref a), (1, .int p0)] := hl
  refine lv_aload_n hx hb dX0_dye_0 rfl (lv_at hl 0 rfl) ?_
  refine e_0_6 hx hb hts hown hK hH hk0 (hts _ wd_79) dX0_dye_1 ?_
  have hg := gif hf
  refine lv_if_le (tgt := 19) hx hb dX0_dye_4 (by decide) (fun c1 => ?_) (fun c1 => ?_)
  · have hf := hg.1 c1
    have ho := Option.some.inj hf
    exact W.vret hx hb hr (fun t ht hW => ⟨⟨(), rfl, trivial, hrV ht ho hH⟩, hS.F ht⟩) hS.2.2 dX0_dye_19
  · have hf := hg.2 c1
    refine lv_aload_n hx hb dX0_dye_7 rfl (lv_at hl 0 rfl) ?_
    have k2 : K.1 (a + 2) = (10, 9) := hH.sub hk0 1 (t := (2, 10, 9)) rfl
    refine e_0_1 hx hb hts hown hK hH hk0 (hts _ wd_73) dX0_dye_8 ?_
    refine lv_aload_n hx hb dX0_dye_11 rfl (lv_at hl 0 rfl) ?_
    refine e_0_6 hx hb hts hown hK hH hk0 (hts _ wd_79) dX0_dye_12 ?_
    refine lv_iconst (v := 1) hx hb dX0_dye_15 (by decide) ?_
    refine lv_isub hx hb dX0_dye_16 ?_
    refine lv_iload_n hx hb dX0_dye_17 rfl (lv_at hl 1 rfl) ?_
    obtain ⟨h4, hf⟩ := gd_some hf
    refine g_iast hx hb hK hH hS k2 h4 dX0_dye_18 (fun H locs hH hS => ?_)
    obtain ⟨g5, eg5⟩ : ∃ z : GM, z = gsI g (a + 2) ((gI g a 6) - 1).toNatClampNeg p0 := ⟨_, rfl⟩
    have hf := gl_at hf eg5
    replace hH : HR w K g5 S H := by rw [eg5]; exact hH
    have ho := Option.some.inj hf
    exact W.vret hx hb hr (fun t ht hW => ⟨⟨(), rfl, trivial, hrV ht ho hH⟩, hS.F ht⟩) hS.2.2 dX0_dye_19
set_option maxRecDepth 100000 in
set_option maxHeartbeats 8000000 in
theorem c1_insideOf (l : Launch) (w : GW) (K : GK) (g : GM) (S : GS) (a : Nat) (p0 : Int32) (out : Int32) (hf : f1_insideOf K g a p0 = some out) (hk0 : gkd K a = 2) : Met l yX1_insideOf (wA yX1_insideOf cX1_insideOf 2 (some .int)) ({ frames := 0, cells := 0, slots := 0, locals := 0 } : Room) (PRE w K g S [.ref a, .int p0]) (QI w K g S out) 0 0 (FR w) := by
  unfold f1_insideOf at hf
  refine Met.ofW (cc := cX1_insideOf) (maxL := 2) (ret := (some .int)) (by decide) rfl ?_
  intro p e s m args below meth c s₁ B hml hv
  obtain ⟨rfl, hH, hK⟩ := hv
  have hx := B.exec
  have hb := B.bytes
  have hr := B.returns
  have hts : ∀ q ∈ gALL, q.before _ s = true := fun q h => atoms_spec (ws := (wA yX1_insideOf cX1_insideOf 2 (some .int))) B.pre q (List.mem_cons_of_mem _ h)
  have hown : s.vm.findClass RX1 = some m.cls := findClass_of_methodNamed B.named
  have hlocks := B.notSynchronized
  have hS : va_S (FR w) s.heap s.heap [] := va_S.rf
  show W p l e ({ frames := 0, cells := 0, slots := 0, locals := 0 } : Room) s m _ below meth c s.heap [] 0 0 (MQ below (QI w K g S out) _ s 0 0 (FR w)) _
  have hl := lv_entry ([.ref a, .int p0]) (n := 2) (Nat.le_of_ble_eq_true rfl)
  rw [lg_entry_eq]
  generalize (lg_sl ([.ref a, .int p0]) ++ List.replicate (2 - (lg_sl ([.ref a, .int p0])).length) Slot.unset).toArray = ls at hl ⊢
  clear B
  generalize ([.ref a, .int p0] : List Value).toArray = args at hts ⊢
  have B21 : ∀ (H : Heap) (locs : List Loc) (ls : Array Slot), HR w K g S H → va_S (FR w) s.heap H locs → lv_has ls 2 [(0, .ref a)] → f1_insideOf_21 K g a p0 = some out → W p l e ({ frames := 0, cells := 0, slots := 0, locals := 0 } : Room) s m args below meth c H locs 0 0 (MQ below (QI w K g S out) args s 0 0 (FR w)) (F0 m 21 ls []) := by
    intro   H locs ls hH hS hl hf
    unfold f1_insideOf_21 at hf
    refine lv_aload_n hx hb dX1_insideOf_21 rfl (lv_at hl 0 rfl) ?_
    refine e_1_0 hx hb hts hown hK hH hk0 (hts _ wd_303) dX1_insideOf_22 ?_
    have ho := Option.some.inj hf
    exact W.iret (v := (gI g a 0)) hx hb hr (fun t ht hW => ⟨⟨(gI g a 0), (), rfl, ho, hrE ht hH⟩, hS.F ht⟩) hS.2.2 dX1_insideOf_25
  have hl : lv_has ls 2 [(0, .ref a), (1, .int p0)] := hl
  refine lv_iload_n hx hb dX1_insideOf_0 rfl (lv_at hl 1 rfl) ?_
  have hg := gif hf
  refine lv_if_lt (tgt := 21) hx hb dX1_insideOf_1 (by decide) (fun c1 => ?_) (fun c1 => ?_)
  · have hf := hg.1 c1
    exact B21 _ _ _ hH hS (lv_sub hl [0] rfl) hf
  · have hf := hg.2 c1
    refine lv_iload_n hx hb dX1_insideOf_4 rfl (lv_at hl 1 rfl) ?_
    refine lv_aload_n hx hb dX1_insideOf_5 rfl (lv_at hl 0 rfl) ?_
    refine e_1_0 hx hb hts hown hK hH hk0 (hts _ wd_303) dX1_insideOf_6 ?_
    have hg := gif hf
    refine lv_icmp_ge (tgt := 21) hx hb dX1_insideOf_9 (by decide) (fun c2 => ?_) (fun c2 => ?_)
    · have hf := hg.1 c2
      exact B21 _ _ _ hH hS (lv_sub hl [0] rfl) hf
    · have hf := hg.2 c2
      refine lv_aload_n hx hb dX1_insideOf_12 rfl (lv_at hl 0 rfl) ?_
      have k3 : K.1 (a + 4) = (10, gkn K a) := hH.sub hk0 3 (t := (4, 10, gkn K a)) rfl
      refine e_1_7 hx hb hts hown hK hH hk0 (hts _ wd_313) dX1_insideOf_13 ?_
      refine lv_iload_n hx hb dX1_insideOf_16 rfl (lv_at hl 1 rfl) ?_
      obtain ⟨h5, hf⟩ := gd_some hf
      refine g_iald hx hb hK hH k3 h5 dX1_insideOf_17 ?_
      refine lv_goto (tgt := 25) hx hb dX1_insideOf_18 (by decide) ?_
      have ho := Option.some.inj hf
      exact W.iret (v := (gI g (a + 4) p0.toNatClampNeg)) hx hb hr (fun t ht hW => ⟨⟨(gI g (a + 4) p0.toNatClampNeg), (), rfl, ho, hrE ht hH⟩, hS.F ht⟩) hS.2.2 dX1_insideOf_25
set_option maxRecDepth 100000 in
set_option maxHeartbeats 8000000 in
theorem c0_beginPart (l : Launch) (w : GW) (K : GK) (g : GM) (S : GS) (a : Nat) (out : GM) (hf : f0_beginPart K g a = some out) (hk0 : gkd K a = 1) : Met l yX0_beginPart (wA yX0_beginPart cX0_beginPart 2 none) ({ frames := 2, cells := 0, slots := 0, locals := 43 } : Room) (PRE w K g S [.ref a]) (QV w K out S) 0 0 (FR w) := by
  unfold f0_beginPart at hf
  refine Met.ofW (cc := cX0_beginPart) (maxL := 2) (ret := none) (by decide) rfl ?_
  intro p e s m args below meth c s₁ B hml hv
  obtain ⟨rfl, hH, hK⟩ := hv
  have hx := B.exec
  have hb := B.bytes
  have hr := B.returns
  have hts : ∀ q ∈ gALL, q.before _ s = true := fun q h => atoms_spec (ws := (wA yX0_beginPart cX0_beginPart 2 none)) B.pre q (List.mem_cons_of_mem _ h)
  have hown : s.vm.findClass RX0 = some m.cls := findClass_of_methodNamed B.named
  have hlocks := B.notSynchronized
  have hS : va_S (FR w) s.heap s.heap [] := va_S.rf
  show W p l e ({ frames := 2, cells := 0, slots := 0, locals := 43 } : Room) s m _ below meth c s.heap [] 0 0 (MQ below (QV w K out S) _ s 0 0 (FR w)) _
  have hl := lv_entry ([.ref a]) (n := 2) (Nat.le_of_ble_eq_true rfl)
  rw [lg_entry_eq]
  generalize (lg_sl ([.ref a]) ++ List.replicate (2 - (lg_sl ([.ref a])).length) Slot.unset).toArray = ls at hl ⊢
  clear B
  generalize ([.ref a] : List Value).toArray = args at hts ⊢
  have hl : lv_has ls 2 [(0, .ref a)] := hl
  refine lv_aload_n hx hb dX0_beginPart_0 rfl (lv_at hl 0 rfl) ?_
  refine e_0_6 hx hb hts hown hK hH hk0 (hts _ wd_79) dX0_beginPart_1 ?_
  have hg := gif hf
  refine lv_if_eq (tgt := 22) hx hb dX0_beginPart_4 (by decide) (fun c1 => ?_) (fun c1 => ?_)
  · have hf := hg.1 c1
    have ho := Option.some.inj hf
    exact W.vret hx hb hr (fun t ht hW => ⟨⟨(), rfl, trivial, hrV ht ho hH⟩, hS.F ht⟩) hS.2.2 dX0_beginPart_22
  · have hf := hg.2 c1
    refine lv_aload_n hx hb dX0_beginPart_7 rfl (lv_at hl 0 rfl) ?_
    have k2 : K.1 (a + 3) = (10, 9) := hH.sub hk0 2 (t := (3, 10, 9)) rfl
    refine e_0_2 hx hb hts hown hK hH hk0 (hts _ wd_74) dX0_beginPart_8 ?_
    refine lv_aload_n hx hb dX0_beginPart_11 rfl (lv_at hl 0 rfl) ?_
    refine e_0_6 hx hb hts hown hK hH hk0 (hts _ wd_79) dX0_beginPart_12 ?_
    refine lv_iconst (v := 1) hx hb dX0_beginPart_15 (by decide) ?_
    refine lv_isub hx hb dX0_beginPart_16 ?_
    obtain ⟨h4, hf⟩ := gd_some hf
    refine g_iald hx hb hK hH k2 h4 dX0_beginPart_17 ?_
    refine lv_iconst (v := 3) hx hb dX0_beginPart_18 (by decide) ?_
    have hg := gif hf
    refine lv_icmp_lt (tgt := 23) hx hb dX0_beginPart_19 (by decide) (fun c5 => ?_) (fun c5 => ?_)
    · have hf := hg.1 c5
      refine lv_aload_n hx hb dX0_beginPart_23 rfl (lv_at hl 0 rfl) ?_
      refine lv_aload_n hx hb dX0_beginPart_24 rfl (lv_at hl 0 rfl) ?_
      refine e_0_6 hx hb hts hown hK hH hk0 (hts _ wd_79) dX0_beginPart_25 ?_
      refine lv_iconst (v := 1) hx hb dX0_beginPart_28 (by decide) ?_
      refine lv_isub hx hb dX0_beginPart_29 ?_
      obtain ⟨v6, h7, hf⟩ := gbind hf
      refine g_Vi (As := [.int ((gI g a 6) - 1)]) (rest := []) ⟨hx, hb, hml, hown, hts⟩ (c0_spotOf l w K g S a ((gI g a 6) - 1) v6 h7 hk0) (gcwV hts i0_spotOf wd_163 rfl rfl ⟨Nat.le_of_ble_eq_true rfl, Nat.le_of_ble_eq_true rfl⟩) (gRecv.of hK rfl (hH.o1 hk0)) hH hK hS hl.1 rfl rfl (Nat.le_of_ble_eq_true rfl) dX0_beginPart_30 ⟨Nat.le_refl _, Nat.le_refl _⟩ (fun H locs hH hS => ?_)
      refine lv_istore_n (lv' := [(1, .int v6), (0, .ref a)]) hx hb dX0_beginPart_33 rfl hl (by decide) rfl (fun ls hl => ?_)
      refine lv_aload_n hx hb dX0_beginPart_34 rfl (lv_at hl 1 rfl) ?_
      have k8 : K.1 (a + 5) = (10, 36) := hH.sub hk0 4 (t := (5, 10, 36)) rfl
      refine e_0_4 hx hb hts hown hK hH hk0 (hts _ wd_76) dX0_beginPart_35 ?_
      refine lv_iload_n hx hb dX0_beginPart_38 rfl (lv_at hl 0 rfl) ?_
      refine lv_dup2_11 hx hb dX0_beginPart_39 rfl rfl ?_
      obtain ⟨h10, hf⟩ := gd_some hf
      refine g_iald hx hb hK hH k8 h10 dX0_beginPart_40 ?_
      refine lv_iconst (v := 1) hx hb dX0_beginPart_41 (by decide) ?_
      refine lv_isub hx hb dX0_beginPart_42 ?_
      refine g_iast hx hb hK hH hS k8 h10 dX0_beginPart_43 (fun H locs hH hS => ?_)
      obtain ⟨g12, eg12⟩ : ∃ z : GM, z = gsI g (a + 5) v6.toNatClampNeg ((gI g (a + 5) v6.toNatClampNeg) - 1) := ⟨_, rfl⟩
      have hf := gl_at hf eg12
      replace hH : HR w K g12 S H := by rw [eg12]; exact hH
      refine lv_aload_n hx hb dX0_beginPart_44 rfl (lv_at hl 1 rfl) ?_
      refine e_0_2 hx hb hts hown hK hH hk0 (hts _ wd_74) dX0_beginPart_45 ?_
      refine lv_aload_n hx hb dX0_beginPart_48 rfl (lv_at hl 1 rfl) ?_
      refine e_0_6 hx hb hts hown hK hH hk0 (hts _ wd_79) dX0_beginPart_49 ?_
      refine lv_iconst (v := 1) hx hb dX0_beginPart_52 (by decide) ?_
      refine lv_isub hx hb dX0_beginPart_53 ?_
      refine lv_dup2_11 hx hb dX0_beginPart_54 rfl rfl ?_
      obtain ⟨h14, hf⟩ := gd_some hf
      refine g_iald hx hb hK hH k2 h14 dX0_beginPart_55 ?_
      refine lv_iconst (v := 1) hx hb dX0_beginPart_56 (by decide) ?_
      refine lv_iadd hx hb dX0_beginPart_57 ?_
      refine g_iast hx hb hK hH hS k2 h14 dX0_beginPart_58 (fun H locs hH hS => ?_)
      obtain ⟨g16, eg16⟩ : ∃ z : GM, z = gsI g12 (a + 3) ((gI g12 a 6) - 1).toNatClampNeg ((gI g12 (a + 3) ((gI g12 a 6) - 1).toNatClampNeg) + 1) := ⟨_, rfl⟩
      have hf := gl_at hf eg16
      replace hH : HR w K g16 S H := by rw [eg16]; exact hH
      refine lv_aload_n hx hb dX0_beginPart_59 rfl (lv_at hl 1 rfl) ?_
      refine lv_aload_n hx hb dX0_beginPart_60 rfl (lv_at hl 1 rfl) ?_
      have k17 : K.1 (a + 6) = (13, 9) := hH.sub hk0 5 (t := (6, 13, 9)) rfl
      refine e_0_5 hx hb hts hown hK hH hk0 (hts _ wd_78) dX0_beginPart_61 ?_
      refine lv_aload_n hx hb dX0_beginPart_64 rfl (lv_at hl 1 rfl) ?_
      refine e_0_6 hx hb hts hown hK hH hk0 (hts _ wd_79) dX0_beginPart_65 ?_
      refine lv_iconst (v := 1) hx hb dX0_beginPart_68 (by decide) ?_
      refine lv_isub hx hb dX0_beginPart_69 ?_
      obtain ⟨h19, hf⟩ := gd_some hf
      refine g_tald hx hb hK hH k17 h19 dX0_beginPart_70 ?_
      rcases gopt_c hf with ⟨q21, hf⟩ | ⟨t20, q21, hf⟩
      · cases hf
      · refine g_rfS q21 ?_
        refine lv_aload_n hx hb dX0_beginPart_71 rfl (lv_at hl 1 rfl) ?_
        have k24 : K.1 (a + 4) = (10, 36) := hH.sub hk0 3 (t := (4, 10, 36)) rfl
        refine e_0_3 hx hb hts hown hK hH hk0 (hts _ wd_75) dX0_beginPart_72 ?_
        refine lv_iload_n hx hb dX0_beginPart_75 rfl (lv_at hl 0 rfl) ?_
        refine g_iald hx hb hK hH k24 h10 dX0_beginPart_76 ?_
        obtain ⟨k26, hf⟩ := gd_some hf
        have k26 := gk_obj k26
        obtain ⟨v27, h28, hf⟩ := gbind hf
        refine g_Vi (As := [.int (gI g16 (a + 4) v6.toNatClampNeg)]) (rest := [.ref a]) ⟨hx, hb, hml, hown, hts⟩ (c1_insideOf l w K g16 S t20 (gI g16 (a + 4) v6.toNatClampNeg) v27 h28 k26) (gcwV hts i1_insideOf wd_420 rfl rfl ⟨Nat.le_of_ble_eq_true rfl, Nat.le_of_ble_eq_true rfl⟩) (gRecv.of hK rfl (hH.o2 k26)) hH hK hS hl.1 rfl rfl (Nat.le_of_ble_eq_true rfl) dX0_beginPart_77 ⟨Nat.le_refl _, Nat.le_refl _⟩ (fun H locs hH hS => ?_)
        obtain ⟨g29, h30, hf⟩ := gbind hf
        refine g_Vv (As := [.int v27]) (rest := []) ⟨hx, hb, hml, hown, hts⟩ (c0_arriveAt l w K g16 S a v27 g29 h30 hk0) (gcwV hts i0_arriveAt wd_404 rfl rfl ⟨Nat.le_of_ble_eq_true rfl, Nat.le_of_ble_eq_true rfl⟩) (gRecv.of hK rfl (hH.o1 hk0)) hH hK hS hl.1 rfl rfl (Nat.le_of_ble_eq_true rfl) dX0_beginPart_80 ⟨Nat.le_refl _, Nat.le_refl _⟩ (fun H locs hH hS => ?_)
        have ho := Option.some.inj hf
        exact W.vret hx hb hr (fun t ht hW => ⟨⟨(), rfl, trivial, hrV ht ho hH⟩, hS.F ht⟩) hS.2.2 dX0_beginPart_83
    · have hf := hg.2 c5
      have ho := Option.some.inj hf
      exact W.vret hx hb hr (fun t ht hW => ⟨⟨(), rfl, trivial, hrV ht ho hH⟩, hS.F ht⟩) hS.2.2 dX0_beginPart_22
set_option maxRecDepth 100000 in
set_option maxHeartbeats 8000000 in
theorem c4_isShort (l : Launch) (w : GW) (K : GK) (g : GM) (S : GS) (a : Nat) (p0 : Int32) (out : Int32) (hf : f4_isShort K g a p0 = some out) (hk0 : gkd K a = 5) : Met l yX4_isShort (wA yX4_isShort cX4_isShort 2 (some .boolean)) ({ frames := 0, cells := 0, slots := 0, locals := 0 } : Room) (PRE w K g S [.ref a, .int p0]) (QI w K g S out) 0 0 (FR w) := by
  unfold f4_isShort at hf
  refine Met.ofW (cc := cX4_isShort) (maxL := 2) (ret := (some .boolean)) (by decide) rfl ?_
  intro p e s m args below meth c s₁ B hml hv
  obtain ⟨rfl, hH, hK⟩ := hv
  have hx := B.exec
  have hb := B.bytes
  have hr := B.returns
  have hts : ∀ q ∈ gALL, q.before _ s = true := fun q h => atoms_spec (ws := (wA yX4_isShort cX4_isShort 2 (some .boolean))) B.pre q (List.mem_cons_of_mem _ h)
  have hown : s.vm.findClass RX4 = some m.cls := findClass_of_methodNamed B.named
  have hlocks := B.notSynchronized
  have hS : va_S (FR w) s.heap s.heap [] := va_S.rf
  show W p l e ({ frames := 0, cells := 0, slots := 0, locals := 0 } : Room) s m _ below meth c s.heap [] 0 0 (MQ below (QI w K g S out) _ s 0 0 (FR w)) _
  have hl := lv_entry ([.ref a, .int p0]) (n := 2) (Nat.le_of_ble_eq_true rfl)
  rw [lg_entry_eq]
  generalize (lg_sl ([.ref a, .int p0]) ++ List.replicate (2 - (lg_sl ([.ref a, .int p0])).length) Slot.unset).toArray = ls at hl ⊢
  clear B
  generalize ([.ref a, .int p0] : List Value).toArray = args at hts ⊢
  have hl : lv_has ls 2 [(0, .ref a), (1, .int p0)] := hl
  refine lv_aload_n hx hb dX4_isShort_0 rfl (lv_at hl 0 rfl) ?_
  have k1 : K.1 (a + 4) = (10, 6) := hH.sub hk0 3 (t := (4, 10, 6)) rfl
  refine e_4_3 hx hb hts hown hK hH hk0 (hts _ wd_55) dX4_isShort_1 ?_
  refine lv_iload_n hx hb dX4_isShort_4 rfl (lv_at hl 1 rfl) ?_
  obtain ⟨h3, hf⟩ := gd_some hf
  refine g_iald hx hb hK hH k1 h3 dX4_isShort_5 ?_
  refine lv_aload_n hx hb dX4_isShort_6 rfl (lv_at hl 0 rfl) ?_
  have k4 : K.1 (a + 3) = (10, 3) := hH.sub hk0 2 (t := (3, 10, 3)) rfl
  refine e_4_2 hx hb hts hown hK hH hk0 (hts _ wd_54) dX4_isShort_7 ?_
  refine lv_iconst (v := 2) hx hb dX4_isShort_10 (by decide) ?_
  obtain ⟨h6, hf⟩ := gd_some hf
  refine g_iald hx hb hK hH k4 h6 dX4_isShort_11 ?_
  have hg := gif hf
  refine lv_icmp_ge (tgt := 19) hx hb dX4_isShort_12 (by decide) (fun c7 => ?_) (fun c7 => ?_)
  · have hf := hg.1 c7
    refine lv_iconst (v := 0) hx hb dX4_isShort_19 (by decide) ?_
    have ho := Option.some.inj hf
    exact W.zret (v := 0) (ty := .boolean) hx hb hr rfl (fun t ht hW => ⟨⟨0, (), rfl, ho, hrE ht hH⟩, hS.F ht⟩) hS.2.2 dX4_isShort_20
  · have hf := hg.2 c7
    refine lv_iconst (v := 1) hx hb dX4_isShort_15 (by decide) ?_
    refine lv_goto (tgt := 20) hx hb dX4_isShort_16 (by decide) ?_
    have ho := Option.some.inj hf
    exact W.zret (v := 1) (ty := .boolean) hx hb hr rfl (fun t ht hW => ⟨⟨1, (), rfl, ho, hrE ht hH⟩, hS.F ht⟩) hS.2.2 dX4_isShort_20
set_option maxRecDepth 100000 in
set_option maxHeartbeats 8000000 in
theorem c4_doStep (l : Launch) (w : GW) (K : GK) (g : GM) (S : GS) (a : Nat) (p0 : Int32) (out : GM) (hf : f4_doStep K g a p0 = some out) (hk0 : gkd K a = 5) : Met l yX4_doStep (wA yX4_doStep cX4_doStep 2 none) ({ frames := 3, cells := 0, slots := 0, locals := 66 } : Room) (PRE w K g S [.ref a, .int p0]) (QV w K out S) 0 0 (FR w) := by
  unfold f4_doStep at hf
  refine Met.ofW (cc := cX4_doStep) (maxL := 2) (ret := none) (by decide) rfl ?_
  intro p e s m args below meth c s₁ B hml hv
  obtain ⟨rfl, hH, hK⟩ := hv
  have hx := B.exec
  have hb := B.bytes
  have hr := B.returns
  have hts : ∀ q ∈ gALL, q.before _ s = true := fun q h => atoms_spec (ws := (wA yX4_doStep cX4_doStep 2 none)) B.pre q (List.mem_cons_of_mem _ h)
  have hown : s.vm.findClass RX4 = some m.cls := findClass_of_methodNamed B.named
  have hlocks := B.notSynchronized
  have hS : va_S (FR w) s.heap s.heap [] := va_S.rf
  show W p l e ({ frames := 3, cells := 0, slots := 0, locals := 66 } : Room) s m _ below meth c s.heap [] 0 0 (MQ below (QV w K out S) _ s 0 0 (FR w)) _
  have hl := lv_entry ([.ref a, .int p0]) (n := 2) (Nat.le_of_ble_eq_true rfl)
  rw [lg_entry_eq]
  generalize (lg_sl ([.ref a, .int p0]) ++ List.replicate (2 - (lg_sl ([.ref a, .int p0])).length) Slot.unset).toArray = ls at hl ⊢
  clear B
  generalize ([.ref a, .int p0] : List Value).toArray = args at hts ⊢
  have B123 : ∀ (g : GM) (s0 : Int32) (s1 : Int32) (H : Heap) (locs : List Loc) (ls : Array Slot), HR w K g S H → va_S (FR w) s.heap H locs → lv_has ls 2 [(0, .ref a)] → f4_doStep_123 K a p0 g s0 s1 = some out → W p l e ({ frames := 3, cells := 0, slots := 0, locals := 66 } : Room) s m args below meth c H locs 0 0 (MQ below (QV w K out S) args s 0 0 (FR w)) (F0 m 123 ls [.int s1, .int s0]) := by
    intro  g s0 s1 H locs ls hH hS hl hf
    unfold f4_doStep_123 at hf
    have hg := gif hf
    refine lv_icmp_ne (tgt := 136) hx hb dX4_doStep_123 (by decide) (fun c1 => ?_) (fun c1 => ?_)
    · have hf := hg.2 c1
      refine lv_aload_n hx hb dX4_doStep_136 rfl (lv_at hl 0 rfl) ?_
      have k2 : gkd K (a + 9) = 1 := congrArg Prod.fst (hH.sub hk0 8 (t := (9, 1, 0)) rfl)
      refine e_4_8 hx hb hts hown hK hH hk0 (hts _ wd_64) dX4_doStep_137 ?_
      obtain ⟨g3, h4, hf⟩ := gbind hf
      refine g_Vv (As := []) (rest := []) ⟨hx, hb, hml, hown, hts⟩ (c0_passOver l w K g S (a + 9) g3 h4 k2) (gcwV hts i0_passOver wd_391 rfl rfl ⟨Nat.le_of_ble_eq_true rfl, Nat.le_of_ble_eq_true rfl⟩) (gRecv.of hK rfl (hH.o1 k2)) hH hK hS hl.1 rfl rfl (Nat.le_of_ble_eq_true rfl) dX4_doStep_140 ⟨Nat.le_refl _, Nat.le_refl _⟩ (fun H locs hH hS => ?_)
      have ho := Option.some.inj hf
      exact W.vret hx hb hr (fun t ht hW => ⟨⟨(), rfl, trivial, hrV ht ho hH⟩, hS.F ht⟩) hS.2.2 dX4_doStep_143
    · have hf := hg.1 c1
      refine lv_aload_n hx hb dX4_doStep_126 rfl (lv_at hl 0 rfl) ?_
      have k5 : gkd K (a + 9) = 1 := congrArg Prod.fst (hH.sub hk0 8 (t := (9, 1, 0)) rfl)
      refine e_4_8 hx hb hts hown hK hH hk0 (hts _ wd_64) dX4_doStep_127 ?_
      obtain ⟨g6, h7, hf⟩ := gbind hf
      refine g_Vv (As := []) (rest := []) ⟨hx, hb, hml, hown, hts⟩ (c0_beginPart l w K g S (a + 9) g6 h7 k5) (gcwV hts i0_beginPart wd_416 rfl rfl ⟨Nat.le_of_ble_eq_true rfl, Nat.le_of_ble_eq_true rfl⟩) (gRecv.of hK rfl (hH.o1 k5)) hH hK hS hl.1 rfl rfl (Nat.le_of_ble_eq_true rfl) dX4_doStep_130 ⟨Nat.le_refl _, Nat.le_refl _⟩ (fun H locs hH hS => ?_)
      refine lv_goto (tgt := 143) hx hb dX4_doStep_133 (by decide) ?_
      have ho := Option.some.inj hf
      exact W.vret hx hb hr (fun t ht hW => ⟨⟨(), rfl, trivial, hrV ht ho hH⟩, hS.F ht⟩) hS.2.2 dX4_doStep_143
  have hl : lv_has ls 2 [(0, .ref a), (1, .int p0)] := hl
  refine lv_iload_n hx hb dX4_doStep_0 rfl (lv_at hl 1 rfl) ?_
  have hg := gif hf
  by_cases c8 : p0 = 99
  · have hf := hg.1 c8
    refine lv_lookup (tgt := 36) hx hb dX4_doStep_1 (by decide +kernel) (by rw [c8]; first | done | decide +kernel) (by decide) ?_
    refine lv_aload_n hx hb dX4_doStep_36 rfl (lv_at hl 0 rfl) ?_
    have k9 : gkd K (a + 9) = 1 := congrArg Prod.fst (hH.sub hk0 8 (t := (9, 1, 0)) rfl)
    refine e_4_8 hx hb hts hown hK hH hk0 (hts _ wd_64) dX4_doStep_37 ?_
    refine lv_aload_n hx hb dX4_doStep_40 rfl (lv_at hl 0 rfl) ?_
    refine e_4_8 hx hb hts hown hK hH hk0 (hts _ wd_64) dX4_doStep_41 ?_
    obtain ⟨v10, h11, hf⟩ := gbind hf
    refine g_Vi (As := []) (rest := [.ref (a + 9)]) ⟨hx, hb, hml, hown, hts⟩ (c0_stepDigit l w K g S (a + 9) v10 h11 k9) (gcwV hts i0_stepDigit wd_379 rfl rfl ⟨Nat.le_of_ble_eq_true rfl, Nat.le_of_ble_eq_true rfl⟩) (gRecv.of hK rfl (hH.o1 k9)) hH hK hS hl.1 rfl rfl (Nat.le_of_ble_eq_true rfl) dX4_doStep_44 ⟨Nat.le_refl _, Nat.le_refl _⟩ (fun H locs hH hS => ?_)
    obtain ⟨g12, h13, hf⟩ := gbind hf
    refine g_Vv (As := [.int v10]) (rest := []) ⟨hx, hb, hml, hown, hts⟩ (c0_dye l w K g S (a + 9) v10 g12 h13 k9) (gcwV hts i0_dye wd_412 rfl rfl ⟨Nat.le_of_ble_eq_true rfl, Nat.le_of_ble_eq_true rfl⟩) (gRecv.of hK rfl (hH.o1 k9)) hH hK hS hl.1 rfl rfl (Nat.le_of_ble_eq_true rfl) dX4_doStep_47 ⟨Nat.le_refl _, Nat.le_refl _⟩ (fun H locs hH hS => ?_)
    refine lv_aload_n hx hb dX4_doStep_50 rfl (lv_at hl 0 rfl) ?_
    refine e_4_8 hx hb hts hown hK hH hk0 (hts _ wd_64) dX4_doStep_51 ?_
    obtain ⟨g14, h15, hf⟩ := gbind hf
    refine g_Vv (As := []) (rest := []) ⟨hx, hb, hml, hown, hts⟩ (c0_passOver l w K g12 S (a + 9) g14 h15 k9) (gcwV hts i0_passOver wd_391 rfl rfl ⟨Nat.le_of_ble_eq_true rfl, Nat.le_of_ble_eq_true rfl⟩) (gRecv.of hK rfl (hH.o1 k9)) hH hK hS hl.1 rfl rfl (Nat.le_of_ble_eq_true rfl) dX4_doStep_54 ⟨Nat.le_refl _, Nat.le_refl _⟩ (fun H locs hH hS => ?_)
    refine lv_goto (tgt := 143) hx hb dX4_doStep_57 (by decide) ?_
    have ho := Option.some.inj hf
    exact W.vret hx hb hr (fun t ht hW => ⟨⟨(), rfl, trivial, hrV ht ho hH⟩, hS.F ht⟩) hS.2.2 dX4_doStep_143
  have hf := hg.2 c8
  have hg := gif hf
  by_cases c16 : p0 = 107
  · have hf := hg.1 c16
    refine lv_lookup (tgt := 60) hx hb dX4_doStep_1 (by decide +kernel) (by rw [c16]; first | done | decide +kernel) (by decide) ?_
    refine lv_aload_n hx hb dX4_doStep_60 rfl (lv_at hl 0 rfl) ?_
    refine lv_dup hx hb dX4_doStep_61 rfl ?_
    refine e_4_11 hx hb hts hown hK hH hk0 (hts _ wd_67) dX4_doStep_62 ?_
    refine lv_iconst (v := 1) hx hb dX4_doStep_65 (by decide) ?_
    refine lv_iadd hx hb dX4_doStep_66 ?_
    refine p_4_11 hx hb hts hown hK hH hS hk0 (hts _ wd_67) dX4_doStep_67 (fun H locs hH hS => ?_)
    obtain ⟨g17, eg17⟩ : ∃ z : GM, z = gsI g a 11 ((gI g a 11) + 1) := ⟨_, rfl⟩
    have hf := gl_at hf eg17
    replace hH : HR w K g17 S H := by rw [eg17]; exact hH
    refine lv_aload_n hx hb dX4_doStep_70 rfl (lv_at hl 0 rfl) ?_
    refine lv_aload_n hx hb dX4_doStep_71 rfl (lv_at hl 0 rfl) ?_
    have k18 : gkd K (a + 9) = 1 := congrArg Prod.fst (hH.sub hk0 8 (t := (9, 1, 0)) rfl)
    refine e_4_8 hx hb hts hown hK hH hk0 (hts _ wd_64) dX4_doStep_72 ?_
    obtain ⟨v19, h20, hf⟩ := gbind hf
    refine g_Vi (As := []) (rest := [.ref a]) ⟨hx, hb, hml, hown, hts⟩ (c0_stepDigit l w K g17 S (a + 9) v19 h20 k18) (gcwV hts i0_stepDigit wd_379 rfl rfl ⟨Nat.le_of_ble_eq_true rfl, Nat.le_of_ble_eq_true rfl⟩) (gRecv.of hK rfl (hH.o1 k18)) hH hK hS hl.1 rfl rfl (Nat.le_of_ble_eq_true rfl) dX4_doStep_75 ⟨Nat.le_refl _, Nat.le_refl _⟩ (fun H locs hH hS => ?_)
    refine lv_aload_n hx hb dX4_doStep_78 rfl (lv_at hl 0 rfl) ?_
    refine e_4_8 hx hb hts hown hK hH hk0 (hts _ wd_64) dX4_doStep_79 ?_
    obtain ⟨v21, h22, hf⟩ := gbind hf
    refine g_Vi (As := []) (rest := [.int v19, .ref a]) ⟨hx, hb, hml, hown, hts⟩ (c0_topColour l w K g17 S (a + 9) v21 h22 k18) (gcwV hts i0_topColour wd_375 rfl rfl ⟨Nat.le_of_ble_eq_true rfl, Nat.le_of_ble_eq_true rfl⟩) (gRecv.of hK rfl (hH.o1 k18)) hH hK hS hl.1 rfl rfl (Nat.le_of_ble_eq_true rfl) dX4_doStep_82 ⟨Nat.le_refl _, Nat.le_refl _⟩ (fun H locs hH hS => ?_)
    obtain ⟨g23, h24, hf⟩ := gbind hf
    refine g_Vv (As := [.int v19, .int v21]) (rest := []) ⟨hx, hb, hml, hown, hts⟩ (c4_layOnStack l w K g17 S a v19 v21 g23 h24 hk0) (gcwV hts i4_layOnStack wd_339 rfl rfl ⟨Nat.le_of_ble_eq_true rfl, Nat.le_of_ble_eq_true rfl⟩) (gRecv.of hK rfl (hH.o5 hk0)) hH hK hS hl.1 rfl rfl (Nat.le_of_ble_eq_true rfl) dX4_doStep_85 ⟨Nat.le_refl _, Nat.le_refl _⟩ (fun H locs hH hS => ?_)
    refine lv_goto (tgt := 143) hx hb dX4_doStep_88 (by decide) ?_
    have ho := Option.some.inj hf
    exact W.vret hx hb hr (fun t ht hW => ⟨⟨(), rfl, trivial, hrV ht ho hH⟩, hS.F ht⟩) hS.2.2 dX4_doStep_143
  have hf := hg.2 c16
  have hg := gif hf
  by_cases c25 : p0 = 120
  · have hf := hg.1 c25
    refine lv_lookup (tgt := 91) hx hb dX4_doStep_1 (by decide +kernel) (by rw [c25]; first | done | decide +kernel) (by decide) ?_
    refine lv_aload_n hx hb dX4_doStep_91 rfl (lv_at hl 0 rfl) ?_
    have k26 : gkd K (a + 9) = 1 := congrArg Prod.fst (hH.sub hk0 8 (t := (9, 1, 0)) rfl)
    refine e_4_8 hx hb hts hown hK hH hk0 (hts _ wd_64) dX4_doStep_92 ?_
    obtain ⟨g27, h28, hf⟩ := gbind hf
    refine g_Vv (As := []) (rest := []) ⟨hx, hb, hml, hown, hts⟩ (c0_beginPart l w K g S (a + 9) g27 h28 k26) (gcwV hts i0_beginPart wd_416 rfl rfl ⟨Nat.le_of_ble_eq_true rfl, Nat.le_of_ble_eq_true rfl⟩) (gRecv.of hK rfl (hH.o1 k26)) hH hK hS hl.1 rfl rfl (Nat.le_of_ble_eq_true rfl) dX4_doStep_95 ⟨Nat.le_refl _, Nat.le_refl _⟩ (fun H locs hH hS => ?_)
    refine lv_goto (tgt := 143) hx hb dX4_doStep_98 (by decide) ?_
    have ho := Option.some.inj hf
    exact W.vret hx hb hr (fun t ht hW => ⟨⟨(), rfl, trivial, hrV ht ho hH⟩, hS.F ht⟩) hS.2.2 dX4_doStep_143
  have hf := hg.2 c25
  have nc8 : p0.toInt ≠ 99 := g_ne c8 (by decide)
  have nc16 : p0.toInt ≠ 107 := g_ne c16 (by decide)
  have nc25 : p0.toInt ≠ 120 := g_ne c25 (by decide)
  refine lv_lookup (off := 100) (tgt := 101) hx hb dX4_doStep_1 (by decide +kernel) (by simp [Op.lookupswitch.offset, nc8, nc16, nc25, nc8.symm, nc16.symm, nc25.symm]) (by decide) ?_
  refine lv_aload_n hx hb dX4_doStep_101 rfl (lv_at hl 0 rfl) ?_
  refine lv_aload_n hx hb dX4_doStep_102 rfl (lv_at hl 0 rfl) ?_
  have k29 : gkd K (a + 9) = 1 := congrArg Prod.fst (hH.sub hk0 8 (t := (9, 1, 0)) rfl)
  refine e_4_8 hx hb hts hown hK hH hk0 (hts _ wd_64) dX4_doStep_103 ?_
  obtain ⟨v30, h31, hf⟩ := gbind hf
  refine g_Vi (As := []) (rest := [.ref a]) ⟨hx, hb, hml, hown, hts⟩ (c0_topColour l w K g S (a + 9) v30 h31 k29) (gcwV hts i0_topColour wd_375 rfl rfl ⟨Nat.le_of_ble_eq_true rfl, Nat.le_of_ble_eq_true rfl⟩) (gRecv.of hK rfl (hH.o1 k29)) hH hK hS hl.1 rfl rfl (Nat.le_of_ble_eq_true rfl) dX4_doStep_106 ⟨Nat.le_refl _, Nat.le_refl _⟩ (fun H locs hH hS => ?_)
  obtain ⟨v32, h33, hf⟩ := gbind hf
  refine g_Vi (As := [.int v30]) (rest := []) ⟨hx, hb, hml, hown, hts⟩ (c4_isShort l w K g S a v30 v32 h33 hk0) (gcwV hts i4_isShort wd_424 rfl rfl ⟨Nat.le_of_ble_eq_true rfl, Nat.le_of_ble_eq_true rfl⟩) (gRecv.of hK rfl (hH.o5 hk0)) hH hK hS hl.1 rfl rfl (Nat.le_of_ble_eq_true rfl) dX4_doStep_109 ⟨Nat.le_refl _, Nat.le_refl _⟩ (fun H locs hH hS => ?_)
  refine lv_iload_n hx hb dX4_doStep_112 rfl (lv_at hl 1 rfl) ?_
  refine lv_bipush (v := 115) hx hb dX4_doStep_113 (by decide) ?_
  have hg := gif hf
  refine lv_icmp_ne (tgt := 122) hx hb dX4_doStep_115 (by decide) (fun c34 => ?_) (fun c34 => ?_)
  · have hf := hg.2 c34
    refine lv_iconst (v := 0) hx hb dX4_doStep_122 (by decide) ?_
    exact B123 _ _ _ _ _ _ hH hS (lv_sub hl [0] rfl) hf
  · have hf := hg.1 c34
    refine lv_iconst (v := 1) hx hb dX4_doStep_118 (by decide) ?_
    refine lv_goto (tgt := 123) hx hb dX4_doStep_119 (by decide) ?_
    exact B123 _ _ _ _ _ _ hH hS (lv_sub hl [0] rfl) hf
set_option maxRecDepth 100000 in
set_option maxHeartbeats 8000000 in
theorem c0_leaveEnds (l : Launch) (w : GW) (K : GK) (g : GM) (S : GS) (a : Nat) (out : GM) (hf : f0_leaveEnds K g a = some out) (hk0 : gkd K a = 1) : Met l yX0_leaveEnds (wA yX0_leaveEnds cX0_leaveEnds 3 none) ({ frames := 2, cells := 0, slots := 0, locals := 43 } : Room) (PRE w K g S [.ref a]) (QV w K out S) 0 0 (FR w) := by
  unfold f0_leaveEnds at hf
  refine Met.ofW (cc := cX0_leaveEnds) (maxL := 3) (ret := none) (by decide) rfl ?_
  intro p e s m args below meth c s₁ B hml hv
  obtain ⟨rfl, hH, hK⟩ := hv
  have hx := B.exec
  have hb := B.bytes
  have hr := B.returns
  have hts : ∀ q ∈ gALL, q.before _ s = true := fun q h => atoms_spec (ws := (wA yX0_leaveEnds cX0_leaveEnds 3 none)) B.pre q (List.mem_cons_of_mem _ h)
  have hown : s.vm.findClass RX0 = some m.cls := findClass_of_methodNamed B.named
  have hlocks := B.notSynchronized
  have hS : va_S (FR w) s.heap s.heap [] := va_S.rf
  show W p l e ({ frames := 2, cells := 0, slots := 0, locals := 43 } : Room) s m _ below meth c s.heap [] 0 0 (MQ below (QV w K out S) _ s 0 0 (FR w)) _
  have hl := lv_entry ([.ref a]) (n := 3) (Nat.le_of_ble_eq_true rfl)
  rw [lg_entry_eq]
  generalize (lg_sl ([.ref a]) ++ List.replicate (3 - (lg_sl ([.ref a])).length) Slot.unset).toArray = ls at hl ⊢
  clear B
  generalize ([.ref a] : List Value).toArray = args at hts ⊢
  have B110 : ∀ (k2 : GM → Int32 → Option (GM)), (∀ (g : GM) (x1 : Int32) (H : Heap) (locs : List Loc) (ls : Array Slot), HR w K g S H → va_S (FR w) s.heap H locs → lv_has ls 3 [(0, .ref a), (1, .int x1)] → k2 g x1 = some out → W p l e ({ frames := 2, cells := 0, slots := 0, locals := 43 } : Room) s m args below meth c H locs 0 0 (MQ below (QV w K out S) args s 0 0 (FR w)) (F0 m 2 ls [])) → ∀ (g : GM) (x1 : Int32) (H : Heap) (locs : List Loc) (ls : Array Slot), HR w K g S H → va_S (FR w) s.heap H locs → lv_has ls 3 [(0, .ref a), (1, .int x1)] → f0_leaveEnds_110 k2 K a g x1 = some out → W p l e ({ frames := 2, cells := 0, slots := 0, locals := 43 } : Room) s m args below meth c H locs 0 0 (MQ below (QV w K out S) args s 0 0 (FR w)) (F0 m 110 ls []) := by
    intro k2 hk2 g x1 H locs ls hH hS hl hf
    unfold f0_leaveEnds_110 at hf
    obtain ⟨v1, ev1⟩ : ∃ z : Int32, z = x1 + 1 := ⟨_, rfl⟩
    have hf := gl_at hf ev1
    refine lv_iinc (v := v1) (lv' := [(1, .int v1), (0, .ref a)]) hx hb dX0_leaveEnds_110 hl (k := 1) rfl (by rw [ev1]; rfl) (by decide) rfl (fun ls hl => ?_)
    refine lv_goto (tgt := 2) hx hb dX0_leaveEnds_113 (by decide) ?_
    exact hk2 _ _ _ _ _ hH hS (lv_sub hl [1, 0] rfl) hf
  have B84 : ∀ (k2 : GM → Int32 → Option (GM)), (∀ (g : GM) (x1 : Int32) (H : Heap) (locs : List Loc) (ls : Array Slot), HR w K g S H → va_S (FR w) s.heap H locs → lv_has ls 3 [(0, .ref a), (1, .int x1)] → k2 g x1 = some out → W p l e ({ frames := 2, cells := 0, slots := 0, locals := 43 } : Room) s m args below meth c H locs 0 0 (MQ below (QV w K out S) args s 0 0 (FR w)) (F0 m 2 ls [])) → ∀ (g : GM) (x1 : Int32) (x2 : Int32) (H : Heap) (locs : List Loc) (ls : Array Slot), HR w K g S H → va_S (FR w) s.heap H locs → lv_has ls 3 [(0, .ref a), (1, .int x1), (2, .int x2)] → f0_leaveEnds_84 k2 K a g x1 x2 = some out → W p l e ({ frames := 2, cells := 0, slots := 0, locals := 43 } : Room) s m args below meth c H locs 0 0 (MQ below (QV w K out S) args s 0 0 (FR w)) (F0 m 84 ls []) := by
    intro k2 hk2 g x1 x2 H locs ls hH hS hl hf
    unfold f0_leaveEnds_84 at hf
    refine lv_iload_n hx hb dX0_leaveEnds_84 rfl (lv_at hl 2 rfl) ?_
    have hg := gif hf
    refine lv_if_ne (tgt := 109) hx hb dX0_leaveEnds_85 (by decide) (fun c2 => ?_) (fun c2 => ?_)
    · have hf := hg.2 c2
      have ho := Option.some.inj hf
      exact W.vret hx hb hr (fun t ht hW => ⟨⟨(), rfl, trivial, hrV ht ho hH⟩, hS.F ht⟩) hS.2.2 dX0_leaveEnds_109
    · have hf := hg.1 c2
      refine lv_aload_n hx hb dX0_leaveEnds_88 rfl (lv_at hl 0 rfl) ?_
      refine lv_dup hx hb dX0_leaveEnds_89 rfl ?_
      refine e_0_6 hx hb hts hown hK hH hk0 (hts _ wd_79) dX0_leaveEnds_90 ?_
      refine lv_iconst (v := 1) hx hb dX0_leaveEnds_93 (by decide) ?_
      refine lv_isub hx hb dX0_leaveEnds_94 ?_
      refine p_0_6 hx hb hts hown hK hH hS hk0 (hts _ wd_79) dX0_leaveEnds_95 (fun H locs hH hS => ?_)
      obtain ⟨g3, eg3⟩ : ∃ z : GM, z = gsI g a 6 ((gI g a 6) - 1) := ⟨_, rfl⟩
      have hf := gl_at hf eg3
      replace hH : HR w K g3 S H := by rw [eg3]; exact hH
      refine lv_aload_n hx hb dX0_leaveEnds_98 rfl (lv_at hl 0 rfl) ?_
      refine lv_aload_n hx hb dX0_leaveEnds_99 rfl (lv_at hl 0 rfl) ?_
      obtain ⟨v4, h5, hf⟩ := gbind hf
      refine g_Vi (As := []) (rest := [.ref a]) ⟨hx, hb, hml, hown, hts⟩ (c0_placeBehind l w K g3 S a v4 h5 hk0) (gcwV hts i0_placeBehind wd_396 rfl rfl ⟨Nat.le_of_ble_eq_true rfl, Nat.le_of_ble_eq_true rfl⟩) (gRecv.of hK rfl (hH.o1 hk0)) hH hK hS hl.1 rfl rfl (Nat.le_of_ble_eq_true rfl) dX0_leaveEnds_100 ⟨Nat.le_refl _, Nat.le_refl _⟩ (fun H locs hH hS => ?_)
      obtain ⟨g6, h7, hf⟩ := gbind hf
      refine g_Vv (As := [.int v4]) (rest := []) ⟨hx, hb, hml, hown, hts⟩ (c0_arriveAt l w K g3 S a v4 g6 h7 hk0) (gcwV hts i0_arriveAt wd_404 rfl rfl ⟨Nat.le_of_ble_eq_true rfl, Nat.le_of_ble_eq_true rfl⟩) (gRecv.of hK rfl (hH.o1 hk0)) hH hK hS hl.1 rfl rfl (Nat.le_of_ble_eq_true rfl) dX0_leaveEnds_103 ⟨Nat.le_refl _, Nat.le_refl _⟩ (fun H locs hH hS => ?_)
      refine lv_goto (tgt := 110) hx hb dX0_leaveEnds_106 (by decide) ?_
      exact B110 _ (hk2) _ _ _ _ _ hH hS (lv_sub hl [0, 1] rfl) hf
  have B2 : ∀ n : Nat, ∀ (g : GM) (x1 : Int32) (H : Heap) (locs : List Loc) (ls : Array Slot), HR w K g S H → va_S (FR w) s.heap H locs → lv_has ls 3 [(0, .ref a), (1, .int x1)] → f0_leaveEnds_2 K a n g x1 = some out → W p l e ({ frames := 2, cells := 0, slots := 0, locals := 43 } : Room) s m args below meth c H locs 0 0 (MQ below (QV w K out S) args s 0 0 (FR w)) (F0 m 2 ls []) := by
    intro n
    induction n with
    | zero =>
      intro g x1 H locs ls hH hS hl hf
      cases hf
    | succ n ih =>
      intro g x1 H locs ls hH hS hl hf
      rw [f0_leaveEnds_2] at hf
      refine lv_iload_n hx hb dX0_leaveEnds_2 rfl (lv_at hl 1 rfl) ?_
      refine lv_bipush (v := 36) hx hb dX0_leaveEnds_3 (by decide) ?_
      have hg := gif hf
      refine lv_icmp_ge (tgt := 116) hx hb dX0_leaveEnds_5 (by decide) (fun c8 => ?_) (fun c8 => ?_)
      · have hf := hg.1 c8
        have ho := Option.some.inj hf
        exact W.vret hx hb hr (fun t ht hW => ⟨⟨(), rfl, trivial, hrV ht ho hH⟩, hS.F ht⟩) hS.2.2 dX0_leaveEnds_116
      · have hf := hg.2 c8
        refine lv_aload_n hx hb dX0_leaveEnds_8 rfl (lv_at hl 0 rfl) ?_
        refine e_0_6 hx hb hts hown hK hH hk0 (hts _ wd_79) dX0_leaveEnds_9 ?_
        have hg := gif hf
        refine lv_if_le (tgt := 116) hx hb dX0_leaveEnds_12 (by decide) (fun c9 => ?_) (fun c9 => ?_)
        · have hf := hg.1 c9
          have ho := Option.some.inj hf
          exact W.vret hx hb hr (fun t ht hW => ⟨⟨(), rfl, trivial, hrV ht ho hH⟩, hS.F ht⟩) hS.2.2 dX0_leaveEnds_116
        · have hf := hg.2 c9
          refine lv_aload_n hx hb dX0_leaveEnds_15 rfl (lv_at hl 0 rfl) ?_
          obtain ⟨v10, h11, hf⟩ := gbind hf
          refine g_Vi (As := []) (rest := []) ⟨hx, hb, hml, hown, hts⟩ (c0_stepLetter l w K g S a v10 h11 hk0) (gcwV hts i0_stepLetter wd_395 rfl rfl ⟨Nat.le_of_ble_eq_true rfl, Nat.le_of_ble_eq_true rfl⟩) (gRecv.of hK rfl (hH.o1 hk0)) hH hK hS hl.1 rfl rfl (Nat.le_of_ble_eq_true rfl) dX0_leaveEnds_16 ⟨Nat.le_refl _, Nat.le_refl _⟩ (fun H locs hH hS => ?_)
          refine lv_istore_n (lv' := [(2, .int v10), (0, .ref a), (1, .int x1)]) hx hb dX0_leaveEnds_19 rfl hl (by decide) rfl (fun ls hl => ?_)
          refine lv_iload_n hx hb dX0_leaveEnds_20 rfl (lv_at hl 0 rfl) ?_
          refine lv_bipush (v := 41) hx hb dX0_leaveEnds_21 (by decide) ?_
          have hg := gif hf
          refine lv_icmp_ne (tgt := 84) hx hb dX0_leaveEnds_23 (by decide) (fun c12 => ?_) (fun c12 => ?_)
          · have hf := hg.2 c12
            exact B84 _ (ih) _ _ _ _ _ _ hH hS (lv_sub hl [1, 2, 0] rfl) hf
          · have hf := hg.1 c12
            refine lv_aload_n hx hb dX0_leaveEnds_26 rfl (lv_at hl 1 rfl) ?_
            have k13 : K.1 (a + 3) = (10, 9) := hH.sub hk0 2 (t := (3, 10, 9)) rfl
            refine e_0_2 hx hb hts hown hK hH hk0 (hts _ wd_74) dX0_leaveEnds_27 ?_
            refine lv_aload_n hx hb dX0_leaveEnds_30 rfl (lv_at hl 1 rfl) ?_
            refine e_0_6 hx hb hts hown hK hH hk0 (hts _ wd_79) dX0_leaveEnds_31 ?_
            refine lv_iconst (v := 1) hx hb dX0_leaveEnds_34 (by decide) ?_
            refine lv_isub hx hb dX0_leaveEnds_35 ?_
            obtain ⟨h15, hf⟩ := gd_some hf
            refine g_iald hx hb hK hH k13 h15 dX0_leaveEnds_36 ?_
            have hg := gif hf
            refine lv_if_le (tgt := 84) hx hb dX0_leaveEnds_37 (by decide) (fun c16 => ?_) (fun c16 => ?_)
            · have hf := hg.1 c16
              exact B84 _ (ih) _ _ _ _ _ _ hH hS (lv_sub hl [1, 2, 0] rfl) hf
            · have hf := hg.2 c16
              refine lv_aload_n hx hb dX0_leaveEnds_40 rfl (lv_at hl 1 rfl) ?_
              refine e_0_2 hx hb hts hown hK hH hk0 (hts _ wd_74) dX0_leaveEnds_41 ?_
              refine lv_aload_n hx hb dX0_leaveEnds_44 rfl (lv_at hl 1 rfl) ?_
              refine e_0_6 hx hb hts hown hK hH hk0 (hts _ wd_79) dX0_leaveEnds_45 ?_
              refine lv_iconst (v := 1) hx hb dX0_leaveEnds_48 (by decide) ?_
              refine lv_isub hx hb dX0_leaveEnds_49 ?_
              refine lv_dup2_11 hx hb dX0_leaveEnds_50 rfl rfl ?_
              refine g_iald hx hb hK hH k13 h15 dX0_leaveEnds_51 ?_
              refine lv_iconst (v := 1) hx hb dX0_leaveEnds_52 (by decide) ?_
              refine lv_isub hx hb dX0_leaveEnds_53 ?_
              refine g_iast hx hb hK hH hS k13 h15 dX0_leaveEnds_54 (fun H locs hH hS => ?_)
              obtain ⟨g19, eg19⟩ : ∃ z : GM, z = gsI g (a + 3) ((gI g a 6) - 1).toNatClampNeg ((gI g (a + 3) ((gI g a 6) - 1).toNatClampNeg) - 1) := ⟨_, rfl⟩
              have hf := gl_at hf eg19
              replace hH : HR w K g19 S H := by rw [eg19]; exact hH
              refine lv_aload_n hx hb dX0_leaveEnds_55 rfl (lv_at hl 1 rfl) ?_
              have k20 : K.1 (a + 5) = (10, 36) := hH.sub hk0 4 (t := (5, 10, 36)) rfl
              refine e_0_4 hx hb hts hown hK hH hk0 (hts _ wd_76) dX0_leaveEnds_56 ?_
              refine lv_aload_n hx hb dX0_leaveEnds_59 rfl (lv_at hl 1 rfl) ?_
              refine lv_aload_n hx hb dX0_leaveEnds_60 rfl (lv_at hl 1 rfl) ?_
              refine e_0_6 hx hb hts hown hK hH hk0 (hts _ wd_79) dX0_leaveEnds_61 ?_
              refine lv_iconst (v := 1) hx hb dX0_leaveEnds_64 (by decide) ?_
              refine lv_isub hx hb dX0_leaveEnds_65 ?_
              obtain ⟨v21, h22, hf⟩ := gbind hf
              refine g_Vi (As := [.int ((gI g19 a 6) - 1)]) (rest := [.ref (a + 5)]) ⟨hx, hb, hml, hown, hts⟩ (c0_spotOf l w K g19 S a ((gI g19 a 6) - 1) v21 h22 hk0) (gcwV hts i0_spotOf wd_163 rfl rfl ⟨Nat.le_of_ble_eq_true rfl, Nat.le_of_ble_eq_true rfl⟩) (gRecv.of hK rfl (hH.o1 hk0)) hH hK hS hl.1 rfl rfl (Nat.le_of_ble_eq_true rfl) dX0_leaveEnds_66 ⟨Nat.le_refl _, Nat.le_refl _⟩ (fun H locs hH hS => ?_)
              obtain ⟨h24, hf⟩ := gd_some hf
              refine g_iald hx hb hK hH k20 h24 dX0_leaveEnds_69 ?_
              have hg := gif hf
              refine lv_if_gt (tgt := 110) hx hb dX0_leaveEnds_70 (by decide) (fun c25 => ?_) (fun c25 => ?_)
              · have hf := hg.1 c25
                exact B110 _ (ih) _ _ _ _ _ hH hS (lv_sub hl [1, 2] rfl) hf
              · have hf := hg.2 c25
                refine lv_aload_n hx hb dX0_leaveEnds_73 rfl (lv_at hl 1 rfl) ?_
                refine lv_aload_n hx hb dX0_leaveEnds_74 rfl (lv_at hl 1 rfl) ?_
                obtain ⟨v26, h27, hf⟩ := gbind hf
                refine g_Vi (As := []) (rest := [.ref a]) ⟨hx, hb, hml, hown, hts⟩ (c0_placeBehind l w K g19 S a v26 h27 hk0) (gcwV hts i0_placeBehind wd_396 rfl rfl ⟨Nat.le_of_ble_eq_true rfl, Nat.le_of_ble_eq_true rfl⟩) (gRecv.of hK rfl (hH.o1 hk0)) hH hK hS hl.1 rfl rfl (Nat.le_of_ble_eq_true rfl) dX0_leaveEnds_75 ⟨Nat.le_refl _, Nat.le_refl _⟩ (fun H locs hH hS => ?_)
                obtain ⟨g28, h29, hf⟩ := gbind hf
                refine g_Vv (As := [.int v26]) (rest := []) ⟨hx, hb, hml, hown, hts⟩ (c0_arriveAt l w K g19 S a v26 g28 h29 hk0) (gcwV hts i0_arriveAt wd_404 rfl rfl ⟨Nat.le_of_ble_eq_true rfl, Nat.le_of_ble_eq_true rfl⟩) (gRecv.of hK rfl (hH.o1 hk0)) hH hK hS hl.1 rfl rfl (Nat.le_of_ble_eq_true rfl) dX0_leaveEnds_78 ⟨Nat.le_refl _, Nat.le_refl _⟩ (fun H locs hH hS => ?_)
                refine lv_goto (tgt := 110) hx hb dX0_leaveEnds_81 (by decide) ?_
                exact B110 _ (ih) _ _ _ _ _ hH hS (lv_sub hl [1, 2] rfl) hf
  have hl : lv_has ls 3 [(0, .ref a)] := hl
  refine lv_iconst (v := 0) hx hb dX0_leaveEnds_0 (by decide) ?_
  refine lv_istore_n (lv' := [(1, .int 0), (0, .ref a)]) hx hb dX0_leaveEnds_1 rfl hl (by decide) rfl (fun ls hl => ?_)
  exact B2 _ _ _ _ _ _ hH hS (lv_sub hl [1, 0] rfl) hf
set_option maxRecDepth 100000 in
set_option maxHeartbeats 8000000 in
theorem c4_weaveNext (l : Launch) (w : GW) (K : GK) (g : GM) (S : GS) (a : Nat) (out : GM × Int32) (hf : f4_weaveNext K g a = some out) (hk0 : gkd K a = 5) : Met l yX4_weaveNext (wA yX4_weaveNext cX4_weaveNext 4 (some .int)) ({ frames := 4, cells := 0, slots := 0, locals := 87 } : Room) (PRE w K g S [.ref a]) (QI w K out.1 S out.2) 0 0 (FR w) := by
  unfold f4_weaveNext at hf
  refine Met.ofW (cc := cX4_weaveNext) (maxL := 4) (ret := (some .int)) (by decide) rfl ?_
  intro p e s m args below meth c s₁ B hml hv
  obtain ⟨rfl, hH, hK⟩ := hv
  have hx := B.exec
  have hb := B.bytes
  have hr := B.returns
  have hts : ∀ q ∈ gALL, q.before _ s = true := fun q h => atoms_spec (ws := (wA yX4_weaveNext cX4_weaveNext 4 (some .int))) B.pre q (List.mem_cons_of_mem _ h)
  have hown : s.vm.findClass RX4 = some m.cls := findClass_of_methodNamed B.named
  have hlocks := B.notSynchronized
  have hS : va_S (FR w) s.heap s.heap [] := va_S.rf
  show W p l e ({ frames := 4, cells := 0, slots := 0, locals := 87 } : Room) s m _ below meth c s.heap [] 0 0 (MQ below (QI w K out.1 S out.2) _ s 0 0 (FR w)) _
  have hl := lv_entry ([.ref a]) (n := 4) (Nat.le_of_ble_eq_true rfl)
  rw [lg_entry_eq]
  generalize (lg_sl ([.ref a]) ++ List.replicate (4 - (lg_sl ([.ref a])).length) Slot.unset).toArray = ls at hl ⊢
  clear B
  generalize ([.ref a] : List Value).toArray = args at hts ⊢
  have B47 : ∀ (k2 : GM → Int32 → Option (GM × Int32)), (∀ (g : GM) (x1 : Int32) (H : Heap) (locs : List Loc) (ls : Array Slot), HR w K g S H → va_S (FR w) s.heap H locs → lv_has ls 4 [(0, .ref a), (1, .int x1)] → k2 g x1 = some out → W p l e ({ frames := 4, cells := 0, slots := 0, locals := 87 } : Room) s m args below meth c H locs 0 0 (MQ below (QI w K out.1 S out.2) args s 0 0 (FR w)) (F0 m 2 ls [])) → ∀ (g : GM) (x1 : Int32) (x3 : Int32) (H : Heap) (locs : List Loc) (ls : Array Slot), HR w K g S H → va_S (FR w) s.heap H locs → lv_has ls 4 [(0, .ref a), (1, .int x1), (3, .int x3)] → f4_weaveNext_47 k2 K a g x1 x3 = some out → W p l e ({ frames := 4, cells := 0, slots := 0, locals := 87 } : Room) s m args below meth c H locs 0 0 (MQ below (QI w K out.1 S out.2) args s 0 0 (FR w)) (F0 m 47 ls []) := by
    intro k2 hk2 g x1 x3 H locs ls hH hS hl hf
    unfold f4_weaveNext_47 at hf
    refine lv_aload_n hx hb dX4_weaveNext_47 rfl (lv_at hl 0 rfl) ?_
    have k1 : gkd K (a + 9) = 1 := congrArg Prod.fst (hH.sub hk0 8 (t := (9, 1, 0)) rfl)
    refine e_4_8 hx hb hts hown hK hH hk0 (hts _ wd_64) dX4_weaveNext_48 ?_
    obtain ⟨g2, h3, hf⟩ := gbind hf
    refine g_Vv (As := []) (rest := []) ⟨hx, hb, hml, hown, hts⟩ (c0_leaveEnds l w K g S (a + 9) g2 h3 k1) (gcwV hts i0_leaveEnds wd_428 rfl rfl ⟨Nat.le_of_ble_eq_true rfl, Nat.le_of_ble_eq_true rfl⟩) (gRecv.of hK rfl (hH.o1 k1)) hH hK hS hl.1 rfl rfl (Nat.le_of_ble_eq_true rfl) dX4_weaveNext_51 ⟨Nat.le_refl _, Nat.le_refl _⟩ (fun H locs hH hS => ?_)
    refine lv_iload_n hx hb dX4_weaveNext_54 rfl (lv_at hl 2 rfl) ?_
    refine lv_bipush (v := 119) hx hb dX4_weaveNext_55 (by decide) ?_
    have hg := gif hf
    refine lv_icmp_ne (tgt := 62) hx hb dX4_weaveNext_57 (by decide) (fun c4 => ?_) (fun c4 => ?_)
    · have hf := hg.2 c4
      obtain ⟨v5, ev5⟩ : ∃ z : Int32, z = x1 + 1 := ⟨_, rfl⟩
      have hf := gl_at hf ev5
      refine lv_iinc (v := v5) (lv' := [(1, .int v5), (0, .ref a), (3, .int x3)]) hx hb dX4_weaveNext_62 hl (k := 1) rfl (by rw [ev5]; rfl) (by decide) rfl (fun ls hl => ?_)
      refine lv_goto (tgt := 2) hx hb dX4_weaveNext_65 (by decide) ?_
      exact hk2 _ _ _ _ _ hH hS (lv_sub hl [1, 0] rfl) hf
    · have hf := hg.1 c4
      refine lv_iconst (v := 0) hx hb dX4_weaveNext_60 (by decide) ?_
      have ho := Option.some.inj hf
      exact W.iret (v := 0) hx hb hr (fun t ht hW => ⟨⟨0, (), rfl, congrArg Prod.snd ho, hrP ht ho hH⟩, hS.F ht⟩) hS.2.2 dX4_weaveNext_61
  have B2 : ∀ n : Nat, ∀ (g : GM) (x1 : Int32) (H : Heap) (locs : List Loc) (ls : Array Slot), HR w K g S H → va_S (FR w) s.heap H locs → lv_has ls 4 [(0, .ref a), (1, .int x1)] → f4_weaveNext_2 K a n g x1 = some out → W p l e ({ frames := 4, cells := 0, slots := 0, locals := 87 } : Room) s m args below meth c H locs 0 0 (MQ below (QI w K out.1 S out.2) args s 0 0 (FR w)) (F0 m 2 ls []) := by
    intro n
    induction n with
    | zero =>
      intro g x1 H locs ls hH hS hl hf
      cases hf
    | succ n ih =>
      intro g x1 H locs ls hH hS hl hf
      rw [f4_weaveNext_2] at hf
      refine lv_iload_n hx hb dX4_weaveNext_2 rfl (lv_at hl 1 rfl) ?_
      refine lv_sipush (v := 500) hx hb dX4_weaveNext_3 (by decide) ?_
      have hg := gif hf
      refine lv_icmp_gt (tgt := 68) hx hb dX4_weaveNext_6 (by decide) (fun c6 => ?_) (fun c6 => ?_)
      · have hf := hg.1 c6
        refine lv_bipush (v := 7) hx hb dX4_weaveNext_68 (by decide) ?_
        have ho := Option.some.inj hf
        exact W.iret (v := 7) hx hb hr (fun t ht hW => ⟨⟨7, (), rfl, congrArg Prod.snd ho, hrP ht ho hH⟩, hS.F ht⟩) hS.2.2 dX4_weaveNext_70
      · have hf := hg.2 c6
        refine lv_aload_n hx hb dX4_weaveNext_9 rfl (lv_at hl 0 rfl) ?_
        refine lv_iload_n hx hb dX4_weaveNext_10 rfl (lv_at hl 1 rfl) ?_
        obtain ⟨v7, h8, hf⟩ := gbind hf
        refine g_Vi (As := [.int x1]) (rest := []) ⟨hx, hb, hml, hown, hts⟩ (c4_hindranceAfter l w K g S a x1 v7 h8 hk0) (gcwV hts i4_hindranceAfter wd_363 rfl rfl ⟨Nat.le_of_ble_eq_true rfl, Nat.le_of_ble_eq_true rfl⟩) (gRecv.of hK rfl (hH.o5 hk0)) hH hK hS hl.1 rfl rfl (Nat.le_of_ble_eq_true rfl) dX4_weaveNext_11 ⟨Nat.le_refl _, Nat.le_refl _⟩ (fun H locs hH hS => ?_)
        refine lv_istore_n (lv' := [(2, .int v7), (0, .ref a), (1, .int x1)]) hx hb dX4_weaveNext_14 rfl hl (by decide) rfl (fun ls hl => ?_)
        refine lv_iload_n hx hb dX4_weaveNext_15 rfl (lv_at hl 0 rfl) ?_
        have hg := gif hf
        refine lv_if_eq (tgt := 21) hx hb dX4_weaveNext_16 (by decide) (fun c9 => ?_) (fun c9 => ?_)
        · have hf := hg.1 c9
          refine lv_aload_n hx hb dX4_weaveNext_21 rfl (lv_at hl 1 rfl) ?_
          have k10 : gkd K (a + 9) = 1 := congrArg Prod.fst (hH.sub hk0 8 (t := (9, 1, 0)) rfl)
          refine e_4_8 hx hb hts hown hK hH hk0 (hts _ wd_64) dX4_weaveNext_22 ?_
          obtain ⟨v11, h12, hf⟩ := gbind hf
          refine g_Vi (As := []) (rest := []) ⟨hx, hb, hml, hown, hts⟩ (c0_stepLetter l w K g S (a + 9) v11 h12 k10) (gcwV hts i0_stepLetter wd_367 rfl rfl ⟨Nat.le_of_ble_eq_true rfl, Nat.le_of_ble_eq_true rfl⟩) (gRecv.of hK rfl (hH.o1 k10)) hH hK hS hl.1 rfl rfl (Nat.le_of_ble_eq_true rfl) dX4_weaveNext_25 ⟨Nat.le_refl _, Nat.le_refl _⟩ (fun H locs hH hS => ?_)
          refine lv_istore_n (lv' := [(3, .int v11), (2, .int v7), (0, .ref a), (1, .int x1)]) hx hb dX4_weaveNext_28 rfl hl (by decide) rfl (fun ls hl => ?_)
          refine lv_iload_n hx hb dX4_weaveNext_29 rfl (lv_at hl 0 rfl) ?_
          refine lv_bipush (v := 119) hx hb dX4_weaveNext_30 (by decide) ?_
          have hg := gif hf
          refine lv_icmp_ne (tgt := 42) hx hb dX4_weaveNext_32 (by decide) (fun c13 => ?_) (fun c13 => ?_)
          · have hf := hg.2 c13
            refine lv_aload_n hx hb dX4_weaveNext_42 rfl (lv_at hl 2 rfl) ?_
            refine lv_iload_n hx hb dX4_weaveNext_43 rfl (lv_at hl 0 rfl) ?_
            obtain ⟨g14, h15, hf⟩ := gbind hf
            refine g_Vv (As := [.int v11]) (rest := []) ⟨hx, hb, hml, hown, hts⟩ (c4_doStep l w K g S a v11 g14 h15 hk0) (gcwV hts i4_doStep wd_408 rfl rfl ⟨Nat.le_of_ble_eq_true rfl, Nat.le_of_ble_eq_true rfl⟩) (gRecv.of hK rfl (hH.o5 hk0)) hH hK hS hl.1 rfl rfl (Nat.le_of_ble_eq_true rfl) dX4_weaveNext_44 ⟨Nat.le_refl _, Nat.le_refl _⟩ (fun H locs hH hS => ?_)
            exact B47 _ (ih) _ _ _ _ _ _ hH hS (lv_sub hl [2, 3, 0] rfl) hf
          · have hf := hg.1 c13
            refine lv_aload_n hx hb dX4_weaveNext_35 rfl (lv_at hl 2 rfl) ?_
            obtain ⟨g16, h17, hf⟩ := gbind hf
            refine g_Vv (As := []) (rest := []) ⟨hx, hb, hml, hown, hts⟩ (c4_weavePick l w K g S a g16 h17 hk0) (gcwV hts i4_weavePick wd_387 rfl rfl ⟨Nat.le_of_ble_eq_true rfl, Nat.le_of_ble_eq_true rfl⟩) (gRecv.of hK rfl (hH.o5 hk0)) hH hK hS hl.1 rfl rfl (Nat.le_of_ble_eq_true rfl) dX4_weaveNext_36 ⟨Nat.le_refl _, Nat.le_refl _⟩ (fun H locs hH hS => ?_)
            refine lv_goto (tgt := 47) hx hb dX4_weaveNext_39 (by decide) ?_
            exact B47 _ (ih) _ _ _ _ _ _ hH hS (lv_sub hl [2, 3, 0] rfl) hf
        · have hf := hg.2 c9
          refine lv_iload_n hx hb dX4_weaveNext_19 rfl (lv_at hl 0 rfl) ?_
          have ho := Option.some.inj hf
          exact W.iret (v := v7) hx hb hr (fun t ht hW => ⟨⟨v7, (), rfl, congrArg Prod.snd ho, hrP ht ho hH⟩, hS.F ht⟩) hS.2.2 dX4_weaveNext_20
  have hl : lv_has ls 4 [(0, .ref a)] := hl
  refine lv_iconst (v := 0) hx hb dX4_weaveNext_0 (by decide) ?_
  refine lv_istore_n (lv' := [(1, .int 0), (0, .ref a)]) hx hb dX4_weaveNext_1 rfl hl (by decide) rfl (fun ls hl => ?_)
  exact B2 _ _ _ _ _ _ hH hS (lv_sub hl [1, 0] rfl) hf
