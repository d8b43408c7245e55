/-! contracts, by program -/
set_option maxRecDepth 100000 in
set_option maxHeartbeats 8000000 in
theorem c7_of (l : Launch) (w : GW) (K : GK) (g : GM) (S : GS) (a : Nat) (p0 : Int32) (p1 : Int32) (out : Int32) (hf : f7_of K g a p0 p1 = some out) (hk0 : gkd K a = 8) : Met l yX7_of (wA yX7_of cX7_of 4 (some .int)) ({ frames := 2, cells := 0, slots := 0, locals := 44 } : Room) (PRE w K g S [.ref a, .int p0, .int p1]) (QI w K g S out) 0 0 (FR w) := by
  unfold f7_of at hf
  refine Met.ofW (cc := cX7_of) (maxL := 4) (ret := (some .int)) (by decide) rfl ?_
  intro p e s m args below meth c s₁ B hml hv
  obtain ⟨rfl, hH, hK⟩ := hv
  have hx := B.exec
  have hb := B.bytes
  have hr := B.returns
  have hts : ∀ q ∈ gALL, q.before _ s = true := fun q h => atoms_spec (ws := (wA yX7_of cX7_of 4 (some .int))) B.pre q (List.mem_cons_of_mem _ h)
  have hown : s.vm.findClass RX7 = some m.cls := findClass_of_methodNamed B.named
  have hlocks := B.notSynchronized
  have hS : va_S (FR w) s.heap s.heap [] := va_S.rf
  show W p l e ({ frames := 2, cells := 0, slots := 0, locals := 44 } : Room) s m _ below meth c s.heap [] 0 0 (MQ below (QI w K g S out) _ s 0 0 (FR w)) _
  have hl := lv_entry ([.ref a, .int p0, .int p1]) (n := 4) (Nat.le_of_ble_eq_true rfl)
  rw [lg_entry_eq]
  generalize (lg_sl ([.ref a, .int p0, .int p1]) ++ List.replicate (4 - (lg_sl ([.ref a, .int p0, .int p1])).length) Slot.unset).toArray = ls at hl ⊢
  clear B
  generalize ([.ref a, .int p0, .int p1] : List Value).toArray = args at hts ⊢
  have hl : lv_has ls 4 [(0, .ref a), (1, .int p0), (2, .int p1)] := hl
  refine lv_iload_n hx hb dX7_of_0 rfl (lv_at hl 1 rfl) ?_
  refine lv_bipush (v := 10) hx hb dX7_of_1 (by decide) ?_
  obtain ⟨v1, h2, hf⟩ := gbind hf
  refine g_Si (As := [.int p0, .int 10]) (rest := []) ⟨hx, hb, hml, hown, hts⟩ (c7_inRange l w K g S p0 10 v1 h2) (gcwS hts i7_inRange wd_118 rfl rfl ⟨Nat.le_of_ble_eq_true rfl, Nat.le_of_ble_eq_true rfl⟩) hH hK hS hl.1 rfl rfl (Nat.le_of_ble_eq_true rfl) dX7_of_3 ⟨Nat.le_refl _, Nat.le_refl _⟩ (fun H locs hH hS => ?_)
  have hg := gif hf
  refine lv_if_ne (tgt := 11) hx hb dX7_of_6 (by decide) (fun c3 => ?_) (fun c3 => ?_)
  · have hf := hg.2 c3
    refine lv_aload_n hx hb dX7_of_11 rfl (lv_at hl 0 rfl) ?_
    have k4 : gkd K (a + 10) = 5 := congrArg Prod.fst (hH.sub hk0 2 (t := (10, 5, 0)) rfl)
    refine e_7_2 hx hb hts hown hK hH hk0 (hts _ wd_24) dX7_of_12 ?_
    have k5 : K.1 (a + 11) = (13, 10) := hH.sub k4 0 (t := (1, 13, 10)) rfl
    refine e_4_0 hx hb hts hown hK hH k4 (hts _ wd_178) dX7_of_15 ?_
    refine lv_iload_n hx hb dX7_of_18 rfl (lv_at hl 1 rfl) ?_
    obtain ⟨h7, hf⟩ := gd_some hf
    refine g_tald hx hb hK hH k5 h7 dX7_of_19 ?_
    rcases gopt_c hf with ⟨q9, hf⟩ | ⟨t8, q9, hf⟩
    · refine g_rfN q9 ?_
      refine lv_astore_nN (lv' := [(3, .null), (0, .ref a), (1, .int p0), (2, .int p1)]) hx hb dX7_of_20 rfl hl (by decide) rfl (fun ls hl => ?_)
      refine lv_iload_n hx hb dX7_of_21 rfl (lv_at hl 3 rfl) ?_
      have hg := gif hf
      by_cases c10 : p1 = 0
      · have hf := hg.1 c10
        refine lv_tableIn (off := 42) (tgt := 64) hx hb dX7_of_22 (by rw [c10]; decide) (by rw [c10]; decide) (by rw [c10]; decide +kernel) (by decide) ?_
        refine lv_aload_nN hx hb dX7_of_64 rfl (lv_at hl 0 rfl) ?_
        refine lv_ifnonnullN hx hb dX7_of_65 ?_
        refine lv_iconst (v := 0) hx hb dX7_of_68 (by decide) ?_
        refine lv_goto (tgt := 76) hx hb dX7_of_69 (by decide) ?_
        have ho := Option.some.inj hf
        exact W.iret (v := 0) hx hb hr (fun t ht hW => ⟨⟨0, (), rfl, ho, hrE ht hH⟩, hS.F ht⟩) hS.2.2 dX7_of_76
      have hf := hg.2 c10
      have hg := gif hf
      by_cases c11 : p1 = 1
      · have hf := hg.1 c11
        refine lv_tableIn (off := 55) (tgt := 77) hx hb dX7_of_22 (by rw [c11]; decide) (by rw [c11]; decide) (by rw [c11]; decide +kernel) (by decide) ?_
        refine lv_aload_nN hx hb dX7_of_77 rfl (lv_at hl 0 rfl) ?_
        refine lv_ifnonnullN hx hb dX7_of_78 ?_
        refine lv_iconst (v := 0) hx hb dX7_of_81 (by decide) ?_
        refine lv_goto (tgt := 89) hx hb dX7_of_82 (by decide) ?_
        have ho := Option.some.inj hf
        exact W.iret (v := 0) hx hb hr (fun t ht hW => ⟨⟨0, (), rfl, ho, hrE ht hH⟩, hS.F ht⟩) hS.2.2 dX7_of_89
      have hf := hg.2 c11
      have hg := gif hf
      by_cases c12 : p1 = 2
      · have hf := hg.1 c12
        refine lv_tableIn (off := 68) (tgt := 90) hx hb dX7_of_22 (by rw [c12]; decide) (by rw [c12]; decide) (by rw [c12]; decide +kernel) (by decide) ?_
        refine lv_aload_nN hx hb dX7_of_90 rfl (lv_at hl 0 rfl) ?_
        refine lv_ifnonnullN hx hb dX7_of_91 ?_
        refine lv_iconst (v := 0) hx hb dX7_of_94 (by decide) ?_
        refine lv_goto (tgt := 102) hx hb dX7_of_95 (by decide) ?_
        have ho := Option.some.inj hf
        exact W.iret (v := 0) hx hb hr (fun t ht hW => ⟨⟨0, (), rfl, ho, hrE ht hH⟩, hS.F ht⟩) hS.2.2 dX7_of_102
      have hf := hg.2 c12
      have hg := gif hf
      by_cases c13 : p1 = 3
      · have hf := hg.1 c13
        refine lv_tableIn (off := 81) (tgt := 103) hx hb dX7_of_22 (by rw [c13]; decide) (by rw [c13]; decide) (by rw [c13]; decide +kernel) (by decide) ?_
        refine lv_aload_n hx hb dX7_of_103 rfl (lv_at hl 1 rfl) ?_
        refine e_7_2 hx hb hts hown hK hH hk0 (hts _ wd_24) dX7_of_104 ?_
        refine e_4_0 hx hb hts hown hK hH k4 (hts _ wd_178) dX7_of_107 ?_
        refine lv_iload_n hx hb dX7_of_110 rfl (lv_at hl 2 rfl) ?_
        obtain ⟨v14, h15, hf⟩ := gbind hf
        refine g_Si (As := [.ref (a + 11), .int p0]) (rest := []) ⟨hx, hb, hml, hown, hts⟩ (c2_callersOf l w K g S (a + 11) p0 v14 h15) (gcwS hts i2_callersOf wd_304 rfl rfl ⟨Nat.le_of_ble_eq_true rfl, Nat.le_of_ble_eq_true rfl⟩) hH hK hS hl.1 rfl rfl (Nat.le_of_ble_eq_true rfl) dX7_of_111 ⟨Nat.le_refl _, Nat.le_refl _⟩ (fun H locs hH hS => ?_)
        have ho := Option.some.inj hf
        exact W.iret (v := v14) hx hb hr (fun t ht hW => ⟨⟨v14, (), rfl, ho, hrE ht hH⟩, hS.F ht⟩) hS.2.2 dX7_of_114
      have hf := hg.2 c13
      have hg := gif hf
      by_cases c16 : p1 = 4
      · have hf := hg.1 c16
        refine lv_tableIn (off := 93) (tgt := 115) hx hb dX7_of_22 (by rw [c16]; decide) (by rw [c16]; decide) (by rw [c16]; decide +kernel) (by decide) ?_
        refine lv_aload_n hx hb dX7_of_115 rfl (lv_at hl 1 rfl) ?_
        refine e_7_2 hx hb hts hown hK hH hk0 (hts _ wd_24) dX7_of_116 ?_
        have k17 : K.1 (a + 12) = (10, 10) := hH.sub k4 1 (t := (2, 10, 10)) rfl
        refine e_4_1 hx hb hts hown hK hH k4 (hts _ wd_571) dX7_of_119 ?_
        refine lv_iload_n hx hb dX7_of_122 rfl (lv_at hl 2 rfl) ?_
        refine g_iald hx hb hK hH k17 h7 dX7_of_123 ?_
        have ho := Option.some.inj hf
        exact W.iret (v := (gI g (a + 12) p0.toNatClampNeg)) hx hb hr (fun t ht hW => ⟨⟨(gI g (a + 12) p0.toNatClampNeg), (), rfl, ho, hrE ht hH⟩, hS.F ht⟩) hS.2.2 dX7_of_124
      have hf := hg.2 c16
      have hg := gif hf
      by_cases c19 : p1 = 5
      · have hf := hg.1 c19
        refine lv_tableIn (off := 103) (tgt := 125) hx hb dX7_of_22 (by rw [c19]; decide) (by rw [c19]; decide) (by rw [c19]; decide +kernel) (by decide) ?_
        refine lv_aload_n hx hb dX7_of_125 rfl (lv_at hl 1 rfl) ?_
        refine e_7_2 hx hb hts hown hK hH hk0 (hts _ wd_24) dX7_of_126 ?_
        have k20 : gkd K (a + 19) = 1 := congrArg Prod.fst (hH.sub k4 8 (t := (9, 1, 0)) rfl)
        refine e_4_8 hx hb hts hown hK hH k4 (hts _ wd_533) dX7_of_129 ?_
        refine lv_iload_n hx hb dX7_of_132 rfl (lv_at hl 2 rfl) ?_
        obtain ⟨v21, h22, hf⟩ := gbind hf
        refine g_Vi (As := [.int p0]) (rest := []) ⟨hx, hb, hml, hown, hts⟩ (c0_timesOn l w K g S (a + 19) p0 v21 h22 k20) (gcwV hts i0_timesOn wd_573 rfl rfl ⟨Nat.le_of_ble_eq_true rfl, Nat.le_of_ble_eq_true rfl⟩) (gRecv.of hK rfl (hH.o1 k20)) hH hK hS hl.1 rfl rfl (Nat.le_of_ble_eq_true rfl) dX7_of_133 ⟨Nat.le_refl _, Nat.le_refl _⟩ (fun H locs hH hS => ?_)
        have ho := Option.some.inj hf
        exact W.iret (v := v21) hx hb hr (fun t ht hW => ⟨⟨v21, (), rfl, ho, hrE ht hH⟩, hS.F ht⟩) hS.2.2 dX7_of_136
      have hf := hg.2 c19
      have hg := gif hf
      by_cases c23 : p1 = 6
      · have hf := hg.1 c23
        refine lv_tableIn (off := 115) (tgt := 137) hx hb dX7_of_22 (by rw [c23]; decide) (by rw [c23]; decide) (by rw [c23]; decide +kernel) (by decide) ?_
        refine lv_aload_nN hx hb dX7_of_137 rfl (lv_at hl 0 rfl) ?_
        refine lv_ifnonnullN hx hb dX7_of_138 ?_
        refine lv_iconst (v := 0) hx hb dX7_of_141 (by decide) ?_
        refine lv_goto (tgt := 149) hx hb dX7_of_142 (by decide) ?_
        have ho := Option.some.inj hf
        exact W.iret (v := 0) hx hb hr (fun t ht hW => ⟨⟨0, (), rfl, ho, hrE ht hH⟩, hS.F ht⟩) hS.2.2 dX7_of_149
      have hf := hg.2 c23
      have nc10 : p1.toInt ≠ 0 := g_ne c10 (by decide)
      have nc11 : p1.toInt ≠ 1 := g_ne c11 (by decide)
      have nc12 : p1.toInt ≠ 2 := g_ne c12 (by decide)
      have nc13 : p1.toInt ≠ 3 := g_ne c13 (by decide)
      have nc16 : p1.toInt ≠ 4 := g_ne c16 (by decide)
      have nc19 : p1.toInt ≠ 5 := g_ne c19 (by decide)
      have nc23 : p1.toInt ≠ 6 := g_ne c23 (by decide)
      refine lv_tableOut (tgt := 150) hx hb dX7_of_22 (by omega) (by decide) ?_
      refine lv_bipush (v := (-2)) hx hb dX7_of_150 (by decide) ?_
      have ho := Option.some.inj hf
      exact W.iret (v := (-2)) hx hb hr (fun t ht hW => ⟨⟨(-2), (), rfl, ho, hrE ht hH⟩, hS.F ht⟩) hS.2.2 dX7_of_152
    · refine g_rfS q9 ?_
      refine lv_astore_n (lv' := [(3, .ref t8), (0, .ref a), (1, .int p0), (2, .int p1)]) hx hb dX7_of_20 rfl hl (by decide) rfl (fun ls hl => ?_)
      refine lv_iload_n hx hb dX7_of_21 rfl (lv_at hl 3 rfl) ?_
      have hg := gif hf
      by_cases c24 : p1 = 0
      · have hf := hg.1 c24
        refine lv_tableIn (off := 42) (tgt := 64) hx hb dX7_of_22 (by rw [c24]; decide) (by rw [c24]; decide) (by rw [c24]; decide +kernel) (by decide) ?_
        refine lv_aload_n hx hb dX7_of_64 rfl (lv_at hl 0 rfl) ?_
        refine lv_ifnonnull (tgt := 72) hx hb dX7_of_65 (by decide) ?_
        refine lv_aload_n hx hb dX7_of_72 rfl (lv_at hl 0 rfl) ?_
        obtain ⟨k25, hf⟩ := gd_some hf
        have k25 := gk_obj k25
        refine e_1_0 hx hb hts hown hK hH k25 (hts _ wd_569) dX7_of_73 ?_
        have ho := Option.some.inj hf
        exact W.iret (v := (gI g t8 0)) hx hb hr (fun t ht hW => ⟨⟨(gI g t8 0), (), rfl, ho, hrE ht hH⟩, hS.F ht⟩) hS.2.2 dX7_of_76
      have hf := hg.2 c24
      have hg := gif hf
      by_cases c26 : p1 = 1
      · have hf := hg.1 c26
        refine lv_tableIn (off := 55) (tgt := 77) hx hb dX7_of_22 (by rw [c26]; decide) (by rw [c26]; decide) (by rw [c26]; decide +kernel) (by decide) ?_
        refine lv_aload_n hx hb dX7_of_77 rfl (lv_at hl 0 rfl) ?_
        refine lv_ifnonnull (tgt := 85) hx hb dX7_of_78 (by decide) ?_
        refine lv_aload_n hx hb dX7_of_85 rfl (lv_at hl 0 rfl) ?_
        obtain ⟨k27, hf⟩ := gd_some hf
        have k27 := gk_obj k27
        refine e_1_1 hx hb hts hown hK hH k27 (hts _ wd_180) dX7_of_86 ?_
        have ho := Option.some.inj hf
        exact W.iret (v := (gI g t8 1)) hx hb hr (fun t ht hW => ⟨⟨(gI g t8 1), (), rfl, ho, hrE ht hH⟩, hS.F ht⟩) hS.2.2 dX7_of_89
      have hf := hg.2 c26
      have hg := gif hf
      by_cases c28 : p1 = 2
      · have hf := hg.1 c28
        refine lv_tableIn (off := 68) (tgt := 90) hx hb dX7_of_22 (by rw [c28]; decide) (by rw [c28]; decide) (by rw [c28]; decide +kernel) (by decide) ?_
        refine lv_aload_n hx hb dX7_of_90 rfl (lv_at hl 0 rfl) ?_
        refine lv_ifnonnull (tgt := 98) hx hb dX7_of_91 (by decide) ?_
        refine lv_aload_n hx hb dX7_of_98 rfl (lv_at hl 0 rfl) ?_
        obtain ⟨k29, hf⟩ := gd_some hf
        have k29 := gk_obj k29
        refine e_1_2 hx hb hts hown hK hH k29 (hts _ wd_570) dX7_of_99 ?_
        have ho := Option.some.inj hf
        exact W.iret (v := (gI g t8 2)) hx hb hr (fun t ht hW => ⟨⟨(gI g t8 2), (), rfl, ho, hrE ht hH⟩, hS.F ht⟩) hS.2.2 dX7_of_102
      have hf := hg.2 c28
      have hg := gif hf
      by_cases c30 : p1 = 3
      · have hf := hg.1 c30
        refine lv_tableIn (off := 81) (tgt := 103) hx hb dX7_of_22 (by rw [c30]; decide) (by rw [c30]; decide) (by rw [c30]; decide +kernel) (by decide) ?_
        refine lv_aload_n hx hb dX7_of_103 rfl (lv_at hl 1 rfl) ?_
        refine e_7_2 hx hb hts hown hK hH hk0 (hts _ wd_24) dX7_of_104 ?_
        refine e_4_0 hx hb hts hown hK hH k4 (hts _ wd_178) dX7_of_107 ?_
        refine lv_iload_n hx hb dX7_of_110 rfl (lv_at hl 2 rfl) ?_
        obtain ⟨v31, h32, hf⟩ := gbind hf
        refine g_Si (As := [.ref (a + 11), .int p0]) (rest := []) ⟨hx, hb, hml, hown, hts⟩ (c2_callersOf l w K g S (a + 11) p0 v31 h32) (gcwS hts i2_callersOf wd_304 rfl rfl ⟨Nat.le_of_ble_eq_true rfl, Nat.le_of_ble_eq_true rfl⟩) hH hK hS hl.1 rfl rfl (Nat.le_of_ble_eq_true rfl) dX7_of_111 ⟨Nat.le_refl _, Nat.le_refl _⟩ (fun H locs hH hS => ?_)
        have ho := Option.some.inj hf
        exact W.iret (v := v31) hx hb hr (fun t ht hW => ⟨⟨v31, (), rfl, ho, hrE ht hH⟩, hS.F ht⟩) hS.2.2 dX7_of_114
      have hf := hg.2 c30
      have hg := gif hf
      by_cases c33 : p1 = 4
      · have hf := hg.1 c33
        refine lv_tableIn (off := 93) (tgt := 115) hx hb dX7_of_22 (by rw [c33]; decide) (by rw [c33]; decide) (by rw [c33]; decide +kernel) (by decide) ?_
        refine lv_aload_n hx hb dX7_of_115 rfl (lv_at hl 1 rfl) ?_
        refine e_7_2 hx hb hts hown hK hH hk0 (hts _ wd_24) dX7_of_116 ?_
        have k34 : K.1 (a + 12) = (10, 10) := hH.sub k4 1 (t := (2, 10, 10)) rfl
        refine e_4_1 hx hb hts hown hK hH k4 (hts _ wd_571) dX7_of_119 ?_
        refine lv_iload_n hx hb dX7_of_122 rfl (lv_at hl 2 rfl) ?_
        refine g_iald hx hb hK hH k34 h7 dX7_of_123 ?_
        have ho := Option.some.inj hf
        exact W.iret (v := (gI g (a + 12) p0.toNatClampNeg)) hx hb hr (fun t ht hW => ⟨⟨(gI g (a + 12) p0.toNatClampNeg), (), rfl, ho, hrE ht hH⟩, hS.F ht⟩) hS.2.2 dX7_of_124
      have hf := hg.2 c33
      have hg := gif hf
      by_cases c36 : p1 = 5
      · have hf := hg.1 c36
        refine lv_tableIn (off := 103) (tgt := 125) hx hb dX7_of_22 (by rw [c36]; decide) (by rw [c36]; decide) (by rw [c36]; decide +kernel) (by decide) ?_
        refine lv_aload_n hx hb dX7_of_125 rfl (lv_at hl 1 rfl) ?_
        refine e_7_2 hx hb hts hown hK hH hk0 (hts _ wd_24) dX7_of_126 ?_
        have k37 : gkd K (a + 19) = 1 := congrArg Prod.fst (hH.sub k4 8 (t := (9, 1, 0)) rfl)
        refine e_4_8 hx hb hts hown hK hH k4 (hts _ wd_533) dX7_of_129 ?_
        refine lv_iload_n hx hb dX7_of_132 rfl (lv_at hl 2 rfl) ?_
        obtain ⟨v38, h39, hf⟩ := gbind hf
        refine g_Vi (As := [.int p0]) (rest := []) ⟨hx, hb, hml, hown, hts⟩ (c0_timesOn l w K g S (a + 19) p0 v38 h39 k37) (gcwV hts i0_timesOn wd_573 rfl rfl ⟨Nat.le_of_ble_eq_true rfl, Nat.le_of_ble_eq_true rfl⟩) (gRecv.of hK rfl (hH.o1 k37)) hH hK hS hl.1 rfl rfl (Nat.le_of_ble_eq_true rfl) dX7_of_133 ⟨Nat.le_refl _, Nat.le_refl _⟩ (fun H locs hH hS => ?_)
        have ho := Option.some.inj hf
        exact W.iret (v := v38) hx hb hr (fun t ht hW => ⟨⟨v38, (), rfl, ho, hrE ht hH⟩, hS.F ht⟩) hS.2.2 dX7_of_136
      have hf := hg.2 c36
      have hg := gif hf
      by_cases c40 : p1 = 6
      · have hf := hg.1 c40
        refine lv_tableIn (off := 115) (tgt := 137) hx hb dX7_of_22 (by rw [c40]; decide) (by rw [c40]; decide) (by rw [c40]; decide +kernel) (by decide) ?_
        refine lv_aload_n hx hb dX7_of_137 rfl (lv_at hl 0 rfl) ?_
        refine lv_ifnonnull (tgt := 145) hx hb dX7_of_138 (by decide) ?_
        refine lv_aload_n hx hb dX7_of_145 rfl (lv_at hl 0 rfl) ?_
        obtain ⟨k41, hf⟩ := gd_some hf
        have k41 := gk_obj k41
        refine e_1_3 hx hb hts hown hK hH k41 (hts _ wd_572) dX7_of_146 ?_
        have ho := Option.some.inj hf
        exact W.iret (v := (gI g t8 3)) hx hb hr (fun t ht hW => ⟨⟨(gI g t8 3), (), rfl, ho, hrE ht hH⟩, hS.F ht⟩) hS.2.2 dX7_of_149
      have hf := hg.2 c40
      have nc24 : p1.toInt ≠ 0 := g_ne c24 (by decide)
      have nc26 : p1.toInt ≠ 1 := g_ne c26 (by decide)
      have nc28 : p1.toInt ≠ 2 := g_ne c28 (by decide)
      have nc30 : p1.toInt ≠ 3 := g_ne c30 (by decide)
      have nc33 : p1.toInt ≠ 4 := g_ne c33 (by decide)
      have nc36 : p1.toInt ≠ 5 := g_ne c36 (by decide)
      have nc40 : p1.toInt ≠ 6 := g_ne c40 (by decide)
      refine lv_tableOut (tgt := 150) hx hb dX7_of_22 (by omega) (by decide) ?_
      refine lv_bipush (v := (-2)) hx hb dX7_of_150 (by decide) ?_
      have ho := Option.some.inj hf
      exact W.iret (v := (-2)) hx hb hr (fun t ht hW => ⟨⟨(-2), (), rfl, ho, hrE ht hH⟩, hS.F ht⟩) hS.2.2 dX7_of_152
  · have hf := hg.1 c3
    refine lv_iconst (v := (-1)) hx hb dX7_of_9 (by decide) ?_
    have ho := Option.some.inj hf
    exact W.iret (v := (-1)) hx hb hr (fun t ht hW => ⟨⟨(-1), (), rfl, ho, hrE ht hH⟩, hS.F ht⟩) hS.2.2 dX7_of_10
set_option maxRecDepth 100000 in
set_option maxHeartbeats 8000000 in
theorem c7_pick (l : Launch) (w : GW) (K : GK) (g : GM) (S : GS) (a : Nat) (p0 : Int32) (out : Int32) (hf : f7_pick K g a p0 = some out) (hk0 : gkd K a = 8) : Met l yX7_pick (wA yX7_pick cX7_pick 2 (some .int)) ({ frames := 1, cells := 0, slots := 0, locals := 21 } : Room) (PRE w K g S [.ref a, .int p0]) (QI w K g S out) 0 0 (FR w) := by
  unfold f7_pick at hf
  refine Met.ofW (cc := cX7_pick) (maxL := 2) (ret := (some .int)) (by decide) rfl ?_
  intro p e s m args below meth c s₁ B hml hv
  obtain ⟨rfl, hH, hK⟩ := hv
  have hx := B.exec
  have hb := B.bytes
  have hr := B.returns
  have hts : ∀ q ∈ gALL, q.before _ s = true := fun q h => atoms_spec (ws := (wA yX7_pick cX7_pick 2 (some .int))) B.pre q (List.mem_cons_of_mem _ h)
  have hown : s.vm.findClass RX7 = some m.cls := findClass_of_methodNamed B.named
  have hlocks := B.notSynchronized
  have hS : va_S (FR w) s.heap s.heap [] := va_S.rf
  show W p l e ({ frames := 1, cells := 0, slots := 0, locals := 21 } : Room) s m _ below meth c s.heap [] 0 0 (MQ below (QI w K g S out) _ s 0 0 (FR w)) _
  have hl := lv_entry ([.ref a, .int p0]) (n := 2) (Nat.le_of_ble_eq_true rfl)
  rw [lg_entry_eq]
  generalize (lg_sl ([.ref a, .int p0]) ++ List.replicate (2 - (lg_sl ([.ref a, .int p0])).length) Slot.unset).toArray = ls at hl ⊢
  clear B
  generalize ([.ref a, .int p0] : List Value).toArray = args at hts ⊢
  have hl : lv_has ls 2 [(0, .ref a), (1, .int p0)] := hl
  refine lv_iload_n hx hb dX7_pick_0 rfl (lv_at hl 1 rfl) ?_
  refine lv_aload_n hx hb dX7_pick_1 rfl (lv_at hl 0 rfl) ?_
  have k1 : gkd K (a + 10) = 5 := congrArg Prod.fst (hH.sub hk0 2 (t := (10, 5, 0)) rfl)
  refine e_7_2 hx hb hts hown hK hH hk0 (hts _ wd_24) dX7_pick_2 ?_
  refine e_4_9 hx hb hts hown hK hH k1 (hts _ wd_560) dX7_pick_5 ?_
  obtain ⟨v2, h3, hf⟩ := gbind hf
  refine g_Si (As := [.int p0, .int (gI g (a + 10) 9)]) (rest := []) ⟨hx, hb, hml, hown, hts⟩ (c7_inRange l w K g S p0 (gI g (a + 10) 9) v2 h3) (gcwS hts i7_inRange wd_118 rfl rfl ⟨Nat.le_of_ble_eq_true rfl, Nat.le_of_ble_eq_true rfl⟩) hH hK hS hl.1 rfl rfl (Nat.le_of_ble_eq_true rfl) dX7_pick_8 ⟨Nat.le_refl _, Nat.le_refl _⟩ (fun H locs hH hS => ?_)
  have hg := gif hf
  refine lv_if_ne (tgt := 16) hx hb dX7_pick_11 (by decide) (fun c4 => ?_) (fun c4 => ?_)
  · have hf := hg.2 c4
    refine lv_aload_n hx hb dX7_pick_16 rfl (lv_at hl 0 rfl) ?_
    refine e_7_2 hx hb hts hown hK hH hk0 (hts _ wd_24) dX7_pick_17 ?_
    have k5 : K.1 (a + 18) = (12, 400) := hH.sub k1 7 (t := (8, 12, 400)) rfl
    refine e_4_7 hx hb hts hown hK hH k1 (hts _ wd_636) dX7_pick_20 ?_
    refine lv_iload_n hx hb dX7_pick_23 rfl (lv_at hl 1 rfl) ?_
    obtain ⟨h7, hf⟩ := gd_some hf
    refine g_bald hx hb hK hH k5 h7 dX7_pick_24 ?_
    have ho := Option.some.inj hf
    exact W.iret (v := (gI g (a + 18) p0.toNatClampNeg)) hx hb hr (fun t ht hW => ⟨⟨(gI g (a + 18) p0.toNatClampNeg), (), rfl, ho, hrE ht hH⟩, hS.F ht⟩) hS.2.2 dX7_pick_25
  · have hf := hg.1 c4
    refine lv_iconst (v := (-1)) hx hb dX7_pick_14 (by decide) ?_
    have ho := Option.some.inj hf
    exact W.iret (v := (-1)) hx hb hr (fun t ht hW => ⟨⟨(-1), (), rfl, ho, hrE ht hH⟩, hS.F ht⟩) hS.2.2 dX7_pick_15
set_option maxRecDepth 100000 in
set_option maxHeartbeats 8000000 in
theorem c7_picks (l : Launch) (w : GW) (K : GK) (g : GM) (S : GS) (a : Nat) (p0 : Int32) (p1 : Int32) (out : GM × Int32) (hf : f7_picks K g a p0 p1 = some out) (hk0 : gkd K a = 8) : Met l yX7_picks (wA yX7_picks cX7_picks 4 (some .int)) ({ frames := 12, cells := 0, slots := 0, locals := 443 } : Room) (PRE w K g S [.ref a, .int p0, .int p1]) (QI w K out.1 S out.2) 0 0 (FR w) := by
  unfold f7_picks at hf
  refine Met.ofW (cc := cX7_picks) (maxL := 4) (ret := (some .int)) (by decide) rfl ?_
  intro p e s m args below meth c s₁ B hml hv
  obtain ⟨rfl, hH, hK⟩ := hv
  have hx := B.exec
  have hb := B.bytes
  have hr := B.returns
  have hts : ∀ q ∈ gALL, q.before _ s = true := fun q h => atoms_spec (ws := (wA yX7_picks cX7_picks 4 (some .int))) B.pre q (List.mem_cons_of_mem _ h)
  have hown : s.vm.findClass RX7 = some m.cls := findClass_of_methodNamed B.named
  have hlocks := B.notSynchronized
  have hS : va_S (FR w) s.heap s.heap [] := va_S.rf
  show W p l e ({ frames := 12, cells := 0, slots := 0, locals := 443 } : Room) s m _ below meth c s.heap [] 0 0 (MQ below (QI w K out.1 S out.2) _ s 0 0 (FR w)) _
  have hl := lv_entry ([.ref a, .int p0, .int p1]) (n := 4) (Nat.le_of_ble_eq_true rfl)
  rw [lg_entry_eq]
  generalize (lg_sl ([.ref a, .int p0, .int p1]) ++ List.replicate (4 - (lg_sl ([.ref a, .int p0, .int p1])).length) Slot.unset).toArray = ls at hl ⊢
  clear B
  generalize ([.ref a, .int p0, .int p1] : List Value).toArray = args at hts ⊢
  have B29 : ∀ (g : GM) (H : Heap) (locs : List Loc) (ls : Array Slot), HR w K g S H → va_S (FR w) s.heap H locs → lv_has ls 4 [(0, .ref a), (1, .int p0), (2, .int p1)] → f7_picks_29 K a p0 p1 g = some out → W p l e ({ frames := 12, cells := 0, slots := 0, locals := 443 } : Room) s m args below meth c H locs 0 0 (MQ below (QI w K out.1 S out.2) args s 0 0 (FR w)) (F0 m 29 ls []) := by
    intro  g H locs ls hH hS hl hf
    unfold f7_picks_29 at hf
    refine lv_aload_n hx hb dX7_picks_29 rfl (lv_at hl 0 rfl) ?_
    have k1 : gkd K (a + 10) = 5 := congrArg Prod.fst (hH.sub hk0 2 (t := (10, 5, 0)) rfl)
    refine e_7_2 hx hb hts hown hK hH hk0 (hts _ wd_24) dX7_picks_30 ?_
    have k2 : K.1 (a + 11) = (13, 10) := hH.sub k1 0 (t := (1, 13, 10)) rfl
    refine e_4_0 hx hb hts hown hK hH k1 (hts _ wd_178) dX7_picks_33 ?_
    refine lv_iload_n hx hb dX7_picks_36 rfl (lv_at hl 1 rfl) ?_
    obtain ⟨v3, h4, hf⟩ := gbind hf
    refine g_Si (As := [.ref (a + 11), .int p0]) (rest := []) ⟨hx, hb, hml, hown, hts⟩ (c2_troubleOf l w K g S (a + 11) p0 v3 h4) (gcwS hts i2_troubleOf wd_729 rfl rfl ⟨Nat.le_of_ble_eq_true rfl, Nat.le_of_ble_eq_true rfl⟩) hH hK hS hl.1 rfl rfl (Nat.le_of_ble_eq_true rfl) dX7_picks_37 ⟨Nat.le_refl _, Nat.le_refl _⟩ (fun H locs hH hS => ?_)
    refine lv_istore_n (lv' := [(3, .int v3), (0, .ref a), (1, .int p0), (2, .int p1)]) hx hb dX7_picks_40 rfl hl (by decide) rfl (fun ls hl => ?_)
    refine lv_iload_n hx hb dX7_picks_41 rfl (lv_at hl 0 rfl) ?_
    have hg := gif hf
    refine lv_if_eq (tgt := 49) hx hb dX7_picks_42 (by decide) (fun c5 => ?_) (fun c5 => ?_)
    · have hf := hg.1 c5
      refine lv_aload_n hx hb dX7_picks_49 rfl (lv_at hl 1 rfl) ?_
      have k6 : gkd K (a + 141) = 3 := congrArg Prod.fst (hH.sub hk0 6 (t := (141, 3, 0)) rfl)
      refine e_7_6 hx hb hts hown hK hH hk0 (hts _ wd_34) dX7_picks_50 ?_
      refine lv_aload_n hx hb dX7_picks_53 rfl (lv_at hl 1 rfl) ?_
      refine e_7_2 hx hb hts hown hK hH hk0 (hts _ wd_24) dX7_picks_54 ?_
      refine e_4_0 hx hb hts hown hK hH k1 (hts _ wd_178) dX7_picks_57 ?_
      refine lv_iload_n hx hb dX7_picks_60 rfl (lv_at hl 2 rfl) ?_
      refine lv_iload_n hx hb dX7_picks_61 rfl (lv_at hl 3 rfl) ?_
      obtain ⟨r7, h8, hf⟩ := gbind hf
      refine g_Vi (As := [.ref (a + 11), .int p0, .int p1]) (rest := []) ⟨hx, hb, hml, hown, hts⟩ (c2_picksOf l w K g S (a + 141) (a + 11) p0 p1 r7 h8 k6) (gcwV hts i2_picksOf wd_736 rfl rfl ⟨Nat.le_of_ble_eq_true rfl, Nat.le_of_ble_eq_true rfl⟩) (gRecv.of hK rfl (hH.o3 k6)) hH hK hS hl.1 rfl rfl (Nat.le_of_ble_eq_true rfl) dX7_picks_62 ⟨Nat.le_refl _, Nat.le_refl _⟩ (fun H locs hH hS => ?_)
      have ho := Option.some.inj hf
      exact W.iret (v := r7.2) hx hb hr (fun t ht hW => ⟨⟨r7.2, (), rfl, congrArg Prod.snd ho, hrP ht ho hH⟩, hS.F ht⟩) hS.2.2 dX7_picks_65
    · have hf := hg.2 c5
      refine lv_iload_n hx hb dX7_picks_45 rfl (lv_at hl 0 rfl) ?_
      refine lv_goto (tgt := 65) hx hb dX7_picks_46 (by decide) ?_
      have ho := Option.some.inj hf
      exact W.iret (v := v3) hx hb hr (fun t ht hW => ⟨⟨v3, (), rfl, congrArg Prod.snd ho, hrP ht ho hH⟩, hS.F ht⟩) hS.2.2 dX7_picks_65
  have hl : lv_has ls 4 [(0, .ref a), (1, .int p0), (2, .int p1)] := hl
  refine lv_iload_n hx hb dX7_picks_0 rfl (lv_at hl 1 rfl) ?_
  refine lv_bipush (v := 10) hx hb dX7_picks_1 (by decide) ?_
  obtain ⟨v9, h10, hf⟩ := gbind hf
  refine g_Si (As := [.int p0, .int 10]) (rest := []) ⟨hx, hb, hml, hown, hts⟩ (c7_inRange l w K g S p0 10 v9 h10) (gcwS hts i7_inRange wd_118 rfl rfl ⟨Nat.le_of_ble_eq_true rfl, Nat.le_of_ble_eq_true rfl⟩) hH hK hS hl.1 rfl rfl (Nat.le_of_ble_eq_true rfl) dX7_picks_3 ⟨Nat.le_refl _, Nat.le_refl _⟩ (fun H locs hH hS => ?_)
  have hg := gif hf
  refine lv_if_ne (tgt := 11) hx hb dX7_picks_6 (by decide) (fun c11 => ?_) (fun c11 => ?_)
  · have hf := hg.2 c11
    refine lv_iload_n hx hb dX7_picks_11 rfl (lv_at hl 2 rfl) ?_
    refine lv_bipush (v := (-6)) hx hb dX7_picks_12 (by decide) ?_
    have hg := gif hf
    refine lv_icmp_eq (tgt := 29) hx hb dX7_picks_14 (by decide) (fun c12 => ?_) (fun c12 => ?_)
    · have hf := hg.1 c12
      exact B29 _ _ _ _ hH hS (lv_sub hl [0, 1, 2] rfl) hf
    · have hf := hg.2 c12
      refine lv_iload_n hx hb dX7_picks_17 rfl (lv_at hl 2 rfl) ?_
      refine lv_bipush (v := 6) hx hb dX7_picks_18 (by decide) ?_
      obtain ⟨v13, h14, hf⟩ := gbind hf
      refine g_Si (As := [.int p1, .int 6]) (rest := []) ⟨hx, hb, hml, hown, hts⟩ (c7_inRange l w K g S p1 6 v13 h14) (gcwS hts i7_inRange wd_118 rfl rfl ⟨Nat.le_of_ble_eq_true rfl, Nat.le_of_ble_eq_true rfl⟩) hH hK hS hl.1 rfl rfl (Nat.le_of_ble_eq_true rfl) dX7_picks_20 ⟨Nat.le_refl _, Nat.le_refl _⟩ (fun H locs hH hS => ?_)
      have hg := gif hf
      refine lv_if_ne (tgt := 29) hx hb dX7_picks_23 (by decide) (fun c15 => ?_) (fun c15 => ?_)
      · have hf := hg.2 c15
        exact B29 _ _ _ _ hH hS (lv_sub hl [0, 1, 2] rfl) hf
      · have hf := hg.1 c15
        refine lv_bipush (v := (-2)) hx hb dX7_picks_26 (by decide) ?_
        have ho := Option.some.inj hf
        exact W.iret (v := (-2)) hx hb hr (fun t ht hW => ⟨⟨(-2), (), rfl, congrArg Prod.snd ho, hrP ht ho hH⟩, hS.F ht⟩) hS.2.2 dX7_picks_28
  · have hf := hg.1 c11
    refine lv_iconst (v := (-1)) hx hb dX7_picks_9 (by decide) ?_
    have ho := Option.some.inj hf
    exact W.iret (v := (-1)) hx hb hr (fun t ht hW => ⟨⟨(-1), (), rfl, congrArg Prod.snd ho, hrP ht ho hH⟩, hS.F ht⟩) hS.2.2 dX7_picks_10
set_option maxRecDepth 100000 in
set_option maxHeartbeats 8000000 in
theorem c7_put (l : Launch) (w : GW) (K : GK) (g : GM) (S : GS) (a : Nat) (p0 : Int64) (out : GM × Int32) (hf : f7_put K g a p0 = some out) (hk0 : gkd K a = 8) : Met l yX7_put (wA yX7_put cX7_put 4 (some .int)) ({ frames := 1, cells := 0, slots := 0, locals := 26 } : Room) (PRE w K g S [.ref a, .long p0]) (QI w K out.1 S out.2) 0 0 (FR w) := by
  unfold f7_put at hf
  refine Met.ofW (cc := cX7_put) (maxL := 4) (ret := (some .int)) (by decide) rfl ?_
  intro p e s m args below meth c s₁ B hml hv
  obtain ⟨rfl, hH, hK⟩ := hv
  have hx := B.exec
  have hb := B.bytes
  have hr := B.returns
  have hts : ∀ q ∈ gALL, q.before _ s = true := fun q h => atoms_spec (ws := (wA yX7_put cX7_put 4 (some .int))) B.pre q (List.mem_cons_of_mem _ h)
  have hown : s.vm.findClass RX7 = some m.cls := findClass_of_methodNamed B.named
  have hlocks := B.notSynchronized
  have hS : va_S (FR w) s.heap s.heap [] := va_S.rf
  show W p l e ({ frames := 1, cells := 0, slots := 0, locals := 26 } : Room) s m _ below meth c s.heap [] 0 0 (MQ below (QI w K out.1 S out.2) _ s 0 0 (FR w)) _
  have hl := lv_entry ([.ref a, .long p0]) (n := 4) (Nat.le_of_ble_eq_true rfl)
  rw [lg_entry_eq]
  generalize (lg_sl ([.ref a, .long p0]) ++ List.replicate (4 - (lg_sl ([.ref a, .long p0])).length) Slot.unset).toArray = ls at hl ⊢
  clear B
  generalize ([.ref a, .long p0] : List Value).toArray = args at hts ⊢
  have hl : lv_has ls 4 [(0, .ref a), (1, .long p0)] := hl
  refine lv_lload_n hx hb dX7_put_0 rfl (lv_at hl 1 rfl) ?_
  obtain ⟨v1, h2, hf⟩ := gbind hf
  refine g_Si (As := [.long p0]) (rest := []) ⟨hx, hb, hml, hown, hts⟩ (c5_charactersIn l w K g S p0 v1 h2) (gcwS hts i5_charactersIn wd_873 rfl rfl ⟨Nat.le_of_ble_eq_true rfl, Nat.le_of_ble_eq_true rfl⟩) hH hK hS hl.1 rfl rfl (Nat.le_of_ble_eq_true rfl) dX7_put_1 ⟨Nat.le_refl _, Nat.le_refl _⟩ (fun H locs hH hS => ?_)
  refine lv_istore_n (lv' := [(3, .int v1), (0, .ref a), (1, .long p0)]) hx hb dX7_put_4 rfl hl (by decide) rfl (fun ls hl => ?_)
  refine lv_iload_n hx hb dX7_put_5 rfl (lv_at hl 0 rfl) ?_
  have hg := gif hf
  refine lv_if_ne (tgt := 12) hx hb dX7_put_6 (by decide) (fun c3 => ?_) (fun c3 => ?_)
  · have hf := hg.2 c3
    refine lv_iload_n hx hb dX7_put_12 rfl (lv_at hl 0 rfl) ?_
    refine lv_bipush (v := 80) hx hb dX7_put_13 (by decide) ?_
    refine lv_aload_n hx hb dX7_put_15 rfl (lv_at hl 1 rfl) ?_
    have k4 : gkd K (a + 1) = 6 := congrArg Prod.fst (hH.sub hk0 0 (t := (1, 6, 0)) rfl)
    refine e_7_0 hx hb hts hown hK hH hk0 (hts _ wd_16) dX7_put_16 ?_
    refine e_5_1 hx hb hts hown hK hH k4 (hts _ wd_179) dX7_put_19 ?_
    refine lv_isub hx hb dX7_put_22 ?_
    have hg := gif hf
    refine lv_icmp_le (tgt := 29) hx hb dX7_put_23 (by decide) (fun c5 => ?_) (fun c5 => ?_)
    · have hf := hg.1 c5
      refine lv_aload_n hx hb dX7_put_29 rfl (lv_at hl 1 rfl) ?_
      refine e_7_0 hx hb hts hown hK hH hk0 (hts _ wd_16) dX7_put_30 ?_
      refine lv_lload_n hx hb dX7_put_33 rfl (lv_at hl 2 rfl) ?_
      refine lv_iload_n hx hb dX7_put_34 rfl (lv_at hl 0 rfl) ?_
      obtain ⟨g6, h7, hf⟩ := gbind hf
      refine g_Vv (As := [.long p0, .int v1]) (rest := []) ⟨hx, hb, hml, hown, hts⟩ (c5_append l w K g S (a + 1) p0 v1 g6 h7 k4) (gcwV hts i5_append wd_877 rfl rfl ⟨Nat.le_of_ble_eq_true rfl, Nat.le_of_ble_eq_true rfl⟩) (gRecv.of hK rfl (hH.o6 k4)) hH hK hS hl.1 rfl rfl (Nat.le_of_ble_eq_true rfl) dX7_put_35 ⟨Nat.le_refl _, Nat.le_refl _⟩ (fun H locs hH hS => ?_)
      refine lv_aload_n hx hb dX7_put_38 rfl (lv_at hl 1 rfl) ?_
      refine e_7_0 hx hb hts hown hK hH hk0 (hts _ wd_16) dX7_put_39 ?_
      refine e_5_1 hx hb hts hown hK hH k4 (hts _ wd_179) dX7_put_42 ?_
      have ho := Option.some.inj hf
      exact W.iret (v := (gI g6 (a + 1) 1)) hx hb hr (fun t ht hW => ⟨⟨(gI g6 (a + 1) 1), (), rfl, congrArg Prod.snd ho, hrP ht ho hH⟩, hS.F ht⟩) hS.2.2 dX7_put_45
    · have hf := hg.2 c5
      refine lv_bipush (v := (-4)) hx hb dX7_put_26 (by decide) ?_
      have ho := Option.some.inj hf
      exact W.iret (v := (-4)) hx hb hr (fun t ht hW => ⟨⟨(-4), (), rfl, congrArg Prod.snd ho, hrP ht ho hH⟩, hS.F ht⟩) hS.2.2 dX7_put_28
  · have hf := hg.1 c3
    refine lv_bipush (v := (-2)) hx hb dX7_put_9 (by decide) ?_
    have ho := Option.some.inj hf
    exact W.iret (v := (-2)) hx hb hr (fun t ht hW => ⟨⟨(-2), (), rfl, congrArg Prod.snd ho, hrP ht ho hH⟩, hS.F ht⟩) hS.2.2 dX7_put_11
set_option maxRecDepth 100000 in
set_option maxHeartbeats 8000000 in
theorem c7_reaches (l : Launch) (w : GW) (K : GK) (g : GM) (S : GS) (a : Nat) (p0 : Int32) (out : Int32) (hf : f7_reaches K g a p0 = some out) (hk0 : gkd K a = 8) : Met l yX7_reaches (wA yX7_reaches cX7_reaches 2 (some .int)) ({ frames := 2, cells := 0, slots := 0, locals := 45 } : Room) (PRE w K g S [.ref a, .int p0]) (QI w K g S out) 0 0 (FR w) := by
  unfold f7_reaches at hf
  refine Met.ofW (cc := cX7_reaches) (maxL := 2) (ret := (some .int)) (by decide) rfl ?_
  intro p e s m args below meth c s₁ B hml hv
  obtain ⟨rfl, hH, hK⟩ := hv
  have hx := B.exec
  have hb := B.bytes
  have hr := B.returns
  have hts : ∀ q ∈ gALL, q.before _ s = true := fun q h => atoms_spec (ws := (wA yX7_reaches cX7_reaches 2 (some .int))) B.pre q (List.mem_cons_of_mem _ h)
  have hown : s.vm.findClass RX7 = some m.cls := findClass_of_methodNamed B.named
  have hlocks := B.notSynchronized
  have hS : va_S (FR w) s.heap s.heap [] := va_S.rf
  show W p l e ({ frames := 2, cells := 0, slots := 0, locals := 45 } : Room) s m _ below meth c s.heap [] 0 0 (MQ below (QI w K g S out) _ s 0 0 (FR w)) _
  have hl := lv_entry ([.ref a, .int p0]) (n := 2) (Nat.le_of_ble_eq_true rfl)
  rw [lg_entry_eq]
  generalize (lg_sl ([.ref a, .int p0]) ++ List.replicate (2 - (lg_sl ([.ref a, .int p0])).length) Slot.unset).toArray = ls at hl ⊢
  clear B
  generalize ([.ref a, .int p0] : List Value).toArray = args at hts ⊢
  have hl : lv_has ls 2 [(0, .ref a), (1, .int p0)] := hl
  refine lv_iload_n hx hb dX7_reaches_0 rfl (lv_at hl 1 rfl) ?_
  refine lv_bipush (v := 10) hx hb dX7_reaches_1 (by decide) ?_
  obtain ⟨v1, h2, hf⟩ := gbind hf
  refine g_Si (As := [.int p0, .int 10]) (rest := []) ⟨hx, hb, hml, hown, hts⟩ (c7_inRange l w K g S p0 10 v1 h2) (gcwS hts i7_inRange wd_118 rfl rfl ⟨Nat.le_of_ble_eq_true rfl, Nat.le_of_ble_eq_true rfl⟩) hH hK hS hl.1 rfl rfl (Nat.le_of_ble_eq_true rfl) dX7_reaches_3 ⟨Nat.le_refl _, Nat.le_refl _⟩ (fun H locs hH hS => ?_)
  have hg := gif hf
  refine lv_if_eq (tgt := 23) hx hb dX7_reaches_6 (by decide) (fun c3 => ?_) (fun c3 => ?_)
  · have hf := hg.1 c3
    refine lv_iconst (v := (-1)) hx hb dX7_reaches_23 (by decide) ?_
    have ho := Option.some.inj hf
    exact W.iret (v := (-1)) hx hb hr (fun t ht hW => ⟨⟨(-1), (), rfl, ho, hrE ht hH⟩, hS.F ht⟩) hS.2.2 dX7_reaches_24
  · have hf := hg.2 c3
    refine lv_aload_n hx hb dX7_reaches_9 rfl (lv_at hl 0 rfl) ?_
    have k4 : gkd K (a + 10) = 5 := congrArg Prod.fst (hH.sub hk0 2 (t := (10, 5, 0)) rfl)
    refine e_7_2 hx hb hts hown hK hH hk0 (hts _ wd_24) dX7_reaches_10 ?_
    have k5 : K.1 (a + 11) = (13, 10) := hH.sub k4 0 (t := (1, 13, 10)) rfl
    refine e_4_0 hx hb hts hown hK hH k4 (hts _ wd_178) dX7_reaches_13 ?_
    refine lv_iload_n hx hb dX7_reaches_16 rfl (lv_at hl 1 rfl) ?_
    obtain ⟨v6, h7, hf⟩ := gbind hf
    refine g_Si (As := [.ref (a + 11), .int p0]) (rest := []) ⟨hx, hb, hml, hown, hts⟩ (c2_reachedFrom l w K g S (a + 11) p0 v6 h7) (gcwS hts i2_reachedFrom wd_835 rfl rfl ⟨Nat.le_of_ble_eq_true rfl, Nat.le_of_ble_eq_true rfl⟩) hH hK hS hl.1 rfl rfl (Nat.le_of_ble_eq_true rfl) dX7_reaches_17 ⟨Nat.le_refl _, Nat.le_refl _⟩ (fun H locs hH hS => ?_)
    refine lv_goto (tgt := 24) hx hb dX7_reaches_20 (by decide) ?_
    have ho := Option.some.inj hf
    exact W.iret (v := v6) hx hb hr (fun t ht hW => ⟨⟨v6, (), rfl, ho, hrE ht hH⟩, hS.F ht⟩) hS.2.2 dX7_reaches_24
set_option maxRecDepth 100000 in
set_option maxHeartbeats 8000000 in
theorem c7_restore (l : Launch) (w : GW) (K : GK) (g : GM) (S : GS) (a : Nat) (p0 : Int32) (out : GM × Int32) (hf : f7_restore K g a p0 = some out) (hk0 : gkd K a = 8) : Met l yX7_restore (wA yX7_restore cX7_restore 2 (some .int)) ({ frames := 5, cells := 0, slots := 0, locals := 144 } : Room) (PRE w K g S [.ref a, .int p0]) (QI w K out.1 S out.2) 0 0 (FR w) := by
  unfold f7_restore at hf
  refine Met.ofW (cc := cX7_restore) (maxL := 2) (ret := (some .int)) (by decide) rfl ?_
  intro p e s m args below meth c s₁ B hml hv
  obtain ⟨rfl, hH, hK⟩ := hv
  have hx := B.exec
  have hb := B.bytes
  have hr := B.returns
  have hts : ∀ q ∈ gALL, q.before _ s = true := fun q h => atoms_spec (ws := (wA yX7_restore cX7_restore 2 (some .int))) B.pre q (List.mem_cons_of_mem _ h)
  have hown : s.vm.findClass RX7 = some m.cls := findClass_of_methodNamed B.named
  have hlocks := B.notSynchronized
  have hS : va_S (FR w) s.heap s.heap [] := va_S.rf
  show W p l e ({ frames := 5, cells := 0, slots := 0, locals := 144 } : Room) s m _ below meth c s.heap [] 0 0 (MQ below (QI w K out.1 S out.2) _ s 0 0 (FR w)) _
  have hl := lv_entry ([.ref a, .int p0]) (n := 2) (Nat.le_of_ble_eq_true rfl)
  rw [lg_entry_eq]
  generalize (lg_sl ([.ref a, .int p0]) ++ List.replicate (2 - (lg_sl ([.ref a, .int p0])).length) Slot.unset).toArray = ls at hl ⊢
  clear B
  generalize ([.ref a, .int p0] : List Value).toArray = args at hts ⊢
  have hl : lv_has ls 2 [(0, .ref a), (1, .int p0)] := hl
  refine lv_iload_n hx hb dX7_restore_0 rfl (lv_at hl 1 rfl) ?_
  refine lv_iconst (v := 2) hx hb dX7_restore_1 (by decide) ?_
  obtain ⟨v1, h2, hf⟩ := gbind hf
  refine g_Si (As := [.int p0, .int 2]) (rest := []) ⟨hx, hb, hml, hown, hts⟩ (c7_inRange l w K g S p0 2 v1 h2) (gcwS hts i7_inRange wd_118 rfl rfl ⟨Nat.le_of_ble_eq_true rfl, Nat.le_of_ble_eq_true rfl⟩) hH hK hS hl.1 rfl rfl (Nat.le_of_ble_eq_true rfl) dX7_restore_2 ⟨Nat.le_refl _, Nat.le_refl _⟩ (fun H locs hH hS => ?_)
  have hg := gif hf
  refine lv_if_ne (tgt := 11) hx hb dX7_restore_5 (by decide) (fun c3 => ?_) (fun c3 => ?_)
  · have hf := hg.2 c3
    refine lv_aload_n hx hb dX7_restore_11 rfl (lv_at hl 0 rfl) ?_
    have k4 : K.1 (a + 140) = (14, 2) := hH.sub hk0 5 (t := (140, 14, 2)) rfl
    refine e_7_5 hx hb hts hown hK hH hk0 (hts _ wd_30) dX7_restore_12 ?_
    refine lv_iload_n hx hb dX7_restore_15 rfl (lv_at hl 1 rfl) ?_
    obtain ⟨h6, hf⟩ := gd_some hf
    refine g_lald hx hb hK hH k4 h6 dX7_restore_16 ?_
    rcases gopt_c hf with ⟨q8, hf⟩ | ⟨t7, q8, hf⟩
    · refine g_rfN q8 ?_
      refine lv_ifnonnullN hx hb dX7_restore_17 ?_
      refine lv_bipush (v := (-5)) hx hb dX7_restore_20 (by decide) ?_
      have ho := Option.some.inj hf
      exact W.iret (v := (-5)) hx hb hr (fun t ht hW => ⟨⟨(-5), (), rfl, congrArg Prod.snd ho, hrP ht ho hH⟩, hS.F ht⟩) hS.2.2 dX7_restore_22
    · refine g_rfS q8 ?_
      refine lv_ifnonnull (tgt := 23) hx hb dX7_restore_17 (by decide) ?_
      refine lv_aload_n hx hb dX7_restore_23 rfl (lv_at hl 0 rfl) ?_
      have k9 : gkd K (a + 42) = 4 := congrArg Prod.fst (hH.sub hk0 4 (t := (42, 4, 0)) rfl)
      refine e_7_4 hx hb hts hown hK hH hk0 (hts _ wd_29) dX7_restore_24 ?_
      refine lv_aload_n hx hb dX7_restore_27 rfl (lv_at hl 0 rfl) ?_
      have k10 : gkd K (a + 10) = 5 := congrArg Prod.fst (hH.sub hk0 2 (t := (10, 5, 0)) rfl)
      refine e_7_2 hx hb hts hown hK hH hk0 (hts _ wd_24) dX7_restore_28 ?_
      obtain ⟨g11, h12, hf⟩ := gbind hf
      refine g_Vv (As := [.ref (a + 10)]) (rest := []) ⟨hx, hb, hml, hown, hts⟩ (c3_keep l w K g S (a + 42) (a + 10) g11 h12 k9) (gcwV hts i3_keep wd_121 rfl rfl ⟨Nat.le_of_ble_eq_true rfl, Nat.le_of_ble_eq_true rfl⟩) (gRecv.of hK rfl (hH.o4 k9)) hH hK hS hl.1 rfl rfl (Nat.le_of_ble_eq_true rfl) dX7_restore_31 ⟨Nat.le_refl _, Nat.le_refl _⟩ (fun H locs hH hS => ?_)
      refine lv_aload_n hx hb dX7_restore_34 rfl (lv_at hl 0 rfl) ?_
      refine e_7_2 hx hb hts hown hK hH hk0 (hts _ wd_24) dX7_restore_35 ?_
      refine lv_aload_n hx hb dX7_restore_38 rfl (lv_at hl 0 rfl) ?_
      refine e_7_5 hx hb hts hown hK hH hk0 (hts _ wd_30) dX7_restore_39 ?_
      refine lv_iload_n hx hb dX7_restore_42 rfl (lv_at hl 1 rfl) ?_
      refine g_lald hx hb hK hH k4 h6 dX7_restore_43 ?_
      rcases gopt_c hf with ⟨q15, hf⟩ | ⟨t14, q15, hf⟩
      · cases hf
      · refine g_rfS q15 ?_
        obtain ⟨g16, h17, hf⟩ := gbind hf
        refine g_Vv (As := [.ref t14]) (rest := []) ⟨hx, hb, hml, hown, hts⟩ (c4_copyFrom l w K g11 S (a + 10) t14 g16 h17 k10) (gcwV hts i4_copyFrom wd_844 rfl rfl ⟨Nat.le_of_ble_eq_true rfl, Nat.le_of_ble_eq_true rfl⟩) (gRecv.of hK rfl (hH.o5 k10)) hH hK hS hl.1 rfl rfl (Nat.le_of_ble_eq_true rfl) dX7_restore_44 ⟨Nat.le_refl _, Nat.le_refl _⟩ (fun H locs hH hS => ?_)
        refine lv_aload_n hx hb dX7_restore_47 rfl (lv_at hl 0 rfl) ?_
        refine e_7_2 hx hb hts hown hK hH hk0 (hts _ wd_24) dX7_restore_48 ?_
        refine e_4_9 hx hb hts hown hK hH k10 (hts _ wd_560) dX7_restore_51 ?_
        have ho := Option.some.inj hf
        exact W.iret (v := (gI g16 (a + 10) 9)) hx hb hr (fun t ht hW => ⟨⟨(gI g16 (a + 10) 9), (), rfl, congrArg Prod.snd ho, hrP ht ho hH⟩, hS.F ht⟩) hS.2.2 dX7_restore_54
  · have hf := hg.1 c3
    refine lv_bipush (v := (-2)) hx hb dX7_restore_8 (by decide) ?_
    have ho := Option.some.inj hf
    exact W.iret (v := (-2)) hx hb hr (fun t ht hW => ⟨⟨(-2), (), rfl, congrArg Prod.snd ho, hrP ht ho hH⟩, hS.F ht⟩) hS.2.2 dX7_restore_10
set_option maxRecDepth 100000 in
set_option maxHeartbeats 8000000 in
theorem c7_save (l : Launch) (w : GW) (K : GK) (g : GM) (S : GS) (a : Nat) (p0 : Int32) (out : GK × GM × Int32) (hf : f7_save K g a p0 = some out) (hk0 : gkd K a = 8) : Met l yX7_save (wA yX7_save cX7_save 2 (some .int)) ({ frames := 4, cells := 16, slots := 575, locals := 123 } : Room) (PRE w K g S [.ref a, .int p0]) (QI w out.1 out.2.1 S out.2.2) 16 575 (FR w) := by
  unfold f7_save at hf
  refine Met.ofW (cc := cX7_save) (maxL := 2) (ret := (some .int)) (by decide) rfl ?_
  intro p e s m args below meth c s₁ B hml hv
  obtain ⟨rfl, hH, hK⟩ := hv
  have hx := B.exec
  have hb := B.bytes
  have hr := B.returns
  have hts : ∀ q ∈ gALL, q.before _ s = true := fun q h => atoms_spec (ws := (wA yX7_save cX7_save 2 (some .int))) B.pre q (List.mem_cons_of_mem _ h)
  have hown : s.vm.findClass RX7 = some m.cls := findClass_of_methodNamed B.named
  have hlocks := B.notSynchronized
  have hS : va_S (FR w) s.heap s.heap [] := va_S.rf
  show W p l e ({ frames := 4, cells := 16, slots := 575, locals := 123 } : Room) s m _ below meth c s.heap [] 0 0 (MQ below (QI w out.1 out.2.1 S out.2.2) _ s 16 575 (FR w)) _
  have hl := lv_entry ([.ref a, .int p0]) (n := 2) (Nat.le_of_ble_eq_true rfl)
  rw [lg_entry_eq]
  generalize (lg_sl ([.ref a, .int p0]) ++ List.replicate (2 - (lg_sl ([.ref a, .int p0])).length) Slot.unset).toArray = ls at hl ⊢
  clear B
  generalize ([.ref a, .int p0] : List Value).toArray = args at hts ⊢
  have B33 : ∀ (K : GK) (g : GM) (H : Heap) (locs : List Loc) (ls : Array Slot), HR w K g S H → va_S (FR w) s.heap H locs → lv_has ls 2 [(0, .ref a), (1, .int p0)] → f7_save_33 a p0 K g = some out → W p l e ({ frames := 4, cells := 16, slots := 575, locals := 123 } : Room) s m args below meth c H locs 16 575 (MQ below (QI w out.1 out.2.1 S out.2.2) args s 16 575 (FR w)) (F0 m 33 ls []) := by
    intro  K g H locs ls hH hS hl hf
    unfold f7_save_33 at hf
    refine lv_aload_n hx hb dX7_save_33 rfl (lv_at hl 0 rfl) ?_
    obtain ⟨k1, hf⟩ := gd_some hf
    have k1 := gk_obj k1
    have k2 : K.1 (a + 140) = (14, 2) := hH.sub k1 5 (t := (140, 14, 2)) rfl
    refine e_7_5 hx hb hts hown hK hH k1 (hts _ wd_30) dX7_save_34 ?_
    refine lv_iload_n hx hb dX7_save_37 rfl (lv_at hl 1 rfl) ?_
    obtain ⟨h4, hf⟩ := gd_some hf
    refine g_lald hx hb hK hH k2 h4 dX7_save_38 ?_
    rcases gopt_c hf with ⟨q6, hf⟩ | ⟨t5, q6, hf⟩
    · cases hf
    · refine g_rfS q6 ?_
      refine lv_aload_n hx hb dX7_save_39 rfl (lv_at hl 0 rfl) ?_
      have k7 : gkd K (a + 10) = 5 := congrArg Prod.fst (hH.sub k1 2 (t := (10, 5, 0)) rfl)
      refine e_7_2 hx hb hts hown hK hH k1 (hts _ wd_24) dX7_save_40 ?_
      obtain ⟨k8, hf⟩ := gd_some hf
      have k8 := gk_obj k8
      obtain ⟨g9, h10, hf⟩ := gbind hf
      refine g_Vv (As := [.ref (a + 10)]) (rest := []) ⟨hx, hb, hml, hown, hts⟩ (c4_copyFrom l w K g S t5 (a + 10) g9 h10 k8) (gcwV hts i4_copyFrom wd_844 rfl rfl ⟨Nat.le_of_ble_eq_true rfl, Nat.le_of_ble_eq_true rfl⟩) (gRecv.of hK rfl (hH.o5 k8)) hH hK hS hl.1 rfl rfl (Nat.le_of_ble_eq_true rfl) dX7_save_43 ⟨Nat.le_of_ble_eq_true rfl, Nat.le_of_ble_eq_true rfl⟩ (fun H locs hH hS => ?_)
      refine lv_aload_n hx hb dX7_save_46 rfl (lv_at hl 0 rfl) ?_
      refine e_7_2 hx hb hts hown hK hH k1 (hts _ wd_24) dX7_save_47 ?_
      refine e_4_9 hx hb hts hown hK hH k7 (hts _ wd_560) dX7_save_50 ?_
      refine W.widen (k := 16) (n := 575) (Nat.le_of_ble_eq_true rfl) (Nat.le_of_ble_eq_true rfl) ?_
      have ho := Option.some.inj hf
      exact W.iret (v := (gI g9 (a + 10) 9)) hx hb hr (fun t ht hW => ⟨⟨(gI g9 (a + 10) 9), (), rfl, congrArg (fun q => q.2.2) ho, hrA ht ho hH⟩, hS.F ht⟩) hS.2.2 dX7_save_53
  have hl : lv_has ls 2 [(0, .ref a), (1, .int p0)] := hl
  refine lv_iload_n hx hb dX7_save_0 rfl (lv_at hl 1 rfl) ?_
  refine lv_iconst (v := 2) hx hb dX7_save_1 (by decide) ?_
  obtain ⟨v11, h12, hf⟩ := gbind hf
  refine g_Si (As := [.int p0, .int 2]) (rest := []) ⟨hx, hb, hml, hown, hts⟩ (c7_inRange l w K g S p0 2 v11 h12) (gcwS hts i7_inRange wd_118 rfl rfl ⟨Nat.le_of_ble_eq_true rfl, Nat.le_of_ble_eq_true rfl⟩) hH hK hS hl.1 rfl rfl (Nat.le_of_ble_eq_true rfl) dX7_save_2 ⟨Nat.le_of_ble_eq_true rfl, Nat.le_of_ble_eq_true rfl⟩ (fun H locs hH hS => ?_)
  have hg := gif hf
  refine lv_if_ne (tgt := 11) hx hb dX7_save_5 (by decide) (fun c13 => ?_) (fun c13 => ?_)
  · have hf := hg.2 c13
    refine lv_aload_n hx hb dX7_save_11 rfl (lv_at hl 0 rfl) ?_
    have k14 : K.1 (a + 140) = (14, 2) := hH.sub hk0 5 (t := (140, 14, 2)) rfl
    refine e_7_5 hx hb hts hown hK hH hk0 (hts _ wd_30) dX7_save_12 ?_
    refine lv_iload_n hx hb dX7_save_15 rfl (lv_at hl 1 rfl) ?_
    obtain ⟨h16, hf⟩ := gd_some hf
    refine g_lald hx hb hK hH k14 h16 dX7_save_16 ?_
    rcases gopt_c hf with ⟨q18, hf⟩ | ⟨t17, q18, hf⟩
    · refine g_rfN q18 ?_
      refine lv_ifnonnullN hx hb dX7_save_17 ?_
      refine lv_aload_n hx hb dX7_save_20 rfl (lv_at hl 0 rfl) ?_
      refine e_7_5 hx hb hts hown hK hH hk0 (hts _ wd_30) dX7_save_21 ?_
      refine lv_iload_n hx hb dX7_save_24 rfl (lv_at hl 1 rfl) ?_
      refine g_newLm (rest := [.int p0, .ref (a + 140)]) hx hb hml hown hts wd_21 wd_51 hK hH hS hl.1 (Nat.le_of_ble_eq_true rfl) dX7_save_25 dX7_save_28 dX7_save_29 ⟨Nat.le_of_ble_eq_true rfl, Nat.le_of_ble_eq_true rfl⟩ ⟨Nat.le_of_ble_eq_true rfl, Nat.le_of_ble_eq_true rfl⟩ (fun H locs hH hS => ?_)
      obtain ⟨r19, er19⟩ : ∃ z : GK × GM, z = fnLm K g := ⟨_, rfl⟩
      have hf := gl_at hf er19
      replace hH : HR w r19.1 r19.2 S H := by rw [er19]; exact hH
      obtain ⟨k21, hf⟩ := gd_some hf
      have k21 := gk_obj k21
      have k22 : r19.1.1 (a + 140) = (14, 2) := hH.sub k21 5 (t := (140, 14, 2)) rfl
      obtain ⟨k23, hf⟩ := gd_some hf
      have k23 := gk_obj k23
      obtain ⟨h24, hf⟩ := gd_some hf
      refine g_last hx hb hK hH hS k22 k23 h24 dX7_save_32 (fun H locs hH hS => ?_)
      obtain ⟨g25, eg25⟩ : ∃ z : GM, z = gsR r19.2 (a + 140) p0.toNatClampNeg (some K.2) := ⟨_, rfl⟩
      have hf := gl_at hf eg25
      replace hH : HR w r19.1 g25 S H := by rw [eg25]; exact hH
      refine W.widen (k := 16) (n := 575) (Nat.le_of_ble_eq_true rfl) (Nat.le_of_ble_eq_true rfl) ?_
      exact B33 _ _ _ _ _ hH hS (lv_sub hl [0, 1] rfl) hf
    · refine g_rfS q18 ?_
      refine lv_ifnonnull (tgt := 33) hx hb dX7_save_17 (by decide) ?_
      refine W.widen (k := 16) (n := 575) (Nat.le_of_ble_eq_true rfl) (Nat.le_of_ble_eq_true rfl) ?_
      exact B33 _ _ _ _ _ hH hS (lv_sub hl [0, 1] rfl) hf
  · have hf := hg.1 c13
    refine lv_bipush (v := (-2)) hx hb dX7_save_8 (by decide) ?_
    refine W.widen (k := 16) (n := 575) (Nat.le_of_ble_eq_true rfl) (Nat.le_of_ble_eq_true rfl) ?_
    have ho := Option.some.inj hf
    exact W.iret (v := (-2)) hx hb hr (fun t ht hW => ⟨⟨(-2), (), rfl, congrArg (fun q => q.2.2) ho, hrA ht ho hH⟩, hS.F ht⟩) hS.2.2 dX7_save_10
set_option maxRecDepth 100000 in
set_option maxHeartbeats 8000000 in
theorem c7_set (l : Launch) (w : GW) (K : GK) (g : GM) (S : GS) (a : Nat) (p0 : Int32) (p1 : Int32) (out : GM × Int32) (hf : f7_set K g a p0 p1 = some out) (hk0 : gkd K a = 8) : Met l yX7_set (wA yX7_set cX7_set 4 (some .int)) ({ frames := 5, cells := 0, slots := 0, locals := 144 } : Room) (PSET w K g S [.ref a, .int p0, .int p1]) (QI w K out.1 S out.2) 0 0 (FR w) := by
  unfold f7_set at hf
  refine Met.ofW (cc := cX7_set) (maxL := 4) (ret := (some .int)) (by decide) rfl ?_
  intro p e s m args below meth c s₁ B hml hv
  obtain ⟨rfl, hH, hK, t1_, t2_, hZ1, hT1, hZ2, hT2⟩ := hv
  have hx := B.exec
  have hb := B.bytes
  have hr := B.returns
  have hts : ∀ q ∈ gALL, q.before _ s = true := fun q h => atoms_spec (ws := (wA yX7_set cX7_set 4 (some .int))) B.pre q (List.mem_cons_of_mem _ h)
  have hown : s.vm.findClass RX7 = some m.cls := findClass_of_methodNamed B.named
  have hlocks := B.notSynchronized
  have hS : va_S (FR w) s.heap s.heap [] := va_S.rf
  show W p l e ({ frames := 5, cells := 0, slots := 0, locals := 144 } : Room) s m _ below meth c s.heap [] 0 0 (MQ below (QI w K out.1 S out.2) _ s 0 0 (FR w)) _
  have hl := lv_entry ([.ref a, .int p0, .int p1]) (n := 4) (Nat.le_of_ble_eq_true rfl)
  rw [lg_entry_eq]
  generalize (lg_sl ([.ref a, .int p0, .int p1]) ++ List.replicate (4 - (lg_sl ([.ref a, .int p0, .int p1])).length) Slot.unset).toArray = ls at hl ⊢
  clear B
  generalize ([.ref a, .int p0, .int p1] : List Value).toArray = args at hts ⊢
  have hl : lv_has ls 4 [(0, .ref a), (1, .int p0), (2, .int p1)] := hl
  refine lv_iload_n hx hb dX7_set_0 rfl (lv_at hl 1 rfl) ?_
  refine lv_iconst (v := 3) hx hb dX7_set_1 (by decide) ?_
  obtain ⟨v1, h2, hf⟩ := gbind hf
  refine g_Si (As := [.int p0, .int 3]) (rest := []) ⟨hx, hb, hml, hown, hts⟩ (c7_inRange l w K g S p0 3 v1 h2) (gcwS hts i7_inRange wd_118 rfl rfl ⟨Nat.le_of_ble_eq_true rfl, Nat.le_of_ble_eq_true rfl⟩) hH hK hS hl.1 rfl rfl (Nat.le_of_ble_eq_true rfl) dX7_set_2 ⟨Nat.le_refl _, Nat.le_refl _⟩ (fun H locs hH hS => ?_)
  have hg := gif hf
  refine lv_if_ne (tgt := 11) hx hb dX7_set_5 (by decide) (fun c3 => ?_) (fun c3 => ?_)
  · have hf := hg.2 c3
    refine lv_iload_n hx hb dX7_set_11 rfl (lv_at hl 2 rfl) ?_
    refine va_gets hx hb hZ1 hS hown (hts _ wd_115) (fun _ h => h) dX7_set_12 ?_
    refine lv_iload_n hx hb dX7_set_15 rfl (lv_at hl 1 rfl) ?_
    obtain ⟨h5, hf⟩ := gd_some hf
    refine va_ti hx hb hT1 hS (gok_in h5) rfl dX7_set_16 ?_
    have hg := gif hf
    refine lv_icmp_lt (tgt := 29) hx hb dX7_set_17 (by decide) (fun c6 => ?_) (fun c6 => ?_)
    · have hf := hg.1 c6
      refine lv_bipush (v := (-2)) hx hb dX7_set_29 (by decide) ?_
      have ho := Option.some.inj hf
      exact W.iret (v := (-2)) hx hb hr (fun t ht hW => ⟨⟨(-2), (), rfl, congrArg Prod.snd ho, hrP ht ho hH⟩, hS.F ht⟩) hS.2.2 dX7_set_31
    · have hf := hg.2 c6
      refine lv_iload_n hx hb dX7_set_20 rfl (lv_at hl 2 rfl) ?_
      refine va_gets hx hb hZ2 hS hown (hts _ wd_116) (fun _ h => h) dX7_set_21 ?_
      refine lv_iload_n hx hb dX7_set_24 rfl (lv_at hl 1 rfl) ?_
      refine va_ti hx hb hT2 hS (gok_in h5) rfl dX7_set_25 ?_
      have hg := gif hf
      refine lv_icmp_le (tgt := 32) hx hb dX7_set_26 (by decide) (fun c8 => ?_) (fun c8 => ?_)
      · have hf := hg.1 c8
        refine lv_aload_n hx hb dX7_set_32 rfl (lv_at hl 0 rfl) ?_
        have k9 : gkd K (a + 42) = 4 := congrArg Prod.fst (hH.sub hk0 4 (t := (42, 4, 0)) rfl)
        refine e_7_4 hx hb hts hown hK hH hk0 (hts _ wd_29) dX7_set_33 ?_
        refine lv_aload_n hx hb dX7_set_36 rfl (lv_at hl 0 rfl) ?_
        have k10 : gkd K (a + 10) = 5 := congrArg Prod.fst (hH.sub hk0 2 (t := (10, 5, 0)) rfl)
        refine e_7_2 hx hb hts hown hK hH hk0 (hts _ wd_24) dX7_set_37 ?_
        obtain ⟨g11, h12, hf⟩ := gbind hf
        refine g_Vv (As := [.ref (a + 10)]) (rest := []) ⟨hx, hb, hml, hown, hts⟩ (c3_keep l w K g S (a + 42) (a + 10) g11 h12 k9) (gcwV hts i3_keep wd_121 rfl rfl ⟨Nat.le_of_ble_eq_true rfl, Nat.le_of_ble_eq_true rfl⟩) (gRecv.of hK rfl (hH.o4 k9)) hH hK hS hl.1 rfl rfl (Nat.le_of_ble_eq_true rfl) dX7_set_40 ⟨Nat.le_refl _, Nat.le_refl _⟩ (fun H locs hH hS => ?_)
        refine lv_aload_n hx hb dX7_set_43 rfl (lv_at hl 0 rfl) ?_
        refine e_7_2 hx hb hts hown hK hH hk0 (hts _ wd_24) dX7_set_44 ?_
        have k13 : K.1 (a + 13) = (10, 3) := hH.sub k10 2 (t := (3, 10, 3)) rfl
        refine e_4_2 hx hb hts hown hK hH k10 (hts _ wd_117) dX7_set_47 ?_
        refine lv_iload_n hx hb dX7_set_50 rfl (lv_at hl 1 rfl) ?_
        obtain ⟨h15, hf⟩ := gd_some hf
        refine g_iald hx hb hK hH k13 h15 dX7_set_51 ?_
        refine lv_topi (fun v16 ev16 => ?_)
        have hf := gl_at hf ev16
        refine lv_istore_n (lv' := [(3, .int v16), (0, .ref a), (1, .int p0), (2, .int p1)]) hx hb dX7_set_52 rfl hl (by decide) rfl (fun ls hl => ?_)
        refine lv_aload_n hx hb dX7_set_53 rfl (lv_at hl 1 rfl) ?_
        refine e_7_2 hx hb hts hown hK hH hk0 (hts _ wd_24) dX7_set_54 ?_
        refine e_4_2 hx hb hts hown hK hH k10 (hts _ wd_117) dX7_set_57 ?_
        refine lv_iload_n hx hb dX7_set_60 rfl (lv_at hl 2 rfl) ?_
        refine lv_iload_n hx hb dX7_set_61 rfl (lv_at hl 3 rfl) ?_
        refine g_iast hx hb hK hH hS k13 h15 dX7_set_62 (fun H locs hH hS => ?_)
        obtain ⟨g18, eg18⟩ : ∃ z : GM, z = gsI g11 (a + 13) p0.toNatClampNeg p1 := ⟨_, rfl⟩
        have hf := gl_at hf eg18
        replace hH : HR w K g18 S H := by rw [eg18]; exact hH
        refine lv_iload_n hx hb dX7_set_63 rfl (lv_at hl 0 rfl) ?_
        have ho := Option.some.inj hf
        exact W.iret (v := v16) hx hb hr (fun t ht hW => ⟨⟨v16, (), rfl, congrArg Prod.snd ho, hrP ht ho hH⟩, hS.F ht⟩) hS.2.2 dX7_set_64
      · have hf := hg.2 c8
        refine lv_bipush (v := (-2)) hx hb dX7_set_29 (by decide) ?_
        have ho := Option.some.inj hf
        exact W.iret (v := (-2)) hx hb hr (fun t ht hW => ⟨⟨(-2), (), rfl, congrArg Prod.snd ho, hrP ht ho hH⟩, hS.F ht⟩) hS.2.2 dX7_set_31
  · have hf := hg.1 c3
    refine lv_bipush (v := (-2)) hx hb dX7_set_8 (by decide) ?_
    have ho := Option.some.inj hf
    exact W.iret (v := (-2)) hx hb hr (fun t ht hW => ⟨⟨(-2), (), rfl, congrArg Prod.snd ho, hrP ht ho hH⟩, hS.F ht⟩) hS.2.2 dX7_set_10
set_option maxRecDepth 100000 in
set_option maxHeartbeats 8000000 in
theorem c7_sign (l : Launch) (w : GW) (K : GK) (g : GM) (S : GS) (a : Nat) (p0 : Int32) (out : Int32) (hf : f7_sign K g a p0 = some out) (hk0 : gkd K a = 8) : Met l yX7_sign (wA yX7_sign cX7_sign 2 (some .int)) ({ frames := 1, cells := 0, slots := 0, locals := 21 } : Room) (PRE w K g S [.ref a, .int p0]) (QI w K g S out) 0 0 (FR w) := by
  unfold f7_sign at hf
  refine Met.ofW (cc := cX7_sign) (maxL := 2) (ret := (some .int)) (by decide) rfl ?_
  intro p e s m args below meth c s₁ B hml hv
  obtain ⟨rfl, hH, hK⟩ := hv
  have hx := B.exec
  have hb := B.bytes
  have hr := B.returns
  have hts : ∀ q ∈ gALL, q.before _ s = true := fun q h => atoms_spec (ws := (wA yX7_sign cX7_sign 2 (some .int))) B.pre q (List.mem_cons_of_mem _ h)
  have hown : s.vm.findClass RX7 = some m.cls := findClass_of_methodNamed B.named
  have hlocks := B.notSynchronized
  have hS : va_S (FR w) s.heap s.heap [] := va_S.rf
  show W p l e ({ frames := 1, cells := 0, slots := 0, locals := 21 } : Room) s m _ below meth c s.heap [] 0 0 (MQ below (QI w K g S out) _ s 0 0 (FR w)) _
  have hl := lv_entry ([.ref a, .int p0]) (n := 2) (Nat.le_of_ble_eq_true rfl)
  rw [lg_entry_eq]
  generalize (lg_sl ([.ref a, .int p0]) ++ List.replicate (2 - (lg_sl ([.ref a, .int p0])).length) Slot.unset).toArray = ls at hl ⊢
  clear B
  generalize ([.ref a, .int p0] : List Value).toArray = args at hts ⊢
  have hl : lv_has ls 2 [(0, .ref a), (1, .int p0)] := hl
  refine lv_iload_n hx hb dX7_sign_0 rfl (lv_at hl 1 rfl) ?_
  refine lv_aload_n hx hb dX7_sign_1 rfl (lv_at hl 0 rfl) ?_
  have k1 : gkd K (a + 1) = 6 := congrArg Prod.fst (hH.sub hk0 0 (t := (1, 6, 0)) rfl)
  refine e_7_0 hx hb hts hown hK hH hk0 (hts _ wd_16) dX7_sign_2 ?_
  refine e_5_1 hx hb hts hown hK hH k1 (hts _ wd_179) dX7_sign_5 ?_
  obtain ⟨v2, h3, hf⟩ := gbind hf
  refine g_Si (As := [.int p0, .int (gI g (a + 1) 1)]) (rest := []) ⟨hx, hb, hml, hown, hts⟩ (c7_inRange l w K g S p0 (gI g (a + 1) 1) v2 h3) (gcwS hts i7_inRange wd_118 rfl rfl ⟨Nat.le_of_ble_eq_true rfl, Nat.le_of_ble_eq_true rfl⟩) hH hK hS hl.1 rfl rfl (Nat.le_of_ble_eq_true rfl) dX7_sign_8 ⟨Nat.le_refl _, Nat.le_refl _⟩ (fun H locs hH hS => ?_)
  have hg := gif hf
  refine lv_if_ne (tgt := 16) hx hb dX7_sign_11 (by decide) (fun c4 => ?_) (fun c4 => ?_)
  · have hf := hg.2 c4
    refine lv_aload_n hx hb dX7_sign_16 rfl (lv_at hl 0 rfl) ?_
    refine e_7_0 hx hb hts hown hK hH hk0 (hts _ wd_16) dX7_sign_17 ?_
    have k5 : K.1 (a + 2) = (11, 80) := hH.sub k1 0 (t := (1, 11, 80)) rfl
    refine e_5_0 hx hb hts hown hK hH k1 (hts _ wd_694) dX7_sign_20 ?_
    refine lv_iload_n hx hb dX7_sign_23 rfl (lv_at hl 1 rfl) ?_
    obtain ⟨h7, hf⟩ := gd_some hf
    refine g_cald hx hb hK hH k5 h7 dX7_sign_24 ?_
    have ho := Option.some.inj hf
    exact W.iret (v := (gI g (a + 2) p0.toNatClampNeg)) hx hb hr (fun t ht hW => ⟨⟨(gI g (a + 2) p0.toNatClampNeg), (), rfl, ho, hrE ht hH⟩, hS.F ht⟩) hS.2.2 dX7_sign_25
  · have hf := hg.1 c4
    refine lv_iconst (v := (-1)) hx hb dX7_sign_14 (by decide) ?_
    have ho := Option.some.inj hf
    exact W.iret (v := (-1)) hx hb hr (fun t ht hW => ⟨⟨(-1), (), rfl, ho, hrE ht hH⟩, hS.F ht⟩) hS.2.2 dX7_sign_15
set_option maxRecDepth 100000 in
set_option maxHeartbeats 8000000 in
theorem c7_skip (l : Launch) (w : GW) (K : GK) (g : GM) (S : GS) (a : Nat) (out : GM × Int32) (hf : f7_skip K g a = some out) (hk0 : gkd K a = 8) : Met l yX7_skip (wA yX7_skip cX7_skip 1 (some .int)) ({ frames := 5, cells := 0, slots := 0, locals := 144 } : Room) (PRE w K g S [.ref a]) (QI w K out.1 S out.2) 0 0 (FR w) := by
  unfold f7_skip at hf
  refine Met.ofW (cc := cX7_skip) (maxL := 1) (ret := (some .int)) (by decide) rfl ?_
  intro p e s m args below meth c s₁ B hml hv
  obtain ⟨rfl, hH, hK⟩ := hv
  have hx := B.exec
  have hb := B.bytes
  have hr := B.returns
  have hts : ∀ q ∈ gALL, q.before _ s = true := fun q h => atoms_spec (ws := (wA yX7_skip cX7_skip 1 (some .int))) B.pre q (List.mem_cons_of_mem _ h)
  have hown : s.vm.findClass RX7 = some m.cls := findClass_of_methodNamed B.named
  have hlocks := B.notSynchronized
  have hS : va_S (FR w) s.heap s.heap [] := va_S.rf
  show W p l e ({ frames := 5, cells := 0, slots := 0, locals := 144 } : Room) s m _ below meth c s.heap [] 0 0 (MQ below (QI w K out.1 S out.2) _ s 0 0 (FR w)) _
  have hl := lv_entry ([.ref a]) (n := 1) (Nat.le_of_ble_eq_true rfl)
  rw [lg_entry_eq]
  generalize (lg_sl ([.ref a]) ++ List.replicate (1 - (lg_sl ([.ref a])).length) Slot.unset).toArray = ls at hl ⊢
  clear B
  generalize ([.ref a] : List Value).toArray = args at hts ⊢
  have hl : lv_has ls 1 [(0, .ref a)] := hl
  refine lv_aload_n hx hb dX7_skip_0 rfl (lv_at hl 0 rfl) ?_
  have k1 : gkd K (a + 10) = 5 := congrArg Prod.fst (hH.sub hk0 2 (t := (10, 5, 0)) rfl)
  refine e_7_2 hx hb hts hown hK hH hk0 (hts _ wd_24) dX7_skip_1 ?_
  have k2 : gkd K (a + 19) = 1 := congrArg Prod.fst (hH.sub k1 8 (t := (9, 1, 0)) rfl)
  refine e_4_8 hx hb hts hown hK hH k1 (hts _ wd_533) dX7_skip_4 ?_
  refine e_0_6 hx hb hts hown hK hH k2 (hts _ wd_534) dX7_skip_7 ?_
  have hg := gif hf
  refine lv_if_ne (tgt := 16) hx hb dX7_skip_10 (by decide) (fun c3 => ?_) (fun c3 => ?_)
  · have hf := hg.2 c3
    refine lv_aload_n hx hb dX7_skip_16 rfl (lv_at hl 0 rfl) ?_
    have k4 : gkd K (a + 42) = 4 := congrArg Prod.fst (hH.sub hk0 4 (t := (42, 4, 0)) rfl)
    refine e_7_4 hx hb hts hown hK hH hk0 (hts _ wd_29) dX7_skip_17 ?_
    refine lv_aload_n hx hb dX7_skip_20 rfl (lv_at hl 0 rfl) ?_
    refine e_7_2 hx hb hts hown hK hH hk0 (hts _ wd_24) dX7_skip_21 ?_
    obtain ⟨g5, h6, hf⟩ := gbind hf
    refine g_Vv (As := [.ref (a + 10)]) (rest := []) ⟨hx, hb, hml, hown, hts⟩ (c3_keep l w K g S (a + 42) (a + 10) g5 h6 k4) (gcwV hts i3_keep wd_121 rfl rfl ⟨Nat.le_of_ble_eq_true rfl, Nat.le_of_ble_eq_true rfl⟩) (gRecv.of hK rfl (hH.o4 k4)) hH hK hS hl.1 rfl rfl (Nat.le_of_ble_eq_true rfl) dX7_skip_24 ⟨Nat.le_refl _, Nat.le_refl _⟩ (fun H locs hH hS => ?_)
    refine lv_aload_n hx hb dX7_skip_27 rfl (lv_at hl 0 rfl) ?_
    refine e_7_2 hx hb hts hown hK hH hk0 (hts _ wd_24) dX7_skip_28 ?_
    refine e_4_8 hx hb hts hown hK hH k1 (hts _ wd_533) dX7_skip_31 ?_
    obtain ⟨g7, h8, hf⟩ := gbind hf
    refine g_Vv (As := []) (rest := []) ⟨hx, hb, hml, hown, hts⟩ (c0_passOver l w K g5 S (a + 19) g7 h8 k2) (gcwV hts i0_passOver wd_535 rfl rfl ⟨Nat.le_of_ble_eq_true rfl, Nat.le_of_ble_eq_true rfl⟩) (gRecv.of hK rfl (hH.o1 k2)) hH hK hS hl.1 rfl rfl (Nat.le_of_ble_eq_true rfl) dX7_skip_34 ⟨Nat.le_refl _, Nat.le_refl _⟩ (fun H locs hH hS => ?_)
    refine lv_aload_n hx hb dX7_skip_37 rfl (lv_at hl 0 rfl) ?_
    refine e_7_2 hx hb hts hown hK hH hk0 (hts _ wd_24) dX7_skip_38 ?_
    refine e_4_8 hx hb hts hown hK hH k1 (hts _ wd_533) dX7_skip_41 ?_
    obtain ⟨g9, h10, hf⟩ := gbind hf
    refine g_Vv (As := []) (rest := []) ⟨hx, hb, hml, hown, hts⟩ (c0_leaveEnds l w K g7 S (a + 19) g9 h10 k2) (gcwV hts i0_leaveEnds wd_536 rfl rfl ⟨Nat.le_of_ble_eq_true rfl, Nat.le_of_ble_eq_true rfl⟩) (gRecv.of hK rfl (hH.o1 k2)) hH hK hS hl.1 rfl rfl (Nat.le_of_ble_eq_true rfl) dX7_skip_44 ⟨Nat.le_refl _, Nat.le_refl _⟩ (fun H locs hH hS => ?_)
    refine lv_aload_n hx hb dX7_skip_47 rfl (lv_at hl 0 rfl) ?_
    refine e_7_2 hx hb hts hown hK hH hk0 (hts _ wd_24) dX7_skip_48 ?_
    refine e_4_8 hx hb hts hown hK hH k1 (hts _ wd_533) dX7_skip_51 ?_
    refine e_0_6 hx hb hts hown hK hH k2 (hts _ wd_534) dX7_skip_54 ?_
    have ho := Option.some.inj hf
    exact W.iret (v := (gI g9 (a + 19) 6)) hx hb hr (fun t ht hW => ⟨⟨(gI g9 (a + 19) 6), (), rfl, congrArg Prod.snd ho, hrP ht ho hH⟩, hS.F ht⟩) hS.2.2 dX7_skip_57
  · have hf := hg.1 c3
    refine lv_bipush (v := (-5)) hx hb dX7_skip_13 (by decide) ?_
    have ho := Option.some.inj hf
    exact W.iret (v := (-5)) hx hb hr (fun t ht hW => ⟨⟨(-5), (), rfl, congrArg Prod.snd ho, hrP ht ho hH⟩, hS.F ht⟩) hS.2.2 dX7_skip_15
set_option maxRecDepth 100000 in
set_option maxHeartbeats 8000000 in
theorem c7_stack (l : Launch) (w : GW) (K : GK) (g : GM) (S : GS) (a : Nat) (p0 : Int32) (p1 : Int32) (out : Int32) (hf : f7_stack K g a p0 p1 = some out) (hk0 : gkd K a = 8) : Met l yX7_stack (wA yX7_stack cX7_stack 4 (some .int)) ({ frames := 2, cells := 0, slots := 0, locals := 42 } : Room) (PRE w K g S [.ref a, .int p0, .int p1]) (QI w K g S out) 0 0 (FR w) := by
  unfold f7_stack at hf
  refine Met.ofW (cc := cX7_stack) (maxL := 4) (ret := (some .int)) (by decide) rfl ?_
  intro p e s m args below meth c s₁ B hml hv
  obtain ⟨rfl, hH, hK⟩ := hv
  have hx := B.exec
  have hb := B.bytes
  have hr := B.returns
  have hts : ∀ q ∈ gALL, q.before _ s = true := fun q h => atoms_spec (ws := (wA yX7_stack cX7_stack 4 (some .int))) B.pre q (List.mem_cons_of_mem _ h)
  have hown : s.vm.findClass RX7 = some m.cls := findClass_of_methodNamed B.named
  have hlocks := B.notSynchronized
  have hS : va_S (FR w) s.heap s.heap [] := va_S.rf
  show W p l e ({ frames := 2, cells := 0, slots := 0, locals := 42 } : Room) s m _ below meth c s.heap [] 0 0 (MQ below (QI w K g S out) _ s 0 0 (FR w)) _
  have hl := lv_entry ([.ref a, .int p0, .int p1]) (n := 4) (Nat.le_of_ble_eq_true rfl)
  rw [lg_entry_eq]
  generalize (lg_sl ([.ref a, .int p0, .int p1]) ++ List.replicate (4 - (lg_sl ([.ref a, .int p0, .int p1])).length) Slot.unset).toArray = ls at hl ⊢
  clear B
  generalize ([.ref a, .int p0, .int p1] : List Value).toArray = args at hts ⊢
  have hl : lv_has ls 4 [(0, .ref a), (1, .int p0), (2, .int p1)] := hl
  refine lv_iload_n hx hb dX7_stack_0 rfl (lv_at hl 1 rfl) ?_
  refine lv_aload_n hx hb dX7_stack_1 rfl (lv_at hl 0 rfl) ?_
  have k1 : gkd K (a + 10) = 5 := congrArg Prod.fst (hH.sub hk0 2 (t := (10, 5, 0)) rfl)
  refine e_7_2 hx hb hts hown hK hH hk0 (hts _ wd_24) dX7_stack_2 ?_
  have k2 : gkd K (a + 19) = 1 := congrArg Prod.fst (hH.sub k1 8 (t := (9, 1, 0)) rfl)
  refine e_4_8 hx hb hts hown hK hH k1 (hts _ wd_533) dX7_stack_5 ?_
  refine e_0_6 hx hb hts hown hK hH k2 (hts _ wd_534) dX7_stack_8 ?_
  obtain ⟨v3, h4, hf⟩ := gbind hf
  refine g_Si (As := [.int p0, .int (gI g (a + 19) 6)]) (rest := []) ⟨hx, hb, hml, hown, hts⟩ (c7_inRange l w K g S p0 (gI g (a + 19) 6) v3 h4) (gcwS hts i7_inRange wd_118 rfl rfl ⟨Nat.le_of_ble_eq_true rfl, Nat.le_of_ble_eq_true rfl⟩) hH hK hS hl.1 rfl rfl (Nat.le_of_ble_eq_true rfl) dX7_stack_11 ⟨Nat.le_refl _, Nat.le_refl _⟩ (fun H locs hH hS => ?_)
  have hg := gif hf
  refine lv_if_ne (tgt := 19) hx hb dX7_stack_14 (by decide) (fun c5 => ?_) (fun c5 => ?_)
  · have hf := hg.2 c5
    refine lv_aload_n hx hb dX7_stack_19 rfl (lv_at hl 0 rfl) ?_
    refine e_7_2 hx hb hts hown hK hH hk0 (hts _ wd_24) dX7_stack_20 ?_
    refine e_4_8 hx hb hts hown hK hH k1 (hts _ wd_533) dX7_stack_23 ?_
    refine e_0_6 hx hb hts hown hK hH k2 (hts _ wd_534) dX7_stack_26 ?_
    refine lv_iconst (v := 1) hx hb dX7_stack_29 (by decide) ?_
    refine lv_isub hx hb dX7_stack_30 ?_
    refine lv_iload_n hx hb dX7_stack_31 rfl (lv_at hl 1 rfl) ?_
    refine lv_isub hx hb dX7_stack_32 ?_
    refine lv_topi (fun v6 ev6 => ?_)
    have hf := gl_at hf ev6
    refine lv_istore_n (lv' := [(3, .int v6), (0, .ref a), (1, .int p0), (2, .int p1)]) hx hb dX7_stack_33 rfl hl (by decide) rfl (fun ls hl => ?_)
    refine lv_iload_n hx hb dX7_stack_34 rfl (lv_at hl 3 rfl) ?_
    have hg := gif hf
    by_cases c7 : p1 = 0
    · have hf := hg.1 c7
      refine lv_tableIn (off := 29) (tgt := 64) hx hb dX7_stack_35 (by rw [c7]; decide) (by rw [c7]; decide) (by rw [c7]; decide +kernel) (by decide) ?_
      refine lv_aload_n hx hb dX7_stack_64 rfl (lv_at hl 1 rfl) ?_
      refine e_7_2 hx hb hts hown hK hH hk0 (hts _ wd_24) dX7_stack_65 ?_
      refine e_4_8 hx hb hts hown hK hH k1 (hts _ wd_533) dX7_stack_68 ?_
      have k8 : K.1 (a + 20) = (10, 9) := hH.sub k2 0 (t := (1, 10, 9)) rfl
      refine e_0_0 hx hb hts hown hK hH k2 (hts _ wd_593) dX7_stack_71 ?_
      refine lv_iload_n hx hb dX7_stack_74 rfl (lv_at hl 0 rfl) ?_
      obtain ⟨h10, hf⟩ := gd_some hf
      refine g_iald hx hb hK hH k8 h10 dX7_stack_75 ?_
      have ho := Option.some.inj hf
      exact W.iret (v := (gI g (a + 20) v6.toNatClampNeg)) hx hb hr (fun t ht hW => ⟨⟨(gI g (a + 20) v6.toNatClampNeg), (), rfl, ho, hrE ht hH⟩, hS.F ht⟩) hS.2.2 dX7_stack_76
    have hf := hg.2 c7
    have hg := gif hf
    by_cases c11 : p1 = 1
    · have hf := hg.1 c11
      refine lv_tableIn (off := 42) (tgt := 77) hx hb dX7_stack_35 (by rw [c11]; decide) (by rw [c11]; decide) (by rw [c11]; decide +kernel) (by decide) ?_
      refine lv_aload_n hx hb dX7_stack_77 rfl (lv_at hl 1 rfl) ?_
      refine e_7_2 hx hb hts hown hK hH hk0 (hts _ wd_24) dX7_stack_78 ?_
      refine e_4_8 hx hb hts hown hK hH k1 (hts _ wd_533) dX7_stack_81 ?_
      have k12 : K.1 (a + 21) = (10, 9) := hH.sub k2 1 (t := (2, 10, 9)) rfl
      refine e_0_1 hx hb hts hown hK hH k2 (hts _ wd_594) dX7_stack_84 ?_
      refine lv_iload_n hx hb dX7_stack_87 rfl (lv_at hl 0 rfl) ?_
      obtain ⟨h14, hf⟩ := gd_some hf
      refine g_iald hx hb hK hH k12 h14 dX7_stack_88 ?_
      have ho := Option.some.inj hf
      exact W.iret (v := (gI g (a + 21) v6.toNatClampNeg)) hx hb hr (fun t ht hW => ⟨⟨(gI g (a + 21) v6.toNatClampNeg), (), rfl, ho, hrE ht hH⟩, hS.F ht⟩) hS.2.2 dX7_stack_89
    have hf := hg.2 c11
    have hg := gif hf
    by_cases c15 : p1 = 2
    · have hf := hg.1 c15
      refine lv_tableIn (off := 55) (tgt := 90) hx hb dX7_stack_35 (by rw [c15]; decide) (by rw [c15]; decide) (by rw [c15]; decide +kernel) (by decide) ?_
      refine lv_aload_n hx hb dX7_stack_90 rfl (lv_at hl 1 rfl) ?_
      refine e_7_2 hx hb hts hown hK hH hk0 (hts _ wd_24) dX7_stack_91 ?_
      refine e_4_8 hx hb hts hown hK hH k1 (hts _ wd_533) dX7_stack_94 ?_
      refine lv_iload_n hx hb dX7_stack_97 rfl (lv_at hl 0 rfl) ?_
      obtain ⟨v16, h17, hf⟩ := gbind hf
      refine g_Vi (As := [.int v6]) (rest := []) ⟨hx, hb, hml, hown, hts⟩ (c0_placeOf l w K g S (a + 19) v6 v16 h17 k2) (gcwV hts i0_placeOf wd_596 rfl rfl ⟨Nat.le_of_ble_eq_true rfl, Nat.le_of_ble_eq_true rfl⟩) (gRecv.of hK rfl (hH.o1 k2)) hH hK hS hl.1 rfl rfl (Nat.le_of_ble_eq_true rfl) dX7_stack_98 ⟨Nat.le_refl _, Nat.le_refl _⟩ (fun H locs hH hS => ?_)
      have ho := Option.some.inj hf
      exact W.iret (v := v16) hx hb hr (fun t ht hW => ⟨⟨v16, (), rfl, ho, hrE ht hH⟩, hS.F ht⟩) hS.2.2 dX7_stack_101
    have hf := hg.2 c15
    have hg := gif hf
    by_cases c18 : p1 = 3
    · have hf := hg.1 c18
      refine lv_tableIn (off := 67) (tgt := 102) hx hb dX7_stack_35 (by rw [c18]; decide) (by rw [c18]; decide) (by rw [c18]; decide +kernel) (by decide) ?_
      refine lv_aload_n hx hb dX7_stack_102 rfl (lv_at hl 1 rfl) ?_
      refine e_7_2 hx hb hts hown hK hH hk0 (hts _ wd_24) dX7_stack_103 ?_
      refine e_4_8 hx hb hts hown hK hH k1 (hts _ wd_533) dX7_stack_106 ?_
      have k19 : K.1 (a + 22) = (10, 9) := hH.sub k2 2 (t := (3, 10, 9)) rfl
      refine e_0_2 hx hb hts hown hK hH k2 (hts _ wd_595) dX7_stack_109 ?_
      refine lv_iload_n hx hb dX7_stack_112 rfl (lv_at hl 0 rfl) ?_
      obtain ⟨h21, hf⟩ := gd_some hf
      refine g_iald hx hb hK hH k19 h21 dX7_stack_113 ?_
      have ho := Option.some.inj hf
      exact W.iret (v := (gI g (a + 22) v6.toNatClampNeg)) hx hb hr (fun t ht hW => ⟨⟨(gI g (a + 22) v6.toNatClampNeg), (), rfl, ho, hrE ht hH⟩, hS.F ht⟩) hS.2.2 dX7_stack_114
    have hf := hg.2 c18
    have nc7 : p1.toInt ≠ 0 := g_ne c7 (by decide)
    have nc11 : p1.toInt ≠ 1 := g_ne c11 (by decide)
    have nc15 : p1.toInt ≠ 2 := g_ne c15 (by decide)
    have nc18 : p1.toInt ≠ 3 := g_ne c18 (by decide)
    refine lv_tableOut (tgt := 115) hx hb dX7_stack_35 (by omega) (by decide) ?_
    refine lv_bipush (v := (-2)) hx hb dX7_stack_115 (by decide) ?_
    have ho := Option.some.inj hf
    exact W.iret (v := (-2)) hx hb hr (fun t ht hW => ⟨⟨(-2), (), rfl, ho, hrE ht hH⟩, hS.F ht⟩) hS.2.2 dX7_stack_117
  · have hf := hg.1 c5
    refine lv_iconst (v := (-1)) hx hb dX7_stack_17 (by decide) ?_
    have ho := Option.some.inj hf
    exact W.iret (v := (-1)) hx hb hr (fun t ht hW => ⟨⟨(-1), (), rfl, ho, hrE ht hH⟩, hS.F ht⟩) hS.2.2 dX7_stack_18
set_option maxRecDepth 100000 in
set_option maxHeartbeats 8000000 in
theorem c7_stop (l : Launch) (w : GW) (K : GK) (g : GM) (S : GS) (a : Nat) (p0 : Int32) (out : GM × Int32) (hf : f7_stop K g a p0 = some out) (hk0 : gkd K a = 8) : Met l yX7_stop (wA yX7_stop cX7_stop 3 (some .int)) ({ frames := 6, cells := 0, slots := 0, locals := 132 } : Room) (PRE w K g S [.ref a, .int p0]) (QI w K out.1 S out.2) 0 0 (FR w) := by
  unfold f7_stop at hf
  refine Met.ofW (cc := cX7_stop) (maxL := 3) (ret := (some .int)) (by decide) rfl ?_
  intro p e s m args below meth c s₁ B hml hv
  obtain ⟨rfl, hH, hK⟩ := hv
  have hx := B.exec
  have hb := B.bytes
  have hr := B.returns
  have hts : ∀ q ∈ gALL, q.before _ s = true := fun q h => atoms_spec (ws := (wA yX7_stop cX7_stop 3 (some .int))) B.pre q (List.mem_cons_of_mem _ h)
  have hown : s.vm.findClass RX7 = some m.cls := findClass_of_methodNamed B.named
  have hlocks := B.notSynchronized
  have hS : va_S (FR w) s.heap s.heap [] := va_S.rf
  show W p l e ({ frames := 6, cells := 0, slots := 0, locals := 132 } : Room) s m _ below meth c s.heap [] 0 0 (MQ below (QI w K out.1 S out.2) _ s 0 0 (FR w)) _
  have hl := lv_entry ([.ref a, .int p0]) (n := 3) (Nat.le_of_ble_eq_true rfl)
  rw [lg_entry_eq]
  generalize (lg_sl ([.ref a, .int p0]) ++ List.replicate (3 - (lg_sl ([.ref a, .int p0])).length) Slot.unset).toArray = ls at hl ⊢
  clear B
  generalize ([.ref a, .int p0] : List Value).toArray = args at hts ⊢
  have hl : lv_has ls 3 [(0, .ref a), (1, .int p0)] := hl
  refine lv_iload_n hx hb dX7_stop_0 rfl (lv_at hl 1 rfl) ?_
  have hg := gif hf
  refine lv_if_lt (tgt := 9) hx hb dX7_stop_1 (by decide) (fun c1 => ?_) (fun c1 => ?_)
  · have hf := hg.1 c1
    refine lv_bipush (v := (-2)) hx hb dX7_stop_9 (by decide) ?_
    have ho := Option.some.inj hf
    exact W.iret (v := (-2)) hx hb hr (fun t ht hW => ⟨⟨(-2), (), rfl, congrArg Prod.snd ho, hrP ht ho hH⟩, hS.F ht⟩) hS.2.2 dX7_stop_11
  · have hf := hg.2 c1
    refine lv_iload_n hx hb dX7_stop_4 rfl (lv_at hl 1 rfl) ?_
    refine lv_iconst (v := 2) hx hb dX7_stop_5 (by decide) ?_
    have hg := gif hf
    refine lv_icmp_le (tgt := 12) hx hb dX7_stop_6 (by decide) (fun c2 => ?_) (fun c2 => ?_)
    · have hf := hg.1 c2
      refine lv_aload_n hx hb dX7_stop_12 rfl (lv_at hl 0 rfl) ?_
      have k3 : gkd K (a + 26) = 5 := congrArg Prod.fst (hH.sub hk0 3 (t := (26, 5, 0)) rfl)
      refine e_7_3 hx hb hts hown hK hH hk0 (hts _ wd_25) dX7_stop_13 ?_
      refine lv_aload_n hx hb dX7_stop_16 rfl (lv_at hl 0 rfl) ?_
      have k4 : gkd K (a + 10) = 5 := congrArg Prod.fst (hH.sub hk0 2 (t := (10, 5, 0)) rfl)
      refine e_7_2 hx hb hts hown hK hH hk0 (hts _ wd_24) dX7_stop_17 ?_
      obtain ⟨g5, h6, hf⟩ := gbind hf
      refine g_Vv (As := [.ref (a + 10)]) (rest := []) ⟨hx, hb, hml, hown, hts⟩ (c4_copyFrom l w K g S (a + 26) (a + 10) g5 h6 k3) (gcwV hts i4_copyFrom wd_844 rfl rfl ⟨Nat.le_of_ble_eq_true rfl, Nat.le_of_ble_eq_true rfl⟩) (gRecv.of hK rfl (hH.o5 k3)) hH hK hS hl.1 rfl rfl (Nat.le_of_ble_eq_true rfl) dX7_stop_20 ⟨Nat.le_refl _, Nat.le_refl _⟩ (fun H locs hH hS => ?_)
      refine lv_aload_n hx hb dX7_stop_23 rfl (lv_at hl 0 rfl) ?_
      refine e_7_3 hx hb hts hown hK hH hk0 (hts _ wd_25) dX7_stop_24 ?_
      refine lv_sipush (v := 999) hx hb dX7_stop_27 (by decide) ?_
      obtain ⟨r7, h8, hf⟩ := gbind hf
      refine g_Vi (As := [.int 999]) (rest := []) ⟨hx, hb, hml, hown, hts⟩ (c4_goOn l w K g5 S (a + 26) 999 r7 h8 k3) (gcwV hts i4_goOn wd_372 rfl rfl ⟨Nat.le_of_ble_eq_true rfl, Nat.le_of_ble_eq_true rfl⟩) (gRecv.of hK rfl (hH.o5 k3)) hH hK hS hl.1 rfl rfl (Nat.le_of_ble_eq_true rfl) dX7_stop_30 ⟨Nat.le_refl _, Nat.le_refl _⟩ (fun H locs hH hS => ?_)
      refine lv_istore_n (lv' := [(2, .int r7.2), (0, .ref a), (1, .int p0)]) hx hb dX7_stop_33 rfl hl (by decide) rfl (fun ls hl => ?_)
      refine lv_aload_n hx hb dX7_stop_34 rfl (lv_at hl 1 rfl) ?_
      refine e_7_3 hx hb hts hown hK hH hk0 (hts _ wd_25) dX7_stop_35 ?_
      refine e_4_12 hx hb hts hown hK hH k3 (hts _ wd_705) dX7_stop_38 ?_
      have hg := gif hf
      refine lv_if_ne (tgt := 47) hx hb dX7_stop_41 (by decide) (fun c9 => ?_) (fun c9 => ?_)
      · have hf := hg.2 c9
        refine lv_iload_n hx hb dX7_stop_47 rfl (lv_at hl 2 rfl) ?_
        have hg := gif hf
        refine lv_if_ne (tgt := 53) hx hb dX7_stop_48 (by decide) (fun c10 => ?_) (fun c10 => ?_)
        · have hf := hg.2 c10
          refine lv_iload_n hx hb dX7_stop_53 rfl (lv_at hl 2 rfl) ?_
          refine lv_iconst (v := 1) hx hb dX7_stop_54 (by decide) ?_
          have hg := gif hf
          refine lv_icmp_ne (tgt := 66) hx hb dX7_stop_55 (by decide) (fun c11 => ?_) (fun c11 => ?_)
          · have hf := hg.2 c11
            refine lv_aload_n hx hb dX7_stop_66 rfl (lv_at hl 1 rfl) ?_
            refine e_7_3 hx hb hts hown hK hH hk0 (hts _ wd_25) dX7_stop_67 ?_
            have k12 : gkd K (a + 35) = 1 := congrArg Prod.fst (hH.sub k3 8 (t := (9, 1, 0)) rfl)
            refine e_4_8 hx hb hts hown hK hH k3 (hts _ wd_533) dX7_stop_70 ?_
            refine e_0_6 hx hb hts hown hK hH k12 (hts _ wd_534) dX7_stop_73 ?_
            have hg := gif hf
            refine lv_if_ne (tgt := 84) hx hb dX7_stop_76 (by decide) (fun c13 => ?_) (fun c13 => ?_)
            · have hf := hg.2 c13
              refine lv_aload_n hx hb dX7_stop_84 rfl (lv_at hl 1 rfl) ?_
              refine e_7_3 hx hb hts hown hK hH hk0 (hts _ wd_25) dX7_stop_85 ?_
              refine e_4_8 hx hb hts hown hK hH k3 (hts _ wd_533) dX7_stop_88 ?_
              have k14 : K.1 (a + 36) = (10, 9) := hH.sub k12 0 (t := (1, 10, 9)) rfl
              refine e_0_0 hx hb hts hown hK hH k12 (hts _ wd_593) dX7_stop_91 ?_
              refine lv_aload_n hx hb dX7_stop_94 rfl (lv_at hl 1 rfl) ?_
              refine e_7_3 hx hb hts hown hK hH hk0 (hts _ wd_25) dX7_stop_95 ?_
              refine e_4_8 hx hb hts hown hK hH k3 (hts _ wd_533) dX7_stop_98 ?_
              refine e_0_6 hx hb hts hown hK hH k12 (hts _ wd_534) dX7_stop_101 ?_
              refine lv_iconst (v := 1) hx hb dX7_stop_104 (by decide) ?_
              refine lv_isub hx hb dX7_stop_105 ?_
              obtain ⟨h16, hf⟩ := gd_some hf
              refine g_iald hx hb hK hH k14 h16 dX7_stop_106 ?_
              have ho := Option.some.inj hf
              exact W.iret (v := (gI r7.1 (a + 36) ((gI r7.1 (a + 35) 6) - 1).toNatClampNeg)) hx hb hr (fun t ht hW => ⟨⟨(gI r7.1 (a + 36) ((gI r7.1 (a + 35) 6) - 1).toNatClampNeg), (), rfl, congrArg Prod.snd ho, hrP ht ho hH⟩, hS.F ht⟩) hS.2.2 dX7_stop_107
            · have hf := hg.1 c13
              refine lv_bipush (v := (-6)) hx hb dX7_stop_79 (by decide) ?_
              refine lv_goto (tgt := 107) hx hb dX7_stop_81 (by decide) ?_
              have ho := Option.some.inj hf
              exact W.iret (v := (-6)) hx hb hr (fun t ht hW => ⟨⟨(-6), (), rfl, congrArg Prod.snd ho, hrP ht ho hH⟩, hS.F ht⟩) hS.2.2 dX7_stop_107
          · have hf := hg.1 c11
            refine lv_aload_n hx hb dX7_stop_58 rfl (lv_at hl 1 rfl) ?_
            refine e_7_3 hx hb hts hown hK hH hk0 (hts _ wd_25) dX7_stop_59 ?_
            refine e_4_12 hx hb hts hown hK hH k3 (hts _ wd_705) dX7_stop_62 ?_
            have ho := Option.some.inj hf
            exact W.iret (v := (gI r7.1 (a + 26) 12)) hx hb hr (fun t ht hW => ⟨⟨(gI r7.1 (a + 26) 12), (), rfl, congrArg Prod.snd ho, hrP ht ho hH⟩, hS.F ht⟩) hS.2.2 dX7_stop_65
        · have hf := hg.1 c10
          refine lv_iload_n hx hb dX7_stop_51 rfl (lv_at hl 0 rfl) ?_
          have ho := Option.some.inj hf
          exact W.iret (v := r7.2) hx hb hr (fun t ht hW => ⟨⟨r7.2, (), rfl, congrArg Prod.snd ho, hrP ht ho hH⟩, hS.F ht⟩) hS.2.2 dX7_stop_52
      · have hf := hg.1 c9
        refine lv_bipush (v := (-6)) hx hb dX7_stop_44 (by decide) ?_
        have ho := Option.some.inj hf
        exact W.iret (v := (-6)) hx hb hr (fun t ht hW => ⟨⟨(-6), (), rfl, congrArg Prod.snd ho, hrP ht ho hH⟩, hS.F ht⟩) hS.2.2 dX7_stop_46
    · have hf := hg.2 c2
      refine lv_bipush (v := (-2)) hx hb dX7_stop_9 (by decide) ?_
      have ho := Option.some.inj hf
      exact W.iret (v := (-2)) hx hb hr (fun t ht hW => ⟨⟨(-2), (), rfl, congrArg Prod.snd ho, hrP ht ho hH⟩, hS.F ht⟩) hS.2.2 dX7_stop_11
set_option maxRecDepth 100000 in
set_option maxHeartbeats 8000000 in
theorem c7_thread (l : Launch) (w : GW) (K : GK) (g : GM) (S : GS) (a : Nat) (p0 : Int32) (p1 : Int32) (out : Int32) (hf : f7_thread K g a p0 p1 = some out) (hk0 : gkd K a = 8) : Met l yX7_thread (wA yX7_thread cX7_thread 3 (some .int)) ({ frames := 2, cells := 0, slots := 0, locals := 54 } : Room) (PRE w K g S [.ref a, .int p0, .int p1]) (QI w K g S out) 0 0 (FR w) := by
  unfold f7_thread at hf
  refine Met.ofW (cc := cX7_thread) (maxL := 3) (ret := (some .int)) (by decide) rfl ?_
  intro p e s m args below meth c s₁ B hml hv
  obtain ⟨rfl, hH, hK⟩ := hv
  have hx := B.exec
  have hb := B.bytes
  have hr := B.returns
  have hts : ∀ q ∈ gALL, q.before _ s = true := fun q h => atoms_spec (ws := (wA yX7_thread cX7_thread 3 (some .int))) B.pre q (List.mem_cons_of_mem _ h)
  have hown : s.vm.findClass RX7 = some m.cls := findClass_of_methodNamed B.named
  have hlocks := B.notSynchronized
  have hS : va_S (FR w) s.heap s.heap [] := va_S.rf
  show W p l e ({ frames := 2, cells := 0, slots := 0, locals := 54 } : Room) s m _ below meth c s.heap [] 0 0 (MQ below (QI w K g S out) _ s 0 0 (FR w)) _
  have hl := lv_entry ([.ref a, .int p0, .int p1]) (n := 3) (Nat.le_of_ble_eq_true rfl)
  rw [lg_entry_eq]
  generalize (lg_sl ([.ref a, .int p0, .int p1]) ++ List.replicate (3 - (lg_sl ([.ref a, .int p0, .int p1])).length) Slot.unset).toArray = ls at hl ⊢
  clear B
  generalize ([.ref a, .int p0, .int p1] : List Value).toArray = args at hts ⊢
  have hl : lv_has ls 3 [(0, .ref a), (1, .int p0), (2, .int p1)] := hl
  refine lv_iload_n hx hb dX7_thread_0 rfl (lv_at hl 1 rfl) ?_
  refine lv_bipush (v := 6) hx hb dX7_thread_1 (by decide) ?_
  obtain ⟨v1, h2, hf⟩ := gbind hf
  refine g_Si (As := [.int p0, .int 6]) (rest := []) ⟨hx, hb, hml, hown, hts⟩ (c7_inRange l w K g S p0 6 v1 h2) (gcwS hts i7_inRange wd_118 rfl rfl ⟨Nat.le_of_ble_eq_true rfl, Nat.le_of_ble_eq_true rfl⟩) hH hK hS hl.1 rfl rfl (Nat.le_of_ble_eq_true rfl) dX7_thread_3 ⟨Nat.le_refl _, Nat.le_refl _⟩ (fun H locs hH hS => ?_)
  have hg := gif hf
  refine lv_if_ne (tgt := 11) hx hb dX7_thread_6 (by decide) (fun c3 => ?_) (fun c3 => ?_)
  · have hf := hg.2 c3
    refine lv_iload_n hx hb dX7_thread_11 rfl (lv_at hl 2 rfl) ?_
    have hg := gif hf
    by_cases c4 : p1 = 0
    · have hf := hg.1 c4
      refine lv_tableIn (off := 40) (tgt := 52) hx hb dX7_thread_12 (by rw [c4]; decide) (by rw [c4]; decide) (by rw [c4]; decide +kernel) (by decide) ?_
      refine lv_aload_n hx hb dX7_thread_52 rfl (lv_at hl 0 rfl) ?_
      have k5 : gkd K (a + 10) = 5 := congrArg Prod.fst (hH.sub hk0 2 (t := (10, 5, 0)) rfl)
      refine e_7_2 hx hb hts hown hK hH hk0 (hts _ wd_24) dX7_thread_53 ?_
      have k6 : K.1 (a + 14) = (10, 6) := hH.sub k5 3 (t := (4, 10, 6)) rfl
      refine e_4_3 hx hb hts hown hK hH k5 (hts _ wd_608) dX7_thread_56 ?_
      refine lv_iload_n hx hb dX7_thread_59 rfl (lv_at hl 1 rfl) ?_
      obtain ⟨h8, hf⟩ := gd_some hf
      refine g_iald hx hb hK hH k6 h8 dX7_thread_60 ?_
      have ho := Option.some.inj hf
      exact W.iret (v := (gI g (a + 14) p0.toNatClampNeg)) hx hb hr (fun t ht hW => ⟨⟨(gI g (a + 14) p0.toNatClampNeg), (), rfl, ho, hrE ht hH⟩, hS.F ht⟩) hS.2.2 dX7_thread_61
    have hf := hg.2 c4
    have hg := gif hf
    by_cases c9 : p1 = 1
    · have hf := hg.1 c9
      refine lv_tableIn (off := 50) (tgt := 62) hx hb dX7_thread_12 (by rw [c9]; decide) (by rw [c9]; decide) (by rw [c9]; decide +kernel) (by decide) ?_
      refine lv_aload_n hx hb dX7_thread_62 rfl (lv_at hl 0 rfl) ?_
      have k10 : gkd K (a + 10) = 5 := congrArg Prod.fst (hH.sub hk0 2 (t := (10, 5, 0)) rfl)
      refine e_7_2 hx hb hts hown hK hH hk0 (hts _ wd_24) dX7_thread_63 ?_
      have k11 : K.1 (a + 15) = (10, 6) := hH.sub k10 4 (t := (5, 10, 6)) rfl
      refine e_4_4 hx hb hts hown hK hH k10 (hts _ wd_609) dX7_thread_66 ?_
      refine lv_iload_n hx hb dX7_thread_69 rfl (lv_at hl 1 rfl) ?_
      obtain ⟨h13, hf⟩ := gd_some hf
      refine g_iald hx hb hK hH k11 h13 dX7_thread_70 ?_
      have ho := Option.some.inj hf
      exact W.iret (v := (gI g (a + 15) p0.toNatClampNeg)) hx hb hr (fun t ht hW => ⟨⟨(gI g (a + 15) p0.toNatClampNeg), (), rfl, ho, hrE ht hH⟩, hS.F ht⟩) hS.2.2 dX7_thread_71
    have hf := hg.2 c9
    have hg := gif hf
    by_cases c14 : p1 = 2
    · have hf := hg.1 c14
      refine lv_tableIn (off := 60) (tgt := 72) hx hb dX7_thread_12 (by rw [c14]; decide) (by rw [c14]; decide) (by rw [c14]; decide +kernel) (by decide) ?_
      refine lv_aload_n hx hb dX7_thread_72 rfl (lv_at hl 0 rfl) ?_
      have k15 : gkd K (a + 10) = 5 := congrArg Prod.fst (hH.sub hk0 2 (t := (10, 5, 0)) rfl)
      refine e_7_2 hx hb hts hown hK hH hk0 (hts _ wd_24) dX7_thread_73 ?_
      have k16 : K.1 (a + 16) = (10, 6) := hH.sub k15 5 (t := (6, 10, 6)) rfl
      refine e_4_5 hx hb hts hown hK hH k15 (hts _ wd_610) dX7_thread_76 ?_
      refine lv_iload_n hx hb dX7_thread_79 rfl (lv_at hl 1 rfl) ?_
      obtain ⟨h18, hf⟩ := gd_some hf
      refine g_iald hx hb hK hH k16 h18 dX7_thread_80 ?_
      have ho := Option.some.inj hf
      exact W.iret (v := (gI g (a + 16) p0.toNatClampNeg)) hx hb hr (fun t ht hW => ⟨⟨(gI g (a + 16) p0.toNatClampNeg), (), rfl, ho, hrE ht hH⟩, hS.F ht⟩) hS.2.2 dX7_thread_81
    have hf := hg.2 c14
    have hg := gif hf
    by_cases c19 : p1 = 3
    · have hf := hg.1 c19
      refine lv_tableIn (off := 70) (tgt := 82) hx hb dX7_thread_12 (by rw [c19]; decide) (by rw [c19]; decide) (by rw [c19]; decide +kernel) (by decide) ?_
      refine lv_aload_n hx hb dX7_thread_82 rfl (lv_at hl 0 rfl) ?_
      have k20 : gkd K (a + 10) = 5 := congrArg Prod.fst (hH.sub hk0 2 (t := (10, 5, 0)) rfl)
      refine e_7_2 hx hb hts hown hK hH hk0 (hts _ wd_24) dX7_thread_83 ?_
      have k21 : K.1 (a + 17) = (10, 6) := hH.sub k20 6 (t := (7, 10, 6)) rfl
      refine e_4_6 hx hb hts hown hK hH k20 (hts _ wd_611) dX7_thread_86 ?_
      refine lv_iload_n hx hb dX7_thread_89 rfl (lv_at hl 1 rfl) ?_
      obtain ⟨h23, hf⟩ := gd_some hf
      refine g_iald hx hb hK hH k21 h23 dX7_thread_90 ?_
      have ho := Option.some.inj hf
      exact W.iret (v := (gI g (a + 17) p0.toNatClampNeg)) hx hb hr (fun t ht hW => ⟨⟨(gI g (a + 17) p0.toNatClampNeg), (), rfl, ho, hrE ht hH⟩, hS.F ht⟩) hS.2.2 dX7_thread_91
    have hf := hg.2 c19
    have hg := gif hf
    by_cases c24 : p1 = 4
    · have hf := hg.1 c24
      refine lv_tableIn (off := 80) (tgt := 92) hx hb dX7_thread_12 (by rw [c24]; decide) (by rw [c24]; decide) (by rw [c24]; decide +kernel) (by decide) ?_
      refine lv_aload_n hx hb dX7_thread_92 rfl (lv_at hl 0 rfl) ?_
      have k25 : gkd K (a + 10) = 5 := congrArg Prod.fst (hH.sub hk0 2 (t := (10, 5, 0)) rfl)
      refine e_7_2 hx hb hts hown hK hH hk0 (hts _ wd_24) dX7_thread_93 ?_
      refine lv_iload_n hx hb dX7_thread_96 rfl (lv_at hl 1 rfl) ?_
      obtain ⟨v26, h27, hf⟩ := gbind hf
      refine g_Vi (As := [.int p0]) (rest := []) ⟨hx, hb, hml, hown, hts⟩ (c4_clothPicks l w K g S (a + 10) p0 v26 h27 k25) (gcwV hts i4_clothPicks wd_612 rfl rfl ⟨Nat.le_of_ble_eq_true rfl, Nat.le_of_ble_eq_true rfl⟩) (gRecv.of hK rfl (hH.o5 k25)) hH hK hS hl.1 rfl rfl (Nat.le_of_ble_eq_true rfl) dX7_thread_97 ⟨Nat.le_refl _, Nat.le_refl _⟩ (fun H locs hH hS => ?_)
      have ho := Option.some.inj hf
      exact W.iret (v := v26) hx hb hr (fun t ht hW => ⟨⟨v26, (), rfl, ho, hrE ht hH⟩, hS.F ht⟩) hS.2.2 dX7_thread_100
    have hf := hg.2 c24
    have hg := gif hf
    by_cases c28 : p1 = 5
    · have hf := hg.1 c28
      refine lv_tableIn (off := 89) (tgt := 101) hx hb dX7_thread_12 (by rw [c28]; decide) (by rw [c28]; decide) (by rw [c28]; decide +kernel) (by decide) ?_
      refine lv_aload_n hx hb dX7_thread_101 rfl (lv_at hl 0 rfl) ?_
      have k29 : gkd K (a + 10) = 5 := congrArg Prod.fst (hH.sub hk0 2 (t := (10, 5, 0)) rfl)
      refine e_7_2 hx hb hts hown hK hH hk0 (hts _ wd_24) dX7_thread_102 ?_
      refine lv_iload_n hx hb dX7_thread_105 rfl (lv_at hl 1 rfl) ?_
      obtain ⟨v30, h31, hf⟩ := gbind hf
      refine g_Vi (As := [.int p0]) (rest := []) ⟨hx, hb, hml, hown, hts⟩ (c4_longestRow l w K g S (a + 10) p0 v30 h31 k29) (gcwV hts i4_longestRow wd_616 rfl rfl ⟨Nat.le_of_ble_eq_true rfl, Nat.le_of_ble_eq_true rfl⟩) (gRecv.of hK rfl (hH.o5 k29)) hH hK hS hl.1 rfl rfl (Nat.le_of_ble_eq_true rfl) dX7_thread_106 ⟨Nat.le_refl _, Nat.le_refl _⟩ (fun H locs hH hS => ?_)
      have ho := Option.some.inj hf
      exact W.iret (v := v30) hx hb hr (fun t ht hW => ⟨⟨v30, (), rfl, ho, hrE ht hH⟩, hS.F ht⟩) hS.2.2 dX7_thread_109
    have hf := hg.2 c28
    have nc4 : p1.toInt ≠ 0 := g_ne c4 (by decide)
    have nc9 : p1.toInt ≠ 1 := g_ne c9 (by decide)
    have nc14 : p1.toInt ≠ 2 := g_ne c14 (by decide)
    have nc19 : p1.toInt ≠ 3 := g_ne c19 (by decide)
    have nc24 : p1.toInt ≠ 4 := g_ne c24 (by decide)
    have nc28 : p1.toInt ≠ 5 := g_ne c28 (by decide)
    refine lv_tableOut (tgt := 110) hx hb dX7_thread_12 (by omega) (by decide) ?_
    refine lv_bipush (v := (-2)) hx hb dX7_thread_110 (by decide) ?_
    have ho := Option.some.inj hf
    exact W.iret (v := (-2)) hx hb hr (fun t ht hW => ⟨⟨(-2), (), rfl, ho, hrE ht hH⟩, hS.F ht⟩) hS.2.2 dX7_thread_112
  · have hf := hg.1 c3
    refine lv_iconst (v := (-1)) hx hb dX7_thread_9 (by decide) ?_
    have ho := Option.some.inj hf
    exact W.iret (v := (-1)) hx hb hr (fun t ht hW => ⟨⟨(-1), (), rfl, ho, hrE ht hH⟩, hS.F ht⟩) hS.2.2 dX7_thread_10
set_option maxRecDepth 100000 in
set_option maxHeartbeats 8000000 in
theorem c7_tie (l : Launch) (w : GW) (K : GK) (g : GM) (S : GS) (a : Nat) (p0 : Int32) (p1 : Int32) (out : GM × Int32) (hf : f7_tie K g a p0 p1 = some out) (hk0 : gkd K a = 8) : Met l yX7_tie (wA yX7_tie cX7_tie 3 (some .int)) ({ frames := 5, cells := 0, slots := 0, locals := 144 } : Room) (PRE w K g S [.ref a, .int p0, .int p1]) (QI w K out.1 S out.2) 0 0 (FR w) := by
  unfold f7_tie at hf
  refine Met.ofW (cc := cX7_tie) (maxL := 3) (ret := (some .int)) (by decide) rfl ?_
  intro p e s m args below meth c s₁ B hml hv
  obtain ⟨rfl, hH, hK⟩ := hv
  have hx := B.exec
  have hb := B.bytes
  have hr := B.returns
  have hts : ∀ q ∈ gALL, q.before _ s = true := fun q h => atoms_spec (ws := (wA yX7_tie cX7_tie 3 (some .int))) B.pre q (List.mem_cons_of_mem _ h)
  have hown : s.vm.findClass RX7 = some m.cls := findClass_of_methodNamed B.named
  have hlocks := B.notSynchronized
  have hS : va_S (FR w) s.heap s.heap [] := va_S.rf
  show W p l e ({ frames := 5, cells := 0, slots := 0, locals := 144 } : Room) s m _ below meth c s.heap [] 0 0 (MQ below (QI w K out.1 S out.2) _ s 0 0 (FR w)) _
  have hl := lv_entry ([.ref a, .int p0, .int p1]) (n := 3) (Nat.le_of_ble_eq_true rfl)
  rw [lg_entry_eq]
  generalize (lg_sl ([.ref a, .int p0, .int p1]) ++ List.replicate (3 - (lg_sl ([.ref a, .int p0, .int p1])).length) Slot.unset).toArray = ls at hl ⊢
  clear B
  generalize ([.ref a, .int p0, .int p1] : List Value).toArray = args at hts ⊢
  have hl : lv_has ls 3 [(0, .ref a), (1, .int p0), (2, .int p1)] := hl
  refine lv_iload_n hx hb dX7_tie_0 rfl (lv_at hl 1 rfl) ?_
  refine lv_bipush (v := 6) hx hb dX7_tie_1 (by decide) ?_
  obtain ⟨v1, h2, hf⟩ := gbind hf
  refine g_Si (As := [.int p0, .int 6]) (rest := []) ⟨hx, hb, hml, hown, hts⟩ (c7_inRange l w K g S p0 6 v1 h2) (gcwS hts i7_inRange wd_118 rfl rfl ⟨Nat.le_of_ble_eq_true rfl, Nat.le_of_ble_eq_true rfl⟩) hH hK hS hl.1 rfl rfl (Nat.le_of_ble_eq_true rfl) dX7_tie_3 ⟨Nat.le_refl _, Nat.le_refl _⟩ (fun H locs hH hS => ?_)
  have hg := gif hf
  refine lv_if_ne (tgt := 11) hx hb dX7_tie_6 (by decide) (fun c3 => ?_) (fun c3 => ?_)
  · have hf := hg.2 c3
    refine lv_iload_n hx hb dX7_tie_11 rfl (lv_at hl 2 rfl) ?_
    refine lv_iconst (v := 1) hx hb dX7_tie_12 (by decide) ?_
    have hg := gif hf
    refine lv_icmp_lt (tgt := 22) hx hb dX7_tie_13 (by decide) (fun c4 => ?_) (fun c4 => ?_)
    · have hf := hg.1 c4
      refine lv_bipush (v := (-2)) hx hb dX7_tie_22 (by decide) ?_
      have ho := Option.some.inj hf
      exact W.iret (v := (-2)) hx hb hr (fun t ht hW => ⟨⟨(-2), (), rfl, congrArg Prod.snd ho, hrP ht ho hH⟩, hS.F ht⟩) hS.2.2 dX7_tie_24
    · have hf := hg.2 c4
      refine lv_iload_n hx hb dX7_tie_16 rfl (lv_at hl 2 rfl) ?_
      refine lv_bipush (v := 99) hx hb dX7_tie_17 (by decide) ?_
      have hg := gif hf
      refine lv_icmp_le (tgt := 25) hx hb dX7_tie_19 (by decide) (fun c5 => ?_) (fun c5 => ?_)
      · have hf := hg.1 c5
        refine lv_aload_n hx hb dX7_tie_25 rfl (lv_at hl 0 rfl) ?_
        have k6 : gkd K (a + 42) = 4 := congrArg Prod.fst (hH.sub hk0 4 (t := (42, 4, 0)) rfl)
        refine e_7_4 hx hb hts hown hK hH hk0 (hts _ wd_29) dX7_tie_26 ?_
        refine lv_aload_n hx hb dX7_tie_29 rfl (lv_at hl 0 rfl) ?_
        have k7 : gkd K (a + 10) = 5 := congrArg Prod.fst (hH.sub hk0 2 (t := (10, 5, 0)) rfl)
        refine e_7_2 hx hb hts hown hK hH hk0 (hts _ wd_24) dX7_tie_30 ?_
        obtain ⟨g8, h9, hf⟩ := gbind hf
        refine g_Vv (As := [.ref (a + 10)]) (rest := []) ⟨hx, hb, hml, hown, hts⟩ (c3_keep l w K g S (a + 42) (a + 10) g8 h9 k6) (gcwV hts i3_keep wd_121 rfl rfl ⟨Nat.le_of_ble_eq_true rfl, Nat.le_of_ble_eq_true rfl⟩) (gRecv.of hK rfl (hH.o4 k6)) hH hK hS hl.1 rfl rfl (Nat.le_of_ble_eq_true rfl) dX7_tie_33 ⟨Nat.le_refl _, Nat.le_refl _⟩ (fun H locs hH hS => ?_)
        refine lv_aload_n hx hb dX7_tie_36 rfl (lv_at hl 0 rfl) ?_
        refine e_7_2 hx hb hts hown hK hH hk0 (hts _ wd_24) dX7_tie_37 ?_
        refine lv_iload_n hx hb dX7_tie_40 rfl (lv_at hl 1 rfl) ?_
        refine lv_iload_n hx hb dX7_tie_41 rfl (lv_at hl 2 rfl) ?_
        obtain ⟨r10, h11, hf⟩ := gbind hf
        refine g_Vi (As := [.int p0, .int p1]) (rest := []) ⟨hx, hb, hml, hown, hts⟩ (c4_tieThread l w K g8 S (a + 10) p0 p1 r10 h11 k7) (gcwV hts i4_tieThread wd_545 rfl rfl ⟨Nat.le_of_ble_eq_true rfl, Nat.le_of_ble_eq_true rfl⟩) (gRecv.of hK rfl (hH.o5 k7)) hH hK hS hl.1 rfl rfl (Nat.le_of_ble_eq_true rfl) dX7_tie_42 ⟨Nat.le_refl _, Nat.le_refl _⟩ (fun H locs hH hS => ?_)
        have ho := Option.some.inj hf
        exact W.iret (v := r10.2) hx hb hr (fun t ht hW => ⟨⟨r10.2, (), rfl, congrArg Prod.snd ho, hrP ht ho hH⟩, hS.F ht⟩) hS.2.2 dX7_tie_45
      · have hf := hg.2 c5
        refine lv_bipush (v := (-2)) hx hb dX7_tie_22 (by decide) ?_
        have ho := Option.some.inj hf
        exact W.iret (v := (-2)) hx hb hr (fun t ht hW => ⟨⟨(-2), (), rfl, congrArg Prod.snd ho, hrP ht ho hH⟩, hS.F ht⟩) hS.2.2 dX7_tie_24
  · have hf := hg.1 c3
    refine lv_iconst (v := (-1)) hx hb dX7_tie_9 (by decide) ?_
    have ho := Option.some.inj hf
    exact W.iret (v := (-1)) hx hb hr (fun t ht hW => ⟨⟨(-1), (), rfl, congrArg Prod.snd ho, hrP ht ho hH⟩, hS.F ht⟩) hS.2.2 dX7_tie_10
set_option maxRecDepth 100000 in
set_option maxHeartbeats 8000000 in
theorem c7_undo (l : Launch) (w : GW) (K : GK) (g : GM) (S : GS) (a : Nat) (out : GM × Int32) (hf : f7_undo K g a = some out) (hk0 : gkd K a = 8) : Met l yX7_undo (wA yX7_undo cX7_undo 1 (some .int)) ({ frames := 5, cells := 0, slots := 0, locals := 144 } : Room) (PRE w K g S [.ref a]) (QI w K out.1 S out.2) 0 0 (FR w) := by
  unfold f7_undo at hf
  refine Met.ofW (cc := cX7_undo) (maxL := 1) (ret := (some .int)) (by decide) rfl ?_
  intro p e s m args below meth c s₁ B hml hv
  obtain ⟨rfl, hH, hK⟩ := hv
  have hx := B.exec
  have hb := B.bytes
  have hr := B.returns
  have hts : ∀ q ∈ gALL, q.before _ s = true := fun q h => atoms_spec (ws := (wA yX7_undo cX7_undo 1 (some .int))) B.pre q (List.mem_cons_of_mem _ h)
  have hown : s.vm.findClass RX7 = some m.cls := findClass_of_methodNamed B.named
  have hlocks := B.notSynchronized
  have hS : va_S (FR w) s.heap s.heap [] := va_S.rf
  show W p l e ({ frames := 5, cells := 0, slots := 0, locals := 144 } : Room) s m _ below meth c s.heap [] 0 0 (MQ below (QI w K out.1 S out.2) _ s 0 0 (FR w)) _
  have hl := lv_entry ([.ref a]) (n := 1) (Nat.le_of_ble_eq_true rfl)
  rw [lg_entry_eq]
  generalize (lg_sl ([.ref a]) ++ List.replicate (1 - (lg_sl ([.ref a])).length) Slot.unset).toArray = ls at hl ⊢
  clear B
  generalize ([.ref a] : List Value).toArray = args at hts ⊢
  have hl : lv_has ls 1 [(0, .ref a)] := hl
  refine lv_aload_n hx hb dX7_undo_0 rfl (lv_at hl 0 rfl) ?_
  have k1 : gkd K (a + 42) = 4 := congrArg Prod.fst (hH.sub hk0 4 (t := (42, 4, 0)) rfl)
  refine e_7_4 hx hb hts hown hK hH hk0 (hts _ wd_29) dX7_undo_1 ?_
  refine e_3_1 hx hb hts hown hK hH k1 (hts _ wd_706) dX7_undo_4 ?_
  have hg := gif hf
  refine lv_if_ne (tgt := 13) hx hb dX7_undo_7 (by decide) (fun c2 => ?_) (fun c2 => ?_)
  · have hf := hg.2 c2
    refine lv_aload_n hx hb dX7_undo_13 rfl (lv_at hl 0 rfl) ?_
    refine e_7_4 hx hb hts hown hK hH hk0 (hts _ wd_29) dX7_undo_14 ?_
    refine lv_aload_n hx hb dX7_undo_17 rfl (lv_at hl 0 rfl) ?_
    have k3 : gkd K (a + 10) = 5 := congrArg Prod.fst (hH.sub hk0 2 (t := (10, 5, 0)) rfl)
    refine e_7_2 hx hb hts hown hK hH hk0 (hts _ wd_24) dX7_undo_18 ?_
    obtain ⟨g4, h5, hf⟩ := gbind hf
    refine g_Vv (As := [.ref (a + 10)]) (rest := []) ⟨hx, hb, hml, hown, hts⟩ (c3_takeBack l w K g S (a + 42) (a + 10) g4 h5 k1) (gcwV hts i3_takeBack wd_912 rfl rfl ⟨Nat.le_of_ble_eq_true rfl, Nat.le_of_ble_eq_true rfl⟩) (gRecv.of hK rfl (hH.o4 k1)) hH hK hS hl.1 rfl rfl (Nat.le_of_ble_eq_true rfl) dX7_undo_21 ⟨Nat.le_refl _, Nat.le_refl _⟩ (fun H locs hH hS => ?_)
    refine lv_aload_n hx hb dX7_undo_24 rfl (lv_at hl 0 rfl) ?_
    refine e_7_4 hx hb hts hown hK hH hk0 (hts _ wd_29) dX7_undo_25 ?_
    refine e_3_1 hx hb hts hown hK hH k1 (hts _ wd_706) dX7_undo_28 ?_
    have ho := Option.some.inj hf
    exact W.iret (v := (gI g4 (a + 42) 1)) hx hb hr (fun t ht hW => ⟨⟨(gI g4 (a + 42) 1), (), rfl, congrArg Prod.snd ho, hrP ht ho hH⟩, hS.F ht⟩) hS.2.2 dX7_undo_31
  · have hf := hg.1 c2
    refine lv_bipush (v := (-5)) hx hb dX7_undo_10 (by decide) ?_
    have ho := Option.some.inj hf
    exact W.iret (v := (-5)) hx hb hr (fun t ht hW => ⟨⟨(-5), (), rfl, congrArg Prod.snd ho, hrP ht ho hH⟩, hS.F ht⟩) hS.2.2 dX7_undo_12
set_option maxRecDepth 100000 in
set_option maxHeartbeats 8000000 in
theorem c7_weave (l : Launch) (w : GW) (K : GK) (g : GM) (S : GS) (a : Nat) (p0 : Int32) (out : GM × Int32) (hf : f7_weave K g a p0 = some out) (hk0 : gkd K a = 8) : Met l yX7_weave (wA yX7_weave cX7_weave 2 (some .int)) ({ frames := 6, cells := 0, slots := 0, locals := 144 } : Room) (PRE w K g S [.ref a, .int p0]) (QI w K out.1 S out.2) 0 0 (FR w) := by
  unfold f7_weave at hf
  refine Met.ofW (cc := cX7_weave) (maxL := 2) (ret := (some .int)) (by decide) rfl ?_
  intro p e s m args below meth c s₁ B hml hv
  obtain ⟨rfl, hH, hK⟩ := hv
  have hx := B.exec
  have hb := B.bytes
  have hr := B.returns
  have hts : ∀ q ∈ gALL, q.before _ s = true := fun q h => atoms_spec (ws := (wA yX7_weave cX7_weave 2 (some .int))) B.pre q (List.mem_cons_of_mem _ h)
  have hown : s.vm.findClass RX7 = some m.cls := findClass_of_methodNamed B.named
  have hlocks := B.notSynchronized
  have hS : va_S (FR w) s.heap s.heap [] := va_S.rf
  show W p l e ({ frames := 6, cells := 0, slots := 0, locals := 144 } : Room) s m _ below meth c s.heap [] 0 0 (MQ below (QI w K out.1 S out.2) _ s 0 0 (FR w)) _
  have hl := lv_entry ([.ref a, .int p0]) (n := 2) (Nat.le_of_ble_eq_true rfl)
  rw [lg_entry_eq]
  generalize (lg_sl ([.ref a, .int p0]) ++ List.replicate (2 - (lg_sl ([.ref a, .int p0])).length) Slot.unset).toArray = ls at hl ⊢
  clear B
  generalize ([.ref a, .int p0] : List Value).toArray = args at hts ⊢
  have hl : lv_has ls 2 [(0, .ref a), (1, .int p0)] := hl
  refine lv_iload_n hx hb dX7_weave_0 rfl (lv_at hl 1 rfl) ?_
  refine lv_iconst (v := 1) hx hb dX7_weave_1 (by decide) ?_
  have hg := gif hf
  refine lv_icmp_lt (tgt := 11) hx hb dX7_weave_2 (by decide) (fun c1 => ?_) (fun c1 => ?_)
  · have hf := hg.1 c1
    refine lv_bipush (v := (-2)) hx hb dX7_weave_11 (by decide) ?_
    have ho := Option.some.inj hf
    exact W.iret (v := (-2)) hx hb hr (fun t ht hW => ⟨⟨(-2), (), rfl, congrArg Prod.snd ho, hrP ht ho hH⟩, hS.F ht⟩) hS.2.2 dX7_weave_13
  · have hf := hg.2 c1
    refine lv_iload_n hx hb dX7_weave_5 rfl (lv_at hl 1 rfl) ?_
    refine lv_bipush (v := 99) hx hb dX7_weave_6 (by decide) ?_
    have hg := gif hf
    refine lv_icmp_le (tgt := 14) hx hb dX7_weave_8 (by decide) (fun c2 => ?_) (fun c2 => ?_)
    · have hf := hg.1 c2
      refine lv_aload_n hx hb dX7_weave_14 rfl (lv_at hl 0 rfl) ?_
      have k3 : gkd K (a + 42) = 4 := congrArg Prod.fst (hH.sub hk0 4 (t := (42, 4, 0)) rfl)
      refine e_7_4 hx hb hts hown hK hH hk0 (hts _ wd_29) dX7_weave_15 ?_
      refine lv_aload_n hx hb dX7_weave_18 rfl (lv_at hl 0 rfl) ?_
      have k4 : gkd K (a + 10) = 5 := congrArg Prod.fst (hH.sub hk0 2 (t := (10, 5, 0)) rfl)
      refine e_7_2 hx hb hts hown hK hH hk0 (hts _ wd_24) dX7_weave_19 ?_
      obtain ⟨g5, h6, hf⟩ := gbind hf
      refine g_Vv (As := [.ref (a + 10)]) (rest := []) ⟨hx, hb, hml, hown, hts⟩ (c3_keep l w K g S (a + 42) (a + 10) g5 h6 k3) (gcwV hts i3_keep wd_121 rfl rfl ⟨Nat.le_of_ble_eq_true rfl, Nat.le_of_ble_eq_true rfl⟩) (gRecv.of hK rfl (hH.o4 k3)) hH hK hS hl.1 rfl rfl (Nat.le_of_ble_eq_true rfl) dX7_weave_22 ⟨Nat.le_refl _, Nat.le_refl _⟩ (fun H locs hH hS => ?_)
      refine lv_aload_n hx hb dX7_weave_25 rfl (lv_at hl 0 rfl) ?_
      refine e_7_2 hx hb hts hown hK hH hk0 (hts _ wd_24) dX7_weave_26 ?_
      refine lv_iload_n hx hb dX7_weave_29 rfl (lv_at hl 1 rfl) ?_
      obtain ⟨r7, h8, hf⟩ := gbind hf
      refine g_Vi (As := [.int p0]) (rest := []) ⟨hx, hb, hml, hown, hts⟩ (c4_goOn l w K g5 S (a + 10) p0 r7 h8 k4) (gcwV hts i4_goOn wd_372 rfl rfl ⟨Nat.le_of_ble_eq_true rfl, Nat.le_of_ble_eq_true rfl⟩) (gRecv.of hK rfl (hH.o5 k4)) hH hK hS hl.1 rfl rfl (Nat.le_of_ble_eq_true rfl) dX7_weave_30 ⟨Nat.le_refl _, Nat.le_refl _⟩ (fun H locs hH hS => ?_)
      have ho := Option.some.inj hf
      exact W.iret (v := r7.2) hx hb hr (fun t ht hW => ⟨⟨r7.2, (), rfl, congrArg Prod.snd ho, hrP ht ho hH⟩, hS.F ht⟩) hS.2.2 dX7_weave_33
    · have hf := hg.2 c2
      refine lv_bipush (v := (-2)) hx hb dX7_weave_11 (by decide) ?_
      have ho := Option.some.inj hf
      exact W.iret (v := (-2)) hx hb hr (fun t ht hW => ⟨⟨(-2), (), rfl, congrArg Prod.snd ho, hrP ht ho hH⟩, hS.F ht⟩) hS.2.2 dX7_weave_13
set_option maxRecDepth 100000 in
set_option maxHeartbeats 8000000 in
theorem c7_wipe (l : Launch) (w : GW) (K : GK) (g : GM) (S : GS) (a : Nat) (out : GM × Int32) (hf : f7_wipe K g a = some out) (hk0 : gkd K a = 8) : Met l yX7_wipe (wA yX7_wipe cX7_wipe 2 (some .int)) ({ frames := 0, cells := 0, slots := 0, locals := 0 } : Room) (PRE w K g S [.ref a]) (QI w K out.1 S out.2) 0 0 (FR w) := by
  unfold f7_wipe at hf
  refine Met.ofW (cc := cX7_wipe) (maxL := 2) (ret := (some .int)) (by decide) rfl ?_
  intro p e s m args below meth c s₁ B hml hv
  obtain ⟨rfl, hH, hK⟩ := hv
  have hx := B.exec
  have hb := B.bytes
  have hr := B.returns
  have hts : ∀ q ∈ gALL, q.before _ s = true := fun q h => atoms_spec (ws := (wA yX7_wipe cX7_wipe 2 (some .int))) B.pre q (List.mem_cons_of_mem _ h)
  have hown : s.vm.findClass RX7 = some m.cls := findClass_of_methodNamed B.named
  have hlocks := B.notSynchronized
  have hS : va_S (FR w) s.heap s.heap [] := va_S.rf
  show W p l e ({ frames := 0, cells := 0, slots := 0, locals := 0 } : Room) s m _ below meth c s.heap [] 0 0 (MQ below (QI w K out.1 S out.2) _ s 0 0 (FR w)) _
  have hl := lv_entry ([.ref a]) (n := 2) (Nat.le_of_ble_eq_true rfl)
  rw [lg_entry_eq]
  generalize (lg_sl ([.ref a]) ++ List.replicate (2 - (lg_sl ([.ref a])).length) Slot.unset).toArray = ls at hl ⊢
  clear B
  generalize ([.ref a] : List Value).toArray = args at hts ⊢
  have hl : lv_has ls 2 [(0, .ref a)] := hl
  refine lv_aload_n hx hb dX7_wipe_0 rfl (lv_at hl 0 rfl) ?_
  have k1 : gkd K (a + 1) = 6 := congrArg Prod.fst (hH.sub hk0 0 (t := (1, 6, 0)) rfl)
  refine e_7_0 hx hb hts hown hK hH hk0 (hts _ wd_16) dX7_wipe_1 ?_
  refine e_5_1 hx hb hts hown hK hH k1 (hts _ wd_179) dX7_wipe_4 ?_
  refine lv_topi (fun v2 ev2 => ?_)
  have hf := gl_at hf ev2
  refine lv_istore_n (lv' := [(1, .int v2), (0, .ref a)]) hx hb dX7_wipe_7 rfl hl (by decide) rfl (fun ls hl => ?_)
  refine lv_aload_n hx hb dX7_wipe_8 rfl (lv_at hl 1 rfl) ?_
  refine e_7_0 hx hb hts hown hK hH hk0 (hts _ wd_16) dX7_wipe_9 ?_
  refine lv_iconst (v := 0) hx hb dX7_wipe_12 (by decide) ?_
  refine p_5_1 hx hb hts hown hK hH hS k1 (hts _ wd_179) dX7_wipe_13 (fun H locs hH hS => ?_)
  obtain ⟨g3, eg3⟩ : ∃ z : GM, z = gsI g (a + 1) 1 0 := ⟨_, rfl⟩
  have hf := gl_at hf eg3
  replace hH : HR w K g3 S H := by rw [eg3]; exact hH
  refine lv_iload_n hx hb dX7_wipe_16 rfl (lv_at hl 0 rfl) ?_
  have ho := Option.some.inj hf
  exact W.iret (v := v2) hx hb hr (fun t ht hW => ⟨⟨v2, (), rfl, congrArg Prod.snd ho, hrP ht ho hH⟩, hS.F ht⟩) hS.2.2 dX7_wipe_17
set_option maxRecDepth 100000 in
set_option maxHeartbeats 8000000 in
theorem c7_write (l : Launch) (w : GW) (K : GK) (g : GM) (S : GS) (a : Nat) (p0 : Int32) (out : GM × Int32) (hf : f7_write K g a p0 = some out) (hk0 : gkd K a = 8) : Met l yX7_write (wA yX7_write cX7_write 3 (some .int)) ({ frames := 2, cells := 0, slots := 0, locals := 81 } : Room) (PRE w K g S [.ref a, .int p0]) (QI w K out.1 S out.2) 0 0 (FR w) := by
  unfold f7_write at hf
  refine Met.ofW (cc := cX7_write) (maxL := 3) (ret := (some .int)) (by decide) rfl ?_
  intro p e s m args below meth c s₁ B hml hv
  obtain ⟨rfl, hH, hK⟩ := hv
  have hx := B.exec
  have hb := B.bytes
  have hr := B.returns
  have hts : ∀ q ∈ gALL, q.before _ s = true := fun q h => atoms_spec (ws := (wA yX7_write cX7_write 3 (some .int))) B.pre q (List.mem_cons_of_mem _ h)
  have hown : s.vm.findClass RX7 = some m.cls := findClass_of_methodNamed B.named
  have hlocks := B.notSynchronized
  have hS : va_S (FR w) s.heap s.heap [] := va_S.rf
  show W p l e ({ frames := 2, cells := 0, slots := 0, locals := 81 } : Room) s m _ below meth c s.heap [] 0 0 (MQ below (QI w K out.1 S out.2) _ s 0 0 (FR w)) _
  have hl := lv_entry ([.ref a, .int p0]) (n := 3) (Nat.le_of_ble_eq_true rfl)
  rw [lg_entry_eq]
  generalize (lg_sl ([.ref a, .int p0]) ++ List.replicate (3 - (lg_sl ([.ref a, .int p0])).length) Slot.unset).toArray = ls at hl ⊢
  clear B
  generalize ([.ref a, .int p0] : List Value).toArray = args at hts ⊢
  have hl : lv_has ls 3 [(0, .ref a), (1, .int p0)] := hl
  refine lv_iload_n hx hb dX7_write_0 rfl (lv_at hl 1 rfl) ?_
  refine lv_bipush (v := 10) hx hb dX7_write_1 (by decide) ?_
  obtain ⟨v1, h2, hf⟩ := gbind hf
  refine g_Si (As := [.int p0, .int 10]) (rest := []) ⟨hx, hb, hml, hown, hts⟩ (c7_inRange l w K g S p0 10 v1 h2) (gcwS hts i7_inRange wd_118 rfl rfl ⟨Nat.le_of_ble_eq_true rfl, Nat.le_of_ble_eq_true rfl⟩) hH hK hS hl.1 rfl rfl (Nat.le_of_ble_eq_true rfl) dX7_write_3 ⟨Nat.le_refl _, Nat.le_refl _⟩ (fun H locs hH hS => ?_)
  have hg := gif hf
  refine lv_if_ne (tgt := 11) hx hb dX7_write_6 (by decide) (fun c3 => ?_) (fun c3 => ?_)
  · have hf := hg.2 c3
    refine lv_aload_n hx hb dX7_write_11 rfl (lv_at hl 0 rfl) ?_
    have k4 : gkd K (a + 10) = 5 := congrArg Prod.fst (hH.sub hk0 2 (t := (10, 5, 0)) rfl)
    refine e_7_2 hx hb hts hown hK hH hk0 (hts _ wd_24) dX7_write_12 ?_
    have k5 : K.1 (a + 11) = (13, 10) := hH.sub k4 0 (t := (1, 13, 10)) rfl
    refine e_4_0 hx hb hts hown hK hH k4 (hts _ wd_178) dX7_write_15 ?_
    refine lv_iload_n hx hb dX7_write_18 rfl (lv_at hl 1 rfl) ?_
    obtain ⟨h7, hf⟩ := gd_some hf
    refine g_tald hx hb hK hH k5 h7 dX7_write_19 ?_
    rcases gopt_c hf with ⟨q9, hf⟩ | ⟨t8, q9, hf⟩
    · refine g_rfN q9 ?_
      refine lv_astore_nN (lv' := [(2, .null), (0, .ref a), (1, .int p0)]) hx hb dX7_write_20 rfl hl (by decide) rfl (fun ls hl => ?_)
      refine lv_aload_nN hx hb dX7_write_21 rfl (lv_at hl 0 rfl) ?_
      refine lv_ifnonnullN hx hb dX7_write_22 ?_
      refine lv_bipush (v := (-5)) hx hb dX7_write_25 (by decide) ?_
      have ho := Option.some.inj hf
      exact W.iret (v := (-5)) hx hb hr (fun t ht hW => ⟨⟨(-5), (), rfl, congrArg Prod.snd ho, hrP ht ho hH⟩, hS.F ht⟩) hS.2.2 dX7_write_27
    · refine g_rfS q9 ?_
      refine lv_astore_n (lv' := [(2, .ref t8), (0, .ref a), (1, .int p0)]) hx hb dX7_write_20 rfl hl (by decide) rfl (fun ls hl => ?_)
      refine lv_aload_n hx hb dX7_write_21 rfl (lv_at hl 0 rfl) ?_
      refine lv_ifnonnull (tgt := 28) hx hb dX7_write_22 (by decide) ?_
      refine lv_aload_n hx hb dX7_write_28 rfl (lv_at hl 1 rfl) ?_
      have k10 : gkd K (a + 1) = 6 := congrArg Prod.fst (hH.sub hk0 0 (t := (1, 6, 0)) rfl)
      refine e_7_0 hx hb hts hown hK hH hk0 (hts _ wd_16) dX7_write_29 ?_
      refine lv_aload_n hx hb dX7_write_32 rfl (lv_at hl 0 rfl) ?_
      obtain ⟨g11, h12, hf⟩ := gbind hf
      refine g_Vv (As := [va_rf (some t8)]) (rest := []) ⟨hx, hb, hml, hown, hts⟩ (c5_takeOver l w K g S (a + 1) ((some t8)) g11 h12 k10) (gcwV hts i5_takeOver wd_678 rfl rfl ⟨Nat.le_of_ble_eq_true rfl, Nat.le_of_ble_eq_true rfl⟩) (gRecv.of hK rfl (hH.o6 k10)) hH hK hS hl.1 rfl rfl (Nat.le_of_ble_eq_true rfl) dX7_write_33 ⟨Nat.le_refl _, Nat.le_refl _⟩ (fun H locs hH hS => ?_)
      refine lv_aload_n hx hb dX7_write_36 rfl (lv_at hl 1 rfl) ?_
      refine e_7_0 hx hb hts hown hK hH hk0 (hts _ wd_16) dX7_write_37 ?_
      refine e_5_1 hx hb hts hown hK hH k10 (hts _ wd_179) dX7_write_40 ?_
      have ho := Option.some.inj hf
      exact W.iret (v := (gI g11 (a + 1) 1)) hx hb hr (fun t ht hW => ⟨⟨(gI g11 (a + 1) 1), (), rfl, congrArg Prod.snd ho, hrP ht ho hH⟩, hS.F ht⟩) hS.2.2 dX7_write_43
  · have hf := hg.1 c3
    refine lv_iconst (v := (-1)) hx hb dX7_write_9 (by decide) ?_
    have ho := Option.some.inj hf
    exact W.iret (v := (-1)) hx hb hr (fun t ht hW => ⟨⟨(-1), (), rfl, congrArg Prod.snd ho, hrP ht ho hH⟩, hS.F ht⟩) hS.2.2 dX7_write_10
