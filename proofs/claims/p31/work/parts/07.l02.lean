/-! contracts, by program -/
set_option maxRecDepth 100000 in
set_option maxHeartbeats 8000000 in
theorem c9_at2 (l : Launch) (w : GW) (K : GK) (g : GM) (S : GS) (p1 : Int32) (p2 : Int32) (out : Int32) (hf : f9_at2 S p1 p2 = some out) : Met l yL_at (wA yL_at cL_at 3 (some .int)) ({ frames := 0, cells := 0, slots := 0, locals := 0 } : Room) (PRE w K g S [.ref (w.2.2.2 + 2), .int p1, .int p2]) (QI w K g S out) 0 0 (FR w) := by
  unfold f9_at2 at hf
  refine Met.ofW (cc := cL_at) (maxL := 3) (ret := (some .int)) (by decide) rfl ?_
  intro p e s m args below meth c s₁ B hml hv
  obtain ⟨rfl, hH, hK⟩ := hv
  have hx := B.exec
  have hb := B.bytes
  have hr := B.returns
  have hts : ∀ q ∈ gALL, q.before _ s = true := fun q h => atoms_spec (ws := (wA yL_at cL_at 3 (some .int))) B.pre q (List.mem_cons_of_mem _ h)
  have hown : s.vm.findClass RL = some m.cls := findClass_of_methodNamed B.named
  have hlocks := B.notSynchronized
  have hS : va_S (FR w) s.heap s.heap [] := va_S.rf
  show W p l e ({ frames := 0, cells := 0, slots := 0, locals := 0 } : Room) s m _ below meth c s.heap [] 0 0 (MQ below (QI w K g S out) _ s 0 0 (FR w)) _
  have hl := lv_entry ([.ref (w.2.2.2 + 2), .int p1, .int p2]) (n := 3) (Nat.le_of_ble_eq_true rfl)
  rw [lg_entry_eq]
  generalize (lg_sl ([.ref (w.2.2.2 + 2), .int p1, .int p2]) ++ List.replicate (3 - (lg_sl ([.ref (w.2.2.2 + 2), .int p1, .int p2])).length) Slot.unset).toArray = ls at hl ⊢
  clear B
  generalize ([.ref (w.2.2.2 + 2), .int p1, .int p2] : List Value).toArray = args at hts ⊢
  have hl : lv_has ls 3 [(0, .ref (w.2.2.2 + 2)), (1, .int p1), (2, .int p2)] := hl
  refine lv_aload_n hx hb dL_at_0 rfl (lv_at hl 0 rfl) ?_
  refine lv_bipush (v := 6) hx hb dL_at_1 (by decide) ?_
  refine lv_iload_n hx hb dL_at_3 rfl (lv_at hl 1 rfl) ?_
  refine lv_imul hx hb dL_at_4 ?_
  refine lv_iload_n hx hb dL_at_5 rfl (lv_at hl 2 rfl) ?_
  refine lv_iconst (v := 4) hx hb dL_at_6 (by decide) ?_
  refine lv_idiv hx hb dL_at_7 (by decide) ?_
  refine lv_iadd hx hb dL_at_8 ?_
  obtain ⟨h3, hf⟩ := gd_some hf
  refine m_iald hx hb hK hH 2 (by decide) rfl h3 dL_at_9 ?_
  refine lv_bipush (v := 8) hx hb dL_at_10 (by decide) ?_
  refine lv_iload_n hx hb dL_at_12 rfl (lv_at hl 2 rfl) ?_
  refine lv_iconst (v := 4) hx hb dL_at_13 (by decide) ?_
  refine lv_irem hx hb dL_at_14 (by decide) ?_
  refine lv_imul hx hb dL_at_15 ?_
  refine lv_ishr hx hb dL_at_16 ?_
  refine lv_sipush (v := 255) hx hb dL_at_17 (by decide) ?_
  refine lv_iand hx hb dL_at_20 ?_
  have ho := Option.some.inj hf
  exact W.iret (v := (((S 2 ((6 * p1) + (p2 / (4 : Int32))).toNatClampNeg) >>> ((8 * (p2 - p2 / (4 : Int32) * (4 : Int32))) &&& 31)) &&& 255)) hx hb hr (fun t ht hW => ⟨⟨(((S 2 ((6 * p1) + (p2 / (4 : Int32))).toNatClampNeg) >>> ((8 * (p2 - p2 / (4 : Int32) * (4 : Int32))) &&& 31)) &&& 255), (), rfl, congrArg (fun q => q) ho, (hrE ht hH)⟩, hS.F ht⟩) hS.2.2 dL_at_21
set_option maxRecDepth 100000 in
set_option maxHeartbeats 8000000 in
theorem c9_at6 (l : Launch) (w : GW) (K : GK) (g : GM) (S : GS) (p1 : Int32) (p2 : Int32) (out : Int32) (hf : f9_at6 S p1 p2 = some out) : Met l yL_at (wA yL_at cL_at 3 (some .int)) ({ frames := 0, cells := 0, slots := 0, locals := 0 } : Room) (PRE w K g S [.ref (w.2.2.2 + 6), .int p1, .int p2]) (QI w K g S out) 0 0 (FR w) := by
  unfold f9_at6 at hf
  refine Met.ofW (cc := cL_at) (maxL := 3) (ret := (some .int)) (by decide) rfl ?_
  intro p e s m args below meth c s₁ B hml hv
  obtain ⟨rfl, hH, hK⟩ := hv
  have hx := B.exec
  have hb := B.bytes
  have hr := B.returns
  have hts : ∀ q ∈ gALL, q.before _ s = true := fun q h => atoms_spec (ws := (wA yL_at cL_at 3 (some .int))) B.pre q (List.mem_cons_of_mem _ h)
  have hown : s.vm.findClass RL = some m.cls := findClass_of_methodNamed B.named
  have hlocks := B.notSynchronized
  have hS : va_S (FR w) s.heap s.heap [] := va_S.rf
  show W p l e ({ frames := 0, cells := 0, slots := 0, locals := 0 } : Room) s m _ below meth c s.heap [] 0 0 (MQ below (QI w K g S out) _ s 0 0 (FR w)) _
  have hl := lv_entry ([.ref (w.2.2.2 + 6), .int p1, .int p2]) (n := 3) (Nat.le_of_ble_eq_true rfl)
  rw [lg_entry_eq]
  generalize (lg_sl ([.ref (w.2.2.2 + 6), .int p1, .int p2]) ++ List.replicate (3 - (lg_sl ([.ref (w.2.2.2 + 6), .int p1, .int p2])).length) Slot.unset).toArray = ls at hl ⊢
  clear B
  generalize ([.ref (w.2.2.2 + 6), .int p1, .int p2] : List Value).toArray = args at hts ⊢
  have hl : lv_has ls 3 [(0, .ref (w.2.2.2 + 6)), (1, .int p1), (2, .int p2)] := hl
  refine lv_aload_n hx hb dL_at_0 rfl (lv_at hl 0 rfl) ?_
  refine lv_bipush (v := 6) hx hb dL_at_1 (by decide) ?_
  refine lv_iload_n hx hb dL_at_3 rfl (lv_at hl 1 rfl) ?_
  refine lv_imul hx hb dL_at_4 ?_
  refine lv_iload_n hx hb dL_at_5 rfl (lv_at hl 2 rfl) ?_
  refine lv_iconst (v := 4) hx hb dL_at_6 (by decide) ?_
  refine lv_idiv hx hb dL_at_7 (by decide) ?_
  refine lv_iadd hx hb dL_at_8 ?_
  obtain ⟨h3, hf⟩ := gd_some hf
  refine m_iald hx hb hK hH 6 (by decide) rfl h3 dL_at_9 ?_
  refine lv_bipush (v := 8) hx hb dL_at_10 (by decide) ?_
  refine lv_iload_n hx hb dL_at_12 rfl (lv_at hl 2 rfl) ?_
  refine lv_iconst (v := 4) hx hb dL_at_13 (by decide) ?_
  refine lv_irem hx hb dL_at_14 (by decide) ?_
  refine lv_imul hx hb dL_at_15 ?_
  refine lv_ishr hx hb dL_at_16 ?_
  refine lv_sipush (v := 255) hx hb dL_at_17 (by decide) ?_
  refine lv_iand hx hb dL_at_20 ?_
  have ho := Option.some.inj hf
  exact W.iret (v := (((S 6 ((6 * p1) + (p2 / (4 : Int32))).toNatClampNeg) >>> ((8 * (p2 - p2 / (4 : Int32) * (4 : Int32))) &&& 31)) &&& 255)) hx hb hr (fun t ht hW => ⟨⟨(((S 6 ((6 * p1) + (p2 / (4 : Int32))).toNatClampNeg) >>> ((8 * (p2 - p2 / (4 : Int32) * (4 : Int32))) &&& 31)) &&& 255), (), rfl, congrArg (fun q => q) ho, (hrE ht hH)⟩, hS.F ht⟩) hS.2.2 dL_at_21
set_option maxRecDepth 100000 in
set_option maxHeartbeats 8000000 in
theorem c9_begins (l : Launch) (w : GW) (K : GK) (g : GM) (S : GS) (p0 : Int32) (p1 : Int32) (p2 : Int32) (out : GS) (hf : f9_begins S p0 p1 p2 = some out) : Met l yL_begins (wA yL_begins cL_begins 5 none) ({ frames := 0, cells := 0, slots := 0, locals := 0 } : Room) (PRE w K g S [.int p0, .int p1, .int p2, .ref (w.2.2.2 + 4), .ref (w.2.2.2 + 5)]) (QV w K g out) 0 0 (FR w) := by
  unfold f9_begins at hf
  refine Met.ofW (cc := cL_begins) (maxL := 5) (ret := none) (by decide) rfl ?_
  intro p e s m args below meth c s₁ B hml hv
  obtain ⟨rfl, hH, hK⟩ := hv
  have hx := B.exec
  have hb := B.bytes
  have hr := B.returns
  have hts : ∀ q ∈ gALL, q.before _ s = true := fun q h => atoms_spec (ws := (wA yL_begins cL_begins 5 none)) B.pre q (List.mem_cons_of_mem _ h)
  have hown : s.vm.findClass RL = some m.cls := findClass_of_methodNamed B.named
  have hlocks := B.notSynchronized
  have hS : va_S (FR w) s.heap s.heap [] := va_S.rf
  show W p l e ({ frames := 0, cells := 0, slots := 0, locals := 0 } : Room) s m _ below meth c s.heap [] 0 0 (MQ below (QV w K g out) _ s 0 0 (FR w)) _
  have hl := lv_entry ([.int p0, .int p1, .int p2, .ref (w.2.2.2 + 4), .ref (w.2.2.2 + 5)]) (n := 5) (Nat.le_of_ble_eq_true rfl)
  rw [lg_entry_eq]
  generalize (lg_sl ([.int p0, .int p1, .int p2, .ref (w.2.2.2 + 4), .ref (w.2.2.2 + 5)]) ++ List.replicate (5 - (lg_sl ([.int p0, .int p1, .int p2, .ref (w.2.2.2 + 4), .ref (w.2.2.2 + 5)])).length) Slot.unset).toArray = ls at hl ⊢
  clear B
  generalize ([.int p0, .int p1, .int p2, .ref (w.2.2.2 + 4), .ref (w.2.2.2 + 5)] : List Value).toArray = args at hts ⊢
  have hl : lv_has ls 5 [(0, .int p0), (1, .int p1), (2, .int p2), (3, .ref (w.2.2.2 + 4)), (4, .ref (w.2.2.2 + 5))] := hl
  refine lv_aload hx hb dL_begins_0 (lv_at hl 4 rfl) ?_
  refine lv_iload_n hx hb dL_begins_2 rfl (lv_at hl 2 rfl) ?_
  refine lv_iconst (v := 2) hx hb dL_begins_3 (by decide) ?_
  refine lv_aload_n hx hb dL_begins_4 rfl (lv_at hl 3 rfl) ?_
  refine lv_iload_n hx hb dL_begins_5 rfl (lv_at hl 2 rfl) ?_
  refine lv_iconst (v := 4) hx hb dL_begins_6 (by decide) ?_
  refine lv_iadd hx hb dL_begins_7 ?_
  obtain ⟨h2, hf⟩ := gd_some hf
  refine m_iald hx hb hK hH 4 (by decide) rfl h2 dL_begins_8 ?_
  refine lv_imul hx hb dL_begins_9 ?_
  refine lv_iadd hx hb dL_begins_10 ?_
  refine lv_aload_n hx hb dL_begins_11 rfl (lv_at hl 3 rfl) ?_
  refine lv_iload_n hx hb dL_begins_12 rfl (lv_at hl 2 rfl) ?_
  refine lv_iconst (v := 2) hx hb dL_begins_13 (by decide) ?_
  refine lv_iadd hx hb dL_begins_14 ?_
  obtain ⟨h4, hf⟩ := gd_some hf
  refine m_iald hx hb hK hH 4 (by decide) rfl h4 dL_begins_15 ?_
  obtain ⟨h6, hf⟩ := gd_some hf
  refine m_iast hx hb hK hH hS 5 (by decide) rfl h6 dL_begins_16 (fun H locs hH hS => ?_)
  obtain ⟨S7, eS7⟩ : ∃ z : GS, z = ssI S 5 (p2 + (2 * (S 4 (p2 + 4).toNatClampNeg))).toNatClampNeg (S 4 (p2 + 2).toNatClampNeg) := ⟨_, rfl⟩
  have hf := gl_at hf eS7
  replace hH : HR w K g S7 H := by rw [eS7]; exact hH
  refine lv_aload hx hb dL_begins_17 (lv_at hl 4 rfl) ?_
  refine lv_iload_n hx hb dL_begins_19 rfl (lv_at hl 2 rfl) ?_
  refine lv_iconst (v := 2) hx hb dL_begins_20 (by decide) ?_
  refine lv_aload_n hx hb dL_begins_21 rfl (lv_at hl 3 rfl) ?_
  refine lv_iload_n hx hb dL_begins_22 rfl (lv_at hl 2 rfl) ?_
  refine lv_iconst (v := 4) hx hb dL_begins_23 (by decide) ?_
  refine lv_iadd hx hb dL_begins_24 ?_
  refine m_iald hx hb hK hH 4 (by decide) rfl h2 dL_begins_25 ?_
  refine lv_imul hx hb dL_begins_26 ?_
  refine lv_iadd hx hb dL_begins_27 ?_
  refine lv_iconst (v := 1) hx hb dL_begins_28 (by decide) ?_
  refine lv_iadd hx hb dL_begins_29 ?_
  refine lv_iload_n hx hb dL_begins_30 rfl (lv_at hl 0 rfl) ?_
  obtain ⟨h10, hf⟩ := gd_some hf
  refine m_iast hx hb hK hH hS 5 (by decide) rfl h10 dL_begins_31 (fun H locs hH hS => ?_)
  obtain ⟨S11, eS11⟩ : ∃ z : GS, z = ssI S7 5 ((p2 + (2 * (S7 4 (p2 + 4).toNatClampNeg))) + 1).toNatClampNeg p0 := ⟨_, rfl⟩
  have hf := gl_at hf eS11
  replace hH : HR w K g S11 H := by rw [eS11]; exact hH
  refine lv_aload_n hx hb dL_begins_32 rfl (lv_at hl 3 rfl) ?_
  refine lv_iload_n hx hb dL_begins_33 rfl (lv_at hl 2 rfl) ?_
  refine lv_iconst (v := 4) hx hb dL_begins_34 (by decide) ?_
  refine lv_iadd hx hb dL_begins_35 ?_
  refine lv_dup2_11 hx hb dL_begins_36 rfl rfl ?_
  refine m_iald hx hb hK hH 4 (by decide) rfl h2 dL_begins_37 ?_
  refine lv_iconst (v := 1) hx hb dL_begins_38 (by decide) ?_
  refine lv_iadd hx hb dL_begins_39 ?_
  refine m_iast hx hb hK hH hS 4 (by decide) rfl h2 dL_begins_40 (fun H locs hH hS => ?_)
  obtain ⟨S14, eS14⟩ : ∃ z : GS, z = ssI S11 4 (p2 + 4).toNatClampNeg ((S11 4 (p2 + 4).toNatClampNeg) + 1) := ⟨_, rfl⟩
  have hf := gl_at hf eS14
  replace hH : HR w K g S14 H := by rw [eS14]; exact hH
  refine lv_aload_n hx hb dL_begins_41 rfl (lv_at hl 3 rfl) ?_
  refine lv_iload_n hx hb dL_begins_42 rfl (lv_at hl 2 rfl) ?_
  refine lv_iconst (v := 3) hx hb dL_begins_43 (by decide) ?_
  refine lv_iadd hx hb dL_begins_44 ?_
  refine lv_iconst (v := 0) hx hb dL_begins_45 (by decide) ?_
  obtain ⟨h16, hf⟩ := gd_some hf
  refine m_iast hx hb hK hH hS 4 (by decide) rfl h16 dL_begins_46 (fun H locs hH hS => ?_)
  obtain ⟨S17, eS17⟩ : ∃ z : GS, z = ssI S14 4 (p2 + 3).toNatClampNeg 0 := ⟨_, rfl⟩
  have hf := gl_at hf eS17
  replace hH : HR w K g S17 H := by rw [eS17]; exact hH
  refine lv_aload_n hx hb dL_begins_47 rfl (lv_at hl 3 rfl) ?_
  refine lv_iload_n hx hb dL_begins_48 rfl (lv_at hl 2 rfl) ?_
  refine lv_iconst (v := 2) hx hb dL_begins_49 (by decide) ?_
  refine lv_iadd hx hb dL_begins_50 ?_
  refine lv_dup2_11 hx hb dL_begins_51 rfl rfl ?_
  refine m_iald hx hb hK hH 4 (by decide) rfl h4 dL_begins_52 ?_
  refine lv_iload_n hx hb dL_begins_53 rfl (lv_at hl 1 rfl) ?_
  refine lv_iadd hx hb dL_begins_54 ?_
  refine m_iast hx hb hK hH hS 4 (by decide) rfl h4 dL_begins_55 (fun H locs hH hS => ?_)
  obtain ⟨S20, eS20⟩ : ∃ z : GS, z = ssI S17 4 (p2 + 2).toNatClampNeg ((S17 4 (p2 + 2).toNatClampNeg) + p1) := ⟨_, rfl⟩
  have hf := gl_at hf eS20
  replace hH : HR w K g S20 H := by rw [eS20]; exact hH
  have ho := Option.some.inj hf
  exact W.vret hx hb hr (fun t ht hW => ⟨⟨(), rfl, trivial, (by subst ho; exact hrE ht hH)⟩, hS.F ht⟩) hS.2.2 dL_begins_56
set_option maxRecDepth 100000 in
set_option maxHeartbeats 8000000 in
theorem c9_behind (l : Launch) (w : GW) (K : GK) (g : GM) (S : GS) (p0 : Int32) (p1 : Int32) (out : Int32) (hf : f9_behind S p0 p1 = some out) : Met l yL_behind (wA yL_behind cL_behind 5 (some .int)) ({ frames := 1, cells := 0, slots := 0, locals := 22 } : Room) (PRE w K g S [.int p0, .int p1, .ref (w.2.2.2 + 6)]) (QI w K g S out) 0 0 (FR w) := by
  unfold f9_behind at hf
  refine Met.ofW (cc := cL_behind) (maxL := 5) (ret := (some .int)) (by decide) rfl ?_
  intro p e s m args below meth c s₁ B hml hv
  obtain ⟨rfl, hH, hK⟩ := hv
  have hx := B.exec
  have hb := B.bytes
  have hr := B.returns
  have hts : ∀ q ∈ gALL, q.before _ s = true := fun q h => atoms_spec (ws := (wA yL_behind cL_behind 5 (some .int))) B.pre q (List.mem_cons_of_mem _ h)
  have hown : s.vm.findClass RL = some m.cls := findClass_of_methodNamed B.named
  have hlocks := B.notSynchronized
  have hS : va_S (FR w) s.heap s.heap [] := va_S.rf
  show W p l e ({ frames := 1, cells := 0, slots := 0, locals := 22 } : Room) s m _ below meth c s.heap [] 0 0 (MQ below (QI w K g S out) _ s 0 0 (FR w)) _
  have hl := lv_entry ([.int p0, .int p1, .ref (w.2.2.2 + 6)]) (n := 5) (Nat.le_of_ble_eq_true rfl)
  rw [lg_entry_eq]
  generalize (lg_sl ([.int p0, .int p1, .ref (w.2.2.2 + 6)]) ++ List.replicate (5 - (lg_sl ([.int p0, .int p1, .ref (w.2.2.2 + 6)])).length) Slot.unset).toArray = ls at hl ⊢
  clear B
  generalize ([.int p0, .int p1, .ref (w.2.2.2 + 6)] : List Value).toArray = args at hts ⊢
  have B63 : ∀ (k22 : Int32 → Int32 → Option (Int32)), (∀ (x3 : Int32) (x4 : Int32) (H : Heap) (locs : List Loc) (ls : Array Slot), HR w K g S H → va_S (FR w) s.heap H locs → lv_has ls 5 [(0, .int p0), (2, .ref (w.2.2.2 + 6)), (3, .int x3), (4, .int x4)] → k22 x3 x4 = some out → W p l e ({ frames := 1, cells := 0, slots := 0, locals := 22 } : Room) s m args below meth c H locs 0 0 (MQ below (QI w K g S out) args s 0 0 (FR w)) (F0 m 22 ls [])) → ∀ (x3 : Int32) (s0 : Int32) (s1 : Int32) (H : Heap) (locs : List Loc) (ls : Array Slot), HR w K g S H → va_S (FR w) s.heap H locs → lv_has ls 5 [(0, .int p0), (2, .ref (w.2.2.2 + 6)), (3, .int x3)] → f9_behind_63 k22 S p0 p1 x3 s0 s1 = some out → W p l e ({ frames := 1, cells := 0, slots := 0, locals := 22 } : Room) s m args below meth c H locs 0 0 (MQ below (QI w K g S out) args s 0 0 (FR w)) (F0 m 63 ls [.int s1, .int s0]) := by
    intro k22 hk22 x3 s0 s1 H locs ls hH hS hl hf
    unfold f9_behind_63 at hf
    refine lv_iadd hx hb dL_behind_63 ?_
    refine lv_topi (fun v1 ev1 => ?_)
    have hf := gl_at hf ev1
    refine lv_istore (lv' := [(4, .int v1), (0, .int p0), (2, .ref (w.2.2.2 + 6)), (3, .int x3)]) hx hb dL_behind_64 hl (by decide) rfl (fun ls hl => ?_)
    refine lv_goto (tgt := 22) hx hb dL_behind_66 (by decide) ?_
    exact hk22 _ _ _ _ _ hH hS (lv_sub hl [1, 2, 3, 0] rfl) hf
  have B22 : ∀ n : Nat, ∀ (x3 : Int32) (x4 : Int32) (H : Heap) (locs : List Loc) (ls : Array Slot), HR w K g S H → va_S (FR w) s.heap H locs → lv_has ls 5 [(0, .int p0), (2, .ref (w.2.2.2 + 6)), (3, .int x3), (4, .int x4)] → f9_behind_22 S p0 p1 n x3 x4 = some out → W p l e ({ frames := 1, cells := 0, slots := 0, locals := 22 } : Room) s m args below meth c H locs 0 0 (MQ below (QI w K g S out) args s 0 0 (FR w)) (F0 m 22 ls []) := by
    intro n
    induction n with
    | zero =>
      intro x3 x4 H locs ls hH hS hl hf
      cases hf
    | succ n ih =>
      intro x3 x4 H locs ls hH hS hl hf
      rw [f9_behind_22] at hf
      refine lv_iload hx hb dL_behind_22 (lv_at hl 3 rfl) ?_
      have hg := gif hf
      refine lv_if_le (tgt := 69) hx hb dL_behind_24 (by decide) (fun c2 => ?_) (fun c2 => ?_)
      · have hf := hg.1 c2
        refine lv_iload_n hx hb dL_behind_69 rfl (lv_at hl 2 rfl) ?_
        refine lv_iconst (v := 1) hx hb dL_behind_70 (by decide) ?_
        refine lv_iadd hx hb dL_behind_71 ?_
        have ho := Option.some.inj hf
        exact W.iret (v := (x3 + 1)) hx hb hr (fun t ht hW => ⟨⟨(x3 + 1), (), rfl, congrArg (fun q => q) ho, (hrE ht hH)⟩, hS.F ht⟩) hS.2.2 dL_behind_72
      · have hf := hg.2 c2
        obtain ⟨v3, ev3⟩ : ∃ z : Int32, z = x3 + 1 := ⟨_, rfl⟩
        have hf := gl_at hf ev3
        refine lv_iinc (v := v3) (lv' := [(3, .int v3), (0, .int p0), (2, .ref (w.2.2.2 + 6)), (4, .int x4)]) hx hb dL_behind_27 hl (k := 2) rfl (by rw [ev3]; rfl) (by decide) rfl (fun ls hl => ?_)
        refine lv_iload hx hb dL_behind_30 (lv_at hl 3 rfl) ?_
        refine lv_aload_n hx hb dL_behind_32 rfl (lv_at hl 2 rfl) ?_
        refine lv_iload_n hx hb dL_behind_33 rfl (lv_at hl 1 rfl) ?_
        refine lv_iload_n hx hb dL_behind_34 rfl (lv_at hl 0 rfl) ?_
        obtain ⟨v4, h5, hf⟩ := gbind hf
        refine g_Si (As := [.ref (w.2.2.2 + 6), .int p0, .int v3]) (rest := [.int x4]) ⟨hx, hb, hml, hown, hts⟩ (c9_at6 l w K g S p0 v3 v4 h5) (gcwS hts i9_at wd_324 rfl rfl ⟨Nat.le_of_ble_eq_true rfl, Nat.le_of_ble_eq_true rfl⟩) hH hK hS hl.1 rfl rfl (Nat.le_of_ble_eq_true rfl) dL_behind_35 ⟨Nat.le_refl _, Nat.le_refl _⟩ (fun H locs hH hS => ?_)
        refine lv_bipush (v := 40) hx hb dL_behind_38 (by decide) ?_
        have hg := gif hf
        refine lv_icmp_ne (tgt := 47) hx hb dL_behind_40 (by decide) (fun c6 => ?_) (fun c6 => ?_)
        · have hf := hg.2 c6
          refine lv_aload_n hx hb dL_behind_47 rfl (lv_at hl 2 rfl) ?_
          refine lv_iload_n hx hb dL_behind_48 rfl (lv_at hl 1 rfl) ?_
          refine lv_iload_n hx hb dL_behind_49 rfl (lv_at hl 0 rfl) ?_
          obtain ⟨v7, h8, hf⟩ := gbind hf
          refine g_Si (As := [.ref (w.2.2.2 + 6), .int p0, .int v3]) (rest := [.int x4]) ⟨hx, hb, hml, hown, hts⟩ (c9_at6 l w K g S p0 v3 v7 h8) (gcwS hts i9_at wd_324 rfl rfl ⟨Nat.le_of_ble_eq_true rfl, Nat.le_of_ble_eq_true rfl⟩) hH hK hS hl.1 rfl rfl (Nat.le_of_ble_eq_true rfl) dL_behind_50 ⟨Nat.le_refl _, Nat.le_refl _⟩ (fun H locs hH hS => ?_)
          refine lv_bipush (v := 41) hx hb dL_behind_53 (by decide) ?_
          have hg := gif hf
          refine lv_icmp_ne (tgt := 62) hx hb dL_behind_55 (by decide) (fun c9 => ?_) (fun c9 => ?_)
          · have hf := hg.2 c9
            refine lv_iconst (v := 0) hx hb dL_behind_62 (by decide) ?_
            exact B63 _ (ih) _ _ _ _ _ _ hH hS (lv_sub hl [1, 2, 0] rfl) hf
          · have hf := hg.1 c9
            refine lv_iconst (v := (-1)) hx hb dL_behind_58 (by decide) ?_
            refine lv_goto (tgt := 63) hx hb dL_behind_59 (by decide) ?_
            exact B63 _ (ih) _ _ _ _ _ _ hH hS (lv_sub hl [1, 2, 0] rfl) hf
        · have hf := hg.1 c6
          refine lv_iconst (v := 1) hx hb dL_behind_43 (by decide) ?_
          refine lv_goto (tgt := 63) hx hb dL_behind_44 (by decide) ?_
          exact B63 _ (ih) _ _ _ _ _ _ hH hS (lv_sub hl [1, 2, 0] rfl) hf
  have B2 : ∀ n : Nat, ∀ (x3 : Int32) (H : Heap) (locs : List Loc) (ls : Array Slot), HR w K g S H → va_S (FR w) s.heap H locs → lv_has ls 5 [(0, .int p0), (2, .ref (w.2.2.2 + 6)), (3, .int x3)] → f9_behind_2 S p0 p1 n x3 = some out → W p l e ({ frames := 1, cells := 0, slots := 0, locals := 22 } : Room) s m args below meth c H locs 0 0 (MQ below (QI w K g S out) args s 0 0 (FR w)) (F0 m 2 ls []) := by
    intro n
    induction n with
    | zero =>
      intro x3 H locs ls hH hS hl hf
      cases hf
    | succ n ih =>
      intro x3 H locs ls hH hS hl hf
      rw [f9_behind_2] at hf
      refine lv_aload_n hx hb dL_behind_2 rfl (lv_at hl 1 rfl) ?_
      refine lv_iload_n hx hb dL_behind_3 rfl (lv_at hl 0 rfl) ?_
      refine lv_iload_n hx hb dL_behind_4 rfl (lv_at hl 2 rfl) ?_
      obtain ⟨v10, h11, hf⟩ := gbind hf
      refine g_Si (As := [.ref (w.2.2.2 + 6), .int p0, .int x3]) (rest := []) ⟨hx, hb, hml, hown, hts⟩ (c9_at6 l w K g S p0 x3 v10 h11) (gcwS hts i9_at wd_324 rfl rfl ⟨Nat.le_of_ble_eq_true rfl, Nat.le_of_ble_eq_true rfl⟩) hH hK hS hl.1 rfl rfl (Nat.le_of_ble_eq_true rfl) dL_behind_5 ⟨Nat.le_refl _, Nat.le_refl _⟩ (fun H locs hH hS => ?_)
      refine lv_bipush (v := 40) hx hb dL_behind_8 (by decide) ?_
      have hg := gif hf
      refine lv_icmp_eq (tgt := 19) hx hb dL_behind_10 (by decide) (fun c12 => ?_) (fun c12 => ?_)
      · have hf := hg.1 c12
        refine lv_iconst (v := 1) hx hb dL_behind_19 (by decide) ?_
        refine lv_istore (lv' := [(4, .int 1), (0, .int p0), (2, .ref (w.2.2.2 + 6)), (3, .int x3)]) hx hb dL_behind_20 hl (by decide) rfl (fun ls hl => ?_)
        exact B22 _ _ _ _ _ _ hH hS (lv_sub hl [1, 2, 3, 0] rfl) hf
      · have hf := hg.2 c12
        obtain ⟨v13, ev13⟩ : ∃ z : Int32, z = x3 + 1 := ⟨_, rfl⟩
        have hf := gl_at hf ev13
        refine lv_iinc (v := v13) (lv' := [(3, .int v13), (0, .int p0), (2, .ref (w.2.2.2 + 6))]) hx hb dL_behind_13 hl (k := 2) rfl (by rw [ev13]; rfl) (by decide) rfl (fun ls hl => ?_)
        refine lv_goto (tgt := 2) hx hb dL_behind_16 (by decide) ?_
        exact ih _ _ _ _ hH hS (lv_sub hl [1, 2, 0] rfl) hf
  have hl : lv_has ls 5 [(0, .int p0), (1, .int p1), (2, .ref (w.2.2.2 + 6))] := hl
  refine lv_iload_n hx hb dL_behind_0 rfl (lv_at hl 1 rfl) ?_
  refine lv_istore_n (lv' := [(3, .int p1), (0, .int p0), (1, .int p1), (2, .ref (w.2.2.2 + 6))]) hx hb dL_behind_1 rfl hl (by decide) rfl (fun ls hl => ?_)
  exact B2 _ _ _ _ _ hH hS (lv_sub hl [1, 3, 0] rfl) hf
set_option maxRecDepth 100000 in
set_option maxHeartbeats 8000000 in
theorem c9_call (l : Launch) (w : GW) (K : GK) (g : GM) (S : GS) (p0 : Nat) (p1 : Int32) (p2 : Int32) (p3 : Int32) (out : GK × GM × Int32) (hf : f9_call K g p0 p1 p2 p3 = some out) : Met l yL_call (wA yL_call cL_call 4 (some .int)) ({ frames := 7, cells := 6, slots := 409, locals := 167 } : Room) (PSET w K g S [.ref p0, .int p1, .int p2, .int p3]) (QI w out.1 out.2.1 S out.2.2) 6 409 (FR w) := by
  unfold f9_call at hf
  refine Met.ofW (cc := cL_call) (maxL := 4) (ret := (some .int)) (by decide) rfl ?_
  intro p e s m args below meth c s₁ B hml hv
  obtain ⟨rfl, hH, hK, hG⟩ := hv
  have hx := B.exec
  have hb := B.bytes
  have hr := B.returns
  have hts : ∀ q ∈ gALL, q.before _ s = true := fun q h => atoms_spec (ws := (wA yL_call cL_call 4 (some .int))) B.pre q (List.mem_cons_of_mem _ h)
  have hown : s.vm.findClass RL = some m.cls := findClass_of_methodNamed B.named
  have hlocks := B.notSynchronized
  have hS : va_S (FR w) s.heap s.heap [] := va_S.rf
  show W p l e ({ frames := 7, cells := 6, slots := 409, locals := 167 } : Room) s m _ below meth c s.heap [] 0 0 (MQ below (QI w out.1 out.2.1 S out.2.2) _ s 6 409 (FR w)) _
  have hl := lv_entry ([.ref p0, .int p1, .int p2, .int p3]) (n := 4) (Nat.le_of_ble_eq_true rfl)
  rw [lg_entry_eq]
  generalize (lg_sl ([.ref p0, .int p1, .int p2, .int p3]) ++ List.replicate (4 - (lg_sl ([.ref p0, .int p1, .int p2, .int p3])).length) Slot.unset).toArray = ls at hl ⊢
  clear B
  generalize ([.ref p0, .int p1, .int p2, .int p3] : List Value).toArray = args at hts ⊢
  have hl : lv_has ls 4 [(0, .ref p0), (1, .int p1), (2, .int p2), (3, .int p3)] := hl
  refine lv_iload_n hx hb dL_call_0 rfl (lv_at hl 1 rfl) ?_
  have hg := gif hf
  by_cases c1 : p1 = 0
  · have hf := hg.1 c1
    refine lv_tableIn (off := 43) (tgt := 44) hx hb dL_call_1 (by rw [c1]; decide) (by rw [c1]; decide) (by rw [c1]; decide +kernel) (by decide) ?_
    refine lv_aload_n hx hb dL_call_44 rfl (lv_at hl 0 rfl) ?_
    refine lv_iload_n hx hb dL_call_45 rfl (lv_at hl 2 rfl) ?_
    obtain ⟨k2, hf⟩ := gd_some hf
    have k2 := gk_obj k2
    obtain ⟨r3, h4, hf⟩ := gbind hf
    refine g_Vi (As := [.int p2]) (rest := []) ⟨hx, hb, hml, hown, hts⟩ (c7_card l w K g S p0 p2 r3 h4 k2) (gcwV hts i7_card wd_212 rfl rfl ⟨Nat.le_of_ble_eq_true rfl, Nat.le_of_ble_eq_true rfl⟩) (gRecv.of hK rfl (hH.o8 k2)) hH hK hS hl.1 rfl rfl (Nat.le_of_ble_eq_true rfl) dL_call_46 ⟨Nat.le_of_ble_eq_true rfl, Nat.le_of_ble_eq_true rfl⟩ (fun H locs hH hS => ?_)
    refine W.widen (k := 6) (n := 409) (Nat.le_of_ble_eq_true rfl) (Nat.le_of_ble_eq_true rfl) ?_
    have ho := Option.some.inj hf
    exact W.iret (v := r3.2.2) hx hb hr (fun t ht hW => ⟨⟨r3.2.2, (), rfl, congrArg (fun q => q.2.2) ho, (by subst ho; exact hrE ht hH)⟩, hS.F ht⟩) hS.2.2 dL_call_49
  have hf := hg.2 c1
  have hg := gif hf
  by_cases c5 : p1 = 1
  · have hf := hg.1 c5
    refine lv_tableIn (off := 49) (tgt := 50) hx hb dL_call_1 (by rw [c5]; decide) (by rw [c5]; decide) (by rw [c5]; decide +kernel) (by decide) ?_
    refine lv_aload_n hx hb dL_call_50 rfl (lv_at hl 0 rfl) ?_
    refine lv_iload_n hx hb dL_call_51 rfl (lv_at hl 2 rfl) ?_
    obtain ⟨k6, hf⟩ := gd_some hf
    have k6 := gk_obj k6
    obtain ⟨r7, h8, hf⟩ := gbind hf
    refine g_Vi (As := [.int p2]) (rest := []) ⟨hx, hb, hml, hown, hts⟩ (c7_begin l w K g S p0 p2 r7 h8 k6) (gcwV hts i7_begin wd_330 rfl rfl ⟨Nat.le_of_ble_eq_true rfl, Nat.le_of_ble_eq_true rfl⟩) (gRecv.of hK rfl (hH.o8 k6)) hH hK hS hl.1 rfl rfl (Nat.le_of_ble_eq_true rfl) dL_call_52 ⟨Nat.le_of_ble_eq_true rfl, Nat.le_of_ble_eq_true rfl⟩ (fun H locs hH hS => ?_)
    refine W.widen (k := 6) (n := 409) (Nat.le_of_ble_eq_true rfl) (Nat.le_of_ble_eq_true rfl) ?_
    have ho := Option.some.inj hf
    exact W.iret (v := r7.2) hx hb hr (fun t ht hW => ⟨⟨r7.2, (), rfl, congrArg (fun q => q.2.2) ho, (by subst ho; exact hrE ht hH)⟩, hS.F ht⟩) hS.2.2 dL_call_55
  have hf := hg.2 c5
  have hg := gif hf
  by_cases c9 : p1 = 2
  · have hf := hg.1 c9
    refine lv_tableIn (off := 55) (tgt := 56) hx hb dL_call_1 (by rw [c9]; decide) (by rw [c9]; decide) (by rw [c9]; decide +kernel) (by decide) ?_
    refine lv_aload_n hx hb dL_call_56 rfl (lv_at hl 0 rfl) ?_
    refine lv_iload_n hx hb dL_call_57 rfl (lv_at hl 3 rfl) ?_
    obtain ⟨k10, hf⟩ := gd_some hf
    have k10 := gk_obj k10
    obtain ⟨r11, h12, hf⟩ := gbind hf
    refine g_Vi (As := [.int p3]) (rest := []) ⟨hx, hb, hml, hown, hts⟩ (c7_weave l w K g S p0 p3 r11 h12 k10) (gcwV hts i7_weave wd_351 rfl rfl ⟨Nat.le_of_ble_eq_true rfl, Nat.le_of_ble_eq_true rfl⟩) (gRecv.of hK rfl (hH.o8 k10)) hH hK hS hl.1 rfl rfl (Nat.le_of_ble_eq_true rfl) dL_call_58 ⟨Nat.le_of_ble_eq_true rfl, Nat.le_of_ble_eq_true rfl⟩ (fun H locs hH hS => ?_)
    refine W.widen (k := 6) (n := 409) (Nat.le_of_ble_eq_true rfl) (Nat.le_of_ble_eq_true rfl) ?_
    have ho := Option.some.inj hf
    exact W.iret (v := r11.2) hx hb hr (fun t ht hW => ⟨⟨r11.2, (), rfl, congrArg (fun q => q.2.2) ho, (by subst ho; exact hrE ht hH)⟩, hS.F ht⟩) hS.2.2 dL_call_61
  have hf := hg.2 c9
  have hg := gif hf
  by_cases c13 : p1 = 3
  · have hf := hg.1 c13
    refine lv_tableIn (off := 61) (tgt := 62) hx hb dL_call_1 (by rw [c13]; decide) (by rw [c13]; decide) (by rw [c13]; decide +kernel) (by decide) ?_
    refine lv_aload_n hx hb dL_call_62 rfl (lv_at hl 0 rfl) ?_
    refine lv_iload_n hx hb dL_call_63 rfl (lv_at hl 2 rfl) ?_
    refine lv_iload_n hx hb dL_call_64 rfl (lv_at hl 3 rfl) ?_
    obtain ⟨k14, hf⟩ := gd_some hf
    have k14 := gk_obj k14
    obtain ⟨r15, h16, hf⟩ := gbind hf
    refine g_Vi (As := [.int p2, .int p3]) (rest := []) ⟨hx, hb, hml, hown, hts⟩ (c7_tie l w K g S p0 p2 p3 r15 h16 k14) (gcwV hts i7_tie wd_432 rfl rfl ⟨Nat.le_of_ble_eq_true rfl, Nat.le_of_ble_eq_true rfl⟩) (gRecv.of hK rfl (hH.o8 k14)) hH hK hS hl.1 rfl rfl (Nat.le_of_ble_eq_true rfl) dL_call_65 ⟨Nat.le_of_ble_eq_true rfl, Nat.le_of_ble_eq_true rfl⟩ (fun H locs hH hS => ?_)
    refine W.widen (k := 6) (n := 409) (Nat.le_of_ble_eq_true rfl) (Nat.le_of_ble_eq_true rfl) ?_
    have ho := Option.some.inj hf
    exact W.iret (v := r15.2) hx hb hr (fun t ht hW => ⟨⟨r15.2, (), rfl, congrArg (fun q => q.2.2) ho, (by subst ho; exact hrE ht hH)⟩, hS.F ht⟩) hS.2.2 dL_call_68
  have hf := hg.2 c13
  have hg := gif hf
  by_cases c17 : p1 = 4
  · have hf := hg.1 c17
    refine lv_tableIn (off := 68) (tgt := 69) hx hb dL_call_1 (by rw [c17]; decide) (by rw [c17]; decide) (by rw [c17]; decide +kernel) (by decide) ?_
    refine lv_aload_n hx hb dL_call_69 rfl (lv_at hl 0 rfl) ?_
    obtain ⟨k18, hf⟩ := gd_some hf
    have k18 := gk_obj k18
    obtain ⟨r19, h20, hf⟩ := gbind hf
    refine g_Vi (As := []) (rest := []) ⟨hx, hb, hml, hown, hts⟩ (c7_skip l w K g S p0 r19 h20 k18) (gcwV hts i7_skip wd_440 rfl rfl ⟨Nat.le_of_ble_eq_true rfl, Nat.le_of_ble_eq_true rfl⟩) (gRecv.of hK rfl (hH.o8 k18)) hH hK hS hl.1 rfl rfl (Nat.le_of_ble_eq_true rfl) dL_call_70 ⟨Nat.le_of_ble_eq_true rfl, Nat.le_of_ble_eq_true rfl⟩ (fun H locs hH hS => ?_)
    refine W.widen (k := 6) (n := 409) (Nat.le_of_ble_eq_true rfl) (Nat.le_of_ble_eq_true rfl) ?_
    have ho := Option.some.inj hf
    exact W.iret (v := r19.2) hx hb hr (fun t ht hW => ⟨⟨r19.2, (), rfl, congrArg (fun q => q.2.2) ho, (by subst ho; exact hrE ht hH)⟩, hS.F ht⟩) hS.2.2 dL_call_73
  have hf := hg.2 c17
  have hg := gif hf
  by_cases c21 : p1 = 5
  · have hf := hg.1 c21
    refine lv_tableIn (off := 73) (tgt := 74) hx hb dL_call_1 (by rw [c21]; decide) (by rw [c21]; decide) (by rw [c21]; decide +kernel) (by decide) ?_
    refine lv_aload_n hx hb dL_call_74 rfl (lv_at hl 0 rfl) ?_
    refine lv_iload_n hx hb dL_call_75 rfl (lv_at hl 2 rfl) ?_
    obtain ⟨k22, hf⟩ := gd_some hf
    have k22 := gk_obj k22
    obtain ⟨r23, h24, hf⟩ := gbind hf
    refine g_Vi (As := [.int p2]) (rest := []) ⟨hx, hb, hml, hown, hts⟩ (c7_blank l w K g S p0 p2 r23 h24 k22) (gcwV hts i7_blank wd_446 rfl rfl ⟨Nat.le_of_ble_eq_true rfl, Nat.le_of_ble_eq_true rfl⟩) (gRecv.of hK rfl (hH.o8 k22)) hH hK hS hl.1 rfl rfl (Nat.le_of_ble_eq_true rfl) dL_call_76 ⟨Nat.le_of_ble_eq_true rfl, Nat.le_of_ble_eq_true rfl⟩ (fun H locs hH hS => ?_)
    refine W.widen (k := 6) (n := 409) (Nat.le_of_ble_eq_true rfl) (Nat.le_of_ble_eq_true rfl) ?_
    have ho := Option.some.inj hf
    exact W.iret (v := r23.2) hx hb hr (fun t ht hW => ⟨⟨r23.2, (), rfl, congrArg (fun q => q.2.2) ho, (by subst ho; exact hrE ht hH)⟩, hS.F ht⟩) hS.2.2 dL_call_79
  have hf := hg.2 c21
  have hg := gif hf
  by_cases c25 : p1 = 6
  · have hf := hg.1 c25
    refine lv_tableIn (off := 79) (tgt := 80) hx hb dL_call_1 (by rw [c25]; decide) (by rw [c25]; decide) (by rw [c25]; decide +kernel) (by decide) ?_
    refine lv_aload_n hx hb dL_call_80 rfl (lv_at hl 0 rfl) ?_
    obtain ⟨k26, hf⟩ := gd_some hf
    have k26 := gk_obj k26
    obtain ⟨r27, h28, hf⟩ := gbind hf
    refine g_Vi (As := []) (rest := []) ⟨hx, hb, hml, hown, hts⟩ (c7_cut l w K g S p0 r27 h28 k26) (gcwV hts i7_cut wd_450 rfl rfl ⟨Nat.le_of_ble_eq_true rfl, Nat.le_of_ble_eq_true rfl⟩) (gRecv.of hK rfl (hH.o8 k26)) hH hK hS hl.1 rfl rfl (Nat.le_of_ble_eq_true rfl) dL_call_81 ⟨Nat.le_of_ble_eq_true rfl, Nat.le_of_ble_eq_true rfl⟩ (fun H locs hH hS => ?_)
    refine W.widen (k := 6) (n := 409) (Nat.le_of_ble_eq_true rfl) (Nat.le_of_ble_eq_true rfl) ?_
    have ho := Option.some.inj hf
    exact W.iret (v := r27.2) hx hb hr (fun t ht hW => ⟨⟨r27.2, (), rfl, congrArg (fun q => q.2.2) ho, (by subst ho; exact hrE ht hH)⟩, hS.F ht⟩) hS.2.2 dL_call_84
  have hf := hg.2 c25
  have nc1 : p1.toInt ≠ 0 := g_ne c1 (by decide)
  have nc5 : p1.toInt ≠ 1 := g_ne c5 (by decide)
  have nc9 : p1.toInt ≠ 2 := g_ne c9 (by decide)
  have nc13 : p1.toInt ≠ 3 := g_ne c13 (by decide)
  have nc17 : p1.toInt ≠ 4 := g_ne c17 (by decide)
  have nc21 : p1.toInt ≠ 5 := g_ne c21 (by decide)
  have nc25 : p1.toInt ≠ 6 := g_ne c25 (by decide)
  refine lv_tableOut (tgt := 85) hx hb dL_call_1 (by omega) (by decide) ?_
  refine lv_aload_n hx hb dL_call_85 rfl (lv_at hl 0 rfl) ?_
  refine lv_iload_n hx hb dL_call_86 rfl (lv_at hl 2 rfl) ?_
  refine lv_iload_n hx hb dL_call_87 rfl (lv_at hl 3 rfl) ?_
  obtain ⟨k29, hf⟩ := gd_some hf
  have k29 := gk_obj k29
  obtain ⟨r30, h31, hf⟩ := gbind hf
  refine g_ViS (As := [.int p2, .int p3]) (rest := []) ⟨hx, hb, hml, hown, hts⟩ (c7_set l w K g S p0 p2 p3 r30 h31 k29) (gcwV hts i7_set wd_454 rfl rfl ⟨Nat.le_of_ble_eq_true rfl, Nat.le_of_ble_eq_true rfl⟩) (gRecv.of hK rfl (hH.o8 k29)) hH hK hG hS hl.1 rfl rfl (Nat.le_of_ble_eq_true rfl) dL_call_88 ⟨Nat.le_of_ble_eq_true rfl, Nat.le_of_ble_eq_true rfl⟩ (fun H locs hH hS => ?_)
  refine W.widen (k := 6) (n := 409) (Nat.le_of_ble_eq_true rfl) (Nat.le_of_ble_eq_true rfl) ?_
  have ho := Option.some.inj hf
  exact W.iret (v := r30.2) hx hb hr (fun t ht hW => ⟨⟨r30.2, (), rfl, congrArg (fun q => q.2.2) ho, (by subst ho; exact hrE ht hH)⟩, hS.F ht⟩) hS.2.2 dL_call_91
set_option maxRecDepth 100000 in
set_option maxHeartbeats 8000000 in
theorem c9_calls (l : Launch) (w : GW) (K : GK) (g : GM) (S : GS) (p0 : Int32) (out : Int32) (hf : f9_calls S p0 = some out) : Met l yL_calls (wA yL_calls cL_calls 5 (some .int)) ({ frames := 1, cells := 0, slots := 0, locals := 22 } : Room) (PRE w K g S [.int p0, .ref (w.2.2.2 + 2), .ref (w.2.2.2 + 3)]) (QI w K g S out) 0 0 (FR w) := by
  unfold f9_calls at hf
  refine Met.ofW (cc := cL_calls) (maxL := 5) (ret := (some .int)) (by decide) rfl ?_
  intro p e s m args below meth c s₁ B hml hv
  obtain ⟨rfl, hH, hK⟩ := hv
  have hx := B.exec
  have hb := B.bytes
  have hr := B.returns
  have hts : ∀ q ∈ gALL, q.before _ s = true := fun q h => atoms_spec (ws := (wA yL_calls cL_calls 5 (some .int))) B.pre q (List.mem_cons_of_mem _ h)
  have hown : s.vm.findClass RL = some m.cls := findClass_of_methodNamed B.named
  have hlocks := B.notSynchronized
  have hS : va_S (FR w) s.heap s.heap [] := va_S.rf
  show W p l e ({ frames := 1, cells := 0, slots := 0, locals := 22 } : Room) s m _ below meth c s.heap [] 0 0 (MQ below (QI w K g S out) _ s 0 0 (FR w)) _
  have hl := lv_entry ([.int p0, .ref (w.2.2.2 + 2), .ref (w.2.2.2 + 3)]) (n := 5) (Nat.le_of_ble_eq_true rfl)
  rw [lg_entry_eq]
  generalize (lg_sl ([.int p0, .ref (w.2.2.2 + 2), .ref (w.2.2.2 + 3)]) ++ List.replicate (5 - (lg_sl ([.int p0, .ref (w.2.2.2 + 2), .ref (w.2.2.2 + 3)])).length) Slot.unset).toArray = ls at hl ⊢
  clear B
  generalize ([.int p0, .ref (w.2.2.2 + 2), .ref (w.2.2.2 + 3)] : List Value).toArray = args at hts ⊢
  have B46 : ∀ (k5 : Int32 → Int32 → Option (Int32)), (∀ (x3 : Int32) (x4 : Int32) (H : Heap) (locs : List Loc) (ls : Array Slot), HR w K g S H → va_S (FR w) s.heap H locs → lv_has ls 5 [(0, .int p0), (1, .ref (w.2.2.2 + 2)), (2, .ref (w.2.2.2 + 3)), (3, .int x3), (4, .int x4)] → k5 x3 x4 = some out → W p l e ({ frames := 1, cells := 0, slots := 0, locals := 22 } : Room) s m args below meth c H locs 0 0 (MQ below (QI w K g S out) args s 0 0 (FR w)) (F0 m 5 ls [])) → ∀ (x4 : Int32) (s0 : Int32) (s1 : Int32) (H : Heap) (locs : List Loc) (ls : Array Slot), HR w K g S H → va_S (FR w) s.heap H locs → lv_has ls 5 [(0, .int p0), (1, .ref (w.2.2.2 + 2)), (2, .ref (w.2.2.2 + 3)), (4, .int x4)] → f9_calls_46 k5 S p0 x4 s0 s1 = some out → W p l e ({ frames := 1, cells := 0, slots := 0, locals := 22 } : Room) s m args below meth c H locs 0 0 (MQ below (QI w K g S out) args s 0 0 (FR w)) (F0 m 46 ls [.int s1, .int s0]) := by
    intro k5 hk5 x4 s0 s1 H locs ls hH hS hl hf
    unfold f9_calls_46 at hf
    refine lv_ior hx hb dL_calls_46 ?_
    refine lv_topi (fun v1 ev1 => ?_)
    have hf := gl_at hf ev1
    refine lv_istore_n (lv' := [(3, .int v1), (0, .int p0), (1, .ref (w.2.2.2 + 2)), (2, .ref (w.2.2.2 + 3)), (4, .int x4)]) hx hb dL_calls_47 rfl hl (by decide) rfl (fun ls hl => ?_)
    obtain ⟨v2, ev2⟩ : ∃ z : Int32, z = x4 + 1 := ⟨_, rfl⟩
    have hf := gl_at hf ev2
    refine lv_iinc (v := v2) (lv' := [(4, .int v2), (3, .int v1), (0, .int p0), (1, .ref (w.2.2.2 + 2)), (2, .ref (w.2.2.2 + 3))]) hx hb dL_calls_48 hl (k := 4) rfl (by rw [ev2]; rfl) (by decide) rfl (fun ls hl => ?_)
    refine lv_goto (tgt := 5) hx hb dL_calls_51 (by decide) ?_
    exact hk5 _ _ _ _ _ hH hS (lv_sub hl [2, 3, 4, 1, 0] rfl) hf
  have B5 : ∀ n : Nat, ∀ (x3 : Int32) (x4 : Int32) (H : Heap) (locs : List Loc) (ls : Array Slot), HR w K g S H → va_S (FR w) s.heap H locs → lv_has ls 5 [(0, .int p0), (1, .ref (w.2.2.2 + 2)), (2, .ref (w.2.2.2 + 3)), (3, .int x3), (4, .int x4)] → f9_calls_5 S p0 n x3 x4 = some out → W p l e ({ frames := 1, cells := 0, slots := 0, locals := 22 } : Room) s m args below meth c H locs 0 0 (MQ below (QI w K g S out) args s 0 0 (FR w)) (F0 m 5 ls []) := by
    intro n
    induction n with
    | zero =>
      intro x3 x4 H locs ls hH hS hl hf
      cases hf
    | succ n ih =>
      intro x3 x4 H locs ls hH hS hl hf
      rw [f9_calls_5] at hf
      refine lv_iload hx hb dL_calls_5 (lv_at hl 4 rfl) ?_
      refine lv_iconst (v := 1) hx hb dL_calls_7 (by decide) ?_
      refine lv_iadd hx hb dL_calls_8 ?_
      refine lv_aload_n hx hb dL_calls_9 rfl (lv_at hl 2 rfl) ?_
      refine lv_iload_n hx hb dL_calls_10 rfl (lv_at hl 0 rfl) ?_
      obtain ⟨h4, hf⟩ := gd_some hf
      refine m_iald hx hb hK hH 3 (by decide) rfl h4 dL_calls_11 ?_
      have hg := gif hf
      refine lv_icmp_ge (tgt := 54) hx hb dL_calls_12 (by decide) (fun c5 => ?_) (fun c5 => ?_)
      · have hf := hg.1 c5
        refine lv_iload_n hx hb dL_calls_54 rfl (lv_at hl 3 rfl) ?_
        have ho := Option.some.inj hf
        exact W.iret (v := x3) hx hb hr (fun t ht hW => ⟨⟨x3, (), rfl, congrArg (fun q => q) ho, (hrE ht hH)⟩, hS.F ht⟩) hS.2.2 dL_calls_55
      · have hf := hg.2 c5
        refine lv_iload_n hx hb dL_calls_15 rfl (lv_at hl 3 rfl) ?_
        refine lv_aload_n hx hb dL_calls_16 rfl (lv_at hl 1 rfl) ?_
        refine lv_iload_n hx hb dL_calls_17 rfl (lv_at hl 0 rfl) ?_
        refine lv_iload hx hb dL_calls_18 (lv_at hl 4 rfl) ?_
        obtain ⟨v6, h7, hf⟩ := gbind hf
        refine g_Si (As := [.ref (w.2.2.2 + 2), .int p0, .int x4]) (rest := [.int x3]) ⟨hx, hb, hml, hown, hts⟩ (c9_at2 l w K g S p0 x4 v6 h7) (gcwS hts i9_at wd_324 rfl rfl ⟨Nat.le_of_ble_eq_true rfl, Nat.le_of_ble_eq_true rfl⟩) hH hK hS hl.1 rfl rfl (Nat.le_of_ble_eq_true rfl) dL_calls_20 ⟨Nat.le_refl _, Nat.le_refl _⟩ (fun H locs hH hS => ?_)
        refine lv_bipush (v := 107) hx hb dL_calls_23 (by decide) ?_
        have hg := gif hf
        refine lv_icmp_ne (tgt := 45) hx hb dL_calls_25 (by decide) (fun c8 => ?_) (fun c8 => ?_)
        · have hf := hg.2 c8
          refine lv_iconst (v := 0) hx hb dL_calls_45 (by decide) ?_
          exact B46 _ (ih) _ _ _ _ _ _ hH hS (lv_sub hl [0, 1, 2, 4] rfl) hf
        · have hf := hg.1 c8
          refine lv_iconst (v := 1) hx hb dL_calls_28 (by decide) ?_
          refine lv_aload_n hx hb dL_calls_29 rfl (lv_at hl 1 rfl) ?_
          refine lv_iload_n hx hb dL_calls_30 rfl (lv_at hl 0 rfl) ?_
          refine lv_iload hx hb dL_calls_31 (lv_at hl 4 rfl) ?_
          refine lv_iconst (v := 1) hx hb dL_calls_33 (by decide) ?_
          refine lv_iadd hx hb dL_calls_34 ?_
          obtain ⟨v9, h10, hf⟩ := gbind hf
          refine g_Si (As := [.ref (w.2.2.2 + 2), .int p0, .int (x4 + 1)]) (rest := [.int 1, .int x3]) ⟨hx, hb, hml, hown, hts⟩ (c9_at2 l w K g S p0 (x4 + 1) v9 h10) (gcwS hts i9_at wd_324 rfl rfl ⟨Nat.le_of_ble_eq_true rfl, Nat.le_of_ble_eq_true rfl⟩) hH hK hS hl.1 rfl rfl (Nat.le_of_ble_eq_true rfl) dL_calls_35 ⟨Nat.le_refl _, Nat.le_refl _⟩ (fun H locs hH hS => ?_)
          refine lv_bipush (v := 48) hx hb dL_calls_38 (by decide) ?_
          refine lv_isub hx hb dL_calls_40 ?_
          refine lv_ishl hx hb dL_calls_41 ?_
          refine lv_goto (tgt := 46) hx hb dL_calls_42 (by decide) ?_
          exact B46 _ (ih) _ _ _ _ _ _ hH hS (lv_sub hl [0, 1, 2, 4] rfl) hf
  have hl : lv_has ls 5 [(0, .int p0), (1, .ref (w.2.2.2 + 2)), (2, .ref (w.2.2.2 + 3))] := hl
  refine lv_iconst (v := 0) hx hb dL_calls_0 (by decide) ?_
  refine lv_istore_n (lv' := [(3, .int 0), (0, .int p0), (1, .ref (w.2.2.2 + 2)), (2, .ref (w.2.2.2 + 3))]) hx hb dL_calls_1 rfl hl (by decide) rfl (fun ls hl => ?_)
  refine lv_iconst (v := 0) hx hb dL_calls_2 (by decide) ?_
  refine lv_istore (lv' := [(4, .int 0), (3, .int 0), (0, .int p0), (1, .ref (w.2.2.2 + 2)), (2, .ref (w.2.2.2 + 3))]) hx hb dL_calls_3 hl (by decide) rfl (fun ls hl => ?_)
  exact B5 _ _ _ _ _ _ hH hS (lv_sub hl [2, 3, 4, 1, 0] rfl) hf
set_option maxRecDepth 100000 in
set_option maxHeartbeats 8000000 in
theorem c9_callers (l : Launch) (w : GW) (K : GK) (g : GM) (S : GS) (p0 : Int32) (out : Int32) (hf : f9_callers S p0 = some out) : Met l yL_callers (wA yL_callers cL_callers 5 (some .int)) ({ frames := 2, cells := 0, slots := 0, locals := 46 } : Room) (PRE w K g S [.int p0, .ref (w.2.2.2 + 2), .ref (w.2.2.2 + 3)]) (QI w K g S out) 0 0 (FR w) := by
  unfold f9_callers at hf
  refine Met.ofW (cc := cL_callers) (maxL := 5) (ret := (some .int)) (by decide) rfl ?_
  intro p e s m args below meth c s₁ B hml hv
  obtain ⟨rfl, hH, hK⟩ := hv
  have hx := B.exec
  have hb := B.bytes
  have hr := B.returns
  have hts : ∀ q ∈ gALL, q.before _ s = true := fun q h => atoms_spec (ws := (wA yL_callers cL_callers 5 (some .int))) B.pre q (List.mem_cons_of_mem _ h)
  have hown : s.vm.findClass RL = some m.cls := findClass_of_methodNamed B.named
  have hlocks := B.notSynchronized
  have hS : va_S (FR w) s.heap s.heap [] := va_S.rf
  show W p l e ({ frames := 2, cells := 0, slots := 0, locals := 46 } : Room) s m _ below meth c s.heap [] 0 0 (MQ below (QI w K g S out) _ s 0 0 (FR w)) _
  have hl := lv_entry ([.int p0, .ref (w.2.2.2 + 2), .ref (w.2.2.2 + 3)]) (n := 5) (Nat.le_of_ble_eq_true rfl)
  rw [lg_entry_eq]
  generalize (lg_sl ([.int p0, .ref (w.2.2.2 + 2), .ref (w.2.2.2 + 3)]) ++ List.replicate (5 - (lg_sl ([.int p0, .ref (w.2.2.2 + 2), .ref (w.2.2.2 + 3)])).length) Slot.unset).toArray = ls at hl ⊢
  clear B
  generalize ([.int p0, .ref (w.2.2.2 + 2), .ref (w.2.2.2 + 3)] : List Value).toArray = args at hts ⊢
  have B5 : ∀ n : Nat, ∀ (x3 : Int32) (x4 : Int32) (H : Heap) (locs : List Loc) (ls : Array Slot), HR w K g S H → va_S (FR w) s.heap H locs → lv_has ls 5 [(0, .int p0), (1, .ref (w.2.2.2 + 2)), (2, .ref (w.2.2.2 + 3)), (3, .int x3), (4, .int x4)] → f9_callers_5 S p0 n x3 x4 = some out → W p l e ({ frames := 2, cells := 0, slots := 0, locals := 46 } : Room) s m args below meth c H locs 0 0 (MQ below (QI w K g S out) args s 0 0 (FR w)) (F0 m 5 ls []) := by
    intro n
    induction n with
    | zero =>
      intro x3 x4 H locs ls hH hS hl hf
      cases hf
    | succ n ih =>
      intro x3 x4 H locs ls hH hS hl hf
      rw [f9_callers_5] at hf
      refine lv_iload hx hb dL_callers_5 (lv_at hl 4 rfl) ?_
      refine lv_iconst (v := 5) hx hb dL_callers_7 (by decide) ?_
      have hg := gif hf
      refine lv_icmp_ge (tgt := 34) hx hb dL_callers_8 (by decide) (fun c1 => ?_) (fun c1 => ?_)
      · have hf := hg.1 c1
        refine lv_iload_n hx hb dL_callers_34 rfl (lv_at hl 3 rfl) ?_
        have ho := Option.some.inj hf
        exact W.iret (v := x3) hx hb hr (fun t ht hW => ⟨⟨x3, (), rfl, congrArg (fun q => q) ho, (hrE ht hH)⟩, hS.F ht⟩) hS.2.2 dL_callers_35
      · have hf := hg.2 c1
        refine lv_iload_n hx hb dL_callers_11 rfl (lv_at hl 3 rfl) ?_
        refine lv_iload hx hb dL_callers_12 (lv_at hl 4 rfl) ?_
        refine lv_aload_n hx hb dL_callers_14 rfl (lv_at hl 1 rfl) ?_
        refine lv_aload_n hx hb dL_callers_15 rfl (lv_at hl 2 rfl) ?_
        obtain ⟨v2, h3, hf⟩ := gbind hf
        refine g_Si (As := [.int x4, .ref (w.2.2.2 + 2), .ref (w.2.2.2 + 3)]) (rest := [.int x3]) ⟨hx, hb, hml, hown, hts⟩ (c9_calls l w K g S x4 v2 h3) (gcwS hts i9_calls wd_501 rfl rfl ⟨Nat.le_of_ble_eq_true rfl, Nat.le_of_ble_eq_true rfl⟩) hH hK hS hl.1 rfl rfl (Nat.le_of_ble_eq_true rfl) dL_callers_16 ⟨Nat.le_refl _, Nat.le_refl _⟩ (fun H locs hH hS => ?_)
        refine lv_iload_n hx hb dL_callers_19 rfl (lv_at hl 0 rfl) ?_
        refine lv_ishr hx hb dL_callers_20 ?_
        refine lv_iconst (v := 1) hx hb dL_callers_21 (by decide) ?_
        refine lv_iand hx hb dL_callers_22 ?_
        refine lv_iload hx hb dL_callers_23 (lv_at hl 4 rfl) ?_
        refine lv_ishl hx hb dL_callers_25 ?_
        refine lv_ior hx hb dL_callers_26 ?_
        refine lv_topi (fun v4 ev4 => ?_)
        have hf := gl_at hf ev4
        refine lv_istore_n (lv' := [(3, .int v4), (0, .int p0), (1, .ref (w.2.2.2 + 2)), (2, .ref (w.2.2.2 + 3)), (4, .int x4)]) hx hb dL_callers_27 rfl hl (by decide) rfl (fun ls hl => ?_)
        obtain ⟨v5, ev5⟩ : ∃ z : Int32, z = x4 + 1 := ⟨_, rfl⟩
        have hf := gl_at hf ev5
        refine lv_iinc (v := v5) (lv' := [(4, .int v5), (3, .int v4), (0, .int p0), (1, .ref (w.2.2.2 + 2)), (2, .ref (w.2.2.2 + 3))]) hx hb dL_callers_28 hl (k := 4) rfl (by rw [ev5]; rfl) (by decide) rfl (fun ls hl => ?_)
        refine lv_goto (tgt := 5) hx hb dL_callers_31 (by decide) ?_
        exact ih _ _ _ _ _ hH hS (lv_sub hl [2, 3, 4, 1, 0] rfl) hf
  have hl : lv_has ls 5 [(0, .int p0), (1, .ref (w.2.2.2 + 2)), (2, .ref (w.2.2.2 + 3))] := hl
  refine lv_iconst (v := 0) hx hb dL_callers_0 (by decide) ?_
  refine lv_istore_n (lv' := [(3, .int 0), (0, .int p0), (1, .ref (w.2.2.2 + 2)), (2, .ref (w.2.2.2 + 3))]) hx hb dL_callers_1 rfl hl (by decide) rfl (fun ls hl => ?_)
  refine lv_iconst (v := 0) hx hb dL_callers_2 (by decide) ?_
  refine lv_istore (lv' := [(4, .int 0), (3, .int 0), (0, .int p0), (1, .ref (w.2.2.2 + 2)), (2, .ref (w.2.2.2 + 3))]) hx hb dL_callers_3 hl (by decide) rfl (fun ls hl => ?_)
  exact B5 _ _ _ _ _ _ hH hS (lv_sub hl [2, 3, 4, 1, 0] rfl) hf
set_option maxRecDepth 100000 in
set_option maxHeartbeats 8000000 in
theorem c9_cell (l : Launch) (w : GW) (K : GK) (g : GM) (S : GS) (xs : Nat → Int32) (L b : Nat) (p1 : Int32) (out : Int32) (hf : f9_cell xs L p1 = some out) (hbA : ¬ FR w b) : Met l yL_cell (wA yL_cell cL_cell 2 (some .int)) ({ frames := 0, cells := 0, slots := 0, locals := 0 } : Room) (PCELL xs L b w K g S [.ref b, .int p1]) (QI w K g S out) 0 0 (FR w) := by
  unfold f9_cell at hf
  refine Met.ofW (cc := cL_cell) (maxL := 2) (ret := (some .int)) (by decide) rfl ?_
  intro p e s m args below meth c s₁ B hml hv
  obtain ⟨rfl, hH, hK, hX, hbl⟩ := hv
  have hx := B.exec
  have hb := B.bytes
  have hr := B.returns
  have hts : ∀ q ∈ gALL, q.before _ s = true := fun q h => atoms_spec (ws := (wA yL_cell cL_cell 2 (some .int))) B.pre q (List.mem_cons_of_mem _ h)
  have hown : s.vm.findClass RL = some m.cls := findClass_of_methodNamed B.named
  have hlocks := B.notSynchronized
  have hS : va_S (FR w) s.heap s.heap [] := va_S.rf
  show W p l e ({ frames := 0, cells := 0, slots := 0, locals := 0 } : Room) s m _ below meth c s.heap [] 0 0 (MQ below (QI w K g S out) _ s 0 0 (FR w)) _
  have hl := lv_entry ([.ref b, .int p1]) (n := 2) (Nat.le_of_ble_eq_true rfl)
  rw [lg_entry_eq]
  generalize (lg_sl ([.ref b, .int p1]) ++ List.replicate (2 - (lg_sl ([.ref b, .int p1])).length) Slot.unset).toArray = ls at hl ⊢
  clear B
  generalize ([.ref b, .int p1] : List Value).toArray = args at hts ⊢
  have hl : lv_has ls 2 [(0, .ref b), (1, .int p1)] := hl
  refine lv_iload_n hx hb dL_cell_0 rfl (lv_at hl 1 rfl) ?_
  refine lv_aload_n hx hb dL_cell_1 rfl (lv_at hl 0 rfl) ?_
  refine va_slen hx hb hX hbl hbA hS dL_cell_2 ?_
  have hg := gif hf
  refine lv_icmp_ge (tgt := 12) hx hb dL_cell_3 (by decide) (fun c1 => ?_) (fun c1 => ?_)
  · have hf := hg.1 c1
    refine lv_ldc (v := 42793) hx hb hown (hts _ wd_97) dL_cell_12 ?_
    refine lv_iload_n hx hb dL_cell_14 rfl (lv_at hl 1 rfl) ?_
    refine lv_bipush (v := 9) hx hb dL_cell_15 (by decide) ?_
    refine lv_iadd hx hb dL_cell_17 ?_
    refine lv_imul hx hb dL_cell_18 ?_
    refine lv_ldc (v := 2051451) hx hb hown (hts _ wd_98) dL_cell_19 ?_
    refine lv_iadd hx hb dL_cell_21 ?_
    have ho := Option.some.inj hf
    exact W.iret (v := ((42793 * (p1 + 9)) + 2051451)) hx hb hr (fun t ht hW => ⟨⟨((42793 * (p1 + 9)) + 2051451), (), rfl, congrArg (fun q => q) ho, (hrE ht hH)⟩, hS.F ht⟩) hS.2.2 dL_cell_22
  · have hf := hg.2 c1
    refine lv_aload_n hx hb dL_cell_6 rfl (lv_at hl 0 rfl) ?_
    refine lv_iload_n hx hb dL_cell_7 rfl (lv_at hl 1 rfl) ?_
    obtain ⟨h3, hf⟩ := gd_some hf
    refine va_sld hx hb hX hbl hbA hS (gok_in h3) dL_cell_8 ?_
    refine lv_goto (tgt := 22) hx hb dL_cell_9 (by decide) ?_
    have ho := Option.some.inj hf
    exact W.iret (v := (xs p1.toNatClampNeg)) hx hb hr (fun t ht hW => ⟨⟨(xs p1.toNatClampNeg), (), rfl, congrArg (fun q => q) ho, (hrE ht hH)⟩, hS.F ht⟩) hS.2.2 dL_cell_22
set_option maxRecDepth 100000 in
set_option maxHeartbeats 8000000 in
theorem c9_digit (l : Launch) (w : GW) (K : GK) (g : GM) (S : GS) (p0 : Int32) (p1 : Int32) (out : Int32) (hf : f9_digit S p0 p1 = some out) : Met l yL_digit (wA yL_digit cL_digit 5 (some .int)) ({ frames := 1, cells := 0, slots := 0, locals := 22 } : Room) (PRE w K g S [.int p0, .int p1, .ref (w.2.2.2 + 4), .ref (w.2.2.2 + 6)]) (QI w K g S out) 0 0 (FR w) := by
  unfold f9_digit at hf
  refine Met.ofW (cc := cL_digit) (maxL := 5) (ret := (some .int)) (by decide) rfl ?_
  intro p e s m args below meth c s₁ B hml hv
  obtain ⟨rfl, hH, hK⟩ := hv
  have hx := B.exec
  have hb := B.bytes
  have hr := B.returns
  have hts : ∀ q ∈ gALL, q.before _ s = true := fun q h => atoms_spec (ws := (wA yL_digit cL_digit 5 (some .int))) B.pre q (List.mem_cons_of_mem _ h)
  have hown : s.vm.findClass RL = some m.cls := findClass_of_methodNamed B.named
  have hlocks := B.notSynchronized
  have hS : va_S (FR w) s.heap s.heap [] := va_S.rf
  show W p l e ({ frames := 1, cells := 0, slots := 0, locals := 22 } : Room) s m _ below meth c s.heap [] 0 0 (MQ below (QI w K g S out) _ s 0 0 (FR w)) _
  have hl := lv_entry ([.int p0, .int p1, .ref (w.2.2.2 + 4), .ref (w.2.2.2 + 6)]) (n := 5) (Nat.le_of_ble_eq_true rfl)
  rw [lg_entry_eq]
  generalize (lg_sl ([.int p0, .int p1, .ref (w.2.2.2 + 4), .ref (w.2.2.2 + 6)]) ++ List.replicate (5 - (lg_sl ([.int p0, .int p1, .ref (w.2.2.2 + 4), .ref (w.2.2.2 + 6)])).length) Slot.unset).toArray = ls at hl ⊢
  clear B
  generalize ([.int p0, .int p1, .ref (w.2.2.2 + 4), .ref (w.2.2.2 + 6)] : List Value).toArray = args at hts ⊢
  have B49 : ∀ (H : Heap) (locs : List Loc) (ls : Array Slot), HR w K g S H → va_S (FR w) s.heap H locs → lv_has ls 5 [] → f9_digit_49 S p0 p1 = some out → W p l e ({ frames := 1, cells := 0, slots := 0, locals := 22 } : Room) s m args below meth c H locs 0 0 (MQ below (QI w K g S out) args s 0 0 (FR w)) (F0 m 49 ls []) := by
    intro   H locs ls hH hS hl hf
    unfold f9_digit_49 at hf
    refine lv_iconst (v := 1) hx hb dL_digit_49 (by decide) ?_
    have ho := Option.some.inj hf
    exact W.iret (v := 1) hx hb hr (fun t ht hW => ⟨⟨1, (), rfl, congrArg (fun q => q) ho, (hrE ht hH)⟩, hS.F ht⟩) hS.2.2 dL_digit_50
  have B29 : ∀ (s0 : Int32) (H : Heap) (locs : List Loc) (ls : Array Slot), HR w K g S H → va_S (FR w) s.heap H locs → lv_has ls 5 [] → f9_digit_29 S p0 p1 s0 = some out → W p l e ({ frames := 1, cells := 0, slots := 0, locals := 22 } : Room) s m args below meth c H locs 0 0 (MQ below (QI w K g S out) args s 0 0 (FR w)) (F0 m 29 ls [.int s0]) := by
    intro  s0 H locs ls hH hS hl hf
    unfold f9_digit_29 at hf
    refine lv_istore (lv' := [(4, .int s0)]) hx hb dL_digit_29 hl (by decide) rfl (fun ls hl => ?_)
    refine lv_iload hx hb dL_digit_31 (lv_at hl 0 rfl) ?_
    refine lv_iconst (v := 1) hx hb dL_digit_33 (by decide) ?_
    have hg := gif hf
    refine lv_icmp_le (tgt := 49) hx hb dL_digit_34 (by decide) (fun c1 => ?_) (fun c1 => ?_)
    · have hf := hg.1 c1
      exact B49 _ _ _ hH hS (lv_sub hl [] rfl) hf
    · have hf := hg.2 c1
      refine lv_iload hx hb dL_digit_37 (lv_at hl 0 rfl) ?_
      refine lv_bipush (v := 10) hx hb dL_digit_39 (by decide) ?_
      have hg := gif hf
      refine lv_icmp_ge (tgt := 49) hx hb dL_digit_41 (by decide) (fun c2 => ?_) (fun c2 => ?_)
      · have hf := hg.1 c2
        exact B49 _ _ _ hH hS (lv_sub hl [] rfl) hf
      · have hf := hg.2 c2
        refine lv_iload hx hb dL_digit_44 (lv_at hl 0 rfl) ?_
        refine lv_goto (tgt := 50) hx hb dL_digit_46 (by decide) ?_
        have ho := Option.some.inj hf
        exact W.iret (v := s0) hx hb hr (fun t ht hW => ⟨⟨s0, (), rfl, congrArg (fun q => q) ho, (hrE ht hH)⟩, hS.F ht⟩) hS.2.2 dL_digit_50
  have hl : lv_has ls 5 [(0, .int p0), (1, .int p1), (2, .ref (w.2.2.2 + 4)), (3, .ref (w.2.2.2 + 6))] := hl
  refine lv_iload_n hx hb dL_digit_0 rfl (lv_at hl 1 rfl) ?_
  refine lv_iconst (v := 1) hx hb dL_digit_1 (by decide) ?_
  refine lv_iadd hx hb dL_digit_2 ?_
  refine lv_aload_n hx hb dL_digit_3 rfl (lv_at hl 2 rfl) ?_
  refine lv_bipush (v := 6) hx hb dL_digit_4 (by decide) ?_
  refine lv_iload_n hx hb dL_digit_6 rfl (lv_at hl 0 rfl) ?_
  refine lv_imul hx hb dL_digit_7 ?_
  refine lv_iconst (v := 5) hx hb dL_digit_8 (by decide) ?_
  refine lv_iadd hx hb dL_digit_9 ?_
  obtain ⟨h4, hf⟩ := gd_some hf
  refine m_iald hx hb hK hH 4 (by decide) rfl h4 dL_digit_10 ?_
  have hg := gif hf
  refine lv_icmp_ge (tgt := 28) hx hb dL_digit_11 (by decide) (fun c5 => ?_) (fun c5 => ?_)
  · have hf := hg.1 c5
    refine lv_iconst (v := 0) hx hb dL_digit_28 (by decide) ?_
    exact B29 _ _ _ _ hH hS (lv_sub hl [] rfl) hf
  · have hf := hg.2 c5
    refine lv_aload_n hx hb dL_digit_14 rfl (lv_at hl 3 rfl) ?_
    refine lv_iload_n hx hb dL_digit_15 rfl (lv_at hl 0 rfl) ?_
    refine lv_iload_n hx hb dL_digit_16 rfl (lv_at hl 1 rfl) ?_
    refine lv_iconst (v := 1) hx hb dL_digit_17 (by decide) ?_
    refine lv_iadd hx hb dL_digit_18 ?_
    obtain ⟨v6, h7, hf⟩ := gbind hf
    refine g_Si (As := [.ref (w.2.2.2 + 6), .int p0, .int (p1 + 1)]) (rest := []) ⟨hx, hb, hml, hown, hts⟩ (c9_at6 l w K g S p0 (p1 + 1) v6 h7) (gcwS hts i9_at wd_324 rfl rfl ⟨Nat.le_of_ble_eq_true rfl, Nat.le_of_ble_eq_true rfl⟩) hH hK hS hl.1 rfl rfl (Nat.le_of_ble_eq_true rfl) dL_digit_19 ⟨Nat.le_refl _, Nat.le_refl _⟩ (fun H locs hH hS => ?_)
    refine lv_bipush (v := 48) hx hb dL_digit_22 (by decide) ?_
    refine lv_isub hx hb dL_digit_24 ?_
    refine lv_goto (tgt := 29) hx hb dL_digit_25 (by decide) ?_
    exact B29 _ _ _ _ hH hS (lv_sub hl [] rfl) hf
set_option maxRecDepth 100000 in
set_option maxHeartbeats 8000000 in
theorem c9_lays (l : Launch) (w : GW) (K : GK) (g : GM) (S : GS) (p0 : Int32) (p1 : Int32) (out : GS) (hf : f9_lays S p0 p1 = some out) : Met l yL_lays (wA yL_lays cL_lays 9 none) ({ frames := 0, cells := 0, slots := 0, locals := 0 } : Room) (PRE w K g S [.int p0, .int p1, .ref (w.2.2.2 + 0), .ref (w.2.2.2 + 2), .ref (w.2.2.2 + 3), .ref (w.2.2.2 + 4), .ref (w.2.2.2 + 6)]) (QV w K g out) 0 0 (FR w) := by
  unfold f9_lays at hf
  refine Met.ofW (cc := cL_lays) (maxL := 9) (ret := none) (by decide) rfl ?_
  intro p e s m args below meth c s₁ B hml hv
  obtain ⟨rfl, hH, hK⟩ := hv
  have hx := B.exec
  have hb := B.bytes
  have hr := B.returns
  have hts : ∀ q ∈ gALL, q.before _ s = true := fun q h => atoms_spec (ws := (wA yL_lays cL_lays 9 none)) B.pre q (List.mem_cons_of_mem _ h)
  have hown : s.vm.findClass RL = some m.cls := findClass_of_methodNamed B.named
  have hlocks := B.notSynchronized
  have hS : va_S (FR w) s.heap s.heap [] := va_S.rf
  show W p l e ({ frames := 0, cells := 0, slots := 0, locals := 0 } : Room) s m _ below meth c s.heap [] 0 0 (MQ below (QV w K g out) _ s 0 0 (FR w)) _
  have hl := lv_entry ([.int p0, .int p1, .ref (w.2.2.2 + 0), .ref (w.2.2.2 + 2), .ref (w.2.2.2 + 3), .ref (w.2.2.2 + 4), .ref (w.2.2.2 + 6)]) (n := 9) (Nat.le_of_ble_eq_true rfl)
  rw [lg_entry_eq]
  generalize (lg_sl ([.int p0, .int p1, .ref (w.2.2.2 + 0), .ref (w.2.2.2 + 2), .ref (w.2.2.2 + 3), .ref (w.2.2.2 + 4), .ref (w.2.2.2 + 6)]) ++ List.replicate (9 - (lg_sl ([.int p0, .int p1, .ref (w.2.2.2 + 0), .ref (w.2.2.2 + 2), .ref (w.2.2.2 + 3), .ref (w.2.2.2 + 4), .ref (w.2.2.2 + 6)])).length) Slot.unset).toArray = ls at hl ⊢
  clear B
  generalize ([.int p0, .int p1, .ref (w.2.2.2 + 0), .ref (w.2.2.2 + 2), .ref (w.2.2.2 + 3), .ref (w.2.2.2 + 4), .ref (w.2.2.2 + 6)] : List Value).toArray = args at hts ⊢
  have B75 : ∀ n : Nat, ∀ (S : GS) (x7 : Int32) (x8 : Int32) (H : Heap) (locs : List Loc) (ls : Array Slot), HR w K g S H → va_S (FR w) s.heap H locs → lv_has ls 9 [(0, .int p0), (2, .ref (w.2.2.2 + 0)), (3, .ref (w.2.2.2 + 2)), (4, .ref (w.2.2.2 + 3)), (6, .ref (w.2.2.2 + 6)), (7, .int x7), (8, .int x8)] → f9_lays_75 p0 p1 n S x7 x8 = some out → W p l e ({ frames := 0, cells := 0, slots := 0, locals := 0 } : Room) s m args below meth c H locs 0 0 (MQ below (QV w K g out) args s 0 0 (FR w)) (F0 m 75 ls []) := by
    intro n
    induction n with
    | zero =>
      intro S x7 x8 H locs ls hH hS hl hf
      cases hf
    | succ n ih =>
      intro S x7 x8 H locs ls hH hS hl hf
      rw [f9_lays_75] at hf
      refine lv_iload hx hb dL_lays_75 (lv_at hl 6 rfl) ?_
      refine lv_bipush (v := 6) hx hb dL_lays_77 (by decide) ?_
      have hg := gif hf
      refine lv_icmp_ge (tgt := 108) hx hb dL_lays_79 (by decide) (fun c1 => ?_) (fun c1 => ?_)
      · have hf := hg.1 c1
        refine lv_aload_n hx hb dL_lays_108 rfl (lv_at hl 1 rfl) ?_
        refine lv_iconst (v := 3) hx hb dL_lays_109 (by decide) ?_
        refine lv_dup2_11 hx hb dL_lays_110 rfl rfl ?_
        obtain ⟨h3, hf⟩ := gd_some hf
        refine m_iald hx hb hK hH 0 (by decide) rfl h3 dL_lays_111 ?_
        refine lv_iconst (v := 1) hx hb dL_lays_112 (by decide) ?_
        refine lv_iadd hx hb dL_lays_113 ?_
        refine m_iast hx hb hK hH hS 0 (by decide) rfl h3 dL_lays_114 (fun H locs hH hS => ?_)
        obtain ⟨S5, eS5⟩ : ∃ z : GS, z = ssI S 0 (3 : Int32).toNatClampNeg ((S 0 (3 : Int32).toNatClampNeg) + 1) := ⟨_, rfl⟩
        have hf := gl_at hf eS5
        replace hH : HR w K g S5 H := by rw [eS5]; exact hH
        refine lv_aload hx hb dL_lays_115 (lv_at hl 3 rfl) ?_
        refine lv_iconst (v := 5) hx hb dL_lays_117 (by decide) ?_
        refine lv_iload_n hx hb dL_lays_118 rfl (lv_at hl 0 rfl) ?_
        refine lv_iadd hx hb dL_lays_119 ?_
        refine lv_dup2_11 hx hb dL_lays_120 rfl rfl ?_
        obtain ⟨h7, hf⟩ := gd_some hf
        refine m_iald hx hb hK hH 3 (by decide) rfl h7 dL_lays_121 ?_
        refine lv_iconst (v := 1) hx hb dL_lays_122 (by decide) ?_
        refine lv_iadd hx hb dL_lays_123 ?_
        refine m_iast hx hb hK hH hS 3 (by decide) rfl h7 dL_lays_124 (fun H locs hH hS => ?_)
        obtain ⟨S9, eS9⟩ : ∃ z : GS, z = ssI S5 3 (5 + p0).toNatClampNeg ((S5 3 (5 + p0).toNatClampNeg) + 1) := ⟨_, rfl⟩
        have hf := gl_at hf eS9
        replace hH : HR w K g S9 H := by rw [eS9]; exact hH
        refine lv_aload_n hx hb dL_lays_125 rfl (lv_at hl 1 rfl) ?_
        refine lv_bipush (v := 6) hx hb dL_lays_126 (by decide) ?_
        refine lv_aload_n hx hb dL_lays_128 rfl (lv_at hl 1 rfl) ?_
        refine lv_iconst (v := 3) hx hb dL_lays_129 (by decide) ?_
        refine m_iald hx hb hK hH 0 (by decide) rfl h3 dL_lays_130 ?_
        refine lv_aload_n hx hb dL_lays_131 rfl (lv_at hl 1 rfl) ?_
        refine lv_bipush (v := 6) hx hb dL_lays_132 (by decide) ?_
        obtain ⟨h12, hf⟩ := gd_some hf
        refine m_iald hx hb hK hH 0 (by decide) rfl h12 dL_lays_134 ?_
        have hg := gif hf
        refine lv_icmp_le (tgt := 144) hx hb dL_lays_135 (by decide) (fun c13 => ?_) (fun c13 => ?_)
        · have hf := hg.1 c13
          refine lv_aload_n hx hb dL_lays_144 rfl (lv_at hl 1 rfl) ?_
          refine lv_bipush (v := 6) hx hb dL_lays_145 (by decide) ?_
          refine m_iald hx hb hK hH 0 (by decide) rfl h12 dL_lays_147 ?_
          refine m_iast hx hb hK hH hS 0 (by decide) rfl h12 dL_lays_148 (fun H locs hH hS => ?_)
          obtain ⟨S16, eS16⟩ : ∃ z : GS, z = ssI S9 0 (6 : Int32).toNatClampNeg (S9 0 (6 : Int32).toNatClampNeg) := ⟨_, rfl⟩
          have hf := gl_at hf eS16
          replace hH : HR w K g S16 H := by rw [eS16]; exact hH
          have ho := Option.some.inj hf
          exact W.vret hx hb hr (fun t ht hW => ⟨⟨(), rfl, trivial, (by subst ho; exact hrE ht hH)⟩, hS.F ht⟩) hS.2.2 dL_lays_149
        · have hf := hg.2 c13
          refine lv_aload_n hx hb dL_lays_138 rfl (lv_at hl 1 rfl) ?_
          refine lv_iconst (v := 3) hx hb dL_lays_139 (by decide) ?_
          refine m_iald hx hb hK hH 0 (by decide) rfl h3 dL_lays_140 ?_
          refine lv_goto (tgt := 148) hx hb dL_lays_141 (by decide) ?_
          refine m_iast hx hb hK hH hS 0 (by decide) rfl h12 dL_lays_148 (fun H locs hH hS => ?_)
          obtain ⟨S19, eS19⟩ : ∃ z : GS, z = ssI S9 0 (6 : Int32).toNatClampNeg (S9 0 (3 : Int32).toNatClampNeg) := ⟨_, rfl⟩
          have hf := gl_at hf eS19
          replace hH : HR w K g S19 H := by rw [eS19]; exact hH
          have ho := Option.some.inj hf
          exact W.vret hx hb hr (fun t ht hW => ⟨⟨(), rfl, trivial, (by subst ho; exact hrE ht hH)⟩, hS.F ht⟩) hS.2.2 dL_lays_149
      · have hf := hg.2 c1
        refine lv_aload hx hb dL_lays_82 (lv_at hl 4 rfl) ?_
        refine lv_bipush (v := 6) hx hb dL_lays_84 (by decide) ?_
        refine lv_iload hx hb dL_lays_86 (lv_at hl 5 rfl) ?_
        refine lv_imul hx hb dL_lays_88 ?_
        refine lv_iload hx hb dL_lays_89 (lv_at hl 6 rfl) ?_
        refine lv_iadd hx hb dL_lays_91 ?_
        refine lv_aload_n hx hb dL_lays_92 rfl (lv_at hl 2 rfl) ?_
        refine lv_bipush (v := 6) hx hb dL_lays_93 (by decide) ?_
        refine lv_iload_n hx hb dL_lays_95 rfl (lv_at hl 0 rfl) ?_
        refine lv_imul hx hb dL_lays_96 ?_
        refine lv_iload hx hb dL_lays_97 (lv_at hl 6 rfl) ?_
        refine lv_iadd hx hb dL_lays_99 ?_
        obtain ⟨h21, hf⟩ := gd_some hf
        refine m_iald hx hb hK hH 2 (by decide) rfl h21 dL_lays_100 ?_
        obtain ⟨h23, hf⟩ := gd_some hf
        refine m_iast hx hb hK hH hS 6 (by decide) rfl h23 dL_lays_101 (fun H locs hH hS => ?_)
        obtain ⟨S24, eS24⟩ : ∃ z : GS, z = ssI S 6 ((6 * x7) + x8).toNatClampNeg (S 2 ((6 * p0) + x8).toNatClampNeg) := ⟨_, rfl⟩
        have hf := gl_at hf eS24
        replace hH : HR w K g S24 H := by rw [eS24]; exact hH
        obtain ⟨v25, ev25⟩ : ∃ z : Int32, z = x8 + 1 := ⟨_, rfl⟩
        have hf := gl_at hf ev25
        refine lv_iinc (v := v25) (lv' := [(8, .int v25), (0, .int p0), (2, .ref (w.2.2.2 + 0)), (3, .ref (w.2.2.2 + 2)), (4, .ref (w.2.2.2 + 3)), (6, .ref (w.2.2.2 + 6)), (7, .int x7)]) hx hb dL_lays_102 hl (k := 6) rfl (by rw [ev25]; rfl) (by decide) rfl (fun ls hl => ?_)
        refine lv_goto (tgt := 75) hx hb dL_lays_105 (by decide) ?_
        exact ih _ _ _ _ _ _ hH hS (lv_sub hl [1, 2, 3, 4, 5, 6, 0] rfl) hf
  have hl : lv_has ls 9 [(0, .int p0), (1, .int p1), (2, .ref (w.2.2.2 + 0)), (3, .ref (w.2.2.2 + 2)), (4, .ref (w.2.2.2 + 3)), (5, .ref (w.2.2.2 + 4)), (6, .ref (w.2.2.2 + 6))] := hl
  refine lv_aload_n hx hb dL_lays_0 rfl (lv_at hl 2 rfl) ?_
  refine lv_iconst (v := 3) hx hb dL_lays_1 (by decide) ?_
  obtain ⟨h27, hf⟩ := gd_some hf
  refine m_iald hx hb hK hH 0 (by decide) rfl h27 dL_lays_2 ?_
  refine lv_topi (fun v28 ev28 => ?_)
  have hf := gl_at hf ev28
  refine lv_istore (lv' := [(7, .int v28), (0, .int p0), (1, .int p1), (2, .ref (w.2.2.2 + 0)), (3, .ref (w.2.2.2 + 2)), (4, .ref (w.2.2.2 + 3)), (5, .ref (w.2.2.2 + 4)), (6, .ref (w.2.2.2 + 6))]) hx hb dL_lays_3 hl (by decide) rfl (fun ls hl => ?_)
  refine lv_aload hx hb dL_lays_5 (lv_at hl 6 rfl) ?_
  refine lv_bipush (v := 6) hx hb dL_lays_7 (by decide) ?_
  refine lv_iload hx hb dL_lays_9 (lv_at hl 0 rfl) ?_
  refine lv_imul hx hb dL_lays_11 ?_
  refine lv_iload_n hx hb dL_lays_12 rfl (lv_at hl 1 rfl) ?_
  obtain ⟨h30, hf⟩ := gd_some hf
  refine m_iast hx hb hK hH hS 4 (by decide) rfl h30 dL_lays_13 (fun H locs hH hS => ?_)
  obtain ⟨S31, eS31⟩ : ∃ z : GS, z = ssI S 4 (6 * v28).toNatClampNeg p0 := ⟨_, rfl⟩
  have hf := gl_at hf eS31
  replace hH : HR w K g S31 H := by rw [eS31]; exact hH
  refine lv_aload hx hb dL_lays_14 (lv_at hl 6 rfl) ?_
  refine lv_bipush (v := 6) hx hb dL_lays_16 (by decide) ?_
  refine lv_iload hx hb dL_lays_18 (lv_at hl 0 rfl) ?_
  refine lv_imul hx hb dL_lays_20 ?_
  refine lv_iconst (v := 1) hx hb dL_lays_21 (by decide) ?_
  refine lv_iadd hx hb dL_lays_22 ?_
  refine lv_iload_n hx hb dL_lays_23 rfl (lv_at hl 2 rfl) ?_
  obtain ⟨h33, hf⟩ := gd_some hf
  refine m_iast hx hb hK hH hS 4 (by decide) rfl h33 dL_lays_24 (fun H locs hH hS => ?_)
  obtain ⟨S34, eS34⟩ : ∃ z : GS, z = ssI S31 4 ((6 * v28) + 1).toNatClampNeg p1 := ⟨_, rfl⟩
  have hf := gl_at hf eS34
  replace hH : HR w K g S34 H := by rw [eS34]; exact hH
  refine lv_aload hx hb dL_lays_25 (lv_at hl 6 rfl) ?_
  refine lv_bipush (v := 6) hx hb dL_lays_27 (by decide) ?_
  refine lv_iload hx hb dL_lays_29 (lv_at hl 0 rfl) ?_
  refine lv_imul hx hb dL_lays_31 ?_
  refine lv_iconst (v := 2) hx hb dL_lays_32 (by decide) ?_
  refine lv_iadd hx hb dL_lays_33 ?_
  refine lv_iconst (v := 0) hx hb dL_lays_34 (by decide) ?_
  obtain ⟨h36, hf⟩ := gd_some hf
  refine m_iast hx hb hK hH hS 4 (by decide) rfl h36 dL_lays_35 (fun H locs hH hS => ?_)
  obtain ⟨S37, eS37⟩ : ∃ z : GS, z = ssI S34 4 ((6 * v28) + 2).toNatClampNeg 0 := ⟨_, rfl⟩
  have hf := gl_at hf eS37
  replace hH : HR w K g S37 H := by rw [eS37]; exact hH
  refine lv_aload hx hb dL_lays_36 (lv_at hl 6 rfl) ?_
  refine lv_bipush (v := 6) hx hb dL_lays_38 (by decide) ?_
  refine lv_iload hx hb dL_lays_40 (lv_at hl 0 rfl) ?_
  refine lv_imul hx hb dL_lays_42 ?_
  refine lv_iconst (v := 3) hx hb dL_lays_43 (by decide) ?_
  refine lv_iadd hx hb dL_lays_44 ?_
  refine lv_iconst (v := 0) hx hb dL_lays_45 (by decide) ?_
  obtain ⟨h39, hf⟩ := gd_some hf
  refine m_iast hx hb hK hH hS 4 (by decide) rfl h39 dL_lays_46 (fun H locs hH hS => ?_)
  obtain ⟨S40, eS40⟩ : ∃ z : GS, z = ssI S37 4 ((6 * v28) + 3).toNatClampNeg 0 := ⟨_, rfl⟩
  have hf := gl_at hf eS40
  replace hH : HR w K g S40 H := by rw [eS40]; exact hH
  refine lv_aload hx hb dL_lays_47 (lv_at hl 6 rfl) ?_
  refine lv_bipush (v := 6) hx hb dL_lays_49 (by decide) ?_
  refine lv_iload hx hb dL_lays_51 (lv_at hl 0 rfl) ?_
  refine lv_imul hx hb dL_lays_53 ?_
  refine lv_iconst (v := 4) hx hb dL_lays_54 (by decide) ?_
  refine lv_iadd hx hb dL_lays_55 ?_
  refine lv_iconst (v := 0) hx hb dL_lays_56 (by decide) ?_
  obtain ⟨h42, hf⟩ := gd_some hf
  refine m_iast hx hb hK hH hS 4 (by decide) rfl h42 dL_lays_57 (fun H locs hH hS => ?_)
  obtain ⟨S43, eS43⟩ : ∃ z : GS, z = ssI S40 4 ((6 * v28) + 4).toNatClampNeg 0 := ⟨_, rfl⟩
  have hf := gl_at hf eS43
  replace hH : HR w K g S43 H := by rw [eS43]; exact hH
  refine lv_aload hx hb dL_lays_58 (lv_at hl 6 rfl) ?_
  refine lv_bipush (v := 6) hx hb dL_lays_60 (by decide) ?_
  refine lv_iload hx hb dL_lays_62 (lv_at hl 0 rfl) ?_
  refine lv_imul hx hb dL_lays_64 ?_
  refine lv_iconst (v := 5) hx hb dL_lays_65 (by decide) ?_
  refine lv_iadd hx hb dL_lays_66 ?_
  refine lv_aload hx hb dL_lays_67 (lv_at hl 5 rfl) ?_
  refine lv_iload_n hx hb dL_lays_69 rfl (lv_at hl 1 rfl) ?_
  obtain ⟨h45, hf⟩ := gd_some hf
  refine m_iald hx hb hK hH 3 (by decide) rfl h45 dL_lays_70 ?_
  obtain ⟨h47, hf⟩ := gd_some hf
  refine m_iast hx hb hK hH hS 4 (by decide) rfl h47 dL_lays_71 (fun H locs hH hS => ?_)
  obtain ⟨S48, eS48⟩ : ∃ z : GS, z = ssI S43 4 ((6 * v28) + 5).toNatClampNeg (S43 3 p0.toNatClampNeg) := ⟨_, rfl⟩
  have hf := gl_at hf eS48
  replace hH : HR w K g S48 H := by rw [eS48]; exact hH
  refine lv_iconst (v := 0) hx hb dL_lays_72 (by decide) ?_
  refine lv_istore (lv' := [(8, .int 0), (7, .int v28), (0, .int p0), (1, .int p1), (2, .ref (w.2.2.2 + 0)), (3, .ref (w.2.2.2 + 2)), (4, .ref (w.2.2.2 + 3)), (5, .ref (w.2.2.2 + 4)), (6, .ref (w.2.2.2 + 6))]) hx hb dL_lays_73 hl (by decide) rfl (fun ls hl => ?_)
  exact B75 _ _ _ _ _ _ _ hH hS (lv_sub hl [2, 4, 5, 6, 8, 1, 0] rfl) hf
set_option maxRecDepth 100000 in
set_option maxHeartbeats 8000000 in
theorem c9_why (l : Launch) (w : GW) (K : GK) (g : GM) (S : GS) (p0 : Int32) (out : Int32) (hf : f9_why S p0 = some out) : Met l yL_why (wA yL_why cL_why 10 (some .int)) ({ frames := 1, cells := 0, slots := 0, locals := 22 } : Room) (PRE w K g S [.int p0, .ref (w.2.2.2 + 0), .ref (w.2.2.2 + 1), .ref (w.2.2.2 + 3), .ref (w.2.2.2 + 4), .ref (w.2.2.2 + 6)]) (QI w K g S out) 0 0 (FR w) := by
  unfold f9_why at hf
  refine Met.ofW (cc := cL_why) (maxL := 10) (ret := (some .int)) (by decide) rfl ?_
  intro p e s m args below meth c s₁ B hml hv
  obtain ⟨rfl, hH, hK⟩ := hv
  have hx := B.exec
  have hb := B.bytes
  have hr := B.returns
  have hts : ∀ q ∈ gALL, q.before _ s = true := fun q h => atoms_spec (ws := (wA yL_why cL_why 10 (some .int))) B.pre q (List.mem_cons_of_mem _ h)
  have hown : s.vm.findClass RL = some m.cls := findClass_of_methodNamed B.named
  have hlocks := B.notSynchronized
  have hS : va_S (FR w) s.heap s.heap [] := va_S.rf
  show W p l e ({ frames := 1, cells := 0, slots := 0, locals := 22 } : Room) s m _ below meth c s.heap [] 0 0 (MQ below (QI w K g S out) _ s 0 0 (FR w)) _
  have hl := lv_entry ([.int p0, .ref (w.2.2.2 + 0), .ref (w.2.2.2 + 1), .ref (w.2.2.2 + 3), .ref (w.2.2.2 + 4), .ref (w.2.2.2 + 6)]) (n := 10) (Nat.le_of_ble_eq_true rfl)
  rw [lg_entry_eq]
  generalize (lg_sl ([.int p0, .ref (w.2.2.2 + 0), .ref (w.2.2.2 + 1), .ref (w.2.2.2 + 3), .ref (w.2.2.2 + 4), .ref (w.2.2.2 + 6)]) ++ List.replicate (10 - (lg_sl ([.int p0, .ref (w.2.2.2 + 0), .ref (w.2.2.2 + 1), .ref (w.2.2.2 + 3), .ref (w.2.2.2 + 4), .ref (w.2.2.2 + 6)])).length) Slot.unset).toArray = ls at hl ⊢
  clear B
  generalize ([.int p0, .ref (w.2.2.2 + 0), .ref (w.2.2.2 + 1), .ref (w.2.2.2 + 3), .ref (w.2.2.2 + 4), .ref (w.2.2.2 + 6)] : List Value).toArray = args at hts ⊢
  have B185 : ∀ (H : Heap) (locs : List Loc) (ls : Array Slot), HR w K g S H → va_S (FR w) s.heap H locs → lv_has ls 10 [(0, .int p0)] → f9_why_185 S p0 = some out → W p l e ({ frames := 1, cells := 0, slots := 0, locals := 22 } : Room) s m args below meth c H locs 0 0 (MQ below (QI w K g S out) args s 0 0 (FR w)) (F0 m 185 ls []) := by
    intro   H locs ls hH hS hl hf
    unfold f9_why_185 at hf
    refine lv_iload_n hx hb dL_why_185 rfl (lv_at hl 0 rfl) ?_
    refine lv_sipush (v := 500) hx hb dL_why_186 (by decide) ?_
    have hg := gif hf
    refine lv_icmp_lt (tgt := 197) hx hb dL_why_189 (by decide) (fun c1 => ?_) (fun c1 => ?_)
    · have hf := hg.1 c1
      refine lv_iconst (v := 0) hx hb dL_why_197 (by decide) ?_
      have ho := Option.some.inj hf
      exact W.iret (v := 0) hx hb hr (fun t ht hW => ⟨⟨0, (), rfl, congrArg (fun q => q) ho, (hrE ht hH)⟩, hS.F ht⟩) hS.2.2 dL_why_198
    · have hf := hg.2 c1
      refine lv_bipush (v := 7) hx hb dL_why_192 (by decide) ?_
      refine lv_goto (tgt := 198) hx hb dL_why_194 (by decide) ?_
      have ho := Option.some.inj hf
      exact W.iret (v := 7) hx hb hr (fun t ht hW => ⟨⟨7, (), rfl, congrArg (fun q => q) ho, (hrE ht hH)⟩, hS.F ht⟩) hS.2.2 dL_why_198
  have B178 : ∀ (H : Heap) (locs : List Loc) (ls : Array Slot), HR w K g S H → va_S (FR w) s.heap H locs → lv_has ls 10 [] → f9_why_178 S p0 = some out → W p l e ({ frames := 1, cells := 0, slots := 0, locals := 22 } : Room) s m args below meth c H locs 0 0 (MQ below (QI w K g S out) args s 0 0 (FR w)) (F0 m 178 ls []) := by
    intro   H locs ls hH hS hl hf
    unfold f9_why_178 at hf
    refine lv_iconst (v := 5) hx hb dL_why_178 (by decide) ?_
    refine lv_goto (tgt := 184) hx hb dL_why_179 (by decide) ?_
    have ho := Option.some.inj hf
    exact W.iret (v := 5) hx hb hr (fun t ht hW => ⟨⟨5, (), rfl, congrArg (fun q => q) ho, (hrE ht hH)⟩, hS.F ht⟩) hS.2.2 dL_why_184
  have B165 : ∀ (x9 : Int32) (H : Heap) (locs : List Loc) (ls : Array Slot), HR w K g S H → va_S (FR w) s.heap H locs → lv_has ls 10 [(3, .ref (w.2.2.2 + 3)), (9, .int x9)] → f9_why_165 S p0 x9 = some out → W p l e ({ frames := 1, cells := 0, slots := 0, locals := 22 } : Room) s m args below meth c H locs 0 0 (MQ below (QI w K g S out) args s 0 0 (FR w)) (F0 m 165 ls []) := by
    intro  x9 H locs ls hH hS hl hf
    unfold f9_why_165 at hf
    refine lv_iload hx hb dL_why_165 (lv_at hl 1 rfl) ?_
    refine lv_iconst (v := 4) hx hb dL_why_167 (by decide) ?_
    have hg := gif hf
    refine lv_icmp_gt (tgt := 178) hx hb dL_why_168 (by decide) (fun c2 => ?_) (fun c2 => ?_)
    · have hf := hg.1 c2
      exact B178 _ _ _ hH hS (lv_sub hl [] rfl) hf
    · have hf := hg.2 c2
      refine lv_aload_n hx hb dL_why_171 rfl (lv_at hl 0 rfl) ?_
      refine lv_iload hx hb dL_why_172 (lv_at hl 1 rfl) ?_
      obtain ⟨h4, hf⟩ := gd_some hf
      refine m_iald hx hb hK hH 3 (by decide) rfl h4 dL_why_174 ?_
      have hg := gif hf
      refine lv_if_ne (tgt := 182) hx hb dL_why_175 (by decide) (fun c5 => ?_) (fun c5 => ?_)
      · have hf := hg.2 c5
        refine lv_bipush (v := 6) hx hb dL_why_182 (by decide) ?_
        have ho := Option.some.inj hf
        exact W.iret (v := 6) hx hb hr (fun t ht hW => ⟨⟨6, (), rfl, congrArg (fun q => q) ho, (hrE ht hH)⟩, hS.F ht⟩) hS.2.2 dL_why_184
      · have hf := hg.1 c5
        exact B178 _ _ _ hH hS (lv_sub hl [] rfl) hf
  have B112 : ∀ (x6 : Int32) (x7 : Int32) (H : Heap) (locs : List Loc) (ls : Array Slot), HR w K g S H → va_S (FR w) s.heap H locs → lv_has ls 10 [(0, .int p0), (1, .ref (w.2.2.2 + 0)), (3, .ref (w.2.2.2 + 3)), (4, .ref (w.2.2.2 + 4)), (5, .ref (w.2.2.2 + 6)), (6, .int x6), (7, .int x7)] → f9_why_112 S p0 x6 x7 = some out → W p l e ({ frames := 1, cells := 0, slots := 0, locals := 22 } : Room) s m args below meth c H locs 0 0 (MQ below (QI w K g S out) args s 0 0 (FR w)) (F0 m 112 ls []) := by
    intro  x6 x7 H locs ls hH hS hl hf
    unfold f9_why_112 at hf
    refine lv_iload hx hb dL_why_112 (lv_at hl 6 rfl) ?_
    refine lv_bipush (v := 107) hx hb dL_why_114 (by decide) ?_
    have hg := gif hf
    refine lv_icmp_ne (tgt := 185) hx hb dL_why_116 (by decide) (fun c6 => ?_) (fun c6 => ?_)
    · have hf := hg.2 c6
      exact B185 _ _ _ hH hS (lv_sub hl [0] rfl) hf
    · have hf := hg.1 c6
      refine lv_aload hx hb dL_why_119 (lv_at hl 4 rfl) ?_
      refine lv_aload_n hx hb dL_why_121 rfl (lv_at hl 1 rfl) ?_
      refine lv_iconst (v := 3) hx hb dL_why_122 (by decide) ?_
      obtain ⟨h8, hf⟩ := gd_some hf
      refine m_iald hx hb hK hH 0 (by decide) rfl h8 dL_why_123 ?_
      refine lv_iconst (v := 1) hx hb dL_why_124 (by decide) ?_
      refine lv_isub hx hb dL_why_125 ?_
      refine lv_aload hx hb dL_why_126 (lv_at hl 3 rfl) ?_
      refine lv_iload hx hb dL_why_128 (lv_at hl 5 rfl) ?_
      refine lv_iconst (v := 2) hx hb dL_why_130 (by decide) ?_
      refine lv_iadd hx hb dL_why_131 ?_
      obtain ⟨h10, hf⟩ := gd_some hf
      refine m_iald hx hb hK hH 4 (by decide) rfl h10 dL_why_132 ?_
      refine lv_iconst (v := 1) hx hb dL_why_133 (by decide) ?_
      refine lv_iadd hx hb dL_why_134 ?_
      obtain ⟨v11, h12, hf⟩ := gbind hf
      refine g_Si (As := [.ref (w.2.2.2 + 6), .int ((S 0 (3 : Int32).toNatClampNeg) - 1), .int ((S 4 (x6 + 2).toNatClampNeg) + 1)]) (rest := []) ⟨hx, hb, hml, hown, hts⟩ (c9_at6 l w K g S ((S 0 (3 : Int32).toNatClampNeg) - 1) ((S 4 (x6 + 2).toNatClampNeg) + 1) v11 h12) (gcwS hts i9_at wd_324 rfl rfl ⟨Nat.le_of_ble_eq_true rfl, Nat.le_of_ble_eq_true rfl⟩) hH hK hS hl.1 rfl rfl (Nat.le_of_ble_eq_true rfl) dL_why_135 ⟨Nat.le_refl _, Nat.le_refl _⟩ (fun H locs hH hS => ?_)
      refine lv_bipush (v := 48) hx hb dL_why_138 (by decide) ?_
      refine lv_isub hx hb dL_why_140 ?_
      refine lv_topi (fun v13 ev13 => ?_)
      have hf := gl_at hf ev13
      refine lv_istore (lv' := [(9, .int v13), (0, .int p0), (1, .ref (w.2.2.2 + 0)), (3, .ref (w.2.2.2 + 3)), (4, .ref (w.2.2.2 + 4)), (5, .ref (w.2.2.2 + 6)), (6, .int x6), (7, .int x7)]) hx hb dL_why_141 hl (by decide) rfl (fun ls hl => ?_)
      refine lv_iload hx hb dL_why_143 (lv_at hl 0 rfl) ?_
      refine lv_iconst (v := 4) hx hb dL_why_145 (by decide) ?_
      have hg := gif hf
      refine lv_icmp_gt (tgt := 165) hx hb dL_why_146 (by decide) (fun c14 => ?_) (fun c14 => ?_)
      · have hf := hg.1 c14
        exact B165 _ _ _ _ hH hS (lv_sub hl [3, 0] rfl) hf
      · have hf := hg.2 c14
        refine lv_aload_n hx hb dL_why_149 rfl (lv_at hl 3 rfl) ?_
        refine lv_iload hx hb dL_why_150 (lv_at hl 0 rfl) ?_
        obtain ⟨h16, hf⟩ := gd_some hf
        refine m_iald hx hb hK hH 3 (by decide) rfl h16 dL_why_152 ?_
        have hg := gif hf
        refine lv_if_eq (tgt := 165) hx hb dL_why_153 (by decide) (fun c17 => ?_) (fun c17 => ?_)
        · have hf := hg.1 c17
          exact B165 _ _ _ _ hH hS (lv_sub hl [3, 0] rfl) hf
        · have hf := hg.2 c17
          refine lv_aload_n hx hb dL_why_156 rfl (lv_at hl 2 rfl) ?_
          refine lv_iconst (v := 3) hx hb dL_why_157 (by decide) ?_
          refine m_iald hx hb hK hH 0 (by decide) rfl h8 dL_why_158 ?_
          refine lv_aload_n hx hb dL_why_159 rfl (lv_at hl 2 rfl) ?_
          refine lv_iconst (v := 0) hx hb dL_why_160 (by decide) ?_
          obtain ⟨h20, hf⟩ := gd_some hf
          refine m_iald hx hb hK hH 0 (by decide) rfl h20 dL_why_161 ?_
          have hg := gif hf
          refine lv_icmp_lt (tgt := 185) hx hb dL_why_162 (by decide) (fun c21 => ?_) (fun c21 => ?_)
          · have hf := hg.1 c21
            exact B185 _ _ _ hH hS (lv_sub hl [1] rfl) hf
          · have hf := hg.2 c21
            exact B165 _ _ _ _ hH hS (lv_sub hl [3, 0] rfl) hf
  have B82 : ∀ (x8 : Int32) (H : Heap) (locs : List Loc) (ls : Array Slot), HR w K g S H → va_S (FR w) s.heap H locs → lv_has ls 10 [(1, .ref (w.2.2.2 + 0)), (2, .ref (w.2.2.2 + 1)), (8, .int x8)] → f9_why_82 S p0 x8 = some out → W p l e ({ frames := 1, cells := 0, slots := 0, locals := 22 } : Room) s m args below meth c H locs 0 0 (MQ below (QI w K g S out) args s 0 0 (FR w)) (F0 m 82 ls []) := by
    intro  x8 H locs ls hH hS hl hf
    unfold f9_why_82 at hf
    refine lv_aload_n hx hb dL_why_82 rfl (lv_at hl 1 rfl) ?_
    refine lv_iload hx hb dL_why_83 (lv_at hl 2 rfl) ?_
    obtain ⟨h23, hf⟩ := gd_some hf
    refine m_iald hx hb hK hH 1 (by decide) rfl h23 dL_why_85 ?_
    have hg := gif hf
    refine lv_if_ne (tgt := 93) hx hb dL_why_86 (by decide) (fun c24 => ?_) (fun c24 => ?_)
    · have hf := hg.2 c24
      refine lv_aload_n hx hb dL_why_93 rfl (lv_at hl 1 rfl) ?_
      refine lv_bipush (v := 6) hx hb dL_why_94 (by decide) ?_
      refine lv_iload hx hb dL_why_96 (lv_at hl 2 rfl) ?_
      refine lv_iadd hx hb dL_why_98 ?_
      obtain ⟨h26, hf⟩ := gd_some hf
      refine m_iald hx hb hK hH 1 (by decide) rfl h26 dL_why_99 ?_
      refine lv_aload_n hx hb dL_why_100 rfl (lv_at hl 0 rfl) ?_
      refine lv_iconst (v := 1) hx hb dL_why_101 (by decide) ?_
      obtain ⟨h28, hf⟩ := gd_some hf
      refine m_iald hx hb hK hH 0 (by decide) rfl h28 dL_why_102 ?_
      have hg := gif hf
      refine lv_icmp_lt (tgt := 110) hx hb dL_why_103 (by decide) (fun c29 => ?_) (fun c29 => ?_)
      · have hf := hg.1 c29
        refine lv_iconst (v := 4) hx hb dL_why_110 (by decide) ?_
        have ho := Option.some.inj hf
        exact W.iret (v := 4) hx hb hr (fun t ht hW => ⟨⟨4, (), rfl, congrArg (fun q => q) ho, (hrE ht hH)⟩, hS.F ht⟩) hS.2.2 dL_why_111
      · have hf := hg.2 c29
        refine lv_iconst (v := 3) hx hb dL_why_106 (by decide) ?_
        refine lv_goto (tgt := 111) hx hb dL_why_107 (by decide) ?_
        have ho := Option.some.inj hf
        exact W.iret (v := 3) hx hb hr (fun t ht hW => ⟨⟨3, (), rfl, congrArg (fun q => q) ho, (hrE ht hH)⟩, hS.F ht⟩) hS.2.2 dL_why_111
    · have hf := hg.1 c24
      refine lv_iconst (v := 2) hx hb dL_why_89 (by decide) ?_
      refine lv_goto (tgt := 111) hx hb dL_why_90 (by decide) ?_
      have ho := Option.some.inj hf
      exact W.iret (v := 2) hx hb hr (fun t ht hW => ⟨⟨2, (), rfl, congrArg (fun q => q) ho, (hrE ht hH)⟩, hS.F ht⟩) hS.2.2 dL_why_111
  have hl : lv_has ls 10 [(0, .int p0), (1, .ref (w.2.2.2 + 0)), (2, .ref (w.2.2.2 + 1)), (3, .ref (w.2.2.2 + 3)), (4, .ref (w.2.2.2 + 4)), (5, .ref (w.2.2.2 + 6))] := hl
  refine lv_aload_n hx hb dL_why_0 rfl (lv_at hl 1 rfl) ?_
  refine lv_iconst (v := 3) hx hb dL_why_1 (by decide) ?_
  obtain ⟨h31, hf⟩ := gd_some hf
  refine m_iald hx hb hK hH 0 (by decide) rfl h31 dL_why_2 ?_
  have hg := gif hf
  refine lv_if_ne (tgt := 8) hx hb dL_why_3 (by decide) (fun c32 => ?_) (fun c32 => ?_)
  · have hf := hg.2 c32
    refine lv_bipush (v := 6) hx hb dL_why_8 (by decide) ?_
    refine lv_aload_n hx hb dL_why_10 rfl (lv_at hl 1 rfl) ?_
    refine lv_iconst (v := 3) hx hb dL_why_11 (by decide) ?_
    refine m_iald hx hb hK hH 0 (by decide) rfl h31 dL_why_12 ?_
    refine lv_iconst (v := 1) hx hb dL_why_13 (by decide) ?_
    refine lv_isub hx hb dL_why_14 ?_
    refine lv_imul hx hb dL_why_15 ?_
    refine lv_topi (fun v34 ev34 => ?_)
    have hf := gl_at hf ev34
    refine lv_istore (lv' := [(6, .int v34), (0, .int p0), (1, .ref (w.2.2.2 + 0)), (2, .ref (w.2.2.2 + 1)), (3, .ref (w.2.2.2 + 3)), (4, .ref (w.2.2.2 + 4)), (5, .ref (w.2.2.2 + 6))]) hx hb dL_why_16 hl (by decide) rfl (fun ls hl => ?_)
    refine lv_aload hx hb dL_why_18 (lv_at hl 6 rfl) ?_
    refine lv_aload_n hx hb dL_why_20 rfl (lv_at hl 2 rfl) ?_
    refine lv_iconst (v := 3) hx hb dL_why_21 (by decide) ?_
    refine m_iald hx hb hK hH 0 (by decide) rfl h31 dL_why_22 ?_
    refine lv_iconst (v := 1) hx hb dL_why_23 (by decide) ?_
    refine lv_isub hx hb dL_why_24 ?_
    refine lv_aload hx hb dL_why_25 (lv_at hl 5 rfl) ?_
    refine lv_iload hx hb dL_why_27 (lv_at hl 0 rfl) ?_
    refine lv_iconst (v := 2) hx hb dL_why_29 (by decide) ?_
    refine lv_iadd hx hb dL_why_30 ?_
    obtain ⟨h37, hf⟩ := gd_some hf
    refine m_iald hx hb hK hH 4 (by decide) rfl h37 dL_why_31 ?_
    obtain ⟨v38, h39, hf⟩ := gbind hf
    refine g_Si (As := [.ref (w.2.2.2 + 6), .int ((S 0 (3 : Int32).toNatClampNeg) - 1), .int (S 4 (v34 + 2).toNatClampNeg)]) (rest := []) ⟨hx, hb, hml, hown, hts⟩ (c9_at6 l w K g S ((S 0 (3 : Int32).toNatClampNeg) - 1) (S 4 (v34 + 2).toNatClampNeg) v38 h39) (gcwS hts i9_at wd_324 rfl rfl ⟨Nat.le_of_ble_eq_true rfl, Nat.le_of_ble_eq_true rfl⟩) hH hK hS hl.1 rfl rfl (Nat.le_of_ble_eq_true rfl) dL_why_32 ⟨Nat.le_refl _, Nat.le_refl _⟩ (fun H locs hH hS => ?_)
    refine lv_istore (lv' := [(7, .int v38), (6, .int v34), (0, .int p0), (1, .ref (w.2.2.2 + 0)), (2, .ref (w.2.2.2 + 1)), (3, .ref (w.2.2.2 + 3)), (4, .ref (w.2.2.2 + 4)), (5, .ref (w.2.2.2 + 6))]) hx hb dL_why_35 hl (by decide) rfl (fun ls hl => ?_)
    refine lv_aload hx hb dL_why_37 (lv_at hl 6 rfl) ?_
    refine lv_iload hx hb dL_why_39 (lv_at hl 1 rfl) ?_
    refine lv_iconst (v := 1) hx hb dL_why_41 (by decide) ?_
    refine lv_iadd hx hb dL_why_42 ?_
    obtain ⟨h41, hf⟩ := gd_some hf
    refine m_iald hx hb hK hH 4 (by decide) rfl h41 dL_why_43 ?_
    refine lv_topi (fun v42 ev42 => ?_)
    have hf := gl_at hf ev42
    refine lv_istore (lv' := [(8, .int v42), (7, .int v38), (6, .int v34), (0, .int p0), (1, .ref (w.2.2.2 + 0)), (2, .ref (w.2.2.2 + 1)), (3, .ref (w.2.2.2 + 3)), (4, .ref (w.2.2.2 + 4)), (5, .ref (w.2.2.2 + 6))]) hx hb dL_why_44 hl (by decide) rfl (fun ls hl => ?_)
    refine lv_iload hx hb dL_why_46 (lv_at hl 1 rfl) ?_
    refine lv_bipush (v := 119) hx hb dL_why_48 (by decide) ?_
    have hg := gif hf
    refine lv_icmp_ne (tgt := 112) hx hb dL_why_50 (by decide) (fun c43 => ?_) (fun c43 => ?_)
    · have hf := hg.2 c43
      exact B112 _ _ _ _ _ hH hS (lv_sub hl [3, 4, 6, 7, 8, 2, 1] rfl) hf
    · have hf := hg.1 c43
      refine lv_aload_n hx hb dL_why_53 rfl (lv_at hl 5 rfl) ?_
      refine lv_iload hx hb dL_why_54 (lv_at hl 0 rfl) ?_
      obtain ⟨h45, hf⟩ := gd_some hf
      refine m_iald hx hb hK hH 1 (by decide) rfl h45 dL_why_56 ?_
      have hg := gif hf
      refine lv_if_eq (tgt := 82) hx hb dL_why_57 (by decide) (fun c46 => ?_) (fun c46 => ?_)
      · have hf := hg.1 c46
        exact B82 _ _ _ _ hH hS (lv_sub hl [4, 5, 0] rfl) hf
      · have hf := hg.2 c46
        refine lv_aload_n hx hb dL_why_60 rfl (lv_at hl 5 rfl) ?_
        refine lv_bipush (v := 6) hx hb dL_why_61 (by decide) ?_
        refine lv_iload hx hb dL_why_63 (lv_at hl 0 rfl) ?_
        refine lv_iadd hx hb dL_why_65 ?_
        obtain ⟨h48, hf⟩ := gd_some hf
        refine m_iald hx hb hK hH 1 (by decide) rfl h48 dL_why_66 ?_
        refine lv_aload_n hx hb dL_why_67 rfl (lv_at hl 4 rfl) ?_
        refine lv_iconst (v := 1) hx hb dL_why_68 (by decide) ?_
        obtain ⟨h50, hf⟩ := gd_some hf
        refine m_iald hx hb hK hH 0 (by decide) rfl h50 dL_why_69 ?_
        have hg := gif hf
        refine lv_icmp_ge (tgt := 82) hx hb dL_why_70 (by decide) (fun c51 => ?_) (fun c51 => ?_)
        · have hf := hg.1 c51
          exact B82 _ _ _ _ hH hS (lv_sub hl [4, 5, 0] rfl) hf
        · have hf := hg.2 c51
          refine lv_aload_n hx hb dL_why_73 rfl (lv_at hl 4 rfl) ?_
          refine lv_iconst (v := 4) hx hb dL_why_74 (by decide) ?_
          obtain ⟨h53, hf⟩ := gd_some hf
          refine m_iald hx hb hK hH 0 (by decide) rfl h53 dL_why_75 ?_
          refine lv_sipush (v := 400) hx hb dL_why_76 (by decide) ?_
          have hg := gif hf
          refine lv_icmp_ne (tgt := 112) hx hb dL_why_79 (by decide) (fun c54 => ?_) (fun c54 => ?_)
          · have hf := hg.2 c54
            exact B112 _ _ _ _ _ hH hS (lv_sub hl [3, 4, 6, 7, 8, 2, 1] rfl) hf
          · have hf := hg.1 c54
            exact B82 _ _ _ _ hH hS (lv_sub hl [4, 5, 0] rfl) hf
  · have hf := hg.1 c32
    refine lv_iconst (v := 1) hx hb dL_why_6 (by decide) ?_
    have ho := Option.some.inj hf
    exact W.iret (v := 1) hx hb hr (fun t ht hW => ⟨⟨1, (), rfl, congrArg (fun q => q) ho, (hrE ht hH)⟩, hS.F ht⟩) hS.2.2 dL_why_7
set_option maxRecDepth 100000 in
set_option maxHeartbeats 8000000 in
theorem c9_passes (l : Launch) (w : GW) (K : GK) (g : GM) (S : GS) (p0 : Int32) (out : GS) (hf : f9_passes S p0 = some out) : Met l yL_passes (wA yL_passes cL_passes 5 none) ({ frames := 2, cells := 0, slots := 0, locals := 46 } : Room) (PRE w K g S [.int p0, .ref (w.2.2.2 + 4), .ref (w.2.2.2 + 6)]) (QV w K g out) 0 0 (FR w) := by
  unfold f9_passes at hf
  refine Met.ofW (cc := cL_passes) (maxL := 5) (ret := none) (by decide) rfl ?_
  intro p e s m args below meth c s₁ B hml hv
  obtain ⟨rfl, hH, hK⟩ := hv
  have hx := B.exec
  have hb := B.bytes
  have hr := B.returns
  have hts : ∀ q ∈ gALL, q.before _ s = true := fun q h => atoms_spec (ws := (wA yL_passes cL_passes 5 none)) B.pre q (List.mem_cons_of_mem _ h)
  have hown : s.vm.findClass RL = some m.cls := findClass_of_methodNamed B.named
  have hlocks := B.notSynchronized
  have hS : va_S (FR w) s.heap s.heap [] := va_S.rf
  show W p l e ({ frames := 2, cells := 0, slots := 0, locals := 46 } : Room) s m _ below meth c s.heap [] 0 0 (MQ below (QV w K g out) _ s 0 0 (FR w)) _
  have hl := lv_entry ([.int p0, .ref (w.2.2.2 + 4), .ref (w.2.2.2 + 6)]) (n := 5) (Nat.le_of_ble_eq_true rfl)
  rw [lg_entry_eq]
  generalize (lg_sl ([.int p0, .ref (w.2.2.2 + 4), .ref (w.2.2.2 + 6)]) ++ List.replicate (5 - (lg_sl ([.int p0, .ref (w.2.2.2 + 4), .ref (w.2.2.2 + 6)])).length) Slot.unset).toArray = ls at hl ⊢
  clear B
  generalize ([.int p0, .ref (w.2.2.2 + 4), .ref (w.2.2.2 + 6)] : List Value).toArray = args at hts ⊢
  have B44 : ∀ (S : GS) (x3 : Int32) (x4 : Int32) (s1 : Int32) (s2 : Int32) (H : Heap) (locs : List Loc) (ls : Array Slot), HR w K g S H → va_S (FR w) s.heap H locs → lv_has ls 5 [(1, .ref (w.2.2.2 + 4)), (3, .int x3), (4, .int x4)] → f9_passes_44 p0 S x3 x4 s1 s2 = some out → W p l e ({ frames := 2, cells := 0, slots := 0, locals := 46 } : Room) s m args below meth c H locs 0 0 (MQ below (QV w K g out) args s 0 0 (FR w)) (F0 m 44 ls [.int s2, .int s1, .ref (w.2.2.2 + 4)]) := by
    intro  S x3 x4 s1 s2 H locs ls hH hS hl hf
    unfold f9_passes_44 at hf
    obtain ⟨h2, hf⟩ := gd_some hf
    refine m_iast hx hb hK hH hS 4 (by decide) rfl h2 dL_passes_44 (fun H locs hH hS => ?_)
    obtain ⟨S3, eS3⟩ : ∃ z : GS, z = ssI S 4 s1.toNatClampNeg s2 := ⟨_, rfl⟩
    have hf := gl_at hf eS3
    replace hH : HR w K g S3 H := by rw [eS3]; exact hH
    refine lv_aload_n hx hb dL_passes_45 rfl (lv_at hl 0 rfl) ?_
    refine lv_iload_n hx hb dL_passes_46 rfl (lv_at hl 1 rfl) ?_
    refine lv_iconst (v := 2) hx hb dL_passes_47 (by decide) ?_
    refine lv_iadd hx hb dL_passes_48 ?_
    refine lv_dup2_11 hx hb dL_passes_49 rfl rfl ?_
    obtain ⟨h5, hf⟩ := gd_some hf
    refine m_iald hx hb hK hH 4 (by decide) rfl h5 dL_passes_50 ?_
    refine lv_aload_n hx hb dL_passes_51 rfl (lv_at hl 0 rfl) ?_
    refine lv_iload_n hx hb dL_passes_52 rfl (lv_at hl 1 rfl) ?_
    refine lv_iconst (v := 3) hx hb dL_passes_53 (by decide) ?_
    refine lv_iadd hx hb dL_passes_54 ?_
    obtain ⟨h7, hf⟩ := gd_some hf
    refine m_iald hx hb hK hH 4 (by decide) rfl h7 dL_passes_55 ?_
    have hg := gif hf
    refine lv_if_le (tgt := 63) hx hb dL_passes_56 (by decide) (fun c8 => ?_) (fun c8 => ?_)
    · have hf := hg.1 c8
      refine lv_iload hx hb dL_passes_63 (lv_at hl 2 rfl) ?_
      refine lv_iconst (v := 1) hx hb dL_passes_65 (by decide) ?_
      have hg := gif hf
      refine lv_icmp_le (tgt := 73) hx hb dL_passes_66 (by decide) (fun c9 => ?_) (fun c9 => ?_)
      · have hf := hg.1 c9
        refine lv_iconst (v := 1) hx hb dL_passes_73 (by decide) ?_
        refine lv_iadd hx hb dL_passes_74 ?_
        refine m_iast hx hb hK hH hS 4 (by decide) rfl h5 dL_passes_75 (fun H locs hH hS => ?_)
        obtain ⟨S11, eS11⟩ : ∃ z : GS, z = ssI S3 4 (x3 + 2).toNatClampNeg ((S3 4 (x3 + 2).toNatClampNeg) + 1) := ⟨_, rfl⟩
        have hf := gl_at hf eS11
        replace hH : HR w K g S11 H := by rw [eS11]; exact hH
        have ho := Option.some.inj hf
        exact W.vret hx hb hr (fun t ht hW => ⟨⟨(), rfl, trivial, (by subst ho; exact hrE ht hH)⟩, hS.F ht⟩) hS.2.2 dL_passes_76
      · have hf := hg.2 c9
        refine lv_iconst (v := 2) hx hb dL_passes_69 (by decide) ?_
        refine lv_goto (tgt := 74) hx hb dL_passes_70 (by decide) ?_
        refine lv_iadd hx hb dL_passes_74 ?_
        refine m_iast hx hb hK hH hS 4 (by decide) rfl h5 dL_passes_75 (fun H locs hH hS => ?_)
        obtain ⟨S13, eS13⟩ : ∃ z : GS, z = ssI S3 4 (x3 + 2).toNatClampNeg ((S3 4 (x3 + 2).toNatClampNeg) + 2) := ⟨_, rfl⟩
        have hf := gl_at hf eS13
        replace hH : HR w K g S13 H := by rw [eS13]; exact hH
        have ho := Option.some.inj hf
        exact W.vret hx hb hr (fun t ht hW => ⟨⟨(), rfl, trivial, (by subst ho; exact hrE ht hH)⟩, hS.F ht⟩) hS.2.2 dL_passes_76
    · have hf := hg.2 c8
      refine lv_iconst (v := 0) hx hb dL_passes_59 (by decide) ?_
      refine lv_goto (tgt := 74) hx hb dL_passes_60 (by decide) ?_
      refine lv_iadd hx hb dL_passes_74 ?_
      refine m_iast hx hb hK hH hS 4 (by decide) rfl h5 dL_passes_75 (fun H locs hH hS => ?_)
      obtain ⟨S15, eS15⟩ : ∃ z : GS, z = ssI S3 4 (x3 + 2).toNatClampNeg ((S3 4 (x3 + 2).toNatClampNeg) + 0) := ⟨_, rfl⟩
      have hf := gl_at hf eS15
      replace hH : HR w K g S15 H := by rw [eS15]; exact hH
      have ho := Option.some.inj hf
      exact W.vret hx hb hr (fun t ht hW => ⟨⟨(), rfl, trivial, (by subst ho; exact hrE ht hH)⟩, hS.F ht⟩) hS.2.2 dL_passes_76
  have hl : lv_has ls 5 [(0, .int p0), (1, .ref (w.2.2.2 + 4)), (2, .ref (w.2.2.2 + 6))] := hl
  refine lv_bipush (v := 6) hx hb dL_passes_0 (by decide) ?_
  refine lv_iload_n hx hb dL_passes_2 rfl (lv_at hl 0 rfl) ?_
  refine lv_imul hx hb dL_passes_3 ?_
  refine lv_topi (fun v16 ev16 => ?_)
  have hf := gl_at hf ev16
  refine lv_istore_n (lv' := [(3, .int v16), (0, .int p0), (1, .ref (w.2.2.2 + 4)), (2, .ref (w.2.2.2 + 6))]) hx hb dL_passes_4 rfl hl (by decide) rfl (fun ls hl => ?_)
  refine lv_iload_n hx hb dL_passes_5 rfl (lv_at hl 1 rfl) ?_
  refine lv_aload_n hx hb dL_passes_6 rfl (lv_at hl 2 rfl) ?_
  refine lv_iload_n hx hb dL_passes_7 rfl (lv_at hl 0 rfl) ?_
  refine lv_iconst (v := 2) hx hb dL_passes_8 (by decide) ?_
  refine lv_iadd hx hb dL_passes_9 ?_
  obtain ⟨h18, hf⟩ := gd_some hf
  refine m_iald hx hb hK hH 4 (by decide) rfl h18 dL_passes_10 ?_
  refine lv_aload_n hx hb dL_passes_11 rfl (lv_at hl 2 rfl) ?_
  refine lv_aload_n hx hb dL_passes_12 rfl (lv_at hl 3 rfl) ?_
  obtain ⟨v19, h20, hf⟩ := gbind hf
  refine g_Si (As := [.int p0, .int (S 4 (v16 + 2).toNatClampNeg), .ref (w.2.2.2 + 4), .ref (w.2.2.2 + 6)]) (rest := []) ⟨hx, hb, hml, hown, hts⟩ (c9_digit l w K g S p0 (S 4 (v16 + 2).toNatClampNeg) v19 h20) (gcwS hts i9_digit wd_486 rfl rfl ⟨Nat.le_of_ble_eq_true rfl, Nat.le_of_ble_eq_true rfl⟩) hH hK hS hl.1 rfl rfl (Nat.le_of_ble_eq_true rfl) dL_passes_13 ⟨Nat.le_refl _, Nat.le_refl _⟩ (fun H locs hH hS => ?_)
  refine lv_istore (lv' := [(4, .int v19), (3, .int v16), (0, .int p0), (1, .ref (w.2.2.2 + 4)), (2, .ref (w.2.2.2 + 6))]) hx hb dL_passes_16 hl (by decide) rfl (fun ls hl => ?_)
  refine lv_aload_n hx hb dL_passes_18 rfl (lv_at hl 3 rfl) ?_
  refine lv_iload_n hx hb dL_passes_19 rfl (lv_at hl 1 rfl) ?_
  refine lv_iconst (v := 3) hx hb dL_passes_20 (by decide) ?_
  refine lv_iadd hx hb dL_passes_21 ?_
  refine lv_aload_n hx hb dL_passes_22 rfl (lv_at hl 3 rfl) ?_
  refine lv_iload_n hx hb dL_passes_23 rfl (lv_at hl 1 rfl) ?_
  refine lv_iconst (v := 3) hx hb dL_passes_24 (by decide) ?_
  refine lv_iadd hx hb dL_passes_25 ?_
  obtain ⟨h22, hf⟩ := gd_some hf
  refine m_iald hx hb hK hH 4 (by decide) rfl h22 dL_passes_26 ?_
  have hg := gif hf
  refine lv_if_le (tgt := 40) hx hb dL_passes_27 (by decide) (fun c23 => ?_) (fun c23 => ?_)
  · have hf := hg.1 c23
    refine lv_iload hx hb dL_passes_40 (lv_at hl 0 rfl) ?_
    refine lv_iconst (v := 1) hx hb dL_passes_42 (by decide) ?_
    refine lv_isub hx hb dL_passes_43 ?_
    exact B44 _ _ _ _ _ _ _ _ hH hS (lv_sub hl [3, 1, 0] rfl) hf
  · have hf := hg.2 c23
    refine lv_aload_n hx hb dL_passes_30 rfl (lv_at hl 3 rfl) ?_
    refine lv_iload_n hx hb dL_passes_31 rfl (lv_at hl 1 rfl) ?_
    refine lv_iconst (v := 3) hx hb dL_passes_32 (by decide) ?_
    refine lv_iadd hx hb dL_passes_33 ?_
    refine m_iald hx hb hK hH 4 (by decide) rfl h22 dL_passes_34 ?_
    refine lv_iconst (v := 1) hx hb dL_passes_35 (by decide) ?_
    refine lv_isub hx hb dL_passes_36 ?_
    refine lv_goto (tgt := 44) hx hb dL_passes_37 (by decide) ?_
    exact B44 _ _ _ _ _ _ _ _ hH hS (lv_sub hl [3, 1, 0] rfl) hf
set_option maxRecDepth 100000 in
set_option maxHeartbeats 8000000 in
theorem c9_settles (l : Launch) (w : GW) (K : GK) (g : GM) (S : GS) (out : GS) (hf : f9_settles S = some out) : Met l yL_settles (wA yL_settles cL_settles 7 none) ({ frames := 1, cells := 0, slots := 0, locals := 22 } : Room) (PRE w K g S [.ref (w.2.2.2 + 0), .ref (w.2.2.2 + 4), .ref (w.2.2.2 + 5), .ref (w.2.2.2 + 6)]) (QV w K g out) 0 0 (FR w) := by
  unfold f9_settles at hf
  refine Met.ofW (cc := cL_settles) (maxL := 7) (ret := none) (by decide) rfl ?_
  intro p e s m args below meth c s₁ B hml hv
  obtain ⟨rfl, hH, hK⟩ := hv
  have hx := B.exec
  have hb := B.bytes
  have hr := B.returns
  have hts : ∀ q ∈ gALL, q.before _ s = true := fun q h => atoms_spec (ws := (wA yL_settles cL_settles 7 none)) B.pre q (List.mem_cons_of_mem _ h)
  have hown : s.vm.findClass RL = some m.cls := findClass_of_methodNamed B.named
  have hlocks := B.notSynchronized
  have hS : va_S (FR w) s.heap s.heap [] := va_S.rf
  show W p l e ({ frames := 1, cells := 0, slots := 0, locals := 22 } : Room) s m _ below meth c s.heap [] 0 0 (MQ below (QV w K g out) _ s 0 0 (FR w)) _
  have hl := lv_entry ([.ref (w.2.2.2 + 0), .ref (w.2.2.2 + 4), .ref (w.2.2.2 + 5), .ref (w.2.2.2 + 6)]) (n := 7) (Nat.le_of_ble_eq_true rfl)
  rw [lg_entry_eq]
  generalize (lg_sl ([.ref (w.2.2.2 + 0), .ref (w.2.2.2 + 4), .ref (w.2.2.2 + 5), .ref (w.2.2.2 + 6)]) ++ List.replicate (7 - (lg_sl ([.ref (w.2.2.2 + 0), .ref (w.2.2.2 + 4), .ref (w.2.2.2 + 5), .ref (w.2.2.2 + 6)])).length) Slot.unset).toArray = ls at hl ⊢
  clear B
  generalize ([.ref (w.2.2.2 + 0), .ref (w.2.2.2 + 4), .ref (w.2.2.2 + 5), .ref (w.2.2.2 + 6)] : List Value).toArray = args at hts ⊢
  have B172 : ∀ (k0 : GS → Option (GS)), (∀ (S : GS) (H : Heap) (locs : List Loc) (ls : Array Slot), HR w K g S H → va_S (FR w) s.heap H locs → lv_has ls 7 [(0, .ref (w.2.2.2 + 0)), (1, .ref (w.2.2.2 + 4)), (2, .ref (w.2.2.2 + 5)), (3, .ref (w.2.2.2 + 6))] → k0 S = some out → W p l e ({ frames := 1, cells := 0, slots := 0, locals := 22 } : Room) s m args below meth c H locs 0 0 (MQ below (QV w K g out) args s 0 0 (FR w)) (F0 m 0 ls [])) → ∀ (S : GS) (H : Heap) (locs : List Loc) (ls : Array Slot), HR w K g S H → va_S (FR w) s.heap H locs → lv_has ls 7 [(0, .ref (w.2.2.2 + 0)), (1, .ref (w.2.2.2 + 4)), (2, .ref (w.2.2.2 + 5)), (3, .ref (w.2.2.2 + 6))] → f9_settles_172 k0 S = some out → W p l e ({ frames := 1, cells := 0, slots := 0, locals := 22 } : Room) s m args below meth c H locs 0 0 (MQ below (QV w K g out) args s 0 0 (FR w)) (F0 m 172 ls []) := by
    intro k0 hk0 S H locs ls hH hS hl hf
    unfold f9_settles_172 at hf
    refine lv_goto (tgt := 0) hx hb dL_settles_172 (by decide) ?_
    exact hk0 _ _ _ _ hH hS (lv_sub hl [0, 1, 2, 3] rfl) hf
  have B167 : ∀ (k0 : GS → Option (GS)), (∀ (S : GS) (H : Heap) (locs : List Loc) (ls : Array Slot), HR w K g S H → va_S (FR w) s.heap H locs → lv_has ls 7 [(0, .ref (w.2.2.2 + 0)), (1, .ref (w.2.2.2 + 4)), (2, .ref (w.2.2.2 + 5)), (3, .ref (w.2.2.2 + 6))] → k0 S = some out → W p l e ({ frames := 1, cells := 0, slots := 0, locals := 22 } : Room) s m args below meth c H locs 0 0 (MQ below (QV w K g out) args s 0 0 (FR w)) (F0 m 0 ls [])) → ∀ (S : GS) (s1 : Int32) (s2 : Int32) (H : Heap) (locs : List Loc) (ls : Array Slot), HR w K g S H → va_S (FR w) s.heap H locs → lv_has ls 7 [(0, .ref (w.2.2.2 + 0)), (1, .ref (w.2.2.2 + 4)), (2, .ref (w.2.2.2 + 5)), (3, .ref (w.2.2.2 + 6))] → f9_settles_167 k0 S s1 s2 = some out → W p l e ({ frames := 1, cells := 0, slots := 0, locals := 22 } : Room) s m args below meth c H locs 0 0 (MQ below (QV w K g out) args s 0 0 (FR w)) (F0 m 167 ls [.int s2, .int s1, .ref (w.2.2.2 + 4)]) := by
    intro k0 hk0 S s1 s2 H locs ls hH hS hl hf
    unfold f9_settles_167 at hf
    obtain ⟨h2, hf⟩ := gd_some hf
    refine m_iast hx hb hK hH hS 4 (by decide) rfl h2 dL_settles_167 (fun H locs hH hS => ?_)
    obtain ⟨S3, eS3⟩ : ∃ z : GS, z = ssI S 4 s1.toNatClampNeg s2 := ⟨_, rfl⟩
    have hf := gl_at hf eS3
    replace hH : HR w K g S3 H := by rw [eS3]; exact hH
    refine lv_goto (tgt := 172) hx hb dL_settles_168 (by decide) ?_
    exact B172 _ (hk0) _ _ _ _ hH hS (lv_sub hl [0, 1, 2, 3] rfl) hf
  have B146 : ∀ (k0 : GS → Option (GS)), (∀ (S : GS) (H : Heap) (locs : List Loc) (ls : Array Slot), HR w K g S H → va_S (FR w) s.heap H locs → lv_has ls 7 [(0, .ref (w.2.2.2 + 0)), (1, .ref (w.2.2.2 + 4)), (2, .ref (w.2.2.2 + 5)), (3, .ref (w.2.2.2 + 6))] → k0 S = some out → W p l e ({ frames := 1, cells := 0, slots := 0, locals := 22 } : Room) s m args below meth c H locs 0 0 (MQ below (QV w K g out) args s 0 0 (FR w)) (F0 m 0 ls [])) → ∀ (S : GS) (x4 : Int32) (x5 : Int32) (x6 : Int32) (s1 : Int32) (s2 : Int32) (H : Heap) (locs : List Loc) (ls : Array Slot), HR w K g S H → va_S (FR w) s.heap H locs → lv_has ls 7 [(0, .ref (w.2.2.2 + 0)), (1, .ref (w.2.2.2 + 4)), (2, .ref (w.2.2.2 + 5)), (3, .ref (w.2.2.2 + 6)), (4, .int x4), (5, .int x5), (6, .int x6)] → f9_settles_146 k0 S x4 x5 x6 s1 s2 = some out → W p l e ({ frames := 1, cells := 0, slots := 0, locals := 22 } : Room) s m args below meth c H locs 0 0 (MQ below (QV w K g out) args s 0 0 (FR w)) (F0 m 146 ls [.int s2, .int s1, .ref (w.2.2.2 + 4)]) := by
    intro k0 hk0 S x4 x5 x6 s1 s2 H locs ls hH hS hl hf
    unfold f9_settles_146 at hf
    obtain ⟨h5, hf⟩ := gd_some hf
    refine m_iast hx hb hK hH hS 4 (by decide) rfl h5 dL_settles_146 (fun H locs hH hS => ?_)
    obtain ⟨S6, eS6⟩ : ∃ z : GS, z = ssI S 4 s1.toNatClampNeg s2 := ⟨_, rfl⟩
    have hf := gl_at hf eS6
    replace hH : HR w K g S6 H := by rw [eS6]; exact hH
    refine lv_aload_n hx hb dL_settles_147 rfl (lv_at hl 1 rfl) ?_
    refine lv_iload hx hb dL_settles_148 (lv_at hl 4 rfl) ?_
    refine lv_iconst (v := 3) hx hb dL_settles_150 (by decide) ?_
    refine lv_iadd hx hb dL_settles_151 ?_
    refine lv_iload hx hb dL_settles_152 (lv_at hl 6 rfl) ?_
    have hg := gif hf
    refine lv_if_eq (tgt := 166) hx hb dL_settles_154 (by decide) (fun c7 => ?_) (fun c7 => ?_)
    · have hf := hg.1 c7
      refine lv_iconst (v := 0) hx hb dL_settles_166 (by decide) ?_
      exact B167 _ (hk0) _ _ _ _ _ _ hH hS (lv_sub hl [0, 1, 2, 3] rfl) hf
    · have hf := hg.2 c7
      refine lv_aload_n hx hb dL_settles_157 rfl (lv_at hl 2 rfl) ?_
      refine lv_iload hx hb dL_settles_158 (lv_at hl 5 rfl) ?_
      refine lv_iconst (v := 1) hx hb dL_settles_160 (by decide) ?_
      refine lv_iadd hx hb dL_settles_161 ?_
      obtain ⟨h9, hf⟩ := gd_some hf
      refine m_iald hx hb hK hH 5 (by decide) rfl h9 dL_settles_162 ?_
      refine lv_goto (tgt := 167) hx hb dL_settles_163 (by decide) ?_
      exact B167 _ (hk0) _ _ _ _ _ _ hH hS (lv_sub hl [0, 1, 2, 3] rfl) hf
  have B109 : ∀ (k0 : GS → Option (GS)), (∀ (S : GS) (H : Heap) (locs : List Loc) (ls : Array Slot), HR w K g S H → va_S (FR w) s.heap H locs → lv_has ls 7 [(0, .ref (w.2.2.2 + 0)), (1, .ref (w.2.2.2 + 4)), (2, .ref (w.2.2.2 + 5)), (3, .ref (w.2.2.2 + 6))] → k0 S = some out → W p l e ({ frames := 1, cells := 0, slots := 0, locals := 22 } : Room) s m args below meth c H locs 0 0 (MQ below (QV w K g out) args s 0 0 (FR w)) (F0 m 0 ls [])) → ∀ (S : GS) (x4 : Int32) (x5 : Int32) (s0 : Int32) (H : Heap) (locs : List Loc) (ls : Array Slot), HR w K g S H → va_S (FR w) s.heap H locs → lv_has ls 7 [(0, .ref (w.2.2.2 + 0)), (1, .ref (w.2.2.2 + 4)), (2, .ref (w.2.2.2 + 5)), (3, .ref (w.2.2.2 + 6)), (4, .int x4), (5, .int x5)] → f9_settles_109 k0 S x4 x5 s0 = some out → W p l e ({ frames := 1, cells := 0, slots := 0, locals := 22 } : Room) s m args below meth c H locs 0 0 (MQ below (QV w K g out) args s 0 0 (FR w)) (F0 m 109 ls [.int s0]) := by
    intro k0 hk0 S x4 x5 s0 H locs ls hH hS hl hf
    unfold f9_settles_109 at hf
    refine lv_istore (lv' := [(6, .int s0), (0, .ref (w.2.2.2 + 0)), (1, .ref (w.2.2.2 + 4)), (2, .ref (w.2.2.2 + 5)), (3, .ref (w.2.2.2 + 6)), (4, .int x4), (5, .int x5)]) hx hb dL_settles_109 hl (by decide) rfl (fun ls hl => ?_)
    refine lv_aload_n hx hb dL_settles_111 rfl (lv_at hl 2 rfl) ?_
    refine lv_iload hx hb dL_settles_112 (lv_at hl 5 rfl) ?_
    refine lv_iconst (v := 4) hx hb dL_settles_114 (by decide) ?_
    refine lv_iadd hx hb dL_settles_115 ?_
    refine lv_dup2_11 hx hb dL_settles_116 rfl rfl ?_
    obtain ⟨h11, hf⟩ := gd_some hf
    refine m_iald hx hb hK hH 4 (by decide) rfl h11 dL_settles_117 ?_
    refine lv_iconst (v := 1) hx hb dL_settles_118 (by decide) ?_
    refine lv_isub hx hb dL_settles_119 ?_
    refine m_iast hx hb hK hH hS 4 (by decide) rfl h11 dL_settles_120 (fun H locs hH hS => ?_)
    obtain ⟨S13, eS13⟩ : ∃ z : GS, z = ssI S 4 (x4 + 4).toNatClampNeg ((S 4 (x4 + 4).toNatClampNeg) - 1) := ⟨_, rfl⟩
    have hf := gl_at hf eS13
    replace hH : HR w K g S13 H := by rw [eS13]; exact hH
    refine lv_aload_n hx hb dL_settles_121 rfl (lv_at hl 2 rfl) ?_
    refine lv_iload hx hb dL_settles_122 (lv_at hl 5 rfl) ?_
    refine lv_iconst (v := 2) hx hb dL_settles_124 (by decide) ?_
    refine lv_iadd hx hb dL_settles_125 ?_
    refine lv_iload hx hb dL_settles_126 (lv_at hl 0 rfl) ?_
    have hg := gif hf
    refine lv_if_eq (tgt := 138) hx hb dL_settles_128 (by decide) (fun c14 => ?_) (fun c14 => ?_)
    · have hf := hg.1 c14
      refine lv_aload_n hx hb dL_settles_138 rfl (lv_at hl 2 rfl) ?_
      refine lv_iload hx hb dL_settles_139 (lv_at hl 5 rfl) ?_
      refine lv_iconst (v := 2) hx hb dL_settles_141 (by decide) ?_
      refine lv_iadd hx hb dL_settles_142 ?_
      obtain ⟨h16, hf⟩ := gd_some hf
      refine m_iald hx hb hK hH 4 (by decide) rfl h16 dL_settles_143 ?_
      refine lv_iconst (v := 1) hx hb dL_settles_144 (by decide) ?_
      refine lv_iadd hx hb dL_settles_145 ?_
      exact B146 _ (hk0) _ _ _ _ _ _ _ _ _ hH hS (lv_sub hl [1, 2, 3, 4, 5, 6, 0] rfl) hf
    · have hf := hg.2 c14
      refine lv_aload_n hx hb dL_settles_131 rfl (lv_at hl 3 rfl) ?_
      refine lv_iload hx hb dL_settles_132 (lv_at hl 6 rfl) ?_
      obtain ⟨h18, hf⟩ := gd_some hf
      refine m_iald hx hb hK hH 5 (by decide) rfl h18 dL_settles_134 ?_
      refine lv_goto (tgt := 146) hx hb dL_settles_135 (by decide) ?_
      exact B146 _ (hk0) _ _ _ _ _ _ _ _ _ hH hS (lv_sub hl [1, 2, 3, 4, 5, 6, 0] rfl) hf
  have B52 : ∀ (k0 : GS → Option (GS)), (∀ (S : GS) (H : Heap) (locs : List Loc) (ls : Array Slot), HR w K g S H → va_S (FR w) s.heap H locs → lv_has ls 7 [(0, .ref (w.2.2.2 + 0)), (1, .ref (w.2.2.2 + 4)), (2, .ref (w.2.2.2 + 5)), (3, .ref (w.2.2.2 + 6))] → k0 S = some out → W p l e ({ frames := 1, cells := 0, slots := 0, locals := 22 } : Room) s m args below meth c H locs 0 0 (MQ below (QV w K g out) args s 0 0 (FR w)) (F0 m 0 ls [])) → ∀ (S : GS) (s1 : Int32) (H : Heap) (locs : List Loc) (ls : Array Slot), HR w K g S H → va_S (FR w) s.heap H locs → lv_has ls 7 [(0, .ref (w.2.2.2 + 0)), (1, .ref (w.2.2.2 + 4)), (2, .ref (w.2.2.2 + 5)), (3, .ref (w.2.2.2 + 6))] → f9_settles_52 k0 S s1 = some out → W p l e ({ frames := 1, cells := 0, slots := 0, locals := 22 } : Room) s m args below meth c H locs 0 0 (MQ below (QV w K g out) args s 0 0 (FR w)) (F0 m 52 ls [.int s1, .ref (w.2.2.2 + 4)]) := by
    intro k0 hk0 S s1 H locs ls hH hS hl hf
    unfold f9_settles_52 at hf
    refine lv_dup2_11 hx hb dL_settles_52 rfl rfl ?_
    obtain ⟨h20, hf⟩ := gd_some hf
    refine m_iald hx hb hK hH 4 (by decide) rfl h20 dL_settles_53 ?_
    refine lv_iconst (v := 2) hx hb dL_settles_54 (by decide) ?_
    refine lv_iadd hx hb dL_settles_55 ?_
    refine m_iast hx hb hK hH hS 4 (by decide) rfl h20 dL_settles_56 (fun H locs hH hS => ?_)
    obtain ⟨S22, eS22⟩ : ∃ z : GS, z = ssI S 4 s1.toNatClampNeg ((S 4 s1.toNatClampNeg) + 2) := ⟨_, rfl⟩
    have hf := gl_at hf eS22
    replace hH : HR w K g S22 H := by rw [eS22]; exact hH
    refine lv_goto (tgt := 172) hx hb dL_settles_57 (by decide) ?_
    exact B172 _ (hk0) _ _ _ _ hH hS (lv_sub hl [0, 1, 2, 3] rfl) hf
  have B0 : ∀ n : Nat, ∀ (S : GS) (H : Heap) (locs : List Loc) (ls : Array Slot), HR w K g S H → va_S (FR w) s.heap H locs → lv_has ls 7 [(0, .ref (w.2.2.2 + 0)), (1, .ref (w.2.2.2 + 4)), (2, .ref (w.2.2.2 + 5)), (3, .ref (w.2.2.2 + 6))] → f9_settles_0 n S = some out → W p l e ({ frames := 1, cells := 0, slots := 0, locals := 22 } : Room) s m args below meth c H locs 0 0 (MQ below (QV w K g out) args s 0 0 (FR w)) (F0 m 0 ls []) := by
    intro n
    induction n with
    | zero =>
      intro S H locs ls hH hS hl hf
      cases hf
    | succ n ih =>
      intro S H locs ls hH hS hl hf
      rw [f9_settles_0] at hf
      refine lv_aload_n hx hb dL_settles_0 rfl (lv_at hl 0 rfl) ?_
      refine lv_iconst (v := 3) hx hb dL_settles_1 (by decide) ?_
      obtain ⟨h24, hf⟩ := gd_some hf
      refine m_iald hx hb hK hH 0 (by decide) rfl h24 dL_settles_2 ?_
      have hg := gif hf
      refine lv_if_le (tgt := 175) hx hb dL_settles_3 (by decide) (fun c25 => ?_) (fun c25 => ?_)
      · have hf := hg.1 c25
        have ho := Option.some.inj hf
        exact W.vret hx hb hr (fun t ht hW => ⟨⟨(), rfl, trivial, (by subst ho; exact hrE ht hH)⟩, hS.F ht⟩) hS.2.2 dL_settles_175
      · have hf := hg.2 c25
        refine lv_bipush (v := 6) hx hb dL_settles_6 (by decide) ?_
        refine lv_aload_n hx hb dL_settles_8 rfl (lv_at hl 0 rfl) ?_
        refine lv_iconst (v := 3) hx hb dL_settles_9 (by decide) ?_
        refine m_iald hx hb hK hH 0 (by decide) rfl h24 dL_settles_10 ?_
        refine lv_iconst (v := 1) hx hb dL_settles_11 (by decide) ?_
        refine lv_isub hx hb dL_settles_12 ?_
        refine lv_imul hx hb dL_settles_13 ?_
        refine lv_topi (fun v27 ev27 => ?_)
        have hf := gl_at hf ev27
        refine lv_istore (lv' := [(4, .int v27), (0, .ref (w.2.2.2 + 0)), (1, .ref (w.2.2.2 + 4)), (2, .ref (w.2.2.2 + 5)), (3, .ref (w.2.2.2 + 6))]) hx hb dL_settles_14 hl (by decide) rfl (fun ls hl => ?_)
        refine lv_aload_n hx hb dL_settles_16 rfl (lv_at hl 2 rfl) ?_
        refine lv_iload hx hb dL_settles_17 (lv_at hl 0 rfl) ?_
        refine lv_iconst (v := 2) hx hb dL_settles_19 (by decide) ?_
        refine lv_iadd hx hb dL_settles_20 ?_
        obtain ⟨h29, hf⟩ := gd_some hf
        refine m_iald hx hb hK hH 4 (by decide) rfl h29 dL_settles_21 ?_
        refine lv_aload_n hx hb dL_settles_22 rfl (lv_at hl 2 rfl) ?_
        refine lv_iload hx hb dL_settles_23 (lv_at hl 0 rfl) ?_
        refine lv_iconst (v := 5) hx hb dL_settles_25 (by decide) ?_
        refine lv_iadd hx hb dL_settles_26 ?_
        obtain ⟨h31, hf⟩ := gd_some hf
        refine m_iald hx hb hK hH 4 (by decide) rfl h31 dL_settles_27 ?_
        have hg := gif hf
        refine lv_icmp_lt (tgt := 60) hx hb dL_settles_28 (by decide) (fun c32 => ?_) (fun c32 => ?_)
        · have hf := hg.1 c32
          refine lv_aload_n hx hb dL_settles_60 rfl (lv_at hl 4 rfl) ?_
          refine lv_aload_n hx hb dL_settles_61 rfl (lv_at hl 1 rfl) ?_
          refine lv_iconst (v := 3) hx hb dL_settles_62 (by decide) ?_
          refine m_iald hx hb hK hH 0 (by decide) rfl h24 dL_settles_63 ?_
          refine lv_iconst (v := 1) hx hb dL_settles_64 (by decide) ?_
          refine lv_isub hx hb dL_settles_65 ?_
          refine lv_aload_n hx hb dL_settles_66 rfl (lv_at hl 2 rfl) ?_
          refine lv_iload hx hb dL_settles_67 (lv_at hl 0 rfl) ?_
          refine lv_iconst (v := 2) hx hb dL_settles_69 (by decide) ?_
          refine lv_iadd hx hb dL_settles_70 ?_
          refine m_iald hx hb hK hH 4 (by decide) rfl h29 dL_settles_71 ?_
          obtain ⟨v35, h36, hf⟩ := gbind hf
          refine g_Si (As := [.ref (w.2.2.2 + 6), .int ((S 0 (3 : Int32).toNatClampNeg) - 1), .int (S 4 (v27 + 2).toNatClampNeg)]) (rest := []) ⟨hx, hb, hml, hown, hts⟩ (c9_at6 l w K g S ((S 0 (3 : Int32).toNatClampNeg) - 1) (S 4 (v27 + 2).toNatClampNeg) v35 h36) (gcwS hts i9_at wd_324 rfl rfl ⟨Nat.le_of_ble_eq_true rfl, Nat.le_of_ble_eq_true rfl⟩) hH hK hS hl.1 rfl rfl (Nat.le_of_ble_eq_true rfl) dL_settles_72 ⟨Nat.le_refl _, Nat.le_refl _⟩ (fun H locs hH hS => ?_)
          refine lv_bipush (v := 41) hx hb dL_settles_75 (by decide) ?_
          have hg := gif hf
          refine lv_icmp_ne (tgt := 171) hx hb dL_settles_77 (by decide) (fun c37 => ?_) (fun c37 => ?_)
          · have hf := hg.2 c37
            have ho := Option.some.inj hf
            exact W.vret hx hb hr (fun t ht hW => ⟨⟨(), rfl, trivial, (by subst ho; exact hrE ht hH)⟩, hS.F ht⟩) hS.2.2 dL_settles_171
          · have hf := hg.1 c37
            refine lv_iload hx hb dL_settles_80 (lv_at hl 0 rfl) ?_
            refine lv_iconst (v := 2) hx hb dL_settles_82 (by decide) ?_
            refine lv_aload_n hx hb dL_settles_83 rfl (lv_at hl 2 rfl) ?_
            refine lv_iload hx hb dL_settles_84 (lv_at hl 0 rfl) ?_
            refine lv_iconst (v := 4) hx hb dL_settles_86 (by decide) ?_
            refine lv_iadd hx hb dL_settles_87 ?_
            obtain ⟨h39, hf⟩ := gd_some hf
            refine m_iald hx hb hK hH 4 (by decide) rfl h39 dL_settles_88 ?_
            refine lv_iconst (v := 1) hx hb dL_settles_89 (by decide) ?_
            refine lv_isub hx hb dL_settles_90 ?_
            refine lv_imul hx hb dL_settles_91 ?_
            refine lv_iadd hx hb dL_settles_92 ?_
            refine lv_topi (fun v40 ev40 => ?_)
            have hf := gl_at hf ev40
            refine lv_istore (lv' := [(5, .int v40), (4, .int v27), (0, .ref (w.2.2.2 + 0)), (1, .ref (w.2.2.2 + 4)), (2, .ref (w.2.2.2 + 5)), (3, .ref (w.2.2.2 + 6))]) hx hb dL_settles_93 hl (by decide) rfl (fun ls hl => ?_)
            refine lv_aload_n hx hb dL_settles_95 rfl (lv_at hl 4 rfl) ?_
            refine lv_iload hx hb dL_settles_96 (lv_at hl 0 rfl) ?_
            refine lv_iconst (v := 1) hx hb dL_settles_98 (by decide) ?_
            refine lv_iadd hx hb dL_settles_99 ?_
            obtain ⟨h42, hf⟩ := gd_some hf
            refine m_iald hx hb hK hH 5 (by decide) rfl h42 dL_settles_100 ?_
            have hg := gif hf
            refine lv_if_le (tgt := 108) hx hb dL_settles_101 (by decide) (fun c43 => ?_) (fun c43 => ?_)
            · have hf := hg.1 c43
              refine lv_iconst (v := 0) hx hb dL_settles_108 (by decide) ?_
              exact B109 _ (ih) _ _ _ _ _ _ _ hH hS (lv_sub hl [2, 3, 4, 5, 1, 0] rfl) hf
            · have hf := hg.2 c43
              refine lv_iconst (v := 1) hx hb dL_settles_104 (by decide) ?_
              refine lv_goto (tgt := 109) hx hb dL_settles_105 (by decide) ?_
              exact B109 _ (ih) _ _ _ _ _ _ _ hH hS (lv_sub hl [2, 3, 4, 5, 1, 0] rfl) hf
        · have hf := hg.2 c32
          refine lv_aload_n hx hb dL_settles_31 rfl (lv_at hl 1 rfl) ?_
          refine lv_iconst (v := 3) hx hb dL_settles_32 (by decide) ?_
          refine lv_dup2_11 hx hb dL_settles_33 rfl rfl ?_
          refine m_iald hx hb hK hH 0 (by decide) rfl h24 dL_settles_34 ?_
          refine lv_iconst (v := 1) hx hb dL_settles_35 (by decide) ?_
          refine lv_isub hx hb dL_settles_36 ?_
          refine m_iast hx hb hK hH hS 0 (by decide) rfl h24 dL_settles_37 (fun H locs hH hS => ?_)
          obtain ⟨S46, eS46⟩ : ∃ z : GS, z = ssI S 0 (3 : Int32).toNatClampNeg ((S 0 (3 : Int32).toNatClampNeg) - 1) := ⟨_, rfl⟩
          have hf := gl_at hf eS46
          replace hH : HR w K g S46 H := by rw [eS46]; exact hH
          refine lv_aload_n hx hb dL_settles_38 rfl (lv_at hl 2 rfl) ?_
          refine lv_iload hx hb dL_settles_39 (lv_at hl 0 rfl) ?_
          have hg := gif hf
          refine lv_if_ne (tgt := 48) hx hb dL_settles_41 (by decide) (fun c47 => ?_) (fun c47 => ?_)
          · have hf := hg.2 c47
            refine lv_iload hx hb dL_settles_48 (lv_at hl 0 rfl) ?_
            refine lv_iconst (v := 4) hx hb dL_settles_50 (by decide) ?_
            refine lv_isub hx hb dL_settles_51 ?_
            exact B52 _ (ih) _ _ _ _ _ hH hS (lv_sub hl [1, 2, 3, 4] rfl) hf
          · have hf := hg.1 c47
            refine lv_iconst (v := 2) hx hb dL_settles_44 (by decide) ?_
            refine lv_goto (tgt := 52) hx hb dL_settles_45 (by decide) ?_
            exact B52 _ (ih) _ _ _ _ _ hH hS (lv_sub hl [1, 2, 3, 4] rfl) hf
  have hl : lv_has ls 7 [(0, .ref (w.2.2.2 + 0)), (1, .ref (w.2.2.2 + 4)), (2, .ref (w.2.2.2 + 5)), (3, .ref (w.2.2.2 + 6))] := hl
  exact B0 _ _ _ _ _ hH hS (lv_sub hl [0, 1, 2, 3] rfl) hf
set_option maxRecDepth 100000 in
set_option maxHeartbeats 8000000 in
theorem c9_step (l : Launch) (w : GW) (K : GK) (g : GM) (S : GS) (out : GS) (hf : f9_step S = some out) : Met l yL_step (wA yL_step cL_step 13 none) ({ frames := 3, cells := 0, slots := 0, locals := 70 } : Room) (PRE w K g S [.ref (w.2.2.2 + 0), .ref (w.2.2.2 + 1), .ref (w.2.2.2 + 2), .ref (w.2.2.2 + 3), .ref (w.2.2.2 + 4), .ref (w.2.2.2 + 5), .ref (w.2.2.2 + 6), .ref (w.2.2.2 + 7)]) (QV w K g out) 0 0 (FR w) := by
  unfold f9_step at hf
  refine Met.ofW (cc := cL_step) (maxL := 13) (ret := none) (by decide) rfl ?_
  intro p e s m args below meth c s₁ B hml hv
  obtain ⟨rfl, hH, hK⟩ := hv
  have hx := B.exec
  have hb := B.bytes
  have hr := B.returns
  have hts : ∀ q ∈ gALL, q.before _ s = true := fun q h => atoms_spec (ws := (wA yL_step cL_step 13 none)) B.pre q (List.mem_cons_of_mem _ h)
  have hown : s.vm.findClass RL = some m.cls := findClass_of_methodNamed B.named
  have hlocks := B.notSynchronized
  have hS : va_S (FR w) s.heap s.heap [] := va_S.rf
  show W p l e ({ frames := 3, cells := 0, slots := 0, locals := 70 } : Room) s m _ below meth c s.heap [] 0 0 (MQ below (QV w K g out) _ s 0 0 (FR w)) _
  have hl := lv_entry ([.ref (w.2.2.2 + 0), .ref (w.2.2.2 + 1), .ref (w.2.2.2 + 2), .ref (w.2.2.2 + 3), .ref (w.2.2.2 + 4), .ref (w.2.2.2 + 5), .ref (w.2.2.2 + 6), .ref (w.2.2.2 + 7)]) (n := 13) (Nat.le_of_ble_eq_true rfl)
  rw [lg_entry_eq]
  generalize (lg_sl ([.ref (w.2.2.2 + 0), .ref (w.2.2.2 + 1), .ref (w.2.2.2 + 2), .ref (w.2.2.2 + 3), .ref (w.2.2.2 + 4), .ref (w.2.2.2 + 5), .ref (w.2.2.2 + 6), .ref (w.2.2.2 + 7)]) ++ List.replicate (13 - (lg_sl ([.ref (w.2.2.2 + 0), .ref (w.2.2.2 + 1), .ref (w.2.2.2 + 2), .ref (w.2.2.2 + 3), .ref (w.2.2.2 + 4), .ref (w.2.2.2 + 5), .ref (w.2.2.2 + 6), .ref (w.2.2.2 + 7)])).length) Slot.unset).toArray = ls at hl ⊢
  clear B
  generalize ([.ref (w.2.2.2 + 0), .ref (w.2.2.2 + 1), .ref (w.2.2.2 + 2), .ref (w.2.2.2 + 3), .ref (w.2.2.2 + 4), .ref (w.2.2.2 + 5), .ref (w.2.2.2 + 6), .ref (w.2.2.2 + 7)] : List Value).toArray = args at hts ⊢
  have B351 : ∀ (S : GS) (H : Heap) (locs : List Loc) (ls : Array Slot), HR w K g S H → va_S (FR w) s.heap H locs → lv_has ls 13 [(0, .ref (w.2.2.2 + 0)), (4, .ref (w.2.2.2 + 4)), (5, .ref (w.2.2.2 + 5)), (6, .ref (w.2.2.2 + 6))] → f9_step_351 S = some out → W p l e ({ frames := 3, cells := 0, slots := 0, locals := 70 } : Room) s m args below meth c H locs 0 0 (MQ below (QV w K g out) args s 0 0 (FR w)) (F0 m 351 ls []) := by
    intro  S H locs ls hH hS hl hf
    unfold f9_step_351 at hf
    refine lv_aload_n hx hb dL_step_351 rfl (lv_at hl 0 rfl) ?_
    refine lv_aload hx hb dL_step_352 (lv_at hl 1 rfl) ?_
    refine lv_aload hx hb dL_step_354 (lv_at hl 2 rfl) ?_
    refine lv_aload hx hb dL_step_356 (lv_at hl 3 rfl) ?_
    obtain ⟨S1, h2, hf⟩ := gbind hf
    refine g_Sv (As := [.ref (w.2.2.2 + 0), .ref (w.2.2.2 + 4), .ref (w.2.2.2 + 5), .ref (w.2.2.2 + 6)]) (rest := []) ⟨hx, hb, hml, hown, hts⟩ (c9_settles l w K g S S1 h2) (gcwS hts i9_settles wd_495 rfl rfl ⟨Nat.le_of_ble_eq_true rfl, Nat.le_of_ble_eq_true rfl⟩) hH hK hS hl.1 rfl rfl (Nat.le_of_ble_eq_true rfl) dL_step_358 ⟨Nat.le_refl _, Nat.le_refl _⟩ (fun H locs hH hS => ?_)
    have ho := Option.some.inj hf
    exact W.vret hx hb hr (fun t ht hW => ⟨⟨(), rfl, trivial, (by subst ho; exact hrE ht hH)⟩, hS.F ht⟩) hS.2.2 dL_step_361
  have B318 : ∀ (S : GS) (x8 : Int32) (x9 : Int32) (x10 : Int32) (s0 : Int32) (s1 : Int32) (H : Heap) (locs : List Loc) (ls : Array Slot), HR w K g S H → va_S (FR w) s.heap H locs → lv_has ls 13 [(0, .ref (w.2.2.2 + 0)), (4, .ref (w.2.2.2 + 4)), (5, .ref (w.2.2.2 + 5)), (6, .ref (w.2.2.2 + 6)), (8, .int x8), (9, .int x9), (10, .int x10)] → f9_step_318 S x8 x9 x10 s0 s1 = some out → W p l e ({ frames := 3, cells := 0, slots := 0, locals := 70 } : Room) s m args below meth c H locs 0 0 (MQ below (QV w K g out) args s 0 0 (FR w)) (F0 m 318 ls [.int s1, .int s0]) := by
    intro  S x8 x9 x10 s0 s1 H locs ls hH hS hl hf
    unfold f9_step_318 at hf
    have hg := gif hf
    refine lv_icmp_ne (tgt := 335) hx hb dL_step_318 (by decide) (fun c3 => ?_) (fun c3 => ?_)
    · have hf := hg.2 c3
      refine lv_aload hx hb dL_step_335 (lv_at hl 1 rfl) ?_
      refine lv_iload hx hb dL_step_337 (lv_at hl 5 rfl) ?_
      refine lv_iconst (v := 2) hx hb dL_step_339 (by decide) ?_
      refine lv_iadd hx hb dL_step_340 ?_
      refine lv_iload hx hb dL_step_341 (lv_at hl 4 rfl) ?_
      refine lv_iload hx hb dL_step_343 (lv_at hl 6 rfl) ?_
      refine lv_aload hx hb dL_step_345 (lv_at hl 3 rfl) ?_
      obtain ⟨v4, h5, hf⟩ := gbind hf
      refine g_Si (As := [.int x8, .int x10, .ref (w.2.2.2 + 6)]) (rest := [.int (x9 + 2), .ref (w.2.2.2 + 4)]) ⟨hx, hb, hml, hown, hts⟩ (c9_behind l w K g S x8 x10 v4 h5) (gcwS hts i9_behind wd_492 rfl rfl ⟨Nat.le_of_ble_eq_true rfl, Nat.le_of_ble_eq_true rfl⟩) hH hK hS hl.1 rfl rfl (Nat.le_of_ble_eq_true rfl) dL_step_347 ⟨Nat.le_refl _, Nat.le_refl _⟩ (fun H locs hH hS => ?_)
      obtain ⟨h7, hf⟩ := gd_some hf
      refine m_iast hx hb hK hH hS 4 (by decide) rfl h7 dL_step_350 (fun H locs hH hS => ?_)
      obtain ⟨S8, eS8⟩ : ∃ z : GS, z = ssI S 4 (x9 + 2).toNatClampNeg v4 := ⟨_, rfl⟩
      have hf := gl_at hf eS8
      replace hH : HR w K g S8 H := by rw [eS8]; exact hH
      exact B351 _ _ _ _ hH hS (lv_sub hl [0, 1, 2, 3] rfl) hf
    · have hf := hg.1 c3
      refine lv_iconst (v := 0) hx hb dL_step_321 (by decide) ?_
      refine lv_iconst (v := 2) hx hb dL_step_322 (by decide) ?_
      refine lv_iload hx hb dL_step_323 (lv_at hl 5 rfl) ?_
      refine lv_aload hx hb dL_step_325 (lv_at hl 1 rfl) ?_
      refine lv_aload hx hb dL_step_327 (lv_at hl 2 rfl) ?_
      obtain ⟨S9, h10, hf⟩ := gbind hf
      refine g_Sv (As := [.int 0, .int 2, .int x9, .ref (w.2.2.2 + 4), .ref (w.2.2.2 + 5)]) (rest := []) ⟨hx, hb, hml, hown, hts⟩ (c9_begins l w K g S 0 2 x9 S9 h10) (gcwS hts i9_begins wd_489 rfl rfl ⟨Nat.le_of_ble_eq_true rfl, Nat.le_of_ble_eq_true rfl⟩) hH hK hS hl.1 rfl rfl (Nat.le_of_ble_eq_true rfl) dL_step_329 ⟨Nat.le_refl _, Nat.le_refl _⟩ (fun H locs hH hS => ?_)
      refine lv_goto (tgt := 351) hx hb dL_step_332 (by decide) ?_
      exact B351 _ _ _ _ hH hS (lv_sub hl [0, 1, 2, 3] rfl) hf
  have B306 : ∀ (S : GS) (x8 : Int32) (x9 : Int32) (x10 : Int32) (x11 : Int32) (s0 : Int32) (H : Heap) (locs : List Loc) (ls : Array Slot), HR w K g S H → va_S (FR w) s.heap H locs → lv_has ls 13 [(0, .ref (w.2.2.2 + 0)), (4, .ref (w.2.2.2 + 4)), (5, .ref (w.2.2.2 + 5)), (6, .ref (w.2.2.2 + 6)), (8, .int x8), (9, .int x9), (10, .int x10), (11, .int x11)] → f9_step_306 S x8 x9 x10 x11 s0 = some out → W p l e ({ frames := 3, cells := 0, slots := 0, locals := 70 } : Room) s m args below meth c H locs 0 0 (MQ below (QV w K g out) args s 0 0 (FR w)) (F0 m 306 ls [.int s0]) := by
    intro  S x8 x9 x10 x11 s0 H locs ls hH hS hl hf
    unfold f9_step_306 at hf
    refine lv_iload hx hb dL_step_306 (lv_at hl 7 rfl) ?_
    refine lv_bipush (v := 115) hx hb dL_step_308 (by decide) ?_
    have hg := gif hf
    refine lv_icmp_ne (tgt := 317) hx hb dL_step_310 (by decide) (fun c11 => ?_) (fun c11 => ?_)
    · have hf := hg.2 c11
      refine lv_iconst (v := 0) hx hb dL_step_317 (by decide) ?_
      exact B318 _ _ _ _ _ _ _ _ _ hH hS (lv_sub hl [0, 1, 2, 3, 4, 5, 6] rfl) hf
    · have hf := hg.1 c11
      refine lv_iconst (v := 1) hx hb dL_step_313 (by decide) ?_
      refine lv_goto (tgt := 318) hx hb dL_step_314 (by decide) ?_
      exact B318 _ _ _ _ _ _ _ _ _ hH hS (lv_sub hl [0, 1, 2, 3, 4, 5, 6] rfl) hf
  have B278 : ∀ (S : GS) (x9 : Int32) (s0 : Int32) (H : Heap) (locs : List Loc) (ls : Array Slot), HR w K g S H → va_S (FR w) s.heap H locs → lv_has ls 13 [(0, .ref (w.2.2.2 + 0)), (4, .ref (w.2.2.2 + 4)), (5, .ref (w.2.2.2 + 5)), (6, .ref (w.2.2.2 + 6)), (9, .int x9)] → f9_step_278 S x9 s0 = some out → W p l e ({ frames := 3, cells := 0, slots := 0, locals := 70 } : Room) s m args below meth c H locs 0 0 (MQ below (QV w K g out) args s 0 0 (FR w)) (F0 m 278 ls [.int s0]) := by
    intro  S x9 s0 H locs ls hH hS hl hf
    unfold f9_step_278 at hf
    refine lv_iconst (v := 3) hx hb dL_step_278 (by decide) ?_
    refine lv_iload hx hb dL_step_279 (lv_at hl 4 rfl) ?_
    refine lv_aload hx hb dL_step_281 (lv_at hl 1 rfl) ?_
    refine lv_aload hx hb dL_step_283 (lv_at hl 2 rfl) ?_
    obtain ⟨S12, h13, hf⟩ := gbind hf
    refine g_Sv (As := [.int s0, .int 3, .int x9, .ref (w.2.2.2 + 4), .ref (w.2.2.2 + 5)]) (rest := []) ⟨hx, hb, hml, hown, hts⟩ (c9_begins l w K g S s0 3 x9 S12 h13) (gcwS hts i9_begins wd_489 rfl rfl ⟨Nat.le_of_ble_eq_true rfl, Nat.le_of_ble_eq_true rfl⟩) hH hK hS hl.1 rfl rfl (Nat.le_of_ble_eq_true rfl) dL_step_285 ⟨Nat.le_refl _, Nat.le_refl _⟩ (fun H locs hH hS => ?_)
    refine lv_goto (tgt := 351) hx hb dL_step_288 (by decide) ?_
    exact B351 _ _ _ _ hH hS (lv_sub hl [0, 1, 2, 3] rfl) hf
  have hl : lv_has ls 13 [(0, .ref (w.2.2.2 + 0)), (1, .ref (w.2.2.2 + 1)), (2, .ref (w.2.2.2 + 2)), (3, .ref (w.2.2.2 + 3)), (4, .ref (w.2.2.2 + 4)), (5, .ref (w.2.2.2 + 5)), (6, .ref (w.2.2.2 + 6)), (7, .ref (w.2.2.2 + 7))] := hl
  refine lv_aload_n hx hb dL_step_0 rfl (lv_at hl 0 rfl) ?_
  refine lv_iconst (v := 3) hx hb dL_step_1 (by decide) ?_
  obtain ⟨h15, hf⟩ := gd_some hf
  refine m_iald hx hb hK hH 0 (by decide) rfl h15 dL_step_2 ?_
  refine lv_iconst (v := 1) hx hb dL_step_3 (by decide) ?_
  refine lv_isub hx hb dL_step_4 ?_
  refine lv_topi (fun v16 ev16 => ?_)
  have hf := gl_at hf ev16
  refine lv_istore (lv' := [(8, .int v16), (0, .ref (w.2.2.2 + 0)), (1, .ref (w.2.2.2 + 1)), (2, .ref (w.2.2.2 + 2)), (3, .ref (w.2.2.2 + 3)), (4, .ref (w.2.2.2 + 4)), (5, .ref (w.2.2.2 + 5)), (6, .ref (w.2.2.2 + 6)), (7, .ref (w.2.2.2 + 7))]) hx hb dL_step_5 hl (by decide) rfl (fun ls hl => ?_)
  refine lv_bipush (v := 6) hx hb dL_step_7 (by decide) ?_
  refine lv_iload hx hb dL_step_9 (lv_at hl 0 rfl) ?_
  refine lv_imul hx hb dL_step_11 ?_
  refine lv_topi (fun v17 ev17 => ?_)
  have hf := gl_at hf ev17
  refine lv_istore (lv' := [(9, .int v17), (8, .int v16), (0, .ref (w.2.2.2 + 0)), (1, .ref (w.2.2.2 + 1)), (2, .ref (w.2.2.2 + 2)), (3, .ref (w.2.2.2 + 3)), (4, .ref (w.2.2.2 + 4)), (5, .ref (w.2.2.2 + 5)), (6, .ref (w.2.2.2 + 6)), (7, .ref (w.2.2.2 + 7))]) hx hb dL_step_12 hl (by decide) rfl (fun ls hl => ?_)
  refine lv_aload hx hb dL_step_14 (lv_at hl 6 rfl) ?_
  refine lv_iload hx hb dL_step_16 (lv_at hl 0 rfl) ?_
  refine lv_iconst (v := 2) hx hb dL_step_18 (by decide) ?_
  refine lv_iadd hx hb dL_step_19 ?_
  obtain ⟨h19, hf⟩ := gd_some hf
  refine m_iald hx hb hK hH 4 (by decide) rfl h19 dL_step_20 ?_
  refine lv_topi (fun v20 ev20 => ?_)
  have hf := gl_at hf ev20
  refine lv_istore (lv' := [(10, .int v20), (9, .int v17), (8, .int v16), (0, .ref (w.2.2.2 + 0)), (1, .ref (w.2.2.2 + 1)), (2, .ref (w.2.2.2 + 2)), (3, .ref (w.2.2.2 + 3)), (4, .ref (w.2.2.2 + 4)), (5, .ref (w.2.2.2 + 5)), (6, .ref (w.2.2.2 + 6)), (7, .ref (w.2.2.2 + 7))]) hx hb dL_step_21 hl (by decide) rfl (fun ls hl => ?_)
  refine lv_aload hx hb dL_step_23 (lv_at hl 9 rfl) ?_
  refine lv_iload hx hb dL_step_25 (lv_at hl 2 rfl) ?_
  refine lv_iload hx hb dL_step_27 (lv_at hl 0 rfl) ?_
  obtain ⟨v21, h22, hf⟩ := gbind hf
  refine g_Si (As := [.ref (w.2.2.2 + 6), .int v16, .int v20]) (rest := []) ⟨hx, hb, hml, hown, hts⟩ (c9_at6 l w K g S v16 v20 v21 h22) (gcwS hts i9_at wd_324 rfl rfl ⟨Nat.le_of_ble_eq_true rfl, Nat.le_of_ble_eq_true rfl⟩) hH hK hS hl.1 rfl rfl (Nat.le_of_ble_eq_true rfl) dL_step_29 ⟨Nat.le_refl _, Nat.le_refl _⟩ (fun H locs hH hS => ?_)
  refine lv_istore (lv' := [(11, .int v21), (10, .int v20), (9, .int v17), (8, .int v16), (0, .ref (w.2.2.2 + 0)), (1, .ref (w.2.2.2 + 1)), (2, .ref (w.2.2.2 + 2)), (3, .ref (w.2.2.2 + 3)), (4, .ref (w.2.2.2 + 4)), (5, .ref (w.2.2.2 + 5)), (6, .ref (w.2.2.2 + 6)), (7, .ref (w.2.2.2 + 7))]) hx hb dL_step_32 hl (by decide) rfl (fun ls hl => ?_)
  refine lv_aload hx hb dL_step_34 (lv_at hl 8 rfl) ?_
  refine lv_iload hx hb dL_step_36 (lv_at hl 2 rfl) ?_
  refine lv_iconst (v := 1) hx hb dL_step_38 (by decide) ?_
  refine lv_iadd hx hb dL_step_39 ?_
  obtain ⟨h24, hf⟩ := gd_some hf
  refine m_iald hx hb hK hH 4 (by decide) rfl h24 dL_step_40 ?_
  refine lv_topi (fun v25 ev25 => ?_)
  have hf := gl_at hf ev25
  refine lv_istore (lv' := [(12, .int v25), (11, .int v21), (10, .int v20), (9, .int v17), (8, .int v16), (0, .ref (w.2.2.2 + 0)), (1, .ref (w.2.2.2 + 1)), (2, .ref (w.2.2.2 + 2)), (3, .ref (w.2.2.2 + 3)), (4, .ref (w.2.2.2 + 4)), (5, .ref (w.2.2.2 + 5)), (6, .ref (w.2.2.2 + 6)), (7, .ref (w.2.2.2 + 7))]) hx hb dL_step_41 hl (by decide) rfl (fun ls hl => ?_)
  refine lv_iload hx hb dL_step_43 (lv_at hl 1 rfl) ?_
  refine lv_bipush (v := 119) hx hb dL_step_45 (by decide) ?_
  have hg := gif hf
  refine lv_icmp_ne (tgt := 150) hx hb dL_step_47 (by decide) (fun c26 => ?_) (fun c26 => ?_)
  · have hf := hg.2 c26
    refine lv_iload hx hb dL_step_150 (lv_at hl 1 rfl) ?_
    refine lv_bipush (v := 99) hx hb dL_step_152 (by decide) ?_
    have hg := gif hf
    refine lv_icmp_ne (tgt := 192) hx hb dL_step_154 (by decide) (fun c27 => ?_) (fun c27 => ?_)
    · have hf := hg.2 c27
      refine lv_iload hx hb dL_step_192 (lv_at hl 1 rfl) ?_
      refine lv_bipush (v := 107) hx hb dL_step_194 (by decide) ?_
      have hg := gif hf
      refine lv_icmp_ne (tgt := 236) hx hb dL_step_196 (by decide) (fun c28 => ?_) (fun c28 => ?_)
      · have hf := hg.2 c28
        refine lv_iload hx hb dL_step_236 (lv_at hl 1 rfl) ?_
        refine lv_bipush (v := 120) hx hb dL_step_238 (by decide) ?_
        have hg := gif hf
        refine lv_icmp_ne (tgt := 291) hx hb dL_step_240 (by decide) (fun c29 => ?_) (fun c29 => ?_)
        · have hf := hg.2 c29
          refine lv_aload_n hx hb dL_step_291 rfl (lv_at hl 6 rfl) ?_
          refine lv_iload hx hb dL_step_292 (lv_at hl 0 rfl) ?_
          obtain ⟨h31, hf⟩ := gd_some hf
          refine m_iald hx hb hK hH 1 (by decide) rfl h31 dL_step_294 ?_
          refine lv_aload_n hx hb dL_step_295 rfl (lv_at hl 5 rfl) ?_
          refine lv_iconst (v := 2) hx hb dL_step_296 (by decide) ?_
          obtain ⟨h33, hf⟩ := gd_some hf
          refine m_iald hx hb hK hH 0 (by decide) rfl h33 dL_step_297 ?_
          have hg := gif hf
          refine lv_icmp_ge (tgt := 305) hx hb dL_step_298 (by decide) (fun c34 => ?_) (fun c34 => ?_)
          · have hf := hg.1 c34
            refine lv_iconst (v := 0) hx hb dL_step_305 (by decide) ?_
            exact B306 _ _ _ _ _ _ _ _ _ hH hS (lv_sub hl [5, 9, 10, 11, 4, 3, 2, 1] rfl) hf
          · have hf := hg.2 c34
            refine lv_iconst (v := 1) hx hb dL_step_301 (by decide) ?_
            refine lv_goto (tgt := 306) hx hb dL_step_302 (by decide) ?_
            exact B306 _ _ _ _ _ _ _ _ _ hH hS (lv_sub hl [5, 9, 10, 11, 4, 3, 2, 1] rfl) hf
        · have hf := hg.1 c29
          refine lv_aload hx hb dL_step_243 (lv_at hl 9 rfl) ?_
          refine lv_iload hx hb dL_step_245 (lv_at hl 3 rfl) ?_
          refine lv_iconst (v := 3) hx hb dL_step_247 (by decide) ?_
          refine lv_iadd hx hb dL_step_248 ?_
          obtain ⟨h36, hf⟩ := gd_some hf
          refine m_iald hx hb hK hH 4 (by decide) rfl h36 dL_step_249 ?_
          have hg := gif hf
          refine lv_if_le (tgt := 265) hx hb dL_step_250 (by decide) (fun c37 => ?_) (fun c37 => ?_)
          · have hf := hg.1 c37
            refine lv_iload hx hb dL_step_265 (lv_at hl 4 rfl) ?_
            refine lv_iload hx hb dL_step_267 (lv_at hl 2 rfl) ?_
            refine lv_aload hx hb dL_step_269 (lv_at hl 9 rfl) ?_
            refine lv_aload hx hb dL_step_271 (lv_at hl 11 rfl) ?_
            obtain ⟨v38, h39, hf⟩ := gbind hf
            refine g_Si (As := [.int v16, .int v20, .ref (w.2.2.2 + 4), .ref (w.2.2.2 + 6)]) (rest := []) ⟨hx, hb, hml, hown, hts⟩ (c9_digit l w K g S v16 v20 v38 h39) (gcwS hts i9_digit wd_486 rfl rfl ⟨Nat.le_of_ble_eq_true rfl, Nat.le_of_ble_eq_true rfl⟩) hH hK hS hl.1 rfl rfl (Nat.le_of_ble_eq_true rfl) dL_step_273 ⟨Nat.le_refl _, Nat.le_refl _⟩ (fun H locs hH hS => ?_)
            refine lv_iconst (v := 1) hx hb dL_step_276 (by decide) ?_
            refine lv_isub hx hb dL_step_277 ?_
            exact B278 _ _ _ _ _ _ hH hS (lv_sub hl [5, 9, 10, 11, 3] rfl) hf
          · have hf := hg.2 c37
            refine lv_aload hx hb dL_step_253 (lv_at hl 9 rfl) ?_
            refine lv_iload hx hb dL_step_255 (lv_at hl 3 rfl) ?_
            refine lv_iconst (v := 3) hx hb dL_step_257 (by decide) ?_
            refine lv_iadd hx hb dL_step_258 ?_
            refine m_iald hx hb hK hH 4 (by decide) rfl h36 dL_step_259 ?_
            refine lv_iconst (v := 1) hx hb dL_step_260 (by decide) ?_
            refine lv_isub hx hb dL_step_261 ?_
            refine lv_goto (tgt := 278) hx hb dL_step_262 (by decide) ?_
            exact B278 _ _ _ _ _ _ hH hS (lv_sub hl [5, 9, 10, 11, 3] rfl) hf
      · have hf := hg.1 c28
        refine lv_aload_n hx hb dL_step_199 rfl (lv_at hl 5 rfl) ?_
        refine lv_bipush (v := 7) hx hb dL_step_200 (by decide) ?_
        refine lv_dup2_11 hx hb dL_step_202 rfl rfl ?_
        obtain ⟨h42, hf⟩ := gd_some hf
        refine m_iald hx hb hK hH 0 (by decide) rfl h42 dL_step_203 ?_
        refine lv_iconst (v := 1) hx hb dL_step_204 (by decide) ?_
        refine lv_iadd hx hb dL_step_205 ?_
        refine m_iast hx hb hK hH hS 0 (by decide) rfl h42 dL_step_206 (fun H locs hH hS => ?_)
        obtain ⟨S44, eS44⟩ : ∃ z : GS, z = ssI S 0 (7 : Int32).toNatClampNeg ((S 0 (7 : Int32).toNatClampNeg) + 1) := ⟨_, rfl⟩
        have hf := gl_at hf eS44
        replace hH : HR w K g S44 H := by rw [eS44]; exact hH
        refine lv_aload hx hb dL_step_207 (lv_at hl 11 rfl) ?_
        refine lv_iload hx hb dL_step_209 (lv_at hl 4 rfl) ?_
        refine lv_iload hx hb dL_step_211 (lv_at hl 2 rfl) ?_
        refine lv_iconst (v := 1) hx hb dL_step_213 (by decide) ?_
        refine lv_iadd hx hb dL_step_214 ?_
        obtain ⟨v45, h46, hf⟩ := gbind hf
        refine g_Si (As := [.ref (w.2.2.2 + 6), .int v16, .int (v20 + 1)]) (rest := []) ⟨hx, hb, hml, hown, hts⟩ (c9_at6 l w K g S44 v16 (v20 + 1) v45 h46) (gcwS hts i9_at wd_324 rfl rfl ⟨Nat.le_of_ble_eq_true rfl, Nat.le_of_ble_eq_true rfl⟩) hH hK hS hl.1 rfl rfl (Nat.le_of_ble_eq_true rfl) dL_step_215 ⟨Nat.le_refl _, Nat.le_refl _⟩ (fun H locs hH hS => ?_)
        refine lv_bipush (v := 48) hx hb dL_step_218 (by decide) ?_
        refine lv_isub hx hb dL_step_220 ?_
        refine lv_iload hx hb dL_step_221 (lv_at hl 0 rfl) ?_
        refine lv_aload_n hx hb dL_step_223 rfl (lv_at hl 5 rfl) ?_
        refine lv_aload_n hx hb dL_step_224 rfl (lv_at hl 7 rfl) ?_
        refine lv_aload_n hx hb dL_step_225 rfl (lv_at hl 8 rfl) ?_
        refine lv_aload hx hb dL_step_226 (lv_at hl 9 rfl) ?_
        refine lv_aload hx hb dL_step_228 (lv_at hl 11 rfl) ?_
        obtain ⟨S47, h48, hf⟩ := gbind hf
        refine g_Sv (As := [.int (v45 - 48), .int v25, .ref (w.2.2.2 + 0), .ref (w.2.2.2 + 2), .ref (w.2.2.2 + 3), .ref (w.2.2.2 + 4), .ref (w.2.2.2 + 6)]) (rest := []) ⟨hx, hb, hml, hown, hts⟩ (c9_lays l w K g S44 (v45 - 48) v25 S47 h48) (gcwS hts i9_lays wd_471 rfl rfl ⟨Nat.le_of_ble_eq_true rfl, Nat.le_of_ble_eq_true rfl⟩) hH hK hS hl.1 rfl rfl (Nat.le_of_ble_eq_true rfl) dL_step_230 ⟨Nat.le_refl _, Nat.le_refl _⟩ (fun H locs hH hS => ?_)
        refine lv_goto (tgt := 351) hx hb dL_step_233 (by decide) ?_
        exact B351 _ _ _ _ hH hS (lv_sub hl [5, 9, 10, 11] rfl) hf
    · have hf := hg.1 c27
      refine lv_aload hx hb dL_step_157 (lv_at hl 9 rfl) ?_
      refine lv_iload hx hb dL_step_159 (lv_at hl 3 rfl) ?_
      refine lv_iconst (v := 1) hx hb dL_step_161 (by decide) ?_
      refine lv_iadd hx hb dL_step_162 ?_
      refine lv_aload hx hb dL_step_163 (lv_at hl 11 rfl) ?_
      refine lv_iload hx hb dL_step_165 (lv_at hl 4 rfl) ?_
      refine lv_iload hx hb dL_step_167 (lv_at hl 2 rfl) ?_
      refine lv_iconst (v := 1) hx hb dL_step_169 (by decide) ?_
      refine lv_iadd hx hb dL_step_170 ?_
      obtain ⟨v49, h50, hf⟩ := gbind hf
      refine g_Si (As := [.ref (w.2.2.2 + 6), .int v16, .int (v20 + 1)]) (rest := [.int (v17 + 1), .ref (w.2.2.2 + 4)]) ⟨hx, hb, hml, hown, hts⟩ (c9_at6 l w K g S v16 (v20 + 1) v49 h50) (gcwS hts i9_at wd_324 rfl rfl ⟨Nat.le_of_ble_eq_true rfl, Nat.le_of_ble_eq_true rfl⟩) hH hK hS hl.1 rfl rfl (Nat.le_of_ble_eq_true rfl) dL_step_171 ⟨Nat.le_refl _, Nat.le_refl _⟩ (fun H locs hH hS => ?_)
      refine lv_bipush (v := 48) hx hb dL_step_174 (by decide) ?_
      refine lv_isub hx hb dL_step_176 ?_
      refine m_iast hx hb hK hH hS 4 (by decide) rfl h24 dL_step_177 (fun H locs hH hS => ?_)
      obtain ⟨S52, eS52⟩ : ∃ z : GS, z = ssI S 4 (v17 + 1).toNatClampNeg (v49 - 48) := ⟨_, rfl⟩
      have hf := gl_at hf eS52
      replace hH : HR w K g S52 H := by rw [eS52]; exact hH
      refine lv_aload hx hb dL_step_178 (lv_at hl 9 rfl) ?_
      refine lv_iload hx hb dL_step_180 (lv_at hl 3 rfl) ?_
      refine lv_iconst (v := 2) hx hb dL_step_182 (by decide) ?_
      refine lv_iadd hx hb dL_step_183 ?_
      refine lv_dup2_11 hx hb dL_step_184 rfl rfl ?_
      refine m_iald hx hb hK hH 4 (by decide) rfl h19 dL_step_185 ?_
      refine lv_iconst (v := 2) hx hb dL_step_186 (by decide) ?_
      refine lv_iadd hx hb dL_step_187 ?_
      refine m_iast hx hb hK hH hS 4 (by decide) rfl h19 dL_step_188 (fun H locs hH hS => ?_)
      obtain ⟨S55, eS55⟩ : ∃ z : GS, z = ssI S52 4 (v17 + 2).toNatClampNeg ((S52 4 (v17 + 2).toNatClampNeg) + 2) := ⟨_, rfl⟩
      have hf := gl_at hf eS55
      replace hH : HR w K g S55 H := by rw [eS55]; exact hH
      refine lv_goto (tgt := 351) hx hb dL_step_189 (by decide) ?_
      exact B351 _ _ _ _ hH hS (lv_sub hl [5, 9, 10, 11] rfl) hf
  · have hf := hg.1 c26
    refine lv_aload_n hx hb dL_step_50 rfl (lv_at hl 6 rfl) ?_
    refine lv_iload hx hb dL_step_51 (lv_at hl 0 rfl) ?_
    refine lv_dup2_11 hx hb dL_step_53 rfl rfl ?_
    obtain ⟨h57, hf⟩ := gd_some hf
    refine m_iald hx hb hK hH 1 (by decide) rfl h57 dL_step_54 ?_
    refine lv_iconst (v := 1) hx hb dL_step_55 (by decide) ?_
    refine lv_isub hx hb dL_step_56 ?_
    refine m_iast hx hb hK hH hS 1 (by decide) rfl h57 dL_step_57 (fun H locs hH hS => ?_)
    obtain ⟨S59, eS59⟩ : ∃ z : GS, z = ssI S 1 v25.toNatClampNeg ((S 1 v25.toNatClampNeg) - 1) := ⟨_, rfl⟩
    have hf := gl_at hf eS59
    replace hH : HR w K g S59 H := by rw [eS59]; exact hH
    refine lv_aload_n hx hb dL_step_58 rfl (lv_at hl 6 rfl) ?_
    refine lv_bipush (v := 6) hx hb dL_step_59 (by decide) ?_
    refine lv_iload hx hb dL_step_61 (lv_at hl 0 rfl) ?_
    refine lv_iadd hx hb dL_step_63 ?_
    refine lv_dup2_11 hx hb dL_step_64 rfl rfl ?_
    obtain ⟨h61, hf⟩ := gd_some hf
    refine m_iald hx hb hK hH 1 (by decide) rfl h61 dL_step_65 ?_
    refine lv_iconst (v := 1) hx hb dL_step_66 (by decide) ?_
    refine lv_iadd hx hb dL_step_67 ?_
    refine m_iast hx hb hK hH hS 1 (by decide) rfl h61 dL_step_68 (fun H locs hH hS => ?_)
    obtain ⟨S63, eS63⟩ : ∃ z : GS, z = ssI S59 1 (6 + v25).toNatClampNeg ((S59 1 (6 + v25).toNatClampNeg) + 1) := ⟨_, rfl⟩
    have hf := gl_at hf eS63
    replace hH : HR w K g S63 H := by rw [eS63]; exact hH
    refine lv_aload_n hx hb dL_step_69 rfl (lv_at hl 6 rfl) ?_
    refine lv_bipush (v := 18) hx hb dL_step_70 (by decide) ?_
    refine lv_iload hx hb dL_step_72 (lv_at hl 0 rfl) ?_
    refine lv_iadd hx hb dL_step_74 ?_
    refine lv_dup2_11 hx hb dL_step_75 rfl rfl ?_
    obtain ⟨h65, hf⟩ := gd_some hf
    refine m_iald hx hb hK hH 1 (by decide) rfl h65 dL_step_76 ?_
    refine lv_iconst (v := 1) hx hb dL_step_77 (by decide) ?_
    refine lv_iadd hx hb dL_step_78 ?_
    refine m_iast hx hb hK hH hS 1 (by decide) rfl h65 dL_step_79 (fun H locs hH hS => ?_)
    obtain ⟨S67, eS67⟩ : ∃ z : GS, z = ssI S63 1 (18 + v25).toNatClampNeg ((S63 1 (18 + v25).toNatClampNeg) + 1) := ⟨_, rfl⟩
    have hf := gl_at hf eS67
    replace hH : HR w K g S67 H := by rw [eS67]; exact hH
    refine lv_aload_n hx hb dL_step_80 rfl (lv_at hl 5 rfl) ?_
    refine lv_iconst (v := 5) hx hb dL_step_81 (by decide) ?_
    refine lv_dup2_11 hx hb dL_step_82 rfl rfl ?_
    obtain ⟨h69, hf⟩ := gd_some hf
    refine m_iald hx hb hK hH 0 (by decide) rfl h69 dL_step_83 ?_
    refine lv_iconst (v := 1) hx hb dL_step_84 (by decide) ?_
    refine lv_iadd hx hb dL_step_85 ?_
    refine m_iast hx hb hK hH hS 0 (by decide) rfl h69 dL_step_86 (fun H locs hH hS => ?_)
    obtain ⟨S71, eS71⟩ : ∃ z : GS, z = ssI S67 0 (5 : Int32).toNatClampNeg ((S67 0 (5 : Int32).toNatClampNeg) + 1) := ⟨_, rfl⟩
    have hf := gl_at hf eS71
    replace hH : HR w K g S71 H := by rw [eS71]; exact hH
    refine lv_aload hx hb dL_step_87 (lv_at hl 12 rfl) ?_
    refine lv_aload_n hx hb dL_step_89 rfl (lv_at hl 5 rfl) ?_
    refine lv_iconst (v := 4) hx hb dL_step_90 (by decide) ?_
    obtain ⟨h73, hf⟩ := gd_some hf
    refine m_iald hx hb hK hH 0 (by decide) rfl h73 dL_step_91 ?_
    refine lv_bipush (v := 10) hx hb dL_step_92 (by decide) ?_
    refine lv_idiv hx hb dL_step_94 (by decide) ?_
    refine lv_aload hx hb dL_step_95 (lv_at hl 12 rfl) ?_
    refine lv_aload_n hx hb dL_step_97 rfl (lv_at hl 5 rfl) ?_
    refine lv_iconst (v := 4) hx hb dL_step_98 (by decide) ?_
    refine m_iald hx hb hK hH 0 (by decide) rfl h73 dL_step_99 ?_
    refine lv_bipush (v := 10) hx hb dL_step_100 (by decide) ?_
    refine lv_idiv hx hb dL_step_102 (by decide) ?_
    obtain ⟨h78, hf⟩ := gd_some hf
    refine m_iald hx hb hK hH 7 (by decide) rfl h78 dL_step_103 ?_
    refine lv_bipush (v := 7) hx hb dL_step_104 (by decide) ?_
    refine lv_iconst (v := 3) hx hb dL_step_106 (by decide) ?_
    refine lv_aload_n hx hb dL_step_107 rfl (lv_at hl 5 rfl) ?_
    refine lv_iconst (v := 4) hx hb dL_step_108 (by decide) ?_
    refine m_iald hx hb hK hH 0 (by decide) rfl h73 dL_step_109 ?_
    refine lv_bipush (v := 10) hx hb dL_step_110 (by decide) ?_
    refine lv_irem hx hb dL_step_112 (by decide) ?_
    refine lv_imul hx hb dL_step_113 ?_
    refine lv_ishl hx hb dL_step_114 ?_
    refine lv_iconst (v := (-1)) hx hb dL_step_115 (by decide) ?_
    refine lv_ixor hx hb dL_step_116 ?_
    refine lv_iand hx hb dL_step_117 ?_
    refine lv_iload hx hb dL_step_118 (lv_at hl 0 rfl) ?_
    refine lv_iconst (v := 3) hx hb dL_step_120 (by decide) ?_
    refine lv_aload_n hx hb dL_step_121 rfl (lv_at hl 5 rfl) ?_
    refine lv_iconst (v := 4) hx hb dL_step_122 (by decide) ?_
    refine m_iald hx hb hK hH 0 (by decide) rfl h73 dL_step_123 ?_
    refine lv_bipush (v := 10) hx hb dL_step_124 (by decide) ?_
    refine lv_irem hx hb dL_step_126 (by decide) ?_
    refine lv_imul hx hb dL_step_127 ?_
    refine lv_ishl hx hb dL_step_128 ?_
    refine lv_ior hx hb dL_step_129 ?_
    refine m_iast hx hb hK hH hS 7 (by decide) rfl h78 dL_step_130 (fun H locs hH hS => ?_)
    obtain ⟨S84, eS84⟩ : ∃ z : GS, z = ssI S71 7 ((S71 0 (4 : Int32).toNatClampNeg) / (10 : Int32)).toNatClampNeg (((S71 7 ((S71 0 (4 : Int32).toNatClampNeg) / (10 : Int32)).toNatClampNeg) &&& ((7 <<< ((3 * ((S71 0 (4 : Int32).toNatClampNeg) - (S71 0 (4 : Int32).toNatClampNeg) / (10 : Int32) * (10 : Int32))) &&& 31)) ^^^ (-1))) ||| (v25 <<< ((3 * ((S71 0 (4 : Int32).toNatClampNeg) - (S71 0 (4 : Int32).toNatClampNeg) / (10 : Int32) * (10 : Int32))) &&& 31))) := ⟨_, rfl⟩
    have hf := gl_at hf eS84
    replace hH : HR w K g S84 H := by rw [eS84]; exact hH
    refine lv_aload_n hx hb dL_step_131 rfl (lv_at hl 5 rfl) ?_
    refine lv_iconst (v := 4) hx hb dL_step_132 (by decide) ?_
    refine lv_dup2_11 hx hb dL_step_133 rfl rfl ?_
    refine m_iald hx hb hK hH 0 (by decide) rfl h73 dL_step_134 ?_
    refine lv_iconst (v := 1) hx hb dL_step_135 (by decide) ?_
    refine lv_iadd hx hb dL_step_136 ?_
    refine m_iast hx hb hK hH hS 0 (by decide) rfl h73 dL_step_137 (fun H locs hH hS => ?_)
    obtain ⟨S87, eS87⟩ : ∃ z : GS, z = ssI S84 0 (4 : Int32).toNatClampNeg ((S84 0 (4 : Int32).toNatClampNeg) + 1) := ⟨_, rfl⟩
    have hf := gl_at hf eS87
    replace hH : HR w K g S87 H := by rw [eS87]; exact hH
    refine lv_iload hx hb dL_step_138 (lv_at hl 4 rfl) ?_
    refine lv_aload hx hb dL_step_140 (lv_at hl 9 rfl) ?_
    refine lv_aload hx hb dL_step_142 (lv_at hl 11 rfl) ?_
    obtain ⟨S88, h89, hf⟩ := gbind hf
    refine g_Sv (As := [.int v16, .ref (w.2.2.2 + 4), .ref (w.2.2.2 + 6)]) (rest := []) ⟨hx, hb, hml, hown, hts⟩ (c9_passes l w K g S87 v16 S88 h89) (gcwS hts i9_passes wd_483 rfl rfl ⟨Nat.le_of_ble_eq_true rfl, Nat.le_of_ble_eq_true rfl⟩) hH hK hS hl.1 rfl rfl (Nat.le_of_ble_eq_true rfl) dL_step_144 ⟨Nat.le_refl _, Nat.le_refl _⟩ (fun H locs hH hS => ?_)
    refine lv_goto (tgt := 351) hx hb dL_step_147 (by decide) ?_
    exact B351 _ _ _ _ hH hS (lv_sub hl [5, 9, 10, 11] rfl) hf
set_option maxRecDepth 100000 in
set_option maxHeartbeats 8000000 in
theorem c9_weaves (l : Launch) (w : GW) (K : GK) (g : GM) (S : GS) (p0 : Int32) (out : GS × Int32) (hf : f9_weaves S p0 = some out) : Met l yL_weaves (wA yL_weaves cL_weaves 12 (some .int)) ({ frames := 4, cells := 0, slots := 0, locals := 102 } : Room) (PRE w K g S [.int p0, .ref (w.2.2.2 + 0), .ref (w.2.2.2 + 1), .ref (w.2.2.2 + 2), .ref (w.2.2.2 + 3), .ref (w.2.2.2 + 4), .ref (w.2.2.2 + 5), .ref (w.2.2.2 + 6), .ref (w.2.2.2 + 7)]) (QI w K g out.1 out.2) 0 0 (FR w) := by
  unfold f9_weaves at hf
  refine Met.ofW (cc := cL_weaves) (maxL := 12) (ret := (some .int)) (by decide) rfl ?_
  intro p e s m args below meth c s₁ B hml hv
  obtain ⟨rfl, hH, hK⟩ := hv
  have hx := B.exec
  have hb := B.bytes
  have hr := B.returns
  have hts : ∀ q ∈ gALL, q.before _ s = true := fun q h => atoms_spec (ws := (wA yL_weaves cL_weaves 12 (some .int))) B.pre q (List.mem_cons_of_mem _ h)
  have hown : s.vm.findClass RL = some m.cls := findClass_of_methodNamed B.named
  have hlocks := B.notSynchronized
  have hS : va_S (FR w) s.heap s.heap [] := va_S.rf
  show W p l e ({ frames := 4, cells := 0, slots := 0, locals := 102 } : Room) s m _ below meth c s.heap [] 0 0 (MQ below (QI w K g out.1 out.2) _ s 0 0 (FR w)) _
  have hl := lv_entry ([.int p0, .ref (w.2.2.2 + 0), .ref (w.2.2.2 + 1), .ref (w.2.2.2 + 2), .ref (w.2.2.2 + 3), .ref (w.2.2.2 + 4), .ref (w.2.2.2 + 5), .ref (w.2.2.2 + 6), .ref (w.2.2.2 + 7)]) (n := 12) (Nat.le_of_ble_eq_true rfl)
  rw [lg_entry_eq]
  generalize (lg_sl ([.int p0, .ref (w.2.2.2 + 0), .ref (w.2.2.2 + 1), .ref (w.2.2.2 + 2), .ref (w.2.2.2 + 3), .ref (w.2.2.2 + 4), .ref (w.2.2.2 + 5), .ref (w.2.2.2 + 6), .ref (w.2.2.2 + 7)]) ++ List.replicate (12 - (lg_sl ([.int p0, .ref (w.2.2.2 + 0), .ref (w.2.2.2 + 1), .ref (w.2.2.2 + 2), .ref (w.2.2.2 + 3), .ref (w.2.2.2 + 4), .ref (w.2.2.2 + 5), .ref (w.2.2.2 + 6), .ref (w.2.2.2 + 7)])).length) Slot.unset).toArray = ls at hl ⊢
  clear B
  generalize ([.int p0, .ref (w.2.2.2 + 0), .ref (w.2.2.2 + 1), .ref (w.2.2.2 + 2), .ref (w.2.2.2 + 3), .ref (w.2.2.2 + 4), .ref (w.2.2.2 + 5), .ref (w.2.2.2 + 6), .ref (w.2.2.2 + 7)] : List Value).toArray = args at hts ⊢
  have B96 : ∀ (S : GS) (x9 : Int32) (H : Heap) (locs : List Loc) (ls : Array Slot), HR w K g S H → va_S (FR w) s.heap H locs → lv_has ls 12 [(1, .ref (w.2.2.2 + 0)), (9, .int x9)] → f9_weaves_96 p0 S x9 = some out → W p l e ({ frames := 4, cells := 0, slots := 0, locals := 102 } : Room) s m args below meth c H locs 0 0 (MQ below (QI w K g out.1 out.2) args s 0 0 (FR w)) (F0 m 96 ls []) := by
    intro  S x9 H locs ls hH hS hl hf
    unfold f9_weaves_96 at hf
    refine lv_aload_n hx hb dL_weaves_96 rfl (lv_at hl 0 rfl) ?_
    refine lv_iconst (v := 5) hx hb dL_weaves_97 (by decide) ?_
    obtain ⟨h2, hf⟩ := gd_some hf
    refine m_iald hx hb hK hH 0 (by decide) rfl h2 dL_weaves_98 ?_
    refine lv_iload hx hb dL_weaves_99 (lv_at hl 1 rfl) ?_
    refine lv_isub hx hb dL_weaves_101 ?_
    have ho := Option.some.inj hf
    exact W.iret (v := ((S 0 (5 : Int32).toNatClampNeg) - x9)) hx hb hr (fun t ht hW => ⟨⟨((S 0 (5 : Int32).toNatClampNeg) - x9), (), rfl, congrArg (fun q => q.2) ho, (by subst ho; exact hrE ht hH)⟩, hS.F ht⟩) hS.2.2 dL_weaves_102
  have B91 : ∀ (k13 : GS → Int32 → Int32 → Option (GS × Int32)), (∀ (S : GS) (x9 : Int32) (x10 : Int32) (H : Heap) (locs : List Loc) (ls : Array Slot), HR w K g S H → va_S (FR w) s.heap H locs → lv_has ls 12 [(0, .int p0), (1, .ref (w.2.2.2 + 0)), (2, .ref (w.2.2.2 + 1)), (3, .ref (w.2.2.2 + 2)), (4, .ref (w.2.2.2 + 3)), (5, .ref (w.2.2.2 + 4)), (6, .ref (w.2.2.2 + 5)), (7, .ref (w.2.2.2 + 6)), (8, .ref (w.2.2.2 + 7)), (9, .int x9), (10, .int x10)] → k13 S x9 x10 = some out → W p l e ({ frames := 4, cells := 0, slots := 0, locals := 102 } : Room) s m args below meth c H locs 0 0 (MQ below (QI w K g out.1 out.2) args s 0 0 (FR w)) (F0 m 13 ls [])) → ∀ (S : GS) (x9 : Int32) (s0 : Int32) (H : Heap) (locs : List Loc) (ls : Array Slot), HR w K g S H → va_S (FR w) s.heap H locs → lv_has ls 12 [(0, .int p0), (1, .ref (w.2.2.2 + 0)), (2, .ref (w.2.2.2 + 1)), (3, .ref (w.2.2.2 + 2)), (4, .ref (w.2.2.2 + 3)), (5, .ref (w.2.2.2 + 4)), (6, .ref (w.2.2.2 + 5)), (7, .ref (w.2.2.2 + 6)), (8, .ref (w.2.2.2 + 7)), (9, .int x9)] → f9_weaves_91 k13 p0 S x9 s0 = some out → W p l e ({ frames := 4, cells := 0, slots := 0, locals := 102 } : Room) s m args below meth c H locs 0 0 (MQ below (QI w K g out.1 out.2) args s 0 0 (FR w)) (F0 m 91 ls [.int s0]) := by
    intro k13 hk13 S x9 s0 H locs ls hH hS hl hf
    unfold f9_weaves_91 at hf
    refine lv_istore (lv' := [(10, .int s0), (0, .int p0), (1, .ref (w.2.2.2 + 0)), (2, .ref (w.2.2.2 + 1)), (3, .ref (w.2.2.2 + 2)), (4, .ref (w.2.2.2 + 3)), (5, .ref (w.2.2.2 + 4)), (6, .ref (w.2.2.2 + 5)), (7, .ref (w.2.2.2 + 6)), (8, .ref (w.2.2.2 + 7)), (9, .int x9)]) hx hb dL_weaves_91 hl (by decide) rfl (fun ls hl => ?_)
    refine lv_goto (tgt := 13) hx hb dL_weaves_93 (by decide) ?_
    exact hk13 _ _ _ _ _ _ hH hS (lv_sub hl [1, 2, 3, 4, 5, 6, 7, 8, 9, 10, 0] rfl) hf
  have B75 : ∀ (k13 : GS → Int32 → Int32 → Option (GS × Int32)), (∀ (S : GS) (x9 : Int32) (x10 : Int32) (H : Heap) (locs : List Loc) (ls : Array Slot), HR w K g S H → va_S (FR w) s.heap H locs → lv_has ls 12 [(0, .int p0), (1, .ref (w.2.2.2 + 0)), (2, .ref (w.2.2.2 + 1)), (3, .ref (w.2.2.2 + 2)), (4, .ref (w.2.2.2 + 3)), (5, .ref (w.2.2.2 + 4)), (6, .ref (w.2.2.2 + 5)), (7, .ref (w.2.2.2 + 6)), (8, .ref (w.2.2.2 + 7)), (9, .int x9), (10, .int x10)] → k13 S x9 x10 = some out → W p l e ({ frames := 4, cells := 0, slots := 0, locals := 102 } : Room) s m args below meth c H locs 0 0 (MQ below (QI w K g out.1 out.2) args s 0 0 (FR w)) (F0 m 13 ls [])) → ∀ (S : GS) (x9 : Int32) (x10 : Int32) (x11 : Int32) (H : Heap) (locs : List Loc) (ls : Array Slot), HR w K g S H → va_S (FR w) s.heap H locs → lv_has ls 12 [(0, .int p0), (1, .ref (w.2.2.2 + 0)), (2, .ref (w.2.2.2 + 1)), (3, .ref (w.2.2.2 + 2)), (4, .ref (w.2.2.2 + 3)), (5, .ref (w.2.2.2 + 4)), (6, .ref (w.2.2.2 + 5)), (7, .ref (w.2.2.2 + 6)), (8, .ref (w.2.2.2 + 7)), (9, .int x9), (10, .int x10), (11, .int x11)] → f9_weaves_75 k13 p0 S x9 x10 x11 = some out → W p l e ({ frames := 4, cells := 0, slots := 0, locals := 102 } : Room) s m args below meth c H locs 0 0 (MQ below (QI w K g out.1 out.2) args s 0 0 (FR w)) (F0 m 75 ls []) := by
    intro k13 hk13 S x9 x10 x11 H locs ls hH hS hl hf
    unfold f9_weaves_75 at hf
    refine lv_aload_n hx hb dL_weaves_75 rfl (lv_at hl 1 rfl) ?_
    refine lv_iconst (v := 5) hx hb dL_weaves_76 (by decide) ?_
    obtain ⟨h4, hf⟩ := gd_some hf
    refine m_iald hx hb hK hH 0 (by decide) rfl h4 dL_weaves_77 ?_
    refine lv_iload hx hb dL_weaves_78 (lv_at hl 11 rfl) ?_
    have hg := gif hf
    refine lv_icmp_le (tgt := 87) hx hb dL_weaves_80 (by decide) (fun c5 => ?_) (fun c5 => ?_)
    · have hf := hg.1 c5
      refine lv_iload hx hb dL_weaves_87 (lv_at hl 10 rfl) ?_
      refine lv_iconst (v := 1) hx hb dL_weaves_89 (by decide) ?_
      refine lv_iadd hx hb dL_weaves_90 ?_
      exact B91 _ (hk13) _ _ _ _ _ _ hH hS (lv_sub hl [0, 1, 2, 3, 4, 5, 6, 7, 8, 9] rfl) hf
    · have hf := hg.2 c5
      refine lv_iconst (v := 0) hx hb dL_weaves_83 (by decide) ?_
      refine lv_goto (tgt := 91) hx hb dL_weaves_84 (by decide) ?_
      exact B91 _ (hk13) _ _ _ _ _ _ hH hS (lv_sub hl [0, 1, 2, 3, 4, 5, 6, 7, 8, 9] rfl) hf
  have B13 : ∀ n : Nat, ∀ (S : GS) (x9 : Int32) (x10 : Int32) (H : Heap) (locs : List Loc) (ls : Array Slot), HR w K g S H → va_S (FR w) s.heap H locs → lv_has ls 12 [(0, .int p0), (1, .ref (w.2.2.2 + 0)), (2, .ref (w.2.2.2 + 1)), (3, .ref (w.2.2.2 + 2)), (4, .ref (w.2.2.2 + 3)), (5, .ref (w.2.2.2 + 4)), (6, .ref (w.2.2.2 + 5)), (7, .ref (w.2.2.2 + 6)), (8, .ref (w.2.2.2 + 7)), (9, .int x9), (10, .int x10)] → f9_weaves_13 p0 n S x9 x10 = some out → W p l e ({ frames := 4, cells := 0, slots := 0, locals := 102 } : Room) s m args below meth c H locs 0 0 (MQ below (QI w K g out.1 out.2) args s 0 0 (FR w)) (F0 m 13 ls []) := by
    intro n
    induction n with
    | zero =>
      intro S x9 x10 H locs ls hH hS hl hf
      cases hf
    | succ n ih =>
      intro S x9 x10 H locs ls hH hS hl hf
      rw [f9_weaves_13] at hf
      refine lv_aload_n hx hb dL_weaves_13 rfl (lv_at hl 1 rfl) ?_
      refine lv_iconst (v := 5) hx hb dL_weaves_14 (by decide) ?_
      obtain ⟨h7, hf⟩ := gd_some hf
      refine m_iald hx hb hK hH 0 (by decide) rfl h7 dL_weaves_15 ?_
      refine lv_iload hx hb dL_weaves_16 (lv_at hl 9 rfl) ?_
      refine lv_isub hx hb dL_weaves_18 ?_
      refine lv_iload_n hx hb dL_weaves_19 rfl (lv_at hl 0 rfl) ?_
      have hg := gif hf
      refine lv_icmp_ge (tgt := 96) hx hb dL_weaves_20 (by decide) (fun c8 => ?_) (fun c8 => ?_)
      · have hf := hg.1 c8
        exact B96 _ _ _ _ _ hH hS (lv_sub hl [1, 9] rfl) hf
      · have hf := hg.2 c8
        refine lv_aload_n hx hb dL_weaves_23 rfl (lv_at hl 1 rfl) ?_
        refine lv_bipush (v := 8) hx hb dL_weaves_24 (by decide) ?_
        obtain ⟨h10, hf⟩ := gd_some hf
        refine m_iald hx hb hK hH 0 (by decide) rfl h10 dL_weaves_26 ?_
        have hg := gif hf
        refine lv_if_ne (tgt := 96) hx hb dL_weaves_27 (by decide) (fun c11 => ?_) (fun c11 => ?_)
        · have hf := hg.2 c11
          exact B96 _ _ _ _ _ hH hS (lv_sub hl [1, 9] rfl) hf
        · have hf := hg.1 c11
          refine lv_aload_n hx hb dL_weaves_30 rfl (lv_at hl 1 rfl) ?_
          refine lv_iconst (v := 5) hx hb dL_weaves_31 (by decide) ?_
          refine m_iald hx hb hK hH 0 (by decide) rfl h7 dL_weaves_32 ?_
          refine lv_topi (fun v13 ev13 => ?_)
          have hf := gl_at hf ev13
          refine lv_istore (lv' := [(11, .int v13), (0, .int p0), (1, .ref (w.2.2.2 + 0)), (2, .ref (w.2.2.2 + 1)), (3, .ref (w.2.2.2 + 2)), (4, .ref (w.2.2.2 + 3)), (5, .ref (w.2.2.2 + 4)), (6, .ref (w.2.2.2 + 5)), (7, .ref (w.2.2.2 + 6)), (8, .ref (w.2.2.2 + 7)), (9, .int x9), (10, .int x10)]) hx hb dL_weaves_33 hl (by decide) rfl (fun ls hl => ?_)
          refine lv_aload_n hx hb dL_weaves_35 rfl (lv_at hl 2 rfl) ?_
          refine lv_bipush (v := 8) hx hb dL_weaves_36 (by decide) ?_
          refine lv_iload hx hb dL_weaves_38 (lv_at hl 11 rfl) ?_
          refine lv_aload_n hx hb dL_weaves_40 rfl (lv_at hl 2 rfl) ?_
          refine lv_aload_n hx hb dL_weaves_41 rfl (lv_at hl 3 rfl) ?_
          refine lv_aload hx hb dL_weaves_42 (lv_at hl 5 rfl) ?_
          refine lv_aload hx hb dL_weaves_44 (lv_at hl 6 rfl) ?_
          refine lv_aload hx hb dL_weaves_46 (lv_at hl 8 rfl) ?_
          obtain ⟨v14, h15, hf⟩ := gbind hf
          refine g_Si (As := [.int x10, .ref (w.2.2.2 + 0), .ref (w.2.2.2 + 1), .ref (w.2.2.2 + 3), .ref (w.2.2.2 + 4), .ref (w.2.2.2 + 6)]) (rest := [.int 8, .ref (w.2.2.2 + 0)]) ⟨hx, hb, hml, hown, hts⟩ (c9_why l w K g S x10 v14 h15) (gcwS hts i9_why wd_477 rfl rfl ⟨Nat.le_of_ble_eq_true rfl, Nat.le_of_ble_eq_true rfl⟩) hH hK hS hl.1 rfl rfl (Nat.le_of_ble_eq_true rfl) dL_weaves_48 ⟨Nat.le_refl _, Nat.le_refl _⟩ (fun H locs hH hS => ?_)
          refine m_iast hx hb hK hH hS 0 (by decide) rfl h10 dL_weaves_51 (fun H locs hH hS => ?_)
          obtain ⟨S17, eS17⟩ : ∃ z : GS, z = ssI S 0 (8 : Int32).toNatClampNeg v14 := ⟨_, rfl⟩
          have hf := gl_at hf eS17
          replace hH : HR w K g S17 H := by rw [eS17]; exact hH
          refine lv_aload_n hx hb dL_weaves_52 rfl (lv_at hl 2 rfl) ?_
          refine lv_bipush (v := 8) hx hb dL_weaves_53 (by decide) ?_
          refine m_iald hx hb hK hH 0 (by decide) rfl h10 dL_weaves_55 ?_
          have hg := gif hf
          refine lv_if_ne (tgt := 75) hx hb dL_weaves_56 (by decide) (fun c19 => ?_) (fun c19 => ?_)
          · have hf := hg.2 c19
            exact B75 _ (ih) _ _ _ _ _ _ _ hH hS (lv_sub hl [1, 2, 3, 4, 5, 6, 7, 8, 9, 10, 11, 0] rfl) hf
          · have hf := hg.1 c19
            refine lv_aload_n hx hb dL_weaves_59 rfl (lv_at hl 2 rfl) ?_
            refine lv_aload_n hx hb dL_weaves_60 rfl (lv_at hl 3 rfl) ?_
            refine lv_aload_n hx hb dL_weaves_61 rfl (lv_at hl 4 rfl) ?_
            refine lv_aload hx hb dL_weaves_62 (lv_at hl 5 rfl) ?_
            refine lv_aload hx hb dL_weaves_64 (lv_at hl 6 rfl) ?_
            refine lv_aload hx hb dL_weaves_66 (lv_at hl 7 rfl) ?_
            refine lv_aload hx hb dL_weaves_68 (lv_at hl 8 rfl) ?_
            refine lv_aload hx hb dL_weaves_70 (lv_at hl 9 rfl) ?_
            obtain ⟨S20, h21, hf⟩ := gbind hf
            refine g_Sv (As := [.ref (w.2.2.2 + 0), .ref (w.2.2.2 + 1), .ref (w.2.2.2 + 2), .ref (w.2.2.2 + 3), .ref (w.2.2.2 + 4), .ref (w.2.2.2 + 5), .ref (w.2.2.2 + 6), .ref (w.2.2.2 + 7)]) (rest := []) ⟨hx, hb, hml, hown, hts⟩ (c9_step l w K g S17 S20 h21) (gcwS hts i9_step wd_480 rfl rfl ⟨Nat.le_of_ble_eq_true rfl, Nat.le_of_ble_eq_true rfl⟩) hH hK hS hl.1 rfl rfl (Nat.le_of_ble_eq_true rfl) dL_weaves_72 ⟨Nat.le_refl _, Nat.le_refl _⟩ (fun H locs hH hS => ?_)
            exact B75 _ (ih) _ _ _ _ _ _ _ hH hS (lv_sub hl [1, 2, 3, 4, 5, 6, 7, 8, 9, 10, 11, 0] rfl) hf
  have hl : lv_has ls 12 [(0, .int p0), (1, .ref (w.2.2.2 + 0)), (2, .ref (w.2.2.2 + 1)), (3, .ref (w.2.2.2 + 2)), (4, .ref (w.2.2.2 + 3)), (5, .ref (w.2.2.2 + 4)), (6, .ref (w.2.2.2 + 5)), (7, .ref (w.2.2.2 + 6)), (8, .ref (w.2.2.2 + 7))] := hl
  refine lv_aload_n hx hb dL_weaves_0 rfl (lv_at hl 1 rfl) ?_
  refine lv_iconst (v := 5) hx hb dL_weaves_1 (by decide) ?_
  obtain ⟨h23, hf⟩ := gd_some hf
  refine m_iald hx hb hK hH 0 (by decide) rfl h23 dL_weaves_2 ?_
  refine lv_topi (fun v24 ev24 => ?_)
  have hf := gl_at hf ev24
  refine lv_istore (lv' := [(9, .int v24), (0, .int p0), (1, .ref (w.2.2.2 + 0)), (2, .ref (w.2.2.2 + 1)), (3, .ref (w.2.2.2 + 2)), (4, .ref (w.2.2.2 + 3)), (5, .ref (w.2.2.2 + 4)), (6, .ref (w.2.2.2 + 5)), (7, .ref (w.2.2.2 + 6)), (8, .ref (w.2.2.2 + 7))]) hx hb dL_weaves_3 hl (by decide) rfl (fun ls hl => ?_)
  refine lv_iconst (v := 0) hx hb dL_weaves_5 (by decide) ?_
  refine lv_istore (lv' := [(10, .int 0), (9, .int v24), (0, .int p0), (1, .ref (w.2.2.2 + 0)), (2, .ref (w.2.2.2 + 1)), (3, .ref (w.2.2.2 + 2)), (4, .ref (w.2.2.2 + 3)), (5, .ref (w.2.2.2 + 4)), (6, .ref (w.2.2.2 + 5)), (7, .ref (w.2.2.2 + 6)), (8, .ref (w.2.2.2 + 7))]) hx hb dL_weaves_6 hl (by decide) rfl (fun ls hl => ?_)
  refine lv_aload_n hx hb dL_weaves_8 rfl (lv_at hl 3 rfl) ?_
  refine lv_bipush (v := 8) hx hb dL_weaves_9 (by decide) ?_
  refine lv_iconst (v := 0) hx hb dL_weaves_11 (by decide) ?_
  obtain ⟨h26, hf⟩ := gd_some hf
  refine m_iast hx hb hK hH hS 0 (by decide) rfl h26 dL_weaves_12 (fun H locs hH hS => ?_)
  obtain ⟨S27, eS27⟩ : ∃ z : GS, z = ssI S 0 (8 : Int32).toNatClampNeg 0 := ⟨_, rfl⟩
  have hf := gl_at hf eS27
  replace hH : HR w K g S27 H := by rw [eS27]; exact hH
  exact B13 _ _ _ _ _ _ _ hH hS (lv_sub hl [2, 3, 4, 5, 6, 7, 8, 9, 10, 1, 0] rfl) hf
set_option maxRecDepth 100000 in
set_option maxHeartbeats 8000000 in
theorem c9_due (l : Launch) (w : GW) (K : GK) (g : GM) (S : GS) (p0 : Int32) (p1 : Int32) (p2 : Int32) (out : GS × Int32) (hf : f9_due S p0 p1 p2 = some out) : Met l yL_due (wA yL_due cL_due 13 (some .int)) ({ frames := 5, cells := 0, slots := 0, locals := 133 } : Room) (PRE w K g S [.int p0, .int p1, .int p2, .ref (w.2.2.2 + 0), .ref (w.2.2.2 + 1), .ref (w.2.2.2 + 2), .ref (w.2.2.2 + 3), .ref (w.2.2.2 + 4), .ref (w.2.2.2 + 5), .ref (w.2.2.2 + 6), .ref (w.2.2.2 + 7)]) (QI w K g out.1 out.2) 0 0 (FR w) := by
  unfold f9_due at hf
  refine Met.ofW (cc := cL_due) (maxL := 13) (ret := (some .int)) (by decide) rfl ?_
  intro p e s m args below meth c s₁ B hml hv
  obtain ⟨rfl, hH, hK⟩ := hv
  have hx := B.exec
  have hb := B.bytes
  have hr := B.returns
  have hts : ∀ q ∈ gALL, q.before _ s = true := fun q h => atoms_spec (ws := (wA yL_due cL_due 13 (some .int))) B.pre q (List.mem_cons_of_mem _ h)
  have hown : s.vm.findClass RL = some m.cls := findClass_of_methodNamed B.named
  have hlocks := B.notSynchronized
  have hS : va_S (FR w) s.heap s.heap [] := va_S.rf
  show W p l e ({ frames := 5, cells := 0, slots := 0, locals := 133 } : Room) s m _ below meth c s.heap [] 0 0 (MQ below (QI w K g out.1 out.2) _ s 0 0 (FR w)) _
  have hl := lv_entry ([.int p0, .int p1, .int p2, .ref (w.2.2.2 + 0), .ref (w.2.2.2 + 1), .ref (w.2.2.2 + 2), .ref (w.2.2.2 + 3), .ref (w.2.2.2 + 4), .ref (w.2.2.2 + 5), .ref (w.2.2.2 + 6), .ref (w.2.2.2 + 7)]) (n := 13) (Nat.le_of_ble_eq_true rfl)
  rw [lg_entry_eq]
  generalize (lg_sl ([.int p0, .int p1, .int p2, .ref (w.2.2.2 + 0), .ref (w.2.2.2 + 1), .ref (w.2.2.2 + 2), .ref (w.2.2.2 + 3), .ref (w.2.2.2 + 4), .ref (w.2.2.2 + 5), .ref (w.2.2.2 + 6), .ref (w.2.2.2 + 7)]) ++ List.replicate (13 - (lg_sl ([.int p0, .int p1, .int p2, .ref (w.2.2.2 + 0), .ref (w.2.2.2 + 1), .ref (w.2.2.2 + 2), .ref (w.2.2.2 + 3), .ref (w.2.2.2 + 4), .ref (w.2.2.2 + 5), .ref (w.2.2.2 + 6), .ref (w.2.2.2 + 7)])).length) Slot.unset).toArray = ls at hl ⊢
  clear B
  generalize ([.int p0, .int p1, .int p2, .ref (w.2.2.2 + 0), .ref (w.2.2.2 + 1), .ref (w.2.2.2 + 2), .ref (w.2.2.2 + 3), .ref (w.2.2.2 + 4), .ref (w.2.2.2 + 5), .ref (w.2.2.2 + 6), .ref (w.2.2.2 + 7)] : List Value).toArray = args at hts ⊢
  have B321 : ∀ (S : GS) (x11 : Int32) (s1 : Int32) (H : Heap) (locs : List Loc) (ls : Array Slot), HR w K g S H → va_S (FR w) s.heap H locs → lv_has ls 13 [(0, .int p0), (2, .int p2), (11, .int x11)] → f9_due_321 p0 p1 p2 S x11 s1 = some out → W p l e ({ frames := 5, cells := 0, slots := 0, locals := 133 } : Room) s m args below meth c H locs 0 0 (MQ below (QI w K g out.1 out.2) args s 0 0 (FR w)) (F0 m 321 ls [.int s1, .ref (w.2.2.2 + 0)]) := by
    intro  S x11 s1 H locs ls hH hS hl hf
    unfold f9_due_321 at hf
    refine lv_iload_n hx hb dL_due_321 rfl (lv_at hl 0 rfl) ?_
    refine lv_bipush (v := 6) hx hb dL_due_322 (by decide) ?_
    have hg := gif hf
    refine lv_icmp_ne (tgt := 331) hx hb dL_due_324 (by decide) (fun c1 => ?_) (fun c1 => ?_)
    · have hf := hg.2 c1
      refine lv_iload_n hx hb dL_due_331 rfl (lv_at hl 1 rfl) ?_
      obtain ⟨h3, hf⟩ := gd_some hf
      refine m_iast hx hb hK hH hS 0 (by decide) rfl h3 dL_due_332 (fun H locs hH hS => ?_)
      obtain ⟨S4, eS4⟩ : ∃ z : GS, z = ssI S 0 s1.toNatClampNeg p2 := ⟨_, rfl⟩
      have hf := gl_at hf eS4
      replace hH : HR w K g S4 H := by rw [eS4]; exact hH
      refine lv_iload hx hb dL_due_333 (lv_at hl 2 rfl) ?_
      have ho := Option.some.inj hf
      exact W.iret (v := x11) hx hb hr (fun t ht hW => ⟨⟨x11, (), rfl, congrArg (fun q => q.2) ho, (by subst ho; exact hrE ht hH)⟩, hS.F ht⟩) hS.2.2 dL_due_335
    · have hf := hg.1 c1
      refine lv_iconst (v := 0) hx hb dL_due_327 (by decide) ?_
      refine lv_goto (tgt := 332) hx hb dL_due_328 (by decide) ?_
      obtain ⟨h6, hf⟩ := gd_some hf
      refine m_iast hx hb hK hH hS 0 (by decide) rfl h6 dL_due_332 (fun H locs hH hS => ?_)
      obtain ⟨S7, eS7⟩ : ∃ z : GS, z = ssI S 0 s1.toNatClampNeg 0 := ⟨_, rfl⟩
      have hf := gl_at hf eS7
      replace hH : HR w K g S7 H := by rw [eS7]; exact hH
      refine lv_iload hx hb dL_due_333 (lv_at hl 2 rfl) ?_
      have ho := Option.some.inj hf
      exact W.iret (v := x11) hx hb hr (fun t ht hW => ⟨⟨x11, (), rfl, congrArg (fun q => q.2) ho, (by subst ho; exact hrE ht hH)⟩, hS.F ht⟩) hS.2.2 dL_due_335
  have B307 : ∀ (S : GS) (s0 : Int32) (H : Heap) (locs : List Loc) (ls : Array Slot), HR w K g S H → va_S (FR w) s.heap H locs → lv_has ls 13 [(0, .int p0), (1, .int p1), (2, .int p2), (3, .ref (w.2.2.2 + 0))] → f9_due_307 p0 p1 p2 S s0 = some out → W p l e ({ frames := 5, cells := 0, slots := 0, locals := 133 } : Room) s m args below meth c H locs 0 0 (MQ below (QI w K g out.1 out.2) args s 0 0 (FR w)) (F0 m 307 ls [.int s0]) := by
    intro  S s0 H locs ls hH hS hl hf
    unfold f9_due_307 at hf
    refine lv_istore (lv' := [(11, .int s0), (0, .int p0), (1, .int p1), (2, .int p2), (3, .ref (w.2.2.2 + 0))]) hx hb dL_due_307 hl (by decide) rfl (fun ls hl => ?_)
    refine lv_aload_n hx hb dL_due_309 rfl (lv_at hl 4 rfl) ?_
    refine lv_iload_n hx hb dL_due_310 rfl (lv_at hl 1 rfl) ?_
    refine lv_bipush (v := 6) hx hb dL_due_311 (by decide) ?_
    have hg := gif hf
    refine lv_icmp_ne (tgt := 320) hx hb dL_due_313 (by decide) (fun c8 => ?_) (fun c8 => ?_)
    · have hf := hg.2 c8
      refine lv_iload_n hx hb dL_due_320 rfl (lv_at hl 2 rfl) ?_
      exact B321 _ _ _ _ _ _ hH hS (lv_sub hl [1, 3, 0] rfl) hf
    · have hf := hg.1 c8
      refine lv_iconst (v := 4) hx hb dL_due_316 (by decide) ?_
      refine lv_goto (tgt := 321) hx hb dL_due_317 (by decide) ?_
      exact B321 _ _ _ _ _ _ hH hS (lv_sub hl [1, 3, 0] rfl) hf
  have B249 : ∀ (S : GS) (H : Heap) (locs : List Loc) (ls : Array Slot), HR w K g S H → va_S (FR w) s.heap H locs → lv_has ls 13 [(3, .ref (w.2.2.2 + 0)), (7, .ref (w.2.2.2 + 4)), (8, .ref (w.2.2.2 + 5)), (9, .ref (w.2.2.2 + 6))] → f9_due_249 p0 p1 p2 S = some out → W p l e ({ frames := 5, cells := 0, slots := 0, locals := 133 } : Room) s m args below meth c H locs 0 0 (MQ below (QI w K g out.1 out.2) args s 0 0 (FR w)) (F0 m 249 ls []) := by
    intro  S H locs ls hH hS hl hf
    unfold f9_due_249 at hf
    refine lv_aload_n hx hb dL_due_249 rfl (lv_at hl 0 rfl) ?_
    refine lv_aload hx hb dL_due_250 (lv_at hl 1 rfl) ?_
    refine lv_aload hx hb dL_due_252 (lv_at hl 2 rfl) ?_
    refine lv_aload hx hb dL_due_254 (lv_at hl 3 rfl) ?_
    obtain ⟨S9, h10, hf⟩ := gbind hf
    refine g_Sv (As := [.ref (w.2.2.2 + 0), .ref (w.2.2.2 + 4), .ref (w.2.2.2 + 5), .ref (w.2.2.2 + 6)]) (rest := []) ⟨hx, hb, hml, hown, hts⟩ (c9_settles l w K g S S9 h10) (gcwS hts i9_settles wd_495 rfl rfl ⟨Nat.le_of_ble_eq_true rfl, Nat.le_of_ble_eq_true rfl⟩) hH hK hS hl.1 rfl rfl (Nat.le_of_ble_eq_true rfl) dL_due_256 ⟨Nat.le_refl _, Nat.le_refl _⟩ (fun H locs hH hS => ?_)
    refine lv_aload_n hx hb dL_due_259 rfl (lv_at hl 0 rfl) ?_
    refine lv_iconst (v := 3) hx hb dL_due_260 (by decide) ?_
    obtain ⟨h12, hf⟩ := gd_some hf
    refine m_iald hx hb hK hH 0 (by decide) rfl h12 dL_due_261 ?_
    have ho := Option.some.inj hf
    exact W.iret (v := (S9 0 (3 : Int32).toNatClampNeg)) hx hb hr (fun t ht hW => ⟨⟨(S9 0 (3 : Int32).toNatClampNeg), (), rfl, congrArg (fun q => q.2) ho, (by subst ho; exact hrE ht hH)⟩, hS.F ht⟩) hS.2.2 dL_due_262
  have B248 : ∀ (S : GS) (s1 : Int32) (s2 : Int32) (H : Heap) (locs : List Loc) (ls : Array Slot), HR w K g S H → va_S (FR w) s.heap H locs → lv_has ls 13 [(3, .ref (w.2.2.2 + 0)), (7, .ref (w.2.2.2 + 4)), (8, .ref (w.2.2.2 + 5)), (9, .ref (w.2.2.2 + 6))] → f9_due_248 p0 p1 p2 S s1 s2 = some out → W p l e ({ frames := 5, cells := 0, slots := 0, locals := 133 } : Room) s m args below meth c H locs 0 0 (MQ below (QI w K g out.1 out.2) args s 0 0 (FR w)) (F0 m 248 ls [.int s2, .int s1, .ref (w.2.2.2 + 4)]) := by
    intro  S s1 s2 H locs ls hH hS hl hf
    unfold f9_due_248 at hf
    obtain ⟨h14, hf⟩ := gd_some hf
    refine m_iast hx hb hK hH hS 4 (by decide) rfl h14 dL_due_248 (fun H locs hH hS => ?_)
    obtain ⟨S15, eS15⟩ : ∃ z : GS, z = ssI S 4 s1.toNatClampNeg s2 := ⟨_, rfl⟩
    have hf := gl_at hf eS15
    replace hH : HR w K g S15 H := by rw [eS15]; exact hH
    exact B249 _ _ _ _ hH hS (lv_sub hl [0, 1, 2, 3] rfl) hf
  have B216 : ∀ (S : GS) (x11 : Int32) (s1 : Int32) (H : Heap) (locs : List Loc) (ls : Array Slot), HR w K g S H → va_S (FR w) s.heap H locs → lv_has ls 13 [(3, .ref (w.2.2.2 + 0)), (7, .ref (w.2.2.2 + 4)), (8, .ref (w.2.2.2 + 5)), (9, .ref (w.2.2.2 + 6)), (11, .int x11)] → f9_due_216 p0 p1 p2 S x11 s1 = some out → W p l e ({ frames := 5, cells := 0, slots := 0, locals := 133 } : Room) s m args below meth c H locs 0 0 (MQ below (QI w K g out.1 out.2) args s 0 0 (FR w)) (F0 m 216 ls [.int s1, .ref (w.2.2.2 + 4)]) := by
    intro  S x11 s1 H locs ls hH hS hl hf
    unfold f9_due_216 at hf
    refine lv_aload hx hb dL_due_216 (lv_at hl 1 rfl) ?_
    refine lv_bipush (v := 6) hx hb dL_due_218 (by decide) ?_
    refine lv_iload hx hb dL_due_220 (lv_at hl 4 rfl) ?_
    refine lv_imul hx hb dL_due_222 ?_
    refine lv_iconst (v := 2) hx hb dL_due_223 (by decide) ?_
    refine lv_iadd hx hb dL_due_224 ?_
    obtain ⟨h17, hf⟩ := gd_some hf
    refine m_iald hx hb hK hH 4 (by decide) rfl h17 dL_due_225 ?_
    refine lv_iconst (v := 2) hx hb dL_due_226 (by decide) ?_
    refine lv_iadd hx hb dL_due_227 ?_
    refine lv_goto (tgt := 248) hx hb dL_due_228 (by decide) ?_
    exact B248 _ _ _ _ _ _ hH hS (lv_sub hl [0, 1, 2, 3] rfl) hf
  have B98 : ∀ (S : GS) (s1 : Int32) (s2 : Int32) (H : Heap) (locs : List Loc) (ls : Array Slot), HR w K g S H → va_S (FR w) s.heap H locs → lv_has ls 13 [(1, .int p1), (4, .ref (w.2.2.2 + 1))] → f9_due_98 p0 p1 p2 S s1 s2 = some out → W p l e ({ frames := 5, cells := 0, slots := 0, locals := 133 } : Room) s m args below meth c H locs 0 0 (MQ below (QI w K g out.1 out.2) args s 0 0 (FR w)) (F0 m 98 ls [.int s2, .int s1, .ref (w.2.2.2 + 1)]) := by
    intro  S s1 s2 H locs ls hH hS hl hf
    unfold f9_due_98 at hf
    obtain ⟨h19, hf⟩ := gd_some hf
    refine m_iast hx hb hK hH hS 1 (by decide) rfl h19 dL_due_98 (fun H locs hH hS => ?_)
    obtain ⟨S20, eS20⟩ : ∃ z : GS, z = ssI S 1 s1.toNatClampNeg s2 := ⟨_, rfl⟩
    have hf := gl_at hf eS20
    replace hH : HR w K g S20 H := by rw [eS20]; exact hH
    refine lv_aload hx hb dL_due_99 (lv_at hl 1 rfl) ?_
    refine lv_bipush (v := 6) hx hb dL_due_101 (by decide) ?_
    refine lv_iload_n hx hb dL_due_103 rfl (lv_at hl 0 rfl) ?_
    refine lv_iadd hx hb dL_due_104 ?_
    refine lv_iconst (v := 0) hx hb dL_due_105 (by decide) ?_
    obtain ⟨h22, hf⟩ := gd_some hf
    refine m_iast hx hb hK hH hS 1 (by decide) rfl h22 dL_due_106 (fun H locs hH hS => ?_)
    obtain ⟨S23, eS23⟩ : ∃ z : GS, z = ssI S20 1 (6 + p1).toNatClampNeg 0 := ⟨_, rfl⟩
    have hf := gl_at hf eS23
    replace hH : HR w K g S23 H := by rw [eS23]; exact hH
    refine lv_aload hx hb dL_due_107 (lv_at hl 1 rfl) ?_
    refine lv_bipush (v := 12) hx hb dL_due_109 (by decide) ?_
    refine lv_iload_n hx hb dL_due_111 rfl (lv_at hl 0 rfl) ?_
    refine lv_iadd hx hb dL_due_112 ?_
    refine lv_dup2_11 hx hb dL_due_113 rfl rfl ?_
    obtain ⟨h25, hf⟩ := gd_some hf
    refine m_iald hx hb hK hH 1 (by decide) rfl h25 dL_due_114 ?_
    refine lv_iconst (v := 1) hx hb dL_due_115 (by decide) ?_
    refine lv_iadd hx hb dL_due_116 ?_
    refine m_iast hx hb hK hH hS 1 (by decide) rfl h25 dL_due_117 (fun H locs hH hS => ?_)
    obtain ⟨S27, eS27⟩ : ∃ z : GS, z = ssI S23 1 (12 + p1).toNatClampNeg ((S23 1 (12 + p1).toNatClampNeg) + 1) := ⟨_, rfl⟩
    have hf := gl_at hf eS27
    replace hH : HR w K g S27 H := by rw [eS27]; exact hH
    refine lv_aload hx hb dL_due_118 (lv_at hl 1 rfl) ?_
    refine lv_iload_n hx hb dL_due_120 rfl (lv_at hl 0 rfl) ?_
    obtain ⟨h29, hf⟩ := gd_some hf
    refine m_iald hx hb hK hH 1 (by decide) rfl h29 dL_due_121 ?_
    have ho := Option.some.inj hf
    exact W.iret (v := (S27 1 p1.toNatClampNeg)) hx hb hr (fun t ht hW => ⟨⟨(S27 1 p1.toNatClampNeg), (), rfl, congrArg (fun q => q.2) ho, (by subst ho; exact hrE ht hH)⟩, hS.F ht⟩) hS.2.2 dL_due_122
  have hl : lv_has ls 13 [(0, .int p0), (1, .int p1), (2, .int p2), (3, .ref (w.2.2.2 + 0)), (4, .ref (w.2.2.2 + 1)), (5, .ref (w.2.2.2 + 2)), (6, .ref (w.2.2.2 + 3)), (7, .ref (w.2.2.2 + 4)), (8, .ref (w.2.2.2 + 5)), (9, .ref (w.2.2.2 + 6)), (10, .ref (w.2.2.2 + 7))] := hl
  refine lv_iload_n hx hb dL_due_0 rfl (lv_at hl 0 rfl) ?_
  refine lv_iconst (v := 1) hx hb dL_due_1 (by decide) ?_
  have hg := gif hf
  refine lv_icmp_ne (tgt := 41) hx hb dL_due_2 (by decide) (fun c30 => ?_) (fun c30 => ?_)
  · have hf := hg.2 c30
    refine lv_iload_n hx hb dL_due_41 rfl (lv_at hl 0 rfl) ?_
    refine lv_iconst (v := 2) hx hb dL_due_42 (by decide) ?_
    have hg := gif hf
    refine lv_icmp_ne (tgt := 66) hx hb dL_due_43 (by decide) (fun c31 => ?_) (fun c31 => ?_)
    · have hf := hg.2 c31
      refine lv_iload_n hx hb dL_due_66 rfl (lv_at hl 0 rfl) ?_
      refine lv_iconst (v := 3) hx hb dL_due_67 (by decide) ?_
      have hg := gif hf
      refine lv_icmp_ne (tgt := 123) hx hb dL_due_68 (by decide) (fun c32 => ?_) (fun c32 => ?_)
      · have hf := hg.2 c32
        refine lv_iload_n hx hb dL_due_123 rfl (lv_at hl 0 rfl) ?_
        refine lv_iconst (v := 4) hx hb dL_due_124 (by decide) ?_
        have hg := gif hf
        refine lv_icmp_ne (tgt := 263) hx hb dL_due_125 (by decide) (fun c33 => ?_) (fun c33 => ?_)
        · have hf := hg.2 c33
          refine lv_iload_n hx hb dL_due_263 rfl (lv_at hl 0 rfl) ?_
          refine lv_iconst (v := 5) hx hb dL_due_264 (by decide) ?_
          have hg := gif hf
          refine lv_icmp_ne (tgt := 292) hx hb dL_due_265 (by decide) (fun c34 => ?_) (fun c34 => ?_)
          · have hf := hg.2 c34
            refine lv_iload_n hx hb dL_due_292 rfl (lv_at hl 0 rfl) ?_
            refine lv_bipush (v := 6) hx hb dL_due_293 (by decide) ?_
            have hg := gif hf
            refine lv_icmp_ne (tgt := 304) hx hb dL_due_295 (by decide) (fun c35 => ?_) (fun c35 => ?_)
            · have hf := hg.2 c35
              refine lv_aload_n hx hb dL_due_304 rfl (lv_at hl 3 rfl) ?_
              refine lv_iload_n hx hb dL_due_305 rfl (lv_at hl 1 rfl) ?_
              obtain ⟨h37, hf⟩ := gd_some hf
              refine m_iald hx hb hK hH 0 (by decide) rfl h37 dL_due_306 ?_
              exact B307 _ _ _ _ _ hH hS (lv_sub hl [0, 1, 2, 3] rfl) hf
            · have hf := hg.1 c35
              refine lv_aload_n hx hb dL_due_298 rfl (lv_at hl 3 rfl) ?_
              refine lv_iconst (v := 4) hx hb dL_due_299 (by decide) ?_
              obtain ⟨h39, hf⟩ := gd_some hf
              refine m_iald hx hb hK hH 0 (by decide) rfl h39 dL_due_300 ?_
              refine lv_goto (tgt := 307) hx hb dL_due_301 (by decide) ?_
              exact B307 _ _ _ _ _ hH hS (lv_sub hl [0, 1, 2, 3] rfl) hf
          · have hf := hg.1 c34
            refine lv_aload hx hb dL_due_268 (lv_at hl 6 rfl) ?_
            refine lv_iload_n hx hb dL_due_270 rfl (lv_at hl 1 rfl) ?_
            obtain ⟨h41, hf⟩ := gd_some hf
            refine m_iald hx hb hK hH 3 (by decide) rfl h41 dL_due_271 ?_
            have hg := gif hf
            refine lv_if_ne (tgt := 278) hx hb dL_due_272 (by decide) (fun c42 => ?_) (fun c42 => ?_)
            · have hf := hg.2 c42
              refine lv_aload hx hb dL_due_278 (lv_at hl 6 rfl) ?_
              refine lv_iload_n hx hb dL_due_280 rfl (lv_at hl 1 rfl) ?_
              refine lv_iconst (v := 0) hx hb dL_due_281 (by decide) ?_
              refine m_iast hx hb hK hH hS 3 (by decide) rfl h41 dL_due_282 (fun H locs hH hS => ?_)
              obtain ⟨S44, eS44⟩ : ∃ z : GS, z = ssI S 3 p1.toNatClampNeg 0 := ⟨_, rfl⟩
              have hf := gl_at hf eS44
              replace hH : HR w K g S44 H := by rw [eS44]; exact hH
              refine lv_iload_n hx hb dL_due_283 rfl (lv_at hl 1 rfl) ?_
              refine lv_aload hx hb dL_due_284 (lv_at hl 5 rfl) ?_
              refine lv_aload hx hb dL_due_286 (lv_at hl 6 rfl) ?_
              obtain ⟨v45, h46, hf⟩ := gbind hf
              refine g_Si (As := [.int p1, .ref (w.2.2.2 + 2), .ref (w.2.2.2 + 3)]) (rest := []) ⟨hx, hb, hml, hown, hts⟩ (c9_callers l w K g S44 p1 v45 h46) (gcwS hts i9_callers wd_498 rfl rfl ⟨Nat.le_of_ble_eq_true rfl, Nat.le_of_ble_eq_true rfl⟩) hH hK hS hl.1 rfl rfl (Nat.le_of_ble_eq_true rfl) dL_due_288 ⟨Nat.le_refl _, Nat.le_refl _⟩ (fun H locs hH hS => ?_)
              have ho := Option.some.inj hf
              exact W.iret (v := v45) hx hb hr (fun t ht hW => ⟨⟨v45, (), rfl, congrArg (fun q => q.2) ho, (by subst ho; exact hrE ht hH)⟩, hS.F ht⟩) hS.2.2 dL_due_291
            · have hf := hg.1 c42
              refine lv_bipush (v := (-5)) hx hb dL_due_275 (by decide) ?_
              have ho := Option.some.inj hf
              exact W.iret (v := (-5)) hx hb hr (fun t ht hW => ⟨⟨(-5), (), rfl, congrArg (fun q => q.2) ho, (by subst ho; exact hrE ht hH)⟩, hS.F ht⟩) hS.2.2 dL_due_277
        · have hf := hg.1 c33
          refine lv_aload_n hx hb dL_due_128 rfl (lv_at hl 3 rfl) ?_
          refine lv_iconst (v := 3) hx hb dL_due_129 (by decide) ?_
          obtain ⟨h48, hf⟩ := gd_some hf
          refine m_iald hx hb hK hH 0 (by decide) rfl h48 dL_due_130 ?_
          have hg := gif hf
          refine lv_if_ne (tgt := 137) hx hb dL_due_131 (by decide) (fun c49 => ?_) (fun c49 => ?_)
          · have hf := hg.2 c49
            refine lv_aload_n hx hb dL_due_137 rfl (lv_at hl 3 rfl) ?_
            refine lv_iconst (v := 3) hx hb dL_due_138 (by decide) ?_
            refine m_iald hx hb hK hH 0 (by decide) rfl h48 dL_due_139 ?_
            refine lv_iconst (v := 1) hx hb dL_due_140 (by decide) ?_
            refine lv_isub hx hb dL_due_141 ?_
            refine lv_topi (fun v51 ev51 => ?_)
            have hf := gl_at hf ev51
            refine lv_istore (lv' := [(11, .int v51), (0, .int p0), (1, .int p1), (2, .int p2), (3, .ref (w.2.2.2 + 0)), (4, .ref (w.2.2.2 + 1)), (5, .ref (w.2.2.2 + 2)), (6, .ref (w.2.2.2 + 3)), (7, .ref (w.2.2.2 + 4)), (8, .ref (w.2.2.2 + 5)), (9, .ref (w.2.2.2 + 6)), (10, .ref (w.2.2.2 + 7))]) hx hb dL_due_142 hl (by decide) rfl (fun ls hl => ?_)
            refine lv_aload hx hb dL_due_144 (lv_at hl 10 rfl) ?_
            refine lv_iload hx hb dL_due_146 (lv_at hl 0 rfl) ?_
            refine lv_aload hx hb dL_due_148 (lv_at hl 8 rfl) ?_
            refine lv_bipush (v := 6) hx hb dL_due_150 (by decide) ?_
            refine lv_iload hx hb dL_due_152 (lv_at hl 0 rfl) ?_
            refine lv_imul hx hb dL_due_154 ?_
            refine lv_iconst (v := 2) hx hb dL_due_155 (by decide) ?_
            refine lv_iadd hx hb dL_due_156 ?_
            obtain ⟨h53, hf⟩ := gd_some hf
            refine m_iald hx hb hK hH 4 (by decide) rfl h53 dL_due_157 ?_
            obtain ⟨v54, h55, hf⟩ := gbind hf
            refine g_Si (As := [.ref (w.2.2.2 + 6), .int v51, .int (S 4 ((6 * v51) + 2).toNatClampNeg)]) (rest := []) ⟨hx, hb, hml, hown, hts⟩ (c9_at6 l w K g S v51 (S 4 ((6 * v51) + 2).toNatClampNeg) v54 h55) (gcwS hts i9_at wd_324 rfl rfl ⟨Nat.le_of_ble_eq_true rfl, Nat.le_of_ble_eq_true rfl⟩) hH hK hS hl.1 rfl rfl (Nat.le_of_ble_eq_true rfl) dL_due_158 ⟨Nat.le_refl _, Nat.le_refl _⟩ (fun H locs hH hS => ?_)
            refine lv_istore (lv' := [(12, .int v54), (11, .int v51), (0, .int p0), (1, .int p1), (2, .int p2), (3, .ref (w.2.2.2 + 0)), (4, .ref (w.2.2.2 + 1)), (5, .ref (w.2.2.2 + 2)), (6, .ref (w.2.2.2 + 3)), (7, .ref (w.2.2.2 + 4)), (8, .ref (w.2.2.2 + 5)), (9, .ref (w.2.2.2 + 6)), (10, .ref (w.2.2.2 + 7))]) hx hb dL_due_161 hl (by decide) rfl (fun ls hl => ?_)
            refine lv_iload hx hb dL_due_163 (lv_at hl 0 rfl) ?_
            refine lv_bipush (v := 119) hx hb dL_due_165 (by decide) ?_
            have hg := gif hf
            refine lv_icmp_ne (tgt := 182) hx hb dL_due_167 (by decide) (fun c56 => ?_) (fun c56 => ?_)
            · have hf := hg.2 c56
              refine lv_aload hx hb dL_due_182 (lv_at hl 9 rfl) ?_
              refine lv_bipush (v := 6) hx hb dL_due_184 (by decide) ?_
              refine lv_iload hx hb dL_due_186 (lv_at hl 1 rfl) ?_
              refine lv_imul hx hb dL_due_188 ?_
              refine lv_iconst (v := 3) hx hb dL_due_189 (by decide) ?_
              refine lv_iadd hx hb dL_due_190 ?_
              refine lv_iconst (v := 0) hx hb dL_due_191 (by decide) ?_
              obtain ⟨h58, hf⟩ := gd_some hf
              refine m_iast hx hb hK hH hS 4 (by decide) rfl h58 dL_due_192 (fun H locs hH hS => ?_)
              obtain ⟨S59, eS59⟩ : ∃ z : GS, z = ssI S 4 ((6 * v51) + 3).toNatClampNeg 0 := ⟨_, rfl⟩
              have hf := gl_at hf eS59
              replace hH : HR w K g S59 H := by rw [eS59]; exact hH
              refine lv_aload hx hb dL_due_193 (lv_at hl 9 rfl) ?_
              refine lv_bipush (v := 6) hx hb dL_due_195 (by decide) ?_
              refine lv_iload hx hb dL_due_197 (lv_at hl 1 rfl) ?_
              refine lv_imul hx hb dL_due_199 ?_
              refine lv_iconst (v := 2) hx hb dL_due_200 (by decide) ?_
              refine lv_iadd hx hb dL_due_201 ?_
              refine lv_iload hx hb dL_due_202 (lv_at hl 0 rfl) ?_
              refine lv_bipush (v := 99) hx hb dL_due_204 (by decide) ?_
              have hg := gif hf
              refine lv_icmp_eq (tgt := 216) hx hb dL_due_206 (by decide) (fun c60 => ?_) (fun c60 => ?_)
              · have hf := hg.1 c60
                exact B216 _ _ _ _ _ _ hH hS (lv_sub hl [5, 9, 10, 11, 1] rfl) hf
              · have hf := hg.2 c60
                refine lv_iload hx hb dL_due_209 (lv_at hl 0 rfl) ?_
                refine lv_bipush (v := 107) hx hb dL_due_211 (by decide) ?_
                have hg := gif hf
                refine lv_icmp_ne (tgt := 231) hx hb dL_due_213 (by decide) (fun c61 => ?_) (fun c61 => ?_)
                · have hf := hg.2 c61
                  refine lv_iload hx hb dL_due_231 (lv_at hl 1 rfl) ?_
                  refine lv_aload hx hb dL_due_233 (lv_at hl 9 rfl) ?_
                  refine lv_bipush (v := 6) hx hb dL_due_235 (by decide) ?_
                  refine lv_iload hx hb dL_due_237 (lv_at hl 1 rfl) ?_
                  refine lv_imul hx hb dL_due_239 ?_
                  refine lv_iconst (v := 2) hx hb dL_due_240 (by decide) ?_
                  refine lv_iadd hx hb dL_due_241 ?_
                  refine m_iald hx hb hK hH 4 (by decide) rfl h53 dL_due_242 ?_
                  refine lv_aload hx hb dL_due_243 (lv_at hl 11 rfl) ?_
                  obtain ⟨v63, h64, hf⟩ := gbind hf
                  refine g_Si (As := [.int v51, .int (S59 4 ((6 * v51) + 2).toNatClampNeg), .ref (w.2.2.2 + 6)]) (rest := [.int ((6 * v51) + 2), .ref (w.2.2.2 + 4)]) ⟨hx, hb, hml, hown, hts⟩ (c9_behind l w K g S59 v51 (S59 4 ((6 * v51) + 2).toNatClampNeg) v63 h64) (gcwS hts i9_behind wd_492 rfl rfl ⟨Nat.le_of_ble_eq_true rfl, Nat.le_of_ble_eq_true rfl⟩) hH hK hS hl.1 rfl rfl (Nat.le_of_ble_eq_true rfl) dL_due_245 ⟨Nat.le_refl _, Nat.le_refl _⟩ (fun H locs hH hS => ?_)
                  exact B248 _ _ _ _ _ _ hH hS (lv_sub hl [5, 9, 10, 11] rfl) hf
                · have hf := hg.1 c61
                  exact B216 _ _ _ _ _ _ hH hS (lv_sub hl [5, 9, 10, 11, 1] rfl) hf
            · have hf := hg.1 c56
              refine lv_iload hx hb dL_due_170 (lv_at hl 1 rfl) ?_
              refine lv_aload hx hb dL_due_172 (lv_at hl 9 rfl) ?_
              refine lv_aload hx hb dL_due_174 (lv_at hl 11 rfl) ?_
              obtain ⟨S65, h66, hf⟩ := gbind hf
              refine g_Sv (As := [.int v51, .ref (w.2.2.2 + 4), .ref (w.2.2.2 + 6)]) (rest := []) ⟨hx, hb, hml, hown, hts⟩ (c9_passes l w K g S v51 S65 h66) (gcwS hts i9_passes wd_483 rfl rfl ⟨Nat.le_of_ble_eq_true rfl, Nat.le_of_ble_eq_true rfl⟩) hH hK hS hl.1 rfl rfl (Nat.le_of_ble_eq_true rfl) dL_due_176 ⟨Nat.le_refl _, Nat.le_refl _⟩ (fun H locs hH hS => ?_)
              refine lv_goto (tgt := 249) hx hb dL_due_179 (by decide) ?_
              exact B249 _ _ _ _ hH hS (lv_sub hl [5, 9, 10, 11] rfl) hf
          · have hf := hg.1 c49
            refine lv_bipush (v := (-5)) hx hb dL_due_134 (by decide) ?_
            have ho := Option.some.inj hf
            exact W.iret (v := (-5)) hx hb hr (fun t ht hW => ⟨⟨(-5), (), rfl, congrArg (fun q => q.2) ho, (by subst ho; exact hrE ht hH)⟩, hS.F ht⟩) hS.2.2 dL_due_136
      · have hf := hg.1 c32
        refine lv_aload hx hb dL_due_71 (lv_at hl 4 rfl) ?_
        refine lv_iload_n hx hb dL_due_73 rfl (lv_at hl 1 rfl) ?_
        refine lv_aload hx hb dL_due_74 (lv_at hl 4 rfl) ?_
        refine lv_iload_n hx hb dL_due_76 rfl (lv_at hl 1 rfl) ?_
        obtain ⟨h68, hf⟩ := gd_some hf
        refine m_iald hx hb hK hH 1 (by decide) rfl h68 dL_due_77 ?_
        refine lv_iload_n hx hb dL_due_78 rfl (lv_at hl 2 rfl) ?_
        refine lv_iadd hx hb dL_due_79 ?_
        refine lv_sipush (v := 999) hx hb dL_due_80 (by decide) ?_
        have hg := gif hf
        refine lv_icmp_le (tgt := 92) hx hb dL_due_83 (by decide) (fun c69 => ?_) (fun c69 => ?_)
        · have hf := hg.1 c69
          refine lv_aload hx hb dL_due_92 (lv_at hl 4 rfl) ?_
          refine lv_iload_n hx hb dL_due_94 rfl (lv_at hl 1 rfl) ?_
          refine m_iald hx hb hK hH 1 (by decide) rfl h68 dL_due_95 ?_
          refine lv_iload_n hx hb dL_due_96 rfl (lv_at hl 2 rfl) ?_
          refine lv_iadd hx hb dL_due_97 ?_
          exact B98 _ _ _ _ _ _ hH hS (lv_sub hl [1, 4] rfl) hf
        · have hf := hg.2 c69
          refine lv_sipush (v := 999) hx hb dL_due_86 (by decide) ?_
          refine lv_goto (tgt := 98) hx hb dL_due_89 (by decide) ?_
          exact B98 _ _ _ _ _ _ hH hS (lv_sub hl [1, 4] rfl) hf
    · have hf := hg.1 c31
      refine lv_iload_n hx hb dL_due_46 rfl (lv_at hl 2 rfl) ?_
      refine lv_aload_n hx hb dL_due_47 rfl (lv_at hl 3 rfl) ?_
      refine lv_aload hx hb dL_due_48 (lv_at hl 4 rfl) ?_
      refine lv_aload hx hb dL_due_50 (lv_at hl 5 rfl) ?_
      refine lv_aload hx hb dL_due_52 (lv_at hl 6 rfl) ?_
      refine lv_aload hx hb dL_due_54 (lv_at hl 7 rfl) ?_
      refine lv_aload hx hb dL_due_56 (lv_at hl 8 rfl) ?_
      refine lv_aload hx hb dL_due_58 (lv_at hl 9 rfl) ?_
      refine lv_aload hx hb dL_due_60 (lv_at hl 10 rfl) ?_
      obtain ⟨r71, h72, hf⟩ := gbind hf
      refine g_Si (As := [.int p2, .ref (w.2.2.2 + 0), .ref (w.2.2.2 + 1), .ref (w.2.2.2 + 2), .ref (w.2.2.2 + 3), .ref (w.2.2.2 + 4), .ref (w.2.2.2 + 5), .ref (w.2.2.2 + 6), .ref (w.2.2.2 + 7)]) (rest := []) ⟨hx, hb, hml, hown, hts⟩ (c9_weaves l w K g S p2 r71 h72) (gcwS hts i9_weaves wd_474 rfl rfl ⟨Nat.le_of_ble_eq_true rfl, Nat.le_of_ble_eq_true rfl⟩) hH hK hS hl.1 rfl rfl (Nat.le_of_ble_eq_true rfl) dL_due_62 ⟨Nat.le_refl _, Nat.le_refl _⟩ (fun H locs hH hS => ?_)
      have ho := Option.some.inj hf
      exact W.iret (v := r71.2) hx hb hr (fun t ht hW => ⟨⟨r71.2, (), rfl, congrArg (fun q => q.2) ho, (by subst ho; exact hrE ht hH)⟩, hS.F ht⟩) hS.2.2 dL_due_65
  · have hf := hg.1 c30
    refine lv_aload hx hb dL_due_5 (lv_at hl 6 rfl) ?_
    refine lv_iload_n hx hb dL_due_7 rfl (lv_at hl 1 rfl) ?_
    obtain ⟨h74, hf⟩ := gd_some hf
    refine m_iald hx hb hK hH 3 (by decide) rfl h74 dL_due_8 ?_
    have hg := gif hf
    refine lv_if_ne (tgt := 15) hx hb dL_due_9 (by decide) (fun c75 => ?_) (fun c75 => ?_)
    · have hf := hg.2 c75
      refine lv_aload_n hx hb dL_due_15 rfl (lv_at hl 3 rfl) ?_
      refine lv_iconst (v := 3) hx hb dL_due_16 (by decide) ?_
      obtain ⟨h77, hf⟩ := gd_some hf
      refine m_iald hx hb hK hH 0 (by decide) rfl h77 dL_due_17 ?_
      refine lv_topi (fun v78 ev78 => ?_)
      have hf := gl_at hf ev78
      refine lv_istore (lv' := [(11, .int v78), (0, .int p0), (1, .int p1), (2, .int p2), (3, .ref (w.2.2.2 + 0)), (4, .ref (w.2.2.2 + 1)), (5, .ref (w.2.2.2 + 2)), (6, .ref (w.2.2.2 + 3)), (7, .ref (w.2.2.2 + 4)), (8, .ref (w.2.2.2 + 5)), (9, .ref (w.2.2.2 + 6)), (10, .ref (w.2.2.2 + 7))]) hx hb dL_due_18 hl (by decide) rfl (fun ls hl => ?_)
      refine lv_aload_n hx hb dL_due_20 rfl (lv_at hl 4 rfl) ?_
      refine lv_iconst (v := 3) hx hb dL_due_21 (by decide) ?_
      refine lv_iconst (v := 0) hx hb dL_due_22 (by decide) ?_
      refine m_iast hx hb hK hH hS 0 (by decide) rfl h77 dL_due_23 (fun H locs hH hS => ?_)
      obtain ⟨S80, eS80⟩ : ∃ z : GS, z = ssI S 0 (3 : Int32).toNatClampNeg 0 := ⟨_, rfl⟩
      have hf := gl_at hf eS80
      replace hH : HR w K g S80 H := by rw [eS80]; exact hH
      refine lv_iload_n hx hb dL_due_24 rfl (lv_at hl 2 rfl) ?_
      refine lv_iconst (v := 0) hx hb dL_due_25 (by decide) ?_
      refine lv_aload_n hx hb dL_due_26 rfl (lv_at hl 4 rfl) ?_
      refine lv_aload hx hb dL_due_27 (lv_at hl 6 rfl) ?_
      refine lv_aload hx hb dL_due_29 (lv_at hl 7 rfl) ?_
      refine lv_aload hx hb dL_due_31 (lv_at hl 8 rfl) ?_
      refine lv_aload hx hb dL_due_33 (lv_at hl 10 rfl) ?_
      obtain ⟨S81, h82, hf⟩ := gbind hf
      refine g_Sv (As := [.int p1, .int 0, .ref (w.2.2.2 + 0), .ref (w.2.2.2 + 2), .ref (w.2.2.2 + 3), .ref (w.2.2.2 + 4), .ref (w.2.2.2 + 6)]) (rest := []) ⟨hx, hb, hml, hown, hts⟩ (c9_lays l w K g S80 p1 0 S81 h82) (gcwS hts i9_lays wd_471 rfl rfl ⟨Nat.le_of_ble_eq_true rfl, Nat.le_of_ble_eq_true rfl⟩) hH hK hS hl.1 rfl rfl (Nat.le_of_ble_eq_true rfl) dL_due_35 ⟨Nat.le_refl _, Nat.le_refl _⟩ (fun H locs hH hS => ?_)
      refine lv_iload hx hb dL_due_38 (lv_at hl 0 rfl) ?_
      have ho := Option.some.inj hf
      exact W.iret (v := v78) hx hb hr (fun t ht hW => ⟨⟨v78, (), rfl, congrArg (fun q => q.2) ho, (by subst ho; exact hrE ht hH)⟩, hS.F ht⟩) hS.2.2 dL_due_40
    · have hf := hg.1 c75
      refine lv_bipush (v := (-5)) hx hb dL_due_12 (by decide) ?_
      have ho := Option.some.inj hf
      exact W.iret (v := (-5)) hx hb hr (fun t ht hW => ⟨⟨(-5), (), rfl, congrArg (fun q => q.2) ho, (by subst ho; exact hrE ht hH)⟩, hS.F ht⟩) hS.2.2 dL_due_14
set_option maxRecDepth 100000 in
set_option maxHeartbeats 8000000 in
theorem c9_steps (l : Launch) (w : GW) (K : GK) (g : GM) (S : GS) (p0 : Int32) (out : Int32) (hf : f9_steps S p0 = some out) : Met l yL_steps (wA yL_steps cL_steps 5 (some .int)) ({ frames := 1, cells := 0, slots := 0, locals := 22 } : Room) (PRE w K g S [.int p0, .ref (w.2.2.2 + 2), .ref (w.2.2.2 + 3)]) (QI w K g S out) 0 0 (FR w) := by
  unfold f9_steps at hf
  refine Met.ofW (cc := cL_steps) (maxL := 5) (ret := (some .int)) (by decide) rfl ?_
  intro p e s m args below meth c s₁ B hml hv
  obtain ⟨rfl, hH, hK⟩ := hv
  have hx := B.exec
  have hb := B.bytes
  have hr := B.returns
  have hts : ∀ q ∈ gALL, q.before _ s = true := fun q h => atoms_spec (ws := (wA yL_steps cL_steps 5 (some .int))) B.pre q (List.mem_cons_of_mem _ h)
  have hown : s.vm.findClass RL = some m.cls := findClass_of_methodNamed B.named
  have hlocks := B.notSynchronized
  have hS : va_S (FR w) s.heap s.heap [] := va_S.rf
  show W p l e ({ frames := 1, cells := 0, slots := 0, locals := 22 } : Room) s m _ below meth c s.heap [] 0 0 (MQ below (QI w K g S out) _ s 0 0 (FR w)) _
  have hl := lv_entry ([.int p0, .ref (w.2.2.2 + 2), .ref (w.2.2.2 + 3)]) (n := 5) (Nat.le_of_ble_eq_true rfl)
  rw [lg_entry_eq]
  generalize (lg_sl ([.int p0, .ref (w.2.2.2 + 2), .ref (w.2.2.2 + 3)]) ++ List.replicate (5 - (lg_sl ([.int p0, .ref (w.2.2.2 + 2), .ref (w.2.2.2 + 3)])).length) Slot.unset).toArray = ls at hl ⊢
  clear B
  generalize ([.int p0, .ref (w.2.2.2 + 2), .ref (w.2.2.2 + 3)] : List Value).toArray = args at hts ⊢
  have B31 : ∀ (k5 : Int32 → Int32 → Option (Int32)), (∀ (x3 : Int32) (x4 : Int32) (H : Heap) (locs : List Loc) (ls : Array Slot), HR w K g S H → va_S (FR w) s.heap H locs → lv_has ls 5 [(0, .int p0), (1, .ref (w.2.2.2 + 2)), (2, .ref (w.2.2.2 + 3)), (3, .int x3), (4, .int x4)] → k5 x3 x4 = some out → W p l e ({ frames := 1, cells := 0, slots := 0, locals := 22 } : Room) s m args below meth c H locs 0 0 (MQ below (QI w K g S out) args s 0 0 (FR w)) (F0 m 5 ls [])) → ∀ (x4 : Int32) (s0 : Int32) (s1 : Int32) (H : Heap) (locs : List Loc) (ls : Array Slot), HR w K g S H → va_S (FR w) s.heap H locs → lv_has ls 5 [(0, .int p0), (1, .ref (w.2.2.2 + 2)), (2, .ref (w.2.2.2 + 3)), (4, .int x4)] → f9_steps_31 k5 S p0 x4 s0 s1 = some out → W p l e ({ frames := 1, cells := 0, slots := 0, locals := 22 } : Room) s m args below meth c H locs 0 0 (MQ below (QI w K g S out) args s 0 0 (FR w)) (F0 m 31 ls [.int s1, .int s0]) := by
    intro k5 hk5 x4 s0 s1 H locs ls hH hS hl hf
    unfold f9_steps_31 at hf
    refine lv_iadd hx hb dL_steps_31 ?_
    refine lv_topi (fun v1 ev1 => ?_)
    have hf := gl_at hf ev1
    refine lv_istore_n (lv' := [(3, .int v1), (0, .int p0), (1, .ref (w.2.2.2 + 2)), (2, .ref (w.2.2.2 + 3)), (4, .int x4)]) hx hb dL_steps_32 rfl hl (by decide) rfl (fun ls hl => ?_)
    obtain ⟨v2, ev2⟩ : ∃ z : Int32, z = x4 + 1 := ⟨_, rfl⟩
    have hf := gl_at hf ev2
    refine lv_iinc (v := v2) (lv' := [(4, .int v2), (3, .int v1), (0, .int p0), (1, .ref (w.2.2.2 + 2)), (2, .ref (w.2.2.2 + 3))]) hx hb dL_steps_33 hl (k := 4) rfl (by rw [ev2]; rfl) (by decide) rfl (fun ls hl => ?_)
    refine lv_goto (tgt := 5) hx hb dL_steps_36 (by decide) ?_
    exact hk5 _ _ _ _ _ hH hS (lv_sub hl [2, 3, 4, 1, 0] rfl) hf
  have B5 : ∀ n : Nat, ∀ (x3 : Int32) (x4 : Int32) (H : Heap) (locs : List Loc) (ls : Array Slot), HR w K g S H → va_S (FR w) s.heap H locs → lv_has ls 5 [(0, .int p0), (1, .ref (w.2.2.2 + 2)), (2, .ref (w.2.2.2 + 3)), (3, .int x3), (4, .int x4)] → f9_steps_5 S p0 n x3 x4 = some out → W p l e ({ frames := 1, cells := 0, slots := 0, locals := 22 } : Room) s m args below meth c H locs 0 0 (MQ below (QI w K g S out) args s 0 0 (FR w)) (F0 m 5 ls []) := by
    intro n
    induction n with
    | zero =>
      intro x3 x4 H locs ls hH hS hl hf
      cases hf
    | succ n ih =>
      intro x3 x4 H locs ls hH hS hl hf
      rw [f9_steps_5] at hf
      refine lv_iload hx hb dL_steps_5 (lv_at hl 4 rfl) ?_
      refine lv_aload_n hx hb dL_steps_7 rfl (lv_at hl 2 rfl) ?_
      refine lv_iload_n hx hb dL_steps_8 rfl (lv_at hl 0 rfl) ?_
      obtain ⟨h4, hf⟩ := gd_some hf
      refine m_iald hx hb hK hH 3 (by decide) rfl h4 dL_steps_9 ?_
      have hg := gif hf
      refine lv_icmp_ge (tgt := 39) hx hb dL_steps_10 (by decide) (fun c5 => ?_) (fun c5 => ?_)
      · have hf := hg.1 c5
        refine lv_iload_n hx hb dL_steps_39 rfl (lv_at hl 3 rfl) ?_
        have ho := Option.some.inj hf
        exact W.iret (v := x3) hx hb hr (fun t ht hW => ⟨⟨x3, (), rfl, congrArg (fun q => q) ho, (hrE ht hH)⟩, hS.F ht⟩) hS.2.2 dL_steps_40
      · have hf := hg.2 c5
        refine lv_iload_n hx hb dL_steps_13 rfl (lv_at hl 3 rfl) ?_
        refine lv_aload_n hx hb dL_steps_14 rfl (lv_at hl 1 rfl) ?_
        refine lv_iload_n hx hb dL_steps_15 rfl (lv_at hl 0 rfl) ?_
        refine lv_iload hx hb dL_steps_16 (lv_at hl 4 rfl) ?_
        obtain ⟨v6, h7, hf⟩ := gbind hf
        refine g_Si (As := [.ref (w.2.2.2 + 2), .int p0, .int x4]) (rest := [.int x3]) ⟨hx, hb, hml, hown, hts⟩ (c9_at2 l w K g S p0 x4 v6 h7) (gcwS hts i9_at wd_324 rfl rfl ⟨Nat.le_of_ble_eq_true rfl, Nat.le_of_ble_eq_true rfl⟩) hH hK hS hl.1 rfl rfl (Nat.le_of_ble_eq_true rfl) dL_steps_18 ⟨Nat.le_refl _, Nat.le_refl _⟩ (fun H locs hH hS => ?_)
        refine lv_bipush (v := 97) hx hb dL_steps_21 (by decide) ?_
        have hg := gif hf
        refine lv_icmp_lt (tgt := 30) hx hb dL_steps_23 (by decide) (fun c8 => ?_) (fun c8 => ?_)
        · have hf := hg.1 c8
          refine lv_iconst (v := 0) hx hb dL_steps_30 (by decide) ?_
          exact B31 _ (ih) _ _ _ _ _ _ hH hS (lv_sub hl [0, 1, 2, 4] rfl) hf
        · have hf := hg.2 c8
          refine lv_iconst (v := 1) hx hb dL_steps_26 (by decide) ?_
          refine lv_goto (tgt := 31) hx hb dL_steps_27 (by decide) ?_
          exact B31 _ (ih) _ _ _ _ _ _ hH hS (lv_sub hl [0, 1, 2, 4] rfl) hf
  have hl : lv_has ls 5 [(0, .int p0), (1, .ref (w.2.2.2 + 2)), (2, .ref (w.2.2.2 + 3))] := hl
  refine lv_iconst (v := 0) hx hb dL_steps_0 (by decide) ?_
  refine lv_istore_n (lv' := [(3, .int 0), (0, .int p0), (1, .ref (w.2.2.2 + 2)), (2, .ref (w.2.2.2 + 3))]) hx hb dL_steps_1 rfl hl (by decide) rfl (fun ls hl => ?_)
  refine lv_iconst (v := 0) hx hb dL_steps_2 (by decide) ?_
  refine lv_istore (lv' := [(4, .int 0), (3, .int 0), (0, .int p0), (1, .ref (w.2.2.2 + 2)), (2, .ref (w.2.2.2 + 3))]) hx hb dL_steps_3 hl (by decide) rfl (fun ls hl => ?_)
  exact B5 _ _ _ _ _ _ hH hS (lv_sub hl [2, 3, 4, 1, 0] rfl) hf
set_option maxRecDepth 100000 in
set_option maxHeartbeats 8000000 in
theorem c9_isCard (l : Launch) (w : GW) (K : GK) (g : GM) (S : GS) (p0 : Nat) (p1 : Int32) (out : Int32) (hf : f9_isCard K g S p0 p1 = some out) : Met l yL_isCard (wA yL_isCard cL_isCard 10 (some .boolean)) ({ frames := 3, cells := 0, slots := 0, locals := 70 } : Room) (PRE w K g S [.ref p0, .int p1, .ref (w.2.2.2 + 0), .ref (w.2.2.2 + 2), .ref (w.2.2.2 + 3), .ref (w.2.2.2 + 4)]) (QI w K g S out) 0 0 (FR w) := by
  unfold f9_isCard at hf
  refine Met.ofW (cc := cL_isCard) (maxL := 10) (ret := (some .boolean)) (by decide) rfl ?_
  intro p e s m args below meth c s₁ B hml hv
  obtain ⟨rfl, hH, hK⟩ := hv
  have hx := B.exec
  have hb := B.bytes
  have hr := B.returns
  have hts : ∀ q ∈ gALL, q.before _ s = true := fun q h => atoms_spec (ws := (wA yL_isCard cL_isCard 10 (some .boolean))) B.pre q (List.mem_cons_of_mem _ h)
  have hown : s.vm.findClass RL = some m.cls := findClass_of_methodNamed B.named
  have hlocks := B.notSynchronized
  have hS : va_S (FR w) s.heap s.heap [] := va_S.rf
  show W p l e ({ frames := 3, cells := 0, slots := 0, locals := 70 } : Room) s m _ below meth c s.heap [] 0 0 (MQ below (QI w K g S out) _ s 0 0 (FR w)) _
  have hl := lv_entry ([.ref p0, .int p1, .ref (w.2.2.2 + 0), .ref (w.2.2.2 + 2), .ref (w.2.2.2 + 3), .ref (w.2.2.2 + 4)]) (n := 10) (Nat.le_of_ble_eq_true rfl)
  rw [lg_entry_eq]
  generalize (lg_sl ([.ref p0, .int p1, .ref (w.2.2.2 + 0), .ref (w.2.2.2 + 2), .ref (w.2.2.2 + 3), .ref (w.2.2.2 + 4)]) ++ List.replicate (10 - (lg_sl ([.ref p0, .int p1, .ref (w.2.2.2 + 0), .ref (w.2.2.2 + 2), .ref (w.2.2.2 + 3), .ref (w.2.2.2 + 4)])).length) Slot.unset).toArray = ls at hl ⊢
  clear B
  generalize ([.ref p0, .int p1, .ref (w.2.2.2 + 0), .ref (w.2.2.2 + 2), .ref (w.2.2.2 + 3), .ref (w.2.2.2 + 4)] : List Value).toArray = args at hts ⊢
  have B223 : ∀ (H : Heap) (locs : List Loc) (ls : Array Slot), HR w K g S H → va_S (FR w) s.heap H locs → lv_has ls 10 [] → f9_isCard_223 K g S p0 p1 = some out → W p l e ({ frames := 3, cells := 0, slots := 0, locals := 70 } : Room) s m args below meth c H locs 0 0 (MQ below (QI w K g S out) args s 0 0 (FR w)) (F0 m 223 ls []) := by
    intro   H locs ls hH hS hl hf
    unfold f9_isCard_223 at hf
    refine lv_iconst (v := 0) hx hb dL_isCard_223 (by decide) ?_
    have ho := Option.some.inj hf
    exact W.zret (v := 0) (ty := .boolean) hx hb hr rfl (fun t ht hW => ⟨⟨0, (), rfl, congrArg (fun q => q) ho, (hrE ht hH)⟩, hS.F ht⟩) hS.2.2 dL_isCard_224
  have B112 : ∀ (k51 : Int32 → Int32 → Int32 → Int32 → Option (Int32)), (∀ (x6 : Int32) (x7 : Int32) (x8 : Int32) (x9 : Int32) (H : Heap) (locs : List Loc) (ls : Array Slot), HR w K g S H → va_S (FR w) s.heap H locs → lv_has ls 10 [(0, .ref p0), (1, .int p1), (3, .ref (w.2.2.2 + 2)), (4, .ref (w.2.2.2 + 3)), (6, .int x6), (7, .int x7), (8, .int x8), (9, .int x9)] → k51 x6 x7 x8 x9 = some out → W p l e ({ frames := 3, cells := 0, slots := 0, locals := 70 } : Room) s m args below meth c H locs 0 0 (MQ below (QI w K g S out) args s 0 0 (FR w)) (F0 m 51 ls [])) → ∀ (x6 : Int32) (x7 : Int32) (x9 : Int32) (s0 : Int32) (H : Heap) (locs : List Loc) (ls : Array Slot), HR w K g S H → va_S (FR w) s.heap H locs → lv_has ls 10 [(0, .ref p0), (1, .int p1), (3, .ref (w.2.2.2 + 2)), (4, .ref (w.2.2.2 + 3)), (6, .int x6), (7, .int x7), (9, .int x9)] → f9_isCard_112 k51 K g S p0 p1 x6 x7 x9 s0 = some out → W p l e ({ frames := 3, cells := 0, slots := 0, locals := 70 } : Room) s m args below meth c H locs 0 0 (MQ below (QI w K g S out) args s 0 0 (FR w)) (F0 m 112 ls [.int s0]) := by
    intro k51 hk51 x6 x7 x9 s0 H locs ls hH hS hl hf
    unfold f9_isCard_112 at hf
    refine lv_istore (lv' := [(8, .int s0), (0, .ref p0), (1, .int p1), (3, .ref (w.2.2.2 + 2)), (4, .ref (w.2.2.2 + 3)), (6, .int x6), (7, .int x7), (9, .int x9)]) hx hb dL_isCard_112 hl (by decide) rfl (fun ls hl => ?_)
    obtain ⟨v1, ev1⟩ : ∃ z : Int32, z = x9 + 1 := ⟨_, rfl⟩
    have hf := gl_at hf ev1
    refine lv_iinc (v := v1) (lv' := [(9, .int v1), (8, .int s0), (0, .ref p0), (1, .int p1), (3, .ref (w.2.2.2 + 2)), (4, .ref (w.2.2.2 + 3)), (6, .int x6), (7, .int x7)]) hx hb dL_isCard_114 hl (k := 7) rfl (by rw [ev1]; rfl) (by decide) rfl (fun ls hl => ?_)
    refine lv_goto (tgt := 51) hx hb dL_isCard_117 (by decide) ?_
    exact hk51 _ _ _ _ _ _ _ hH hS (lv_sub hl [2, 3, 4, 5, 6, 7, 1, 0] rfl) hf
  have B95 : ∀ (k51 : Int32 → Int32 → Int32 → Int32 → Option (Int32)), (∀ (x6 : Int32) (x7 : Int32) (x8 : Int32) (x9 : Int32) (H : Heap) (locs : List Loc) (ls : Array Slot), HR w K g S H → va_S (FR w) s.heap H locs → lv_has ls 10 [(0, .ref p0), (1, .int p1), (3, .ref (w.2.2.2 + 2)), (4, .ref (w.2.2.2 + 3)), (6, .int x6), (7, .int x7), (8, .int x8), (9, .int x9)] → k51 x6 x7 x8 x9 = some out → W p l e ({ frames := 3, cells := 0, slots := 0, locals := 70 } : Room) s m args below meth c H locs 0 0 (MQ below (QI w K g S out) args s 0 0 (FR w)) (F0 m 51 ls [])) → ∀ (x6 : Int32) (x8 : Int32) (x9 : Int32) (s0 : Int32) (s1 : Int32) (H : Heap) (locs : List Loc) (ls : Array Slot), HR w K g S H → va_S (FR w) s.heap H locs → lv_has ls 10 [(0, .ref p0), (1, .int p1), (3, .ref (w.2.2.2 + 2)), (4, .ref (w.2.2.2 + 3)), (6, .int x6), (8, .int x8), (9, .int x9)] → f9_isCard_95 k51 K g S p0 p1 x6 x8 x9 s0 s1 = some out → W p l e ({ frames := 3, cells := 0, slots := 0, locals := 70 } : Room) s m args below meth c H locs 0 0 (MQ below (QI w K g S out) args s 0 0 (FR w)) (F0 m 95 ls [.int s1, .int s0]) := by
    intro k51 hk51 x6 x8 x9 s0 s1 H locs ls hH hS hl hf
    unfold f9_isCard_95 at hf
    refine lv_iadd hx hb dL_isCard_95 ?_
    refine lv_topi (fun v2 ev2 => ?_)
    have hf := gl_at hf ev2
    refine lv_istore (lv' := [(7, .int v2), (0, .ref p0), (1, .int p1), (3, .ref (w.2.2.2 + 2)), (4, .ref (w.2.2.2 + 3)), (6, .int x6), (8, .int x8), (9, .int x9)]) hx hb dL_isCard_96 hl (by decide) rfl (fun ls hl => ?_)
    refine lv_iload hx hb dL_isCard_98 (lv_at hl 0 rfl) ?_
    refine lv_iload hx hb dL_isCard_100 (lv_at hl 6 rfl) ?_
    have hg := gif hf
    refine lv_icmp_le (tgt := 110) hx hb dL_isCard_102 (by decide) (fun c3 => ?_) (fun c3 => ?_)
    · have hf := hg.1 c3
      refine lv_iload hx hb dL_isCard_110 (lv_at hl 6 rfl) ?_
      exact B112 _ (hk51) _ _ _ _ _ _ _ hH hS (lv_sub hl [1, 2, 3, 4, 5, 0, 7] rfl) hf
    · have hf := hg.2 c3
      refine lv_iload hx hb dL_isCard_105 (lv_at hl 0 rfl) ?_
      refine lv_goto (tgt := 112) hx hb dL_isCard_107 (by decide) ?_
      exact B112 _ (hk51) _ _ _ _ _ _ _ hH hS (lv_sub hl [1, 2, 3, 4, 5, 0, 7] rfl) hf
  have B51 : ∀ n : Nat, ∀ (x6 : Int32) (x7 : Int32) (x8 : Int32) (x9 : Int32) (H : Heap) (locs : List Loc) (ls : Array Slot), HR w K g S H → va_S (FR w) s.heap H locs → lv_has ls 10 [(0, .ref p0), (1, .int p1), (3, .ref (w.2.2.2 + 2)), (4, .ref (w.2.2.2 + 3)), (6, .int x6), (7, .int x7), (8, .int x8), (9, .int x9)] → f9_isCard_51 K g S p0 p1 n x6 x7 x8 x9 = some out → W p l e ({ frames := 3, cells := 0, slots := 0, locals := 70 } : Room) s m args below meth c H locs 0 0 (MQ below (QI w K g S out) args s 0 0 (FR w)) (F0 m 51 ls []) := by
    intro n
    induction n with
    | zero =>
      intro x6 x7 x8 x9 H locs ls hH hS hl hf
      cases hf
    | succ n ih =>
      intro x6 x7 x8 x9 H locs ls hH hS hl hf
      rw [f9_isCard_51] at hf
      refine lv_iload hx hb dL_isCard_51 (lv_at hl 7 rfl) ?_
      refine lv_aload hx hb dL_isCard_53 (lv_at hl 3 rfl) ?_
      refine lv_iload_n hx hb dL_isCard_55 rfl (lv_at hl 1 rfl) ?_
      obtain ⟨h5, hf⟩ := gd_some hf
      refine m_iald hx hb hK hH 3 (by decide) rfl h5 dL_isCard_56 ?_
      have hg := gif hf
      refine lv_icmp_ge (tgt := 120) hx hb dL_isCard_57 (by decide) (fun c6 => ?_) (fun c6 => ?_)
      · have hf := hg.1 c6
        refine lv_aload_n hx hb dL_isCard_120 rfl (lv_at hl 0 rfl) ?_
        refine lv_iload_n hx hb dL_isCard_121 rfl (lv_at hl 1 rfl) ?_
        refine lv_iconst (v := 0) hx hb dL_isCard_122 (by decide) ?_
        obtain ⟨k7, hf⟩ := gd_some hf
        have k7 := gk_obj k7
        obtain ⟨v8, h9, hf⟩ := gbind hf
        refine g_Vi (As := [.int p1, .int 0]) (rest := []) ⟨hx, hb, hml, hown, hts⟩ (c7_of l w K g S p0 p1 0 v8 h9 k7) (gcwV hts i7_of wd_167 rfl rfl ⟨Nat.le_of_ble_eq_true rfl, Nat.le_of_ble_eq_true rfl⟩) (gRecv.of hK rfl (hH.o8 k7)) hH hK hS hl.1 rfl rfl (Nat.le_of_ble_eq_true rfl) dL_isCard_123 ⟨Nat.le_refl _, Nat.le_refl _⟩ (fun H locs hH hS => ?_)
        refine lv_aload hx hb dL_isCard_126 (lv_at hl 3 rfl) ?_
        refine lv_iload_n hx hb dL_isCard_128 rfl (lv_at hl 1 rfl) ?_
        refine m_iald hx hb hK hH 3 (by decide) rfl h5 dL_isCard_129 ?_
        have hg := gif hf
        refine lv_icmp_ne (tgt := 223) hx hb dL_isCard_130 (by decide) (fun c11 => ?_) (fun c11 => ?_)
        · have hf := hg.2 c11
          exact B223 _ _ _ hH hS (lv_sub hl [] rfl) hf
        · have hf := hg.1 c11
          refine lv_aload_n hx hb dL_isCard_133 rfl (lv_at hl 0 rfl) ?_
          refine lv_iload_n hx hb dL_isCard_134 rfl (lv_at hl 1 rfl) ?_
          refine lv_iconst (v := 1) hx hb dL_isCard_135 (by decide) ?_
          obtain ⟨v12, h13, hf⟩ := gbind hf
          refine g_Vi (As := [.int p1, .int 1]) (rest := []) ⟨hx, hb, hml, hown, hts⟩ (c7_of l w K g S p0 p1 1 v12 h13 k7) (gcwV hts i7_of wd_167 rfl rfl ⟨Nat.le_of_ble_eq_true rfl, Nat.le_of_ble_eq_true rfl⟩) (gRecv.of hK rfl (hH.o8 k7)) hH hK hS hl.1 rfl rfl (Nat.le_of_ble_eq_true rfl) dL_isCard_136 ⟨Nat.le_refl _, Nat.le_refl _⟩ (fun H locs hH hS => ?_)
          refine lv_iload_n hx hb dL_isCard_139 rfl (lv_at hl 1 rfl) ?_
          refine lv_aload_n hx hb dL_isCard_140 rfl (lv_at hl 2 rfl) ?_
          refine lv_aload hx hb dL_isCard_141 (lv_at hl 3 rfl) ?_
          obtain ⟨v14, h15, hf⟩ := gbind hf
          refine g_Si (As := [.int p1, .ref (w.2.2.2 + 2), .ref (w.2.2.2 + 3)]) (rest := [.int v12]) ⟨hx, hb, hml, hown, hts⟩ (c9_steps l w K g S p1 v14 h15) (gcwS hts i9_steps wd_321 rfl rfl ⟨Nat.le_of_ble_eq_true rfl, Nat.le_of_ble_eq_true rfl⟩) hH hK hS hl.1 rfl rfl (Nat.le_of_ble_eq_true rfl) dL_isCard_143 ⟨Nat.le_refl _, Nat.le_refl _⟩ (fun H locs hH hS => ?_)
          have hg := gif hf
          refine lv_icmp_ne (tgt := 223) hx hb dL_isCard_146 (by decide) (fun c16 => ?_) (fun c16 => ?_)
          · have hf := hg.2 c16
            exact B223 _ _ _ hH hS (lv_sub hl [] rfl) hf
          · have hf := hg.1 c16
            refine lv_aload_n hx hb dL_isCard_149 rfl (lv_at hl 0 rfl) ?_
            refine lv_iload_n hx hb dL_isCard_150 rfl (lv_at hl 1 rfl) ?_
            refine lv_iconst (v := 2) hx hb dL_isCard_151 (by decide) ?_
            obtain ⟨v17, h18, hf⟩ := gbind hf
            refine g_Vi (As := [.int p1, .int 2]) (rest := []) ⟨hx, hb, hml, hown, hts⟩ (c7_of l w K g S p0 p1 2 v17 h18 k7) (gcwV hts i7_of wd_167 rfl rfl ⟨Nat.le_of_ble_eq_true rfl, Nat.le_of_ble_eq_true rfl⟩) (gRecv.of hK rfl (hH.o8 k7)) hH hK hS hl.1 rfl rfl (Nat.le_of_ble_eq_true rfl) dL_isCard_152 ⟨Nat.le_refl _, Nat.le_refl _⟩ (fun H locs hH hS => ?_)
            refine lv_iload_n hx hb dL_isCard_155 rfl (lv_at hl 1 rfl) ?_
            refine lv_aload_n hx hb dL_isCard_156 rfl (lv_at hl 2 rfl) ?_
            refine lv_aload hx hb dL_isCard_157 (lv_at hl 3 rfl) ?_
            obtain ⟨v19, h20, hf⟩ := gbind hf
            refine g_Si (As := [.int p1, .ref (w.2.2.2 + 2), .ref (w.2.2.2 + 3)]) (rest := [.int v17]) ⟨hx, hb, hml, hown, hts⟩ (c9_calls l w K g S p1 v19 h20) (gcwS hts i9_calls wd_501 rfl rfl ⟨Nat.le_of_ble_eq_true rfl, Nat.le_of_ble_eq_true rfl⟩) hH hK hS hl.1 rfl rfl (Nat.le_of_ble_eq_true rfl) dL_isCard_159 ⟨Nat.le_refl _, Nat.le_refl _⟩ (fun H locs hH hS => ?_)
            have hg := gif hf
            refine lv_icmp_ne (tgt := 223) hx hb dL_isCard_162 (by decide) (fun c21 => ?_) (fun c21 => ?_)
            · have hf := hg.2 c21
              exact B223 _ _ _ hH hS (lv_sub hl [] rfl) hf
            · have hf := hg.1 c21
              refine lv_aload_n hx hb dL_isCard_165 rfl (lv_at hl 0 rfl) ?_
              refine lv_iload_n hx hb dL_isCard_166 rfl (lv_at hl 1 rfl) ?_
              refine lv_iconst (v := 3) hx hb dL_isCard_167 (by decide) ?_
              obtain ⟨v22, h23, hf⟩ := gbind hf
              refine g_Vi (As := [.int p1, .int 3]) (rest := []) ⟨hx, hb, hml, hown, hts⟩ (c7_of l w K g S p0 p1 3 v22 h23 k7) (gcwV hts i7_of wd_167 rfl rfl ⟨Nat.le_of_ble_eq_true rfl, Nat.le_of_ble_eq_true rfl⟩) (gRecv.of hK rfl (hH.o8 k7)) hH hK hS hl.1 rfl rfl (Nat.le_of_ble_eq_true rfl) dL_isCard_168 ⟨Nat.le_refl _, Nat.le_refl _⟩ (fun H locs hH hS => ?_)
              refine lv_iload_n hx hb dL_isCard_171 rfl (lv_at hl 1 rfl) ?_
              refine lv_aload_n hx hb dL_isCard_172 rfl (lv_at hl 2 rfl) ?_
              refine lv_aload hx hb dL_isCard_173 (lv_at hl 3 rfl) ?_
              obtain ⟨v24, h25, hf⟩ := gbind hf
              refine g_Si (As := [.int p1, .ref (w.2.2.2 + 2), .ref (w.2.2.2 + 3)]) (rest := [.int v22]) ⟨hx, hb, hml, hown, hts⟩ (c9_callers l w K g S p1 v24 h25) (gcwS hts i9_callers wd_498 rfl rfl ⟨Nat.le_of_ble_eq_true rfl, Nat.le_of_ble_eq_true rfl⟩) hH hK hS hl.1 rfl rfl (Nat.le_of_ble_eq_true rfl) dL_isCard_175 ⟨Nat.le_refl _, Nat.le_refl _⟩ (fun H locs hH hS => ?_)
              have hg := gif hf
              refine lv_icmp_ne (tgt := 223) hx hb dL_isCard_178 (by decide) (fun c26 => ?_) (fun c26 => ?_)
              · have hf := hg.2 c26
                exact B223 _ _ _ hH hS (lv_sub hl [] rfl) hf
              · have hf := hg.1 c26
                refine lv_aload_n hx hb dL_isCard_181 rfl (lv_at hl 0 rfl) ?_
                refine lv_iload_n hx hb dL_isCard_182 rfl (lv_at hl 1 rfl) ?_
                refine lv_iconst (v := 4) hx hb dL_isCard_183 (by decide) ?_
                obtain ⟨v27, h28, hf⟩ := gbind hf
                refine g_Vi (As := [.int p1, .int 4]) (rest := []) ⟨hx, hb, hml, hown, hts⟩ (c7_of l w K g S p0 p1 4 v27 h28 k7) (gcwV hts i7_of wd_167 rfl rfl ⟨Nat.le_of_ble_eq_true rfl, Nat.le_of_ble_eq_true rfl⟩) (gRecv.of hK rfl (hH.o8 k7)) hH hK hS hl.1 rfl rfl (Nat.le_of_ble_eq_true rfl) dL_isCard_184 ⟨Nat.le_refl _, Nat.le_refl _⟩ (fun H locs hH hS => ?_)
                refine lv_aload hx hb dL_isCard_187 (lv_at hl 3 rfl) ?_
                refine lv_iconst (v := 5) hx hb dL_isCard_189 (by decide) ?_
                refine lv_iload_n hx hb dL_isCard_190 rfl (lv_at hl 1 rfl) ?_
                refine lv_iadd hx hb dL_isCard_191 ?_
                obtain ⟨h30, hf⟩ := gd_some hf
                refine m_iald hx hb hK hH 3 (by decide) rfl h30 dL_isCard_192 ?_
                have hg := gif hf
                refine lv_icmp_ne (tgt := 223) hx hb dL_isCard_193 (by decide) (fun c31 => ?_) (fun c31 => ?_)
                · have hf := hg.2 c31
                  exact B223 _ _ _ hH hS (lv_sub hl [] rfl) hf
                · have hf := hg.1 c31
                  refine lv_aload_n hx hb dL_isCard_196 rfl (lv_at hl 0 rfl) ?_
                  refine lv_iload_n hx hb dL_isCard_197 rfl (lv_at hl 1 rfl) ?_
                  refine lv_iconst (v := 5) hx hb dL_isCard_198 (by decide) ?_
                  obtain ⟨v32, h33, hf⟩ := gbind hf
                  refine g_Vi (As := [.int p1, .int 5]) (rest := []) ⟨hx, hb, hml, hown, hts⟩ (c7_of l w K g S p0 p1 5 v32 h33 k7) (gcwV hts i7_of wd_167 rfl rfl ⟨Nat.le_of_ble_eq_true rfl, Nat.le_of_ble_eq_true rfl⟩) (gRecv.of hK rfl (hH.o8 k7)) hH hK hS hl.1 rfl rfl (Nat.le_of_ble_eq_true rfl) dL_isCard_199 ⟨Nat.le_refl _, Nat.le_refl _⟩ (fun H locs hH hS => ?_)
                  refine lv_iload hx hb dL_isCard_202 (lv_at hl 4 rfl) ?_
                  have hg := gif hf
                  refine lv_icmp_ne (tgt := 223) hx hb dL_isCard_204 (by decide) (fun c34 => ?_) (fun c34 => ?_)
                  · have hf := hg.2 c34
                    exact B223 _ _ _ hH hS (lv_sub hl [] rfl) hf
                  · have hf := hg.1 c34
                    refine lv_aload_n hx hb dL_isCard_207 rfl (lv_at hl 0 rfl) ?_
                    refine lv_iload_n hx hb dL_isCard_208 rfl (lv_at hl 1 rfl) ?_
                    refine lv_bipush (v := 6) hx hb dL_isCard_209 (by decide) ?_
                    obtain ⟨v35, h36, hf⟩ := gbind hf
                    refine g_Vi (As := [.int p1, .int 6]) (rest := []) ⟨hx, hb, hml, hown, hts⟩ (c7_of l w K g S p0 p1 6 v35 h36 k7) (gcwV hts i7_of wd_167 rfl rfl ⟨Nat.le_of_ble_eq_true rfl, Nat.le_of_ble_eq_true rfl⟩) (gRecv.of hK rfl (hH.o8 k7)) hH hK hS hl.1 rfl rfl (Nat.le_of_ble_eq_true rfl) dL_isCard_211 ⟨Nat.le_refl _, Nat.le_refl _⟩ (fun H locs hH hS => ?_)
                    refine lv_iload hx hb dL_isCard_214 (lv_at hl 6 rfl) ?_
                    have hg := gif hf
                    refine lv_icmp_ne (tgt := 223) hx hb dL_isCard_216 (by decide) (fun c37 => ?_) (fun c37 => ?_)
                    · have hf := hg.2 c37
                      exact B223 _ _ _ hH hS (lv_sub hl [] rfl) hf
                    · have hf := hg.1 c37
                      refine lv_iconst (v := 1) hx hb dL_isCard_219 (by decide) ?_
                      refine lv_goto (tgt := 224) hx hb dL_isCard_220 (by decide) ?_
                      have ho := Option.some.inj hf
                      exact W.zret (v := 1) (ty := .boolean) hx hb hr rfl (fun t ht hW => ⟨⟨1, (), rfl, congrArg (fun q => q) ho, (hrE ht hH)⟩, hS.F ht⟩) hS.2.2 dL_isCard_224
      · have hf := hg.2 c6
        refine lv_iload hx hb dL_isCard_60 (lv_at hl 5 rfl) ?_
        refine lv_aload_n hx hb dL_isCard_62 rfl (lv_at hl 2 rfl) ?_
        refine lv_iload_n hx hb dL_isCard_63 rfl (lv_at hl 1 rfl) ?_
        refine lv_iload hx hb dL_isCard_64 (lv_at hl 7 rfl) ?_
        obtain ⟨v38, h39, hf⟩ := gbind hf
        refine g_Si (As := [.ref (w.2.2.2 + 2), .int p1, .int x9]) (rest := [.int x7]) ⟨hx, hb, hml, hown, hts⟩ (c9_at2 l w K g S p1 x9 v38 h39) (gcwS hts i9_at wd_324 rfl rfl ⟨Nat.le_of_ble_eq_true rfl, Nat.le_of_ble_eq_true rfl⟩) hH hK hS hl.1 rfl rfl (Nat.le_of_ble_eq_true rfl) dL_isCard_66 ⟨Nat.le_refl _, Nat.le_refl _⟩ (fun H locs hH hS => ?_)
        refine lv_bipush (v := 40) hx hb dL_isCard_69 (by decide) ?_
        have hg := gif hf
        refine lv_icmp_ne (tgt := 78) hx hb dL_isCard_71 (by decide) (fun c40 => ?_) (fun c40 => ?_)
        · have hf := hg.2 c40
          refine lv_aload_n hx hb dL_isCard_78 rfl (lv_at hl 2 rfl) ?_
          refine lv_iload_n hx hb dL_isCard_79 rfl (lv_at hl 1 rfl) ?_
          refine lv_iload hx hb dL_isCard_80 (lv_at hl 7 rfl) ?_
          obtain ⟨v41, h42, hf⟩ := gbind hf
          refine g_Si (As := [.ref (w.2.2.2 + 2), .int p1, .int x9]) (rest := [.int x7]) ⟨hx, hb, hml, hown, hts⟩ (c9_at2 l w K g S p1 x9 v41 h42) (gcwS hts i9_at wd_324 rfl rfl ⟨Nat.le_of_ble_eq_true rfl, Nat.le_of_ble_eq_true rfl⟩) hH hK hS hl.1 rfl rfl (Nat.le_of_ble_eq_true rfl) dL_isCard_82 ⟨Nat.le_refl _, Nat.le_refl _⟩ (fun H locs hH hS => ?_)
          refine lv_bipush (v := 41) hx hb dL_isCard_85 (by decide) ?_
          have hg := gif hf
          refine lv_icmp_ne (tgt := 94) hx hb dL_isCard_87 (by decide) (fun c43 => ?_) (fun c43 => ?_)
          · have hf := hg.2 c43
            refine lv_iconst (v := 0) hx hb dL_isCard_94 (by decide) ?_
            exact B95 _ (ih) _ _ _ _ _ _ _ _ hH hS (lv_sub hl [0, 1, 2, 3, 4, 6, 7] rfl) hf
          · have hf := hg.1 c43
            refine lv_iconst (v := (-1)) hx hb dL_isCard_90 (by decide) ?_
            refine lv_goto (tgt := 95) hx hb dL_isCard_91 (by decide) ?_
            exact B95 _ (ih) _ _ _ _ _ _ _ _ hH hS (lv_sub hl [0, 1, 2, 3, 4, 6, 7] rfl) hf
        · have hf := hg.1 c40
          refine lv_iconst (v := 1) hx hb dL_isCard_74 (by decide) ?_
          refine lv_goto (tgt := 95) hx hb dL_isCard_75 (by decide) ?_
          exact B95 _ (ih) _ _ _ _ _ _ _ _ hH hS (lv_sub hl [0, 1, 2, 3, 4, 6, 7] rfl) hf
  have B39 : ∀ (k12 : Int32 → Int32 → Int32 → Int32 → Option (Int32)), (∀ (x6 : Int32) (x7 : Int32) (x8 : Int32) (x9 : Int32) (H : Heap) (locs : List Loc) (ls : Array Slot), HR w K g S H → va_S (FR w) s.heap H locs → lv_has ls 10 [(0, .ref p0), (1, .int p1), (2, .ref (w.2.2.2 + 0)), (3, .ref (w.2.2.2 + 2)), (4, .ref (w.2.2.2 + 3)), (5, .ref (w.2.2.2 + 4)), (6, .int x6), (7, .int x7), (8, .int x8), (9, .int x9)] → k12 x6 x7 x8 x9 = some out → W p l e ({ frames := 3, cells := 0, slots := 0, locals := 70 } : Room) s m args below meth c H locs 0 0 (MQ below (QI w K g S out) args s 0 0 (FR w)) (F0 m 12 ls [])) → ∀ (x7 : Int32) (x8 : Int32) (x9 : Int32) (s0 : Int32) (s1 : Int32) (H : Heap) (locs : List Loc) (ls : Array Slot), HR w K g S H → va_S (FR w) s.heap H locs → lv_has ls 10 [(0, .ref p0), (1, .int p1), (2, .ref (w.2.2.2 + 0)), (3, .ref (w.2.2.2 + 2)), (4, .ref (w.2.2.2 + 3)), (5, .ref (w.2.2.2 + 4)), (7, .int x7), (8, .int x8), (9, .int x9)] → f9_isCard_39 k12 K g S p0 p1 x7 x8 x9 s0 s1 = some out → W p l e ({ frames := 3, cells := 0, slots := 0, locals := 70 } : Room) s m args below meth c H locs 0 0 (MQ below (QI w K g S out) args s 0 0 (FR w)) (F0 m 39 ls [.int s1, .int s0]) := by
    intro k12 hk12 x7 x8 x9 s0 s1 H locs ls hH hS hl hf
    unfold f9_isCard_39 at hf
    refine lv_iadd hx hb dL_isCard_39 ?_
    refine lv_topi (fun v44 ev44 => ?_)
    have hf := gl_at hf ev44
    refine lv_istore (lv' := [(6, .int v44), (0, .ref p0), (1, .int p1), (2, .ref (w.2.2.2 + 0)), (3, .ref (w.2.2.2 + 2)), (4, .ref (w.2.2.2 + 3)), (5, .ref (w.2.2.2 + 4)), (7, .int x7), (8, .int x8), (9, .int x9)]) hx hb dL_isCard_40 hl (by decide) rfl (fun ls hl => ?_)
    obtain ⟨v45, ev45⟩ : ∃ z : Int32, z = x9 + 1 := ⟨_, rfl⟩
    have hf := gl_at hf ev45
    refine lv_iinc (v := v45) (lv' := [(9, .int v45), (6, .int v44), (0, .ref p0), (1, .int p1), (2, .ref (w.2.2.2 + 0)), (3, .ref (w.2.2.2 + 2)), (4, .ref (w.2.2.2 + 3)), (5, .ref (w.2.2.2 + 4)), (7, .int x7), (8, .int x8)]) hx hb dL_isCard_42 hl (k := 9) rfl (by rw [ev45]; rfl) (by decide) rfl (fun ls hl => ?_)
    refine lv_goto (tgt := 12) hx hb dL_isCard_45 (by decide) ?_
    exact hk12 _ _ _ _ _ _ _ hH hS (lv_sub hl [2, 3, 4, 5, 6, 7, 1, 8, 9, 0] rfl) hf
  have B12 : ∀ n : Nat, ∀ (x6 : Int32) (x7 : Int32) (x8 : Int32) (x9 : Int32) (H : Heap) (locs : List Loc) (ls : Array Slot), HR w K g S H → va_S (FR w) s.heap H locs → lv_has ls 10 [(0, .ref p0), (1, .int p1), (2, .ref (w.2.2.2 + 0)), (3, .ref (w.2.2.2 + 2)), (4, .ref (w.2.2.2 + 3)), (5, .ref (w.2.2.2 + 4)), (6, .int x6), (7, .int x7), (8, .int x8), (9, .int x9)] → f9_isCard_12 K g S p0 p1 n x6 x7 x8 x9 = some out → W p l e ({ frames := 3, cells := 0, slots := 0, locals := 70 } : Room) s m args below meth c H locs 0 0 (MQ below (QI w K g S out) args s 0 0 (FR w)) (F0 m 12 ls []) := by
    intro n
    induction n with
    | zero =>
      intro x6 x7 x8 x9 H locs ls hH hS hl hf
      cases hf
    | succ n ih =>
      intro x6 x7 x8 x9 H locs ls hH hS hl hf
      rw [f9_isCard_12] at hf
      refine lv_iload hx hb dL_isCard_12 (lv_at hl 9 rfl) ?_
      refine lv_aload_n hx hb dL_isCard_14 rfl (lv_at hl 2 rfl) ?_
      refine lv_iconst (v := 3) hx hb dL_isCard_15 (by decide) ?_
      obtain ⟨h47, hf⟩ := gd_some hf
      refine m_iald hx hb hK hH 0 (by decide) rfl h47 dL_isCard_16 ?_
      have hg := gif hf
      refine lv_icmp_ge (tgt := 48) hx hb dL_isCard_17 (by decide) (fun c48 => ?_) (fun c48 => ?_)
      · have hf := hg.1 c48
        refine lv_iconst (v := 0) hx hb dL_isCard_48 (by decide) ?_
        refine lv_istore (lv' := [(9, .int 0), (0, .ref p0), (1, .int p1), (2, .ref (w.2.2.2 + 0)), (3, .ref (w.2.2.2 + 2)), (4, .ref (w.2.2.2 + 3)), (5, .ref (w.2.2.2 + 4)), (6, .int x6), (7, .int x7), (8, .int x8)]) hx hb dL_isCard_49 hl (by decide) rfl (fun ls hl => ?_)
        exact B51 _ _ _ _ _ _ _ _ hH hS (lv_sub hl [1, 2, 4, 5, 7, 8, 9, 0] rfl) hf
      · have hf := hg.2 c48
        refine lv_iload hx hb dL_isCard_20 (lv_at hl 6 rfl) ?_
        refine lv_aload hx hb dL_isCard_22 (lv_at hl 5 rfl) ?_
        refine lv_bipush (v := 6) hx hb dL_isCard_24 (by decide) ?_
        refine lv_iload hx hb dL_isCard_26 (lv_at hl 9 rfl) ?_
        refine lv_imul hx hb dL_isCard_28 ?_
        obtain ⟨h50, hf⟩ := gd_some hf
        refine m_iald hx hb hK hH 4 (by decide) rfl h50 dL_isCard_29 ?_
        refine lv_iload_n hx hb dL_isCard_30 rfl (lv_at hl 1 rfl) ?_
        have hg := gif hf
        refine lv_icmp_ne (tgt := 38) hx hb dL_isCard_31 (by decide) (fun c51 => ?_) (fun c51 => ?_)
        · have hf := hg.2 c51
          refine lv_iconst (v := 0) hx hb dL_isCard_38 (by decide) ?_
          exact B39 _ (ih) _ _ _ _ _ _ _ _ hH hS (lv_sub hl [0, 1, 2, 3, 4, 5, 7, 8, 9] rfl) hf
        · have hf := hg.1 c51
          refine lv_iconst (v := 1) hx hb dL_isCard_34 (by decide) ?_
          refine lv_goto (tgt := 39) hx hb dL_isCard_35 (by decide) ?_
          exact B39 _ (ih) _ _ _ _ _ _ _ _ hH hS (lv_sub hl [0, 1, 2, 3, 4, 5, 7, 8, 9] rfl) hf
  have hl : lv_has ls 10 [(0, .ref p0), (1, .int p1), (2, .ref (w.2.2.2 + 0)), (3, .ref (w.2.2.2 + 2)), (4, .ref (w.2.2.2 + 3)), (5, .ref (w.2.2.2 + 4))] := hl
  refine lv_iconst (v := 0) hx hb dL_isCard_0 (by decide) ?_
  refine lv_istore (lv' := [(6, .int 0), (0, .ref p0), (1, .int p1), (2, .ref (w.2.2.2 + 0)), (3, .ref (w.2.2.2 + 2)), (4, .ref (w.2.2.2 + 3)), (5, .ref (w.2.2.2 + 4))]) hx hb dL_isCard_1 hl (by decide) rfl (fun ls hl => ?_)
  refine lv_iconst (v := 0) hx hb dL_isCard_3 (by decide) ?_
  refine lv_istore (lv' := [(7, .int 0), (6, .int 0), (0, .ref p0), (1, .int p1), (2, .ref (w.2.2.2 + 0)), (3, .ref (w.2.2.2 + 2)), (4, .ref (w.2.2.2 + 3)), (5, .ref (w.2.2.2 + 4))]) hx hb dL_isCard_4 hl (by decide) rfl (fun ls hl => ?_)
  refine lv_iconst (v := 0) hx hb dL_isCard_6 (by decide) ?_
  refine lv_istore (lv' := [(8, .int 0), (7, .int 0), (6, .int 0), (0, .ref p0), (1, .int p1), (2, .ref (w.2.2.2 + 0)), (3, .ref (w.2.2.2 + 2)), (4, .ref (w.2.2.2 + 3)), (5, .ref (w.2.2.2 + 4))]) hx hb dL_isCard_7 hl (by decide) rfl (fun ls hl => ?_)
  refine lv_iconst (v := 0) hx hb dL_isCard_9 (by decide) ?_
  refine lv_istore (lv' := [(9, .int 0), (8, .int 0), (7, .int 0), (6, .int 0), (0, .ref p0), (1, .int p1), (2, .ref (w.2.2.2 + 0)), (3, .ref (w.2.2.2 + 2)), (4, .ref (w.2.2.2 + 3)), (5, .ref (w.2.2.2 + 4))]) hx hb dL_isCard_10 hl (by decide) rfl (fun ls hl => ?_)
  exact B12 _ _ _ _ _ _ _ _ hH hS (lv_sub hl [4, 5, 6, 7, 8, 9, 3, 2, 1, 0] rfl) hf
set_option maxRecDepth 100000 in
set_option maxHeartbeats 8000000 in
theorem c9_low (l : Launch) (w : GW) (K : GK) (g : GM) (S : GS) (p0 : Int32) (p1 : Int32) (out : Int32) (hf : f9_low p0 p1 = some out) : Met l yL_low (wA yL_low cL_low 2 (some .int)) ({ frames := 0, cells := 0, slots := 0, locals := 0 } : Room) (PRE w K g S [.int p0, .int p1]) (QI w K g S out) 0 0 (FR w) := by
  unfold f9_low at hf
  refine Met.ofW (cc := cL_low) (maxL := 2) (ret := (some .int)) (by decide) rfl ?_
  intro p e s m args below meth c s₁ B hml hv
  obtain ⟨rfl, hH, hK⟩ := hv
  have hx := B.exec
  have hb := B.bytes
  have hr := B.returns
  have hts : ∀ q ∈ gALL, q.before _ s = true := fun q h => atoms_spec (ws := (wA yL_low cL_low 2 (some .int))) B.pre q (List.mem_cons_of_mem _ h)
  have hown : s.vm.findClass RL = some m.cls := findClass_of_methodNamed B.named
  have hlocks := B.notSynchronized
  have hS : va_S (FR w) s.heap s.heap [] := va_S.rf
  show W p l e ({ frames := 0, cells := 0, slots := 0, locals := 0 } : Room) s m _ below meth c s.heap [] 0 0 (MQ below (QI w K g S out) _ s 0 0 (FR w)) _
  have hl := lv_entry ([.int p0, .int p1]) (n := 2) (Nat.le_of_ble_eq_true rfl)
  rw [lg_entry_eq]
  generalize (lg_sl ([.int p0, .int p1]) ++ List.replicate (2 - (lg_sl ([.int p0, .int p1])).length) Slot.unset).toArray = ls at hl ⊢
  clear B
  generalize ([.int p0, .int p1] : List Value).toArray = args at hts ⊢
  have hl : lv_has ls 2 [(0, .int p0), (1, .int p1)] := hl
  refine lv_iload_n hx hb dL_low_0 rfl (lv_at hl 0 rfl) ?_
  refine lv_ldc (v := 2147483647) hx hb hown (hts _ wd_102) dL_low_1 ?_
  refine lv_iand hx hb dL_low_3 ?_
  refine lv_iload_n hx hb dL_low_4 rfl (lv_at hl 1 rfl) ?_
  obtain ⟨h1, hf⟩ := gd_some hf
  refine lv_irem hx hb dL_low_5 (of_decide_eq_true h1) ?_
  have ho := Option.some.inj hf
  exact W.iret (v := ((p0 &&& 2147483647) - (p0 &&& 2147483647) / p1 * p1)) hx hb hr (fun t ht hW => ⟨⟨((p0 &&& 2147483647) - (p0 &&& 2147483647) / p1 * p1), (), rfl, congrArg (fun q => q) ho, (hrE ht hH)⟩, hS.F ht⟩) hS.2.2 dL_low_6
set_option maxRecDepth 100000 in
set_option maxHeartbeats 8000000 in
theorem c9_pickAt (l : Launch) (w : GW) (K : GK) (g : GM) (S : GS) (p0 : Int32) (out : Int32) (hf : f9_pickAt S p0 = some out) : Met l yL_pickAt (wA yL_pickAt cL_pickAt 2 (some .int)) ({ frames := 0, cells := 0, slots := 0, locals := 0 } : Room) (PRE w K g S [.int p0, .ref (w.2.2.2 + 7)]) (QI w K g S out) 0 0 (FR w) := by
  unfold f9_pickAt at hf
  refine Met.ofW (cc := cL_pickAt) (maxL := 2) (ret := (some .int)) (by decide) rfl ?_
  intro p e s m args below meth c s₁ B hml hv
  obtain ⟨rfl, hH, hK⟩ := hv
  have hx := B.exec
  have hb := B.bytes
  have hr := B.returns
  have hts : ∀ q ∈ gALL, q.before _ s = true := fun q h => atoms_spec (ws := (wA yL_pickAt cL_pickAt 2 (some .int))) B.pre q (List.mem_cons_of_mem _ h)
  have hown : s.vm.findClass RL = some m.cls := findClass_of_methodNamed B.named
  have hlocks := B.notSynchronized
  have hS : va_S (FR w) s.heap s.heap [] := va_S.rf
  show W p l e ({ frames := 0, cells := 0, slots := 0, locals := 0 } : Room) s m _ below meth c s.heap [] 0 0 (MQ below (QI w K g S out) _ s 0 0 (FR w)) _
  have hl := lv_entry ([.int p0, .ref (w.2.2.2 + 7)]) (n := 2) (Nat.le_of_ble_eq_true rfl)
  rw [lg_entry_eq]
  generalize (lg_sl ([.int p0, .ref (w.2.2.2 + 7)]) ++ List.replicate (2 - (lg_sl ([.int p0, .ref (w.2.2.2 + 7)])).length) Slot.unset).toArray = ls at hl ⊢
  clear B
  generalize ([.int p0, .ref (w.2.2.2 + 7)] : List Value).toArray = args at hts ⊢
  have hl : lv_has ls 2 [(0, .int p0), (1, .ref (w.2.2.2 + 7))] := hl
  refine lv_aload_n hx hb dL_pickAt_0 rfl (lv_at hl 1 rfl) ?_
  refine lv_iload_n hx hb dL_pickAt_1 rfl (lv_at hl 0 rfl) ?_
  refine lv_bipush (v := 10) hx hb dL_pickAt_2 (by decide) ?_
  refine lv_idiv hx hb dL_pickAt_4 (by decide) ?_
  obtain ⟨h3, hf⟩ := gd_some hf
  refine m_iald hx hb hK hH 7 (by decide) rfl h3 dL_pickAt_5 ?_
  refine lv_iconst (v := 3) hx hb dL_pickAt_6 (by decide) ?_
  refine lv_iload_n hx hb dL_pickAt_7 rfl (lv_at hl 0 rfl) ?_
  refine lv_bipush (v := 10) hx hb dL_pickAt_8 (by decide) ?_
  refine lv_irem hx hb dL_pickAt_10 (by decide) ?_
  refine lv_imul hx hb dL_pickAt_11 ?_
  refine lv_ishr hx hb dL_pickAt_12 ?_
  refine lv_bipush (v := 7) hx hb dL_pickAt_13 (by decide) ?_
  refine lv_iand hx hb dL_pickAt_15 ?_
  have ho := Option.some.inj hf
  exact W.iret (v := (((S 7 (p0 / (10 : Int32)).toNatClampNeg) >>> ((3 * (p0 - p0 / (10 : Int32) * (10 : Int32))) &&& 31)) &&& 7)) hx hb hr (fun t ht hW => ⟨⟨(((S 7 (p0 / (10 : Int32)).toNatClampNeg) >>> ((3 * (p0 - p0 / (10 : Int32) * (10 : Int32))) &&& 31)) &&& 7), (), rfl, congrArg (fun q => q) ho, (hrE ht hH)⟩, hS.F ht⟩) hS.2.2 dL_pickAt_16
