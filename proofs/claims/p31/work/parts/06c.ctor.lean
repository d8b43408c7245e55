/-! CONSTRUCTORS, by program -/
def gz : GM := (fun _ _ => 0, fun _ _ => none)
theorem co_dec_5 : ∀ j, j < 2 → defaultValue (tyX5 j) = vp_V [.null, .int 0] j := (lt_s (lt_s lt_0 rfl) rfl)
theorem co_dec_6 : ∀ j, j < 13 → defaultValue (tyX6 j) = vp_V [.null, .null, .null, .null, .null, .int 0, .int 0, .int 0, .int 0, .null, .int 0, .int 0, .int 0] j := (lt_s (lt_s (lt_s (lt_s (lt_s (lt_s (lt_s (lt_s (lt_s (lt_s (lt_s (lt_s (lt_s lt_0 rfl) rfl) rfl) rfl) rfl) rfl) rfl) rfl) rfl) rfl) rfl) rfl) rfl)
theorem co_dec_0 : ∀ j, j < 7 → defaultValue (tyX0 j) = vp_V [.null, .null, .null, .null, .null, .null, .int 0] j := (lt_s (lt_s (lt_s (lt_s (lt_s (lt_s (lt_s lt_0 rfl) rfl) rfl) rfl) rfl) rfl) rfl)
theorem co_dec_2 : ∀ j, j < 2 → defaultValue (tyX2 j) = vp_V [.null, .null] j := (lt_s (lt_s lt_0 rfl) rfl)
theorem co_dec_4 : ∀ j, j < 13 → defaultValue (tyX4 j) = vp_V [.null, .null, .null, .null, .null, .null, .null, .null, .null, .int 0, .int 0, .int 0, .int 0] j := (lt_s (lt_s (lt_s (lt_s (lt_s (lt_s (lt_s (lt_s (lt_s (lt_s (lt_s (lt_s (lt_s lt_0 rfl) rfl) rfl) rfl) rfl) rfl) rfl) rfl) rfl) rfl) rfl) rfl) rfl)
theorem co_dec_3 : ∀ j, j < 2 → defaultValue (tyX3 j) = vp_V [.null, .int 0] j := (lt_s (lt_s lt_0 rfl) rfl)
theorem co_dec_7 : ∀ j, j < 7 → defaultValue (tyX7 j) = vp_V [.null, .null, .null, .null, .null, .null, .null] j := (lt_s (lt_s (lt_s (lt_s (lt_s (lt_s (lt_s lt_0 rfl) rfl) rfl) rfl) rfl) rfl) rfl)
theorem co_dec_1 : ∀ j, j < 9 → defaultValue (tyX1 j) = vp_V [.int 0, .int 0, .int 0, .int 0, .null, .null, .null, .null, .null] j := (lt_s (lt_s (lt_s (lt_s (lt_s (lt_s (lt_s (lt_s (lt_s lt_0 rfl) rfl) rfl) rfl) rfl) rfl) rfl) rfl) rfl)
def fX5 (w : GW) (o : Nat) : Nat → va_E := fun i => if i < 1 then .inr (5, [.ref (o + 1), .int 0]) else if i < 2 then .inl (w.2.1 1, 80, .inl (fun _ => 0)) else .inr (0, [])
set_option maxRecDepth 100000 in
set_option maxHeartbeats 8000000 in
theorem cX5_ctor (l : Launch) (w : GW) (o : Nat) : Met l yX5_init (wA yX5_init cX5_init 1 none) ({ frames := 1, cells := 1, slots := 80, locals := 12 } : Room) (PX w o (.inr (5, [.null, .int 0])) [.ref o]) (QX w o 2 (fX5 w o)) 1 80 (XR o) := by
  refine Met.ofW (cc := cX5_init) (maxL := 1) (ret := none) (by decide) rfl ?_
  intro p e s m args below meth c s₁ B hml hv
  obtain ⟨rfl, hN, hK⟩ := hv
  have hx := B.exec
  have hb := B.bytes
  have hr := B.returns
  have hts : ∀ q ∈ gALL, q.before _ s = true := fun q h => atoms_spec (ws := (wA yX5_init cX5_init 1 none)) B.pre q (List.mem_cons_of_mem _ h)
  have hown : s.vm.findClass RX5 = some m.cls := findClass_of_methodNamed B.named
  have hlocks := B.notSynchronized
  have hin2 : meth.name = "<init>" := (name_of_methodNamed B.named B.method).1
  have hS : va_S (XR o) s.heap s.heap [] := va_S.rf
  show W p l e ({ frames := 1, cells := 1, slots := 80, locals := 12 } : Room) s m _ below meth c s.heap [] 0 0 (MQ below (QX w o 2 (fX5 w o)) _ s 1 80 (XR o)) _
  have hl := lv_entry ([.ref o]) (n := 1) (Nat.le_of_ble_eq_true rfl)
  rw [lg_entry_eq]
  generalize (lg_sl ([.ref o]) ++ List.replicate (1 - (lg_sl ([.ref o])).length) Slot.unset).toArray = ls at hl ⊢
  clear B
  generalize ([.ref o] : List Value).toArray = args at hts ⊢
  have hl : lv_has ls 1 [(0, .ref o)] := hl
  refine lv_aload_n hx hb dX5_init_0 rfl (lv_at hl 0 rfl) ?_
  refine W.objInit hx hb hown (hts _ wd_34) (hts _ wd_8) (hts _ wd_9) rfl (by rw [hml]; exact hl.1) rfl dX5_init_1 (Nat.le_of_ble_eq_true rfl) (Nat.le_of_ble_eq_true rfl) ?_
  refine W.eq (g2 := F0 m 4 ls []) rfl ?_
  refine lv_aload_n hx hb dX5_init_4 rfl (lv_at hl 0 rfl) ?_
  refine lv_bipush (v := 80) hx hb dX5_init_5 (by decide) ?_
  refine x_newa (atype := .char) (ty := .char) (t := 1) hx hb (hts _ wd_35) rfl rfl (nm_char hK) hN hS (fun _ h => h) (N := 80) (by decide) (by decide) (by decide) (Nat.le_of_ble_eq_true rfl) (Nat.le_of_ble_eq_true rfl) dX5_init_7 (fun H hN hq hS => ?_)
  refine x_putF hx hb hts inlX5 tyX5 tyX5_ok nmX5 hown hK hN hS (fun _ h => h) 0 (by decide) (fs := [.null, .int 0]) rfl rfl 0 (by decide) (hts _ wd_36) rfl hin2 rfl (tyX5_ok 0 (by decide)) rfl rfl (Nat.le_of_ble_eq_true rfl) dX5_init_9 (fun H locs hN hq hS => ?_)
  refine lv_aload_n hx hb dX5_init_12 rfl (lv_at hl 0 rfl) ?_
  refine lv_iconst (v := 0) hx hb dX5_init_13 (by decide) ?_
  refine x_put hx hb hts inlX5 tyX5 tyX5_ok nmX5 hown hK hN hS (fun _ h => h) 0 (by decide) (fs := [.ref (o + 1), .int 0]) rfl rfl 1 (by decide) (hts _ wd_37) rfl (tyX5_ok 1 (by decide)) rfl rfl (Nat.le_of_ble_eq_true rfl) dX5_init_14 (fun H locs hN hq hS => ?_)
  have hN := hN.to (f' := fX5 w o) (lt_s (lt_s lt_0 rfl) rfl)
  exact W.vret hx hb hr (fun t ht hW => ⟨⟨(), rfl, trivial, by show NX w o 2 (fX5 w o) t.heap; rw [ht]; exact hN⟩, hS.F ht⟩) hS.2.2 dX5_init_17
def fX6 (w : GW) (o : Nat) : Nat → va_E := fun i => if i < 1 then .inr (6, [.ref (o + 1), .ref (o + 2), .ref (o + 3), .ref (o + 4), .ref (o + 5), .int 0, .int 0, .int 0, .int 0, .ref (o + 6), .int 0, .int 0, .int 0]) else if i < 2 then .inl (w.2.1 1, 80, .inl (fun _ => 0)) else if i < 3 then .inl (w.2.1 0, 80, .inl (fun _ => 0)) else if i < 4 then .inl (w.2.1 0, 80, .inl (fun _ => 0)) else if i < 5 then .inl (w.2.1 0, 80, .inl (fun _ => 0)) else if i < 6 then .inl (w.2.1 0, 80, .inl (fun _ => 0)) else if i < 7 then .inl (w.2.1 0, 3, .inl (fun _ => 0)) else .inr (0, [])
set_option maxRecDepth 100000 in
set_option maxHeartbeats 8000000 in
theorem cX6_ctor (l : Launch) (w : GW) (o : Nat) : Met l yX6_init (wA yX6_init cX6_init 1 none) ({ frames := 1, cells := 6, slots := 403, locals := 12 } : Room) (PX w o (.inr (6, [.null, .null, .null, .null, .null, .int 0, .int 0, .int 0, .int 0, .null, .int 0, .int 0, .int 0])) [.ref o]) (QX w o 7 (fX6 w o)) 6 403 (XR o) := by
  refine Met.ofW (cc := cX6_init) (maxL := 1) (ret := none) (by decide) rfl ?_
  intro p e s m args below meth c s₁ B hml hv
  obtain ⟨rfl, hN, hK⟩ := hv
  have hx := B.exec
  have hb := B.bytes
  have hr := B.returns
  have hts : ∀ q ∈ gALL, q.before _ s = true := fun q h => atoms_spec (ws := (wA yX6_init cX6_init 1 none)) B.pre q (List.mem_cons_of_mem _ h)
  have hown : s.vm.findClass RX6 = some m.cls := findClass_of_methodNamed B.named
  have hlocks := B.notSynchronized
  have hin2 : meth.name = "<init>" := (name_of_methodNamed B.named B.method).1
  have hS : va_S (XR o) s.heap s.heap [] := va_S.rf
  show W p l e ({ frames := 1, cells := 6, slots := 403, locals := 12 } : Room) s m _ below meth c s.heap [] 0 0 (MQ below (QX w o 7 (fX6 w o)) _ s 6 403 (XR o)) _
  have hl := lv_entry ([.ref o]) (n := 1) (Nat.le_of_ble_eq_true rfl)
  rw [lg_entry_eq]
  generalize (lg_sl ([.ref o]) ++ List.replicate (1 - (lg_sl ([.ref o])).length) Slot.unset).toArray = ls at hl ⊢
  clear B
  generalize ([.ref o] : List Value).toArray = args at hts ⊢
  have hl : lv_has ls 1 [(0, .ref o)] := hl
  refine lv_aload_n hx hb dX6_init_0 rfl (lv_at hl 0 rfl) ?_
  refine W.objInit hx hb hown (hts _ wd_40) (hts _ wd_8) (hts _ wd_9) rfl (by rw [hml]; exact hl.1) rfl dX6_init_1 (Nat.le_of_ble_eq_true rfl) (Nat.le_of_ble_eq_true rfl) ?_
  refine W.eq (g2 := F0 m 4 ls []) rfl ?_
  refine lv_aload_n hx hb dX6_init_4 rfl (lv_at hl 0 rfl) ?_
  refine lv_bipush (v := 80) hx hb dX6_init_5 (by decide) ?_
  refine x_newa (atype := .char) (ty := .char) (t := 1) hx hb (hts _ wd_35) rfl rfl (nm_char hK) hN hS (fun _ h => h) (N := 80) (by decide) (by decide) (by decide) (Nat.le_of_ble_eq_true rfl) (Nat.le_of_ble_eq_true rfl) dX6_init_7 (fun H hN hq hS => ?_)
  refine x_putF hx hb hts inlX6 tyX6 tyX6_ok nmX6 hown hK hN hS (fun _ h => h) 0 (by decide) (fs := [.null, .null, .null, .null, .null, .int 0, .int 0, .int 0, .int 0, .null, .int 0, .int 0, .int 0]) rfl rfl 0 (by decide) (hts _ wd_41) rfl hin2 rfl (tyX6_ok 0 (by decide)) rfl rfl (Nat.le_of_ble_eq_true rfl) dX6_init_9 (fun H locs hN hq hS => ?_)
  refine lv_aload_n hx hb dX6_init_12 rfl (lv_at hl 0 rfl) ?_
  refine lv_bipush (v := 80) hx hb dX6_init_13 (by decide) ?_
  refine x_newa (atype := .int) (ty := .int) (t := 0) hx hb (hts _ wd_3) rfl rfl (nm_int hK) hN hS (fun _ h => h) (N := 80) (by decide) (by decide) (by decide) (Nat.le_of_ble_eq_true rfl) (Nat.le_of_ble_eq_true rfl) dX6_init_15 (fun H hN hq hS => ?_)
  refine x_putF hx hb hts inlX6 tyX6 tyX6_ok nmX6 hown hK hN hS (fun _ h => h) 0 (by decide) (fs := [.ref (o + 1), .null, .null, .null, .null, .int 0, .int 0, .int 0, .int 0, .null, .int 0, .int 0, .int 0]) rfl rfl 1 (by decide) (hts _ wd_42) rfl hin2 rfl (tyX6_ok 1 (by decide)) rfl rfl (Nat.le_of_ble_eq_true rfl) dX6_init_17 (fun H locs hN hq hS => ?_)
  refine lv_aload_n hx hb dX6_init_20 rfl (lv_at hl 0 rfl) ?_
  refine lv_bipush (v := 80) hx hb dX6_init_21 (by decide) ?_
  refine x_newa (atype := .int) (ty := .int) (t := 0) hx hb (hts _ wd_3) rfl rfl (nm_int hK) hN hS (fun _ h => h) (N := 80) (by decide) (by decide) (by decide) (Nat.le_of_ble_eq_true rfl) (Nat.le_of_ble_eq_true rfl) dX6_init_23 (fun H hN hq hS => ?_)
  refine x_putF hx hb hts inlX6 tyX6 tyX6_ok nmX6 hown hK hN hS (fun _ h => h) 0 (by decide) (fs := [.ref (o + 1), .ref (o + 2), .null, .null, .null, .int 0, .int 0, .int 0, .int 0, .null, .int 0, .int 0, .int 0]) rfl rfl 2 (by decide) (hts _ wd_43) rfl hin2 rfl (tyX6_ok 2 (by decide)) rfl rfl (Nat.le_of_ble_eq_true rfl) dX6_init_25 (fun H locs hN hq hS => ?_)
  refine lv_aload_n hx hb dX6_init_28 rfl (lv_at hl 0 rfl) ?_
  refine lv_bipush (v := 80) hx hb dX6_init_29 (by decide) ?_
  refine x_newa (atype := .int) (ty := .int) (t := 0) hx hb (hts _ wd_3) rfl rfl (nm_int hK) hN hS (fun _ h => h) (N := 80) (by decide) (by decide) (by decide) (Nat.le_of_ble_eq_true rfl) (Nat.le_of_ble_eq_true rfl) dX6_init_31 (fun H hN hq hS => ?_)
  refine x_putF hx hb hts inlX6 tyX6 tyX6_ok nmX6 hown hK hN hS (fun _ h => h) 0 (by decide) (fs := [.ref (o + 1), .ref (o + 2), .ref (o + 3), .null, .null, .int 0, .int 0, .int 0, .int 0, .null, .int 0, .int 0, .int 0]) rfl rfl 3 (by decide) (hts _ wd_44) rfl hin2 rfl (tyX6_ok 3 (by decide)) rfl rfl (Nat.le_of_ble_eq_true rfl) dX6_init_33 (fun H locs hN hq hS => ?_)
  refine lv_aload_n hx hb dX6_init_36 rfl (lv_at hl 0 rfl) ?_
  refine lv_bipush (v := 80) hx hb dX6_init_37 (by decide) ?_
  refine x_newa (atype := .int) (ty := .int) (t := 0) hx hb (hts _ wd_3) rfl rfl (nm_int hK) hN hS (fun _ h => h) (N := 80) (by decide) (by decide) (by decide) (Nat.le_of_ble_eq_true rfl) (Nat.le_of_ble_eq_true rfl) dX6_init_39 (fun H hN hq hS => ?_)
  refine x_putF hx hb hts inlX6 tyX6 tyX6_ok nmX6 hown hK hN hS (fun _ h => h) 0 (by decide) (fs := [.ref (o + 1), .ref (o + 2), .ref (o + 3), .ref (o + 4), .null, .int 0, .int 0, .int 0, .int 0, .null, .int 0, .int 0, .int 0]) rfl rfl 4 (by decide) (hts _ wd_45) rfl hin2 rfl (tyX6_ok 4 (by decide)) rfl rfl (Nat.le_of_ble_eq_true rfl) dX6_init_41 (fun H locs hN hq hS => ?_)
  refine lv_aload_n hx hb dX6_init_44 rfl (lv_at hl 0 rfl) ?_
  refine lv_iconst (v := 3) hx hb dX6_init_45 (by decide) ?_
  refine x_newa (atype := .int) (ty := .int) (t := 0) hx hb (hts _ wd_3) rfl rfl (nm_int hK) hN hS (fun _ h => h) (N := 3) (by decide) (by decide) (by decide) (Nat.le_of_ble_eq_true rfl) (Nat.le_of_ble_eq_true rfl) dX6_init_46 (fun H hN hq hS => ?_)
  refine x_putF hx hb hts inlX6 tyX6 tyX6_ok nmX6 hown hK hN hS (fun _ h => h) 0 (by decide) (fs := [.ref (o + 1), .ref (o + 2), .ref (o + 3), .ref (o + 4), .ref (o + 5), .int 0, .int 0, .int 0, .int 0, .null, .int 0, .int 0, .int 0]) rfl rfl 9 (by decide) (hts _ wd_46) rfl hin2 rfl (tyX6_ok 9 (by decide)) rfl rfl (Nat.le_of_ble_eq_true rfl) dX6_init_48 (fun H locs hN hq hS => ?_)
  have hN := hN.to (f' := fX6 w o) (lt_s (lt_s (lt_s (lt_s (lt_s (lt_s (lt_s lt_0 rfl) rfl) rfl) rfl) rfl) rfl) rfl)
  exact W.vret hx hb hr (fun t ht hW => ⟨⟨(), rfl, trivial, by show NX w o 7 (fX6 w o) t.heap; rw [ht]; exact hN⟩, hS.F ht⟩) hS.2.2 dX6_init_51
def fX0 (w : GW) (o : Nat) : Nat → va_E := fun i => if i < 1 then .inr (0, [.ref (o + 1), .ref (o + 2), .ref (o + 3), .ref (o + 4), .ref (o + 5), .ref (o + 6), .int 0]) else if i < 2 then .inl (w.2.1 0, 9, .inl (fun _ => 0)) else if i < 3 then .inl (w.2.1 0, 9, .inl (fun _ => 0)) else if i < 4 then .inl (w.2.1 0, 9, .inl (fun _ => 0)) else if i < 5 then .inl (w.2.1 0, 36, .inl (fun _ => 0)) else if i < 6 then .inl (w.2.1 0, 36, .inl (fun _ => 0)) else if i < 7 then .inl (w.2.1 3, 9, .inr (.inr (.inr (.inr (fun _ => none))))) else .inr (0, [])
set_option maxRecDepth 100000 in
set_option maxHeartbeats 8000000 in
theorem cX0_ctor (l : Launch) (w : GW) (o : Nat) : Met l yX0_init (wA yX0_init cX0_init 1 none) ({ frames := 1, cells := 6, slots := 108, locals := 12 } : Room) (PX w o (.inr (0, [.null, .null, .null, .null, .null, .null, .int 0])) [.ref o]) (QX w o 7 (fX0 w o)) 6 108 (XR o) := by
  refine Met.ofW (cc := cX0_init) (maxL := 1) (ret := none) (by decide) rfl ?_
  intro p e s m args below meth c s₁ B hml hv
  obtain ⟨rfl, hN, hK⟩ := hv
  have hx := B.exec
  have hb := B.bytes
  have hr := B.returns
  have hts : ∀ q ∈ gALL, q.before _ s = true := fun q h => atoms_spec (ws := (wA yX0_init cX0_init 1 none)) B.pre q (List.mem_cons_of_mem _ h)
  have hown : s.vm.findClass RX0 = some m.cls := findClass_of_methodNamed B.named
  have hlocks := B.notSynchronized
  have hin2 : meth.name = "<init>" := (name_of_methodNamed B.named B.method).1
  have hS : va_S (XR o) s.heap s.heap [] := va_S.rf
  show W p l e ({ frames := 1, cells := 6, slots := 108, locals := 12 } : Room) s m _ below meth c s.heap [] 0 0 (MQ below (QX w o 7 (fX0 w o)) _ s 6 108 (XR o)) _
  have hl := lv_entry ([.ref o]) (n := 1) (Nat.le_of_ble_eq_true rfl)
  rw [lg_entry_eq]
  generalize (lg_sl ([.ref o]) ++ List.replicate (1 - (lg_sl ([.ref o])).length) Slot.unset).toArray = ls at hl ⊢
  clear B
  generalize ([.ref o] : List Value).toArray = args at hts ⊢
  have hl : lv_has ls 1 [(0, .ref o)] := hl
  refine lv_aload_n hx hb dX0_init_0 rfl (lv_at hl 0 rfl) ?_
  refine W.objInit hx hb hown (hts _ wd_71) (hts _ wd_8) (hts _ wd_9) rfl (by rw [hml]; exact hl.1) rfl dX0_init_1 (Nat.le_of_ble_eq_true rfl) (Nat.le_of_ble_eq_true rfl) ?_
  refine W.eq (g2 := F0 m 4 ls []) rfl ?_
  refine lv_aload_n hx hb dX0_init_4 rfl (lv_at hl 0 rfl) ?_
  refine lv_bipush (v := 9) hx hb dX0_init_5 (by decide) ?_
  refine x_newa (atype := .int) (ty := .int) (t := 0) hx hb (hts _ wd_3) rfl rfl (nm_int hK) hN hS (fun _ h => h) (N := 9) (by decide) (by decide) (by decide) (Nat.le_of_ble_eq_true rfl) (Nat.le_of_ble_eq_true rfl) dX0_init_7 (fun H hN hq hS => ?_)
  refine x_putF hx hb hts inlX0 tyX0 tyX0_ok nmX0 hown hK hN hS (fun _ h => h) 0 (by decide) (fs := [.null, .null, .null, .null, .null, .null, .int 0]) rfl rfl 0 (by decide) (hts _ wd_72) rfl hin2 rfl (tyX0_ok 0 (by decide)) rfl rfl (Nat.le_of_ble_eq_true rfl) dX0_init_9 (fun H locs hN hq hS => ?_)
  refine lv_aload_n hx hb dX0_init_12 rfl (lv_at hl 0 rfl) ?_
  refine lv_bipush (v := 9) hx hb dX0_init_13 (by decide) ?_
  refine x_newa (atype := .int) (ty := .int) (t := 0) hx hb (hts _ wd_3) rfl rfl (nm_int hK) hN hS (fun _ h => h) (N := 9) (by decide) (by decide) (by decide) (Nat.le_of_ble_eq_true rfl) (Nat.le_of_ble_eq_true rfl) dX0_init_15 (fun H hN hq hS => ?_)
  refine x_putF hx hb hts inlX0 tyX0 tyX0_ok nmX0 hown hK hN hS (fun _ h => h) 0 (by decide) (fs := [.ref (o + 1), .null, .null, .null, .null, .null, .int 0]) rfl rfl 1 (by decide) (hts _ wd_73) rfl hin2 rfl (tyX0_ok 1 (by decide)) rfl rfl (Nat.le_of_ble_eq_true rfl) dX0_init_17 (fun H locs hN hq hS => ?_)
  refine lv_aload_n hx hb dX0_init_20 rfl (lv_at hl 0 rfl) ?_
  refine lv_bipush (v := 9) hx hb dX0_init_21 (by decide) ?_
  refine x_newa (atype := .int) (ty := .int) (t := 0) hx hb (hts _ wd_3) rfl rfl (nm_int hK) hN hS (fun _ h => h) (N := 9) (by decide) (by decide) (by decide) (Nat.le_of_ble_eq_true rfl) (Nat.le_of_ble_eq_true rfl) dX0_init_23 (fun H hN hq hS => ?_)
  refine x_putF hx hb hts inlX0 tyX0 tyX0_ok nmX0 hown hK hN hS (fun _ h => h) 0 (by decide) (fs := [.ref (o + 1), .ref (o + 2), .null, .null, .null, .null, .int 0]) rfl rfl 2 (by decide) (hts _ wd_74) rfl hin2 rfl (tyX0_ok 2 (by decide)) rfl rfl (Nat.le_of_ble_eq_true rfl) dX0_init_25 (fun H locs hN hq hS => ?_)
  refine lv_aload_n hx hb dX0_init_28 rfl (lv_at hl 0 rfl) ?_
  refine lv_bipush (v := 36) hx hb dX0_init_29 (by decide) ?_
  refine x_newa (atype := .int) (ty := .int) (t := 0) hx hb (hts _ wd_3) rfl rfl (nm_int hK) hN hS (fun _ h => h) (N := 36) (by decide) (by decide) (by decide) (Nat.le_of_ble_eq_true rfl) (Nat.le_of_ble_eq_true rfl) dX0_init_31 (fun H hN hq hS => ?_)
  refine x_putF hx hb hts inlX0 tyX0 tyX0_ok nmX0 hown hK hN hS (fun _ h => h) 0 (by decide) (fs := [.ref (o + 1), .ref (o + 2), .ref (o + 3), .null, .null, .null, .int 0]) rfl rfl 3 (by decide) (hts _ wd_75) rfl hin2 rfl (tyX0_ok 3 (by decide)) rfl rfl (Nat.le_of_ble_eq_true rfl) dX0_init_33 (fun H locs hN hq hS => ?_)
  refine lv_aload_n hx hb dX0_init_36 rfl (lv_at hl 0 rfl) ?_
  refine lv_bipush (v := 36) hx hb dX0_init_37 (by decide) ?_
  refine x_newa (atype := .int) (ty := .int) (t := 0) hx hb (hts _ wd_3) rfl rfl (nm_int hK) hN hS (fun _ h => h) (N := 36) (by decide) (by decide) (by decide) (Nat.le_of_ble_eq_true rfl) (Nat.le_of_ble_eq_true rfl) dX0_init_39 (fun H hN hq hS => ?_)
  refine x_putF hx hb hts inlX0 tyX0 tyX0_ok nmX0 hown hK hN hS (fun _ h => h) 0 (by decide) (fs := [.ref (o + 1), .ref (o + 2), .ref (o + 3), .ref (o + 4), .null, .null, .int 0]) rfl rfl 4 (by decide) (hts _ wd_76) rfl hin2 rfl (tyX0_ok 4 (by decide)) rfl rfl (Nat.le_of_ble_eq_true rfl) dX0_init_41 (fun H locs hN hq hS => ?_)
  refine lv_aload_n hx hb dX0_init_44 rfl (lv_at hl 0 rfl) ?_
  refine lv_bipush (v := 9) hx hb dX0_init_45 (by decide) ?_
  refine x_newq (C := "CallingLooms$CardText") (t := 3) hx hb hown (hts _ wd_77) hK.2.2.1 (nm_ct hK) hN hS (fun _ h => h) (N := 9) (by decide) (by decide) (by decide) (Nat.le_of_ble_eq_true rfl) (Nat.le_of_ble_eq_true rfl) dX0_init_47 (fun H hN hq hS => ?_)
  refine x_putF hx hb hts inlX0 tyX0 tyX0_ok nmX0 hown hK hN hS (fun _ h => h) 0 (by decide) (fs := [.ref (o + 1), .ref (o + 2), .ref (o + 3), .ref (o + 4), .ref (o + 5), .null, .int 0]) rfl rfl 5 (by decide) (hts _ wd_78) rfl hin2 rfl (tyX0_ok 5 (by decide)) rfl rfl (Nat.le_of_ble_eq_true rfl) dX0_init_50 (fun H locs hN hq hS => ?_)
  refine lv_aload_n hx hb dX0_init_53 rfl (lv_at hl 0 rfl) ?_
  refine lv_iconst (v := 0) hx hb dX0_init_54 (by decide) ?_
  refine x_put hx hb hts inlX0 tyX0 tyX0_ok nmX0 hown hK hN hS (fun _ h => h) 0 (by decide) (fs := [.ref (o + 1), .ref (o + 2), .ref (o + 3), .ref (o + 4), .ref (o + 5), .ref (o + 6), .int 0]) rfl rfl 6 (by decide) (hts _ wd_79) rfl (tyX0_ok 6 (by decide)) rfl rfl (Nat.le_of_ble_eq_true rfl) dX0_init_55 (fun H locs hN hq hS => ?_)
  have hN := hN.to (f' := fX0 w o) (lt_s (lt_s (lt_s (lt_s (lt_s (lt_s (lt_s lt_0 rfl) rfl) rfl) rfl) rfl) rfl) rfl)
  exact W.vret hx hb hr (fun t ht hW => ⟨⟨(), rfl, trivial, by show NX w o 7 (fX0 w o) t.heap; rw [ht]; exact hN⟩, hS.F ht⟩) hS.2.2 dX0_init_58
def fX2 (w : GW) (o : Nat) : Nat → va_E := fun i => if i < 1 then .inr (2, [.ref (o + 1), .ref (o + 2)]) else if i < 2 then .inl (w.2.1 0, 10, .inl (fun _ => 0)) else if i < 3 then .inl (w.2.1 0, 60, .inl (fun _ => 0)) else .inr (0, [])
set_option maxRecDepth 100000 in
set_option maxHeartbeats 8000000 in
theorem cX2_ctor (l : Launch) (w : GW) (o : Nat) : Met l yX2_init (wA yX2_init cX2_init 1 none) ({ frames := 1, cells := 2, slots := 70, locals := 12 } : Room) (PX w o (.inr (2, [.null, .null])) [.ref o]) (QX w o 3 (fX2 w o)) 2 70 (XR o) := by
  refine Met.ofW (cc := cX2_init) (maxL := 1) (ret := none) (by decide) rfl ?_
  intro p e s m args below meth c s₁ B hml hv
  obtain ⟨rfl, hN, hK⟩ := hv
  have hx := B.exec
  have hb := B.bytes
  have hr := B.returns
  have hts : ∀ q ∈ gALL, q.before _ s = true := fun q h => atoms_spec (ws := (wA yX2_init cX2_init 1 none)) B.pre q (List.mem_cons_of_mem _ h)
  have hown : s.vm.findClass RX2 = some m.cls := findClass_of_methodNamed B.named
  have hlocks := B.notSynchronized
  have hin2 : meth.name = "<init>" := (name_of_methodNamed B.named B.method).1
  have hS : va_S (XR o) s.heap s.heap [] := va_S.rf
  show W p l e ({ frames := 1, cells := 2, slots := 70, locals := 12 } : Room) s m _ below meth c s.heap [] 0 0 (MQ below (QX w o 3 (fX2 w o)) _ s 2 70 (XR o)) _
  have hl := lv_entry ([.ref o]) (n := 1) (Nat.le_of_ble_eq_true rfl)
  rw [lg_entry_eq]
  generalize (lg_sl ([.ref o]) ++ List.replicate (1 - (lg_sl ([.ref o])).length) Slot.unset).toArray = ls at hl ⊢
  clear B
  generalize ([.ref o] : List Value).toArray = args at hts ⊢
  have hl : lv_has ls 1 [(0, .ref o)] := hl
  refine lv_aload_n hx hb dX2_init_0 rfl (lv_at hl 0 rfl) ?_
  refine W.objInit hx hb hown (hts _ wd_90) (hts _ wd_8) (hts _ wd_9) rfl (by rw [hml]; exact hl.1) rfl dX2_init_1 (Nat.le_of_ble_eq_true rfl) (Nat.le_of_ble_eq_true rfl) ?_
  refine W.eq (g2 := F0 m 4 ls []) rfl ?_
  refine lv_aload_n hx hb dX2_init_4 rfl (lv_at hl 0 rfl) ?_
  refine lv_bipush (v := 10) hx hb dX2_init_5 (by decide) ?_
  refine x_newa (atype := .int) (ty := .int) (t := 0) hx hb (hts _ wd_3) rfl rfl (nm_int hK) hN hS (fun _ h => h) (N := 10) (by decide) (by decide) (by decide) (Nat.le_of_ble_eq_true rfl) (Nat.le_of_ble_eq_true rfl) dX2_init_7 (fun H hN hq hS => ?_)
  refine x_putF hx hb hts inlX2 tyX2 tyX2_ok nmX2 hown hK hN hS (fun _ h => h) 0 (by decide) (fs := [.null, .null]) rfl rfl 0 (by decide) (hts _ wd_91) rfl hin2 rfl (tyX2_ok 0 (by decide)) rfl rfl (Nat.le_of_ble_eq_true rfl) dX2_init_9 (fun H locs hN hq hS => ?_)
  refine lv_aload_n hx hb dX2_init_12 rfl (lv_at hl 0 rfl) ?_
  refine lv_bipush (v := 60) hx hb dX2_init_13 (by decide) ?_
  refine x_newa (atype := .int) (ty := .int) (t := 0) hx hb (hts _ wd_3) rfl rfl (nm_int hK) hN hS (fun _ h => h) (N := 60) (by decide) (by decide) (by decide) (Nat.le_of_ble_eq_true rfl) (Nat.le_of_ble_eq_true rfl) dX2_init_15 (fun H hN hq hS => ?_)
  refine x_putF hx hb hts inlX2 tyX2 tyX2_ok nmX2 hown hK hN hS (fun _ h => h) 0 (by decide) (fs := [.ref (o + 1), .null]) rfl rfl 1 (by decide) (hts _ wd_92) rfl hin2 rfl (tyX2_ok 1 (by decide)) rfl rfl (Nat.le_of_ble_eq_true rfl) dX2_init_17 (fun H locs hN hq hS => ?_)
  have hN := hN.to (f' := fX2 w o) (lt_s (lt_s (lt_s lt_0 rfl) rfl) rfl)
  exact W.vret hx hb hr (fun t ht hW => ⟨⟨(), rfl, trivial, by show NX w o 3 (fX2 w o) t.heap; rw [ht]; exact hN⟩, hS.F ht⟩) hS.2.2 dX2_init_20
def fX4 (w : GW) (o : Nat) : Nat → va_E := fun i => if i < 1 then .inr (4, [.ref (o + 1), .ref (o + 2), .ref (o + 3), .ref (o + 4), .ref (o + 5), .ref (o + 6), .ref (o + 7), .ref (o + 8), .ref (o + 9), .int 0, .int 0, .int 0, .int 0]) else if i < 2 then .inl (w.2.1 3, 10, .inr (.inr (.inr (.inr (fun _ => none))))) else if i < 3 then .inl (w.2.1 0, 10, .inl (fun _ => 0)) else if i < 4 then .inl (w.2.1 0, 3, .inl (upd (upd (upd (fun _ => 0) 0 5) 1 20) 2 10)) else if i < 5 then .inl (w.2.1 0, 6, .inl (upd (upd (upd (upd (upd (upd (fun _ => 0) 0 50) 1 50) 2 50) 3 50) 4 50) 5 50)) else if i < 6 then .inl (w.2.1 0, 6, .inl (fun _ => 0)) else if i < 7 then .inl (w.2.1 0, 6, .inl (fun _ => 0)) else if i < 8 then .inl (w.2.1 0, 6, .inl (fun _ => 0)) else if i < 9 then .inl (w.2.1 2, 400, .inl (fun _ => 0)) else if i < 16 then fX0 w (o + 9) (i - 9) else .inr (0, [])
set_option maxRecDepth 100000 in
set_option maxHeartbeats 8000000 in
theorem cX4_ctor (l : Launch) (w : GW) (o : Nat) : Met l yX4_init (wA yX4_init cX4_init 2 none) ({ frames := 2, cells := 15, slots := 562, locals := 32 } : Room) (PX w o (.inr (4, [.null, .null, .null, .null, .null, .null, .null, .null, .null, .int 0, .int 0, .int 0, .int 0])) [.ref o]) (QX w o 16 (fX4 w o)) 15 562 (XR o) := by
  refine Met.ofW (cc := cX4_init) (maxL := 2) (ret := none) (by decide) rfl ?_
  intro p e s m args below meth c s₁ B hml hv
  obtain ⟨rfl, hN, hK⟩ := hv
  have hx := B.exec
  have hb := B.bytes
  have hr := B.returns
  have hts : ∀ q ∈ gALL, q.before _ s = true := fun q h => atoms_spec (ws := (wA yX4_init cX4_init 2 none)) B.pre q (List.mem_cons_of_mem _ h)
  have hown : s.vm.findClass RX4 = some m.cls := findClass_of_methodNamed B.named
  have hlocks := B.notSynchronized
  have hin2 : meth.name = "<init>" := (name_of_methodNamed B.named B.method).1
  have hS : va_S (XR o) s.heap s.heap [] := va_S.rf
  show W p l e ({ frames := 2, cells := 15, slots := 562, locals := 32 } : Room) s m _ below meth c s.heap [] 0 0 (MQ below (QX w o 16 (fX4 w o)) _ s 15 562 (XR o)) _
  have hl := lv_entry ([.ref o]) (n := 2) (Nat.le_of_ble_eq_true rfl)
  rw [lg_entry_eq]
  generalize (lg_sl ([.ref o]) ++ List.replicate (2 - (lg_sl ([.ref o])).length) Slot.unset).toArray = ls at hl ⊢
  clear B
  generalize ([.ref o] : List Value).toArray = args at hts ⊢
  have hl : lv_has ls 2 [(0, .ref o)] := hl
  refine lv_aload_n hx hb dX4_init_0 rfl (lv_at hl 0 rfl) ?_
  refine W.objInit hx hb hown (hts _ wd_50) (hts _ wd_8) (hts _ wd_9) rfl (by rw [hml]; exact hl.1) rfl dX4_init_1 (Nat.le_of_ble_eq_true rfl) (Nat.le_of_ble_eq_true rfl) ?_
  refine W.eq (g2 := F0 m 4 ls []) rfl ?_
  refine lv_aload_n hx hb dX4_init_4 rfl (lv_at hl 0 rfl) ?_
  refine lv_bipush (v := 10) hx hb dX4_init_5 (by decide) ?_
  refine x_newq (C := "CallingLooms$CardText") (t := 3) hx hb hown (hts _ wd_51) hK.2.2.1 (nm_ct hK) hN hS (fun _ h => h) (N := 10) (by decide) (by decide) (by decide) (Nat.le_of_ble_eq_true rfl) (Nat.le_of_ble_eq_true rfl) dX4_init_7 (fun H hN hq hS => ?_)
  refine x_putF hx hb hts inlX4 tyX4 tyX4_ok nmX4 hown hK hN hS (fun _ h => h) 0 (by decide) (fs := [.null, .null, .null, .null, .null, .null, .null, .null, .null, .int 0, .int 0, .int 0, .int 0]) rfl rfl 0 (by decide) (hts _ wd_52) rfl hin2 rfl (tyX4_ok 0 (by decide)) rfl rfl (Nat.le_of_ble_eq_true rfl) dX4_init_10 (fun H locs hN hq hS => ?_)
  refine lv_aload_n hx hb dX4_init_13 rfl (lv_at hl 0 rfl) ?_
  refine lv_bipush (v := 10) hx hb dX4_init_14 (by decide) ?_
  refine x_newa (atype := .int) (ty := .int) (t := 0) hx hb (hts _ wd_3) rfl rfl (nm_int hK) hN hS (fun _ h => h) (N := 10) (by decide) (by decide) (by decide) (Nat.le_of_ble_eq_true rfl) (Nat.le_of_ble_eq_true rfl) dX4_init_16 (fun H hN hq hS => ?_)
  refine x_putF hx hb hts inlX4 tyX4 tyX4_ok nmX4 hown hK hN hS (fun _ h => h) 0 (by decide) (fs := [.ref (o + 1), .null, .null, .null, .null, .null, .null, .null, .null, .int 0, .int 0, .int 0, .int 0]) rfl rfl 1 (by decide) (hts _ wd_53) rfl hin2 rfl (tyX4_ok 1 (by decide)) rfl rfl (Nat.le_of_ble_eq_true rfl) dX4_init_18 (fun H locs hN hq hS => ?_)
  refine lv_aload_n hx hb dX4_init_21 rfl (lv_at hl 0 rfl) ?_
  refine lv_iconst (v := 3) hx hb dX4_init_22 (by decide) ?_
  refine x_newa (atype := .int) (ty := .int) (t := 0) hx hb (hts _ wd_3) rfl rfl (nm_int hK) hN hS (fun _ h => h) (N := 3) (by decide) (by decide) (by decide) (Nat.le_of_ble_eq_true rfl) (Nat.le_of_ble_eq_true rfl) dX4_init_23 (fun H hN hq hS => ?_)
  refine x_putF hx hb hts inlX4 tyX4 tyX4_ok nmX4 hown hK hN hS (fun _ h => h) 0 (by decide) (fs := [.ref (o + 1), .ref (o + 2), .null, .null, .null, .null, .null, .null, .null, .int 0, .int 0, .int 0, .int 0]) rfl rfl 2 (by decide) (hts _ wd_54) rfl hin2 rfl (tyX4_ok 2 (by decide)) rfl rfl (Nat.le_of_ble_eq_true rfl) dX4_init_25 (fun H locs hN hq hS => ?_)
  refine lv_aload_n hx hb dX4_init_28 rfl (lv_at hl 0 rfl) ?_
  refine lv_bipush (v := 6) hx hb dX4_init_29 (by decide) ?_
  refine x_newa (atype := .int) (ty := .int) (t := 0) hx hb (hts _ wd_3) rfl rfl (nm_int hK) hN hS (fun _ h => h) (N := 6) (by decide) (by decide) (by decide) (Nat.le_of_ble_eq_true rfl) (Nat.le_of_ble_eq_true rfl) dX4_init_31 (fun H hN hq hS => ?_)
  refine x_putF hx hb hts inlX4 tyX4 tyX4_ok nmX4 hown hK hN hS (fun _ h => h) 0 (by decide) (fs := [.ref (o + 1), .ref (o + 2), .ref (o + 3), .null, .null, .null, .null, .null, .null, .int 0, .int 0, .int 0, .int 0]) rfl rfl 3 (by decide) (hts _ wd_55) rfl hin2 rfl (tyX4_ok 3 (by decide)) rfl rfl (Nat.le_of_ble_eq_true rfl) dX4_init_33 (fun H locs hN hq hS => ?_)
  refine lv_aload_n hx hb dX4_init_36 rfl (lv_at hl 0 rfl) ?_
  refine lv_bipush (v := 6) hx hb dX4_init_37 (by decide) ?_
  refine x_newa (atype := .int) (ty := .int) (t := 0) hx hb (hts _ wd_3) rfl rfl (nm_int hK) hN hS (fun _ h => h) (N := 6) (by decide) (by decide) (by decide) (Nat.le_of_ble_eq_true rfl) (Nat.le_of_ble_eq_true rfl) dX4_init_39 (fun H hN hq hS => ?_)
  refine x_putF hx hb hts inlX4 tyX4 tyX4_ok nmX4 hown hK hN hS (fun _ h => h) 0 (by decide) (fs := [.ref (o + 1), .ref (o + 2), .ref (o + 3), .ref (o + 4), .null, .null, .null, .null, .null, .int 0, .int 0, .int 0, .int 0]) rfl rfl 4 (by decide) (hts _ wd_56) rfl hin2 rfl (tyX4_ok 4 (by decide)) rfl rfl (Nat.le_of_ble_eq_true rfl) dX4_init_41 (fun H locs hN hq hS => ?_)
  refine lv_aload_n hx hb dX4_init_44 rfl (lv_at hl 0 rfl) ?_
  refine lv_bipush (v := 6) hx hb dX4_init_45 (by decide) ?_
  refine x_newa (atype := .int) (ty := .int) (t := 0) hx hb (hts _ wd_3) rfl rfl (nm_int hK) hN hS (fun _ h => h) (N := 6) (by decide) (by decide) (by decide) (Nat.le_of_ble_eq_true rfl) (Nat.le_of_ble_eq_true rfl) dX4_init_47 (fun H hN hq hS => ?_)
  refine x_putF hx hb hts inlX4 tyX4 tyX4_ok nmX4 hown hK hN hS (fun _ h => h) 0 (by decide) (fs := [.ref (o + 1), .ref (o + 2), .ref (o + 3), .ref (o + 4), .ref (o + 5), .null, .null, .null, .null, .int 0, .int 0, .int 0, .int 0]) rfl rfl 5 (by decide) (hts _ wd_57) rfl hin2 rfl (tyX4_ok 5 (by decide)) rfl rfl (Nat.le_of_ble_eq_true rfl) dX4_init_49 (fun H locs hN hq hS => ?_)
  refine lv_aload_n hx hb dX4_init_52 rfl (lv_at hl 0 rfl) ?_
  refine lv_bipush (v := 6) hx hb dX4_init_53 (by decide) ?_
  refine x_newa (atype := .int) (ty := .int) (t := 0) hx hb (hts _ wd_3) rfl rfl (nm_int hK) hN hS (fun _ h => h) (N := 6) (by decide) (by decide) (by decide) (Nat.le_of_ble_eq_true rfl) (Nat.le_of_ble_eq_true rfl) dX4_init_55 (fun H hN hq hS => ?_)
  refine x_putF hx hb hts inlX4 tyX4 tyX4_ok nmX4 hown hK hN hS (fun _ h => h) 0 (by decide) (fs := [.ref (o + 1), .ref (o + 2), .ref (o + 3), .ref (o + 4), .ref (o + 5), .ref (o + 6), .null, .null, .null, .int 0, .int 0, .int 0, .int 0]) rfl rfl 6 (by decide) (hts _ wd_58) rfl hin2 rfl (tyX4_ok 6 (by decide)) rfl rfl (Nat.le_of_ble_eq_true rfl) dX4_init_57 (fun H locs hN hq hS => ?_)
  refine lv_aload_n hx hb dX4_init_60 rfl (lv_at hl 0 rfl) ?_
  refine lv_sipush (v := 400) hx hb dX4_init_61 (by decide) ?_
  refine x_newa (atype := .byte) (ty := .byte) (t := 2) hx hb (hts _ wd_59) rfl rfl (nm_byte hK) hN hS (fun _ h => h) (N := 400) (by decide) (by decide) (by decide) (Nat.le_of_ble_eq_true rfl) (Nat.le_of_ble_eq_true rfl) dX4_init_64 (fun H hN hq hS => ?_)
  refine x_putF hx hb hts inlX4 tyX4 tyX4_ok nmX4 hown hK hN hS (fun _ h => h) 0 (by decide) (fs := [.ref (o + 1), .ref (o + 2), .ref (o + 3), .ref (o + 4), .ref (o + 5), .ref (o + 6), .ref (o + 7), .null, .null, .int 0, .int 0, .int 0, .int 0]) rfl rfl 7 (by decide) (hts _ wd_60) rfl hin2 rfl (tyX4_ok 7 (by decide)) rfl rfl (Nat.le_of_ble_eq_true rfl) dX4_init_66 (fun H locs hN hq hS => ?_)
  refine lv_aload_n hx hb dX4_init_69 rfl (lv_at hl 0 rfl) ?_
  refine x_new (ci := 0) (fs := [.null, .null, .null, .null, .null, .null, .int 0]) hx hb hts inlX0 tyX0 tyX0_ok hown (hts _ wd_61) (hts _ wd_62) (hts _ wd_63) hK rfl (co_dec_0) hN hS (fun _ h => h) (Nat.le_of_ble_eq_true rfl) (Nat.le_of_ble_eq_true rfl) dX4_init_70 (fun H hN hq hS => ?_)
  refine lv_dup hx hb dX4_init_73 rfl ?_
  refine x_initN (n := 9) (rest := [.ref (o + 9), .ref o]) ⟨hx, hb, hml, hown, hts⟩ (cX0_ctor l w (o + 9)) (gcwIN (host := "CallingLooms") hts wd_70 wd_69 wd_63 hK (List.mem_of_getElem? (i := 5) rfl) ⟨by decide +kernel, by decide +kernel, by decide +kernel⟩ rfl rfl rfl ⟨Nat.le_of_ble_eq_true rfl, Nat.le_of_ble_eq_true rfl⟩) hN rfl hK hS (fun _ h => h) hl.1 rfl (Nat.le_of_ble_eq_true rfl) dX4_init_74 ⟨Nat.le_of_ble_eq_true rfl, Nat.le_of_ble_eq_true rfl⟩ (fun H locs hN hq hS => ?_)
  refine x_putF hx hb hts inlX4 tyX4 tyX4_ok nmX4 hown hK hN hS (fun _ h => h) 0 (by decide) (fs := [.ref (o + 1), .ref (o + 2), .ref (o + 3), .ref (o + 4), .ref (o + 5), .ref (o + 6), .ref (o + 7), .ref (o + 8), .null, .int 0, .int 0, .int 0, .int 0]) rfl rfl 8 (by decide) (hts _ wd_64) rfl hin2 rfl (tyX4_ok 8 (by decide)) rfl rfl (Nat.le_of_ble_eq_true rfl) dX4_init_77 (fun H locs hN hq hS => ?_)
  refine lv_aload_n hx hb dX4_init_80 rfl (lv_at hl 0 rfl) ?_
  refine lv_iconst (v := 0) hx hb dX4_init_81 (by decide) ?_
  refine x_put hx hb hts inlX4 tyX4 tyX4_ok nmX4 hown hK hN hS (fun _ h => h) 0 (by decide) (fs := [.ref (o + 1), .ref (o + 2), .ref (o + 3), .ref (o + 4), .ref (o + 5), .ref (o + 6), .ref (o + 7), .ref (o + 8), .ref (o + 9), .int 0, .int 0, .int 0, .int 0]) rfl rfl 9 (by decide) (hts _ wd_65) rfl (tyX4_ok 9 (by decide)) rfl rfl (Nat.le_of_ble_eq_true rfl) dX4_init_82 (fun H locs hN hq hS => ?_)
  refine lv_aload_n hx hb dX4_init_85 rfl (lv_at hl 0 rfl) ?_
  refine lv_iconst (v := 0) hx hb dX4_init_86 (by decide) ?_
  refine x_put hx hb hts inlX4 tyX4 tyX4_ok nmX4 hown hK hN hS (fun _ h => h) 0 (by decide) (fs := [.ref (o + 1), .ref (o + 2), .ref (o + 3), .ref (o + 4), .ref (o + 5), .ref (o + 6), .ref (o + 7), .ref (o + 8), .ref (o + 9), .int 0, .int 0, .int 0, .int 0]) rfl rfl 10 (by decide) (hts _ wd_66) rfl (tyX4_ok 10 (by decide)) rfl rfl (Nat.le_of_ble_eq_true rfl) dX4_init_87 (fun H locs hN hq hS => ?_)
  refine lv_aload_n hx hb dX4_init_90 rfl (lv_at hl 0 rfl) ?_
  refine lv_iconst (v := 0) hx hb dX4_init_91 (by decide) ?_
  refine x_put hx hb hts inlX4 tyX4 tyX4_ok nmX4 hown hK hN hS (fun _ h => h) 0 (by decide) (fs := [.ref (o + 1), .ref (o + 2), .ref (o + 3), .ref (o + 4), .ref (o + 5), .ref (o + 6), .ref (o + 7), .ref (o + 8), .ref (o + 9), .int 0, .int 0, .int 0, .int 0]) rfl rfl 11 (by decide) (hts _ wd_67) rfl (tyX4_ok 11 (by decide)) rfl rfl (Nat.le_of_ble_eq_true rfl) dX4_init_92 (fun H locs hN hq hS => ?_)
  refine lv_aload_n hx hb dX4_init_95 rfl (lv_at hl 0 rfl) ?_
  refine lv_iconst (v := 0) hx hb dX4_init_96 (by decide) ?_
  refine x_put hx hb hts inlX4 tyX4 tyX4_ok nmX4 hown hK hN hS (fun _ h => h) 0 (by decide) (fs := [.ref (o + 1), .ref (o + 2), .ref (o + 3), .ref (o + 4), .ref (o + 5), .ref (o + 6), .ref (o + 7), .ref (o + 8), .ref (o + 9), .int 0, .int 0, .int 0, .int 0]) rfl rfl 12 (by decide) (hts _ wd_68) rfl (tyX4_ok 12 (by decide)) rfl rfl (Nat.le_of_ble_eq_true rfl) dX4_init_97 (fun H locs hN hq hS => ?_)
  refine lv_aload_n hx hb dX4_init_100 rfl (lv_at hl 0 rfl) ?_
  refine x_get hx hb hts inlX4 hown hK hN 0 (by decide) (fs := [.ref (o + 1), .ref (o + 2), .ref (o + 3), .ref (o + 4), .ref (o + 5), .ref (o + 6), .ref (o + 7), .ref (o + 8), .ref (o + 9), .int 0, .int 0, .int 0, .int 0]) rfl rfl 2 (by decide) (hts _ wd_54) (v := .ref (o + 3)) rfl dX4_init_101 ?_
  refine lv_iconst (v := 0) hx hb dX4_init_104 (by decide) ?_
  refine lv_iconst (v := 5) hx hb dX4_init_105 (by decide) ?_
  refine x_iast hx hb hK hN hS (fun _ h => h) 3 (by decide) (N := 3) (h := (fun _ => 0)) rfl (J := 0) (by decide) (by decide) dX4_init_106 (fun H locs hN hq hS => ?_)
  refine lv_aload_n hx hb dX4_init_107 rfl (lv_at hl 0 rfl) ?_
  refine x_get hx hb hts inlX4 hown hK hN 0 (by decide) (fs := [.ref (o + 1), .ref (o + 2), .ref (o + 3), .ref (o + 4), .ref (o + 5), .ref (o + 6), .ref (o + 7), .ref (o + 8), .ref (o + 9), .int 0, .int 0, .int 0, .int 0]) rfl rfl 2 (by decide) (hts _ wd_54) (v := .ref (o + 3)) rfl dX4_init_108 ?_
  refine lv_iconst (v := 1) hx hb dX4_init_111 (by decide) ?_
  refine lv_bipush (v := 20) hx hb dX4_init_112 (by decide) ?_
  refine x_iast hx hb hK hN hS (fun _ h => h) 3 (by decide) (N := 3) (h := (upd (fun _ => 0) 0 5)) rfl (J := 1) (by decide) (by decide) dX4_init_114 (fun H locs hN hq hS => ?_)
  refine lv_aload_n hx hb dX4_init_115 rfl (lv_at hl 0 rfl) ?_
  refine x_get hx hb hts inlX4 hown hK hN 0 (by decide) (fs := [.ref (o + 1), .ref (o + 2), .ref (o + 3), .ref (o + 4), .ref (o + 5), .ref (o + 6), .ref (o + 7), .ref (o + 8), .ref (o + 9), .int 0, .int 0, .int 0, .int 0]) rfl rfl 2 (by decide) (hts _ wd_54) (v := .ref (o + 3)) rfl dX4_init_116 ?_
  refine lv_iconst (v := 2) hx hb dX4_init_119 (by decide) ?_
  refine lv_bipush (v := 10) hx hb dX4_init_120 (by decide) ?_
  refine x_iast hx hb hK hN hS (fun _ h => h) 3 (by decide) (N := 3) (h := (upd (upd (fun _ => 0) 0 5) 1 20)) rfl (J := 2) (by decide) (by decide) dX4_init_122 (fun H locs hN hq hS => ?_)
  refine lv_iconst (v := 0) hx hb dX4_init_123 (by decide) ?_
  refine lv_istore_n (lv' := [(1, .int 0), (0, .ref o)]) hx hb dX4_init_124 rfl hl (by decide) rfl (fun ls hl => ?_)
  refine lv_iload_n hx hb dX4_init_125 rfl (lv_at hl 0 rfl) ?_
  refine lv_bipush (v := 6) hx hb dX4_init_126 (by decide) ?_
  refine lv_icmp_ge (tgt := 145) hx hb dX4_init_128 (by decide) (fun c => absurd c (by decide)) (fun c => ?_)
  refine lv_aload_n hx hb dX4_init_131 rfl (lv_at hl 1 rfl) ?_
  refine x_get hx hb hts inlX4 hown hK hN 0 (by decide) (fs := [.ref (o + 1), .ref (o + 2), .ref (o + 3), .ref (o + 4), .ref (o + 5), .ref (o + 6), .ref (o + 7), .ref (o + 8), .ref (o + 9), .int 0, .int 0, .int 0, .int 0]) rfl rfl 3 (by decide) (hts _ wd_55) (v := .ref (o + 4)) rfl dX4_init_132 ?_
  refine lv_iload_n hx hb dX4_init_135 rfl (lv_at hl 0 rfl) ?_
  refine lv_bipush (v := 50) hx hb dX4_init_136 (by decide) ?_
  refine x_iast hx hb hK hN hS (fun _ h => h) 4 (by decide) (N := 6) (h := (fun _ => 0)) rfl (J := 0) (by decide) (by decide) dX4_init_138 (fun H locs hN hq hS => ?_)
  refine lv_iinc (v := 1) (lv' := [(1, .int 1), (0, .ref o)]) hx hb dX4_init_139 hl (k := 0) rfl (by decide) (by decide) rfl (fun ls hl => ?_)
  refine lv_goto (tgt := 125) hx hb dX4_init_142 (by decide) ?_
  refine lv_iload_n hx hb dX4_init_125 rfl (lv_at hl 0 rfl) ?_
  refine lv_bipush (v := 6) hx hb dX4_init_126 (by decide) ?_
  refine lv_icmp_ge (tgt := 145) hx hb dX4_init_128 (by decide) (fun c => absurd c (by decide)) (fun c => ?_)
  refine lv_aload_n hx hb dX4_init_131 rfl (lv_at hl 1 rfl) ?_
  refine x_get hx hb hts inlX4 hown hK hN 0 (by decide) (fs := [.ref (o + 1), .ref (o + 2), .ref (o + 3), .ref (o + 4), .ref (o + 5), .ref (o + 6), .ref (o + 7), .ref (o + 8), .ref (o + 9), .int 0, .int 0, .int 0, .int 0]) rfl rfl 3 (by decide) (hts _ wd_55) (v := .ref (o + 4)) rfl dX4_init_132 ?_
  refine lv_iload_n hx hb dX4_init_135 rfl (lv_at hl 0 rfl) ?_
  refine lv_bipush (v := 50) hx hb dX4_init_136 (by decide) ?_
  refine x_iast hx hb hK hN hS (fun _ h => h) 4 (by decide) (N := 6) (h := (upd (fun _ => 0) 0 50)) rfl (J := 1) (by decide) (by decide) dX4_init_138 (fun H locs hN hq hS => ?_)
  refine lv_iinc (v := 2) (lv' := [(1, .int 2), (0, .ref o)]) hx hb dX4_init_139 hl (k := 0) rfl (by decide) (by decide) rfl (fun ls hl => ?_)
  refine lv_goto (tgt := 125) hx hb dX4_init_142 (by decide) ?_
  refine lv_iload_n hx hb dX4_init_125 rfl (lv_at hl 0 rfl) ?_
  refine lv_bipush (v := 6) hx hb dX4_init_126 (by decide) ?_
  refine lv_icmp_ge (tgt := 145) hx hb dX4_init_128 (by decide) (fun c => absurd c (by decide)) (fun c => ?_)
  refine lv_aload_n hx hb dX4_init_131 rfl (lv_at hl 1 rfl) ?_
  refine x_get hx hb hts inlX4 hown hK hN 0 (by decide) (fs := [.ref (o + 1), .ref (o + 2), .ref (o + 3), .ref (o + 4), .ref (o + 5), .ref (o + 6), .ref (o + 7), .ref (o + 8), .ref (o + 9), .int 0, .int 0, .int 0, .int 0]) rfl rfl 3 (by decide) (hts _ wd_55) (v := .ref (o + 4)) rfl dX4_init_132 ?_
  refine lv_iload_n hx hb dX4_init_135 rfl (lv_at hl 0 rfl) ?_
  refine lv_bipush (v := 50) hx hb dX4_init_136 (by decide) ?_
  refine x_iast hx hb hK hN hS (fun _ h => h) 4 (by decide) (N := 6) (h := (upd (upd (fun _ => 0) 0 50) 1 50)) rfl (J := 2) (by decide) (by decide) dX4_init_138 (fun H locs hN hq hS => ?_)
  refine lv_iinc (v := 3) (lv' := [(1, .int 3), (0, .ref o)]) hx hb dX4_init_139 hl (k := 0) rfl (by decide) (by decide) rfl (fun ls hl => ?_)
  refine lv_goto (tgt := 125) hx hb dX4_init_142 (by decide) ?_
  refine lv_iload_n hx hb dX4_init_125 rfl (lv_at hl 0 rfl) ?_
  refine lv_bipush (v := 6) hx hb dX4_init_126 (by decide) ?_
  refine lv_icmp_ge (tgt := 145) hx hb dX4_init_128 (by decide) (fun c => absurd c (by decide)) (fun c => ?_)
  refine lv_aload_n hx hb dX4_init_131 rfl (lv_at hl 1 rfl) ?_
  refine x_get hx hb hts inlX4 hown hK hN 0 (by decide) (fs := [.ref (o + 1), .ref (o + 2), .ref (o + 3), .ref (o + 4), .ref (o + 5), .ref (o + 6), .ref (o + 7), .ref (o + 8), .ref (o + 9), .int 0, .int 0, .int 0, .int 0]) rfl rfl 3 (by decide) (hts _ wd_55) (v := .ref (o + 4)) rfl dX4_init_132 ?_
  refine lv_iload_n hx hb dX4_init_135 rfl (lv_at hl 0 rfl) ?_
  refine lv_bipush (v := 50) hx hb dX4_init_136 (by decide) ?_
  refine x_iast hx hb hK hN hS (fun _ h => h) 4 (by decide) (N := 6) (h := (upd (upd (upd (fun _ => 0) 0 50) 1 50) 2 50)) rfl (J := 3) (by decide) (by decide) dX4_init_138 (fun H locs hN hq hS => ?_)
  refine lv_iinc (v := 4) (lv' := [(1, .int 4), (0, .ref o)]) hx hb dX4_init_139 hl (k := 0) rfl (by decide) (by decide) rfl (fun ls hl => ?_)
  refine lv_goto (tgt := 125) hx hb dX4_init_142 (by decide) ?_
  refine lv_iload_n hx hb dX4_init_125 rfl (lv_at hl 0 rfl) ?_
  refine lv_bipush (v := 6) hx hb dX4_init_126 (by decide) ?_
  refine lv_icmp_ge (tgt := 145) hx hb dX4_init_128 (by decide) (fun c => absurd c (by decide)) (fun c => ?_)
  refine lv_aload_n hx hb dX4_init_131 rfl (lv_at hl 1 rfl) ?_
  refine x_get hx hb hts inlX4 hown hK hN 0 (by decide) (fs := [.ref (o + 1), .ref (o + 2), .ref (o + 3), .ref (o + 4), .ref (o + 5), .ref (o + 6), .ref (o + 7), .ref (o + 8), .ref (o + 9), .int 0, .int 0, .int 0, .int 0]) rfl rfl 3 (by decide) (hts _ wd_55) (v := .ref (o + 4)) rfl dX4_init_132 ?_
  refine lv_iload_n hx hb dX4_init_135 rfl (lv_at hl 0 rfl) ?_
  refine lv_bipush (v := 50) hx hb dX4_init_136 (by decide) ?_
  refine x_iast hx hb hK hN hS (fun _ h => h) 4 (by decide) (N := 6) (h := (upd (upd (upd (upd (fun _ => 0) 0 50) 1 50) 2 50) 3 50)) rfl (J := 4) (by decide) (by decide) dX4_init_138 (fun H locs hN hq hS => ?_)
  refine lv_iinc (v := 5) (lv' := [(1, .int 5), (0, .ref o)]) hx hb dX4_init_139 hl (k := 0) rfl (by decide) (by decide) rfl (fun ls hl => ?_)
  refine lv_goto (tgt := 125) hx hb dX4_init_142 (by decide) ?_
  refine lv_iload_n hx hb dX4_init_125 rfl (lv_at hl 0 rfl) ?_
  refine lv_bipush (v := 6) hx hb dX4_init_126 (by decide) ?_
  refine lv_icmp_ge (tgt := 145) hx hb dX4_init_128 (by decide) (fun c => absurd c (by decide)) (fun c => ?_)
  refine lv_aload_n hx hb dX4_init_131 rfl (lv_at hl 1 rfl) ?_
  refine x_get hx hb hts inlX4 hown hK hN 0 (by decide) (fs := [.ref (o + 1), .ref (o + 2), .ref (o + 3), .ref (o + 4), .ref (o + 5), .ref (o + 6), .ref (o + 7), .ref (o + 8), .ref (o + 9), .int 0, .int 0, .int 0, .int 0]) rfl rfl 3 (by decide) (hts _ wd_55) (v := .ref (o + 4)) rfl dX4_init_132 ?_
  refine lv_iload_n hx hb dX4_init_135 rfl (lv_at hl 0 rfl) ?_
  refine lv_bipush (v := 50) hx hb dX4_init_136 (by decide) ?_
  refine x_iast hx hb hK hN hS (fun _ h => h) 4 (by decide) (N := 6) (h := (upd (upd (upd (upd (upd (fun _ => 0) 0 50) 1 50) 2 50) 3 50) 4 50)) rfl (J := 5) (by decide) (by decide) dX4_init_138 (fun H locs hN hq hS => ?_)
  refine lv_iinc (v := 6) (lv' := [(1, .int 6), (0, .ref o)]) hx hb dX4_init_139 hl (k := 0) rfl (by decide) (by decide) rfl (fun ls hl => ?_)
  refine lv_goto (tgt := 125) hx hb dX4_init_142 (by decide) ?_
  refine lv_iload_n hx hb dX4_init_125 rfl (lv_at hl 0 rfl) ?_
  refine lv_bipush (v := 6) hx hb dX4_init_126 (by decide) ?_
  refine lv_icmp_ge (tgt := 145) hx hb dX4_init_128 (by decide) (fun c => ?_) (fun c => absurd (by decide) c)
  have hN := hN.to (f' := fX4 w o) (lt_s (lt_s (lt_s (lt_s (lt_s (lt_s (lt_s (lt_s (lt_s (lt_s (lt_s (lt_s (lt_s (lt_s (lt_s (lt_s lt_0 rfl) rfl) rfl) rfl) rfl) rfl) rfl) rfl) rfl) rfl) rfl) rfl) rfl) rfl) rfl) rfl)
  exact W.vret hx hb hr (fun t ht hW => ⟨⟨(), rfl, trivial, by show NX w o 16 (fX4 w o) t.heap; rw [ht]; exact hN⟩, hS.F ht⟩) hS.2.2 dX4_init_145
def fX3 (w : GW) (o : Nat) : Nat → va_E := fun i => if i < 1 then .inr (3, [.ref (o + 1), .int 0]) else if i < 2 then .inl (w.2.1 4, 6, .inr (.inr (.inr (.inr (va_up (va_up (va_up (va_up (va_up (va_up (fun _ => none) 0 (some (o + 2))) 1 (some (o + 18))) 2 (some (o + 34))) 3 (some (o + 50))) 4 (some (o + 66))) 5 (some (o + 82))))))) else if i < 18 then fX4 w (o + 2) (i - 2) else if i < 34 then fX4 w (o + 18) (i - 18) else if i < 50 then fX4 w (o + 34) (i - 34) else if i < 66 then fX4 w (o + 50) (i - 50) else if i < 82 then fX4 w (o + 66) (i - 66) else if i < 98 then fX4 w (o + 82) (i - 82) else .inr (0, [])
set_option maxRecDepth 100000 in
set_option maxHeartbeats 8000000 in
theorem cX3_ctor (l : Launch) (w : GW) (o : Nat) : Met l yX3_init (wA yX3_init cX3_init 2 none) ({ frames := 3, cells := 97, slots := 3456, locals := 53 } : Room) (PX w o (.inr (3, [.null, .int 0])) [.ref o]) (QX w o 98 (fX3 w o)) 97 3456 (XR o) := by
  refine Met.ofW (cc := cX3_init) (maxL := 2) (ret := none) (by decide) rfl ?_
  intro p e s m args below meth c s₁ B hml hv
  obtain ⟨rfl, hN, hK⟩ := hv
  have hx := B.exec
  have hb := B.bytes
  have hr := B.returns
  have hts : ∀ q ∈ gALL, q.before _ s = true := fun q h => atoms_spec (ws := (wA yX3_init cX3_init 2 none)) B.pre q (List.mem_cons_of_mem _ h)
  have hown : s.vm.findClass RX3 = some m.cls := findClass_of_methodNamed B.named
  have hlocks := B.notSynchronized
  have hin2 : meth.name = "<init>" := (name_of_methodNamed B.named B.method).1
  have hS : va_S (XR o) s.heap s.heap [] := va_S.rf
  show W p l e ({ frames := 3, cells := 97, slots := 3456, locals := 53 } : Room) s m _ below meth c s.heap [] 0 0 (MQ below (QX w o 98 (fX3 w o)) _ s 97 3456 (XR o)) _
  have hl := lv_entry ([.ref o]) (n := 2) (Nat.le_of_ble_eq_true rfl)
  rw [lg_entry_eq]
  generalize (lg_sl ([.ref o]) ++ List.replicate (2 - (lg_sl ([.ref o])).length) Slot.unset).toArray = ls at hl ⊢
  clear B
  generalize ([.ref o] : List Value).toArray = args at hts ⊢
  have hl : lv_has ls 2 [(0, .ref o)] := hl
  refine lv_aload_n hx hb dX3_init_0 rfl (lv_at hl 0 rfl) ?_
  refine W.objInit hx hb hown (hts _ wd_83) (hts _ wd_8) (hts _ wd_9) rfl (by rw [hml]; exact hl.1) rfl dX3_init_1 (Nat.le_of_ble_eq_true rfl) (Nat.le_of_ble_eq_true rfl) ?_
  refine W.eq (g2 := F0 m 4 ls []) rfl ?_
  refine lv_aload_n hx hb dX3_init_4 rfl (lv_at hl 0 rfl) ?_
  refine lv_bipush (v := 6) hx hb dX3_init_5 (by decide) ?_
  refine x_newq (C := "CallingLooms$Loom") (t := 4) hx hb hown (hts _ wd_84) hK.2.2.2 (nm_lm hK) hN hS (fun _ h => h) (N := 6) (by decide) (by decide) (by decide) (Nat.le_of_ble_eq_true rfl) (Nat.le_of_ble_eq_true rfl) dX3_init_7 (fun H hN hq hS => ?_)
  refine x_putF hx hb hts inlX3 tyX3 tyX3_ok nmX3 hown hK hN hS (fun _ h => h) 0 (by decide) (fs := [.null, .int 0]) rfl rfl 0 (by decide) (hts _ wd_85) rfl hin2 rfl (tyX3_ok 0 (by decide)) rfl rfl (Nat.le_of_ble_eq_true rfl) dX3_init_10 (fun H locs hN hq hS => ?_)
  refine lv_aload_n hx hb dX3_init_13 rfl (lv_at hl 0 rfl) ?_
  refine lv_iconst (v := 0) hx hb dX3_init_14 (by decide) ?_
  refine x_put hx hb hts inlX3 tyX3 tyX3_ok nmX3 hown hK hN hS (fun _ h => h) 0 (by decide) (fs := [.ref (o + 1), .int 0]) rfl rfl 1 (by decide) (hts _ wd_86) rfl (tyX3_ok 1 (by decide)) rfl rfl (Nat.le_of_ble_eq_true rfl) dX3_init_15 (fun H locs hN hq hS => ?_)
  refine lv_iconst (v := 0) hx hb dX3_init_18 (by decide) ?_
  refine lv_istore_n (lv' := [(1, .int 0), (0, .ref o)]) hx hb dX3_init_19 rfl hl (by decide) rfl (fun ls hl => ?_)
  refine lv_iload_n hx hb dX3_init_20 rfl (lv_at hl 0 rfl) ?_
  refine lv_bipush (v := 6) hx hb dX3_init_21 (by decide) ?_
  refine lv_icmp_ge (tgt := 45) hx hb dX3_init_23 (by decide) (fun c => absurd c (by decide)) (fun c => ?_)
  refine lv_aload_n hx hb dX3_init_26 rfl (lv_at hl 1 rfl) ?_
  refine x_get hx hb hts inlX3 hown hK hN 0 (by decide) (fs := [.ref (o + 1), .int 0]) rfl rfl 0 (by decide) (hts _ wd_85) (v := .ref (o + 1)) rfl dX3_init_27 ?_
  refine lv_iload_n hx hb dX3_init_30 rfl (lv_at hl 0 rfl) ?_
  refine x_new (ci := 4) (fs := [.null, .null, .null, .null, .null, .null, .null, .null, .null, .int 0, .int 0, .int 0, .int 0]) hx hb hts inlX4 tyX4 tyX4_ok hown (hts _ wd_84) (hts _ wd_19) (hts _ wd_20) hK rfl (co_dec_4) hN hS (fun _ h => h) (Nat.le_of_ble_eq_true rfl) (Nat.le_of_ble_eq_true rfl) dX3_init_31 (fun H hN hq hS => ?_)
  refine lv_dup hx hb dX3_init_34 rfl ?_
  refine x_init (n := 2) (rest := [.ref (o + 2), .int 0, .ref (o + 1)]) ⟨hx, hb, hml, hown, hts⟩ (cX4_ctor l w (o + 2)) (gcwI hts wd_49 wd_48 wd_20 wd_87 ⟨by decide +kernel, by decide +kernel, by decide +kernel⟩ rfl rfl rfl ⟨Nat.le_of_ble_eq_true rfl, Nat.le_of_ble_eq_true rfl⟩) hN rfl hK hS (fun _ h => h) hl.1 rfl (Nat.le_of_ble_eq_true rfl) dX3_init_35 ⟨Nat.le_of_ble_eq_true rfl, Nat.le_of_ble_eq_true rfl⟩ (fun H locs hN hq hS => ?_)
  refine x_astq hx hb hK hN hS (fun _ h => h) 1 2 (by decide) (by decide) (N := 6) (t := 4) (ci := 4) (vs := go5 gz (o + 2)) (h := (fun _ => none)) rfl rfl rfl rfl (J := 0) (by decide) (by decide) dX3_init_38 (fun H locs hN hq hS => ?_)
  refine lv_iinc (v := 1) (lv' := [(1, .int 1), (0, .ref o)]) hx hb dX3_init_39 hl (k := 0) rfl (by decide) (by decide) rfl (fun ls hl => ?_)
  refine lv_goto (tgt := 20) hx hb dX3_init_42 (by decide) ?_
  refine lv_iload_n hx hb dX3_init_20 rfl (lv_at hl 0 rfl) ?_
  refine lv_bipush (v := 6) hx hb dX3_init_21 (by decide) ?_
  refine lv_icmp_ge (tgt := 45) hx hb dX3_init_23 (by decide) (fun c => absurd c (by decide)) (fun c => ?_)
  refine lv_aload_n hx hb dX3_init_26 rfl (lv_at hl 1 rfl) ?_
  refine x_get hx hb hts inlX3 hown hK hN 0 (by decide) (fs := [.ref (o + 1), .int 0]) rfl rfl 0 (by decide) (hts _ wd_85) (v := .ref (o + 1)) rfl dX3_init_27 ?_
  refine lv_iload_n hx hb dX3_init_30 rfl (lv_at hl 0 rfl) ?_
  refine x_new (ci := 4) (fs := [.null, .null, .null, .null, .null, .null, .null, .null, .null, .int 0, .int 0, .int 0, .int 0]) hx hb hts inlX4 tyX4 tyX4_ok hown (hts _ wd_84) (hts _ wd_19) (hts _ wd_20) hK rfl (co_dec_4) hN hS (fun _ h => h) (Nat.le_of_ble_eq_true rfl) (Nat.le_of_ble_eq_true rfl) dX3_init_31 (fun H hN hq hS => ?_)
  refine lv_dup hx hb dX3_init_34 rfl ?_
  refine x_init (n := 18) (rest := [.ref (o + 18), .int 1, .ref (o + 1)]) ⟨hx, hb, hml, hown, hts⟩ (cX4_ctor l w (o + 18)) (gcwI hts wd_49 wd_48 wd_20 wd_87 ⟨by decide +kernel, by decide +kernel, by decide +kernel⟩ rfl rfl rfl ⟨Nat.le_of_ble_eq_true rfl, Nat.le_of_ble_eq_true rfl⟩) hN rfl hK hS (fun _ h => h) hl.1 rfl (Nat.le_of_ble_eq_true rfl) dX3_init_35 ⟨Nat.le_of_ble_eq_true rfl, Nat.le_of_ble_eq_true rfl⟩ (fun H locs hN hq hS => ?_)
  refine x_astq hx hb hK hN hS (fun _ h => h) 1 18 (by decide) (by decide) (N := 6) (t := 4) (ci := 4) (vs := go5 gz (o + 18)) (h := (va_up (fun _ => none) 0 (some (o + 2)))) rfl rfl rfl rfl (J := 1) (by decide) (by decide) dX3_init_38 (fun H locs hN hq hS => ?_)
  refine lv_iinc (v := 2) (lv' := [(1, .int 2), (0, .ref o)]) hx hb dX3_init_39 hl (k := 0) rfl (by decide) (by decide) rfl (fun ls hl => ?_)
  refine lv_goto (tgt := 20) hx hb dX3_init_42 (by decide) ?_
  refine lv_iload_n hx hb dX3_init_20 rfl (lv_at hl 0 rfl) ?_
  refine lv_bipush (v := 6) hx hb dX3_init_21 (by decide) ?_
  refine lv_icmp_ge (tgt := 45) hx hb dX3_init_23 (by decide) (fun c => absurd c (by decide)) (fun c => ?_)
  refine lv_aload_n hx hb dX3_init_26 rfl (lv_at hl 1 rfl) ?_
  refine x_get hx hb hts inlX3 hown hK hN 0 (by decide) (fs := [.ref (o + 1), .int 0]) rfl rfl 0 (by decide) (hts _ wd_85) (v := .ref (o + 1)) rfl dX3_init_27 ?_
  refine lv_iload_n hx hb dX3_init_30 rfl (lv_at hl 0 rfl) ?_
  refine x_new (ci := 4) (fs := [.null, .null, .null, .null, .null, .null, .null, .null, .null, .int 0, .int 0, .int 0, .int 0]) hx hb hts inlX4 tyX4 tyX4_ok hown (hts _ wd_84) (hts _ wd_19) (hts _ wd_20) hK rfl (co_dec_4) hN hS (fun _ h => h) (Nat.le_of_ble_eq_true rfl) (Nat.le_of_ble_eq_true rfl) dX3_init_31 (fun H hN hq hS => ?_)
  refine lv_dup hx hb dX3_init_34 rfl ?_
  refine x_init (n := 34) (rest := [.ref (o + 34), .int 2, .ref (o + 1)]) ⟨hx, hb, hml, hown, hts⟩ (cX4_ctor l w (o + 34)) (gcwI hts wd_49 wd_48 wd_20 wd_87 ⟨by decide +kernel, by decide +kernel, by decide +kernel⟩ rfl rfl rfl ⟨Nat.le_of_ble_eq_true rfl, Nat.le_of_ble_eq_true rfl⟩) hN rfl hK hS (fun _ h => h) hl.1 rfl (Nat.le_of_ble_eq_true rfl) dX3_init_35 ⟨Nat.le_of_ble_eq_true rfl, Nat.le_of_ble_eq_true rfl⟩ (fun H locs hN hq hS => ?_)
  refine x_astq hx hb hK hN hS (fun _ h => h) 1 34 (by decide) (by decide) (N := 6) (t := 4) (ci := 4) (vs := go5 gz (o + 34)) (h := (va_up (va_up (fun _ => none) 0 (some (o + 2))) 1 (some (o + 18)))) rfl rfl rfl rfl (J := 2) (by decide) (by decide) dX3_init_38 (fun H locs hN hq hS => ?_)
  refine lv_iinc (v := 3) (lv' := [(1, .int 3), (0, .ref o)]) hx hb dX3_init_39 hl (k := 0) rfl (by decide) (by decide) rfl (fun ls hl => ?_)
  refine lv_goto (tgt := 20) hx hb dX3_init_42 (by decide) ?_
  refine lv_iload_n hx hb dX3_init_20 rfl (lv_at hl 0 rfl) ?_
  refine lv_bipush (v := 6) hx hb dX3_init_21 (by decide) ?_
  refine lv_icmp_ge (tgt := 45) hx hb dX3_init_23 (by decide) (fun c => absurd c (by decide)) (fun c => ?_)
  refine lv_aload_n hx hb dX3_init_26 rfl (lv_at hl 1 rfl) ?_
  refine x_get hx hb hts inlX3 hown hK hN 0 (by decide) (fs := [.ref (o + 1), .int 0]) rfl rfl 0 (by decide) (hts _ wd_85) (v := .ref (o + 1)) rfl dX3_init_27 ?_
  refine lv_iload_n hx hb dX3_init_30 rfl (lv_at hl 0 rfl) ?_
  refine x_new (ci := 4) (fs := [.null, .null, .null, .null, .null, .null, .null, .null, .null, .int 0, .int 0, .int 0, .int 0]) hx hb hts inlX4 tyX4 tyX4_ok hown (hts _ wd_84) (hts _ wd_19) (hts _ wd_20) hK rfl (co_dec_4) hN hS (fun _ h => h) (Nat.le_of_ble_eq_true rfl) (Nat.le_of_ble_eq_true rfl) dX3_init_31 (fun H hN hq hS => ?_)
  refine lv_dup hx hb dX3_init_34 rfl ?_
  refine x_init (n := 50) (rest := [.ref (o + 50), .int 3, .ref (o + 1)]) ⟨hx, hb, hml, hown, hts⟩ (cX4_ctor l w (o + 50)) (gcwI hts wd_49 wd_48 wd_20 wd_87 ⟨by decide +kernel, by decide +kernel, by decide +kernel⟩ rfl rfl rfl ⟨Nat.le_of_ble_eq_true rfl, Nat.le_of_ble_eq_true rfl⟩) hN rfl hK hS (fun _ h => h) hl.1 rfl (Nat.le_of_ble_eq_true rfl) dX3_init_35 ⟨Nat.le_of_ble_eq_true rfl, Nat.le_of_ble_eq_true rfl⟩ (fun H locs hN hq hS => ?_)
  refine x_astq hx hb hK hN hS (fun _ h => h) 1 50 (by decide) (by decide) (N := 6) (t := 4) (ci := 4) (vs := go5 gz (o + 50)) (h := (va_up (va_up (va_up (fun _ => none) 0 (some (o + 2))) 1 (some (o + 18))) 2 (some (o + 34)))) rfl rfl rfl rfl (J := 3) (by decide) (by decide) dX3_init_38 (fun H locs hN hq hS => ?_)
  refine lv_iinc (v := 4) (lv' := [(1, .int 4), (0, .ref o)]) hx hb dX3_init_39 hl (k := 0) rfl (by decide) (by decide) rfl (fun ls hl => ?_)
  refine lv_goto (tgt := 20) hx hb dX3_init_42 (by decide) ?_
  refine lv_iload_n hx hb dX3_init_20 rfl (lv_at hl 0 rfl) ?_
  refine lv_bipush (v := 6) hx hb dX3_init_21 (by decide) ?_
  refine lv_icmp_ge (tgt := 45) hx hb dX3_init_23 (by decide) (fun c => absurd c (by decide)) (fun c => ?_)
  refine lv_aload_n hx hb dX3_init_26 rfl (lv_at hl 1 rfl) ?_
  refine x_get hx hb hts inlX3 hown hK hN 0 (by decide) (fs := [.ref (o + 1), .int 0]) rfl rfl 0 (by decide) (hts _ wd_85) (v := .ref (o + 1)) rfl dX3_init_27 ?_
  refine lv_iload_n hx hb dX3_init_30 rfl (lv_at hl 0 rfl) ?_
  refine x_new (ci := 4) (fs := [.null, .null, .null, .null, .null, .null, .null, .null, .null, .int 0, .int 0, .int 0, .int 0]) hx hb hts inlX4 tyX4 tyX4_ok hown (hts _ wd_84) (hts _ wd_19) (hts _ wd_20) hK rfl (co_dec_4) hN hS (fun _ h => h) (Nat.le_of_ble_eq_true rfl) (Nat.le_of_ble_eq_true rfl) dX3_init_31 (fun H hN hq hS => ?_)
  refine lv_dup hx hb dX3_init_34 rfl ?_
  refine x_init (n := 66) (rest := [.ref (o + 66), .int 4, .ref (o + 1)]) ⟨hx, hb, hml, hown, hts⟩ (cX4_ctor l w (o + 66)) (gcwI hts wd_49 wd_48 wd_20 wd_87 ⟨by decide +kernel, by decide +kernel, by decide +kernel⟩ rfl rfl rfl ⟨Nat.le_of_ble_eq_true rfl, Nat.le_of_ble_eq_true rfl⟩) hN rfl hK hS (fun _ h => h) hl.1 rfl (Nat.le_of_ble_eq_true rfl) dX3_init_35 ⟨Nat.le_of_ble_eq_true rfl, Nat.le_of_ble_eq_true rfl⟩ (fun H locs hN hq hS => ?_)
  refine x_astq hx hb hK hN hS (fun _ h => h) 1 66 (by decide) (by decide) (N := 6) (t := 4) (ci := 4) (vs := go5 gz (o + 66)) (h := (va_up (va_up (va_up (va_up (fun _ => none) 0 (some (o + 2))) 1 (some (o + 18))) 2 (some (o + 34))) 3 (some (o + 50)))) rfl rfl rfl rfl (J := 4) (by decide) (by decide) dX3_init_38 (fun H locs hN hq hS => ?_)
  refine lv_iinc (v := 5) (lv' := [(1, .int 5), (0, .ref o)]) hx hb dX3_init_39 hl (k := 0) rfl (by decide) (by decide) rfl (fun ls hl => ?_)
  refine lv_goto (tgt := 20) hx hb dX3_init_42 (by decide) ?_
  refine lv_iload_n hx hb dX3_init_20 rfl (lv_at hl 0 rfl) ?_
  refine lv_bipush (v := 6) hx hb dX3_init_21 (by decide) ?_
  refine lv_icmp_ge (tgt := 45) hx hb dX3_init_23 (by decide) (fun c => absurd c (by decide)) (fun c => ?_)
  refine lv_aload_n hx hb dX3_init_26 rfl (lv_at hl 1 rfl) ?_
  refine x_get hx hb hts inlX3 hown hK hN 0 (by decide) (fs := [.ref (o + 1), .int 0]) rfl rfl 0 (by decide) (hts _ wd_85) (v := .ref (o + 1)) rfl dX3_init_27 ?_
  refine lv_iload_n hx hb dX3_init_30 rfl (lv_at hl 0 rfl) ?_
  refine x_new (ci := 4) (fs := [.null, .null, .null, .null, .null, .null, .null, .null, .null, .int 0, .int 0, .int 0, .int 0]) hx hb hts inlX4 tyX4 tyX4_ok hown (hts _ wd_84) (hts _ wd_19) (hts _ wd_20) hK rfl (co_dec_4) hN hS (fun _ h => h) (Nat.le_of_ble_eq_true rfl) (Nat.le_of_ble_eq_true rfl) dX3_init_31 (fun H hN hq hS => ?_)
  refine lv_dup hx hb dX3_init_34 rfl ?_
  refine x_init (n := 82) (rest := [.ref (o + 82), .int 5, .ref (o + 1)]) ⟨hx, hb, hml, hown, hts⟩ (cX4_ctor l w (o + 82)) (gcwI hts wd_49 wd_48 wd_20 wd_87 ⟨by decide +kernel, by decide +kernel, by decide +kernel⟩ rfl rfl rfl ⟨Nat.le_of_ble_eq_true rfl, Nat.le_of_ble_eq_true rfl⟩) hN rfl hK hS (fun _ h => h) hl.1 rfl (Nat.le_of_ble_eq_true rfl) dX3_init_35 ⟨Nat.le_of_ble_eq_true rfl, Nat.le_of_ble_eq_true rfl⟩ (fun H locs hN hq hS => ?_)
  refine x_astq hx hb hK hN hS (fun _ h => h) 1 82 (by decide) (by decide) (N := 6) (t := 4) (ci := 4) (vs := go5 gz (o + 82)) (h := (va_up (va_up (va_up (va_up (va_up (fun _ => none) 0 (some (o + 2))) 1 (some (o + 18))) 2 (some (o + 34))) 3 (some (o + 50))) 4 (some (o + 66)))) rfl rfl rfl rfl (J := 5) (by decide) (by decide) dX3_init_38 (fun H locs hN hq hS => ?_)
  refine lv_iinc (v := 6) (lv' := [(1, .int 6), (0, .ref o)]) hx hb dX3_init_39 hl (k := 0) rfl (by decide) (by decide) rfl (fun ls hl => ?_)
  refine lv_goto (tgt := 20) hx hb dX3_init_42 (by decide) ?_
  refine lv_iload_n hx hb dX3_init_20 rfl (lv_at hl 0 rfl) ?_
  refine lv_bipush (v := 6) hx hb dX3_init_21 (by decide) ?_
  refine lv_icmp_ge (tgt := 45) hx hb dX3_init_23 (by decide) (fun c => ?_) (fun c => absurd (by decide) c)
  have hN := hN.to (f' := fX3 w o) (lt_s (lt_s (lt_s (lt_s (lt_s (lt_s (lt_s (lt_s (lt_s (lt_s (lt_s (lt_s (lt_s (lt_s (lt_s (lt_s (lt_s (lt_s (lt_s (lt_s (lt_s (lt_s (lt_s (lt_s (lt_s (lt_s (lt_s (lt_s (lt_s (lt_s (lt_s (lt_s (lt_s (lt_s (lt_s (lt_s (lt_s (lt_s (lt_s (lt_s (lt_s (lt_s (lt_s (lt_s (lt_s (lt_s (lt_s (lt_s (lt_s (lt_s (lt_s (lt_s (lt_s (lt_s (lt_s (lt_s (lt_s (lt_s (lt_s (lt_s (lt_s (lt_s (lt_s (lt_s (lt_s (lt_s (lt_s (lt_s (lt_s (lt_s (lt_s (lt_s (lt_s (lt_s (lt_s (lt_s (lt_s (lt_s (lt_s (lt_s (lt_s (lt_s (lt_s (lt_s (lt_s (lt_s (lt_s (lt_s (lt_s (lt_s (lt_s (lt_s (lt_s (lt_s (lt_s (lt_s (lt_s (lt_s lt_0 rfl) rfl) rfl) rfl) rfl) rfl) rfl) rfl) rfl) rfl) rfl) rfl) rfl) rfl) rfl) rfl) rfl) rfl) rfl) rfl) rfl) rfl) rfl) rfl) rfl) rfl) rfl) rfl) rfl) rfl) rfl) rfl) rfl) rfl) rfl) rfl) rfl) rfl) rfl) rfl) rfl) rfl) rfl) rfl) rfl) rfl) rfl) rfl) rfl) rfl) rfl) rfl) rfl) rfl) rfl) rfl) rfl) rfl) rfl) rfl) rfl) rfl) rfl) rfl) rfl) rfl) rfl) rfl) rfl) rfl) rfl) rfl) rfl) rfl) rfl) rfl) rfl) rfl) rfl) rfl) rfl) rfl) rfl) rfl) rfl) rfl) rfl) rfl) rfl) rfl) rfl) rfl) rfl) rfl) rfl) rfl) rfl) rfl)
  exact W.vret hx hb hr (fun t ht hW => ⟨⟨(), rfl, trivial, by show NX w o 98 (fX3 w o) t.heap; rw [ht]; exact hN⟩, hS.F ht⟩) hS.2.2 dX3_init_45
def fX7 (w : GW) (o : Nat) : Nat → va_E := fun i => if i < 1 then .inr (7, [.ref (o + 1), .ref (o + 3), .ref (o + 10), .ref (o + 26), .ref (o + 42), .ref (o + 140), .ref (o + 141)]) else if i < 3 then fX5 w (o + 1) (i - 1) else if i < 10 then fX6 w (o + 3) (i - 3) else if i < 26 then fX4 w (o + 10) (i - 10) else if i < 42 then fX4 w (o + 26) (i - 26) else if i < 140 then fX3 w (o + 42) (i - 42) else if i < 141 then .inl (w.2.1 4, 2, .inr (.inr (.inr (.inr (fun _ => none))))) else if i < 144 then fX2 w (o + 141) (i - 141) else .inr (0, [])
set_option maxRecDepth 100000 in
set_option maxHeartbeats 8000000 in
theorem cX7_ctor (l : Launch) (w : GW) (o : Nat) : Met l yX7_init (wA yX7_init cX7_init 1 none) ({ frames := 4, cells := 143, slots := 5180, locals := 74 } : Room) (PX w o (.inr (7, [.null, .null, .null, .null, .null, .null, .null])) [.ref o]) (QX w o 144 (fX7 w o)) 143 5180 (XR o) := by
  refine Met.ofW (cc := cX7_init) (maxL := 1) (ret := none) (by decide) rfl ?_
  intro p e s m args below meth c s₁ B hml hv
  obtain ⟨rfl, hN, hK⟩ := hv
  have hx := B.exec
  have hb := B.bytes
  have hr := B.returns
  have hts : ∀ q ∈ gALL, q.before _ s = true := fun q h => atoms_spec (ws := (wA yX7_init cX7_init 1 none)) B.pre q (List.mem_cons_of_mem _ h)
  have hown : s.vm.findClass RX7 = some m.cls := findClass_of_methodNamed B.named
  have hlocks := B.notSynchronized
  have hin2 : meth.name = "<init>" := (name_of_methodNamed B.named B.method).1
  have hS : va_S (XR o) s.heap s.heap [] := va_S.rf
  show W p l e ({ frames := 4, cells := 143, slots := 5180, locals := 74 } : Room) s m _ below meth c s.heap [] 0 0 (MQ below (QX w o 144 (fX7 w o)) _ s 143 5180 (XR o)) _
  have hl := lv_entry ([.ref o]) (n := 1) (Nat.le_of_ble_eq_true rfl)
  rw [lg_entry_eq]
  generalize (lg_sl ([.ref o]) ++ List.replicate (1 - (lg_sl ([.ref o])).length) Slot.unset).toArray = ls at hl ⊢
  clear B
  generalize ([.ref o] : List Value).toArray = args at hts ⊢
  have hl : lv_has ls 1 [(0, .ref o)] := hl
  refine lv_aload_n hx hb dX7_init_0 rfl (lv_at hl 0 rfl) ?_
  refine W.objInit hx hb hown (hts _ wd_7) (hts _ wd_8) (hts _ wd_9) rfl (by rw [hml]; exact hl.1) rfl dX7_init_1 (Nat.le_of_ble_eq_true rfl) (Nat.le_of_ble_eq_true rfl) ?_
  refine W.eq (g2 := F0 m 4 ls []) rfl ?_
  refine lv_aload_n hx hb dX7_init_4 rfl (lv_at hl 0 rfl) ?_
  refine x_new (ci := 5) (fs := [.null, .int 0]) hx hb hts inlX5 tyX5 tyX5_ok hown (hts _ wd_10) (hts _ wd_11) (hts _ wd_12) hK rfl (co_dec_5) hN hS (fun _ h => h) (Nat.le_of_ble_eq_true rfl) (Nat.le_of_ble_eq_true rfl) dX7_init_5 (fun H hN hq hS => ?_)
  refine lv_dup hx hb dX7_init_8 rfl ?_
  refine x_initN (n := 1) (rest := [.ref (o + 1), .ref o]) ⟨hx, hb, hml, hown, hts⟩ (cX5_ctor l w (o + 1)) (gcwIN (host := "CallingLooms") hts wd_33 wd_32 wd_12 hK (List.mem_of_getElem? (i := 6) rfl) ⟨by decide +kernel, by decide +kernel, by decide +kernel⟩ rfl rfl rfl ⟨Nat.le_of_ble_eq_true rfl, Nat.le_of_ble_eq_true rfl⟩) hN rfl hK hS (fun _ h => h) hl.1 rfl (Nat.le_of_ble_eq_true rfl) dX7_init_9 ⟨Nat.le_of_ble_eq_true rfl, Nat.le_of_ble_eq_true rfl⟩ (fun H locs hN hq hS => ?_)
  refine x_putF hx hb hts inlX7 tyX7 tyX7_ok nmX7 hown hK hN hS (fun _ h => h) 0 (by decide) (fs := [.null, .null, .null, .null, .null, .null, .null]) rfl rfl 0 (by decide) (hts _ wd_13) rfl hin2 rfl (tyX7_ok 0 (by decide)) rfl rfl (Nat.le_of_ble_eq_true rfl) dX7_init_12 (fun H locs hN hq hS => ?_)
  refine lv_aload_n hx hb dX7_init_15 rfl (lv_at hl 0 rfl) ?_
  refine x_new (ci := 6) (fs := [.null, .null, .null, .null, .null, .int 0, .int 0, .int 0, .int 0, .null, .int 0, .int 0, .int 0]) hx hb hts inlX6 tyX6 tyX6_ok hown (hts _ wd_14) (hts _ wd_15) (hts _ wd_16) hK rfl (co_dec_6) hN hS (fun _ h => h) (Nat.le_of_ble_eq_true rfl) (Nat.le_of_ble_eq_true rfl) dX7_init_16 (fun H hN hq hS => ?_)
  refine lv_dup hx hb dX7_init_19 rfl ?_
  refine x_initN (n := 3) (rest := [.ref (o + 3), .ref o]) ⟨hx, hb, hml, hown, hts⟩ (cX6_ctor l w (o + 3)) (gcwIN (host := "CallingLooms") hts wd_39 wd_38 wd_16 hK (List.mem_of_getElem? (i := 7) rfl) ⟨by decide +kernel, by decide +kernel, by decide +kernel⟩ rfl rfl rfl ⟨Nat.le_of_ble_eq_true rfl, Nat.le_of_ble_eq_true rfl⟩) hN rfl hK hS (fun _ h => h) hl.1 rfl (Nat.le_of_ble_eq_true rfl) dX7_init_20 ⟨Nat.le_of_ble_eq_true rfl, Nat.le_of_ble_eq_true rfl⟩ (fun H locs hN hq hS => ?_)
  refine x_putF hx hb hts inlX7 tyX7 tyX7_ok nmX7 hown hK hN hS (fun _ h => h) 0 (by decide) (fs := [.ref (o + 1), .null, .null, .null, .null, .null, .null]) rfl rfl 1 (by decide) (hts _ wd_17) rfl hin2 rfl (tyX7_ok 1 (by decide)) rfl rfl (Nat.le_of_ble_eq_true rfl) dX7_init_23 (fun H locs hN hq hS => ?_)
  refine lv_aload_n hx hb dX7_init_26 rfl (lv_at hl 0 rfl) ?_
  refine x_new (ci := 4) (fs := [.null, .null, .null, .null, .null, .null, .null, .null, .null, .int 0, .int 0, .int 0, .int 0]) hx hb hts inlX4 tyX4 tyX4_ok hown (hts _ wd_18) (hts _ wd_19) (hts _ wd_20) hK rfl (co_dec_4) hN hS (fun _ h => h) (Nat.le_of_ble_eq_true rfl) (Nat.le_of_ble_eq_true rfl) dX7_init_27 (fun H hN hq hS => ?_)
  refine lv_dup hx hb dX7_init_30 rfl ?_
  refine x_init (n := 10) (rest := [.ref (o + 10), .ref o]) ⟨hx, hb, hml, hown, hts⟩ (cX4_ctor l w (o + 10)) (gcwI hts wd_49 wd_48 wd_20 wd_47 ⟨by decide +kernel, by decide +kernel, by decide +kernel⟩ rfl rfl rfl ⟨Nat.le_of_ble_eq_true rfl, Nat.le_of_ble_eq_true rfl⟩) hN rfl hK hS (fun _ h => h) hl.1 rfl (Nat.le_of_ble_eq_true rfl) dX7_init_31 ⟨Nat.le_of_ble_eq_true rfl, Nat.le_of_ble_eq_true rfl⟩ (fun H locs hN hq hS => ?_)
  refine x_putF hx hb hts inlX7 tyX7 tyX7_ok nmX7 hown hK hN hS (fun _ h => h) 0 (by decide) (fs := [.ref (o + 1), .ref (o + 3), .null, .null, .null, .null, .null]) rfl rfl 2 (by decide) (hts _ wd_21) rfl hin2 rfl (tyX7_ok 2 (by decide)) rfl rfl (Nat.le_of_ble_eq_true rfl) dX7_init_34 (fun H locs hN hq hS => ?_)
  refine lv_aload_n hx hb dX7_init_37 rfl (lv_at hl 0 rfl) ?_
  refine x_new (ci := 4) (fs := [.null, .null, .null, .null, .null, .null, .null, .null, .null, .int 0, .int 0, .int 0, .int 0]) hx hb hts inlX4 tyX4 tyX4_ok hown (hts _ wd_18) (hts _ wd_19) (hts _ wd_20) hK rfl (co_dec_4) hN hS (fun _ h => h) (Nat.le_of_ble_eq_true rfl) (Nat.le_of_ble_eq_true rfl) dX7_init_38 (fun H hN hq hS => ?_)
  refine lv_dup hx hb dX7_init_41 rfl ?_
  refine x_init (n := 26) (rest := [.ref (o + 26), .ref o]) ⟨hx, hb, hml, hown, hts⟩ (cX4_ctor l w (o + 26)) (gcwI hts wd_49 wd_48 wd_20 wd_47 ⟨by decide +kernel, by decide +kernel, by decide +kernel⟩ rfl rfl rfl ⟨Nat.le_of_ble_eq_true rfl, Nat.le_of_ble_eq_true rfl⟩) hN rfl hK hS (fun _ h => h) hl.1 rfl (Nat.le_of_ble_eq_true rfl) dX7_init_42 ⟨Nat.le_of_ble_eq_true rfl, Nat.le_of_ble_eq_true rfl⟩ (fun H locs hN hq hS => ?_)
  refine x_putF hx hb hts inlX7 tyX7 tyX7_ok nmX7 hown hK hN hS (fun _ h => h) 0 (by decide) (fs := [.ref (o + 1), .ref (o + 3), .ref (o + 10), .null, .null, .null, .null]) rfl rfl 3 (by decide) (hts _ wd_22) rfl hin2 rfl (tyX7_ok 3 (by decide)) rfl rfl (Nat.le_of_ble_eq_true rfl) dX7_init_45 (fun H locs hN hq hS => ?_)
  refine lv_aload_n hx hb dX7_init_48 rfl (lv_at hl 0 rfl) ?_
  refine x_new (ci := 3) (fs := [.null, .int 0]) hx hb hts inlX3 tyX3 tyX3_ok hown (hts _ wd_23) (hts _ wd_24) (hts _ wd_25) hK rfl (co_dec_3) hN hS (fun _ h => h) (Nat.le_of_ble_eq_true rfl) (Nat.le_of_ble_eq_true rfl) dX7_init_49 (fun H hN hq hS => ?_)
  refine lv_dup hx hb dX7_init_52 rfl ?_
  refine x_init (n := 42) (rest := [.ref (o + 42), .ref o]) ⟨hx, hb, hml, hown, hts⟩ (cX3_ctor l w (o + 42)) (gcwI hts wd_82 wd_81 wd_25 wd_80 ⟨by decide +kernel, by decide +kernel, by decide +kernel⟩ rfl rfl rfl ⟨Nat.le_of_ble_eq_true rfl, Nat.le_of_ble_eq_true rfl⟩) hN rfl hK hS (fun _ h => h) hl.1 rfl (Nat.le_of_ble_eq_true rfl) dX7_init_53 ⟨Nat.le_of_ble_eq_true rfl, Nat.le_of_ble_eq_true rfl⟩ (fun H locs hN hq hS => ?_)
  refine x_putF hx hb hts inlX7 tyX7 tyX7_ok nmX7 hown hK hN hS (fun _ h => h) 0 (by decide) (fs := [.ref (o + 1), .ref (o + 3), .ref (o + 10), .ref (o + 26), .null, .null, .null]) rfl rfl 4 (by decide) (hts _ wd_26) rfl hin2 rfl (tyX7_ok 4 (by decide)) rfl rfl (Nat.le_of_ble_eq_true rfl) dX7_init_56 (fun H locs hN hq hS => ?_)
  refine lv_aload_n hx hb dX7_init_59 rfl (lv_at hl 0 rfl) ?_
  refine lv_iconst (v := 2) hx hb dX7_init_60 (by decide) ?_
  refine x_newq (C := "CallingLooms$Loom") (t := 4) hx hb hown (hts _ wd_18) hK.2.2.2 (nm_lm hK) hN hS (fun _ h => h) (N := 2) (by decide) (by decide) (by decide) (Nat.le_of_ble_eq_true rfl) (Nat.le_of_ble_eq_true rfl) dX7_init_61 (fun H hN hq hS => ?_)
  refine x_putF hx hb hts inlX7 tyX7 tyX7_ok nmX7 hown hK hN hS (fun _ h => h) 0 (by decide) (fs := [.ref (o + 1), .ref (o + 3), .ref (o + 10), .ref (o + 26), .ref (o + 42), .null, .null]) rfl rfl 5 (by decide) (hts _ wd_27) rfl hin2 rfl (tyX7_ok 5 (by decide)) rfl rfl (Nat.le_of_ble_eq_true rfl) dX7_init_64 (fun H locs hN hq hS => ?_)
  refine lv_aload_n hx hb dX7_init_67 rfl (lv_at hl 0 rfl) ?_
  refine x_new (ci := 2) (fs := [.null, .null]) hx hb hts inlX2 tyX2 tyX2_ok hown (hts _ wd_28) (hts _ wd_29) (hts _ wd_30) hK rfl (co_dec_2) hN hS (fun _ h => h) (Nat.le_of_ble_eq_true rfl) (Nat.le_of_ble_eq_true rfl) dX7_init_68 (fun H hN hq hS => ?_)
  refine lv_dup hx hb dX7_init_71 rfl ?_
  refine x_initN (n := 141) (rest := [.ref (o + 141), .ref o]) ⟨hx, hb, hml, hown, hts⟩ (cX2_ctor l w (o + 141)) (gcwIN (host := "CallingLooms") hts wd_89 wd_88 wd_30 hK (List.mem_of_getElem? (i := 8) rfl) ⟨by decide +kernel, by decide +kernel, by decide +kernel⟩ rfl rfl rfl ⟨Nat.le_of_ble_eq_true rfl, Nat.le_of_ble_eq_true rfl⟩) hN rfl hK hS (fun _ h => h) hl.1 rfl (Nat.le_of_ble_eq_true rfl) dX7_init_72 ⟨Nat.le_of_ble_eq_true rfl, Nat.le_of_ble_eq_true rfl⟩ (fun H locs hN hq hS => ?_)
  refine x_putF hx hb hts inlX7 tyX7 tyX7_ok nmX7 hown hK hN hS (fun _ h => h) 0 (by decide) (fs := [.ref (o + 1), .ref (o + 3), .ref (o + 10), .ref (o + 26), .ref (o + 42), .ref (o + 140), .null]) rfl rfl 6 (by decide) (hts _ wd_31) rfl hin2 rfl (tyX7_ok 6 (by decide)) rfl rfl (Nat.le_of_ble_eq_true rfl) dX7_init_75 (fun H locs hN hq hS => ?_)
  have hN := hN.to (f' := fX7 w o) (lt_s (lt_s (lt_s (lt_s (lt_s (lt_s (lt_s (lt_s (lt_s (lt_s (lt_s (lt_s (lt_s (lt_s (lt_s (lt_s (lt_s (lt_s (lt_s (lt_s (lt_s (lt_s (lt_s (lt_s (lt_s (lt_s (lt_s (lt_s (lt_s (lt_s (lt_s (lt_s (lt_s (lt_s (lt_s (lt_s (lt_s (lt_s (lt_s (lt_s (lt_s (lt_s (lt_s (lt_s (lt_s (lt_s (lt_s (lt_s (lt_s (lt_s (lt_s (lt_s (lt_s (lt_s (lt_s (lt_s (lt_s (lt_s (lt_s (lt_s (lt_s (lt_s (lt_s (lt_s (lt_s (lt_s (lt_s (lt_s (lt_s (lt_s (lt_s (lt_s (lt_s (lt_s (lt_s (lt_s (lt_s (lt_s (lt_s (lt_s (lt_s (lt_s (lt_s (lt_s (lt_s (lt_s (lt_s (lt_s (lt_s (lt_s (lt_s (lt_s (lt_s (lt_s (lt_s (lt_s (lt_s (lt_s (lt_s (lt_s (lt_s (lt_s (lt_s (lt_s (lt_s (lt_s (lt_s (lt_s (lt_s (lt_s (lt_s (lt_s (lt_s (lt_s (lt_s (lt_s (lt_s (lt_s (lt_s (lt_s (lt_s (lt_s (lt_s (lt_s (lt_s (lt_s (lt_s (lt_s (lt_s (lt_s (lt_s (lt_s (lt_s (lt_s (lt_s (lt_s (lt_s (lt_s (lt_s (lt_s (lt_s (lt_s (lt_s (lt_s lt_0 rfl) rfl) rfl) rfl) rfl) rfl) rfl) rfl) rfl) rfl) rfl) rfl) rfl) rfl) rfl) rfl) rfl) rfl) rfl) rfl) rfl) rfl) rfl) rfl) rfl) rfl) rfl) rfl) rfl) rfl) rfl) rfl) rfl) rfl) rfl) rfl) rfl) rfl) rfl) rfl) rfl) rfl) rfl) rfl) rfl) rfl) rfl) rfl) rfl) rfl) rfl) rfl) rfl) rfl) rfl) rfl) rfl) rfl) rfl) rfl) rfl) rfl) rfl) rfl) rfl) rfl) rfl) rfl) rfl) rfl) rfl) rfl) rfl) rfl) rfl) rfl) rfl) rfl) rfl) rfl) rfl) rfl) rfl) rfl) rfl) rfl) rfl) rfl) rfl) rfl) rfl) rfl) rfl) rfl) rfl) rfl) rfl) rfl) rfl) rfl) rfl) rfl) rfl) rfl) rfl) rfl) rfl) rfl) rfl) rfl) rfl) rfl) rfl) rfl) rfl) rfl) rfl) rfl) rfl) rfl) rfl) rfl) rfl) rfl) rfl) rfl) rfl) rfl) rfl) rfl) rfl) rfl) rfl) rfl) rfl) rfl) rfl) rfl) rfl) rfl) rfl) rfl) rfl) rfl)
  exact W.vret hx hb hr (fun t ht hW => ⟨⟨(), rfl, trivial, by show NX w o 144 (fX7 w o) t.heap; rw [ht]; exact hN⟩, hS.F ht⟩) hS.2.2 dX7_init_78
