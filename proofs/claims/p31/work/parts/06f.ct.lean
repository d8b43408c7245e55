/-! BLOCKS OF NEW CELLS -/
def gcellB (w : GW) (a : Nat) (kn : Nat × Nat) (r : Nat → Int32) (q : Nat → Option Nat) : Option va_E := gcell w (fun _ => kn, 0) (fun _ => r, fun _ => q) a
def gKx (K : GK) (n : Nat) (kt : Nat → Nat × Nat) : GK := (fun q => if q < K.2 then K.1 q else if q < K.2 + n then kt (q - K.2) else (0, 0), K.2 + n)
def gGx (g : GM) (o : Nat) (gi : Nat → Nat → Int32) (gr : Nat → Nat → Option Nat) : GM := (fun q => if q < o then g.1 q else gi (q - o), fun q => if q < o then g.2 q else gr (q - o))
theorem gKx_at {K : GK} {n i : Nat} {kt : Nat → Nat × Nat} (h : i < n) : (gKx K n kt).1 (K.2 + i) = kt i := by
  unfold gKx
  simp only []
  rw [if_neg (by omega), if_pos (by omega), show K.2 + i - K.2 = i by omega]
theorem gGx_at1 {g : GM} {o i : Nat} {gi : Nat → Nat → Int32} {gr : Nat → Nat → Option Nat} : (gGx g o gi gr).1 (o + i) = gi i := by
  unfold gGx
  simp only []
  rw [if_neg (by omega), show o + i - o = i by omega]
theorem gGx_at2 {g : GM} {o i : Nat} {gi : Nat → Nat → Int32} {gr : Nat → Nat → Option Nat} : (gGx g o gi gr).2 (o + i) = gr i := by
  unfold gGx
  simp only []
  rw [if_neg (by omega), show o + i - o = i by omega]
theorem gKx_lo {K : GK} {n q : Nat} {kt : Nat → Nat × Nat} (h : q < K.2) : (gKx K n kt).1 q = K.1 q := by
  unfold gKx
  simp only []
  rw [if_pos h]
theorem gGx_lo1 {g : GM} {o q : Nat} {gi : Nat → Nat → Int32} {gr : Nat → Nat → Option Nat} (h : q < o) : (gGx g o gi gr).1 q = g.1 q := by
  unfold gGx
  simp only []
  rw [if_pos h]
theorem gGx_lo2 {g : GM} {o q : Nat} {gi : Nat → Nat → Int32} {gr : Nat → Nat → Option Nat} (h : q < o) : (gGx g o gi gr).2 q = g.2 q := by
  unfold gGx
  simp only []
  rw [if_pos h]
theorem gcell_B {w : GW} {K : GK} {g : GM} {a : Nat} : gcell w K g a = gcellB w a (K.1 a) (g.1 a) (g.2 a) := by
  unfold gcellB gcell go1 go2 go3 go4 go5 go6 go7 go8 gI gkd gkn
  rfl
theorem HR.extB {w : GW} {K : GK} {g : GM} {S : GS} {H : Heap} {n z : Nat} {f : Nat → va_E} (hH : HR w (K.1, z) g S H) (hN : NX w K.2 n f H) (hlt : ∀ a, gkd K a ≠ 0 → a < K.2) (hM : w.2.2.2 + 8 ≤ K.2) (kt : Nat → Nat × Nat) (gi : Nat → Nat → Int32) (gr : Nat → Nat → Option Nat)
    (hc : ∀ i, i < n → gcellB w (K.2 + i) (kt i) (gi i) (gr i) = some (f i)) (hs : ∀ i, i < n → ∀ t ∈ gsubs (kt i).1 (kt i).2, i + t.1 < n ∧ kt (i + t.1) = t.2) : HR w (gKx K n kt) (gGx g K.2 gi gr) S H := by
  refine HR.ext hH hN hlt hM (fun q hq => gKx_lo hq) rfl (fun q hq => ?_) (fun q hq => ⟨gGx_lo1 hq, gGx_lo2 hq⟩) (fun i hi => ?_) (fun i hi t ht => ?_)
  · unfold gkd gKx
    simp only []
    rw [if_neg (by omega), if_neg (by omega)]
  · rw [gcell_B, gKx_at hi, gGx_at1, gGx_at2]
    exact hc i hi
  · unfold gkd gkn at ht
    rw [gKx_at hi] at ht
    obtain ⟨h1, h2⟩ := hs i hi t ht
    rw [show K.2 + i + t.1 = K.2 + (i + t.1) by omega, gKx_at h1]
    exact h2
/-- a new CardText, out of a reader -/
def ktCT (N : Nat) : Nat → Nat × Nat := fun i => match i with
  | 0 => (2, N) | 1 => (11, N) | 2 => (10, N) | 3 => (10, N) | 4 => (10, N) | _ => (10, N)
def giCT (g : GM) (r : Nat) : Nat → Nat → Int32 := fun i => match i with
  | 0 => fun k => match k with
    | 0 => gI g r 5 | 1 => gI g r 6 | 2 => gI g r 7 | 3 => gI g r 8 | _ => 0
  | 1 => va_cpy (g.1 (r + 1)) (fun _ => 0) 0 0 (gI g r 5).toNatClampNeg
  | 2 => va_cpy (g.1 (r + 2)) (fun _ => 0) 0 0 (gI g r 5).toNatClampNeg
  | 3 => va_cpy (g.1 (r + 3)) (fun _ => 0) 0 0 (gI g r 5).toNatClampNeg
  | 4 => va_cpy (g.1 (r + 4)) (fun _ => 0) 0 0 (gI g r 5).toNatClampNeg
  | _ => va_cpy (g.1 (r + 5)) (fun _ => 0) 0 0 (gI g r 5).toNatClampNeg
def fnCT (K : GK) (g : GM) (r : Nat) : Option (GK × GM) := gd (decide (gkd K r = 7)) (gd (gok (gI g r 5) 81) (gd (gft .char (g.1 (r + 1)) 0 (gI g r 5)) (some (gKx K 6 (ktCT (gI g r 5).toNatClampNeg), gGx g K.2 (giCT g r) (fun _ _ => none)))))
/-- a new Loom: its kinds and contents -/
def ktLm : Nat → Nat × Nat := fun i => match i with
  | 0 => (5, 0) | 1 => (13, 10) | 2 => (10, 10) | 3 => (10, 3) | 4 => (10, 6) | 5 => (10, 6) | 6 => (10, 6) | 7 => (10, 6) | 8 => (12, 400) | 9 => (1, 0) | 10 => (10, 9) | 11 => (10, 9) | 12 => (10, 9) | 13 => (10, 36) | 14 => (10, 36) | _ => (13, 9)
def giLm : Nat → Nat → Int32 := fun i => match i with
  | 3 => upd (upd (upd (fun _ => 0) 0 5) 1 20) 2 10
  | 4 => upd (upd (upd (upd (upd (upd (fun _ => 0) 0 50) 1 50) 2 50) 3 50) 4 50) 5 50
  | _ => fun _ => 0
def fnLm (K : GK) (g : GM) : GK × GM := (gKx K 16 ktLm, gGx g K.2 giLm (fun _ _ => none))
def fX1 (w : GW) (K : GK) (g : GM) (r : Nat) : Nat → va_E := fun i => if i < 1 then .inr (1, [.int (gI g r 5), .int (gI g r 6), .int (gI g r 7), .int (gI g r 8), .ref (K.2 + 1), .ref (K.2 + 2), .ref (K.2 + 3), .ref (K.2 + 4), .ref (K.2 + 5)]) else if i < 2 then .inl (w.2.1 1, (gI g r 5).toNatClampNeg, .inl (va_cpy (g.1 (r + 1)) (fun _ => 0) 0 0 (gI g r 5).toNatClampNeg)) else if i < 3 then .inl (w.2.1 0, (gI g r 5).toNatClampNeg, .inl (va_cpy (g.1 (r + 2)) (fun _ => 0) 0 0 (gI g r 5).toNatClampNeg)) else if i < 4 then .inl (w.2.1 0, (gI g r 5).toNatClampNeg, .inl (va_cpy (g.1 (r + 3)) (fun _ => 0) 0 0 (gI g r 5).toNatClampNeg)) else if i < 5 then .inl (w.2.1 0, (gI g r 5).toNatClampNeg, .inl (va_cpy (g.1 (r + 4)) (fun _ => 0) 0 0 (gI g r 5).toNatClampNeg)) else if i < 6 then .inl (w.2.1 0, (gI g r 5).toNatClampNeg, .inl (va_cpy (g.1 (r + 5)) (fun _ => 0) 0 0 (gI g r 5).toNatClampNeg)) else .inr (0, [])
abbrev PCT (w : GW) (K : GK) (g : GM) (S : GS) (r : Nat) : Array Value → State → Prop := va_Pc [.ref K.2, .ref r] (fun U => HR w (K.1, K.2 + 1) g S U.heap ∧ NX w K.2 1 (fun _ => (.inr (1, [.int 0, .int 0, .int 0, .int 0, .null, .null, .null, .null, .null]))) U.heap ∧ KN w U)
abbrev QCT (w : GW) (o : Nat) (K : GK) (g : GM) (S : GS) : Array Value → State → Outcome → State → Prop := va_Qv (fun (_ : Unit) => True) (fun _ t => HR w K g S t.heap) (XR o)
set_option maxRecDepth 100000 in
set_option maxHeartbeats 8000000 in
theorem cX1_ctor (l : Launch) (w : GW) (K : GK) (g : GM) (S : GS) (r : Nat) (out : GK × GM) (hf : fnCT K g r = some out) (hlt : ∀ a, gkd K a ≠ 0 → a < K.2) (hM : w.2.2.2 + 8 ≤ K.2) : Met l yX1_init (wA yX1_init cX1_init 2 none) ({ frames := 1, cells := 5, slots := 400, locals := 60 } : Room) (PCT w K g S r) (QCT w K.2 out.1 out.2 S) 5 400 (XR K.2) := by
  unfold fnCT at hf
  obtain ⟨hkr, hf⟩ := gd_some hf
  have hkr := gk_obj hkr
  obtain ⟨hn, hf⟩ := gd_some hf
  obtain ⟨hch, hf⟩ := gd_some hf
  have ho := Option.some.inj hf
  have hn := of_decide_eq_true hn
  have hN0 : ¬ (gI g r 5) < 0 := fun h => by have := Int32.lt_iff_toInt_lt.mp h; simp at this; omega
  have hN80 : (gI g r 5).toNatClampNeg ≤ 80 := by show (gI g r 5).toInt.toNat ≤ 80; omega
  have hb_char : (gI g r 5).toNatClampNeg * componentBytes .char ≤ 536870912 := by rw [show componentBytes .char = 2 from rfl]; omega
  have hb_int : (gI g r 5).toNatClampNeg * componentBytes .int ≤ 536870912 := by rw [show componentBytes .int = 4 from rfl]; omega
  refine Met.ofW (cc := cX1_init) (maxL := 2) (ret := none) (by decide) rfl ?_
  intro p e s m args below meth c s₁ B hml hv
  obtain ⟨rfl, hH, hN, hK⟩ := hv
  have hx := B.exec
  have hb := B.bytes
  have hr := B.returns
  have hts : ∀ q ∈ gALL, q.before _ s = true := fun q h => atoms_spec (ws := (wA yX1_init cX1_init 2 none)) B.pre q (List.mem_cons_of_mem _ h)
  have hown : s.vm.findClass RX1 = some m.cls := findClass_of_methodNamed B.named
  have hlocks := B.notSynchronized
  have hin2 : meth.name = "<init>" := (name_of_methodNamed B.named B.method).1
  have hS : va_S (XR K.2) s.heap s.heap [] := va_S.rf
  show W p l e ({ frames := 1, cells := 5, slots := 400, locals := 60 } : Room) s m _ below meth c s.heap [] 0 0 (MQ below (QCT w K.2 out.1 out.2 S) _ s 5 400 (XR K.2)) _
  have hl := lv_entry ([.ref K.2, .ref r]) (n := 2) (Nat.le_of_ble_eq_true rfl)
  rw [lg_entry_eq]
  generalize (lg_sl ([.ref K.2, .ref r]) ++ List.replicate (2 - (lg_sl ([.ref K.2, .ref r])).length) Slot.unset).toArray = ls at hl ⊢
  clear B
  generalize ([.ref K.2, .ref r] : List Value).toArray = args at hts ⊢
  have hl : lv_has ls 2 [(0, .ref K.2), (1, .ref r)] := hl
  have kr1 : K.1 (r + 1) = (11, 80) := hH.sub (a := r) hkr 0 (t := (1, 11, 80)) rfl
  have kr2 : K.1 (r + 2) = (10, 80) := hH.sub (a := r) hkr 1 (t := (2, 10, 80)) rfl
  have kr3 : K.1 (r + 3) = (10, 80) := hH.sub (a := r) hkr 2 (t := (3, 10, 80)) rfl
  have kr4 : K.1 (r + 4) = (10, 80) := hH.sub (a := r) hkr 3 (t := (4, 10, 80)) rfl
  have kr5 : K.1 (r + 5) = (10, 80) := hH.sub (a := r) hkr 4 (t := (5, 10, 80)) rfl
  refine lv_aload_n hx hb dX1_init_0 rfl (lv_at hl 0 rfl) ?_
  refine W.objInit hx hb hown (hts _ wd_301) (hts _ wd_8) (hts _ wd_9) rfl (by rw [hml]; exact hl.1) rfl dX1_init_1 (Nat.le_of_ble_eq_true rfl) (Nat.le_of_ble_eq_true rfl) ?_
  refine W.eq (g2 := F0 m 4 ls []) rfl ?_
  refine lv_aload_n hx hb dX1_init_4 rfl (lv_at hl 0 rfl) ?_
  refine lv_aload_n hx hb dX1_init_5 rfl (lv_at hl 1 rfl) ?_
  refine e_6_5 hx hb hts hown hK hH hkr (hts _ wd_302) dX1_init_6 ?_
  refine x_putF hx hb hts inlX1 tyX1 tyX1_ok nmX1 hown hK hN hS (fun _ h => h) 0 (by decide) (fs := [.int 0, .int 0, .int 0, .int 0, .null, .null, .null, .null, .null]) rfl rfl 0 (by decide) (hts _ wd_303) rfl hin2 rfl (tyX1_ok 0 (by decide)) rfl rfl (Nat.le_of_ble_eq_true rfl) dX1_init_9 (fun H locs hN hq hS => ?_)
  have hH := hH.old hN hq hlt hM
  refine lv_aload_n hx hb dX1_init_12 rfl (lv_at hl 0 rfl) ?_
  refine lv_aload_n hx hb dX1_init_13 rfl (lv_at hl 1 rfl) ?_
  refine e_6_6 hx hb hts hown hK hH hkr (hts _ wd_304) dX1_init_14 ?_
  refine x_putF hx hb hts inlX1 tyX1 tyX1_ok nmX1 hown hK hN hS (fun _ h => h) 0 (by decide) (fs := [.int (gI g r 5), .int 0, .int 0, .int 0, .null, .null, .null, .null, .null]) rfl rfl 1 (by decide) (hts _ wd_305) rfl hin2 rfl (tyX1_ok 1 (by decide)) rfl rfl (Nat.le_of_ble_eq_true rfl) dX1_init_17 (fun H locs hN hq hS => ?_)
  have hH := hH.old hN hq hlt hM
  refine lv_aload_n hx hb dX1_init_20 rfl (lv_at hl 0 rfl) ?_
  refine lv_aload_n hx hb dX1_init_21 rfl (lv_at hl 1 rfl) ?_
  refine e_6_7 hx hb hts hown hK hH hkr (hts _ wd_306) dX1_init_22 ?_
  refine x_putF hx hb hts inlX1 tyX1 tyX1_ok nmX1 hown hK hN hS (fun _ h => h) 0 (by decide) (fs := [.int (gI g r 5), .int (gI g r 6), .int 0, .int 0, .null, .null, .null, .null, .null]) rfl rfl 2 (by decide) (hts _ wd_307) rfl hin2 rfl (tyX1_ok 2 (by decide)) rfl rfl (Nat.le_of_ble_eq_true rfl) dX1_init_25 (fun H locs hN hq hS => ?_)
  have hH := hH.old hN hq hlt hM
  refine lv_aload_n hx hb dX1_init_28 rfl (lv_at hl 0 rfl) ?_
  refine lv_aload_n hx hb dX1_init_29 rfl (lv_at hl 1 rfl) ?_
  refine e_6_8 hx hb hts hown hK hH hkr (hts _ wd_308) dX1_init_30 ?_
  refine x_putF hx hb hts inlX1 tyX1 tyX1_ok nmX1 hown hK hN hS (fun _ h => h) 0 (by decide) (fs := [.int (gI g r 5), .int (gI g r 6), .int (gI g r 7), .int 0, .null, .null, .null, .null, .null]) rfl rfl 3 (by decide) (hts _ wd_309) rfl hin2 rfl (tyX1_ok 3 (by decide)) rfl rfl (Nat.le_of_ble_eq_true rfl) dX1_init_33 (fun H locs hN hq hS => ?_)
  have hH := hH.old hN hq hlt hM
  refine lv_aload_n hx hb dX1_init_36 rfl (lv_at hl 0 rfl) ?_
  refine lv_aload_n hx hb dX1_init_37 rfl (lv_at hl 0 rfl) ?_
  refine x_get hx hb hts inlX1 hown hK hN 0 (by decide) (fs := [.int (gI g r 5), .int (gI g r 6), .int (gI g r 7), .int (gI g r 8), .null, .null, .null, .null, .null]) rfl rfl 0 (by decide) (hts _ wd_303) (v := .int (gI g r 5)) rfl dX1_init_38 ?_
  refine x_newa (atype := .char) (ty := .char) (t := 1) hx hb (hts _ wd_35) rfl rfl (nm_char hK) hN hS (fun _ h => h) (N := (gI g r 5).toNatClampNeg) hN0 rfl hb_char (by show _ + 1 ≤ 5; omega) (by show 0 + (gI g r 5).toNatClampNeg ≤ 400; omega) dX1_init_41 (fun H hN hq hS => ?_)
  have hH := hH.old hN hq hlt hM
  refine W.widen (k := 1) (n := 80) (Nat.le_refl _) (by omega) ?_
  refine x_putF hx hb hts inlX1 tyX1 tyX1_ok nmX1 hown hK hN hS (fun _ h => h) 0 (by decide) (fs := [.int (gI g r 5), .int (gI g r 6), .int (gI g r 7), .int (gI g r 8), .null, .null, .null, .null, .null]) rfl rfl 4 (by decide) (hts _ wd_310) rfl hin2 rfl (tyX1_ok 4 (by decide)) rfl rfl (Nat.le_of_ble_eq_true rfl) dX1_init_43 (fun H locs hN hq hS => ?_)
  have hH := hH.old hN hq hlt hM
  refine lv_aload_n hx hb dX1_init_46 rfl (lv_at hl 0 rfl) ?_
  refine lv_aload_n hx hb dX1_init_47 rfl (lv_at hl 0 rfl) ?_
  refine x_get hx hb hts inlX1 hown hK hN 0 (by decide) (fs := [.int (gI g r 5), .int (gI g r 6), .int (gI g r 7), .int (gI g r 8), .ref (K.2 + 1), .null, .null, .null, .null]) rfl rfl 0 (by decide) (hts _ wd_303) (v := .int (gI g r 5)) rfl dX1_init_48 ?_
  refine x_newa (atype := .int) (ty := .int) (t := 0) hx hb (hts _ wd_3) rfl rfl (nm_int hK) hN hS (fun _ h => h) (N := (gI g r 5).toNatClampNeg) hN0 rfl hb_int (by show _ + 1 ≤ 5; omega) (by show 80 + (gI g r 5).toNatClampNeg ≤ 400; omega) dX1_init_51 (fun H hN hq hS => ?_)
  have hH := hH.old hN hq hlt hM
  refine W.widen (k := 2) (n := 160) (Nat.le_refl _) (by omega) ?_
  refine x_putF hx hb hts inlX1 tyX1 tyX1_ok nmX1 hown hK hN hS (fun _ h => h) 0 (by decide) (fs := [.int (gI g r 5), .int (gI g r 6), .int (gI g r 7), .int (gI g r 8), .ref (K.2 + 1), .null, .null, .null, .null]) rfl rfl 5 (by decide) (hts _ wd_311) rfl hin2 rfl (tyX1_ok 5 (by decide)) rfl rfl (Nat.le_of_ble_eq_true rfl) dX1_init_53 (fun H locs hN hq hS => ?_)
  have hH := hH.old hN hq hlt hM
  refine lv_aload_n hx hb dX1_init_56 rfl (lv_at hl 0 rfl) ?_
  refine lv_aload_n hx hb dX1_init_57 rfl (lv_at hl 0 rfl) ?_
  refine x_get hx hb hts inlX1 hown hK hN 0 (by decide) (fs := [.int (gI g r 5), .int (gI g r 6), .int (gI g r 7), .int (gI g r 8), .ref (K.2 + 1), .ref (K.2 + 2), .null, .null, .null]) rfl rfl 0 (by decide) (hts _ wd_303) (v := .int (gI g r 5)) rfl dX1_init_58 ?_
  refine x_newa (atype := .int) (ty := .int) (t := 0) hx hb (hts _ wd_3) rfl rfl (nm_int hK) hN hS (fun _ h => h) (N := (gI g r 5).toNatClampNeg) hN0 rfl hb_int (by show _ + 1 ≤ 5; omega) (by show 160 + (gI g r 5).toNatClampNeg ≤ 400; omega) dX1_init_61 (fun H hN hq hS => ?_)
  have hH := hH.old hN hq hlt hM
  refine W.widen (k := 3) (n := 240) (Nat.le_refl _) (by omega) ?_
  refine x_putF hx hb hts inlX1 tyX1 tyX1_ok nmX1 hown hK hN hS (fun _ h => h) 0 (by decide) (fs := [.int (gI g r 5), .int (gI g r 6), .int (gI g r 7), .int (gI g r 8), .ref (K.2 + 1), .ref (K.2 + 2), .null, .null, .null]) rfl rfl 6 (by decide) (hts _ wd_312) rfl hin2 rfl (tyX1_ok 6 (by decide)) rfl rfl (Nat.le_of_ble_eq_true rfl) dX1_init_63 (fun H locs hN hq hS => ?_)
  have hH := hH.old hN hq hlt hM
  refine lv_aload_n hx hb dX1_init_66 rfl (lv_at hl 0 rfl) ?_
  refine lv_aload_n hx hb dX1_init_67 rfl (lv_at hl 0 rfl) ?_
  refine x_get hx hb hts inlX1 hown hK hN 0 (by decide) (fs := [.int (gI g r 5), .int (gI g r 6), .int (gI g r 7), .int (gI g r 8), .ref (K.2 + 1), .ref (K.2 + 2), .ref (K.2 + 3), .null, .null]) rfl rfl 0 (by decide) (hts _ wd_303) (v := .int (gI g r 5)) rfl dX1_init_68 ?_
  refine x_newa (atype := .int) (ty := .int) (t := 0) hx hb (hts _ wd_3) rfl rfl (nm_int hK) hN hS (fun _ h => h) (N := (gI g r 5).toNatClampNeg) hN0 rfl hb_int (by show _ + 1 ≤ 5; omega) (by show 240 + (gI g r 5).toNatClampNeg ≤ 400; omega) dX1_init_71 (fun H hN hq hS => ?_)
  have hH := hH.old hN hq hlt hM
  refine W.widen (k := 4) (n := 320) (Nat.le_refl _) (by omega) ?_
  refine x_putF hx hb hts inlX1 tyX1 tyX1_ok nmX1 hown hK hN hS (fun _ h => h) 0 (by decide) (fs := [.int (gI g r 5), .int (gI g r 6), .int (gI g r 7), .int (gI g r 8), .ref (K.2 + 1), .ref (K.2 + 2), .ref (K.2 + 3), .null, .null]) rfl rfl 7 (by decide) (hts _ wd_313) rfl hin2 rfl (tyX1_ok 7 (by decide)) rfl rfl (Nat.le_of_ble_eq_true rfl) dX1_init_73 (fun H locs hN hq hS => ?_)
  have hH := hH.old hN hq hlt hM
  refine lv_aload_n hx hb dX1_init_76 rfl (lv_at hl 0 rfl) ?_
  refine lv_aload_n hx hb dX1_init_77 rfl (lv_at hl 0 rfl) ?_
  refine x_get hx hb hts inlX1 hown hK hN 0 (by decide) (fs := [.int (gI g r 5), .int (gI g r 6), .int (gI g r 7), .int (gI g r 8), .ref (K.2 + 1), .ref (K.2 + 2), .ref (K.2 + 3), .ref (K.2 + 4), .null]) rfl rfl 0 (by decide) (hts _ wd_303) (v := .int (gI g r 5)) rfl dX1_init_78 ?_
  refine x_newa (atype := .int) (ty := .int) (t := 0) hx hb (hts _ wd_3) rfl rfl (nm_int hK) hN hS (fun _ h => h) (N := (gI g r 5).toNatClampNeg) hN0 rfl hb_int (by show _ + 1 ≤ 5; omega) (by show 320 + (gI g r 5).toNatClampNeg ≤ 400; omega) dX1_init_81 (fun H hN hq hS => ?_)
  have hH := hH.old hN hq hlt hM
  refine W.widen (k := 5) (n := 400) (Nat.le_refl _) (by omega) ?_
  refine x_putF hx hb hts inlX1 tyX1 tyX1_ok nmX1 hown hK hN hS (fun _ h => h) 0 (by decide) (fs := [.int (gI g r 5), .int (gI g r 6), .int (gI g r 7), .int (gI g r 8), .ref (K.2 + 1), .ref (K.2 + 2), .ref (K.2 + 3), .ref (K.2 + 4), .null]) rfl rfl 8 (by decide) (hts _ wd_314) rfl hin2 rfl (tyX1_ok 8 (by decide)) rfl rfl (Nat.le_of_ble_eq_true rfl) dX1_init_83 (fun H locs hN hq hS => ?_)
  have hH := hH.old hN hq hlt hM
  refine lv_aload_n hx hb dX1_init_86 rfl (lv_at hl 1 rfl) ?_
  refine e_6_0 hx hb hts hown hK hH hkr (hts _ wd_315) dX1_init_87 ?_
  refine lv_iconst (v := 0) hx hb dX1_init_90 (by decide) ?_
  refine lv_aload_n hx hb dX1_init_91 rfl (lv_at hl 0 rfl) ?_
  refine x_get hx hb hts inlX1 hown hK hN 0 (by decide) (fs := [.int (gI g r 5), .int (gI g r 6), .int (gI g r 7), .int (gI g r 8), .ref (K.2 + 1), .ref (K.2 + 2), .ref (K.2 + 3), .ref (K.2 + 4), .ref (K.2 + 5)]) rfl rfl 4 (by decide) (hts _ wd_310) (v := .ref (K.2 + 1)) rfl dX1_init_92 ?_
  refine lv_iconst (v := 0) hx hb dX1_init_95 (by decide) ?_
  refine lv_aload_n hx hb dX1_init_96 rfl (lv_at hl 0 rfl) ?_
  refine x_get hx hb hts inlX1 hown hK hN 0 (by decide) (fs := [.int (gI g r 5), .int (gI g r 6), .int (gI g r 7), .int (gI g r 8), .ref (K.2 + 1), .ref (K.2 + 2), .ref (K.2 + 3), .ref (K.2 + 4), .ref (K.2 + 5)]) rfl rfl 0 (by decide) (hts _ wd_303) (v := .int (gI g r 5)) rfl dX1_init_97 ?_
  refine x_copy hx hb (hml.trans hl.1.symm) hown (hts _ wd_316) (hts _ wd_278) (hts _ wd_279) (hts _ wd_280) hK hN hS (fun _ h => h) 1 (by decide) (t := 1) (ty := .char) (h := (fun _ => 0)) (hH.r11 (a := r + 1) (n := 80) kr1) rfl rfl rfl (by decide) (by decide) hN0 (by show 0 + _ ≤ _; omega) (by show 0 + _ ≤ _; omega) (gft_at hch) (Nat.le_of_ble_eq_true rfl) (Nat.le_of_ble_eq_true rfl) dX1_init_100 (fun H locs hN hq hS => ?_)
  have hH := hH.old hN hq hlt hM
  refine lv_aload_n hx hb dX1_init_103 rfl (lv_at hl 1 rfl) ?_
  refine e_6_1 hx hb hts hown hK hH hkr (hts _ wd_317) dX1_init_104 ?_
  refine lv_iconst (v := 0) hx hb dX1_init_107 (by decide) ?_
  refine lv_aload_n hx hb dX1_init_108 rfl (lv_at hl 0 rfl) ?_
  refine x_get hx hb hts inlX1 hown hK hN 0 (by decide) (fs := [.int (gI g r 5), .int (gI g r 6), .int (gI g r 7), .int (gI g r 8), .ref (K.2 + 1), .ref (K.2 + 2), .ref (K.2 + 3), .ref (K.2 + 4), .ref (K.2 + 5)]) rfl rfl 5 (by decide) (hts _ wd_311) (v := .ref (K.2 + 2)) rfl dX1_init_109 ?_
  refine lv_iconst (v := 0) hx hb dX1_init_112 (by decide) ?_
  refine lv_aload_n hx hb dX1_init_113 rfl (lv_at hl 0 rfl) ?_
  refine x_get hx hb hts inlX1 hown hK hN 0 (by decide) (fs := [.int (gI g r 5), .int (gI g r 6), .int (gI g r 7), .int (gI g r 8), .ref (K.2 + 1), .ref (K.2 + 2), .ref (K.2 + 3), .ref (K.2 + 4), .ref (K.2 + 5)]) rfl rfl 0 (by decide) (hts _ wd_303) (v := .int (gI g r 5)) rfl dX1_init_114 ?_
  refine x_copy hx hb (hml.trans hl.1.symm) hown (hts _ wd_316) (hts _ wd_278) (hts _ wd_279) (hts _ wd_280) hK hN hS (fun _ h => h) 2 (by decide) (t := 0) (ty := .int) (h := (fun _ => 0)) (hH.r10 (a := r + 2) (n := 80) kr2) rfl rfl rfl (by decide) (by decide) hN0 (by show 0 + _ ≤ _; omega) (by show 0 + _ ≤ _; omega) (fun _ _ => rfl) (Nat.le_of_ble_eq_true rfl) (Nat.le_of_ble_eq_true rfl) dX1_init_117 (fun H locs hN hq hS => ?_)
  have hH := hH.old hN hq hlt hM
  refine lv_aload_n hx hb dX1_init_120 rfl (lv_at hl 1 rfl) ?_
  refine e_6_2 hx hb hts hown hK hH hkr (hts _ wd_318) dX1_init_121 ?_
  refine lv_iconst (v := 0) hx hb dX1_init_124 (by decide) ?_
  refine lv_aload_n hx hb dX1_init_125 rfl (lv_at hl 0 rfl) ?_
  refine x_get hx hb hts inlX1 hown hK hN 0 (by decide) (fs := [.int (gI g r 5), .int (gI g r 6), .int (gI g r 7), .int (gI g r 8), .ref (K.2 + 1), .ref (K.2 + 2), .ref (K.2 + 3), .ref (K.2 + 4), .ref (K.2 + 5)]) rfl rfl 6 (by decide) (hts _ wd_312) (v := .ref (K.2 + 3)) rfl dX1_init_126 ?_
  refine lv_iconst (v := 0) hx hb dX1_init_129 (by decide) ?_
  refine lv_aload_n hx hb dX1_init_130 rfl (lv_at hl 0 rfl) ?_
  refine x_get hx hb hts inlX1 hown hK hN 0 (by decide) (fs := [.int (gI g r 5), .int (gI g r 6), .int (gI g r 7), .int (gI g r 8), .ref (K.2 + 1), .ref (K.2 + 2), .ref (K.2 + 3), .ref (K.2 + 4), .ref (K.2 + 5)]) rfl rfl 0 (by decide) (hts _ wd_303) (v := .int (gI g r 5)) rfl dX1_init_131 ?_
  refine x_copy hx hb (hml.trans hl.1.symm) hown (hts _ wd_316) (hts _ wd_278) (hts _ wd_279) (hts _ wd_280) hK hN hS (fun _ h => h) 3 (by decide) (t := 0) (ty := .int) (h := (fun _ => 0)) (hH.r10 (a := r + 3) (n := 80) kr3) rfl rfl rfl (by decide) (by decide) hN0 (by show 0 + _ ≤ _; omega) (by show 0 + _ ≤ _; omega) (fun _ _ => rfl) (Nat.le_of_ble_eq_true rfl) (Nat.le_of_ble_eq_true rfl) dX1_init_134 (fun H locs hN hq hS => ?_)
  have hH := hH.old hN hq hlt hM
  refine lv_aload_n hx hb dX1_init_137 rfl (lv_at hl 1 rfl) ?_
  refine e_6_3 hx hb hts hown hK hH hkr (hts _ wd_319) dX1_init_138 ?_
  refine lv_iconst (v := 0) hx hb dX1_init_141 (by decide) ?_
  refine lv_aload_n hx hb dX1_init_142 rfl (lv_at hl 0 rfl) ?_
  refine x_get hx hb hts inlX1 hown hK hN 0 (by decide) (fs := [.int (gI g r 5), .int (gI g r 6), .int (gI g r 7), .int (gI g r 8), .ref (K.2 + 1), .ref (K.2 + 2), .ref (K.2 + 3), .ref (K.2 + 4), .ref (K.2 + 5)]) rfl rfl 7 (by decide) (hts _ wd_313) (v := .ref (K.2 + 4)) rfl dX1_init_143 ?_
  refine lv_iconst (v := 0) hx hb dX1_init_146 (by decide) ?_
  refine lv_aload_n hx hb dX1_init_147 rfl (lv_at hl 0 rfl) ?_
  refine x_get hx hb hts inlX1 hown hK hN 0 (by decide) (fs := [.int (gI g r 5), .int (gI g r 6), .int (gI g r 7), .int (gI g r 8), .ref (K.2 + 1), .ref (K.2 + 2), .ref (K.2 + 3), .ref (K.2 + 4), .ref (K.2 + 5)]) rfl rfl 0 (by decide) (hts _ wd_303) (v := .int (gI g r 5)) rfl dX1_init_148 ?_
  refine x_copy hx hb (hml.trans hl.1.symm) hown (hts _ wd_316) (hts _ wd_278) (hts _ wd_279) (hts _ wd_280) hK hN hS (fun _ h => h) 4 (by decide) (t := 0) (ty := .int) (h := (fun _ => 0)) (hH.r10 (a := r + 4) (n := 80) kr4) rfl rfl rfl (by decide) (by decide) hN0 (by show 0 + _ ≤ _; omega) (by show 0 + _ ≤ _; omega) (fun _ _ => rfl) (Nat.le_of_ble_eq_true rfl) (Nat.le_of_ble_eq_true rfl) dX1_init_151 (fun H locs hN hq hS => ?_)
  have hH := hH.old hN hq hlt hM
  refine lv_aload_n hx hb dX1_init_154 rfl (lv_at hl 1 rfl) ?_
  refine e_6_4 hx hb hts hown hK hH hkr (hts _ wd_320) dX1_init_155 ?_
  refine lv_iconst (v := 0) hx hb dX1_init_158 (by decide) ?_
  refine lv_aload_n hx hb dX1_init_159 rfl (lv_at hl 0 rfl) ?_
  refine x_get hx hb hts inlX1 hown hK hN 0 (by decide) (fs := [.int (gI g r 5), .int (gI g r 6), .int (gI g r 7), .int (gI g r 8), .ref (K.2 + 1), .ref (K.2 + 2), .ref (K.2 + 3), .ref (K.2 + 4), .ref (K.2 + 5)]) rfl rfl 8 (by decide) (hts _ wd_314) (v := .ref (K.2 + 5)) rfl dX1_init_160 ?_
  refine lv_iconst (v := 0) hx hb dX1_init_163 (by decide) ?_
  refine lv_aload_n hx hb dX1_init_164 rfl (lv_at hl 0 rfl) ?_
  refine x_get hx hb hts inlX1 hown hK hN 0 (by decide) (fs := [.int (gI g r 5), .int (gI g r 6), .int (gI g r 7), .int (gI g r 8), .ref (K.2 + 1), .ref (K.2 + 2), .ref (K.2 + 3), .ref (K.2 + 4), .ref (K.2 + 5)]) rfl rfl 0 (by decide) (hts _ wd_303) (v := .int (gI g r 5)) rfl dX1_init_165 ?_
  refine x_copy hx hb (hml.trans hl.1.symm) hown (hts _ wd_316) (hts _ wd_278) (hts _ wd_279) (hts _ wd_280) hK hN hS (fun _ h => h) 5 (by decide) (t := 0) (ty := .int) (h := (fun _ => 0)) (hH.r10 (a := r + 5) (n := 80) kr5) rfl rfl rfl (by decide) (by decide) hN0 (by show 0 + _ ≤ _; omega) (by show 0 + _ ≤ _; omega) (fun _ _ => rfl) (Nat.le_of_ble_eq_true rfl) (Nat.le_of_ble_eq_true rfl) dX1_init_168 (fun H locs hN hq hS => ?_)
  have hH := hH.old hN hq hlt hM
  have hN := hN.to (f' := fX1 w K g r) (lt_s (lt_s (lt_s (lt_s (lt_s (lt_s lt_0 rfl) rfl) rfl) rfl) rfl) rfl)
  have hs : ∀ i, i < 6 → ∀ t ∈ gsubs (ktCT (gI g r 5).toNatClampNeg i).1 (ktCT (gI g r 5).toNatClampNeg i).2, i + t.1 < 6 ∧ ktCT (gI g r 5).toNatClampNeg (i + t.1) = t.2 := by
    refine lt_s (lt_s (lt_s (lt_s (lt_s (lt_s lt_0 ?_) ?_) ?_) ?_) ?_) ?_
    · intro t ht
      simp only [ktCT, gsubs, List.mem_cons, List.not_mem_nil, or_false] at ht
      rcases ht with rfl | rfl | rfl | rfl | rfl <;> exact ⟨Nat.le_of_ble_eq_true rfl, rfl⟩
    all_goals (intro t ht; exact absurd ht List.not_mem_nil)
  have hH2 := HR.extB (z := K.2 + 6) hH hN hlt hM (ktCT (gI g r 5).toNatClampNeg) (giCT g r) (fun _ _ => none) (lt_s (lt_s (lt_s (lt_s (lt_s (lt_s lt_0 rfl) rfl) rfl) rfl) rfl) rfl) hs
  exact W.vret hx hb hr (fun t ht hW => ⟨⟨(), rfl, trivial, by show HR w out.1 out.2 S t.heap; rw [ht, ← ho]; exact hH2⟩, hS.F ht⟩) hS.2.2 dX1_init_171
set_option maxRecDepth 100000 in
set_option maxHeartbeats 8000000 in
theorem c6_readText (l : Launch) (w : GW) (K : GK) (g : GM) (S : GS) (a : Nat) (out : GK × GM) (hf : fnCT K g a = some out) (hk0 : gkd K a = 7) : Met l yX6_readText (wA yX6_readText cX6_readText 1 (some (.object "CallingLooms$CardText"))) ({ frames := 3, cells := 6, slots := 409, locals := 100 } : Room) (PRE w K g S [.ref a]) (QA w out.1 out.2 S K.2) 6 409 (FR w) := by
  refine Met.ofW (cc := cX6_readText) (maxL := 1) (ret := (some (.object "CallingLooms$CardText"))) (by decide) rfl ?_
  intro p e s m args below meth c s₁ B hml hv
  obtain ⟨rfl, hH, hK⟩ := hv
  have hx := B.exec
  have hb := B.bytes
  have hr := B.returns
  have hts : ∀ q ∈ gALL, q.before _ s = true := fun q h => atoms_spec (ws := (wA yX6_readText cX6_readText 1 (some (.object "CallingLooms$CardText")))) B.pre q (List.mem_cons_of_mem _ h)
  have hown : s.vm.findClass RX6 = some m.cls := findClass_of_methodNamed B.named
  have hlocks := B.notSynchronized
  have hS : va_S (FR w) s.heap s.heap [] := va_S.rf
  show W p l e ({ frames := 3, cells := 6, slots := 409, locals := 100 } : Room) s m _ below meth c s.heap [] 0 0 (MQ below (QA w out.1 out.2 S K.2) _ s 6 409 (FR w)) _
  have hl := lv_entry ([.ref a]) (n := 1) (Nat.le_of_ble_eq_true rfl)
  rw [lg_entry_eq]
  generalize (lg_sl ([.ref a]) ++ List.replicate (1 - (lg_sl ([.ref a])).length) Slot.unset).toArray = ls at hl ⊢
  clear B
  generalize ([.ref a] : List Value).toArray = args at hts ⊢
  have hl : lv_has ls 1 [(0, .ref a)] := hl
  have hlt : ∀ q, gkd K q ≠ 0 → q < K.2 := fun q h => (hH.2.2.2.2.2.1 q h).2.2
  have hM : w.2.2.2 + 8 ≤ K.2 := hH.2.2.2.2.1
  have hA : ∀ q, K.2 ≤ q → FR w q := fun q h => by have := hH.2.2.2.1; show w.2.2.1 ≤ q; omega
  have hN : NX w K.2 0 (fun _ => .inr (0, [])) s.heap := ⟨hH.1, fun i h => absurd h (Nat.not_lt_zero i)⟩
  refine x_new (ci := 1) (fs := [.int 0, .int 0, .int 0, .int 0, .null, .null, .null, .null, .null]) hx hb hts inlX1 tyX1 tyX1_ok hown (hts _ wd_295) (hts _ wd_296) (hts _ wd_297) hK rfl co_dec_1 hN hS hA (Nat.le_of_ble_eq_true rfl) (Nat.le_of_ble_eq_true rfl) dX6_readText_0 (fun H hN hq hS => ?_)
  have hH := HR.old (K := K) (z := K.2) hH hN hq hlt hM
  have hN : NX w K.2 1 (fun _ => .inr (1, [.int 0, .int 0, .int 0, .int 0, .null, .null, .null, .null, .null])) H := hN.to (lt_s lt_0 rfl)
  refine lv_dup hx hb dX6_readText_3 rfl ?_
  refine lv_aload_n hx hb dX6_readText_4 rfl (lv_at hl 0 rfl) ?_
  refine va_callv (va_runI (As := [.ref a]) (rest := [.ref K.2]) ⟨hx, hb, hml, hown, hts⟩ (cX1_ctor l w K g S a out hf hlt hM) (gcwI (k := 1) hts wd_300 wd_299 wd_297 wd_298 ⟨by decide +kernel, by decide +kernel, by decide +kernel⟩ rfl rfl rfl ⟨Nat.le_of_ble_eq_true rfl, Nat.le_of_ble_eq_true rfl⟩) ⟨fun _ _ _ _ q => ⟨q.1, q.2.1, q.2.2.1, q.2.2.2.calling⟩, fun U hU hW => ⟨rfl, by rw [hU]; exact hH, by rw [hU]; exact hN, hK.moved hW⟩⟩ rfl rfl hl.1 rfl (lv_room (Nat.le_of_ble_eq_true rfl)) dX6_readText_5 ⟨Nat.le_of_ble_eq_true rfl, Nat.le_of_ble_eq_true rfl⟩) hS (fun q _ h => hA q h) (fun q h => hA q h) (fun u t H1 locs1 ht hvm hr1 hB hz hk1 hS1 => ?_)
  rw [ht] at hB
  exact W.aret hx hb hr (Or.inl ⟨_, rfl⟩) (Or.inr ⟨_, rfl⟩) (fun t ht hW => ⟨⟨(), K.2, rfl, trivial, rfl, hrE ht hB⟩, hS1.F ht⟩) hS1.2.2 dX6_readText_8
/-- new Loom(): its cells -/
theorem g_newLm {p : Program} {l : Launch} {e : Env} {R : Room} {s : State} {m : MethodId} {args : Array Value} {below : List Frame} {meth : Method} {c : Code} {H : Heap} {locs : List Loc} {cells slots : Nat} {Q : State → Prop} {cc : ByteArray} {pc nL i1 i2 : Nat} {own : String} {ls : Array Slot} {rest : List Value} {w : GW} {K : GK} {g : GM} {S : GS}
    (hx : p.tables.exec = Jvm.exec) (hb : c.code = cc) (hml : c.maxLocals = nL) (hown : s.vm.findClass own = some m.cls) (hts : ∀ q ∈ gALL, q.before args s = true) (hcl : Cond.classLink own i1 RX4 ∈ gALL) (hlk : Cond.methodLink own i2 yX4_init ∈ gALL) (hK : KN w s) (hH : HR w K g S H) (hS : va_S (FR w) s.heap H locs) (hls : ls.size = nL) (hW : (rest.map fun v => v.category).sum + 1 ≤ 8) (hd1 : decode cc pc = .ok (.new i1, 3)) (hd2 : decode cc (pc + 3) = .ok (.dup, 1)) (hd3 : decode cc (pc + 3 + 1) = .ok (.invokespecial i2, 3)) (hR : 2 + 1 ≤ R.frames ∧ 8 + (2 + 11) + 32 ≤ R.locals) (hf : cells + 16 ≤ R.cells ∧ slots + 575 ≤ R.slots)
    (kk : ∀ (H1 : Heap) (locs1 : List Loc), HR w (fnLm K g).1 (fnLm K g).2 S H1 → va_S (FR w) s.heap H1 locs1 → W p l e R s m args below meth c H1 locs1 (cells + 16) (slots + 575) Q (F0 m (pc + 7) ls (.ref K.2 :: rest))) : W p l e R s m args below meth c H locs cells slots Q (F0 m pc ls rest) := by
  have hlt : ∀ q, gkd K q ≠ 0 → q < K.2 := fun q h => (hH.2.2.2.2.2.1 q h).2.2
  have hM : w.2.2.2 + 8 ≤ K.2 := hH.2.2.2.2.1
  have hA : ∀ q, K.2 ≤ q → FR w q := fun q h => by have := hH.2.2.2.1; show w.2.2.1 ≤ q; omega
  have hN : NX w K.2 0 (fun _ => .inr (0, [])) H := ⟨hH.1, fun i h => absurd h (Nat.not_lt_zero i)⟩
  refine x_new (ci := 4) (fs := [.null, .null, .null, .null, .null, .null, .null, .null, .null, .int 0, .int 0, .int 0, .int 0]) hx hb hts inlX4 tyX4 tyX4_ok hown (hts _ hcl) (hts _ wd_19) (hts _ wd_20) hK rfl co_dec_4 hN hS hA (by omega) (by omega) hd1 (fun H1 hN hq hS => ?_)
  have hH1 := HR.old (K := K) (z := K.2) hH hN hq hlt hM
  have hN : NX w K.2 1 (va_up (fun _ => .inr (0, [])) 0 (.inr (4, [.null, .null, .null, .null, .null, .null, .null, .null, .null, .int 0, .int 0, .int 0, .int 0]))) H1 := hN
  refine lv_dup hx hb hd2 rfl ?_
  refine x_init (n := 0) (rest := .ref K.2 :: rest) ⟨hx, hb, hml, hown, hts⟩ (cX4_ctor l w (K.2 + 0)) (gcwI hts wd_49 wd_48 wd_20 hlk ⟨by decide +kernel, by decide +kernel, by decide +kernel⟩ rfl rfl rfl hR) hN rfl hK hS hA hls rfl (by have h1 : (Value.ref K.2).category = 1 := rfl; simp only [List.map_cons, List.sum_cons, h1]; omega) hd3 ⟨by show cells + 1 + 15 ≤ _; omega, by show slots + 13 + 562 ≤ _; omega⟩ (fun H2 locs2 hN2 hq2 hS2 => ?_)
  have hN2 : NX w K.2 16 (fX4 w K.2) H2 := by
    have h : NX w K.2 (0 + 16) _ H2 := hN2
    rw [Nat.zero_add] at h
    exact h.to (fun i hi => by show (if i < 0 then _ else fX4 w (K.2 + 0) (i - 0)) = _; rw [if_neg (Nat.not_lt_zero i)]; rfl)
  have hH2 := HR.old (K := K) (z := K.2 + 1) hH1 hN2 hq2 hlt hM
  have hs : ∀ i, i < 16 → ∀ t ∈ gsubs (ktLm i).1 (ktLm i).2, i + t.1 < 16 ∧ ktLm (i + t.1) = t.2 := by decide +kernel
  have hH3 := HR.extB (z := K.2 + 16) hH2 hN2 hlt hM ktLm giLm (fun _ _ => none) (lt_s (lt_s (lt_s (lt_s (lt_s (lt_s (lt_s (lt_s (lt_s (lt_s (lt_s (lt_s (lt_s (lt_s (lt_s (lt_s lt_0 rfl) rfl) rfl) rfl) rfl) rfl) rfl) rfl) rfl) rfl) rfl) rfl) rfl) rfl) rfl) rfl) hs
  have hk := kk H2 locs2 hH3 hS2
  exact hk
/-- the end of a method that makes cells -/
theorem hrA {w : GW} {K' : GK} {g' : GM} {S : GS} {t : State} {H : Heap} {v : Int32} {out : GK × GM × Int32} (ht : t.heap = H) (ho : (K', g', v) = out) (hH : HR w K' g' S H) : HR w out.1 out.2.1 S t.heap := by rw [ht, ← ho]; exact hH
