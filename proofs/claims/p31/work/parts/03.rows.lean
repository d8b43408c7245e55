/-! CONTRACTS over the abstract memory, and the rows that change it -/
def gnests : List Cond := [.methodLinkNest RX0 37 yX7_copyRow "CallingLooms", .methodLinkNest RX0 41 yX7_copyTexts "CallingLooms", .methodLinkNest RX0 45 yX7_inRange "CallingLooms", .methodLinkNest RX4 60 yX7_copyTexts "CallingLooms", .methodLinkNest RX4 64 yX7_copyRow "CallingLooms", .methodLinkNest RX4 42 yX0_init "CallingLooms", .methodLinkNest RX7 9 yX5_init "CallingLooms", .methodLinkNest RX7 18 yX6_init "CallingLooms", .methodLinkNest RX7 46 yX2_init "CallingLooms"]
def KN (w : GW) (s : State) : Prop := KR w s ∧ (∀ x ∈ gnests, va_Nw x s) ∧ va_AO "CallingLooms$CardText" s ∧ va_AO "CallingLooms$Loom" s
theorem KN.moved {w : GW} {s U : State} (hW : s.WarmedH U.vm) (h : KN w s) : KN w U := by
  refine ⟨va_K.moved hW.alike h.1, fun x hx => ?_, va_AO.moved hW.alike h.2.2.1, va_AO.moved hW.alike h.2.2.2⟩
  have hz := h.2.1 x hx
  simp only [gnests, List.mem_cons, List.not_mem_nil, or_false] at hx
  rcases hx with rfl | rfl | rfl | rfl | rfl | rfl | rfl | rfl | rfl <;> exact va_Nw.warmM hW hz
theorem KN.calling {w : GW} {U : State} {G : JFrame} {mk : MethodId} {a : Array Value} (h : KN w U) : KN w (U.calling G mk a) := by
  refine ⟨va_K.moved (u := U) (U := U.calling G mk a) (Vm.Alike.refl U.vm) h.1, fun x hx => ?_, va_AO.moved (u := U) (U := U.calling G mk a) (Vm.Alike.refl U.vm) h.2.2.1, va_AO.moved (u := U) (U := U.calling G mk a) (Vm.Alike.refl U.vm) h.2.2.2⟩
  have hz := h.2.1 x hx
  simp only [gnests, List.mem_cons, List.not_mem_nil, or_false] at hx
  rcases hx with rfl | rfl | rfl | rfl | rfl | rfl | rfl | rfl | rfl <;> exact va_Nw.same (u := U) (U := U.calling G mk a) rfl rfl hz
abbrev PRE (w : GW) (K : GK) (g : GM) (S : GS) (av : List Value) : Array Value → State → Prop := va_Pc av (fun U => HR w K g S U.heap ∧ KN w U)
theorem PRE.blind {w : GW} {K : GK} {g : GM} {S : GS} {av : List Value} : FrameBlind (PRE w K g S av) := fun _ _ _ _ q => ⟨q.1, q.2.1, q.2.2.calling⟩
abbrev QI (w : GW) (K : GK) (g : GM) (S : GS) (r : Int32) : Array Value → State → Outcome → State → Prop := va_Qi (fun (r0 : Int32) (_ : Unit) => r0 = r) (fun _ t => HR w K g S t.heap) (FR w)
abbrev QV (w : GW) (K : GK) (g : GM) (S : GS) : Array Value → State → Outcome → State → Prop := va_Qv (fun (_ : Unit) => True) (fun _ t => HR w K g S t.heap) (FR w)
abbrev QA (w : GW) (K : GK) (g : GM) (S : GS) (r : Nat) : Array Value → State → Outcome → State → Prop := va_Qr (fun (_ : Unit) => True) (fun _ ra t => ra = r ∧ HR w K g S t.heap) (FR w)
section CALLS
variable {p : Program} {l : Launch} {e : Env} {R : Room} {s : State} {m : MethodId} {args : Array Value} {below : List Frame} {meth : Method} {c : Code} {H : Heap} {locs : List Loc} {cells slots : Nat} {Q : State → Prop}
variable {y : MethodName} {bytes cc : ByteArray} {maxL nL n index pc mc ms : Nat} {ret : Option FieldType} {wsc : List Cond} {rm : Room} {Ts : List Cond} {own C : String} {b : Addr} {As rest st : List Value} {ls : Array Slot}
variable {w : GW} {K K' : GK} {g g' : GM} {S S' : GS}
abbrev gRecv (s : State) (H : Heap) (C : String) (b : Addr) : Prop := ∃ cellB : Cell, H[b]? = some cellB ∧ cellB.vm.isStatics = false ∧ s.vm.findClass C = some cellB.cls
theorem g_Vi {r : Int32} (S0 : CallFix p m c cc nL s args Ts own) (hM : Met l y wsc rm (PRE w K g S (.ref b :: As)) (QI w K' g' S' r) mc ms (FR w)) (cw : CallW R s args own C index y bytes maxL ret wsc rm mc ms n) (hrc : gRecv s H C b) (hH : HR w K g S H) (hK : KN w s) (hS : va_S (FR w) s.heap H locs)
    (hls : ls.size = nL) (hn : As.length = n) (hst : st = As.reverse ++ .ref b :: rest) (hW : (rest.map fun v => v.category).sum ≤ 8) (hdg : decode cc pc = .ok (.invokevirtual index, 3)) (hf : cells + mc ≤ R.cells ∧ slots + ms ≤ R.slots)
    (kk : ∀ (H1 : Heap) (locs1 : List Loc), HR w K' g' S' H1 → va_S (FR w) s.heap H1 locs1 → W p l e R s m args below meth c H1 locs1 (cells + mc) (slots + ms) Q (F0 m (pc + 3) ls (.int r :: rest))) : W p l e R s m args below meth c H locs cells slots Q (F0 m pc ls st) := by
  subst hst
  refine va_calli (va_runV (As := As) (rest := rest) S0 hM cw ⟨PRE.blind, hrc, fun U hU hW => ⟨rfl, by rw [hU]; exact hH, hK.moved hW⟩⟩ rfl hn hls rfl (lv_room hW) hdg hf) hS (fun q _ h => h) (fun q h => h) (fun r0 u t H1 locs1 ht hvm hr hB hz hk hS1 => ?_)
  subst hr
  rw [ht] at hB
  exact kk H1 locs1 hB hS1
theorem g_Vv (S0 : CallFix p m c cc nL s args Ts own) (hM : Met l y wsc rm (PRE w K g S (.ref b :: As)) (QV w K' g' S') mc ms (FR w)) (cw : CallW R s args own C index y bytes maxL ret wsc rm mc ms n) (hrc : gRecv s H C b) (hH : HR w K g S H) (hK : KN w s) (hS : va_S (FR w) s.heap H locs)
    (hls : ls.size = nL) (hn : As.length = n) (hst : st = As.reverse ++ .ref b :: rest) (hW : (rest.map fun v => v.category).sum ≤ 8) (hdg : decode cc pc = .ok (.invokevirtual index, 3)) (hf : cells + mc ≤ R.cells ∧ slots + ms ≤ R.slots)
    (kk : ∀ (H1 : Heap) (locs1 : List Loc), HR w K' g' S' H1 → va_S (FR w) s.heap H1 locs1 → W p l e R s m args below meth c H1 locs1 (cells + mc) (slots + ms) Q (F0 m (pc + 3) ls rest)) : W p l e R s m args below meth c H locs cells slots Q (F0 m pc ls st) := by
  subst hst
  refine va_callv (va_runV (As := As) (rest := rest) S0 hM cw ⟨PRE.blind, hrc, fun U hU hW => ⟨rfl, by rw [hU]; exact hH, hK.moved hW⟩⟩ rfl hn hls rfl (lv_room hW) hdg hf) hS (fun q _ h => h) (fun q h => h) (fun u t H1 locs1 ht hvm hr hB hz hk hS1 => ?_)
  rw [ht] at hB
  exact kk H1 locs1 hB hS1
theorem g_Va {r : Nat} (S0 : CallFix p m c cc nL s args Ts own) (hM : Met l y wsc rm (PRE w K g S (.ref b :: As)) (QA w K' g' S' r) mc ms (FR w)) (cw : CallW R s args own C index y bytes maxL ret wsc rm mc ms n) (hrc : gRecv s H C b) (hH : HR w K g S H) (hK : KN w s) (hS : va_S (FR w) s.heap H locs)
    (hls : ls.size = nL) (hn : As.length = n) (hst : st = As.reverse ++ .ref b :: rest) (hW : (rest.map fun v => v.category).sum ≤ 8) (hdg : decode cc pc = .ok (.invokevirtual index, 3)) (hf : cells + mc ≤ R.cells ∧ slots + ms ≤ R.slots)
    (kk : ∀ (H1 : Heap) (locs1 : List Loc), HR w K' g' S' H1 → va_S (FR w) s.heap H1 locs1 → W p l e R s m args below meth c H1 locs1 (cells + mc) (slots + ms) Q (F0 m (pc + 3) ls (.ref r :: rest))) : W p l e R s m args below meth c H locs cells slots Q (F0 m pc ls st) := by
  subst hst
  refine va_callr (va_runV (As := As) (rest := rest) S0 hM cw ⟨PRE.blind, hrc, fun U hU hW => ⟨rfl, by rw [hU]; exact hH, hK.moved hW⟩⟩ rfl hn hls rfl (lv_room hW) hdg hf) hS (fun q _ h => h) (fun q h => h) (fun u ra t H1 locs1 ht hvm hr hB hz hk hS1 => ?_)
  obtain ⟨rfl, hB⟩ := hB
  rw [ht] at hB
  exact kk H1 locs1 hB hS1
theorem g_Si {r : Int32} (S0 : CallFix p m c cc nL s args Ts own) (hM : Met l y wsc rm (PRE w K g S As) (QI w K' g' S' r) mc ms (FR w)) (cw : CallB R s args own index y bytes maxL ret wsc rm mc ms n ∧ (Cond.static y).before args s = true) (hH : HR w K g S H) (hK : KN w s) (hS : va_S (FR w) s.heap H locs)
    (hls : ls.size = nL) (hn : As.length = n) (hst : st = As.reverse ++ rest) (hW : (rest.map fun v => v.category).sum ≤ 8) (hdg : decode cc pc = .ok (.invokestatic index, 3)) (hf : cells + mc ≤ R.cells ∧ slots + ms ≤ R.slots)
    (kk : ∀ (H1 : Heap) (locs1 : List Loc), HR w K' g' S' H1 → va_S (FR w) s.heap H1 locs1 → W p l e R s m args below meth c H1 locs1 (cells + mc) (slots + ms) Q (F0 m (pc + 3) ls (.int r :: rest))) : W p l e R s m args below meth c H locs cells slots Q (F0 m pc ls st) := by
  subst hst
  refine va_calli (va_runS (As := As) (rest := rest) S0 hM cw ⟨PRE.blind, fun U hU hW => ⟨rfl, by rw [hU]; exact hH, hK.moved hW⟩⟩ rfl hn hls rfl (lv_room hW) hdg hf) hS (fun q _ h => h) (fun q h => h) (fun r0 u t H1 locs1 ht hvm hr hB hz hk hS1 => ?_)
  subst hr
  rw [ht] at hB
  exact kk H1 locs1 hB hS1
theorem g_SiN {r : Int32} {host : String} (S0 : CallFix p m c cc nL s args Ts own) (hM : Met l y wsc rm (PRE w K g S As) (QI w K' g' S' r) mc ms (FR w)) (cw : va_CN R s args own index y host bytes maxL ret wsc rm mc ms n ∧ (Cond.static y).before args s = true ∧ True) (hH : HR w K g S H) (hK : KN w s) (hS : va_S (FR w) s.heap H locs)
    (hls : ls.size = nL) (hn : As.length = n) (hst : st = As.reverse ++ rest) (hW : (rest.map fun v => v.category).sum ≤ 8) (hdg : decode cc pc = .ok (.invokestatic index, 3)) (hf : cells + mc ≤ R.cells ∧ slots + ms ≤ R.slots)
    (kk : ∀ (H1 : Heap) (locs1 : List Loc), HR w K' g' S' H1 → va_S (FR w) s.heap H1 locs1 → W p l e R s m args below meth c H1 locs1 (cells + mc) (slots + ms) Q (F0 m (pc + 3) ls (.int r :: rest))) : W p l e R s m args below meth c H locs cells slots Q (F0 m pc ls st) := by
  subst hst
  refine va_calli (va_runSN (As := As) (rest := rest) S0 hM cw ⟨PRE.blind, fun U hU hW => ⟨rfl, by rw [hU]; exact hH, hK.moved hW⟩⟩ rfl hn hls rfl (lv_room hW) hdg hf) hS (fun q _ h => h) (fun q h => h) (fun r0 u t H1 locs1 ht hvm hr hB hz hk hS1 => ?_)
  subst hr
  rw [ht] at hB
  exact kk H1 locs1 hB hS1
theorem g_SvN {host : String} (S0 : CallFix p m c cc nL s args Ts own) (hM : Met l y wsc rm (PRE w K g S As) (QV w K' g' S') mc ms (FR w)) (cw : va_CN R s args own index y host bytes maxL ret wsc rm mc ms n ∧ (Cond.static y).before args s = true ∧ True) (hH : HR w K g S H) (hK : KN w s) (hS : va_S (FR w) s.heap H locs)
    (hls : ls.size = nL) (hn : As.length = n) (hst : st = As.reverse ++ rest) (hW : (rest.map fun v => v.category).sum ≤ 8) (hdg : decode cc pc = .ok (.invokestatic index, 3)) (hf : cells + mc ≤ R.cells ∧ slots + ms ≤ R.slots)
    (kk : ∀ (H1 : Heap) (locs1 : List Loc), HR w K' g' S' H1 → va_S (FR w) s.heap H1 locs1 → W p l e R s m args below meth c H1 locs1 (cells + mc) (slots + ms) Q (F0 m (pc + 3) ls rest)) : W p l e R s m args below meth c H locs cells slots Q (F0 m pc ls st) := by
  subst hst
  refine va_callv (va_runSN (As := As) (rest := rest) S0 hM cw ⟨PRE.blind, fun U hU hW => ⟨rfl, by rw [hU]; exact hH, hK.moved hW⟩⟩ rfl hn hls rfl (lv_room hW) hdg hf) hS (fun q _ h => h) (fun q h => h) (fun u t H1 locs1 ht hvm hr hB hz hk hS1 => ?_)
  rw [ht] at hB
  exact kk H1 locs1 hB hS1
end CALLS
theorem gRecv.of {w : GW} {s : State} {H : Heap} {a ci : Nat} {q : vw_C} {fs : List Value} (hK : KN w s) (hc : vwCl[ci]? = some q) (h : va_at w.1 vwCl (a, .inr (ci, fs)) H) : gRecv s H q.1 a := va_recv hK.1 (one_P h) hc (q0 := 0) rfl
section ROWS
variable {p : Program} {l : Launch} {e : Env} {R : Room} {s : State} {m : MethodId} {args : Array Value} {below : List Frame} {meth : Method} {c : Code} {H : Heap} {locs : List Loc} {cells slots : Nat} {Q : State → Prop}
variable {cc : ByteArray} {pc : Nat} {ls : Array Slot} {rest : List Value} {a n : Nat} {w : GW} {K : GK} {g : GM} {S : GS}
/-- a field that isn't final, of an object of class ci -/
theorem g_put (hexec : p.tables.exec = Jvm.exec) (hb : c.code = cc) {own C : String} {T : u_T} {N ci index : Nat} {Ts : List Cond} (hts : ∀ w ∈ Ts, w.before args s = true) (hin : ∀ w ∈ u_ws C T N, w ∈ Ts) (ty0 : Nat → FieldType) (hty : ∀ k, k < N → parseFieldDescriptor (T k).2.2.1 = some (ty0 k)) (hnm : ∀ a, a < N → ∀ b, b < N → a ≠ b → (T a).2.1 ≠ (T b).2.1) (hown : s.vm.findClass own = some m.cls) (hK : KN w s) {fs : List Value} (hat : va_at w.1 vwCl (a, .inr (ci, fs)) H) (hc : vwCl[ci]? = some (C, T, N)) (k : Nat) (hk : k < N) (hlink : (Cond.fieldLink own index (T k).1 (T k).2.1 (T k).2.2.1).before args s = true) (hfin : (T k).2.2.2 = false) {ty : FieldType} {v : Value} (hd : parseFieldDescriptor (T k).2.2.1 = some ty) (hn : narrow ty v = v) (hfit : fits ty v = true) (hl : k < fs.length)
    (hS0 : va_S (FR w) s.heap H locs) (ha : w.2.2.1 ≤ a)
    (hdg : decode cc pc = .ok (.putfield index, 3)) (kk : ∀ (H1 : Heap) (locs1 : List Loc), va_at w.1 vwCl (a, .inr (ci, fs.set k v)) H1 → H1.size = H.size → (∀ q, q ≠ a → H1[q]? = H[q]?) → va_S (FR w) s.heap H1 locs1 → W p l e R s m args below meth c H1 locs1 cells slots Q (F0 m (pc + 3) ls rest)) : W p l e R s m args below meth c H locs cells slots Q (F0 m pc ls (v :: .ref a :: rest)) := by
  have hap := va_apart (own := own) hts hin ty0 hty hnm hK.1 hc
  obtain ⟨r, h1, cell, q1, q2, q3, q4⟩ := hat
  have hr : r = (C, T, N) := Option.some.inj (h1.symm.trans hc)
  subst hr
  obtain ⟨hSl, hfc, kC, hkC, hkind⟩ := hK.1.1 ci _ hc
  obtain ⟨cf, kf, fi, f, hi, hsl⟩ := hSl k hk
  have hlay := hts _ (hin _ (u_in_lay hk))
  unfold u_lay at hlay
  rw [if_neg (by rw [hfin]; decide)] at hlay
  have hst := (u_facts hfc hkC (u_lays hts hin hk) hi).1
  have h6 := u_store hfc hkC hkind hlay hi hd hn hfit
  refine W.putK hexec hb (f := f) ⟨hown, hlink, ⟨_, _, _, hi⟩, hst⟩ (by rw [q2]; exact h6) q1 q3 (by rw [hsl]; exact k2_hasslot (q4 k hk)) rfl rfl hdg fun H' e1 e2 e3 => ?_
  rw [hsl] at e1 ⊢
  exact kk H' _ ⟨_, hc, t_OB.to (V := updV (vp_V fs) k v) ⟨_, e1, q2, q3, t_set q4 hap hk v⟩ (fun j _ => vp_updV_set hl v j)⟩ e2 e3 (hS0.put e2 e3 ha)
theorem HR.lo (hH : HR w K g S H) (h : gkd K a ≠ 0) : w.2.2.1 ≤ a := (hH.2.2.2.2.2.1 a h).1
theorem HR.loM (hH : HR w K g S H) {k : Nat} : w.2.2.1 ≤ w.2.2.2 + k := Nat.le_trans hH.2.2.2.1 (Nat.le_add_right _ _)
/-- an int field of an object of the class's -/
theorem g_putI (hexec : p.tables.exec = Jvm.exec) (hb : c.code = cc) {own C : String} {T : u_T} {N ci kc index : Nat} {Ts : List Cond} (hts : ∀ w ∈ Ts, w.before args s = true) (hin : ∀ w ∈ u_ws C T N, w ∈ Ts) (ty0 : Nat → FieldType) (hty : ∀ k, k < N → parseFieldDescriptor (T k).2.2.1 = some (ty0 k)) (hnm : ∀ a, a < N → ∀ b, b < N → a ≠ b → (T a).2.1 ≠ (T b).2.1) (hown : s.vm.findClass own = some m.cls) (hK : KN w s) (hH : HR w K g S H) (hS0 : va_S (FR w) s.heap H locs) {fs : List Value} (hkc : gkd K a = kc) (hk0 : kc ≠ 0) {v : Int32} (k : Nat) (he : gcell w K g a = some (.inr (ci, fs))) (he' : gcell w K (gsI g a k v) a = some (.inr (ci, fs.set k (.int v)))) (hc : vwCl[ci]? = some (C, T, N)) (hk : k < N) (hlink : (Cond.fieldLink own index (T k).1 (T k).2.1 (T k).2.2.1).before args s = true) (hfin : (T k).2.2.2 = false) (hd : parseFieldDescriptor (T k).2.2.1 = some .int) (hl : k < fs.length)
    (hdg : decode cc pc = .ok (.putfield index, 3)) (kk : ∀ (H1 : Heap) (locs1 : List Loc), HR w K (gsI g a k v) S H1 → va_S (FR w) s.heap H1 locs1 → W p l e R s m args below meth c H1 locs1 cells slots Q (F0 m (pc + 3) ls rest)) : W p l e R s m args below meth c H locs cells slots Q (F0 m pc ls (.int v :: .ref a :: rest)) := by
  have h0 : gkd K a ≠ 0 := by rw [hkc]; exact hk0
  exact g_put hexec hb hts hin ty0 hty hnm hown hK (hH.2.1 a _ he) hc k hk hlink hfin hd rfl rfl hl hS0 (hH.lo h0) hdg (fun H1 locs1 h1 h2 h3 h4 => kk H1 locs1 (hH.upd h0 gne_I he' h1 h2 h3) h4)
theorem g_get (hexec : p.tables.exec = Jvm.exec) (hb : c.code = cc) {own C : String} {T : u_T} {N ci index : Nat} {Ts : List Cond} (hts : ∀ w ∈ Ts, w.before args s = true) (hin : ∀ w ∈ u_ws C T N, w ∈ Ts) (hown : s.vm.findClass own = some m.cls) (hK : KN w s) {fs : List Value} (hat : va_at w.1 vwCl (a, .inr (ci, fs)) H) (hc : vwCl[ci]? = some (C, T, N)) (k : Nat) (hk : k < N) (hlink : (Cond.fieldLink own index (T k).1 (T k).2.1 (T k).2.2.1).before args s = true) {v : Value} (hv : fs[k]? = some v) (hdg : decode cc pc = .ok (.getfield index, 3))
    (kk : W p l e R s m args below meth c H locs cells slots Q (F0 m (pc + 3) ls (v :: rest))) : W p l e R s m args below meth c H locs cells slots Q (F0 m pc ls (.ref a :: rest)) :=
  va_get hexec hb hts hin hown hK.1 (one_P hat) 0 rfl hc k hk hlink (fun _ h => h) hv hdg kk
theorem g_iald (hexec : p.tables.exec = Jvm.exec) (hb : c.code = cc) (hK : KN w s) (hH : HR w K g S H) (hk : K.1 a = (10, n)) {i : Int32} (hin : gok i n = true) (hdg : decode cc pc = .ok (.iaload, 1))
    (kk : W p l e R s m args below meth c H locs cells slots Q (F0 m (pc + 1) ls (.int (gI g a i.toNatClampNeg) :: rest))) : W p l e R s m args below meth c H locs cells slots Q (F0 m pc ls (.int i :: .ref a :: rest)) :=
  va_iald hexec hb hK.1 (one_P (hH.r10 hk)) 0 0 rfl rfl (gok_in hin) hdg kk
theorem g_cald (hexec : p.tables.exec = Jvm.exec) (hb : c.code = cc) (hK : KN w s) (hH : HR w K g S H) (hk : K.1 a = (11, n)) {i : Int32} (hin : gok i n = true) (hdg : decode cc pc = .ok (.caload, 1))
    (kk : W p l e R s m args below meth c H locs cells slots Q (F0 m (pc + 1) ls (.int (gI g a i.toNatClampNeg) :: rest))) : W p l e R s m args below meth c H locs cells slots Q (F0 m pc ls (.int i :: .ref a :: rest)) :=
  va_cald hexec hb hK.1 (one_P (hH.r11 hk)) 0 1 rfl rfl (gok_in hin) hdg kk
theorem g_bald (hexec : p.tables.exec = Jvm.exec) (hb : c.code = cc) (hK : KN w s) (hH : HR w K g S H) (hk : K.1 a = (12, n)) {i : Int32} (hin : gok i n = true) (hdg : decode cc pc = .ok (.baload, 1))
    (kk : W p l e R s m args below meth c H locs cells slots Q (F0 m (pc + 1) ls (.int (gI g a i.toNatClampNeg) :: rest))) : W p l e R s m args below meth c H locs cells slots Q (F0 m pc ls (.int i :: .ref a :: rest)) :=
  va_bald hexec hb hK.1 (one_P (hH.r12 hk)) 0 2 rfl rfl (gok_in hin) hdg kk
theorem g_tald (hexec : p.tables.exec = Jvm.exec) (hb : c.code = cc) (hK : KN w s) (hH : HR w K g S H) (hk : K.1 a = (13, n)) {i : Int32} (hin : gok i n = true) (hdg : decode cc pc = .ok (.aaload, 1))
    (kk : W p l e R s m args below meth c H locs cells slots Q (F0 m (pc + 1) ls (va_rf (gR g a i.toNatClampNeg) :: rest))) : W p l e R s m args below meth c H locs cells slots Q (F0 m pc ls (.int i :: .ref a :: rest)) :=
  va_aldq hexec hb hK.1 (one_P (hH.r13 hk)) 0 3 rfl rfl (gok_in hin) hdg kk
theorem g_lald (hexec : p.tables.exec = Jvm.exec) (hb : c.code = cc) (hK : KN w s) (hH : HR w K g S H) (hk : K.1 a = (14, n)) {i : Int32} (hin : gok i n = true) (hdg : decode cc pc = .ok (.aaload, 1))
    (kk : W p l e R s m args below meth c H locs cells slots Q (F0 m (pc + 1) ls (va_rf (gR g a i.toNatClampNeg) :: rest))) : W p l e R s m args below meth c H locs cells slots Q (F0 m pc ls (.int i :: .ref a :: rest)) :=
  va_aldq hexec hb hK.1 (one_P (hH.r14 hk)) 0 4 rfl rfl (gok_in hin) hdg kk
theorem g_alen {kc : Nat} (hexec : p.tables.exec = Jvm.exec) (hb : c.code = cc) (hK : KN w s) (hH : HR w K g S H) (hk : K.1 a = (kc, n)) (h3 : kc = 10 ∨ kc = 13) (hdg : decode cc pc = .ok (.arraylength, 1))
    (kk : W p l e R s m args below meth c H locs cells slots Q (F0 m (pc + 1) ls (.int (nI n) :: rest))) : W p l e R s m args below meth c H locs cells slots Q (F0 m pc ls (.ref a :: rest)) := by
  rcases h3 with rfl | rfl
  · exact va_alen hexec hb hK.1 (one_P (hH.r10 hk)) 0 0 rfl rfl rfl hdg kk
  · exact va_alen hexec hb hK.1 (one_P (hH.r13 hk)) 0 3 rfl rfl rfl hdg kk
theorem cell_upd {cA : ClassId} {n k : Nat} {f : Nat → Int32} {x : Int32} : (vp_cell cA (n, .inl f)).setSlot k (.int x) = vp_cell cA (n, .inl (upd f k x)) := by
  rw [vp_cell_i, vp_cell_i, arrV_store]
  congr 1
  funext q
  by_cases hq : q = k
  · subst hq; simp [updV, upd]
  · simp [updV, upd, hq]
theorem cell_updR {cA : ClassId} {n k : Nat} {f : Nat → Option Nat} {x : Option Nat} : (vp_cell cA (n, .inr (.inr (.inr (.inr f))))).setSlot k (va_rf x) = vp_cell cA (n, .inr (.inr (.inr (.inr (va_up f k x))))) := by
  rw [vp_cell_q, vp_cell_q, arrV_store]
  congr 1
  funext q
  by_cases hq : q = k
  · subst hq; simp [updV, va_up]
  · simp [updV, va_up, hq]
theorem gup_I {g : GM} {k : Nat} {v : Int32} : (gsI g a k v).1 a = upd (g.1 a) k v := by simp [gsI, va_up]
theorem gup_R {g : GM} {k : Nat} {v : Option Nat} : (gsR g a k v).2 a = va_up (g.2 a) k v := by simp [gsR, va_up]
theorem gcell10 (h : K.1 a = (10, n)) : gcell w K g a = some (.inl (w.2.1 0, n, .inl (g.1 a))) := by unfold gcell gkd gkn; rw [h]; rfl
theorem gcell11 (h : K.1 a = (11, n)) : gcell w K g a = some (.inl (w.2.1 1, n, .inl (g.1 a))) := by unfold gcell gkd gkn; rw [h]; rfl
theorem gcell12 (h : K.1 a = (12, n)) : gcell w K g a = some (.inl (w.2.1 2, n, .inl (g.1 a))) := by unfold gcell gkd gkn; rw [h]; rfl
theorem gcell13 (h : K.1 a = (13, n)) : gcell w K g a = some (.inl (w.2.1 3, n, .inr (.inr (.inr (.inr (g.2 a)))))) := by unfold gcell gkd gkn; rw [h]; rfl
theorem gcell14 (h : K.1 a = (14, n)) : gcell w K g a = some (.inl (w.2.1 4, n, .inr (.inr (.inr (.inr (g.2 a)))))) := by unfold gcell gkd gkn; rw [h]; rfl
theorem gkd_ne {k : Nat} (h : K.1 a = (k, n)) (h0 : k ≠ 0) : gkd K a ≠ 0 := by unfold gkd; rw [h]; exact h0
theorem gsz {cA : ClassId} {i : Int32} {f : Nat → Int32} (h : gok i n = true) : ¬ (i < 0 ∨ (vp_cell cA (n, .inl f)).slots.size ≤ i.toNatClampNeg) := by
  show ¬ (i < 0 ∨ (arrV _ _ _).slots.size ≤ _)
  rw [arrV_size]
  exact gok_in h
theorem gszR {cA : ClassId} {i : Int32} {f : Nat → Option Nat} (h : gok i n = true) : ¬ (i < 0 ∨ (vp_cell cA (n, .inr (.inr (.inr (.inr f))))).slots.size ≤ i.toNatClampNeg) := by
  show ¬ (i < 0 ∨ (arrV _ _ _).slots.size ≤ _)
  rw [arrV_size]
  exact gok_in h
theorem g_iast (hexec : p.tables.exec = Jvm.exec) (hb : c.code = cc) (hK : KN w s) (hH : HR w K g S H) (hS : va_S (FR w) s.heap H locs) (hk : K.1 a = (10, n)) {i x : Int32} (hin : gok i n = true) (hdg : decode cc pc = .ok (.iastore, 1))
    (kk : ∀ (H1 : Heap) (locs1 : List Loc), HR w K (gsI g a i.toNatClampNeg x) S H1 → va_S (FR w) s.heap H1 locs1 → W p l e R s m args below meth c H1 locs1 cells slots Q (F0 m (pc + 1) ls rest)) : W p l e R s m args below meth c H locs cells slots Q (F0 m pc ls (.int x :: .int i :: .ref a :: rest)) := by
  have h0 : gkd K a ≠ 0 := gkd_ne hk (by decide)
  refine W.iast hexec hb (hH.r10 hk) ((hK.1.2 0 _ rfl).1 n (fun j => .int (g.1 a j))) (fun q => by cases q) (gsz hin) rfl rfl hdg fun H1 e z oq => kk H1 _ ?_ (hS.put z oq (hH.lo h0))
  refine hH.upd h0 gne_I (gcell10 hk) ?_ z oq
  rw [cell_upd] at e
  rw [gup_I]
  exact e
theorem g_bast (hexec : p.tables.exec = Jvm.exec) (hb : c.code = cc) (hK : KN w s) (hH : HR w K g S H) (hS : va_S (FR w) s.heap H locs) (hk : K.1 a = (12, n)) {i x : Int32} (hin : gok i n = true) (hdg : decode cc pc = .ok (.bastore, 1))
    (kk : ∀ (H1 : Heap) (locs1 : List Loc), HR w K (gsI g a i.toNatClampNeg x.toInt8.toInt32) S H1 → va_S (FR w) s.heap H1 locs1 → W p l e R s m args below meth c H1 locs1 cells slots Q (F0 m (pc + 1) ls rest)) : W p l e R s m args below meth c H locs cells slots Q (F0 m pc ls (.int x :: .int i :: .ref a :: rest)) := by
  have h0 : gkd K a ≠ 0 := gkd_ne hk (by decide)
  refine W.bast hexec hb (hH.r12 hk) ((hK.1.2 2 _ rfl).1 n (fun j => .int (g.1 a j))) (fun q => by cases q) (gsz hin) rfl rfl hdg fun H1 e z oq => kk H1 _ ?_ (hS.put z oq (hH.lo h0))
  refine hH.upd h0 gne_I (gcell12 hk) ?_ z oq
  have e : H1[a]? = some ((vp_cell (w.2.1 2) (n, .inl (g.1 a))).setSlot i.toNatClampNeg (.int x.toInt8.toInt32)) := e
  rw [cell_upd] at e
  rw [gup_I]
  exact e
theorem g_cast (hexec : p.tables.exec = Jvm.exec) (hb : c.code = cc) (hK : KN w s) (hH : HR w K g S H) (hS : va_S (FR w) s.heap H locs) (hk : K.1 a = (11, n)) {i x : Int32} (hin : gok i n = true) (hdg : decode cc pc = .ok (.castore, 1))
    (kk : ∀ (H1 : Heap) (locs1 : List Loc), HR w K (gsI g a i.toNatClampNeg (vp_nar .char x)) S H1 → va_S (FR w) s.heap H1 locs1 → W p l e R s m args below meth c H1 locs1 cells slots Q (F0 m (pc + 1) ls rest)) : W p l e R s m args below meth c H locs cells slots Q (F0 m pc ls (.int x :: .int i :: .ref a :: rest)) := by
  have h0 : gkd K a ≠ 0 := gkd_ne hk (by decide)
  refine W.cast hexec hb (hH.r11 hk) ((hK.1.2 1 _ rfl).1 n (fun j => .int (g.1 a j))) (fun q => by cases q) (gsz hin) rfl rfl hdg fun H1 e z oq => kk H1 _ ?_ (hS.put z oq (hH.lo h0))
  refine hH.upd h0 gne_I (gcell11 hk) ?_ z oq
  have e : H1[a]? = some ((vp_cell (w.2.1 1) (n, .inl (g.1 a))).setSlot i.toNatClampNeg (.int (vp_nar .char x))) := e
  rw [cell_upd] at e
  rw [gup_I]
  exact e
end ROWS
section ROWS2
variable {p : Program} {l : Launch} {e : Env} {R : Room} {s : State} {m : MethodId} {args : Array Value} {below : List Frame} {meth : Method} {c : Code} {H : Heap} {locs : List Loc} {cells slots : Nat} {Q : State → Prop}
variable {cc : ByteArray} {pc : Nat} {ls : Array Slot} {rest : List Value} {a n : Nat} {w : GW} {K : GK} {g : GM} {S : GS}
/-- a reference into a row: the value is an object of class r, which the row is made for -/
theorem g_astq (hexec : p.tables.exec = Jvm.exec) (hb : c.code = cc) (hK : KN w s) (hH : HR w K g S H) (hS : va_S (FR w) s.heap H locs) {kr t0 ci v : Nat} {r : vw_C} {vs : List Value} (hk : K.1 a = (kr, n)) (hcell : ∀ g : GM, gcell w K g a = some (.inl (w.2.1 t0, n, .inr (.inr (.inr (.inr (g.2 a))))))) (h0 : kr ≠ 0) (ht : (gtys w)[t0]? = some (w.2.1 t0, .object r.1)) (hv : va_at w.1 vwCl (v, .inr (ci, vs)) H) (hc : vwCl[ci]? = some r) {i : Int32} (hin : gok i n = true) (hdg : decode cc pc = .ok (.aastore, 1))
    (kk : ∀ (H1 : Heap) (locs1 : List Loc), HR w K (gsR g a i.toNatClampNeg (some v)) S H1 → va_S (FR w) s.heap H1 locs1 → W p l e R s m args below meth c H1 locs1 cells slots Q (F0 m (pc + 1) ls rest)) : W p l e R s m args below meth c H locs cells slots Q (F0 m pc ls (.ref v :: .int i :: .ref a :: rest)) := by
  have hh : gkd K a ≠ 0 := gkd_ne hk h0
  have hlt : i.toNatClampNeg < n := Nat.not_le.mp fun q => gok_in hin (Or.inr q)
  have h00 : ¬ i < 0 := fun q => gok_in hin (Or.inl q)
  obtain ⟨r', hr', cellV, g1, g2, g3, -⟩ := hv
  have hcls := (hK.1.1 ci r hc).2
  obtain ⟨kA, comp, k1, k2, k3, -⟩ := (hK.1.2 t0 _ ht).2
  have hcomp : comp = w.1.1 ci := Option.some.inj (k3.symm.trans hcls.1)
  subst hcomp
  obtain ⟨kC, hkC, -⟩ := hcls.2
  have hat : va_at w.1 vwCl (a, .inl (w.2.1 t0, n, .inr (.inr (.inr (.inr (g.2 a)))))) H := hH.2.1 a _ (hcell g)
  refine W.aast hexec hb hat (fun q h => by cases h) (fun h => by cases h) k1 k2 rfl hkC ⟨h00, by show _ < (arrV _ _ _).slots.size; rw [arrV_size]; exact hlt⟩ g1 (fun q h => by rw [g3] at h; cases h) (by rw [g2]; exact hkC) (by rw [g2]; exact va_assign hcls) rfl rfl hdg fun H1 e z oq => kk H1 _ ?_ (hS.put z oq (hH.lo hh))
  refine hH.upd hh gne_R (hcell _) ?_ z oq
  have e : H1[a]? = some ((vp_cell (w.2.1 t0) (n, .inr (.inr (.inr (.inr (g.2 a)))))).setSlot i.toNatClampNeg (va_rf (some v))) := e
  rw [cell_updR] at e
  rw [gup_R]
  exact e
theorem g_astqN (hexec : p.tables.exec = Jvm.exec) (hb : c.code = cc) (hK : KN w s) (hH : HR w K g S H) (hS : va_S (FR w) s.heap H locs) {kr t0 : Nat} {E : String} (hk : K.1 a = (kr, n)) (hcell : ∀ g : GM, gcell w K g a = some (.inl (w.2.1 t0, n, .inr (.inr (.inr (.inr (g.2 a))))))) (h0 : kr ≠ 0) (ht : (gtys w)[t0]? = some (w.2.1 t0, .object E)) {i : Int32} (hin : gok i n = true) (hdg : decode cc pc = .ok (.aastore, 1))
    (kk : ∀ (H1 : Heap) (locs1 : List Loc), HR w K (gsR g a i.toNatClampNeg none) S H1 → va_S (FR w) s.heap H1 locs1 → W p l e R s m args below meth c H1 locs1 cells slots Q (F0 m (pc + 1) ls rest)) : W p l e R s m args below meth c H locs cells slots Q (F0 m pc ls (.null :: .int i :: .ref a :: rest)) := by
  have hh : gkd K a ≠ 0 := gkd_ne hk h0
  have hat : va_at w.1 vwCl (a, .inl (w.2.1 t0, n, .inr (.inr (.inr (.inr (g.2 a)))))) H := hH.2.1 a _ (hcell g)
  refine va_WaastN (C := E) hexec hb hat ((hK.1.2 t0 _ ht).1 n (fun j => va_rf (g.2 a j))) (fun h => by cases h) (gszR hin) rfl rfl hdg fun H1 e z oq => kk H1 _ ?_ (hS.put z oq (hH.lo hh))
  refine hH.upd hh gne_R (hcell _) ?_ z oq
  have e : H1[a]? = some ((vp_cell (w.2.1 t0) (n, .inr (.inr (.inr (.inr (g.2 a)))))).setSlot i.toNatClampNeg (va_rf none)) := e
  rw [cell_updR] at e
  rw [gup_R]
  exact e
/-- a CardText, or null, into a row of CardTexts; a Loom into a row of Looms -/
theorem g_tast (hexec : p.tables.exec = Jvm.exec) (hb : c.code = cc) (hK : KN w s) (hH : HR w K g S H) (hS : va_S (FR w) s.heap H locs) {v : Nat} (hk : K.1 a = (13, n)) (hv : gkd K v = 2) {i : Int32} (hin : gok i n = true) (hdg : decode cc pc = .ok (.aastore, 1))
    (kk : ∀ (H1 : Heap) (locs1 : List Loc), HR w K (gsR g a i.toNatClampNeg (some v)) S H1 → va_S (FR w) s.heap H1 locs1 → W p l e R s m args below meth c H1 locs1 cells slots Q (F0 m (pc + 1) ls rest)) : W p l e R s m args below meth c H locs cells slots Q (F0 m pc ls (.ref v :: .int i :: .ref a :: rest)) :=
  g_astq hexec hb hK hH hS (t0 := 3) (ci := 1) hk (fun _ => gcell13 hk) (by decide) rfl (hH.o2 hv) rfl hin hdg kk
theorem g_tastN (hexec : p.tables.exec = Jvm.exec) (hb : c.code = cc) (hK : KN w s) (hH : HR w K g S H) (hS : va_S (FR w) s.heap H locs) (hk : K.1 a = (13, n)) {i : Int32} (hin : gok i n = true) (hdg : decode cc pc = .ok (.aastore, 1))
    (kk : ∀ (H1 : Heap) (locs1 : List Loc), HR w K (gsR g a i.toNatClampNeg none) S H1 → va_S (FR w) s.heap H1 locs1 → W p l e R s m args below meth c H1 locs1 cells slots Q (F0 m (pc + 1) ls rest)) : W p l e R s m args below meth c H locs cells slots Q (F0 m pc ls (.null :: .int i :: .ref a :: rest)) :=
  g_astqN hexec hb hK hH hS (t0 := 3) hk (fun _ => gcell13 hk) (by decide) rfl hin hdg kk
theorem g_last (hexec : p.tables.exec = Jvm.exec) (hb : c.code = cc) (hK : KN w s) (hH : HR w K g S H) (hS : va_S (FR w) s.heap H locs) {v : Nat} (hk : K.1 a = (14, n)) (hv : gkd K v = 5) {i : Int32} (hin : gok i n = true) (hdg : decode cc pc = .ok (.aastore, 1))
    (kk : ∀ (H1 : Heap) (locs1 : List Loc), HR w K (gsR g a i.toNatClampNeg (some v)) S H1 → va_S (FR w) s.heap H1 locs1 → W p l e R s m args below meth c H1 locs1 cells slots Q (F0 m (pc + 1) ls rest)) : W p l e R s m args below meth c H locs cells slots Q (F0 m pc ls (.ref v :: .int i :: .ref a :: rest)) :=
  g_astq hexec hb hK hH hS (t0 := 4) (ci := 4) hk (fun _ => gcell14 hk) (by decide) rfl (hH.o5 hv) rfl hin hdg kk
theorem g_lastN (hexec : p.tables.exec = Jvm.exec) (hb : c.code = cc) (hK : KN w s) (hH : HR w K g S H) (hS : va_S (FR w) s.heap H locs) (hk : K.1 a = (14, n)) {i : Int32} (hin : gok i n = true) (hdg : decode cc pc = .ok (.aastore, 1))
    (kk : ∀ (H1 : Heap) (locs1 : List Loc), HR w K (gsR g a i.toNatClampNeg none) S H1 → va_S (FR w) s.heap H1 locs1 → W p l e R s m args below meth c H1 locs1 cells slots Q (F0 m (pc + 1) ls rest)) : W p l e R s m args below meth c H locs cells slots Q (F0 m pc ls (.null :: .int i :: .ref a :: rest)) :=
  g_astqN hexec hb hK hH hS (t0 := 4) hk (fun _ => gcell14 hk) (by decide) rfl hin hdg kk
/-- the reference's rows -/
theorem m_iald (hexec : p.tables.exec = Jvm.exec) (hb : c.code = cc) (hK : KN w s) (hH : HR w K g S H) (k : Nat) (h11 : k < 8) {i : Int32} (hl : gmlen k = n) (hin : gok i n = true) (hdg : decode cc pc = .ok (.iaload, 1))
    (kk : W p l e R s m args below meth c H locs cells slots Q (F0 m (pc + 1) ls (.int (S k i.toNatClampNeg) :: rest))) : W p l e R s m args below meth c H locs cells slots Q (F0 m pc ls (.int i :: .ref (w.2.2.2 + k) :: rest)) := by
  subst hl
  exact va_iald hexec hb hK.1 (one_P (hH.rw k h11)) 0 0 rfl rfl (gok_in hin) hdg kk
theorem m_iast (hexec : p.tables.exec = Jvm.exec) (hb : c.code = cc) (hK : KN w s) (hH : HR w K g S H) (hS : va_S (FR w) s.heap H locs) (k : Nat) (h11 : k < 8) {i x : Int32} (hl : gmlen k = n) (hin : gok i n = true) (hdg : decode cc pc = .ok (.iastore, 1))
    (kk : ∀ (H1 : Heap) (locs1 : List Loc), HR w K g (ssI S k i.toNatClampNeg x) H1 → va_S (FR w) s.heap H1 locs1 → W p l e R s m args below meth c H1 locs1 cells slots Q (F0 m (pc + 1) ls rest)) : W p l e R s m args below meth c H locs cells slots Q (F0 m pc ls (.int x :: .int i :: .ref (w.2.2.2 + k) :: rest)) := by
  subst hl
  refine W.iast hexec hb (hH.rw k h11) ((hK.1.2 0 _ rfl).1 (gmlen k) (fun j => .int (S k j))) (fun q => by cases q) (gsz hin) rfl rfl hdg fun H1 e z oq => kk H1 _ ?_ (hS.put z oq hH.loM)
  refine hH.updM h11 (fun j hj hne => gmne hne) ?_ z oq
  have e : H1[w.2.2.2 + k]? = some ((vp_cell (w.2.1 0) (gmlen k, .inl (S k))).setSlot i.toNatClampNeg (.int x)) := e
  rw [cell_upd] at e
  rw [show gmcell w (ssI S k i.toNatClampNeg x) k = .inl (w.2.1 0, gmlen k, .inl (upd (S k) i.toNatClampNeg x)) by simp [gmcell, ssI, va_up]]
  exact e
end ROWS2
section ROWS3
variable {p : Program} {l : Launch} {e : Env} {R : Room} {s : State} {m : MethodId} {args : Array Value} {below : List Frame} {meth : Method} {c : Code} {H : Heap} {locs : List Loc} {cells slots : Nat} {Q : State → Prop}
variable {cc : ByteArray} {pc : Nat} {ls : Array Slot} {rest : List Value} {a n : Nat} {w : GW} {K : GK} {g : GM} {S : GS}
theorem gne0 (z : Int32) (hz : ¬ z < 0) : z.toInt = (z.toNatClampNeg : Int) := by
  have hz0 : (0 : Int) ≤ z.toInt := by
    have := Int32.not_lt.mp hz
    simpa using Int32.le_iff_toInt_le.mp this
  show z.toInt = ((z.toInt.toNat : Nat) : Int)
  omega
/-- System.arraycopy between two rows of one kind of numbers: what the heap is behind it -/
theorem w_copy {A : Nat → Prop} {H0 : Heap} (hexec : p.tables.exec = Jvm.exec) (hb : c.code = cc) (hml : c.maxLocals = ls.size) {own : String} {index : Nat} (hown : s.vm.findClass own = some m.cls) (hlink : (Cond.methodLink own index arraycopyName).before args s = true) (hnat : (Cond.native arraycopyName).before args s = true) (hstat : (Cond.static arraycopyName).before args s = true) (hini : (Cond.initialized "java/lang/System").before args s = true)
    {cA : ClassId} {ty : FieldType} (hK : ArrOfT s cA ty) (hS : va_S A H0 H locs) {a0 n0 n1 : Nat} {f0 f1 : Nat → Int32} (hc0 : H[a0]? = some (vp_cell cA (n0, .inl f0))) (hc1 : H[a]? = some (vp_cell cA (n1, .inl f1))) (hA : A a) (hprim : refKind ty = false)
    {sp dp n : Int32} (h1 : ¬ sp < 0) (h2 : ¬ dp < 0) (h3 : ¬ n < 0) (h4 : sp.toNatClampNeg + n.toNatClampNeg ≤ n0) (h5 : dp.toNatClampNeg + n.toNatClampNeg ≤ n1) (hfit : ∀ i, i < n.toNatClampNeg → fits ty (.int (f0 (sp.toNatClampNeg + i))) = true)
    (hframes : 1 ≤ R.frames) (hlocals : (rest.map fun v => v.category).sum + (nativeFrameWords "java/lang/System" "arraycopy" 5 + 11) ≤ R.locals) (hdg : decode cc pc = .ok (.invokestatic index, 3))
    (kk : ∀ (H1 : Heap) (locs1 : List Loc), H1[a]? = some (vp_cell cA (n1, .inl (va_cpy f0 f1 sp.toNatClampNeg dp.toNatClampNeg n.toNatClampNeg))) → H1.size = H.size → (∀ q, q ≠ a → H1[q]? = H[q]?) → va_S A H0 H1 locs1 → W p l e R s m args below meth c H1 locs1 cells slots Q (F0 m (pc + 3) ls rest)) : W p l e R s m args below meth c H locs cells slots Q (F0 m pc ls (.int n :: .int dp :: .ref a :: .int sp :: .ref a0 :: rest)) := by
  intro T hT X
  obtain ⟨-, k0, hk0', cm0, hkk0⟩ := hK n0 (fun j => .int (f0 j))
  obtain ⟨-, k1, hk1', cm1, hkk1⟩ := hK n1 (fun j => .int (f1 j))
  obtain ⟨vm', X', step⟩ := X.arraycopy hexec hown hlink hnat hstat hini (src := a0) (dst := a) (cs := vp_cell cA (n0, .inl f0)) (cd := vp_cell cA (n1, .inl f1)) (srcPos := sp) (destPos := dp) (n := n) (by rw [hT]; exact hc0) (by rw [hT]; exact hc1)
    (fun _ h => by cases h) (fun _ h => by cases h) (fun h => by cases h) (fun h => by cases h) hk0' hk1' hkk0 hkk1 (by simp [hprim]) h1 h2 h3
    (by rw [gne0 sp h1, gne0 n h3]; show ¬ _ > ((arrV cA n0 (fun j => .int (f0 j))).slots.size : Int); rw [arrV_size]; omega)
    (by rw [gne0 dp h2, gne0 n h3]; show ¬ _ > ((arrV cA n1 (fun j => .int (f1 j))).slots.size : Int); rw [arrV_size]; omega)
    (fun vm₁ _ i hi => by
      have e : (vp_cell cA (n0, .inl f0)).slots.getD (sp.toNatClampNeg + i) .null = .int (f0 (sp.toNatClampNeg + i)) := by
        show (arrV cA n0 (fun j => .int (f0 j))).slots.getD _ _ = _
        rw [Array.getD_eq_getD_getElem?, arrV_read _ _ (by omega)]
        rfl
      refine ⟨?_, ?_⟩
      · rw [e]
        exact hfit i hi
      · rw [e]
        exact trivial)
    (g := F0 m pc ls (.int n :: .int dp :: .ref a :: .int sp :: .ref a0 :: rest)) rfl (by rw [hml]) (rest := rest) rfl (by rw [hb]; exact hdg) hframes (by show 2 * 0 + _ + _ ≤ _; omega)
  have e1 : copied (vp_cell cA (n0, .inl f0)) (vp_cell cA (n1, .inl f1)) sp dp n = vp_cell cA (n1, .inl (va_cpy f0 f1 sp.toNatClampNeg dp.toNatClampNeg n.toNatClampNeg)) := va_copied (fun z => .int z) cA cA f0 f1 h4
  rw [e1] at X' step
  have hl : a < H.size := (Array.getElem?_eq_some_iff.mp hc1).1
  have hheap : ((T.setVm vm').setCell a (vp_cell cA (n1, .inl (va_cpy f0 f1 sp.toNatClampNeg dp.toNatClampNeg n.toNatClampNeg)))).heap = H.setIfInBounds a (vp_cell cA (n1, .inl (va_cpy f0 f1 sp.toNatClampNeg dp.toNatClampNeg n.toNatClampNeg))) := by rw [← hT]; rfl
  have oq : ∀ q : Nat, q ≠ a → (H.setIfInBounds a (vp_cell cA (n1, .inl (va_cpy f0 f1 sp.toNatClampNeg dp.toNatClampNeg n.toNatClampNeg))))[q]? = H[q]? := fun q hq => by simp [Array.getElem?_setIfInBounds, Ne.symm hq]
  have hz : (H.setIfInBounds a (vp_cell cA (n1, .inl (va_cpy f0 f1 sp.toNatClampNeg dp.toNatClampNeg n.toNatClampNeg)))).size = H.size := by simp
  obtain ⟨t', a1, b1⟩ := kk _ _ (by simp [Array.getElem?_setIfInBounds, hl]) hz oq ⟨by rw [hz]; exact hS.1, fun q g1 g2 => by
      rw [oq q (fun e => g2 (by rw [e]; exact hA))]
      exact hS.2.1 q g1 g2, fun q hq => by
      rcases List.mem_append.mp hq with h | h
      · exact hS.2.2 q h
      · obtain ⟨z, -, hz⟩ := List.mem_map.mp h
        rw [← hz]
        exact hA⟩ _ hheap X'
  exact ⟨t', step t' a1, b1⟩
theorem g_copy (hexec : p.tables.exec = Jvm.exec) (hb : c.code = cc) (hml : c.maxLocals = ls.size) {own : String} {index : Nat} (hown : s.vm.findClass own = some m.cls) (hlink : (Cond.methodLink own index arraycopyName).before args s = true) (hnat : (Cond.native arraycopyName).before args s = true) (hstat : (Cond.static arraycopyName).before args s = true) (hini : (Cond.initialized "java/lang/System").before args s = true)
    (hK : KN w s) (hH : HR w K g S H) (hS : va_S (FR w) s.heap H locs) {t kr a0 n0 n1 : Nat} {ty : FieldType} (hk0 : K.1 a0 = (kr, n0)) (hk1 : K.1 a = (kr, n1)) (hcell : ∀ (a n : Nat) (g : GM), K.1 a = (kr, n) → gcell w K g a = some (.inl (w.2.1 t, n, .inl (g.1 a)))) (hr0 : kr ≠ 0) (ht : (gtys w)[t]? = some (w.2.1 t, ty)) (hprim : refKind ty = false)
    {sp dp n : Int32} (h1 : ¬ sp < 0) (h2 : ¬ dp < 0) (h3 : ¬ n < 0) (h4 : sp.toNatClampNeg + n.toNatClampNeg ≤ n0) (h5 : dp.toNatClampNeg + n.toNatClampNeg ≤ n1) (hfit : ∀ i, i < n.toNatClampNeg → fits ty (.int (g.1 a0 (sp.toNatClampNeg + i))) = true)
    (hframes : 1 ≤ R.frames) (hlocals : (rest.map fun v => v.category).sum + (nativeFrameWords "java/lang/System" "arraycopy" 5 + 11) ≤ R.locals) (hdg : decode cc pc = .ok (.invokestatic index, 3))
    (kk : ∀ (H1 : Heap) (locs1 : List Loc), HR w K (gsC g a (va_cpy (g.1 a0) (g.1 a) sp.toNatClampNeg dp.toNatClampNeg n.toNatClampNeg)) S H1 → va_S (FR w) s.heap H1 locs1 → W p l e R s m args below meth c H1 locs1 cells slots Q (F0 m (pc + 3) ls rest)) : W p l e R s m args below meth c H locs cells slots Q (F0 m pc ls (.int n :: .int dp :: .ref a :: .int sp :: .ref a0 :: rest)) := by
  have hh : gkd K a ≠ 0 := gkd_ne hk1 hr0
  refine w_copy hexec hb hml hown hlink hnat hstat hini (hK.1.2 t _ ht).1 hS (hH.2.1 a0 _ (hcell a0 n0 g hk0)) (hH.2.1 a _ (hcell a n1 g hk1)) (hH.lo hh) hprim h1 h2 h3 h4 h5 hfit hframes hlocals hdg (fun H1 locs1 e1 hz oq hS1 => kk H1 locs1 ?_ hS1)
  refine hH.upd hh gne_C (hcell a n1 _ hk1) ?_ hz oq
  show H1[a]? = some _
  rw [e1]
  simp [gsC, va_up]
end ROWS3
