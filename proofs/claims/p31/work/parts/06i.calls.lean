/-! calls of static methods, of methods that read the static rows or the script, of methods that return a long -/
abbrev QL (w : GW) (K : GK) (g : GM) (S : GS) (r : Int64) : Array Value → State → Outcome → State → Prop := va_Ql (fun (r0 : Int64) (_ : Unit) => r0 = r) (fun _ t => HR w K g S t.heap) (FR w)
abbrev PCELL (xs : Nat → Int32) (L b : Nat) (w : GW) (K : GK) (g : GM) (S : GS) (av : List Value) : Array Value → State → Prop := va_Pc av (fun U => HR w K g S U.heap ∧ KN w U ∧ va_X b L xs U U.heap ∧ b < U.heap.size)
theorem vaX_calling {b L : Nat} {xs : Nat → Int32} {U : State} {H : Heap} {G : JFrame} {mk : MethodId} {a : Array Value} (h : va_X b L xs U H) : va_X b L xs (U.calling G mk a) H := va_X.moved (u := U) (U := U.calling G mk a) (Vm.Alike.refl U.vm) h
theorem GST.moved {w : GW} {s U : State} {H : Heap} {locs : List Loc} (h : GST w s) (hS : va_S (FR w) s.heap H locs) (hU : U.heap = H) (hW : s.WarmedH U.vm) : GST w U := by
  obtain ⟨t1, t2, h1, h2, h3, h4⟩ := h
  have hq : ∀ a : Nat, a < s.heap.size → ¬ FR w a → U.heap[a]? = s.heap[a]? := fun a h1 h2 => by rw [hU]; exact hS.2.1 a h1 h2
  exact ⟨t1, t2, (h1.moved hW.alike).kept hq, (h2.moved hW.alike).kept hq, (h3.moved hW.alike).kept hq, (h4.moved hW.alike).kept hq⟩
theorem GST.calling {w : GW} {U : State} {G : JFrame} {mk : MethodId} {a : Array Value} (h : GST w U) : GST w (U.calling G mk a) := by
  obtain ⟨t1, t2, h1, h2, h3, h4⟩ := h
  exact ⟨t1, t2, va_Z.moved (u := U) (U := U.calling G mk a) (Vm.Alike.refl U.vm) h1, va_T.moved (u := U) (U := U.calling G mk a) (Vm.Alike.refl U.vm) h2, va_Z.moved (u := U) (U := U.calling G mk a) (Vm.Alike.refl U.vm) h3, va_T.moved (u := U) (U := U.calling G mk a) (Vm.Alike.refl U.vm) h4⟩
section CALLS
variable {p : Program} {l : Launch} {e : Env} {R : Room} {s : State} {m : MethodId} {args : Array Value} {below : List Frame} {meth : Method} {c : Code} {H : Heap} {locs : List Loc} {cells slots : Nat} {Q : State → Prop}
variable {y : MethodName} {bytes cc : ByteArray} {maxL nL n index pc mc ms : Nat} {ret : Option FieldType} {wsc : List Cond} {rm : Room} {Ts : List Cond} {own C : String} {b : Addr} {As rest st : List Value} {ls : Array Slot}
variable {w : GW} {K K' : GK} {g g' : GM} {S S' : GS}
theorem g_ViS {r : Int32} (S0 : CallFix p m c cc nL s args Ts own) (hM : Met l y wsc rm (PSET w K g S (.ref b :: As)) (QI w K' g' S' r) mc ms (FR w)) (cw : CallW R s args own C index y bytes maxL ret wsc rm mc ms n) (hrc : gRecv s H C b) (hH : HR w K g S H) (hK : KN w s) (hG : GST w s) (hS : va_S (FR w) s.heap H locs)
    (hls : ls.size = nL) (hn : As.length = n) (hst : st = As.reverse ++ .ref b :: rest) (hW : (rest.map fun v => v.category).sum ≤ 8) (hdg : decode cc pc = .ok (.invokevirtual index, 3)) (hf : cells + mc ≤ R.cells ∧ slots + ms ≤ R.slots)
    (kk : ∀ (H1 : Heap) (locs1 : List Loc), HR w K' g' S' H1 → va_S (FR w) s.heap H1 locs1 → W p l e R s m args below meth c H1 locs1 (cells + mc) (slots + ms) Q (F0 m (pc + 3) ls (.int r :: rest))) : W p l e R s m args below meth c H locs cells slots Q (F0 m pc ls st) := by
  subst hst
  refine va_calli (va_runV (As := As) (rest := rest) S0 hM cw ⟨fun _ _ _ _ q => ⟨q.1, q.2.1, q.2.2.1.calling, q.2.2.2.calling⟩, hrc, fun U hU hW => ⟨rfl, by rw [hU]; exact hH, hK.moved hW, hG.moved hS hU hW⟩⟩ rfl hn hls rfl (lv_room hW) hdg hf) hS (fun q _ h => h) (fun q h => h) (fun r0 u t H1 locs1 ht hvm hr hB hz hk hS1 => ?_)
  subst hr
  rw [ht] at hB
  exact kk H1 locs1 hB hS1
theorem g_Sv (S0 : CallFix p m c cc nL s args Ts own) (hM : Met l y wsc rm (PRE w K g S As) (QV w K' g' S') mc ms (FR w)) (cw : CallB R s args own index y bytes maxL ret wsc rm mc ms n ∧ (Cond.static y).before args s = true) (hH : HR w K g S H) (hK : KN w s) (hS : va_S (FR w) s.heap H locs)
    (hls : ls.size = nL) (hn : As.length = n) (hst : st = As.reverse ++ rest) (hW : (rest.map fun v => v.category).sum ≤ 8) (hdg : decode cc pc = .ok (.invokestatic index, 3)) (hf : cells + mc ≤ R.cells ∧ slots + ms ≤ R.slots)
    (kk : ∀ (H1 : Heap) (locs1 : List Loc), HR w K' g' S' H1 → va_S (FR w) s.heap H1 locs1 → W p l e R s m args below meth c H1 locs1 (cells + mc) (slots + ms) Q (F0 m (pc + 3) ls (rest))) : W p l e R s m args below meth c H locs cells slots Q (F0 m pc ls st) := by
  subst hst
  refine va_callv (va_runS (As := As) (rest := rest) S0 hM cw ⟨PRE.blind, fun U hU hW => ⟨rfl, by rw [hU]; exact hH, hK.moved hW⟩⟩ rfl hn hls rfl (lv_room hW) hdg hf) hS (fun q _ h => h) (fun q h => h) (fun u t H1 locs1 ht hvm hr hB hz hk hS1 => ?_)
  rw [ht] at hB
  exact kk H1 locs1 hB hS1
theorem g_Sl {r : Int64} (S0 : CallFix p m c cc nL s args Ts own) (hM : Met l y wsc rm (PRE w K g S As) (QL w K' g' S' r) mc ms (FR w)) (cw : CallB R s args own index y bytes maxL ret wsc rm mc ms n ∧ (Cond.static y).before args s = true) (hH : HR w K g S H) (hK : KN w s) (hS : va_S (FR w) s.heap H locs)
    (hls : ls.size = nL) (hn : As.length = n) (hst : st = As.reverse ++ rest) (hW : (rest.map fun v => v.category).sum ≤ 8) (hdg : decode cc pc = .ok (.invokestatic index, 3)) (hf : cells + mc ≤ R.cells ∧ slots + ms ≤ R.slots)
    (kk : ∀ (H1 : Heap) (locs1 : List Loc), HR w K' g' S' H1 → va_S (FR w) s.heap H1 locs1 → W p l e R s m args below meth c H1 locs1 (cells + mc) (slots + ms) Q (F0 m (pc + 3) ls (.long r :: rest))) : W p l e R s m args below meth c H locs cells slots Q (F0 m pc ls st) := by
  subst hst
  refine va_calll (va_runS (As := As) (rest := rest) S0 hM cw ⟨PRE.blind, fun U hU hW => ⟨rfl, by rw [hU]; exact hH, hK.moved hW⟩⟩ rfl hn hls rfl (lv_room hW) hdg hf) hS (fun q _ h => h) (fun q h => h) (fun r0 u t H1 locs1 ht hvm hr hB hz hk hS1 => ?_)
  subst hr
  rw [ht] at hB
  exact kk H1 locs1 hB hS1
theorem g_SiS {r : Int32} (S0 : CallFix p m c cc nL s args Ts own) (hM : Met l y wsc rm (PSET w K g S As) (QI w K' g' S' r) mc ms (FR w)) (cw : CallB R s args own index y bytes maxL ret wsc rm mc ms n ∧ (Cond.static y).before args s = true) (hH : HR w K g S H) (hK : KN w s) (hG : GST w s) (hS : va_S (FR w) s.heap H locs)
    (hls : ls.size = nL) (hn : As.length = n) (hst : st = As.reverse ++ rest) (hW : (rest.map fun v => v.category).sum ≤ 8) (hdg : decode cc pc = .ok (.invokestatic index, 3)) (hf : cells + mc ≤ R.cells ∧ slots + ms ≤ R.slots)
    (kk : ∀ (H1 : Heap) (locs1 : List Loc), HR w K' g' S' H1 → va_S (FR w) s.heap H1 locs1 → W p l e R s m args below meth c H1 locs1 (cells + mc) (slots + ms) Q (F0 m (pc + 3) ls (.int r :: rest))) : W p l e R s m args below meth c H locs cells slots Q (F0 m pc ls st) := by
  subst hst
  refine va_calli (va_runS (As := As) (rest := rest) S0 hM cw ⟨fun _ _ _ _ q => ⟨q.1, q.2.1, q.2.2.1.calling, q.2.2.2.calling⟩, fun U hU hW => ⟨rfl, by rw [hU]; exact hH, hK.moved hW, hG.moved hS hU hW⟩⟩ rfl hn hls rfl (lv_room hW) hdg hf) hS (fun q _ h => h) (fun q h => h) (fun r0 u t H1 locs1 ht hvm hr hB hz hk hS1 => ?_)
  subst hr
  rw [ht] at hB
  exact kk H1 locs1 hB hS1
theorem g_SiC {r : Int32} {xs : Nat → Int32} {L b : Nat} (S0 : CallFix p m c cc nL s args Ts own) (hM : Met l y wsc rm (PCELL xs L b w K g S As) (QI w K' g' S' r) mc ms (FR w)) (cw : CallB R s args own index y bytes maxL ret wsc rm mc ms n ∧ (Cond.static y).before args s = true) (hH : HR w K g S H) (hK : KN w s) (hX : va_X b L xs s s.heap) (hbl : b < s.heap.size) (hbA : ¬ FR w b) (hS : va_S (FR w) s.heap H locs)
    (hls : ls.size = nL) (hn : As.length = n) (hst : st = As.reverse ++ rest) (hW : (rest.map fun v => v.category).sum ≤ 8) (hdg : decode cc pc = .ok (.invokestatic index, 3)) (hf : cells + mc ≤ R.cells ∧ slots + ms ≤ R.slots)
    (kk : ∀ (H1 : Heap) (locs1 : List Loc), HR w K' g' S' H1 → va_S (FR w) s.heap H1 locs1 → W p l e R s m args below meth c H1 locs1 (cells + mc) (slots + ms) Q (F0 m (pc + 3) ls (.int r :: rest))) : W p l e R s m args below meth c H locs cells slots Q (F0 m pc ls st) := by
  subst hst
  refine va_calli (va_runS (As := As) (rest := rest) S0 hM cw ⟨fun _ _ _ _ q => ⟨q.1, q.2.1, q.2.2.1.calling, vaX_calling q.2.2.2.1, q.2.2.2.2⟩, fun U hU hW => ⟨rfl, by rw [hU]; exact hH, hK.moved hW, (hX.moved hW.alike).kept (by rw [hU]; exact hS.2.1 b hbl hbA), by rw [hU]; exact Nat.lt_of_lt_of_le hbl hS.1⟩⟩ rfl hn hls rfl (lv_room hW) hdg hf) hS (fun q _ h => h) (fun q h => h) (fun r0 u t H1 locs1 ht hvm hr hB hz hk hS1 => ?_)
  subst hr
  rw [ht] at hB
  exact kk H1 locs1 hB hS1
end CALLS
