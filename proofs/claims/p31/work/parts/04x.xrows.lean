/-! CONSTRUCTORS: the new cells, from the object on -/
def NX (w : GW) (o n : Nat) (f : Nat → va_E) (H : Heap) : Prop := H.size = o + n ∧ ∀ i, i < n → va_at w.1 vwCl (o + i, f i) H
abbrev XR (o : Nat) : Nat → Prop := fun q => o ≤ q
theorem NX.to {w : GW} {o n : Nat} {f f' : Nat → va_E} {H : Heap} (h : NX w o n f H) (e : ∀ i, i < n → f i = f' i) : NX w o n f' H := ⟨h.1, fun i hi => by rw [← e i hi]; exact h.2 i hi⟩
theorem NX.upd {w : GW} {o n i : Nat} {f : Nat → va_E} {e : va_E} {H H1 : Heap} (h : NX w o n f H) (hat : va_at w.1 vwCl (o + i, e) H1) (hz : H1.size = H.size) (hq : ∀ q, q ≠ o + i → H1[q]? = H[q]?) : NX w o n (va_up f i e) H1 := by
  refine ⟨hz.trans h.1, fun j hj => ?_⟩
  by_cases hji : j = i
  · subst hji
    rw [va_up_self]
    exact hat
  · rw [va_up_ne _ _ hji]
    exact (h.2 j hj).kept (hq _ (by show o + j ≠ o + i; omega))
theorem NX.push {w : GW} {o n : Nat} {f : Nat → va_E} {e : va_E} {H H1 : Heap} (h : NX w o n f H) (hat : va_at w.1 vwCl (o + n, e) H1) (hz : H1.size = H.size + 1) (hq : ∀ q, q < H.size → H1[q]? = H[q]?) : NX w o (n + 1) (va_up f n e) H1 := by
  refine ⟨by rw [hz, h.1]; omega, fun j hj => ?_⟩
  by_cases hjn : j = n
  · subst hjn
    rw [va_up_self]
    exact hat
  · rw [va_up_ne _ _ hjn]
    exact (h.2 j (by omega)).kept (hq _ (by show o + j < H.size; rw [h.1]; omega))
section XROWS
variable {p : Program} {l : Launch} {e : Env} {R : Room} {s : State} {m : MethodId} {args : Array Value} {below : List Frame} {meth : Method} {c : Code} {H : Heap} {locs : List Loc} {cells slots : Nat} {Q : State → Prop}
variable {cc : ByteArray} {pc index : Nat} {own : String} {ls : Array Slot} {rest : List Value} {a n o : Nat} {w : GW} {f : Nat → va_E} {A : Nat → Prop}
theorem x_S {H0 H1 : Heap} {locs : List Loc} (hS : va_S A H0 H locs) (hA : ∀ q, o ≤ q → A q) (hz : H.size ≤ H1.size) (hq : ∀ q, q < o → H1[q]? = H[q]?) : va_S A H0 H1 locs :=
  ⟨Nat.le_trans hS.1 hz, fun q h1 h2 => (hq q (Nat.lt_of_not_le fun h => h2 (hA q h))).trans (hS.2.1 q h1 h2), hS.2.2⟩
/-- a new row of numbers -/
theorem x_newa (hexec : p.tables.exec = Jvm.exec) (hb : c.code = cc) {atype : ArrayType} {ty : FieldType} {t : Nat} (harr : (Cond.arrayClass (newarray.typeOf atype)).before args s = true) (hty : newarray.typeOf atype = ty) (hdv : defaultValue ty = .int 0) (hnm : s.vm.findClass ("[" ++ ty.toString) = some (w.2.1 t)) (hN : NX w o n f H) (hS : va_S A s.heap H locs) (hA : ∀ q, o ≤ q → A q)
    {x : Int32} {N : Nat} (hx0 : ¬ x < 0) (hxN : x.toNatClampNeg = N) (hbytes : N * componentBytes ty ≤ 536870912) (hcells : cells + 1 ≤ R.cells) (hslots : slots + N ≤ R.slots) (hdg : decode cc pc = .ok (.newarray atype, 2))
    (kk : ∀ (H1 : Heap), NX w o (n + 1) (va_up f n (.inl (w.2.1 t, N, .inl (fun _ => 0)))) H1 → (∀ q, q < o → H1[q]? = H[q]?) → va_S A s.heap H1 locs → W p l e R s m args below meth c H1 locs (cells + 1) (slots + N) Q (F0 m (pc + 2) ls (.ref (o + n) :: rest))) : W p l e R s m args below meth c H locs cells slots Q (F0 m pc ls (.int x :: rest)) := by
  subst hty
  refine va_newaK hexec hb harr rfl hdg rfl hx0 hxN hbytes hcells hslots (h := o + n) hN.1 fun H1 cA e1 z1 o1 hAr hNm => ?_
  have hcA : cA = w.2.1 t := Option.some.inj (hNm.symm.trans hnm)
  subst hcA
  have oq : ∀ q, q < H.size → H1[q]? = H[q]? := fun q hq => o1 q (by rw [← hN.1]; exact hq)
  refine kk H1 (hN.push ?_ (by rw [z1, hN.1]) oq) (fun q hq => oq q (by rw [hN.1]; omega)) (x_S hS hA (by rw [z1, hN.1]; omega) (fun q hq => oq q (by rw [hN.1]; omega)))
  show H1[o + n]? = some (vp_cell _ _)
  rw [e1, vp_cell_i, hdv]
/-- a new row of references -/
theorem x_newq (hexec : p.tables.exec = Jvm.exec) (hb : c.code = cc) {C : String} {t : Nat} (hown : s.vm.findClass own = some m.cls) (hclink : (Cond.classLink own index C).before args s = true) (hover : va_AO C s) (hnm : s.vm.findClass ("[" ++ (FieldType.object C).toString) = some (w.2.1 t)) (hN : NX w o n f H) (hS : va_S A s.heap H locs) (hA : ∀ q, o ≤ q → A q)
    {x : Int32} {N : Nat} (hx0 : ¬ x < 0) (hxN : x.toNatClampNeg = N) (hbytes : N * 4 ≤ 536870912) (hcells : cells + 1 ≤ R.cells) (hslots : slots + N ≤ R.slots) (hdg : decode cc pc = .ok (.anewarray index, 3))
    (kk : ∀ (H1 : Heap), NX w o (n + 1) (va_up f n (.inl (w.2.1 t, N, .inr (.inr (.inr (.inr (fun _ => none))))))) H1 → (∀ q, q < o → H1[q]? = H[q]?) → va_S A s.heap H1 locs → W p l e R s m args below meth c H1 locs (cells + 1) (slots + N) Q (F0 m (pc + 3) ls (.ref (o + n) :: rest))) : W p l e R s m args below meth c H locs cells slots Q (F0 m pc ls (.int x :: rest)) := by
  subst hxN
  refine W.anew hexec hb hown hclink (va_AO.use hover) rfl hdg rfl hx0 hbytes hcells hslots fun cA kA comp f1 f2 f3 f4 => ?_
  have hcA : cA = w.2.1 t := Option.some.inj (f1.symm.trans hnm)
  subst hcA
  generalize hH1 : H.push ({ cls := w.2.1 t, slots := Array.replicate x.toNatClampNeg .null, vm := .none } : Cell) = H1
  have z1 : H1.size = H.size + 1 := by rw [← hH1, Array.size_push]
  have e1 : H1[H.size]? = some (arrV (w.2.1 t) x.toNatClampNeg (fun _ => .null)) := by rw [← hH1, Array.getElem?_push_size, ← arrV_new]
  have oq : ∀ q, q < H.size → H1[q]? = H[q]? := fun q hq => by rw [← hH1, Array.getElem?_push_lt hq]; exact (Array.getElem?_eq_getElem hq).symm
  rw [show Value.ref H.size = .ref (o + n) by rw [hN.1]]
  refine kk H1 (hN.push ?_ z1 oq) (fun q hq => oq q (by rw [hN.1]; omega)) (x_S hS hA (by rw [z1]; omega) (fun q hq => oq q (by rw [hN.1]; omega)))
  show H1[o + n]? = some (vp_cell _ _)
  rw [← hN.1, e1]
  rfl
/-- a new object, its fields blank -/
theorem x_new {c0 : Code} (hexec : p.tables.exec = Jvm.exec) (hb : c0.code = cc) {C : String} {T : u_T} {N ci : Nat} {Ts : List Cond} (hts : ∀ w ∈ Ts, w.before args s = true) (hin : ∀ w ∈ u_ws C T N, w ∈ Ts) (ty : Nat → FieldType) (hty : ∀ k, k < N → parseFieldDescriptor (T k).2.2.1 = some (ty k)) (hown : s.vm.findClass own = some m.cls) (hcl : (Cond.classLink own index C).before args s = true) (hinst : (Cond.instantiable C N).before args s = true) (hini : (Cond.initialized C).before args s = true) (hK : KN w s) (hc : vwCl[ci]? = some (C, T, N)) {fs : List Value} (hfs : ∀ j, j < N → defaultValue (ty j) = vp_V fs j) (hN : NX w o n f H) (hS : va_S A s.heap H locs) (hA : ∀ q, o ≤ q → A q)
    (hcells : cells + 1 ≤ R.cells) (hslots : slots + N ≤ R.slots) (hdg : decode cc pc = .ok (.new index, 3))
    (kk : ∀ (H1 : Heap), NX w o (n + 1) (va_up f n (.inr (ci, fs))) H1 → (∀ q, q < o → H1[q]? = H[q]?) → va_S A s.heap H1 locs → W p l e R s m args below meth c0 H1 locs (cells + 1) (slots + N) Q (F0 m (pc + 3) ls (.ref (o + n) :: rest))) : W p l e R s m args below meth c0 H locs cells slots Q (F0 m pc ls rest) := by
  have hKn := hK.1.1 ci _ hc
  refine W.newcK hexec hb hown hcl hinst hini rfl hdg hcells hslots hKn.2.1 (h := o + n) hN.1 fun H1 kC hkC e1 z1 o1 => ?_
  have oq : ∀ q, q < H.size → H1[q]? = H[q]? := fun q hq => o1 q (by rw [← hN.1]; exact hq)
  exact kk H1 (hN.push ⟨_, hc, (u_born ty hts hin hKn hkC e1 hty).to hfs⟩ (by rw [z1, hN.1]) oq) (fun q hq => oq q (by rw [hN.1]; omega)) (x_S hS hA (by rw [z1, hN.1]; omega) (fun q hq => oq q (by rw [hN.1]; omega)))
theorem x_put1 {H0 H1 : Heap} {i k : Nat} (hS : va_S A H0 H locs) (hA : ∀ q, o ≤ q → A q) (hz : H1.size = H.size) (hq : ∀ q, q ≠ o + i → H1[q]? = H[q]?) : va_S A H0 H1 (locs ++ [⟨o + i, k⟩]) := hS.put hz hq (hA _ (Nat.le_add_right o i))
theorem x_fr {H1 : Heap} {i : Nat} (hq : ∀ q, q ≠ o + i → H1[q]? = H[q]?) : ∀ q, q < o → H1[q]? = H[q]? := fun q h => hq q (by omega)
/-- a field of a new object: any, and a final one in its constructor -/
theorem x_put (hexec : p.tables.exec = Jvm.exec) (hb : c.code = cc) {C : String} {T : u_T} {N ci : Nat} {Ts : List Cond} (hts : ∀ w ∈ Ts, w.before args s = true) (hin : ∀ w ∈ u_ws C T N, w ∈ Ts) (ty0 : Nat → FieldType) (hty : ∀ k, k < N → parseFieldDescriptor (T k).2.2.1 = some (ty0 k)) (hnm : ∀ a, a < N → ∀ b, b < N → a ≠ b → (T a).2.1 ≠ (T b).2.1) (hown : s.vm.findClass own = some m.cls) (hK : KN w s) (hN : NX w o n f H) (hS : va_S A s.heap H locs) (hA : ∀ q, o ≤ q → A q) (i : Nat) (hi : i < n) {fs : List Value} (hfi : f i = .inr (ci, fs)) (hc : vwCl[ci]? = some (C, T, N)) (k : Nat) (hk : k < N) (hlink : (Cond.fieldLink own index (T k).1 (T k).2.1 (T k).2.2.1).before args s = true) (hfin : (T k).2.2.2 = false) {ty : FieldType} {v : Value} (hd : parseFieldDescriptor (T k).2.2.1 = some ty) (hn : narrow ty v = v) (hfit : fits ty v = true) (hl : k < fs.length)
    (hdg : decode cc pc = .ok (.putfield index, 3)) (kk : ∀ (H1 : Heap) (locs1 : List Loc), NX w o n (va_up f i (.inr (ci, fs.set k v))) H1 → (∀ q, q < o → H1[q]? = H[q]?) → va_S A s.heap H1 locs1 → W p l e R s m args below meth c H1 locs1 cells slots Q (F0 m (pc + 3) ls rest)) : W p l e R s m args below meth c H locs cells slots Q (F0 m pc ls (v :: .ref (o + i) :: rest)) := by
  have hap := va_apart (own := own) hts hin ty0 hty hnm hK.1 hc
  have hat := hN.2 i hi
  rw [hfi] at hat
  obtain ⟨r, h1, cell, q1, q2, q3, q4⟩ := hat
  have hr : r = (C, T, N) := Option.some.inj (h1.symm.trans hc)
  subst hr
  obtain ⟨hSl, hfc, kC, hkC, hkind⟩ := hK.1.1 ci _ hc
  obtain ⟨cf, kf, fi, fd, hif, hsl⟩ := hSl k hk
  have hlay := hts _ (hin _ (u_in_lay hk))
  unfold u_lay at hlay
  rw [if_neg (by rw [hfin]; decide)] at hlay
  have hst := (u_facts hfc hkC (u_lays hts hin hk) hif).1
  have h6 := u_store hfc hkC hkind hlay hif hd hn hfit
  refine W.putK hexec hb (f := fd) ⟨hown, hlink, ⟨_, _, _, hif⟩, hst⟩ (by rw [q2]; exact h6) q1 q3 (by rw [hsl]; exact k2_hasslot (q4 k hk)) rfl rfl hdg fun H' e1 e2 e3 => ?_
  rw [hsl] at e1 ⊢
  exact kk H' _ (hN.upd ⟨_, hc, t_OB.to (V := updV (vp_V fs) k v) ⟨_, e1, q2, q3, t_set q4 hap hk v⟩ (fun j _ => vp_updV_set hl v j)⟩ e2 e3) (x_fr e3) (x_put1 hS hA e2 e3)
theorem x_putF (hexec : p.tables.exec = Jvm.exec) (hb : c.code = cc) {C : String} {T : u_T} {N ci : Nat} {Ts : List Cond} (hts : ∀ w ∈ Ts, w.before args s = true) (hin : ∀ w ∈ u_ws C T N, w ∈ Ts) (ty0 : Nat → FieldType) (hty : ∀ k, k < N → parseFieldDescriptor (T k).2.2.1 = some (ty0 k)) (hnm : ∀ a, a < N → ∀ b, b < N → a ≠ b → (T a).2.1 ≠ (T b).2.1) (hown : s.vm.findClass own = some m.cls) (hK : KN w s) (hN : NX w o n f H) (hS : va_S A s.heap H locs) (hA : ∀ q, o ≤ q → A q) (i : Nat) (hi : i < n) {fs : List Value} (hfi : f i = .inr (ci, fs)) (hc : vwCl[ci]? = some (C, T, N)) (k : Nat) (hk : k < N) (hlink : (Cond.fieldLink own index (T k).1 (T k).2.1 (T k).2.2.1).before args s = true) (hfin : (T k).2.2.2 = true) (hin2 : meth.name = "<init>") (hdecl : (T k).1 = own) {ty : FieldType} {v : Value} (hd : parseFieldDescriptor (T k).2.2.1 = some ty) (hn : narrow ty v = v) (hfit : fits ty v = true) (hl : k < fs.length)
    (hdg : decode cc pc = .ok (.putfield index, 3)) (kk : ∀ (H1 : Heap) (locs1 : List Loc), NX w o n (va_up f i (.inr (ci, fs.set k v))) H1 → (∀ q, q < o → H1[q]? = H[q]?) → va_S A s.heap H1 locs1 → W p l e R s m args below meth c H1 locs1 cells slots Q (F0 m (pc + 3) ls rest)) : W p l e R s m args below meth c H locs cells slots Q (F0 m pc ls (v :: .ref (o + i) :: rest)) := by
  have hap := va_apart (own := own) hts hin ty0 hty hnm hK.1 hc
  have hat := hN.2 i hi
  rw [hfi] at hat
  obtain ⟨r, h1, cell, q1, q2, q3, q4⟩ := hat
  have hr : r = (C, T, N) := Option.some.inj (h1.symm.trans hc)
  subst hr
  obtain ⟨hSl, hfc, kC, hkC, hkind⟩ := hK.1.1 ci _ hc
  obtain ⟨cf, kf, fi, fd, hif, hsl⟩ := hSl k hk
  have hlay := hts _ (hin _ (u_in_lay hk))
  unfold u_lay at hlay
  rw [if_pos hfin] at hlay
  have hst := (u_facts hfc hkC (u_lays hts hin hk) hif).1
  have hcf : m.cls = cf := by
    obtain ⟨_, _, c', _, _, _, -, -, hf', -, -, -, hown2, -⟩ := Cond.laysFinal_spec hlay
    have e1 : c' = cf := by have := hif.symm.trans hf'; simp at this; exact this.1.symm
    rw [hdecl] at hown2
    rw [← e1]; exact Option.some.inj (hown.symm.trans hown2)
  have h6 := u_fits hfc hkC hkind (Or.inr hlay) hif hd hn hfit
  refine W.putFinK hexec hb hown hlink hif hst hcf hin2 (by rw [q2]; exact h6) q1 q3 (by rw [hsl]; exact k2_hasslot (q4 k hk)) rfl rfl hdg fun H' e1 e2 e3 => ?_
  rw [hsl] at e1 ⊢
  exact kk H' _ (hN.upd ⟨_, hc, t_OB.to (V := updV (vp_V fs) k v) ⟨_, e1, q2, q3, t_set q4 hap hk v⟩ (fun j _ => vp_updV_set hl v j)⟩ e2 e3) (x_fr e3) (x_put1 hS hA e2 e3)
theorem x_get (hexec : p.tables.exec = Jvm.exec) (hb : c.code = cc) {C : String} {T : u_T} {N ci : Nat} {Ts : List Cond} (hts : ∀ w ∈ Ts, w.before args s = true) (hin : ∀ w ∈ u_ws C T N, w ∈ Ts) (hown : s.vm.findClass own = some m.cls) (hK : KN w s) (hN : NX w o n f H) (i : Nat) (hi : i < n) {fs : List Value} (hfi : f i = .inr (ci, fs)) (hc : vwCl[ci]? = some (C, T, N)) (k : Nat) (hk : k < N) (hlink : (Cond.fieldLink own index (T k).1 (T k).2.1 (T k).2.2.1).before args s = true) {v : Value} (hv : fs[k]? = some v) (hdg : decode cc pc = .ok (.getfield index, 3))
    (kk : W p l e R s m args below meth c H locs cells slots Q (F0 m (pc + 3) ls (v :: rest))) : W p l e R s m args below meth c H locs cells slots Q (F0 m pc ls (.ref (o + i) :: rest)) := by
  have hat := hN.2 i hi
  rw [hfi] at hat
  exact g_get hexec hb hts hin hown hK hat hc k hk hlink hv hdg kk
theorem x_iast (hexec : p.tables.exec = Jvm.exec) (hb : c.code = cc) (hK : KN w s) (hN : NX w o n f H) (hS : va_S A s.heap H locs) (hA : ∀ q, o ≤ q → A q) (i : Nat) (hi : i < n) {N : Nat} {h : Nat → Int32} (hfi : f i = .inl (w.2.1 0, N, .inl h)) {j : Int32} {x : Int32} {J : Nat} (hin : gok j N = true) (hJ : j.toNatClampNeg = J) (hdg : decode cc pc = .ok (.iastore, 1))
    (kk : ∀ (H1 : Heap) (locs1 : List Loc), NX w o n (va_up f i (.inl (w.2.1 0, N, .inl (upd h J x)))) H1 → (∀ q, q < o → H1[q]? = H[q]?) → va_S A s.heap H1 locs1 → W p l e R s m args below meth c H1 locs1 cells slots Q (F0 m (pc + 1) ls rest)) : W p l e R s m args below meth c H locs cells slots Q (F0 m pc ls (.int x :: .int j :: .ref (o + i) :: rest)) := by
  subst hJ
  have hat := hN.2 i hi
  rw [hfi] at hat
  refine W.iast hexec hb hat ((hK.1.2 0 _ rfl).1 N (fun q => .int (h q))) (fun q => by cases q) (gsz hin) rfl rfl hdg fun H1 e z oq => kk H1 _ (hN.upd ?_ z oq) (x_fr oq) (x_put1 hS hA z oq)
  rw [cell_upd] at e
  exact e
theorem x_astq (hexec : p.tables.exec = Jvm.exec) (hb : c.code = cc) (hK : KN w s) (hN : NX w o n f H) (hS : va_S A s.heap H locs) (hA : ∀ q, o ≤ q → A q) (i k : Nat) (hi : i < n) (hk : k < n) {N t ci : Nat} {r : vw_C} {vs : List Value} {h : Nat → Option Nat} (hfi : f i = .inl (w.2.1 t, N, .inr (.inr (.inr (.inr h))))) (ht : (gtys w)[t]? = some (w.2.1 t, .object r.1)) (hfk : f k = .inr (ci, vs)) (hc : vwCl[ci]? = some r) {j : Int32} {J : Nat} (hin : gok j N = true) (hJ : j.toNatClampNeg = J) (hdg : decode cc pc = .ok (.aastore, 1))
    (kk : ∀ (H1 : Heap) (locs1 : List Loc), NX w o n (va_up f i (.inl (w.2.1 t, N, .inr (.inr (.inr (.inr (va_up h J (some (o + k))))))))) H1 → (∀ q, q < o → H1[q]? = H[q]?) → va_S A s.heap H1 locs1 → W p l e R s m args below meth c H1 locs1 cells slots Q (F0 m (pc + 1) ls rest)) : W p l e R s m args below meth c H locs cells slots Q (F0 m pc ls (.ref (o + k) :: .int j :: .ref (o + i) :: rest)) := by
  subst hJ
  have hlt : j.toNatClampNeg < N := Nat.not_le.mp fun q => gok_in hin (Or.inr q)
  have h00 : ¬ j < 0 := fun q => gok_in hin (Or.inl q)
  have hat := hN.2 i hi
  rw [hfi] at hat
  have hv := hN.2 k hk
  rw [hfk] at hv
  obtain ⟨r', hr', cellV, g1, g2, g3, -⟩ := hv
  have hcls := (hK.1.1 ci r hc).2
  obtain ⟨kA, comp, k1, k2, k3, -⟩ := (hK.1.2 t _ ht).2
  have hcomp : comp = w.1.1 ci := Option.some.inj (k3.symm.trans hcls.1)
  subst hcomp
  obtain ⟨kC, hkC, -⟩ := hcls.2
  refine W.aast hexec hb hat (fun q h => by cases h) (fun h => by cases h) k1 k2 rfl hkC ⟨h00, by show _ < (arrV _ _ _).slots.size; rw [arrV_size]; exact hlt⟩ g1 (fun q h => by rw [g3] at h; cases h) (by rw [g2]; exact hkC) (by rw [g2]; exact va_assign hcls) rfl rfl hdg fun H1 e z oq => kk H1 _ (hN.upd ?_ z oq) (x_fr oq) (x_put1 hS hA z oq)
  have e : H1[o + i]? = some ((vp_cell (w.2.1 t) (N, .inr (.inr (.inr (.inr h))))).setSlot j.toNatClampNeg (va_rf (some (o + k)))) := e
  rw [cell_updR] at e
  exact e
/-- a constructor's start and end -/
abbrev PX (w : GW) (o : Nat) (e : va_E) (av : List Value) : Array Value → State → Prop := va_Pc av (fun U => NX w o 1 (fun _ => e) U.heap ∧ KN w U)
abbrev QX (w : GW) (o n : Nat) (f : Nat → va_E) : Array Value → State → Outcome → State → Prop := va_Qv (fun (_ : Unit) => True) (fun _ t => NX w o n f t.heap) (XR o)
theorem PX.blind {o : Nat} {e : va_E} {av : List Value} : FrameBlind (PX w o e av) := fun _ _ _ _ q => ⟨q.1, q.2.1, q.2.2.calling⟩
theorem gcwI {y : MethodName} {b : ByteArray} {mL mc ms k : Nat} {rm : Room} (hts : ∀ w ∈ gALL, w.before args s = true) (hc : Cond.code y b mL none ∈ gALL) (hin : Cond.instanceMethod y ∈ gALL) (hini : Cond.initialized y.cls ∈ gALL) (hl : Cond.methodLink own index y ∈ gALL) (hd : y.cls ≠ "java/lang/invoke/MethodHandle" ∧ y.cls ≠ "java/lang/invoke/VarHandle" ∧ (parseMethodDescriptor y.desc).map (fun d => d.parameters.length) = some k) (hn : y.name = "<init>") (hrc : rm.cells = mc) (hrs : rm.slots = ms) (hR : rm.frames + 1 ≤ R.frames ∧ 8 + (mL + 11) + rm.locals ≤ R.locals) : CallB R s args own index y b mL none (wA y b mL none) rm mc ms k ∧ y.name = "<init>" ∧ (Cond.instanceMethod y).before args s = true :=
  ⟨callB_of k hts (gG hc) rfl hrc hrs (hts _ hini) (hts _ hl) hd hR, hn, hts _ hin⟩
theorem gcwIN {y : MethodName} {b : ByteArray} {mL mc ms k : Nat} {rm : Room} {host : String} (hts : ∀ w ∈ gALL, w.before args s = true) (hc : Cond.code y b mL none ∈ gALL) (hin : Cond.instanceMethod y ∈ gALL) (hini : Cond.initialized y.cls ∈ gALL) (hK : KN w s) (hl : Cond.methodLinkNest own index y host ∈ gnests) (hd : y.cls ≠ "java/lang/invoke/MethodHandle" ∧ y.cls ≠ "java/lang/invoke/VarHandle" ∧ (parseMethodDescriptor y.desc).map (fun d => d.parameters.length) = some k) (hn : y.name = "<init>") (hrc : rm.cells = mc) (hrs : rm.slots = ms) (hR : rm.frames + 1 ≤ R.frames ∧ 8 + (mL + 11) + rm.locals ≤ R.locals) : va_CN R s args own index y host b mL none (wA y b mL none) rm mc ms k ∧ y.name = "<init>" ∧ (Cond.instanceMethod y).before args s = true :=
  ⟨va_cnB k hts (gG hc) rfl hrc hrs (hK.2.1 _ hl) (hts _ hini) hd hR, hn, hts _ hin⟩
theorem NX.last (hN : NX w o (n + 1) f H) {e0 : va_E} (he : f n = e0) : NX w (o + n) 1 (fun _ => e0) H := ⟨by rw [hN.1]; omega, fun i hi => by
  have h := hN.2 n (by omega)
  rw [he] at h
  rw [show i = 0 by omega]
  exact h⟩
theorem NX.join {n2 : Nat} {f2 : Nat → va_E} {H1 : Heap} (hN : NX w o (n + 1) f H) (h2 : NX w (o + n) n2 f2 H1) (hq : ∀ q, q < o + n → H1[q]? = H[q]?) : NX w o (n + n2) (fun i => if i < n then f i else f2 (i - n)) H1 := by
  refine ⟨by rw [h2.1]; omega, fun i hi => ?_⟩
  show va_at w.1 vwCl (o + i, if i < n then f i else f2 (i - n)) H1
  by_cases hin : i < n
  · rw [if_pos hin]
    exact (hN.2 i (by omega)).kept (hq _ (by show o + i < o + n; omega))
  · rw [if_neg hin]
    have h := h2.2 (i - n) (by omega)
    rw [show o + n + (i - n) = o + i by omega] at h
    exact h
theorem x_init {y : MethodName} {bytes : ByteArray} {maxL nL k mc ms n2 : Nat} {wsc : List Cond} {rm : Room} {Ts : List Cond} {f2 : Nat → va_E} {e0 : va_E} (S0 : CallFix p m c cc nL s args Ts own) (hM : Met l y wsc rm (PX w (o + n) e0 [.ref (o + n)]) (QX w (o + n) n2 f2) mc ms (XR (o + n))) (cw : CallB R s args own index y bytes maxL none wsc rm mc ms k ∧ y.name = "<init>" ∧ (Cond.instanceMethod y).before args s = true) (hN : NX w o (n + 1) f H) (he : f n = e0) (hK : KN w s) (hS : va_S A s.heap H locs) (hA : ∀ q, o ≤ q → A q)
    (hls : ls.size = nL) (hk0 : 0 = k) (hW : (rest.map fun v => v.category).sum ≤ 8) (hdg : decode cc pc = .ok (.invokespecial index, 3)) (hf : cells + mc ≤ R.cells ∧ slots + ms ≤ R.slots)
    (kk : ∀ (H1 : Heap) (locs1 : List Loc), NX w o (n + n2) (fun i => if i < n then f i else f2 (i - n)) H1 → (∀ q, q < o → H1[q]? = H[q]?) → va_S A s.heap H1 locs1 → W p l e R s m args below meth c H1 locs1 (cells + mc) (slots + ms) Q (F0 m (pc + 3) ls rest)) : W p l e R s m args below meth c H locs cells slots Q (F0 m pc ls (.ref (o + n) :: rest)) := by
  subst hk0
  refine va_callv (va_runI (As := []) (rest := rest) S0 hM cw ⟨PX.blind, fun U hU hW => ⟨rfl, by rw [hU]; exact hN.last he, hK.moved hW⟩⟩ rfl rfl hls rfl (lv_room hW) hdg hf) hS (fun q _ h => hA q (Nat.le_trans (Nat.le_add_right o n) h)) (fun q h => hA q (Nat.le_trans (Nat.le_add_right o n) h)) (fun u t H1 locs1 ht hvm hr hB hz hk1 hS1 => ?_)
  rw [ht] at hB
  have hq : ∀ q, q < o + n → H1[q]? = H[q]? := fun q hq => hk1 q (by rw [hN.1]; omega) (Nat.not_le.mpr hq)
  exact kk H1 locs1 (hN.join hB hq) (fun q h => hq q (by omega)) hS1
theorem x_initN {y : MethodName} {bytes : ByteArray} {maxL nL k mc ms n2 : Nat} {wsc : List Cond} {rm : Room} {Ts : List Cond} {host : String} {f2 : Nat → va_E} {e0 : va_E} (S0 : CallFix p m c cc nL s args Ts own) (hM : Met l y wsc rm (PX w (o + n) e0 [.ref (o + n)]) (QX w (o + n) n2 f2) mc ms (XR (o + n))) (cw : va_CN R s args own index y host bytes maxL none wsc rm mc ms k ∧ y.name = "<init>" ∧ (Cond.instanceMethod y).before args s = true) (hN : NX w o (n + 1) f H) (he : f n = e0) (hK : KN w s) (hS : va_S A s.heap H locs) (hA : ∀ q, o ≤ q → A q)
    (hls : ls.size = nL) (hk0 : 0 = k) (hW : (rest.map fun v => v.category).sum ≤ 8) (hdg : decode cc pc = .ok (.invokespecial index, 3)) (hf : cells + mc ≤ R.cells ∧ slots + ms ≤ R.slots)
    (kk : ∀ (H1 : Heap) (locs1 : List Loc), NX w o (n + n2) (fun i => if i < n then f i else f2 (i - n)) H1 → (∀ q, q < o → H1[q]? = H[q]?) → va_S A s.heap H1 locs1 → W p l e R s m args below meth c H1 locs1 (cells + mc) (slots + ms) Q (F0 m (pc + 3) ls rest)) : W p l e R s m args below meth c H locs cells slots Q (F0 m pc ls (.ref (o + n) :: rest)) := by
  subst hk0
  refine va_callv (va_runIN (As := []) (rest := rest) S0 hM cw ⟨PX.blind, fun U hU hW => ⟨rfl, by rw [hU]; exact hN.last he, hK.moved hW⟩⟩ rfl rfl hls rfl (lv_room hW) hdg hf) hS (fun q _ h => hA q (Nat.le_trans (Nat.le_add_right o n) h)) (fun q h => hA q (Nat.le_trans (Nat.le_add_right o n) h)) (fun u t H1 locs1 ht hvm hr hB hz hk1 hS1 => ?_)
  rw [ht] at hB
  have hq : ∀ q, q < o + n → H1[q]? = H[q]? := fun q hq => hk1 q (by rw [hN.1]; omega) (Nat.not_le.mpr hq)
  exact kk H1 locs1 (hN.join hB hq) (fun q h => hq q (by omega)) hS1
theorem nm_int {w : GW} {s : State} (hK : KN w s) : s.vm.findClass ("[" ++ FieldType.int.toString) = some (w.2.1 0) := (hK.1.2 0 _ rfl).2
theorem nm_char {w : GW} {s : State} (hK : KN w s) : s.vm.findClass ("[" ++ FieldType.char.toString) = some (w.2.1 1) := (hK.1.2 1 _ rfl).2
theorem nm_byte {w : GW} {s : State} (hK : KN w s) : s.vm.findClass ("[" ++ FieldType.byte.toString) = some (w.2.1 2) := (hK.1.2 2 _ rfl).2
theorem nm_ct {w : GW} {s : State} (hK : KN w s) : s.vm.findClass ("[" ++ (FieldType.object "CallingLooms$CardText").toString) = some (w.2.1 3) := by
  obtain ⟨_, _, _, _, _, h⟩ := (hK.1.2 3 _ rfl).2
  exact h
theorem nm_lm {w : GW} {s : State} (hK : KN w s) : s.vm.findClass ("[" ++ (FieldType.object "CallingLooms$Loom").toString) = some (w.2.1 4) := by
  obtain ⟨_, _, _, _, _, h⟩ := (hK.1.2 4 _ rfl).2
  exact h
end XROWS
