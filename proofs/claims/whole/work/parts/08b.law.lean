/-! THE CLAIM OUT OF ONE WALK OF THE LAW'S BODY. Your part is whole_start (and what it stands on); all else here is the same for every law, but numbers. -/
def R_law : String := "CallingLoomsLaw"
def lw_P (b : Addr) (xs : List Int32) (args : Array Value) (s : State) : Prop := args = #[.ref b] ∧ s.IntsAt b xs ∧ xs.length ≤ 1536 ∧ (Jvm.Cond.and given_1 narrow_1).before args s = true
def lw_Q (_ : Array Value) (s : State) (o : Outcome) (t : State) : Prop := o = .returned (some (.int 1)) ∧ Framed s o t [] 600000 7302250
def lw_Z (below : List Frame) (a : Array Value) (s : State) : State → Prop := fun t => ∃ o, t.status = .running ∧ Ended t below o ∧ lw_Q a s o t
/-- the law's own end, with 1 on the stack, nothing written that was there before, its room as the claim has it -/
theorem lw_ret {p : Program} {l : Launch} {e : Env} {s : State} {m : MethodId} {below : List Frame} {meth : Method} {c : Code} {b : Nat} (hx : p.tables.exec = Jvm.exec) (hb : c.code = code) (hr : meth.sig.returnType = ret) (hlocks : meth.locks = false) {pc : Nat} {H : Heap} {ls : Array Slot} (hdg : decode code pc = .ok (.ireturn, 1)) : W p l e room_1 s m #[Value.ref b] below meth c H [] 600000 7302250 (lw_Z below #[Value.ref b] s) (F0 m pc ls [.int 1]) := by
  intro T hT X
  obtain ⟨fs, hret, hrun, hended, hW, hframe⟩ := X.leave (v := some (.int 1)) (hlocks := hlocks) (fun h => by rw [hr] at h; cases h)
  have hmeth' : T.vm.method? m = some meth := X.method'
  refine ⟨T.setFrames fs, ?_, .returned (some (.int 1)), hrun, hended, rfl, ⟨_, rfl⟩, hW, hframe⟩
  jvm_step X.here [X.here.top, hx, hb, hdg, hmeth', hr, ret, narrow_b1]
  (try refine ⟨rfl, ?_⟩); (try refine ⟨rfl, ?_⟩)
  first | (intro acts; rw [hret _ acts rfl rfl rfl]) | rw [hret _ _ rfl rfl rfl]
  exact Steps.refl _
/-- what holds at the law's entry: the machine, the code, the tables' words (any of lw_tbl by 'hts w (by decide +kernel)'), the script of L ints xs at the cell b, what the Statement gives of the start (any of its parts by flat_of_before) -/
def lw_At (p : Program) (s : State) (m : MethodId) (meth : Method) (c : Code) (b L : Nat) (xs : Nat → Int32) : Prop :=
  p.tables.exec = Jvm.exec ∧ c.code = code ∧ meth.sig.returnType = ret ∧ c.maxLocals = 4 ∧ s.vm.findClass R_law = some m.cls ∧ (∀ w ∈ lw_tbl, w.before #[Value.ref b] s = true) ∧ va_X b L xs s s.heap ∧ b < s.heap.size ∧ meth.locks = false ∧ (Jvm.Cond.and given_1 narrow_1).before #[Value.ref b] s = true
theorem GST.moved {w : GW} {s U : State} {H : Heap} {locs : List Loc} (h : GST w s) (hS : va_S (FR w) s.heap H locs) (hU : U.heap = H) (hW : s.WarmedH U.vm) : GST w U := by
  obtain ⟨t1, t2, h1, h2, h3, h4⟩ := h
  have hq : ∀ a : Nat, a < s.heap.size → ¬ FR w a → U.heap[a]? = s.heap[a]? := fun a h1 h2 => by rw [hU]; exact hS.2.1 a h1 h2
  exact ⟨t1, t2, (h1.moved hW.alike).kept hq, (h2.moved hW.alike).kept hq, (h3.moved hW.alike).kept hq, (h4.moved hW.alike).kept hq⟩
theorem GST.calling {w : GW} {U : State} {G : JFrame} {mk : MethodId} {a : Array Value} (h : GST w U) : GST w (U.calling G mk a) := by
  obtain ⟨t1, t2, h1, h2, h3, h4⟩ := h
  exact ⟨t1, t2, va_Z.moved (u := U) (U := U.calling G mk a) (Vm.Alike.refl U.vm) h1, va_T.moved (u := U) (U := U.calling G mk a) (Vm.Alike.refl U.vm) h2, va_Z.moved (u := U) (U := U.calling G mk a) (Vm.Alike.refl U.vm) h3, va_T.moved (u := U) (U := U.calling G mk a) (Vm.Alike.refl U.vm) h4⟩
section CALLS
variable {p : Program} {l : Launch} {e : Env} {R : Room} {s : State} {m : MethodId} {args : Array Value} {below : List Frame} {meth : Method} {c : Code} {H : Heap} {locs : List Loc} {cells slots : Nat} {Q : State → Prop}
variable {y : MethodName} {bytes cc : ByteArray} {maxL nL n index pc mc ms : Nat} {ret : Option FieldType} {wsc : List Cond} {rm : Room} {Ts : List Cond} {own C : String} {b : Addr} {As rest st : List Value} {ls : Array Slot}
variable {w : GW} {K K' : GK} {g g' : GM} {S S' : GS}
theorem g_ViS {r : Int32} (S0 : CallFix p m c cc nL s args Ts own) (hM : Met l y wsc rm (PSET w K g S (.ref b :: As)) (QI w K' g' S' r) mc ms (FR w)) (cw : CallW R s args own C index y bytes maxL ret wsc rm mc ms n) (hrc : gRecv s H C b) (hH : HR w K g S H) (hK : KN w s) (hG : GST w s) (hS : va_S (FR w) s.heap H locs)
    (hls : ls.size = nL) (hn : As.length = n) (hst : st = As.reverse ++ .ref b :: rest) (hW : (rest.map fun v => v.category).sum ≤ 8) (hdg : decode cc pc = .ok (.invokevirtual index, 3)) (hf : cells + mc ≤ R.cells ∧ slots + ms ≤ R.slots)
    (kk : ∀ (H1 : Heap) (locs1 : List Loc), HR w K' g' S' H1 → va_S (FR w) s.heap H1 locs1 → W p l e R s m args below meth c H1 locs1 (cells + mc) (slots + ms) Q (F0 m (pc + 3) ls (.int r :: rest))) : W p l e R s m args below meth c H locs cells slots Q (F0 m pc ls st) := by
  subst hst
  refine va_calli (va_runV (As := As) (rest := rest) S0 hM cw ⟨fun _ _ _ _ q => ⟨q.1, q.2.1, q.2.2.1.calling, q.2.2.2.calling⟩, hrc, fun U hU hW => ⟨rfl, by rw [hU]; exact hH, hK.moved hW, hG.moved hS hU hW⟩⟩ rfl hn hls rfl (lv_room hW) hdg hf) hS (fun q _ h => h) (fun q h => h) (fun r0 u t H1 locs1 ht hvm hr hB hz hk hS1 => ?_)
  subst hr
  rw [ht] at hB
  exact kk H1 locs1 hB hS1
end CALLS
set_option maxRecDepth 100000 in
set_option maxHeartbeats 40000000 in
theorem law_loop {p : Program} {e : Env} {s : State} {m : MethodId} {below : List Frame} {meth : Method} {c : Code} (l : Launch) {b L : Nat} {xs : Nat → Int32} (C0 : lw_At p s m meth c b L xs) (w : GW) (xa : Nat) (hw : w.2.2.1 = s.heap.size) (hK : KN w s) (hG : GST w s) : ∀ (n : Nat) (K : GK) (g : GM) (S : GS) (i : Int32) (H : Heap) (locs : List Loc) (cells slots : Nat) (ls : Array Slot), HR w K g S H → va_S (FR w) s.heap H locs → lv_has ls 4 [(0, .ref b), (1, .ref xa), (2, .ref w.2.2.2), (3, .int i)] → gkd K xa = 8 → cells + 16 * n ≤ 600000 → slots + 575 * n ≤ 7302250 → fLaw xs L xa n K g S i = some 1 → W p l e room_1 s m #[Value.ref b] below meth c H locs (cells) (slots) (lw_Z below #[Value.ref b] s) (F0 m 18 ls []) := by
  obtain ⟨hx, hb, hr, hml, hown, hts0, hX, hbl, hlocks, hgv⟩ := C0
  have hts : ∀ q ∈ gALL, q.before #[Value.ref b] s = true := fun q h => hts0 q (gall h).1
  have hbA : ¬ FR w b := by show ¬ w.2.2.1 ≤ b; omega
  intro n
  induction n with
  | zero =>
    intro K g S i H locs cells slots ls hH hS hl hkc hc1 hc2 hf
    cases hf
  | succ n ih =>
    intro K g S i H locs cells slots ls hH hS hl hkc hc1 hc2 hf
    have B844 : ∀ (K : GK) (g : GM) (S : GS) (H : Heap) (locs : List Loc) (ls : Array Slot), HR w K g S H → va_S (FR w) s.heap H locs → lv_has ls 4 [(0, .ref b), (1, .ref xa), (2, .ref w.2.2.2), (3, .int i)] → gkd K xa = 8 → fLaw xs L xa n K g S (i + 3) = some 1 → W p l e room_1 s m #[Value.ref b] below meth c H locs (cells + 16) (slots + 575) (lw_Z below #[Value.ref b] s) (F0 m 844 ls []) := by
      intro K g S H locs ls hH hS hl hkc hf
      refine lv_iinc (v := i + 3) (lv' := [(3, .int (i + 3)), (0, .ref b), (1, .ref xa), (2, .ref w.2.2.2)]) hx hb dL_law_844 hl (k := 3) rfl rfl (by decide) rfl (fun ls hl => ?_)
      refine lv_goto (tgt := 18) hx hb dL_law_847 (by decide) ?_
      exact ih K g S (i + 3) _ _ _ _ _ hH hS (lv_sub hl [1, 2, 3, 0] rfl) hkc (by omega) (by omega) hf
    rw [fLaw] at hf
    have hg := gif hf
    refine lv_iload_n hx hb dL_law_18 rfl (lv_at hl 3 rfl) ?_
    refine lv_aload_n hx hb dL_law_19 rfl (lv_at hl 0 rfl) ?_
    refine va_slen hx hb hX hbl hbA hS dL_law_20 ?_
    refine lv_iconst (v := 3) hx hb dL_law_21 (by decide) ?_
    refine lv_isub hx hb dL_law_22 ?_
    refine lv_icmp_gt (tgt := 850) hx hb dL_law_23 (by decide) (fun q => ?_) (fun q => ?_)
    · refine lv_iconst (v := 1) hx hb dL_law_850 (by decide) ?_
      refine va_forget (fun q hq => by have := hS.2.2 q hq; show s.heap.size ≤ q.base; rw [← hw]; exact this) ?_
      refine W.widen (k := 600000) (n := 7302250) (by omega) (by omega) ?_
      exact lw_ret hx hb hr hlocks dL_law_851
    · have hf := hg.2 q
      obtain ⟨h0, hf⟩ := gd_some hf
      refine lv_aload_n hx hb dL_law_26 rfl (lv_at hl 0 rfl) ?_
      refine lv_iload_n hx hb dL_law_27 rfl (lv_at hl 3 rfl) ?_
      refine va_sld hx hb hX hbl hbA hS (gok_in h0) dL_law_28 ?_
      refine lv_bipush (v := 31) hx hb dL_law_29 (by decide) ?_
      refine lv_iand hx hb dL_law_31 ?_
      refine lv_topi (fun v ev => ?_)
      have hf := gl_at hf ev
      clear ev hg q
      have hg := gif hf
      by_cases q0 : v = 0
      · have hf := hg.1 q0
        refine lv_tableIn (off := 128) (tgt := 160) hx hb dL_law_32 (by rw [q0]; decide) (by rw [q0]; decide) (by rw [q0]; decide +kernel) (by decide) ?_
        unfold fL_0 at hf
        refine lv_aload_n hx hb dL_law_160 rfl (lv_at hl 1 rfl) ?_
        refine lv_aload_n hx hb dL_law_161 rfl (lv_at hl 0 rfl) ?_
        refine lv_iload_n hx hb dL_law_162 rfl (lv_at hl 3 rfl) ?_
        refine lv_iconst (v := 1) hx hb dL_law_163 (by decide) ?_
        refine lv_iadd hx hb dL_law_164 ?_
        obtain ⟨h1, hf⟩ := gd_some hf
        refine va_sld hx hb hX hbl hbA hS (gok_in h1) dL_law_165 ?_
        refine lv_aload_n hx hb dL_law_166 rfl (lv_at hl 0 rfl) ?_
        refine lv_iload_n hx hb dL_law_167 rfl (lv_at hl 3 rfl) ?_
        refine lv_iconst (v := 2) hx hb dL_law_168 (by decide) ?_
        refine lv_iadd hx hb dL_law_169 ?_
        obtain ⟨h2, hf⟩ := gd_some hf
        refine va_sld hx hb hX hbl hbA hS (gok_in h2) dL_law_170 ?_
        obtain ⟨r3, h4, hf⟩ := gbind hf
        refine g_ViS (As := [.int (xs (i + 1).toNatClampNeg), .int (xs (i + 2).toNatClampNeg)]) (rest := []) ⟨hx, hb, hml, hown, hts⟩ (c7_set l w K g S xa (xs (i + 1).toNatClampNeg) (xs (i + 2).toNatClampNeg) r3 h4 hkc) (gcwV hts i7_set wd_111 rfl rfl ⟨Nat.le_of_ble_eq_true rfl, Nat.le_of_ble_eq_true rfl⟩) (gRecv.of hK rfl (hH.o8 hkc)) hH hK hG hS hl.1 rfl rfl (Nat.le_of_ble_eq_true rfl) dL_law_171 ⟨by show cells + 0 ≤ 600000; omega, by show slots + 0 ≤ 7302250; omega⟩ (fun H locs hH hS => ?_)
        refine lv_aload_n hx hb dL_law_174 rfl (lv_at hl 2 rfl) ?_
        refine lv_aload_n hx hb dL_law_175 rfl (lv_at hl 0 rfl) ?_
        refine lv_iload_n hx hb dL_law_176 rfl (lv_at hl 3 rfl) ?_
        refine lv_iconst (v := 1) hx hb dL_law_177 (by decide) ?_
        refine lv_iadd hx hb dL_law_178 ?_
        refine va_sld hx hb hX hbl hbA hS (gok_in h1) dL_law_179 ?_
        refine lv_aload_n hx hb dL_law_180 rfl (lv_at hl 0 rfl) ?_
        refine lv_iload_n hx hb dL_law_181 rfl (lv_at hl 3 rfl) ?_
        refine lv_iconst (v := 2) hx hb dL_law_182 (by decide) ?_
        refine lv_iadd hx hb dL_law_183 ?_
        refine va_sld hx hb hX hbl hbA hS (gok_in h2) dL_law_184 ?_
        obtain ⟨r5, h6, hf⟩ := gbind hf
        refine g_Vi (As := [.int (xs (i + 1).toNatClampNeg), .int (xs (i + 2).toNatClampNeg)]) (rest := [.int (r3.2)]) ⟨hx, hb, hml, hown, hts⟩ (c8_set l w K r3.1 S (xs (i + 1).toNatClampNeg) (xs (i + 2).toNatClampNeg) r5 h6) (gcwV hts i8_set wd_151 rfl rfl ⟨Nat.le_of_ble_eq_true rfl, Nat.le_of_ble_eq_true rfl⟩) (gRecv.of hK rfl hH.ob) hH hK hS hl.1 rfl rfl (Nat.le_of_ble_eq_true rfl) dL_law_185 ⟨by show cells + 0 ≤ 600000; omega, by show slots + 0 ≤ 7302250; omega⟩ (fun H locs hH hS => ?_)
        have hg := gif hf
        refine W.widen (k := cells + 16) (n := slots + 575) (by omega) (by omega) ?_
        refine lv_icmp_eq (tgt := 844) hx hb dL_law_188 (by decide) (fun q => ?_) (fun q => ?_)
        · exact B844 _ _ _ _ _ _ hH hS (lv_sub hl [0, 1, 2, 3] rfl) hkc (hg.1 q)
        · exact absurd (Option.some.inj (hg.2 q)) (by decide)
      have hf := hg.2 q0
      clear hg
      have hg := gif hf
      by_cases q1 : v = 1
      · have hf := hg.1 q1
        refine lv_tableIn (off := 161) (tgt := 193) hx hb dL_law_32 (by rw [q1]; decide) (by rw [q1]; decide) (by rw [q1]; decide +kernel) (by decide) ?_
        unfold fL_1 at hf
        refine lv_aload_n hx hb dL_law_193 rfl (lv_at hl 1 rfl) ?_
        refine lv_aload_n hx hb dL_law_194 rfl (lv_at hl 0 rfl) ?_
        refine lv_iload_n hx hb dL_law_195 rfl (lv_at hl 3 rfl) ?_
        refine lv_iconst (v := 1) hx hb dL_law_196 (by decide) ?_
        refine lv_iadd hx hb dL_law_197 ?_
        obtain ⟨h1, hf⟩ := gd_some hf
        refine va_sld hx hb hX hbl hbA hS (gok_in h1) dL_law_198 ?_
        obtain ⟨r2, h3, hf⟩ := gbind hf
        refine g_Vi (As := [.int (xs (i + 1).toNatClampNeg)]) (rest := []) ⟨hx, hb, hml, hown, hts⟩ (c7_card l w K g S xa (xs (i + 1).toNatClampNeg) r2 h3 hkc) (gcwV hts i7_card wd_174 rfl rfl ⟨Nat.le_of_ble_eq_true rfl, Nat.le_of_ble_eq_true rfl⟩) (gRecv.of hK rfl (hH.o8 hkc)) hH hK hS hl.1 rfl rfl (Nat.le_of_ble_eq_true rfl) dL_law_199 ⟨by show cells + 6 ≤ 600000; omega, by show slots + 409 ≤ 7302250; omega⟩ (fun H locs hH hS => ?_)
        obtain ⟨h4, hf⟩ := gd_some hf
        have h4 := gk_obj h4
        refine lv_aload_n hx hb dL_law_202 rfl (lv_at hl 2 rfl) ?_
        refine lv_aload_n hx hb dL_law_203 rfl (lv_at hl 0 rfl) ?_
        refine lv_iload_n hx hb dL_law_204 rfl (lv_at hl 3 rfl) ?_
        refine lv_iconst (v := 1) hx hb dL_law_205 (by decide) ?_
        refine lv_iadd hx hb dL_law_206 ?_
        refine va_sld hx hb hX hbl hbA hS (gok_in h1) dL_law_207 ?_
        obtain ⟨r5, h6, hf⟩ := gbind hf
        refine g_Vi (As := [.int (xs (i + 1).toNatClampNeg)]) (rest := [.int (r2.2.2)]) ⟨hx, hb, hml, hown, hts⟩ (c8_card l w r2.1 r2.2.1 S (xs (i + 1).toNatClampNeg) r5 h6) (gcwV hts i8_card wd_259 rfl rfl ⟨Nat.le_of_ble_eq_true rfl, Nat.le_of_ble_eq_true rfl⟩) (gRecv.of hK rfl hH.ob) hH hK hS hl.1 rfl rfl (Nat.le_of_ble_eq_true rfl) dL_law_208 ⟨by show cells + 6 + 0 ≤ 600000; omega, by show slots + 409 + 0 ≤ 7302250; omega⟩ (fun H locs hH hS => ?_)
        have hg := gif hf
        refine W.widen (k := cells + 16) (n := slots + 575) (by omega) (by omega) ?_
        refine lv_icmp_eq (tgt := 844) hx hb dL_law_211 (by decide) (fun q => ?_) (fun q => ?_)
        · exact B844 _ _ _ _ _ _ hH hS (lv_sub hl [0, 1, 2, 3] rfl) h4 (hg.1 q)
        · exact absurd (Option.some.inj (hg.2 q)) (by decide)
      have hf := hg.2 q1
      clear hg
      have hg := gif hf
      by_cases q2 : v = 2
      · have hf := hg.1 q2
        refine lv_tableIn (off := 184) (tgt := 216) hx hb dL_law_32 (by rw [q2]; decide) (by rw [q2]; decide) (by rw [q2]; decide +kernel) (by decide) ?_
        unfold fL_2 at hf
        refine lv_aload_n hx hb dL_law_216 rfl (lv_at hl 1 rfl) ?_
        refine lv_aload_n hx hb dL_law_217 rfl (lv_at hl 0 rfl) ?_
        refine lv_iload_n hx hb dL_law_218 rfl (lv_at hl 3 rfl) ?_
        refine lv_iconst (v := 1) hx hb dL_law_219 (by decide) ?_
        refine lv_iadd hx hb dL_law_220 ?_
        obtain ⟨h1, hf⟩ := gd_some hf
        refine va_sld hx hb hX hbl hbA hS (gok_in h1) dL_law_221 ?_
        obtain ⟨r2, h3, hf⟩ := gbind hf
        refine g_Vi (As := [.int (xs (i + 1).toNatClampNeg)]) (rest := []) ⟨hx, hb, hml, hown, hts⟩ (c7_blank l w K g S xa (xs (i + 1).toNatClampNeg) r2 h3 hkc) (gcwV hts i7_blank wd_300 rfl rfl ⟨Nat.le_of_ble_eq_true rfl, Nat.le_of_ble_eq_true rfl⟩) (gRecv.of hK rfl (hH.o8 hkc)) hH hK hS hl.1 rfl rfl (Nat.le_of_ble_eq_true rfl) dL_law_222 ⟨by show cells + 0 ≤ 600000; omega, by show slots + 0 ≤ 7302250; omega⟩ (fun H locs hH hS => ?_)
        refine lv_aload_n hx hb dL_law_225 rfl (lv_at hl 2 rfl) ?_
        refine lv_aload_n hx hb dL_law_226 rfl (lv_at hl 0 rfl) ?_
        refine lv_iload_n hx hb dL_law_227 rfl (lv_at hl 3 rfl) ?_
        refine lv_iconst (v := 1) hx hb dL_law_228 (by decide) ?_
        refine lv_iadd hx hb dL_law_229 ?_
        refine va_sld hx hb hX hbl hbA hS (gok_in h1) dL_law_230 ?_
        obtain ⟨r4, h5, hf⟩ := gbind hf
        refine g_Vi (As := [.int (xs (i + 1).toNatClampNeg)]) (rest := [.int (r2.2)]) ⟨hx, hb, hml, hown, hts⟩ (c8_blank l w K r2.1 S (xs (i + 1).toNatClampNeg) r4 h5) (gcwV hts i8_blank wd_314 rfl rfl ⟨Nat.le_of_ble_eq_true rfl, Nat.le_of_ble_eq_true rfl⟩) (gRecv.of hK rfl hH.ob) hH hK hS hl.1 rfl rfl (Nat.le_of_ble_eq_true rfl) dL_law_231 ⟨by show cells + 0 ≤ 600000; omega, by show slots + 0 ≤ 7302250; omega⟩ (fun H locs hH hS => ?_)
        have hg := gif hf
        refine W.widen (k := cells + 16) (n := slots + 575) (by omega) (by omega) ?_
        refine lv_icmp_eq (tgt := 844) hx hb dL_law_234 (by decide) (fun q => ?_) (fun q => ?_)
        · exact B844 _ _ _ _ _ _ hH hS (lv_sub hl [0, 1, 2, 3] rfl) hkc (hg.1 q)
        · exact absurd (Option.some.inj (hg.2 q)) (by decide)
      have hf := hg.2 q2
      clear hg
      have hg := gif hf
      by_cases q3 : v = 3
      · have hf := hg.1 q3
        refine lv_tableIn (off := 207) (tgt := 239) hx hb dL_law_32 (by rw [q3]; decide) (by rw [q3]; decide) (by rw [q3]; decide +kernel) (by decide) ?_
        unfold fL_3 at hf
        refine lv_aload_n hx hb dL_law_239 rfl (lv_at hl 1 rfl) ?_
        refine lv_aload_n hx hb dL_law_240 rfl (lv_at hl 0 rfl) ?_
        refine lv_iload_n hx hb dL_law_241 rfl (lv_at hl 3 rfl) ?_
        refine lv_iconst (v := 1) hx hb dL_law_242 (by decide) ?_
        refine lv_iadd hx hb dL_law_243 ?_
        obtain ⟨h1, hf⟩ := gd_some hf
        refine va_sld hx hb hX hbl hbA hS (gok_in h1) dL_law_244 ?_
        obtain ⟨r2, h3, hf⟩ := gbind hf
        refine g_Vi (As := [.int (xs (i + 1).toNatClampNeg)]) (rest := []) ⟨hx, hb, hml, hown, hts⟩ (c7_begin l w K g S xa (xs (i + 1).toNatClampNeg) r2 h3 hkc) (gcwV hts i7_begin wd_330 rfl rfl ⟨Nat.le_of_ble_eq_true rfl, Nat.le_of_ble_eq_true rfl⟩) (gRecv.of hK rfl (hH.o8 hkc)) hH hK hS hl.1 rfl rfl (Nat.le_of_ble_eq_true rfl) dL_law_245 ⟨by show cells + 0 ≤ 600000; omega, by show slots + 0 ≤ 7302250; omega⟩ (fun H locs hH hS => ?_)
        refine lv_aload_n hx hb dL_law_248 rfl (lv_at hl 2 rfl) ?_
        refine lv_aload_n hx hb dL_law_249 rfl (lv_at hl 0 rfl) ?_
        refine lv_iload_n hx hb dL_law_250 rfl (lv_at hl 3 rfl) ?_
        refine lv_iconst (v := 1) hx hb dL_law_251 (by decide) ?_
        refine lv_iadd hx hb dL_law_252 ?_
        refine va_sld hx hb hX hbl hbA hS (gok_in h1) dL_law_253 ?_
        obtain ⟨r4, h5, hf⟩ := gbind hf
        refine g_Vi (As := [.int (xs (i + 1).toNatClampNeg)]) (rest := [.int (r2.2)]) ⟨hx, hb, hml, hown, hts⟩ (c8_begin l w K r2.1 S (xs (i + 1).toNatClampNeg) r4 h5) (gcwV hts i8_begin wd_352 rfl rfl ⟨Nat.le_of_ble_eq_true rfl, Nat.le_of_ble_eq_true rfl⟩) (gRecv.of hK rfl hH.ob) hH hK hS hl.1 rfl rfl (Nat.le_of_ble_eq_true rfl) dL_law_254 ⟨by show cells + 0 ≤ 600000; omega, by show slots + 0 ≤ 7302250; omega⟩ (fun H locs hH hS => ?_)
        have hg := gif hf
        refine W.widen (k := cells + 16) (n := slots + 575) (by omega) (by omega) ?_
        refine lv_icmp_eq (tgt := 844) hx hb dL_law_257 (by decide) (fun q => ?_) (fun q => ?_)
        · exact B844 _ _ _ _ _ _ hH hS (lv_sub hl [0, 1, 2, 3] rfl) hkc (hg.1 q)
        · exact absurd (Option.some.inj (hg.2 q)) (by decide)
      have hf := hg.2 q3
      clear hg
      have hg := gif hf
      by_cases q4 : v = 4
      · have hf := hg.1 q4
        refine lv_tableIn (off := 230) (tgt := 262) hx hb dL_law_32 (by rw [q4]; decide) (by rw [q4]; decide) (by rw [q4]; decide +kernel) (by decide) ?_
        unfold fL_4 at hf
        refine lv_aload_n hx hb dL_law_262 rfl (lv_at hl 1 rfl) ?_
        refine lv_aload_n hx hb dL_law_263 rfl (lv_at hl 0 rfl) ?_
        refine lv_iload_n hx hb dL_law_264 rfl (lv_at hl 3 rfl) ?_
        refine lv_iconst (v := 1) hx hb dL_law_265 (by decide) ?_
        refine lv_iadd hx hb dL_law_266 ?_
        obtain ⟨h1, hf⟩ := gd_some hf
        refine va_sld hx hb hX hbl hbA hS (gok_in h1) dL_law_267 ?_
        obtain ⟨r2, h3, hf⟩ := gbind hf
        refine g_Vi (As := [.int (xs (i + 1).toNatClampNeg)]) (rest := []) ⟨hx, hb, hml, hown, hts⟩ (c7_weave l w K g S xa (xs (i + 1).toNatClampNeg) r2 h3 hkc) (gcwV hts i7_weave wd_368 rfl rfl ⟨Nat.le_of_ble_eq_true rfl, Nat.le_of_ble_eq_true rfl⟩) (gRecv.of hK rfl (hH.o8 hkc)) hH hK hS hl.1 rfl rfl (Nat.le_of_ble_eq_true rfl) dL_law_268 ⟨by show cells + 0 ≤ 600000; omega, by show slots + 0 ≤ 7302250; omega⟩ (fun H locs hH hS => ?_)
        refine lv_aload_n hx hb dL_law_271 rfl (lv_at hl 2 rfl) ?_
        refine lv_aload_n hx hb dL_law_272 rfl (lv_at hl 0 rfl) ?_
        refine lv_iload_n hx hb dL_law_273 rfl (lv_at hl 3 rfl) ?_
        refine lv_iconst (v := 1) hx hb dL_law_274 (by decide) ?_
        refine lv_iadd hx hb dL_law_275 ?_
        refine va_sld hx hb hX hbl hbA hS (gok_in h1) dL_law_276 ?_
        obtain ⟨r4, h5, hf⟩ := gbind hf
        refine g_Vi (As := [.int (xs (i + 1).toNatClampNeg)]) (rest := [.int (r2.2)]) ⟨hx, hb, hml, hown, hts⟩ (c8_weave l w K r2.1 S (xs (i + 1).toNatClampNeg) r4 h5) (gcwV hts i8_weave wd_453 rfl rfl ⟨Nat.le_of_ble_eq_true rfl, Nat.le_of_ble_eq_true rfl⟩) (gRecv.of hK rfl hH.ob) hH hK hS hl.1 rfl rfl (Nat.le_of_ble_eq_true rfl) dL_law_277 ⟨by show cells + 0 ≤ 600000; omega, by show slots + 0 ≤ 7302250; omega⟩ (fun H locs hH hS => ?_)
        have hg := gif hf
        refine W.widen (k := cells + 16) (n := slots + 575) (by omega) (by omega) ?_
        refine lv_icmp_eq (tgt := 844) hx hb dL_law_280 (by decide) (fun q => ?_) (fun q => ?_)
        · exact B844 _ _ _ _ _ _ hH hS (lv_sub hl [0, 1, 2, 3] rfl) hkc (hg.1 q)
        · exact absurd (Option.some.inj (hg.2 q)) (by decide)
      have hf := hg.2 q4
      clear hg
      have hg := gif hf
      by_cases q5 : v = 5
      · have hf := hg.1 q5
        refine lv_tableIn (off := 253) (tgt := 285) hx hb dL_law_32 (by rw [q5]; decide) (by rw [q5]; decide) (by rw [q5]; decide +kernel) (by decide) ?_
        unfold fL_5 at hf
        refine lv_aload_n hx hb dL_law_285 rfl (lv_at hl 1 rfl) ?_
        obtain ⟨r1, h2, hf⟩ := gbind hf
        refine g_Vi (As := []) (rest := []) ⟨hx, hb, hml, hown, hts⟩ (c7_skip l w K g S xa r1 h2 hkc) (gcwV hts i7_skip wd_529 rfl rfl ⟨Nat.le_of_ble_eq_true rfl, Nat.le_of_ble_eq_true rfl⟩) (gRecv.of hK rfl (hH.o8 hkc)) hH hK hS hl.1 rfl rfl (Nat.le_of_ble_eq_true rfl) dL_law_286 ⟨by show cells + 0 ≤ 600000; omega, by show slots + 0 ≤ 7302250; omega⟩ (fun H locs hH hS => ?_)
        refine lv_aload_n hx hb dL_law_289 rfl (lv_at hl 2 rfl) ?_
        obtain ⟨r3, h4, hf⟩ := gbind hf
        refine g_Vi (As := []) (rest := [.int (r1.2)]) ⟨hx, hb, hml, hown, hts⟩ (c8_skip l w K r1.1 S r3 h4) (gcwV hts i8_skip wd_537 rfl rfl ⟨Nat.le_of_ble_eq_true rfl, Nat.le_of_ble_eq_true rfl⟩) (gRecv.of hK rfl hH.ob) hH hK hS hl.1 rfl rfl (Nat.le_of_ble_eq_true rfl) dL_law_290 ⟨by show cells + 0 ≤ 600000; omega, by show slots + 0 ≤ 7302250; omega⟩ (fun H locs hH hS => ?_)
        have hg := gif hf
        refine W.widen (k := cells + 16) (n := slots + 575) (by omega) (by omega) ?_
        refine lv_icmp_eq (tgt := 844) hx hb dL_law_293 (by decide) (fun q => ?_) (fun q => ?_)
        · exact B844 _ _ _ _ _ _ hH hS (lv_sub hl [0, 1, 2, 3] rfl) hkc (hg.1 q)
        · exact absurd (Option.some.inj (hg.2 q)) (by decide)
      have hf := hg.2 q5
      clear hg
      have hg := gif hf
      by_cases q6 : v = 6
      · have hf := hg.1 q6
        refine lv_tableIn (off := 266) (tgt := 298) hx hb dL_law_32 (by rw [q6]; decide) (by rw [q6]; decide) (by rw [q6]; decide +kernel) (by decide) ?_
        unfold fL_6 at hf
        refine lv_aload_n hx hb dL_law_298 rfl (lv_at hl 1 rfl) ?_
        refine lv_aload_n hx hb dL_law_299 rfl (lv_at hl 0 rfl) ?_
        refine lv_iload_n hx hb dL_law_300 rfl (lv_at hl 3 rfl) ?_
        refine lv_iconst (v := 1) hx hb dL_law_301 (by decide) ?_
        refine lv_iadd hx hb dL_law_302 ?_
        obtain ⟨h1, hf⟩ := gd_some hf
        refine va_sld hx hb hX hbl hbA hS (gok_in h1) dL_law_303 ?_
        refine lv_aload_n hx hb dL_law_304 rfl (lv_at hl 0 rfl) ?_
        refine lv_iload_n hx hb dL_law_305 rfl (lv_at hl 3 rfl) ?_
        refine lv_iconst (v := 2) hx hb dL_law_306 (by decide) ?_
        refine lv_iadd hx hb dL_law_307 ?_
        obtain ⟨h2, hf⟩ := gd_some hf
        refine va_sld hx hb hX hbl hbA hS (gok_in h2) dL_law_308 ?_
        obtain ⟨r3, h4, hf⟩ := gbind hf
        refine g_Vi (As := [.int (xs (i + 1).toNatClampNeg), .int (xs (i + 2).toNatClampNeg)]) (rest := []) ⟨hx, hb, hml, hown, hts⟩ (c7_tie l w K g S xa (xs (i + 1).toNatClampNeg) (xs (i + 2).toNatClampNeg) r3 h4 hkc) (gcwV hts i7_tie wd_541 rfl rfl ⟨Nat.le_of_ble_eq_true rfl, Nat.le_of_ble_eq_true rfl⟩) (gRecv.of hK rfl (hH.o8 hkc)) hH hK hS hl.1 rfl rfl (Nat.le_of_ble_eq_true rfl) dL_law_309 ⟨by show cells + 0 ≤ 600000; omega, by show slots + 0 ≤ 7302250; omega⟩ (fun H locs hH hS => ?_)
        refine lv_aload_n hx hb dL_law_312 rfl (lv_at hl 2 rfl) ?_
        refine lv_aload_n hx hb dL_law_313 rfl (lv_at hl 0 rfl) ?_
        refine lv_iload_n hx hb dL_law_314 rfl (lv_at hl 3 rfl) ?_
        refine lv_iconst (v := 1) hx hb dL_law_315 (by decide) ?_
        refine lv_iadd hx hb dL_law_316 ?_
        refine va_sld hx hb hX hbl hbA hS (gok_in h1) dL_law_317 ?_
        refine lv_aload_n hx hb dL_law_318 rfl (lv_at hl 0 rfl) ?_
        refine lv_iload_n hx hb dL_law_319 rfl (lv_at hl 3 rfl) ?_
        refine lv_iconst (v := 2) hx hb dL_law_320 (by decide) ?_
        refine lv_iadd hx hb dL_law_321 ?_
        refine va_sld hx hb hX hbl hbA hS (gok_in h2) dL_law_322 ?_
        obtain ⟨r5, h6, hf⟩ := gbind hf
        refine g_Vi (As := [.int (xs (i + 1).toNatClampNeg), .int (xs (i + 2).toNatClampNeg)]) (rest := [.int (r3.2)]) ⟨hx, hb, hml, hown, hts⟩ (c8_tie l w K r3.1 S (xs (i + 1).toNatClampNeg) (xs (i + 2).toNatClampNeg) r5 h6) (gcwV hts i8_tie wd_549 rfl rfl ⟨Nat.le_of_ble_eq_true rfl, Nat.le_of_ble_eq_true rfl⟩) (gRecv.of hK rfl hH.ob) hH hK hS hl.1 rfl rfl (Nat.le_of_ble_eq_true rfl) dL_law_323 ⟨by show cells + 0 ≤ 600000; omega, by show slots + 0 ≤ 7302250; omega⟩ (fun H locs hH hS => ?_)
        have hg := gif hf
        refine W.widen (k := cells + 16) (n := slots + 575) (by omega) (by omega) ?_
        refine lv_icmp_eq (tgt := 844) hx hb dL_law_326 (by decide) (fun q => ?_) (fun q => ?_)
        · exact B844 _ _ _ _ _ _ hH hS (lv_sub hl [0, 1, 2, 3] rfl) hkc (hg.1 q)
        · exact absurd (Option.some.inj (hg.2 q)) (by decide)
      have hf := hg.2 q6
      clear hg
      have hg := gif hf
      by_cases q7 : v = 7
      · have hf := hg.1 q7
        refine lv_tableIn (off := 299) (tgt := 331) hx hb dL_law_32 (by rw [q7]; decide) (by rw [q7]; decide) (by rw [q7]; decide +kernel) (by decide) ?_
        unfold fL_7 at hf
        refine lv_aload_n hx hb dL_law_331 rfl (lv_at hl 1 rfl) ?_
        obtain ⟨r1, h2, hf⟩ := gbind hf
        refine g_Vi (As := []) (rest := []) ⟨hx, hb, hml, hown, hts⟩ (c7_cut l w K g S xa r1 h2 hkc) (gcwV hts i7_cut wd_556 rfl rfl ⟨Nat.le_of_ble_eq_true rfl, Nat.le_of_ble_eq_true rfl⟩) (gRecv.of hK rfl (hH.o8 hkc)) hH hK hS hl.1 rfl rfl (Nat.le_of_ble_eq_true rfl) dL_law_332 ⟨by show cells + 0 ≤ 600000; omega, by show slots + 0 ≤ 7302250; omega⟩ (fun H locs hH hS => ?_)
        refine lv_aload_n hx hb dL_law_335 rfl (lv_at hl 2 rfl) ?_
        obtain ⟨r3, h4, hf⟩ := gbind hf
        refine g_Vi (As := []) (rest := [.int (r1.2)]) ⟨hx, hb, hml, hown, hts⟩ (c8_cut l w K r1.1 S r3 h4) (gcwV hts i8_cut wd_561 rfl rfl ⟨Nat.le_of_ble_eq_true rfl, Nat.le_of_ble_eq_true rfl⟩) (gRecv.of hK rfl hH.ob) hH hK hS hl.1 rfl rfl (Nat.le_of_ble_eq_true rfl) dL_law_336 ⟨by show cells + 0 ≤ 600000; omega, by show slots + 0 ≤ 7302250; omega⟩ (fun H locs hH hS => ?_)
        have hg := gif hf
        refine W.widen (k := cells + 16) (n := slots + 575) (by omega) (by omega) ?_
        refine lv_icmp_eq (tgt := 844) hx hb dL_law_339 (by decide) (fun q => ?_) (fun q => ?_)
        · exact B844 _ _ _ _ _ _ hH hS (lv_sub hl [0, 1, 2, 3] rfl) hkc (hg.1 q)
        · exact absurd (Option.some.inj (hg.2 q)) (by decide)
      have hf := hg.2 q7
      clear hg
      have hg := gif hf
      by_cases q8 : v = 8
      · have hf := hg.1 q8
        refine lv_tableIn (off := 312) (tgt := 344) hx hb dL_law_32 (by rw [q8]; decide) (by rw [q8]; decide) (by rw [q8]; decide +kernel) (by decide) ?_
        unfold fL_8 at hf
        refine lv_aload_n hx hb dL_law_344 rfl (lv_at hl 1 rfl) ?_
        refine lv_aload_n hx hb dL_law_345 rfl (lv_at hl 0 rfl) ?_
        refine lv_iload_n hx hb dL_law_346 rfl (lv_at hl 3 rfl) ?_
        refine lv_iconst (v := 1) hx hb dL_law_347 (by decide) ?_
        refine lv_iadd hx hb dL_law_348 ?_
        obtain ⟨h1, hf⟩ := gd_some hf
        refine va_sld hx hb hX hbl hbA hS (gok_in h1) dL_law_349 ?_
        refine lv_aload_n hx hb dL_law_350 rfl (lv_at hl 0 rfl) ?_
        refine lv_iload_n hx hb dL_law_351 rfl (lv_at hl 3 rfl) ?_
        refine lv_iconst (v := 2) hx hb dL_law_352 (by decide) ?_
        refine lv_iadd hx hb dL_law_353 ?_
        obtain ⟨h2, hf⟩ := gd_some hf
        refine va_sld hx hb hX hbl hbA hS (gok_in h2) dL_law_354 ?_
        obtain ⟨r3, h4, hf⟩ := gbind hf
        refine g_Vi (As := [.int (xs (i + 1).toNatClampNeg), .int (xs (i + 2).toNatClampNeg)]) (rest := []) ⟨hx, hb, hml, hown, hts⟩ (c7_of l w K g S xa (xs (i + 1).toNatClampNeg) (xs (i + 2).toNatClampNeg) r3 h4 hkc) (gcwV hts i7_of wd_565 rfl rfl ⟨Nat.le_of_ble_eq_true rfl, Nat.le_of_ble_eq_true rfl⟩) (gRecv.of hK rfl (hH.o8 hkc)) hH hK hS hl.1 rfl rfl (Nat.le_of_ble_eq_true rfl) dL_law_355 ⟨by show cells + 0 ≤ 600000; omega, by show slots + 0 ≤ 7302250; omega⟩ (fun H locs hH hS => ?_)
        refine lv_aload_n hx hb dL_law_358 rfl (lv_at hl 2 rfl) ?_
        refine lv_aload_n hx hb dL_law_359 rfl (lv_at hl 0 rfl) ?_
        refine lv_iload_n hx hb dL_law_360 rfl (lv_at hl 3 rfl) ?_
        refine lv_iconst (v := 1) hx hb dL_law_361 (by decide) ?_
        refine lv_iadd hx hb dL_law_362 ?_
        refine va_sld hx hb hX hbl hbA hS (gok_in h1) dL_law_363 ?_
        refine lv_aload_n hx hb dL_law_364 rfl (lv_at hl 0 rfl) ?_
        refine lv_iload_n hx hb dL_law_365 rfl (lv_at hl 3 rfl) ?_
        refine lv_iconst (v := 2) hx hb dL_law_366 (by decide) ?_
        refine lv_iadd hx hb dL_law_367 ?_
        refine va_sld hx hb hX hbl hbA hS (gok_in h2) dL_law_368 ?_
        obtain ⟨r5, h6, hf⟩ := gbind hf
        refine g_Vi (As := [.int (xs (i + 1).toNatClampNeg), .int (xs (i + 2).toNatClampNeg)]) (rest := [.int (r3)]) ⟨hx, hb, hml, hown, hts⟩ (c8_of l w K g S (xs (i + 1).toNatClampNeg) (xs (i + 2).toNatClampNeg) r5 h6) (gcwV hts i8_of wd_577 rfl rfl ⟨Nat.le_of_ble_eq_true rfl, Nat.le_of_ble_eq_true rfl⟩) (gRecv.of hK rfl hH.ob) hH hK hS hl.1 rfl rfl (Nat.le_of_ble_eq_true rfl) dL_law_369 ⟨by show cells + 0 ≤ 600000; omega, by show slots + 0 ≤ 7302250; omega⟩ (fun H locs hH hS => ?_)
        have hg := gif hf
        refine W.widen (k := cells + 16) (n := slots + 575) (by omega) (by omega) ?_
        refine lv_icmp_eq (tgt := 844) hx hb dL_law_372 (by decide) (fun q => ?_) (fun q => ?_)
        · exact B844 _ _ _ _ _ _ hH hS (lv_sub hl [0, 1, 2, 3] rfl) hkc (hg.1 q)
        · exact absurd (Option.some.inj (hg.2 q)) (by decide)
      have hf := hg.2 q8
      clear hg
      have hg := gif hf
      by_cases q9 : v = 9
      · have hf := hg.1 q9
        refine lv_tableIn (off := 345) (tgt := 377) hx hb dL_law_32 (by rw [q9]; decide) (by rw [q9]; decide) (by rw [q9]; decide +kernel) (by decide) ?_
        unfold fL_9 at hf
        refine lv_aload_n hx hb dL_law_377 rfl (lv_at hl 1 rfl) ?_
        refine lv_aload_n hx hb dL_law_378 rfl (lv_at hl 0 rfl) ?_
        refine lv_iload_n hx hb dL_law_379 rfl (lv_at hl 3 rfl) ?_
        refine lv_iconst (v := 1) hx hb dL_law_380 (by decide) ?_
        refine lv_iadd hx hb dL_law_381 ?_
        obtain ⟨h1, hf⟩ := gd_some hf
        refine va_sld hx hb hX hbl hbA hS (gok_in h1) dL_law_382 ?_
        refine lv_aload_n hx hb dL_law_383 rfl (lv_at hl 0 rfl) ?_
        refine lv_iload_n hx hb dL_law_384 rfl (lv_at hl 3 rfl) ?_
        refine lv_iconst (v := 2) hx hb dL_law_385 (by decide) ?_
        refine lv_iadd hx hb dL_law_386 ?_
        obtain ⟨h2, hf⟩ := gd_some hf
        refine va_sld hx hb hX hbl hbA hS (gok_in h2) dL_law_387 ?_
        obtain ⟨r3, h4, hf⟩ := gbind hf
        refine g_Vi (As := [.int (xs (i + 1).toNatClampNeg), .int (xs (i + 2).toNatClampNeg)]) (rest := []) ⟨hx, hb, hml, hown, hts⟩ (c7_stack l w K g S xa (xs (i + 1).toNatClampNeg) (xs (i + 2).toNatClampNeg) r3 h4 hkc) (gcwV hts i7_stack wd_589 rfl rfl ⟨Nat.le_of_ble_eq_true rfl, Nat.le_of_ble_eq_true rfl⟩) (gRecv.of hK rfl (hH.o8 hkc)) hH hK hS hl.1 rfl rfl (Nat.le_of_ble_eq_true rfl) dL_law_388 ⟨by show cells + 0 ≤ 600000; omega, by show slots + 0 ≤ 7302250; omega⟩ (fun H locs hH hS => ?_)
        refine lv_aload_n hx hb dL_law_391 rfl (lv_at hl 2 rfl) ?_
        refine lv_aload_n hx hb dL_law_392 rfl (lv_at hl 0 rfl) ?_
        refine lv_iload_n hx hb dL_law_393 rfl (lv_at hl 3 rfl) ?_
        refine lv_iconst (v := 1) hx hb dL_law_394 (by decide) ?_
        refine lv_iadd hx hb dL_law_395 ?_
        refine va_sld hx hb hX hbl hbA hS (gok_in h1) dL_law_396 ?_
        refine lv_aload_n hx hb dL_law_397 rfl (lv_at hl 0 rfl) ?_
        refine lv_iload_n hx hb dL_law_398 rfl (lv_at hl 3 rfl) ?_
        refine lv_iconst (v := 2) hx hb dL_law_399 (by decide) ?_
        refine lv_iadd hx hb dL_law_400 ?_
        refine va_sld hx hb hX hbl hbA hS (gok_in h2) dL_law_401 ?_
        obtain ⟨r5, h6, hf⟩ := gbind hf
        refine g_Vi (As := [.int (xs (i + 1).toNatClampNeg), .int (xs (i + 2).toNatClampNeg)]) (rest := [.int (r3)]) ⟨hx, hb, hml, hown, hts⟩ (c8_stack l w K g S (xs (i + 1).toNatClampNeg) (xs (i + 2).toNatClampNeg) r5 h6) (gcwV hts i8_stack wd_600 rfl rfl ⟨Nat.le_of_ble_eq_true rfl, Nat.le_of_ble_eq_true rfl⟩) (gRecv.of hK rfl hH.ob) hH hK hS hl.1 rfl rfl (Nat.le_of_ble_eq_true rfl) dL_law_402 ⟨by show cells + 0 ≤ 600000; omega, by show slots + 0 ≤ 7302250; omega⟩ (fun H locs hH hS => ?_)
        have hg := gif hf
        refine W.widen (k := cells + 16) (n := slots + 575) (by omega) (by omega) ?_
        refine lv_icmp_eq (tgt := 844) hx hb dL_law_405 (by decide) (fun q => ?_) (fun q => ?_)
        · exact B844 _ _ _ _ _ _ hH hS (lv_sub hl [0, 1, 2, 3] rfl) hkc (hg.1 q)
        · exact absurd (Option.some.inj (hg.2 q)) (by decide)
      have hf := hg.2 q9
      clear hg
      have hg := gif hf
      by_cases q10 : v = 10
      · have hf := hg.1 q10
        refine lv_tableIn (off := 378) (tgt := 410) hx hb dL_law_32 (by rw [q10]; decide) (by rw [q10]; decide) (by rw [q10]; decide +kernel) (by decide) ?_
        unfold fL_10 at hf
        refine lv_aload_n hx hb dL_law_410 rfl (lv_at hl 1 rfl) ?_
        refine lv_aload_n hx hb dL_law_411 rfl (lv_at hl 0 rfl) ?_
        refine lv_iload_n hx hb dL_law_412 rfl (lv_at hl 3 rfl) ?_
        refine lv_iconst (v := 1) hx hb dL_law_413 (by decide) ?_
        refine lv_iadd hx hb dL_law_414 ?_
        obtain ⟨h1, hf⟩ := gd_some hf
        refine va_sld hx hb hX hbl hbA hS (gok_in h1) dL_law_415 ?_
        refine lv_aload_n hx hb dL_law_416 rfl (lv_at hl 0 rfl) ?_
        refine lv_iload_n hx hb dL_law_417 rfl (lv_at hl 3 rfl) ?_
        refine lv_iconst (v := 2) hx hb dL_law_418 (by decide) ?_
        refine lv_iadd hx hb dL_law_419 ?_
        obtain ⟨h2, hf⟩ := gd_some hf
        refine va_sld hx hb hX hbl hbA hS (gok_in h2) dL_law_420 ?_
        obtain ⟨r3, h4, hf⟩ := gbind hf
        refine g_Vi (As := [.int (xs (i + 1).toNatClampNeg), .int (xs (i + 2).toNatClampNeg)]) (rest := []) ⟨hx, hb, hml, hown, hts⟩ (c7_thread l w K g S xa (xs (i + 1).toNatClampNeg) (xs (i + 2).toNatClampNeg) r3 h4 hkc) (gcwV hts i7_thread wd_604 rfl rfl ⟨Nat.le_of_ble_eq_true rfl, Nat.le_of_ble_eq_true rfl⟩) (gRecv.of hK rfl (hH.o8 hkc)) hH hK hS hl.1 rfl rfl (Nat.le_of_ble_eq_true rfl) dL_law_421 ⟨by show cells + 0 ≤ 600000; omega, by show slots + 0 ≤ 7302250; omega⟩ (fun H locs hH hS => ?_)
        refine lv_aload_n hx hb dL_law_424 rfl (lv_at hl 2 rfl) ?_
        refine lv_aload_n hx hb dL_law_425 rfl (lv_at hl 0 rfl) ?_
        refine lv_iload_n hx hb dL_law_426 rfl (lv_at hl 3 rfl) ?_
        refine lv_iconst (v := 1) hx hb dL_law_427 (by decide) ?_
        refine lv_iadd hx hb dL_law_428 ?_
        refine va_sld hx hb hX hbl hbA hS (gok_in h1) dL_law_429 ?_
        refine lv_aload_n hx hb dL_law_430 rfl (lv_at hl 0 rfl) ?_
        refine lv_iload_n hx hb dL_law_431 rfl (lv_at hl 3 rfl) ?_
        refine lv_iconst (v := 2) hx hb dL_law_432 (by decide) ?_
        refine lv_iadd hx hb dL_law_433 ?_
        refine va_sld hx hb hX hbl hbA hS (gok_in h2) dL_law_434 ?_
        obtain ⟨r5, h6, hf⟩ := gbind hf
        refine g_Vi (As := [.int (xs (i + 1).toNatClampNeg), .int (xs (i + 2).toNatClampNeg)]) (rest := [.int (r3)]) ⟨hx, hb, hml, hown, hts⟩ (c8_thread l w K g S (xs (i + 1).toNatClampNeg) (xs (i + 2).toNatClampNeg) r5 h6) (gcwV hts i8_thread wd_620 rfl rfl ⟨Nat.le_of_ble_eq_true rfl, Nat.le_of_ble_eq_true rfl⟩) (gRecv.of hK rfl hH.ob) hH hK hS hl.1 rfl rfl (Nat.le_of_ble_eq_true rfl) dL_law_435 ⟨by show cells + 0 ≤ 600000; omega, by show slots + 0 ≤ 7302250; omega⟩ (fun H locs hH hS => ?_)
        have hg := gif hf
        refine W.widen (k := cells + 16) (n := slots + 575) (by omega) (by omega) ?_
        refine lv_icmp_eq (tgt := 844) hx hb dL_law_438 (by decide) (fun q => ?_) (fun q => ?_)
        · exact B844 _ _ _ _ _ _ hH hS (lv_sub hl [0, 1, 2, 3] rfl) hkc (hg.1 q)
        · exact absurd (Option.some.inj (hg.2 q)) (by decide)
      have hf := hg.2 q10
      clear hg
      have hg := gif hf
      by_cases q11 : v = 11
      · have hf := hg.1 q11
        refine lv_tableIn (off := 411) (tgt := 443) hx hb dL_law_32 (by rw [q11]; decide) (by rw [q11]; decide) (by rw [q11]; decide +kernel) (by decide) ?_
        unfold fL_11 at hf
        refine lv_aload_n hx hb dL_law_443 rfl (lv_at hl 1 rfl) ?_
        refine lv_aload_n hx hb dL_law_444 rfl (lv_at hl 0 rfl) ?_
        refine lv_iload_n hx hb dL_law_445 rfl (lv_at hl 3 rfl) ?_
        refine lv_iconst (v := 1) hx hb dL_law_446 (by decide) ?_
        refine lv_iadd hx hb dL_law_447 ?_
        obtain ⟨h1, hf⟩ := gd_some hf
        refine va_sld hx hb hX hbl hbA hS (gok_in h1) dL_law_448 ?_
        obtain ⟨r2, h3, hf⟩ := gbind hf
        refine g_Vi (As := [.int (xs (i + 1).toNatClampNeg)]) (rest := []) ⟨hx, hb, hml, hown, hts⟩ (c7_pick l w K g S xa (xs (i + 1).toNatClampNeg) r2 h3 hkc) (gcwV hts i7_pick wd_632 rfl rfl ⟨Nat.le_of_ble_eq_true rfl, Nat.le_of_ble_eq_true rfl⟩) (gRecv.of hK rfl (hH.o8 hkc)) hH hK hS hl.1 rfl rfl (Nat.le_of_ble_eq_true rfl) dL_law_449 ⟨by show cells + 0 ≤ 600000; omega, by show slots + 0 ≤ 7302250; omega⟩ (fun H locs hH hS => ?_)
        refine lv_aload_n hx hb dL_law_452 rfl (lv_at hl 2 rfl) ?_
        refine lv_aload_n hx hb dL_law_453 rfl (lv_at hl 0 rfl) ?_
        refine lv_iload_n hx hb dL_law_454 rfl (lv_at hl 3 rfl) ?_
        refine lv_iconst (v := 1) hx hb dL_law_455 (by decide) ?_
        refine lv_iadd hx hb dL_law_456 ?_
        refine va_sld hx hb hX hbl hbA hS (gok_in h1) dL_law_457 ?_
        obtain ⟨r4, h5, hf⟩ := gbind hf
        refine g_Vi (As := [.int (xs (i + 1).toNatClampNeg)]) (rest := [.int (r2)]) ⟨hx, hb, hml, hown, hts⟩ (c8_pick l w K g S (xs (i + 1).toNatClampNeg) r4 h5) (gcwV hts i8_pick wd_637 rfl rfl ⟨Nat.le_of_ble_eq_true rfl, Nat.le_of_ble_eq_true rfl⟩) (gRecv.of hK rfl hH.ob) hH hK hS hl.1 rfl rfl (Nat.le_of_ble_eq_true rfl) dL_law_458 ⟨by show cells + 0 ≤ 600000; omega, by show slots + 0 ≤ 7302250; omega⟩ (fun H locs hH hS => ?_)
        have hg := gif hf
        refine W.widen (k := cells + 16) (n := slots + 575) (by omega) (by omega) ?_
        refine lv_icmp_eq (tgt := 844) hx hb dL_law_461 (by decide) (fun q => ?_) (fun q => ?_)
        · exact B844 _ _ _ _ _ _ hH hS (lv_sub hl [0, 1, 2, 3] rfl) hkc (hg.1 q)
        · exact absurd (Option.some.inj (hg.2 q)) (by decide)
      have hf := hg.2 q11
      clear hg
      have hg := gif hf
      by_cases q12 : v = 12
      · have hf := hg.1 q12
        refine lv_tableIn (off := 434) (tgt := 466) hx hb dL_law_32 (by rw [q12]; decide) (by rw [q12]; decide) (by rw [q12]; decide +kernel) (by decide) ?_
        unfold fL_12 at hf
        refine lv_aload_n hx hb dL_law_466 rfl (lv_at hl 1 rfl) ?_
        refine lv_aload_n hx hb dL_law_467 rfl (lv_at hl 0 rfl) ?_
        refine lv_iload_n hx hb dL_law_468 rfl (lv_at hl 3 rfl) ?_
        refine lv_iconst (v := 1) hx hb dL_law_469 (by decide) ?_
        refine lv_iadd hx hb dL_law_470 ?_
        obtain ⟨h1, hf⟩ := gd_some hf
        refine va_sld hx hb hX hbl hbA hS (gok_in h1) dL_law_471 ?_
        obtain ⟨r2, h3, hf⟩ := gbind hf
        refine g_Vi (As := [.int (xs (i + 1).toNatClampNeg)]) (rest := []) ⟨hx, hb, hml, hown, hts⟩ (c7_byEnd l w K g S xa (xs (i + 1).toNatClampNeg) r2 h3 hkc) (gcwV hts i7_byEnd wd_641 rfl rfl ⟨Nat.le_of_ble_eq_true rfl, Nat.le_of_ble_eq_true rfl⟩) (gRecv.of hK rfl (hH.o8 hkc)) hH hK hS hl.1 rfl rfl (Nat.le_of_ble_eq_true rfl) dL_law_472 ⟨by show cells + 0 ≤ 600000; omega, by show slots + 0 ≤ 7302250; omega⟩ (fun H locs hH hS => ?_)
        refine lv_aload_n hx hb dL_law_475 rfl (lv_at hl 2 rfl) ?_
        refine lv_aload_n hx hb dL_law_476 rfl (lv_at hl 0 rfl) ?_
        refine lv_iload_n hx hb dL_law_477 rfl (lv_at hl 3 rfl) ?_
        refine lv_iconst (v := 1) hx hb dL_law_478 (by decide) ?_
        refine lv_iadd hx hb dL_law_479 ?_
        refine va_sld hx hb hX hbl hbA hS (gok_in h1) dL_law_480 ?_
        obtain ⟨r4, h5, hf⟩ := gbind hf
        refine g_Vi (As := [.int (xs (i + 1).toNatClampNeg)]) (rest := [.int (r2)]) ⟨hx, hb, hml, hown, hts⟩ (c8_byEnd l w K g S (xs (i + 1).toNatClampNeg) r4 h5) (gcwV hts i8_byEnd wd_649 rfl rfl ⟨Nat.le_of_ble_eq_true rfl, Nat.le_of_ble_eq_true rfl⟩) (gRecv.of hK rfl hH.ob) hH hK hS hl.1 rfl rfl (Nat.le_of_ble_eq_true rfl) dL_law_481 ⟨by show cells + 0 ≤ 600000; omega, by show slots + 0 ≤ 7302250; omega⟩ (fun H locs hH hS => ?_)
        have hg := gif hf
        refine W.widen (k := cells + 16) (n := slots + 575) (by omega) (by omega) ?_
        refine lv_icmp_eq (tgt := 844) hx hb dL_law_484 (by decide) (fun q => ?_) (fun q => ?_)
        · exact B844 _ _ _ _ _ _ hH hS (lv_sub hl [0, 1, 2, 3] rfl) hkc (hg.1 q)
        · exact absurd (Option.some.inj (hg.2 q)) (by decide)
      have hf := hg.2 q12
      clear hg
      have hg := gif hf
      by_cases q13 : v = 13
      · have hf := hg.1 q13
        refine lv_tableIn (off := 457) (tgt := 489) hx hb dL_law_32 (by rw [q13]; decide) (by rw [q13]; decide) (by rw [q13]; decide +kernel) (by decide) ?_
        unfold fL_13 at hf
        refine lv_aload_n hx hb dL_law_489 rfl (lv_at hl 1 rfl) ?_
        refine lv_aload_n hx hb dL_law_490 rfl (lv_at hl 0 rfl) ?_
        refine lv_iload_n hx hb dL_law_491 rfl (lv_at hl 3 rfl) ?_
        refine lv_iconst (v := 1) hx hb dL_law_492 (by decide) ?_
        refine lv_iadd hx hb dL_law_493 ?_
        obtain ⟨h1, hf⟩ := gd_some hf
        refine va_sld hx hb hX hbl hbA hS (gok_in h1) dL_law_494 ?_
        obtain ⟨r2, h3, hf⟩ := gbind hf
        refine g_Vi (As := [.int (xs (i + 1).toNatClampNeg)]) (rest := []) ⟨hx, hb, hml, hown, hts⟩ (c7_byCloth l w K g S xa (xs (i + 1).toNatClampNeg) r2 h3 hkc) (gcwV hts i7_byCloth wd_657 rfl rfl ⟨Nat.le_of_ble_eq_true rfl, Nat.le_of_ble_eq_true rfl⟩) (gRecv.of hK rfl (hH.o8 hkc)) hH hK hS hl.1 rfl rfl (Nat.le_of_ble_eq_true rfl) dL_law_495 ⟨by show cells + 0 ≤ 600000; omega, by show slots + 0 ≤ 7302250; omega⟩ (fun H locs hH hS => ?_)
        refine lv_aload_n hx hb dL_law_498 rfl (lv_at hl 2 rfl) ?_
        refine lv_aload_n hx hb dL_law_499 rfl (lv_at hl 0 rfl) ?_
        refine lv_iload_n hx hb dL_law_500 rfl (lv_at hl 3 rfl) ?_
        refine lv_iconst (v := 1) hx hb dL_law_501 (by decide) ?_
        refine lv_iadd hx hb dL_law_502 ?_
        refine va_sld hx hb hX hbl hbA hS (gok_in h1) dL_law_503 ?_
        obtain ⟨r4, h5, hf⟩ := gbind hf
        refine g_Vi (As := [.int (xs (i + 1).toNatClampNeg)]) (rest := [.int (r2)]) ⟨hx, hb, hml, hown, hts⟩ (c8_byCloth l w K g S (xs (i + 1).toNatClampNeg) r4 h5) (gcwV hts i8_byCloth wd_666 rfl rfl ⟨Nat.le_of_ble_eq_true rfl, Nat.le_of_ble_eq_true rfl⟩) (gRecv.of hK rfl hH.ob) hH hK hS hl.1 rfl rfl (Nat.le_of_ble_eq_true rfl) dL_law_504 ⟨by show cells + 0 ≤ 600000; omega, by show slots + 0 ≤ 7302250; omega⟩ (fun H locs hH hS => ?_)
        have hg := gif hf
        refine W.widen (k := cells + 16) (n := slots + 575) (by omega) (by omega) ?_
        refine lv_icmp_eq (tgt := 844) hx hb dL_law_507 (by decide) (fun q => ?_) (fun q => ?_)
        · exact B844 _ _ _ _ _ _ hH hS (lv_sub hl [0, 1, 2, 3] rfl) hkc (hg.1 q)
        · exact absurd (Option.some.inj (hg.2 q)) (by decide)
      have hf := hg.2 q13
      clear hg
      have hg := gif hf
      by_cases q14 : v = 14
      · have hf := hg.1 q14
        refine lv_tableIn (off := 480) (tgt := 512) hx hb dL_law_32 (by rw [q14]; decide) (by rw [q14]; decide) (by rw [q14]; decide +kernel) (by decide) ?_
        unfold fL_14 at hf
        refine lv_aload_n hx hb dL_law_512 rfl (lv_at hl 1 rfl) ?_
        refine lv_aload_n hx hb dL_law_513 rfl (lv_at hl 0 rfl) ?_
        refine lv_iload_n hx hb dL_law_514 rfl (lv_at hl 3 rfl) ?_
        refine lv_iconst (v := 1) hx hb dL_law_515 (by decide) ?_
        refine lv_iadd hx hb dL_law_516 ?_
        obtain ⟨h1, hf⟩ := gd_some hf
        refine va_sld hx hb hX hbl hbA hS (gok_in h1) dL_law_517 ?_
        obtain ⟨r2, h3, hf⟩ := gbind hf
        refine g_Vi (As := [.int (xs (i + 1).toNatClampNeg)]) (rest := []) ⟨hx, hb, hml, hown, hts⟩ (c7_write l w K g S xa (xs (i + 1).toNatClampNeg) r2 h3 hkc) (gcwV hts i7_write wd_674 rfl rfl ⟨Nat.le_of_ble_eq_true rfl, Nat.le_of_ble_eq_true rfl⟩) (gRecv.of hK rfl (hH.o8 hkc)) hH hK hS hl.1 rfl rfl (Nat.le_of_ble_eq_true rfl) dL_law_518 ⟨by show cells + 0 ≤ 600000; omega, by show slots + 0 ≤ 7302250; omega⟩ (fun H locs hH hS => ?_)
        refine lv_aload_n hx hb dL_law_521 rfl (lv_at hl 2 rfl) ?_
        refine lv_aload_n hx hb dL_law_522 rfl (lv_at hl 0 rfl) ?_
        refine lv_iload_n hx hb dL_law_523 rfl (lv_at hl 3 rfl) ?_
        refine lv_iconst (v := 1) hx hb dL_law_524 (by decide) ?_
        refine lv_iadd hx hb dL_law_525 ?_
        refine va_sld hx hb hX hbl hbA hS (gok_in h1) dL_law_526 ?_
        obtain ⟨r4, h5, hf⟩ := gbind hf
        refine g_Vi (As := [.int (xs (i + 1).toNatClampNeg)]) (rest := [.int (r2.2)]) ⟨hx, hb, hml, hown, hts⟩ (c8_write l w K r2.1 S (xs (i + 1).toNatClampNeg) r4 h5) (gcwV hts i8_write wd_686 rfl rfl ⟨Nat.le_of_ble_eq_true rfl, Nat.le_of_ble_eq_true rfl⟩) (gRecv.of hK rfl hH.ob) hH hK hS hl.1 rfl rfl (Nat.le_of_ble_eq_true rfl) dL_law_527 ⟨by show cells + 0 ≤ 600000; omega, by show slots + 0 ≤ 7302250; omega⟩ (fun H locs hH hS => ?_)
        have hg := gif hf
        refine W.widen (k := cells + 16) (n := slots + 575) (by omega) (by omega) ?_
        refine lv_icmp_eq (tgt := 844) hx hb dL_law_530 (by decide) (fun q => ?_) (fun q => ?_)
        · exact B844 _ _ _ _ _ _ hH hS (lv_sub hl [0, 1, 2, 3] rfl) hkc (hg.1 q)
        · exact absurd (Option.some.inj (hg.2 q)) (by decide)
      have hf := hg.2 q14
      clear hg
      have hg := gif hf
      by_cases q15 : v = 15
      · have hf := hg.1 q15
        refine lv_tableIn (off := 503) (tgt := 535) hx hb dL_law_32 (by rw [q15]; decide) (by rw [q15]; decide) (by rw [q15]; decide +kernel) (by decide) ?_
        unfold fL_15 at hf
        refine lv_aload_n hx hb dL_law_535 rfl (lv_at hl 1 rfl) ?_
        refine lv_aload_n hx hb dL_law_536 rfl (lv_at hl 0 rfl) ?_
        refine lv_iload_n hx hb dL_law_537 rfl (lv_at hl 3 rfl) ?_
        refine lv_iconst (v := 1) hx hb dL_law_538 (by decide) ?_
        refine lv_iadd hx hb dL_law_539 ?_
        obtain ⟨h1, hf⟩ := gd_some hf
        refine va_sld hx hb hX hbl hbA hS (gok_in h1) dL_law_540 ?_
        obtain ⟨r2, h3, hf⟩ := gbind hf
        refine g_Vi (As := [.int (xs (i + 1).toNatClampNeg)]) (rest := []) ⟨hx, hb, hml, hown, hts⟩ (c7_sign l w K g S xa (xs (i + 1).toNatClampNeg) r2 h3 hkc) (gcwV hts i7_sign wd_690 rfl rfl ⟨Nat.le_of_ble_eq_true rfl, Nat.le_of_ble_eq_true rfl⟩) (gRecv.of hK rfl (hH.o8 hkc)) hH hK hS hl.1 rfl rfl (Nat.le_of_ble_eq_true rfl) dL_law_541 ⟨by show cells + 0 ≤ 600000; omega, by show slots + 0 ≤ 7302250; omega⟩ (fun H locs hH hS => ?_)
        refine lv_aload_n hx hb dL_law_544 rfl (lv_at hl 2 rfl) ?_
        refine lv_aload_n hx hb dL_law_545 rfl (lv_at hl 0 rfl) ?_
        refine lv_iload_n hx hb dL_law_546 rfl (lv_at hl 3 rfl) ?_
        refine lv_iconst (v := 1) hx hb dL_law_547 (by decide) ?_
        refine lv_iadd hx hb dL_law_548 ?_
        refine va_sld hx hb hX hbl hbA hS (gok_in h1) dL_law_549 ?_
        obtain ⟨r4, h5, hf⟩ := gbind hf
        refine g_Vi (As := [.int (xs (i + 1).toNatClampNeg)]) (rest := [.int (r2)]) ⟨hx, hb, hml, hown, hts⟩ (c8_sign l w K g S (xs (i + 1).toNatClampNeg) r4 h5) (gcwV hts i8_sign wd_695 rfl rfl ⟨Nat.le_of_ble_eq_true rfl, Nat.le_of_ble_eq_true rfl⟩) (gRecv.of hK rfl hH.ob) hH hK hS hl.1 rfl rfl (Nat.le_of_ble_eq_true rfl) dL_law_550 ⟨by show cells + 0 ≤ 600000; omega, by show slots + 0 ≤ 7302250; omega⟩ (fun H locs hH hS => ?_)
        have hg := gif hf
        refine W.widen (k := cells + 16) (n := slots + 575) (by omega) (by omega) ?_
        refine lv_icmp_eq (tgt := 844) hx hb dL_law_553 (by decide) (fun q => ?_) (fun q => ?_)
        · exact B844 _ _ _ _ _ _ hH hS (lv_sub hl [0, 1, 2, 3] rfl) hkc (hg.1 q)
        · exact absurd (Option.some.inj (hg.2 q)) (by decide)
      have hf := hg.2 q15
      clear hg
      have hg := gif hf
      by_cases q16 : v = 16
      · have hf := hg.1 q16
        refine lv_tableIn (off := 526) (tgt := 558) hx hb dL_law_32 (by rw [q16]; decide) (by rw [q16]; decide) (by rw [q16]; decide +kernel) (by decide) ?_
        unfold fL_16 at hf
        refine lv_aload_n hx hb dL_law_558 rfl (lv_at hl 1 rfl) ?_
        refine lv_aload_n hx hb dL_law_559 rfl (lv_at hl 0 rfl) ?_
        refine lv_iload_n hx hb dL_law_560 rfl (lv_at hl 3 rfl) ?_
        refine lv_iconst (v := 1) hx hb dL_law_561 (by decide) ?_
        refine lv_iadd hx hb dL_law_562 ?_
        obtain ⟨h1, hf⟩ := gd_some hf
        refine va_sld hx hb hX hbl hbA hS (gok_in h1) dL_law_563 ?_
        obtain ⟨r2, h3, hf⟩ := gbind hf
        refine g_Vi (As := [.int (xs (i + 1).toNatClampNeg)]) (rest := []) ⟨hx, hb, hml, hown, hts⟩ (c7_count l w K g S xa (xs (i + 1).toNatClampNeg) r2 h3 hkc) (gcwV hts i7_count wd_699 rfl rfl ⟨Nat.le_of_ble_eq_true rfl, Nat.le_of_ble_eq_true rfl⟩) (gRecv.of hK rfl (hH.o8 hkc)) hH hK hS hl.1 rfl rfl (Nat.le_of_ble_eq_true rfl) dL_law_564 ⟨by show cells + 0 ≤ 600000; omega, by show slots + 0 ≤ 7302250; omega⟩ (fun H locs hH hS => ?_)
        refine lv_aload_n hx hb dL_law_567 rfl (lv_at hl 2 rfl) ?_
        refine lv_aload_n hx hb dL_law_568 rfl (lv_at hl 0 rfl) ?_
        refine lv_iload_n hx hb dL_law_569 rfl (lv_at hl 3 rfl) ?_
        refine lv_iconst (v := 1) hx hb dL_law_570 (by decide) ?_
        refine lv_iadd hx hb dL_law_571 ?_
        refine va_sld hx hb hX hbl hbA hS (gok_in h1) dL_law_572 ?_
        obtain ⟨r4, h5, hf⟩ := gbind hf
        refine g_Vi (As := [.int (xs (i + 1).toNatClampNeg)]) (rest := [.int (r2)]) ⟨hx, hb, hml, hown, hts⟩ (c8_count l w K g S (xs (i + 1).toNatClampNeg) r4 h5) (gcwV hts i8_count wd_713 rfl rfl ⟨Nat.le_of_ble_eq_true rfl, Nat.le_of_ble_eq_true rfl⟩) (gRecv.of hK rfl hH.ob) hH hK hS hl.1 rfl rfl (Nat.le_of_ble_eq_true rfl) dL_law_573 ⟨by show cells + 0 ≤ 600000; omega, by show slots + 0 ≤ 7302250; omega⟩ (fun H locs hH hS => ?_)
        have hg := gif hf
        refine W.widen (k := cells + 16) (n := slots + 575) (by omega) (by omega) ?_
        refine lv_icmp_eq (tgt := 844) hx hb dL_law_576 (by decide) (fun q => ?_) (fun q => ?_)
        · exact B844 _ _ _ _ _ _ hH hS (lv_sub hl [0, 1, 2, 3] rfl) hkc (hg.1 q)
        · exact absurd (Option.some.inj (hg.2 q)) (by decide)
      have hf := hg.2 q16
      clear hg
      have hg := gif hf
      by_cases q17 : v = 17
      · have hf := hg.1 q17
        refine lv_tableIn (off := 549) (tgt := 581) hx hb dL_law_32 (by rw [q17]; decide) (by rw [q17]; decide) (by rw [q17]; decide +kernel) (by decide) ?_
        unfold fL_17 at hf
        refine lv_aload_n hx hb dL_law_581 rfl (lv_at hl 1 rfl) ?_
        refine lv_aload_n hx hb dL_law_582 rfl (lv_at hl 0 rfl) ?_
        refine lv_iload_n hx hb dL_law_583 rfl (lv_at hl 3 rfl) ?_
        refine lv_iconst (v := 1) hx hb dL_law_584 (by decide) ?_
        refine lv_iadd hx hb dL_law_585 ?_
        obtain ⟨h1, hf⟩ := gd_some hf
        refine va_sld hx hb hX hbl hbA hS (gok_in h1) dL_law_586 ?_
        refine lv_aload_n hx hb dL_law_587 rfl (lv_at hl 0 rfl) ?_
        refine lv_iload_n hx hb dL_law_588 rfl (lv_at hl 3 rfl) ?_
        refine lv_iconst (v := 2) hx hb dL_law_589 (by decide) ?_
        refine lv_iadd hx hb dL_law_590 ?_
        obtain ⟨h2, hf⟩ := gd_some hf
        refine va_sld hx hb hX hbl hbA hS (gok_in h2) dL_law_591 ?_
        obtain ⟨r3, h4, hf⟩ := gbind hf
        refine g_Vi (As := [.int (xs (i + 1).toNatClampNeg), .int (xs (i + 2).toNatClampNeg)]) (rest := []) ⟨hx, hb, hml, hown, hts⟩ (c7_picks l w K g S xa (xs (i + 1).toNatClampNeg) (xs (i + 2).toNatClampNeg) r3 h4 hkc) (gcwV hts i7_picks wd_725 rfl rfl ⟨Nat.le_of_ble_eq_true rfl, Nat.le_of_ble_eq_true rfl⟩) (gRecv.of hK rfl (hH.o8 hkc)) hH hK hS hl.1 rfl rfl (Nat.le_of_ble_eq_true rfl) dL_law_592 ⟨by show cells + 0 ≤ 600000; omega, by show slots + 0 ≤ 7302250; omega⟩ (fun H locs hH hS => ?_)
        refine lv_aload_n hx hb dL_law_595 rfl (lv_at hl 2 rfl) ?_
        refine lv_aload_n hx hb dL_law_596 rfl (lv_at hl 0 rfl) ?_
        refine lv_iload_n hx hb dL_law_597 rfl (lv_at hl 3 rfl) ?_
        refine lv_iconst (v := 1) hx hb dL_law_598 (by decide) ?_
        refine lv_iadd hx hb dL_law_599 ?_
        refine va_sld hx hb hX hbl hbA hS (gok_in h1) dL_law_600 ?_
        refine lv_aload_n hx hb dL_law_601 rfl (lv_at hl 0 rfl) ?_
        refine lv_iload_n hx hb dL_law_602 rfl (lv_at hl 3 rfl) ?_
        refine lv_iconst (v := 2) hx hb dL_law_603 (by decide) ?_
        refine lv_iadd hx hb dL_law_604 ?_
        refine va_sld hx hb hX hbl hbA hS (gok_in h2) dL_law_605 ?_
        obtain ⟨r5, h6, hf⟩ := gbind hf
        refine g_Vi (As := [.int (xs (i + 1).toNatClampNeg), .int (xs (i + 2).toNatClampNeg)]) (rest := [.int (r3.2)]) ⟨hx, hb, hml, hown, hts⟩ (c8_picks l w K r3.1 S (xs (i + 1).toNatClampNeg) (xs (i + 2).toNatClampNeg) r5 h6) (gcwV hts i8_picks wd_757 rfl rfl ⟨Nat.le_of_ble_eq_true rfl, Nat.le_of_ble_eq_true rfl⟩) (gRecv.of hK rfl hH.ob) hH hK hS hl.1 rfl rfl (Nat.le_of_ble_eq_true rfl) dL_law_606 ⟨by show cells + 0 ≤ 600000; omega, by show slots + 0 ≤ 7302250; omega⟩ (fun H locs hH hS => ?_)
        have hg := gif hf
        refine W.widen (k := cells + 16) (n := slots + 575) (by omega) (by omega) ?_
        refine lv_icmp_eq (tgt := 844) hx hb dL_law_609 (by decide) (fun q => ?_) (fun q => ?_)
        · exact B844 _ _ _ _ _ _ hH hS (lv_sub hl [0, 1, 2, 3] rfl) hkc (hg.1 q)
        · exact absurd (Option.some.inj (hg.2 q)) (by decide)
      have hf := hg.2 q17
      clear hg
      have hg := gif hf
      by_cases q18 : v = 18
      · have hf := hg.1 q18
        refine lv_tableIn (off := 582) (tgt := 614) hx hb dL_law_32 (by rw [q18]; decide) (by rw [q18]; decide) (by rw [q18]; decide +kernel) (by decide) ?_
        unfold fL_18 at hf
        refine lv_aload_n hx hb dL_law_614 rfl (lv_at hl 1 rfl) ?_
        refine lv_aload_n hx hb dL_law_615 rfl (lv_at hl 0 rfl) ?_
        refine lv_iload_n hx hb dL_law_616 rfl (lv_at hl 3 rfl) ?_
        refine lv_iconst (v := 1) hx hb dL_law_617 (by decide) ?_
        refine lv_iadd hx hb dL_law_618 ?_
        obtain ⟨h1, hf⟩ := gd_some hf
        refine va_sld hx hb hX hbl hbA hS (gok_in h1) dL_law_619 ?_
        obtain ⟨r2, h3, hf⟩ := gbind hf
        refine g_Vi (As := [.int (xs (i + 1).toNatClampNeg)]) (rest := []) ⟨hx, hb, hml, hown, hts⟩ (c7_depth l w K g S xa (xs (i + 1).toNatClampNeg) r2 h3 hkc) (gcwV hts i7_depth wd_810 rfl rfl ⟨Nat.le_of_ble_eq_true rfl, Nat.le_of_ble_eq_true rfl⟩) (gRecv.of hK rfl (hH.o8 hkc)) hH hK hS hl.1 rfl rfl (Nat.le_of_ble_eq_true rfl) dL_law_620 ⟨by show cells + 0 ≤ 600000; omega, by show slots + 0 ≤ 7302250; omega⟩ (fun H locs hH hS => ?_)
        refine lv_aload_n hx hb dL_law_623 rfl (lv_at hl 2 rfl) ?_
        refine lv_aload_n hx hb dL_law_624 rfl (lv_at hl 0 rfl) ?_
        refine lv_iload_n hx hb dL_law_625 rfl (lv_at hl 3 rfl) ?_
        refine lv_iconst (v := 1) hx hb dL_law_626 (by decide) ?_
        refine lv_iadd hx hb dL_law_627 ?_
        refine va_sld hx hb hX hbl hbA hS (gok_in h1) dL_law_628 ?_
        obtain ⟨r4, h5, hf⟩ := gbind hf
        refine g_Vi (As := [.int (xs (i + 1).toNatClampNeg)]) (rest := [.int (r2.2)]) ⟨hx, hb, hml, hown, hts⟩ (c8_depth l w K r2.1 S (xs (i + 1).toNatClampNeg) r4 h5) (gcwV hts i8_depth wd_823 rfl rfl ⟨Nat.le_of_ble_eq_true rfl, Nat.le_of_ble_eq_true rfl⟩) (gRecv.of hK rfl hH.ob) hH hK hS hl.1 rfl rfl (Nat.le_of_ble_eq_true rfl) dL_law_629 ⟨by show cells + 0 ≤ 600000; omega, by show slots + 0 ≤ 7302250; omega⟩ (fun H locs hH hS => ?_)
        have hg := gif hf
        refine W.widen (k := cells + 16) (n := slots + 575) (by omega) (by omega) ?_
        refine lv_icmp_eq (tgt := 844) hx hb dL_law_632 (by decide) (fun q => ?_) (fun q => ?_)
        · exact B844 _ _ _ _ _ _ hH hS (lv_sub hl [0, 1, 2, 3] rfl) hkc (hg.1 q)
        · exact absurd (Option.some.inj (hg.2 q)) (by decide)
      have hf := hg.2 q18
      clear hg
      have hg := gif hf
      by_cases q19 : v = 19
      · have hf := hg.1 q19
        refine lv_tableIn (off := 605) (tgt := 637) hx hb dL_law_32 (by rw [q19]; decide) (by rw [q19]; decide) (by rw [q19]; decide +kernel) (by decide) ?_
        unfold fL_19 at hf
        refine lv_aload_n hx hb dL_law_637 rfl (lv_at hl 1 rfl) ?_
        refine lv_aload_n hx hb dL_law_638 rfl (lv_at hl 0 rfl) ?_
        refine lv_iload_n hx hb dL_law_639 rfl (lv_at hl 3 rfl) ?_
        refine lv_iconst (v := 1) hx hb dL_law_640 (by decide) ?_
        refine lv_iadd hx hb dL_law_641 ?_
        obtain ⟨h1, hf⟩ := gd_some hf
        refine va_sld hx hb hX hbl hbA hS (gok_in h1) dL_law_642 ?_
        obtain ⟨r2, h3, hf⟩ := gbind hf
        refine g_Vi (As := [.int (xs (i + 1).toNatClampNeg)]) (rest := []) ⟨hx, hb, hml, hown, hts⟩ (c7_reaches l w K g S xa (xs (i + 1).toNatClampNeg) r2 h3 hkc) (gcwV hts i7_reaches wd_831 rfl rfl ⟨Nat.le_of_ble_eq_true rfl, Nat.le_of_ble_eq_true rfl⟩) (gRecv.of hK rfl (hH.o8 hkc)) hH hK hS hl.1 rfl rfl (Nat.le_of_ble_eq_true rfl) dL_law_643 ⟨by show cells + 0 ≤ 600000; omega, by show slots + 0 ≤ 7302250; omega⟩ (fun H locs hH hS => ?_)
        refine lv_aload_n hx hb dL_law_646 rfl (lv_at hl 2 rfl) ?_
        refine lv_aload_n hx hb dL_law_647 rfl (lv_at hl 0 rfl) ?_
        refine lv_iload_n hx hb dL_law_648 rfl (lv_at hl 3 rfl) ?_
        refine lv_iconst (v := 1) hx hb dL_law_649 (by decide) ?_
        refine lv_iadd hx hb dL_law_650 ?_
        refine va_sld hx hb hX hbl hbA hS (gok_in h1) dL_law_651 ?_
        obtain ⟨r4, h5, hf⟩ := gbind hf
        refine g_Vi (As := [.int (xs (i + 1).toNatClampNeg)]) (rest := [.int (r2)]) ⟨hx, hb, hml, hown, hts⟩ (c8_reaches l w K g S (xs (i + 1).toNatClampNeg) r4 h5) (gcwV hts i8_reaches wd_836 rfl rfl ⟨Nat.le_of_ble_eq_true rfl, Nat.le_of_ble_eq_true rfl⟩) (gRecv.of hK rfl hH.ob) hH hK hS hl.1 rfl rfl (Nat.le_of_ble_eq_true rfl) dL_law_652 ⟨by show cells + 0 ≤ 600000; omega, by show slots + 0 ≤ 7302250; omega⟩ (fun H locs hH hS => ?_)
        have hg := gif hf
        refine W.widen (k := cells + 16) (n := slots + 575) (by omega) (by omega) ?_
        refine lv_icmp_eq (tgt := 844) hx hb dL_law_655 (by decide) (fun q => ?_) (fun q => ?_)
        · exact B844 _ _ _ _ _ _ hH hS (lv_sub hl [0, 1, 2, 3] rfl) hkc (hg.1 q)
        · exact absurd (Option.some.inj (hg.2 q)) (by decide)
      have hf := hg.2 q19
      clear hg
      have hg := gif hf
      by_cases q20 : v = 20
      · have hf := hg.1 q20
        refine lv_tableIn (off := 628) (tgt := 660) hx hb dL_law_32 (by rw [q20]; decide) (by rw [q20]; decide) (by rw [q20]; decide +kernel) (by decide) ?_
        unfold fL_20 at hf
        refine lv_aload_n hx hb dL_law_660 rfl (lv_at hl 1 rfl) ?_
        refine lv_aload_n hx hb dL_law_661 rfl (lv_at hl 0 rfl) ?_
        refine lv_iload_n hx hb dL_law_662 rfl (lv_at hl 3 rfl) ?_
        refine lv_iconst (v := 1) hx hb dL_law_663 (by decide) ?_
        refine lv_iadd hx hb dL_law_664 ?_
        obtain ⟨h1, hf⟩ := gd_some hf
        refine va_sld hx hb hX hbl hbA hS (gok_in h1) dL_law_665 ?_
        obtain ⟨r2, h3, hf⟩ := gbind hf
        refine g_Vi (As := [.int (xs (i + 1).toNatClampNeg)]) (rest := []) ⟨hx, hb, hml, hown, hts⟩ (c7_stop l w K g S xa (xs (i + 1).toNatClampNeg) r2 h3 hkc) (gcwV hts i7_stop wd_840 rfl rfl ⟨Nat.le_of_ble_eq_true rfl, Nat.le_of_ble_eq_true rfl⟩) (gRecv.of hK rfl (hH.o8 hkc)) hH hK hS hl.1 rfl rfl (Nat.le_of_ble_eq_true rfl) dL_law_666 ⟨by show cells + 0 ≤ 600000; omega, by show slots + 0 ≤ 7302250; omega⟩ (fun H locs hH hS => ?_)
        refine lv_aload_n hx hb dL_law_669 rfl (lv_at hl 2 rfl) ?_
        refine lv_aload_n hx hb dL_law_670 rfl (lv_at hl 0 rfl) ?_
        refine lv_iload_n hx hb dL_law_671 rfl (lv_at hl 3 rfl) ?_
        refine lv_iconst (v := 1) hx hb dL_law_672 (by decide) ?_
        refine lv_iadd hx hb dL_law_673 ?_
        refine va_sld hx hb hX hbl hbA hS (gok_in h1) dL_law_674 ?_
        obtain ⟨r4, h5, hf⟩ := gbind hf
        refine g_Vi (As := [.int (xs (i + 1).toNatClampNeg)]) (rest := [.int (r2.2)]) ⟨hx, hb, hml, hown, hts⟩ (c8_stop l w K r2.1 S (xs (i + 1).toNatClampNeg) r4 h5) (gcwV hts i8_stop wd_845 rfl rfl ⟨Nat.le_of_ble_eq_true rfl, Nat.le_of_ble_eq_true rfl⟩) (gRecv.of hK rfl hH.ob) hH hK hS hl.1 rfl rfl (Nat.le_of_ble_eq_true rfl) dL_law_675 ⟨by show cells + 0 ≤ 600000; omega, by show slots + 0 ≤ 7302250; omega⟩ (fun H locs hH hS => ?_)
        have hg := gif hf
        refine W.widen (k := cells + 16) (n := slots + 575) (by omega) (by omega) ?_
        refine lv_icmp_eq (tgt := 844) hx hb dL_law_678 (by decide) (fun q => ?_) (fun q => ?_)
        · exact B844 _ _ _ _ _ _ hH hS (lv_sub hl [0, 1, 2, 3] rfl) hkc (hg.1 q)
        · exact absurd (Option.some.inj (hg.2 q)) (by decide)
      have hf := hg.2 q20
      clear hg
      have hg := gif hf
      by_cases q21 : v = 21
      · have hf := hg.1 q21
        refine lv_tableIn (off := 651) (tgt := 683) hx hb dL_law_32 (by rw [q21]; decide) (by rw [q21]; decide) (by rw [q21]; decide +kernel) (by decide) ?_
        unfold fL_21 at hf
        refine lv_aload_n hx hb dL_law_683 rfl (lv_at hl 1 rfl) ?_
        refine lv_aload_n hx hb dL_law_684 rfl (lv_at hl 0 rfl) ?_
        refine lv_iload_n hx hb dL_law_685 rfl (lv_at hl 3 rfl) ?_
        refine lv_iconst (v := 1) hx hb dL_law_686 (by decide) ?_
        refine lv_iadd hx hb dL_law_687 ?_
        obtain ⟨h1, hf⟩ := gd_some hf
        refine va_sld hx hb hX hbl hbA hS (gok_in h1) dL_law_688 ?_
        obtain ⟨r2, h3, hf⟩ := gbind hf
        refine g_Vi (As := [.int (xs (i + 1).toNatClampNeg)]) (rest := []) ⟨hx, hb, hml, hown, hts⟩ (c7_ahead l w K g S xa (xs (i + 1).toNatClampNeg) r2 h3 hkc) (gcwV hts i7_ahead wd_857 rfl rfl ⟨Nat.le_of_ble_eq_true rfl, Nat.le_of_ble_eq_true rfl⟩) (gRecv.of hK rfl (hH.o8 hkc)) hH hK hS hl.1 rfl rfl (Nat.le_of_ble_eq_true rfl) dL_law_689 ⟨by show cells + 0 ≤ 600000; omega, by show slots + 0 ≤ 7302250; omega⟩ (fun H locs hH hS => ?_)
        refine lv_aload_n hx hb dL_law_692 rfl (lv_at hl 2 rfl) ?_
        refine lv_aload_n hx hb dL_law_693 rfl (lv_at hl 0 rfl) ?_
        refine lv_iload_n hx hb dL_law_694 rfl (lv_at hl 3 rfl) ?_
        refine lv_iconst (v := 1) hx hb dL_law_695 (by decide) ?_
        refine lv_iadd hx hb dL_law_696 ?_
        refine va_sld hx hb hX hbl hbA hS (gok_in h1) dL_law_697 ?_
        obtain ⟨r4, h5, hf⟩ := gbind hf
        refine g_Vi (As := [.int (xs (i + 1).toNatClampNeg)]) (rest := [.int (r2.2)]) ⟨hx, hb, hml, hown, hts⟩ (c8_ahead l w K r2.1 S (xs (i + 1).toNatClampNeg) r4 h5) (gcwV hts i8_ahead wd_861 rfl rfl ⟨Nat.le_of_ble_eq_true rfl, Nat.le_of_ble_eq_true rfl⟩) (gRecv.of hK rfl hH.ob) hH hK hS hl.1 rfl rfl (Nat.le_of_ble_eq_true rfl) dL_law_698 ⟨by show cells + 0 ≤ 600000; omega, by show slots + 0 ≤ 7302250; omega⟩ (fun H locs hH hS => ?_)
        have hg := gif hf
        refine W.widen (k := cells + 16) (n := slots + 575) (by omega) (by omega) ?_
        refine lv_icmp_eq (tgt := 844) hx hb dL_law_701 (by decide) (fun q => ?_) (fun q => ?_)
        · exact B844 _ _ _ _ _ _ hH hS (lv_sub hl [0, 1, 2, 3] rfl) hkc (hg.1 q)
        · exact absurd (Option.some.inj (hg.2 q)) (by decide)
      have hf := hg.2 q21
      clear hg
      have hg := gif hf
      by_cases q22 : v = 22
      · have hf := hg.1 q22
        refine lv_tableIn (off := 674) (tgt := 706) hx hb dL_law_32 (by rw [q22]; decide) (by rw [q22]; decide) (by rw [q22]; decide +kernel) (by decide) ?_
        unfold fL_22 at hf
        refine lv_aload_n hx hb dL_law_706 rfl (lv_at hl 1 rfl) ?_
        refine lv_aload_n hx hb dL_law_707 rfl (lv_at hl 0 rfl) ?_
        refine lv_iload_n hx hb dL_law_708 rfl (lv_at hl 3 rfl) ?_
        refine lv_iconst (v := 1) hx hb dL_law_709 (by decide) ?_
        refine lv_iadd hx hb dL_law_710 ?_
        obtain ⟨h1, hf⟩ := gd_some hf
        refine va_sld hx hb hX hbl hbA hS (gok_in h1) dL_law_711 ?_
        refine lv_i2l hx hb dL_law_712 rfl ?_
        refine lv_bipush (v := 32) hx hb dL_law_713 (by decide) ?_
        refine lv_lshl hx hb dL_law_715 rfl ?_
        refine lv_aload_n hx hb dL_law_716 rfl (lv_at hl 0 rfl) ?_
        refine lv_iload_n hx hb dL_law_717 rfl (lv_at hl 3 rfl) ?_
        refine lv_iconst (v := 2) hx hb dL_law_718 (by decide) ?_
        refine lv_iadd hx hb dL_law_719 ?_
        obtain ⟨h2, hf⟩ := gd_some hf
        refine va_sld hx hb hX hbl hbA hS (gok_in h2) dL_law_720 ?_
        refine lv_i2l hx hb dL_law_721 rfl ?_
        refine lv_ldc2 (v := 4294967295) hx hb hown (hts _ wd_6) dL_law_722 ?_
        refine lv_land hx hb dL_law_725 ?_
        refine lv_lor hx hb dL_law_726 ?_
        obtain ⟨r3, h4, hf⟩ := gbind hf
        refine g_Vi (As := [.long (((xs (i + 1).toNatClampNeg).toInt64 <<< ((32 : Int32).toInt64 &&& 63)) ||| (((xs (i + 2).toNatClampNeg).toInt64) &&& ((4294967295 : Int64))))]) (rest := []) ⟨hx, hb, hml, hown, hts⟩ (c7_put l w K g S xa (((xs (i + 1).toNatClampNeg).toInt64 <<< ((32 : Int32).toInt64 &&& 63)) ||| (((xs (i + 2).toNatClampNeg).toInt64) &&& ((4294967295 : Int64)))) r3 h4 hkc) (gcwV hts i7_put wd_869 rfl rfl ⟨Nat.le_of_ble_eq_true rfl, Nat.le_of_ble_eq_true rfl⟩) (gRecv.of hK rfl (hH.o8 hkc)) hH hK hS hl.1 rfl rfl (Nat.le_of_ble_eq_true rfl) dL_law_727 ⟨by show cells + 0 ≤ 600000; omega, by show slots + 0 ≤ 7302250; omega⟩ (fun H locs hH hS => ?_)
        refine lv_aload_n hx hb dL_law_730 rfl (lv_at hl 2 rfl) ?_
        refine lv_aload_n hx hb dL_law_731 rfl (lv_at hl 0 rfl) ?_
        refine lv_iload_n hx hb dL_law_732 rfl (lv_at hl 3 rfl) ?_
        refine lv_iconst (v := 1) hx hb dL_law_733 (by decide) ?_
        refine lv_iadd hx hb dL_law_734 ?_
        refine va_sld hx hb hX hbl hbA hS (gok_in h1) dL_law_735 ?_
        refine lv_i2l hx hb dL_law_736 rfl ?_
        refine lv_bipush (v := 32) hx hb dL_law_737 (by decide) ?_
        refine lv_lshl hx hb dL_law_739 rfl ?_
        refine lv_aload_n hx hb dL_law_740 rfl (lv_at hl 0 rfl) ?_
        refine lv_iload_n hx hb dL_law_741 rfl (lv_at hl 3 rfl) ?_
        refine lv_iconst (v := 2) hx hb dL_law_742 (by decide) ?_
        refine lv_iadd hx hb dL_law_743 ?_
        refine va_sld hx hb hX hbl hbA hS (gok_in h2) dL_law_744 ?_
        refine lv_i2l hx hb dL_law_745 rfl ?_
        refine lv_ldc2 (v := 4294967295) hx hb hown (hts _ wd_6) dL_law_746 ?_
        refine lv_land hx hb dL_law_749 ?_
        refine lv_lor hx hb dL_law_750 ?_
        obtain ⟨r5, h6, hf⟩ := gbind hf
        refine g_Vi (As := [.long (((xs (i + 1).toNatClampNeg).toInt64 <<< ((32 : Int32).toInt64 &&& 63)) ||| (((xs (i + 2).toNatClampNeg).toInt64) &&& ((4294967295 : Int64))))]) (rest := [.int (r3.2)]) ⟨hx, hb, hml, hown, hts⟩ (c8_put l w K r3.1 S (((xs (i + 1).toNatClampNeg).toInt64 <<< ((32 : Int32).toInt64 &&& 63)) ||| (((xs (i + 2).toNatClampNeg).toInt64) &&& ((4294967295 : Int64)))) r5 h6) (gcwV hts i8_put wd_881 rfl rfl ⟨Nat.le_of_ble_eq_true rfl, Nat.le_of_ble_eq_true rfl⟩) (gRecv.of hK rfl hH.ob) hH hK hS hl.1 rfl rfl (Nat.le_of_ble_eq_true rfl) dL_law_751 ⟨by show cells + 0 ≤ 600000; omega, by show slots + 0 ≤ 7302250; omega⟩ (fun H locs hH hS => ?_)
        have hg := gif hf
        refine W.widen (k := cells + 16) (n := slots + 575) (by omega) (by omega) ?_
        refine lv_icmp_eq (tgt := 844) hx hb dL_law_754 (by decide) (fun q => ?_) (fun q => ?_)
        · exact B844 _ _ _ _ _ _ hH hS (lv_sub hl [0, 1, 2, 3] rfl) hkc (hg.1 q)
        · exact absurd (Option.some.inj (hg.2 q)) (by decide)
      have hf := hg.2 q22
      clear hg
      have hg := gif hf
      by_cases q23 : v = 23
      · have hf := hg.1 q23
        refine lv_tableIn (off := 727) (tgt := 759) hx hb dL_law_32 (by rw [q23]; decide) (by rw [q23]; decide) (by rw [q23]; decide +kernel) (by decide) ?_
        unfold fL_23 at hf
        refine lv_aload_n hx hb dL_law_759 rfl (lv_at hl 1 rfl) ?_
        obtain ⟨r1, h2, hf⟩ := gbind hf
        refine g_Vi (As := []) (rest := []) ⟨hx, hb, hml, hown, hts⟩ (c7_wipe l w K g S xa r1 h2 hkc) (gcwV hts i7_wipe wd_892 rfl rfl ⟨Nat.le_of_ble_eq_true rfl, Nat.le_of_ble_eq_true rfl⟩) (gRecv.of hK rfl (hH.o8 hkc)) hH hK hS hl.1 rfl rfl (Nat.le_of_ble_eq_true rfl) dL_law_760 ⟨by show cells + 0 ≤ 600000; omega, by show slots + 0 ≤ 7302250; omega⟩ (fun H locs hH hS => ?_)
        refine lv_aload_n hx hb dL_law_763 rfl (lv_at hl 2 rfl) ?_
        obtain ⟨r3, h4, hf⟩ := gbind hf
        refine g_Vi (As := []) (rest := [.int (r1.2)]) ⟨hx, hb, hml, hown, hts⟩ (c8_wipe l w K r1.1 S r3 h4) (gcwV hts i8_wipe wd_896 rfl rfl ⟨Nat.le_of_ble_eq_true rfl, Nat.le_of_ble_eq_true rfl⟩) (gRecv.of hK rfl hH.ob) hH hK hS hl.1 rfl rfl (Nat.le_of_ble_eq_true rfl) dL_law_764 ⟨by show cells + 0 ≤ 600000; omega, by show slots + 0 ≤ 7302250; omega⟩ (fun H locs hH hS => ?_)
        have hg := gif hf
        refine W.widen (k := cells + 16) (n := slots + 575) (by omega) (by omega) ?_
        refine lv_icmp_eq (tgt := 844) hx hb dL_law_767 (by decide) (fun q => ?_) (fun q => ?_)
        · exact B844 _ _ _ _ _ _ hH hS (lv_sub hl [0, 1, 2, 3] rfl) hkc (hg.1 q)
        · exact absurd (Option.some.inj (hg.2 q)) (by decide)
      have hf := hg.2 q23
      clear hg
      have hg := gif hf
      by_cases q24 : v = 24
      · have hf := hg.1 q24
        refine lv_tableIn (off := 740) (tgt := 772) hx hb dL_law_32 (by rw [q24]; decide) (by rw [q24]; decide) (by rw [q24]; decide +kernel) (by decide) ?_
        unfold fL_24 at hf
        refine lv_aload_n hx hb dL_law_772 rfl (lv_at hl 1 rfl) ?_
        obtain ⟨r1, h2, hf⟩ := gbind hf
        refine g_Vi (As := []) (rest := []) ⟨hx, hb, hml, hown, hts⟩ (c7_fault l w K g S xa r1 h2 hkc) (gcwV hts i7_fault wd_900 rfl rfl ⟨Nat.le_of_ble_eq_true rfl, Nat.le_of_ble_eq_true rfl⟩) (gRecv.of hK rfl (hH.o8 hkc)) hH hK hS hl.1 rfl rfl (Nat.le_of_ble_eq_true rfl) dL_law_773 ⟨by show cells + 0 ≤ 600000; omega, by show slots + 0 ≤ 7302250; omega⟩ (fun H locs hH hS => ?_)
        refine lv_aload_n hx hb dL_law_776 rfl (lv_at hl 2 rfl) ?_
        obtain ⟨r3, h4, hf⟩ := gbind hf
        refine g_Vi (As := []) (rest := [.int (r1.2)]) ⟨hx, hb, hml, hown, hts⟩ (c8_fault l w K r1.1 S r3 h4) (gcwV hts i8_fault wd_904 rfl rfl ⟨Nat.le_of_ble_eq_true rfl, Nat.le_of_ble_eq_true rfl⟩) (gRecv.of hK rfl hH.ob) hH hK hS hl.1 rfl rfl (Nat.le_of_ble_eq_true rfl) dL_law_777 ⟨by show cells + 0 ≤ 600000; omega, by show slots + 0 ≤ 7302250; omega⟩ (fun H locs hH hS => ?_)
        have hg := gif hf
        refine W.widen (k := cells + 16) (n := slots + 575) (by omega) (by omega) ?_
        refine lv_icmp_eq (tgt := 844) hx hb dL_law_780 (by decide) (fun q => ?_) (fun q => ?_)
        · exact B844 _ _ _ _ _ _ hH hS (lv_sub hl [0, 1, 2, 3] rfl) hkc (hg.1 q)
        · exact absurd (Option.some.inj (hg.2 q)) (by decide)
      have hf := hg.2 q24
      clear hg
      have hg := gif hf
      by_cases q25 : v = 25
      · have hf := hg.1 q25
        refine lv_tableIn (off := 753) (tgt := 785) hx hb dL_law_32 (by rw [q25]; decide) (by rw [q25]; decide) (by rw [q25]; decide +kernel) (by decide) ?_
        unfold fL_25 at hf
        refine lv_aload_n hx hb dL_law_785 rfl (lv_at hl 1 rfl) ?_
        obtain ⟨r1, h2, hf⟩ := gbind hf
        refine g_Vi (As := []) (rest := []) ⟨hx, hb, hml, hown, hts⟩ (c7_undo l w K g S xa r1 h2 hkc) (gcwV hts i7_undo wd_908 rfl rfl ⟨Nat.le_of_ble_eq_true rfl, Nat.le_of_ble_eq_true rfl⟩) (gRecv.of hK rfl (hH.o8 hkc)) hH hK hS hl.1 rfl rfl (Nat.le_of_ble_eq_true rfl) dL_law_786 ⟨by show cells + 0 ≤ 600000; omega, by show slots + 0 ≤ 7302250; omega⟩ (fun H locs hH hS => ?_)
        refine lv_aload_n hx hb dL_law_789 rfl (lv_at hl 2 rfl) ?_
        obtain ⟨r3, h4, hf⟩ := gbind hf
        refine g_Vi (As := []) (rest := [.int (r1.2)]) ⟨hx, hb, hml, hown, hts⟩ (c8_undo l w K r1.1 S r3 h4) (gcwV hts i8_undo wd_916 rfl rfl ⟨Nat.le_of_ble_eq_true rfl, Nat.le_of_ble_eq_true rfl⟩) (gRecv.of hK rfl hH.ob) hH hK hS hl.1 rfl rfl (Nat.le_of_ble_eq_true rfl) dL_law_790 ⟨by show cells + 0 ≤ 600000; omega, by show slots + 0 ≤ 7302250; omega⟩ (fun H locs hH hS => ?_)
        have hg := gif hf
        refine W.widen (k := cells + 16) (n := slots + 575) (by omega) (by omega) ?_
        refine lv_icmp_eq (tgt := 844) hx hb dL_law_793 (by decide) (fun q => ?_) (fun q => ?_)
        · exact B844 _ _ _ _ _ _ hH hS (lv_sub hl [0, 1, 2, 3] rfl) hkc (hg.1 q)
        · exact absurd (Option.some.inj (hg.2 q)) (by decide)
      have hf := hg.2 q25
      clear hg
      have hg := gif hf
      by_cases q26 : v = 26
      · have hf := hg.1 q26
        refine lv_tableIn (off := 766) (tgt := 798) hx hb dL_law_32 (by rw [q26]; decide) (by rw [q26]; decide) (by rw [q26]; decide +kernel) (by decide) ?_
        unfold fL_26 at hf
        refine lv_aload_n hx hb dL_law_798 rfl (lv_at hl 1 rfl) ?_
        refine lv_aload_n hx hb dL_law_799 rfl (lv_at hl 0 rfl) ?_
        refine lv_iload_n hx hb dL_law_800 rfl (lv_at hl 3 rfl) ?_
        refine lv_iconst (v := 1) hx hb dL_law_801 (by decide) ?_
        refine lv_iadd hx hb dL_law_802 ?_
        obtain ⟨h1, hf⟩ := gd_some hf
        refine va_sld hx hb hX hbl hbA hS (gok_in h1) dL_law_803 ?_
        obtain ⟨r2, h3, hf⟩ := gbind hf
        refine g_Vi (As := [.int (xs (i + 1).toNatClampNeg)]) (rest := []) ⟨hx, hb, hml, hown, hts⟩ (c7_save l w K g S xa (xs (i + 1).toNatClampNeg) r2 h3 hkc) (gcwV hts i7_save wd_920 rfl rfl ⟨Nat.le_of_ble_eq_true rfl, Nat.le_of_ble_eq_true rfl⟩) (gRecv.of hK rfl (hH.o8 hkc)) hH hK hS hl.1 rfl rfl (Nat.le_of_ble_eq_true rfl) dL_law_804 ⟨by show cells + 16 ≤ 600000; omega, by show slots + 575 ≤ 7302250; omega⟩ (fun H locs hH hS => ?_)
        obtain ⟨h4, hf⟩ := gd_some hf
        have h4 := gk_obj h4
        refine lv_aload_n hx hb dL_law_807 rfl (lv_at hl 2 rfl) ?_
        refine lv_aload_n hx hb dL_law_808 rfl (lv_at hl 0 rfl) ?_
        refine lv_iload_n hx hb dL_law_809 rfl (lv_at hl 3 rfl) ?_
        refine lv_iconst (v := 1) hx hb dL_law_810 (by decide) ?_
        refine lv_iadd hx hb dL_law_811 ?_
        refine va_sld hx hb hX hbl hbA hS (gok_in h1) dL_law_812 ?_
        obtain ⟨r5, h6, hf⟩ := gbind hf
        refine g_Vi (As := [.int (xs (i + 1).toNatClampNeg)]) (rest := [.int (r2.2.2)]) ⟨hx, hb, hml, hown, hts⟩ (c8_save l w r2.1 r2.2.1 S (xs (i + 1).toNatClampNeg) r5 h6) (gcwV hts i8_save wd_924 rfl rfl ⟨Nat.le_of_ble_eq_true rfl, Nat.le_of_ble_eq_true rfl⟩) (gRecv.of hK rfl hH.ob) hH hK hS hl.1 rfl rfl (Nat.le_of_ble_eq_true rfl) dL_law_813 ⟨by show cells + 16 + 0 ≤ 600000; omega, by show slots + 575 + 0 ≤ 7302250; omega⟩ (fun H locs hH hS => ?_)
        have hg := gif hf
        refine W.widen (k := cells + 16) (n := slots + 575) (by omega) (by omega) ?_
        refine lv_icmp_eq (tgt := 844) hx hb dL_law_816 (by decide) (fun q => ?_) (fun q => ?_)
        · exact B844 _ _ _ _ _ _ hH hS (lv_sub hl [0, 1, 2, 3] rfl) h4 (hg.1 q)
        · exact absurd (Option.some.inj (hg.2 q)) (by decide)
      have hf := hg.2 q26
      clear hg
      have hg := gif hf
      by_cases q27 : v = 27
      · have hf := hg.1 q27
        refine lv_tableIn (off := 789) (tgt := 821) hx hb dL_law_32 (by rw [q27]; decide) (by rw [q27]; decide) (by rw [q27]; decide +kernel) (by decide) ?_
        unfold fL_27 at hf
        refine lv_aload_n hx hb dL_law_821 rfl (lv_at hl 1 rfl) ?_
        refine lv_aload_n hx hb dL_law_822 rfl (lv_at hl 0 rfl) ?_
        refine lv_iload_n hx hb dL_law_823 rfl (lv_at hl 3 rfl) ?_
        refine lv_iconst (v := 1) hx hb dL_law_824 (by decide) ?_
        refine lv_iadd hx hb dL_law_825 ?_
        obtain ⟨h1, hf⟩ := gd_some hf
        refine va_sld hx hb hX hbl hbA hS (gok_in h1) dL_law_826 ?_
        obtain ⟨r2, h3, hf⟩ := gbind hf
        refine g_Vi (As := [.int (xs (i + 1).toNatClampNeg)]) (rest := []) ⟨hx, hb, hml, hown, hts⟩ (c7_restore l w K g S xa (xs (i + 1).toNatClampNeg) r2 h3 hkc) (gcwV hts i7_restore wd_931 rfl rfl ⟨Nat.le_of_ble_eq_true rfl, Nat.le_of_ble_eq_true rfl⟩) (gRecv.of hK rfl (hH.o8 hkc)) hH hK hS hl.1 rfl rfl (Nat.le_of_ble_eq_true rfl) dL_law_827 ⟨by show cells + 0 ≤ 600000; omega, by show slots + 0 ≤ 7302250; omega⟩ (fun H locs hH hS => ?_)
        refine lv_aload_n hx hb dL_law_830 rfl (lv_at hl 2 rfl) ?_
        refine lv_aload_n hx hb dL_law_831 rfl (lv_at hl 0 rfl) ?_
        refine lv_iload_n hx hb dL_law_832 rfl (lv_at hl 3 rfl) ?_
        refine lv_iconst (v := 1) hx hb dL_law_833 (by decide) ?_
        refine lv_iadd hx hb dL_law_834 ?_
        refine va_sld hx hb hX hbl hbA hS (gok_in h1) dL_law_835 ?_
        obtain ⟨r4, h5, hf⟩ := gbind hf
        refine g_Vi (As := [.int (xs (i + 1).toNatClampNeg)]) (rest := [.int (r2.2)]) ⟨hx, hb, hml, hown, hts⟩ (c8_restore l w K r2.1 S (xs (i + 1).toNatClampNeg) r4 h5) (gcwV hts i8_restore wd_935 rfl rfl ⟨Nat.le_of_ble_eq_true rfl, Nat.le_of_ble_eq_true rfl⟩) (gRecv.of hK rfl hH.ob) hH hK hS hl.1 rfl rfl (Nat.le_of_ble_eq_true rfl) dL_law_836 ⟨by show cells + 0 ≤ 600000; omega, by show slots + 0 ≤ 7302250; omega⟩ (fun H locs hH hS => ?_)
        have hg := gif hf
        refine W.widen (k := cells + 16) (n := slots + 575) (by omega) (by omega) ?_
        refine lv_icmp_eq (tgt := 844) hx hb dL_law_839 (by decide) (fun q => ?_) (fun q => ?_)
        · exact B844 _ _ _ _ _ _ hH hS (lv_sub hl [0, 1, 2, 3] rfl) hkc (hg.1 q)
        · exact absurd (Option.some.inj (hg.2 q)) (by decide)
      have hf := hg.2 q27
      clear hg
      have n0 : v.toInt ≠ 0 := g_ne q0 (by decide)
      have n1 : v.toInt ≠ 1 := g_ne q1 (by decide)
      have n2 : v.toInt ≠ 2 := g_ne q2 (by decide)
      have n3 : v.toInt ≠ 3 := g_ne q3 (by decide)
      have n4 : v.toInt ≠ 4 := g_ne q4 (by decide)
      have n5 : v.toInt ≠ 5 := g_ne q5 (by decide)
      have n6 : v.toInt ≠ 6 := g_ne q6 (by decide)
      have n7 : v.toInt ≠ 7 := g_ne q7 (by decide)
      have n8 : v.toInt ≠ 8 := g_ne q8 (by decide)
      have n9 : v.toInt ≠ 9 := g_ne q9 (by decide)
      have n10 : v.toInt ≠ 10 := g_ne q10 (by decide)
      have n11 : v.toInt ≠ 11 := g_ne q11 (by decide)
      have n12 : v.toInt ≠ 12 := g_ne q12 (by decide)
      have n13 : v.toInt ≠ 13 := g_ne q13 (by decide)
      have n14 : v.toInt ≠ 14 := g_ne q14 (by decide)
      have n15 : v.toInt ≠ 15 := g_ne q15 (by decide)
      have n16 : v.toInt ≠ 16 := g_ne q16 (by decide)
      have n17 : v.toInt ≠ 17 := g_ne q17 (by decide)
      have n18 : v.toInt ≠ 18 := g_ne q18 (by decide)
      have n19 : v.toInt ≠ 19 := g_ne q19 (by decide)
      have n20 : v.toInt ≠ 20 := g_ne q20 (by decide)
      have n21 : v.toInt ≠ 21 := g_ne q21 (by decide)
      have n22 : v.toInt ≠ 22 := g_ne q22 (by decide)
      have n23 : v.toInt ≠ 23 := g_ne q23 (by decide)
      have n24 : v.toInt ≠ 24 := g_ne q24 (by decide)
      have n25 : v.toInt ≠ 25 := g_ne q25 (by decide)
      have n26 : v.toInt ≠ 26 := g_ne q26 (by decide)
      have n27 : v.toInt ≠ 27 := g_ne q27 (by decide)
      refine lv_tableOut (tgt := 844) hx hb dL_law_32 (by omega) (by decide) ?_
      refine W.widen (k := cells + 16) (n := slots + 575) (by omega) (by omega) ?_
      exact B844 _ _ _ _ _ _ hH hS (lv_sub hl [0, 1, 2, 3] rfl) hkc hf
