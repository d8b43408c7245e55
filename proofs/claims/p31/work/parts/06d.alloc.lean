/-! THE OLD WORLD AND NEW CELLS -/
section EXT
variable {w : GW} {K K' : GK} {g g' : GM} {S : GS} {H H1 : Heap} {o n z : Nat} {f : Nat → va_E}
theorem HR.old (hH : HR w (K.1, z) g S H) (hN : NX w o n f H1) (hq : ∀ q, q < o → H1[q]? = H[q]?) (hlt : ∀ a, gkd K a ≠ 0 → a < o) (hM : w.2.2.2 + 8 ≤ o) : HR w (K.1, o + n) g S H1 := by
  obtain ⟨h1, h2, h3, h4, h5, h6, h7⟩ := hH
  refine ⟨hN.1, fun a e he => (h2 a e he).kept (hq a (hlt a ?_)), fun k hk => (h3 k hk).kept (hq _ (by show w.2.2.2 + k < o; omega)), h4, by show _ ≤ o + n; omega, fun a ha => ⟨(h6 a ha).1, (h6 a ha).2.1, Nat.lt_of_lt_of_le (hlt a ha) (Nat.le_add_right o n)⟩, h7⟩
  intro h0
  unfold gcell at he
  rw [show gkd (K.1, o + n) a = 0 from h0] at he
  cases he
theorem gsubs_ne {k n : Nat} : ∀ t ∈ gsubs k n, t.2.1 ≠ 0 := by
  intro t ht
  have h : (gsubs k n).all (fun t => t.2.1 != 0) = true := by unfold gsubs; split <;> rfl
  have := List.all_eq_true.mp h t ht
  simpa using this
theorem gcell_eq {a : Nat} (hk : K'.1 a = K.1 a) (h1 : g'.1 a = g.1 a) (h2 : g'.2 a = g.2 a) : gcell w K' g' a = gcell w K g a := by
  unfold gcell go1 go2 go3 go4 go5 go6 go7 go8 gI gkd gkn
  rw [hk, h1, h2]
theorem HR.ext (hH : HR w (K.1, z) g S H) (hN : NX w o n f H) (hlt : ∀ a, gkd K a ≠ 0 → a < o) (hM : w.2.2.2 + 8 ≤ o) (hKo : ∀ q, q < o → K'.1 q = K.1 q) (hK2 : K'.2 = o + n) (hKn : ∀ q, o + n ≤ q → gkd K' q = 0) (hgo : ∀ q, q < o → g'.1 q = g.1 q ∧ g'.2 q = g.2 q)
    (hcell : ∀ i, i < n → gcell w K' g' (o + i) = some (f i)) (hsub : ∀ i, i < n → ∀ t ∈ gsubs (gkd K' (o + i)) (gkn K' (o + i)), K'.1 (o + i + t.1) = t.2) : HR w K' g' S H := by
  obtain ⟨h1, h2, h3, h4, h5, h6, h7⟩ := hH
  refine ⟨hN.1.trans hK2.symm, fun a e he => ?_, h3, h4, by omega, fun a ha => ?_, fun a t ht => ?_⟩
  · rcases Nat.lt_or_ge a o with h | h
    · refine h2 a e ?_
      rw [← he]
      exact (gcell_eq (K := (K.1, z)) (hKo a h) (hgo a h).1 (hgo a h).2).symm
    · rcases Nat.lt_or_ge a (o + n) with h' | h'
      · have hc := hcell (a - o) (by omega)
        rw [show o + (a - o) = a by omega, he] at hc
        cases hc
        have := hN.2 (a - o) (by omega)
        rwa [show o + (a - o) = a by omega] at this
      · unfold gcell at he
        rw [hKn a h'] at he
        cases he
  · rcases Nat.lt_or_ge a o with h | h
    · have ha' : gkd K a ≠ 0 := by
        unfold gkd at ha ⊢
        rwa [hKo a h] at ha
      exact ⟨(h6 a ha').1, (h6 a ha').2.1, by omega⟩
    · rcases Nat.lt_or_ge a (o + n) with h' | h'
      · exact ⟨by omega, by omega, by omega⟩
      · exact absurd (hKn a h') ha
  · rcases Nat.lt_or_ge a o with h | h
    · have e1 : gkd K' a = gkd K a := by unfold gkd; rw [hKo a h]
      have e2 : gkn K' a = gkn K a := by unfold gkn; rw [hKo a h]
      rw [e1, e2] at ht
      have h8 := h7 a t ht
      have hlt' : a + t.1 < o := hlt (a + t.1) (by
        unfold gkd
        rw [show K.1 (a + t.1) = t.2 from h8]
        exact gsubs_ne t ht)
      rw [hKo _ hlt']
      exact h8
    · rcases Nat.lt_or_ge a (o + n) with h' | h'
      · have := hsub (a - o) (by omega) t (by rw [show o + (a - o) = a by omega]; exact ht)
        rwa [show o + (a - o) = a by omega] at this
      · rw [hKn a h'] at ht
        exact absurd ht List.not_mem_nil
end EXT
section XCOPY
variable {p : Program} {l : Launch} {e : Env} {R : Room} {s : State} {m : MethodId} {args : Array Value} {below : List Frame} {meth : Method} {c : Code} {H : Heap} {locs : List Loc} {cells slots : Nat} {Q : State → Prop}
variable {cc : ByteArray} {pc index : Nat} {own : String} {ls : Array Slot} {rest : List Value} {o nn : Nat} {w : GW} {f : Nat → va_E} {A : Nat → Prop}
theorem x_copy (hexec : p.tables.exec = Jvm.exec) (hb : c.code = cc) (hml : c.maxLocals = ls.size) (hown : s.vm.findClass own = some m.cls) (hlink : (Cond.methodLink own index arraycopyName).before args s = true) (hnat : (Cond.native arraycopyName).before args s = true) (hstat : (Cond.static arraycopyName).before args s = true) (hini : (Cond.initialized "java/lang/System").before args s = true)
    (hK : KN w s) (hN : NX w o nn f H) (hS : va_S A s.heap H locs) (hA : ∀ q, o ≤ q → A q) (i : Nat) (hi : i < nn) {t a0 n0 n1 : Nat} {ty : FieldType} {f0 h : Nat → Int32} (hsrc : va_at w.1 vwCl (a0, .inl (w.2.1 t, n0, .inl f0)) H) (hfi : f i = .inl (w.2.1 t, n1, .inl h)) (ht : (gtys w)[t]? = some (w.2.1 t, ty)) (hprim : refKind ty = false)
    {sp dp n : Int32} (h1 : ¬ sp < 0) (h2 : ¬ dp < 0) (h3 : ¬ n < 0) (h4 : sp.toNatClampNeg + n.toNatClampNeg ≤ n0) (h5 : dp.toNatClampNeg + n.toNatClampNeg ≤ n1) (hfit : ∀ i, i < n.toNatClampNeg → fits ty (.int (f0 (sp.toNatClampNeg + i))) = true)
    (hframes : 1 ≤ R.frames) (hlocals : (rest.map fun v => v.category).sum + (nativeFrameWords "java/lang/System" "arraycopy" 5 + 11) ≤ R.locals) (hdg : decode cc pc = .ok (.invokestatic index, 3))
    (kk : ∀ (H1 : Heap) (locs1 : List Loc), NX w o nn (va_up f i (.inl (w.2.1 t, n1, .inl (va_cpy f0 h sp.toNatClampNeg dp.toNatClampNeg n.toNatClampNeg)))) H1 → (∀ q, q < o → H1[q]? = H[q]?) → va_S A s.heap H1 locs1 → W p l e R s m args below meth c H1 locs1 cells slots Q (F0 m (pc + 3) ls rest)) : W p l e R s m args below meth c H locs cells slots Q (F0 m pc ls (.int n :: .int dp :: .ref (o + i) :: .int sp :: .ref a0 :: rest)) := by
  have hat := hN.2 i hi
  rw [hfi] at hat
  refine w_copy hexec hb hml hown hlink hnat hstat hini (hK.1.2 t _ ht).1 hS hsrc hat (hA _ (Nat.le_add_right o i)) hprim h1 h2 h3 h4 h5 hfit hframes hlocals hdg (fun H1 locs1 e1 hz oq hS1 => kk H1 locs1 (hN.upd ?_ hz oq) (x_fr oq) hS1)
  exact e1
end XCOPY
