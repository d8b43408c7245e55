/-! THE ABSTRACT MEMORY of the class (ints by address and place, references by address and place, kinds) and of the reference (rows of ints) -/
abbrev GM : Type := (Nat → Nat → Int32) × (Nat → Nat → Option Nat)
abbrev GK : Type := (Nat → Nat × Nat) × Nat
abbrev GS : Type := Nat → Nat → Int32
abbrev GW : Type := va_G × (Nat → ClassId) × Nat × Nat
def gI (g : GM) (a k : Nat) : Int32 := g.1 a k
def gR (g : GM) (a k : Nat) : Option Nat := g.2 a k
def gsI (g : GM) (a k : Nat) (v : Int32) : GM := (va_up g.1 a (upd (g.1 a) k v), g.2)
def gsR (g : GM) (a k : Nat) (v : Option Nat) : GM := (g.1, va_up g.2 a (va_up (g.2 a) k v))
def gsC (g : GM) (a : Nat) (f : Nat → Int32) : GM := (va_up g.1 a f, g.2)
def ssI (S : GS) (k j : Nat) (v : Int32) : GS := va_up S k (upd (S k) j v)
def gkd (K : GK) (a : Nat) : Nat := (K.1 a).1
def gkn (K : GK) (a : Nat) : Nat := (K.1 a).2
def gok (i : Int32) (n : Nat) : Bool := decide (0 ≤ i.toInt ∧ i.toInt < n)
theorem gok_in {i : Int32} {n : Nat} (h : gok i n = true) : vp_in i n := vp_in_iff.mpr (of_decide_eq_true h)
/-- a guard -/
def gd {α : Type} (c : Bool) (x : Option α) : Option α := match c with
  | true => x
  | false => none
theorem gd_some {α : Type} {c : Bool} {x : Option α} {r : α} (h : gd c x = some r) : c = true ∧ x = some r := by
  cases c with
  | true => exact ⟨rfl, h⟩
  | false => cases h
theorem gbind {α β : Type} {x : Option α} {f : α → Option β} {r : β} (h : x.bind f = some r) : ∃ v, x = some v ∧ f v = some r := Option.bind_eq_some_iff.mp h
theorem gif {α : Type} {c : Prop} [Decidable c] {x y : Option α} {r : α} (h : (if c then x else y) = some r) : (c → x = some r) ∧ (¬ c → y = some r) :=
  ⟨fun hc => by rw [if_pos hc] at h; exact h, fun hc => by rw [if_neg hc] at h; exact h⟩
/-- what lies behind an object of a kind: (how far, kind, length) -/
def gsubs (k n : Nat) : List (Nat × Nat × Nat) := match k with
  | 1 => [(1, 10, 9), (2, 10, 9), (3, 10, 9), (4, 10, 36), (5, 10, 36), (6, 13, 9)]
  | 2 => [(1, 11, n), (2, 10, n), (3, 10, n), (4, 10, n), (5, 10, n)]
  | 3 => [(1, 10, 10), (2, 10, 60)]
  | 4 => [(1, 14, 6)]
  | 5 => [(1, 13, 10), (2, 10, 10), (3, 10, 3), (4, 10, 6), (5, 10, 6), (6, 10, 6), (7, 10, 6), (8, 12, 400), (9, 1, 0)]
  | 6 => [(1, 11, 80)]
  | 7 => [(1, 11, 80), (2, 10, 80), (3, 10, 80), (4, 10, 80), (5, 10, 80), (6, 10, 3)]
  | 8 => [(1, 6, 0), (3, 7, 0), (10, 5, 0), (26, 5, 0), (42, 4, 0), (140, 14, 2), (141, 3, 0)]
  | _ => []
abbrev go1 (g : GM) (a : Nat) : List Value := [.ref (a + 1), .ref (a + 2), .ref (a + 3), .ref (a + 4), .ref (a + 5), .ref (a + 6), .int (gI g a 6)]
abbrev go2 (g : GM) (a : Nat) : List Value := [.int (gI g a 0), .int (gI g a 1), .int (gI g a 2), .int (gI g a 3), .ref (a + 1), .ref (a + 2), .ref (a + 3), .ref (a + 4), .ref (a + 5)]
abbrev go3 (_ : GM) (a : Nat) : List Value := [.ref (a + 1), .ref (a + 2)]
abbrev go4 (g : GM) (a : Nat) : List Value := [.ref (a + 1), .int (gI g a 1)]
abbrev go5 (g : GM) (a : Nat) : List Value := [.ref (a + 1), .ref (a + 2), .ref (a + 3), .ref (a + 4), .ref (a + 5), .ref (a + 6), .ref (a + 7), .ref (a + 8), .ref (a + 9), .int (gI g a 9), .int (gI g a 10), .int (gI g a 11), .int (gI g a 12)]
abbrev go6 (g : GM) (a : Nat) : List Value := [.ref (a + 1), .int (gI g a 1)]
abbrev go7 (g : GM) (a : Nat) : List Value := [.ref (a + 1), .ref (a + 2), .ref (a + 3), .ref (a + 4), .ref (a + 5), .int (gI g a 5), .int (gI g a 6), .int (gI g a 7), .int (gI g a 8), .ref (a + 6), .int (gI g a 10), .int (gI g a 11), .int (gI g a 12)]
abbrev go8 (_ : GM) (a : Nat) : List Value := [.ref (a + 1), .ref (a + 3), .ref (a + 10), .ref (a + 26), .ref (a + 42), .ref (a + 140), .ref (a + 141)]
def gcell (w : GW) (K : GK) (g : GM) (a : Nat) : Option va_E := match gkd K a with
  | 1 => some (.inr (0, go1 g a))
  | 2 => some (.inr (1, go2 g a))
  | 3 => some (.inr (2, go3 g a))
  | 4 => some (.inr (3, go4 g a))
  | 5 => some (.inr (4, go5 g a))
  | 6 => some (.inr (5, go6 g a))
  | 7 => some (.inr (6, go7 g a))
  | 8 => some (.inr (7, go8 g a))
  | 10 => some (.inl (w.2.1 0, gkn K a, .inl (g.1 a)))
  | 11 => some (.inl (w.2.1 1, gkn K a, .inl (g.1 a)))
  | 12 => some (.inl (w.2.1 2, gkn K a, .inl (g.1 a)))
  | 13 => some (.inl (w.2.1 3, gkn K a, .inr (.inr (.inr (.inr (g.2 a))))))
  | 14 => some (.inl (w.2.1 4, gkn K a, .inr (.inr (.inr (.inr (g.2 a))))))
  | _ => none
/-- the law's rows: q t x n f p g c -/
abbrev gmlen : Nat → Nat := fun k => match k with
  | 0 => 10 | 1 => 24 | 2 => 30 | 3 => 10 | 4 => 54 | 5 => 54 | 6 => 54 | _ => 40
def gmcell (w : GW) (S : GS) (k : Nat) : va_E := .inl (w.2.1 0, gmlen k, .inl (S k))
abbrev gtys (w : GW) : List (ClassId × FieldType) := [(w.2.1 0, .int), (w.2.1 1, .char), (w.2.1 2, .byte), (w.2.1 3, .object "CallingLooms$CardText"), (w.2.1 4, .object "CallingLooms$Loom")]
/-- the layout: what lies where -/
def LY (w : GW) (K : GK) : Prop := w.2.2.1 ≤ w.2.2.2 ∧ w.2.2.2 + 8 ≤ K.2 ∧ (∀ a, gkd K a ≠ 0 → w.2.2.1 ≤ a ∧ (a < w.2.2.2 ∨ w.2.2.2 + 8 ≤ a) ∧ a < K.2) ∧ ∀ a, ∀ t ∈ gsubs (gkd K a) (gkn K a), K.1 (a + t.1) = t.2
def HR (w : GW) (K : GK) (g : GM) (S : GS) (H : Heap) : Prop :=
  H.size = K.2 ∧ (∀ a e, gcell w K g a = some e → va_at w.1 vwCl (a, e) H) ∧ (∀ k, k < 8 → va_at w.1 vwCl (w.2.2.2 + k, gmcell w S k) H) ∧ LY w K
abbrev KR (w : GW) (s : State) : Prop := va_K w.1 vwCl (gtys w) s
/-- the cells that a method may change -/
abbrev FR (w : GW) : Nat → Prop := fun q => w.2.2.1 ≤ q
theorem one_P {D : va_G} {cl : List vw_C} {H : Heap} {a : Nat} {e : va_E} (h : va_at D cl (a, e) H) : va_P D cl [(a, e)] H := by
  intro k q hk
  have hz : k < 1 := (List.getElem?_eq_some_iff.mp hk).1
  rw [show k = 0 by omega] at hk
  cases hk
  exact h
section WORLD
variable {w : GW} {K : GK} {g : GM} {S : GS} {H : Heap} {a n : Nat}
theorem HR.sub (hH : HR w K g S H) {k : Nat} (h : gkd K a = k) (i : Nat) {t : Nat × Nat × Nat} (ht : (gsubs k (gkn K a))[i]? = some t) : K.1 (a + t.1) = t.2 :=
  hH.2.2.2.2.2.2 a t (List.mem_of_getElem? (by rw [h]; exact ht))
theorem HR.o1 (hH : HR w K g S H) (h : gkd K a = 1) : va_at w.1 vwCl (a, .inr (0, go1 g a)) H := hH.2.1 a _ (by unfold gcell; rw [h]; rfl)
theorem HR.o2 (hH : HR w K g S H) (h : gkd K a = 2) : va_at w.1 vwCl (a, .inr (1, go2 g a)) H := hH.2.1 a _ (by unfold gcell; rw [h]; rfl)
theorem HR.o3 (hH : HR w K g S H) (h : gkd K a = 3) : va_at w.1 vwCl (a, .inr (2, go3 g a)) H := hH.2.1 a _ (by unfold gcell; rw [h]; rfl)
theorem HR.o4 (hH : HR w K g S H) (h : gkd K a = 4) : va_at w.1 vwCl (a, .inr (3, go4 g a)) H := hH.2.1 a _ (by unfold gcell; rw [h]; rfl)
theorem HR.o5 (hH : HR w K g S H) (h : gkd K a = 5) : va_at w.1 vwCl (a, .inr (4, go5 g a)) H := hH.2.1 a _ (by unfold gcell; rw [h]; rfl)
theorem HR.o6 (hH : HR w K g S H) (h : gkd K a = 6) : va_at w.1 vwCl (a, .inr (5, go6 g a)) H := hH.2.1 a _ (by unfold gcell; rw [h]; rfl)
theorem HR.o7 (hH : HR w K g S H) (h : gkd K a = 7) : va_at w.1 vwCl (a, .inr (6, go7 g a)) H := hH.2.1 a _ (by unfold gcell; rw [h]; rfl)
theorem HR.o8 (hH : HR w K g S H) (h : gkd K a = 8) : va_at w.1 vwCl (a, .inr (7, go8 g a)) H := hH.2.1 a _ (by unfold gcell; rw [h]; rfl)
theorem HR.r10 (hH : HR w K g S H) (h : K.1 a = (10, n)) : va_at w.1 vwCl (a, .inl (w.2.1 0, n, .inl (g.1 a))) H := hH.2.1 a _ (by unfold gcell gkd gkn; rw [h]; rfl)
theorem HR.r11 (hH : HR w K g S H) (h : K.1 a = (11, n)) : va_at w.1 vwCl (a, .inl (w.2.1 1, n, .inl (g.1 a))) H := hH.2.1 a _ (by unfold gcell gkd gkn; rw [h]; rfl)
theorem HR.r12 (hH : HR w K g S H) (h : K.1 a = (12, n)) : va_at w.1 vwCl (a, .inl (w.2.1 2, n, .inl (g.1 a))) H := hH.2.1 a _ (by unfold gcell gkd gkn; rw [h]; rfl)
theorem HR.r13 (hH : HR w K g S H) (h : K.1 a = (13, n)) : va_at w.1 vwCl (a, .inl (w.2.1 3, n, .inr (.inr (.inr (.inr (g.2 a)))))) H := hH.2.1 a _ (by unfold gcell gkd gkn; rw [h]; rfl)
theorem HR.r14 (hH : HR w K g S H) (h : K.1 a = (14, n)) : va_at w.1 vwCl (a, .inl (w.2.1 4, n, .inr (.inr (.inr (.inr (g.2 a)))))) H := hH.2.1 a _ (by unfold gcell gkd gkn; rw [h]; rfl)
theorem HR.rw (hH : HR w K g S H) (k : Nat) (h : k < 8) : va_at w.1 vwCl (w.2.2.2 + k, .inl (w.2.1 0, gmlen k, .inl (S k))) H := hH.2.2.1 k h
/-- one cell of the class's changes -/
theorem HR.upd {g' : GM} {H1 : Heap} {e : va_E} (hH : HR w K g S H) (ha : gkd K a ≠ 0) (hne : ∀ b, b ≠ a → gcell w K g' b = gcell w K g b) (he : gcell w K g' a = some e) (hat : va_at w.1 vwCl (a, e) H1) (hz : H1.size = H.size) (hq : ∀ q, q ≠ a → H1[q]? = H[q]?) : HR w K g' S H1 := by
  obtain ⟨h1, h2, h3, h4⟩ := hH
  refine ⟨hz.trans h1, fun b x hx => ?_, fun k hk => (h3 k hk).kept (hq _ ?_), h4⟩
  · by_cases hb : b = a
    · subst hb
      rw [he] at hx
      cases hx
      exact hat
    · rw [hne b hb] at hx
      exact (h2 b x hx).kept (hq b hb)
  · have := (h4.2.2.1 a ha).2.1
    show w.2.2.2 + k ≠ a
    omega
theorem gne_I {g : GM} {k : Nat} {v : Int32} : ∀ b, b ≠ a → gcell w K (gsI g a k v) b = gcell w K g b := by
  intro b hb
  have e : (gsI g a k v).1 b = g.1 b := by simp [gsI, va_up, hb]
  unfold gcell go1 go2 go3 go4 go5 go6 go7 go8 gI
  rw [e]
  rfl
theorem gne_C {g : GM} {f : Nat → Int32} : ∀ b, b ≠ a → gcell w K (gsC g a f) b = gcell w K g b := by
  intro b hb
  have e : (gsC g a f).1 b = g.1 b := by simp [gsC, va_up, hb]
  unfold gcell go1 go2 go3 go4 go5 go6 go7 go8 gI
  rw [e]
  rfl
theorem gne_R {g : GM} {k : Nat} {v : Option Nat} : ∀ b, b ≠ a → gcell w K (gsR g a k v) b = gcell w K g b := by
  intro b hb
  have e : (gsR g a k v).2 b = g.2 b := by simp [gsR, va_up, hb]
  unfold gcell go1 go2 go3 go4 go5 go6 go7 go8 gI
  rw [e]
  rfl
/-- one cell of the reference's changes -/
theorem HR.updM {S' : GS} {H1 : Heap} {k : Nat} (hH : HR w K g S H) (hk : k < 8) (hne : ∀ j, j < 8 → j ≠ k → gmcell w S' j = gmcell w S j) (hat : va_at w.1 vwCl (w.2.2.2 + k, gmcell w S' k) H1) (hz : H1.size = H.size) (hq : ∀ q, q ≠ w.2.2.2 + k → H1[q]? = H[q]?) : HR w K g S' H1 := by
  obtain ⟨h1, h2, h3, h4⟩ := hH
  refine ⟨hz.trans h1, fun b x hx => (h2 b x hx).kept (hq b ?_), fun j hj => ?_, h4⟩
  · have hb : gkd K b ≠ 0 := by
      intro h0
      unfold gcell at hx
      rw [h0] at hx
      cases hx
    have := (h4.2.2.1 b hb).2.1
    omega
  · by_cases hjk : j = k
    · subst hjk
      exact hat
    · rw [hne j hj hjk]
      exact (h3 j hj).kept (hq _ (by show w.2.2.2 + j ≠ _; omega))
theorem gmne {j k i : Nat} {v : Int32} (hjk : j ≠ k) : gmcell w (ssI S k i v) j = gmcell w S j := by
  have e : (ssI S k i v) j = S j := by simp [ssI, va_up, hjk]
  show (Sum.inl (w.2.1 0, gmlen j, Sum.inl ((ssI S k i v) j)) : va_E) = Sum.inl (w.2.1 0, gmlen j, Sum.inl (S j))
  rw [e]
end WORLD
