/-! THE PURE PART, a: small numbers, guards, memories -/
theorem pu_lit (n : Nat) : (OfNat.ofNat n : Int32) = nI n := rfl
theorem pu_gl {α β : Type} (x : α) (f : α → β) : gl x f = f x := rfl
theorem pu_gd {α : Type} (x : Option α) : gd true x = x := rfl
theorem pu_gd0 {α : Type} (x : Option α) : gd false x = none := rfl
theorem pu_bs {α β : Type} (x : α) (f : α → Option β) : (some x).bind f = f x := rfl
theorem pu_bn {α β : Type} (f : α → Option β) : (none : Option α).bind f = none := rfl
theorem pu_os {β : Type} (t : Nat) (A : Option β) (B : Nat → Option β) : gopt (some t) A B = B t := rfl
theorem pu_on {β : Type} (A : Option β) (B : Nat → Option β) : gopt none A B = A := rfl
/-- running a program text -/
theorem EV : (∀ (x : Int32) {β : Type} (f : Int32 → β), gl x f = f x) ∧ (∀ (x : GM) {β : Type} (f : GM → β), gl x f = f x) ∧ (∀ (x : GS) {β : Type} (f : GS → β), gl x f = f x) ∧ (∀ {α : Type} (x : Option α), gd true x = x) ∧ (∀ {α β : Type} (x : α) (f : α → Option β), (some x).bind f = f x) ∧ (∀ {β : Type} (t : Nat) (A : Option β) (B : Nat → Option β), gopt (some t) A B = B t) ∧ (∀ {β : Type} (A : Option β) (B : Nat → Option β), gopt none A B = A) :=
  ⟨fun _ _ _ => rfl, fun _ _ _ => rfl, fun _ _ _ => rfl, fun _ => rfl, fun _ _ => rfl, fun _ _ _ => rfl, fun _ _ => rfl⟩
theorem pu_gok {i N : Nat} (h : i < N) (hN : N < 2 ^ 31) : gok (nI i) N = true := by
  have := nI_toInt (n := i) (by omega)
  unfold gok
  rw [this]
  exact decide_eq_true ⟨by omega, by omega⟩
theorem pu_gok0 {N : Nat} (h : 0 < N) (hN : N < 2 ^ 31) : gok 0 N = true := pu_gok (i := 0) h hN
theorem pu_lt {a b : Nat} (ha : a < 2 ^ 31) (hb : b < 2 ^ 31) : (nI a < nI b) = (a < b) := propext (nI_ltI ha hb)
theorem pu_le {a b : Nat} (ha : a < 2 ^ 31) (hb : b < 2 ^ 31) : (nI a ≤ nI b) = (a ≤ b) := propext (nI_leI ha hb)
theorem pu_eq {a b : Nat} (ha : a < 2 ^ 31) (hb : b < 2 ^ 31) : (nI a = nI b) = (a = b) := propext (nI_eq ha hb)
theorem pu_cl {n : Nat} (h : n < 2 ^ 31) : (nI n).toNatClampNeg = n := nI_clamp h
theorem pu_m1 {n : Nat} (h : 0 < n) : nI n + (-1) = nI (n - 1) := by
  obtain ⟨k, rfl⟩ : ∃ k, n = k + 1 := ⟨n - 1, by omega⟩
  exact pk_m1 k
theorem pu_m1' {n : Nat} (h : 0 < n) : nI n + (-nI 1) = nI (n - 1) := pu_m1 h
theorem pu_neg {n : Nat} (h : n < 2 ^ 31) (k : Nat) (h0 : 0 < k) (hk : k < 2 ^ 31) : (nI n = -nI k) = False := by
  apply eq_false
  intro e
  have h1 := congrArg Int32.toInt e
  rw [nI_toInt h, Int32.toInt_neg, nI_toInt hk] at h1
  have : (-(k : Int)).bmod (2 ^ 32) = -(k : Int) := Int.bmod_eq_of_le (by omega) (by omega)
  rw [this] at h1
  omega
/-- numbers -/
theorem NUM : (∀ a b : Nat, nI a + nI b = nI (a + b)) ∧ (∀ a b : Nat, nI a * nI b = nI (a * b)) := ⟨nI_add, pk_mul⟩
/-! memories -/
theorem pu_up {α : Type} (f : Nat → α) (k j : Nat) (x : α) : va_up f k x j = if j = k then x else f j := rfl
theorem pu_upd (f : Nat → Int32) (k j : Nat) (x : Int32) : upd f k x j = if j = k then x else f j := rfl
theorem gI_I (g : GM) (a k b j : Nat) (v : Int32) : gI (gsI g a k v) b j = if b = a ∧ j = k then v else gI g b j := by
  unfold gI gsI
  show va_up g.1 a (upd (g.1 a) k v) b j = _
  rw [pu_up]
  by_cases hb : b = a
  · subst hb
    rw [if_pos rfl, pu_upd]
    by_cases hj : j = k <;> simp [hj]
  · rw [if_neg hb, if_neg (fun h => hb h.1)]
theorem gI_R (g : GM) (a k b j : Nat) (v : Option Nat) : gI (gsR g a k v) b j = gI g b j := rfl
theorem gI_C (g : GM) (a b j : Nat) (f : Nat → Int32) : gI (gsC g a f) b j = if b = a then f j else gI g b j := by
  unfold gI gsC
  show va_up g.1 a f b j = _
  rw [pu_up]
  by_cases hb : b = a <;> simp [hb]
theorem gR_I (g : GM) (a k b j : Nat) (v : Int32) : gR (gsI g a k v) b j = gR g b j := rfl
theorem gR_C (g : GM) (a b j : Nat) (f : Nat → Int32) : gR (gsC g a f) b j = gR g b j := rfl
theorem gR_R (g : GM) (a k b j : Nat) (v : Option Nat) : gR (gsR g a k v) b j = if b = a ∧ j = k then v else gR g b j := by
  unfold gR gsR
  show va_up g.2 a (va_up (g.2 a) k v) b j = _
  rw [pu_up]
  by_cases hb : b = a
  · subst hb
    rw [if_pos rfl, pu_up]
    by_cases hj : j = k <;> simp [hj]
  · rw [if_neg hb, if_neg (fun h => hb h.1)]
/-- two memories alike outside a set of addresses -/
def AG (P : Nat → Prop) (g g' : GM) : Prop := ∀ q, ¬ P q → g'.1 q = g.1 q ∧ g'.2 q = g.2 q
theorem AG.rf {P : Nat → Prop} {g : GM} : AG P g g := fun _ _ => ⟨rfl, rfl⟩
theorem AG.tr {P : Nat → Prop} {g g1 g2 : GM} (h : AG P g g1) (h2 : AG P g1 g2) : AG P g g2 := fun q hq => ⟨(h2 q hq).1.trans (h q hq).1, (h2 q hq).2.trans (h q hq).2⟩
theorem AG.mo {P Q : Nat → Prop} {g g1 : GM} (h : AG P g g1) (hpq : ∀ q, P q → Q q) : AG Q g g1 := fun q hq => h q (fun z => hq (hpq q z))
theorem AG.I {P : Nat → Prop} {g : GM} {a k : Nat} {v : Int32} (h : P a) : AG P g (gsI g a k v) := fun q hq => ⟨by
  show va_up g.1 a _ q = _
  rw [pu_up, if_neg (fun (e : q = a) => hq (e ▸ h))], rfl⟩
theorem AG.R {P : Nat → Prop} {g : GM} {a k : Nat} {v : Option Nat} (h : P a) : AG P g (gsR g a k v) := fun q hq => ⟨rfl, by
  show va_up g.2 a _ q = _
  rw [pu_up, if_neg (fun (e : q = a) => hq (e ▸ h))]⟩
theorem AG.C {P : Nat → Prop} {g : GM} {a : Nat} {f : Nat → Int32} (h : P a) : AG P g (gsC g a f) := fun q hq => ⟨by
  show va_up g.1 a _ q = _
  rw [pu_up, if_neg (fun (e : q = a) => hq (e ▸ h))], rfl⟩
theorem AG.ai {P : Nat → Prop} {g g1 : GM} {a k : Nat} {v : Int32} (h : AG P g g1) (hp : P a) : AG P g (gsI g1 a k v) := h.tr (AG.I hp)
theorem AG.ar {P : Nat → Prop} {g g1 : GM} {a k : Nat} {v : Option Nat} (h : AG P g g1) (hp : P a) : AG P g (gsR g1 a k v) := h.tr (AG.R hp)
theorem AG.ac {P : Nat → Prop} {g g1 : GM} {a : Nat} {f : Nat → Int32} (h : AG P g g1) (hp : P a) : AG P g (gsC g1 a f) := h.tr (AG.C hp)
theorem AG.i {P : Nat → Prop} {g g' : GM} (h : AG P g g') {q : Nat} (hq : ¬ P q) (k : Nat) : gI g' q k = gI g q k := congrFun (h q hq).1 k
theorem AG.r {P : Nat → Prop} {g g' : GM} (h : AG P g g') {q : Nat} (hq : ¬ P q) (k : Nat) : gR g' q k = gR g q k := congrFun (h q hq).2 k
theorem ss_1 (S : GS) (k j : Nat) (v : Int32) : ssI S k j v k = upd (S k) j v := if_pos rfl
theorem ss_n (S : GS) (k j i : Nat) (v : Int32) (h : i ≠ k) : ssI S k j v i = S i := if_neg h
theorem ss_at (S : GS) (k j i l : Nat) (v : Int32) : ssI S k j v i l = if i = k ∧ l = j then v else S i l := by
  unfold ssI
  rw [pu_up]
  by_cases hi : i = k
  · subst hi
    rw [if_pos rfl, pu_upd]
    by_cases hl : l = j <;> simp [hl]
  · rw [if_neg hi, if_neg (fun h => hi h.1)]
/-! the reference's row -/
/-- a state with another row -/
def rw1 (S : GS) (s : Nat → Int32) : GS := va_up S 1 s
theorem rw1_1 (S : GS) (s : Nat → Int32) : rw1 S s 1 = s := by unfold rw1 va_up; exact if_pos rfl
theorem rw1_n (S : GS) (s : Nat → Int32) {i : Nat} (h : i ≠ 1) : rw1 S s i = S i := by unfold rw1 va_up; exact if_neg h
theorem rw1_self (S : GS) : rw1 S (S 1) = S := by
  funext i
  by_cases h : i = 1
  · rw [h, rw1_1]
  · rw [rw1_n _ _ h]
theorem rw1_rw1 (S : GS) (s s' : Nat → Int32) : rw1 (rw1 S s) s' = rw1 S s' := by
  funext i
  by_cases h : i = 1
  · rw [h, rw1_1, rw1_1]
  · rw [rw1_n _ _ h, rw1_n _ _ h, rw1_n _ _ h]
theorem ss_rw (S : GS) (s : Nat → Int32) (j : Nat) (v : Int32) : ssI (rw1 S s) 1 j v = rw1 S (upd s j v) := by
  funext i
  by_cases h : i = 1
  · rw [h, ss_1, rw1_1, rw1_1]
  · rw [ss_n _ _ _ _ _ h, rw1_n _ _ h, rw1_n _ _ h]
theorem tst1 (S : GS) (s : Nat → Int32) (d k : Nat) (hd : 1 ≤ d) (h9 : d ≤ 9) (hk : k < 92) (h3 : s 3 = nI d) : f8_onTop (rw1 S s) (nI k) = some (s (1253 + 92 * (d - 1) + k)) := by
  unfold f8_onTop f8_frame
  simp (disch := omega) only [EV, NUM, pu_lit, rw1_1, pu_gok, pu_cl, h3, pk_sub, Nat.sub_zero]
