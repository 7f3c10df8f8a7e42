/-! ===== the class's memory ===== -/
/-- ints; rows; references; the draft; the draws; worlds, scripts' lengths and scripts, by their addresses -/
abbrev CS : Type := (Nat → Int32) × (Nat → Nat → Int32) × (Nat → Nat → Option Nat) × Nat × Int64 × (Nat → Nat → Int32) × (Nat → Int32) × (Nat → Nat → Int32)
abbrev csI (c : CS) : Nat → Int32 := c.1
abbrev csR (c : CS) : Nat → Nat → Int32 := c.2.1
abbrev csQ (c : CS) : Nat → Nat → Option Nat := c.2.2.1
abbrev csP (c : CS) : Nat := c.2.2.2.1
abbrev csL (c : CS) : Int64 := c.2.2.2.2.1
abbrev csW (c : CS) : Nat → Nat → Int32 := c.2.2.2.2.2.1
abbrev csN (c : CS) : Nat → Int32 := c.2.2.2.2.2.2.1
abbrev csS (c : CS) : Nat → Nat → Int32 := c.2.2.2.2.2.2.2
def rowE (Γ : nx_G) (n : Nat) (f : Nat → Int32) : va_E := .inl (Γ.2.2.2.1 0, n, .inl f)
def refE (Γ : nx_G) (t n : Nat) (f : Nat → Option Nat) : va_E := .inl (Γ.2.2.2.1 t, n, .inr (.inr (.inr (.inr f))))
def fx (Γ : nx_G) (x : Nat) (c : CS) : Nat → va_E
  | 0 => .inr (7, [.ref (x + 1), .ref (x + 3), .ref (x + 6), .ref (csP c), .int (csI c 6), .ref (x + 9), .ref (x + 11), .ref (x + 13), .int (csI c 7), .ref (x + 15), .ref (x + 17), .ref (x + 18)])
  | 1 => .inr (5, [.ref (x + 2), .int (csI c 0), .int (csI c 1), .int (csI c 2)])
  | 2 => rowE Γ 240 (csR c 1)
  | 3 => .inr (4, [.ref (x + 4), .ref (x + 5), .int (csI c 3), .int (csI c 4)])
  | 4 => rowE Γ 3 (csR c 2)
  | 5 => rowE Γ 6 (csR c 3)
  | 6 => refE Γ 3 4 (csQ c 0)
  | 11 => .inr (2, [.ref (x + 12), .int (csI c 8), .int (csI c 9)])
  | 12 => refE Γ 2 40 (csQ c 1)
  | 15 => .inr (0, [.ref (x + 16), .int (csI c 10), .int (csI c 11), .int (csI c 12), .int (csI c 13), .int (csI c 14)])
  | 16 => refE Γ 2 13 (csQ c 2)
  | 17 => .inr (1, [.long (csL c)])
  | _ => rowE Γ 4 (csR c 7)
def fxJ (j : Nat) : Prop := j < 7 ∨ j = 11 ∨ j = 12 ∨ (15 ≤ j ∧ j ≤ 18)
theorem fxJ_c {j : Nat} (h : fxJ j) : j = 0 ∨ j = 1 ∨ j = 2 ∨ j = 3 ∨ j = 4 ∨ j = 5 ∨ j = 6 ∨ j = 11 ∨ j = 12 ∨ j = 15 ∨ j = 16 ∨ j = 17 ∨ j = 18 := by unfold fxJ at h; omega
def isWA (x : Nat) (c : CS) (a : Nat) : Prop := a = x + 9 ∨ a = x + 13 ∨ (∃ i, i < 40 ∧ csQ c 1 i = some a) ∨ (∃ i, i < 13 ∧ csQ c 2 i = some a)
def isSA (c : CS) (a : Nat) : Prop := a = csP c ∨ ∃ i, i < 4 ∧ csQ c 0 i = some a
def wAt (Γ : nx_G) (D : nx_M) (a : Nat) (f : Nat → Int32) : Prop := D.1 a = some (.inr (6, [.ref (a + 1)])) ∧ D.1 (a + 1) = some (rowE Γ 514 f)
def sAt (Γ : nx_G) (D : nx_M) (a : Nat) (n : Int32) (s : Nat → Int32) : Prop := D.1 a = some (.inr (3, [.ref (a + 1), .int n])) ∧ D.1 (a + 1) = some (rowE Γ 64 s)
def CM (Γ : nx_G) (x : Nat) (c : CS) (D : nx_M) : Prop := (∀ j, fxJ j → D.1 (x + j) = some (fx Γ x c j)) ∧ (∀ a, isWA x c a → wAt Γ D a (csW c a)) ∧ (∀ a, isSA c a → sAt Γ D a (csN c a) (csS c a)) ∧ (∀ a, D.1 a ≠ none → (x ≤ a ∧ a < x + 19) ∨ (x + 34 ≤ a ∧ a < D.2.1)) ∧ x + 34 ≤ D.2.1
theorem fx_ne {Γ : nx_G} {x : Nat} {c : CS} {j : Nat} (hj : fxJ j) : (∀ l, fx Γ x c j ≠ .inr (6, l)) ∧ (∀ l, fx Γ x c j ≠ .inr (3, l)) ∧ (∀ f, fx Γ x c j ≠ rowE Γ 514 f) ∧ (∀ f, fx Γ x c j ≠ rowE Γ 64 f) := by
  rcases fxJ_c hj with rfl | rfl | rfl | rfl | rfl | rfl | rfl | rfl | rfl | rfl | rfl | rfl | rfl <;> simp [fx, rowE, refE]
theorem ad_ne {D : nx_M} {a b : Nat} {e e' : va_E} (h1 : D.1 a = some e) (h2 : D.1 b = some e') (h : e ≠ e') : a ≠ b := by
  rintro rfl
  rw [h1] at h2
  exact h (Option.some.inj h2)
theorem put_n {D : nx_M} {a b : Nat} {e : va_E} (h : b ≠ a) : (nx_put D a e).1 b = D.1 b := if_neg h
theorem put_s {D : nx_M} {a : Nat} {e : va_E} : (nx_put D a e).1 a = some e := if_pos rfl
theorem wAt.put {Γ : nx_G} {D : nx_M} {a b : Nat} {f : Nat → Int32} {e : va_E} (h : wAt Γ D a f) (h1 : a ≠ b) (h2 : a + 1 ≠ b) : wAt Γ (nx_put D b e) a f := ⟨(put_n h1).trans h.1, (put_n h2).trans h.2⟩
theorem sAt.put {Γ : nx_G} {D : nx_M} {a b : Nat} {n : Int32} {s : Nat → Int32} {e : va_E} (h : sAt Γ D a n s) (h1 : a ≠ b) (h2 : a + 1 ≠ b) : sAt Γ (nx_put D b e) a n s := ⟨(put_n h1).trans h.1, (put_n h2).trans h.2⟩
section CMS
variable {Γ : nx_G} {x : Nat} {c : CS} {D : nx_M}
/-- a fixed cell is written -/
theorem CM.fix (h : CM Γ x c D) {j0 : Nat} (hj0 : fxJ j0) (I' : Nat → Int32) (R' : Nat → Nat → Int32) (L' : Int64) (hne : ∀ j, fxJ j → j ≠ j0 → fx Γ x (I', R', csQ c, csP c, L', csW c, csN c, csS c) j = fx Γ x c j) : CM Γ x (I', R', csQ c, csP c, L', csW c, csN c, csS c) (nx_put D (x + j0) (fx Γ x (I', R', csQ c, csP c, L', csW c, csN c, csS c) j0)) := by
  obtain ⟨h1, h2, h3, h4, h5⟩ := h
  have hf := fx_ne (Γ := Γ) (x := x) (c := c) hj0
  refine ⟨fun j hj => ?_, fun a ha => ?_, fun a ha => ?_, fun a ha => ?_, h5⟩
  · by_cases e : j = j0
    · rw [e, put_s]
    · rw [put_n (by omega), h1 j hj, hne j hj e]
  · have hw := h2 a ha
    exact hw.put (fun e => hf.1 _ (by have := hw.1; rw [e, h1 j0 hj0] at this; exact Option.some.inj this)) (fun e => hf.2.2.1 _ (by have := hw.2; rw [e, h1 j0 hj0] at this; exact Option.some.inj this))
  · have hw := h3 a ha
    exact hw.put (fun e => hf.2.1 _ (by have := hw.1; rw [e, h1 j0 hj0] at this; exact Option.some.inj this)) (fun e => hf.2.2.2 _ (by have := hw.2; rw [e, h1 j0 hj0] at this; exact Option.some.inj this))
  · by_cases e : a = x + j0
    · left
      unfold fxJ at hj0
      omega
    · rw [put_n e] at ha
      exact h4 a ha
def upR (r : Nat → Nat → Int32) (a : Nat) (f : Nat → Int32) : Nat → Nat → Int32 := fun b => if b = a then f else r b
theorem upR_s {r : Nat → Nat → Int32} {a : Nat} {f : Nat → Int32} : upR r a f a = f := if_pos rfl
theorem upR_n {r : Nat → Nat → Int32} {a b : Nat} {f : Nat → Int32} (h : b ≠ a) : upR r a f b = r b := if_neg h
def cW' (c : CS) (a : Nat) (f : Nat → Int32) : CS := (csI c, csR c, csQ c, csP c, csL c, upR (csW c) a f, csN c, csS c)
/-- a world's row is written -/
theorem CM.w (h : CM Γ x c D) {a : Nat} (ha : isWA x c a) (f : Nat → Int32) : CM Γ x (cW' c a f) (wPut Γ D (a + 1) f) := by
  obtain ⟨h1, h2, h3, h4, h5⟩ := h
  have hw := h2 a ha
  refine ⟨fun j hj => ?_, fun b hb => ?_, fun b hb => ?_, fun b hb => ?_, h5⟩
  · have hf := fx_ne (Γ := Γ) (x := x) (c := c) hj
    show (nx_put D (a + 1) _).1 (x + j) = _
    rw [put_n (ad_ne (h1 j hj) hw.2 (hf.2.2.1 _)), h1 j hj]
    rfl
  · have hb2 := h2 b hb
    show wAt Γ (nx_put D (a + 1) _) b (upR (csW c) a f b)
    by_cases e : b = a
    · subst e
      rw [upR_s]
      exact ⟨(put_n (by omega)).trans hw.1, put_s⟩
    · rw [upR_n e]
      exact hb2.put (ad_ne hb2.1 hw.2 (by simp [rowE])) (by omega)
  · have hb2 := h3 b hb
    exact hb2.put (ad_ne hb2.1 hw.2 (by simp [rowE])) (ad_ne hb2.2 hw.2 (by simp [rowE]))
  · by_cases e : b = a + 1
    · exact h4 b (by rw [e, hw.2]; simp)
    · exact h4 b (by rw [← put_n e]; exact hb)
theorem CM.go (h : CM Γ x c D) {j ci : Nat} {l : List Value} (hj : fxJ j) (e : fx Γ x c j = .inr (ci, l)) : gO D (x + j) ci = some l := by
  unfold gO
  rw [h.1 j hj, e]
  simp
theorem CM.gi (h : CM Γ x c D) {j ci k : Nat} {l : List Value} {v : Int32} (hj : fxJ j) (e : fx Γ x c j = .inr (ci, l)) (hk : l[k]? = some (.int v)) : gI D (x + j) ci k = some v := by
  unfold gI
  rw [h.go hj e, Option.bind_some, hk]
  rfl
theorem CM.gr (h : CM Γ x c D) {j ci k : Nat} {l : List Value} {v : Nat} (hj : fxJ j) (e : fx Γ x c j = .inr (ci, l)) (hk : l[k]? = some (.ref v)) : gR D (x + j) ci k = some v := by
  unfold gR
  rw [h.go hj e, Option.bind_some, hk]
  rfl
theorem CM.r0 (h : CM Γ x c D) : gR D x 7 0 = some (x + 1) := h.gr (j := 0) (Or.inl (by omega)) rfl rfl
theorem CM.r1 (h : CM Γ x c D) : gR D x 7 1 = some (x + 3) := h.gr (j := 0) (Or.inl (by omega)) rfl rfl
theorem CM.r2 (h : CM Γ x c D) : gR D x 7 2 = some (x + 6) := h.gr (j := 0) (Or.inl (by omega)) rfl rfl
theorem CM.r3 (h : CM Γ x c D) : gR D x 7 3 = some (csP c) := h.gr (j := 0) (Or.inl (by omega)) rfl rfl
theorem CM.r5 (h : CM Γ x c D) : gR D x 7 5 = some (x + 9) := h.gr (j := 0) (Or.inl (by omega)) rfl rfl
theorem CM.r6 (h : CM Γ x c D) : gR D x 7 6 = some (x + 11) := h.gr (j := 0) (Or.inl (by omega)) rfl rfl
theorem CM.r7 (h : CM Γ x c D) : gR D x 7 7 = some (x + 13) := h.gr (j := 0) (Or.inl (by omega)) rfl rfl
theorem CM.r9 (h : CM Γ x c D) : gR D x 7 9 = some (x + 15) := h.gr (j := 0) (Or.inl (by omega)) rfl rfl
theorem CM.r10 (h : CM Γ x c D) : gR D x 7 10 = some (x + 17) := h.gr (j := 0) (Or.inl (by omega)) rfl rfl
theorem CM.r11 (h : CM Γ x c D) : gR D x 7 11 = some (x + 18) := h.gr (j := 0) (Or.inl (by omega)) rfl rfl
theorem CM.i4 (h : CM Γ x c D) : gI D x 7 4 = some (csI c 6) := h.gi (j := 0) (Or.inl (by omega)) rfl rfl
theorem CM.i8 (h : CM Γ x c D) : gI D x 7 8 = some (csI c 7) := h.gi (j := 0) (Or.inl (by omega)) rfl rfl
theorem CM.tl (h : CM Γ x c D) : gI D (x + 1) 5 1 = some (csI c 0) := h.gi (j := 1) (Or.inl (by omega)) rfl rfl
theorem CM.q0 (h : CM Γ x c D) : gR D (x + 11) 2 0 = some (x + 12) := h.gr (j := 11) (Or.inr (Or.inl rfl)) rfl rfl
theorem CM.q1 (h : CM Γ x c D) : gI D (x + 11) 2 1 = some (csI c 8) := h.gi (j := 11) (Or.inr (Or.inl rfl)) rfl rfl
theorem CM.q2 (h : CM Γ x c D) : gI D (x + 11) 2 2 = some (csI c 9) := h.gi (j := 11) (Or.inr (Or.inl rfl)) rfl rfl
theorem fxJ15 : fxJ 15 := Or.inr (Or.inr (Or.inr ⟨by omega, by omega⟩))
theorem fxJ16 : fxJ 16 := Or.inr (Or.inr (Or.inr ⟨by omega, by omega⟩))
theorem fxJ17 : fxJ 17 := Or.inr (Or.inr (Or.inr ⟨by omega, by omega⟩))
theorem fxJ18 : fxJ 18 := Or.inr (Or.inr (Or.inr ⟨by omega, by omega⟩))
theorem fxJ0 : fxJ 0 := Or.inl (by omega)
theorem fxJ1 : fxJ 1 := Or.inl (by omega)
theorem fxJ11 : fxJ 11 := Or.inr (Or.inl rfl)
theorem fxJ12 : fxJ 12 := Or.inr (Or.inr (Or.inl rfl))
theorem fxJ6 : fxJ 6 := Or.inl (by omega)
theorem CM.a0 (h : CM Γ x c D) : gR D (x + 15) 0 0 = some (x + 16) := h.gr (j := 15) fxJ15 rfl rfl
theorem CM.a1 (h : CM Γ x c D) : gI D (x + 15) 0 1 = some (csI c 10) := h.gi (j := 15) fxJ15 rfl rfl
theorem CM.a2 (h : CM Γ x c D) : gI D (x + 15) 0 2 = some (csI c 11) := h.gi (j := 15) fxJ15 rfl rfl
theorem CM.a3 (h : CM Γ x c D) : gI D (x + 15) 0 3 = some (csI c 12) := h.gi (j := 15) fxJ15 rfl rfl
theorem CM.a4 (h : CM Γ x c D) : gI D (x + 15) 0 4 = some (csI c 13) := h.gi (j := 15) fxJ15 rfl rfl
theorem CM.a5 (h : CM Γ x c D) : gI D (x + 15) 0 5 = some (csI c 14) := h.gi (j := 15) fxJ15 rfl rfl
theorem CM.dl (h : CM Γ x c D) : gL D (x + 17) 1 0 = some (csL c) := by
  unfold gL
  rw [h.go (j := 17) fxJ17 rfl]
  rfl
theorem CM.at (h : CM Γ x c D) {β : Type} {j ci : Nat} {l : List Value} {o : Option β} (hj : fxJ j) (e : fx Γ x c j = .inr (ci, l)) : gAt D (x + j) ci o = o := by
  unfold gAt
  rw [h.go hj e]
  rfl
theorem CM.at0 (h : CM Γ x c D) {β : Type} {o : Option β} : gAt D x 7 o = o := h.at (j := 0) fxJ0 rfl
theorem CM.at11 (h : CM Γ x c D) {β : Type} {o : Option β} : gAt D (x + 11) 2 o = o := h.at (j := 11) fxJ11 rfl
theorem CM.at15 (h : CM Γ x c D) {β : Type} {o : Option β} : gAt D (x + 15) 0 o = o := h.at (j := 15) fxJ15 rfl
theorem CM.at17 (h : CM Γ x c D) {β : Type} {o : Option β} : gAt D (x + 17) 1 o = o := h.at (j := 17) fxJ17 rfl
theorem CM.go6 (h : CM Γ x c D) {a : Nat} (ha : isWA x c a) : gO D a 6 = some [.ref (a + 1)] := by
  unfold gO
  rw [(h.2.1 a ha).1]
  simp
theorem CM.at6 (h : CM Γ x c D) {β : Type} {a : Nat} {o : Option β} (ha : isWA x c a) : gAt D a 6 o = o := by
  unfold gAt
  rw [h.go6 ha]
  rfl
theorem aF_row {n a : Nat} {f : Nat → Int32} (h : D.1 a = some (rowE Γ n f)) : aF Γ D a = some (n, f) := by
  unfold aF
  rw [h]
  simp [rowE]
theorem CM.wg (h : CM Γ x c D) {a : Nat} (ha : isWA x c a) : wGet Γ D a = some (a + 1, csW c a) := by
  unfold wGet
  rw [h.go6 ha]
  show (aF Γ D (a + 1)).bind _ = _
  rw [aF_row (h.2.1 a ha).2]
  simp
theorem CM.sg (h : CM Γ x c D) {a : Nat} (ha : isSA c a) : sGet Γ D a = some (a + 1, csS c a) := by
  have hs := h.2.2.1 a ha
  unfold sGet gO
  rw [hs.1]
  simp only [if_true]
  show (aF Γ D (a + 1)).bind _ = _
  rw [aF_row hs.2]
  simp
theorem CM.sn (h : CM Γ x c D) {a : Nat} (ha : isSA c a) : gI D a 3 1 = some (csN c a) := by
  have hs := h.2.2.1 a ha
  unfold gI gO
  rw [hs.1]
  simp only [if_true]
  rfl
theorem CM.so (h : CM Γ x c D) {a : Nat} (ha : isSA c a) : gO D a 3 = some [.ref (a + 1), .int (csN c a)] := by
  have hs := h.2.2.1 a ha
  unfold gO
  rw [hs.1]
  simp
theorem rq_nI {n m : Nat} {f : Nat → Option Nat} (hm : m < n) (hn : n ≤ 100000) : nx_rdq n f (nI m) = some (f m) := by
  unfold nx_rdq
  rw [nI_clamp (by omega), if_neg]
  rintro (h | h)
  · exact nI_pos (by omega) h
  · omega
theorem wq_nI {n m v : Nat} {f : Nat → Option Nat} (hm : m < n) (hn : n ≤ 100000) : nx_wrq n f (nI m) v = some (va_up f m (some v)) := by
  unfold nx_wrq
  rw [nI_clamp (by omega), if_neg]
  rintro (h | h)
  · exact nI_pos (by omega) h
  · omega
theorem qF_ref {t n a : Nat} {f : Nat → Option Nat} (h : D.1 a = some (refE Γ t n f)) : qF Γ t D a = some (n, f) := by
  unfold qF
  rw [h]
  simp [refE]
theorem CM.qp (h : CM Γ x c D) {i : Nat} (hi : i < 40) : qA Γ 2 D (x + 12) (nI i) = some (csQ c 1 i) := by
  unfold qA
  rw [qF_ref (h.1 12 fxJ12)]
  exact rq_nI hi (show (40 : Nat) ≤ 100000 by omega)
theorem CM.ql (h : CM Γ x c D) {i : Nat} (hi : i < 13) : qA Γ 2 D (x + 16) (nI i) = some (csQ c 2 i) := by
  unfold qA
  rw [qF_ref (h.1 16 fxJ16)]
  exact rq_nI hi (show (13 : Nat) ≤ 100000 by omega)
theorem CM.qs (h : CM Γ x c D) {i : Nat} (hi : i < 4) : qA Γ 3 D (x + 6) (nI i) = some (csQ c 0 i) := by
  unfold qA
  rw [qF_ref (h.1 6 fxJ6)]
  exact rq_nI hi (show (4 : Nat) ≤ 100000 by omega)
theorem CM.ri (h : CM Γ x c D) {i : Nat} (hi : i < 4) : aI Γ D (x + 18) (nI i) = some (csR c 7 i) := by
  unfold aI
  rw [aF_row (h.1 18 fxJ18)]
  exact rd_nI hi (show (4 : Nat) ≤ 100000 by omega)
/-! ints, rows, the long: written -/
def cI' (c : CS) (k : Nat) (v : Int32) : CS := (upd (csI c) k v, csR c, csQ c, csP c, csL c, csW c, csN c, csS c)
def cR' (c : CS) (k : Nat) (f : Nat → Int32) : CS := (csI c, upR (csR c) k f, csQ c, csP c, csL c, csW c, csN c, csS c)
def cL' (c : CS) (v : Int64) : CS := (csI c, csR c, csQ c, csP c, v, csW c, csN c, csS c)
theorem CM.pi (h : CM Γ x c D) {j ci k q : Nat} {l : List Value} {v : Int32} (hj : fxJ j) (e : fx Γ x c j = .inr (ci, l)) (hk : k < l.length) (e' : fx Γ x (cI' c q v) j = .inr (ci, l.set k (.int v))) (hne : ∀ i, fxJ i → i ≠ j → fx Γ x (cI' c q v) i = fx Γ x c i) : ∃ D', gPut D (x + j) ci k (.int v) = some D' ∧ CM Γ x (cI' c q v) D' ∧ D'.2 = D.2 := by
  have hh := h.fix hj (upd (csI c) q v) (csR c) (csL c) hne
  refine ⟨_, ?_, hh, rfl⟩
  unfold gPut
  rw [h.go hj e, Option.bind_some, if_pos hk, ← e']
  rfl
theorem fx_I {q j : Nat} {v : Int32} (hj : fxJ j) (h : (j = 0 → q ≠ 6 ∧ q ≠ 7) ∧ (j = 1 → 3 ≤ q) ∧ (j = 3 → q ≠ 3 ∧ q ≠ 4) ∧ (j = 11 → q ≠ 8 ∧ q ≠ 9) ∧ (j = 15 → q < 10 ∨ 14 < q)) : fx Γ x (cI' c q v) j = fx Γ x c j := by
  rcases fxJ_c hj with rfl | rfl | rfl | rfl | rfl | rfl | rfl | rfl | rfl | rfl | rfl | rfl | rfl
  · have := h.1 rfl
    show (Sum.inr (7, _) : va_E) = .inr (7, _)
    simp only [cI', csI]
    rw [upd_n (by omega), upd_n (by omega)]
  · have := h.2.1 rfl
    show (Sum.inr (5, _) : va_E) = .inr (5, _)
    simp only [cI', csI]
    rw [upd_n (by omega), upd_n (by omega), upd_n (by omega)]
  · rfl
  · have := h.2.2.1 rfl
    show (Sum.inr (4, _) : va_E) = .inr (4, _)
    simp only [cI', csI]
    rw [upd_n (by omega), upd_n (by omega)]
  · rfl
  · rfl
  · rfl
  · have := h.2.2.2.1 rfl
    show (Sum.inr (2, _) : va_E) = .inr (2, _)
    simp only [cI', csI]
    rw [upd_n (by omega), upd_n (by omega)]
  · rfl
  · have := h.2.2.2.2 rfl
    show (Sum.inr (0, _) : va_E) = .inr (0, _)
    simp only [cI', csI]
    rw [upd_n (by omega), upd_n (by omega), upd_n (by omega), upd_n (by omega), upd_n (by omega)]
  · rfl
  · rfl
  · rfl
theorem CM.p6 (h : CM Γ x c D) (v : Int32) : ∃ D', gPut D x 7 4 (.int v) = some D' ∧ CM Γ x (cI' c 6 v) D' ∧ D'.2 = D.2 :=
  h.pi (j := 0) (q := 6) fxJ0 rfl (by simp) rfl (fun i hi hn => fx_I hi (by omega))
theorem CM.p7 (h : CM Γ x c D) (v : Int32) : ∃ D', gPut D x 7 8 (.int v) = some D' ∧ CM Γ x (cI' c 7 v) D' ∧ D'.2 = D.2 :=
  h.pi (j := 0) (q := 7) fxJ0 rfl (by simp) rfl (fun i hi hn => fx_I hi (by omega))
theorem CM.p0 (h : CM Γ x c D) (v : Int32) : ∃ D', gPut D (x + 1) 5 1 (.int v) = some D' ∧ CM Γ x (cI' c 0 v) D' ∧ D'.2 = D.2 :=
  h.pi (j := 1) (q := 0) fxJ1 rfl (by simp) rfl (fun i hi hn => fx_I hi (by omega))
theorem CM.p8 (h : CM Γ x c D) (v : Int32) : ∃ D', gPut D (x + 11) 2 1 (.int v) = some D' ∧ CM Γ x (cI' c 8 v) D' ∧ D'.2 = D.2 :=
  h.pi (j := 11) (q := 8) fxJ11 rfl (by simp) rfl (fun i hi hn => fx_I hi (by omega))
theorem CM.p9 (h : CM Γ x c D) (v : Int32) : ∃ D', gPut D (x + 11) 2 2 (.int v) = some D' ∧ CM Γ x (cI' c 9 v) D' ∧ D'.2 = D.2 :=
  h.pi (j := 11) (q := 9) fxJ11 rfl (by simp) rfl (fun i hi hn => fx_I hi (by omega))
theorem CM.p10 (h : CM Γ x c D) (v : Int32) : ∃ D', gPut D (x + 15) 0 1 (.int v) = some D' ∧ CM Γ x (cI' c 10 v) D' ∧ D'.2 = D.2 :=
  h.pi (j := 15) (q := 10) fxJ15 rfl (by simp) rfl (fun i hi hn => fx_I hi (by omega))
theorem CM.p11 (h : CM Γ x c D) (v : Int32) : ∃ D', gPut D (x + 15) 0 2 (.int v) = some D' ∧ CM Γ x (cI' c 11 v) D' ∧ D'.2 = D.2 :=
  h.pi (j := 15) (q := 11) fxJ15 rfl (by simp) rfl (fun i hi hn => fx_I hi (by omega))
theorem CM.p12 (h : CM Γ x c D) (v : Int32) : ∃ D', gPut D (x + 15) 0 3 (.int v) = some D' ∧ CM Γ x (cI' c 12 v) D' ∧ D'.2 = D.2 :=
  h.pi (j := 15) (q := 12) fxJ15 rfl (by simp) rfl (fun i hi hn => fx_I hi (by omega))
theorem CM.p13 (h : CM Γ x c D) (v : Int32) : ∃ D', gPut D (x + 15) 0 4 (.int v) = some D' ∧ CM Γ x (cI' c 13 v) D' ∧ D'.2 = D.2 :=
  h.pi (j := 15) (q := 13) fxJ15 rfl (by simp) rfl (fun i hi hn => fx_I hi (by omega))
theorem CM.p14 (h : CM Γ x c D) (v : Int32) : ∃ D', gPut D (x + 15) 0 5 (.int v) = some D' ∧ CM Γ x (cI' c 14 v) D' ∧ D'.2 = D.2 :=
  h.pi (j := 15) (q := 14) fxJ15 rfl (by simp) rfl (fun i hi hn => fx_I hi (by omega))
theorem CM.pl (h : CM Γ x c D) (v : Int64) : ∃ D', gPut D (x + 17) 1 0 (.long v) = some D' ∧ CM Γ x (cL' c v) D' ∧ D'.2 = D.2 := by
  have hh := h.fix (j0 := 17) fxJ17 (csI c) (csR c) v (fun j hj hn => by
    rcases fxJ_c hj with rfl | rfl | rfl | rfl | rfl | rfl | rfl | rfl | rfl | rfl | rfl | rfl | rfl <;> first | rfl | omega)
  refine ⟨_, ?_, hh, rfl⟩
  unfold gPut
  rw [h.go (j := 17) fxJ17 rfl, Option.bind_some, if_pos (by simp)]
  rfl
theorem CM.pr (h : CM Γ x c D) {i : Nat} (hi : i < 4) (v : Int32) : ∃ D', aIw Γ D (x + 18) (nI i) v = some D' ∧ CM Γ x (cR' c 7 (upd (csR c 7) i v)) D' ∧ D'.2 = D.2 := by
  have hh := h.fix (j0 := 18) fxJ18 (csI c) (upR (csR c) 7 (upd (csR c 7) i v)) (csL c) (fun j hj hn => by
    rcases fxJ_c hj with rfl | rfl | rfl | rfl | rfl | rfl | rfl | rfl | rfl | rfl | rfl | rfl | rfl <;> first | rfl | omega)
  refine ⟨_, ?_, hh, rfl⟩
  unfold aIw
  rw [aF_row (h.1 18 fxJ18), Option.bind_some]
  show (nx_wr 4 (csR c 7) (nI i) v).bind _ = _
  rw [wr_nI hi (by omega), Option.bind_some]
  rfl
end CMS
