/-! ===== the engine's state T, and how World's row and Model's row 7 hold it ===== -/
def ok {α : Type} (o : Option α) (P : α → Prop) : Prop := ∃ a, o = some a ∧ P a
theorem ok.ret {α : Type} {P : α → Prop} {a : α} (h : P a) : ok (some a) P := ⟨a, rfl, h⟩
theorem ok.bd {α β : Type} {o : Option α} {k : α → Option β} {P : α → Prop} {Q : β → Prop} (h : ok o P) (h2 : ∀ a, P a → ok (k a) Q) : ok (o.bind k) Q := by
  obtain ⟨a, rfl, ha⟩ := h
  exact h2 a ha
theorem ok.im {α : Type} {o : Option α} {P Q : α → Prop} (h : ok o P) (h2 : ∀ a, P a → Q a) : ok o Q := by
  obtain ⟨a, e, ha⟩ := h
  exact ⟨a, e, h2 a ha⟩
theorem ok.eq {α : Type} {o : Option α} {P : α → Prop} {a : α} (e : o = some a) (h : P a) : ok o P := ⟨a, e, h⟩
theorem ok.ite {α : Type} {c : Prop} [Decidable c] {x y : Option α} {P : α → Prop} (h1 : c → ok x P) (h2 : ¬ c → ok y P) : ok (if c then x else y) P := by
  by_cases h : c
  · rw [if_pos h]; exact h1 h
  · rw [if_neg h]; exact h2 h
/-- a loop whose states are told by a count -/
theorem it_up {σ ρ : Type} {b : σ → Option (σ ⊕ ρ)} (st : Nat → σ) (n : Nat) {r : ρ} (h : ∀ i, i < n → b (st i) = some (.inl (st (i + 1)))) (he : b (st n) = some (.inr r)) {u : Nat} : ∀ {i : Nat}, i ≤ n → n - i < u → nx_iter u b (st i) = some r := by
  induction u with
  | zero => intro i _ hk; omega
  | succ u ih =>
    intro i hi hk
    show (b (st i)).bind _ = _
    by_cases e : i = n
    · rw [e, he]; rfl
    · rw [h i (by omega)]
      exact ih (i := i + 1) (by omega) (by omega)
/-- a loop with an invariant by a count -/
theorem it_inv {σ ρ : Type} {b : σ → Option (σ ⊕ ρ)} {Q : ρ → Prop} (I : Nat → σ → Prop) (n : Nat) (h : ∀ i s, i < n → I i s → ok (b s) (Sum.elim (I (i + 1)) Q)) (he : ∀ s, I n s → ok (b s) (Sum.elim (fun _ => False) Q)) {u : Nat} : ∀ {i : Nat} {s : σ}, I i s → i ≤ n → n - i < u → ok (nx_iter u b s) Q := by
  induction u with
  | zero => intro i s _ _ hk; omega
  | succ u ih =>
    intro i s hI hi hk
    show ok ((b s).bind _) Q
    by_cases e : i = n
    · subst e
      obtain ⟨x, e1, hx⟩ := he s hI
      rw [e1]
      cases x with
      | inl s' => exact hx.elim
      | inr r => exact ok.ret hx
    · obtain ⟨x, e1, hx⟩ := h i s (by omega) hI
      rw [e1]
      cases x with
      | inl s' => exact ih (i := i + 1) hx (by omega) (by omega)
      | inr r => exact ok.ret hx
theorem iz_cast (n : Nat) : iz (n : Int) = nI n := by
  unfold iz nI
  rfl
theorem izN (n : Nat) : iz (no_index (OfNat.ofNat n)) = nI n := Eq.trans (iz_cast n) (Eq.refl _)
theorem rd_nI {n m : Nat} {f : Nat → Int32} (hm : m < n) (hn : n ≤ 100000) : nx_rd n f (nI m) = some (f m) := rd_at (iz_cast m).symm hm hn
theorem wr_nI {n m : Nat} {f : Nat → Int32} {v : Int32} (hm : m < n) (hn : n ≤ 100000) : nx_wr n f (nI m) v = some (upd f m v) := wr_at (iz_cast m).symm hm hn
theorem rdW {m : Nat} {f : Nat → Int32} (hm : m < 514) : nx_rd 514 f (nI m) = some (f m) := rd_nI hm (by omega)
theorem wrW {m : Nat} {f : Nat → Int32} {v : Int32} (hm : m < 514) : nx_wr 514 f (nI m) v = some (upd f m v) := wr_nI hm (by omega)
theorem rdM {m : Nat} {f : Nat → Int32} (hm : m < 820) : nx_rd (mlen 7) f (nI m) = some (f m) := rd_nI hm (show (820 : Nat) ≤ 100000 by omega)
theorem mWr_at {m j : Nat} {g : mS} {v : Int32} (hm : m < mlen j) (hn : mlen j ≤ 100000) : mWr g j (nI m) v = some (mRow g j (upd (g.1 j) m v)) := by
  unfold mWr
  rw [wr_nI hm hn]
  rfl
theorem mWr7 {m : Nat} {g : mS} {v : Int32} (hm : m < 820) : mWr g 7 (nI m) v = some (mRow g 7 (upd (g.1 7) m v)) := mWr_at hm (show (820 : Nat) ≤ 100000 by omega)
theorem mRow_s {g : mS} {j : Nat} {f : Nat → Int32} : (mRow g j f).1 j = f := if_pos rfl
theorem mRow_n {g : mS} {j i : Nat} {f : Nat → Int32} (h : i ≠ j) : (mRow g j f).1 i = g.1 i := if_neg h
theorem mRow_m {g : mS} {j : Nat} {f1 f2 : Nat → Int32} : mRow (mRow g j f1) j f2 = mRow g j f2 := by
  refine Prod.ext (funext fun i => ?_) rfl
  show (if i = j then _ else if i = j then _ else _) = if i = j then _ else _
  split <;> rfl
theorem mRow_i {g : mS} {j : Nat} : mRow g j (g.1 j) = g := by
  refine Prod.ext (funext fun i => ?_) rfl
  show (if i = j then _ else _) = _
  split
  · next e => rw [e]
  · rfl
theorem mRow_2 {g : mS} {j : Nat} {f : Nat → Int32} : (mRow g j f).2 = g.2 := rfl
theorem mulI (a b : Nat) : nI a * nI b = nI (a * b) := pk_mul a b
theorem subI {a b : Nat} (h : b ≤ a) : nI a - nI b = nI (a - b) := pk_sub h
theorem leI {a b : Nat} (ha : a < 1000000000) (hb : b < 1000000000) : nI a ≤ nI b ↔ a ≤ b := nI_leI (by omega) (by omega)
theorem ltI {a b : Nat} (ha : a < 1000000000) (hb : b < 1000000000) : nI a < nI b ↔ a < b := nI_ltI (by omega) (by omega)
theorem eqI {a b : Nat} (ha : a < 1000000000) (hb : b < 1000000000) : nI a = nI b ↔ a = b := nI_eq (by omega) (by omega)
theorem toI {a : Nat} (ha : a < 1000000000) : (nI a).toInt = a := by
  rw [← iz_cast]
  exact iz_toInt (by omega) (by omega)
theorem toN1 : (iz (-1)).toInt = -1 := by decide +kernel
theorem neN1 {a : Nat} (ha : a < 1000000000) : nI a ≠ iz (-1) := by
  intro h
  have := congrArg Int32.toInt h
  rw [toI ha, toN1] at this
  omega
theorem upd_s {f : Nat → Int32} {k : Nat} {x : Int32} : upd f k x k = x := pk_us
theorem upd_n {f : Nat → Int32} {k j : Nat} {x : Int32} (h : j ≠ k) : upd f k x j = f j := pk_un h
theorem upd_e {f : Nat → Int32} {k j : Nat} {x : Int32} (h : j = k) : upd f k x j = x := by rw [h]; exact pk_us
abbrev Vr : Type := Int32 × Int32 × Int32 × Int32
abbrev De : Type := Int32 × Int32 × Int32
/-- seats (what, seat); reads (seat, key); versions; clock; floor; stamps by hand; log; falls -/
abbrev ET : Type := (Nat → Nat → Int32) × (Nat → Nat → Int32) × (Nat → List Vr) × Int32 × Int32 × List Int32 × List De × Int32
abbrev tSd (T : ET) : Nat → Nat → Int32 := T.1
abbrev tRk (T : ET) : Nat → Nat → Int32 := T.2.1
abbrev tVs (T : ET) : Nat → List Vr := T.2.2.1
abbrev tCk (T : ET) : Int32 := T.2.2.2.1
abbrev tFl (T : ET) : Int32 := T.2.2.2.2.1
abbrev tHd (T : ET) : List Int32 := T.2.2.2.2.2.1
abbrev tLg (T : ET) : List De := T.2.2.2.2.2.2.1
abbrev tFe (T : ET) : Int32 := T.2.2.2.2.2.2.2
def sSd (T : ET) (c s : Nat) (v : Int32) : ET := (fun c' s' => if c' = c ∧ s' = s then v else T.1 c' s', T.2)
def sRk (T : ET) (s k : Nat) (v : Int32) : ET := (T.1, fun s' k' => if s' = s ∧ k' = k then v else T.2.1 s' k', T.2.2)
def sVs (T : ET) (k : Nat) (l : List Vr) : ET := (T.1, T.2.1, fun k' => if k' = k then l else T.2.2.1 k', T.2.2.2)
def sCk (T : ET) (v : Int32) : ET := (T.1, T.2.1, T.2.2.1, v, T.2.2.2.2)
def sFl (T : ET) (v : Int32) : ET := (T.1, T.2.1, T.2.2.1, T.2.2.2.1, v, T.2.2.2.2.2)
def sHd (T : ET) (l : List Int32) : ET := (T.1, T.2.1, T.2.2.1, T.2.2.2.1, T.2.2.2.2.1, l, T.2.2.2.2.2.2)
def sLg (T : ET) (l : List De) : ET := (T.1, T.2.1, T.2.2.1, T.2.2.2.1, T.2.2.2.2.1, T.2.2.2.2.2.1, l, T.2.2.2.2.2.2.2)
def sFe (T : ET) (v : Int32) : ET := (T.1, T.2.1, T.2.2.1, T.2.2.2.1, T.2.2.2.2.1, T.2.2.2.2.2.1, T.2.2.2.2.2.2.1, v)
/-- rules: how many keys, most, pruning, stride -/
abbrev ER : Type := Nat × Int32 × Int32 × Int32
def encD (d : De) : Int32 := (d.1 ||| (d.2.1 <<< ((iz 2) &&& 31))) ||| ((d.2.2 + (iz 1)) <<< ((iz 5) &&& 31))
def encL (e : De) : Int32 := (e.1 ||| ((e.2.1 + (iz 1)) <<< ((iz 3) &&& 31))) ||| ((e.2.2 + (iz 2)) <<< ((iz 7) &&& 31))
def blkW (f : Nat → Int32) (k : Nat) (l : List Vr) : Prop := l.length ≤ 9 ∧ f (232 + k) = nI l.length ∧ ∀ (i : Nat) (v : Vr), l[i]? = some v → f (238 + k * 9 + i) = v.1 ∧ f (292 + k * 9 + i) = v.2.1 ∧ f (346 + k * 9 + i) = v.2.2.1 ∧ f (400 + k * 9 + i) = v.2.2.2
def deeW (f : Nat → Int32) (s : Nat) (l : List De) : Prop := l.length ≤ 12 ∧ f (80 + s) = nI l.length ∧ ∀ (i : Nat) (d : De), l[i]? = some d → f (88 + s * 12 + i) = encD d
def hanW (f : Nat → Int32) (l : List Int32) : Prop := l.length ≤ 30 ∧ f 7 = nI l.length ∧ ∀ (i : Nat) (v : Int32), l[i]? = some v → f (10 + i) = v
def logW (f : Nat → Int32) (L : List De) : Prop := L.length ≤ 60 ∧ f 8 = nI L.length ∧ ∃ n, n < 60 ∧ f 9 = nI n ∧ ∀ (i : Nat) (e : De), L[i]? = some e → f (454 + (n + 60 - L.length + i) % 60) = encL e
def rulW (R : ER) (f : Nat → Int32) : Prop := f 0 = R.2.1 ∧ f 1 = R.2.2.1 ∧ f 2 = R.2.2.2 ∧ f 3 = nI R.1
/-- World's row holds rules R, deeds D, state T; w0: what FELL was -/
def RW (R : ER) (w0 : Int32) (D : Nat → List De) (f : Nat → Int32) (T : ET) : Prop := rulW R f ∧ f 4 = tCk T ∧ f 5 = tFl T ∧ f 6 = w0 + tFe T ∧ hanW f (tHd T) ∧ (∀ c s, c < 5 → s < 8 → f (40 + c * 8 + s) = tSd T c s) ∧ (∀ s k, s < 8 → k < 6 → f (184 + s * 6 + k) = tRk T s k) ∧ (∀ s, s < 8 → deeW f s (D s)) ∧ (∀ k, k < 6 → blkW f k (tVs T k)) ∧ logW f (tLg T)
def blkM (h : Nat → Int32) (k : Nat) (l : List Vr) : Prop := l.length ≤ 9 ∧ h (384 + 37 * k) = nI l.length ∧ ∀ (i : Nat) (v : Vr), l[i]? = some v → h (384 + 37 * k + 4 * i + 1) = v.1 ∧ h (384 + 37 * k + 4 * i + 2) = v.2.1 ∧ h (384 + 37 * k + 4 * i + 3) = v.2.2.1 ∧ h (384 + 37 * k + 4 * i + 4) = v.2.2.2
def deeM (h : Nat → Int32) (s : Nat) (l : List De) : Prop := l.length ≤ 12 ∧ h (48 * s + 11) = nI l.length ∧ ∀ (i : Nat) (d : De), l[i]? = some d → h (48 * s + (12 + 3 * i)) = d.1 ∧ h (48 * s + (13 + 3 * i)) = d.2.1 ∧ h (48 * s + (14 + 3 * i)) = d.2.2
def hanM (h : Nat → Int32) (l : List Int32) : Prop := l.length ≤ 30 ∧ h 608 = nI l.length ∧ ∀ (i : Nat) (v : Int32), l[i]? = some v → h (609 + i) = v
def logM (h : Nat → Int32) (L : List De) : Prop := L.length ≤ 60 ∧ h 639 = nI L.length ∧ ∀ (i : Nat) (e : De), L[i]? = some e → h (640 + 3 * i) = e.1 ∧ h (641 + 3 * i) = e.2.1 ∧ h (642 + 3 * i) = e.2.2
/-- the log; in a trial it stays as it is in h0 -/
def lgM : Option (Nat → Int32) → (Nat → Int32) → List De → Prop
  | none, h, L => logM h L
  | some h0, h, _ => ∀ j, 639 ≤ j → h j = h0 j
/-- Model's row 7 holds deeds D, state T (in a trial the log isn't told) -/
def rM (tr : Option (Nat → Int32)) (D : Nat → List De) (h : Nat → Int32) (T : ET) : Prop := h 606 = tCk T ∧ h 607 = tFl T ∧ hanM h (tHd T) ∧ (∀ c s, c < 5 → s < 8 → h (48 * s + c) = tSd T c s) ∧ (∀ s k, s < 8 → k < 6 → h (48 * s + (5 + k)) = tRk T s k) ∧ (∀ s, s < 8 → deeM h s (D s)) ∧ (∀ k, k < 6 → blkM h k (tVs T k)) ∧ lgM tr h (tLg T)
/-- what an act of Model's leaves as it was -/
def frM (g g' : mS) : Prop := (∀ j, j ≠ 0 → j ≠ 7 → g'.1 j = g.1 j) ∧ (∀ j, j ≠ 16 → g'.1 0 j = g.1 0 j) ∧ g'.2 = g.2
theorem frM.rf {g : mS} : frM g g := ⟨fun _ _ _ => rfl, fun _ _ => rfl, rfl⟩
theorem frM.tr {a b c : mS} (h : frM a b) (h2 : frM b c) : frM a c := ⟨fun j h0 h7 => (h2.1 j h0 h7).trans (h.1 j h0 h7), fun j hj => (h2.2.1 j hj).trans (h.2.1 j hj), h2.2.2.trans h.2.2⟩
theorem frM.row7 {g g' : mS} (h : frM g g') (f : Nat → Int32) : frM g (mRow g' 7 f) := ⟨fun j h0 h7 => (mRow_n h7).trans (h.1 j h0 h7), fun j hj => by rw [mRow_n (by omega)]; exact h.2.1 j hj, h.2.2⟩
theorem frM.f16 {g g' : mS} (h : frM g g') (v : Int32) : frM g (mFs g' 16 v) := ⟨fun j h0 h7 => by unfold mFs; rw [mRow_n h0]; exact h.1 j h0 h7, fun j hj => by unfold mFs; rw [mRow_s, upd_n hj]; exact h.2.1 j hj, h.2.2⟩
/-- .. over a Model whose other parts are as in g0 -/
def RM (g0 : mS) (R : ER) (m0 : Int32) (tr : Option (Nat → Int32)) (D : Nat → List De) (g : mS) (T : ET) : Prop := frM g0 g ∧ (g0.1 0 9 = nI R.1 ∧ g0.1 4 0 = R.2.1 ∧ g0.1 4 1 = R.2.2.1 ∧ g0.1 4 2 = R.2.2.2 ∧ g0.1 0 15 = (if tr.isSome = true then iz 1 else iz 0)) ∧ g.1 0 16 = m0 + tFe T ∧ rM tr D (g.1 7) T
theorem RM.kk {g0 : mS} {R : ER} {m0 : Int32} {tr : Option (Nat → Int32)} {D : Nat → List De} {g : mS} {T : ET} (h : RM g0 R m0 tr D g T) : g.1 0 9 = nI R.1 := (h.1.2.1 9 (by omega)).trans h.2.1.1
theorem RM.most {g0 : mS} {R : ER} {m0 : Int32} {tr : Option (Nat → Int32)} {D : Nat → List De} {g : mS} {T : ET} (h : RM g0 R m0 tr D g T) : g.1 4 0 = R.2.1 := by rw [h.1.1 4 (by omega) (by omega)]; exact h.2.1.2.1
theorem RM.prun {g0 : mS} {R : ER} {m0 : Int32} {tr : Option (Nat → Int32)} {D : Nat → List De} {g : mS} {T : ET} (h : RM g0 R m0 tr D g T) : g.1 4 1 = R.2.2.1 := by rw [h.1.1 4 (by omega) (by omega)]; exact h.2.1.2.2.1
theorem RM.strd {g0 : mS} {R : ER} {m0 : Int32} {tr : Option (Nat → Int32)} {D : Nat → List De} {g : mS} {T : ET} (h : RM g0 R m0 tr D g T) : g.1 4 2 = R.2.2.2 := by rw [h.1.1 4 (by omega) (by omega)]; exact h.2.1.2.2.2.1
theorem RM.trial {g0 : mS} {R : ER} {m0 : Int32} {tr : Option (Nat → Int32)} {D : Nat → List De} {g : mS} {T : ET} (h : RM g0 R m0 tr D g T) : g.1 0 15 = (if tr.isSome = true then iz 1 else iz 0) := (h.1.2.1 15 (by omega)).trans h.2.1.2.2.2.2
/-- row 7 anew -/
theorem RM.h7 {g0 : mS} {R : ER} {m0 : Int32} {tr : Option (Nat → Int32)} {D D' : Nat → List De} {g : mS} {T T' : ET} {f : Nat → Int32} (h : RM g0 R m0 tr D g T) (he : tFe T' = tFe T) (hr : rM tr D' f T') : RM g0 R m0 tr D' (mRow g 7 f) T' := ⟨h.1.row7 f, h.2.1, by rw [mRow_n (by omega), he]; exact h.2.2.1, by rw [mRow_s]; exact hr⟩

theorem blkW.kept {f f' : Nat → Int32} {k : Nat} {l : List Vr} (h : blkW f k l) (hc : f' (232 + k) = f (232 + k)) (hf : ∀ i, i < 9 → f' (238 + k * 9 + i) = f (238 + k * 9 + i) ∧ f' (292 + k * 9 + i) = f (292 + k * 9 + i) ∧ f' (346 + k * 9 + i) = f (346 + k * 9 + i) ∧ f' (400 + k * 9 + i) = f (400 + k * 9 + i)) : blkW f' k l := by
  obtain ⟨h1, h2, h3⟩ := h
  refine ⟨h1, hc.trans h2, fun i v hi => ?_⟩
  have hl : i < l.length := (List.getElem?_eq_some_iff.mp hi).1
  obtain ⟨a, b, c, d⟩ := h3 i v hi
  obtain ⟨a', b', c', d'⟩ := hf i (by omega)
  exact ⟨a'.trans a, b'.trans b, c'.trans c, d'.trans d⟩
theorem blkM.kept {f f' : Nat → Int32} {k : Nat} {l : List Vr} (h : blkM f k l) (hf : ∀ j, 384 + 37 * k ≤ j → j < 421 + 37 * k → f' j = f j) : blkM f' k l := by
  obtain ⟨h1, h2, h3⟩ := h
  refine ⟨h1, by rw [hf _ (by omega) (by omega)]; exact h2, fun i v hi => ?_⟩
  have hl : i < l.length := (List.getElem?_eq_some_iff.mp hi).1
  obtain ⟨a, b, c, d⟩ := h3 i v hi
  exact ⟨by rw [hf _ (by omega) (by omega)]; exact a, by rw [hf _ (by omega) (by omega)]; exact b, by rw [hf _ (by omega) (by omega)]; exact c, by rw [hf _ (by omega) (by omega)]; exact d⟩
theorem deeW.kept {f f' : Nat → Int32} {s : Nat} {l : List De} (h : deeW f s l) (hc : f' (80 + s) = f (80 + s)) (hf : ∀ i, i < 12 → f' (88 + s * 12 + i) = f (88 + s * 12 + i)) : deeW f' s l := by
  obtain ⟨h1, h2, h3⟩ := h
  refine ⟨h1, hc.trans h2, fun i v hi => ?_⟩
  have hl : i < l.length := (List.getElem?_eq_some_iff.mp hi).1
  rw [hf _ (by omega)]
  exact h3 i v hi
theorem deeM.kept {f f' : Nat → Int32} {s : Nat} {l : List De} (h : deeM f s l) (hf : ∀ j, 48 * s + 11 ≤ j → j < 48 * s + 48 → f' j = f j) : deeM f' s l := by
  obtain ⟨h1, h2, h3⟩ := h
  refine ⟨h1, by rw [hf _ (by omega) (by omega)]; exact h2, fun i v hi => ?_⟩
  have hl : i < l.length := (List.getElem?_eq_some_iff.mp hi).1
  obtain ⟨a, b, c⟩ := h3 i v hi
  exact ⟨by rw [hf _ (by omega) (by omega)]; exact a, by rw [hf _ (by omega) (by omega)]; exact b, by rw [hf _ (by omega) (by omega)]; exact c⟩
theorem hanW.kept {f f' : Nat → Int32} {l : List Int32} (h : hanW f l) (h7 : f' 7 = f 7) (hf : ∀ j, 10 ≤ j → j < 40 → f' j = f j) : hanW f' l := by
  obtain ⟨h1, h2, h3⟩ := h
  refine ⟨h1, by rw [h7]; exact h2, fun i v hi => ?_⟩
  have hl : i < l.length := (List.getElem?_eq_some_iff.mp hi).1
  rw [hf _ (by omega) (by omega)]
  exact h3 i v hi
theorem hanM.kept {f f' : Nat → Int32} {l : List Int32} (h : hanM f l) (hf : ∀ j, 608 ≤ j → j < 639 → f' j = f j) : hanM f' l := by
  obtain ⟨h1, h2, h3⟩ := h
  refine ⟨h1, by rw [hf _ (by omega) (by omega)]; exact h2, fun i v hi => ?_⟩
  have hl : i < l.length := (List.getElem?_eq_some_iff.mp hi).1
  rw [hf _ (by omega) (by omega)]
  exact h3 i v hi
theorem logW.kept {f f' : Nat → Int32} {L : List De} (h : logW f L) (h8 : f' 8 = f 8) (h9 : f' 9 = f 9) (hf : ∀ j, 454 ≤ j → j < 514 → f' j = f j) : logW f' L := by
  obtain ⟨h1, h2, n, h3, h4, h5⟩ := h
  refine ⟨h1, by rw [h8]; exact h2, n, h3, by rw [h9]; exact h4, fun i e hi => ?_⟩
  rw [hf _ (by omega) (by omega)]
  exact h5 i e hi
theorem logM.kept {f f' : Nat → Int32} {L : List De} (h : logM f L) (hf : ∀ j, 639 ≤ j → j < 820 → f' j = f j) : logM f' L := by
  obtain ⟨h1, h2, h3⟩ := h
  refine ⟨h1, by rw [hf _ (by omega) (by omega)]; exact h2, fun i v hi => ?_⟩
  have hl : i < L.length := (List.getElem?_eq_some_iff.mp hi).1
  obtain ⟨a, b, c⟩ := h3 i v hi
  exact ⟨by rw [hf _ (by omega) (by omega)]; exact a, by rw [hf _ (by omega) (by omega)]; exact b, by rw [hf _ (by omega) (by omega)]; exact c⟩
theorem lgM.kept {tr : Option (Nat → Int32)} {f f' : Nat → Int32} {L : List De} (h : lgM tr f L) (hf : ∀ j, 639 ≤ j → f' j = f j) : lgM tr f' L := by
  cases tr with
  | none => exact logM.kept h (fun j h1 _ => hf j h1)
  | some h0 => exact fun j hj => (hf j hj).trans (h j hj)
theorem rulW.kept {R : ER} {f f' : Nat → Int32} (h : rulW R f) (hf : ∀ j, j < 4 → f' j = f j) : rulW R f' := by
  obtain ⟨h0, h1, h2, h3⟩ := h
  exact ⟨by rw [hf _ (by omega)]; exact h0, by rw [hf _ (by omega)]; exact h1, by rw [hf _ (by omega)]; exact h2, by rw [hf _ (by omega)]; exact h3⟩
theorem RW.sd {R : ER} {w0 : Int32} {D : Nat → List De} {f : Nat → Int32} {T : ET} (h : RW R w0 D f T) {c s : Nat} (hc : c < 5) (hs : s < 8) (v : Int32) : RW R w0 D (upd f (40 + c * 8 + s) v) (sSd T c s v) := by
  obtain ⟨r, h4, h5, h6, hh, hsd, hrk, hds, hvs, hl⟩ := h
  have n : ∀ j, (j < 40 + c * 8 + s ∨ 40 + c * 8 + s < j) → (upd f (40 + c * 8 + s) v) j = f j := fun j hj => upd_n (by omega)
  refine ⟨r.kept (fun j hj => n j (by omega)), by rw [n _ (by omega)]; exact h4, by rw [n _ (by omega)]; exact h5, by rw [n _ (by omega)]; exact h6, hh.kept (n _ (by omega)) (fun j _ _ => n j (by omega)), ?_, fun s' k' hs' hk' => by rw [n _ (by omega)]; exact hrk s' k' hs' hk', fun s' hs' => (hds s' hs').kept (n _ (by omega)) (fun i hi => n _ (by omega)), fun k' hk' => (hvs k' hk').kept (n _ (by omega)) (fun i hi => ⟨n _ (by omega), n _ (by omega), n _ (by omega), n _ (by omega)⟩), hl.kept (n _ (by omega)) (n _ (by omega)) (fun j _ _ => n j (by omega))⟩
  intro c' s' hc' hs'
  show _ = if c' = c ∧ s' = s then v else T.1 c' s'
  by_cases e : c' = c ∧ s' = s
  · rw [if_pos e, e.1, e.2, upd_s]
  · rw [if_neg e, n _ (by omega)]
    exact hsd c' s' hc' hs'
theorem RW.rk {R : ER} {w0 : Int32} {D : Nat → List De} {f : Nat → Int32} {T : ET} (h : RW R w0 D f T) {s k : Nat} (hs : s < 8) (hk : k < 6) (v : Int32) : RW R w0 D (upd f (184 + s * 6 + k) v) (sRk T s k v) := by
  obtain ⟨r, h4, h5, h6, hh, hsd, hrk, hds, hvs, hl⟩ := h
  have n : ∀ j, (j < 184 + s * 6 + k ∨ 184 + s * 6 + k < j) → (upd f (184 + s * 6 + k) v) j = f j := fun j hj => upd_n (by omega)
  refine ⟨r.kept (fun j hj => n j (by omega)), by rw [n _ (by omega)]; exact h4, by rw [n _ (by omega)]; exact h5, by rw [n _ (by omega)]; exact h6, hh.kept (n _ (by omega)) (fun j _ _ => n j (by omega)), fun c' s' hc' hs' => by rw [n _ (by omega)]; exact hsd c' s' hc' hs', ?_, fun s' hs' => (hds s' hs').kept (n _ (by omega)) (fun i hi => n _ (by omega)), fun k' hk' => (hvs k' hk').kept (n _ (by omega)) (fun i hi => ⟨n _ (by omega), n _ (by omega), n _ (by omega), n _ (by omega)⟩), hl.kept (n _ (by omega)) (n _ (by omega)) (fun j _ _ => n j (by omega))⟩
  intro s' k' hs' hk'
  show _ = if s' = s ∧ k' = k then v else T.2.1 s' k'
  by_cases e : s' = s ∧ k' = k
  · rw [if_pos e, e.1, e.2, upd_s]
  · rw [if_neg e, n _ (by omega)]
    exact hrk s' k' hs' hk'
theorem RW.ck {R : ER} {w0 : Int32} {D : Nat → List De} {f : Nat → Int32} {T : ET} (h : RW R w0 D f T) (v : Int32) : RW R w0 D (upd f 4 v) (sCk T v) := by
  obtain ⟨r, h4, h5, h6, hh, hsd, hrk, hds, hvs, hl⟩ := h
  have n : ∀ j, (j < 4 ∨ 4 < j) → (upd f 4 v) j = f j := fun j hj => upd_n (by omega)
  refine ⟨r.kept (fun j hj => n j (by omega)), ?_, by rw [n _ (by omega)]; exact h5, by rw [n _ (by omega)]; exact h6, hh.kept (n _ (by omega)) (fun j _ _ => n j (by omega)), fun c' s' hc' hs' => by rw [n _ (by omega)]; exact hsd c' s' hc' hs', fun s' k' hs' hk' => by rw [n _ (by omega)]; exact hrk s' k' hs' hk', fun s' hs' => (hds s' hs').kept (n _ (by omega)) (fun i hi => n _ (by omega)), fun k' hk' => (hvs k' hk').kept (n _ (by omega)) (fun i hi => ⟨n _ (by omega), n _ (by omega), n _ (by omega), n _ (by omega)⟩), hl.kept (n _ (by omega)) (n _ (by omega)) (fun j _ _ => n j (by omega))⟩
  exact upd_s
theorem RW.fl {R : ER} {w0 : Int32} {D : Nat → List De} {f : Nat → Int32} {T : ET} (h : RW R w0 D f T) (v : Int32) : RW R w0 D (upd f 5 v) (sFl T v) := by
  obtain ⟨r, h4, h5, h6, hh, hsd, hrk, hds, hvs, hl⟩ := h
  have n : ∀ j, (j < 5 ∨ 5 < j) → (upd f 5 v) j = f j := fun j hj => upd_n (by omega)
  refine ⟨r.kept (fun j hj => n j (by omega)), by rw [n _ (by omega)]; exact h4, ?_, by rw [n _ (by omega)]; exact h6, hh.kept (n _ (by omega)) (fun j _ _ => n j (by omega)), fun c' s' hc' hs' => by rw [n _ (by omega)]; exact hsd c' s' hc' hs', fun s' k' hs' hk' => by rw [n _ (by omega)]; exact hrk s' k' hs' hk', fun s' hs' => (hds s' hs').kept (n _ (by omega)) (fun i hi => n _ (by omega)), fun k' hk' => (hvs k' hk').kept (n _ (by omega)) (fun i hi => ⟨n _ (by omega), n _ (by omega), n _ (by omega), n _ (by omega)⟩), hl.kept (n _ (by omega)) (n _ (by omega)) (fun j _ _ => n j (by omega))⟩
  exact upd_s
theorem RW.fe {R : ER} {w0 : Int32} {D : Nat → List De} {f : Nat → Int32} {T : ET} (h : RW R w0 D f T) (v : Int32) : RW R w0 D (upd f 6 (w0 + v)) (sFe T v) := by
  obtain ⟨r, h4, h5, h6, hh, hsd, hrk, hds, hvs, hl⟩ := h
  have n : ∀ j, (j < 6 ∨ 6 < j) → (upd f 6 (w0 + v)) j = f j := fun j hj => upd_n (by omega)
  refine ⟨r.kept (fun j hj => n j (by omega)), by rw [n _ (by omega)]; exact h4, by rw [n _ (by omega)]; exact h5, ?_, hh.kept (n _ (by omega)) (fun j _ _ => n j (by omega)), fun c' s' hc' hs' => by rw [n _ (by omega)]; exact hsd c' s' hc' hs', fun s' k' hs' hk' => by rw [n _ (by omega)]; exact hrk s' k' hs' hk', fun s' hs' => (hds s' hs').kept (n _ (by omega)) (fun i hi => n _ (by omega)), fun k' hk' => (hvs k' hk').kept (n _ (by omega)) (fun i hi => ⟨n _ (by omega), n _ (by omega), n _ (by omega), n _ (by omega)⟩), hl.kept (n _ (by omega)) (n _ (by omega)) (fun j _ _ => n j (by omega))⟩
  exact upd_s
theorem RW.ds {R : ER} {w0 : Int32} {D : Nat → List De} {f : Nat → Int32} {T : ET} {f' : Nat → Int32} (h : RW R w0 D f T) {s : Nat} (hs : s < 8) {l : List De} (hl : deeW f' s l) (hf : ∀ j, j ≠ 80 + s → (j < 88 + s * 12 ∨ 100 + s * 12 ≤ j) → f' j = f j) : RW R w0 (fun s' => if s' = s then l else D s') f' T := by
  obtain ⟨r, h4, h5, h6, hh, hsd, hrk, hds, hvs, hl⟩ := h
  have n : ∀ j, j ≠ 80 + s ∧ (j < 88 + s * 12 ∨ 100 + s * 12 ≤ j) → f' j = f j := fun j hj => hf j hj.1 hj.2
  refine ⟨r.kept (fun j hj => n j (by omega)), by rw [n _ (by omega)]; exact h4, by rw [n _ (by omega)]; exact h5, by rw [n _ (by omega)]; exact h6, hh.kept (n _ (by omega)) (fun j _ _ => n j (by omega)), fun c' s' hc' hs' => by rw [n _ (by omega)]; exact hsd c' s' hc' hs', fun s' k' hs' hk' => by rw [n _ (by omega)]; exact hrk s' k' hs' hk', ?_, fun k' hk' => (hvs k' hk').kept (n _ (by omega)) (fun i hi => ⟨n _ (by omega), n _ (by omega), n _ (by omega), n _ (by omega)⟩), hl.kept (n _ (by omega)) (n _ (by omega)) (fun j _ _ => n j (by omega))⟩
  intro s' hs'
  show deeW f' s' (if s' = s then l else D s')
  by_cases e : s' = s
  · rw [if_pos e, e]; assumption
  · rw [if_neg e]
    exact (hds s' hs').kept (n _ (by omega)) (fun i hi => n _ (by omega))
theorem RW.vs {R : ER} {w0 : Int32} {D : Nat → List De} {f : Nat → Int32} {T : ET} {f' : Nat → Int32} (h : RW R w0 D f T) {k : Nat} (hk : k < 6) {l : List Vr} (hl : blkW f' k l) (hf : ∀ j, j ≠ 232 + k → (j < 238 + k * 9 ∨ 247 + k * 9 ≤ j) → (j < 292 + k * 9 ∨ 301 + k * 9 ≤ j) → (j < 346 + k * 9 ∨ 355 + k * 9 ≤ j) → (j < 400 + k * 9 ∨ 409 + k * 9 ≤ j) → f' j = f j) : RW R w0 D f' (sVs T k l) := by
  obtain ⟨r, h4, h5, h6, hh, hsd, hrk, hds, hvs, hl⟩ := h
  have n : ∀ j, (j ≠ 232 + k ∧ (j < 238 + k * 9 ∨ 247 + k * 9 ≤ j) ∧ (j < 292 + k * 9 ∨ 301 + k * 9 ≤ j) ∧ (j < 346 + k * 9 ∨ 355 + k * 9 ≤ j) ∧ (j < 400 + k * 9 ∨ 409 + k * 9 ≤ j)) → f' j = f j := fun j hj => hf j hj.1 hj.2.1 hj.2.2.1 hj.2.2.2.1 hj.2.2.2.2
  refine ⟨r.kept (fun j hj => n j (by omega)), by rw [n _ (by omega)]; exact h4, by rw [n _ (by omega)]; exact h5, by rw [n _ (by omega)]; exact h6, hh.kept (n _ (by omega)) (fun j _ _ => n j (by omega)), fun c' s' hc' hs' => by rw [n _ (by omega)]; exact hsd c' s' hc' hs', fun s' k' hs' hk' => by rw [n _ (by omega)]; exact hrk s' k' hs' hk', fun s' hs' => (hds s' hs').kept (n _ (by omega)) (fun i hi => n _ (by omega)), ?_, hl.kept (n _ (by omega)) (n _ (by omega)) (fun j _ _ => n j (by omega))⟩
  intro k' hk'
  show blkW f' k' (if k' = k then l else T.2.2.1 k')
  by_cases e : k' = k
  · rw [if_pos e, e]; assumption
  · rw [if_neg e]
    exact (hvs k' hk').kept (n _ (by omega)) (fun i hi => ⟨n _ (by omega), n _ (by omega), n _ (by omega), n _ (by omega)⟩)
theorem RW.lg {R : ER} {w0 : Int32} {D : Nat → List De} {f : Nat → Int32} {T : ET} {f' : Nat → Int32} (h : RW R w0 D f T) {L : List De} (hl : logW f' L) (hf : ∀ j, j ≠ 8 → j ≠ 9 → j < 454 → f' j = f j) : RW R w0 D f' (sLg T L) := by
  obtain ⟨r, h4, h5, h6, hh, hsd, hrk, hds, hvs, hl⟩ := h
  have n : ∀ j, (j ≠ 8 ∧ j ≠ 9 ∧ j < 454) → f' j = f j := fun j hj => hf j hj.1 hj.2.1 hj.2.2
  refine ⟨r.kept (fun j hj => n j (by omega)), by rw [n _ (by omega)]; exact h4, by rw [n _ (by omega)]; exact h5, by rw [n _ (by omega)]; exact h6, hh.kept (n _ (by omega)) (fun j _ _ => n j (by omega)), fun c' s' hc' hs' => by rw [n _ (by omega)]; exact hsd c' s' hc' hs', fun s' k' hs' hk' => by rw [n _ (by omega)]; exact hrk s' k' hs' hk', fun s' hs' => (hds s' hs').kept (n _ (by omega)) (fun i hi => n _ (by omega)), fun k' hk' => (hvs k' hk').kept (n _ (by omega)) (fun i hi => ⟨n _ (by omega), n _ (by omega), n _ (by omega), n _ (by omega)⟩), ?_⟩
  assumption
theorem getE_snoc {α : Type} {l : List α} {x v : α} {i : Nat} (h : (l ++ [x])[i]? = some v) : (i < l.length ∧ l[i]? = some v) ∨ (i = l.length ∧ v = x) := by
  by_cases hi : i < l.length
  · rw [List.getElem?_append_left hi] at h
    exact Or.inl ⟨hi, h⟩
  · rw [List.getElem?_append_right (by omega)] at h
    have hz : i - l.length < 1 := (List.getElem?_eq_some_iff.mp h).1
    have e : i - l.length = 0 := by omega
    rw [e] at h
    exact Or.inr ⟨by omega, by simpa using h.symm⟩
theorem RW.hd {R : ER} {w0 : Int32} {D : Nat → List De} {f : Nat → Int32} {T : ET} {f' : Nat → Int32} (h : RW R w0 D f T) {l : List Int32} (hl : hanW f' l) (hf : ∀ j, j ≠ 7 → (j < 10 ∨ 40 ≤ j) → f' j = f j) : RW R w0 D f' (sHd T l) := by
  obtain ⟨r, h4, h5, h6, hh, hsd, hrk, hds, hvs, hl⟩ := h
  have n : ∀ j, (j ≠ 7 ∧ (j < 10 ∨ 40 ≤ j)) → f' j = f j := fun j hj => hf j hj.1 hj.2
  refine ⟨r.kept (fun j hj => n j (by omega)), by rw [n _ (by omega)]; exact h4, by rw [n _ (by omega)]; exact h5, by rw [n _ (by omega)]; exact h6, ?_, fun c' s' hc' hs' => by rw [n _ (by omega)]; exact hsd c' s' hc' hs', fun s' k' hs' hk' => by rw [n _ (by omega)]; exact hrk s' k' hs' hk', fun s' hs' => (hds s' hs').kept (n _ (by omega)) (fun i hi => n _ (by omega)), fun k' hk' => (hvs k' hk').kept (n _ (by omega)) (fun i hi => ⟨n _ (by omega), n _ (by omega), n _ (by omega), n _ (by omega)⟩), hl.kept (n _ (by omega)) (n _ (by omega)) (fun j _ _ => n j (by omega))⟩
  assumption
theorem rM.sd {tr : Option (Nat → Int32)} {D : Nat → List De} {f : Nat → Int32} {T : ET} (h : rM tr D f T) {c s : Nat} (hc : c < 5) (hs : s < 8) (v : Int32) : rM tr D (upd f (48 * s + c) v) (sSd T c s v) := by
  obtain ⟨h4, h5, hh, hsd, hrk, hds, hvs, hl⟩ := h
  have n : ∀ j, (j < 48 * s + c ∨ 48 * s + c < j) → (upd f (48 * s + c) v) j = f j := fun j hj => upd_n (by omega)
  refine ⟨by rw [n _ (by omega)]; exact h4, by rw [n _ (by omega)]; exact h5, hh.kept (fun j _ _ => n j (by omega)), ?_, fun s' k' hs' hk' => by rw [n _ (by omega)]; exact hrk s' k' hs' hk', fun s' hs' => (hds s' hs').kept (fun j _ _ => n j (by omega)), fun k' hk' => (hvs k' hk').kept (fun j _ _ => n j (by omega)), hl.kept (fun j _ => n j (by omega))⟩
  intro c' s' hc' hs'
  show _ = if c' = c ∧ s' = s then v else T.1 c' s'
  by_cases e : c' = c ∧ s' = s
  · rw [if_pos e, e.1, e.2, upd_s]
  · rw [if_neg e, n _ (by omega)]
    exact hsd c' s' hc' hs'
theorem rM.rk {tr : Option (Nat → Int32)} {D : Nat → List De} {f : Nat → Int32} {T : ET} (h : rM tr D f T) {s k : Nat} (hs : s < 8) (hk : k < 6) (v : Int32) : rM tr D (upd f (48 * s + (5 + k)) v) (sRk T s k v) := by
  obtain ⟨h4, h5, hh, hsd, hrk, hds, hvs, hl⟩ := h
  have n : ∀ j, (j < 48 * s + (5 + k) ∨ 48 * s + (5 + k) < j) → (upd f (48 * s + (5 + k)) v) j = f j := fun j hj => upd_n (by omega)
  refine ⟨by rw [n _ (by omega)]; exact h4, by rw [n _ (by omega)]; exact h5, hh.kept (fun j _ _ => n j (by omega)), fun c' s' hc' hs' => by rw [n _ (by omega)]; exact hsd c' s' hc' hs', ?_, fun s' hs' => (hds s' hs').kept (fun j _ _ => n j (by omega)), fun k' hk' => (hvs k' hk').kept (fun j _ _ => n j (by omega)), hl.kept (fun j _ => n j (by omega))⟩
  intro s' k' hs' hk'
  show _ = if s' = s ∧ k' = k then v else T.2.1 s' k'
  by_cases e : s' = s ∧ k' = k
  · rw [if_pos e, e.1, e.2, upd_s]
  · rw [if_neg e, n _ (by omega)]
    exact hrk s' k' hs' hk'
theorem rM.ck {tr : Option (Nat → Int32)} {D : Nat → List De} {f : Nat → Int32} {T : ET} (h : rM tr D f T) (v : Int32) : rM tr D (upd f 606 v) (sCk T v) := by
  obtain ⟨h4, h5, hh, hsd, hrk, hds, hvs, hl⟩ := h
  have n : ∀ j, (j < 606 ∨ 606 < j) → (upd f 606 v) j = f j := fun j hj => upd_n (by omega)
  refine ⟨?_, by rw [n _ (by omega)]; exact h5, hh.kept (fun j _ _ => n j (by omega)), fun c' s' hc' hs' => by rw [n _ (by omega)]; exact hsd c' s' hc' hs', fun s' k' hs' hk' => by rw [n _ (by omega)]; exact hrk s' k' hs' hk', fun s' hs' => (hds s' hs').kept (fun j _ _ => n j (by omega)), fun k' hk' => (hvs k' hk').kept (fun j _ _ => n j (by omega)), hl.kept (fun j _ => n j (by omega))⟩
  exact upd_s
theorem rM.fl {tr : Option (Nat → Int32)} {D : Nat → List De} {f : Nat → Int32} {T : ET} (h : rM tr D f T) (v : Int32) : rM tr D (upd f 607 v) (sFl T v) := by
  obtain ⟨h4, h5, hh, hsd, hrk, hds, hvs, hl⟩ := h
  have n : ∀ j, (j < 607 ∨ 607 < j) → (upd f 607 v) j = f j := fun j hj => upd_n (by omega)
  refine ⟨by rw [n _ (by omega)]; exact h4, ?_, hh.kept (fun j _ _ => n j (by omega)), fun c' s' hc' hs' => by rw [n _ (by omega)]; exact hsd c' s' hc' hs', fun s' k' hs' hk' => by rw [n _ (by omega)]; exact hrk s' k' hs' hk', fun s' hs' => (hds s' hs').kept (fun j _ _ => n j (by omega)), fun k' hk' => (hvs k' hk').kept (fun j _ _ => n j (by omega)), hl.kept (fun j _ => n j (by omega))⟩
  exact upd_s
theorem rM.ds {tr : Option (Nat → Int32)} {D : Nat → List De} {f : Nat → Int32} {T : ET} {f' : Nat → Int32} (h : rM tr D f T) {s : Nat} (hs : s < 8) {l : List De} (hl : deeM f' s l) (hf : ∀ j, (j < 48 * s + 11 ∨ 48 * s + 48 ≤ j) → f' j = f j) : rM tr (fun s' => if s' = s then l else D s') f' T := by
  obtain ⟨h4, h5, hh, hsd, hrk, hds, hvs, hl⟩ := h
  have n : ∀ j, (j < 48 * s + 11 ∨ 48 * s + 48 ≤ j) → f' j = f j := fun j hj => hf j hj
  refine ⟨by rw [n _ (by omega)]; exact h4, by rw [n _ (by omega)]; exact h5, hh.kept (fun j _ _ => n j (by omega)), fun c' s' hc' hs' => by rw [n _ (by omega)]; exact hsd c' s' hc' hs', fun s' k' hs' hk' => by rw [n _ (by omega)]; exact hrk s' k' hs' hk', ?_, fun k' hk' => (hvs k' hk').kept (fun j _ _ => n j (by omega)), hl.kept (fun j _ => n j (by omega))⟩
  intro s' hs'
  show deeM f' s' (if s' = s then l else D s')
  by_cases e : s' = s
  · rw [if_pos e, e]; assumption
  · rw [if_neg e]
    exact (hds s' hs').kept (fun j _ _ => n j (by omega))
theorem rM.vs {tr : Option (Nat → Int32)} {D : Nat → List De} {f : Nat → Int32} {T : ET} {f' : Nat → Int32} (h : rM tr D f T) {k : Nat} (hk : k < 6) {l : List Vr} (hl : blkM f' k l) (hf : ∀ j, (j < 384 + 37 * k ∨ 421 + 37 * k ≤ j) → f' j = f j) : rM tr D f' (sVs T k l) := by
  obtain ⟨h4, h5, hh, hsd, hrk, hds, hvs, hl⟩ := h
  have n : ∀ j, (j < 384 + 37 * k ∨ 421 + 37 * k ≤ j) → f' j = f j := fun j hj => hf j hj
  refine ⟨by rw [n _ (by omega)]; exact h4, by rw [n _ (by omega)]; exact h5, hh.kept (fun j _ _ => n j (by omega)), fun c' s' hc' hs' => by rw [n _ (by omega)]; exact hsd c' s' hc' hs', fun s' k' hs' hk' => by rw [n _ (by omega)]; exact hrk s' k' hs' hk', fun s' hs' => (hds s' hs').kept (fun j _ _ => n j (by omega)), ?_, hl.kept (fun j _ => n j (by omega))⟩
  intro k' hk'
  show blkM f' k' (if k' = k then l else T.2.2.1 k')
  by_cases e : k' = k
  · rw [if_pos e, e]; assumption
  · rw [if_neg e]
    exact (hvs k' hk').kept (fun j _ _ => n j (by omega))
theorem rM.lg {tr : Option (Nat → Int32)} {D : Nat → List De} {f : Nat → Int32} {T : ET} {f' : Nat → Int32} (h : rM tr D f T) {L : List De} (hl : lgM tr f' L) (hf : ∀ j, j < 639 → f' j = f j) : rM tr D f' (sLg T L) := by
  obtain ⟨h4, h5, hh, hsd, hrk, hds, hvs, hl⟩ := h
  have n : ∀ j, (j < 639) → f' j = f j := fun j hj => hf j hj
  refine ⟨by rw [n _ (by omega)]; exact h4, by rw [n _ (by omega)]; exact h5, hh.kept (fun j _ _ => n j (by omega)), fun c' s' hc' hs' => by rw [n _ (by omega)]; exact hsd c' s' hc' hs', fun s' k' hs' hk' => by rw [n _ (by omega)]; exact hrk s' k' hs' hk', fun s' hs' => (hds s' hs').kept (fun j _ _ => n j (by omega)), fun k' hk' => (hvs k' hk').kept (fun j _ _ => n j (by omega)), ?_⟩
  assumption
theorem rM.hd {tr : Option (Nat → Int32)} {D : Nat → List De} {f : Nat → Int32} {T : ET} {f' : Nat → Int32} (h : rM tr D f T) {l : List Int32} (hl : hanM f' l) (hf : ∀ j, (j < 608 ∨ 639 ≤ j) → f' j = f j) : rM tr D f' (sHd T l) := by
  obtain ⟨h4, h5, hh, hsd, hrk, hds, hvs, hl⟩ := h
  have n : ∀ j, (j < 608 ∨ 639 ≤ j) → f' j = f j := fun j hj => hf j hj
  refine ⟨by rw [n _ (by omega)]; exact h4, by rw [n _ (by omega)]; exact h5, ?_, fun c' s' hc' hs' => by rw [n _ (by omega)]; exact hsd c' s' hc' hs', fun s' k' hs' hk' => by rw [n _ (by omega)]; exact hrk s' k' hs' hk', fun s' hs' => (hds s' hs').kept (fun j _ _ => n j (by omega)), fun k' hk' => (hvs k' hk').kept (fun j _ _ => n j (by omega)), hl.kept (fun j _ => n j (by omega))⟩
  assumption
theorem RW.st {R : ER} {w0 : Int32} {D : Nat → List De} {f : Nat → Int32} {T : ET} (h : RW R w0 D f T) {s : Nat} (hs : s < 8) : f (40 + s) = tSd T 0 s := h.2.2.2.2.2.1 0 s (by omega) hs
theorem RW.sp {R : ER} {w0 : Int32} {D : Nat → List De} {f : Nat → Int32} {T : ET} (h : RW R w0 D f T) {s : Nat} (hs : s < 8) : f (48 + s) = tSd T 1 s := h.2.2.2.2.2.1 1 s (by omega) hs
theorem RW.wy {R : ER} {w0 : Int32} {D : Nat → List De} {f : Nat → Int32} {T : ET} (h : RW R w0 D f T) {s : Nat} (hs : s < 8) : f (56 + s) = tSd T 2 s := h.2.2.2.2.2.1 2 s (by omega) hs
theorem RW.dp {R : ER} {w0 : Int32} {D : Nat → List De} {f : Nat → Int32} {T : ET} (h : RW R w0 D f T) {s : Nat} (hs : s < 8) : f (64 + s) = tSd T 3 s := h.2.2.2.2.2.1 3 s (by omega) hs
theorem RW.dm {R : ER} {w0 : Int32} {D : Nat → List De} {f : Nat → Int32} {T : ET} (h : RW R w0 D f T) {s : Nat} (hs : s < 8) : f (72 + s) = tSd T 4 s := h.2.2.2.2.2.1 4 s (by omega) hs
theorem RW.rr {R : ER} {w0 : Int32} {D : Nat → List De} {f : Nat → Int32} {T : ET} (h : RW R w0 D f T) {s k : Nat} (hs : s < 8) (hk : k < 6) : f (184 + s * 6 + k) = tRk T s k := h.2.2.2.2.2.2.1 s k hs hk
theorem RW.dd {R : ER} {w0 : Int32} {D : Nat → List De} {f : Nat → Int32} {T : ET} (h : RW R w0 D f T) {s : Nat} (hs : s < 8) : deeW f s (D s) := h.2.2.2.2.2.2.2.1 s hs
theorem RW.bb {R : ER} {w0 : Int32} {D : Nat → List De} {f : Nat → Int32} {T : ET} (h : RW R w0 D f T) {k : Nat} (hk : k < 6) : blkW f k (tVs T k) := h.2.2.2.2.2.2.2.2.1 k hk
theorem RW.mn {R : ER} {w0 : Int32} {D : Nat → List De} {f : Nat → Int32} {T : ET} (h : RW R w0 D f T) {k : Nat} (hk : k < 6) : f (232 + k) = nI (tVs T k).length := (h.bb hk).2.1
theorem RW.cc {R : ER} {w0 : Int32} {D : Nat → List De} {f : Nat → Int32} {T : ET} (h : RW R w0 D f T) : f 4 = tCk T := h.2.1
theorem RW.ff {R : ER} {w0 : Int32} {D : Nat → List De} {f : Nat → Int32} {T : ET} (h : RW R w0 D f T) : f 5 = tFl T := h.2.2.1
theorem RW.ee {R : ER} {w0 : Int32} {D : Nat → List De} {f : Nat → Int32} {T : ET} (h : RW R w0 D f T) : f 6 = w0 + tFe T := h.2.2.2.1
theorem RW.hh {R : ER} {w0 : Int32} {D : Nat → List De} {f : Nat → Int32} {T : ET} (h : RW R w0 D f T) : hanW f (tHd T) := h.2.2.2.2.1
theorem RW.ll {R : ER} {w0 : Int32} {D : Nat → List De} {f : Nat → Int32} {T : ET} (h : RW R w0 D f T) : logW f (tLg T) := h.2.2.2.2.2.2.2.2.2
theorem RW.r0 {R : ER} {w0 : Int32} {D : Nat → List De} {f : Nat → Int32} {T : ET} (h : RW R w0 D f T) : f 0 = R.2.1 := h.1.1
theorem RW.r1 {R : ER} {w0 : Int32} {D : Nat → List De} {f : Nat → Int32} {T : ET} (h : RW R w0 D f T) : f 1 = R.2.2.1 := h.1.2.1
theorem RW.r2 {R : ER} {w0 : Int32} {D : Nat → List De} {f : Nat → Int32} {T : ET} (h : RW R w0 D f T) : f 2 = R.2.2.2 := h.1.2.2.1
theorem RW.r3 {R : ER} {w0 : Int32} {D : Nat → List De} {f : Nat → Int32} {T : ET} (h : RW R w0 D f T) : f 3 = nI R.1 := h.1.2.2.2
/-- version i of key k -/
def vA (T : ET) (k i : Nat) : Vr := ((tVs T k)[i]?).getD (0, 0, 0, 0)
theorem vA_eq {T : ET} {k i : Nat} (h : i < (tVs T k).length) : (tVs T k)[i]? = some (vA T k i) := by
  unfold vA
  rw [List.getElem?_eq_getElem h]
  rfl
theorem RW.v1 {R : ER} {w0 : Int32} {D : Nat → List De} {f : Nat → Int32} {T : ET} (h : RW R w0 D f T) {k i : Nat} (hk : k < 6) (hi : i < (tVs T k).length) : f (238 + k * 9 + i) = (vA T k i).1 := ((h.bb hk).2.2 i _ (vA_eq hi)).1
theorem RW.v2 {R : ER} {w0 : Int32} {D : Nat → List De} {f : Nat → Int32} {T : ET} (h : RW R w0 D f T) {k i : Nat} (hk : k < 6) (hi : i < (tVs T k).length) : f (292 + k * 9 + i) = (vA T k i).2.1 := ((h.bb hk).2.2 i _ (vA_eq hi)).2.1
theorem RW.v3 {R : ER} {w0 : Int32} {D : Nat → List De} {f : Nat → Int32} {T : ET} (h : RW R w0 D f T) {k i : Nat} (hk : k < 6) (hi : i < (tVs T k).length) : f (346 + k * 9 + i) = (vA T k i).2.2.1 := ((h.bb hk).2.2 i _ (vA_eq hi)).2.2.1
theorem RW.v4 {R : ER} {w0 : Int32} {D : Nat → List De} {f : Nat → Int32} {T : ET} (h : RW R w0 D f T) {k i : Nat} (hk : k < 6) (hi : i < (tVs T k).length) : f (400 + k * 9 + i) = (vA T k i).2.2.2 := ((h.bb hk).2.2 i _ (vA_eq hi)).2.2.2
theorem RW.l9 {R : ER} {w0 : Int32} {D : Nat → List De} {f : Nat → Int32} {T : ET} (h : RW R w0 D f T) {k : Nat} (hk : k < 6) : (tVs T k).length ≤ 9 := (h.bb hk).1
theorem rM.st {tr : Option (Nat → Int32)} {D : Nat → List De} {f : Nat → Int32} {T : ET} (h : rM tr D f T) {c s : Nat} (hc : c < 5) (hs : s < 8) : f (48 * s + c) = tSd T c s := h.2.2.2.1 c s hc hs
theorem rM.rr {tr : Option (Nat → Int32)} {D : Nat → List De} {f : Nat → Int32} {T : ET} (h : rM tr D f T) {s k : Nat} (hs : s < 8) (hk : k < 6) : f (48 * s + (5 + k)) = tRk T s k := h.2.2.2.2.1 s k hs hk
theorem rM.dd {tr : Option (Nat → Int32)} {D : Nat → List De} {f : Nat → Int32} {T : ET} (h : rM tr D f T) {s : Nat} (hs : s < 8) : deeM f s (D s) := h.2.2.2.2.2.1 s hs
theorem rM.bb {tr : Option (Nat → Int32)} {D : Nat → List De} {f : Nat → Int32} {T : ET} (h : rM tr D f T) {k : Nat} (hk : k < 6) : blkM f k (tVs T k) := h.2.2.2.2.2.2.1 k hk
theorem rM.mn {tr : Option (Nat → Int32)} {D : Nat → List De} {f : Nat → Int32} {T : ET} (h : rM tr D f T) {k : Nat} (hk : k < 6) : f (384 + 37 * k) = nI (tVs T k).length := (h.bb hk).2.1
theorem rM.cc {tr : Option (Nat → Int32)} {D : Nat → List De} {f : Nat → Int32} {T : ET} (h : rM tr D f T) : f 606 = tCk T := h.1
theorem rM.ff {tr : Option (Nat → Int32)} {D : Nat → List De} {f : Nat → Int32} {T : ET} (h : rM tr D f T) : f 607 = tFl T := h.2.1
theorem rM.hh {tr : Option (Nat → Int32)} {D : Nat → List De} {f : Nat → Int32} {T : ET} (h : rM tr D f T) : hanM f (tHd T) := h.2.2.1
theorem rM.ll {D : Nat → List De} {f : Nat → Int32} {T : ET} (h : rM none D f T) : logM f (tLg T) := h.2.2.2.2.2.2.2
theorem rM.v1 {tr : Option (Nat → Int32)} {D : Nat → List De} {f : Nat → Int32} {T : ET} (h : rM tr D f T) {k i : Nat} (hk : k < 6) (hi : i < (tVs T k).length) : f (384 + 37 * k + 4 * i + 1) = (vA T k i).1 := ((h.bb hk).2.2 i _ (vA_eq hi)).1
theorem rM.v2 {tr : Option (Nat → Int32)} {D : Nat → List De} {f : Nat → Int32} {T : ET} (h : rM tr D f T) {k i : Nat} (hk : k < 6) (hi : i < (tVs T k).length) : f (384 + 37 * k + 4 * i + 2) = (vA T k i).2.1 := ((h.bb hk).2.2 i _ (vA_eq hi)).2.1
theorem rM.v3 {tr : Option (Nat → Int32)} {D : Nat → List De} {f : Nat → Int32} {T : ET} (h : rM tr D f T) {k i : Nat} (hk : k < 6) (hi : i < (tVs T k).length) : f (384 + 37 * k + 4 * i + 3) = (vA T k i).2.2.1 := ((h.bb hk).2.2 i _ (vA_eq hi)).2.2.1
theorem rM.v4 {tr : Option (Nat → Int32)} {D : Nat → List De} {f : Nat → Int32} {T : ET} (h : rM tr D f T) {k i : Nat} (hk : k < 6) (hi : i < (tVs T k).length) : f (384 + 37 * k + 4 * i + 4) = (vA T k i).2.2.2 := ((h.bb hk).2.2 i _ (vA_eq hi)).2.2.2
theorem rM.l9 {tr : Option (Nat → Int32)} {D : Nat → List De} {f : Nat → Int32} {T : ET} (h : rM tr D f T) {k : Nat} (hk : k < 6) : (tVs T k).length ≤ 9 := (h.bb hk).1
