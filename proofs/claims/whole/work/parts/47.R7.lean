/-! to write, to be sure, to prune: World -/
def wrV (T : ET) (k i : Nat) (value : Int32) : ET := sVs T k ((tVs T k).set i ((vA T k i).1, value, (vA T k i).2.2.1, (vA T k i).2.2.2))
def writeT (T : ET) (s k : Nat) (value : Int32) : ET × Int32 :=
  if laT T k (tSd T 1 s) = true then (fallT (noteT T (nI 2, nI s, iz (-2))) s, iz (-2))
  else (owI T k s).elim (noteT (addT T s k value) (nI 2, nI s, nI 1), nI 1) (fun i => (noteT (wrV T k i value) (nI 2, nI s, nI 0), nI 0))
theorem W_writeKey {u : Nat} (hu : 1000 ≤ u) {R : ER} {w0 : Int32} {D : Nat → List De} {f : Nat → Int32} {T : ET} (h : RW R w0 D f T) {s k : Nat} (hs : s < 8) (hk : k < 6) (value : Int32) (hn : laT T k (tSd T 1 s) = false → owI T k s = none → (tVs T k).length < 9) : ok (fW_writeKey u f (nI s) (nI k) value) (fun r => r.1 = (writeT T s k value).2 ∧ RW R w0 D r.2 (writeT T s k value).1) := by
  have hl := h.l9 hk
  unfold fW_writeKey writeT
  simp (disch := omega) only [izN, nI_add, mulI, rdW, wrW, Option.bind_some, h.sp, W_isLate hu h hk]
  by_cases c1 : laT T k (tSd T 1 s) = true
  · rw [if_pos c1, if_pos c1]
    refine (W_note hu h _ _ _).bd (fun f1 h1 => ?_)
    exact (W_fallWithAll hu h1 hs).bd (fun r hr => ok.ret ⟨rfl, hr.2⟩)
  · rw [if_neg c1, if_neg c1, W_ownSlot hu h hk]
    have eo : owI T k s = fst (fun i => decide ((vA T k i).2.2.2 = nI s)) (tVs T k).length := rfl
    rw [← eo]
    cases e : owI T k s with
    | none =>
      simp (disch := omega) only [izN, nI_add, mulI, rdW, wrW, Option.bind_some, Option.elim, L_within, inR_N1, if_false, Bool.false_eq_true]
      refine (W_addVersion hu h hs hk (hn (by simpa using c1) e) value).bd (fun f1 h1 => ?_)
      exact (W_note hu h1 _ _ _).bd (fun f2 h2 => ok.ret ⟨rfl, h2⟩)
    | some i =>
      have hi := (fst_some e).1
      simp (disch := omega) only [izN, nI_add, mulI, rdW, wrW, Option.bind_some, Option.elim, L_within, inR_nI]
      rw [if_pos (by simp; omega)]
      simp (disch := omega) only [izN, nI_add, mulI, rdW, wrW, Option.bind_some, ← Nat.add_assoc]
      exact (W_note hu (h.valu hk hi value) _ _ _).bd (fun f2 h2 => ok.ret ⟨rfl, h2⟩)
theorem RW.va {R : ER} {w0 : Int32} {D : Nat → List De} {f : Nat → Int32} {T : ET} {f' : Nat → Int32} (h : RW R w0 D f T) {V : Nat → List Vr} (hv : ∀ k, k < 6 → blkW f' k (V k)) (hf : ∀ j, (j < 232 ∨ 454 ≤ j) → f' j = f j) : RW R w0 D f' (T.1, T.2.1, V, T.2.2.2) := by
  obtain ⟨r, h4, h5, h6, hh, hsd, hrk, hds, hvs, hl⟩ := h
  exact ⟨r.kept (fun j hj => hf j (by omega)), by rw [hf _ (by omega)]; exact h4, by rw [hf _ (by omega)]; exact h5, by rw [hf _ (by omega)]; exact h6, hh.kept (hf _ (by omega)) (fun j _ _ => hf j (by omega)), fun c' s' hc' hs' => by rw [hf _ (by omega)]; exact hsd c' s' hc' hs', fun s' k' hs' hk' => by rw [hf _ (by omega)]; exact hrk s' k' hs' hk', fun s' hs' => (hds s' hs').kept (hf _ (by omega)) (fun i hi => hf _ (by omega)), hv, hl.kept (hf _ (by omega)) (hf _ (by omega)) (fun j _ _ => hf j (by omega))⟩
/-- the versions of one who is sure -/
def ownS (l : List Vr) (x : Int32) : List Vr := l.map (fun v => if v.2.2.2 = x then (v.1, v.2.1, v.2.2.1, iz (-1)) else v)
def msA (T : ET) (s n : Nat) : ET := (T.1, T.2.1, fun k => if k < n then ownS (T.2.2.1 k) (nI s) else T.2.2.1 k, T.2.2.2)
def clA (T : ET) (s n : Nat) : ET := (fun c o => if c = 3 ∧ o < n then T.1 3 o &&& (bitA s ^^^ iz (-1)) else T.1 c o, T.2)
def sure1T (T : ET) (s : Nat) : ET := noteT (clA (msA (sSd T 0 s (nI 3)) s 6) s 8) (nI 4, nI s, tSd T 1 s)
theorem W_makeSure {u : Nat} (hu : 1000 ≤ u) {R : ER} {w0 : Int32} {D : Nat → List De} {f : Nat → Int32} {T : ET} (h : RW R w0 D f T) {s : Nat} (hs : s < 8) : ok (fW_makeSure u f (nI s)) (fun f' => RW R w0 D f' (sure1T T s)) := by
  unfold fW_makeSure
  simp (disch := omega) only [izN, nI_add, mulI, rdW, wrW, Option.bind_some]
  have h1 := h.sd (c := 0) (by omega) hs (nI 3)
  have e1 : upd f (40 + s) (nI 3) = upd f (40 + 0 * 8 + s) (nI 3) := rfl
  rw [e1]
  refine ok.bd (it_inv (Q := fun f' => RW R w0 D f' (msA (sSd T 0 s (nI 3)) s 6)) (fun i x => x.1 = nI i ∧ ∀ j, x.2 j = if 400 ≤ j ∧ j < 400 + i ∧ upd f (40 + 0 * 8 + s) (nI 3) j = nI s then iz (-1) else upd f (40 + 0 * 8 + s) (nI 3) j) 54 (fun i x hi hI => ?_) (fun x hI => ?_) (i := 0) ⟨rfl, fun j => ?_⟩ (by omega) (by omega)) (fun f2 h2 => ?_)
  · obtain ⟨e, hx⟩ := hI
    unfold fW_makeSure_12
    simp (disch := omega) only [izN, nI_add, mulI, rdW, wrW, Option.bind_some, e, leI]
    rw [if_neg (by omega)]
    have e2 := hx (400 + i)
    rw [if_neg (by omega)] at e2
    rw [e2]
    by_cases c : upd f (40 + 0 * 8 + s) (nI 3) (400 + i) = nI s
    · rw [if_pos c]
      refine ok.ret ⟨rfl, fun j => ?_⟩
      show upd x.2 (400 + i) (iz (-1)) j = _
      by_cases ej : j = 400 + i
      · subst ej
        rw [upd_s, if_pos ⟨by omega, by omega, c⟩]
      · rw [upd_n ej, hx j]
        by_cases c2 : 400 ≤ j ∧ j < 400 + i ∧ upd f (40 + 0 * 8 + s) (nI 3) j = nI s
        · rw [if_pos c2, if_pos ⟨c2.1, by omega, c2.2.2⟩]
        · rw [if_neg c2, if_neg (fun hh => c2 ⟨hh.1, by omega, hh.2.2⟩)]
    · rw [if_neg c]
      refine ok.ret ⟨rfl, fun j => ?_⟩
      show x.2 j = _
      rw [hx j]
      by_cases ej : j = 400 + i
      · subst ej
        rw [if_neg (by omega), if_neg (fun hh => c hh.2.2)]
      · by_cases c2 : 400 ≤ j ∧ j < 400 + i ∧ upd f (40 + 0 * 8 + s) (nI 3) j = nI s
        · rw [if_pos c2, if_pos ⟨c2.1, by omega, c2.2.2⟩]
        · rw [if_neg c2, if_neg (fun hh => c2 ⟨hh.1, by omega, hh.2.2⟩)]
  · obtain ⟨e, hx⟩ := hI
    unfold fW_makeSure_12
    simp (disch := omega) only [izN, nI_add, mulI, rdW, wrW, Option.bind_some, e, leI]
    rw [if_pos (by omega)]
    refine ok.ret ((h1.va (V := (msA (sSd T 0 s (nI 3)) s 6).2.2.1) (fun k hk => ?_) (fun j hj => by rw [hx j, if_neg (by omega)])).to rfl rfl)
    show blkW x.2 k (if k < 6 then ownS _ _ else _)
    rw [if_pos hk]
    obtain ⟨b1, b2, b3⟩ := h1.bb hk
    have hl : ((sSd T 0 s (nI 3)).2.2.1 k).length ≤ 9 := b1
    unfold ownS
    refine ⟨by rw [List.length_map]; exact b1, by rw [List.length_map, hx, if_neg (by omega)]; exact b2, fun i v hi => ?_⟩
    rw [List.getElem?_map] at hi
    cases ev : ((sSd T 0 s (nI 3)).2.2.1 k)[i]? with
    | none => rw [ev] at hi; cases hi
    | some w =>
      rw [ev] at hi
      have hil := (List.getElem?_eq_some_iff.mp ev).1
      obtain ⟨g1, g2, g3, g4⟩ := b3 i w ev
      cases hi
      rw [hx, hx, hx, hx, if_neg (by omega), if_neg (by omega), if_neg (by omega), g1, g2, g3, g4]
      dsimp only
      by_cases c : w.2.2.2 = nI s
      · rw [if_pos c, if_pos ⟨by omega, by omega, c⟩]
        exact ⟨rfl, rfl, rfl, rfl⟩
      · rw [if_neg c, if_neg (fun hh => c hh.2.2)]
        exact ⟨rfl, rfl, rfl, rfl⟩
  · rw [if_neg (by omega)]
  · refine ok.bd (it_inv (Q := fun f' => RW R w0 D f' (clA (msA (sSd T 0 s (nI 3)) s 6) s 8)) (fun i x => x.1 = nI i ∧ RW R w0 D x.2 (clA (msA (sSd T 0 s (nI 3)) s 6) s i)) 8 (fun i x hi hI => ?_) (fun x hI => ?_) (i := 0) ⟨rfl, h2.to (show _ = clA (msA (sSd T 0 s (nI 3)) s 6) s 0 from Prod.ext (funext fun c => funext fun o => by simp [clA]) rfl) rfl⟩ (by omega) (by omega)) (fun f3 h3 => ?_)
    · obtain ⟨e, hx⟩ := hI
      unfold fW_makeSure_51
      simp (disch := omega) only [izN, nI_add, mulI, rdW, wrW, Option.bind_some, e, leI, hx.dp]
      rw [if_neg (by omega)]
      refine ok.ret ⟨rfl, (hx.sd (c := 3) (by omega) hi _).to (Prod.ext (funext fun c => funext fun o => ?_) rfl) rfl⟩
      show (if c = 3 ∧ o = i then (if 3 = 3 ∧ i < i then _ else _) &&& _ else if c = 3 ∧ o < i then _ else _) = if c = 3 ∧ o < i + 1 then _ else _
      grind [bitA]
    · obtain ⟨e, hx⟩ := hI
      unfold fW_makeSure_51
      simp (disch := omega) only [izN, nI_add, mulI, rdW, wrW, Option.bind_some, e, leI]
      exact ok.ret hx
    · simp (disch := omega) only [izN, nI_add, mulI, rdW, wrW, Option.bind_some, h3.sp]
      exact (W_note hu h3 _ _ _).bd (fun f4 h4 => ok.ret h4)
/-! the oldest who lives; to prune -/
def olN (T : ET) : Nat → Option Nat
  | 0 => none
  | n + 1 => if lvT T n = true then (olN T n).elim (some n) (fun o => if tSd T 1 o ≤ tSd T 1 n then some o else some n) else olN T n
theorem olN_lt {T : ET} {n o : Nat} (h : olN T n = some o) : o < n ∧ lvT T o = true := by
  induction n with
  | zero => cases h
  | succ n ih =>
    unfold olN at h
    cases e : olN T n with
    | none =>
      rw [e] at h ih
      grind
    | some q =>
      rw [e] at h ih
      have := @ih
      grind
theorem W_oldestSeat {u : Nat} (hu : 1000 ≤ u) {R : ER} {w0 : Int32} {D : Nat → List De} {f : Nat → Int32} {T : ET} (h : RW R w0 D f T) : fW_oldestSeat u f = some ((olN T 8).elim (iz (-1)) nI) := by
  unfold fW_oldestSeat
  refine bdE (it_up (fun i => ((olN T i).elim (iz (-1)) nI, nI i)) 8 (fun i hi => ?_) ?_ (i := 0) (by omega) (by omega))
  · unfold fW_oldestSeat_4
    simp (disch := omega) only [izN, nI_add, mulI, rdW, wrW, Option.bind_some, leI, W_isLive hu h]
    rw [if_neg (by omega)]
    conv => rhs; unfold olN
    cases e : olN T i with
    | none => grind
    | some o =>
      have ho := (olN_lt e).1
      have := neN1 (a := o) (by omega)
      simp (disch := omega) only [izN, nI_add, mulI, rdW, wrW, Option.bind_some, Option.elim, h.sp]
      grind
  · unfold fW_oldestSeat_4
    simp (disch := omega) only [izN, nI_add, mulI, rdW, wrW, Option.bind_some, leI]
    rfl
def vG (l : List Vr) (i : Nat) : Vr := l[i]?.getD (0, 0, 0, 0)
/-- the last sure one not above a stamp -/
def suL (l : List Vr) (x : Int32) : Option Nat := lst (fun i => decide ((vG l i).2.2.2 = iz (-1) ∧ (vG l i).1 ≤ x)) l.length
theorem lst_ext {p : Nat → Bool} {n m : Nat} (h : n ≤ m) (hp : ∀ i, n ≤ i → i < m → p i = false) : lst p m = lst p n := by
  induction m with
  | zero => rw [Nat.le_zero.mp h]
  | succ m ih =>
    by_cases e : n = m + 1
    · rw [e]
    · show (if p m = true then some m else lst p m) = lst p n
      rw [hp m (by omega) (by omega), if_neg (by decide)]
      exact (ih (by omega) (fun i h1 h2 => hp i h1 (by omega)))
theorem W_lastSureSlot {u : Nat} (hu : 1000 ≤ u) {R : ER} {w0 : Int32} {D : Nat → List De} {f : Nat → Int32} {T : ET} (h : RW R w0 D f T) {k : Nat} (hk : k < 6) (x : Int32) : fW_lastSureSlot u f (nI k) x = some ((suL (tVs T k) x).elim (iz (-1)) (fun i => nI (k * 9 + i))) := by
  have hl := h.l9 hk
  unfold fW_lastSureSlot
  have e9 : iz 8 = nI 9 - nI 1 := by decide +kernel
  rw [e9]
  refine (bdE (it_lst (fun i => nI i - nI 1) (fun i => decide (i < (tVs T k).length ∧ (vA T k i).2.2.2 = iz (-1) ∧ (vA T k i).1 ≤ x)) 9 (.inl ()) (fun i => .inr (nI (k * 9 + i))) (fun i hi hp => ?_) (fun i hi hp => ?_) ?_ (by omega))).trans ?_
  · unfold fW_lastSureSlot_9
    simp (disch := omega) only [izN, nI_add, mulI, rdW, wrW, Option.bind_some, decI, ltI, leI, h.mn, m1I, Nat.not_lt_zero, if_false]
    by_cases c : (tVs T k).length ≤ i
    · rw [if_pos c]
      simp
    · simp (disch := omega) only [h.v4, h.v1]
      simp only [ltN]
      grind [i10]
  · have hp' := of_decide_eq_true hp
    unfold fW_lastSureSlot_9
    simp (disch := omega) only [izN, nI_add, mulI, rdW, wrW, Option.bind_some, decI, ltI, leI, h.mn, m1I, Nat.not_lt_zero, if_false, h.v4 hk hp'.1, h.v1 hk hp'.1]
    simp only [ltN]
    grind [i10]
  · unfold fW_lastSureSlot_9
    rw [zero_dec]
    rfl
  · have e2 : lst (fun i => decide (i < (tVs T k).length ∧ (vA T k i).2.2.2 = iz (-1) ∧ (vA T k i).1 ≤ x)) 9 = suL (tVs T k) x := by
      rw [lst_ext hl (fun i h1 h2 => by simp; omega)]
      unfold suL
      refine lst_congr (fun i hi => ?_)
      have ev : vA T k i = vG (tVs T k) i := rfl
      rw [ev]
      simp [hi]
    rw [e2]
    cases suL (tVs T k) x <;> rfl
