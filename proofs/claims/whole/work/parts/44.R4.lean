/-! reading: World -/
theorem vA_set {T : ET} {k i : Nat} {v : Vr} (hi : i < (tVs T k).length) (j : Nat) : vA (sVs T k ((tVs T k).set i v)) k j = if j = i then v else vA T k j := by
  unfold vA sVs
  show (((if k = k then _ else _)[j]?).getD _) = _
  rw [if_pos rfl, List.getElem?_set]
  by_cases e : j = i
  · rw [if_pos e, if_pos e.symm, if_pos (by omega)]; rfl
  · rw [if_neg e, if_neg (Ne.symm e)]
/-- the version that one at a seat reads -/
def rdP (T : ET) (s k i : Nat) : Bool := decide (((vA T k i).2.2.2 = iz (-1) ∨ (vA T k i).2.2.2 = nI s ∨ tSd T 2 s = nI 1) ∧ (vA T k i).1 ≤ tSd T 1 s)
def rdI (T : ET) (s k : Nat) : Option Nat := lst (rdP T s k) (tVs T k).length
theorem decI (i : Nat) : nI (i + 1) - nI 1 = nI i := by
  rw [subI (by omega)]; rfl
theorem decI' (i : Nat) : nI (i + 1) + iz (-1) = nI i := pk_m1 i
theorem zero_dec : nI 0 - nI 1 = iz (-1) := by decide +kernel
theorem pre_dec (i : Nat) : nI i - nI 1 + iz (-1) = nI i - nI 1 - nI 1 := by
  have : iz (-1) = - nI 1 := by decide +kernel
  rw [this, ← Int32.sub_eq_add_neg]
theorem min9 {n : Nat} (h : n ≤ 9) : (if nI 9 < nI n then nI 9 else nI n) = nI n := by
  rw [if_neg (by rw [ltI (by omega) (by omega)]; omega)]
theorem m1I (x : Int32) : x + iz (-1) = x - nI 1 := by
  have : iz (-1) = - nI 1 := by decide +kernel
  rw [this, ← Int32.sub_eq_add_neg]
theorem ltN (a b : Int32) : (a < b) = ¬ (b ≤ a) := by
  apply propext
  rw [Int32.lt_iff_toInt_lt, Int32.le_iff_toInt_le]
  omega
theorem i10 : nI 1 ≠ nI 0 := by decide +kernel
theorem W_slotToRead {u : Nat} (hu : 1000 ≤ u) {R : ER} {w0 : Int32} {D : Nat → List De} {f : Nat → Int32} {T : ET} (h : RW R w0 D f T) {s k : Nat} (hs : s < 8) (hk : k < 6) : fW_slotToRead u f (nI s) (nI k) = some ((rdI T s k).elim (iz (-1)) (fun i => nI (k * 9 + i))) := by
  have hl := h.l9 hk
  unfold fW_slotToRead
  simp (disch := omega) only [izN, nI_add, mulI, rdW, wrW, Option.bind_some, h.mn, min9]
  refine (bdE (it_lst (fun i => nI i - nI 1) (rdP T s k) (tVs T k).length (.inl ()) (fun i => .inr (nI (k * 9 + i))) (fun i hi hp => ?_) (fun i hi hp => ?_) ?_ (by omega))).trans ?_
  · unfold fW_slotToRead_24
    unfold rdP at hp
    simp (disch := omega) only [izN, nI_add, mulI, rdW, wrW, Option.bind_some, decI, ltI, ← Nat.add_assoc, h.v4, h.v1, h.wy, h.sp, Nat.not_lt_zero, if_false, m1I]
    simp only [ltN]
    grind [i10]
  · unfold fW_slotToRead_24
    unfold rdP at hp
    simp (disch := omega) only [izN, nI_add, mulI, rdW, wrW, Option.bind_some, decI, ltI, ← Nat.add_assoc, h.v4, h.v1, h.wy, h.sp, Nat.not_lt_zero, if_false, m1I]
    simp only [ltN]
    grind [i10]
  · unfold fW_slotToRead_24
    rw [zero_dec]
    rfl
  · unfold rdI
    cases lst _ _ <;> rfl
def doom1 (a b : Int32) (T : ET) (v : Vr) : ET := if a < v.1 ∧ v.1 < b ∧ inR v.2.2.2 8 = true then sSd T 4 v.2.2.2.toInt.toNat (nI 1) else T
def doomT (T : ET) (l : List Vr) (a b : Int32) : ET := l.foldl (doom1 a b) T
theorem doom1_2 {a b : Int32} {T : ET} {v : Vr} : (doom1 a b T v).2 = T.2 := by
  unfold doom1
  split <;> rfl
theorem doomT_2 {l : List Vr} {a b : Int32} : ∀ {T : ET}, (doomT T l a b).2 = T.2 := by
  unfold doomT
  induction l with
  | nil => intro T; rfl
  | cons v l ih => intro T; rw [List.foldl_cons, ih, doom1_2]
theorem doomT_take {T : ET} {l : List Vr} {a b : Int32} {i : Nat} {v : Vr} (h : l[i]? = some v) : doomT T (l.take (i + 1)) a b = doom1 a b (doomT T (l.take i) a b) v := by
  unfold doomT
  rw [List.take_add_one, h, List.foldl_append]
  rfl
theorem tVs_of {T T' : ET} (h : T'.2 = T.2) (k : Nat) : tVs T' k = tVs T k := by
  show T'.2.2.1 k = T.2.2.1 k
  rw [h]
theorem vA_of {T T' : ET} (h : T'.2 = T.2) (k i : Nat) : vA T' k i = vA T k i := by
  unfold vA
  rw [tVs_of h]
theorem nI_back {a : Nat} (h : a < 1000000000) : (nI a).toInt.toNat = a := by rw [toI h]; rfl
theorem W_doomBetween {u : Nat} (hu : 1000 ≤ u) {R : ER} {w0 : Int32} {D : Nat → List De} {f : Nat → Int32} {T : ET} (h : RW R w0 D f T) {k : Nat} (hk : k < 6) (a b : Int32) : ok (fW_doomBetween u f (nI k) a b) (fun f' => RW R w0 D f' (doomT T (tVs T k) a b)) := by
  have hl := h.l9 hk
  unfold fW_doomBetween
  refine ok.bd (it_inv (Q := fun f' => RW R w0 D f' (doomT T (tVs T k) a b)) (fun i x => x.1 = nI i ∧ RW R w0 D x.2 (doomT T ((tVs T k).take i) a b)) (tVs T k).length (fun i x hi hI => ?_) (fun x hI => ?_) (i := 0) ⟨rfl, h⟩ (by omega) (by omega)) (fun f' hf' => ok.ret hf')
  · obtain ⟨e, hx⟩ := hI
    have e2 := tVs_of (doomT_2 (T := T) (l := (tVs T k).take i) (a := a) (b := b)) k
    have hv := vA_eq hi
    have ev := vA_of (doomT_2 (T := T) (l := (tVs T k).take i) (a := a) (b := b)) k i
    have hi2 : i < (tVs (doomT T ((tVs T k).take i) a b) k).length := by rw [e2]; exact hi
    unfold fW_doomBetween_9
    simp (disch := omega) only [izN, nI_add, mulI, rdW, wrW, Option.bind_some, e, leI, hx.mn, hx.v1 hk hi2, hx.v4 hk hi2, e2, ev]
    rw [if_neg (by omega), if_neg (by omega)]
    have key : ∀ f', RW R w0 D f' (doom1 a b (doomT T ((tVs T k).take i) a b) (vA T k i)) → ok (some (.inl (nI (i + 1), f')) : Option ((Int32 × (Nat → Int32)) ⊕ (Nat → Int32))) (Sum.elim (fun x => x.1 = nI (i + 1) ∧ RW R w0 D x.2 (doomT T ((tVs T k).take (i + 1)) a b)) (fun f' => RW R w0 D f' (doomT T (tVs T k) a b))) := fun f' hf' => ok.ret ⟨rfl, by rw [doomT_take hv]; exact hf'⟩
    unfold doom1 at key
    by_cases c1 : (vA T k i).1 ≤ a
    · rw [if_pos c1]
      refine key _ ?_
      rw [if_neg (by simp only [ltN]; grind)]
      exact hx
    · rw [if_neg c1]
      by_cases c2 : b ≤ (vA T k i).1
      · rw [if_pos c2]
        refine key _ ?_
        rw [if_neg (by simp only [ltN]; grind)]
        exact hx
      · rw [if_neg c2]
        by_cases c3 : inR (vA T k i).2.2.2 8 = true
        · obtain ⟨o, ho, eo⟩ := inR_of c3
          rw [eo]
          simp (disch := omega) only [izN, nI_add, mulI, rdW, wrW, Option.bind_some, leI, ltI]
          rw [if_neg (by omega), if_neg (by omega)]
          refine key _ ?_
          rw [if_pos ⟨by rw [ltN]; exact c1, by rw [ltN]; exact c2, c3⟩, eo, nI_back (by omega)]
          exact hx.sd (c := 4) (by omega) ho (nI 1)
        · have : (if (vA T k i).2.2.2 < nI 0 then some x.2 else if nI 8 ≤ (vA T k i).2.2.2 then some x.2 else (nx_wr 514 x.2 (nI 72 + (vA T k i).2.2.2) (nI 1)).bind fun f5 => some f5 : Option (Nat → Int32)) = some x.2 := by
            unfold inR at c3
            have c3 : ¬ (0 ≤ (vA T k i).2.2.2.toInt ∧ (vA T k i).2.2.2.toInt < (8 : Nat)) := by simpa using c3
            simp (disch := omega) only [Int32.lt_iff_toInt_lt, Int32.le_iff_toInt_le, toI]
            by_cases c4 : (vA T k i).2.2.2.toInt < (0 : Nat)
            · rw [if_pos c4]
            · rw [if_neg c4, if_pos (by omega)]
          rw [this]
          refine key _ ?_
          rw [if_neg (by grind)]
          exact hx
  · obtain ⟨e, hx⟩ := hI
    unfold fW_doomBetween_9
    have e2 := tVs_of (doomT_2 (T := T) (l := (tVs T k).take (tVs T k).length) (a := a) (b := b)) k
    simp (disch := omega) only [izN, nI_add, mulI, rdW, wrW, Option.bind_some, e, leI, hx.mn, e2]
    rw [List.take_length] at hx
    split
    · exact ok.ret hx
    · rw [if_pos (by omega)]; exact ok.ret hx
theorem blkW.set {f : Nat → Int32} {k i : Nat} {l : List Vr} {v v' : Vr} (h : blkW f k l) (hi : l[i]? = some v) {f' : Nat → Int32} (hf : ∀ j, (j < 238 ∨ 454 ≤ j) → f' j = f j) (hk : k < 6) (h0 : ∀ j, j < 9 → j ≠ i → f' (238 + k * 9 + j) = f (238 + k * 9 + j) ∧ f' (292 + k * 9 + j) = f (292 + k * 9 + j) ∧ f' (346 + k * 9 + j) = f (346 + k * 9 + j) ∧ f' (400 + k * 9 + j) = f (400 + k * 9 + j)) (h1 : f' (238 + k * 9 + i) = v'.1 ∧ f' (292 + k * 9 + i) = v'.2.1 ∧ f' (346 + k * 9 + i) = v'.2.2.1 ∧ f' (400 + k * 9 + i) = v'.2.2.2) : blkW f' k (l.set i v') := by
  obtain ⟨g1, g2, g3⟩ := h
  refine ⟨by rw [List.length_set]; exact g1, by rw [List.length_set, hf _ (by omega)]; exact g2, fun j w hj => ?_⟩
  have hlt : i < l.length := (List.getElem?_eq_some_iff.mp hi).1
  by_cases e : i = j
  · subst e
    rw [List.getElem?_set_self hlt] at hj
    cases hj
    exact h1
  · rw [List.getElem?_set_ne e] at hj
    have hj9 : j < l.length := (List.getElem?_eq_some_iff.mp hj).1
    obtain ⟨a, b, c, d⟩ := h0 j (by omega) (Ne.symm e)
    obtain ⟨a', b', c', d'⟩ := g3 j w hj
    exact ⟨a.trans a', b.trans b', c.trans c', d.trans d'⟩
/-- the seen stamp of version i -/
theorem RW.seen {R : ER} {w0 : Int32} {D : Nat → List De} {f : Nat → Int32} {T : ET} (h : RW R w0 D f T) {k i : Nat} (hk : k < 6) (hi : i < (tVs T k).length) (x : Int32) : RW R w0 D (upd f (346 + k * 9 + i) x) (sVs T k ((tVs T k).set i ((vA T k i).1, (vA T k i).2.1, x, (vA T k i).2.2.2))) := by
  have hl := h.l9 hk
  refine h.vs hk ((h.bb hk).set (vA_eq hi) (fun j hj => upd_n (by omega)) hk (fun j h9 hne => ⟨upd_n (by omega), upd_n (by omega), upd_n (by omega), upd_n (by omega)⟩) ⟨by rw [upd_n (by omega)]; exact h.v1 hk hi, by rw [upd_n (by omega)]; exact h.v2 hk hi, upd_s, by rw [upd_n (by omega)]; exact h.v4 hk hi⟩) (fun j h1 h2 h3 h4 h5 => upd_n (by omega))
theorem RW.valu {R : ER} {w0 : Int32} {D : Nat → List De} {f : Nat → Int32} {T : ET} (h : RW R w0 D f T) {k i : Nat} (hk : k < 6) (hi : i < (tVs T k).length) (x : Int32) : RW R w0 D (upd f (292 + k * 9 + i) x) (sVs T k ((tVs T k).set i ((vA T k i).1, x, (vA T k i).2.2.1, (vA T k i).2.2.2))) := by
  have hl := h.l9 hk
  refine h.vs hk ((h.bb hk).set (vA_eq hi) (fun j hj => upd_n (by omega)) hk (fun j h9 hne => ⟨upd_n (by omega), upd_n (by omega), upd_n (by omega), upd_n (by omega)⟩) ⟨by rw [upd_n (by omega)]; exact h.v1 hk hi, upd_s, by rw [upd_n (by omega)]; exact h.v3 hk hi, by rw [upd_n (by omega)]; exact h.v4 hk hi⟩) (fun j h1 h2 h3 h4 h5 => upd_n (by omega))
def maxI (a b : Int32) : Int32 := if a < b then b else a
def lvA (T : ET) (s k i : Nat) : ET := sRk (sVs T k ((tVs T k).set i ((vA T k i).1, (vA T k i).2.1, maxI (vA T k i).2.2.1 (tSd T 1 s), (vA T k i).2.2.2))) s k (vA T k i).1
/-- who reads leaves its stamp -/
def leaveT (T : ET) (s k i : Nat) : ET :=
  if tSd T 2 s = nI 0 then doomT (lvA T s k i) (tVs (lvA T s k i) k) (vA T k i).1 (tSd T 1 s)
  else if (vA T k i).2.2.2 = iz (-1) then lvA T s k i
  else sSd (lvA T s k i) 3 s (tSd T 3 s ||| (nI 1 <<< ((vA T k i).2.2.2 &&& 31)))
theorem tVs_lvA {T : ET} {s k i : Nat} : tVs (lvA T s k i) k = (tVs T k).set i ((vA T k i).1, (vA T k i).2.1, maxI (vA T k i).2.2.1 (tSd T 1 s), (vA T k i).2.2.2) := by
  unfold lvA
  show (if k = k then _ else _) = _
  rw [if_pos rfl]
theorem vA_lvA {T : ET} {s k i : Nat} (hi : i < (tVs T k).length) (j : Nat) : vA (lvA T s k i) k j = if j = i then ((vA T k i).1, (vA T k i).2.1, maxI (vA T k i).2.2.1 (tSd T 1 s), (vA T k i).2.2.2) else vA T k j := vA_set hi j
theorem W_leaveStamp {u : Nat} (hu : 1000 ≤ u) {R : ER} {w0 : Int32} {D : Nat → List De} {f : Nat → Int32} {T : ET} (h : RW R w0 D f T) {s k i : Nat} (hs : s < 8) (hk : k < 6) (hi : i < (tVs T k).length) : ok (fW_leaveStamp u f (nI s) (nI k) (nI (k * 9 + i))) (fun f' => RW R w0 D f' (leaveT T s k i)) := by
  have hl := h.l9 hk
  unfold fW_leaveStamp
  simp (disch := omega) only [izN, nI_add, mulI, rdW, wrW, Option.bind_some, ← Nat.add_assoc, h.sp, h.v4, h.v3, upd_n, h.v1, h.wy]
  have h1 := (h.seen hk hi (maxI (vA T k i).2.2.1 (tSd T 1 s))).rk hs hk (vA T k i).1
  have e1 : (sRk (sVs T k ((tVs T k).set i ((vA T k i).1, (vA T k i).2.1, maxI (vA T k i).2.2.1 (tSd T 1 s), (vA T k i).2.2.2))) s k (vA T k i).1) = lvA T s k i := rfl
  rw [e1] at h1
  unfold leaveT
  by_cases c1 : tSd T 2 s = nI 0
  · rw [if_pos c1, if_pos c1]
    exact (W_doomBetween hu h1 hk _ _).bd (fun f' hf' => ok.ret hf')
  · rw [if_neg c1, if_neg c1]
    by_cases c2 : (vA T k i).2.2.2 = iz (-1)
    · rw [if_pos c2, if_pos c2]
      exact ok.ret h1
    · rw [if_neg c2, if_neg c2]
      simp (disch := omega) only [izN, nI_add, mulI, rdW, wrW, Option.bind_some, upd_n, h.dp]
      exact ok.ret (h1.sd (c := 3) (by omega) hs _)
def readT (T : ET) (s k i : Nat) : ET := noteT (if (vA T k i).2.2.2 = nI s then T else leaveT T s k i) (nI 1, nI s, (vA T k i).1)
theorem leaveT_vs {T : ET} {s k i : Nat} : (leaveT T s k i).2 = (lvA T s k i).2 := by
  unfold leaveT
  split
  · exact doomT_2
  · split <;> rfl
theorem W_readKey {u : Nat} (hu : 1000 ≤ u) {R : ER} {w0 : Int32} {D : Nat → List De} {f : Nat → Int32} {T : ET} (h : RW R w0 D f T) {s k i : Nat} (hs : s < 8) (hk : k < 6) (hi : rdI T s k = some i) : ok (fW_readKey u f (nI s) (nI k)) (fun r => r.1 = (vA T k i).2.1 ∧ RW R w0 D r.2 (readT T s k i)) := by
  have hl := h.l9 hk
  have hi' := (lst_some hi).1
  unfold fW_readKey
  rw [W_slotToRead hu h hs hk, hi]
  simp (disch := omega) only [izN, nI_add, mulI, rdW, wrW, Option.bind_some, Option.elim, L_within, inR_nI]
  rw [if_pos (by simp; omega)]
  simp (disch := omega) only [izN, nI_add, mulI, rdW, wrW, Option.bind_some, ← Nat.add_assoc, h.v4]
  refine ok.bd (P := fun f' => RW R w0 D f' (if (vA T k i).2.2.2 = nI s then T else leaveT T s k i)) ?_ (fun f' hf' => ?_)
  · by_cases c : (vA T k i).2.2.2 = nI s
    · rw [if_pos c]
      exact ok.ret (by rw [if_pos c]; exact h)
    · rw [if_neg c]
      exact (W_leaveStamp hu h hs hk hi').bd (fun f' hf' => ok.ret (by rw [if_neg c]; exact hf'))
  · have e2 : tVs (if (vA T k i).2.2.2 = nI s then T else leaveT T s k i) k = if (vA T k i).2.2.2 = nI s then tVs T k else (tVs T k).set i ((vA T k i).1, (vA T k i).2.1, maxI (vA T k i).2.2.1 (tSd T 1 s), (vA T k i).2.2.2) := by
      split
      · rfl
      · rw [tVs_of leaveT_vs, tVs_lvA]
    have e3 : i < (tVs (if (vA T k i).2.2.2 = nI s then T else leaveT T s k i) k).length := by
      rw [e2]; split
      · exact hi'
      · rw [List.length_set]; exact hi'
    have e4 : (vA (if (vA T k i).2.2.2 = nI s then T else leaveT T s k i) k i).1 = (vA T k i).1 ∧ (vA (if (vA T k i).2.2.2 = nI s then T else leaveT T s k i) k i).2.1 = (vA T k i).2.1 := by
      split
      · exact ⟨rfl, rfl⟩
      · rw [vA_of leaveT_vs, vA_lvA hi', if_pos rfl]; exact ⟨rfl, rfl⟩
    simp (disch := omega) only [izN, nI_add, mulI, rdW, wrW, Option.bind_some, hf'.v1 hk e3, e4.1]
    refine (W_note hu hf' _ _ _).bd (fun f2 h2 => ?_)
    exact ok.ret ⟨(h2.v2 hk e3).trans e4.2, h2⟩
