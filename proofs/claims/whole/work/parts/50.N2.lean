/-! a key's versions: Model -/
theorem tob01 (b : Bool) : nx_tob (if b = true then nI 1 else nI 0) = some b := by cases b <;> decide +kernel
theorem M_placeOf {u : Nat} (hu : 1000 ≤ u) {g0 : mS} {R : ER} {m0 : Int32} {tr : Option (Nat → Int32)} {D : Nat → List De} {g : mS} {T : ET} (h : RM g0 R m0 tr D g T) {k : Nat} (hk : k < 6) (x : Int32) : fM_placeOf u g (nI k) x = some ((fst (fun i => decide ((vA T k i).1 = x)) (tVs T k).length).elim (iz (-1)) nI) := by
  have hl := h.q.l9 hk
  unfold fM_placeOf
  refine (bdE (it_fst (fun i => nI i) (fun i => decide ((vA T k i).1 = x)) (tVs T k).length (.inl ()) (fun i => .inr (nI i)) (fun i hi hp => ?_) (fun i hi hp => ?_) ?_ (by omega))).trans ?_
  · unfold fM_placeOf_2
    simp (disch := omega) only [fM_ofSeat, fM_of, fM_keyAt, fM_many, fM_cell, fM_its, izN, nI_add, mulI, rdM, mWr7, mRow_s, mRow_m, mRow_2, Option.bind_some, h.q.mn, leI, h.q.v1]
    rw [if_neg (by omega), if_neg (by simpa using hp)]
  · unfold fM_placeOf_2
    simp (disch := omega) only [fM_ofSeat, fM_of, fM_keyAt, fM_many, fM_cell, fM_its, izN, nI_add, mulI, rdM, mWr7, mRow_s, mRow_m, mRow_2, Option.bind_some, h.q.mn, leI, h.q.v1]
    rw [if_neg (by omega), if_pos (by simpa using hp)]
  · unfold fM_placeOf_2
    simp (disch := omega) only [fM_ofSeat, fM_of, fM_keyAt, fM_many, fM_cell, fM_its, izN, nI_add, mulI, rdM, mWr7, mRow_s, mRow_m, mRow_2, Option.bind_some, h.q.mn, leI]
    rw [if_pos (by omega)]
  · cases fst _ _ <;> rfl
/-- a loop that looks whether there is one -/
def anyP (p : Nat → Bool) : Nat → Bool
  | 0 => false
  | n + 1 => anyP p n || p n
theorem anyP_succ {p : Nat → Bool} {n : Nat} : anyP p (n + 1) = (anyP p n || p n) := rfl
theorem anyP_fst {p : Nat → Bool} {n : Nat} : anyP p n = (fst p n).isSome := by
  induction n with
  | zero => rfl
  | succ n ih =>
    unfold anyP
    rw [ih]
    cases e : fst p n with
    | some i =>
      obtain ⟨a, b, c⟩ := fst_some e
      rw [fst_of (by omega : i < n + 1) b c]
      rfl
    | none =>
      have hn := fst_none e
      by_cases hp : p n = true
      · rw [fst_of (by omega : n < n + 1) hp hn, hp]
        rfl
      · rw [fst_nil (n := n + 1) (fun j hj => by
          by_cases ej : j = n
          · rw [ej]; simpa using hp
          · exact hn j (by omega))]
        simpa using hp
theorem M_isLate {u : Nat} (hu : 1000 ≤ u) {g0 : mS} {R : ER} {m0 : Int32} {tr : Option (Nat → Int32)} {D : Nat → List De} {g : mS} {T : ET} (h : RM g0 R m0 tr D g T) {k : Nat} (hk : k < 6) (x : Int32) : fM_isLate u g (nI k) x = some (laT T k x) := by
  have hl := h.q.l9 hk
  unfold fM_isLate laT
  rw [← anyP_fst]
  refine (bdE (it_up (fun i => ((if anyP (laP T k x) i = true then nI 1 else nI 0), nI i)) (tVs T k).length (r := if anyP (laP T k x) (tVs T k).length = true then nI 1 else nI 0) (fun i hi => ?_) ?_ (i := 0) (by omega) (by omega))).trans ?_
  · unfold fM_isLate_5
    simp (disch := omega) only [fM_ofSeat, fM_of, fM_keyAt, fM_many, fM_cell, fM_its, izN, nI_add, mulI, rdM, mWr7, mRow_s, mRow_m, mRow_2, Option.bind_some, h.q.mn, leI, h.q.v1, h.q.v3]
    rw [if_neg (by omega)]
    rw [anyP_succ, show laP T k x i = decide ((vA T k i).1 ≤ x ∧ ¬ (vA T k i).2.2.1 ≤ x) from rfl]
    generalize anyP (laP T k x) i = z
    simp only [ltN]
    grind [i10]
  · unfold fM_isLate_5
    simp (disch := omega) only [fM_ofSeat, fM_of, fM_keyAt, fM_many, fM_cell, fM_its, izN, nI_add, mulI, rdM, mWr7, mRow_s, mRow_m, mRow_2, Option.bind_some, h.q.mn, leI]
    rw [if_pos (by omega)]
  · rw [tob01]
    rfl
theorem blkM.c {f : Nat → Int32} {k : Nat} {l : List Vr} (h : blkM f k l) {c i : Nat} {v : Vr} (hc : c < 4) (hi : l[i]? = some v) : f (384 + 37 * k + 4 * i + (1 + c)) = col v c := by
  obtain ⟨a, b, c', d⟩ := h.2.2 i v hi
  obtain rfl | rfl | rfl | rfl : c = 0 ∨ c = 1 ∨ c = 2 ∨ c = 3 := by omega
  · exact a
  · exact b
  · exact c'
  · exact d
theorem blkM.mk {f : Nat → Int32} {k : Nat} {l : List Vr} (h1 : l.length ≤ 9) (h2 : f (384 + 37 * k) = nI l.length) (h : ∀ (c i : Nat) (v : Vr), c < 4 → l[i]? = some v → f (384 + 37 * k + 4 * i + (1 + c)) = col v c) : blkM f k l := ⟨h1, h2, fun i v hi => ⟨h 0 i v (by omega) hi, h 1 i v (by omega) hi, h 2 i v (by omega) hi, h 3 i v (by omega) hi⟩⟩
theorem M_dropVersion {u : Nat} (hu : 1000 ≤ u) {g0 : mS} {R : ER} {m0 : Int32} {tr : Option (Nat → Int32)} {D : Nat → List De} {g : mS} {T : ET} (h : RM g0 R m0 tr D g T) {k i : Nat} (hk : k < 6) (hi : i < (tVs T k).length) : ok (fM_dropVersion u g (nI k) (nI i)) (fun g' => RM g0 R m0 tr D g' (sVs T k ((tVs T k).eraseIdx i))) := by
  have hl := h.q.l9 hk
  unfold fM_dropVersion
  simp (disch := omega) only [fM_ofSeat, fM_of, fM_keyAt, fM_many, fM_cell, fM_its, izN, nI_add, mulI, rdM, mWr7, mRow_s, mRow_m, mRow_2, Option.bind_some]
  refine ok.bd (it_inv (Q := fun g' => g' = mRow g 7 (g'.1 7) ∧ ∀ j, g'.1 7 j = if 384 + 37 * k + 4 * i + 1 ≤ j ∧ j < 384 + 37 * k + 4 * ((tVs T k).length - 1) + 1 then g.1 7 (j + 4) else g.1 7 j) (fun t x => x.1 = nI (384 + 37 * k + 4 * i + 1 + t) ∧ x.2 = mRow g 7 (x.2.1 7) ∧ ∀ j, x.2.1 7 j = if 384 + 37 * k + 4 * i + 1 ≤ j ∧ j < 384 + 37 * k + 4 * i + 1 + t then g.1 7 (j + 4) else g.1 7 j) (4 * ((tVs T k).length - 1 - i)) (fun t x ht hI => ?_) (fun x hI => ?_) (i := 0) ⟨rfl, mRow_i.symm, fun j => by rw [if_neg (by omega)]⟩ (by omega) (by omega)) (fun g' hg' => ?_)
  · obtain ⟨e1, e2, hx⟩ := hI
    have em : x.2.1 7 (384 + 37 * k) = nI (tVs T k).length := by rw [hx, if_neg (by omega)]; exact h.q.mn hk
    unfold fM_dropVersion_7
    simp (disch := omega) only [fM_ofSeat, fM_of, fM_keyAt, fM_many, fM_cell, fM_its, izN, nI_add, mulI, rdM, mWr7, mRow_s, mRow_m, mRow_2, Option.bind_some, em, subI, e1, leI]
    rw [if_neg (by omega)]
    refine ok.ret ⟨rfl, ?_, fun j => ?_⟩
    · show mRow x.2 7 _ = _
      rw [e2]
      simp only [mRow_s, mRow_m]
    · show (mRow x.2 7 _).1 7 j = _
      rw [mRow_s]
      by_cases e : j = 384 + 37 * k + 4 * i + 1 + t
      · rw [upd_e e, hx, if_neg (by omega), if_pos (by omega), e]
      · rw [upd_n e, hx]
        by_cases e3 : 384 + 37 * k + 4 * i + 1 ≤ j ∧ j < 384 + 37 * k + 4 * i + 1 + t
        · rw [if_pos e3, if_pos (by omega)]
        · rw [if_neg e3, if_neg (by omega)]
  · obtain ⟨e1, e2, hx⟩ := hI
    have em : x.2.1 7 (384 + 37 * k) = nI (tVs T k).length := by rw [hx, if_neg (by omega)]; exact h.q.mn hk
    unfold fM_dropVersion_7
    simp (disch := omega) only [fM_ofSeat, fM_of, fM_keyAt, fM_many, fM_cell, fM_its, izN, nI_add, mulI, rdM, mWr7, mRow_s, mRow_m, mRow_2, Option.bind_some, em, subI, e1, leI]
    rw [if_pos (by omega)]
    refine ok.ret ⟨e2, fun j => ?_⟩
    rw [hx j, show 384 + 37 * k + 4 * i + 1 + 4 * ((tVs T k).length - 1 - i) = 384 + 37 * k + 4 * ((tVs T k).length - 1) + 1 by omega]
  · obtain ⟨e2, hx⟩ := hg'
    have em : g'.1 7 (384 + 37 * k) = nI (tVs T k).length := by rw [hx, if_neg (by omega)]; exact h.q.mn hk
    simp (disch := omega) only [fM_ofSeat, fM_of, fM_keyAt, fM_many, fM_cell, fM_its, izN, nI_add, mulI, rdM, mWr7, mRow_s, mRow_m, mRow_2, Option.bind_some, em, subI]
    rw [e2, mRow_m]
    simp only [mRow_s]
    refine ok.ret (h.h7 rfl (h.q.vs hk (blkM.mk ?_ ?_ (fun c m v hc hm => ?_)) (fun j hj => ?_)))
    · rw [List.length_eraseIdx]; split <;> omega
    · rw [upd_s, List.length_eraseIdx, if_pos hi]
    · rw [upd_n (by omega), hx]
      rcases getE_erase hm with ⟨a, b⟩ | ⟨a, b⟩
      · rw [if_neg (by omega)]
        exact (h.q.bb hk).c hc b
      · have := (List.getElem?_eq_some_iff.mp b).1
        rw [if_pos (by omega), show 384 + 37 * k + 4 * m + (1 + c) + 4 = 384 + 37 * k + 4 * (m + 1) + (1 + c) by omega]
        exact (h.q.bb hk).c hc b
    · rw [upd_n (by omega), hx, if_neg (by omega)]
theorem M_add_in {u : Nat} (hu : 1000 ≤ u) {g g1 : mS} {k i : Nat} (hk : k < 6) (hi : i ≤ 8) (h0 : 1 ≤ i) : ok (nx_iter u (fM_addVersion_51 u (nI k) (nI i, g1)) (nI 1, g)) (fun g' => g' = mRow g 7 (g'.1 7) ∧ ∀ j, g'.1 7 j = if 384 + 37 * k + 4 * i + 1 ≤ j ∧ j < 384 + 37 * k + 4 * i + 5 then g.1 7 (j - 4) else g.1 7 j) := by
  refine it_inv (fun t x => 1 ≤ t ∧ x.1 = nI t ∧ x.2 = mRow g 7 (x.2.1 7) ∧ ∀ j, x.2.1 7 j = if 384 + 37 * k + 4 * i + 1 ≤ j ∧ j < 384 + 37 * k + 4 * i + t then g.1 7 (j - 4) else g.1 7 j) 5 (fun t x ht hI => ?_) (fun x hI => ?_) (i := 1) ⟨by omega, rfl, mRow_i.symm, fun j => by rw [if_neg (by omega)]⟩ (by omega) (by omega)
  · obtain ⟨h1, e1, e2, hx⟩ := hI
    unfold fM_addVersion_51
    simp (disch := omega) only [fM_ofSeat, fM_of, fM_keyAt, fM_many, fM_cell, fM_its, izN, nI_add, mulI, rdM, mWr7, mRow_s, mRow_m, mRow_2, Option.bind_some, subI, e1, ltI]
    rw [if_neg (by omega)]
    refine ok.ret ⟨by omega, rfl, ?_, fun j => ?_⟩
    · show mRow x.2 7 _ = _
      rw [e2]
      simp only [mRow_s, mRow_m]
    · show (mRow x.2 7 _).1 7 j = _
      rw [mRow_s]
      by_cases e : j = 384 + 37 * k + 4 * i + t
      · rw [upd_e e, hx, if_neg (by omega), if_pos (by omega)]
        exact congrArg (g.1 7) (by omega)
      · rw [upd_n e, hx]
        by_cases e3 : 384 + 37 * k + 4 * i + 1 ≤ j ∧ j < 384 + 37 * k + 4 * i + t
        · rw [if_pos e3, if_pos (by omega)]
        · rw [if_neg e3, if_neg (by omega)]
  · obtain ⟨h1, e1, e2, hx⟩ := hI
    unfold fM_addVersion_51
    simp (disch := omega) only [fM_ofSeat, fM_of, fM_keyAt, fM_many, fM_cell, fM_its, izN, nI_add, mulI, rdM, mWr7, mRow_s, mRow_m, mRow_2, Option.bind_some, e1, ltI]
    rw [if_pos (by omega)]
    exact ok.ret ⟨e2, hx⟩
theorem M_addVersion {u : Nat} (hu : 1000 ≤ u) {g0 : mS} {R : ER} {m0 : Int32} {tr : Option (Nat → Int32)} {D : Nat → List De} {g : mS} {T : ET} (h : RM g0 R m0 tr D g T) {s k : Nat} (hs : s < 8) (hk : k < 6) (hl : (tVs T k).length < 9) (value : Int32) : ok (fM_addVersion u g (nI s) (nI k) value) (fun g' => RM g0 R m0 tr D g' (addT T s k value)) := by
  have hp := ipL_le (l := tVs T k) (x := tSd T 1 s)
  unfold fM_addVersion
  simp (disch := omega) only [fM_ofSeat, fM_of, fM_keyAt, fM_many, fM_cell, fM_its, izN, nI_add, mulI, rdM, mWr7, mRow_s, mRow_m, mRow_2, Option.bind_some, h.q.st, h.q.mn]
  refine ok.bd (it_inv (Q := fun r => r.1 = nI (ipL (tVs T k) (tSd T 1 s)) ∧ r.2 = mRow g 7 (r.2.1 7) ∧ ∀ j, r.2.1 7 j = if 384 + 37 * k + 4 * (ipL (tVs T k) (tSd T 1 s)) + 5 ≤ j ∧ j < 384 + 37 * k + 4 * (tVs T k).length + 5 then g.1 7 (j - 4) else if j = 384 + 37 * k then nI ((tVs T k).length + 1) else g.1 7 j) (fun t y => y.1 = nI ((tVs T k).length - t) ∧ y.2 = mRow g 7 (y.2.1 7) ∧ ∀ j, y.2.1 7 j = if 384 + 37 * k + 4 * ((tVs T k).length - t) + 5 ≤ j ∧ j < 384 + 37 * k + 4 * (tVs T k).length + 5 then g.1 7 (j - 4) else if j = 384 + 37 * k then nI ((tVs T k).length + 1) else g.1 7 j) ((tVs T k).length - ipL (tVs T k) (tSd T 1 s)) (fun t y ht hI => ?_) (fun y hI => ?_) (i := 0) ⟨rfl, by simp only [mRow_s], fun j => ?_⟩ (by omega) (by omega)) (fun r hr => ?_)
  · obtain ⟨e1, e2, hy⟩ := hI
    have hv : y.2.1 7 (384 + 37 * k + 4 * ((tVs T k).length - t - 1) + 1) = (vA T k ((tVs T k).length - t - 1)).1 := by
      rw [hy, if_neg (by omega), if_neg (by omega)]
      exact h.q.v1 hk (i := (tVs T k).length - t - 1) (by omega)
    unfold fM_addVersion_28
    simp (disch := omega) only [fM_ofSeat, fM_of, fM_keyAt, fM_many, fM_cell, fM_its, izN, nI_add, mulI, rdM, mWr7, mRow_s, mRow_m, mRow_2, Option.bind_some, e1, subI, leI, hv]
    rw [if_neg (by omega), if_neg (ipL_above (by omega) (by omega))]
    have ey : y = (nI ((tVs T k).length - t), y.2) := Prod.ext e1 rfl
    rw [ey]
    refine (M_add_in hu hk (by omega) (by omega)).bd (fun g' hg' => ?_)
    obtain ⟨e3, hg'⟩ := hg'
    refine ok.ret ⟨?_, ?_, fun j => ?_⟩
    · show nI ((tVs T k).length - t) + iz (-1) = _
      rw [show (tVs T k).length - t = (tVs T k).length - (t + 1) + 1 by omega, decI']
    · show g' = mRow g 7 (g'.1 7)
      rw [e3, mRow_s]
      show mRow y.2 7 _ = _
      rw [e2, mRow_m]
    · show g'.1 7 j = _
      rw [hg']
      show (if 384 + 37 * k + 4 * ((tVs T k).length - t) + 1 ≤ j ∧ j < 384 + 37 * k + 4 * ((tVs T k).length - t) + 5 then y.2.1 7 (j - 4) else y.2.1 7 j) = _
      by_cases c1 : 384 + 37 * k + 4 * ((tVs T k).length - t) + 1 ≤ j ∧ j < 384 + 37 * k + 4 * ((tVs T k).length - t) + 5
      · rw [if_pos c1, hy, if_neg (by omega), if_neg (by omega), if_pos (by omega)]
      · rw [if_neg c1, hy]
        by_cases c2 : 384 + 37 * k + 4 * ((tVs T k).length - t) + 5 ≤ j ∧ j < 384 + 37 * k + 4 * (tVs T k).length + 5
        · rw [if_pos c2, if_pos (by omega)]
        · rw [if_neg c2, if_neg (show ¬ (384 + 37 * k + 4 * ((tVs T k).length - (t + 1)) + 5 ≤ j ∧ j < 384 + 37 * k + 4 * (tVs T k).length + 5) by omega)]
  · obtain ⟨e1, e2, hy⟩ := hI
    have en : (tVs T k).length - ((tVs T k).length - ipL (tVs T k) (tSd T 1 s)) = ipL (tVs T k) (tSd T 1 s) := by omega
    rw [en] at e1 hy
    unfold fM_addVersion_28
    simp (disch := omega) only [fM_ofSeat, fM_of, fM_keyAt, fM_many, fM_cell, fM_its, izN, nI_add, mulI, rdM, mWr7, mRow_s, mRow_m, mRow_2, Option.bind_some, e1, leI]
    by_cases e0 : ipL (tVs T k) (tSd T 1 s) ≤ 0
    · rw [if_pos e0]
      exact ok.ret ⟨rfl, e2, hy⟩
    · obtain ⟨q, hq⟩ : ∃ q, ipL (tVs T k) (tSd T 1 s) = q + 1 := ⟨ipL (tVs T k) (tSd T 1 s) - 1, by omega⟩
      have hv : y.2.1 7 (384 + 37 * k + 4 * q + 1) = (vA T k q).1 := by
        rw [hy, if_neg (by omega), if_neg (by omega)]
        exact h.q.v1 hk (i := q) (by omega)
      rw [if_neg e0]
      rw [hq] at hy ⊢
      simp (disch := omega) only [fM_ofSeat, fM_of, fM_keyAt, fM_many, fM_cell, fM_its, izN, nI_add, mulI, rdM, mWr7, mRow_s, mRow_m, mRow_2, Option.bind_some, subI, Nat.add_sub_cancel, hv]
      rw [if_pos (ipL_below hq)]
      exact ok.ret ⟨rfl, e2, hy⟩
  · show (mRow g 7 _).1 7 j = _
    rw [mRow_s, if_neg (by omega)]
    unfold upd
    rfl
  · obtain ⟨e1, e2, hr⟩ := hr
    rw [e1]
    simp (disch := omega) only [fM_ofSeat, fM_of, fM_keyAt, fM_many, fM_cell, fM_its, izN, nI_add, mulI, rdM, mWr7, mRow_s, mRow_m, mRow_2, Option.bind_some]
    rw [e2, mRow_m]
    simp only [mRow_s]
    refine ok.ret (h.h7 rfl (h.q.vs hk (blkM.mk ?_ ?_ (fun c m v hc hm => ?_)) (fun j hj => ?_)))
    · rw [insL_len hp]; omega
    · rw [upd_n (by omega), upd_n (by omega), upd_n (by omega), upd_n (by omega), hr, if_neg (by omega), if_pos rfl, insL_len hp]
    · have hm9 : m < 9 := by
        have := (List.getElem?_eq_some_iff.mp hm).1
        rw [insL_len hp] at this
        omega
      rcases getE_ins hp hm with ⟨a, b⟩ | ⟨a, b⟩ | ⟨a, b⟩
      · rw [upd_n (by omega), upd_n (by omega), upd_n (by omega), upd_n (by omega), hr, if_neg (by omega), if_neg (by omega)]
        exact (h.q.bb hk).c hc b
      · subst a b
        obtain rfl | rfl | rfl | rfl : c = 0 ∨ c = 1 ∨ c = 2 ∨ c = 3 := by omega
        · rw [upd_n (by omega), upd_n (by omega), upd_n (by omega), upd_e (by omega)]; rfl
        · rw [upd_n (by omega), upd_n (by omega), upd_e (by omega)]; rfl
        · rw [upd_n (by omega), upd_e (by omega)]; rfl
        · rw [upd_e (by omega)]; rfl
      · have hb := (List.getElem?_eq_some_iff.mp b).1
        rw [upd_n (by omega), upd_n (by omega), upd_n (by omega), upd_n (by omega), hr, if_pos (by omega), show 384 + 37 * k + 4 * m + (1 + c) - 4 = 384 + 37 * k + 4 * (m - 1) + (1 + c) by omega]
        exact (h.q.bb hk).c hc b
    · rw [upd_n (by omega), upd_n (by omega), upd_n (by omega), upd_n (by omega), hr, if_neg (by omega), if_neg (by omega)]
