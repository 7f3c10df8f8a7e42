/-! entering; the least stamp; to prune: Model -/
theorem M_seatOne {u : Nat} (hu : 1000 ≤ u) {g0 : mS} {R : ER} {m0 : Int32} {tr : Option (Nat → Int32)} {D : Nat → List De} {g : mS} {T : ET} (h : RM g0 R m0 tr D g T) {s : Nat} (hs : s < 8) (way stamp : Int32) : ok (fM_seatOne u g (nI s) way stamp) (fun g' => RM g0 R m0 tr (setD D s []) g' (enterT T s way stamp)) := by
  unfold fM_seatOne
  refine ok.bd (it_inv (Q := fun g' => g' = mRow g 7 (g'.1 7) ∧ ∀ j, g'.1 7 j = if 48 * s ≤ j ∧ j < 48 * s + 48 then nI 0 else g.1 7 j) (fun t x => x.1 = nI t ∧ x.2 = mRow g 7 (x.2.1 7) ∧ ∀ j, x.2.1 7 j = if 48 * s ≤ j ∧ j < 48 * s + t then nI 0 else g.1 7 j) 48 (fun t x ht hI => ?_) (fun x hI => ?_) (i := 0) ⟨rfl, mRow_i.symm, fun j => by rw [if_neg (by omega)]⟩ (by omega) (by omega)) (fun g1 hg1 => ?_)
  · obtain ⟨e1, e2, hx⟩ := hI
    unfold fM_seatOne_3
    simp (disch := omega) only [fM_ofSeat, fM_of, fM_keyAt, fM_many, fM_cell, fM_its, izN, nI_add, mulI, rdM, mWr7, mRow_s, mRow_m, mRow_2, Option.bind_some, e1, leI]
    rw [if_neg (by omega)]
    refine ok.ret ⟨rfl, ?_, fun j => ?_⟩
    · show mRow x.2 7 _ = _
      rw [e2]
      simp only [mRow_s, mRow_m]
    · show (mRow x.2 7 _).1 7 j = _
      rw [mRow_s]
      by_cases e : j = 48 * s + t
      · rw [upd_e e, if_pos (by omega)]
      · rw [upd_n e, hx]
        by_cases e3 : 48 * s ≤ j ∧ j < 48 * s + t
        · rw [if_pos e3, if_pos (by omega)]
        · rw [if_neg e3, if_neg (by omega)]
  · obtain ⟨e1, e2, hx⟩ := hI
    unfold fM_seatOne_3
    simp (disch := omega) only [fM_ofSeat, fM_of, fM_keyAt, fM_many, fM_cell, fM_its, izN, nI_add, mulI, rdM, mWr7, mRow_s, mRow_m, mRow_2, Option.bind_some, e1, leI]
    rw [if_pos (by omega)]
    exact ok.ret ⟨e2, hx⟩
  · obtain ⟨e1, hg1⟩ := hg1
    simp (disch := omega) only [fM_ofSeat, fM_of, fM_keyAt, fM_many, fM_cell, fM_its, izN, nI_add, mulI, rdM, mWr7, mRow_s, mRow_m, mRow_2, Option.bind_some]
    refine ok.bd (it_inv (Q := fun g' => RM g0 R m0 tr (setD D s []) g' (seatT T s way stamp)) (fun t x => x.1 = nI t ∧ x.2 = mRow g 7 (x.2.1 7) ∧ ∀ j, x.2.1 7 j = if 48 * s + 5 ≤ j ∧ j < 48 * s + 5 + t then iz (-1) else if j = 48 * s then nI 1 else if j = 48 * s + 1 then stamp else if j = 48 * s + 2 then way else if 48 * s ≤ j ∧ j < 48 * s + 48 then nI 0 else g.1 7 j) 6 (fun t x ht hI => ?_) (fun x hI => ?_) (i := 0) ⟨rfl, ?_, fun j => ?_⟩ (by omega) (by omega)) (fun g2 hg2 => ?_)
    · obtain ⟨e1, e2, hx⟩ := hI
      unfold fM_seatOne_64
      simp (disch := omega) only [fM_ofSeat, fM_of, fM_keyAt, fM_many, fM_cell, fM_its, izN, nI_add, mulI, rdM, mWr7, mRow_s, mRow_m, mRow_2, Option.bind_some, e1, leI]
      rw [if_neg (by omega)]
      refine ok.ret ⟨rfl, ?_, fun j => ?_⟩
      · show mRow x.2 7 _ = _
        rw [e2]
        simp only [mRow_s, mRow_m]
      · show (mRow x.2 7 _).1 7 j = _
        rw [mRow_s]
        by_cases e : j = 48 * s + (5 + t)
        · rw [upd_e e, if_pos (by omega)]
        · rw [upd_n e, hx]
          by_cases e3 : 48 * s + 5 ≤ j ∧ j < 48 * s + 5 + t
          · rw [if_pos e3, if_pos (by omega)]
          · rw [if_neg e3, if_neg (show ¬ (48 * s + 5 ≤ j ∧ j < 48 * s + 5 + (t + 1)) by omega)]
    · obtain ⟨e1, e2, hx⟩ := hI
      unfold fM_seatOne_64
      simp (disch := omega) only [fM_ofSeat, fM_of, fM_keyAt, fM_many, fM_cell, fM_its, izN, nI_add, mulI, rdM, mWr7, mRow_s, mRow_m, mRow_2, Option.bind_some, e1, leI]
      rw [if_pos (by omega)]
      refine ok.ret ?_
      show RM g0 R m0 tr (setD D s []) x.2 _
      rw [e2]
      refine h.h7 rfl ?_
      obtain ⟨h4, h5, hh, hsd, hrk, hds, hvs, hl⟩ := h.q
      have n : ∀ j, (j < 48 * s ∨ 48 * s + 48 ≤ j) → x.2.1 7 j = g.1 7 j := by
        intro j hj
        rw [hx, if_neg (by omega), if_neg (by omega), if_neg (by omega), if_neg (by omega), if_neg (by omega)]
      refine ⟨by rw [n _ (by omega)]; exact h4, by rw [n _ (by omega)]; exact h5, hh.kept (fun j _ _ => n j (by omega)), fun c' s' hc' hs' => ?_, fun s' k' hs' hk' => ?_, fun s' hs' => ?_, fun k' hk' => (hvs k' hk').kept (fun j _ _ => n j (by omega)), hl.kept (fun j _ => n j (by omega))⟩
      · show _ = if s' = s ∧ c' < 5 then enC c' way stamp else T.1 c' s'
        by_cases es : s' = s
        · subst es
          rw [if_pos ⟨rfl, hc'⟩, hx, if_neg (by omega)]
          unfold enC
          obtain rfl | rfl | rfl | h3 : c' = 0 ∨ c' = 1 ∨ c' = 2 ∨ 3 ≤ c' := by omega
          · rw [if_pos (by omega), if_pos rfl]
          · rw [if_neg (by omega), if_pos (by omega)]; rfl
          · rw [if_neg (by omega), if_neg (by omega), if_pos (by omega)]; rfl
          · rw [if_neg (by omega), if_neg (by omega), if_neg (by omega), if_pos (by omega), if_neg (by omega), if_neg (by omega), if_neg (by omega)]
        · rw [if_neg (fun hh => es hh.1), n _ (by omega)]
          exact hsd c' s' hc' hs'
      · show _ = if s' = s ∧ k' < 6 then iz (-1) else T.2.1 s' k'
        by_cases es : s' = s
        · subst es
          rw [if_pos ⟨rfl, hk'⟩, hx, if_pos (by omega)]
        · rw [if_neg (fun hh => es hh.1), n _ (by omega)]
          exact hrk s' k' hs' hk'
      · unfold setD
        by_cases es : s' = s
        · subst es
          rw [if_pos rfl]
          refine ⟨by simp, ?_, fun i d hi => by simp at hi⟩
          rw [hx, if_neg (by omega), if_neg (by omega), if_neg (by omega), if_neg (by omega), if_pos (by omega)]
          rfl
        · rw [if_neg es]
          exact (hds s' hs').kept (fun j _ _ => n j (by omega))
    · show mRow g1 7 _ = _
      rw [e1]
      simp only [mRow_s, mRow_m]
    · show (mRow g1 7 _).1 7 j = _
      rw [mRow_s, if_neg (by omega)]
      by_cases a0 : j = 48 * s
      · rw [if_pos a0, upd_n (by omega), upd_n (by omega), upd_e (by omega)]
      · rw [if_neg a0]
        by_cases a1 : j = 48 * s + 1
        · rw [if_pos a1, upd_n (by omega), upd_e (by omega)]
        · rw [if_neg a1]
          by_cases a2 : j = 48 * s + 2
          · rw [if_pos a2, upd_e (by omega)]
          · rw [if_neg a2, upd_n (by omega), upd_n (by omega), upd_n (by omega), hg1]
    · exact (M_note hu hg2 _ _ _).bd (fun g3 h3 => ok.ret h3)
theorem rd4 {m : Nat} {f : Nat → Int32} (hm : m < 3) : nx_rd (mlen 4) f (nI m) = some (f m) := rd_nI hm (show (3 : Nat) ≤ 100000 by omega)
/-- the clock goes on by a stride -/
def tickT (R : ER) (T : ET) : ET := sCk T (tCk T + R.2.2.2)
def openT (R : ER) (T : ET) (s : Nat) (way : Int32) : ET := enterT (tickT R T) s way (tCk T + R.2.2.2)
theorem M_openNow {u : Nat} (hu : 1000 ≤ u) {g0 : mS} {R : ER} {m0 : Int32} {tr : Option (Nat → Int32)} {D : Nat → List De} {g : mS} {T : ET} (h : RM g0 R m0 tr D g T) {s : Nat} (hs : s < 8) (way : Int32) : ok (fM_openNow u g (nI s) way) (fun r => r.1 = tCk T + R.2.2.2 ∧ RM g0 R m0 tr (setD D s []) r.2 (openT R T s way)) := by
  unfold fM_openNow
  simp (disch := omega) only [fM_ofSeat, fM_of, fM_keyAt, fM_many, fM_cell, fM_its, izN, nI_add, mulI, rdM, mWr7, mRow_s, mRow_m, mRow_2, Option.bind_some, rd4, h.strd, h.q.cc, upd_s]
  have h1 := h.h7 (T' := tickT R T) rfl (h.q.ck (tCk T + R.2.2.2))
  refine (M_seatOne hu h1 hs way (tCk T + R.2.2.2)).bd (fun g2 h2 => ?_)
  exact ok.ret ⟨h2.q.cc, h2⟩
def openAtT (T : ET) (s : Nat) (way stamp : Int32) : ET := enterT (handT T stamp) s way stamp
theorem M_openAtNow {u : Nat} (hu : 1000 ≤ u) {g0 : mS} {R : ER} {m0 : Int32} {tr : Option (Nat → Int32)} {D : Nat → List De} {g : mS} {T : ET} (h : RM g0 R m0 tr D g T) {s : Nat} (hs : s < 8) (hl : (tHd T).length < 30) (way stamp : Int32) : ok (fM_openAtNow u g (nI s) way stamp) (fun r => r.1 = stamp ∧ RM g0 R m0 tr (setD D s []) r.2 (openAtT T s way stamp)) := by
  obtain ⟨h1, h2, h3⟩ := h.q.hh
  unfold fM_openAtNow
  simp (disch := omega) only [fM_ofSeat, fM_of, fM_keyAt, fM_many, fM_cell, fM_its, izN, nI_add, mulI, rdM, mWr7, mRow_s, mRow_m, mRow_2, Option.bind_some, h2, upd_s]
  have h1 := h.h7 (T' := handT T stamp) (f := upd (upd (g.1 7) 608 (nI ((tHd T).length + 1))) (608 + ((tHd T).length + 1)) stamp) rfl (h.q.hd ⟨by simp; omega, by rw [upd_n (by omega), upd_s]; simp, fun i x hi => by
    rcases getE_snoc hi with ⟨a, b⟩ | ⟨rfl, rfl⟩
    · rw [upd_n (by omega), upd_n (by omega)]
      exact h3 i x b
    · rw [upd_e (by omega)]⟩ (fun j hj => by rw [upd_n (by omega), upd_n (by omega)]))
  exact (M_seatOne hu h1 hs way stamp).bd (fun g2 h2 => ok.ret ⟨rfl, h2⟩)
/-! the least stamp -/
theorem M_leastStamp {u : Nat} (hu : 1000 ≤ u) {g0 : mS} {R : ER} {m0 : Int32} {tr : Option (Nat → Int32)} {D : Nat → List De} {g : mS} {T : ET} (h : RM g0 R m0 tr D g T) (hK : 1 ≤ R.1) (hK6 : R.1 ≤ 6) (hp : ∀ s, s < 8 → lvT T s = true → 0 < (tSd T 1 s).toInt) : fM_leastStamp u g = some ((olN T 8).elim (iz (-1)) (fun o => tSd T 1 o)) := by
  unfold fM_leastStamp
  refine bdE (it_up (fun i => ((olN T i).elim (iz (-1)) (fun o => tSd T 1 o), nI i)) 8 (fun i hi => ?_) ?_ (i := 0) (by omega) (by omega))
  · unfold fM_leastStamp_4
    simp (disch := omega) only [fM_ofSeat, fM_of, fM_keyAt, fM_many, fM_cell, fM_its, izN, nI_add, mulI, rdM, mWr7, mRow_s, mRow_m, mRow_2, Option.bind_some, leI, M_isOn hu h hK hK6, h.q.st]
    rw [if_neg (by omega)]
    conv => rhs; unfold olN
    cases e : olN T i with
    | none => grind
    | some o =>
      obtain ⟨ho, hlo⟩ := olN_lt e
      have hne : tSd T 1 o ≠ iz (-1) := by
        intro e1
        have := hp o (by omega) hlo
        rw [e1, toN1] at this
        omega
      grind
  · unfold fM_leastStamp_4
    simp (disch := omega) only [fM_ofSeat, fM_of, fM_keyAt, fM_many, fM_cell, fM_its, izN, nI_add, mulI, rdM, mWr7, mRow_s, mRow_m, mRow_2, Option.bind_some, leI]
    rfl
theorem M_floorThen {u : Nat} (hu : 1000 ≤ u) {g0 : mS} {R : ER} {m0 : Int32} {tr : Option (Nat → Int32)} {D : Nat → List De} {g : mS} {T : ET} (h : RM g0 R m0 tr D g T) (hK : 1 ≤ R.1) (hK6 : R.1 ≤ 6) (hp : ∀ s, s < 8 → lvT T s = true → 0 < (tSd T 1 s).toInt) : fM_floorThen u g = some (flT T) := by
  unfold fM_floorThen
  rw [M_leastStamp hu h hK hK6 hp]
  simp (disch := omega) only [fM_ofSeat, fM_of, fM_keyAt, fM_many, fM_cell, fM_its, izN, nI_add, mulI, rdM, mWr7, mRow_s, mRow_m, mRow_2, Option.bind_some, h.q.cc, h.q.ff]
  unfold flT maxI
  cases e : olN T 8 with
  | none =>
    show ((if iz (-1) = iz (-1) then some (tCk T) else some (iz (-1)) : Option Int32).bind _) = _
    rw [if_pos rfl]
    rfl
  | some o =>
    obtain ⟨ho, hlo⟩ := olN_lt e
    have hne : tSd T 1 o ≠ iz (-1) := by
      intro e1
      have := hp o (by omega) hlo
      rw [e1, toN1] at this
      omega
    show ((if tSd T 1 o = iz (-1) then some (tCk T) else some (tSd T 1 o) : Option Int32).bind _) = _
    rw [if_neg hne]
    rfl
/-! spare versions -/
def spX (l : List Vr) (x : Int32) (i : Nat) : Bool := decide ((vG l i).2.2.2 = iz (-1)) && decide ((vG l i).1 ≤ x) && anyP (fun j => decide (i < j) && decide ((vG l j).2.2.2 = iz (-1)) && decide ((vG l j).1 ≤ x)) l.length
theorem anyP_pre {p : Nat → Bool} {n : Nat} (h : ∀ j, j < n → p j = false) : anyP p n = false := by
  rw [anyP_fst, fst_nil h]
  rfl
theorem anyP_iff {p : Nat → Bool} {n : Nat} : anyP p n = true ↔ ∃ j, j < n ∧ p j = true := by
  rw [anyP_fst]
  cases e : fst p n with
  | none =>
    have := fst_none e
    constructor
    · intro h; cases h
    · rintro ⟨j, hj, hp⟩
      rw [this j hj] at hp; cases hp
  | some i =>
    obtain ⟨a, b, c⟩ := fst_some e
    exact ⟨fun _ => ⟨i, a, b⟩, fun _ => rfl⟩
theorem M_isSpare {u : Nat} (hu : 1000 ≤ u) {g0 : mS} {R : ER} {m0 : Int32} {tr : Option (Nat → Int32)} {D : Nat → List De} {g : mS} {T : ET} (h : RM g0 R m0 tr D g T) {k i : Nat} (hk : k < 6) (hi : i < (tVs T k).length) (x : Int32) : fM_isSpare u g (nI k) (nI i) x = some (spX (tVs T k) x i) := by
  have hl := h.q.l9 hk
  unfold fM_isSpare
  simp (disch := omega) only [fM_ofSeat, fM_of, fM_keyAt, fM_many, fM_cell, fM_its, izN, nI_add, mulI, rdM, mWr7, mRow_s, mRow_m, mRow_2, Option.bind_some, h.q.v1, h.q.v4]
  have hloop : nx_iter u (fM_isSpare_32 u g (nI k) x) (nI 0, nI (i + 1)) = some (if anyP (fun j => decide (i < j) && decide ((vG (tVs T k) j).2.2.2 = iz (-1)) && decide ((vG (tVs T k) j).1 ≤ x)) (tVs T k).length = true then nI 1 else nI 0) := by
    have e0 : (nI 0, nI (i + 1)) = (fun t => ((if anyP (fun j => decide (i < j) && decide ((vG (tVs T k) j).2.2.2 = iz (-1)) && decide ((vG (tVs T k) j).1 ≤ x)) (i + 1 + t) = true then nI 1 else nI 0), nI (i + 1 + t))) 0 := by
      simp only [Nat.add_zero]
      rw [anyP_pre (fun j hj => by
        have : ¬ i < j := by omega
        simp [this])]
      rfl
    rw [e0]
    refine it_up (fun t => ((if anyP (fun j => decide (i < j) && decide ((vG (tVs T k) j).2.2.2 = iz (-1)) && decide ((vG (tVs T k) j).1 ≤ x)) (i + 1 + t) = true then nI 1 else nI 0), nI (i + 1 + t))) ((tVs T k).length - (i + 1)) (fun t ht => ?_) ?_ (i := 0) (by omega) (by omega)
    · unfold fM_isSpare_32
      simp (disch := omega) only [fM_ofSeat, fM_of, fM_keyAt, fM_many, fM_cell, fM_its, izN, nI_add, mulI, rdM, mWr7, mRow_s, mRow_m, mRow_2, Option.bind_some, h.q.mn, leI, h.q.v1, h.q.v4]
      rw [if_neg (by omega), show i + 1 + (t + 1) = i + 1 + t + 1 by omega, anyP_succ]
      have ev : vG (tVs T k) (i + 1 + t) = vA T k (i + 1 + t) := rfl
      rw [ev]
      generalize anyP _ (i + 1 + t) = z
      have hlt : i < i + 1 + t := by omega
      simp only [ltN]
      grind [i10]
    · unfold fM_isSpare_32
      simp (disch := omega) only [fM_ofSeat, fM_of, fM_keyAt, fM_many, fM_cell, fM_its, izN, nI_add, mulI, rdM, mWr7, mRow_s, mRow_m, mRow_2, Option.bind_some, h.q.mn, leI]
      rw [if_pos (by omega), show i + 1 + ((tVs T k).length - (i + 1)) = (tVs T k).length by omega]
  rw [hloop]
  simp only [Option.bind_some, tob01]
  unfold spX
  have ev : vG (tVs T k) i = vA T k i := rfl
  rw [ev]
  grind
theorem spX_eq {l : List Vr} {x : Int32} (hr : vRise l) {i : Nat} (hi : i < l.length) : spX l x i = spL l x i := by
  unfold spX spL
  by_cases h1 : (vG l i).2.2.2 = iz (-1)
  · simp only [h1, decide_true, Bool.true_and]
    cases e : suL l x with
    | none =>
      have hn := lst_none e
      have : anyP (fun j => decide (i < j) && decide ((vG l j).2.2.2 = iz (-1)) && decide ((vG l j).1 ≤ x)) l.length = false := anyP_pre (fun j hj => by have := hn j hj; grind)
      rw [this]
      simp
    | some st =>
      obtain ⟨a, b, c⟩ := lst_some e
      have b := of_decide_eq_true b
      by_cases hst : i < st
      · have h2 : (vG l i).1 ≤ x := by
          have := hr i st hst a
          have b2 := b.2
          rw [Int32.le_iff_toInt_le] at b2 ⊢
          omega
        have h3 : anyP (fun j => decide (i < j) && decide ((vG l j).2.2.2 = iz (-1)) && decide ((vG l j).1 ≤ x)) l.length = true := anyP_iff.mpr ⟨st, a, by simp [hst, b.1, b.2]⟩
        simp [h2, h3, hst]
      · have h3 : anyP (fun j => decide (i < j) && decide ((vG l j).2.2.2 = iz (-1)) && decide ((vG l j).1 ≤ x)) l.length = false := anyP_pre (fun j hj => by
          by_cases hij : i < j
          · have := c j (by omega) hj
            grind
          · simp [hij])
        simp [h3, hst]
  · simp [h1]
