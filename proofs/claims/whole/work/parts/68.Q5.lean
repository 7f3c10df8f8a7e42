/-! ===== of all ===== -/
def dmT (T : ET) : Int32 := setA (fun s => lvT T s && ! decide (tSd T 4 s = nI 0)) 8
theorem W_doomedSeats {u : Nat} (hu : 1000 ≤ u) {R : ER} {w0 : Int32} {D : Nat → List De} {f : Nat → Int32} {T : ET} (h : RW R w0 D f T) : fW_doomedSeats u f = some (dmT T) := by
  unfold fW_doomedSeats dmT
  refine bdE (it_up (fun i => (setA (fun s => lvT T s && ! decide (tSd T 4 s = nI 0)) i, nI i)) 8 (fun i hi => ?_) ?_ (i := 0) (by omega) (by omega))
  · unfold fW_doomedSeats_4
    simp (disch := omega) only [izN, nI_add, mulI, rdW, wrW, Option.bind_some, W_isLive hu h, h.dm, leI]
    rw [if_neg (by omega)]
    by_cases c : lvT T i = true
    · by_cases e : tSd T 4 i = nI 0 <;> simp [c, e, setA, bitA]
    · simp [c, setA]
  · unfold fW_doomedSeats_4
    simp (disch := omega) only [izN, nI_add, mulI, rdW, wrW, Option.bind_some, leI]
    rfl
theorem M_doomedOnes {u : Nat} (hu : 1000 ≤ u) {g0 : mS} {R : ER} {m0 : Int32} {tr : Option (Nat → Int32)} {D : Nat → List De} {g : mS} {T : ET} (h : RM g0 R m0 tr D g T) (hW : WF R T) : fM_doomedOnes u g = some (dmT T) := by
  unfold fM_doomedOnes dmT
  refine bdE (it_up (fun i => (setA (fun s => lvT T s && ! decide (tSd T 4 s = nI 0)) i, nI i)) 8 (fun i hi => ?_) ?_ (i := 0) (by omega) (by omega))
  · unfold fM_doomedOnes_4
    simp (disch := omega) only [fM_ofSeat, fM_of, fM_keyAt, fM_many, fM_cell, fM_its, izN, nI_add, mulI, rdM, mWr7, mRow_s, mRow_m, mRow_2, Option.bind_some, M_isOn hu h hW.1.1 hW.1.2.1, h.q.st, leI]
    rw [if_neg (by omega)]
    by_cases c : lvT T i = true
    · rcases hW.2.2.1.2.2.2.1 i hi with e | e
      · have : ¬ (nI 0 = nI 1) := fun hh => i10 hh.symm
        simp [c, e, setA, this, or_0]
      · simp [c, e, setA, bitA, i10]
    · simp [c, setA, or_0]
  · unfold fM_doomedOnes_4
    simp (disch := omega) only [fM_ofSeat, fM_of, fM_keyAt, fM_many, fM_cell, fM_its, izN, nI_add, mulI, rdM, mWr7, mRow_s, mRow_m, mRow_2, Option.bind_some, leI]
    rfl
theorem setA_ext {p : Nat → Bool} {n m : Nat} (h : n ≤ m) (hp : ∀ i, n ≤ i → i < m → p i = false) : setA p m = setA p n := by
  induction m with
  | zero => rw [Nat.le_zero.mp h]
  | succ m ih =>
    by_cases e : n = m + 1
    · rw [e]
    · show (if p m = true then setA p m ||| bitA m else setA p m) = setA p n
      rw [hp m (by omega) (by omega), if_neg (by decide)]
      exact (ih (by omega) (fun i h1 h2 => hp i h1 (by omega)))
theorem or_or (x y : Int32) : x ||| y ||| y = x ||| y := by rw [Int32.or_assoc, Int32.or_self]
def unP (T : ET) (k : Nat) : Bool := anyP (fun i => ! decide ((vA T k i).2.2.2 = iz (-1))) (tVs T k).length
theorem own_any {R : ER} {T : ET} (hW : WF R T) {k : Nat} (hk : k < 6) : anyP (fun s => (owI T k s).isSome) 8 = unP T k := by
  apply Bool.eq_iff_iff.mpr
  unfold unP
  rw [anyP_iff, anyP_iff]
  constructor
  · rintro ⟨s, hs, h⟩
    obtain ⟨i, hi⟩ := Option.isSome_iff_exists.mp h
    obtain ⟨a, b, c⟩ := fst_some hi
    refine ⟨i, a, ?_⟩
    have b := of_decide_eq_true b
    rw [b]
    simp [neN1 (show s < 1000000000 by omega)]
  · rintro ⟨i, hi, h⟩
    rcases hW.2.1.2.2.2.1 k i hk hi with e | ⟨s, hs, e, _⟩
    · simp [e] at h
    · refine ⟨s, hs, ?_⟩
      cases e2 : owI T k s with
      | none =>
        have := fst_none e2 i hi
        simp [e] at this
      | some j => rfl
theorem W_unsureKeys {u : Nat} (hu : 1000 ≤ u) {R : ER} {w0 : Int32} {D : Nat → List De} {f : Nat → Int32} {T : ET} (h : RW R w0 D f T) (hW : WF R T) : fW_unsureKeys u f = some (setA (unP T) 6) := by
  unfold fW_unsureKeys
  refine bdE (it_up (fun i => (setA (unP T) i, nI i)) 6 (fun i hi => ?_) ?_ (i := 0) (by omega) (by omega))
  · unfold fW_unsureKeys_4
    simp (disch := omega) only [izN, nI_add, mulI, rdW, wrW, Option.bind_some, leI]
    rw [if_neg (by omega)]
    have hin : nx_iter u (fW_unsureKeys_12 u f (setA (unP T) i, nI i)) (setA (unP T) i, nI 0) = some (setA (unP T) (i + 1)) := by
      refine (it_up (fun j => (if anyP (fun s => (owI T i s).isSome) j = true then setA (unP T) i ||| bitA i else setA (unP T) i, nI j)) 8 (fun j hj => ?_) (r := if anyP (fun s => (owI T i s).isSome) 8 = true then setA (unP T) i ||| bitA i else setA (unP T) i) ?_ (i := 0) (by omega) (by omega)).trans ?_
      · unfold fW_unsureKeys_12
        simp (disch := omega) only [izN, nI_add, mulI, rdW, wrW, Option.bind_some, leI, W_ownSlot hu h hi]
        rw [if_neg (by omega), anyP_succ]
        have eo : owI T i j = fst (fun i' => decide ((vA T i i').2.2.2 = nI j)) (tVs T i).length := rfl
        rw [← eo]
        cases e : owI T i j with
        | none => simp
        | some q =>
          have hq := (fst_some e).1
          have h9 := h.l9 hi
          have := neN1 (a := i * 9 + q) (by omega)
          cases anyP (fun s => (owI T i s).isSome) j
          · simp [this, bitA]
          · simp [this, bitA, or_or]
      · unfold fW_unsureKeys_12
        simp (disch := omega) only [izN, nI_add, mulI, rdW, wrW, Option.bind_some, leI]
        rfl
      · rw [own_any hW hi]
        rfl
    rw [hin]
    rfl
  · unfold fW_unsureKeys_4
    simp (disch := omega) only [izN, nI_add, mulI, rdW, wrW, Option.bind_some, leI]
    rfl
theorem M_unsure {u : Nat} (hu : 1000 ≤ u) {g0 : mS} {R : ER} {m0 : Int32} {tr : Option (Nat → Int32)} {D : Nat → List De} {g : mS} {T : ET} (h : RM g0 R m0 tr D g T) (hW : WF R T) : fM_unsure u g = some (setA (unP T) 6) := by
  have h6 := hW.1.2.1
  rw [setA_ext (p := unP T) h6 (fun i h1 h2 => by unfold unP; rw [hW.2.1.2.1 i h1 h2]; rfl)]
  unfold fM_unsure
  refine bdE (it_up (fun i => (setA (unP T) i, nI i)) R.1 (fun i hi => ?_) ?_ (i := 0) (by omega) (by omega))
  · unfold fM_unsure_4
    simp (disch := omega) only [fM_ofSeat, fM_of, fM_keyAt, fM_many, fM_cell, fM_its, izN, nI_add, mulI, rdM, mWr7, mRow_s, mRow_m, mRow_2, Option.bind_some, leI, h.kk]
    rw [if_neg (by omega)]
    have h9 := h.q.l9 (show i < 6 by omega)
    have hin : nx_iter u (fM_unsure_14 u g (setA (unP T) i, nI i)) (setA (unP T) i, nI 0) = some (setA (unP T) (i + 1)) := by
      refine (it_up (fun j => (if anyP (fun i' => ! decide ((vA T i i').2.2.2 = iz (-1))) j = true then setA (unP T) i ||| bitA i else setA (unP T) i, nI j)) (tVs T i).length (fun j hj => ?_) (r := if unP T i = true then setA (unP T) i ||| bitA i else setA (unP T) i) ?_ (i := 0) (by omega) (by omega)).trans rfl
      · unfold fM_unsure_14
        simp (disch := omega) only [fM_ofSeat, fM_of, fM_keyAt, fM_many, fM_cell, fM_its, izN, nI_add, mulI, rdM, mWr7, mRow_s, mRow_m, mRow_2, Option.bind_some, leI, h.q.mn, h.q.v4]
        rw [if_neg (by omega), anyP_succ]
        by_cases e : (vA T i j).2.2.2 = iz (-1)
        · simp [e, or_0]
        · cases anyP (fun i' => ! decide ((vA T i i').2.2.2 = iz (-1))) j
          · simp [e, bitA]
          · simp [e, bitA, or_or]
      · unfold fM_unsure_14
        simp (disch := omega) only [fM_ofSeat, fM_of, fM_keyAt, fM_many, fM_cell, fM_its, izN, nI_add, mulI, rdM, mWr7, mRow_s, mRow_m, mRow_2, Option.bind_some, leI, h.q.mn]
        rw [if_pos (by omega)]
        rfl
    rw [hin]
    rfl
  · unfold fM_unsure_4
    simp (disch := omega) only [fM_ofSeat, fM_of, fM_keyAt, fM_many, fM_cell, fM_its, izN, nI_add, mulI, rdM, mWr7, mRow_s, mRow_m, mRow_2, Option.bind_some, leI, h.kk]
    rw [if_pos (by omega)]
theorem M_oldest {u : Nat} (hu : 1000 ≤ u) {g0 : mS} {R : ER} {m0 : Int32} {tr : Option (Nat → Int32)} {D : Nat → List De} {g : mS} {T : ET} (h : RM g0 R m0 tr D g T) (hR : wfR R) : fM_oldest u g = some ((olN T 8).elim (iz (-1)) nI) := by
  unfold fM_oldest
  refine bdE (it_up (fun i => ((olN T i).elim (iz (-1)) nI, nI i)) 8 (fun i hi => ?_) ?_ (i := 0) (by omega) (by omega))
  · unfold fM_oldest_4
    simp (disch := omega) only [fM_ofSeat, fM_of, fM_keyAt, fM_many, fM_cell, fM_its, izN, nI_add, mulI, rdM, mWr7, mRow_s, mRow_m, mRow_2, Option.bind_some, leI, M_isOn hu h hR.1 hR.2.1]
    rw [if_neg (by omega)]
    conv => rhs; unfold olN
    cases e : olN T i with
    | none => grind
    | some o =>
      have ho := (olN_lt e).1
      have := neN1 (a := o) (by omega)
      simp (disch := omega) only [fM_ofSeat, fM_of, fM_keyAt, fM_many, fM_cell, fM_its, izN, nI_add, mulI, rdM, mWr7, mRow_s, mRow_m, mRow_2, Option.bind_some, Option.elim, h.q.st]
      grind
  · unfold fM_oldest_4
    simp (disch := omega) only [fM_ofSeat, fM_of, fM_keyAt, fM_many, fM_cell, fM_its, izN, nI_add, mulI, rdM, mWr7, mRow_s, mRow_m, mRow_2, Option.bind_some, leI]
    rfl
def fuN (T : ET) : Nat → Nat
  | 0 => 0
  | n + 1 => if (tVs T (n + 1)).length ≤ (tVs T (fuN T n)).length then fuN T n else n + 1
theorem fuN_le {T : ET} : ∀ n, fuN T n ≤ n := by
  intro n
  induction n with
  | zero => exact Nat.le_refl _
  | succ n ih =>
    unfold fuN
    split <;> omega
theorem fuN_ext {T : ET} {a : Nat} : ∀ n, a ≤ n → (∀ k, a < k → k ≤ n → tVs T k = []) → fuN T n = fuN T a := by
  intro n
  induction n with
  | zero => intro h _; rw [Nat.le_zero.mp h]
  | succ n ih =>
    intro h1 h2
    by_cases e : a = n + 1
    · rw [e]
    · unfold fuN
      rw [if_pos (by rw [h2 (n + 1) (by omega) (by omega)]; simp), ih (by omega) (fun k h3 h4 => h2 k h3 (by omega))]
      cases a <;> rfl
theorem W_fullestKey {u : Nat} (hu : 1000 ≤ u) {R : ER} {w0 : Int32} {D : Nat → List De} {f : Nat → Int32} {T : ET} (h : RW R w0 D f T) : fW_fullestKey u f = some (nI (fuN T 5)) := by
  unfold fW_fullestKey
  refine bdE (it_up (fun i => (nI (fuN T i), nI (i + 1))) 5 (fun i hi => ?_) ?_ (i := 0) (by omega) (by omega))
  · have hf := fuN_le (T := T) i
    have l1 := h.l9 (show i + 1 < 6 by omega)
    have l2 := h.l9 (show fuN T i < 6 by omega)
    unfold fW_fullestKey_4
    simp (disch := omega) only [izN, nI_add, mulI, rdW, wrW, Option.bind_some, leI, h.mn]
    rw [if_neg (by omega)]
    conv => rhs; unfold fuN
    split <;> rfl
  · unfold fW_fullestKey_4
    simp (disch := omega) only [izN, nI_add, mulI, rdW, wrW, Option.bind_some, leI]
    rfl
theorem M_fullest {u : Nat} (hu : 1000 ≤ u) {g0 : mS} {R : ER} {m0 : Int32} {tr : Option (Nat → Int32)} {D : Nat → List De} {g : mS} {T : ET} (h : RM g0 R m0 tr D g T) (hW : WF R T) : fM_fullest u g = some (nI (fuN T 5)) := by
  have h6 := hW.1.2.1
  have h1 := hW.1.1
  rw [fuN_ext (a := R.1 - 1) 5 (by omega) (fun k h2 h3 => hW.2.1.2.1 k (by omega) (by omega))]
  unfold fM_fullest
  refine bdE (it_up (fun i => (nI (fuN T i), nI (i + 1))) (R.1 - 1) (fun i hi => ?_) ?_ (i := 0) (by omega) (by omega))
  · have hf := fuN_le (T := T) i
    have l1 := h.q.l9 (show i + 1 < 6 by omega)
    have l2 := h.q.l9 (show fuN T i < 6 by omega)
    unfold fM_fullest_4
    simp (disch := omega) only [fM_ofSeat, fM_of, fM_keyAt, fM_many, fM_cell, fM_its, izN, nI_add, mulI, rdM, mWr7, mRow_s, mRow_m, mRow_2, Option.bind_some, leI, h.q.mn, h.kk]
    rw [if_neg (by omega)]
    conv => rhs; unfold fuN
    split <;> rfl
  · unfold fM_fullest_4
    simp (disch := omega) only [fM_ofSeat, fM_of, fM_keyAt, fM_many, fM_cell, fM_its, izN, nI_add, mulI, rdM, mWr7, mRow_s, mRow_m, mRow_2, Option.bind_some, leI, h.kk]
    rw [if_pos (by omega)]
theorem pr_cnt {l : List Vr} {x : Int32} : ∀ n, (prI l x n).length + cnt (spL l x) n = n := by
  intro n
  induction n with
  | zero => rfl
  | succ n ih =>
    rw [prI_succ]
    show _ + (cnt (spL l x) n + if spL l x n = true then 1 else 0) = _
    by_cases c : spL l x n = true
    · rw [if_pos c, if_pos c]; omega
    · rw [if_neg c, if_neg c, List.length_append, List.length_singleton]; omega
theorem M_spare {u : Nat} (hu : 1000 ≤ u) {g0 : mS} {R : ER} {m0 : Int32} {tr : Option (Nat → Int32)} {D : Nat → List De} {g : mS} {T : ET} (h : RM g0 R m0 tr D g T) (hW : WF R T) : fM_spare u g = some (nI (prC T (flT T) 6)) := by
  have h6 := hW.1.2.1
  have h1 := hW.1.1
  rw [prC_K hW.2.1.2.1 6 h6 (Nat.le_refl _)]
  unfold fM_spare
  refine bdE (it_up (fun i => (nI (prC T (flT T) i), nI i)) R.1 (fun i hi => ?_) ?_ (i := 0) (by omega) (by omega))
  · unfold fM_spare_4
    simp (disch := omega) only [fM_ofSeat, fM_of, fM_keyAt, fM_many, fM_cell, fM_its, izN, nI_add, mulI, rdM, mWr7, mRow_s, mRow_m, mRow_2, Option.bind_some, leI, h.kk]
    rw [if_neg (by omega)]
    have h9 := h.q.l9 (show i < 6 by omega)
    have hin : nx_iter u (fM_spare_14 u g (nI (prC T (flT T) i), nI i)) (nI (prC T (flT T) i), nI 0) = some (nI (prC T (flT T) (i + 1))) := by
      refine (it_up (fun j => (nI (prC T (flT T) i + cnt (spL (tVs T i) (flT T)) j), nI j)) (tVs T i).length (fun j hj => ?_) (r := nI (prC T (flT T) i + cnt (spL (tVs T i) (flT T)) (tVs T i).length)) ?_ (i := 0) (by omega) (by omega)).trans ?_
      · unfold fM_spare_14
        simp (disch := omega) only [fM_ofSeat, fM_of, fM_keyAt, fM_many, fM_cell, fM_its, izN, nI_add, mulI, rdM, mWr7, mRow_s, mRow_m, mRow_2, Option.bind_some, leI, h.q.mn, M_floorThen hu h h1 h6 (fun s hs hl => (hW.2.2.1.1 s hs hl).1), M_isSpare hu h (show i < 6 by omega) hj, spX_eq (hW.2.1.1 i (by omega)) hj]
        rw [if_neg (by omega)]
        conv => rhs; unfold cnt
        cases spL (tVs T i) (flT T) j
        · simp (disch := omega) only [Bool.false_eq_true, if_false, Option.bind_some, nI_add, Nat.add_zero]
        · simp (disch := omega) only [if_true, Option.bind_some, nI_add, Nat.add_assoc]
      · unfold fM_spare_14
        simp (disch := omega) only [fM_ofSeat, fM_of, fM_keyAt, fM_many, fM_cell, fM_its, izN, nI_add, mulI, rdM, mWr7, mRow_s, mRow_m, mRow_2, Option.bind_some, leI, h.q.mn]
        rw [if_pos (by omega)]
      · have := pr_cnt (l := tVs T i) (x := flT T) (tVs T i).length
        show some (nI _) = some (nI (prC T (flT T) i + ((tVs T i).length - (pruL (tVs T i) (flT T)).length)))
        rw [pruL_len]
        congr 3
        omega
    rw [hin]
    rfl
  · unfold fM_spare_4
    simp (disch := omega) only [fM_ofSeat, fM_of, fM_keyAt, fM_many, fM_cell, fM_its, izN, nI_add, mulI, rdM, mWr7, mRow_s, mRow_m, mRow_2, Option.bind_some, leI, h.kk]
    rw [if_pos (by omega)]
/-! ===== who falls with one ===== -/
def psN (T : ET) (x : Int32) : Nat → Int32
  | 0 => x
  | n + 1 => if tSd T 3 n &&& psN T x n = nI 0 then psN T x n else psN T x n ||| bitA n
def fwN (T : ET) (x : Int32) : Nat → Int32
  | 0 => x
  | n + 1 => psN T (fwN T x n) 8
theorem psN_up {T : ET} {x : Int32} {i : Nat} : ∀ n, tb x i = true → tb (psN T x n) i = true := by
  intro n
  induction n with
  | zero => exact id
  | succ n ih =>
    intro h
    unfold psN
    split
    · exact ih h
    · rw [tb_or, ih h]; rfl
theorem psN_8 {T : ET} {x : Int32} (hx : ∀ i, tb x i = true → i < 8) : ∀ n, n ≤ 8 → ∀ i, tb (psN T x n) i = true → i < 8 := by
  intro n
  induction n with
  | zero => intro _; exact hx
  | succ n ih =>
    intro hn i hi
    unfold psN at hi
    split at hi
    · exact ih (by omega) i hi
    · rw [tb_or, Bool.or_eq_true] at hi
      rcases hi with hi | hi
      · exact ih (by omega) i hi
      · rw [tb_bit (by omega)] at hi
        have := of_decide_eq_true hi
        omega
theorem fwN_8 {T : ET} {x : Int32} (hx : ∀ i, tb x i = true → i < 8) : ∀ n, ∀ i, tb (fwN T x n) i = true → i < 8 := by
  intro n
  induction n with
  | zero => exact hx
  | succ n ih => exact psN_8 ih 8 (Nat.le_refl _)
theorem fw_grow {T : ET} {x : Int32} (hx : ∀ i, tb x i = true → i < 8) (hne : psN T x 8 ≠ x) : cnt (tb x) 8 < cnt (tb (psN T x 8)) 8 := by
  have hex : ∃ i, tb (psN T x 8) i ≠ tb x i := by
    apply Classical.byContradiction
    intro hh
    exact hne (tb_ext (fun i _ => Classical.byContradiction fun h2 => hh ⟨i, h2⟩))
  obtain ⟨i, hi⟩ := hex
  have h0 : tb x i = false := by
    cases e : tb x i with
    | false => rfl
    | true => rw [e, psN_up 8 e] at hi; exact absurd rfl hi
  have h1 : tb (psN T x 8) i = true := by
    rw [h0] at hi
    simpa using hi
  exact cnt_lt 8 (fun j _ hj => psN_up 8 hj) (psN_8 hx 8 (Nat.le_refl _) i h1) h1 h0
theorem fw_fix {T : ET} {s : Nat} (hs : s < 8) : ∃ k, k ≤ 7 ∧ fwN T (bitA s) (k + 1) = fwN T (bitA s) k ∧ ∀ j, j < k → fwN T (bitA s) (j + 1) ≠ fwN T (bitA s) j := by
  have hx : ∀ i, tb (bitA s) i = true → i < 8 := fun i hi => by
    rw [tb_bit hs] at hi
    have := of_decide_eq_true hi
    omega
  have hex : ∃ k, k ≤ 7 ∧ fwN T (bitA s) (k + 1) = fwN T (bitA s) k := by
    apply Classical.byContradiction
    intro hh
    have key : ∀ j, j ≤ 8 → j + 1 ≤ cnt (tb (fwN T (bitA s) j)) 8 := by
      intro j
      induction j with
      | zero =>
        intro _
        have h1 := cnt_lt (p := tb (bitA s)) (q := fun _ => false) (s := s) 8 (fun _ _ h => by cases h) hs (by rw [tb_bit hs]; simp) rfl
        show 1 ≤ cnt (tb (bitA s)) 8
        omega
      | succ j ih =>
        intro hj
        have h1 := ih (by omega)
        have h2 := fw_grow (T := T) (fwN_8 (T := T) hx j) (fun e => hh ⟨j, by omega, e⟩)
        show _ ≤ cnt (tb (psN T (fwN T (bitA s) j) 8)) 8
        omega
    have h1 := key 8 (Nat.le_refl _)
    have h2 := cnt_le (p := tb (fwN T (bitA s) 8)) 8
    omega
  obtain ⟨k, ⟨h1, h2⟩, h3⟩ := pk_least (fun k => k ≤ 7 ∧ fwN T (bitA s) (k + 1) = fwN T (bitA s) k) hex
  exact ⟨k, h1, h2, fun j hj e => h3 j hj ⟨by omega, e⟩⟩
theorem fw_stay {T : ET} {x : Int32} {k : Nat} (h : fwN T x (k + 1) = fwN T x k) : ∀ m, k ≤ m → fwN T x m = fwN T x k := by
  intro m hm
  induction m with
  | zero => rw [Nat.le_zero.mp hm]
  | succ m ih =>
    by_cases e : k = m + 1
    · rw [e]
    · show psN T (fwN T x m) 8 = _
      rw [ih (by omega)]
      exact h
def fwT (T : ET) (s : Nat) : Int32 := fwN T (bitA s) 8
theorem W_pass {u : Nat} (hu : 1000 ≤ u) {R : ER} {w0 : Int32} {D : Nat → List De} {f : Nat → Int32} {T : ET} (h : RW R w0 D f T) (x : Int32) : nx_iter u (fW_fallingWith_15 f) (x, nI 0) = some (psN T x 8) := by
  refine it_up (fun i => (psN T x i, nI i)) 8 (fun i hi => ?_) ?_ (i := 0) (by omega) (by omega)
  · unfold fW_fallingWith_15
    simp (disch := omega) only [izN, nI_add, mulI, rdW, wrW, Option.bind_some, leI, h.dp]
    rw [if_neg (by omega)]
    conv => rhs; unfold psN
    split <;> rfl
  · unfold fW_fallingWith_15
    simp (disch := omega) only [izN, nI_add, mulI, rdW, wrW, Option.bind_some, leI]
    rfl
theorem W_fallingWith {u : Nat} (hu : 1000 ≤ u) {R : ER} {w0 : Int32} {D : Nat → List De} {f : Nat → Int32} {T : ET} (h : RW R w0 D f T) {s : Nat} (hs : s < 8) : fW_fallingWith u f (nI s) = some (fwT T s) := by
  unfold fW_fallingWith fwT
  refine bdE (it_up (fun i => (fwN T (bitA s) i, nI i)) 8 (fun i hi => ?_) ?_ (i := 0) (by omega) (by omega))
  · unfold fW_fallingWith_6
    simp (disch := omega) only [izN, nI_add, mulI, rdW, wrW, Option.bind_some, leI, W_pass hu h]
    rw [if_neg (by omega)]
    rfl
  · unfold fW_fallingWith_6
    simp (disch := omega) only [izN, nI_add, mulI, rdW, wrW, Option.bind_some, leI]
    rfl
theorem dep_lv {R : ER} {T : ET} (hW : WF R T) {s : Nat} (hs : s < 8) (hl : lvT T s = false) : tSd T 3 s = nI 0 := by
  apply Classical.byContradiction
  intro hn
  obtain ⟨i, hi, ht⟩ := tb_ne.mp hn
  have := (hW.2.2.1.2.2.1 s i hs ht).2.1
  rw [hl] at this
  cases this
theorem M_pass {u : Nat} (hu : 1000 ≤ u) {g0 : mS} {R : ER} {m0 : Int32} {tr : Option (Nat → Int32)} {D : Nat → List De} {g : mS} {T : ET} (h : RM g0 R m0 tr D g T) (hW : WF R T) (x : Int32) : nx_iter u (fM_fallsWith_16 u g) (x, nI 0) = some (psN T x 8) := by
  refine it_up (fun i => (psN T x i, nI i)) 8 (fun i hi => ?_) ?_ (i := 0) (by omega) (by omega)
  · unfold fM_fallsWith_16
    simp (disch := omega) only [fM_ofSeat, fM_of, fM_keyAt, fM_many, fM_cell, fM_its, izN, nI_add, mulI, rdM, mWr7, mRow_s, mRow_m, mRow_2, Option.bind_some, leI, M_isOn hu h hW.1.1 hW.1.2.1, h.q.st]
    rw [if_neg (by omega)]
    conv => rhs; unfold psN
    cases hl : lvT T i with
    | false =>
      rw [dep_lv hW hi hl, and0, if_pos rfl]
      simp [or_0]
    | true =>
      by_cases c : tSd T 3 i &&& psN T x i = nI 0
      · simp [c, or_0]
      · simp [c, bitA]
  · unfold fM_fallsWith_16
    simp (disch := omega) only [fM_ofSeat, fM_of, fM_keyAt, fM_many, fM_cell, fM_its, izN, nI_add, mulI, rdM, mWr7, mRow_s, mRow_m, mRow_2, Option.bind_some, leI]
    rfl
theorem bit_ne {s : Nat} (hs : s < 8) : bitA s ≠ nI 0 := tb_ne.mpr ⟨s, by omega, by rw [tb_bit hs]; simp⟩
theorem M_fallsWith {u : Nat} (hu : 1000 ≤ u) {g0 : mS} {R : ER} {m0 : Int32} {tr : Option (Nat → Int32)} {D : Nat → List De} {g : mS} {T : ET} (h : RM g0 R m0 tr D g T) (hW : WF R T) {s : Nat} (hs : s < 8) : fM_fallsWith u g (nI s) = some (fwT T s) := by
  obtain ⟨k, k7, hk, hj⟩ := fw_fix (T := T) hs
  unfold fM_fallsWith fwT
  rw [fw_stay hk 8 (by omega), ← hk]
  refine bdE (it_up (fun i => (fwN T (bitA s) i, if i = 0 then nI 0 else fwN T (bitA s) (i - 1))) (k + 1) (fun i hi => ?_) ?_ (i := 0) (by omega) (by omega))
  · unfold fM_fallsWith_6
    simp (disch := omega) only [fM_ofSeat, fM_of, fM_keyAt, fM_many, fM_cell, fM_its, izN, nI_add, mulI, rdM, mWr7, mRow_s, mRow_m, mRow_2, Option.bind_some, M_pass hu h hW]
    rw [if_neg]
    · rw [if_neg (by omega)]
      rfl
    · by_cases e : i = 0
      · rw [if_pos e, e]
        exact bit_ne hs
      · rw [if_neg e]
        have := hj (i - 1) (by omega)
        rw [show i - 1 + 1 = i by omega] at this
        exact this
  · unfold fM_fallsWith_6
    rw [if_pos]
    rw [if_neg (by omega)]
    exact hk
theorem Q_falls {u : Nat} (hu : 1000 ≤ u) {Γ : nx_G} {Dm : nx_M} {x w c : Nat} {f : Nat → Int32} (e5 : gR Dm x 7 5 = some w) (eW : wGet Γ Dm w = some (c, f)) {R : ER} {w0 m0 : Int32} {D : Nat → List De} {T : ET} {g0 g : mS} (h : RW R w0 D f T) (k : RM g0 R m0 none D g T) (hE : EI R D T) (a : Int32) : both (fC_falls u Γ Dm x a) (fM_falls u g a) := by
  unfold fC_falls fM_falls
  rw [M_isOnX hu k hE.1.1]
  simp (disch := omega) only [e5, Option.bind_some, wRd_eq eW, izN, L_within]
  by_cases c : inR a 8 = true
  · obtain ⟨s, hs, rfl⟩ := inR_of c
    rw [if_pos c, c, nI_back (by omega), W_isLive hu h hs, W_fallingWith hu h hs, M_fallsWith hu k hE.1 hs]
    cases lvT T s <;> exact both.of rfl rfl
  · rw [if_neg c]
    simp only [c, Bool.false_and]
    exact both.of rfl rfl
/-! the worst -/
theorem bc256 : ∀ n : Fin 256, (n.val = 0 ∨ ¬ bcI (nI n.val) ≤ nI 0) ∧ nI 0 ≤ bcI (nI n.val) := by decide +kernel
theorem fwT_8 {T : ET} {s : Nat} (hs : s < 8) : ∀ i, tb (fwT T s) i = true → i < 8 := fwN_8 (fun i hi => by
    rw [tb_bit hs] at hi
    have := of_decide_eq_true hi
    omega) 8
theorem fwN_up {T : ET} {x : Int32} {i : Nat} (h : tb x i = true) : ∀ n, tb (fwN T x n) i = true := by
  intro n
  induction n with
  | zero => exact h
  | succ n ih => exact psN_up 8 ih
theorem fwT_bc {T : ET} {s : Nat} (hs : s < 8) : ¬ bcI (fwT T s) ≤ nI 0 ∧ nI 0 ≤ bcI (fwT T s) := by
  obtain ⟨n, hn, e⟩ := mask8 (fwT_8 (T := T) hs)
  have h1 : tb (fwT T s) s = true := fwN_up (by rw [tb_bit hs]; simp) 8
  rw [e] at h1 ⊢
  obtain ⟨a, b⟩ := bc256 ⟨n, hn⟩
  refine ⟨a.elim (fun h0 => ?_) id, b⟩
  have h0 : n = 0 := h0
  rw [h0, tb_0] at h1
  cases h1
def woN (T : ET) : Nat → Option Nat
  | 0 => none
  | n + 1 => if lvT T n = true then (woN T n).elim (some n) (fun o => if bcI (fwT T n) ≤ bcI (fwT T o) then some o else some n) else woN T n
theorem woN_lt {T : ET} {n o : Nat} (h : woN T n = some o) : o < n := by
  induction n with
  | zero => cases h
  | succ n ih =>
    unfold woN at h
    split at h
    · cases e : woN T n with
      | none =>
        rw [e] at h
        cases h
        omega
      | some q =>
        rw [e] at h
        have h : (if bcI (fwT T n) ≤ bcI (fwT T q) then some q else some n) = some o := h
        split at h
        · cases h
          have := ih e
          omega
        · cases h
          omega
    · have := ih h
      omega
theorem W_worstSeat {u : Nat} (hu : 1000 ≤ u) {R : ER} {w0 : Int32} {D : Nat → List De} {f : Nat → Int32} {T : ET} (h : RW R w0 D f T) : fW_worstSeat u f = some ((woN T 8).elim (iz (-1)) nI) := by
  unfold fW_worstSeat
  refine bdE (it_up (fun i => ((woN T i).elim (iz (-1)) nI, (woN T i).elim (nI 0) (fun o => bcI (fwT T o)), nI i)) 8 (fun i hi => ?_) ?_ (i := 0) (by omega) (by omega))
  · unfold fW_worstSeat_6
    simp (disch := omega) only [izN, nI_add, mulI, rdW, wrW, Option.bind_some, leI, W_isLive hu h, W_fallingWith hu h, bcI_eq]
    rw [if_neg (by omega)]
    obtain ⟨b1, b2⟩ := fwT_bc (T := T) hi
    conv => rhs; unfold woN
    cases hl : lvT T i with
    | true =>
      cases e : woN T i with
      | none => simp [b1]
      | some o => by_cases c : bcI (fwT T i) ≤ bcI (fwT T o) <;> simp [c]
    | false =>
      cases e : woN T i with
      | none => simp
      | some o =>
        have ho := woN_lt e
        simp [(fwT_bc (T := T) (show o < 8 by omega)).2]
  · unfold fW_worstSeat_6
    simp (disch := omega) only [izN, nI_add, mulI, rdW, wrW, Option.bind_some, leI]
    rfl
theorem M_worst {u : Nat} (hu : 1000 ≤ u) {g0 : mS} {R : ER} {m0 : Int32} {tr : Option (Nat → Int32)} {D : Nat → List De} {g : mS} {T : ET} (h : RM g0 R m0 tr D g T) (hW : WF R T) : fM_worst u g = some ((woN T 8).elim (iz (-1)) nI) := by
  unfold fM_worst
  refine bdE (it_up (fun i => ((woN T i).elim (iz (-1)) nI, nI i)) 8 (fun i hi => ?_) ?_ (i := 0) (by omega) (by omega))
  · unfold fM_worst_4
    simp (disch := omega) only [fM_ofSeat, fM_of, fM_keyAt, fM_many, fM_cell, fM_its, izN, nI_add, mulI, rdM, mWr7, mRow_s, mRow_m, mRow_2, Option.bind_some, leI, M_isOn hu h hW.1.1 hW.1.2.1, M_fallsWith hu h hW, M_bits hu]
    rw [if_neg (by omega), (bs_mask (fwT_8 (T := T) hi)).1]
    conv => rhs; unfold woN
    cases hl : lvT T i with
    | true =>
      cases e : woN T i with
      | none => simp
      | some o =>
        have ho := woN_lt e
        have := neN1 (a := o) (by omega)
        simp (disch := omega) only [Option.elim, this, if_false, M_fallsWith hu h hW, M_bits hu, Option.bind_some, if_true]
        rw [(bs_mask (fwT_8 (T := T) (show o < 8 by omega))).1]
        split <;> rfl
    | false => simp
  · unfold fM_worst_4
    simp (disch := omega) only [fM_ofSeat, fM_of, fM_keyAt, fM_many, fM_cell, fM_its, izN, nI_add, mulI, rdM, mWr7, mRow_s, mRow_m, mRow_2, Option.bind_some, leI]
    rfl
