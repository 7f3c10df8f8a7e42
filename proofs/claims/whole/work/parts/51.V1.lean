/-! ===== what holds of every state ===== -/
def vRise (l : List Vr) : Prop := ∀ i j, i < j → j < l.length → (vG l i).1.toInt < (vG l j).1.toInt
def tb (x : Int32) (i : Nat) : Bool := x.toBitVec.getLsbD i
/-- stamps that have been given -/
def usd (R : ER) (T : ET) (x : Int32) : Prop := 0 ≤ x.toInt ∧ x.toInt ≤ (tCk T).toInt ∧ (R.2.2.2.toInt ∣ x.toInt ∨ x ∈ tHd T)
def wfR (R : ER) : Prop := 1 ≤ R.1 ∧ R.1 ≤ 6 ∧ (∃ m, 2 ≤ m ∧ m ≤ 9 ∧ R.2.1 = nI m) ∧ ∃ d, 2 ≤ d ∧ d ≤ 20 ∧ R.2.2.2 = nI d
/-- of the versions -/
def wfV (R : ER) (T : ET) : Prop := (∀ k, k < 6 → vRise (tVs T k)) ∧ (∀ k, R.1 ≤ k → k < 6 → tVs T k = []) ∧ (∀ k, k < R.1 → ∃ i, i < (tVs T k).length ∧ (vA T k i).2.2.2 = iz (-1) ∧ (vA T k i).1 ≤ tFl T) ∧
  (∀ k i, k < 6 → i < (tVs T k).length → (vA T k i).2.2.2 = iz (-1) ∨ ∃ s, s < 8 ∧ (vA T k i).2.2.2 = nI s ∧ lvT T s = true ∧ (vA T k i).1 = tSd T 1 s) ∧
  (∀ k i s, k < 6 → i < (tVs T k).length → s < 8 → lvT T s = true → (vA T k i).1 = tSd T 1 s → (vA T k i).2.2.2 = nI s) ∧
  (∀ k i, k < 6 → i < (tVs T k).length → usd R T (vA T k i).1 ∧ (vA T k i).1.toInt ≤ (vA T k i).2.2.1.toInt ∧ (vA T k i).2.2.1.toInt ≤ (tCk T).toInt) ∧
  (∀ k, k < 6 → ((tVs T k).length : Int) ≤ R.2.1.toInt)
/-- of the seats -/
def wfS (R : ER) (T : ET) : Prop := (∀ s, s < 8 → lvT T s = true → 0 < (tSd T 1 s).toInt ∧ usd R T (tSd T 1 s) ∧ (tFl T).toInt ≤ (tSd T 1 s).toInt) ∧
  (∀ s o, s < 8 → o < 8 → lvT T s = true → lvT T o = true → tSd T 1 s = tSd T 1 o → s = o) ∧
  (∀ s o, s < 8 → tb (tSd T 3 s) o = true → o < 8 ∧ lvT T s = true ∧ lvT T o = true ∧ (tSd T 1 o).toInt < (tSd T 1 s).toInt) ∧
  (∀ s, s < 8 → tSd T 4 s = nI 0 ∨ tSd T 4 s = nI 1) ∧
  (∀ s, s < 8 → ∃ n, n < 5 ∧ tSd T 0 s = nI n)
/-- of clock and floor -/
def wfC (R : ER) (T : ET) : Prop := 0 ≤ (tCk T).toInt ∧ (tCk T).toInt ≤ 9999 ∧ R.2.2.2.toInt ∣ (tCk T).toInt ∧ 0 ≤ (tFl T).toInt ∧ (tFl T).toInt ≤ (tCk T).toInt ∧ (tHd T).length ≤ 30
def WF (R : ER) (T : ET) : Prop := wfR R ∧ wfV R T ∧ wfS R T ∧ wfC R T
/-! bits -/
theorem tb_or {x y : Int32} {i : Nat} : tb (x ||| y) i = (tb x i || tb y i) := by unfold tb; simp
theorem tb_and {x y : Int32} {i : Nat} : tb (x &&& y) i = (tb x i && tb y i) := by unfold tb; simp
theorem tb_xor {x y : Int32} {i : Nat} : tb (x ^^^ y) i = (tb x i ^^ tb y i) := by unfold tb; simp
theorem tb_0 {i : Nat} : tb (nI 0) i = false := by
  unfold tb
  rw [show (nI 0).toBitVec = 0#32 from rfl]
  simp
theorem tb_m1 {i : Nat} : tb (iz (-1)) i = decide (i < 32) := by
  unfold tb
  rw [show (iz (-1)).toBitVec = BitVec.allOnes 32 by decide +kernel, BitVec.getLsbD_allOnes]
theorem tb_bit {s i : Nat} (hs : s < 8) : tb (bitA s) i = decide (i = s) := by
  have e : (bitA s).toBitVec = BitVec.twoPow 32 s := by
    obtain rfl | rfl | rfl | rfl | rfl | rfl | rfl | rfl : s = 0 ∨ s = 1 ∨ s = 2 ∨ s = 3 ∨ s = 4 ∨ s = 5 ∨ s = 6 ∨ s = 7 := by omega
    all_goals decide +kernel
  unfold tb
  rw [e, BitVec.getLsbD_twoPow]
  by_cases h : i = s
  · subst h; simp; omega
  · simp [h]; omega
theorem tb_ext {x y : Int32} (h : ∀ i, i < 32 → tb x i = tb y i) : x = y := Int32.toBitVec_inj.mp (BitVec.eq_of_getLsbD_eq h)
theorem tb_ne {x : Int32} : x ≠ nI 0 ↔ ∃ i, i < 32 ∧ tb x i = true := by
  constructor
  · intro h
    by_cases hh : ∃ i, i < 32 ∧ tb x i = true
    · exact hh
    · exact absurd (tb_ext (fun i hi => by
        rw [tb_0]
        by_cases c : tb x i = true
        · exact absurd ⟨i, hi, c⟩ hh
        · simpa using c)) h
  · rintro ⟨i, hi, h⟩ e
    rw [e, tb_0] at h
    cases h
theorem tb_set {p : Nat → Bool} {n i : Nat} (hn : n ≤ 8) : tb (setA p n) i = (decide (i < n) && p i) := by
  induction n with
  | zero => unfold setA; rw [tb_0]; simp
  | succ n ih =>
    unfold setA
    by_cases hp : p n = true
    · rw [if_pos hp, tb_or, ih (by omega), tb_bit (by omega)]
      by_cases e : i = n
      · subst e; simp [hp]
      · by_cases e2 : i < n
        · simp [e, e2]; omega
        · simp [e, e2]; omega
    · rw [if_neg hp, ih (by omega)]
      by_cases e : i = n
      · subst e; simp [hp]
      · by_cases e2 : i < n
        · simp [e2]; omega
        · simp [e2]; omega
theorem lvT_iff {T : ET} {s : Nat} : lvT T s = true ↔ tSd T 0 s = nI 1 ∨ tSd T 0 s = nI 2 := by unfold lvT; simp
/-- who leans on the fallen lives -/
theorem leT_lv {R : ER} {T : ET} (hW : WF R T) : leT T = fst (fun s => lvT T s && ! decide (tSd T 3 s &&& inS T (nI 4) = nI 0)) 8 := by
  unfold leT
  refine fst_congr (fun s hs => ?_)
  by_cases h : tSd T 3 s &&& inS T (nI 4) = nI 0
  · simp [h]
  · obtain ⟨i, hi, ht⟩ := tb_ne.mp h
    rw [tb_and] at ht
    have := (hW.2.2.1.2.2.1 s i hs (by simpa using (Bool.and_eq_true_iff.mp ht).1)).2.1
    simp [h, this]
