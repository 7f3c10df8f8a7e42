/-! searches, sets of seats, bounds -/
def fst (p : Nat → Bool) (n : Nat) : Option Nat := (List.range n).find? p
def lst (p : Nat → Bool) : Nat → Option Nat
  | 0 => none
  | n + 1 => if p n = true then some n else lst p n
theorem fst_some {p : Nat → Bool} {n i : Nat} (h : fst p n = some i) : i < n ∧ p i = true ∧ ∀ j, j < i → p j = false := by
  unfold fst at h
  have h' := List.find?_range_eq_some.mp h
  refine ⟨by simpa using h'.2.1, h'.1, fun j hj => ?_⟩
  have := h'.2.2 j hj
  simpa using this
theorem fst_none {p : Nat → Bool} {n : Nat} (h : fst p n = none) : ∀ j, j < n → p j = false := by
  unfold fst at h
  intro j hj
  have := List.find?_eq_none.mp h j (by simpa using hj)
  simpa using this
theorem fst_of {p : Nat → Bool} {n i : Nat} (h1 : i < n) (h2 : p i = true) (h3 : ∀ j, j < i → p j = false) : fst p n = some i := by
  unfold fst
  refine List.find?_range_eq_some.mpr ⟨h2, by simpa using h1, fun j hj => ?_⟩
  rw [h3 j hj]
  rfl
theorem fst_nil {p : Nat → Bool} {n : Nat} (h : ∀ j, j < n → p j = false) : fst p n = none := by
  unfold fst
  refine List.find?_eq_none.mpr (fun x hx => ?_)
  rw [h x (by simpa using hx)]
  decide
theorem lst_some {p : Nat → Bool} {n i : Nat} (h : lst p n = some i) : i < n ∧ p i = true ∧ ∀ j, i < j → j < n → p j = false := by
  induction n with
  | zero => cases h
  | succ n ih =>
    unfold lst at h
    by_cases hp : p n = true
    · rw [if_pos hp] at h
      cases h
      exact ⟨by omega, hp, fun j h1 h2 => by omega⟩
    · rw [if_neg hp] at h
      obtain ⟨a, b, c⟩ := ih h
      refine ⟨by omega, b, fun j h1 h2 => ?_⟩
      by_cases e : j = n
      · rw [e]; simpa using hp
      · exact c j h1 (by omega)
theorem lst_none {p : Nat → Bool} {n : Nat} (h : lst p n = none) : ∀ j, j < n → p j = false := by
  induction n with
  | zero => intro j hj; omega
  | succ n ih =>
    unfold lst at h
    by_cases hp : p n = true
    · rw [if_pos hp] at h; cases h
    · rw [if_neg hp] at h
      intro j hj
      by_cases e : j = n
      · rw [e]; simpa using hp
      · exact ih h j (by omega)
theorem lst_of {p : Nat → Bool} {n i : Nat} (h1 : i < n) (h2 : p i = true) (h3 : ∀ j, i < j → j < n → p j = false) : lst p n = some i := by
  cases h : lst p n with
  | none => rw [lst_none h i h1] at h2; cases h2
  | some k =>
    obtain ⟨a, b, c⟩ := lst_some h
    by_cases e : k = i
    · rw [e]
    · by_cases l : k < i
      · rw [c i l h1] at h2; cases h2
      · rw [h3 k (by omega) a] at b; cases b
theorem lst_nil {p : Nat → Bool} {n : Nat} (h : ∀ j, j < n → p j = false) : lst p n = none := by
  cases e : lst p n with
  | none => rfl
  | some k =>
    obtain ⟨a, b, c⟩ := lst_some e
    rw [h k a] at b; cases b
theorem lst_congr {p q : Nat → Bool} {n : Nat} (h : ∀ j, j < n → p j = q j) : lst p n = lst q n := by
  induction n with
  | zero => rfl
  | succ n ih =>
    unfold lst
    rw [h n (by omega), ih (fun j hj => h j (by omega))]
theorem fst_congr {p q : Nat → Bool} {n : Nat} (h : ∀ j, j < n → p j = q j) : fst p n = fst q n := by
  cases e : fst q n with
  | none => exact fst_nil (fun j hj => by rw [h j hj]; exact fst_none e j hj)
  | some k =>
    obtain ⟨a, b, c⟩ := fst_some e
    exact fst_of a (by rw [h k a]; exact b) (fun j hj => by rw [h j (by omega)]; exact c j hj)
theorem it_fst {σ ρ : Type} {b : σ → Option (σ ⊕ ρ)} (st : Nat → σ) (p : Nat → Bool) (n : Nat) (r0 : ρ) (r : Nat → ρ) (hg : ∀ i, i < n → p i = false → b (st i) = some (.inl (st (i + 1)))) (hs : ∀ i, i < n → p i = true → b (st i) = some (.inr (r i))) (he : b (st n) = some (.inr r0)) {u : Nat} (hu : n < u) : nx_iter u b (st 0) = some ((fst p n).elim r0 r) := by
  cases e : fst p n with
  | none => exact it_up st n (fun i hi => hg i hi (fst_none e i hi)) he (by omega) (by omega)
  | some k =>
    obtain ⟨a, b, c⟩ := fst_some e
    exact it_up st k (fun i hi => hg i (by omega) (c i hi)) (hs k a b) (by omega) (by omega)
theorem it_lst {σ ρ : Type} {b : σ → Option (σ ⊕ ρ)} (st : Nat → σ) (p : Nat → Bool) (n : Nat) (r0 : ρ) (r : Nat → ρ) (hg : ∀ i, i < n → p i = false → b (st (i + 1)) = some (.inl (st i))) (hs : ∀ i, i < n → p i = true → b (st (i + 1)) = some (.inr (r i))) (he : b (st 0) = some (.inr r0)) {u : Nat} (hu : n < u) : nx_iter u b (st n) = some ((lst p n).elim r0 r) := by
  induction n generalizing u with
  | zero =>
    obtain ⟨v, rfl⟩ : ∃ v, u = v + 1 := ⟨u - 1, by omega⟩
    show (b (st 0)).bind _ = _
    rw [he]; rfl
  | succ n ih =>
    obtain ⟨v, rfl⟩ : ∃ v, u = v + 1 := ⟨u - 1, by omega⟩
    show (b (st (n + 1))).bind _ = _
    unfold lst
    by_cases hp : p n = true
    · rw [hs n (by omega) hp, if_pos hp]; rfl
    · rw [hg n (by omega) (by simpa using hp), if_neg hp]
      exact ih (fun i hi => hg i (by omega)) (fun i hi => hs i (by omega)) (by omega)
/-- a set of seats -/
def bitA (s : Nat) : Int32 := nI 1 <<< (nI s &&& 31)
def setA (p : Nat → Bool) : Nat → Int32
  | 0 => nI 0
  | n + 1 => if p n = true then setA p n ||| bitA n else setA p n
theorem setA_congr {p q : Nat → Bool} {n : Nat} (h : ∀ j, j < n → p j = q j) : setA p n = setA q n := by
  induction n with
  | zero => rfl
  | succ n ih =>
    unfold setA
    rw [h n (by omega), ih (fun j hj => h j (by omega))]
theorem or_0 (x : Int32) : x ||| nI 0 = x := Int32.or_zero
/-- in 0 .. b - 1 -/
def inR (x : Int32) (b : Nat) : Bool := decide (0 ≤ x.toInt ∧ x.toInt < b)
theorem inR_nI {a b : Nat} (ha : a < 1000000000) : inR (nI a) b = decide (a < b) := by
  unfold inR
  rw [toI ha]
  apply decide_eq_decide.mpr
  omega
theorem inR_of {x : Int32} {b : Nat} (h : inR x b = true) : ∃ a, a < b ∧ x = nI a := by
  unfold inR at h
  have h' := of_decide_eq_true h
  refine ⟨x.toInt.toNat, by omega, ?_⟩
  rw [← iz_cast]
  unfold iz
  rw [Int.toNat_of_nonneg h'.1]
  exact (Int32.ofInt_toInt x).symm
theorem inR_N1 {b : Nat} : inR (iz (-1)) b = false := by
  unfold inR
  rw [toN1]
  exact decide_eq_false (by omega)
theorem L_within (u : Nat) (x : Int32) {b : Nat} (hb : b < 1000000000) : fL_within u x (nI b) = some (inR x b) := by
  unfold fL_within inR
  rw [izN]
  have e0 : (nI 0).toInt = 0 := toI (by omega)
  have eb : (nI b).toInt = b := toI hb
  by_cases h : x < nI 0
  · rw [if_pos h]
    rw [Int32.lt_iff_toInt_lt, e0] at h
    rw [decide_eq_false (by omega)]
  · rw [if_neg h]
    rw [Int32.lt_iff_toInt_lt, e0] at h
    by_cases h2 : nI b ≤ x
    · rw [if_pos h2]
      rw [Int32.le_iff_toInt_le, eb] at h2
      rw [decide_eq_false (by omega)]
    · rw [if_neg h2]
      rw [Int32.le_iff_toInt_le, eb] at h2
      rw [decide_eq_true (by omega)]
theorem M_in (u : Nat) (x : Int32) {b : Nat} (hb : b < 1000000000) : fM_in u x (nI 0) (nI b) = some (inR x (b + 1)) := by
  unfold fM_in inR
  have e0 : (nI 0).toInt = 0 := toI (by omega)
  have eb : (nI b).toInt = b := toI hb
  by_cases h : x < nI 0
  · rw [if_pos h]
    rw [Int32.lt_iff_toInt_lt, e0] at h
    rw [decide_eq_false (by omega)]
  · rw [if_neg h]
    rw [Int32.lt_iff_toInt_lt, e0] at h
    by_cases h2 : nI b < x
    · rw [if_pos h2]
      rw [Int32.lt_iff_toInt_lt, eb] at h2
      rw [decide_eq_false (by omega)]
    · rw [if_neg h2]
      rw [Int32.lt_iff_toInt_lt, eb] at h2
      rw [decide_eq_true (by omega)]
/-! World's small questions -/
def lvT (T : ET) (s : Nat) : Bool := decide (tSd T 0 s = nI 1 ∨ tSd T 0 s = nI 2)
theorem W_isLive {u : Nat} (hu : 1000 ≤ u) {R : ER} {w0 : Int32} {D : Nat → List De} {f : Nat → Int32} {T : ET} (h : RW R w0 D f T) {s : Nat} (hs : s < 8) : fW_isLive u f (nI s) = some (lvT T s) := by
  unfold fW_isLive lvT
  simp (disch := omega) only [izN, nI_add, mulI, rdW, wrW, Option.bind_some, h.st]
  by_cases h1 : tSd T 0 s = nI 1
  · simp [h1]
  · by_cases h2 : tSd T 0 s = nI 2 <;> simp [h1, h2]
theorem bdE {α β : Type} {o : Option α} {k : α → Option β} {a : α} (e : o = some a) : o.bind k = k a := by rw [e]; rfl
theorem W_seatsIn {u : Nat} (hu : 1000 ≤ u) {R : ER} {w0 : Int32} {D : Nat → List De} {f : Nat → Int32} {T : ET} (h : RW R w0 D f T) (v : Int32) : fW_seatsIn u f v = some (setA (fun s => decide (tSd T 0 s = v)) 8) := by
  unfold fW_seatsIn
  refine bdE (it_up (fun i => (setA (fun s => decide (tSd T 0 s = v)) i, nI i)) 8 (fun i hi => ?_) ?_ (i := 0) (by omega) (by omega))
  · unfold fW_seatsIn_4
    simp (disch := omega) only [izN, nI_add, mulI, rdW, wrW, Option.bind_some, h.st, leI]
    rw [if_neg (by omega)]
    by_cases e : tSd T 0 i = v <;> simp [e, setA, bitA]
  · unfold fW_seatsIn_4
    simp (disch := omega) only [izN, nI_add, mulI, rdW, wrW, Option.bind_some, leI]
    rfl
theorem W_ownSlot {u : Nat} (hu : 1000 ≤ u) {R : ER} {w0 : Int32} {D : Nat → List De} {f : Nat → Int32} {T : ET} (h : RW R w0 D f T) {k : Nat} (hk : k < 6) (x : Int32) : fW_ownSlot u f (nI k) x = some ((fst (fun i => decide ((vA T k i).2.2.2 = x)) (tVs T k).length).elim (iz (-1)) (fun i => nI (k * 9 + i))) := by
  have hl := h.l9 hk
  unfold fW_ownSlot
  refine (bdE (it_fst (fun i => nI i) (fun i => decide ((vA T k i).2.2.2 = x)) (tVs T k).length (.inl ()) (fun i => .inr (nI (k * 9 + i))) (fun i hi hp => ?_) (fun i hi hp => ?_) ?_ (by omega))).trans ?_
  · unfold fW_ownSlot_8
    simp (disch := omega) only [izN, nI_add, mulI, rdW, wrW, Option.bind_some, h.mn, leI, h.v4]
    rw [if_neg (by omega), if_neg (by omega), if_neg (by simpa using hp)]
  · unfold fW_ownSlot_8
    simp (disch := omega) only [izN, nI_add, mulI, rdW, wrW, Option.bind_some, h.mn, leI, h.v4]
    rw [if_neg (by omega), if_neg (by omega), if_pos (by simpa using hp)]
  · unfold fW_ownSlot_8
    simp (disch := omega) only [izN, nI_add, mulI, rdW, wrW, Option.bind_some, h.mn, leI]
    split <;> simp
  · cases fst _ _ <;> rfl
