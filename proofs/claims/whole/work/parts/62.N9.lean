/-! to retry -/
def vD (R : ER) (d : De) : Prop := ∃ a k b : Nat, (a = 1 ∨ a = 2) ∧ k < R.1 ∧ b ≤ 100 ∧ d = (nI a, nI k, nI b - nI 1)
def WD (R : ER) (D : Nat → List De) : Prop := ∀ s, s < 8 → ∀ d ∈ D s, vD R d
theorem encD_ok : ∀ (a : Fin 4) (k : Fin 8) (b : Fin 101), (encD (nI a.val, nI k.val, nI b.val - nI 1) &&& nI 3 = nI a.val) ∧ ((encD (nI a.val, nI k.val, nI b.val - nI 1) >>> (nI 2 &&& 31)) &&& nI 7 = nI k.val) ∧ (encD (nI a.val, nI k.val, nI b.val - nI 1) >>> (nI 5 &&& 31)) - nI 1 = nI b.val - nI 1 := by decide +kernel
def readA (T : ET) (s k : Nat) : ET := readT T s k ((rdI T s k).getD 0)
def redo1 (R : ER) (T : ET) (s : Nat) (d : De) : ET × Bool :=
  if d.1 = nI 1 then (readA T s d.2.1.toInt.toNat, true)
  else if fuT R T s d.2.1.toInt.toNat = true then (T, false)
  else ((writeT T s d.2.1.toInt.toNat d.2.2).1, ! decide ((writeT T s d.2.1.toInt.toNat d.2.2).2 = iz (-2)))
def redoN (R : ER) (s : Nat) : List De → ET → ET × Nat
  | [], T => (T, 0)
  | d :: ds, T => if (redo1 R T s d).2 = true then ((redoN R s ds (redo1 R T s d).1).1, (redoN R s ds (redo1 R T s d).1).2 + 1) else ((redo1 R T s d).1, 0)
def retryT (R : ER) (T : ET) (s : Nat) (ds : List De) : ET × Nat := redoN R s ds (openT R T s (tSd T 2 s))
theorem read_st {T : ET} {s k i o : Nat} : tSd (readT T s k i) 0 o = tSd T 0 o := by
  unfold readT
  show tSd (if _ then _ else _) 0 o = _
  split
  · rfl
  · unfold leaveT
    split
    · rw [doomT_sd.1 (by omega)]; rfl
    · split
      · rfl
      · rw [g_sd, if_neg (by omega)]; rfl
theorem write_st {T : ET} {s k o : Nat} {v : Int32} (h : (writeT T s k v).2 ≠ iz (-2)) : tSd (writeT T s k v).1 0 o = tSd T 0 o := by
  unfold writeT at h ⊢
  by_cases c : laT T k (tSd T 1 s) = true
  · rw [if_pos c] at h
    exact absurd rfl h
  · rw [if_neg c]
    cases e : owI T k s <;> rfl
theorem redo1_ok {R : ER} {T : ET} (h : WF R T) {s : Nat} (hs : s < 8) (hl : lvT T s = true) {d : De} (hd : vD R d) : WF R (redo1 R T s d).1 ∧ ((redo1 R T s d).2 = true → lvT (redo1 R T s d).1 s = true) := by
  obtain ⟨a, k, b, ha, hk, hb, rfl⟩ := hd
  have hk6 : k < 6 := by have := h.1.2.1; omega
  unfold redo1
  simp only [nI_back (show k < 1000000000 by omega)]
  obtain ⟨i, hi⟩ := h.rd hs hk hl
  split
  · refine ⟨?_, fun _ => ?_⟩
    · unfold readA
      rw [hi]
      exact h.read hs hk hl hi
    · show lvT (readT _ _ _ _) s = true
      rw [lvT_of read_st]
      exact hl
  · split
    · exact ⟨h, fun hh => by cases hh⟩
    · next hf =>
      refine ⟨h.write hs hk hl (by simpa using hf) _, fun hh => ?_⟩
      have hh : (writeT T s k (nI b - nI 1)).2 ≠ iz (-2) := by simpa using hh
      show lvT (writeT _ _ _ _).1 s = true
      rw [lvT_of (write_st hh)]
      exact hl
theorem WF.redo {R : ER} {s : Nat} (hs : s < 8) : ∀ (ds : List De) {T : ET}, WF R T → lvT T s = true → (∀ d ∈ ds, vD R d) → WF R (redoN R s ds T).1 := by
  intro ds
  induction ds with
  | nil => intro T h _ _; exact h
  | cons d ds ih =>
    intro T h hl hd
    obtain ⟨h1, h2⟩ := redo1_ok h hs hl (hd d (by simp))
    unfold redoN
    by_cases c : (redo1 R T s d).2 = true
    · rw [if_pos c]
      exact ih h1 (h2 c) (fun d' hd' => hd d' (by simp [hd']))
    · rw [if_neg c]
      exact h1
theorem W_deedPart {u : Nat} (hu : 1000 ≤ u) {R : ER} {w0 : Int32} {D : Nat → List De} {f : Nat → Int32} {T : ET} (h : RW R w0 D f T) {s : Nat} (hD : ∀ d ∈ D s, vD R d) {i : Nat} (hR : R.1 ≤ 6) (hs : s < 8) {d : De} (hi : (D s)[i]? = some d) : fW_deedPart u f (nI s) (nI i) (nI 0) = some d.1 ∧ fW_deedPart u f (nI s) (nI i) (nI 1) = some d.2.1 ∧ fW_deedPart u f (nI s) (nI i) (nI 2) = some d.2.2 := by
  obtain ⟨h1, h2, h3⟩ := h.dd hs
  have hil := (List.getElem?_eq_some_iff.mp hi).1
  obtain ⟨a, k, b, ha, hk, hb, rfl⟩ := hD d (List.mem_of_getElem? hi)
  have e := h3 i _ hi
  obtain ⟨x1, x2, x3⟩ := encD_ok ⟨a, by omega⟩ ⟨k, by omega⟩ ⟨b, by omega⟩
  have n1 : ¬ (nI 1 = nI 0) := i10
  have n2 : ¬ (nI 2 = nI 0) := by decide +kernel
  have n3 : ¬ (nI 2 = nI 1) := by decide +kernel
  unfold fW_deedPart
  simp (disch := omega) only [izN, nI_add, mulI, rdW, wrW, Option.bind_some, e, n1, n2, n3, if_true, if_false]
  exact ⟨congrArg some x1, congrArg some x2, congrArg some x3⟩
theorem W_hasKey {u : Nat} (hu : 1000 ≤ u) {R : ER} {w0 : Int32} {D : Nat → List De} {f : Nat → Int32} {T : ET} (h : RW R w0 D f T) (hR : R.1 ≤ 6) (x : Int32) : fW_hasKey u f x = some (inR x R.1) := by
  unfold fW_hasKey
  simp (disch := omega) only [izN, nI_add, mulI, rdW, wrW, Option.bind_some, L_within, h.r3]
  by_cases c : inR x 6 = true
  · obtain ⟨a, ha, rfl⟩ := inR_of c
    rw [if_pos c, inR_nI (by omega)]
    simp (disch := omega) only [leI]
    by_cases c2 : R.1 ≤ a
    · rw [if_pos c2, decide_eq_false (by omega)]
    · rw [if_neg c2, decide_eq_true (by omega)]
  · rw [if_neg c]
    have : inR x R.1 = false := by
      by_cases c2 : inR x R.1 = true
      · obtain ⟨a, ha, rfl⟩ := inR_of c2
        rw [inR_nI (by omega)] at c
        simp at c
        omega
      · simpa using c2
    rw [this]
theorem W_redo {u : Nat} (hu : 1000 ≤ u) {R : ER} {w0 : Int32} {D : Nat → List De} {f : Nat → Int32} {T : ET} (h : RW R w0 D f T) (hW : WF R T) {s i : Nat} (hD : ∀ d ∈ D s, vD R d) (hs : s < 8) (hl : lvT T s = true) {d : De} (hi : (D s)[i]? = some d) : ok (fW_redo u f (nI s) (nI i)) (fun r => r.1 = (redo1 R T s d).2 ∧ RW R w0 D r.2 (redo1 R T s d).1) := by
  obtain ⟨p0, p1, p2⟩ := W_deedPart hu h hD hW.1.2.1 hs hi
  obtain ⟨a, k, b, ha, hk, hb, rfl⟩ := hD d (List.mem_of_getElem? hi)
  have hk6 : k < 6 := by have := hW.1.2.1; omega
  obtain ⟨j, hj⟩ := hW.rd hs hk hl
  unfold fW_redo redo1
  simp only [izN]
  rw [p1, p0, p2]
  simp only [Option.bind_some, W_hasKey hu h hW.1.2.1, inR_nI (show k < 1000000000 by omega), decide_eq_true hk, if_true, nI_back (show k < 1000000000 by omega)]
  by_cases c : nI a = nI 1
  · rw [if_pos c, if_pos c]
    unfold readA
    rw [hj]
    exact (W_readKey hu h hs hk6 hj).bd (fun r hr => ok.ret ⟨rfl, hr.2⟩)
  · rw [if_neg c, if_neg c, W_isFull hu h hs hk6]
    simp only [Option.bind_some]
    by_cases cf : fuT R T s k = true
    · rw [if_pos cf, if_pos cf]
      exact ok.ret ⟨rfl, h⟩
    · rw [if_neg cf, if_neg cf]
      refine (W_writeKey hu h hs hk6 (nI b - nI 1) (fun h1 h2 => (fu_room hW hk (by simpa using cf) h1 h2).2)).bd (fun r hr => ?_)
      rw [hr.1]
      by_cases cw : (writeT T s k (nI b - nI 1)).2 = iz (-2)
      · rw [if_pos cw]
        exact ok.ret ⟨by simp [cw], hr.2⟩
      · rw [if_neg cw]
        exact ok.ret ⟨by simp [cw], hr.2⟩
theorem W_redo_n {u : Nat} (hu : 1000 ≤ u) {R : ER} {w0 : Int32} {D : Nat → List De} {s : Nat} (hs : s < 8) (hD : ∀ d ∈ D s, vD R d) : ∀ (ds pre : List De) {f : Nat → Int32} {T : ET} {v : Nat}, RW R w0 D f T → WF R T → D s = pre ++ ds → lvT T s = true → ds.length < v → ok (nx_iter v (fW_redoAll_43 u (nI s) (nI (D s).length)) (nI pre.length, nI pre.length, f)) (fun r => r.1 = nI (pre.length + (redoN R s ds T).2) ∧ RW R w0 D r.2 (redoN R s ds T).1) := by
  intro ds
  induction ds with
  | nil =>
    intro pre f T v h hW e hl hv
    have h12 := (h.dd hs).1
    rw [List.append_nil] at e
    refine ok.eq (it_end (r := (nI pre.length, f)) ?_ (by omega)) ⟨rfl, h⟩
    unfold fW_redoAll_43
    rw [e] at h12 ⊢
    simp (disch := omega) only [izN, nI_add, mulI, rdW, wrW, Option.bind_some, leI]
    split
    · rfl
    · rw [if_pos (by omega)]
  | cons d ds ih =>
    intro pre f T v h hW e hl hv
    have h12 := (h.dd hs).1
    have hlen : (D s).length = pre.length + ds.length + 1 := by rw [e]; simp; omega
    have hi : (D s)[pre.length]? = some d := by rw [e]; simp
    obtain ⟨v, rfl⟩ : ∃ w, v = w + 1 := ⟨v - 1, by simp at hv; omega⟩
    obtain ⟨w1, w2⟩ := redo1_ok hW hs hl (hD d (List.mem_of_getElem? hi))
    unfold redoN
    refine it_go (P := fun x => (redo1 R T s d).2 = true ∧ ∃ f', RW R w0 D f' (redo1 R T s d).1 ∧ x = (nI (pre.length + 1), nI (pre.length + 1), f')) ?_ ?_
    · unfold fW_redoAll_43
      simp (disch := omega) only [izN, nI_add, mulI, rdW, wrW, Option.bind_some, leI]
      rw [if_neg (by omega), if_neg (by omega)]
      refine (W_redo hu h hW hD hs hl hi).bd (fun r hr => ?_)
      rw [hr.1]
      by_cases c : (redo1 R T s d).2 = true
      · rw [if_pos c]
        exact ok.ret ⟨c, r.2, hr.2, rfl⟩
      · rw [if_neg c]
        refine ok.ret ?_
        rw [if_neg c]
        exact ⟨rfl, hr.2⟩
    · rintro x ⟨c, f', hf', rfl⟩
      rw [if_pos c]
      have := ih (pre ++ [d]) (v := v) hf' w1 (by rw [e]; simp) (w2 c) (by simp at hv; omega)
      rw [List.length_append, List.length_singleton] at this
      refine this.im (fun r hr => ⟨?_, hr.2⟩)
      rw [hr.1]
      congr 1
      omega
