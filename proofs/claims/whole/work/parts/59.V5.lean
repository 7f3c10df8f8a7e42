/-! entering, committing, writing keep it -/
theorem seat_sd {T : ET} {s c o : Nat} {way x : Int32} : tSd (seatT T s way x) c o = if o = s ∧ c < 5 then enC c way x else tSd T c o := rfl
theorem WF.enter {R : ER} {T : ET} (h : WF R T) {s : Nat} (hs : s < 8) (hn : lvT T s = false) (way : Int32) {x : Int32} (h0 : 0 < x.toInt) (hu : usd R T x) (hf : (tFl T).toInt ≤ x.toInt) (hm : ∀ k, k < 6 → ∀ v ∈ tVs T k, v.1 ≠ x) (ho : ∀ o, o < 8 → lvT T o = true → tSd T 1 o ≠ x) : WF R (enterT T s way x) := by
  obtain ⟨hR, hV, ⟨a, b, c, d, e⟩, hC⟩ := h
  obtain ⟨m1, m2, m3, m4, m5, m6, m7⟩ := wm_iff.mp hV
  unfold enterT
  refine WF.note ?_ _
  have hlv : ∀ o, lvT (seatT T s way x) o = if o = s then true else lvT T o := by
    intro o
    unfold lvT
    rw [seat_sd]
    by_cases eo : o = s
    · rw [if_pos ⟨eo, by omega⟩, if_pos eo, show enC 0 way x = nI 1 from rfl]
      decide +kernel
    · rw [if_neg (fun hh => eo hh.1), if_neg eo]
  have hst : ∀ o, tSd (seatT T s way x) 1 o = if o = s then x else tSd T 1 o := by
    intro o
    rw [seat_sd]
    by_cases eo : o = s
    · rw [if_pos ⟨eo, by omega⟩, if_pos eo]; rfl
    · rw [if_neg (fun hh => eo hh.1), if_neg eo]
  have hns : ∀ o, lvT T o = true → o ≠ s := fun o hl hh => by rw [hh, hn] at hl; cases hl
  refine ⟨hR, wm_iff.mpr ⟨m1, m2, m3, fun k hk v hv => ?_, fun k hk v hv o ho' hl he => ?_, m6, m7⟩, ⟨fun o ho' hl => ?_, fun o o' h1 h2 hl hl' he => ?_, fun o o' h1 ht => ?_, fun o ho' => ?_, fun o ho' => ?_⟩, hC⟩
  · rcases m4 k hk v hv with h1 | ⟨o, ho', h1, h2, h3⟩
    · exact Or.inl h1
    · exact Or.inr ⟨o, ho', h1, by rw [hlv, if_neg (hns o h2)]; exact h2, by rw [hst, if_neg (hns o h2)]; exact h3⟩
  · rw [hst] at he
    rw [hlv] at hl
    by_cases eo : o = s
    · rw [if_pos eo] at he
      exact absurd he (hm k hk v hv)
    · rw [if_neg eo] at he hl
      exact m5 k hk v hv o ho' hl he
  · rw [hst]
    rw [hlv] at hl
    by_cases eo : o = s
    · rw [if_pos eo]; exact ⟨h0, hu, hf⟩
    · rw [if_neg eo] at hl ⊢; exact a o ho' hl
  · rw [hst, hst] at he
    rw [hlv] at hl hl'
    by_cases eo : o = s
    · by_cases eo' : o' = s
      · rw [eo, eo']
      · rw [if_pos eo, if_neg eo'] at he
        rw [if_neg eo'] at hl'
        exact absurd he.symm (ho o' h2 hl')
    · rw [if_neg eo] at he hl
      by_cases eo' : o' = s
      · rw [if_pos eo'] at he
        exact absurd he (ho o h1 hl)
      · rw [if_neg eo'] at he hl'
        exact b o o' h1 h2 hl hl' he
  · rw [seat_sd] at ht
    by_cases eo : o = s
    · rw [if_pos ⟨eo, by omega⟩] at ht
      have : enC 3 way x = nI 0 := rfl
      rw [this, tb_0] at ht
      cases ht
    · rw [if_neg (fun hh => eo hh.1)] at ht
      obtain ⟨x1, x2, x3, x4⟩ := c o o' h1 ht
      have := hns o' x3
      exact ⟨x1, by rw [hlv, if_neg eo]; exact x2, by rw [hlv, if_neg this]; exact x3, by rw [hst, hst, if_neg eo, if_neg this]; exact x4⟩
  · rw [seat_sd]
    split
    · exact Or.inl rfl
    · exact d o ho'
  · rw [seat_sd]
    split
    · exact ⟨1, by omega, rfl⟩
    · exact e o ho'
theorem strd_of {R : ER} (h : wfR R) : ∃ d : Nat, 2 ≤ d ∧ d ≤ 20 ∧ R.2.2.2 = nI d ∧ R.2.2.2.toInt = d := by
  obtain ⟨-, -, -, d, h1, h2, h3⟩ := h
  exact ⟨d, h1, h2, h3, by rw [h3, toI (by omega)]⟩
theorem most_of {R : ER} (h : wfR R) : ∃ m : Nat, 2 ≤ m ∧ m ≤ 9 ∧ R.2.1 = nI m ∧ R.2.1.toInt = m := by
  obtain ⟨-, -, ⟨m, h1, h2, h3⟩, -⟩ := h
  exact ⟨m, h1, h2, h3, by rw [h3, toI (by omega)]⟩
theorem add_toInt {a b : Int32} (h1 : -1000000 ≤ a.toInt + b.toInt) (h2 : a.toInt + b.toInt ≤ 1000000) : (a + b).toInt = a.toInt + b.toInt := by
  rw [Int32.toInt_add]
  exact Int.bmod_eq_of_le (by simpa using by omega) (by simpa using by omega)
theorem WF.tick {R : ER} {T : ET} (h : WF R T) (hc : (tCk T).toInt + R.2.2.2.toInt ≤ 9999) : WF R (tickT R T) ∧ (tCk (tickT R T)).toInt = (tCk T).toInt + R.2.2.2.toInt := by
  obtain ⟨d, hd2, hd20, -, hd⟩ := strd_of h.1
  obtain ⟨hR, hV, ⟨a, b, c, d', e⟩, hC⟩ := h
  obtain ⟨m1, m2, m3, m4, m5, m6, m7⟩ := wm_iff.mp hV
  obtain ⟨c1, c2, c3, c4, c5, c6⟩ := hC
  have he : (tCk (tickT R T)).toInt = (tCk T).toInt + R.2.2.2.toInt := add_toInt (by omega) (by omega)
  have hus : ∀ x, usd R T x → usd R (tickT R T) x := by
    rintro x ⟨u1, u2, u3⟩
    exact ⟨u1, by rw [he]; omega, u3⟩
  refine ⟨⟨hR, wm_iff.mpr ⟨m1, m2, m3, m4, m5, fun k hk v hv => ?_, m7⟩, ⟨fun s hs hl => ?_, b, c, d', e⟩, ?_⟩, he⟩
  · obtain ⟨x1, x2, x3⟩ := m6 k hk v hv
    exact ⟨hus _ x1, x2, by rw [he]; omega⟩
  · obtain ⟨x1, x2, x3⟩ := a s hs hl
    exact ⟨x1, hus _ x2, x3⟩
  · refine ⟨by rw [he]; omega, by rw [he]; exact hc, by rw [he]; exact Int.dvd_add c3 (Int.dvd_refl _), c4, ?_, c6⟩
    rw [he]
    show (tFl T).toInt ≤ _
    omega
theorem WF.opn {R : ER} {T : ET} (h : WF R T) {s : Nat} (hs : s < 8) (hn : lvT T s = false) (way : Int32) (hc : (tCk T).toInt + R.2.2.2.toInt ≤ 9999) : WF R (openT R T s way) := by
  obtain ⟨d, hd2, hd20, -, hd⟩ := strd_of h.1
  obtain ⟨h1, he⟩ := h.tick hc
  have hC := h.2.2.2
  have ex : tCk T + R.2.2.2 = tCk (tickT R T) := rfl
  unfold openT
  rw [ex]
  have c1 := hC.1
  have c5 := hC.2.2.2.2.1
  refine h1.enter hs hn way (by rw [he]; omega) ⟨by rw [he]; omega, Int.le_refl _, Or.inl h1.2.2.2.2.2.1⟩ (by rw [he]; show (tFl T).toInt ≤ _; omega) (fun k hk v hv hh => ?_) (fun o ho hl hh => ?_)
  · have := ((wm_iff.mp h.2.1).2.2.2.2.2.1 k hk v hv).1.2.1
    rw [hh, he] at this
    omega
  · have := (h.2.2.1.1 o ho hl).2.1.2.1
    have hh' : tSd T 1 o = tCk (tickT R T) := hh
    rw [hh', he] at this
    omega
theorem WF.hand {R : ER} {T : ET} (h : WF R T) (x : Int32) (hl : (tHd T).length < 30) : WF R (handT T x) := by
  obtain ⟨hR, hV, ⟨a, b, c, d', e⟩, hC⟩ := h
  obtain ⟨m1, m2, m3, m4, m5, m6, m7⟩ := wm_iff.mp hV
  obtain ⟨c1, c2, c3, c4, c5, c6⟩ := hC
  have hus : ∀ y, usd R T y → usd R (handT T x) y := by
    rintro y ⟨u1, u2, u3⟩
    refine ⟨u1, u2, ?_⟩
    rcases u3 with u3 | u3
    · exact Or.inl u3
    · exact Or.inr (List.mem_append_left _ u3)
  refine ⟨hR, wm_iff.mpr ⟨m1, m2, m3, m4, m5, fun k hk v hv => ?_, m7⟩, ⟨fun s hs hl => ?_, b, c, d', e⟩, c1, c2, c3, c4, c5, ?_⟩
  · obtain ⟨x1, x2, x3⟩ := m6 k hk v hv
    exact ⟨hus _ x1, x2, x3⟩
  · obtain ⟨x1, x2, x3⟩ := a s hs hl
    exact ⟨x1, hus _ x2, x3⟩
  · show (tHd T ++ [x]).length ≤ 30
    simp
    omega
theorem WF.openAt {R : ER} {T : ET} (h : WF R T) {s : Nat} (hs : s < 8) (hn : lvT T s = false) (way : Int32) {x : Int32} (h1 : (tFl T).toInt < x.toInt) (h2 : x.toInt < (tCk T).toInt) (h3 : ¬ R.2.2.2.toInt ∣ x.toInt) (h4 : x ∉ tHd T) (hl : (tHd T).length < 30) : WF R (openAtT T s way x) := by
  have h5 := h.hand x hl
  have hC := h.2.2.2
  have c4 := hC.2.2.2.1
  unfold openAtT
  refine h5.enter hs hn way (by omega) ⟨by omega, by show x.toInt ≤ (tCk T).toInt; omega, Or.inr (List.mem_append_right _ (by simp))⟩ (by show (tFl T).toInt ≤ _; omega) (fun k hk v hv hh => ?_) (fun o ho hl hh => ?_)
  · rcases ((wm_iff.mp h.2.1).2.2.2.2.2.1 k hk v hv).1.2.2 with u | u
    · rw [hh] at u; exact h3 u
    · rw [hh] at u; exact h4 u
  · rcases (h.2.2.1.1 o ho hl).2.1.2.2 with u | u
    · have hh' : tSd T 1 o = x := hh
      rw [hh'] at u; exact h3 u
    · have hh' : tSd T 1 o = x := hh
      rw [hh'] at u; exact h4 u
theorem wait_sd {T : ET} {s c o : Nat} : tSd (waitT T s) c o = if c = 0 ∧ o = s then nI 2 else tSd T c o := rfl
theorem wait_lv {T : ET} {s o : Nat} (hl : lvT T s = true) : lvT (waitT T s) o = lvT T o := by
  by_cases e : o = s
  · subst e
    rw [hl]
    unfold lvT
    rw [wait_sd, if_pos ⟨rfl, rfl⟩]
    decide +kernel
  · unfold lvT
    rw [wait_sd, if_neg (fun hh => e hh.2)]
theorem WF.wait {R : ER} {T : ET} (h : WF R T) {s : Nat} (hs : s < 8) (hl : lvT T s = true) : WF R (waitT T s) :=
  h.seats rfl rfl rfl rfl (fun o ho => wait_lv hl) (fun o ho => by rw [wait_sd, if_neg (by omega)]) (fun o o' ho ht => Or.inl (by rw [wait_sd, if_neg (by omega)] at ht; exact ht)) (fun o ho => Or.inl (by rw [wait_sd, if_neg (by omega)])) (fun o ho => by
    rw [wait_sd]
    split
    · exact ⟨2, by omega, rfl⟩
    · exact h.2.2.1.2.2.2.2 o ho)
theorem WF.commit {R : ER} {T : ET} (h : WF R T) {s : Nat} (hs : s < 8) (hl : lvT T s = true) : WF R (commitT R T s).1 := by
  unfold commitT
  split
  · split
    · next hd =>
      exact WF.sureN 8 (h.wait hs hl) hs (by rw [wait_lv hl]; exact hl) (by rw [wait_sd, if_neg (by omega)]; exact hd)
    · exact h.wait hs hl
  · exact h.fall hs hl
theorem fu_room {R : ER} {T : ET} (h : WF R T) {s k : Nat} (hk : k < R.1) (hf : fuT R T s k = false) (hl : laT T k (tSd T 1 s) = false) (ho : owI T k s = none) : ((tVs T k).length : Int) < R.2.1.toInt ∧ (tVs T k).length < 9 := by
  obtain ⟨m, h2, h9, e1, e2⟩ := most_of h.1
  have hk6 : k < 6 := by have := h.1.2.1; omega
  have h7 := h.2.1.2.2.2.2.2.2 k hk6
  unfold fuT at hf
  rw [hl, ho, e1] at hf
  have : ¬ (nI m ≤ nI (tVs T k).length) := by simpa using hf
  rw [leI (by omega) (by omega)] at this
  omega
theorem WF.write {R : ER} {T : ET} (h : WF R T) {s k : Nat} (hs : s < 8) (hk : k < R.1) (hlv : lvT T s = true) (hf : fuT R T s k = false) (value : Int32) : WF R (writeT T s k value).1 := by
  have hk6 : k < 6 := by have := h.1.2.1; omega
  unfold writeT
  by_cases c : laT T k (tSd T 1 s) = true
  · rw [if_pos c]
    exact (h.note _).fall hs hlv
  · rw [if_neg c]
    cases e : owI T k s with
    | none => exact (h.add hs hk hlv e (fu_room h hk hf (by simpa using c) e).1 value).note _
    | some i =>
      have hi := (fst_some e).1
      have h6 := h.2.1.2.2.2.2.2.1 k i hk6 hi
      exact (h.setv (v := ((vA T k i).1, value, (vA T k i).2.2.1, (vA T k i).2.2.2)) hk hi rfl rfl h6.2.1 h6.2.2).note _
