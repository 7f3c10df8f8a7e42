/-! ===== why an act can't be ===== -/
theorem sw_nI {α : Type} {k : Nat} {os : List (Option α)} {d : Option α} (hk : k < 1000000000) : nx_sw (nI k) 0 os d = (os[k]?).getD d := by
  unfold nx_sw
  rw [toI hk, if_neg (by omega), show ((k : Int) - 0).toNat = k by omega]
  cases os[k]? <;> rfl
theorem sw_out {α : Type} {x : Int32} {os : List (Option α)} {d : Option α} (h : inR x os.length = false) : nx_sw x 0 os d = d := by
  unfold nx_sw
  have h' := of_decide_eq_false (show decide (0 ≤ x.toInt ∧ x.toInt < os.length) = false from h)
  by_cases c : x.toInt < 0
  · rw [if_pos c]
  · rw [if_neg c, List.getElem?_eq_none (by omega)]
theorem inR2 (w : Int32) : inR w 2 = decide (w = nI 0 ∨ w = nI 1) := by
  have e0 : (nI 0).toInt = 0 := toI (by omega)
  have e1 : (nI 1).toInt = 1 := toI (by omega)
  have k0 : w = nI 0 ↔ w.toInt = 0 := ⟨fun e => by rw [e, e0], fun e => Int32.toInt_inj.mp (by rw [e, e0])⟩
  have k1 : w = nI 1 ↔ w.toInt = 1 := ⟨fun e => by rw [e, e1], fun e => Int32.toInt_inj.mp (by rw [e, e1])⟩
  unfold inR
  apply decide_eq_decide.mpr
  rw [k0, k1]
  omega
theorem M_in01 (u : Nat) (x : Int32) : fM_in u x (nI 0) (nI 1) = some (decide (x = nI 0 ∨ x = nI 1)) := (M_in u x (by omega)).trans (congrArg some (inR2 x))
theorem M_in99 (u : Nat) (x : Int32) : fM_in u x (nI 0) (nI 99) = some (inR x 100) := M_in u x (by omega)
theorem n4 : ¬ (nI 4 = nI 0) := by decide +kernel
theorem n3 : ¬ (nI 3 = nI 0) := by decide +kernel
theorem n2 : ¬ (nI 2 = nI 0) := by decide +kernel
theorem W_hasStore {u : Nat} (hu : 1000 ≤ u) {R : ER} {w0 : Int32} {D : Nat → List De} {f : Nat → Int32} {T : ET} (h : RW R w0 D f T) (hR : wfR R) : fW_hasStore u f = some true := by
  obtain ⟨k1, k6, _, _⟩ := hR
  unfold fW_hasStore
  simp (disch := omega) only [izN, nI_add, mulI, rdW, wrW, Option.bind_some, h.r3, leI]
  rw [if_neg (by omega)]
def opR (R : ER) (T : ET) (s : Nat) (w : Int32) : Int32 := if w = nI 0 ∨ w = nI 1 then (if lvT T s = true then nI 2 else if tCk T + R.2.2.2 ≤ nI 9999 then iz (-1) else nI 3) else nI 1
theorem W_openRefusal {u : Nat} (hu : 1000 ≤ u) {R : ER} {w0 : Int32} {D : Nat → List De} {f : Nat → Int32} {T : ET} (h : RW R w0 D f T) {s : Nat} (hs : s < 8) (w : Int32) : fW_openRefusal u f (nI s) w = some (opR R T s w) := by
  unfold fW_openRefusal fW_isClockFull opR
  simp (disch := omega) only [izN, nI_add, mulI, rdW, wrW, Option.bind_some, W_isLive hu h hs, h.cc, h.r2]
  by_cases c0 : w = nI 0
  · rw [if_pos c0, if_pos (Or.inl c0)]
    by_cases c2 : lvT T s = true
    · rw [if_pos c2, if_pos c2]
    · rw [if_neg c2, if_neg c2]
      by_cases c3 : tCk T + R.2.2.2 ≤ nI 9999
      · rw [if_pos c3, if_pos c3]; rfl
      · rw [if_neg c3, if_neg c3]; rfl
  · rw [if_neg c0]
    by_cases c1 : w = nI 1
    · rw [if_pos c1, if_pos (Or.inr c1)]
      by_cases c2 : lvT T s = true
      · rw [if_pos c2, if_pos c2]
      · rw [if_neg c2, if_neg c2]
        by_cases c3 : tCk T + R.2.2.2 ≤ nI 9999
        · rw [if_pos c3, if_pos c3]; rfl
        · rw [if_neg c3, if_neg c3]; rfl
    · rw [if_neg c1, if_neg (fun hh => hh.elim c0 c1)]
/-- stamps by hand -/
def hdI (T : ET) (x : Int32) : Option Nat := fst (fun i => decide ((tHd T)[i]? = some x)) (tHd T).length
theorem hdI_none {T : ET} {x : Int32} (h : hdI T x = none) : x ∉ tHd T := by
  intro hx
  obtain ⟨i, hi⟩ := List.mem_iff_getElem?.mp hx
  have := fst_none h i (List.getElem?_eq_some_iff.mp hi).1
  simp [hi] at this
def frS (R : ER) (T : ET) (x : Int32) : Bool := decide (¬ x ≤ tFl T ∧ ¬ tCk T ≤ x ∧ ¬ (x - x / R.2.2.2 * R.2.2.2 = nI 0)) && (hdI T x).isNone
theorem rm_of {R : ER} (hR : wfR R) (x : Int32) : nx_rm32 x R.2.2.2 = some (x - x / R.2.2.2 * R.2.2.2) := by
  obtain ⟨_, _, _, d, d2, d20, e⟩ := hR
  unfold nx_rm32
  rw [if_neg]
  rw [e]
  intro h
  have := (eqI (a := d) (b := 0) (by omega) (by omega)).mp h
  omega
theorem W_isFreeStamp {u : Nat} (hu : 1000 ≤ u) {R : ER} {w0 : Int32} {D : Nat → List De} {f : Nat → Int32} {T : ET} (h : RW R w0 D f T) (hR : wfR R) (x : Int32) : fW_isFreeStamp u f x = some (frS R T x) := by
  obtain ⟨hl, h7, hv⟩ := h.hh
  have hrm := rm_of hR x
  obtain ⟨_, _, _, d, d2, d20, e⟩ := hR
  have hlp : nx_iter u (fW_isFreeStamp_43 f x) (nI 0) = some ((hdI T x).elim (.inl ()) (fun _ => .inr false)) := by
    refine it_fst (fun i => nI i) (fun i => decide ((tHd T)[i]? = some x)) (tHd T).length (Sum.inl () : Unit ⊕ Bool) (fun _ => Sum.inr false) (fun i hi hp => ?_) (fun i hi hp => ?_) ?_ (by omega)
    · have e1 := hv i _ (List.getElem?_eq_getElem hi)
      unfold fW_isFreeStamp_43
      simp (disch := omega) only [izN, nI_add, mulI, rdW, wrW, Option.bind_some, h7, leI, e1]
      rw [if_neg (by omega), if_neg (by omega), if_neg]
      intro e2
      rw [List.getElem?_eq_getElem hi, e2] at hp
      simp at hp
    · have e1 := hv i _ (List.getElem?_eq_getElem hi)
      unfold fW_isFreeStamp_43
      simp (disch := omega) only [izN, nI_add, mulI, rdW, wrW, Option.bind_some, h7, leI, e1]
      rw [if_neg (by omega), if_neg (by omega), if_pos]
      rw [List.getElem?_eq_getElem hi] at hp
      simpa using hp
    · unfold fW_isFreeStamp_43
      simp (disch := omega) only [izN, nI_add, mulI, rdW, wrW, Option.bind_some, h7, leI]
      split <;> simp
  unfold fW_isFreeStamp frS
  simp (disch := omega) only [izN, nI_add, mulI, rdW, wrW, Option.bind_some, h.ff, h.cc, h.r2, hrm, hlp]
  rw [e]
  simp (disch := omega) only [leI]
  by_cases c1 : x ≤ tFl T
  · rw [if_pos c1]; simp [c1]
  · rw [if_neg c1]
    by_cases c2 : tCk T ≤ x
    · rw [if_neg (by rw [ltN]; exact fun hh => hh c2)]; simp [c2]
    · rw [if_pos (by rw [ltN]; exact c2), if_neg (by omega)]
      by_cases c3 : x - x / nI d * nI d = nI 0
      · rw [if_pos c3]; simp [c3]
      · rw [if_neg c3]
        cases hdI T x <;> simp [c1, c2, c3]
def haR (R : ER) (T : ET) (s : Nat) (w x : Int32) : Int32 := if w = nI 0 ∨ w = nI 1 then (if lvT T s = true then nI 2 else if frS R T x = true then (if (tHd T).length < 30 then iz (-1) else nI 3) else nI 2) else nI 1
theorem W_handRefusal {u : Nat} (hu : 1000 ≤ u) {R : ER} {w0 : Int32} {D : Nat → List De} {f : Nat → Int32} {T : ET} (h : RW R w0 D f T) (hR : wfR R) {s : Nat} (hs : s < 8) (w x : Int32) : fW_handRefusal u f (nI s) w x = some (haR R T s w x) := by
  obtain ⟨hl, h7, hv⟩ := h.hh
  unfold fW_handRefusal haR
  simp (disch := omega) only [izN, nI_add, mulI, rdW, wrW, Option.bind_some, W_isLive hu h hs, W_isFreeStamp hu h hR, h7, ltI]
  by_cases c0 : w = nI 0
  · rw [if_pos c0, if_pos (Or.inl c0)]
    by_cases c2 : lvT T s = true
    · rw [if_pos c2, if_pos c2]
    · rw [if_neg c2, if_neg c2]
      by_cases c3 : frS R T x = true
      · rw [if_pos c3, if_pos c3]; split <;> rfl
      · rw [if_neg c3, if_neg c3]
  · rw [if_neg c0]
    by_cases c1 : w = nI 1
    · rw [if_pos c1, if_pos (Or.inr c1)]
      by_cases c2 : lvT T s = true
      · rw [if_pos c2, if_pos c2]
      · rw [if_neg c2, if_neg c2]
        by_cases c3 : frS R T x = true
        · rw [if_pos c3, if_pos c3]; split <;> rfl
        · rw [if_neg c3, if_neg c3]
    · rw [if_neg c1, if_neg (fun hh => hh.elim c0 c1)]
def stR (T : ET) (s : Nat) (a b : Int32) : Int32 := if tSd T 0 s = nI 0 then nI 0 else if tSd T 0 s = a ∨ tSd T 0 s = b then iz (-1) else nI 2
theorem W_stateRefusal {u : Nat} (hu : 1000 ≤ u) {R : ER} {w0 : Int32} {D : Nat → List De} {f : Nat → Int32} {T : ET} (h : RW R w0 D f T) {s : Nat} (hs : s < 8) (a b : Int32) : fW_stateRefusal u f (nI s) a b = some (stR T s a b) := by
  unfold fW_stateRefusal stR
  simp (disch := omega) only [izN, nI_add, mulI, rdW, wrW, Option.bind_some, h.st]
  by_cases c0 : tSd T 0 s = nI 0
  · rw [if_pos c0, if_pos c0]
  · rw [if_neg c0, if_neg c0]
    by_cases c1 : tSd T 0 s = a
    · rw [if_pos c1, if_pos (Or.inl c1)]
    · rw [if_neg c1]
      by_cases c2 : tSd T 0 s = b
      · rw [if_pos c2, if_pos (Or.inr c2)]
      · rw [if_neg c2, if_neg (fun hh => hh.elim c1 c2)]
def rdR (R : ER) (T : ET) (s : Nat) (k : Int32) : Int32 := if inR k R.1 = true then stR T s (nI 1) (nI 1) else nI 0
theorem W_readRefusal {u : Nat} (hu : 1000 ≤ u) {R : ER} {w0 : Int32} {D : Nat → List De} {f : Nat → Int32} {T : ET} (h : RW R w0 D f T) (hR : wfR R) {s : Nat} (hs : s < 8) (k : Int32) : fW_readRefusal u f (nI s) k = some (rdR R T s k) := by
  unfold fW_readRefusal rdR
  simp (disch := omega) only [izN, W_hasKey hu h hR.2.1, W_stateRefusal hu h hs, Option.bind_some]
  split <;> rfl
def wrR (R : ER) (T : ET) (s : Nat) (k v : Int32) : Int32 := if inR k R.1 = true then (if tSd T 0 s = nI 0 then nI 0 else if inR v 100 = true then (if tSd T 0 s = nI 1 then (if fuT R T s k.toInt.toNat = true then nI 3 else iz (-1)) else nI 2) else nI 1) else nI 0
theorem inR100 (v : Int32) : (inR v 100 = true ↔ ¬ v < nI 0 ∧ v ≤ nI 99) := by
  have e0 : (nI 0).toInt = 0 := toI (by omega)
  have e9 : (nI 99).toInt = 99 := toI (by omega)
  unfold inR
  rw [Int32.lt_iff_toInt_lt, Int32.le_iff_toInt_le, e0, e9]
  simp only [decide_eq_true_eq]
  omega
theorem W_writeRefusal {u : Nat} (hu : 1000 ≤ u) {R : ER} {w0 : Int32} {D : Nat → List De} {f : Nat → Int32} {T : ET} (h : RW R w0 D f T) (hR : wfR R) {s : Nat} (hs : s < 8) (k v : Int32) : fW_writeRefusal u f (nI s) k v = some (wrR R T s k v) := by
  unfold fW_writeRefusal wrR
  simp (disch := omega) only [izN, nI_add, mulI, rdW, wrW, Option.bind_some, W_hasKey hu h hR.2.1, h.st]
  by_cases ck : inR k R.1 = true
  · rw [if_pos ck, if_pos ck]
    obtain ⟨a, ha, rfl⟩ := inR_of ck
    have hR6 := hR.2.1
    rw [W_isFull hu h hs (show a < 6 by omega), nI_back (by omega)]
    by_cases c0 : tSd T 0 s = nI 0
    · rw [if_pos c0, if_pos c0]
    · rw [if_neg c0, if_neg c0]
      by_cases c1 : v < nI 0
      · rw [if_pos c1, if_neg (fun hh => ((inR100 v).mp hh).1 c1)]
      · rw [if_neg c1]
        by_cases c2 : v ≤ nI 99
        · rw [if_pos c2, if_pos ((inR100 v).mpr ⟨c1, c2⟩)]
          by_cases c3 : tSd T 0 s = nI 1
          · rw [if_pos c3, if_pos c3]
            simp only [Option.bind_some]
            split <;> rfl
          · rw [if_neg c3, if_neg c3]
        · rw [if_neg c2, if_neg (fun hh => c2 ((inR100 v).mp hh).2)]
  · rw [if_neg ck, if_neg ck]
def rtR (R : ER) (T : ET) (s : Nat) : Int32 := if tSd T 0 s = nI 0 then nI 0 else if tSd T 0 s = nI 4 then (if tCk T + R.2.2.2 ≤ nI 9999 then iz (-1) else nI 3) else nI 2
theorem n2m1 : ¬ (nI 2 = iz (-1)) := by decide +kernel
theorem n0m1 : ¬ (nI 0 = iz (-1)) := by decide +kernel
theorem n1m1 : ¬ (nI 1 = iz (-1)) := by decide +kernel
theorem n3m1 : ¬ (nI 3 = iz (-1)) := by decide +kernel
theorem W_retryRefusal {u : Nat} (hu : 1000 ≤ u) {R : ER} {w0 : Int32} {D : Nat → List De} {f : Nat → Int32} {T : ET} (h : RW R w0 D f T) {s : Nat} (hs : s < 8) : fW_retryRefusal u f (nI s) = some (rtR R T s) := by
  unfold fW_retryRefusal fW_isClockFull rtR
  simp (disch := omega) only [izN, nI_add, mulI, rdW, wrW, Option.bind_some, W_stateRefusal hu h hs, h.cc, h.r2]
  unfold stR
  by_cases c0 : tSd T 0 s = nI 0
  · rw [if_pos c0, if_pos c0, if_neg n0m1]
  · rw [if_neg c0, if_neg c0]
    by_cases c1 : tSd T 0 s = nI 4
    · rw [if_pos (Or.inl c1), if_pos c1, if_pos rfl]
      by_cases c3 : tCk T + R.2.2.2 ≤ nI 9999
      · rw [if_pos c3, if_pos c3]; rfl
      · rw [if_neg c3, if_neg c3]; rfl
    · have hn : ¬ (tSd T 0 s = nI 4 ∨ tSd T 0 s = nI 4) := fun hh => hh.elim c1 c1
      simp only [if_neg hn, if_neg n2m1, if_neg c1]
/-- why an act of a kind is refused: -1, it isn't -/
def refT (R : ER) (T : ET) (kd : Nat) (a b c : Int32) : Int32 :=
  if kd = 5 then iz (-1) else if inR a 8 = true then
    (if kd = 0 then opR R T a.toInt.toNat b else if kd = 1 then rdR R T a.toInt.toNat b else if kd = 2 then wrR R T a.toInt.toNat b c else if kd = 3 then stR T a.toInt.toNat (nI 1) (nI 1) else if kd = 4 then stR T a.toInt.toNat (nI 1) (nI 2) else if kd = 6 then haR R T a.toInt.toNat b c else rtR R T a.toInt.toNat)
  else nI 0
theorem W_refusal {u : Nat} (hu : 1000 ≤ u) {R : ER} {w0 : Int32} {D : Nat → List De} {f : Nat → Int32} {T : ET} (h : RW R w0 D f T) (hR : wfR R) {kd : Nat} (hk : kd < 8) (a b c : Int32) : fW_refusal u f (nI kd) a b c = some (refT R T kd a b c) := by
  unfold fW_refusal refT
  rw [W_hasStore hu h hR, Option.bind_some, if_pos rfl]
  simp (disch := omega) only [izN, eqI, L_within, Option.bind_some]
  by_cases c5 : kd = 5
  · rw [if_pos c5, if_pos c5]
  rw [if_neg c5, if_neg c5]
  by_cases ca : inR a 8 = true
  · rw [if_pos ca, if_pos ca]
    obtain ⟨s, hs, rfl⟩ := inR_of ca
    rw [sw_nI (by omega), nI_back (by omega), W_openRefusal hu h hs, W_readRefusal hu h hR hs, W_writeRefusal hu h hR hs, W_stateRefusal hu h hs, W_stateRefusal hu h hs, W_handRefusal hu h hR hs, W_retryRefusal hu h hs]
    obtain rfl | rfl | rfl | rfl | rfl | rfl | rfl : kd = 0 ∨ kd = 1 ∨ kd = 2 ∨ kd = 3 ∨ kd = 4 ∨ kd = 6 ∨ kd = 7 := by omega
    all_goals rfl
  · rw [if_neg ca, if_neg ca]
/-! .. Model -/
theorem M_isThere {u : Nat} (hu : 1000 ≤ u) {g0 : mS} {R : ER} {m0 : Int32} {tr : Option (Nat → Int32)} {D : Nat → List De} {g : mS} {T : ET} (h : RM g0 R m0 tr D g T) (hR : wfR R) (x : Int32) : fM_isThere u g x = some (inR x 8 && ! decide (tSd T 0 x.toInt.toNat = nI 0)) := by
  unfold fM_isThere
  rw [M_isSeat hu h hR.1 hR.2.1, Option.bind_some]
  by_cases c : inR x 8 = true
  · obtain ⟨s, hs, rfl⟩ := inR_of c
    rw [if_pos c, c, nI_back (by omega)]
    simp (disch := omega) only [fM_ofSeat, fM_of, fM_keyAt, fM_many, fM_cell, fM_its, izN, nI_add, mulI, rdM, mWr7, mRow_s, mRow_m, mRow_2, Option.bind_some, h.q.st]
    by_cases e : tSd T 0 s = nI 0 <;> simp [e]
  · rw [if_neg c]; simp [c]
theorem M_isActive {u : Nat} (hu : 1000 ≤ u) {g0 : mS} {R : ER} {m0 : Int32} {tr : Option (Nat → Int32)} {D : Nat → List De} {g : mS} {T : ET} (h : RM g0 R m0 tr D g T) (hR : wfR R) (x : Int32) : fM_isActive u g x = some (inR x 8 && decide (tSd T 0 x.toInt.toNat = nI 1)) := by
  unfold fM_isActive
  rw [M_isSeat hu h hR.1 hR.2.1, Option.bind_some]
  by_cases c : inR x 8 = true
  · obtain ⟨s, hs, rfl⟩ := inR_of c
    rw [if_pos c, c, nI_back (by omega)]
    simp (disch := omega) only [fM_ofSeat, fM_of, fM_keyAt, fM_many, fM_cell, fM_its, izN, nI_add, mulI, rdM, mWr7, mRow_s, mRow_m, mRow_2, Option.bind_some, h.q.st]
    by_cases e : tSd T 0 s = nI 1 <;> simp [e]
  · rw [if_neg c]; simp [c]
theorem M_isOnX {u : Nat} (hu : 1000 ≤ u) {g0 : mS} {R : ER} {m0 : Int32} {tr : Option (Nat → Int32)} {D : Nat → List De} {g : mS} {T : ET} (h : RM g0 R m0 tr D g T) (hR : wfR R) (x : Int32) : fM_isOn u g x = some (inR x 8 && lvT T x.toInt.toNat) := by
  by_cases c : inR x 8 = true
  · obtain ⟨s, hs, rfl⟩ := inR_of c
    rw [M_isOn hu h hR.1 hR.2.1 hs, c, nI_back (by omega)]
    rfl
  · unfold fM_isOn
    rw [M_isSeat hu h hR.1 hR.2.1, Option.bind_some, if_neg c]
    simp [c]
theorem M_isKey {u : Nat} (hu : 1000 ≤ u) {g0 : mS} {R : ER} {m0 : Int32} {tr : Option (Nat → Int32)} {D : Nat → List De} {g : mS} {T : ET} (h : RM g0 R m0 tr D g T) (hR : wfR R) (x : Int32) : fM_isKey u g x = some (inR x R.1) := by
  obtain ⟨k1, k6, _, _⟩ := hR
  unfold fM_isKey
  simp (disch := omega) only [izN, h.kk, subI, M_in, Option.bind_some]
  rw [show R.1 - 1 + 1 = R.1 by omega]
theorem M_stA {u : Nat} (hu : 1000 ≤ u) {g0 : mS} {R : ER} {m0 : Int32} {tr : Option (Nat → Int32)} {D : Nat → List De} {g : mS} {T : ET} (h : RM g0 R m0 tr D g T) {s c : Nat} (hs : s < 8) (hc : c < 5) : fM_of u g (nI s) (nI c) = some (tSd T c s) := by
  simp (disch := omega) only [fM_ofSeat, fM_of, fM_keyAt, fM_many, fM_cell, fM_its, izN, nI_add, mulI, rdM, mWr7, mRow_s, mRow_m, mRow_2, Option.bind_some, h.q.st]
theorem M_whyOpen {u : Nat} (hu : 1000 ≤ u) {g0 : mS} {R : ER} {m0 : Int32} {tr : Option (Nat → Int32)} {D : Nat → List De} {g : mS} {T : ET} (h : RM g0 R m0 tr D g T) (hR : wfR R) (a b c : Int32) : fM_whyOpen u g a b = some (refT R T 0 a b c) := by
  unfold fM_whyOpen refT
  rw [M_isSeat hu h hR.1 hR.2.1, Option.bind_some, if_neg (show ¬ (0 = 5) by omega)]
  by_cases ca : inR a 8 = true
  · rw [if_pos ca, if_pos ca]
    obtain ⟨s, hs, rfl⟩ := inR_of ca
    rw [M_isOn hu h hR.1 hR.2.1 hs, nI_back (by omega), if_pos rfl]
    unfold opR
    simp (disch := omega) only [fM_ofSeat, fM_of, fM_keyAt, fM_many, fM_cell, fM_its, izN, nI_add, mulI, rdM, mWr7, mRow_s, mRow_m, mRow_2, Option.bind_some, M_in01, h.q.cc, rd4, h.strd, decide_eq_true_eq]
    split
    · split
      · rfl
      · split <;> rfl
    · rfl
  · rw [if_neg ca, if_neg ca]; rfl
theorem M_isHanded {u : Nat} (hu : 1000 ≤ u) {g0 : mS} {R : ER} {m0 : Int32} {tr : Option (Nat → Int32)} {D : Nat → List De} {g : mS} {T : ET} (h : RM g0 R m0 tr D g T) (x : Int32) : fM_isHanded u g x = some (hdI T x).isSome := by
  obtain ⟨hl, h7, hv⟩ := h.q.hh
  unfold fM_isHanded
  refine (bdE (it_up (fun i => (if anyP (fun i => decide ((tHd T)[i]? = some x)) i = true then nI 1 else nI 0, nI (i + 1))) (tHd T).length (fun i hi => ?_) (r := if anyP (fun i => decide ((tHd T)[i]? = some x)) (tHd T).length = true then nI 1 else nI 0) ?_ (i := 0) (by omega) (by omega))).trans ?_
  · have e1 : g.1 7 (608 + (i + 1)) = (tHd T)[i] := by rw [show 608 + (i + 1) = 609 + i by omega]; exact hv i _ (List.getElem?_eq_getElem hi)
    unfold fM_isHanded_4
    simp (disch := omega) only [fM_ofSeat, fM_of, fM_keyAt, fM_many, fM_cell, fM_its, izN, nI_add, mulI, rdM, mWr7, mRow_s, mRow_m, mRow_2, Option.bind_some, h7, ltI, e1]
    rw [if_neg (by omega), anyP_succ, List.getElem?_eq_getElem hi]
    cases anyP (fun i => decide ((tHd T)[i]? = some x)) i
    · by_cases c : (tHd T)[i] = x <;> simp [c]
    · simp [i10]
  · unfold fM_isHanded_4
    simp (disch := omega) only [fM_ofSeat, fM_of, fM_keyAt, fM_many, fM_cell, fM_its, izN, nI_add, mulI, rdM, mWr7, mRow_s, mRow_m, mRow_2, Option.bind_some, h7, ltI]
    rw [if_pos (by omega)]
  · rw [tob01, Option.bind_some, anyP_fst]
    rfl
theorem M_whyOpenAt {u : Nat} (hu : 1000 ≤ u) {g0 : mS} {R : ER} {m0 : Int32} {tr : Option (Nat → Int32)} {D : Nat → List De} {g : mS} {T : ET} (h : RM g0 R m0 tr D g T) (hR : wfR R) (a b c : Int32) : fM_whyOpenAt u g a b c = some (refT R T 6 a b c) := by
  obtain ⟨hl, h7, hv⟩ := h.q.hh
  unfold fM_whyOpenAt refT
  rw [M_isSeat hu h hR.1 hR.2.1, Option.bind_some, if_neg (show ¬ (6 = 5) by omega)]
  by_cases ca : inR a 8 = true
  · rw [if_pos ca, if_pos ca]
    obtain ⟨s, hs, rfl⟩ := inR_of ca
    rw [M_isOn hu h hR.1 hR.2.1 hs, nI_back (by omega)]
    show _ = some (haR R T s b c)
    unfold haR frS
    simp (disch := omega) only [fM_ofSeat, fM_of, fM_keyAt, fM_many, fM_cell, fM_its, izN, nI_add, mulI, rdM, mWr7, mRow_s, mRow_m, mRow_2, Option.bind_some, M_in01, h.q.cc, h.q.ff, rd4, h.strd, rm_of hR, M_isHanded hu h, h7, decide_eq_true_eq, eqI, Bool.and_eq_true]
    by_cases c1 : c ≤ tFl T
    · simp [c1]; split <;> rfl
    · by_cases c2 : tCk T ≤ c
      · simp [c1, c2]; split <;> rfl
      · by_cases c3 : c - c / R.2.2.2 * R.2.2.2 = nI 0
        · simp [c1, c2, c3]; split <;> rfl
        · have e30 : (tHd T).length = 30 ↔ ¬ (tHd T).length < 30 := by omega
          cases hdI T c <;> simp [c1, c2, c3, e30] <;> grind
  · rw [if_neg ca, if_neg ca]; rfl
theorem M_whyRead {u : Nat} (hu : 1000 ≤ u) {g0 : mS} {R : ER} {m0 : Int32} {tr : Option (Nat → Int32)} {D : Nat → List De} {g : mS} {T : ET} (h : RM g0 R m0 tr D g T) (hR : wfR R) (a b c : Int32) : fM_whyRead u g a b = some (refT R T 1 a b c) := by
  unfold fM_whyRead refT
  rw [M_isThere hu h hR, M_isKey hu h hR, M_isActive hu h hR, if_neg (show ¬ (1 = 5) by omega)]
  simp only [Option.bind_some, izN]
  by_cases ca : inR a 8 = true
  · rw [if_pos ca, ca]
    obtain ⟨s, hs, rfl⟩ := inR_of ca
    simp only [nI_back (show s < 1000000000 by omega)]
    show _ = some (rdR R T s b)
    unfold rdR stR
    by_cases c0 : tSd T 0 s = nI 0
    · simp [c0]
    · by_cases c1 : tSd T 0 s = nI 1 <;> by_cases ck : inR b R.1 = true <;> simp [c0, c1, ck, i10]
  · simp [ca, izN]
theorem M_whyWrite {u : Nat} (hu : 1000 ≤ u) {g0 : mS} {R : ER} {m0 : Int32} {tr : Option (Nat → Int32)} {D : Nat → List De} {g : mS} {T : ET} (h : RM g0 R m0 tr D g T) (hW : WF R T) (a b c : Int32) : fM_whyWrite u g a b c = some (refT R T 2 a b c) := by
  have hR := hW.1
  unfold fM_whyWrite refT
  rw [M_isThere hu h hR, M_isKey hu h hR, M_isActive hu h hR, if_neg (show ¬ (2 = 5) by omega)]
  simp (disch := omega) only [Option.bind_some, izN, M_in99]
  by_cases ca : inR a 8 = true
  · rw [if_pos ca, ca]
    obtain ⟨s, hs, rfl⟩ := inR_of ca
    simp only [nI_back (show s < 1000000000 by omega)]
    show _ = some (wrR R T s b c)
    unfold wrR
    by_cases c0 : tSd T 0 s = nI 0
    · simp [c0]
    · by_cases ck : inR b R.1 = true
      · by_cases c1 : tSd T 0 s = nI 1
        · obtain ⟨k, hk, rfl⟩ := inR_of ck
          rw [nI_back (by have := hR.2.1; omega), M_isFull hu h hW hs (by have := hR.2.1; omega) (by rw [lvT_iff]; exact Or.inl c1)]
          by_cases cv : inR c 100 = true <;> cases fuT R T s k <;> simp [ck, c1, cv, i10]
        · by_cases cv : inR c 100 = true <;> simp [c0, c1, ck, cv]
      · simp [c0, ck]
  · simp [ca, izN]
theorem M_whyCommit {u : Nat} (hu : 1000 ≤ u) {g0 : mS} {R : ER} {m0 : Int32} {tr : Option (Nat → Int32)} {D : Nat → List De} {g : mS} {T : ET} (h : RM g0 R m0 tr D g T) (hR : wfR R) (a b c : Int32) : fM_whyCommit u g a = some (refT R T 3 a b c) := by
  unfold fM_whyCommit refT
  rw [M_isThere hu h hR, M_isActive hu h hR, if_neg (show ¬ (3 = 5) by omega)]
  simp only [Option.bind_some, izN]
  by_cases ca : inR a 8 = true
  · rw [if_pos ca, ca]
    obtain ⟨s, hs, rfl⟩ := inR_of ca
    simp only [nI_back (show s < 1000000000 by omega)]
    show _ = some (stR T s (nI 1) (nI 1))
    unfold stR
    by_cases c0 : tSd T 0 s = nI 0
    · simp [c0]
    · by_cases c1 : tSd T 0 s = nI 1 <;> simp [c0, c1, i10]
  · simp [ca, izN]
theorem M_whyAbort {u : Nat} (hu : 1000 ≤ u) {g0 : mS} {R : ER} {m0 : Int32} {tr : Option (Nat → Int32)} {D : Nat → List De} {g : mS} {T : ET} (h : RM g0 R m0 tr D g T) (hR : wfR R) (a b c : Int32) : fM_whyAbort u g a = some (refT R T 4 a b c) := by
  unfold fM_whyAbort refT
  rw [M_isThere hu h hR, M_isOnX hu h hR, if_neg (show ¬ (4 = 5) by omega)]
  simp only [Option.bind_some, izN]
  by_cases ca : inR a 8 = true
  · rw [if_pos ca, ca]
    obtain ⟨s, hs, rfl⟩ := inR_of ca
    simp only [nI_back (show s < 1000000000 by omega)]
    show _ = some (stR T s (nI 1) (nI 2))
    unfold stR lvT
    by_cases c0 : tSd T 0 s = nI 0
    · simp [c0]
    · by_cases c1 : tSd T 0 s = nI 1 ∨ tSd T 0 s = nI 2 <;> simp [c0, c1]
  · simp [ca, izN]
theorem M_whyRetry {u : Nat} (hu : 1000 ≤ u) {g0 : mS} {R : ER} {m0 : Int32} {tr : Option (Nat → Int32)} {D : Nat → List De} {g : mS} {T : ET} (h : RM g0 R m0 tr D g T) (hR : wfR R) (a b c : Int32) : fM_whyRetry u g a = some (refT R T 7 a b c) := by
  unfold fM_whyRetry refT
  rw [M_isThere hu h hR, if_neg (show ¬ (7 = 5) by omega)]
  simp only [Option.bind_some]
  by_cases ca : inR a 8 = true
  · rw [if_pos ca, ca]
    obtain ⟨s, hs, rfl⟩ := inR_of ca
    rw [nI_back (by omega)]
    show _ = some (rtR R T s)
    unfold rtR
    simp (disch := omega) only [fM_ofSeat, fM_of, fM_keyAt, fM_many, fM_cell, fM_its, izN, nI_add, mulI, rdM, mWr7, mRow_s, mRow_m, mRow_2, Option.bind_some, h.q.st, h.q.cc, rd4, h.strd]
    by_cases c0 : tSd T 0 s = nI 0
    · simp [c0]
    · by_cases c1 : tSd T 0 s = nI 4
      · by_cases c3 : tCk T + R.2.2.2 ≤ nI 9999 <;> simp [c0, c1, c3, n4]
      · simp [c0, c1]
  · simp [ca, izN]
theorem M_whyNot {u : Nat} (hu : 1000 ≤ u) {g0 : mS} {R : ER} {m0 : Int32} {tr : Option (Nat → Int32)} {D : Nat → List De} {g : mS} {T : ET} (h : RM g0 R m0 tr D g T) (hW : WF R T) {kd : Nat} (hk : kd < 6) (a b c : Int32) : fM_whyNot u g (nI kd) a b c = some (refT R T kd a b c) := by
  unfold fM_whyNot
  rw [sw_nI (by omega), M_whyOpen hu h hW.1 a b c, M_whyRead hu h hW.1 a b c, M_whyWrite hu h hW, M_whyCommit hu h hW.1 a b c, M_whyAbort hu h hW.1 a b c]
  obtain rfl | rfl | rfl | rfl | rfl | rfl : kd = 0 ∨ kd = 1 ∨ kd = 2 ∨ kd = 3 ∨ kd = 4 ∨ kd = 5 := by omega
  all_goals rfl
