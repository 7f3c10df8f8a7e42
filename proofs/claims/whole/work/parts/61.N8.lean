/-! to commit, to write: Model -/
theorem mask8 {x : Int32} (h : ∀ o, tb x o = true → o < 8) : ∃ n, n < 256 ∧ x = nI n := by
  refine ⟨x.toBitVec.toNat, ?_, ?_⟩
  · have : x.toBitVec.toNat < 2 ^ 8 := by
      apply Nat.lt_pow_two_of_testBit
      intro i hi
      by_cases c : x.toBitVec.toNat.testBit i = true
      · have : tb x i = true := by
          unfold tb
          rw [BitVec.testBit_toNat] at c
          exact c
        have := h i this
        omega
      · simpa using c
    exact this
  · apply Int32.toBitVec_inj.mp
    show x.toBitVec = (Int32.ofNat _).toBitVec
    rw [Int32.toBitVec_ofNat']
    simp
def bsN (x : Int32) : Nat → Int32
  | 0 => nI 0
  | i + 1 => bsN x i + ((x >>> (nI i &&& 31)) &&& nI 1)
theorem M_bits {u : Nat} (hu : 1000 ≤ u) (x : Int32) : fM_bits u x = some (bsN x 8) := by
  unfold fM_bits
  refine bdE (it_up (fun i => (bsN x i, nI i)) 8 (fun i hi => ?_) ?_ (i := 0) (by omega) (by omega))
  · unfold fM_bits_4
    simp (disch := omega) only [izN, nI_add, leI]
    rw [if_neg (by omega)]
    rfl
  · unfold fM_bits_4
    simp (disch := omega) only [izN, nI_add, leI]
    rfl
theorem bs256 : ∀ n : Fin 256, bsN (nI n.val) 8 = bcI (nI n.val) ∧ (bcI (nI n.val) = nI 0 ↔ n.val = 0) := by decide +kernel
theorem bs_mask {x : Int32} (h : ∀ o, tb x o = true → o < 8) : bsN x 8 = bcI x ∧ (bcI x = nI 0 ↔ x = nI 0) := by
  obtain ⟨n, hn, rfl⟩ := mask8 h
  obtain ⟨a, b⟩ := bs256 ⟨n, hn⟩
  refine ⟨a, b.trans ⟨fun e => by rw [show n = 0 from e], fun e => ?_⟩⟩
  exact lt_ne (by omega) (by omega) e
theorem M_commitNow {u : Nat} (hu : 1000 ≤ u) {g0 : mS} {R : ER} {m0 : Int32} {tr : Option (Nat → Int32)} {D : Nat → List De} {g : mS} {T : ET} (h : RM g0 R m0 tr D g T) (hW : WF R T) {s : Nat} (hs : s < 8) (hl : lvT T s = true) : ok (fM_commitNow u g (nI s)) (fun r => r.1 = (commitT R T s).2 ∧ RM g0 R m0 tr D r.2 (commitT R T s).1) := by
  unfold fM_commitNow commitT
  simp (disch := omega) only [fM_ofSeat, fM_of, fM_keyAt, fM_many, fM_cell, fM_its, izN, nI_add, mulI, rdM, mWr7, mRow_s, mRow_m, mRow_2, Option.bind_some, h.q.st]
  rcases hW.2.2.1.2.2.2.1 s hs with h0 | h0
  · rw [if_neg (by rw [h0]; exact fun hh => i10 hh.symm), if_pos h0]
    have h1 := h.h7 (T' := sSd T 0 s (nI 2)) rfl (h.q.sd (c := 0) (by omega) hs (nI 2))
    have e1 : upd (g.1 7) (48 * s + 0) (nI 2) (48 * s + 1) = tSd T 1 s := by
      rw [upd_n (by omega)]
      exact h.q.st (c := 1) (by omega) hs
    rw [e1]
    refine (M_note hu h1 _ _ _).bd (fun g2 h2 => ?_)
    have h2 : RM g0 R m0 tr D g2 (waitT T s) := h2
    have e3 : g2.1 7 (48 * s + 3) = tSd T 3 s := h2.q.st (c := 3) (by omega) hs
    rw [e3, M_bits hu]
    obtain ⟨b1, b2⟩ := bs_mask (x := tSd T 3 s) (fun o ho => (hW.2.2.1.2.2.1 s o hs ho).1)
    rw [b1]
    simp only [Option.bind_some]
    by_cases c : tSd T 3 s = nI 0
    · rw [if_pos (b2.mpr c), if_pos c]
      refine ok.bd (P := fun g' => RM g0 R m0 tr D g' (sureN R 8 (waitT T s) s)) ?_ (fun g' hg' => ok.ret ⟨b2.mpr c, hg'⟩)
      exact (M_beSure hu h2 (hW.wait hs hl) hs (by rw [wait_sd, if_pos ⟨rfl, rfl⟩]) (by rw [wait_sd, if_neg (by omega)]; exact c) (by rw [wait_sd, if_neg (by omega)]; exact h0)).bd (fun g' hg' => ok.ret hg')
    · rw [if_neg (fun hh => c (b2.mp hh)), if_neg c]
      exact ok.bd (P := fun g' => RM g0 R m0 tr D g' (waitT T s)) (ok.ret h2) (fun g' hg' => ok.ret ⟨rfl, hg'⟩)
  · rw [if_pos h0, if_neg (by rw [h0]; exact i10)]
    exact (M_fall hu h hW.1 hW.wk hs hl).bd (fun r hr => ok.ret ⟨rfl, hr.2⟩)
/-- the version with one's stamp is one's own -/
theorem WF.own {R : ER} {T : ET} (hW : WF R T) {s k : Nat} (hs : s < 8) (hk : k < 6) (hl : lvT T s = true) : fst (fun i => decide ((vA T k i).1 = tSd T 1 s)) (tVs T k).length = owI T k s := by
  unfold owI
  refine fst_congr (fun i hi => ?_)
  apply decide_eq_decide.mpr
  constructor
  · exact hW.2.1.2.2.2.2.1 k i s hk hi hs hl
  · exact fun e => hW.wk.1 k i hk hi s hs e
theorem M_isFull {u : Nat} (hu : 1000 ≤ u) {g0 : mS} {R : ER} {m0 : Int32} {tr : Option (Nat → Int32)} {D : Nat → List De} {g : mS} {T : ET} (h : RM g0 R m0 tr D g T) (hW : WF R T) {s k : Nat} (hs : s < 8) (hk : k < 6) (hl : lvT T s = true) : fM_isFull u g (nI s) (nI k) = some (fuT R T s k) := by
  have h9 := h.q.l9 hk
  obtain ⟨m, m2, m9, e1, e2⟩ := most_of hW.1
  have h7 := hW.2.1.2.2.2.2.2.2 k hk
  unfold fM_isFull
  simp (disch := omega) only [fM_ofSeat, fM_of, fM_keyAt, fM_many, fM_cell, fM_its, izN, nI_add, mulI, rdM, mWr7, mRow_s, mRow_m, mRow_2, Option.bind_some, h.q.mn, rd4, h.most, h.q.st, M_placeOf hu h hk, M_isLate hu h hk, hW.own hs hk hl]
  unfold fuT
  rw [e1]
  simp (disch := omega) only [eqI, leI]
  have hle : (tVs T k).length = m ↔ m ≤ (tVs T k).length := by omega
  cases e : owI T k s with
  | none => simp only [Option.elim]; grind
  | some i =>
    have := neN1 (a := i) (by have := (fst_some e).1; omega)
    simp only [Option.elim]
    grind
theorem M_writeNow {u : Nat} (hu : 1000 ≤ u) {g0 : mS} {R : ER} {m0 : Int32} {tr : Option (Nat → Int32)} {D : Nat → List De} {g : mS} {T : ET} (h : RM g0 R m0 tr D g T) (hW : WF R T) {s k : Nat} (hs : s < 8) (hk : k < R.1) (hl : lvT T s = true) (value : Int32) (hf : fuT R T s k = false) : ok (fM_writeNow u g (nI s) (nI k) value) (fun r => r.1 = (writeT T s k value).2 ∧ RM g0 R m0 tr (setD D s (deedL (D s) (nI 2, nI k, value))) r.2 (writeT T s k value).1) := by
  have hk6 : k < 6 := by have := hW.1.2.1; omega
  unfold fM_writeNow
  refine (M_addDeed hu h hs (nI 2) (nI k) value).bd (fun g1 h1 => ?_)
  have h9 := h1.q.l9 hk6
  simp (disch := omega) only [fM_ofSeat, fM_of, fM_keyAt, fM_many, fM_cell, fM_its, izN, nI_add, mulI, rdM, mWr7, mRow_s, mRow_m, mRow_2, Option.bind_some, h1.q.st, M_isLate hu h1 hk6, M_placeOf hu h1 hk6, hW.own hs hk6 hl]
  unfold writeT
  by_cases c : laT T k (tSd T 1 s) = true
  · rw [if_pos c, if_pos c]
    refine (M_note hu h1 _ _ _).bd (fun g2 h2 => ?_)
    exact (M_fall hu h2 hW.1 (hW.note _).wk hs hl).bd (fun r hr => ok.ret ⟨rfl, hr.2⟩)
  · rw [if_neg c, if_neg c]
    cases e : owI T k s with
    | none =>
      simp only [Option.elim, if_true]
      refine ok.bd (P := fun g' => RM g0 R m0 tr (setD D s (deedL (D s) (nI 2, nI k, value))) g' (addT T s k value)) ((M_addVersion hu h1 hs hk6 (fu_room hW hk hf (by simpa using c) e).2 value).bd (fun g2 h2 => ok.ret h2)) (fun g2 h2 => ?_)
      simp only [Option.bind_some]
      exact (M_note hu h2 _ _ _).bd (fun g3 h3 => ok.ret ⟨rfl, h3⟩)
    | some i =>
      have hi := (fst_some e).1
      have hne := neN1 (a := i) (by omega)
      simp only [Option.elim, hne, if_false]
      simp (disch := omega) only [fM_ofSeat, fM_of, fM_keyAt, fM_many, fM_cell, fM_its, izN, nI_add, mulI, rdM, mWr7, mRow_s, mRow_m, mRow_2, Option.bind_some]
      have h2 := h1.h7 (T' := wrV T k i value) rfl (h1.q.valu hk6 hi value)
      exact (M_note hu h2 _ _ _).bd (fun g3 h3 => ok.ret ⟨rfl, h3⟩)
