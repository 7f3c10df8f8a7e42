/-! ===== questions: both sides answer alike ===== -/
def both {α : Type} (a b : Option α) : Prop := ∃ r, a = some r ∧ b = some r
theorem both.of {α : Type} {a b : Option α} {r : α} (h1 : a = some r) (h2 : b = some r) : both a b := ⟨r, h1, h2⟩
theorem wRd_eq {β : Type} {Γ : nx_G} {Dm : nx_M} {w c : Nat} {f : Nat → Int32} (eW : wGet Γ Dm w = some (c, f)) (F : (Nat → Int32) → Option β) : wRd Γ Dm w F = F f := by
  unfold wRd
  rw [eW]
  rfl
theorem M_inS (u : Nat) (x : Int32) {b : Nat} (hb : b < 1000000000) : fM_in u x (nI 0) (nI b - nI 1) = some (inR x b) := by
  cases b with
  | zero =>
    rw [zero_dec]
    unfold fM_in inR
    have e0 : (nI 0).toInt = 0 := toI (by omega)
    rw [decide_eq_false (by omega)]
    by_cases c : x < nI 0
    · rw [if_pos c]
    · rw [if_neg c, if_pos]
      rw [Int32.lt_iff_toInt_lt, e0] at c
      rw [Int32.lt_iff_toInt_lt, toN1]
      omega
  | succ n => rw [decI]; exact M_in u x (by omega)
theorem Q_rule {u : Nat} (hu : 1000 ≤ u) {Γ : nx_G} {Dm : nx_M} {x w c : Nat} {f : Nat → Int32} (e5 : gR Dm x 7 5 = some w) (eW : wGet Γ Dm w = some (c, f)) {R : ER} {w0 m0 : Int32} {D : Nat → List De} {T : ET} {g0 g : mS} (h : RW R w0 D f T) (k : RM g0 R m0 none D g T) (hE : EI R D T) (a : Int32) : both (fC_rule u Γ Dm x a) (fM_rule u g a) := by
  unfold fC_rule fM_rule
  simp (disch := omega) only [e5, Option.bind_some, wRd_eq eW, W_hasStore hu h hE.1.1, M_isStore hu k hE.1.1.1 hE.1.1.2.1, if_true, izN, L_within, M_in]
  by_cases c : inR a 3 = true
  · rw [if_pos c, if_pos c]
    obtain ⟨i, hi, rfl⟩ := inR_of c
    unfold fW_ruleOf
    simp (disch := omega) only [izN, nI_add, mulI, rdW, wrW, Option.bind_some, rd4]
    obtain rfl | rfl | rfl : i = 0 ∨ i = 1 ∨ i = 2 := by omega
    · exact both.of (congrArg some h.r0) (congrArg some k.most)
    · exact both.of (congrArg some h.r1) (congrArg some k.prun)
    · exact both.of (congrArg some h.r2) (congrArg some k.strd)
  · rw [if_neg c, if_neg c]
    exact both.of rfl rfl
theorem Q_readBy {u : Nat} (hu : 1000 ≤ u) {Γ : nx_G} {Dm : nx_M} {x w c : Nat} {f : Nat → Int32} (e5 : gR Dm x 7 5 = some w) (eW : wGet Γ Dm w = some (c, f)) {R : ER} {w0 m0 : Int32} {D : Nat → List De} {T : ET} {g0 g : mS} (h : RW R w0 D f T) (k : RM g0 R m0 none D g T) (hE : EI R D T) (a b : Int32) : both (fC_readBy u Γ Dm x a b) (fM_readBy u g a b) := by
  have h6 := hE.1.1.2.1
  unfold fC_readBy fM_readBy
  rw [M_isThere hu k hE.1.1, M_isKey hu k hE.1.1]
  simp (disch := omega) only [e5, Option.bind_some, wRd_eq eW, izN, L_within, W_hasKey hu h h6]
  by_cases c : inR a 8 = true
  · obtain ⟨s, hs, rfl⟩ := inR_of c
    rw [if_pos c, c, nI_back (by omega)]
    by_cases ck : inR b R.1 = true
    · obtain ⟨j, hj, rfl⟩ := inR_of ck
      rw [if_pos ck, if_pos ck]
      unfold fW_stateOf fW_lastRead
      simp (disch := omega) only [izN, nI_add, mulI, rdW, wrW, Option.bind_some, h.st, h.rr]
      by_cases e : tSd T 0 s = nI 0
      · rw [if_pos e]
        simp only [e]
        exact both.of rfl rfl
      · rw [if_neg e]
        simp (disch := omega) only [e, fM_ofSeat, fM_of, fM_keyAt, fM_many, fM_cell, fM_its, izN, nI_add, mulI, rdM, mWr7, mRow_s, mRow_m, mRow_2, Option.bind_some, k.q.rr]
        exact both.of rfl rfl
    · rw [if_neg ck, if_neg ck]
      split <;> exact both.of rfl rfl
  · rw [if_neg c]
    simp only [c, Bool.false_and]
    exact both.of rfl rfl
theorem Q_deed {u : Nat} (hu : 1000 ≤ u) {Γ : nx_G} {Dm : nx_M} {x w c : Nat} {f : Nat → Int32} (e5 : gR Dm x 7 5 = some w) (eW : wGet Γ Dm w = some (c, f)) {R : ER} {w0 m0 : Int32} {D : Nat → List De} {T : ET} {g0 g : mS} (h : RW R w0 D f T) (k : RM g0 R m0 none D g T) (hE : EI R D T) (a b c1 : Int32) : both (fC_deed u Γ Dm x a b c1) (fM_deed u g a b c1) := by
  have h6 := hE.1.1.2.1
  unfold fC_deed fM_deed
  rw [M_isThere hu k hE.1.1]
  simp (disch := omega) only [e5, Option.bind_some, wRd_eq eW, izN, L_within]
  by_cases ca : inR a 8 = true
  · obtain ⟨s, hs, rfl⟩ := inR_of ca
    obtain ⟨d1, d2, d3⟩ := h.dd hs
    obtain ⟨p1, p2, p3⟩ := k.q.dd hs
    rw [if_pos ca, ca, nI_back (by omega)]
    unfold fW_deedsOf
    simp (disch := omega) only [izN, nI_add, mulI, rdW, wrW, Option.bind_some, fM_ofSeat, fM_of, fM_keyAt, fM_many, fM_cell, fM_its, izN, nI_add, mulI, rdM, mWr7, mRow_s, mRow_m, mRow_2, Option.bind_some, d2, p2, L_within, M_inS, M_in]
    by_cases e : tSd T 0 s = nI 0
    · have hz := hE.2.2.1 s hs e
      have hn : inR b (D s).length = false := by
        rw [hz]
        unfold inR
        exact decide_eq_false (by simp)
      rw [hn]
      simp only [e]
      split <;> exact both.of rfl rfl
    · simp only [e]
      by_cases cb : inR b (D s).length = true
      · obtain ⟨i, hi, rfl⟩ := inR_of cb
        have hg := List.getElem?_eq_getElem hi
        obtain ⟨q0, q1, q2⟩ := W_deedPart hu h (hE.2.1 s hs) h6 hs hg
        obtain ⟨r0, r1, r2⟩ := p3 i _ hg
        by_cases cc : inR c1 3 = true
        · obtain ⟨j, hj, rfl⟩ := inR_of cc
          rw [if_pos cc, if_pos cb]
          simp (disch := omega) only [fM_ofSeat, fM_of, fM_keyAt, fM_many, fM_cell, fM_its, izN, nI_add, mulI, rdM, mWr7, mRow_s, mRow_m, mRow_2, Option.bind_some, cb, cc, decide_false, Bool.not_false, Bool.and_true, if_true]
          obtain rfl | rfl | rfl : j = 0 ∨ j = 1 ∨ j = 2 := by omega
          · rw [q0]; exact both.of rfl (congrArg some r0)
          · rw [q1]; exact both.of rfl (congrArg some (by rw [show 12 + 3 * i + 1 = 13 + 3 * i by omega]; exact r1))
          · rw [q2]; exact both.of rfl (congrArg some (by rw [show 12 + 3 * i + 2 = 14 + 3 * i by omega]; exact r2))
        · rw [if_neg cc]
          simp only [cb, cc]
          exact both.of rfl rfl
      · simp only [cb]
        split <;> exact both.of rfl rfl
  · rw [if_neg ca]
    simp only [ca, Bool.false_and]
    exact both.of rfl rfl
theorem Q_versions {u : Nat} (hu : 1000 ≤ u) {Γ : nx_G} {Dm : nx_M} {x w c : Nat} {f : Nat → Int32} (e5 : gR Dm x 7 5 = some w) (eW : wGet Γ Dm w = some (c, f)) {R : ER} {w0 m0 : Int32} {D : Nat → List De} {T : ET} {g0 g : mS} (h : RW R w0 D f T) (k : RM g0 R m0 none D g T) (hE : EI R D T) (a : Int32) : both (fC_versions u Γ Dm x a) (fM_versions u g a) := by
  have h6 := hE.1.1.2.1
  unfold fC_versions fM_versions
  rw [M_isKey hu k hE.1.1]
  simp (disch := omega) only [e5, Option.bind_some, wRd_eq eW, W_hasKey hu h h6]
  by_cases c : inR a R.1 = true
  · obtain ⟨j, hj, rfl⟩ := inR_of c
    rw [if_pos c, if_pos c]
    unfold fW_versionsOf
    simp (disch := omega) only [izN, nI_add, mulI, rdW, wrW, Option.bind_some, fM_ofSeat, fM_of, fM_keyAt, fM_many, fM_cell, fM_its, izN, nI_add, mulI, rdM, mWr7, mRow_s, mRow_m, mRow_2, Option.bind_some, h.mn, k.q.mn]
    exact both.of rfl rfl
  · rw [if_neg c, if_neg c]
    exact both.of rfl rfl
theorem Q_version {u : Nat} (hu : 1000 ≤ u) {Γ : nx_G} {Dm : nx_M} {x w c : Nat} {f : Nat → Int32} (e5 : gR Dm x 7 5 = some w) (eW : wGet Γ Dm w = some (c, f)) {R : ER} {w0 m0 : Int32} {D : Nat → List De} {T : ET} {g0 g : mS} (h : RW R w0 D f T) (k : RM g0 R m0 none D g T) (hE : EI R D T) (a b c1 : Int32) : both (fC_version u Γ Dm x a b c1) (fM_version u g a b c1) := by
  have h6 := hE.1.1.2.1
  unfold fC_version fM_version
  rw [M_isKey hu k hE.1.1]
  simp (disch := omega) only [e5, Option.bind_some, wRd_eq eW, W_hasKey hu h h6, izN, L_within]
  by_cases c : inR a R.1 = true
  · obtain ⟨j, hj, rfl⟩ := inR_of c
    have h9 := h.l9 (show j < 6 by omega)
    rw [if_pos c, if_pos c]
    unfold fW_versionsOf fW_versionPart
    simp (disch := omega) only [izN, nI_add, mulI, rdW, wrW, Option.bind_some, fM_ofSeat, fM_of, fM_keyAt, fM_many, fM_cell, fM_its, izN, nI_add, mulI, rdM, mWr7, mRow_s, mRow_m, mRow_2, Option.bind_some, h.mn, k.q.mn, L_within, M_inS, M_in]
    by_cases cb : inR b (tVs T j).length = true
    · obtain ⟨i, hi, rfl⟩ := inR_of cb
      by_cases cc : inR c1 4 = true
      · obtain ⟨q, hq, rfl⟩ := inR_of cc
        simp (disch := omega) only [izN, nI_add, mulI, rdW, wrW, Option.bind_some, fM_ofSeat, fM_of, fM_keyAt, fM_many, fM_cell, fM_its, izN, nI_add, mulI, rdM, mWr7, mRow_s, mRow_m, mRow_2, Option.bind_some, cb, cc, if_true]
        have hv := vA_eq hi
        have w1 := (h.bb (show j < 6 by omega)).c hq hv
        have m1 := (k.q.bb (show j < 6 by omega)).c hq hv
        exact both.of (congrArg some w1) (congrArg some m1)
      · simp only [cb, cc]
        exact both.of rfl rfl
    · simp only [cb]
      split <;> exact both.of rfl rfl
  · rw [if_neg c, if_neg c]
    exact both.of rfl rfl
/-! the log -/
theorem or_add {a b k : Nat} (ha : a < 2 ^ k) (hb : 2 ^ k * b + a < 2 ^ 31) : nI a ||| nI (b * 2 ^ k) = nI (a + b * 2 ^ k) := by
  apply Int32.toBitVec_inj.mp
  apply BitVec.eq_of_toNat_eq
  have e : b * 2 ^ k = 2 ^ k * b := Nat.mul_comm _ _
  rw [e, Int32.toBitVec_or, BitVec.toNat_or, pk_tn (by omega), pk_tn (by omega), pk_tn (by omega), Nat.or_comm, ← Nat.two_pow_add_eq_or_of_lt ha, Nat.add_comm]
theorem sub_add_I (x y : Int32) : x - y + y = x := Int32.sub_add_cancel x y
theorem encL_n {a b c : Nat} (ha : a < 8) (hb : b ≤ 8) (hc : c ≤ 20000) : encL (nI a, nI b - nI 1, nI c - nI 2) = nI (a + b * 2 ^ 3 + c * 2 ^ 7) := by
  unfold encL
  simp only [izN, sub_add_I]
  rw [pk_shlN (n := b) (nI 3 &&& 31) 3 (by decide +kernel) (by omega), pk_shlN (n := c) (nI 7 &&& 31) 7 (by decide +kernel) (by omega), or_add (by omega) (by omega), or_add (a := a + b * 2 ^ 3) (by omega) (by omega)]
theorem encL_ok {e : De} (h : vE e) : encL e &&& nI 7 = e.1 ∧ ((encL e >>> (nI 3 &&& 31)) &&& nI 15) - nI 1 = e.2.1 ∧ (encL e >>> (nI 7 &&& 31)) - nI 2 = e.2.2 := by
  obtain ⟨a, b, c, ha, hb, hc, rfl⟩ := h
  rw [encL_n ha hb hc]
  refine ⟨?_, ?_, ?_⟩
  · rw [pk_andN (by omega) 3 (by decide +kernel)]
    show nI _ = nI a
    congr 1
    omega
  · rw [pk_shrN (by omega) (nI 3 &&& 31) 3 (by decide +kernel), pk_andN (by omega) 4 (by decide +kernel)]
    show nI _ - nI 1 = nI b - nI 1
    congr 2
    omega
  · rw [pk_shrN (by omega) (nI 7 &&& 31) 7 (by decide +kernel)]
    show nI _ - nI 2 = nI c - nI 2
    congr 2
    omega
theorem W_logPart {u : Nat} (hu : 1000 ≤ u) {R : ER} {w0 : Int32} {D : Nat → List De} {f : Nat → Int32} {T : ET} (h : RW R w0 D f T) (hE : lgV T) {i : Nat} {e : De} (hi : i < (tLg T).length) (he : (tLg T)[(tLg T).length - 1 - i]? = some e) : fW_logPart u f (nI i) (nI 0) = some e.1 ∧ fW_logPart u f (nI i) (nI 1) = some e.2.1 ∧ fW_logPart u f (nI i) (nI 2) = some e.2.2 := by
  obtain ⟨l1, l2, n, l3, l4, l5⟩ := h.ll
  have h5 := l5 _ _ he
  obtain ⟨d0, d1, d2⟩ := encL_ok (hE e (List.mem_of_getElem? he))
  have key : ∃ p, p < 60 ∧ (n + 60 - (tLg T).length + ((tLg T).length - 1 - i)) % 60 = p ∧ (if nI 0 ≤ nI n - nI 1 - nI i then some (nI n - nI 1 - nI i) else some (nI n - nI 1 - nI i + nI 60)) = some (nI p) := by
    by_cases c : i < n
    · refine ⟨n - 1 - i, by omega, by omega, ?_⟩
      rw [subI (by omega), subI (by omega), if_pos (by rw [leI (by omega) (by omega)]; omega)]
    · refine ⟨n + 59 - i, by omega, by omega, ?_⟩
      have e1 : nI n - nI 1 - nI i + nI 60 = nI (n + 59 - i) := by
        rw [← iz_cast, ← iz_cast, ← iz_cast, ← iz_cast, ← iz_cast, iz_sub, iz_sub, iz_add]
        congr 1
        omega
      have e2 : ¬ nI 0 ≤ nI n - nI 1 - nI i := by
        rw [← iz_cast, ← iz_cast, ← iz_cast, ← iz_cast, iz_sub, iz_sub, iz_le (by omega) (by omega) (by omega) (by omega)]
        omega
      rw [if_neg e2, e1]
  obtain ⟨p, p60, ep, ek⟩ := key
  rw [ep] at h5
  unfold fW_logPart
  simp (disch := omega) only [izN, nI_add, mulI, rdW, wrW, Option.bind_some, l4, if_true, i10, n2, n20, if_false]
  rw [ek]
  simp (disch := omega) only [izN, nI_add, mulI, rdW, wrW, Option.bind_some, L_within, inR_nI, h5, p60, decide_true, if_true, d0, d1, d2]
  exact ⟨trivial, trivial, trivial⟩
theorem Q_log {u : Nat} (hu : 1000 ≤ u) {Γ : nx_G} {Dm : nx_M} {x w c : Nat} {f : Nat → Int32} (e5 : gR Dm x 7 5 = some w) (eW : wGet Γ Dm w = some (c, f)) {R : ER} {w0 m0 : Int32} {D : Nat → List De} {T : ET} {g0 g : mS} (h : RW R w0 D f T) (k : RM g0 R m0 none D g T) (hE : EI R D T) (a b : Int32) : both (fC_log u Γ Dm x a b) (fM_log u g a b) := by
  obtain ⟨l1, l2, l3⟩ := h.ll
  obtain ⟨q1, q2, q3⟩ := k.q.ll
  unfold fC_log fM_log fW_logLength
  simp (disch := omega) only [e5, Option.bind_some, wRd_eq eW, izN, nI_add, mulI, rdW, wrW, Option.bind_some, fM_ofSeat, fM_of, fM_keyAt, fM_many, fM_cell, fM_its, izN, nI_add, mulI, rdM, mWr7, mRow_s, mRow_m, mRow_2, Option.bind_some, l2, q2, L_within, M_inS, M_in]
  by_cases ca : inR a (tLg T).length = true
  · obtain ⟨i, hi, rfl⟩ := inR_of ca
    by_cases cb : inR b 3 = true
    · obtain ⟨j, hj, rfl⟩ := inR_of cb
      have hg := List.getElem?_eq_getElem (show (tLg T).length - 1 - i < (tLg T).length by omega)
      obtain ⟨w0, w1, w2⟩ := W_logPart hu h hE.2.2.2.2 hi hg
      obtain ⟨m0, m1, m2⟩ := q3 _ _ hg
      simp (disch := omega) only [ca, cb, if_true, Option.bind_some, subI, fM_ofSeat, fM_of, fM_keyAt, fM_many, fM_cell, fM_its, izN, nI_add, mulI, rdM, mWr7, mRow_s, mRow_m, mRow_2, Option.bind_some]
      obtain rfl | rfl | rfl : j = 0 ∨ j = 1 ∨ j = 2 := by omega
      · rw [w0]; exact both.of rfl (congrArg some m0)
      · rw [w1]; exact both.of rfl (congrArg some (by rw [show 640 + 3 * ((tLg T).length - 1 - i) + 1 = 641 + 3 * ((tLg T).length - 1 - i) by omega]; exact m1))
      · rw [w2]; exact both.of rfl (congrArg some (by rw [show 640 + 3 * ((tLg T).length - 1 - i) + 2 = 642 + 3 * ((tLg T).length - 1 - i) by omega]; exact m2))
    · simp only [ca, cb]
      exact both.of rfl rfl
  · simp only [ca]
    split <;> exact both.of rfl rfl
theorem Q_would {u : Nat} (hu : 1000 ≤ u) {Γ : nx_G} {Dm : nx_M} {x w c : Nat} {f : Nat → Int32} (e5 : gR Dm x 7 5 = some w) (eW : wGet Γ Dm w = some (c, f)) {R : ER} {w0 m0 : Int32} {D : Nat → List De} {T : ET} {g0 g : mS} (h : RW R w0 D f T) (k : RM g0 R m0 none D g T) (hE : EI R D T) (a b c1 : Int32) : both (fC_would u Γ Dm x a b c1) (fM_would u g a b c1) := by
  have h6 := hE.1.1.2.1
  unfold fC_would fM_would
  rw [M_isActive hu k hE.1.1, M_isKey hu k hE.1.1]
  simp (disch := omega) only [e5, Option.bind_some, wRd_eq eW, izN, L_within, W_hasKey hu h h6, M_in01]
  by_cases c : inR a 8 = true
  · obtain ⟨s, hs, rfl⟩ := inR_of c
    rw [if_pos c, c, nI_back (by omega)]
    by_cases ck : inR b R.1 = true
    · obtain ⟨j, hj, rfl⟩ := inR_of ck
      rw [if_pos ck]
      unfold fW_stateOf fW_stampOf fW_markToRead
      simp (disch := omega) only [izN, nI_add, mulI, rdW, wrW, Option.bind_some, h.st, h.sp, W_slotToRead hu h hs (show j < 6 by omega), W_isLate hu h (show j < 6 by omega)]
      by_cases e : tSd T 0 s = nI 1
      · obtain ⟨i, hi⟩ := hE.1.rd hs hj (lv1 e)
        have hil := rdI_lt hi
        have h9 := h.l9 (show j < 6 by omega)
        rw [if_pos e, hi]
        simp (disch := omega) only [e, ck, decide_true, Bool.and_true, if_true, Option.elim, L_within, inR_nI, M_readable hu k hE.1 hs (show j < 6 by omega) (lv1 e) hi, izN, nI_add, mulI, rdW, wrW, Option.bind_some, fM_ofSeat, fM_of, fM_keyAt, fM_many, fM_cell, fM_its, izN, nI_add, mulI, rdM, mWr7, mRow_s, mRow_m, mRow_2, Option.bind_some, k.q.st, M_isLate hu k (show j < 6 by omega)]
        rw [if_pos (show decide (j * 9 + i < 54) = true by simp; omega)]
        have w1 : f (238 + (j * 9 + i)) = (vA T j i).1 := by rw [← Nat.add_assoc]; exact h.v1 (by omega) hil
        have m1 := k.q.v1 (show j < 6 by omega) hil
        simp (disch := omega) only [izN, nI_add, mulI, rdW, wrW, Option.bind_some, w1, m1]
        by_cases c0 : c1 = nI 0
        · rw [if_pos c0, if_pos (by simp [c0]), if_pos c0]
          exact both.of rfl rfl
        · rw [if_neg c0]
          by_cases c2 : c1 = nI 1
          · have hd : decide (c1 = nI 0 ∨ c1 = nI 1) = true := by simp [c2]
            rw [if_pos c2, if_pos hd, if_neg c0]
            split <;> exact both.of rfl rfl
          · rw [if_neg c2, if_neg (by simp [c0, c2])]
            exact both.of rfl rfl
      · rw [if_neg e]
        simp only [e, decide_false, Bool.and_false]
        exact both.of rfl rfl
    · rw [if_neg ck]
      simp only [ck]
      split <;> exact both.of rfl rfl
  · rw [if_neg c]
    simp only [c, Bool.false_and]
    exact both.of rfl rfl
/-! as of a stamp -/
theorem it_last {α : Type} {b : α × Int32 → Option ((α × Int32) ⊕ α)} (p : Nat → Bool) (v : Nat → α) (n : Nat) (a0 : α) (hb : ∀ i acc, i < n → b (acc, nI i) = some (.inl ((if p i = true then v i else acc), nI (i + 1)))) (he : ∀ acc, b (acc, nI n) = some (.inr acc)) {u : Nat} (hu : n < u) : nx_iter u b (a0, nI 0) = some ((lst p n).elim a0 v) := by
  refine it_up (fun i => ((lst p i).elim a0 v, nI i)) n (fun i hi => ?_) (he _) (i := 0) (by omega) (by omega)
  rw [hb i _ hi]
  congr 2
  show (_, nI (i + 1)) = ((lst p (i + 1)).elim a0 v, nI (i + 1))
  congr 1
  show _ = (if p i = true then some i else lst p i).elim a0 v
  split <;> rfl
theorem W_sureValueAt {u : Nat} (hu : 1000 ≤ u) {R : ER} {w0 : Int32} {D : Nat → List De} {f : Nat → Int32} {T : ET} (h : RW R w0 D f T) {k : Nat} (hk : k < 6) (x : Int32) : fW_sureValueAt u f (nI k) x = some ((suL (tVs T k) x).elim (iz (-1)) (fun i => (vA T k i).2.1)) := by
  have h9 := h.l9 hk
  unfold fW_sureValueAt
  rw [W_lastSureSlot hu h hk, Option.bind_some]
  cases e : suL (tVs T k) x with
  | none =>
    simp (disch := omega) only [Option.elim, izN, nI_add, mulI, rdW, wrW, Option.bind_some, L_within, inR_N1]
    rfl
  | some i =>
    have hi := (lst_some e).1
    simp (disch := omega) only [Option.elim, izN, nI_add, mulI, rdW, wrW, Option.bind_some, L_within, inR_nI]
    rw [if_pos (by simp; omega)]
    simp (disch := omega) only [izN, nI_add, mulI, rdW, wrW, Option.bind_some, ← Nat.add_assoc, h.v2]
theorem M_asOf_l {u : Nat} (hu : 1000 ≤ u) {g0 : mS} {R : ER} {m0 : Int32} {tr : Option (Nat → Int32)} {D : Nat → List De} {g : mS} {T : ET} (h : RM g0 R m0 tr D g T) {j : Nat} (hj : j < 6) (x : Int32) : nx_iter u (fM_asOf_31 u g (nI j) x) (iz (-1), nI 0) = some ((suL (tVs T j) x).elim (iz (-1)) (fun i => (vA T j i).2.1)) := by
  have h9 := h.q.l9 hj
  refine it_last (fun i => decide ((vG (tVs T j) i).2.2.2 = iz (-1) ∧ (vG (tVs T j) i).1 ≤ x)) (fun i => (vA T j i).2.1) (tVs T j).length (iz (-1)) (fun i acc hi => ?_) (fun acc => ?_) (by omega)
  · unfold fM_asOf_31
    simp (disch := omega) only [fM_ofSeat, fM_of, fM_keyAt, fM_many, fM_cell, fM_its, izN, nI_add, mulI, rdM, mWr7, mRow_s, mRow_m, mRow_2, Option.bind_some, h.q.mn, leI, h.q.v1, h.q.v2, h.q.v4]
    rw [if_neg (by omega)]
    show _ = some (Sum.inl ((if decide ((vA T j i).2.2.2 = iz (-1) ∧ (vA T j i).1 ≤ x) = true then (vA T j i).2.1 else acc), nI (i + 1)))
    by_cases c1 : x < (vA T j i).1
    · rw [if_pos c1, if_neg (by simp only [decide_eq_true_eq]; rw [ltN] at c1; exact fun hh => c1 hh.2)]
      rfl
    · rw [if_neg c1]
      rw [ltN] at c1
      have c1 := Classical.not_not.mp c1
      by_cases c2 : (vA T j i).2.2.2 = iz (-1)
      · rw [if_pos c2, if_pos (by simp only [decide_eq_true_eq]; exact ⟨c2, c1⟩)]
        rfl
      · rw [if_neg c2, if_neg (by simp only [decide_eq_true_eq]; exact fun hh => c2 hh.1)]
        rfl
  · unfold fM_asOf_31
    simp (disch := omega) only [fM_ofSeat, fM_of, fM_keyAt, fM_many, fM_cell, fM_its, izN, nI_add, mulI, rdM, mWr7, mRow_s, mRow_m, mRow_2, Option.bind_some, h.q.mn, leI]
    rw [if_pos (by omega)]
theorem Q_asOf {u : Nat} (hu : 1000 ≤ u) {Γ : nx_G} {Dm : nx_M} {x w c : Nat} {f : Nat → Int32} (e5 : gR Dm x 7 5 = some w) (eW : wGet Γ Dm w = some (c, f)) {R : ER} {w0 m0 : Int32} {D : Nat → List De} {T : ET} {g0 g : mS} (h : RW R w0 D f T) (k : RM g0 R m0 none D g T) (hE : EI R D T) (a b : Int32) : both (fC_asOf u Γ Dm x a b) (fM_asOf u g a b) := by
  have h6 := hE.1.1.2.1
  obtain ⟨c1, c2, c3, c4, c5, c6⟩ := hE.1.2.2.2
  unfold fC_asOf fM_asOf fW_floor
  rw [M_isKey hu k hE.1.1]
  simp (disch := omega) only [e5, Option.bind_some, wRd_eq eW, W_hasKey hu h h6, izN, nI_add, mulI, rdW, wrW, Option.bind_some, fM_ofSeat, fM_of, fM_keyAt, fM_many, fM_cell, fM_its, izN, nI_add, mulI, rdM, mWr7, mRow_s, mRow_m, mRow_2, Option.bind_some, h.ff, k.q.ff]
  by_cases c : inR a R.1 = true
  · obtain ⟨j, hj, rfl⟩ := inR_of c
    rw [if_pos c, if_pos c]
    by_cases cb : b < tFl T
    · rw [if_pos cb, if_pos cb]
      exact both.of rfl rfl
    · rw [if_neg cb, if_neg cb, W_sureValueAt hu h (by omega), M_asOf_l hu k (by omega), if_pos]
      · exact both.of rfl rfl
      · rw [Int32.le_iff_toInt_le, toI (by omega)]
        rw [Int32.lt_iff_toInt_lt] at cb
        omega
  · rw [if_neg c, if_neg c]
    exact both.of rfl rfl
/-! shares -/
def sumV (T : ET) : Nat → Nat
  | 0 => 0
  | n + 1 => sumV T n + (tVs T n).length
theorem sumV_K {R : ER} {T : ET} (h : ∀ k, R.1 ≤ k → k < 6 → tVs T k = []) : ∀ n, R.1 ≤ n → n ≤ 6 → sumV T n = sumV T R.1 := by
  intro n
  induction n with
  | zero => intro h1 _; rw [Nat.le_zero.mp h1]
  | succ n ih =>
    intro h1 h2
    by_cases e : R.1 = n + 1
    · rw [e]
    · show sumV T n + _ = _
      rw [ih (by omega) (by omega), h n (by omega) (by omega)]
      rfl
theorem W_versionsOfAll {u : Nat} (hu : 1000 ≤ u) {R : ER} {w0 : Int32} {D : Nat → List De} {f : Nat → Int32} {T : ET} (h : RW R w0 D f T) : fW_versionsOfAll u f = some (nI (sumV T 6)) := by
  unfold fW_versionsOfAll
  refine bdE (it_up (fun i => (nI (sumV T i), nI i)) 6 (fun i hi => ?_) ?_ (i := 0) (by omega) (by omega))
  · unfold fW_versionsOfAll_4
    simp (disch := omega) only [izN, nI_add, mulI, rdW, wrW, Option.bind_some, h.mn, leI]
    rw [if_neg (by omega)]
    rfl
  · unfold fW_versionsOfAll_4
    simp (disch := omega) only [izN, nI_add, mulI, rdW, wrW, Option.bind_some, leI]
    rfl
theorem M_versionsOfAll {u : Nat} (hu : 1000 ≤ u) {g0 : mS} {R : ER} {m0 : Int32} {tr : Option (Nat → Int32)} {D : Nat → List De} {g : mS} {T : ET} (h : RM g0 R m0 tr D g T) (hW : WF R T) : fM_versionsOfAll u g = some (nI (sumV T 6)) := by
  have h6 := hW.1.2.1
  rw [sumV_K hW.2.1.2.1 6 h6 (Nat.le_refl _)]
  unfold fM_versionsOfAll
  refine bdE (it_up (fun i => (nI (sumV T i), nI i)) R.1 (fun i hi => ?_) ?_ (i := 0) (by omega) (by omega))
  · unfold fM_versionsOfAll_4
    simp (disch := omega) only [fM_ofSeat, fM_of, fM_keyAt, fM_many, fM_cell, fM_its, izN, nI_add, mulI, rdM, mWr7, mRow_s, mRow_m, mRow_2, Option.bind_some, h.q.mn, h.kk, leI]
    rw [if_neg (by omega)]
    rfl
  · unfold fM_versionsOfAll_4
    simp (disch := omega) only [fM_ofSeat, fM_of, fM_keyAt, fM_many, fM_cell, fM_its, izN, nI_add, mulI, rdM, mWr7, mRow_s, mRow_m, mRow_2, Option.bind_some, h.kk, leI]
    rw [if_pos (by omega)]
theorem sumV_pos {R : ER} {T : ET} (hW : WF R T) : 0 < sumV T 6 ∧ sumV T 6 ≤ 54 := by
  have h1 := hW.1.1
  have h6 := hW.1.2.1
  obtain ⟨i, hi, _⟩ := hW.2.1.2.2.1 0 (by omega)
  have l0 := hW.l9 (k := 0) (by omega)
  have l1 := hW.l9 (k := 1) (by omega)
  have l2 := hW.l9 (k := 2) (by omega)
  have l3 := hW.l9 (k := 3) (by omega)
  have l4 := hW.l9 (k := 4) (by omega)
  have l5 := hW.l9 (k := 5) (by omega)
  simp only [sumV]
  omega
theorem Q_shares {u : Nat} (hu : 1000 ≤ u) {Γ : nx_G} {Dm : nx_M} {x w c : Nat} {f : Nat → Int32} (e5 : gR Dm x 7 5 = some w) (eW : wGet Γ Dm w = some (c, f)) {R : ER} {w0 m0 : Int32} {D : Nat → List De} {T : ET} {g0 g : mS} (h : RW R w0 D f T) (k : RM g0 R m0 none D g T) (hE : EI R D T) (a b : Int32) : both (fC_shares u Γ Dm x a b) (fM_shares u g a b) := by
  have h6 := hE.1.1.2.1
  obtain ⟨s0, s54⟩ := sumV_pos hE.1
  unfold fC_shares fM_shares
  rw [M_isKey hu k hE.1.1, M_versionsOfAll hu k hE.1]
  simp (disch := omega) only [e5, Option.bind_some, wRd_eq eW, W_hasKey hu h h6, W_versionsOfAll hu h, izN, M_in, ltI]
  by_cases c : inR a R.1 = true
  · obtain ⟨j, hj, rfl⟩ := inR_of c
    rw [if_pos c, if_pos c, if_pos s0]
    unfold fW_versionsOf
    simp (disch := omega) only [izN, nI_add, mulI, rdW, wrW, Option.bind_some, fM_ofSeat, fM_of, fM_keyAt, fM_many, fM_cell, fM_its, izN, nI_add, mulI, rdM, mWr7, mRow_s, mRow_m, mRow_2, Option.bind_some, h.mn, k.q.mn]
    unfold nx_dv
    rw [if_neg (nI_ne0 s0 (by omega))]
    by_cases c0 : b < nI 0
    · rw [if_pos c0, if_neg]
      · exact both.of rfl rfl
      · unfold inR
        rw [Int32.lt_iff_toInt_lt, toI (by omega)] at c0
        simp only [decide_eq_true_eq]
        omega
    · rw [if_neg c0]
      by_cases c1 : nI 999 < b
      · rw [if_pos c1, if_neg]
        · exact both.of rfl rfl
        · unfold inR
          rw [Int32.lt_iff_toInt_lt, toI (by omega)] at c1
          simp only [decide_eq_true_eq]
          omega
      · rw [if_neg c1, if_pos]
        · exact both.of rfl rfl
        · unfold inR
          rw [Int32.lt_iff_toInt_lt, toI (by omega)] at c1 c0
          simp only [decide_eq_true_eq]
          omega
  · rw [if_neg c, if_neg c]
    exact both.of rfl rfl
