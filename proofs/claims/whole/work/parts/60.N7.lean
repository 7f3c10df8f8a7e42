/-! to be sure, to commit, to write: Model -/
theorem msA_K {R : ER} {T : ET} {s : Nat} (h6 : R.1 ≤ 6) (h : ∀ k, R.1 ≤ k → k < 6 → tVs T k = []) : msA T s R.1 = msA T s 6 := by
  refine Prod.ext rfl (Prod.ext rfl (Prod.ext (funext fun k => ?_) rfl))
  show (if k < R.1 then ownS (tVs T k) _ else tVs T k) = if k < 6 then ownS (tVs T k) _ else tVs T k
  by_cases h1 : k < R.1
  · rw [if_pos h1, if_pos (by omega)]
  · rw [if_neg h1]
    by_cases h2 : k < 6
    · rw [if_pos h2, h k (by omega) h2]
      rfl
    · rw [if_neg h2]
/-- the first i versions are made sure -/
def ownN (l : List Vr) (x : Int32) (i : Nat) : List Vr := ownS (l.take i) x ++ l.drop i
theorem ownN_len {l : List Vr} {x : Int32} {i : Nat} : (ownN l x i).length = l.length := by
  unfold ownN ownS
  simp
  omega
theorem ownS_take {l : List Vr} {x : Int32} {i : Nat} : ownS (l.take i) x = (ownS l x).take i := by
  unfold ownS
  rw [List.map_take]
theorem vG_ownN {l : List Vr} {x : Int32} {i j : Nat} : vG (ownN l x i) j = if j < i then vG (ownS l x) j else vG l j := by
  unfold ownN
  rw [ownS_take]
  unfold vG
  by_cases c : j < i
  · rw [if_pos c]
    by_cases c2 : j < l.length
    · have : j < ((ownS l x).take i).length := by unfold ownS; simp; omega
      rw [List.getElem?_append_left this, List.getElem?_take, if_pos c]
    · have e1 : (ownS l x)[j]? = none := by
        rw [List.getElem?_eq_none_iff]
        unfold ownS
        simp; omega
      have e2 : ((ownS l x).take i ++ l.drop i)[j]? = none := by
        rw [List.getElem?_eq_none_iff]
        unfold ownS
        simp; omega
      rw [e1, e2]
  · rw [if_neg c]
    by_cases c2 : j < l.length
    · have e3 : ((ownS l x).take i).length = i := by unfold ownS; simp; omega
      rw [List.getElem?_append_right (by omega), e3, List.getElem?_drop]
      congr 2
      omega
    · have e1 : l[j]? = none := by rw [List.getElem?_eq_none_iff]; omega
      have e2 : ((ownS l x).take i ++ l.drop i)[j]? = none := by
        rw [List.getElem?_eq_none_iff]
        unfold ownS
        simp; omega
      rw [e1, e2]
theorem list_ext {l l' : List Vr} (h : l.length = l'.length) (h2 : ∀ i, i < l.length → vG l i = vG l' i) : l = l' := by
  apply List.ext_getElem h
  intro i h1 h3
  have := h2 i h1
  rw [vG_get h1, vG_get h3] at this
  exact this
theorem vG_ownS {l : List Vr} {x : Int32} {j : Nat} (hj : j < l.length) : vG (ownS l x) j = if (vG l j).2.2.2 = x then ((vG l j).1, (vG l j).2.1, (vG l j).2.2.1, iz (-1)) else vG l j := by
  unfold vG ownS
  rw [List.getElem?_map, List.getElem?_eq_getElem hj]
  rfl
theorem ownN_step {l : List Vr} {x : Int32} {i : Nat} (hi : i < l.length) : ownN l x (i + 1) = if (vG l i).2.2.2 = x then (ownN l x i).set i ((vG l i).1, (vG l i).2.1, (vG l i).2.2.1, iz (-1)) else ownN l x i := by
  have hi2 : i < (ownN l x i).length := by rw [ownN_len]; exact hi
  by_cases hx : (vG l i).2.2.2 = x
  · rw [if_pos hx]
    apply list_ext
    · rw [List.length_set, ownN_len, ownN_len]
    · intro j hj
      rw [ownN_len] at hj
      rw [vG_ownN, vG_set hi2, vG_ownN]
      by_cases e : j = i
      · subst e
        rw [if_pos (by omega), if_pos rfl, vG_ownS hj, if_pos hx]
      · rw [if_neg e]
        by_cases c : j < i
        · rw [if_pos (by omega), if_pos c]
        · rw [if_neg (by omega), if_neg c]
  · rw [if_neg hx]
    apply list_ext
    · rw [ownN_len, ownN_len]
    · intro j hj
      rw [ownN_len] at hj
      rw [vG_ownN, vG_ownN]
      by_cases e : j = i
      · subst e
        rw [if_pos (by omega), if_neg (by omega), vG_ownS hj, if_neg hx]
      · by_cases c : j < i
        · rw [if_pos (by omega), if_pos c]
        · rw [if_neg (by omega), if_neg c]
theorem M_sureKey {u : Nat} (hu : 1000 ≤ u) {g0 : mS} {R : ER} {m0 : Int32} {tr : Option (Nat → Int32)} {D : Nat → List De} {g : mS} {T : ET} (h : RM g0 R m0 tr D g T) {k s : Nat} (hk : k < 6) (hs : s < 8) (s1 : Int32 × mS) (e1 : s1.1 = nI k) : ok (nx_iter u (fM_sureOne_12 u (nI s) s1) (nI 0, g)) (fun g' => RM g0 R m0 tr D g' (sVs T k (ownS (tVs T k) (nI s)))) := by
  have hl := h.q.l9 hk
  refine it_inv (fun i y => y.1 = nI i ∧ RM g0 R m0 tr D y.2 (sVs T k (ownN (tVs T k) (nI s) i))) (tVs T k).length (fun i y hi hI => ?_) (fun y hI => ?_) (i := 0) ⟨rfl, ?_⟩ (by omega) (by omega)
  · obtain ⟨e2, hy⟩ := hI
    have hvs : tVs (sVs T k (ownN (tVs T k) (nI s) i)) k = ownN (tVs T k) (nI s) i := by rw [g_vs, if_pos rfl]
    have hlen : (tVs (sVs T k (ownN (tVs T k) (nI s) i)) k).length = (tVs T k).length := by rw [hvs, ownN_len]
    have hva : vA (sVs T k (ownN (tVs T k) (nI s) i)) k i = vA T k i := by
      show vG (tVs (sVs T k (ownN (tVs T k) (nI s) i)) k) i = vG (tVs T k) i
      rw [hvs, vG_ownN, if_neg (by omega)]
    have hmn := hy.q.mn hk
    rw [hlen] at hmn
    have hv4 := hy.q.v4 hk (i := i) (by rw [hlen]; exact hi)
    rw [hva] at hv4
    unfold fM_sureOne_12
    rw [e1, e2]
    simp (disch := omega) only [fM_ofSeat, fM_of, fM_keyAt, fM_many, fM_cell, fM_its, izN, nI_add, mulI, rdM, mWr7, mRow_s, mRow_m, mRow_2, Option.bind_some, hmn, leI, hv4]
    rw [if_neg (by omega)]
    have ev : vA T k i = vG (tVs T k) i := rfl
    by_cases c : (vA T k i).2.2.2 = nI s
    · rw [if_pos c]
      have h2 := hy.h7 (T' := sVs (sVs T k (ownN (tVs T k) (nI s) i)) k ((tVs (sVs T k (ownN (tVs T k) (nI s) i)) k).set i ((vA (sVs T k (ownN (tVs T k) (nI s) i)) k i).1, (vA (sVs T k (ownN (tVs T k) (nI s) i)) k i).2.1, (vA (sVs T k (ownN (tVs T k) (nI s) i)) k i).2.2.1, iz (-1)))) rfl (hy.q.ownr hk (i := i) (by rw [hlen]; exact hi) (iz (-1)))
      rw [sVs_sVs, hvs, hva] at h2
      refine ok.ret ⟨rfl, ?_⟩
      rw [ownN_step hi, ← ev, if_pos c]
      exact h2
    · rw [if_neg c]
      refine ok.ret ⟨rfl, ?_⟩
      rw [ownN_step hi, ← ev, if_neg c]
      exact hy
  · obtain ⟨e2, hy⟩ := hI
    have hvs : tVs (sVs T k (ownN (tVs T k) (nI s) (tVs T k).length)) k = ownN (tVs T k) (nI s) (tVs T k).length := by rw [g_vs, if_pos rfl]
    have hmn := hy.q.mn hk
    rw [hvs, ownN_len] at hmn
    unfold fM_sureOne_12
    rw [e1, e2]
    simp (disch := omega) only [fM_ofSeat, fM_of, fM_keyAt, fM_many, fM_cell, fM_its, izN, nI_add, mulI, rdM, mWr7, mRow_s, mRow_m, mRow_2, Option.bind_some, hmn, leI]
    rw [if_pos (by omega)]
    refine ok.ret ?_
    unfold ownN at hy
    rw [List.take_length, List.drop_length, List.append_nil] at hy
    exact hy
  · unfold ownN
    rw [List.take_zero, List.drop_zero]
    show RM g0 R m0 tr D g (sVs T k (tVs T k))
    rw [sVs_id]
    exact h
theorem M_sureOne {u : Nat} (hu : 1000 ≤ u) {g0 : mS} {R : ER} {m0 : Int32} {tr : Option (Nat → Int32)} {D : Nat → List De} {g : mS} {T : ET} (h : RM g0 R m0 tr D g T) {s : Nat} (hR : wfR R) (hK : ∀ k, R.1 ≤ k → k < 6 → tVs T k = []) (hri : ∀ k, k < 6 → vRise (tVs (sure1T T s) k)) (hp : ∀ o, o < 8 → lvT (sure1T T s) o = true → 0 < (tSd (sure1T T s) 1 o).toInt) (hs : s < 8) : ok (fM_sureOne u g (nI s)) (fun g' => RM g0 R m0 tr D g' (if R.2.2.1 = nI 1 then pruneT (sure1T T s) else sure1T T s)) := by
  have hR' := hR
  obtain ⟨k1, k6, -, -⟩ := hR
  unfold fM_sureOne
  refine ok.bd (it_inv (Q := fun g' => RM g0 R m0 tr D g' (msA T s R.1)) (fun i y => y.1 = nI i ∧ RM g0 R m0 tr D y.2 (msA T s i)) R.1 (fun i y hi hI => ?_) (fun y hI => ?_) (i := 0) ⟨rfl, h.to (show _ = msA T s 0 from Prod.ext rfl (Prod.ext rfl (Prod.ext (funext fun k => by simp [msA]) rfl))) rfl⟩ (by omega) (by omega)) (fun g1 h1 => ?_)
  · obtain ⟨e1, hx⟩ := hI
    have ev : tVs (msA T s i) i = tVs T i := by
      show (if i < i then _ else _) = _
      rw [if_neg (Nat.lt_irrefl i)]
    unfold fM_sureOne_2
    rw [hx.kk]
    simp (disch := omega) only [fM_ofSeat, fM_of, fM_keyAt, fM_many, fM_cell, fM_its, izN, nI_add, mulI, rdM, mWr7, mRow_s, mRow_m, mRow_2, Option.bind_some, e1, leI]
    rw [if_neg (by omega)]
    have hd := M_sureKey hu hx (k := i) (by omega) hs y e1
    rw [ev] at hd
    refine hd.bd (fun g' hg' => ok.ret ⟨rfl, hg'.to (Prod.ext rfl (Prod.ext rfl (Prod.ext (funext fun k => ?_) rfl))) rfl⟩)
    show (if k = i then ownS (tVs T i) _ else if k < i then ownS (tVs T k) _ else tVs T k) = if k < i + 1 then ownS (tVs T k) _ else tVs T k
    by_cases e1 : k = i
    · subst e1; simp
    · by_cases e2 : k < i
      · simp [e1, e2]; omega
      · simp [e1, e2]; omega
  · obtain ⟨e1, hx⟩ := hI
    unfold fM_sureOne_2
    rw [hx.kk]
    simp (disch := omega) only [fM_ofSeat, fM_of, fM_keyAt, fM_many, fM_cell, fM_its, izN, nI_add, mulI, rdM, mWr7, mRow_s, mRow_m, mRow_2, Option.bind_some, e1, leI]
    rw [if_pos (by omega)]
    exact ok.ret hx
  · rw [msA_K k6 hK] at h1
    have h2 := h1.h7 (T' := sSd (msA T s 6) 0 s (nI 3)) rfl (h1.q.sd (c := 0) (by omega) hs (nI 3))
    simp (disch := omega) only [fM_ofSeat, fM_of, fM_keyAt, fM_many, fM_cell, fM_its, izN, nI_add, mulI, rdM, mWr7, mRow_s, mRow_m, mRow_2, Option.bind_some]
    refine ok.bd (it_inv (Q := fun g' => RM g0 R m0 tr D g' (clA (msA (sSd T 0 s (nI 3)) s 6) s 8)) (fun i x => x.1 = nI i ∧ RM g0 R m0 tr D x.2 (clA (msA (sSd T 0 s (nI 3)) s 6) s i)) 8 (fun i x hi hI => ?_) (fun x hI => ?_) (i := 0) ⟨rfl, h2.to (show _ = clA (msA (sSd T 0 s (nI 3)) s 6) s 0 from Prod.ext (funext fun c => funext fun o => by simp [clA, msA, sSd]) rfl) rfl⟩ (by omega) (by omega)) (fun g3 h3 => ?_)
    · obtain ⟨e, hx⟩ := hI
      unfold fM_sureOne_69
      simp (disch := omega) only [fM_ofSeat, fM_of, fM_keyAt, fM_many, fM_cell, fM_its, izN, nI_add, mulI, rdM, mWr7, mRow_s, mRow_m, mRow_2, Option.bind_some, e, leI, hx.q.st]
      rw [if_neg (by omega)]
      refine ok.ret ⟨rfl, (hx.h7 (T' := sSd (clA (msA (sSd T 0 s (nI 3)) s 6) s i) 3 i _) rfl (hx.q.sd (c := 3) (by omega) hi _)).to (Prod.ext (funext fun c => funext fun o => ?_) rfl) rfl⟩
      show (if c = 3 ∧ o = i then (if 3 = 3 ∧ i < i then _ else _) &&& _ else if c = 3 ∧ o < i then _ else _) = if c = 3 ∧ o < i + 1 then _ else _
      grind [bitA]
    · obtain ⟨e, hx⟩ := hI
      unfold fM_sureOne_69
      simp (disch := omega) only [fM_ofSeat, fM_of, fM_keyAt, fM_many, fM_cell, fM_its, izN, nI_add, mulI, rdM, mWr7, mRow_s, mRow_m, mRow_2, Option.bind_some, e, leI]
      exact ok.ret hx
    · simp (disch := omega) only [fM_ofSeat, fM_of, fM_keyAt, fM_many, fM_cell, fM_its, izN, nI_add, mulI, rdM, mWr7, mRow_s, mRow_m, mRow_2, Option.bind_some, h3.q.st]
      refine (M_note hu h3 _ _ _).bd (fun g4 h4 => ?_)
      have h4 : RM g0 R m0 tr D g4 (sure1T T s) := h4
      have e4 : nx_rd (mlen 4) (g4.1 4) (nI 1) = some R.2.2.1 := by rw [rd4 (by omega), h4.prun]
      rw [e4]
      simp only [Option.bind_some]
      by_cases c : R.2.2.1 = nI 1
      · rw [if_pos c, if_pos c]
        exact (M_pruneNow hu h4 hR' hri (fun k h1 h2 => by rw [sure1_vs, if_pos h2, hK k h1 h2]; rfl) hp).bd (fun r hr => ok.ret hr.2)
      · rw [if_neg c, if_neg c]
        exact ok.ret h4
theorem M_sureOne' {u : Nat} (hu : 1000 ≤ u) {g0 : mS} {R : ER} {m0 : Int32} {tr : Option (Nat → Int32)} {D : Nat → List De} {g : mS} {T : ET} (h : RM g0 R m0 tr D g T) (hW : WF R T) {s : Nat} (hs : s < 8) (hl : lvT T s = true) (hd : tSd T 3 s = nI 0) : ok (fM_sureOne u g (nI s)) (fun g' => RM g0 R m0 tr D g' (if R.2.2.1 = nI 1 then pruneT (sure1T T s) else sure1T T s)) := by
  have h1 := hW.sure1 hs hl hd
  exact M_sureOne hu h hW.1 hW.2.1.2.1 h1.2.1.1 (fun o ho hl => (h1.2.2.1.1 o ho hl).1) hs
theorem M_lowestFree {u : Nat} (hu : 1000 ≤ u) {g0 : mS} {R : ER} {m0 : Int32} {tr : Option (Nat → Int32)} {D : Nat → List De} {g : mS} {T : ET} (h : RM g0 R m0 tr D g T) : fM_lowestFree u g = some ((rdyT T).elim (iz (-1)) nI) := by
  unfold fM_lowestFree
  refine (bdE (it_fst (fun i => nI i) (fun s => decide (tSd T 0 s = nI 2 ∧ tSd T 3 s = nI 0)) 8 (.inl ()) (fun i => .inr (nI i)) (fun i hi hp => ?_) (fun i hi hp => ?_) ?_ (by omega))).trans ?_
  · unfold fM_lowestFree_2
    simp (disch := omega) only [fM_ofSeat, fM_of, fM_keyAt, fM_many, fM_cell, fM_its, izN, nI_add, mulI, rdM, mWr7, mRow_s, mRow_m, mRow_2, Option.bind_some, h.q.st, leI]
    grind
  · unfold fM_lowestFree_2
    simp (disch := omega) only [fM_ofSeat, fM_of, fM_keyAt, fM_many, fM_cell, fM_its, izN, nI_add, mulI, rdM, mWr7, mRow_s, mRow_m, mRow_2, Option.bind_some, h.q.st, leI]
    grind
  · unfold fM_lowestFree_2
    simp (disch := omega) only [fM_ofSeat, fM_of, fM_keyAt, fM_many, fM_cell, fM_its, izN, nI_add, mulI, rdM, mWr7, mRow_s, mRow_m, mRow_2, Option.bind_some, leI]
    rfl
  · unfold rdyT
    cases fst _ _ <;> rfl
/-! the row of those who become sure ends -/
def wtT (T : ET) (s : Nat) : Bool := decide (tSd T 0 s = nI 2)
def endS (R : ER) : Nat → ET → Nat → Prop
  | 0, _, _ => False
  | n + 1, T, s => ∀ s', rdyT (stepS R T s) = some s' → endS R n (stepS R T s) s'
theorem n42 : nI 4 ≠ nI 2 := by decide +kernel
theorem fall1_wt {T : ET} {s o : Nat} : wtT (fall1T T s) o = if o = s then false else wtT T o := by
  unfold wtT
  rw [fall1_sd, if_neg (by omega)]
  by_cases e : o = s
  · rw [if_pos ⟨rfl, e⟩, if_pos e]
    decide +kernel
  · rw [if_neg (fun hh => e hh.2), if_neg e]
theorem fallN_wt : ∀ (n : Nat) {T : ET} {s o : Nat}, wtT (fallN n T s).1 o = true → wtT T o = true := by
  intro n
  induction n with
  | zero => intro T s o h; exact h
  | succ n ih =>
    intro T s o h
    unfold fallN at h
    have h1 : wtT (fall1T T s) o = true := by
      cases e : leT (fall1T T s) with
      | none => rw [e] at h; exact h
      | some s' => rw [e] at h; exact ih h
    rw [fall1_wt] at h1
    split at h1
    · cases h1
    · exact h1
theorem step_wt {R : ER} {T : ET} {s : Nat} : (∀ o, wtT (stepS R T s) o = true → wtT T o = true) ∧ wtT (stepS R T s) s = false := by
  have hsure : ∀ o, wtT (sure1T T s) o = if o = s then false else wtT T o := by
    intro o
    unfold wtT
    rw [sure1_sd, if_neg (by omega)]
    by_cases e : o = s
    · rw [if_pos ⟨rfl, e⟩, if_pos e]
      decide +kernel
    · rw [if_neg (fun hh => e hh.2), if_neg e]
  have hfall : ∀ o, wtT (fallT T s) o = true → o ≠ s ∧ wtT T o = true := by
    intro o h
    have h2 : wtT (fallN 8 T s).1 o = true := h
    have h1 : wtT (fall1T T s) o = true := by
      unfold fallN at h2
      cases e : leT (fall1T T s) with
      | none => rw [e] at h2; exact h2
      | some s' => rw [e] at h2; exact fallN_wt 7 h2
    rw [fall1_wt] at h1
    split at h1
    · cases h1
    · exact ⟨by assumption, h1⟩
  have hpr : ∀ (A : ET) o, wtT (pruneT A) o = wtT A o := fun A o => rfl
  unfold stepS
  split
  · split
    · refine ⟨fun o h => ?_, by rw [hpr, hsure, if_pos rfl]⟩
      rw [hpr, hsure] at h
      split at h
      · cases h
      · exact h
    · refine ⟨fun o h => ?_, by rw [hsure, if_pos rfl]⟩
      rw [hsure] at h
      split at h
      · cases h
      · exact h
  · refine ⟨fun o h => (hfall o h).2, ?_⟩
    by_cases c : wtT (fallT T s) s = true
    · exact absurd rfl (hfall s c).1
    · simpa using c
theorem endS_of {R : ER} : ∀ (n : Nat) {T : ET} {s : Nat}, s < 8 → wtT T s = true → cnt (wtT T) 8 ≤ n → endS R n T s := by
  intro n
  induction n with
  | zero =>
    intro T s hs hl hc
    have := cnt_lt (p := wtT T) (q := fun _ => false) (s := s) 8 (fun j _ hj => by cases hj) hs hl rfl
    omega
  | succ n ih =>
    intro T s hs hl hc s' hs'
    obtain ⟨a, b, c⟩ := fst_some hs'
    have b := of_decide_eq_true b
    refine ih a (by unfold wtT; simp [b.1]) ?_
    have := cnt_lt (p := wtT T) (q := wtT (stepS R T s)) (s := s) 8 (fun j _ hj => step_wt.1 j hj) hs hl step_wt.2
    omega
theorem sureN_le {R : ER} : ∀ (n : Nat) {T : ET} {s : Nat}, endS R n T s → ∀ m, n ≤ m → sureN R m T s = sureN R n T s := by
  intro n
  induction n with
  | zero => intro T s h; exact h.elim
  | succ n ih =>
    intro T s h m hm
    obtain ⟨m, rfl⟩ : ∃ w, m = w + 1 := ⟨m - 1, by omega⟩
    unfold sureN
    cases e : rdyT (stepS R T s) with
    | none => rfl
    | some s' =>
      simp only [Option.elim]
      rw [ih (h s' e) m (by omega)]
theorem M_stepS {u : Nat} (hu : 1000 ≤ u) {g0 : mS} {R : ER} {m0 : Int32} {tr : Option (Nat → Int32)} {D : Nat → List De} {g : mS} {T : ET} (h : RM g0 R m0 tr D g T) (hW : WF R T) {s : Nat} (hs : s < 8) (hl : lvT T s = true) (hd : tSd T 3 s = nI 0) : ok (if tSd T 4 s = nI 1 then (fM_fall u g (nI s)).bind fun p6 => some p6.2 else (fM_sureOne u g (nI s)).bind fun g5 => some g5 : Option mS) (fun g' => RM g0 R m0 tr D g' (stepS R T s)) := by
  unfold stepS
  rcases hW.2.2.1.2.2.2.1 s hs with h0 | h0
  · rw [if_neg (by rw [h0]; exact fun hh => i10 hh.symm), if_pos h0]
    exact (M_sureOne' hu h hW hs hl hd).bd (fun g' hg' => ok.ret hg')
  · rw [if_pos h0, if_neg (by rw [h0]; exact i10)]
    exact (M_fall hu h hW.1 hW.wk hs hl).bd (fun r hr => ok.ret hr.2)
theorem M_sure_n {u : Nat} (hu : 1000 ≤ u) {g0 : mS} {R : ER} {m0 : Int32} {tr : Option (Nat → Int32)} {D : Nat → List De} : ∀ (n : Nat) {g : mS} {T : ET} {s v : Nat}, RM g0 R m0 tr D g T → WF R T → s < 8 → lvT T s = true → tSd T 3 s = nI 0 → endS R n T s → n < v → ok (nx_iter v (fM_beSure_10 u) (nI s, g)) (fun r => RM g0 R m0 tr D r (sureN R n T s)) := by
  intro n
  induction n with
  | zero => intro g T s v h hW hs hl hd he; exact he.elim
  | succ n ih =>
    intro g T s v h hW hs hl hd he hv
    obtain ⟨v, rfl⟩ : ∃ w, v = w + 1 := ⟨v - 1, by omega⟩
    refine it_go (P := fun x => ∃ g', RM g0 R m0 tr D g' (stepS R T s) ∧ x = ((rdyT (stepS R T s)).elim (iz (-1)) nI, g')) ?_ ?_
    · unfold fM_beSure_10
      simp (disch := omega) only [fM_ofSeat, fM_of, fM_keyAt, fM_many, fM_cell, fM_its, izN, nI_add, mulI, rdM, mWr7, mRow_s, mRow_m, mRow_2, Option.bind_some, h.q.st]
      rw [if_neg (neN1 (by omega))]
      refine (M_stepS hu h hW hs hl hd).bd (fun g1 h1 => ?_)
      rw [M_lowestFree hu h1]
      exact ok.ret ⟨g1, h1, rfl⟩
    · rintro x ⟨g', hg', rfl⟩
      unfold sureN
      cases e : rdyT (stepS R T s) with
      | none =>
        obtain ⟨v, rfl⟩ : ∃ w, v = w + 1 := ⟨v - 1, by omega⟩
        refine it_go (P := fun _ => False) ?_ (fun _ hh => hh.elim)
        unfold fM_beSure_10
        simp only [Option.elim, if_true]
        exact ok.ret hg'
      | some s' =>
        obtain ⟨a, b, c⟩ := rdyT_some e
        exact ih hg' (hW.step hs hl hd) a b c (he s' e) (by omega)
theorem M_beSure {u : Nat} (hu : 1000 ≤ u) {g0 : mS} {R : ER} {m0 : Int32} {tr : Option (Nat → Int32)} {D : Nat → List De} {g : mS} {T : ET} (h : RM g0 R m0 tr D g T) (hW : WF R T) {s : Nat} (hs : s < 8) (hl : tSd T 0 s = nI 2) (hd : tSd T 3 s = nI 0) (hdm : tSd T 4 s = nI 0) : ok (fM_beSure u g (nI s)) (fun g' => RM g0 R m0 tr D g' (sureN R 8 T s)) := by
  have hlv : lvT T s = true := lvT_iff.mpr (Or.inr hl)
  have he := endS_of (R := R) 8 (T := T) hs (by unfold wtT; simp [hl]) (cnt_le 8)
  unfold fM_beSure
  refine (M_sureOne' hu h hW hs hlv hd).bd (fun g1 h1 => ?_)
  have h1 : RM g0 R m0 tr D g1 (stepS R T s) := by
    unfold stepS
    rw [if_pos hdm]
    exact h1
  rw [M_lowestFree hu h1]
  unfold sureN
  cases e : rdyT (stepS R T s) with
  | none =>
    refine ok.bd (P := fun g' => RM g0 R m0 tr D g' (stepS R T s)) (ok.eq (it_end (r := g1) ?_ (by omega)) h1) (fun g' hg' => ok.ret hg')
    unfold fM_beSure_10
    simp only [Option.elim, if_true]
  | some s' =>
    obtain ⟨a, b, c⟩ := rdyT_some e
    exact (M_sure_n hu 7 h1 (hW.step hs hlv hd) a b c (he s' e) (by omega)).bd (fun g' hg' => ok.ret hg')
