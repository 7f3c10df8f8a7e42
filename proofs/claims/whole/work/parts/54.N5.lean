/-! to prune, to fall: Model -/
def kp (l : List Vr) (x : Int32) (i : Nat) : List Vr := ((List.range' i (l.length - i)).filter (fun j => ! spL l x j)).map (vG l)
theorem kp_step {l : List Vr} {x : Int32} {i : Nat} (hi : i < l.length) : kp l x i = if spL l x i = true then kp l x (i + 1) else vG l i :: kp l x (i + 1) := by
  unfold kp
  rw [show l.length - i = (l.length - (i + 1)) + 1 by omega, List.range'_succ, List.filter_cons]
  by_cases h : spL l x i = true <;> simp [h]
theorem kp_0 {l : List Vr} {x : Int32} : kp l x 0 = pruL l x := by
  unfold kp pruL prI
  rw [List.range_eq_range', Nat.sub_zero]
theorem kp_end {l : List Vr} {x : Int32} : kp l x l.length = [] := by
  unfold kp
  simp
theorem kp_mem {l : List Vr} {x : Int32} {i : Nat} {w : Vr} : w ∈ kp l x i ↔ ∃ j, i ≤ j ∧ j < l.length ∧ spL l x j = false ∧ w = vG l j := by
  unfold kp
  rw [List.mem_map]
  constructor
  · rintro ⟨j, hj, rfl⟩
    obtain ⟨h1, h2⟩ := List.mem_filter.mp hj
    rw [List.mem_range'_1] at h1
    exact ⟨j, by omega, by omega, by simpa using h2, rfl⟩
  · rintro ⟨j, h1, h2, h3, rfl⟩
    exact ⟨j, List.mem_filter.mpr ⟨List.mem_range'_1.mpr (by omega), by simpa using h3⟩, rfl⟩
theorem kp_len {l : List Vr} {x : Int32} {i : Nat} : (kp l x i).length ≤ l.length - i := by
  unfold kp
  rw [List.length_map]
  have := List.length_filter_le (fun j => ! spL l x j) (List.range' i (l.length - i))
  rw [List.length_range'] at this
  exact this
def Lc (l : List Vr) (x : Int32) (i : Nat) : List Vr := l.take i ++ kp l x i
theorem Lc_succ {l : List Vr} {x : Int32} {i : Nat} (hi : i < l.length) : Lc l x (i + 1) = l.take i ++ vG l i :: kp l x (i + 1) := by
  unfold Lc
  rw [List.take_add_one, List.append_assoc]
  congr 1
  unfold vG
  rw [List.getElem?_eq_getElem hi]
  rfl
theorem vG_mid {A K : List Vr} {v : Vr} : vG (A ++ v :: K) A.length = v := by
  unfold vG
  rw [List.getElem?_append_right (Nat.le_refl _), Nat.sub_self]
  rfl
theorem vG_right {A K : List Vr} {v : Vr} {j : Nat} : vG (A ++ v :: K) (A.length + 1 + j) = vG K j := by
  unfold vG
  rw [List.getElem?_append_right (by omega), show A.length + 1 + j - A.length = j + 1 by omega, List.getElem?_cons_succ]
theorem spX_mid {A K : List Vr} {v : Vr} {x : Int32} : spX (A ++ v :: K) x A.length = (decide (v.2.2.2 = iz (-1)) && decide (v.1 ≤ x) && K.any (fun w => decide (w.2.2.2 = iz (-1)) && decide (w.1 ≤ x))) := by
  unfold spX
  rw [vG_mid]
  congr 1
  apply Bool.eq_iff_iff.mpr
  rw [anyP_iff, List.any_eq_true]
  constructor
  · rintro ⟨j, hj, hp⟩
    simp only [Bool.and_eq_true, decide_eq_true_eq] at hp
    obtain ⟨⟨h1, h2⟩, h3⟩ := hp
    obtain ⟨d, rfl⟩ : ∃ d, j = A.length + 1 + d := ⟨j - A.length - 1, by omega⟩
    rw [vG_right] at h2 h3
    have hd : d < K.length := by
      rw [List.length_append, List.length_cons] at hj
      omega
    refine ⟨vG K d, ?_, by simp [h2, h3]⟩
    unfold vG
    rw [List.getElem?_eq_getElem hd]
    exact List.getElem_mem hd
  · rintro ⟨w, hw, hp⟩
    obtain ⟨d, hd, rfl⟩ := List.getElem_of_mem hw
    refine ⟨A.length + 1 + d, by rw [List.length_append, List.length_cons]; omega, ?_⟩
    rw [vG_right]
    have : vG K d = K[d] := by
      unfold vG
      rw [List.getElem?_eq_getElem hd]
      rfl
    rw [this]
    simp only [Bool.and_eq_true, decide_eq_true_eq] at hp ⊢
    exact ⟨⟨by omega, hp.1⟩, hp.2⟩
theorem spX_Lc {l : List Vr} {x : Int32} (hr : vRise l) {i : Nat} (hi : i < l.length) : spX (Lc l x (i + 1)) x i = spL l x i := by
  have hA : (l.take i).length = i := by simp; omega
  rw [Lc_succ hi, ← spX_eq hr hi]
  have h1 := spX_mid (A := l.take i) (K := kp l x (i + 1)) (v := vG l i) (x := x)
  rw [hA] at h1
  rw [h1]
  unfold spX
  congr 1
  apply Bool.eq_iff_iff.mpr
  rw [anyP_iff, List.any_eq_true]
  constructor
  · rintro ⟨w, hw, hp⟩
    obtain ⟨j, a, b, c, rfl⟩ := kp_mem.mp hw
    refine ⟨j, b, ?_⟩
    simp only [Bool.and_eq_true, decide_eq_true_eq] at hp ⊢
    exact ⟨⟨by omega, hp.1⟩, hp.2⟩
  · rintro ⟨j, hj, hp⟩
    simp only [Bool.and_eq_true, decide_eq_true_eq] at hp
    obtain ⟨⟨h1, h2⟩, h3⟩ := hp
    cases e : suL l x with
    | none =>
      have := lst_none e j hj
      simp [h2, h3] at this
    | some st =>
      obtain ⟨a, b, c⟩ := lst_some e
      have b := of_decide_eq_true b
      have hjs : j ≤ st := by
        by_cases hh : st < j
        · have := c j hh hj
          simp [h2, h3] at this
        · omega
      refine ⟨vG l st, kp_mem.mpr ⟨st, by omega, a, ?_, rfl⟩, by simp [b.1, b.2]⟩
      unfold spL
      rw [e]
      simp
theorem Lc_erase {l : List Vr} {x : Int32} {i : Nat} (hi : i < l.length) : (Lc l x (i + 1)).eraseIdx i = l.take i ++ kp l x (i + 1) := by
  have hA : (l.take i).length = i := by simp; omega
  rw [Lc_succ hi, List.eraseIdx_append_of_length_le (by omega), hA, Nat.sub_self]
  rfl
theorem sVs_sVs {T : ET} {k : Nat} {a b : List Vr} : sVs (sVs T k a) k b = sVs T k b := by
  refine Prod.ext rfl (Prod.ext rfl (Prod.ext (funext fun k' => ?_) rfl))
  show (if k' = k then b else if k' = k then a else _) = if k' = k then b else _
  split <;> rfl
theorem sVs_id {T : ET} {k : Nat} : sVs T k (tVs T k) = T := by
  refine Prod.ext rfl (Prod.ext rfl (Prod.ext (funext fun k' => ?_) rfl))
  show (if k' = k then tVs T k else tVs T k') = tVs T k'
  split
  · next e => rw [e]
  · rfl
theorem M_pruneKey {u : Nat} (hu : 1000 ≤ u) {g0 : mS} {R : ER} {m0 : Int32} {tr : Option (Nat → Int32)} {D : Nat → List De} {g : mS} {T : ET} (h : RM g0 R m0 tr D g T) {k : Nat} (hk : k < 6) (hr : vRise (tVs T k)) (c : Nat) (s3 : Int32 × Int32 × mS) (e3 : s3.2.1 = nI k) : ok (nx_iter u (fM_pruneNow_32 u s3) (nI c, nI (tVs T k).length - nI 1, g)) (fun r => r.1 = nI (c + ((tVs T k).length - (pruL (tVs T k) (tFl T)).length)) ∧ RM g0 R m0 tr D r.2 (sVs T k (pruL (tVs T k) (tFl T)))) := by
  have hl := h.q.l9 hk
  refine it_inv (fun t y => y.1 = nI (c + (t - (kp (tVs T k) (tFl T) ((tVs T k).length - t)).length)) ∧ y.2.1 = nI ((tVs T k).length - t) - nI 1 ∧ RM g0 R m0 tr D y.2.2 (sVs T k (Lc (tVs T k) (tFl T) ((tVs T k).length - t)))) (tVs T k).length (fun t y ht hI => ?_) (fun y hI => ?_) (i := 0) ⟨?_, rfl, ?_⟩ (by omega) (by omega)
  · obtain ⟨e1, e2, hy⟩ := hI
    obtain ⟨i, hi⟩ : ∃ i, (tVs T k).length - t = i + 1 := ⟨(tVs T k).length - t - 1, by omega⟩
    rw [hi] at e1 e2 hy
    rw [decI] at e2
    have hi' : i < (tVs T k).length := by omega
    have hkl := kp_len (l := tVs T k) (x := tFl T) (i := i + 1)
    have hvs : tVs (sVs T k (Lc (tVs T k) (tFl T) (i + 1))) k = Lc (tVs T k) (tFl T) (i + 1) := by rw [g_vs, if_pos rfl]
    have hA : ((tVs T k).take i).length = i := by simp; omega
    have hlen : i < (Lc (tVs T k) (tFl T) (i + 1)).length := by
      rw [Lc_succ hi', List.length_append, hA, List.length_cons]; omega
    have hsp := M_isSpare hu hy hk (i := i) (by rw [hvs]; exact hlen) (tFl T)
    rw [hvs, spX_Lc hr hi'] at hsp
    have hff : y.2.2.1 7 607 = tFl T := hy.q.ff
    unfold fM_pruneNow_32
    simp (disch := omega) only [fM_ofSeat, fM_of, fM_keyAt, fM_many, fM_cell, fM_its, izN, nI_add, mulI, rdM, mWr7, mRow_s, mRow_m, mRow_2, Option.bind_some, e1, e2, ltI, hff, e3, hsp, m1I]
    rw [if_neg (by omega)]
    have et : (tVs T k).length - (t + 1) = i := by omega
    by_cases c1 : spL (tVs T k) (tFl T) i = true
    · rw [if_pos c1]
      refine ok.bd (P := fun p => p.1 = nI (c + (t - (kp (tVs T k) (tFl T) (i + 1)).length) + 1) ∧ RM g0 R m0 tr D p.2 (sVs T k (Lc (tVs T k) (tFl T) i))) ?_ (fun p hp => ?_)
      · refine (M_dropVersion hu hy hk (i := i) (by rw [hvs]; exact hlen)).bd (fun g' hg' => ok.ret ⟨rfl, ?_⟩)
        rw [hvs, Lc_erase hi', sVs_sVs] at hg'
        show RM g0 R m0 tr D g' (sVs T k (List.take i (tVs T k) ++ kp (tVs T k) (tFl T) i))
        rw [kp_step hi', if_pos c1]
        exact hg'
      · refine ok.ret ⟨?_, ?_, ?_⟩
        · show p.1 = _
          rw [hp.1, et, kp_step hi', if_pos c1]
          congr 1
          omega
        · show nI i - nI 1 = _
          rw [et]
        · show RM g0 R m0 tr D p.2 _
          rw [et]
          exact hp.2
    · rw [if_neg c1]
      refine ok.ret ⟨?_, ?_, ?_⟩
      · show nI _ = nI _
        rw [et, kp_step hi', if_neg c1, List.length_cons]
        congr 1
        omega
      · show nI i - nI 1 = _
        rw [et]
      · show RM g0 R m0 tr D y.2.2 _
        rw [et]
        unfold Lc
        rw [kp_step hi', if_neg c1, ← Lc_succ hi']
        exact hy
  · obtain ⟨e1, e2, hy⟩ := hI
    rw [Nat.sub_self] at e1 e2 hy
    rw [zero_dec] at e2
    unfold fM_pruneNow_32
    rw [e2, if_pos (by decide +kernel)]
    rw [kp_0] at e1
    unfold Lc at hy
    rw [kp_0, List.take_zero, List.nil_append] at hy
    exact ok.ret ⟨e1, hy⟩
  · show nI c = _
    rw [Nat.zero_sub]
    rfl
  · show RM g0 R m0 tr D g _
    unfold Lc
    rw [Nat.sub_zero, kp_end, List.take_length, List.append_nil, sVs_id]
    exact h
theorem prA_K {R : ER} {T : ET} {x : Int32} (h6 : R.1 ≤ 6) (h : ∀ k, R.1 ≤ k → k < 6 → tVs T k = []) : prA T x R.1 = prA T x 6 := by
  refine Prod.ext rfl (Prod.ext rfl (Prod.ext (funext fun k => ?_) rfl))
  show (if k < R.1 then pruL (tVs T k) x else tVs T k) = if k < 6 then pruL (tVs T k) x else tVs T k
  by_cases h1 : k < R.1
  · rw [if_pos h1, if_pos (by omega)]
  · rw [if_neg h1]
    by_cases h2 : k < 6
    · rw [if_pos h2, h k (by omega) h2]
      rfl
    · rw [if_neg h2]
theorem prC_K {R : ER} {T : ET} {x : Int32} (h : ∀ k, R.1 ≤ k → k < 6 → tVs T k = []) : ∀ n, R.1 ≤ n → n ≤ 6 → prC T x n = prC T x R.1 := by
  intro n
  induction n with
  | zero => intro h1 _; rw [Nat.le_zero.mp h1]
  | succ n ih =>
    intro h1 h2
    by_cases e : R.1 = n + 1
    · rw [e]
    · unfold prC
      rw [ih (by omega) (by omega), h n (by omega) (by omega)]
      cases hR : R.1 with
      | zero => rfl
      | succ m => rfl
theorem M_pruneNow {u : Nat} (hu : 1000 ≤ u) {g0 : mS} {R : ER} {m0 : Int32} {tr : Option (Nat → Int32)} {D : Nat → List De} {g : mS} {T : ET} (h : RM g0 R m0 tr D g T) (hR : wfR R) (hri : ∀ k, k < 6 → vRise (tVs T k)) (hK : ∀ k, R.1 ≤ k → k < 6 → tVs T k = []) (hp : ∀ s, s < 8 → lvT T s = true → 0 < (tSd T 1 s).toInt) : ok (fM_pruneNow u g) (fun r => r.1 = nI (prC T (flT T) 6) ∧ RM g0 R m0 tr D r.2 (pruneT T)) := by
  obtain ⟨k1, k6, -, -⟩ := hR
  unfold fM_pruneNow
  rw [M_floorThen hu h k1 k6 hp]
  simp (disch := omega) only [fM_ofSeat, fM_of, fM_keyAt, fM_many, fM_cell, fM_its, izN, nI_add, mulI, rdM, mWr7, mRow_s, mRow_m, mRow_2, Option.bind_some]
  have h1 := h.h7 (T' := sFl T (flT T)) rfl (h.q.fl (flT T))
  refine ok.bd (it_inv (Q := fun r => r.1 = nI (prC T (flT T) R.1) ∧ RM g0 R m0 tr D r.2 (prA (sFl T (flT T)) (flT T) R.1)) (fun i y => y.1 = nI (prC T (flT T) i) ∧ y.2.1 = nI i ∧ RM g0 R m0 tr D y.2.2 (prA (sFl T (flT T)) (flT T) i)) R.1 (fun i y hi hI => ?_) (fun y hI => ?_) (i := 0) ⟨rfl, rfl, h1.to (show _ = prA (sFl T (flT T)) (flT T) 0 from Prod.ext rfl (Prod.ext rfl (Prod.ext (funext fun k => by simp [prA]) rfl))) rfl⟩ (by omega) (by omega)) (fun r hr => ?_)
  · obtain ⟨e1, e2, hx⟩ := hI
    have ev : tVs (prA (sFl T (flT T)) (flT T) i) i = tVs T i := by
      show (if i < i then _ else _) = _
      rw [if_neg (Nat.lt_irrefl i)]
      rfl
    have hmn : y.2.2.1 7 (384 + 37 * i) = nI (tVs T i).length := by rw [hx.q.mn (by omega), ev]
    unfold fM_pruneNow_16
    rw [hx.kk]
    simp (disch := omega) only [fM_ofSeat, fM_of, fM_keyAt, fM_many, fM_cell, fM_its, izN, nI_add, mulI, rdM, mWr7, mRow_s, mRow_m, mRow_2, Option.bind_some, e1, e2, leI, hmn]
    rw [if_neg (by omega)]
    have hpk := M_pruneKey hu hx (k := i) (by omega) (by rw [ev]; exact hri i (by omega)) (prC T (flT T) i) y e2
    rw [ev] at hpk
    refine hpk.bd (fun r hr => ?_)
    have efl : tFl (prA (sFl T (flT T)) (flT T) i) = flT T := rfl
    rw [efl] at hr
    refine ok.ret ⟨hr.1, rfl, hr.2.to (Prod.ext rfl (Prod.ext rfl (Prod.ext (funext fun k => ?_) rfl))) rfl⟩
    show (if k = i then pruL (tVs T i) _ else if k < i then pruL (tVs T k) _ else tVs T k) = if k < i + 1 then pruL (tVs T k) _ else tVs T k
    by_cases e1 : k = i
    · subst e1; simp
    · by_cases e2 : k < i
      · simp [e1, e2]; omega
      · simp [e1, e2]; omega
  · obtain ⟨e1, e2, hx⟩ := hI
    unfold fM_pruneNow_16
    rw [hx.kk]
    simp (disch := omega) only [fM_ofSeat, fM_of, fM_keyAt, fM_many, fM_cell, fM_its, izN, nI_add, mulI, rdM, mWr7, mRow_s, mRow_m, mRow_2, Option.bind_some, e1, e2, leI]
    rw [if_pos (by omega)]
    exact ok.ret ⟨rfl, hx⟩
  · rw [hr.1, ← prC_K hK 6 k6 (Nat.le_refl _)]
    have h2 := hr.2
    rw [prA_K (T := sFl T (flT T)) k6 hK] at h2
    exact (M_note hu h2 _ _ _).bd (fun f2 h2 => ok.ret ⟨rfl, h2⟩)
