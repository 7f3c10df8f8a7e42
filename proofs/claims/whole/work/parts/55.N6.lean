theorem it_low {b : Int32 × Int32 → Option ((Int32 × Int32) ⊕ Int32)} (p : Nat → Bool) (n : Nat) (hb : ∀ i acc, i < n → b (acc, nI (i + 1) - nI 1) = some (.inl ((if p i = true then nI i else acc), nI i - nI 1))) (he : ∀ acc, b (acc, nI 0 - nI 1) = some (.inr acc)) {u : Nat} (hu : n < u) : nx_iter u b (iz (-1), nI n - nI 1) = some ((fst p n).elim (iz (-1)) nI) := by
  refine ok.val (it_inv (fun t y => y.2 = nI (n - t) - nI 1 ∧ ((y.1 = iz (-1) ∧ ∀ j, n - t ≤ j → j < n → p j = false) ∨ ∃ k, y.1 = nI k ∧ n - t ≤ k ∧ k < n ∧ p k = true ∧ ∀ j, n - t ≤ j → j < k → p j = false)) n (fun t y ht hI => ?_) (fun y hI => ?_) (i := 0) ⟨rfl, Or.inl ⟨rfl, fun j h1 h2 => by omega⟩⟩ (by omega) (by omega))
  · obtain ⟨e2, hy⟩ := hI
    obtain ⟨i, hi⟩ : ∃ i, n - t = i + 1 := ⟨n - t - 1, by omega⟩
    have ey : y = (y.1, nI (i + 1) - nI 1) := Prod.ext rfl (by rw [e2, hi])
    rw [ey, hb i y.1 (by omega)]
    have et : n - (t + 1) = i := by omega
    refine ok.ret ⟨by rw [et], ?_⟩
    rw [et]
    by_cases c : p i = true
    · simp only [c, if_true]
      exact Or.inr ⟨i, rfl, Nat.le_refl _, by omega, c, fun j h1 h2 => by omega⟩
    · simp only [c]
      rw [hi] at hy
      rcases hy with ⟨h1, h2⟩ | ⟨k, h1, h2, h3, h4, h5⟩
      · refine Or.inl ⟨h1, fun j a b => ?_⟩
        by_cases e : j = i
        · rw [e]; simpa using c
        · exact h2 j (by omega) b
      · refine Or.inr ⟨k, h1, by omega, h3, h4, fun j a b => ?_⟩
        by_cases e : j = i
        · rw [e]; simpa using c
        · exact h5 j (by omega) b
  · obtain ⟨e2, hy⟩ := hI
    rw [Nat.sub_self] at e2 hy
    have ey : y = (y.1, nI 0 - nI 1) := Prod.ext rfl e2
    rw [ey, he]
    refine ok.ret ?_
    show y.1 = _
    rcases hy with ⟨h1, h2⟩ | ⟨k, h1, h2, h3, h4, h5⟩
    · rw [h1, fst_nil (fun j hj => h2 j (by omega) hj)]
      rfl
    · rw [h1, fst_of h3 h4 (fun j hj => h5 j (by omega) hj)]
      rfl
/-- what holds while some fall -/
def wkF (R : ER) (T : ET) : Prop := (∀ k i, k < 6 → i < (tVs T k).length → ∀ s, s < 8 → (vA T k i).2.2.2 = nI s → (vA T k i).1 = tSd T 1 s) ∧ (∀ k, k < 6 → vRise (tVs T k)) ∧ (∀ k, R.1 ≤ k → k < 6 → tVs T k = []) ∧ ∀ s, s < 8 → tSd T 3 s ≠ nI 0 → lvT T s = true
theorem wkF.one {R : ER} {T : ET} (h : wkF R T) {k i j s : Nat} (hk : k < 6) (hs : s < 8) (hi : i < (tVs T k).length) (hj : j < (tVs T k).length) (h1 : (vA T k i).2.2.2 = nI s) (h2 : (vA T k j).2.2.2 = nI s) : i = j := by
  have e1 := h.1 k i hk hi s hs h1
  have e2 := h.1 k j hk hj s hs h2
  have hr := h.2.1 k hk
  have ei : vG (tVs T k) i = vA T k i := rfl
  have ej : vG (tVs T k) j = vA T k j := rfl
  by_cases c : i < j
  · have := hr i j c hj
    rw [ei, ej, e1, e2] at this
    omega
  · by_cases c2 : j < i
    · have := hr j i c2 hi
      rw [ei, ej, e1, e2] at this
      omega
    · omega
theorem M_dropOwn {u : Nat} (hu : 1000 ≤ u) {g0 : mS} {R : ER} {m0 : Int32} {tr : Option (Nat → Int32)} {D : Nat → List De} {g : mS} {T : ET} (h : RM g0 R m0 tr D g T) (hw : wkF R T) {k s : Nat} (hk : k < 6) (hs : s < 8) (s1 : Int32 × mS) (e1 : s1.1 = nI k) : ok (nx_iter u (fM_fallOne_18 u (nI s) s1) (nI (tVs T k).length - nI 1, g)) (fun g' => RM g0 R m0 tr D g' (sVs T k (dropL (tVs T k) (nI s)))) := by
  have hl := h.q.l9 hk
  have ed : dropL (tVs T k) (nI s) = (owI T k s).elim (tVs T k) (fun i => (tVs T k).eraseIdx i) := rfl
  rw [ed]
  refine it_inv (fun t y => y.1 = nI ((tVs T k).length - t) - nI 1 ∧ RM g0 R m0 tr D y.2 (sVs T k ((owI T k s).elim (tVs T k) (fun i => if (tVs T k).length - t ≤ i then (tVs T k).eraseIdx i else tVs T k)))) (tVs T k).length (fun t y ht hI => ?_) (fun y hI => ?_) (i := 0) ⟨rfl, ?_⟩ (by omega) (by omega)
  · obtain ⟨e2, hy⟩ := hI
    obtain ⟨i, hi⟩ : ∃ i, (tVs T k).length - t = i + 1 := ⟨(tVs T k).length - t - 1, by omega⟩
    have hi' : i < (tVs T k).length := by omega
    rw [hi] at e2 hy
    rw [decI] at e2
    have et : (tVs T k).length - (t + 1) = i := by omega
    unfold fM_fallOne_18
    rw [e1, e2]
    cases eo : owI T k s with
    | none =>
      have hn := fst_none eo i hi'
      have hn : (vA T k i).2.2.2 ≠ nI s := by simpa using hn
      rw [eo] at hy
      simp only [Option.elim] at hy ⊢
      rw [sVs_id] at hy
      simp (disch := omega) only [fM_ofSeat, fM_of, fM_keyAt, fM_many, fM_cell, fM_its, izN, nI_add, mulI, rdM, mWr7, mRow_s, mRow_m, mRow_2, Option.bind_some, ltI, hy.q.v4 hk hi', m1I]
      rw [if_neg (by omega), if_neg hn]
      refine ok.ret ⟨by rw [et], ?_⟩
      rw [sVs_id]
      exact hy
    | some i0 =>
      obtain ⟨a0, b0, c0⟩ := fst_some eo
      have b0 : (vA T k i0).2.2.2 = nI s := by simpa using b0
      rw [eo] at hy
      simp only [Option.elim] at hy ⊢
      by_cases hlt : i + 1 ≤ i0
      · rw [if_pos hlt] at hy
        have hvs : tVs (sVs T k ((tVs T k).eraseIdx i0)) k = (tVs T k).eraseIdx i0 := by rw [g_vs, if_pos rfl]
        have hlen : i < (tVs (sVs T k ((tVs T k).eraseIdx i0)) k).length := by rw [hvs, List.length_eraseIdx]; split <;> omega
        have hva : vA (sVs T k ((tVs T k).eraseIdx i0)) k i = vA T k i := by
          unfold vA
          rw [hvs, List.getElem?_eraseIdx, if_pos (by omega)]
        have hn : (vA T k i).2.2.2 ≠ nI s := by simpa using c0 i (by omega)
        simp (disch := omega) only [fM_ofSeat, fM_of, fM_keyAt, fM_many, fM_cell, fM_its, izN, nI_add, mulI, rdM, mWr7, mRow_s, mRow_m, mRow_2, Option.bind_some, ltI, hy.q.v4 hk hlen, hva, m1I]
        rw [if_neg (by omega), if_neg hn]
        refine ok.ret ⟨by rw [et], ?_⟩
        show RM g0 R m0 tr D y.2 _
        rw [et, if_pos (by omega)]
        exact hy
      · rw [if_neg hlt, sVs_id] at hy
        simp (disch := omega) only [fM_ofSeat, fM_of, fM_keyAt, fM_many, fM_cell, fM_its, izN, nI_add, mulI, rdM, mWr7, mRow_s, mRow_m, mRow_2, Option.bind_some, ltI, hy.q.v4 hk hi', m1I]
        rw [if_neg (by omega)]
        by_cases ei : i = i0
        · subst ei
          rw [if_pos b0]
          refine ok.bd (P := fun g' => RM g0 R m0 tr D g' (sVs T k ((tVs T k).eraseIdx i))) ((M_dropVersion hu hy hk hi').bd (fun g' hg' => ok.ret hg')) (fun g' hg' => ?_)
          refine ok.ret ⟨by rw [et], ?_⟩
          show RM g0 R m0 tr D g' _
          rw [et, if_pos (Nat.le_refl _)]
          exact hg'
        · have hn : (vA T k i).2.2.2 ≠ nI s := fun hh => ei (hw.one hk hs hi' a0 hh b0)
          rw [if_neg hn]
          refine ok.ret ⟨by rw [et], ?_⟩
          show RM g0 R m0 tr D y.2 _
          rw [et, if_neg (by omega), sVs_id]
          exact hy
  · obtain ⟨e2, hy⟩ := hI
    rw [Nat.sub_self] at e2 hy
    rw [zero_dec] at e2
    unfold fM_fallOne_18
    rw [e2, if_pos (by decide +kernel)]
    refine ok.ret ?_
    show RM g0 R m0 tr D y.2 _
    cases eo : owI T k s with
    | none => rw [eo] at hy; exact hy
    | some i0 => rw [eo] at hy; simpa using hy
  · cases eo : owI T k s with
    | none => simp only [Option.elim]; rw [sVs_id]; exact h
    | some i0 =>
      obtain ⟨a0, b0, c0⟩ := fst_some eo
      simp only [Option.elim]
      rw [if_neg (by omega), sVs_id]
      exact h
theorem dropA_K {R : ER} {T : ET} {s : Nat} (h6 : R.1 ≤ 6) (h : ∀ k, R.1 ≤ k → k < 6 → tVs T k = []) : dropA T s R.1 = dropA T s 6 := by
  refine Prod.ext rfl (Prod.ext rfl (Prod.ext (funext fun k => ?_) rfl))
  show (if k < R.1 then dropL (tVs T k) _ else tVs T k) = if k < 6 then dropL (tVs T k) _ else tVs T k
  by_cases h1 : k < R.1
  · rw [if_pos h1, if_pos (by omega)]
  · rw [if_neg h1]
    by_cases h2 : k < 6
    · rw [if_pos h2, h k (by omega) h2]
      rfl
    · rw [if_neg h2]
theorem RM.f16 {g0 : mS} {R : ER} {m0 : Int32} {tr : Option (Nat → Int32)} {D : Nat → List De} {g : mS} {T : ET} (h : RM g0 R m0 tr D g T) (v : Int32) : RM g0 R m0 tr D (mFs g 16 (m0 + v)) (sFe T v) := ⟨h.1.f16 _, h.2.1, by unfold mFs; rw [mRow_s, upd_s]; rfl, by unfold mFs; rw [mRow_n (by omega)]; exact h.2.2.2⟩
/-! lists of versions by their members -/
theorem all_iff {P : Vr → Prop} {l : List Vr} : (∀ i, i < l.length → P (vG l i)) ↔ ∀ v ∈ l, P v := by
  constructor
  · intro h v hv
    obtain ⟨i, hi, rfl⟩ := List.getElem_of_mem hv
    have := h i hi
    unfold vG at this
    rw [List.getElem?_eq_getElem hi] at this
    exact this
  · intro h i hi
    have : vG l i = l[i] := by
      unfold vG
      rw [List.getElem?_eq_getElem hi]
      rfl
    rw [this]
    exact h _ (List.getElem_mem hi)
theorem ex_iff {P : Vr → Prop} {l : List Vr} : (∃ i, i < l.length ∧ P (vG l i)) ↔ ∃ v ∈ l, P v := by
  constructor
  · rintro ⟨i, hi, h⟩
    have : vG l i = l[i] := by
      unfold vG
      rw [List.getElem?_eq_getElem hi]
      rfl
    rw [this] at h
    exact ⟨_, List.getElem_mem hi, h⟩
  · rintro ⟨v, hv, h⟩
    obtain ⟨i, hi, rfl⟩ := List.getElem_of_mem hv
    refine ⟨i, hi, ?_⟩
    unfold vG
    rw [List.getElem?_eq_getElem hi]
    exact h
theorem vG_get {l : List Vr} {i : Nat} (hi : i < l.length) : vG l i = l[i] := by
  unfold vG
  rw [List.getElem?_eq_getElem hi]
  rfl
theorem vRise_iff {l : List Vr} : vRise l ↔ l.Pairwise (fun a b => a.1.toInt < b.1.toInt) := by
  rw [List.pairwise_iff_getElem]
  unfold vRise
  constructor
  · intro h i j hi hj hij
    have := h i j hij hj
    rw [vG_get hi, vG_get hj] at this
    exact this
  · intro h i j hij hj
    rw [vG_get hj, vG_get (by omega)]
    exact h i j (by omega) hj hij
theorem dropL_sub {l : List Vr} {x : Int32} : (dropL l x).Sublist l := by
  unfold dropL
  cases fst (fun i => decide ((l[i]?.getD (0, 0, 0, 0)).2.2.2 = x)) l.length with
  | none => exact List.Sublist.refl _
  | some i => exact List.eraseIdx_sublist _ _
theorem map_vG {l : List Vr} : (List.range l.length).map (vG l) = l := by
  apply List.ext_getElem
  · simp
  · intro i h1 h2
    rw [List.getElem_map, List.getElem_range]
    exact vG_get h2
theorem pruL_sub {l : List Vr} {x : Int32} : (pruL l x).Sublist l := by
  have h := List.Sublist.map (vG l) (List.filter_sublist (p := fun i => ! spL l x i) (l := List.range l.length))
  rw [map_vG] at h
  exact h
theorem fall1_vs {T : ET} {s k : Nat} : tVs (fall1T T s) k = if k < 6 then dropL (tVs T k) (nI s) else tVs T k := rfl
theorem fall1_sd {T : ET} {s c o : Nat} : tSd (fall1T T s) c o = if c = 3 ∧ o = s then nI 0 else if c = 0 ∧ o = s then nI 4 else tSd T c o := rfl
theorem fall1_lv {T : ET} {s o : Nat} : lvT (fall1T T s) o = if o = s then false else lvT T o := by
  unfold lvT
  rw [fall1_sd, if_neg (by omega)]
  by_cases e : o = s
  · rw [if_pos ⟨rfl, e⟩, if_pos e]
    decide +kernel
  · rw [if_neg (fun hh => e hh.2), if_neg e]
theorem wkF.fall1 {R : ER} {T : ET} (h : wkF R T) {s : Nat} : wkF R (fall1T T s) := by
  obtain ⟨h1, h2, h3, h4⟩ := h
  refine ⟨fun k i hk hi o ho => ?_, fun k hk => ?_, fun k hk hk6 => ?_, fun o ho => ?_⟩
  · have := (all_iff (P := fun v => ∀ o, o < 8 → v.2.2.2 = nI o → v.1 = tSd T 1 o)).mp (fun i hi => h1 k i hk hi)
    have h5 : ∀ v ∈ tVs (fall1T T s) k, ∀ o, o < 8 → v.2.2.2 = nI o → v.1 = tSd T 1 o := by
      intro v hv
      rw [fall1_vs, if_pos hk] at hv
      exact this v (dropL_sub.subset hv)
    have h6 := all_iff.mpr h5 i hi o ho
    intro hh
    rw [fall1_sd, if_neg (by omega), if_neg (by omega)]
    exact h6 hh
  · rw [fall1_vs, if_pos hk]
    exact vRise_iff.mpr ((vRise_iff.mp (h2 k hk)).sublist dropL_sub)
  · rw [fall1_vs, if_pos hk6, h3 k hk hk6]
    rfl
  · rw [fall1_sd, fall1_lv]
    by_cases e : o = s
    · rw [if_pos ⟨rfl, e⟩]
      intro hh
      exact absurd rfl hh
    · rw [if_neg (fun hh => e hh.2), if_neg (by omega), if_neg e]
      exact h4 o ho
/-! how many live: the falling ends -/
def cnt (p : Nat → Bool) : Nat → Nat
  | 0 => 0
  | n + 1 => cnt p n + (if p n = true then 1 else 0)
theorem cnt_le {p : Nat → Bool} : ∀ n, cnt p n ≤ n := by
  intro n
  induction n with
  | zero => exact Nat.le_refl _
  | succ n ih =>
    unfold cnt
    split <;> omega
theorem cnt_mono {p q : Nat → Bool} : ∀ n, (∀ j, j < n → q j = true → p j = true) → cnt q n ≤ cnt p n := by
  intro n
  induction n with
  | zero => intro _; exact Nat.le_refl _
  | succ n ih =>
    intro h
    have h1 := ih (fun j hj => h j (by omega))
    have h2 := h n (by omega)
    unfold cnt
    by_cases c : q n = true
    · rw [if_pos c, if_pos (h2 c)]; omega
    · rw [if_neg c]; omega
theorem cnt_lt {p q : Nat → Bool} {s : Nat} : ∀ n, (∀ j, j < n → q j = true → p j = true) → s < n → p s = true → q s = false → cnt q n < cnt p n := by
  intro n
  induction n with
  | zero => intro _ h; omega
  | succ n ih =>
    intro h hs hp hq
    by_cases e : s = n
    · subst e
      have h1 := cnt_mono s (fun j hj => h j (by omega))
      unfold cnt
      rw [hp, hq]
      simp
      omega
    · have h1 := ih (fun j hj => h j (by omega)) (by omega) hp hq
      have h2 := h n (by omega)
      unfold cnt
      by_cases c : q n = true
      · rw [if_pos c, if_pos (h2 c)]; omega
      · rw [if_neg c]; omega
def endF : Nat → ET → Nat → Prop
  | 0, _, _ => False
  | n + 1, T, s => ∀ s', leT (fall1T T s) = some s' → endF n (fall1T T s) s'
theorem and0 (x : Int32) : nI 0 &&& x = nI 0 := Int32.zero_and
theorem leT_some {R : ER} {T : ET} (h : wkF R T) {s : Nat} (hs : leT T = some s) : s < 8 ∧ lvT T s = true := by
  obtain ⟨a, b, c⟩ := fst_some hs
  refine ⟨a, h.2.2.2 s a (fun e => ?_)⟩
  rw [e, and0] at b
  simp at b
theorem endF_of {R : ER} : ∀ (n : Nat) {T : ET} {s : Nat}, wkF R T → s < 8 → lvT T s = true → cnt (lvT T) 8 ≤ n → endF n T s := by
  intro n
  induction n with
  | zero =>
    intro T s hw hs hl hc
    have := cnt_lt (p := lvT T) (q := fun _ => false) (s := s) 8 (fun j _ hj => by cases hj) hs hl rfl
    omega
  | succ n ih =>
    intro T s hw hs hl hc s' hs'
    obtain ⟨a, b⟩ := leT_some hw.fall1 hs'
    refine ih hw.fall1 a b ?_
    have := cnt_lt (p := lvT T) (q := lvT (fall1T T s)) (s := s) 8 (fun j _ hj => by
      rw [fall1_lv] at hj
      split at hj
      · cases hj
      · exact hj) hs hl (by rw [fall1_lv, if_pos rfl])
    omega
theorem leT_lv' {R : ER} {T : ET} (h : wkF R T) : leT T = fst (fun s => lvT T s && ! decide (tSd T 3 s &&& inS T (nI 4) = nI 0)) 8 := by
  unfold leT
  refine fst_congr (fun s hs => ?_)
  by_cases e : tSd T 3 s &&& inS T (nI 4) = nI 0
  · simp [e]
  · have : tSd T 3 s ≠ nI 0 := by
      intro hh
      rw [hh, and0] at e
      exact e rfl
    simp [e, h.2.2.2 s hs this]
theorem M_fallOne {u : Nat} (hu : 1000 ≤ u) {g0 : mS} {R : ER} {m0 : Int32} {tr : Option (Nat → Int32)} {D : Nat → List De} {g : mS} {T : ET} (h : RM g0 R m0 tr D g T) (hR : wfR R) (hw : wkF R T) {s : Nat} (hs : s < 8) : ok (fM_fallOne u g (nI s)) (fun g' => RM g0 R m0 tr D g' (sFe (fall1T T s) (tFe T + nI 1))) := by
  obtain ⟨k1, k6, -, -⟩ := hR
  unfold fM_fallOne
  refine ok.bd (it_inv (Q := fun g' => RM g0 R m0 tr D g' (dropA T s R.1)) (fun i y => y.1 = nI i ∧ RM g0 R m0 tr D y.2 (dropA T s i)) R.1 (fun i y hi hI => ?_) (fun y hI => ?_) (i := 0) ⟨rfl, h.to (show _ = dropA T s 0 from Prod.ext rfl (Prod.ext rfl (Prod.ext (funext fun k => by simp [dropA]) rfl))) rfl⟩ (by omega) (by omega)) (fun g1 h1 => ?_)
  · obtain ⟨e1, hx⟩ := hI
    have ev : tVs (dropA T s i) i = tVs T i := by
      show (if i < i then _ else _) = _
      rw [if_neg (Nat.lt_irrefl i)]
    have hmn : y.2.1 7 (384 + 37 * i) = nI (tVs T i).length := by rw [hx.q.mn (by omega), ev]
    have hw2 : wkF R (dropA T s i) := by
      obtain ⟨h1, h2, h3, h4⟩ := hw
      have hs2 : ∀ k, (tVs (dropA T s i) k).Sublist (tVs T k) := by
        intro k
        show (if k < i then dropL (tVs T k) (nI s) else tVs T k).Sublist _
        split
        · exact dropL_sub
        · exact List.Sublist.refl _
      refine ⟨fun k j hk hj o ho => ?_, fun k hk => ?_, fun k hk hk6 => ?_, h4⟩
      · have h5 : ∀ v ∈ tVs (dropA T s i) k, ∀ o, o < 8 → v.2.2.2 = nI o → v.1 = tSd T 1 o := fun v hv => (all_iff (P := fun v => ∀ o, o < 8 → v.2.2.2 = nI o → v.1 = tSd T 1 o)).mp (fun i hi => h1 k i hk hi) v ((hs2 k).subset hv)
        exact all_iff.mpr h5 j hj o ho
      · exact vRise_iff.mpr ((vRise_iff.mp (h2 k hk)).sublist (hs2 k))
      · have := hs2 k
        rw [h3 k hk hk6] at this
        exact List.sublist_nil.mp this
    unfold fM_fallOne_2
    rw [hx.kk]
    simp (disch := omega) only [fM_ofSeat, fM_of, fM_keyAt, fM_many, fM_cell, fM_its, izN, nI_add, mulI, rdM, mWr7, mRow_s, mRow_m, mRow_2, Option.bind_some, e1, leI, hmn]
    rw [if_neg (by omega)]
    have hd := M_dropOwn hu hx hw2 (k := i) (by omega) hs y e1
    rw [ev] at hd
    refine hd.bd (fun g' hg' => ok.ret ⟨rfl, hg'.to (Prod.ext rfl (Prod.ext rfl (Prod.ext (funext fun k => ?_) rfl))) rfl⟩)
    show (if k = i then dropL (tVs T i) _ else if k < i then dropL (tVs T k) _ else tVs T k) = if k < i + 1 then dropL (tVs T k) _ else tVs T k
    by_cases e1 : k = i
    · subst e1; simp
    · by_cases e2 : k < i
      · simp [e1, e2]; omega
      · simp [e1, e2]; omega
  · obtain ⟨e1, hx⟩ := hI
    unfold fM_fallOne_2
    rw [hx.kk]
    simp (disch := omega) only [fM_ofSeat, fM_of, fM_keyAt, fM_many, fM_cell, fM_its, izN, nI_add, mulI, rdM, mWr7, mRow_s, mRow_m, mRow_2, Option.bind_some, e1, leI]
    rw [if_pos (by omega)]
    exact ok.ret hx
  · rw [dropA_K k6 hw.2.2.1] at h1
    have h2 := h1.h7 (T' := sSd (dropA T s 6) 0 s (nI 4)) rfl (h1.q.sd (c := 0) (by omega) hs (nI 4))
    have h3 := h2.h7 (T' := sSd (sSd (dropA T s 6) 0 s (nI 4)) 3 s (nI 0)) rfl (h2.q.sd (c := 3) (by omega) hs (nI 0))
    have h4 := h3.f16 (tFe T + nI 1)
    simp only [mRow_m, mRow_s] at h3 h4
    have e16 : (mRow g1 7 (upd (upd (g1.1 7) (48 * s + 0) (nI 4)) (48 * s + 3) (nI 0))).1 0 16 + nI 1 = m0 + (tFe T + nI 1) := by
      have := h3.2.2.1
      rw [this, Int32.add_assoc]
      rfl
    simp (disch := omega) only [fM_ofSeat, fM_of, fM_keyAt, fM_many, fM_cell, fM_its, izN, nI_add, mulI, rdM, mWr7, mRow_s, mRow_m, mRow_2, Option.bind_some, e16, h4.q.st]
    have e17 : (mFs (mRow g1 7 (upd (upd (g1.1 7) (48 * s + 0) (nI 4)) (48 * s + 3) (nI 0))) 16 (m0 + (tFe T + nI 1))).1 7 (48 * s + 1) = tSd T 1 s := h4.q.st (c := 1) (by omega) hs
    exact (M_note hu h4 _ _ _).bd (fun f2 h5 => ok.ret (h5.to rfl rfl))
theorem M_lean {u : Nat} (hu : 1000 ≤ u) {g0 : mS} {R : ER} {m0 : Int32} {tr : Option (Nat → Int32)} {D : Nat → List De} {g : mS} {T : ET} (h : RM g0 R m0 tr D g T) (hR : wfR R) (hw : wkF R T) : nx_iter u (fM_fall_30 u g (inS T (nI 4))) (iz (-1), nI 8 - nI 1) = some ((leT T).elim (iz (-1)) nI) := by
  obtain ⟨k1, k6, -, -⟩ := hR
  rw [leT_lv' hw]
  refine it_low (fun s => lvT T s && ! decide (tSd T 3 s &&& inS T (nI 4) = nI 0)) 8 (fun i acc hi => ?_) (fun acc => ?_) (by omega)
  · unfold fM_fall_30
    simp (disch := omega) only [fM_ofSeat, fM_of, fM_keyAt, fM_many, fM_cell, fM_its, izN, nI_add, mulI, rdM, mWr7, mRow_s, mRow_m, mRow_2, Option.bind_some, decI, ltI, M_isOn hu h k1 k6, h.q.st, m1I]
    rw [if_neg (by omega)]
    grind
  · unfold fM_fall_30
    rw [zero_dec]
    rfl
theorem fallN_sFe : ∀ (n : Nat) {T : ET} {s : Nat} {v : Int32}, fallN n (sFe T v) s = (sFe (fallN n T s).1 v, (fallN n T s).2) := by
  intro n
  induction n with
  | zero => intro T s v; rfl
  | succ n ih =>
    intro T s v
    have e1 : fall1T (sFe T v) s = sFe (fall1T T s) v := rfl
    have e2 : leT (sFe (fall1T T s) v) = leT (fall1T T s) := rfl
    unfold fallN
    rw [e1, e2]
    cases leT (fall1T T s) with
    | none => rfl
    | some s' =>
      simp only [Option.elim]
      rw [ih]
theorem M_fall_n {u : Nat} (hu : 1000 ≤ u) {g0 : mS} {R : ER} {m0 : Int32} {tr : Option (Nat → Int32)} {D : Nat → List De} (hR : wfR R) : ∀ (n : Nat) {g : mS} {T : ET} {s m v : Nat}, RM g0 R m0 tr D g T → wkF R T → s < 8 → endF n T s → n < v → ok (nx_iter v (fM_fall_4 u) (nI m, nI s, g)) (fun r => r.1 = nI (m + (fallN n T s).2) ∧ RM g0 R m0 tr D r.2 (sFe (fallN n T s).1 (tFe T + nI (fallN n T s).2))) := by
  intro n
  induction n with
  | zero => intro g T s m v h hw hs he; exact he.elim
  | succ n ih =>
    intro g T s m v h hw hs he hv
    obtain ⟨v, rfl⟩ : ∃ w, v = w + 1 := ⟨v - 1, by omega⟩
    refine it_go (P := fun x => ∃ g', RM g0 R m0 tr D g' (sFe (fall1T T s) (tFe T + nI 1)) ∧ x = (nI (m + 1), (leT (fall1T T s)).elim (iz (-1)) nI, g')) ?_ ?_
    · unfold fM_fall_4
      simp (disch := omega) only [fM_ofSeat, fM_of, fM_keyAt, fM_many, fM_cell, fM_its, izN, nI_add, mulI, rdM, mWr7, mRow_s, mRow_m, mRow_2, Option.bind_some]
      rw [if_neg (neN1 (by omega))]
      refine (M_fallOne hu h hR hw hs).bd (fun g1 h1 => ?_)
      have hw2 : wkF R (sFe (fall1T T s) (tFe T + nI 1)) := hw.fall1
      have e1 := M_those hu h1 (nI 4)
      have e2 := M_lean hu h1 hR hw2
      rw [show nI 8 - nI 1 = nI 7 from decI 7] at e2
      rw [e1]
      simp only [Option.bind_some]
      rw [e2]
      exact ok.ret ⟨g1, h1, rfl⟩
    · rintro x ⟨g', hg', rfl⟩
      unfold fallN
      cases e : leT (fall1T T s) with
      | none =>
        obtain ⟨v, rfl⟩ : ∃ w, v = w + 1 := ⟨v - 1, by omega⟩
        refine it_go (P := fun _ => False) ?_ (fun _ hh => hh.elim)
        unfold fM_fall_4
        simp only [Option.elim, if_true]
        exact ok.ret ⟨rfl, hg'⟩
      | some s' =>
        have hs' := (fst_some e).1
        have := ih (m := m + 1) hg' hw.fall1 hs' (by
          have h9 := he s' e
          cases n with
          | zero => exact h9
          | succ n =>
            have : ∀ (n : Nat) (T : ET) (s : Nat) (v : Int32), endF n T s → endF n (sFe T v) s := by
              intro n
              induction n with
              | zero => intro T s v h; exact h
              | succ n ih2 => intro T s v h s2 h2; exact ih2 _ _ v (h s2 h2)
            exact this _ _ _ _ h9) (show n < v by omega)
        refine this.im (fun r hr => ?_)
        rw [fallN_sFe] at hr
        obtain ⟨h1, h2⟩ := hr
        refine ⟨?_, ?_⟩
        · rw [h1]
          show nI (m + 1 + _) = nI (m + (_ + 1))
          congr 1
          omega
        · refine h2.to ?_ rfl
          show sFe (sFe _ _) (tFe T + nI 1 + nI _) = sFe _ (tFe T + nI (_ + 1))
          rw [Int32.add_assoc, nI_add, Nat.add_comm 1]
          rfl
theorem fallN_le {R : ER} : ∀ (n : Nat) {T : ET} {s : Nat}, endF n T s → ∀ m, n ≤ m → fallN m T s = fallN n T s := by
  intro n
  induction n with
  | zero => intro T s h; exact h.elim
  | succ n ih =>
    intro T s h m hm
    obtain ⟨m, rfl⟩ : ∃ w, m = w + 1 := ⟨m - 1, by omega⟩
    unfold fallN
    cases e : leT (fall1T T s) with
    | none => rfl
    | some s' =>
      simp only [Option.elim]
      rw [ih (h s' e) m (by omega)]
theorem M_fall {u : Nat} (hu : 1000 ≤ u) {g0 : mS} {R : ER} {m0 : Int32} {tr : Option (Nat → Int32)} {D : Nat → List De} {g : mS} {T : ET} (h : RM g0 R m0 tr D g T) (hR : wfR R) (hw : wkF R T) {s : Nat} (hs : s < 8) (hl : lvT T s = true) : ok (fM_fall u g (nI s)) (fun r => r.1 = nI (fallN 8 T s).2 ∧ RM g0 R m0 tr D r.2 (fallT T s)) := by
  unfold fM_fall
  refine (M_fall_n hu hR 8 (m := 0) h hw hs (endF_of 8 hw hs hl (cnt_le 8)) (show 8 < u by omega)).bd (fun r hr => ?_)
  rw [Nat.zero_add] at hr
  exact ok.ret hr
