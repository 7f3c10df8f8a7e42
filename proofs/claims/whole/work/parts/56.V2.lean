/-! ===== what holds of every state is kept ===== -/
def wm (R : ER) (T : ET) : Prop := (∀ k, k < 6 → (tVs T k).Pairwise (fun a b => a.1.toInt < b.1.toInt)) ∧ (∀ k, R.1 ≤ k → k < 6 → tVs T k = []) ∧ (∀ k, k < R.1 → ∃ v ∈ tVs T k, v.2.2.2 = iz (-1) ∧ v.1 ≤ tFl T) ∧
  (∀ k, k < 6 → ∀ v ∈ tVs T k, v.2.2.2 = iz (-1) ∨ ∃ s, s < 8 ∧ v.2.2.2 = nI s ∧ lvT T s = true ∧ v.1 = tSd T 1 s) ∧
  (∀ k, k < 6 → ∀ v ∈ tVs T k, ∀ s, s < 8 → lvT T s = true → v.1 = tSd T 1 s → v.2.2.2 = nI s) ∧
  (∀ k, k < 6 → ∀ v ∈ tVs T k, usd R T v.1 ∧ v.1.toInt ≤ v.2.2.1.toInt ∧ v.2.2.1.toInt ≤ (tCk T).toInt) ∧
  (∀ k, k < 6 → ((tVs T k).length : Int) ≤ R.2.1.toInt)
theorem wm_iff {R : ER} {T : ET} : wfV R T ↔ wm R T := by
  unfold wfV wm
  have a1 : (∀ k, k < 6 → vRise (tVs T k)) ↔ (∀ k, k < 6 → (tVs T k).Pairwise (fun a b => a.1.toInt < b.1.toInt)) := ⟨fun h k hk => vRise_iff.mp (h k hk), fun h k hk => vRise_iff.mpr (h k hk)⟩
  have a3 : (∀ k, k < R.1 → ∃ i, i < (tVs T k).length ∧ (vA T k i).2.2.2 = iz (-1) ∧ (vA T k i).1 ≤ tFl T) ↔ (∀ k, k < R.1 → ∃ v ∈ tVs T k, v.2.2.2 = iz (-1) ∧ v.1 ≤ tFl T) := ⟨fun h k hk => ex_iff.mp (h k hk), fun h k hk => ex_iff.mpr (h k hk)⟩
  have a4 : (∀ k i, k < 6 → i < (tVs T k).length → (vA T k i).2.2.2 = iz (-1) ∨ ∃ s, s < 8 ∧ (vA T k i).2.2.2 = nI s ∧ lvT T s = true ∧ (vA T k i).1 = tSd T 1 s) ↔ (∀ k, k < 6 → ∀ v ∈ tVs T k, v.2.2.2 = iz (-1) ∨ ∃ s, s < 8 ∧ v.2.2.2 = nI s ∧ lvT T s = true ∧ v.1 = tSd T 1 s) := ⟨fun h k hk => all_iff.mp (fun i hi => h k i hk hi), fun h k i hk hi => all_iff.mpr (h k hk) i hi⟩
  have a5 : (∀ k i s, k < 6 → i < (tVs T k).length → s < 8 → lvT T s = true → (vA T k i).1 = tSd T 1 s → (vA T k i).2.2.2 = nI s) ↔ (∀ k, k < 6 → ∀ v ∈ tVs T k, ∀ s, s < 8 → lvT T s = true → v.1 = tSd T 1 s → v.2.2.2 = nI s) := ⟨fun h k hk => all_iff.mp (fun i hi s => h k i s hk hi), fun h k i s hk hi => all_iff.mpr (h k hk) i hi s⟩
  have a6 : (∀ k i, k < 6 → i < (tVs T k).length → usd R T (vA T k i).1 ∧ (vA T k i).1.toInt ≤ (vA T k i).2.2.1.toInt ∧ (vA T k i).2.2.1.toInt ≤ (tCk T).toInt) ↔ (∀ k, k < 6 → ∀ v ∈ tVs T k, usd R T v.1 ∧ v.1.toInt ≤ v.2.2.1.toInt ∧ v.2.2.1.toInt ≤ (tCk T).toInt) := ⟨fun h k hk => all_iff.mp (fun i hi => h k i hk hi), fun h k i hk hi => all_iff.mpr (h k hk) i hi⟩
  rw [a1, a3, a4, a5, a6]
theorem WF.note {R : ER} {T : ET} (h : WF R T) (e : De) : WF R (noteT T e) := h
theorem WF.fe {R : ER} {T : ET} (h : WF R T) (v : Int32) : WF R (sFe T v) := h
theorem lt_ne {a b : Nat} (ha : a < 1000) (hb : b < 1000) (h : nI a = nI b) : a = b := (eqI (by omega) (by omega)).mp h
theorem WF.wk {R : ER} {T : ET} (h : WF R T) : wkF R T := by
  obtain ⟨hR, hV, hS, hC⟩ := h
  refine ⟨fun k i hk hi s hs e => ?_, hV.1, hV.2.1, fun s hs e => ?_⟩
  · rcases hV.2.2.2.1 k i hk hi with h1 | ⟨o, ho, h1, h2, h3⟩
    · rw [h1] at e; exact absurd e.symm (neN1 (by omega))
    · rw [e] at h1
      rw [lt_ne (by omega) (by omega) h1]
      exact h3
  · obtain ⟨i, hi, ht⟩ := tb_ne.mp e
    exact (hS.2.2.1 s i hs ht).2.1
/-! dropping -/
theorem mem_erase {l : List Vr} {i : Nat} {v : Vr} (h : v ∈ l) (hne : ∀ w, l[i]? = some w → w ≠ v) : v ∈ l.eraseIdx i := by
  obtain ⟨j, hj, rfl⟩ := List.getElem_of_mem h
  by_cases e : j = i
  · subst e
    exact absurd rfl (hne _ (List.getElem?_eq_getElem hj))
  · by_cases c : j < i
    · refine List.mem_of_getElem? (i := j) ?_
      rw [List.getElem?_eraseIdx, if_pos c]
      exact List.getElem?_eq_getElem hj
    · refine List.mem_of_getElem? (i := j - 1) ?_
      rw [List.getElem?_eraseIdx, if_neg (by omega), show j - 1 + 1 = j by omega]
      exact List.getElem?_eq_getElem hj
theorem dropL_keep {l : List Vr} {x : Int32} {v : Vr} (h : v ∈ l) (hx : v.2.2.2 ≠ x) : v ∈ dropL l x := by
  unfold dropL
  cases e : fst (fun i => decide ((l[i]?.getD (0, 0, 0, 0)).2.2.2 = x)) l.length with
  | none => exact h
  | some i =>
    obtain ⟨a, b, c⟩ := fst_some e
    refine mem_erase h (fun w hw hh => ?_)
    rw [hw] at b
    subst hh
    exact hx (by simpa using b)
theorem dropL_out {l : List Vr} {x : Int32} (h1 : ∀ i j, i < l.length → j < l.length → (vG l i).2.2.2 = x → (vG l j).2.2.2 = x → i = j) : ∀ v ∈ dropL l x, v.2.2.2 ≠ x := by
  intro v hv
  unfold dropL at hv
  cases e : fst (fun i => decide ((l[i]?.getD (0, 0, 0, 0)).2.2.2 = x)) l.length with
  | none =>
    rw [e] at hv
    have := (all_iff (l := l) (P := fun v => v.2.2.2 ≠ x)).mp (fun i hi => by simpa [vG] using fst_none e i hi)
    exact this v hv
  | some i0 =>
    rw [e] at hv
    obtain ⟨a, b, c⟩ := fst_some e
    have b : (vG l i0).2.2.2 = x := by simpa [vG] using b
    obtain ⟨j, hj, rfl⟩ := List.getElem_of_mem (show v ∈ l.eraseIdx i0 from hv)
    have hg := List.getElem?_eraseIdx (l := l) (i := i0) (j := j)
    rw [List.getElem?_eq_getElem hj] at hg
    intro hx
    split at hg
    · have hjl := (List.getElem?_eq_some_iff.mp hg.symm).1
      have e2 : vG l j = (l.eraseIdx i0)[j] := by unfold vG; rw [← hg]; rfl
      have := h1 j i0 hjl a (by rw [e2]; exact hx) b
      omega
    · have hjl := (List.getElem?_eq_some_iff.mp hg.symm).1
      have e2 : vG l (j + 1) = (l.eraseIdx i0)[j] := by unfold vG; rw [← hg]; rfl
      have := h1 (j + 1) i0 hjl a (by rw [e2]; exact hx) b
      omega
/-- .. while some fall: who leans may lean on the fallen -/
def wzS (R : ER) (T : ET) : Prop := (∀ s, s < 8 → lvT T s = true → 0 < (tSd T 1 s).toInt ∧ usd R T (tSd T 1 s) ∧ (tFl T).toInt ≤ (tSd T 1 s).toInt) ∧
  (∀ s o, s < 8 → o < 8 → lvT T s = true → lvT T o = true → tSd T 1 s = tSd T 1 o → s = o) ∧
  (∀ s o, s < 8 → tb (tSd T 3 s) o = true → o < 8 ∧ lvT T s = true ∧ (lvT T o = true ∨ tSd T 0 o = nI 4) ∧ (lvT T o = true → (tSd T 1 o).toInt < (tSd T 1 s).toInt)) ∧
  (∀ s, s < 8 → tSd T 4 s = nI 0 ∨ tSd T 4 s = nI 1) ∧
  (∀ s, s < 8 → ∃ n, n < 5 ∧ tSd T 0 s = nI n)
def WS (R : ER) (T : ET) : Prop := wfR R ∧ wm R T ∧ wzS R T ∧ wfC R T
theorem WF.ws {R : ER} {T : ET} (h : WF R T) : WS R T := by
  obtain ⟨hR, hV, ⟨a, b, c, d, e⟩, hC⟩ := h
  refine ⟨hR, wm_iff.mp hV, ⟨a, b, fun s o hs ht => ?_, d, e⟩, hC⟩
  obtain ⟨h1, h2, h3, h4⟩ := c s o hs ht
  exact ⟨h1, h2, Or.inl h3, fun _ => h4⟩
theorem WS.fall1 {R : ER} {T : ET} (h : WS R T) {s : Nat} (hs : s < 8) : WS R (fall1T T s) := by
  obtain ⟨hR, ⟨m1, m2, m3, m4, m5, m6, m7⟩, ⟨a, b, c, d, e⟩, hC⟩ := h
  have hst : ∀ o, tSd (fall1T T s) 1 o = tSd T 1 o := fun o => by rw [fall1_sd, if_neg (by omega), if_neg (by omega)]
  have hlv : ∀ o, lvT (fall1T T s) o = true → o ≠ s ∧ lvT T o = true := by
    intro o ho
    rw [fall1_lv] at ho
    split at ho
    · cases ho
    · exact ⟨by assumption, ho⟩
  have hlv2 : ∀ o, o ≠ s → lvT (fall1T T s) o = lvT T o := fun o ho => by rw [fall1_lv, if_neg ho]
  have hvs : ∀ k, k < 6 → tVs (fall1T T s) k = dropL (tVs T k) (nI s) := fun k hk => by rw [fall1_vs, if_pos hk]
  have hone : ∀ k, k < 6 → ∀ i j, i < (tVs T k).length → j < (tVs T k).length → (vG (tVs T k) i).2.2.2 = nI s → (vG (tVs T k) j).2.2.2 = nI s → i = j := by
    intro k hk i j hi hj h1 h2
    have hm : ∀ i, i < (tVs T k).length → (vG (tVs T k) i).2.2.2 = nI s → (vG (tVs T k) i).1 = tSd T 1 s := by
      intro i hi hh
      have := (all_iff (P := fun v => v.2.2.2 = iz (-1) ∨ ∃ s, s < 8 ∧ v.2.2.2 = nI s ∧ lvT T s = true ∧ v.1 = tSd T 1 s)).mpr (m4 k hk) i hi
      rcases this with h1 | ⟨o, ho, h1, h2, h3⟩
      · rw [h1] at hh; exact absurd hh.symm (neN1 (by omega))
      · rw [hh] at h1
        rw [lt_ne (by omega) (by omega) h1]
        exact h3
    have hr := vRise_iff.mpr (m1 k hk)
    have e1 := hm i hi h1
    have e2 := hm j hj h2
    by_cases c1 : i < j
    · have := hr i j c1 hj
      rw [e1, e2] at this
      omega
    · by_cases c2 : j < i
      · have := hr j i c2 hi
        rw [e1, e2] at this
        omega
      · omega
  refine ⟨hR, ⟨fun k hk => ?_, fun k h1 h2 => ?_, fun k hk => ?_, fun k hk v hv => ?_, fun k hk v hv o ho hl he => ?_, fun k hk v hv => ?_, fun k hk => ?_⟩, ⟨fun o ho hl => ?_, fun o o' ho ho' hl hl' he => ?_, fun o o' ho ht => ?_, fun o ho => ?_, fun o ho => ?_⟩, hC⟩
  · rw [hvs k hk]; exact (m1 k hk).sublist dropL_sub
  · rw [hvs k h2, m2 k h1 h2]; rfl
  · obtain ⟨v, hv, h1, h2⟩ := m3 k hk
    have hk6 : k < 6 := by have := hR.2.1; omega
    exact ⟨v, by rw [hvs k hk6]; exact dropL_keep hv (by rw [h1]; exact fun hh => neN1 (by omega) hh.symm), h1, h2⟩
  · rw [hvs k hk] at hv
    have hne := dropL_out (hone k hk) v hv
    rcases m4 k hk v (dropL_sub.subset hv) with h1 | ⟨o, ho, h1, h2, h3⟩
    · exact Or.inl h1
    · refine Or.inr ⟨o, ho, h1, ?_, by rw [hst]; exact h3⟩
      rw [hlv2 o (fun hh => hne (by rw [h1, hh]))]
      exact h2
  · rw [hvs k hk] at hv
    rw [hst] at he
    exact m5 k hk v (dropL_sub.subset hv) o ho (hlv o hl).2 he
  · rw [hvs k hk] at hv
    exact m6 k hk v (dropL_sub.subset hv)
  · rw [hvs k hk]
    have h1 := m7 k hk
    have h2 : (dropL (tVs T k) (nI s)).length ≤ (tVs T k).length := dropL_sub.length_le
    omega
  · rw [hst]; exact a o ho (hlv o hl).2
  · rw [hst, hst] at he; exact b o o' ho ho' (hlv o hl).2 (hlv o' hl').2 he
  · rw [fall1_sd] at ht
    by_cases e1 : o = s
    · rw [if_pos ⟨rfl, e1⟩, tb_0] at ht; cases ht
    · rw [if_neg (fun hh => e1 hh.2), if_neg (by omega)] at ht
      obtain ⟨h1, h2, h3, h4⟩ := c o o' ho ht
      refine ⟨h1, by rw [hlv2 o e1]; exact h2, ?_, fun hl => ?_⟩
      · by_cases e2 : o' = s
        · exact Or.inr (by rw [fall1_sd, if_neg (by omega), if_pos ⟨rfl, e2⟩])
        · rw [hlv2 o' e2, fall1_sd, if_neg (by omega), if_neg (fun hh => e2 hh.2)]
          exact h3
      · rw [hst, hst]; exact h4 (hlv o' hl).2
  · rw [fall1_sd, if_neg (by omega), if_neg (by omega)]; exact d o ho
  · rw [fall1_sd, if_neg (by omega)]
    split
    · exact ⟨4, by omega, rfl⟩
    · exact e o ho
