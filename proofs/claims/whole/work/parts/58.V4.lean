/-! reading and writing keep it -/
theorem WF.seats {R : ER} {T T' : ET} (h : WF R T) (hv : tVs T' = tVs T) (hc : tCk T' = tCk T) (hf : tFl T' = tFl T) (hh : tHd T' = tHd T) (hl : ∀ s, s < 8 → lvT T' s = lvT T s) (hst : ∀ s, s < 8 → tSd T' 1 s = tSd T 1 s) (hdp : ∀ s o, s < 8 → tb (tSd T' 3 s) o = true → tb (tSd T 3 s) o = true ∨ (o < 8 ∧ lvT T s = true ∧ lvT T o = true ∧ (tSd T 1 o).toInt < (tSd T 1 s).toInt)) (hdm : ∀ s, s < 8 → tSd T' 4 s = tSd T 4 s ∨ tSd T' 4 s = nI 0 ∨ tSd T' 4 s = nI 1) (hs0 : ∀ s, s < 8 → ∃ n, n < 5 ∧ tSd T' 0 s = nI n) : WF R T' := by
  obtain ⟨hR, hV, ⟨a, b, c, d, e⟩, hC⟩ := h
  obtain ⟨m1, m2, m3, m4, m5, m6, m7⟩ := wm_iff.mp hV
  have hus : ∀ x, usd R T' x ↔ usd R T x := fun x => by unfold usd; rw [hc, hh]
  refine ⟨hR, wm_iff.mpr ⟨by rw [hv]; exact m1, by rw [hv]; exact m2, by rw [hv, hf]; exact m3, fun k hk v hv' => ?_, fun k hk v hv' s hs hl' he => ?_, fun k hk v hv' => ?_, by rw [hv]; exact m7⟩, ⟨fun s hs hl' => ?_, fun s o hs ho h1 h2 he => ?_, fun s o hs ht => ?_, fun s hs => ?_, hs0⟩, ?_⟩
  · rw [hv] at hv'
    rcases m4 k hk v hv' with h1 | ⟨o, ho, h1, h2, h3⟩
    · exact Or.inl h1
    · exact Or.inr ⟨o, ho, h1, by rw [hl o ho]; exact h2, by rw [hst o ho]; exact h3⟩
  · rw [hv] at hv'
    rw [hl s hs] at hl'
    rw [hst s hs] at he
    exact m5 k hk v hv' s hs hl' he
  · rw [hv] at hv'
    rw [hus, hc]
    exact m6 k hk v hv'
  · rw [hl s hs] at hl'
    rw [hst s hs, hus, hf]
    exact a s hs hl'
  · rw [hl s hs] at h1
    rw [hl o ho] at h2
    rw [hst s hs, hst o ho] at he
    exact b s o hs ho h1 h2 he
  · rcases hdp s o hs ht with h1 | ⟨h1, h2, h3, h4⟩
    · obtain ⟨x1, x2, x3, x4⟩ := c s o hs h1
      exact ⟨x1, by rw [hl s hs]; exact x2, by rw [hl o x1]; exact x3, by rw [hst s hs, hst o x1]; exact x4⟩
    · exact ⟨h1, by rw [hl s hs]; exact h2, by rw [hl o h1]; exact h3, by rw [hst s hs, hst o h1]; exact h4⟩
  · rcases hdm s hs with h1 | h1
    · rw [h1]; exact d s hs
    · exact h1
  · unfold wfC
    rw [hc, hf, hh]
    exact hC
theorem WF.vers {R : ER} {T : ET} (h : WF R T) {k : Nat} (hk : k < R.1) {l : List Vr} (p1 : l.Pairwise (fun a b => a.1.toInt < b.1.toInt)) (p3 : ∃ v ∈ l, v.2.2.2 = iz (-1) ∧ v.1 ≤ tFl T) (p4 : ∀ v ∈ l, v.2.2.2 = iz (-1) ∨ ∃ s, s < 8 ∧ v.2.2.2 = nI s ∧ lvT T s = true ∧ v.1 = tSd T 1 s) (p5 : ∀ v ∈ l, ∀ s, s < 8 → lvT T s = true → v.1 = tSd T 1 s → v.2.2.2 = nI s) (p6 : ∀ v ∈ l, usd R T v.1 ∧ v.1.toInt ≤ v.2.2.1.toInt ∧ v.2.2.1.toInt ≤ (tCk T).toInt) (p7 : (l.length : Int) ≤ R.2.1.toInt) : WF R (sVs T k l) := by
  obtain ⟨hR, hV, hS, hC⟩ := h
  obtain ⟨m1, m2, m3, m4, m5, m6, m7⟩ := wm_iff.mp hV
  refine ⟨hR, wm_iff.mpr ⟨fun k' hk' => ?_, fun k' h1 h2 => ?_, fun k' hk' => ?_, fun k' hk' => ?_, fun k' hk' => ?_, fun k' hk' => ?_, fun k' hk' => ?_⟩, hS, hC⟩
  all_goals rw [g_vs]
  all_goals by_cases e : k' = k
  · rw [if_pos e]; exact p1
  · rw [if_neg e]; exact m1 k' hk'
  · omega
  · rw [if_neg e]; exact m2 k' h1 h2
  · rw [if_pos e]; exact p3
  · rw [if_neg e]; exact m3 k' hk'
  · rw [if_pos e]; exact p4
  · rw [if_neg e]; exact m4 k' hk'
  · rw [if_pos e]; exact p5
  · rw [if_neg e]; exact m5 k' hk'
  · rw [if_pos e]; exact p6
  · rw [if_neg e]; exact m6 k' hk'
  · rw [if_pos e]; exact p7
  · rw [if_neg e]; exact m7 k' hk'
theorem vG_set {l : List Vr} {i : Nat} {v : Vr} (hi : i < l.length) (j : Nat) : vG (l.set i v) j = if j = i then v else vG l j := by
  unfold vG
  rw [List.getElem?_set]
  by_cases e : j = i
  · rw [if_pos e, if_pos e.symm, if_pos (by omega)]; rfl
  · rw [if_neg e, if_neg (Ne.symm e)]
theorem vG_mem {l : List Vr} {i : Nat} (hi : i < l.length) : vG l i ∈ l := by
  rw [vG_get hi]
  exact List.getElem_mem hi
/-- one version's value or seen stamp anew -/
theorem WF.setv {R : ER} {T : ET} (h : WF R T) {k i : Nat} (hk : k < R.1) (hi : i < (tVs T k).length) {v : Vr} (e1 : v.1 = (vA T k i).1) (e4 : v.2.2.2 = (vA T k i).2.2.2) (h1 : v.1.toInt ≤ v.2.2.1.toInt) (h2 : v.2.2.1.toInt ≤ (tCk T).toInt) : WF R (sVs T k ((tVs T k).set i v)) := by
  have hR := h.1
  have hk6 : k < 6 := by have := hR.2.1; omega
  obtain ⟨m1, m2, m3, m4, m5, m6, m7⟩ := wm_iff.mp h.2.1
  have hm : vA T k i ∈ tVs T k := vG_mem hi
  refine h.vers hk ?_ ?_ (fun w hw => ?_) (fun w hw => ?_) (fun w hw => ?_) ?_
  · refine vRise_iff.mp (fun a b hab hb => ?_)
    rw [List.length_set] at hb
    have := vRise_iff.mpr (m1 k hk6) a b hab hb
    rw [vG_set hi, vG_set hi]
    by_cases ea : a = i
    · subst ea
      rw [if_pos rfl, if_neg (by omega), e1]
      exact this
    · rw [if_neg ea]
      by_cases eb : b = i
      · subst eb
        rw [if_pos rfl, e1]
        exact this
      · rw [if_neg eb]
        exact this
  · obtain ⟨j, hj, hj1, hj2⟩ := ex_iff.mpr (m3 k hk)
    refine ex_iff.mp ⟨j, by rw [List.length_set]; exact hj, ?_⟩
    rw [vG_set hi]
    by_cases e : j = i
    · subst e
      rw [if_pos rfl, e4, e1]
      exact ⟨hj1, hj2⟩
    · rw [if_neg e]
      exact ⟨hj1, hj2⟩
  · rcases List.mem_or_eq_of_mem_set hw with hw | rfl
    · exact m4 k hk6 w hw
    · rw [e4, e1]; exact m4 k hk6 _ hm
  · rcases List.mem_or_eq_of_mem_set hw with hw | rfl
    · exact m5 k hk6 w hw
    · rw [e4, e1]; exact m5 k hk6 _ hm
  · rcases List.mem_or_eq_of_mem_set hw with hw | rfl
    · exact m6 k hk6 w hw
    · exact ⟨by rw [e1]; exact (m6 k hk6 _ hm).1, h1, h2⟩
  · rw [List.length_set]; exact m7 k hk6
theorem doomT_sd {l : List Vr} {a b : Int32} : ∀ {T : ET} {c s : Nat}, (c ≠ 4 → tSd (doomT T l a b) c s = tSd T c s) ∧ (tSd (doomT T l a b) 4 s = tSd T 4 s ∨ tSd (doomT T l a b) 4 s = nI 1) := by
  unfold doomT
  induction l with
  | nil => intro T c s; exact ⟨fun _ => rfl, Or.inl rfl⟩
  | cons v l ih =>
    intro T c s
    rw [List.foldl_cons]
    have h1 : (c ≠ 4 → tSd (doom1 a b T v) c s = tSd T c s) ∧ (tSd (doom1 a b T v) 4 s = tSd T 4 s ∨ tSd (doom1 a b T v) 4 s = nI 1) := by
      unfold doom1
      split
      · refine ⟨fun hc => by rw [g_sd, if_neg (fun hh => hc hh.1)], ?_⟩
        rw [g_sd]
        split
        · exact Or.inr rfl
        · exact Or.inl rfl
      · exact ⟨fun _ => rfl, Or.inl rfl⟩
    obtain ⟨i1, i2⟩ := ih (T := doom1 a b T v) (c := c) (s := s)
    refine ⟨fun hc => (i1 hc).trans (h1.1 hc), ?_⟩
    rcases i2 with i2 | i2
    · rw [i2]; exact h1.2
    · exact Or.inr i2
theorem lvT_of {T T' : ET} {s : Nat} (h : tSd T' 0 s = tSd T 0 s) : lvT T' s = lvT T s := by unfold lvT; rw [h]
theorem WF.doom {R : ER} {T : ET} (h : WF R T) (l : List Vr) (a b : Int32) : WF R (doomT T l a b) := by
  have e2 := doomT_2 (T := T) (l := l) (a := a) (b := b)
  refine h.seats (by show (doomT T l a b).2.2.1 = _; rw [e2]) (by show (doomT T l a b).2.2.2.1 = _; rw [e2]) (by show (doomT T l a b).2.2.2.2.1 = _; rw [e2]) (by show (doomT T l a b).2.2.2.2.2.1 = _; rw [e2]) (fun s hs => lvT_of (doomT_sd.1 (by omega))) (fun s hs => doomT_sd.1 (by omega)) (fun s o hs ht => Or.inl ?_) (fun s hs => ?_) (fun s hs => ?_)
  · rw [doomT_sd.1 (by omega)] at ht; exact ht
  · rcases (doomT_sd (T := T) (l := l) (a := a) (b := b) (c := 0) (s := s)).2 with h1 | h1
    · exact Or.inl h1
    · exact Or.inr (Or.inr h1)
  · rw [doomT_sd.1 (by omega)]; exact h.2.2.1.2.2.2.2 s hs
theorem bit_of {o : Nat} : nI 1 <<< (nI o &&& 31) = bitA o := rfl
theorem WF.read {R : ER} {T : ET} (h : WF R T) {s k i : Nat} (hs : s < 8) (hk : k < R.1) (hlv : lvT T s = true) (hi : rdI T s k = some i) : WF R (readT T s k i) := by
  have hR := h.1
  have hk6 : k < 6 := by have := hR.2.1; omega
  obtain ⟨i1, i2, i3⟩ := lst_some hi
  have i2 := of_decide_eq_true i2
  unfold readT
  refine WF.note ?_ _
  split
  · exact h
  · next hne =>
    have hseen := h.2.1.2.2.2.2.2.1 k i hk6 i1
    have hstamp := h.2.2.1.1 s hs hlv
    obtain ⟨x1, x2, x3⟩ := maxI_spec (vA T k i).2.2.1 (tSd T 1 s)
    have h1 : WF R (lvA T s k i) := h.setv (v := ((vA T k i).1, (vA T k i).2.1, maxI (vA T k i).2.2.1 (tSd T 1 s), (vA T k i).2.2.2)) hk i1 rfl rfl (by
      show (vA T k i).1.toInt ≤ (maxI _ _).toInt
      omega) (by
      show (maxI _ _).toInt ≤ _
      have := hstamp.2.1.2.1
      omega)
    unfold leaveT
    split
    · exact h1.doom _ _ _
    · split
      · exact h1
      · next hno =>
        rcases h.2.1.2.2.2.1 k i hk6 i1 with h4 | ⟨o, ho, h4, h5, h6⟩
        · exact absurd h4 hno
        · refine h1.seats rfl rfl rfl rfl (fun s' hs' => lvT_of (by rw [g_sd, if_neg (by omega)])) (fun s' hs' => by rw [g_sd, if_neg (by omega)]) (fun s' o' hs' ht => ?_) (fun s' hs' => Or.inl (by rw [g_sd, if_neg (by omega)])) (fun s' hs' => by rw [g_sd, if_neg (by omega)]; exact h1.2.2.1.2.2.2.2 s' hs')
          rw [g_sd] at ht
          split at ht
          · next e =>
            rw [h4, bit_of, tb_or, tb_bit ho] at ht
            rcases Bool.or_eq_true_iff.mp ht with h7 | h7
            · left
              rw [e.2]
              exact h7
            · right
              have h7 := of_decide_eq_true h7
              rw [h7, e.2]
              refine ⟨ho, hlv, h5, ?_⟩
              show (tSd T 1 o).toInt < (tSd T 1 s).toInt
              have i22 := i2.2
              rw [Int32.le_iff_toInt_le, h6] at i22
              have : tSd T 1 o ≠ tSd T 1 s := by
                intro hh
                have := h.2.2.1.2.1 o s ho hs h5 hlv hh
                rw [h4, this] at hne
                exact hne rfl
              have : (tSd T 1 o).toInt ≠ (tSd T 1 s).toInt := fun hh => this (Int32.toInt_inj.mp hh)
              omega
          · exact Or.inl ht
/-- there is always one to read -/
theorem WF.rd {R : ER} {T : ET} (h : WF R T) {s k : Nat} (hs : s < 8) (hk : k < R.1) (hlv : lvT T s = true) : ∃ i, rdI T s k = some i := by
  cases e : rdI T s k with
  | some i => exact ⟨i, rfl⟩
  | none =>
    obtain ⟨i, hi, h1, h2⟩ := h.2.1.2.2.1 k hk
    have := lst_none e i hi
    have h3 := (h.2.2.1.1 s hs hlv).2.2
    unfold rdP at this
    have := of_decide_eq_false this
    rw [Int32.le_iff_toInt_le] at this h2
    exact absurd ⟨Or.inl h1, by omega⟩ this
/-! a version more -/
theorem insL_mem {l : List Vr} {p : Nat} {v w : Vr} : w ∈ insL l p v ↔ w = v ∨ w ∈ l := by
  unfold insL
  rw [List.mem_append, List.mem_cons]
  constructor
  · rintro (h | h | h)
    · exact Or.inr (List.mem_of_mem_take h)
    · exact Or.inl h
    · exact Or.inr (List.mem_of_mem_drop h)
  · rintro (h | h)
    · exact Or.inr (Or.inl h)
    · rw [← List.take_append_drop p l, List.mem_append] at h
      rcases h with h | h
      · exact Or.inl h
      · exact Or.inr (Or.inr h)
theorem WF.add {R : ER} {T : ET} (h : WF R T) {s k : Nat} (hs : s < 8) (hk : k < R.1) (hlv : lvT T s = true) (ho : owI T k s = none) (hl : ((tVs T k).length : Int) < R.2.1.toInt) (value : Int32) : WF R (addT T s k value) := by
  have hR := h.1
  have hk6 : k < 6 := by have := hR.2.1; omega
  obtain ⟨m1, m2, m3, m4, m5, m6, m7⟩ := wm_iff.mp h.2.1
  have hp := ipL_le (l := tVs T k) (x := tSd T 1 s)
  have hne : ∀ v ∈ tVs T k, v.1 ≠ tSd T 1 s := by
    intro v hv he
    have h1 := m5 k hk6 v hv s hs hlv he
    obtain ⟨i, hi, h2⟩ := (ex_iff (P := fun v => v.2.2.2 = nI s)).mpr ⟨v, hv, h1⟩
    have := fst_none ho i hi
    have h2' : (vA T k i).2.2.2 = nI s := h2
    simp [h2'] at this
  have hst := h.2.2.1.1 s hs hlv
  refine h.vers hk ?_ ?_ (fun w hw => ?_) (fun w hw => ?_) (fun w hw => ?_) ?_
  · unfold insL
    rw [List.pairwise_append]
    have hpw := m1 k hk6
    rw [← List.take_append_drop (ipL (tVs T k) (tSd T 1 s)) (tVs T k), List.pairwise_append] at hpw
    have hlow : ∀ a ∈ (tVs T k).take (ipL (tVs T k) (tSd T 1 s)), a.1.toInt < (tSd T 1 s).toInt := by
      intro a ha
      obtain ⟨i, hi, rfl⟩ := List.getElem_of_mem ha
      rw [List.length_take] at hi
      rw [List.getElem_take]
      have hil : i < (tVs T k).length := by omega
      obtain ⟨q, hq⟩ : ∃ q, ipL (tVs T k) (tSd T 1 s) = q + 1 := ⟨ipL (tVs T k) (tSd T 1 s) - 1, by omega⟩
      have hb := ipL_below hq
      rw [Int32.le_iff_toInt_le] at hb
      have hn := hne _ (List.getElem_mem hil)
      have hn : (tVs T k)[i].1.toInt ≠ (tSd T 1 s).toInt := fun hh => hn (Int32.toInt_inj.mp hh)
      by_cases e : i = q
      · subst e
        have : vA T k i = (tVs T k)[i] := vG_get hil
        rw [this] at hb
        omega
      · have := vRise_iff.mpr (m1 k hk6) i q (by omega) (by omega)
        rw [vG_get hil] at this
        have e2 : vG (tVs T k) q = vA T k q := rfl
        rw [e2] at this
        omega
    have hhigh : ∀ b ∈ (tVs T k).drop (ipL (tVs T k) (tSd T 1 s)), (tSd T 1 s).toInt < b.1.toInt := by
      intro b hb
      obtain ⟨i, hi, rfl⟩ := List.getElem_of_mem hb
      rw [List.length_drop] at hi
      rw [List.getElem_drop]
      have := ipL_above (T := T) (k := k) (x := tSd T 1 s) (i := ipL (tVs T k) (tSd T 1 s) + i) (by omega) (by omega)
      have e2 : vA T k (ipL (tVs T k) (tSd T 1 s) + i) = (tVs T k)[ipL (tVs T k) (tSd T 1 s) + i] := vG_get (by omega)
      rw [e2, Int32.le_iff_toInt_le] at this
      omega
    refine ⟨hpw.1, List.pairwise_cons.mpr ⟨fun b hb => hhigh b hb, hpw.2.1⟩, fun a ha b hb => ?_⟩
    rcases List.mem_cons.mp hb with rfl | hb
    · exact hlow a ha
    · exact hpw.2.2 a ha b hb
  · obtain ⟨v, hv, h1⟩ := m3 k hk
    exact ⟨v, insL_mem.mpr (Or.inr hv), h1⟩
  · rcases insL_mem.mp hw with rfl | hw
    · exact Or.inr ⟨s, hs, rfl, hlv, rfl⟩
    · exact m4 k hk6 w hw
  · rcases insL_mem.mp hw with rfl | hw
    · intro o ho' hl' he
      rw [h.2.2.1.2.1 o s ho' hs hl' hlv he.symm]
    · exact m5 k hk6 w hw
  · rcases insL_mem.mp hw with rfl | hw
    · exact ⟨hst.2.1, Int.le_refl _, hst.2.1.2.1⟩
    · exact m6 k hk6 w hw
  · rw [insL_len hp]
    omega
