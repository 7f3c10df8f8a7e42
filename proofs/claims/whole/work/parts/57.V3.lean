theorem WS.done {R : ER} {T : ET} (h : WS R T) (hn : leT T = none) : WF R T := by
  obtain ⟨hR, hV, ⟨a, b, c, d, e⟩, hC⟩ := h
  refine ⟨hR, wm_iff.mpr hV, ⟨a, b, fun s o hs ht => ?_, d, e⟩, hC⟩
  obtain ⟨h1, h2, h3, h4⟩ := c s o hs ht
  have hl : lvT T o = true := by
    rcases h3 with h3 | h3
    · exact h3
    · have := fst_none hn s hs
      have hz : tSd T 3 s &&& inS T (nI 4) = nI 0 := by simpa using this
      have hb : tb (tSd T 3 s &&& inS T (nI 4)) o = true := by
        rw [tb_and, ht]
        unfold inS
        rw [tb_set (by omega)]
        simp [h1, h3]
      rw [hz, tb_0] at hb
      cases hb
  exact ⟨h1, h2, hl, h4 hl⟩
theorem fallN_ws {R : ER} : ∀ (n : Nat) {T : ET} {s : Nat}, WS R T → s < 8 → endF n T s → WS R (fallN n T s).1 ∧ leT (fallN n T s).1 = none := by
  intro n
  induction n with
  | zero => intro T s _ _ h; exact h.elim
  | succ n ih =>
    intro T s h hs he
    unfold fallN
    cases e : leT (fall1T T s) with
    | none => exact ⟨h.fall1 hs, e⟩
    | some s' => exact ih (h.fall1 hs) (fst_some e).1 (he s' e)
theorem WF.fall {R : ER} {T : ET} (h : WF R T) {s : Nat} (hs : s < 8) (hl : lvT T s = true) : WF R (fallT T s) := by
  obtain ⟨h1, h2⟩ := fallN_ws 8 h.ws hs (endF_of 8 h.wk hs hl (cnt_le 8))
  exact (h1.done h2).fe _
/-! to be sure -/
theorem sure1_sd {T : ET} {s c o : Nat} : tSd (sure1T T s) c o = if c = 3 ∧ o < 8 then tSd T 3 o &&& (bitA s ^^^ iz (-1)) else if c = 0 ∧ o = s then nI 3 else tSd T c o := by
  show (if c = 3 ∧ o < 8 then (if 3 = 0 ∧ o = s then _ else tSd T 3 o) &&& _ else _) = _
  rw [if_neg (show ¬ (3 = 0 ∧ o = s) by omega)]
  rfl
theorem sure1_vs {T : ET} {s k : Nat} : tVs (sure1T T s) k = if k < 6 then ownS (tVs T k) (nI s) else tVs T k := rfl
theorem sure1_lv {T : ET} {s o : Nat} : lvT (sure1T T s) o = if o = s then false else lvT T o := by
  unfold lvT
  rw [sure1_sd, if_neg (by omega)]
  by_cases e : o = s
  · rw [if_pos ⟨rfl, e⟩, if_pos e]
    decide +kernel
  · rw [if_neg (fun hh => e hh.2), if_neg e]
theorem ownS_mem {l : List Vr} {x : Int32} {v : Vr} (h : v ∈ ownS l x) : ∃ w ∈ l, v.1 = w.1 ∧ v.2.2.1 = w.2.2.1 ∧ ((w.2.2.2 = x ∧ v.2.2.2 = iz (-1)) ∨ (w.2.2.2 ≠ x ∧ v.2.2.2 = w.2.2.2)) := by
  unfold ownS at h
  obtain ⟨w, hw, rfl⟩ := List.mem_map.mp h
  refine ⟨w, hw, ?_⟩
  split
  · next e => exact ⟨rfl, rfl, Or.inl ⟨e, rfl⟩⟩
  · next e => exact ⟨rfl, rfl, Or.inr ⟨e, rfl⟩⟩
theorem WF.sure1 {R : ER} {T : ET} (h : WF R T) {s : Nat} (hs : s < 8) (hl : lvT T s = true) (hd : tSd T 3 s = nI 0) : WF R (sure1T T s) := by
  obtain ⟨hR, hV, ⟨a, b, c, d, e⟩, hC⟩ := h
  obtain ⟨m1, m2, m3, m4, m5, m6, m7⟩ := wm_iff.mp hV
  have hst : ∀ o, tSd (sure1T T s) 1 o = tSd T 1 o := fun o => by rw [sure1_sd, if_neg (by omega), if_neg (by omega)]
  have hlv : ∀ o, lvT (sure1T T s) o = true → o ≠ s ∧ lvT T o = true := by
    intro o ho
    rw [sure1_lv] at ho
    split at ho
    · cases ho
    · exact ⟨by assumption, ho⟩
  have hlv2 : ∀ o, o ≠ s → lvT (sure1T T s) o = lvT T o := fun o ho => by rw [sure1_lv, if_neg ho]
  have hvs : ∀ k, k < 6 → tVs (sure1T T s) k = ownS (tVs T k) (nI s) := fun k hk => by rw [sure1_vs, if_pos hk]
  refine ⟨hR, wm_iff.mpr ⟨fun k hk => ?_, fun k h1 h2 => ?_, fun k hk => ?_, fun k hk v hv => ?_, fun k hk v hv o ho hl' he => ?_, fun k hk v hv => ?_, fun k hk => ?_⟩, ⟨fun o ho hl => ?_, fun o o' ho ho' hl hl' he => ?_, fun o o' ho ht => ?_, fun o ho => ?_, fun o ho => ?_⟩, hC⟩
  · rw [hvs k hk]
    unfold ownS
    rw [List.pairwise_map]
    refine (m1 k hk).imp (fun {x y} hh => ?_)
    split <;> split <;> exact hh
  · rw [hvs k h2, m2 k h1 h2]; rfl
  · obtain ⟨v, hv, h1, h2⟩ := m3 k hk
    have hk6 : k < 6 := by have := hR.2.1; omega
    refine ⟨v, ?_, h1, h2⟩
    rw [hvs k hk6]
    unfold ownS
    refine List.mem_map.mpr ⟨v, hv, ?_⟩
    rw [if_neg (by rw [h1]; exact fun hh => neN1 (by omega) hh.symm)]
  · rw [hvs k hk] at hv
    obtain ⟨w, hw, e1, e2, h3 | h3⟩ := ownS_mem hv
    · exact Or.inl h3.2
    · rcases m4 k hk w hw with h1 | ⟨o, ho, h1, h2, h4⟩
      · exact Or.inl (by rw [h3.2]; exact h1)
      · refine Or.inr ⟨o, ho, by rw [h3.2]; exact h1, ?_, by rw [hst, e1]; exact h4⟩
        rw [hlv2 o (fun hh => h3.1 (by rw [h1, hh]))]
        exact h2
  · rw [hvs k hk] at hv
    obtain ⟨w, hw, e1, e2, h3 | h3⟩ := ownS_mem hv
    · obtain ⟨n1, n2⟩ := hlv o hl'
      rw [hst, e1] at he
      have := m5 k hk w hw o ho n2 he
      rw [h3.1] at this
      exact absurd (lt_ne (by omega) (by omega) this).symm n1
    · obtain ⟨n1, n2⟩ := hlv o hl'
      rw [hst, e1] at he
      rw [h3.2]
      exact m5 k hk w hw o ho n2 he
  · rw [hvs k hk] at hv
    obtain ⟨w, hw, e1, e2, -⟩ := ownS_mem hv
    rw [e1, e2]
    exact m6 k hk w hw
  · rw [hvs k hk]
    unfold ownS
    rw [List.length_map]
    exact m7 k hk
  · rw [hst]; exact a o ho (hlv o hl).2
  · rw [hst, hst] at he; exact b o o' ho ho' (hlv o hl).2 (hlv o' hl').2 he
  · rw [sure1_sd, if_pos ⟨rfl, ho⟩, tb_and, tb_xor, tb_bit hs, tb_m1] at ht
    have ht1 : tb (tSd T 3 o) o' = true := (Bool.and_eq_true_iff.mp ht).1
    obtain ⟨h1, h2, h3, h4⟩ := c o o' ho ht1
    have hne : o' ≠ s := by
      intro hh
      have := (Bool.and_eq_true_iff.mp ht).2
      subst hh
      have h32 : o' < 32 := by omega
      simp [h32] at this
    have hos : o ≠ s := by
      intro hh
      rw [hh, hd, tb_0] at ht1
      cases ht1
    exact ⟨h1, by rw [hlv2 o hos]; exact h2, by rw [hlv2 o' hne]; exact h3, by rw [hst, hst]; exact h4⟩
  · rw [sure1_sd, if_neg (by omega), if_neg (by omega)]; exact d o ho
  · rw [sure1_sd, if_neg (by omega)]
    split
    · exact ⟨3, by omega, rfl⟩
    · exact e o ho
/-! to prune -/
theorem olN_spec {T : ET} : ∀ n, (olN T n = none → ∀ s, s < n → lvT T s = false) ∧ ∀ o, olN T n = some o → ∀ s, s < n → lvT T s = true → (tSd T 1 o).toInt ≤ (tSd T 1 s).toInt := by
  intro n
  induction n with
  | zero => exact ⟨fun _ s hs => by omega, fun o ho => by cases ho⟩
  | succ n ih =>
    obtain ⟨i1, i2⟩ := ih
    unfold olN
    by_cases hl : lvT T n = true
    · rw [if_pos hl]
      cases e : olN T n with
      | none =>
        simp only [Option.elim]
        refine ⟨fun hh => (by cases hh), fun o ho s hs hs2 => ?_⟩
        cases ho
        by_cases e2 : s = n
        · rw [e2]; exact Int.le_refl _
        · rw [i1 e s (by omega)] at hs2; cases hs2
      | some q =>
        simp only [Option.elim]
        by_cases c : tSd T 1 q ≤ tSd T 1 n
        · rw [if_pos c]
          refine ⟨fun hh => (by cases hh), fun o ho s hs hs2 => ?_⟩
          cases ho
          rw [Int32.le_iff_toInt_le] at c
          by_cases e2 : s = n
          · rw [e2]; exact c
          · exact i2 q e s (by omega) hs2
        · rw [if_neg c]
          refine ⟨fun hh => (by cases hh), fun o ho s hs hs2 => ?_⟩
          cases ho
          rw [Int32.le_iff_toInt_le] at c
          by_cases e2 : s = n
          · rw [e2]; exact Int.le_refl _
          · have := i2 q e s (by omega) hs2
            omega
    · rw [if_neg hl]
      refine ⟨fun hh s hs => ?_, fun o ho s hs hs2 => ?_⟩
      · by_cases e2 : s = n
        · rw [e2]; simpa using hl
        · exact i1 hh s (by omega)
      · by_cases e2 : s = n
        · rw [e2] at hs2; exact absurd hs2 hl
        · exact i2 o ho s (by omega) hs2
theorem maxI_spec (a b : Int32) : a.toInt ≤ (maxI a b).toInt ∧ b.toInt ≤ (maxI a b).toInt ∧ ((maxI a b).toInt = a.toInt ∨ (maxI a b).toInt = b.toInt) := by
  unfold maxI
  by_cases c : a < b
  · rw [if_pos c]
    rw [Int32.lt_iff_toInt_lt] at c
    omega
  · rw [if_neg c]
    rw [Int32.lt_iff_toInt_lt] at c
    omega
theorem flT_spec {R : ER} {T : ET} (h : WF R T) : (tFl T).toInt ≤ (flT T).toInt ∧ (flT T).toInt ≤ (tCk T).toInt ∧ ∀ s, s < 8 → lvT T s = true → (flT T).toInt ≤ (tSd T 1 s).toInt := by
  obtain ⟨hR, hV, ⟨a, -⟩, hC⟩ := h
  obtain ⟨s1, s2⟩ := olN_spec (T := T) 8
  have hy : ((olN T 8).elim (tCk T) (fun o => tSd T 1 o)).toInt ≤ (tCk T).toInt ∧ ∀ s, s < 8 → lvT T s = true → ((olN T 8).elim (tCk T) (fun o => tSd T 1 o)).toInt ≤ (tSd T 1 s).toInt := by
    cases e : olN T 8 with
    | none => exact ⟨Int.le_refl _, fun s hs hl => by rw [s1 e s hs] at hl; cases hl⟩
    | some o =>
      obtain ⟨ho, hlo⟩ := olN_lt e
      exact ⟨(a o ho hlo).2.1.2.1, fun s hs hl => s2 o e s hs hl⟩
  obtain ⟨x1, x2, x3⟩ := maxI_spec (tFl T) ((olN T 8).elim (tCk T) (fun o => tSd T 1 o))
  have hc1 := hC.2.2.2.2.1
  refine ⟨x1, ?_, fun s hs hl => ?_⟩
  · show (maxI _ _).toInt ≤ _
    have := hy.1
    omega
  · show (maxI _ _).toInt ≤ _
    have b1 := hy.2 s hs hl
    have b2 := (a s hs hl).2.2
    omega
theorem prune_vs {T : ET} {k : Nat} : tVs (pruneT T) k = if k < 6 then pruL (tVs T k) (flT T) else tVs T k := rfl
theorem pruL_last {l : List Vr} {x : Int32} (h : ∃ v ∈ l, v.2.2.2 = iz (-1) ∧ v.1 ≤ x) : ∃ v ∈ pruL l x, v.2.2.2 = iz (-1) ∧ v.1 ≤ x := by
  obtain ⟨i, hi, h1, h2⟩ := ex_iff.mpr h
  cases e : suL l x with
  | none =>
    have := lst_none e i hi
    simp [h1, h2] at this
  | some st =>
    obtain ⟨a, b, c⟩ := lst_some e
    have b := of_decide_eq_true b
    refine ⟨vG l st, ?_, b.1, b.2⟩
    rw [← kp_0]
    refine kp_mem.mpr ⟨st, by omega, a, ?_, rfl⟩
    unfold spL
    rw [e]
    simp
theorem WF.prune {R : ER} {T : ET} (h : WF R T) : WF R (pruneT T) := by
  obtain ⟨f1, f2, f3⟩ := flT_spec h
  obtain ⟨hR, hV, ⟨a, b, c, d, e⟩, hC⟩ := h
  obtain ⟨m1, m2, m3, m4, m5, m6, m7⟩ := wm_iff.mp hV
  have hvs : ∀ k, k < 6 → tVs (pruneT T) k = pruL (tVs T k) (flT T) := fun k hk => by rw [prune_vs, if_pos hk]
  refine ⟨hR, wm_iff.mpr ⟨fun k hk => ?_, fun k h1 h2 => ?_, fun k hk => ?_, fun k hk v hv => ?_, fun k hk v hv => ?_, fun k hk v hv => ?_, fun k hk => ?_⟩, ⟨fun o ho hl => ?_, b, c, d, e⟩, hC.1, hC.2.1, hC.2.2.1, ?_, f2, hC.2.2.2.2.2⟩
  · rw [hvs k hk]; exact (m1 k hk).sublist pruL_sub
  · rw [hvs k h2, m2 k h1 h2]; rfl
  · have hk6 : k < 6 := by have := hR.2.1; omega
    rw [hvs k hk6]
    obtain ⟨v, hv, h1, h2⟩ := m3 k hk
    refine pruL_last ⟨v, hv, h1, ?_⟩
    rw [Int32.le_iff_toInt_le] at h2 ⊢
    omega
  · rw [hvs k hk] at hv; exact m4 k hk v (pruL_sub.subset hv)
  · rw [hvs k hk] at hv; exact m5 k hk v (pruL_sub.subset hv)
  · rw [hvs k hk] at hv; exact m6 k hk v (pruL_sub.subset hv)
  · rw [hvs k hk]
    have h1 := m7 k hk
    have h2 : (pruL (tVs T k) (flT T)).length ≤ (tVs T k).length := pruL_sub.length_le
    omega
  · obtain ⟨a1, a2, a3⟩ := a o ho hl
    exact ⟨a1, a2, f3 o ho hl⟩
  · show 0 ≤ (flT T).toInt
    have := hC.2.2.2.1
    omega
theorem prune_lv {T : ET} {s : Nat} : lvT (pruneT T) s = lvT T s := rfl
/-! one after the other -/
theorem WF.step {R : ER} {T : ET} (h : WF R T) {s : Nat} (hs : s < 8) (hl : lvT T s = true) (hd : tSd T 3 s = nI 0) : WF R (stepS R T s) := by
  unfold stepS
  split
  · split
    · exact (h.sure1 hs hl hd).prune
    · exact h.sure1 hs hl hd
  · exact h.fall hs hl
theorem rdyT_some {T : ET} {s : Nat} (h : rdyT T = some s) : s < 8 ∧ lvT T s = true ∧ tSd T 3 s = nI 0 := by
  obtain ⟨a, b, c⟩ := fst_some h
  have b := of_decide_eq_true b
  exact ⟨a, lvT_iff.mpr (Or.inr b.1), b.2⟩
theorem WF.sureN {R : ER} : ∀ (n : Nat) {T : ET} {s : Nat}, WF R T → s < 8 → lvT T s = true → tSd T 3 s = nI 0 → WF R (sureN R n T s) := by
  intro n
  induction n with
  | zero => intro T s h _ _ _; exact h
  | succ n ih =>
    intro T s h hs hl hd
    unfold Jvm.Pilot.CLateStampsLaw_law_r1388_bbc5a8.sureN
    cases e : rdyT (stepS R T s) with
    | none => exact h.step hs hl hd
    | some s' =>
      obtain ⟨a, b, c⟩ := rdyT_some e
      exact ih (h.step hs hl hd) a b c
