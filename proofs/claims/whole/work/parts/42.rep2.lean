theorem blkM.kept {f f' : Nat → Int32} {k : Nat} {l : List Vr} (h : blkM f k l) (hf : ∀ j, 384 ≤ j → j < 606 → f' j = f j) (hk : k < 6) : blkM f' k l := by
  obtain ⟨h1, h2, h3⟩ := h
  refine ⟨h1, by rw [hf _ (by omega) (by omega)]; exact h2, fun i v hi => ?_⟩
  have hl : i < l.length := (List.getElem?_eq_some_iff.mp hi).1
  obtain ⟨a, b, c, d⟩ := h3 i v hi
  exact ⟨by rw [hf _ (by omega) (by omega)]; exact a, by rw [hf _ (by omega) (by omega)]; exact b, by rw [hf _ (by omega) (by omega)]; exact c, by rw [hf _ (by omega) (by omega)]; exact d⟩
theorem deeM.kept {f f' : Nat → Int32} {s : Nat} {l : List De} (h : deeM f s l) (hf : ∀ j, 48 * s + 11 ≤ j → j < 48 * s + 48 → f' j = f j) (hs : s < 8) : deeM f' s l := by
  obtain ⟨h1, h2, h3⟩ := h
  refine ⟨h1, by rw [hf _ (by omega) (by omega)]; exact h2, fun i v hi => ?_⟩
  have hl : i < l.length := (List.getElem?_eq_some_iff.mp hi).1
  obtain ⟨a, b, c⟩ := h3 i v hi
  exact ⟨by rw [hf _ (by omega) (by omega)]; exact a, by rw [hf _ (by omega) (by omega)]; exact b, by rw [hf _ (by omega) (by omega)]; exact c⟩
theorem hanM.kept {f f' : Nat → Int32} {l : List Int32} (h : hanM f l) (hf : ∀ j, 608 ≤ j → j < 639 → f' j = f j) : hanM f' l := by
  obtain ⟨h1, h2, h3⟩ := h
  refine ⟨h1, by rw [hf _ (by omega) (by omega)]; exact h2, fun i v hi => ?_⟩
  have hl : i < l.length := (List.getElem?_eq_some_iff.mp hi).1
  rw [hf _ (by omega) (by omega)]
  exact h3 i v hi
theorem logM.kept {f f' : Nat → Int32} {L : List De} (h : logM f L) (hf : ∀ j, 639 ≤ j → j < 820 → f' j = f j) : logM f' L := by
  obtain ⟨h1, h2, h3⟩ := h
  refine ⟨h1, by rw [hf _ (by omega) (by omega)]; exact h2, fun i e hi => ?_⟩
  have hl : i < L.length := (List.getElem?_eq_some_iff.mp hi).1
  obtain ⟨a, b, c⟩ := h3 i e hi
  exact ⟨by rw [hf _ (by omega) (by omega)]; exact a, by rw [hf _ (by omega) (by omega)]; exact b, by rw [hf _ (by omega) (by omega)]; exact c⟩
theorem repM.sd {f : Nat → Int32} {A : EA} {L : List De} (h : repM f A L) {c s : Nat} (hc : c < 5) (hs : s < 8) (v : Int32) : repM (upd f (48 * s + c) v) (sSd A c s v) L := by
  obtain ⟨h4, h5, hh, hsd, hrk, hds, hvs, hl⟩ := h
  have n : ∀ j, (j < 48 * s + c ∨ 48 * s + c < j) → upd f (48 * s + c) v j = f j := fun j hj => upd_n (by omega)
  refine ⟨by rw [n _ (by omega)]; exact h4, by rw [n _ (by omega)]; exact h5, hh.kept (fun j _ _ => n j (by omega)), fun c' s' hc' hs' => ?_, fun s' k' hs' hk' => by rw [n _ (by omega)]; exact hrk s' k' hs' hk', fun s' hs' => (hds s' hs').kept (fun j _ _ => n j (by omega)) hs', fun k' hk' => (hvs k' hk').kept (fun j _ _ => n j (by omega)) hk', hl.kept (fun j _ _ => n j (by omega))⟩
  show _ = if c' = c ∧ s' = s then v else A.1 c' s'
  by_cases e : c' = c ∧ s' = s
  · rw [if_pos e, e.1, e.2, upd_s]
  · rw [if_neg e, n _ (by omega)]
    exact hsd c' s' hc' hs'
theorem repM.rk {f : Nat → Int32} {A : EA} {L : List De} (h : repM f A L) {s k : Nat} (hs : s < 8) (hk : k < 6) (v : Int32) : repM (upd f (48 * s + 5 + k) v) (sRk A s k v) L := by
  obtain ⟨h4, h5, hh, hsd, hrk, hds, hvs, hl⟩ := h
  have n : ∀ j, (j < 48 * s + 5 + k ∨ 48 * s + 5 + k < j) → upd f (48 * s + 5 + k) v j = f j := fun j hj => upd_n (by omega)
  refine ⟨by rw [n _ (by omega)]; exact h4, by rw [n _ (by omega)]; exact h5, hh.kept (fun j _ _ => n j (by omega)), fun c' s' hc' hs' => by rw [n _ (by omega)]; exact hsd c' s' hc' hs', fun s' k' hs' hk' => ?_, fun s' hs' => (hds s' hs').kept (fun j _ _ => n j (by omega)) hs', fun k' hk' => (hvs k' hk').kept (fun j _ _ => n j (by omega)) hk', hl.kept (fun j _ _ => n j (by omega))⟩
  show _ = if s' = s ∧ k' = k then v else A.2.1 s' k'
  by_cases e : s' = s ∧ k' = k
  · rw [if_pos e, e.1, e.2, upd_s]
  · rw [if_neg e, n _ (by omega)]
    exact hrk s' k' hs' hk'
theorem repM.ck {f : Nat → Int32} {A : EA} {L : List De} (h : repM f A L)  (v : Int32) : repM (upd f (606) v) (sCk A v) L := by
  obtain ⟨h4, h5, hh, hsd, hrk, hds, hvs, hl⟩ := h
  have n : ∀ j, (j < 606 ∨ 606 < j) → upd f (606) v j = f j := fun j hj => upd_n (by omega)
  refine ⟨upd_s, by rw [n _ (by omega)]; exact h5, hh.kept (fun j _ _ => n j (by omega)), fun c' s' hc' hs' => by rw [n _ (by omega)]; exact hsd c' s' hc' hs', fun s' k' hs' hk' => by rw [n _ (by omega)]; exact hrk s' k' hs' hk', fun s' hs' => (hds s' hs').kept (fun j _ _ => n j (by omega)) hs', fun k' hk' => (hvs k' hk').kept (fun j _ _ => n j (by omega)) hk', hl.kept (fun j _ _ => n j (by omega))⟩

theorem repM.fl {f : Nat → Int32} {A : EA} {L : List De} (h : repM f A L)  (v : Int32) : repM (upd f (607) v) (sFl A v) L := by
  obtain ⟨h4, h5, hh, hsd, hrk, hds, hvs, hl⟩ := h
  have n : ∀ j, (j < 607 ∨ 607 < j) → upd f (607) v j = f j := fun j hj => upd_n (by omega)
  refine ⟨by rw [n _ (by omega)]; exact h4, upd_s, hh.kept (fun j _ _ => n j (by omega)), fun c' s' hc' hs' => by rw [n _ (by omega)]; exact hsd c' s' hc' hs', fun s' k' hs' hk' => by rw [n _ (by omega)]; exact hrk s' k' hs' hk', fun s' hs' => (hds s' hs').kept (fun j _ _ => n j (by omega)) hs', fun k' hk' => (hvs k' hk').kept (fun j _ _ => n j (by omega)) hk', hl.kept (fun j _ _ => n j (by omega))⟩

theorem repM.ds {f f' : Nat → Int32} {A : EA} {L : List De} (h : repM f A L) {s : Nat} (hs : s < 8) {l : List De} (hl : deeM f' s l) (hf : ∀ j, (j < 48 * s + 11 ∨ 48 * s + 48 ≤ j) → f' j = f j) : repM f' (sDs A s l) L := by
  obtain ⟨h4, h5, hh, hsd, hrk, hds, hvs, hL⟩ := h
  refine ⟨by rw [hf _ (by omega)]; exact h4, by rw [hf _ (by omega)]; exact h5, hh.kept (fun j _ _ => hf j (by omega)), fun c' s' hc' hs' => by rw [hf _ (by omega)]; exact hsd c' s' hc' hs', fun s' k' hs' hk' => by rw [hf _ (by omega)]; exact hrk s' k' hs' hk', fun s' hs' => ?_, fun k' hk' => (hvs k' hk').kept (fun j _ _ => hf j (by omega)) hk', hL.kept (fun j _ _ => hf j (by omega))⟩
  show deeM f' s' (if s' = s then l else A.2.2.1 s')
  by_cases e : s' = s
  · rw [if_pos e, e]; exact hl
  · rw [if_neg e]
    exact (hds s' hs').kept (fun j _ _ => hf j (by omega)) hs'
theorem repM.vs {f f' : Nat → Int32} {A : EA} {L : List De} (h : repM f A L) {k : Nat} (hk : k < 6) {l : List Vr} (hl : blkM f' k l) (hf : ∀ j, (j < 384 + 37 * k ∨ 421 + 37 * k ≤ j) → f' j = f j) : repM f' (sVs A k l) L := by
  obtain ⟨h4, h5, hh, hsd, hrk, hds, hvs, hL⟩ := h
  refine ⟨by rw [hf _ (by omega)]; exact h4, by rw [hf _ (by omega)]; exact h5, hh.kept (fun j _ _ => hf j (by omega)), fun c' s' hc' hs' => by rw [hf _ (by omega)]; exact hsd c' s' hc' hs', fun s' k' hs' hk' => by rw [hf _ (by omega)]; exact hrk s' k' hs' hk', fun s' hs' => (hds s' hs').kept (fun j _ _ => hf j (by omega)) hs', fun k' hk' => ?_, hL.kept (fun j _ _ => hf j (by omega))⟩
  show blkM f' k' (if k' = k then l else A.2.2.2.1 k')
  by_cases e : k' = k
  · rw [if_pos e, e]; exact hl
  · rw [if_neg e]
    obtain ⟨g1, g2, g3⟩ := hvs k' hk'
    refine ⟨g1, by rw [hf _ (by omega)]; exact g2, fun i v hi => ?_⟩
    have hlt : i < (eVs A k').length := (List.getElem?_eq_some_iff.mp hi).1
    have hlt2 : i < 9 := by omega
    obtain ⟨a, b, c, d⟩ := g3 i v hi
    exact ⟨by rw [hf _ (by omega)]; exact a, by rw [hf _ (by omega)]; exact b, by rw [hf _ (by omega)]; exact c, by rw [hf _ (by omega)]; exact d⟩
/-! a stamp by hand more -/
theorem getE_snoc {α : Type} {l : List α} {x v : α} {i : Nat} (h : (l ++ [x])[i]? = some v) : (i < l.length ∧ l[i]? = some v) ∨ (i = l.length ∧ v = x) := by
  by_cases hi : i < l.length
  · rw [List.getElem?_append_left hi] at h
    exact Or.inl ⟨hi, h⟩
  · rw [List.getElem?_append_right (by omega)] at h
    have hz : i - l.length < 1 := (List.getElem?_eq_some_iff.mp h).1
    have e : i - l.length = 0 := by omega
    rw [e] at h
    exact Or.inr ⟨by omega, by simpa using h.symm⟩
theorem repW.hd {R : ER} {f : Nat → Int32} {A : EA} {L : List De} (h : repW R f A L) (v : Int32) (hlt : (eHd A).length < 30) : repW R (upd (upd f (10 + (eHd A).length) v) 7 (nI ((eHd A).length + 1))) (sHd A (eHd A ++ [v])) L := by
  obtain ⟨r, h4, h5, hh, hsd, hrk, hds, hvs, hl⟩ := h
  have n : ∀ j, j ≠ 7 → j ≠ 10 + (eHd A).length → upd (upd f (10 + (eHd A).length) v) 7 (nI ((eHd A).length + 1)) j = f j := fun j h1 h2 => by rw [upd_n h1, upd_n h2]
  refine ⟨r.kept (fun j hj => n j (by omega) (by omega)), by rw [n _ (by omega) (by omega)]; exact h4, by rw [n _ (by omega) (by omega)]; exact h5, ?_, fun c' s' hc' hs' => by rw [n _ (by omega) (by omega)]; exact hsd c' s' hc' hs', fun s' k' hs' hk' => by rw [n _ (by omega) (by omega)]; exact hrk s' k' hs' hk', fun s' hs' => (hds s' hs').kept (fun j _ _ => n j (by omega) (by omega)) hs', fun k' hk' => (hvs k' hk').kept (fun j _ _ => n j (by omega) (by omega)) hk', hl.kept (n _ (by omega) (by omega)) (n _ (by omega) (by omega)) (fun j _ _ => n j (by omega) (by omega))⟩
  show hanW _ (eHd A ++ [v])
  refine ⟨by rw [List.length_append, List.length_singleton]; omega, by rw [upd_s, List.length_append, List.length_singleton], fun i x hi => ?_⟩
  rcases getE_snoc hi with ⟨h1, h2⟩ | ⟨rfl, rfl⟩
  · rw [n _ (by omega) (by omega)]
    exact hh.2.2 i x h2
  · rw [upd_n (by omega), upd_s]
theorem repM.hd {f : Nat → Int32} {A : EA} {L : List De} (h : repM f A L) (v : Int32) (hlt : (eHd A).length < 30) : repM (upd (upd f 608 (nI ((eHd A).length + 1))) (609 + (eHd A).length) v) (sHd A (eHd A ++ [v])) L := by
  obtain ⟨h4, h5, hh, hsd, hrk, hds, hvs, hl⟩ := h
  have n : ∀ j, j ≠ 608 → j ≠ 609 + (eHd A).length → upd (upd f 608 (nI ((eHd A).length + 1))) (609 + (eHd A).length) v j = f j := fun j h1 h2 => by rw [upd_n h2, upd_n h1]
  refine ⟨by rw [n _ (by omega) (by omega)]; exact h4, by rw [n _ (by omega) (by omega)]; exact h5, ?_, fun c' s' hc' hs' => by rw [n _ (by omega) (by omega)]; exact hsd c' s' hc' hs', fun s' k' hs' hk' => by rw [n _ (by omega) (by omega)]; exact hrk s' k' hs' hk', fun s' hs' => (hds s' hs').kept (fun j _ _ => n j (by omega) (by omega)) hs', fun k' hk' => (hvs k' hk').kept (fun j _ _ => n j (by omega) (by omega)) hk', hl.kept (fun j _ _ => n j (by omega) (by omega))⟩
  show hanM _ (eHd A ++ [v])
  refine ⟨by rw [List.length_append, List.length_singleton]; omega, by rw [upd_n (by omega), upd_s, List.length_append, List.length_singleton], fun i x hi => ?_⟩
  rcases getE_snoc hi with ⟨h1, h2⟩ | ⟨rfl, rfl⟩
  · rw [n _ (by omega) (by omega)]
    exact hh.2.2 i x h2
  · rw [upd_s]
/-! the log: one entry more, sixty at most -/
def pushL (L : List De) (e : De) : List De := if L.length = 60 then L.tail ++ [e] else L ++ [e]
theorem pushL_len {L : List De} {e : De} (h : L.length ≤ 60) : (pushL L e).length = if L.length = 60 then 60 else L.length + 1 := by
  unfold pushL
  split
  · next h6 => simp [h6]
  · simp
theorem logW.push {f : Nat → Int32} {L : List De} {n : Nat} (e : De) (h1 : L.length ≤ 60) (hn : n < 60) (h9 : ∀ (i : Nat) (e : De), L[i]? = some e → f (454 + (n + 60 - L.length + i) % 60) = encL e) {f' : Nat → Int32} (hf : ∀ j, 454 ≤ j → j < 514 → j ≠ 454 + n → f' j = f j) (he : f' (454 + n) = encL e) (g8 : f' 8 = nI (pushL L e).length) (g9 : f' 9 = nI (if n + 1 < 60 then n + 1 else 0)) : logW f' (pushL L e) := by
  have hlen := pushL_len (e := e) h1
  refine ⟨by rw [hlen]; split <;> omega, g8, (if n + 1 < 60 then n + 1 else 0), by split <;> omega, g9, fun i x hi => ?_⟩
  rw [hlen]
  unfold pushL at hi
  by_cases h6 : L.length = 60
  · rw [if_pos h6] at hi ⊢
    rcases getE_snoc hi with ⟨a, b⟩ | ⟨a, b⟩
    · rw [List.length_tail] at a
      have hi2 : L[i + 1]? = some x := by
        rw [List.getElem?_tail] at b
        exact b
      have e2 : ((if n + 1 < 60 then n + 1 else 0) + 60 - 60 + i) % 60 = (n + 60 - L.length + (i + 1)) % 60 := by split <;> omega
      rw [e2, hf _ (by omega) (by omega) (by omega)]
      exact h9 (i + 1) x hi2
    · rw [List.length_tail] at a
      have e2 : ((if n + 1 < 60 then n + 1 else 0) + 60 - 60 + i) % 60 = n := by split <;> omega
      rw [e2, b, he]
  · rw [if_neg h6] at hi ⊢
    rcases getE_snoc hi with ⟨a, b⟩ | ⟨a, b⟩
    · have e2 : ((if n + 1 < 60 then n + 1 else 0) + 60 - (L.length + 1) + i) % 60 = (n + 60 - L.length + i) % 60 := by split <;> omega
      rw [e2, hf _ (by omega) (by omega) (by omega)]
      exact h9 i x b
    · have e2 : ((if n + 1 < 60 then n + 1 else 0) + 60 - (L.length + 1) + i) % 60 = n := by split <;> omega
      rw [e2, b, he]
theorem repW.log {R : ER} {f f' : Nat → Int32} {A : EA} {L L' : List De} (h : repW R f A L) (hf : ∀ j, j ≠ 8 → j ≠ 9 → j < 454 → f' j = f j) (hl : logW f' L') : repW R f' A L' := by
  obtain ⟨r, h4, h5, hh, hsd, hrk, hds, hvs, -⟩ := h
  exact ⟨r.kept (fun j hj => hf j (by omega) (by omega) (by omega)), by rw [hf _ (by omega) (by omega) (by omega)]; exact h4, by rw [hf _ (by omega) (by omega) (by omega)]; exact h5, hh.kept (hf _ (by omega) (by omega) (by omega)) (fun j _ _ => hf j (by omega) (by omega) (by omega)), fun c' s' hc' hs' => by rw [hf _ (by omega) (by omega) (by omega)]; exact hsd c' s' hc' hs', fun s' k' hs' hk' => by rw [hf _ (by omega) (by omega) (by omega)]; exact hrk s' k' hs' hk', fun s' hs' => (hds s' hs').kept (fun j _ _ => hf j (by omega) (by omega) (by omega)) hs', fun k' hk' => (hvs k' hk').kept (fun j _ _ => hf j (by omega) (by omega) (by omega)) hk', hl⟩
theorem repM.log {f f' : Nat → Int32} {A : EA} {L L' : List De} (h : repM f A L) (hf : ∀ j, j < 639 → f' j = f j) (hl : logM f' L') : repM f' A L' := by
  obtain ⟨h4, h5, hh, hsd, hrk, hds, hvs, -⟩ := h
  exact ⟨by rw [hf _ (by omega)]; exact h4, by rw [hf _ (by omega)]; exact h5, hh.kept (fun j _ _ => hf j (by omega)), fun c' s' hc' hs' => by rw [hf _ (by omega)]; exact hsd c' s' hc' hs', fun s' k' hs' hk' => by rw [hf _ (by omega)]; exact hrk s' k' hs' hk', fun s' hs' => (hds s' hs').kept (fun j _ _ => hf j (by omega)) hs', fun k' hk' => (hvs k' hk').kept (fun j _ _ => hf j (by omega)) hk', hl⟩
