/-! ===== the engine's state as a mathematical thing, and how World's row and Model's row 7 hold it ===== -/
theorem iz_nI (n : Nat) : iz (OfNat.ofNat n) = nI (OfNat.ofNat n) := rfl
theorem iz_cast (n : Nat) : iz (n : Int) = nI n := by
  unfold iz nI
  rfl
theorem rd_nI {n m : Nat} {f : Nat → Int32} (hm : m < n) (hn : n ≤ 100000) : nx_rd n f (nI m) = some (f m) := rd_at (iz_cast m).symm hm hn
theorem wr_nI {n m : Nat} {f : Nat → Int32} {v : Int32} (hm : m < n) (hn : n ≤ 100000) : nx_wr n f (nI m) v = some (upd f m v) := wr_at (iz_cast m).symm hm hn
theorem rdW {m : Nat} {f : Nat → Int32} (hm : m < 514) : nx_rd 514 f (nI m) = some (f m) := rd_nI hm (by omega)
theorem wrW {m : Nat} {f : Nat → Int32} {v : Int32} (hm : m < 514) : nx_wr 514 f (nI m) v = some (upd f m v) := wr_nI hm (by omega)
theorem mulI (a b : Nat) : nI a * nI b = nI (a * b) := pk_mul a b
theorem subI {a b : Nat} (h : b ≤ a) : nI a - nI b = nI (a - b) := pk_sub h
theorem leI {a b : Nat} (ha : a < 1000000000) (hb : b < 1000000000) : nI a ≤ nI b ↔ a ≤ b := nI_leI (by omega) (by omega)
theorem ltI {a b : Nat} (ha : a < 1000000000) (hb : b < 1000000000) : nI a < nI b ↔ a < b := nI_ltI (by omega) (by omega)
theorem eqI {a b : Nat} (ha : a < 1000000000) (hb : b < 1000000000) : nI a = nI b ↔ a = b := nI_eq (by omega) (by omega)
abbrev Vr : Type := Int32 × Int32 × Int32 × Int32
abbrev De : Type := Int32 × Int32 × Int32
/-- seats (what, seat); reads (seat, key); deeds; versions; clock; floor; stamps by hand -/
abbrev EA : Type := (Nat → Nat → Int32) × (Nat → Nat → Int32) × (Nat → List De) × (Nat → List Vr) × Int32 × Int32 × List Int32
abbrev eSd (A : EA) : Nat → Nat → Int32 := A.1
abbrev eRk (A : EA) : Nat → Nat → Int32 := A.2.1
abbrev eDs (A : EA) : Nat → List De := A.2.2.1
abbrev eVs (A : EA) : Nat → List Vr := A.2.2.2.1
abbrev eCk (A : EA) : Int32 := A.2.2.2.2.1
abbrev eFl (A : EA) : Int32 := A.2.2.2.2.2.1
abbrev eHd (A : EA) : List Int32 := A.2.2.2.2.2.2
def sSd (A : EA) (c s : Nat) (v : Int32) : EA := (fun c' s' => if c' = c ∧ s' = s then v else A.1 c' s', A.2)
def sRk (A : EA) (s k : Nat) (v : Int32) : EA := (A.1, fun s' k' => if s' = s ∧ k' = k then v else A.2.1 s' k', A.2.2)
def sDs (A : EA) (s : Nat) (l : List De) : EA := (A.1, A.2.1, fun s' => if s' = s then l else A.2.2.1 s', A.2.2.2)
def sVs (A : EA) (k : Nat) (l : List Vr) : EA := (A.1, A.2.1, A.2.2.1, fun k' => if k' = k then l else A.2.2.2.1 k', A.2.2.2.2)
def sCk (A : EA) (v : Int32) : EA := (A.1, A.2.1, A.2.2.1, A.2.2.2.1, v, A.2.2.2.2.2)
def sFl (A : EA) (v : Int32) : EA := (A.1, A.2.1, A.2.2.1, A.2.2.2.1, A.2.2.2.2.1, v, A.2.2.2.2.2.2)
def sHd (A : EA) (l : List Int32) : EA := (A.1, A.2.1, A.2.2.1, A.2.2.2.1, A.2.2.2.2.1, A.2.2.2.2.2.1, l)
/-- rules: how many keys, most, pruning, stride -/
abbrev ER : Type := Nat × Int32 × Int32 × Int32
def encD (d : De) : Int32 := (d.1 ||| (d.2.1 <<< ((iz 2) &&& 31))) ||| ((d.2.2 + (iz 1)) <<< ((iz 5) &&& 31))
def encL (e : De) : Int32 := (e.1 ||| ((e.2.1 + (iz 1)) <<< ((iz 3) &&& 31))) ||| ((e.2.2 + (iz 2)) <<< ((iz 7) &&& 31))
def blkW (f : Nat → Int32) (k : Nat) (l : List Vr) : Prop := l.length ≤ 9 ∧ f (232 + k) = nI l.length ∧ ∀ (i : Nat) (v : Vr), l[i]? = some v → f (238 + 9 * k + i) = v.1 ∧ f (292 + 9 * k + i) = v.2.1 ∧ f (346 + 9 * k + i) = v.2.2.1 ∧ f (400 + 9 * k + i) = v.2.2.2
def deeW (f : Nat → Int32) (s : Nat) (l : List De) : Prop := l.length ≤ 12 ∧ f (80 + s) = nI l.length ∧ ∀ (i : Nat) (d : De), l[i]? = some d → f (88 + 12 * s + i) = encD d
def hanW (f : Nat → Int32) (l : List Int32) : Prop := l.length ≤ 30 ∧ f 7 = nI l.length ∧ ∀ (i : Nat) (v : Int32), l[i]? = some v → f (10 + i) = v
def logW (f : Nat → Int32) (L : List De) : Prop := L.length ≤ 60 ∧ f 8 = nI L.length ∧ ∃ n, n < 60 ∧ f 9 = nI n ∧ ∀ (i : Nat) (e : De), L[i]? = some e → f (454 + (n + 60 - L.length + i) % 60) = encL e
def rulW (R : ER) (f : Nat → Int32) : Prop := f 0 = R.2.1 ∧ f 1 = R.2.2.1 ∧ f 2 = R.2.2.2 ∧ f 3 = nI R.1
/-- World's row holds rules R, state A, log L -/
def repW (R : ER) (f : Nat → Int32) (A : EA) (L : List De) : Prop := rulW R f ∧ f 4 = eCk A ∧ f 5 = eFl A ∧ hanW f (eHd A) ∧ (∀ c s, c < 5 → s < 8 → f (40 + 8 * c + s) = eSd A c s) ∧ (∀ s k, s < 8 → k < 6 → f (184 + 6 * s + k) = eRk A s k) ∧ (∀ s, s < 8 → deeW f s (eDs A s)) ∧ (∀ k, k < 6 → blkW f k (eVs A k)) ∧ logW f L
def blkM (h : Nat → Int32) (k : Nat) (l : List Vr) : Prop := l.length ≤ 9 ∧ h (384 + 37 * k) = nI l.length ∧ ∀ (i : Nat) (v : Vr), l[i]? = some v → h (384 + 37 * k + 4 * i + 1) = v.1 ∧ h (384 + 37 * k + 4 * i + 2) = v.2.1 ∧ h (384 + 37 * k + 4 * i + 3) = v.2.2.1 ∧ h (384 + 37 * k + 4 * i + 4) = v.2.2.2
def deeM (h : Nat → Int32) (s : Nat) (l : List De) : Prop := l.length ≤ 12 ∧ h (48 * s + 11) = nI l.length ∧ ∀ (i : Nat) (d : De), l[i]? = some d → h (48 * s + 12 + 3 * i) = d.1 ∧ h (48 * s + 13 + 3 * i) = d.2.1 ∧ h (48 * s + 14 + 3 * i) = d.2.2
def hanM (h : Nat → Int32) (l : List Int32) : Prop := l.length ≤ 30 ∧ h 608 = nI l.length ∧ ∀ (i : Nat) (v : Int32), l[i]? = some v → h (609 + i) = v
def logM (h : Nat → Int32) (L : List De) : Prop := L.length ≤ 60 ∧ h 639 = nI L.length ∧ ∀ (i : Nat) (e : De), L[i]? = some e → h (640 + 3 * i) = e.1 ∧ h (641 + 3 * i) = e.2.1 ∧ h (642 + 3 * i) = e.2.2
/-- Model's row 7 holds state A, log L -/
def repM (h : Nat → Int32) (A : EA) (L : List De) : Prop := h 606 = eCk A ∧ h 607 = eFl A ∧ hanM h (eHd A) ∧ (∀ c s, c < 5 → s < 8 → h (48 * s + c) = eSd A c s) ∧ (∀ s k, s < 8 → k < 6 → h (48 * s + 5 + k) = eRk A s k) ∧ (∀ s, s < 8 → deeM h s (eDs A s)) ∧ (∀ k, k < 6 → blkM h k (eVs A k)) ∧ logM h L
theorem upd_s {f : Nat → Int32} {k : Nat} {x : Int32} : upd f k x k = x := pk_us
theorem upd_n {f : Nat → Int32} {k j : Nat} {x : Int32} (h : j ≠ k) : upd f k x j = f j := pk_un h
/-! frames -/
theorem blkW.kept {f f' : Nat → Int32} {k : Nat} {l : List Vr} (h : blkW f k l) (hf : ∀ j, 232 ≤ j → j < 454 → f' j = f j) (hk : k < 6) : blkW f' k l := by
  obtain ⟨h1, h2, h3⟩ := h
  refine ⟨h1, by rw [hf _ (by omega) (by omega)]; exact h2, fun i v hi => ?_⟩
  have hl : i < l.length := (List.getElem?_eq_some_iff.mp hi).1
  obtain ⟨a, b, c, d⟩ := h3 i v hi
  exact ⟨by rw [hf _ (by omega) (by omega)]; exact a, by rw [hf _ (by omega) (by omega)]; exact b, by rw [hf _ (by omega) (by omega)]; exact c, by rw [hf _ (by omega) (by omega)]; exact d⟩
theorem deeW.kept {f f' : Nat → Int32} {s : Nat} {l : List De} (h : deeW f s l) (hf : ∀ j, 80 ≤ j → j < 184 → f' j = f j) (hs : s < 8) : deeW f' s l := by
  obtain ⟨h1, h2, h3⟩ := h
  refine ⟨h1, by rw [hf _ (by omega) (by omega)]; exact h2, fun i v hi => ?_⟩
  have hl : i < l.length := (List.getElem?_eq_some_iff.mp hi).1
  rw [hf _ (by omega) (by omega)]
  exact h3 i v hi
theorem hanW.kept {f f' : Nat → Int32} {l : List Int32} (h : hanW f l) (h7 : f' 7 = f 7) (hf : ∀ j, 10 ≤ j → j < 40 → f' j = f j) : hanW f' l := by
  obtain ⟨h1, h2, h3⟩ := h
  refine ⟨h1, by rw [h7]; exact h2, fun i v hi => ?_⟩
  have hl : i < l.length := (List.getElem?_eq_some_iff.mp hi).1
  rw [hf _ (by omega) (by omega)]
  exact h3 i v hi
theorem logW.kept {f f' : Nat → Int32} {L : List De} (h : logW f L) (h8 : f' 8 = f 8) (h9 : f' 9 = f 9) (hf : ∀ j, 454 ≤ j → j < 514 → f' j = f j) : logW f' L := by
  obtain ⟨h1, h2, n, h3, h4, h5⟩ := h
  refine ⟨h1, by rw [h8]; exact h2, n, h3, by rw [h9]; exact h4, fun i e hi => ?_⟩
  rw [hf _ (by omega) (by omega)]
  exact h5 i e hi
theorem rulW.kept {R : ER} {f f' : Nat → Int32} (h : rulW R f) (hf : ∀ j, j < 4 → f' j = f j) : rulW R f' := by
  obtain ⟨h0, h1, h2, h3⟩ := h
  exact ⟨by rw [hf _ (by omega)]; exact h0, by rw [hf _ (by omega)]; exact h1, by rw [hf _ (by omega)]; exact h2, by rw [hf _ (by omega)]; exact h3⟩
/-- a seat's number is written -/
theorem repW.sd {R : ER} {f : Nat → Int32} {A : EA} {L : List De} (h : repW R f A L) {c s : Nat} (hc : c < 5) (hs : s < 8) (v : Int32) : repW R (upd f (40 + 8 * c + s) v) (sSd A c s v) L := by
  obtain ⟨r, h4, h5, hh, hsd, hrk, hds, hvs, hl⟩ := h
  have n : ∀ j, (j < 40 + 8 * c + s ∨ 40 + 8 * c + s < j) → upd f (40 + 8 * c + s) v j = f j := fun j hj => upd_n (by omega)
  refine ⟨r.kept (fun j hj => n j (by omega)), by rw [n _ (by omega)]; exact h4, by rw [n _ (by omega)]; exact h5, hh.kept (n _ (by omega)) (fun j _ _ => n j (by omega)), fun c' s' hc' hs' => ?_, fun s' k' hs' hk' => by rw [n _ (by omega)]; exact hrk s' k' hs' hk', fun s' hs' => (hds s' hs').kept (fun j _ _ => n j (by omega)) hs', fun k' hk' => (hvs k' hk').kept (fun j _ _ => n j (by omega)) hk', hl.kept (n _ (by omega)) (n _ (by omega)) (fun j _ _ => n j (by omega))⟩
  show _ = if c' = c ∧ s' = s then v else A.1 c' s'
  by_cases e : c' = c ∧ s' = s
  · rw [if_pos e, e.1, e.2, upd_s]
  · rw [if_neg e, n _ (by omega)]
    exact hsd c' s' hc' hs'
theorem repW.rk {R : ER} {f : Nat → Int32} {A : EA} {L : List De} (h : repW R f A L) {s k : Nat} (hs : s < 8) (hk : k < 6) (v : Int32) : repW R (upd f (184 + 6 * s + k) v) (sRk A s k v) L := by
  obtain ⟨r, h4, h5, hh, hsd, hrk, hds, hvs, hl⟩ := h
  have n : ∀ j, (j < 184 + 6 * s + k ∨ 184 + 6 * s + k < j) → upd f (184 + 6 * s + k) v j = f j := fun j hj => upd_n (by omega)
  refine ⟨r.kept (fun j hj => n j (by omega)), by rw [n _ (by omega)]; exact h4, by rw [n _ (by omega)]; exact h5, hh.kept (n _ (by omega)) (fun j _ _ => n j (by omega)), fun c' s' hc' hs' => by rw [n _ (by omega)]; exact hsd c' s' hc' hs', fun s' k' hs' hk' => ?_, fun s' hs' => (hds s' hs').kept (fun j _ _ => n j (by omega)) hs', fun k' hk' => (hvs k' hk').kept (fun j _ _ => n j (by omega)) hk', hl.kept (n _ (by omega)) (n _ (by omega)) (fun j _ _ => n j (by omega))⟩
  show _ = if s' = s ∧ k' = k then v else A.2.1 s' k'
  by_cases e : s' = s ∧ k' = k
  · rw [if_pos e, e.1, e.2, upd_s]
  · rw [if_neg e, n _ (by omega)]
    exact hrk s' k' hs' hk'
theorem repW.ck {R : ER} {f : Nat → Int32} {A : EA} {L : List De} (h : repW R f A L) (v : Int32) : repW R (upd f 4 v) (sCk A v) L := by
  obtain ⟨r, h4, h5, hh, hsd, hrk, hds, hvs, hl⟩ := h
  have n : ∀ j, (j < 4 ∨ 4 < j) → upd f 4 v j = f j := fun j hj => upd_n (by omega)
  exact ⟨r.kept (fun j hj => n j (by omega)), upd_s, by rw [n _ (by omega)]; exact h5, hh.kept (n _ (by omega)) (fun j _ _ => n j (by omega)), fun c' s' hc' hs' => by rw [n _ (by omega)]; exact hsd c' s' hc' hs', fun s' k' hs' hk' => by rw [n _ (by omega)]; exact hrk s' k' hs' hk', fun s' hs' => (hds s' hs').kept (fun j _ _ => n j (by omega)) hs', fun k' hk' => (hvs k' hk').kept (fun j _ _ => n j (by omega)) hk', hl.kept (n _ (by omega)) (n _ (by omega)) (fun j _ _ => n j (by omega))⟩
theorem repW.fl {R : ER} {f : Nat → Int32} {A : EA} {L : List De} (h : repW R f A L) (v : Int32) : repW R (upd f 5 v) (sFl A v) L := by
  obtain ⟨r, h4, h5, hh, hsd, hrk, hds, hvs, hl⟩ := h
  have n : ∀ j, (j < 5 ∨ 5 < j) → upd f 5 v j = f j := fun j hj => upd_n (by omega)
  exact ⟨r.kept (fun j hj => n j (by omega)), by rw [n _ (by omega)]; exact h4, upd_s, hh.kept (n _ (by omega)) (fun j _ _ => n j (by omega)), fun c' s' hc' hs' => by rw [n _ (by omega)]; exact hsd c' s' hc' hs', fun s' k' hs' hk' => by rw [n _ (by omega)]; exact hrk s' k' hs' hk', fun s' hs' => (hds s' hs').kept (fun j _ _ => n j (by omega)) hs', fun k' hk' => (hvs k' hk').kept (fun j _ _ => n j (by omega)) hk', hl.kept (n _ (by omega)) (n _ (by omega)) (fun j _ _ => n j (by omega))⟩
/-- FELL isn't in the state -/
theorem repW.fe {R : ER} {f : Nat → Int32} {A : EA} {L : List De} (h : repW R f A L) (v : Int32) : repW R (upd f 6 v) A L := by
  obtain ⟨r, h4, h5, hh, hsd, hrk, hds, hvs, hl⟩ := h
  have n : ∀ j, (j < 6 ∨ 6 < j) → upd f 6 v j = f j := fun j hj => upd_n (by omega)
  exact ⟨r.kept (fun j hj => n j (by omega)), by rw [n _ (by omega)]; exact h4, by rw [n _ (by omega)]; exact h5, hh.kept (n _ (by omega)) (fun j _ _ => n j (by omega)), fun c' s' hc' hs' => by rw [n _ (by omega)]; exact hsd c' s' hc' hs', fun s' k' hs' hk' => by rw [n _ (by omega)]; exact hrk s' k' hs' hk', fun s' hs' => (hds s' hs').kept (fun j _ _ => n j (by omega)) hs', fun k' hk' => (hvs k' hk').kept (fun j _ _ => n j (by omega)) hk', hl.kept (n _ (by omega)) (n _ (by omega)) (fun j _ _ => n j (by omega))⟩
/-- the deeds of a seat, by what changed -/
theorem repW.ds {R : ER} {f f' : Nat → Int32} {A : EA} {L : List De} (h : repW R f A L) {s : Nat} (hs : s < 8) {l : List De} (hl : deeW f' s l) (hf : ∀ j, j ≠ 80 + s → (j < 88 + 12 * s ∨ 100 + 12 * s ≤ j) → f' j = f j) : repW R f' (sDs A s l) L := by
  obtain ⟨r, h4, h5, hh, hsd, hrk, hds, hvs, hL⟩ := h
  refine ⟨r.kept (fun j hj => hf j (by omega) (by omega)), by rw [hf _ (by omega) (by omega)]; exact h4, by rw [hf _ (by omega) (by omega)]; exact h5, hh.kept (hf _ (by omega) (by omega)) (fun j _ _ => hf j (by omega) (by omega)), fun c' s' hc' hs' => by rw [hf _ (by omega) (by omega)]; exact hsd c' s' hc' hs', fun s' k' hs' hk' => by rw [hf _ (by omega) (by omega)]; exact hrk s' k' hs' hk', fun s' hs' => ?_, fun k' hk' => (hvs k' hk').kept (fun j _ _ => hf j (by omega) (by omega)) hk', hL.kept (hf _ (by omega) (by omega)) (hf _ (by omega) (by omega)) (fun j _ _ => hf j (by omega) (by omega))⟩
  show deeW f' s' (if s' = s then l else A.2.2.1 s')
  by_cases e : s' = s
  · rw [if_pos e, e]; exact hl
  · rw [if_neg e]
    obtain ⟨g1, g2, g3⟩ := hds s' hs'
    refine ⟨g1, by rw [hf _ (by omega) (by omega)]; exact g2, fun i d hi => ?_⟩
    have hlt : i < (eDs A s').length := (List.getElem?_eq_some_iff.mp hi).1
    rw [hf _ (by omega) (by omega)]
    exact g3 i d hi
/-- the versions of a key, by what changed -/
theorem repW.vs {R : ER} {f f' : Nat → Int32} {A : EA} {L : List De} (h : repW R f A L) {k : Nat} (hk : k < 6) {l : List Vr} (hl : blkW f' k l) (hf : ∀ j, j ≠ 232 + k → (j < 238 + 9 * k ∨ 247 + 9 * k ≤ j) → (j < 292 + 9 * k ∨ 301 + 9 * k ≤ j) → (j < 346 + 9 * k ∨ 355 + 9 * k ≤ j) → (j < 400 + 9 * k ∨ 409 + 9 * k ≤ j) → f' j = f j) : repW R f' (sVs A k l) L := by
  obtain ⟨r, h4, h5, hh, hsd, hrk, hds, hvs, hL⟩ := h
  refine ⟨r.kept (fun j hj => hf j (by omega) (by omega) (by omega) (by omega) (by omega)), by rw [hf _ (by omega) (by omega) (by omega) (by omega) (by omega)]; exact h4, by rw [hf _ (by omega) (by omega) (by omega) (by omega) (by omega)]; exact h5, hh.kept (hf _ (by omega) (by omega) (by omega) (by omega) (by omega)) (fun j _ _ => hf j (by omega) (by omega) (by omega) (by omega) (by omega)), fun c' s' hc' hs' => by rw [hf _ (by omega) (by omega) (by omega) (by omega) (by omega)]; exact hsd c' s' hc' hs', fun s' k' hs' hk' => by rw [hf _ (by omega) (by omega) (by omega) (by omega) (by omega)]; exact hrk s' k' hs' hk', fun s' hs' => (hds s' hs').kept (fun j _ _ => hf j (by omega) (by omega) (by omega) (by omega) (by omega)) hs', fun k' hk' => ?_, hL.kept (hf _ (by omega) (by omega) (by omega) (by omega) (by omega)) (hf _ (by omega) (by omega) (by omega) (by omega) (by omega)) (fun j _ _ => hf j (by omega) (by omega) (by omega) (by omega) (by omega))⟩
  show blkW f' k' (if k' = k then l else A.2.2.2.1 k')
  by_cases e : k' = k
  · rw [if_pos e, e]; exact hl
  · rw [if_neg e]
    obtain ⟨g1, g2, g3⟩ := hvs k' hk'
    refine ⟨g1, by rw [hf _ (by omega) (by omega) (by omega) (by omega) (by omega)]; exact g2, fun i v hi => ?_⟩
    have hlt : i < (eVs A k').length := (List.getElem?_eq_some_iff.mp hi).1
    obtain ⟨a, b, c, d⟩ := g3 i v hi
    have hlt2 : i < 9 := by omega
    exact ⟨by rw [hf _ (by omega) (by omega) (by omega) (by omega) (by omega)]; exact a, by rw [hf _ (by omega) (by omega) (by omega) (by omega) (by omega)]; exact b, by rw [hf _ (by omega) (by omega) (by omega) (by omega) (by omega)]; exact c, by rw [hf _ (by omega) (by omega) (by omega) (by omega) (by omega)]; exact d⟩
