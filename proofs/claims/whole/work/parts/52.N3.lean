/-! reading, entering, deeds: Model -/
theorem g_sd {T : ET} {c s c' s' : Nat} {v : Int32} : tSd (sSd T c s v) c' s' = if c' = c ∧ s' = s then v else tSd T c' s' := rfl
theorem g_vs {T : ET} {k k' : Nat} {l : List Vr} : tVs (sVs T k l) k' = if k' = k then l else tVs T k' := rfl
theorem it_end {σ ρ : Type} {b : σ → Option (σ ⊕ ρ)} {s : σ} {r : ρ} {u : Nat} (h : b s = some (.inr r)) (hu : 0 < u) : nx_iter u b s = some r := by
  obtain ⟨v, rfl⟩ : ∃ v, u = v + 1 := ⟨u - 1, by omega⟩
  show (b s).bind _ = _
  rw [h]
  rfl
theorem it_on {σ ρ : Type} {b : σ → Option (σ ⊕ ρ)} {s s' : σ} {u : Nat} (h : b s = some (.inl s')) : nx_iter (u + 1) b s = nx_iter u b s' := by
  show (b s).bind _ = _
  rw [h]
  rfl
theorem M_readable {u : Nat} (hu : 1000 ≤ u) {g0 : mS} {R : ER} {m0 : Int32} {tr : Option (Nat → Int32)} {D : Nat → List De} {g : mS} {T : ET} (h : RM g0 R m0 tr D g T) (hW : WF R T) {s k i : Nat} (hs : s < 8) (hk : k < 6) (hlv : lvT T s = true) (hi : rdI T s k = some i) : fM_readable u g (nI s) (nI k) = some (nI i) := by
  have hl := h.q.l9 hk
  obtain ⟨hR, ⟨hri, hV2, hV3, hV4, hV5, -⟩, -⟩ := hW
  obtain ⟨i1, i2, i3⟩ := lst_some hi
  unfold fM_readable
  simp (disch := omega) only [fM_ofSeat, fM_of, fM_keyAt, fM_many, fM_cell, fM_its, izN, nI_add, mulI, rdM, mWr7, mRow_s, mRow_m, mRow_2, Option.bind_some, h.q.st, h.q.mn, M_placeOf hu h hk]
  cases e : fst (fun i => decide ((vA T k i).1 = tSd T 1 s)) (tVs T k).length with
  | some j =>
    obtain ⟨j1, j2, j3⟩ := fst_some e
    have j2 : (vA T k j).1 = tSd T 1 s := by simpa using j2
    have hj : j = i := by
      have hrd : rdP T s k j = true := by
        unfold rdP
        rw [hV5 k j s hk j1 hs hlv j2, j2]
        simp
      by_cases hlt : j < i
      · have h2 : (vA T k i).1 ≤ tSd T 1 s := by
          unfold rdP at i2
          have := of_decide_eq_true i2
          exact this.2
        have := hri k hk j i hlt i1
        rw [Int32.le_iff_toInt_le, ← j2] at h2
        have e1 : vG (tVs T k) j = vA T k j := rfl
        have e2 : vG (tVs T k) i = vA T k i := rfl
        rw [e1, e2] at this
        omega
      · by_cases hgt : i < j
        · rw [i3 j hgt j1] at hrd; cases hrd
        · omega
    subst hj
    refine bdE (a := nI j) (it_end ?_ (by omega))
    unfold fM_readable_21
    obtain ⟨q, hq⟩ : ∃ q, (tVs T k).length = q + 1 := ⟨(tVs T k).length - 1, by omega⟩
    simp (disch := omega) only [fM_ofSeat, fM_of, fM_keyAt, fM_many, fM_cell, fM_its, izN, nI_add, mulI, rdM, mWr7, mRow_s, mRow_m, mRow_2, Option.bind_some, Option.elim, hq, decI, ltI]
    rw [if_neg (by omega), if_neg (neN1 (by omega))]
  | none =>
    have hn := fst_none e
    have key : ∀ n v, n ≤ (tVs T k).length → n + 1 < v → nx_iter v (fM_readable_21 u g (nI s) (nI k)) (iz (-1), nI n - nI 1) = some ((lst (rdP T s k) n).elim (iz (-1)) nI) := by
      intro n
      induction n with
      | zero =>
        intro v _ hv
        refine it_end ?_ (by omega)
        unfold fM_readable_21
        rw [zero_dec]
        rfl
      | succ n ih =>
        intro v hnl hv
        obtain ⟨v, rfl⟩ : ∃ w, v = w + 1 := ⟨v - 1, by omega⟩
        have hne : (vA T k n).2.2.2 ≠ nI s := by
          intro eo
          rcases hV4 k n hk (by omega) with h1 | ⟨o, ho, h1, h2, h3⟩
          · rw [h1] at eo; exact neN1 (by omega) eo.symm
          · have : s = o := by rw [eo, eqI (by omega) (by omega)] at h1; exact h1
            subst this
            have := hn n (by omega)
            simp [h3] at this
        have step : fM_readable_21 u g (nI s) (nI k) (iz (-1), nI (n + 1) - nI 1) = some (.inl ((if rdP T s k n = true then nI n else iz (-1)), nI n - nI 1)) := by
          unfold fM_readable_21
          simp (disch := omega) only [fM_ofSeat, fM_of, fM_keyAt, fM_many, fM_cell, fM_its, izN, nI_add, mulI, rdM, mWr7, mRow_s, mRow_m, mRow_2, Option.bind_some, decI, ltI, h.q.st, h.q.v1, h.q.v4, m1I]
          rw [if_neg (by omega), if_pos trivial]
          unfold rdP
          simp only [ltN]
          grind [i10]
        rw [it_on step]
        unfold lst
        by_cases c : rdP T s k n = true
        · rw [if_pos c, if_pos c]
          refine it_end ?_ (by omega)
          unfold fM_readable_21
          cases n with
          | zero => rw [zero_dec]; rfl
          | succ m =>
            simp (disch := omega) only [fM_ofSeat, fM_of, fM_keyAt, fM_many, fM_cell, fM_its, izN, nI_add, mulI, rdM, mWr7, mRow_s, mRow_m, mRow_2, Option.bind_some, decI, ltI]
            rw [if_neg (by omega), if_neg (neN1 (by omega))]
            rfl
        · rw [if_neg c, if_neg c]
          exact ih v (by omega) (by omega)
    have := key (tVs T k).length u (Nat.le_refl _) (by omega)
    simp only [Option.elim]
    rw [this, show lst (rdP T s k) (tVs T k).length = some i from hi]
    rfl
theorem M_doom {u : Nat} (hu : 1000 ≤ u) {g0 : mS} {R : ER} {m0 : Int32} {tr : Option (Nat → Int32)} {D : Nat → List De} {g : mS} {T : ET} (h : RM g0 R m0 tr D g T) {k : Nat} (hV : ∀ i, i < (tVs T k).length → (vA T k i).2.2.2 = iz (-1) ∨ ∃ s, s < 8 ∧ (vA T k i).2.2.2 = nI s) {s : Nat} (hs : s < 8) (hk : k < 6) (a : Int32) : ok (fM_doom u g (nI s) (nI k) a) (fun g' => RM g0 R m0 tr D g' (doomT T (tVs T k) a (tSd T 1 s))) := by
  have hl := h.q.l9 hk
  unfold fM_doom
  refine ok.bd (it_inv (Q := fun g' => RM g0 R m0 tr D g' (doomT T (tVs T k) a (tSd T 1 s))) (fun i x => x.1 = nI i ∧ tSd (doomT T ((tVs T k).take i) a (tSd T 1 s)) 1 s = tSd T 1 s ∧ RM g0 R m0 tr D x.2 (doomT T ((tVs T k).take i) a (tSd T 1 s))) (tVs T k).length (fun i x hi hI => ?_) (fun x hI => ?_) (i := 0) ⟨rfl, rfl, h⟩ (by omega) (by omega)) (fun f' hf' => ok.ret hf')
  · obtain ⟨e, es, hx⟩ := hI
    have e2 := tVs_of (doomT_2 (T := T) (l := (tVs T k).take i) (a := a) (b := tSd T 1 s)) k
    have hv := vA_eq hi
    have ev := vA_of (doomT_2 (T := T) (l := (tVs T k).take i) (a := a) (b := tSd T 1 s)) k i
    have hi2 : i < (tVs (doomT T ((tVs T k).take i) a (tSd T 1 s)) k).length := by rw [e2]; exact hi
    unfold fM_doom_3
    simp (disch := omega) only [fM_ofSeat, fM_of, fM_keyAt, fM_many, fM_cell, fM_its, izN, nI_add, mulI, rdM, mWr7, mRow_s, mRow_m, mRow_2, Option.bind_some, e, leI, hx.q.mn, hx.q.v1 hk hi2, hx.q.v4 hk hi2, e2, ev, hx.q.st, es]
    rw [if_neg (by omega)]
    have key : ∀ f', RM g0 R m0 tr D f' (doom1 a (tSd T 1 s) (doomT T ((tVs T k).take i) a (tSd T 1 s)) (vA T k i)) → ok (some (.inl (nI (i + 1), f')) : Option ((Int32 × mS) ⊕ mS)) (Sum.elim (fun x => x.1 = nI (i + 1) ∧ tSd (doomT T ((tVs T k).take (i + 1)) a (tSd T 1 s)) 1 s = tSd T 1 s ∧ RM g0 R m0 tr D x.2 (doomT T ((tVs T k).take (i + 1)) a (tSd T 1 s))) (fun f' => RM g0 R m0 tr D f' (doomT T (tVs T k) a (tSd T 1 s)))) := by
      intro f' hf'
      refine ok.ret ⟨rfl, ?_, by rw [doomT_take hv]; exact hf'⟩
      rw [doomT_take hv]
      unfold doom1
      split
      · rw [g_sd, if_neg (by omega)]
        exact es
      · exact es
    unfold doom1 at key
    rcases hV i hi with c0 | ⟨o, ho, eo⟩
    · rw [if_pos c0]
      refine key _ ?_
      rw [if_neg (by rw [c0, inR_N1]; simp)]
      exact hx
    · rw [eo, if_neg (neN1 (by omega))]
      rw [eo, inR_nI (by omega), nI_back (by omega)] at key
      by_cases c1 : (vA T k i).1 ≤ a
      · rw [if_pos c1]
        refine key _ ?_
        rw [if_neg (by simp only [ltN]; grind)]
        exact hx
      · rw [if_neg c1]
        by_cases c2 : tSd T 1 s ≤ (vA T k i).1
        · rw [if_pos c2]
          refine key _ ?_
          rw [if_neg (by simp only [ltN]; grind)]
          exact hx
        · rw [if_neg c2]
          simp (disch := omega) only [fM_ofSeat, fM_of, fM_keyAt, fM_many, fM_cell, fM_its, izN, nI_add, mulI, rdM, mWr7, mRow_s, mRow_m, mRow_2, Option.bind_some]
          refine key _ ?_
          rw [if_pos ⟨by rw [ltN]; exact c1, by rw [ltN]; exact c2, by simpa using ho⟩]
          exact hx.h7 rfl (hx.q.sd (c := 4) (by omega) ho (nI 1))
  · obtain ⟨e, es, hx⟩ := hI
    unfold fM_doom_3
    have e2 := tVs_of (doomT_2 (T := T) (l := (tVs T k).take (tVs T k).length) (a := a) (b := tSd T 1 s)) k
    simp (disch := omega) only [fM_ofSeat, fM_of, fM_keyAt, fM_many, fM_cell, fM_its, izN, nI_add, mulI, rdM, mWr7, mRow_s, mRow_m, mRow_2, Option.bind_some, e, leI, hx.q.mn, e2]
    rw [List.take_length] at hx
    rw [if_pos (by omega)]
    exact ok.ret hx
theorem M_addDeed {u : Nat} (hu : 1000 ≤ u) {g0 : mS} {R : ER} {m0 : Int32} {tr : Option (Nat → Int32)} {D : Nat → List De} {g : mS} {T : ET} (h : RM g0 R m0 tr D g T) {s : Nat} (hs : s < 8) (a b c : Int32) : ok (fM_addDeed u g (nI s) a b c) (fun g' => RM g0 R m0 tr (setD D s (deedL (D s) (a, b, c))) g' T) := by
  obtain ⟨h1, h2, h3⟩ := h.q.dd hs
  unfold fM_addDeed
  simp (disch := omega) only [fM_ofSeat, fM_of, fM_keyAt, fM_many, fM_cell, fM_its, izN, nI_add, mulI, rdM, mWr7, mRow_s, mRow_m, mRow_2, Option.bind_some, h2, eqI]
  by_cases hl : (D s).length = 12
  · rw [if_pos hl]
    refine ok.ret (h.to rfl ?_)
    funext s'
    unfold setD deedL
    have hn : ¬ (D s).length < 12 := by omega
    rw [if_neg hn]
    split
    · next e => rw [e]
    · rfl
  · rw [if_neg hl]
    simp (disch := omega) only [upd_n, h2, fM_ofSeat, fM_of, fM_keyAt, fM_many, fM_cell, fM_its, izN, nI_add, mulI, rdM, mWr7, mRow_s, mRow_m, mRow_2, Option.bind_some]
    have hl' : (D s).length < 12 := by omega
    refine ok.ret (h.h7 rfl (h.q.ds hs ⟨?_, ?_, fun i x hi => ?_⟩ (fun j hj => ?_)))
    · unfold deedL; rw [if_pos hl']; simp; omega
    · unfold deedL; rw [if_pos hl', upd_s]; simp
    · unfold deedL at hi
      rw [if_pos hl'] at hi
      rcases getE_snoc hi with ⟨a', b'⟩ | ⟨a', b'⟩
      · obtain ⟨p, q, r⟩ := h3 i x b'
        refine ⟨?_, ?_, ?_⟩
        · rw [upd_n (by omega), upd_n (by omega), upd_n (by omega), upd_n (by omega)]; exact p
        · rw [upd_n (by omega), upd_n (by omega), upd_n (by omega), upd_n (by omega)]; exact q
        · rw [upd_n (by omega), upd_n (by omega), upd_n (by omega), upd_n (by omega)]; exact r
      · subst a' b'
        refine ⟨?_, ?_, ?_⟩
        · rw [upd_n (by omega), upd_n (by omega), upd_n (by omega), upd_s]
        · rw [upd_n (by omega), upd_n (by omega), upd_s]
        · rw [upd_n (by omega), upd_s]
    · rw [upd_n (by omega), upd_n (by omega), upd_n (by omega), upd_n (by omega)]
theorem blkM.set {f : Nat → Int32} {k i : Nat} {l : List Vr} {v v' : Vr} (h : blkM f k l) (hi : l[i]? = some v) {f' : Nat → Int32} (h0 : ∀ j, (j < 384 + 37 * k + 4 * i + 1 ∨ 384 + 37 * k + 4 * i + 5 ≤ j) → f' j = f j) (h1 : f' (384 + 37 * k + 4 * i + 1) = v'.1 ∧ f' (384 + 37 * k + 4 * i + 2) = v'.2.1 ∧ f' (384 + 37 * k + 4 * i + 3) = v'.2.2.1 ∧ f' (384 + 37 * k + 4 * i + 4) = v'.2.2.2) : blkM f' k (l.set i v') := by
  obtain ⟨g1, g2, g3⟩ := h
  refine ⟨by rw [List.length_set]; exact g1, by rw [List.length_set, h0 _ (by omega)]; exact g2, fun j w hj => ?_⟩
  have hlt : i < l.length := (List.getElem?_eq_some_iff.mp hi).1
  by_cases e : i = j
  · subst e
    rw [List.getElem?_set_self hlt] at hj
    cases hj
    exact h1
  · rw [List.getElem?_set_ne e] at hj
    obtain ⟨a', b', c', d'⟩ := g3 j w hj
    exact ⟨by rw [h0 _ (by omega)]; exact a', by rw [h0 _ (by omega)]; exact b', by rw [h0 _ (by omega)]; exact c', by rw [h0 _ (by omega)]; exact d'⟩
theorem rM.seen {tr : Option (Nat → Int32)} {D : Nat → List De} {f : Nat → Int32} {T : ET} (h : rM tr D f T) {k i : Nat} (hk : k < 6) (hi : i < (tVs T k).length) (x : Int32) : rM tr D (upd f (384 + 37 * k + 4 * i + 3) x) (sVs T k ((tVs T k).set i ((vA T k i).1, (vA T k i).2.1, x, (vA T k i).2.2.2))) := by
  have hl := h.l9 hk
  exact h.vs hk ((h.bb hk).set (vA_eq hi) (fun j hj => upd_n (by omega)) ⟨by rw [upd_n (by omega)]; exact h.v1 hk hi, by rw [upd_n (by omega)]; exact h.v2 hk hi, upd_s, by rw [upd_n (by omega)]; exact h.v4 hk hi⟩) (fun j hj => upd_n (by omega))
theorem rM.valu {tr : Option (Nat → Int32)} {D : Nat → List De} {f : Nat → Int32} {T : ET} (h : rM tr D f T) {k i : Nat} (hk : k < 6) (hi : i < (tVs T k).length) (x : Int32) : rM tr D (upd f (384 + 37 * k + 4 * i + 2) x) (sVs T k ((tVs T k).set i ((vA T k i).1, x, (vA T k i).2.2.1, (vA T k i).2.2.2))) := by
  have hl := h.l9 hk
  exact h.vs hk ((h.bb hk).set (vA_eq hi) (fun j hj => upd_n (by omega)) ⟨by rw [upd_n (by omega)]; exact h.v1 hk hi, upd_s, by rw [upd_n (by omega)]; exact h.v3 hk hi, by rw [upd_n (by omega)]; exact h.v4 hk hi⟩) (fun j hj => upd_n (by omega))
theorem rM.ownr {tr : Option (Nat → Int32)} {D : Nat → List De} {f : Nat → Int32} {T : ET} (h : rM tr D f T) {k i : Nat} (hk : k < 6) (hi : i < (tVs T k).length) (x : Int32) : rM tr D (upd f (384 + 37 * k + 4 * i + 4) x) (sVs T k ((tVs T k).set i ((vA T k i).1, (vA T k i).2.1, (vA T k i).2.2.1, x))) := by
  have hl := h.l9 hk
  exact h.vs hk ((h.bb hk).set (vA_eq hi) (fun j hj => upd_n (by omega)) ⟨by rw [upd_n (by omega)]; exact h.v1 hk hi, by rw [upd_n (by omega)]; exact h.v2 hk hi, by rw [upd_n (by omega)]; exact h.v3 hk hi, upd_s⟩) (fun j hj => upd_n (by omega))
theorem M_readNow {u : Nat} (hu : 1000 ≤ u) {g0 : mS} {R : ER} {m0 : Int32} {tr : Option (Nat → Int32)} {D : Nat → List De} {g : mS} {T : ET} (h : RM g0 R m0 tr D g T) (hW : WF R T) {s k i : Nat} (hs : s < 8) (hk : k < 6) (hlv : lvT T s = true) (hi : rdI T s k = some i) : ok (fM_readNow u g (nI s) (nI k)) (fun r => r.1 = (vA T k i).2.1 ∧ RM g0 R m0 tr (setD D s (deedL (D s) (nI 1, nI k, iz (-1)))) r.2 (readT T s k i)) := by
  have hl := h.q.l9 hk
  have hi' := (lst_some hi).1
  have hq := h.q
  have hiff : (vA T k i).1 = tSd T 1 s ↔ (vA T k i).2.2.2 = nI s := by
    obtain ⟨hR, ⟨hri, hV2, hV3, hV4, hV5, -⟩, -⟩ := hW
    constructor
    · exact hV5 k i s hk hi' hs hlv
    · intro eo
      rcases hV4 k i hk hi' with h1 | ⟨o, ho, h1, h2, h3⟩
      · rw [h1] at eo; exact absurd eo.symm (neN1 (by omega))
      · have : s = o := by rw [eo, eqI (by omega) (by omega)] at h1; exact h1
        subst this
        exact h3
  unfold fM_readNow
  rw [M_readable hu h hW hs hk hlv hi]
  simp (disch := omega) only [fM_ofSeat, fM_of, fM_keyAt, fM_many, fM_cell, fM_its, izN, nI_add, mulI, rdM, mWr7, mRow_s, mRow_m, mRow_2, Option.bind_some, hq.v1, hq.st, hiff, hq.v3, upd_n, hq.v4]
  refine ok.bd (P := fun f' => RM g0 R m0 tr D f' (if (vA T k i).2.2.2 = nI s then T else leaveT T s k i)) ?_ (fun f' hf' => ?_)
  · by_cases c : (vA T k i).2.2.2 = nI s
    · rw [if_pos c]
      exact ok.ret (by rw [if_pos c]; exact h)
    · rw [if_neg c, if_neg c]
      have h1 := h.h7 (T' := lvA T s k i) rfl ((hq.seen hk hi' (maxI (vA T k i).2.2.1 (tSd T 1 s))).rk hs hk (vA T k i).1)
      have hv2 := vA_lvA (s := s) hi'
      unfold leaveT
      by_cases c1 : tSd T 2 s = nI 0
      · rw [if_pos c1, if_pos c1]
        refine (M_doom hu h1 (k := k) (fun j hj => ?_) hs hk _).bd (fun f' hf' => ok.ret hf')
        rw [tVs_lvA, List.length_set] at hj
        rw [hv2 j]
        have hj4 := hW.2.1.2.2.2.1 k j hk hj
        split
        · next ej =>
          rw [ej] at hj4
          rcases hj4 with h1 | ⟨o, ho, h1, h2, h3⟩
          · exact Or.inl h1
          · exact Or.inr ⟨o, ho, h1⟩
        · rcases hj4 with h1 | ⟨o, ho, h1, h2, h3⟩
          · exact Or.inl h1
          · exact Or.inr ⟨o, ho, h1⟩
      · rw [if_neg c1, if_neg c1]
        by_cases c2 : (vA T k i).2.2.2 = iz (-1)
        · rw [if_pos c2, if_pos c2]
          exact ok.ret h1
        · rw [if_neg c2, if_neg c2]
          have h2 := h1.h7 (T' := sSd (lvA T s k i) 3 s (tSd T 3 s ||| (nI 1 <<< ((vA T k i).2.2.2 &&& 31)))) rfl (h1.q.sd (c := 3) (by omega) hs (tSd T 3 s ||| (nI 1 <<< ((vA T k i).2.2.2 &&& 31))))
          rw [mRow_m, mRow_s] at h2
          exact ok.ret h2
  · have e2 : tVs (if (vA T k i).2.2.2 = nI s then T else leaveT T s k i) k = if (vA T k i).2.2.2 = nI s then tVs T k else (tVs T k).set i ((vA T k i).1, (vA T k i).2.1, maxI (vA T k i).2.2.1 (tSd T 1 s), (vA T k i).2.2.2) := by
      split
      · rfl
      · rw [tVs_of leaveT_vs, tVs_lvA]
    have e3 : i < (tVs (if (vA T k i).2.2.2 = nI s then T else leaveT T s k i) k).length := by
      rw [e2]; split
      · exact hi'
      · rw [List.length_set]; exact hi'
    have e4 : (vA (if (vA T k i).2.2.2 = nI s then T else leaveT T s k i) k i).2.1 = (vA T k i).2.1 := by
      split
      · rfl
      · rw [vA_of leaveT_vs, vA_lvA hi', if_pos rfl]
    refine (M_addDeed hu hf' hs _ _ _).bd (fun f2 h2 => ?_)
    refine (M_note hu h2 _ _ _).bd (fun f3 h3 => ?_)
    exact ok.ret ⟨(h3.q.v2 hk e3).trans e4, h3⟩
