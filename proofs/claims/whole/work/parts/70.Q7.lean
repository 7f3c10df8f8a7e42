/-! ===== from which stamp on one could still write ===== -/
def mkN (T : ET) (k i : Nat) : Nat := (vA T k i).1.toInt.toNat
def snN (T : ET) (k i : Nat) : Nat := (vA T k i).2.2.1.toInt.toNat
def ltN' (T : ET) (k x i : Nat) : Bool := decide (mkN T k i ≤ x ∧ x < snN T k i)
/-- x is too late -/
def ltX (T : ET) (k x : Nat) : Bool := anyP (ltN' T k x) (tVs T k).length
/-- x is a stamp at which one could write -/
def okX (T : ET) (k x : Nat) : Bool := decide (1 ≤ x) && ! ltX T k x
def clN (T : ET) : Nat := (tCk T).toInt.toNat
theorem mk_n {R : ER} {T : ET} (hW : WF R T) {k i : Nat} (hk : k < 6) (hi : i < (tVs T k).length) : (vA T k i).1 = nI (mkN T k i) ∧ (vA T k i).2.2.1 = nI (snN T k i) ∧ mkN T k i ≤ snN T k i ∧ snN T k i ≤ clN T := by
  obtain ⟨h1, h2, h3⟩ := hW.2.1.2.2.2.2.2.1 k i hk hi
  have c1 := hW.2.2.2.1
  have c2 := hW.2.2.2.2.1
  obtain ⟨n, hn, e⟩ := usd_n hW h1
  obtain ⟨m, hm, e2⟩ := inR_of (x := (vA T k i).2.2.1) (b := 10000) (by
    unfold inR
    rw [decide_eq_true_eq]
    have := h1.1
    omega)
  unfold mkN snN clN
  rw [e, e2] at h2 ⊢
  rw [e2] at h3
  rw [toI (by omega)] at h3
  rw [toI (by omega), toI (by omega)] at h2
  rw [toI (by omega), toI (by omega)]
  refine ⟨rfl, rfl, by omega, by omega⟩
theorem cl_n {R : ER} {T : ET} (hW : WF R T) : tCk T = nI (clN T) ∧ clN T ≤ 9999 := by
  have c1 := hW.2.2.2.1
  have c2 := hW.2.2.2.2.1
  obtain ⟨n, hn, e⟩ := inR_of (x := tCk T) (b := 10000) (by
    unfold inR
    rw [decide_eq_true_eq]
    omega)
  unfold clN
  rw [e, toI (by omega)]
  exact ⟨rfl, by omega⟩
theorem mk_lt {R : ER} {T : ET} (hW : WF R T) {k i j : Nat} (hk : k < 6) (hij : i < j) (hj : j < (tVs T k).length) : mkN T k i < mkN T k j := by
  have h := hW.2.1.1 k hk i j hij hj
  have h1 := (hW.2.1.2.2.2.2.2.1 k i hk (by omega)).1.1
  have h : (vA T k i).1.toInt < (vA T k j).1.toInt := h
  unfold mkN
  omega
theorem ltX_iff {T : ET} {k x : Nat} : ltX T k x = true ↔ ∃ i, i < (tVs T k).length ∧ mkN T k i ≤ x ∧ x < snN T k i := by
  unfold ltX
  rw [anyP_iff]
  constructor
  · rintro ⟨i, hi, h⟩
    exact ⟨i, hi, of_decide_eq_true h⟩
  · rintro ⟨i, hi, h⟩
    exact ⟨i, hi, decide_eq_true h⟩
theorem ltX_cl {R : ER} {T : ET} (hW : WF R T) {k x : Nat} (hk : k < 6) (h : ltX T k x = true) : x < clN T := by
  obtain ⟨i, hi, h1, h2⟩ := ltX_iff.mp h
  have := (mk_n hW hk hi).2.2.2
  omega
theorem cnt_run {p : Nat → Bool} {a : Nat} (b : Nat) : ∀ n, (∀ x, a ≤ x → x < a + n → p x = (decide (b = 1))) → b ≤ 1 → cnt p (a + n) = cnt p a + b * n := by
  intro n
  induction n with
  | zero => intro _ _; simp
  | succ n ih =>
    intro h hb
    show cnt p (a + n) + (if p (a + n) = true then 1 else 0) = _
    rw [ih (fun x h1 h2 => h x h1 (by omega)) hb, h (a + n) (by omega) (by omega)]
    obtain rfl | rfl : b = 0 ∨ b = 1 := by omega
    · simp
    · simp; omega
theorem cnt_no {p : Nat → Bool} {a c : Nat} (h : a ≤ c) (hp : ∀ x, a ≤ x → x < c → p x = false) : cnt p c = cnt p a := by
  have := cnt_run (p := p) (a := a) 0 (c - a) (fun x h1 h2 => by rw [hp x h1 (by omega)]; rfl) (by omega)
  rw [show a + (c - a) = c by omega] at this
  omega
theorem cnt_yes {p : Nat → Bool} {a c : Nat} (h : a ≤ c) (hp : ∀ x, a ≤ x → x < c → p x = true) : cnt p c = cnt p a + (c - a) := by
  have := cnt_run (p := p) (a := a) 1 (c - a) (fun x h1 h2 => by rw [hp x h1 (by omega)]; rfl) (by omega)
  rw [show a + (c - a) = c by omega] at this
  omega
/-- the least stamp at which one could write -/
def lsX (T : ET) (k y : Nat) : Prop := okX T k y = true ∧ cnt (okX T k) y = 0
theorem lsX_eq {T : ET} {k a b : Nat} (h1 : lsX T k a) (h2 : lsX T k b) : a = b := by
  have key : ∀ a b, lsX T k a → lsX T k b → ¬ a < b := by
    intro a b h1 h2 hlt
    have := cnt_lt (p := okX T k) (q := fun _ => false) (s := a) b (fun _ _ h => by cases h) hlt h1.1 rfl
    rw [h2.2] at this
    omega
  have := key a b h1 h2
  have := key b a h2 h1
  omega
theorem okX_0 {T : ET} {k : Nat} : cnt (okX T k) 1 = 0 := rfl
theorem maxN' {a b : Nat} (ha : a < 1000000) (hb : b < 1000000) : (if nI a < nI b then nI b else nI a) = nI (max a b) := by
  have e := ltI (a := a) (b := b) (by omega) (by omega)
  by_cases c : a < b
  · rw [if_pos (e.mpr c), Nat.max_eq_right (by omega)]
  · rw [if_neg (fun hh => c (e.mp hh)), Nat.max_eq_left (by omega)]
/-! World's sweep -/
theorem W_timely {u : Nat} (hu : 1000 ≤ u) {R : ER} {w0 : Int32} {D : Nat → List De} {f : Nat → Int32} {T : ET} (h : RW R w0 D f T) (hW : WF R T) {k : Nat} (hk : k < 6) : ∃ y, lsX T k y ∧ y ≤ 10000 ∧ fW_timely u f (nI k) (nI 0) = some (nI y) ∧ fW_timely u f (nI k) (nI 1) = some (nI (cnt (okX T k) (clN T + 2))) := by
  have h9 := h.l9 hk
  obtain ⟨ec, hc⟩ := cl_n hW
  have hlp : ok (nx_iter u (fW_timely_17 f (nI k)) (iz (-1), nI 0, nI 1, nI 0)) (fun r => ∃ y, 1 ≤ y ∧ y ≤ clN T + 1 ∧ r.2.2 = nI y ∧ r.2.1 = nI (cnt (okX T k) y) ∧ (∀ i, i < (tVs T k).length → snN T k i ≤ y) ∧ ((r.1 = iz (-1) ∧ cnt (okX T k) y = 0) ∨ ∃ z, r.1 = nI z ∧ z ≤ 10000 ∧ lsX T k z)) := by
    refine it_inv (fun i x => x.2.2.2 = nI i ∧ ∃ y, 1 ≤ y ∧ y ≤ clN T + 1 ∧ x.2.2.1 = nI y ∧ x.2.1 = nI (cnt (okX T k) y) ∧ (∀ j, j < i → snN T k j ≤ y) ∧ ((x.1 = iz (-1) ∧ cnt (okX T k) y = 0) ∨ ∃ z, x.1 = nI z ∧ z ≤ 10000 ∧ lsX T k z)) (tVs T k).length (fun i x hi hI => ?_) (fun x hI => ?_) (i := 0) ⟨rfl, 1, by omega, by omega, rfl, rfl, fun j hj => by omega, Or.inl ⟨rfl, okX_0⟩⟩ (by omega) (by omega)
    · obtain ⟨e1, y, y1, y2, e2, e3, hs, hl⟩ := hI
      obtain ⟨m1, m2, m3, m4⟩ := mk_n hW hk hi
      have lc := cnt_le (p := okX T k) y
      have hgap : ∀ z, y ≤ z → z < mkN T k i → okX T k z = true := by
        intro z z1 z2
        unfold okX
        have : ltX T k z = false := by
          cases e : ltX T k z with
          | false => rfl
          | true =>
            obtain ⟨j, hj, a1, a2⟩ := ltX_iff.mp e
            by_cases c : j < i
            · have := hs j c; omega
            · by_cases c2 : j = i
              · subst c2; omega
              · have := mk_lt hW hk (show i < j by omega) hj; omega
        rw [this]
        simp
        omega
      have hlate : ∀ z, mkN T k i ≤ z → z < snN T k i → okX T k z = false := by
        intro z z1 z2
        unfold okX
        rw [ltX_iff.mpr ⟨i, hi, z1, z2⟩]
        simp
      unfold fW_timely_17
      rw [e1, e2, e3]
      simp (disch := omega) only [izN, nI_add, mulI, rdW, wrW, Option.bind_some, h.mn, leI, h.v1, h.v3, m1, m2]
      rw [if_neg (by omega), if_neg (by omega)]
      by_cases c : mkN T k i ≤ y
      · rw [if_pos c]
        simp (disch := omega) only [Option.bind_some]
        rw [maxN' (by omega) (by omega)]
        have ec2 : cnt (okX T k) (max y (snN T k i)) = cnt (okX T k) y := cnt_no (by omega) (fun z z1 z2 => hlate z (by omega) (by omega))
        refine ok.ret ⟨rfl, max y (snN T k i), by omega, by omega, rfl, ?_, fun j hj => ?_, ?_⟩
        · show nI _ = nI _
          rw [ec2]
        · by_cases e : j = i
          · subst e; omega
          · have := hs j (by omega); omega
        · rw [ec2]
          exact hl
      · rw [if_neg c]
        have el : (if x.1 = iz (-1) then some (nI y) else some x.1) = some (if x.1 = iz (-1) then nI y else x.1) := by split <;> rfl
        rw [el]
        simp (disch := omega) only [Option.bind_some]
        rw [maxN' (by omega) (by omega)]
        have ec1 : cnt (okX T k) (mkN T k i) = cnt (okX T k) y + (mkN T k i - y) := cnt_yes (by omega) (fun z z1 z2 => hgap z z1 z2)
        have ec2 : cnt (okX T k) (max (mkN T k i) (snN T k i)) = cnt (okX T k) (mkN T k i) := cnt_no (by omega) (fun z z1 z2 => hlate z (by omega) (by omega))
        refine ok.ret ⟨rfl, max (mkN T k i) (snN T k i), by omega, by omega, rfl, ?_, fun j hj => ?_, ?_⟩
        · show nI _ + (nI _ - nI _) = nI _
          rw [subI (by omega), nI_add, ec2, ec1]
        · by_cases e : j = i
          · subst e; omega
          · have := hs j (by omega); omega
        · right
          rcases hl with ⟨e, h0⟩ | ⟨z, e, z1, z2⟩
          · refine ⟨y, ?_, by omega, hgap y (by omega) (by omega), h0⟩
            show (if x.1 = iz (-1) then nI y else x.1) = _
            rw [if_pos e]
          · refine ⟨z, ?_, z1, z2⟩
            show (if x.1 = iz (-1) then nI y else x.1) = _
            rw [if_neg (by rw [e]; exact neN1 (by omega)), e]
    · obtain ⟨e1, y, y1, y2, e2, e3, hs, hl⟩ := hI
      unfold fW_timely_17
      rw [e1]
      simp (disch := omega) only [izN, nI_add, mulI, rdW, wrW, Option.bind_some, h.mn, leI]
      refine ok.ite (fun _ => ok.ret ⟨y, y1, y2, e2, e3, hs, hl⟩) (fun _ => ?_)
      rw [if_pos (by omega)]
      exact ok.ret ⟨y, y1, y2, e2, e3, hs, hl⟩
  obtain ⟨r, er, y, y1, y2, e2, e3, hs, hl⟩ := hlp
  have hgap : ∀ z, y ≤ z → okX T k z = true := by
    intro z z1
    unfold okX
    have : ltX T k z = false := by
      cases e : ltX T k z with
      | false => rfl
      | true =>
        obtain ⟨j, hj, a1, a2⟩ := ltX_iff.mp e
        have := hs j hj
        omega
    rw [this]
    simp
    omega
  have ecl : cnt (okX T k) (clN T + 2) = cnt (okX T k) y + (clN T + 2 - y) := cnt_yes (by omega) (fun z z1 _ => hgap z z1)
  have hz : ∃ z, lsX T k z ∧ z ≤ 10000 ∧ (if r.1 = iz (-1) then some r.2.2 else some r.1) = some (nI z) := by
    rcases hl with ⟨e, h0⟩ | ⟨z, e, z1, z2⟩
    · exact ⟨y, ⟨hgap y (Nat.le_refl _), h0⟩, by omega, by rw [if_pos e, e2]⟩
    · exact ⟨z, z2, z1, by rw [if_neg (by rw [e]; exact neN1 (by omega)), e]⟩
  obtain ⟨z, z1, z2, ez⟩ := hz
  refine ⟨z, z1, z2, ?_, ?_⟩
  · unfold fW_timely
    simp only [izN] at er ⊢
    rw [er]
    simp only [Option.bind_some]
    rw [ez]
    simp (disch := omega) only [izN, nI_add, mulI, rdW, wrW, Option.bind_some, if_true]
  · unfold fW_timely
    simp only [izN] at er ⊢
    rw [er]
    simp only [Option.bind_some]
    rw [ez]
    simp (disch := omega) only [izN, nI_add, mulI, rdW, wrW, Option.bind_some, i10, if_false, h.cc, ec, e2, e3]
    rw [subI (by omega)]
    simp only [nI_add]
    congr 2
    omega
/-! Model's spans -/
theorem M_late_p {u : Nat} (hu : 1000 ≤ u) {g0 : mS} {R : ER} {m0 : Int32} {tr : Option (Nat → Int32)} {D : Nat → List De} {g : mS} {T : ET} (h : RM g0 R m0 tr D g T) (hW : WF R T) {k : Nat} (hk : k < 6) (x : Nat) (hx : x ≤ 10001) : ok (nx_iter u (fM_firstSince_16 u g (nI k)) (nI x, nI 0, nI 0)) (fun r => ∃ y, x ≤ y ∧ y ≤ 10001 ∧ y ≤ max x (clN T) ∧ r.1 = nI y ∧ (∀ z, x ≤ z → z < y → ltX T k z = true) ∧ ((r.2 = nI 0 ∧ y = x ∧ ltX T k y = false) ∨ (r.2 = nI 1 ∧ x < y))) := by
  have h9 := h.q.l9 hk
  obtain ⟨ec, hc⟩ := cl_n hW
  refine it_inv (fun i s => s.2.2 = nI i ∧ ∃ y, x ≤ y ∧ y ≤ 10001 ∧ y ≤ max x (clN T) ∧ s.1 = nI y ∧ (∀ z, x ≤ z → z < y → ltX T k z = true) ∧ ((s.2.1 = nI 0 ∧ y = x ∧ ∀ j, j < i → ¬ (mkN T k j ≤ x ∧ x < snN T k j)) ∨ (s.2.1 = nI 1 ∧ x < y))) (tVs T k).length (fun i s hi hI => ?_) (fun s hI => ?_) (i := 0) ⟨rfl, x, Nat.le_refl _, hx, by omega, rfl, fun z z1 z2 => by omega, Or.inl ⟨rfl, rfl, fun j hj => by omega⟩⟩ (by omega) (by omega)
  · obtain ⟨e1, y, y1, y2, y3, e2, hz, hl⟩ := hI
    obtain ⟨m1, m2, m3, m4⟩ := mk_n hW hk hi
    unfold fM_firstSince_16
    rw [e1, e2]
    simp (disch := omega) only [fM_ofSeat, fM_of, fM_keyAt, fM_many, fM_cell, fM_its, izN, nI_add, mulI, rdM, mWr7, mRow_s, mRow_m, mRow_2, Option.bind_some, h.q.mn, leI, ltI, h.q.v1, h.q.v3, m1, m2]
    rw [if_neg (by omega)]
    by_cases c1 : y < mkN T k i
    · rw [if_pos c1]
      refine ok.ret ⟨rfl, y, y1, y2, y3, rfl, hz, ?_⟩
      rcases hl with ⟨a, b, d⟩ | hl
      · refine Or.inl ⟨a, b, fun j hj => ?_⟩
        by_cases e : j = i
        · subst e; omega
        · exact d j (by omega)
      · exact Or.inr hl
    · rw [if_neg c1]
      by_cases c2 : snN T k i ≤ y
      · rw [if_pos c2]
        refine ok.ret ⟨rfl, y, y1, y2, y3, rfl, hz, ?_⟩
        rcases hl with ⟨a, b, d⟩ | hl
        · refine Or.inl ⟨a, b, fun j hj => ?_⟩
          by_cases e : j = i
          · subst e; omega
          · exact d j (by omega)
        · exact Or.inr hl
      · rw [if_neg c2]
        refine ok.ret ⟨rfl, snN T k i, by omega, by omega, by omega, rfl, fun z z1 z2 => ?_, Or.inr ⟨rfl, by omega⟩⟩
        by_cases c3 : z < y
        · exact hz z z1 c3
        · exact ltX_iff.mpr ⟨i, hi, by omega, z2⟩
  · obtain ⟨e1, y, y1, y2, y3, e2, hz, hl⟩ := hI
    unfold fM_firstSince_16
    rw [e1]
    simp (disch := omega) only [fM_ofSeat, fM_of, fM_keyAt, fM_many, fM_cell, fM_its, izN, nI_add, mulI, rdM, mWr7, mRow_s, mRow_m, mRow_2, Option.bind_some, h.q.mn, leI]
    rw [if_pos (by omega)]
    refine ok.ret ⟨y, y1, y2, y3, e2, hz, ?_⟩
    rcases hl with ⟨a, b, d⟩ | hl
    · refine Or.inl ⟨a, b, ?_⟩
      cases e : ltX T k y with
      | false => rfl
      | true =>
        obtain ⟨j, hj, a1, a2⟩ := ltX_iff.mp e
        rw [b] at a1 a2
        exact absurd ⟨a1, a2⟩ (d j hj)
    · exact Or.inr hl
theorem M_firstSince {u : Nat} (hu : 1000 ≤ u) {g0 : mS} {R : ER} {m0 : Int32} {tr : Option (Nat → Int32)} {D : Nat → List De} {g : mS} {T : ET} (h : RM g0 R m0 tr D g T) (hW : WF R T) (hu2 : 20000 ≤ u) {k : Nat} (hk : k < 6) {x : Nat} (hx : x ≤ 10001) : ∃ y, x ≤ y ∧ y ≤ max x (clN T) ∧ fM_firstSince u g (nI k) (nI x) = some (nI y) ∧ ltX T k y = false ∧ ∀ z, x ≤ z → z < y → ltX T k z = true := by
  obtain ⟨ec, hc⟩ := cl_n hW
  have hlp : ∃ r, nx_iter u (fM_firstSince_5 u g (nI k)) (nI x, nI 1) = some r ∧ ∃ y, x ≤ y ∧ y ≤ max x (clN T) ∧ r = nI y ∧ ltX T k y = false ∧ ∀ z, x ≤ z → z < y → ltX T k z = true := by
    refine it_run (fun q s => ∃ y, x ≤ y ∧ y ≤ 10001 ∧ y ≤ max x (clN T) ∧ s.1 = nI y ∧ (∀ z, x ≤ z → z < y → ltX T k z = true) ∧ ((s.2 = nI 1 ∧ q = 10002 - y) ∨ (s.2 = nI 0 ∧ ltX T k y = false))) _ (fun q s hs => ?_) u (10002 - x) (nI x, nI 1) ⟨x, Nat.le_refl _, hx, by omega, rfl, fun z z1 z2 => by omega, Or.inl ⟨rfl, rfl⟩⟩ (by omega)
    obtain ⟨y, y1, y2, y3, e1, hz, hl⟩ := hs
    rcases hl with ⟨e2, hq⟩ | ⟨e2, hy⟩
    · left
      obtain ⟨r, er, w, w1, w2, w3, f1, f2, f3⟩ := M_late_p hu h hW hk y y2
      have hb : fM_firstSince_5 u g (nI k) s = some (.inl (r.1, r.2)) := by
        unfold fM_firstSince_5
        rw [e1, e2]
        simp only [izN, i10, if_false]
        rw [er]
        rfl
      rcases f3 with ⟨a, b, d⟩ | ⟨a, b⟩
      · refine ⟨q - 1, (r.1, r.2), by omega, hb, w, by omega, by omega, by omega, f1, fun z z1 z2 => ?_, Or.inr ⟨a, d⟩⟩
        by_cases c : z < y
        · exact hz z z1 c
        · exact f2 z (by omega) z2
      · refine ⟨10002 - w, (r.1, r.2), by omega, hb, w, by omega, by omega, by omega, f1, fun z z1 z2 => ?_, Or.inl ⟨a, rfl⟩⟩
        by_cases c : z < y
        · exact hz z z1 c
        · exact f2 z (by omega) z2
    · right
      refine ⟨nI y, ?_, y, y1, y3, rfl, hy, hz⟩
      unfold fM_firstSince_5
      rw [e1, e2]
      simp only [izN, if_true]
  obtain ⟨r, er, y, y1, y2, rfl, y3, y4⟩ := hlp
  refine ⟨y, y1, y2, ?_, y3, y4⟩
  unfold fM_firstSince
  simp only [izN]
  rw [er]
  rfl
theorem M_firstLate {u : Nat} (hu : 1000 ≤ u) {g0 : mS} {R : ER} {m0 : Int32} {tr : Option (Nat → Int32)} {D : Nat → List De} {g : mS} {T : ET} (h : RM g0 R m0 tr D g T) (hW : WF R T) {k : Nat} (hk : k < 6) {x : Nat} (hx : x ≤ clN T + 1) : ∃ y, x ≤ y ∧ y ≤ clN T + 2 ∧ fM_firstLate u g (nI k) (nI x) = some (nI y) ∧ (y = clN T + 2 ∨ ltX T k y = true) ∧ ∀ z, x ≤ z → z < y → ltX T k z = false := by
  have h9 := h.q.l9 hk
  obtain ⟨ec, hc⟩ := cl_n hW
  have hlp : ok (nx_iter u (fM_firstLate_14 u g (nI k) (nI x)) (nI (clN T + 2), nI 0)) (fun r => ∃ y, x ≤ y ∧ y ≤ clN T + 2 ∧ r = nI y ∧ (y = clN T + 2 ∨ ltX T k y = true) ∧ ∀ z, x ≤ z → z < y → ltX T k z = false) := by
    refine it_inv (fun i s => s.2 = nI i ∧ ∃ y, x ≤ y ∧ y ≤ clN T + 2 ∧ s.1 = nI y ∧ (y = clN T + 2 ∨ ltX T k y = true) ∧ ∀ z, x ≤ z → z < y → ∀ j, j < i → ¬ (mkN T k j ≤ z ∧ z < snN T k j)) (tVs T k).length (fun i s hi hI => ?_) (fun s hI => ?_) (i := 0) ⟨rfl, clN T + 2, by omega, Nat.le_refl _, rfl, Or.inl rfl, fun z _ _ j hj => by omega⟩ (by omega) (by omega)
    · obtain ⟨e1, y, y1, y2, e2, hy, hz⟩ := hI
      obtain ⟨m1, m2, m3, m4⟩ := mk_n hW hk hi
      unfold fM_firstLate_14
      rw [e1, e2]
      simp (disch := omega) only [fM_ofSeat, fM_of, fM_keyAt, fM_many, fM_cell, fM_its, izN, nI_add, mulI, rdM, mWr7, mRow_s, mRow_m, mRow_2, Option.bind_some, h.q.mn, leI, h.q.v1, h.q.v3, m1, m2]
      rw [if_neg (by omega), maxN' (a := x) (b := mkN T k i) (by omega) (by omega)]
      simp (disch := omega) only [leI, ltI]
      by_cases c : snN T k i ≤ max x (mkN T k i)
      · rw [if_pos c]
        refine ok.ret ⟨rfl, y, y1, y2, rfl, hy, fun z z1 z2 j hj => ?_⟩
        by_cases e : j = i
        · subst e; omega
        · exact hz z z1 z2 j (by omega)
      · rw [if_neg c]
        by_cases c2 : max x (mkN T k i) < y
        · rw [if_pos c2]
          refine ok.ret ⟨rfl, max x (mkN T k i), by omega, by omega, rfl, Or.inr (ltX_iff.mpr ⟨i, hi, by omega, by omega⟩), fun z z1 z2 j hj => ?_⟩
          by_cases e : j = i
          · subst e; omega
          · exact hz z z1 (by omega) j (by omega)
        · rw [if_neg c2]
          refine ok.ret ⟨rfl, y, y1, y2, rfl, hy, fun z z1 z2 j hj => ?_⟩
          by_cases e : j = i
          · subst e; omega
          · exact hz z z1 z2 j (by omega)
    · obtain ⟨e1, y, y1, y2, e2, hy, hz⟩ := hI
      unfold fM_firstLate_14
      rw [e1]
      simp (disch := omega) only [fM_ofSeat, fM_of, fM_keyAt, fM_many, fM_cell, fM_its, izN, nI_add, mulI, rdM, mWr7, mRow_s, mRow_m, mRow_2, Option.bind_some, h.q.mn, leI]
      rw [if_pos (by omega)]
      refine ok.ret ⟨y, y1, y2, e2, hy, fun z z1 z2 => ?_⟩
      cases e : ltX T k z with
      | false => rfl
      | true =>
        obtain ⟨j, hj, a⟩ := ltX_iff.mp e
        exact absurd a (hz z z1 z2 j hj)
  obtain ⟨r, er, y, y1, y2, rfl, y3, y4⟩ := hlp
  refine ⟨y, y1, y2, ?_, y3, y4⟩
  unfold fM_firstLate
  simp (disch := omega) only [fM_ofSeat, fM_of, fM_keyAt, fM_many, fM_cell, fM_its, izN, nI_add, mulI, rdM, mWr7, mRow_s, mRow_m, mRow_2, Option.bind_some, h.q.cc, ec]
  rw [er]
  rfl
theorem M_since_n {u : Nat} (hu : 1000 ≤ u) {g0 : mS} {R : ER} {m0 : Int32} {tr : Option (Nat → Int32)} {D : Nat → List De} {g : mS} {T : ET} (h : RM g0 R m0 tr D g T) (hW : WF R T) (hu2 : 20000 ≤ u) {k : Nat} (hk : k < 6) {x : Nat} (h1 : 1 ≤ x) (hx : x ≤ clN T + 2) (h0 : ltX T k x = false) : nx_iter u (fM_since_35 u g (nI k)) (nI x, nI (cnt (okX T k) x)) = some (nI (cnt (okX T k) (clN T + 2))) := by
  obtain ⟨ec, hc⟩ := cl_n hW
  refine it_eq (r := nI (cnt (okX T k) (clN T + 2))) (fun q s => ∃ y, x ≤ y ∧ y ≤ clN T + 2 ∧ ltX T k y = false ∧ s = (nI y, nI (cnt (okX T k) y)) ∧ q = 10002 - y) (fun q s hs => ?_) (k := 10002 - x) ⟨x, Nat.le_refl _, hx, h0, rfl, rfl⟩ (by omega)
  obtain ⟨y, y1, y2, y3, rfl, hq⟩ := hs
  by_cases c : y = clN T + 2
  · right
    unfold fM_since_35
    simp (disch := omega) only [fM_ofSeat, fM_of, fM_keyAt, fM_many, fM_cell, fM_its, izN, nI_add, mulI, rdM, mWr7, mRow_s, mRow_m, mRow_2, Option.bind_some, h.q.cc, ec, ltI]
    rw [if_pos (by omega), c]
  · left
    obtain ⟨w, w1, w2, w3, w4, w5⟩ := M_firstLate hu h hW hk (x := y) (by omega)
    obtain ⟨v, v1, v2, v3, v4, v5⟩ := M_firstSince hu h hW hu2 hk (x := w) (by omega)
    have hyw : y < w := by
      rcases w4 with w4 | w4
      · omega
      · by_cases e : w = y
        · rw [e, y3] at w4; cases w4
        · omega
    have hvc : v ≤ clN T + 2 := by omega
    have e1 : cnt (okX T k) w = cnt (okX T k) y + (w - y) := cnt_yes (by omega) (fun z z1 z2 => by
      unfold okX
      rw [w5 z z1 z2]
      simp
      omega)
    have e2 : cnt (okX T k) v = cnt (okX T k) w := cnt_no (by omega) (fun z z1 z2 => by
      unfold okX
      rw [v5 z z1 z2]
      simp)
    refine ⟨10002 - v, (nI v, nI (cnt (okX T k) v)), by omega, ?_, v, by omega, hvc, v4, rfl, rfl⟩
    unfold fM_since_35
    simp (disch := omega) only [fM_ofSeat, fM_of, fM_keyAt, fM_many, fM_cell, fM_its, izN, nI_add, mulI, rdM, mWr7, mRow_s, mRow_m, mRow_2, Option.bind_some, h.q.cc, ec, ltI]
    rw [if_neg (by omega), w3]
    simp only [Option.bind_some]
    rw [v3]
    simp (disch := omega) only [Option.bind_some, subI, nI_add]
    rw [e2, e1]
theorem Q_since {u : Nat} (hu : 1000 ≤ u) {Γ : nx_G} {Dm : nx_M} {x w c : Nat} {f : Nat → Int32} (e5 : gR Dm x 7 5 = some w) (eW : wGet Γ Dm w = some (c, f)) {R : ER} {w0 m0 : Int32} {D : Nat → List De} {T : ET} {g0 g : mS} (h : RW R w0 D f T) (k : RM g0 R m0 none D g T) (hE : EI R D T) (hu2 : 20000 ≤ u) (a b : Int32) : both (fC_since u Γ Dm x a b) (fM_since u g a b) := by
  have h6 := hE.1.1.2.1
  have hW := hE.1
  unfold fC_since fM_since
  rw [M_isKey hu k hE.1.1]
  simp (disch := omega) only [e5, Option.bind_some, wRd_eq eW, W_hasKey hu h h6, izN, L_within, M_in01, inR2]
  by_cases c : inR a R.1 = true
  · obtain ⟨j, hj, rfl⟩ := inR_of c
    rw [if_pos c, if_pos c]
    have hj6 : j < 6 := by omega
    obtain ⟨y, hy, y1, t0, t1⟩ := W_timely hu h hW hj6
    obtain ⟨ec, hc⟩ := cl_n hW
    obtain ⟨v, v1, v2, v3, v4, v5⟩ := M_firstSince hu k hW hu2 hj6 (x := 1) (by omega)
    have hv0 : cnt (okX T j) v = 0 := by
      rw [cnt_no (a := 1) (by omega) (fun z z1 z2 => by
        unfold okX
        rw [v5 z z1 z2]
        simp)]
      rfl
    have hvy : v = y := lsX_eq ⟨by unfold okX; rw [v4]; simp; omega, hv0⟩ hy
    have hn := M_since_n hu k hW hu2 hj6 (x := v) (by omega) (by omega) v4
    rw [hv0] at hn
    by_cases c0 : b = nI 0
    · rw [if_pos (by simp [c0]), if_pos (by simp [c0]), c0, t0, v3]
      simp only [Option.bind_some, if_true]
      exact both.of rfl (by rw [hvy])
    · by_cases c1 : b = nI 1
      · rw [if_pos (by simp [c1]), if_pos (by simp [c1]), c1, t1, v3]
        simp only [Option.bind_some, i10, if_false]
        rw [hn]
        exact both.of rfl rfl
      · rw [if_neg (by simp [c0, c1]), if_neg (by simp [c0, c1])]
        exact both.of rfl rfl
  · rw [if_neg c, if_neg c]
    exact both.of rfl rfl
