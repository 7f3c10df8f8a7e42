/-! to retry: the whole -/
theorem W_note_fr {u : Nat} {f f' : Nat → Int32} {a b c : Int32} (h : fW_note u f a b c = some f') (h9 : ∃ n, n < 60 ∧ f 9 = nI n) {j : Nat} (h1 : 10 ≤ j) (h2 : j < 454) : f' j = f j := by
  obtain ⟨n, hn, e⟩ := h9
  unfold fW_note at h
  simp (disch := omega) only [izN, nI_add, mulI, rdW, wrW, Option.bind_some, e, L_within, inR_nI, leI] at h
  rw [if_pos (by simpa using hn)] at h
  by_cases c : 60 ≤ n + 1
  · rw [if_pos c] at h
    simp (disch := omega) only [izN, nI_add, mulI, rdW, wrW, Option.bind_some] at h
    cases h
    rw [upd_n (by omega), upd_n (by omega), upd_n (by omega)]
  · rw [if_neg c] at h
    simp (disch := omega) only [izN, nI_add, mulI, rdW, wrW, Option.bind_some] at h
    cases h
    rw [upd_n (by omega), upd_n (by omega), upd_n (by omega)]
theorem W_enter2 {u : Nat} (hu : 1000 ≤ u) {R : ER} {w0 : Int32} {D : Nat → List De} {f : Nat → Int32} {T : ET} (h : RW R w0 D f T) {s : Nat} (hs : s < 8) (way stamp : Int32) : ok (fW_enter u f (nI s) way stamp) (fun f' => RW R w0 (setD D s []) f' (enterT T s way stamp) ∧ ∀ j, 88 ≤ j → j < 184 → f' j = f j) := by
  obtain ⟨f', e, h1⟩ := W_enter hu h hs way stamp
  refine ⟨f', e, h1, fun j hj1 hj2 => ?_⟩
  unfold fW_enter at e
  simp (disch := omega) only [izN, nI_add, mulI, rdW, wrW, Option.bind_some] at e
  obtain ⟨f2, e2, e3⟩ := nx_bind_some e
  obtain ⟨f3, e4, e5⟩ := nx_bind_some e3
  cases e5
  have hfr : ∀ j, (j < 184 + s * 6 ∨ 190 + s * 6 ≤ j) → f2 j = upd (upd (upd (upd (upd (upd f (40 + s) (nI 1)) (48 + s) stamp) (56 + s) way) (64 + s) (nI 0)) (72 + s) (nI 0)) (80 + s) (nI 0) j := by
    have := it_inv (b := fW_enter_63 (nI s)) (Q := fun x => ∀ j, (j < 184 + s * 6 ∨ 190 + s * 6 ≤ j) → x j = upd (upd (upd (upd (upd (upd f (40 + s) (nI 1)) (48 + s) stamp) (56 + s) way) (64 + s) (nI 0)) (72 + s) (nI 0)) (80 + s) (nI 0) j) (fun i x => x.1 = nI i ∧ ∀ j, (j < 184 + s * 6 ∨ 190 + s * 6 ≤ j) → x.2 j = upd (upd (upd (upd (upd (upd f (40 + s) (nI 1)) (48 + s) stamp) (56 + s) way) (64 + s) (nI 0)) (72 + s) (nI 0)) (80 + s) (nI 0) j) 6 (fun i x hi hI => by
      obtain ⟨e1, hx⟩ := hI
      unfold fW_enter_63
      simp (disch := omega) only [izN, nI_add, mulI, rdW, wrW, Option.bind_some, e1, leI]
      rw [if_neg (by omega)]
      exact ok.ret ⟨rfl, fun j hj => by
        show upd x.2 _ _ j = _
        rw [upd_n (by omega)]
        exact hx j hj⟩) (fun x hI => by
      obtain ⟨e1, hx⟩ := hI
      unfold fW_enter_63
      simp (disch := omega) only [izN, nI_add, mulI, rdW, wrW, Option.bind_some, e1, leI]
      exact ok.ret hx) (u := u) (i := 0) (s := (nI 0, upd (upd (upd (upd (upd (upd f (40 + s) (nI 1)) (48 + s) stamp) (56 + s) way) (64 + s) (nI 0)) (72 + s) (nI 0)) (80 + s) (nI 0))) ⟨rfl, fun _ _ => rfl⟩ (by omega) (by omega)
    obtain ⟨x, ex, hx⟩ := this
    rw [e2] at ex
    cases ex
    exact hx
  obtain ⟨l1, l2, n, l3, l4, l5⟩ := h.ll
  rw [W_note_fr e4 ⟨n, l3, by rw [hfr 9 (by omega), upd_n (by omega), upd_n (by omega), upd_n (by omega), upd_n (by omega), upd_n (by omega), upd_n (by omega)]; exact l4⟩ (by omega) (by omega), hfr j (by omega), upd_n (by omega), upd_n (by omega), upd_n (by omega), upd_n (by omega), upd_n (by omega), upd_n (by omega)]
theorem W_ticked {u : Nat} (hu : 1000 ≤ u) {R : ER} {w0 : Int32} {D : Nat → List De} {f : Nat → Int32} {T : ET} (h : RW R w0 D f T) : fW_ticked u f = some (tCk T + R.2.2.2, upd f 4 (tCk T + R.2.2.2)) := by
  unfold fW_ticked
  simp (disch := omega) only [izN, nI_add, mulI, rdW, wrW, Option.bind_some, h.cc, h.r2, upd_s]
theorem setD_setD {D : Nat → List De} {s : Nat} {a b : List De} : setD (setD D s a) s b = setD D s b := by
  funext s'
  unfold setD
  split <;> rfl
theorem setD_id {D : Nat → List De} {s : Nat} : setD D s (D s) = D := by
  funext s'
  unfold setD
  split
  · next e => rw [e]
  · rfl
theorem open_lv {R : ER} {T : ET} {s : Nat} {way : Int32} : lvT (openT R T s way) s = true := by
  rw [lvT_iff]
  left
  show (if s = s ∧ 0 < 5 then enC 0 way _ else _) = _
  rw [if_pos ⟨rfl, by omega⟩]
  rfl
theorem W_redoAll {u : Nat} (hu : 1000 ≤ u) {R : ER} {w0 : Int32} {D : Nat → List De} {f : Nat → Int32} {T : ET} (h : RW R w0 D f T) (hW : WF R T) {s : Nat} (hs : s < 8) (hD : ∀ d ∈ D s, vD R d) (hn : lvT T s = false) (hc : (tCk T).toInt + R.2.2.2.toInt ≤ 9999) : ok (fW_redoAll u f (nI s)) (fun r => r.1 = nI (retryT R T s (D s)).2 ∧ RW R w0 D r.2 (retryT R T s (D s)).1) := by
  unfold fW_redoAll
  have ht := h.ck (tCk T + R.2.2.2)
  obtain ⟨d1, d2, d3⟩ := h.dd hs
  rw [W_ticked hu h]
  simp (disch := omega) only [izN, nI_add, mulI, rdW, wrW, Option.bind_some, d2, h.wy]
  refine (W_enter2 hu ht hs (tSd T 2 s) (tCk T + R.2.2.2)).bd (fun f1 h1 => ?_)
  obtain ⟨h1, hfr⟩ := h1
  have h2 := h1.ds hs (l := D s) (f' := upd f1 (80 + s) (nI (D s).length)) ⟨d1, upd_s, fun i d hi => by
    have hil := (List.getElem?_eq_some_iff.mp hi).1
    rw [upd_n (by omega), hfr _ (by omega) (by omega), upd_n (by omega)]
    exact d3 i d hi⟩ (fun j a b => upd_n a)
  have eD : (fun s' => if s' = s then D s else setD D s [] s') = D := by
    funext s'
    unfold setD
    split
    · next e => rw [e]
    · rfl
  rw [eD] at h2
  have h2 : RW R w0 D (upd f1 (80 + s) (nI (D s).length)) (openT R T s (tSd T 2 s)) := h2
  refine (W_redo_n hu hs hD (D s) [] h2 (hW.opn hs hn _ hc) rfl open_lv (by omega)).bd (fun r hr => ?_)
  rw [List.length_nil, Nat.zero_add] at hr
  exact ok.ret hr
/-! .. Model -/
theorem rd9 {m : Nat} {f : Nat → Int32} (hm : m < 37) : nx_rd (mlen 9) f (nI m) = some (f m) := rd_nI hm (show (37 : Nat) ≤ 100000 by omega)
theorem mWr9 {m : Nat} {g : mS} {v : Int32} (hm : m < 37) : mWr g 9 (nI m) v = some (mRow g 9 (upd (g.1 9) m v)) := mWr_at hm (show (37 : Nat) ≤ 100000 by omega)
theorem RM.r9 {g0 : mS} {R : ER} {m0 : Int32} {tr : Option (Nat → Int32)} {D : Nat → List De} {g : mS} {T : ET} (h : RM g0 R m0 tr D g T) (a : Nat → Int32) : RM (mRow g0 9 a) R m0 tr D (mRow g 9 a) T := by
  obtain ⟨⟨f1, f2, f3⟩, ⟨a1, a2, a3, a4, a5⟩, b, c⟩ := h
  refine ⟨⟨fun j h0 h7 => ?_, fun j hj => ?_, f3⟩, ⟨?_, ?_, ?_, ?_, ?_⟩, ?_, ?_⟩
  · by_cases e : j = 9
    · subst e; rw [mRow_s, mRow_s]
    · rw [mRow_n e, mRow_n e]; exact f1 j h0 h7
  · rw [mRow_n (by omega), mRow_n (by omega)]; exact f2 j hj
  · rw [mRow_n (by omega)]; exact a1
  · rw [mRow_n (by omega)]; exact a2
  · rw [mRow_n (by omega)]; exact a3
  · rw [mRow_n (by omega)]; exact a4
  · rw [mRow_n (by omega)]; exact a5
  · rw [mRow_n (by omega)]; exact b
  · rw [mRow_n (by omega)]; exact c
theorem M_again {u : Nat} (hu : 1000 ≤ u) {g0 : mS} {R : ER} {m0 : Int32} {tr : Option (Nat → Int32)} {D : Nat → List De} {g : mS} {T : ET} (h : RM g0 R m0 tr D g T) {s : Nat} (hs : s < 8) : ok (nx_iter u (fM_retryNow_2 u (nI s)) (nI 0, g)) (fun g' => ∃ a, g' = mRow g 9 a ∧ ∀ j, j < 37 → a j = g.1 7 (48 * s + (11 + j))) := by
  refine it_inv (fun t x => x.1 = nI t ∧ ∃ a, x.2 = mRow g 9 a ∧ ∀ j, j < t → a j = g.1 7 (48 * s + (11 + j))) 37 (fun t x ht hI => ?_) (fun x hI => ?_) (i := 0) ⟨rfl, g.1 9, mRow_i.symm, fun j hj => by omega⟩ (by omega) (by omega)
  · obtain ⟨e1, a, e2, ha⟩ := hI
    unfold fM_retryNow_2
    rw [e1, e2]
    have e7 : (mRow g 9 a).1 7 = g.1 7 := mRow_n (by omega)
    simp (disch := omega) only [fM_ofSeat, fM_of, fM_keyAt, fM_many, fM_cell, fM_its, izN, nI_add, mulI, rdM, mWr7, mRow_s, mRow_m, mRow_2, Option.bind_some, ltI, e7, mWr9]
    rw [if_neg (by omega)]
    refine ok.ret ⟨rfl, upd a t (g.1 7 (48 * s + (11 + t))), rfl, fun j hj => ?_⟩
    by_cases e : j = t
    · rw [upd_e e, e]
    · rw [upd_n e]; exact ha j (by omega)
  · obtain ⟨e1, a, e2, ha⟩ := hI
    unfold fM_retryNow_2
    simp (disch := omega) only [fM_ofSeat, fM_of, fM_keyAt, fM_many, fM_cell, fM_its, izN, nI_add, mulI, rdM, mWr7, mRow_s, mRow_m, mRow_2, Option.bind_some, e1, ltI]
    rw [if_pos (by omega)]
    exact ok.ret ⟨a, e2, ha⟩
/-- row 9 holds the deeds -/
def agn (a : Nat → Int32) (l : List De) : Prop := l.length ≤ 12 ∧ a 0 = nI l.length ∧ ∀ (i : Nat) (d : De), l[i]? = some d → a (1 + 3 * i) = d.1 ∧ a (2 + 3 * i) = d.2.1 ∧ a (3 + 3 * i) = d.2.2
theorem n20 : ¬ (nI 2 = nI 1) := by decide +kernel
theorem M_redo_n {u : Nat} (hu : 1000 ≤ u) {g0 : mS} {R : ER} {m0 : Int32} {tr : Option (Nat → Int32)} {s : Nat} (hs : s < 8) {L : List De} (hL : agn (g0.1 9) L) (hD : ∀ d ∈ L, vD R d) : ∀ (ds pre : List De) {D : Nat → List De} {g : mS} {T : ET} {v : Nat}, RM g0 R m0 tr D g T → WF R T → L = pre ++ ds → lvT T s = true → ds.length + 1 < v → ok (nx_iter v (fM_retryNow_45 u (nI s)) (nI pre.length, nI 1, g)) (fun r => r.1 = nI (pre.length + (redoN R s ds T).2) ∧ ∃ D', (∀ o, o ≠ s → D' o = D o) ∧ RM g0 R m0 tr D' r.2 (redoN R s ds T).1) := by
  obtain ⟨hl12, hl0, hla⟩ := hL
  intro ds
  induction ds with
  | nil =>
    intro pre D g T v h hW e hl hv
    rw [List.append_nil] at e
    refine ok.eq (it_end (r := (nI pre.length, g)) ?_ (by omega)) ⟨rfl, D, fun _ _ => rfl, h⟩
    have e9 : g.1 9 = g0.1 9 := h.1.1 9 (by omega) (by omega)
    unfold fM_retryNow_45
    rw [e] at hl0 hl12
    simp (disch := omega) only [fM_ofSeat, fM_of, fM_keyAt, fM_many, fM_cell, fM_its, izN, nI_add, mulI, rdM, mWr7, mRow_s, mRow_m, mRow_2, Option.bind_some, i10, if_false, rd9, e9, hl0, leI]
    rw [if_pos (by omega)]
  | cons d ds ih =>
    intro pre D g T v h hW e hl hv
    have hlen : L.length = pre.length + ds.length + 1 := by rw [e]; simp; omega
    have hi : L[pre.length]? = some d := by rw [e]; simp
    have hd := hD d (List.mem_of_getElem? hi)
    obtain ⟨v, rfl⟩ : ∃ w, v = w + 1 := ⟨v - 1, by omega⟩
    obtain ⟨w1, w2⟩ := redo1_ok hW hs hl hd
    have e9 : g.1 9 = g0.1 9 := h.1.1 9 (by omega) (by omega)
    obtain ⟨p0, p1, p2⟩ := hla _ d hi
    unfold redoN
    refine it_go (P := fun x => ∃ g' D', (∀ o, o ≠ s → D' o = D o) ∧ RM g0 R m0 tr D' g' (redo1 R T s d).1 ∧ x = (nI (pre.length + (if (redo1 R T s d).2 = true then 1 else 0)), (if (redo1 R T s d).2 = true then nI 1 else nI 0), g')) ?_ ?_
    · unfold fM_retryNow_45
      simp (disch := omega) only [fM_ofSeat, fM_of, fM_keyAt, fM_many, fM_cell, fM_its, izN, nI_add, mulI, rdM, mWr7, mRow_s, mRow_m, mRow_2, Option.bind_some, i10, if_false, rd9, e9, hl0, leI, p0, p1, p2]
      rw [if_neg (by omega)]
      refine ok.bd (P := fun p => p.1 = (if (redo1 R T s d).2 = true then nI 1 else nI 0) ∧ ∃ D', (∀ o, o ≠ s → D' o = D o) ∧ RM g0 R m0 tr D' p.2 (redo1 R T s d).1) ?_ (fun p hp => ?_)
      · obtain ⟨a, k, b, ha, hk, hb, rfl⟩ := hd
        have hk6 : k < 6 := by have := hW.1.2.1; omega
        obtain ⟨j, hj⟩ := hW.rd hs hk hl
        unfold redo1
        simp only [nI_back (show k < 1000000000 by omega)]
        by_cases c : nI a = nI 1
        · rw [if_pos c, if_pos c]
          unfold readA
          rw [hj]
          exact (M_readNow hu h hW hs hk6 hl hj).bd (fun r hr => ok.ret ⟨rfl, _, fun o ho => by unfold setD; rw [if_neg ho], hr.2⟩)
        · rw [if_neg c, if_neg c, M_isFull hu h hW hs hk6 hl]
          simp only [Option.bind_some]
          by_cases cf : fuT R T s k = true
          · rw [if_pos cf, if_pos cf]
            exact ok.ret ⟨rfl, D, fun _ _ => rfl, h⟩
          · rw [if_neg cf, if_neg cf]
            refine ok.bd (P := fun p => p.1 = (if (! decide ((writeT T s k (nI b - nI 1)).2 = iz (-2))) = true then nI 1 else nI 0) ∧ ∃ D', (∀ o, o ≠ s → D' o = D o) ∧ RM g0 R m0 tr D' p.2 (writeT T s k (nI b - nI 1)).1) ?_ (fun p hp => ok.ret hp)
            refine (M_writeNow hu h hW hs hk hl (nI b - nI 1) (by simpa using cf)).bd (fun r hr => ?_)
            rw [hr.1]
            by_cases cw : (writeT T s k (nI b - nI 1)).2 = iz (-2)
            · rw [if_pos cw]
              exact ok.ret ⟨by simp [cw], _, fun o ho => by unfold setD; rw [if_neg ho], hr.2⟩
            · rw [if_neg cw]
              exact ok.ret ⟨by simp [cw], _, fun o ho => by unfold setD; rw [if_neg ho], hr.2⟩
      · obtain ⟨q1, D', q2, q3⟩ := hp
        rw [q1]
        by_cases c : (redo1 R T s d).2 = true
        · simp only [c, if_true, i10, if_false, Option.bind_some]
          exact ok.ret ⟨p.2, D', q2, q3, by rw [nI_add]⟩
        · simp only [c, Bool.false_eq_true, if_true, if_false, Option.bind_some]
          exact ok.ret ⟨p.2, D', q2, q3, by rw [nI_add]⟩
    · rintro x ⟨g', D', q2, q3, rfl⟩
      by_cases c : (redo1 R T s d).2 = true
      · rw [if_pos c, if_pos c, if_pos c]
        have := ih (pre ++ [d]) (v := v) q3 w1 (by rw [e]; simp) (w2 c) (by simp at hv; omega)
        rw [List.length_append, List.length_singleton] at this
        refine this.im (fun r hr => ?_)
        obtain ⟨r1, D2, r2, r3⟩ := hr
        refine ⟨?_, D2, fun o ho => (r2 o ho).trans (q2 o ho), r3⟩
        rw [r1]
        congr 1
        omega
      · rw [if_neg c, if_neg c, if_neg c]
        refine ok.eq (it_end (r := (nI pre.length, g')) ?_ (by omega)) ⟨rfl, D', q2, q3⟩
        unfold fM_retryNow_45
        simp only [Nat.add_zero, izN, if_true]
theorem M_restore {u : Nat} (hu : 1000 ≤ u) {g0 : mS} {R : ER} {m0 : Int32} {tr : Option (Nat → Int32)} {D : Nat → List De} {g : mS} {T : ET} (h : RM g0 R m0 tr D g T) {s : Nat} (hs : s < 8) {L : List De} (hL : agn (g0.1 9) L) : ok (nx_iter u (fM_retryNow_152 u (nI s)) (nI 0, g)) (fun g' => RM g0 R m0 tr (setD D s L) g' T) := by
  have e9 : g.1 9 = g0.1 9 := h.1.1 9 (by omega) (by omega)
  refine it_inv (fun t x => x.1 = nI t ∧ x.2 = mRow g 7 (x.2.1 7) ∧ ∀ j, x.2.1 7 j = if 48 * s + 11 ≤ j ∧ j < 48 * s + 11 + t then g0.1 9 (j - (48 * s + 11)) else g.1 7 j) 37 (fun t x ht hI => ?_) (fun x hI => ?_) (i := 0) ⟨rfl, mRow_i.symm, fun j => by rw [if_neg (by omega)]⟩ (by omega) (by omega)
  · obtain ⟨e1, e2, hx⟩ := hI
    have e10 : x.2.1 9 = g0.1 9 := by rw [e2, mRow_n (by omega)]; exact e9
    unfold fM_retryNow_152
    simp (disch := omega) only [fM_ofSeat, fM_of, fM_keyAt, fM_many, fM_cell, fM_its, izN, nI_add, mulI, rdM, mWr7, mRow_s, mRow_m, mRow_2, Option.bind_some, e1, ltI, rd9, e10]
    rw [if_neg (by omega)]
    refine ok.ret ⟨rfl, ?_, fun j => ?_⟩
    · show mRow x.2 7 _ = _
      rw [e2]
      simp only [mRow_s, mRow_m]
    · show (mRow x.2 7 _).1 7 j = _
      rw [mRow_s]
      by_cases e : j = 48 * s + (11 + t)
      · rw [upd_e e, if_pos (by omega)]
        exact congrArg (g0.1 9) (by omega)
      · rw [upd_n e, hx]
        by_cases e3 : 48 * s + 11 ≤ j ∧ j < 48 * s + 11 + t
        · rw [if_pos e3, if_pos (by omega)]
        · rw [if_neg e3, if_neg (by omega)]
  · obtain ⟨e1, e2, hx⟩ := hI
    obtain ⟨hl12, hl0, hla⟩ := hL
    unfold fM_retryNow_152
    simp (disch := omega) only [fM_ofSeat, fM_of, fM_keyAt, fM_many, fM_cell, fM_its, izN, nI_add, mulI, rdM, mWr7, mRow_s, mRow_m, mRow_2, Option.bind_some, e1, ltI]
    rw [if_pos (by omega)]
    refine ok.ret ?_
    show RM g0 R m0 tr _ x.2 T
    rw [e2]
    refine h.h7 rfl (h.q.ds hs ⟨hl12, ?_, fun i d hi => ?_⟩ (fun j hj => by rw [hx, if_neg (by omega)]))
    · rw [hx, if_pos (by omega), Nat.sub_self]; exact hl0
    · have hil := (List.getElem?_eq_some_iff.mp hi).1
      obtain ⟨p0, p1, p2⟩ := hla i d hi
      refine ⟨?_, ?_, ?_⟩
      · rw [hx, if_pos (by omega), show 48 * s + (12 + 3 * i) - (48 * s + 11) = 1 + 3 * i by omega]; exact p0
      · rw [hx, if_pos (by omega), show 48 * s + (13 + 3 * i) - (48 * s + 11) = 2 + 3 * i by omega]; exact p1
      · rw [hx, if_pos (by omega), show 48 * s + (14 + 3 * i) - (48 * s + 11) = 3 + 3 * i by omega]; exact p2
theorem M_retryNow {u : Nat} (hu : 1000 ≤ u) {g0 : mS} {R : ER} {m0 : Int32} {tr : Option (Nat → Int32)} {D : Nat → List De} {g : mS} {T : ET} (h : RM g0 R m0 tr D g T) (hW : WF R T) {s : Nat} (hs : s < 8) (hD : ∀ d ∈ D s, vD R d) (hn : lvT T s = false) (hc : (tCk T).toInt + R.2.2.2.toInt ≤ 9999) : ok (fM_retryNow u g (nI s)) (fun r => r.1 = nI (retryT R T s (D s)).2 ∧ ∃ a, RM (mRow g0 9 a) R m0 tr D r.2 (retryT R T s (D s)).1) := by
  unfold fM_retryNow
  refine (M_again hu h hs).bd (fun g1 hg1 => ?_)
  obtain ⟨a, rfl, ha⟩ := hg1
  have h1 := h.r9 a
  obtain ⟨d1, d2, d3⟩ := h.q.dd hs
  have hL : agn ((mRow g0 9 a).1 9) (D s) := by
    rw [mRow_s]
    refine ⟨d1, ?_, fun i d hi => ?_⟩
    · rw [ha 0 (by omega)]; exact d2
    · have hil := (List.getElem?_eq_some_iff.mp hi).1
      obtain ⟨p0, p1, p2⟩ := d3 i d hi
      refine ⟨?_, ?_, ?_⟩
      · rw [ha _ (by omega), show 48 * s + (11 + (1 + 3 * i)) = 48 * s + (12 + 3 * i) by omega]; exact p0
      · rw [ha _ (by omega), show 48 * s + (11 + (2 + 3 * i)) = 48 * s + (13 + 3 * i) by omega]; exact p1
      · rw [ha _ (by omega), show 48 * s + (11 + (3 + 3 * i)) = 48 * s + (14 + 3 * i) by omega]; exact p2
  simp (disch := omega) only [fM_ofSeat, fM_of, fM_keyAt, fM_many, fM_cell, fM_its, izN, nI_add, mulI, rdM, mWr7, mRow_s, mRow_m, mRow_2, Option.bind_some, h1.q.st]
  refine (M_openNow hu h1 hs (tSd T 2 s)).bd (fun r hr => ?_)
  refine (M_redo_n hu hs hL hD (D s) [] hr.2 (hW.opn hs hn _ hc) rfl open_lv (by omega)).bd (fun r2 hr2 => ?_)
  obtain ⟨q1, D2, q2, q3⟩ := hr2
  refine (M_restore hu q3 hs hL).bd (fun g5 h5 => ok.ret ⟨?_, a, ?_⟩)
  · rw [List.length_nil, Nat.zero_add] at q1
    exact q1
  · refine h5.to rfl (funext fun o => ?_)
    unfold setD
    by_cases e : o = s
    · rw [if_pos e, e]
    · rw [if_neg e, q2 o e]
      unfold setD
      rw [if_neg e]
