/-! ===== Model's side ===== -/
theorem RM.q {g0 : mS} {R : ER} {m0 : Int32} {tr : Option (Nat → Int32)} {D : Nat → List De} {g : mS} {T : ET} (h : RM g0 R m0 tr D g T) : rM tr D (g.1 7) T := h.2.2.2
theorem ok.val {α : Type} {o : Option α} {a : α} (h : ok o (fun x => x = a)) : o = some a := by
  obtain ⟨x, e, rfl⟩ := h
  exact e
theorem M_isStore {u : Nat} (hu : 1000 ≤ u) {g0 : mS} {R : ER} {m0 : Int32} {tr : Option (Nat → Int32)} {D : Nat → List De} {g : mS} {T : ET} (h : RM g0 R m0 tr D g T) (hK : 1 ≤ R.1) (hK6 : R.1 ≤ 6) : fM_isStore u g = some true := by
  unfold fM_isStore
  simp (disch := omega) only [izN, h.kk, leI]
  rw [if_neg (by omega)]
theorem M_isSeat {u : Nat} (hu : 1000 ≤ u) {g0 : mS} {R : ER} {m0 : Int32} {tr : Option (Nat → Int32)} {D : Nat → List De} {g : mS} {T : ET} (h : RM g0 R m0 tr D g T) (hK : 1 ≤ R.1) (hK6 : R.1 ≤ 6) (x : Int32) : fM_isSeat u g x = some (inR x 8) := by
  unfold fM_isSeat
  rw [M_isStore hu h hK hK6]
  simp (disch := omega) only [fM_ofSeat, fM_of, fM_keyAt, fM_many, fM_cell, fM_its, izN, nI_add, mulI, rdM, mWr7, mRow_s, mRow_m, mRow_2, Option.bind_some, M_in, if_true]
  cases inR x 8 <;> rfl
theorem M_in12 (u : Nat) (x : Int32) : fM_in u x (nI 1) (nI 2) = some (decide (x = nI 1 ∨ x = nI 2)) := by
  unfold fM_in
  have e1 : (nI 1).toInt = 1 := toI (by omega)
  have e2 : (nI 2).toInt = 2 := toI (by omega)
  have k1 : x = nI 1 ↔ x.toInt = 1 := ⟨fun e => by rw [e, e1], fun e => Int32.toInt_inj.mp (by rw [e, e1])⟩
  have k2 : x = nI 2 ↔ x.toInt = 2 := ⟨fun e => by rw [e, e2], fun e => Int32.toInt_inj.mp (by rw [e, e2])⟩
  simp only [Int32.lt_iff_toInt_lt, e1, e2, k1, k2]
  by_cases c1 : x.toInt < 1
  · rw [if_pos c1, decide_eq_false (by omega)]
  · rw [if_neg c1]
    by_cases c2 : 2 < x.toInt
    · rw [if_pos c2, decide_eq_false (by omega)]
    · rw [if_neg c2, decide_eq_true (by omega)]
theorem M_isOn {u : Nat} (hu : 1000 ≤ u) {g0 : mS} {R : ER} {m0 : Int32} {tr : Option (Nat → Int32)} {D : Nat → List De} {g : mS} {T : ET} (h : RM g0 R m0 tr D g T) (hK : 1 ≤ R.1) (hK6 : R.1 ≤ 6) {s : Nat} (hs : s < 8) : fM_isOn u g (nI s) = some (lvT T s) := by
  unfold fM_isOn lvT
  rw [M_isSeat hu h hK hK6]
  simp (disch := omega) only [fM_ofSeat, fM_of, fM_keyAt, fM_many, fM_cell, fM_its, izN, nI_add, mulI, rdM, mWr7, mRow_s, mRow_m, mRow_2, Option.bind_some, inR_nI, h.q.st, M_in12, decide_eq_true_eq]
  rw [if_pos hs]
  by_cases c : tSd T 0 s = nI 1 ∨ tSd T 0 s = nI 2
  · rw [if_pos c, decide_eq_true c]
  · rw [if_neg c, decide_eq_false c]
theorem M_those {u : Nat} (hu : 1000 ≤ u) {g0 : mS} {R : ER} {m0 : Int32} {tr : Option (Nat → Int32)} {D : Nat → List De} {g : mS} {T : ET} (h : RM g0 R m0 tr D g T) (v : Int32) : fM_those u g v = some (inS T v) := by
  unfold fM_those inS
  refine bdE (it_up (fun i => (setA (fun s => decide (tSd T 0 s = v)) i, nI i)) 8 (fun i hi => ?_) ?_ (i := 0) (by omega) (by omega))
  · unfold fM_those_4
    simp (disch := omega) only [fM_ofSeat, fM_of, fM_keyAt, fM_many, fM_cell, fM_its, izN, nI_add, mulI, rdM, mWr7, mRow_s, mRow_m, mRow_2, Option.bind_some, h.q.st, leI]
    rw [if_neg (by omega)]
    by_cases e : tSd T 0 i = v
    · simp [e, setA, bitA]
    · simp [e, setA, or_0]
  · unfold fM_those_4
    simp (disch := omega) only [fM_ofSeat, fM_of, fM_keyAt, fM_many, fM_cell, fM_its, izN, nI_add, mulI, rdM, mWr7, mRow_s, mRow_m, mRow_2, Option.bind_some, leI]
    rfl
/-- row 7 with the log moved down as far as i -/
theorem M_note_shift {u : Nat} (hu : 1000 ≤ u) (g : mS) : ok (nx_iter u fM_note_24 (nI 3, g)) (fun g' => g' = mRow g 7 (g'.1 7) ∧ (∀ j, (j < 640 ∨ 817 ≤ j) → g'.1 7 j = g.1 7 j) ∧ ∀ j, 640 ≤ j → j < 817 → g'.1 7 j = g.1 7 (j + 3)) := by
  refine it_inv (fun i x => 3 ≤ i ∧ x.1 = nI i ∧ x.2 = mRow g 7 (x.2.1 7) ∧ (∀ j, (j < 640 ∨ 637 + i ≤ j) → x.2.1 7 j = g.1 7 j) ∧ ∀ j, 640 ≤ j → j < 637 + i → x.2.1 7 j = g.1 7 (j + 3)) 180 (fun i x hi hI => ?_) (fun x hI => ?_) (i := 3) ⟨by omega, rfl, ?_, fun _ _ => rfl, fun j h1 h2 => by omega⟩ (by omega) (by omega)
  · obtain ⟨h3, e1, e2, h1, h2⟩ := hI
    unfold fM_note_24
    simp (disch := omega) only [fM_ofSeat, fM_of, fM_keyAt, fM_many, fM_cell, fM_its, izN, nI_add, mulI, rdM, mWr7, mRow_s, mRow_m, mRow_2, Option.bind_some, e1, leI, subI]
    rw [if_neg (by omega)]
    refine ok.ret ⟨by omega, rfl, ?_, fun j hj => ?_, fun j a b => ?_⟩
    · show mRow x.2 7 _ = _
      rw [e2]
      simp only [mRow_s, mRow_m]
    · show (mRow x.2 7 _).1 7 j = _
      rw [mRow_s, upd_n (by omega)]
      exact h1 j (by omega)
    · show (mRow x.2 7 _).1 7 j = _
      rw [mRow_s]
      by_cases e : j = 640 + i - 3
      · rw [upd_e e, h1 _ (by omega)]
        exact congrArg (g.1 7) (by omega)
      · rw [upd_n e]
        exact h2 j a (by omega)
  · obtain ⟨h3, e1, e2, h1, h2⟩ := hI
    unfold fM_note_24
    simp (disch := omega) only [fM_ofSeat, fM_of, fM_keyAt, fM_many, fM_cell, fM_its, izN, nI_add, mulI, rdM, mWr7, mRow_s, mRow_m, mRow_2, Option.bind_some, e1, leI]
    rw [if_pos (by omega)]
    exact ok.ret ⟨e2, h1, h2⟩
  · exact mRow_i.symm
theorem logM.push {f : Nat → Int32} {L : List De} (e : De) (h : logM f L) (h60 : L.length < 60) {f' : Nat → Int32} (hf : ∀ j, 640 ≤ j → j < 640 + 3 * L.length → f' j = f j) (h1 : f' (640 + 3 * L.length) = e.1) (h2 : f' (641 + 3 * L.length) = e.2.1) (h3 : f' (642 + 3 * L.length) = e.2.2) (g8 : f' 639 = nI (L.length + 1)) : logM f' (L ++ [e]) := by
  refine ⟨by simp; omega, by rw [g8]; simp, fun i x hi => ?_⟩
  rcases getE_snoc hi with ⟨a, b⟩ | ⟨a, b⟩
  · obtain ⟨p, q, r⟩ := h.2.2 i x b
    exact ⟨by rw [hf _ (by omega) (by omega)]; exact p, by rw [hf _ (by omega) (by omega)]; exact q, by rw [hf _ (by omega) (by omega)]; exact r⟩
  · subst a b
    exact ⟨h1, h2, h3⟩
theorem M_note {u : Nat} (hu : 1000 ≤ u) {g0 : mS} {R : ER} {m0 : Int32} {tr : Option (Nat → Int32)} {D : Nat → List De} {g : mS} {T : ET} (h : RM g0 R m0 tr D g T) (a b c : Int32) : ok (fM_note u g a b c) (fun g' => RM g0 R m0 tr D g' (noteT T (a, b, c))) := by
  unfold fM_note
  rw [h.trial]
  cases tr with
  | some h0 =>
    rw [if_pos (show (some h0).isSome = true from rfl), if_neg (by decide +kernel)]
    obtain ⟨a1, a2, a3, q1, q2, q3, q4, q5, q6, q7, q8⟩ := h
    exact ok.ret ⟨a1, a2, a3, q1, q2, q3, q4, q5, q6, q7, q8⟩
  | none =>
    have hl := h.q.ll
    rw [if_neg (show ¬ ((none : Option (Nat → Int32)).isSome = true) by simp), if_pos rfl]
    simp (disch := omega) only [fM_ofSeat, fM_of, fM_keyAt, fM_many, fM_cell, fM_its, izN, nI_add, mulI, rdM, mWr7, mRow_s, mRow_m, mRow_2, Option.bind_some, hl.2.1]
    -- behind the shift: a log of at most 59
    have key : ∀ g1 : mS, RM g0 R m0 none D g1 (sLg T (if (tLg T).length = 60 then (tLg T).tail else tLg T)) → ok ((nx_rd (mlen 7) (g1.1 7) (nI 639)).bind fun x9 => (mWr g1 7 (nI 640 + nI 3 * x9) a).bind fun g10 => (mWr g10 7 (nI 640 + nI 3 * x9 + nI 1) b).bind fun g11 => (mWr g11 7 (nI 640 + nI 3 * x9 + nI 2) c).bind fun g12 => (nx_rd (mlen 7) (g12.1 7) (nI 639)).bind fun x13 => (mWr g12 7 (nI 639) (x13 + nI 1)).bind fun g14 => some g14) (fun g' => RM g0 R m0 none D g' (noteT T (a, b, c))) := by
      intro g1 h1
      have l1 := h1.q.ll
      have e1 : tLg (sLg T (if (tLg T).length = 60 then (tLg T).tail else tLg T)) = if (tLg T).length = 60 then (tLg T).tail else tLg T := rfl
      rw [e1] at l1
      have hlt : (if (tLg T).length = 60 then (tLg T).tail else tLg T).length < 60 := by
        split
        · next e => rw [List.length_tail]; omega
        · have := hl.1; omega
      have ep : noteT T (a, b, c) = sLg (sLg T (if (tLg T).length = 60 then (tLg T).tail else tLg T)) ((if (tLg T).length = 60 then (tLg T).tail else tLg T) ++ [(a, b, c)]) := by
        unfold noteT pushL
        split <;> rfl
      rw [ep]
      revert h1 l1 hlt
      generalize (if (tLg T).length = 60 then (tLg T).tail else tLg T) = L
      intro h1 l1 hlt
      simp (disch := omega) only [fM_ofSeat, fM_of, fM_keyAt, fM_many, fM_cell, fM_its, izN, nI_add, mulI, rdM, mWr7, mRow_s, mRow_m, mRow_2, Option.bind_some, l1.2.1, upd_n]
      refine ok.ret (h1.h7 rfl (h1.q.lg (show logM _ _ from l1.push (a, b, c) hlt (fun j _ _ => ?_) ?_ ?_ ?_ ?_) (fun j hj => ?_)))
      · rw [upd_n (by omega), upd_n (by omega), upd_n (by omega), upd_n (by omega)]
      · rw [upd_n (by omega), upd_n (by omega), upd_n (by omega), upd_s]
      · rw [upd_n (by omega), upd_n (by omega), upd_e (by omega)]
      · rw [upd_n (by omega), upd_e (by omega)]
      · rw [upd_s]
      · rw [upd_n (by omega), upd_n (by omega), upd_n (by omega), upd_n (by omega)]
    by_cases c60 : (tLg T).length = 60
    · rw [if_pos (by rw [c60])]
      refine ok.bd (P := fun g1 => RM g0 R m0 none D g1 (sLg T (if (tLg T).length = 60 then (tLg T).tail else tLg T))) ?_ (fun g1 h1 => key g1 h1)
      refine (M_note_shift hu g).bd (fun g1 hg1 => ?_)
      obtain ⟨e1, h1, h2⟩ := hg1
      have e9 : g1.1 7 639 = nI 60 := by rw [h1 _ (by omega), hl.2.1, c60]
      simp (disch := omega) only [fM_ofSeat, fM_of, fM_keyAt, fM_many, fM_cell, fM_its, izN, nI_add, mulI, rdM, mWr7, mRow_s, mRow_m, mRow_2, Option.bind_some, e9, subI]
      rw [e1, if_pos c60]
      simp only [mRow_s, mRow_m]
      refine ok.ret (h.h7 rfl (h.q.lg (show logM _ _ from ⟨by rw [List.length_tail]; omega, by rw [upd_s, List.length_tail, c60], fun i x hi => ?_⟩) (fun j hj => by rw [upd_n (by omega), h1 _ (by omega)])))
      rw [List.getElem?_tail] at hi
      have hi6 := (List.getElem?_eq_some_iff.mp hi).1
      obtain ⟨p, q, r⟩ := hl.2.2 (i + 1) x hi
      refine ⟨?_, ?_, ?_⟩
      · rw [upd_n (by omega), h2 _ (by omega) (by omega), show 640 + 3 * i + 3 = 640 + 3 * (i + 1) by omega]; exact p
      · rw [upd_n (by omega), h2 _ (by omega) (by omega), show 641 + 3 * i + 3 = 641 + 3 * (i + 1) by omega]; exact q
      · rw [upd_n (by omega), h2 _ (by omega) (by omega), show 642 + 3 * i + 3 = 642 + 3 * (i + 1) by omega]; exact r
    · rw [if_neg (by rw [eqI (by have := hl.1; omega) (by omega)]; exact c60)]
      refine ok.bd (P := fun g1 => RM g0 R m0 none D g1 (sLg T (if (tLg T).length = 60 then (tLg T).tail else tLg T))) (ok.ret ?_) (fun g1 h1 => key g1 h1)
      rw [if_neg c60]
      exact h
