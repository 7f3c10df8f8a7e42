/-! ===== texts: the whole store's text ===== -/
abbrev cSt (u : Nat) (o : Option (pS ⊕ (Int32 × pS))) : Option (Int32 × pS) := o.bind (Sum.elim (fun e7 =>
    (fT_nextSign u e7).bind fun p8 =>
    some ((p8.2 0 1), p8.2))
    (fun r0 => some r0))
def mMC (u : Nat) (e27 : mS) : Option (Int32 × mS) :=
  (if (e27.1 0 4) = (iz (-1)) then
     (fM_ahead u e27).bind fun p28 =>
     if p28.1 = (iz (-1)) then
       if (p28.2.1 0 7) = nI 0 then
         (fM_bad u p28.2).bind fun g30 =>
         some g30
       else
         some p28.2
     else
       (fM_bad u p28.2).bind fun g29 =>
       some g29
   else
     some e27 : Option (mS)).bind fun s31 =>
  some ((s31.1 0 4), s31)
def mNx (u : Nat) (s22 : Int32 × mS) : Option ((Int32 × Int32 × mS) ⊕ mS) :=
  (if (s22.2.1 0 4) = (iz (-1)) then
     (fM_ahead u s22.2).bind fun p23 =>
     if p23.1 = (nI 59) then
       some ((nI 1), p23.2)
     else
       some ((nI 0), p23.2)
   else
     some ((nI 0), s22.2) : Option (Int32 × mS)).bind fun s24 =>
  (if s24.1 = nI 0 then
     some (nI 0)
   else
     some (nI 1) : Option (Int32)).bind fun s25 =>
  (some (mFs s24.2 3 ((s24.2.1 0 3) + s25))).bind fun g26 =>
  some (.inl (s22.1, s24.1, g26))
theorem rs_step {u : Nat} {fl s fl' : Int32} {h h1 h' : mS} (hw : h.1 0 4 = iz (-1)) (e1 : fM_ahead u h = some (s, h1)) (e2 : mCl u fl (s, h1) = some (fl', h')) : fM_readStore_44 u (fl, nI 1, h) = mNx u (fl', h') := by
  unfold fM_readStore_44
  simp only [izN]
  rw [if_neg (by decide +kernel), if_pos hw, e1]
  simp only [Option.bind_some]
  have : mCl u fl (s, h1) = some (fl', h') := e2
  unfold mCl at this
  simp only [Option.bind_some] at this
  rw [this]
  rfl
theorem rs_end {u : Nat} {fl : Int32} {h : mS} : fM_readStore_44 u (fl, nI 0, h) = some (.inr h) := by
  unfold fM_readStore_44
  simp only [izN, if_true]
theorem mNx_bad {u : Nat} {fl : Int32} {h : mS} (hw : h.1 0 4 ≠ iz (-1)) : mNx u (fl, h) = some (.inl (fl, nI 0, mFs h 3 (h.1 0 3 + nI 0))) := by
  unfold mNx
  dsimp only
  rw [if_neg hw]
  simp only [Option.bind_some, if_true]
theorem mNx_on {u : Nat} {fl s : Int32} {h h1 : mS} (hw : h.1 0 4 = iz (-1)) (e : fM_ahead u h = some (s, h1)) (hs : s = nI 59) : mNx u (fl, h) = some (.inl (fl, nI 1, mFs h1 3 (h1.1 0 3 + nI 1))) := by
  unfold mNx
  dsimp only
  rw [if_pos hw, e]
  simp only [Option.bind_some]
  rw [if_pos hs]
  simp only [Option.bind_some]
  rw [if_neg i10]
  rfl
theorem mNx_no {u : Nat} {fl s : Int32} {h h1 : mS} (hw : h.1 0 4 = iz (-1)) (e : fM_ahead u h = some (s, h1)) (hs : s ≠ nI 59) : mNx u (fl, h) = some (.inl (fl, nI 0, mFs h1 3 (h1.1 0 3 + nI 0))) := by
  unfold mNx
  dsimp only
  rw [if_pos hw, e]
  simp only [Option.bind_some]
  rw [if_neg hs]
  simp only [Option.bind_some, if_true]
theorem mMC_bad {u : Nat} {h : mS} (hw : h.1 0 4 ≠ iz (-1)) : mMC u h = some (h.1 0 4, h) := by
  unfold mMC
  rw [if_neg hw]
  rfl
def stOut (n : Nat) (r : Int32) (g g' : pS) (h h' : mS) : Prop := gS g g' ∧ hS h h' ∧ (r = iz (-1) → ∃ K F, 1 ≤ K ∧ SR n K F g' h')
theorem store_run {u n : Nat} (hu : 1000 ≤ u) : ∀ (j i K F v w : Nat) (g : pS) (h : mS), j + i = 7 → K + F = i → SR n K F g h → (∀ i, g 1 i ≠ iz (-1)) → j < v → j + 1 < w → ∃ r g' h', cSt u (nx_iter v (fT_faultOf_10 u) (nI i, g)) = some (r, g') ∧ (nx_iter w (fM_readStore_44 u) (nI F, nI 1, h)).bind (mMC u) = some (r, h') ∧ stOut n r g g' h h' := by
  intro j
  induction j with
  | zero =>
    intro i K F v w g h hi hKF hs hb hv hw
    obtain ⟨b, g2, s, h1, F', h', x1, x2, x3, x4, x5, x6⟩ := clause hu hs
    have hs0 := hs
    obtain ⟨ho, hK, hF, s3, m7, s4, hr, hus, hks⟩ := hs
    have K6 : K = 6 := by omega
    have F1 : F = 1 := by omega
    rcases x6 with ⟨rfl, K', e1, e2⟩ | ⟨rfl, p', p1, p2, p3⟩
    · have := e2.2.1; have := e2.2.2.1; omega
    · -- the clause refuses where the sign stands
      obtain ⟨q, g1, h1b, n1, n2, c1, m1, f1, k1, _, t1, t2, w1⟩ := TM_next hu ho
      rw [n2] at x2
      obtain ⟨rfl, rfl⟩ := Prod.mk.inj (Option.some.inj x2)
      have ec : mCl u (nI F) (sgn (g 1) n q, h1b) = some (nI F, mFs h1b 4 (nI q)) := by
        have e7 : h1b.1 0 7 = nI 6 := by rw [k1.2.1 7 (by omega), m7, K6]
        have hbad : fM_bad u h1b = some (mFs h1b 4 (nI q)) := by rw [M_bad w1, m1.2.1]
        unfold mCl
        dsimp only
        rw [e7, if_pos (show nI 6 ≤ nI 6 by rw [leI (by omega) (by omega)]; omega), if_neg (show ¬ nI F = nI 0 by rw [F1]; exact i10), hbad]
        simp only [Option.bind_some, ite_self]
      rw [x3] at ec
      obtain ⟨_, rfl⟩ := Prod.mk.inj (Option.some.inj ec)
      have hq9 : q ≤ 240 := Nat.le_trans c1.2.2.2 c1.2.2.1
      have hww : (mFs h1b 4 (nI q)).1 0 4 = nI q := fs_s
      have hne : (mFs h1b 4 (nI q)).1 0 4 ≠ iz (-1) := by rw [hww]; exact neN1 (by omega)
      have stp := (rs_step (fl := nI F) ho.2.1 n2 x3).trans (mNx_bad hne)
      obtain ⟨w, rfl⟩ : ∃ w', w = w' + 1 := ⟨w - 1, by omega⟩
      have e1 : fT_faultOf_10 u (nI i, g) = some (.inr (.inl g)) := by
        unfold fT_faultOf_10
        simp (disch := omega) only [izN, ltI]
        rw [if_pos (by omega)]
      refine ⟨nI q, g1, mFs (mFs h1b 4 (nI q)) 3 ((mFs h1b 4 (nI q)).1 0 3 + nI 0), ?_, ?_, f1.s, k1.t.s.tr ((hS.f (by omega)).tr (hS.f (by omega))), fun k => absurd k (neN1 (by omega))⟩
      · rw [it_end e1 (by omega)]
        show (fT_nextSign u g).bind _ = _
        rw [n1]
        simp only [Option.bind_some, c1.2.1]
      · rw [it_on stp, it_end rs_end (by omega)]
        simp only [Option.bind_some]
        rw [mMC_bad (by rw [fs_n (by omega)]; exact hne), fs_n (by omega), hww]
  | succ j ih =>
    intro i K F v w g h hi hKF hs hb hv hw
    obtain ⟨b, g2, s, h1, F', h2, x1, x2, x3, x4, x5, x6⟩ := clause hu hs
    have hwr : h.1 0 4 = iz (-1) := hs.1.2.1
    obtain ⟨v, rfl⟩ : ∃ v', v = v' + 1 := ⟨v - 1, by omega⟩
    obtain ⟨w, rfl⟩ : ∃ w', w = w' + 1 := ⟨w - 1, by omega⟩
    have n240 : n ≤ 240 := by obtain ⟨_, _, p, q, hc, _⟩ := hs.1; exact hc.2.2.1
    have stp := rs_step (fl := nI F) hwr x2 x3
    have i6 : ¬ nI 6 < nI i := by rw [ltI (by omega) (by omega)]; omega
    have estep : fT_faultOf_10 u (nI i, g) = (if b = true then (fT_nextSign u g2).bind fun p5 => if p5.1 = iz (-1) then (if (p5.2 0 3) = nI 0 then some (.inr (.inr ((p5.2 0 0), p5.2))) else some (.inr (.inr ((iz (-1)), p5.2)))) else (if p5.1 = nI 59 then (fT_pass u p5.2).bind fun g6 => some (.inl (nI (i + 1), g6)) else some (.inr (.inr ((p5.2 0 1), p5.2)))) else some (.inr (.inr ((g2 0 1), g2)))) := by
      unfold fT_faultOf_10
      simp (disch := omega) only [izN, x1, Option.bind_some, nI_add]
      rw [if_neg i6]
    rcases x6 with ⟨rfl, K', e1, e2⟩ | ⟨rfl, p', p1, p2, p3⟩
    · rw [if_pos rfl] at estep
      have e2' := e2
      obtain ⟨ho, hK, hF, s3, m7, s4, hr, hus, hks⟩ := e2
      obtain ⟨q, g3, h3, n1, n2, c1, m1, f1, k1, sq, t1, t2, w1⟩ := TM_next hu ho
      have tt : g2 1 = g 1 := x4.1 1 (by omega) (by omega) (by omega)
      rw [n1] at estep
      simp only [Option.bind_some] at estep
      have g33 : g3 0 3 = nI K' := (f1.2 3 (by omega) (by omega)).trans s3
      have h37 : h3.1 0 7 = nI K' := (k1.2.1 7 (by omega)).trans m7
      have srk : ∀ (G : pS) (H : mS), pOk n G H → gT g3 G → hA h3 H → SR n K' F' G H := fun G H po fG fH => ⟨po, hK, hF, (fG.2 3 (by omega) (by omega)).trans g33, (fH.2.1 7 (by omega)).trans h37, (fG.2 4 (by omega) (by omega)).trans ((f1.2 4 (by omega) (by omega)).trans s4), hr.to ((fG.1 2 (by omega)).trans (f1.1 2 (by omega))) ((fH.1 2 (by omega)).trans (k1.1 2 (by omega))), fun k i hi => by rw [fG.1 2 (by omega), f1.1 2 (by omega)]; exact hus k i hi, fun i hi => by rw [fG.1 3 (by omega), f1.1 3 (by omega), fH.1 3 (by omega), k1.1 3 (by omega)]; exact hks i hi⟩
      have m3 : mlT n q (mFs h3 3 (h3.1 0 3 + nI 0)) := m1.to hA.f3.t (by rw [fs_s, m1.2.1, nI_add]; rfl) m1.2.2.2
      by_cases cs : sgn (g2 1) n q = nI 59
      · have hqn : q < n := sgn_lt (by rw [cs]; exact neN1 (by omega))
        rw [if_neg (by rw [cs]; exact neN1 (by omega)), if_pos cs, T_pass c1] at estep
        simp only [Option.bind_some] at estep
        have stp2 := stp.trans (mNx_on (fl := nI F') ho.2.1 n2 cs)
        rw [m1.2.1, nI_add] at stp2
        obtain ⟨r, g', h', y1, y2, y3, y4, y5⟩ := ih (i + 1) K' F' v w _ _ (by omega) (by omega) (srk _ _ (pOk.ps (t1.trans t2.symm) w1 c1 m1 hqn) gT.f1 hA.f3) (fun i => by rw [tfs_r (by omega), t1, tt]; exact hb i) (by omega) (by omega)
        refine ⟨r, g', h', ?_, ?_, x4.tr (f1.s.tr (gT.f1.s.tr y3)), x5.tr (k1.t.s.tr (hA.f3.t.s.tr y4)), y5⟩
        · rw [it_on estep]; exact y1
        · rw [it_on stp2]; exact y2
      · have stp2 := stp.trans (mNx_no (fl := nI F') ho.2.1 n2 cs)
        obtain ⟨⟨s4', h4⟩, z1, z2, z3, z4⟩ := M_next hu m3
        dsimp only at z2 z3 z4
        have t3 : (mFs h3 3 (h3.1 0 3 + nI 0)).1 1 = g2 1 := (fs_r (by omega)).trans t2
        rw [t3, sq] at z2 z3
        have w3 : (mFs h3 3 (h3.1 0 3 + nI 0)).1 0 4 = iz (-1) := (fs_n (by omega)).trans w1
        have w4 : h4.1 0 4 = iz (-1) := (z4.2.1 4 (by omega)).trans w3
        have h47 : h4.1 0 7 = nI K' := (z4.2.1 7 (by omega)).trans ((fs_n (by omega)).trans h37)
        have fh4 : hS h h4 := x5.tr (k1.t.s.tr (hA.f3.t.s.tr z4.t.s))
        have q9 : q ≤ 240 := Nat.le_trans c1.2.2.2 n240
        rw [it_on stp2]
        have hmm : (nx_iter w (fM_readStore_44 u) (nI F', nI 0, mFs h3 3 (h3.1 0 3 + nI 0))).bind (mMC u) = (if sgn (g2 1) n q = iz (-1) then (if nI K' = nI 0 then some (nI q, mFs h4 4 (nI q)) else some (iz (-1), h4)) else some (nI q, mFs h4 4 (nI q))) := by
          rw [it_end rs_end (by omega)]
          show mMC u _ = _
          unfold mMC
          rw [if_pos w3, z1]
          simp only [Option.bind_some]
          rw [z2, h47, M_bad w4, z3.2.1]
          simp only [Option.bind_some]
          by_cases c : sgn (g2 1) n q = iz (-1)
          · rw [if_pos c, if_pos c]
            by_cases d : nI K' = nI 0
            · rw [if_pos d, if_pos d]
              simp only [Option.bind_some, fs_s]
            · rw [if_neg d, if_neg d]
              simp only [Option.bind_some, w4]
          · rw [if_neg c, if_neg c]
            simp only [Option.bind_some, fs_s]
        rw [hmm]
        by_cases c : sgn (g2 1) n q = iz (-1)
        · rw [if_pos c, g33] at estep
          rw [if_pos c]
          have qn : q = n := sgn_e (t := g2 1) (by rw [tt]; exact hb) c1.2.2.2 c
          by_cases d : nI K' = nI 0
          · rw [if_pos d, c1.1] at estep
            rw [if_pos d]
            refine ⟨nI n, g3, mFs h4 4 (nI q), by rw [it_end estep (by omega)]; rfl, by rw [qn], x4.tr f1.s, fh4.tr (hS.f (by omega)), fun k => absurd k (neN1 (by omega))⟩
          · rw [if_neg d] at estep
            rw [if_neg d]
            refine ⟨iz (-1), g3, h4, by rw [it_end estep (by omega)]; rfl, rfl, x4.tr f1.s, fh4, fun _ => ⟨K', F', ?_, srk _ _ (pOk.at (t1.trans (((z4.1 1 (by omega)).trans t3).symm)) w4 c1 z3) gT.rf (hA.f3.tr z4)⟩⟩
            rw [eqI (by omega) (by omega)] at d
            omega
        · rw [if_neg c, if_neg cs, c1.2.1] at estep
          rw [if_neg c]
          exact ⟨nI q, g3, mFs h4 4 (nI q), by rw [it_end estep (by omega)]; rfl, rfl, x4.tr f1.s, fh4.tr (hS.f (by omega)), fun k => absurd k (neN1 (by omega))⟩
    · rw [if_neg (by simp), p2] at estep
      have hne : h2.1 0 4 ≠ iz (-1) := by rw [p3]; exact neN1 (by omega)
      have stp2 := stp.trans (mNx_bad (fl := nI F') hne)
      refine ⟨nI p', g2, mFs h2 3 (h2.1 0 3 + nI 0), by rw [it_end estep (by omega)]; rfl, ?_, x4, x5.tr (hS.f (by omega)), fun k => absurd k (neN1 (by omega))⟩
      rw [it_on stp2, it_end rs_end (by omega)]
      simp only [Option.bind_some]
      rw [mMC_bad (by rw [fs_n (by omega)]; exact hne), fs_n (by omega), p3]
theorem trow_m {g : pS} {j : Nat} {a b : Nat → Int32} : tRow (tRow g j a) j b = tRow g j b := by
  funext q
  unfold tRow
  by_cases e : q = j <;> simp [e]
theorem sv_3 {e : Nat} (h : e < 3) : nx_sv 3 e = nI (usE e) := by
  rcases e3 h with rfl | rfl | rfl <;> decide +kernel
theorem T_reset_l {u : Nat} (hu : 1000 ≤ u) (g : pS) : ok (nx_iter u fT_reset_2 (nI 0, g)) (fun g' => ∃ a, g' = tRow g 2 a ∧ ∀ i, i < 3 → a i = nI (usE i)) := by
  refine it_inv (fun i s => s.1 = nI i ∧ ∃ a, s.2 = tRow g 2 a ∧ ∀ j, j < i → a j = nI (usE j)) 3 (fun i s hi hI => ?_) (fun s hI => ?_) (i := 0) ⟨rfl, g 2, ?_, fun j hj => by omega⟩ (by omega) (by omega)
  · obtain ⟨e1, a, e2, ha⟩ := hI
    have es : (tRow g 2 a) 2 = a := trow_s
    unfold fT_reset_2
    rw [e1, e2]
    simp (disch := omega) only [leI, rd3, Option.bind_some, nI_add, izN]
    rw [if_neg (by omega), tWr2_at hi, es, sv_3 hi]
    simp only [Option.bind_some]
    refine ok.ret ⟨rfl, upd a i (nI (usE i)), ?_, fun j hj => ?_⟩
    · exact trow_m
    · by_cases e : j = i
      · rw [upd_e e, e]
      · rw [upd_n e]; exact ha j (by omega)
  · obtain ⟨e1, a, e2, ha⟩ := hI
    unfold fT_reset_2
    rw [e1]
    simp (disch := omega) only [leI, izN]
    rw [if_pos (by omega)]
    exact ok.ret ⟨a, e2, ha⟩
  · funext q
    unfold tRow
    split
    · next e => rw [e]
    · rfl
theorem M_reset_l {u : Nat} (hu : 1000 ≤ u) (h : mS) : ok (nx_iter u (fM_readStore_19 u) (nI 0, h)) (fun h' => ∃ a, h' = mRow h 2 a ∧ ∀ i, i < 3 → a i = nI (usE i)) := by
  refine it_inv (fun i s => s.1 = nI i ∧ ∃ a, s.2 = mRow h 2 a ∧ ∀ j, j < i → a j = nI (usE j)) 3 (fun i s hi hI => ?_) (fun s hI => ?_) (i := 0) ⟨rfl, h.1 2, mRow_i.symm, fun j hj => by omega⟩ (by omega) (by omega)
  · obtain ⟨e1, a, e2, ha⟩ := hI
    have es : (mRow h 2 a).1 2 = a := mRow_s
    unfold fM_readStore_19
    rw [e1, e2]
    simp (disch := omega) only [izN, leI, M_usual, Option.bind_some, nI_add]
    rw [if_neg (by omega), mWr2_at hi, es]
    simp only [Option.bind_some, mRow_m]
    refine ok.ret ⟨rfl, _, rfl, fun j hj => ?_⟩
    by_cases e : j = i
    · rw [upd_e e, e]
    · rw [upd_n e]; exact ha j (by omega)
  · obtain ⟨e1, a, e2, ha⟩ := hI
    unfold fM_readStore_19
    rw [e1]
    simp (disch := omega) only [izN, leI]
    rw [if_pos (by omega)]
    exact ok.ret ⟨a, e2, ha⟩
/-- a store's text is read alike -/
theorem TM_store {u n : Nat} {g : pS} {h : mS} (hu : 1000 ≤ u) (hn : n ≤ 240) (g0 : g 0 0 = nI n) (h0 : h.1 0 2 = nI n) (ht : g 1 = h.1 1) (hb : ∀ i, h.1 1 i ≠ iz (-1)) : ∃ r g' h', fT_faultOf u g = some (r, g') ∧ fM_readStore u h = some (r, h') ∧ stOut n r g g' h h' := by
  obtain ⟨G, e1, a, rfl, ha⟩ := T_reset_l hu g
  obtain ⟨H, e2, b, rfl, hb2⟩ := M_reset_l hu (mFs (mFs (mFs h 3 (nI 0)) 4 (iz (-1))) 7 (nI 0))
  have fG : gS g (tFs (tFs (tFs (tRow g 2 a) 3 (nI 0)) 4 (nI 0)) 1 (nI 0)) := (gS.row (Or.inl rfl)).tr ((gS.f (by omega)).tr ((gS.f (by omega)).tr (gS.f (by omega))))
  have fH : hS h (mRow (mFs (mFs (mFs h 3 (nI 0)) 4 (iz (-1))) 7 (nI 0)) 2 b) := (hS.f (by omega)).tr ((hS.f (by omega)).tr ((hS.f (by omega)).tr (hU.s (Or.inl rfl) (hU.row (by omega)))))
  have G2 : (tFs (tFs (tFs (tRow g 2 a) 3 (nI 0)) 4 (nI 0)) 1 (nI 0)) 2 = a := by rw [tfs_r (by omega), tfs_r (by omega), tfs_r (by omega), trow_s]
  have H2 : (mRow (mFs (mFs (mFs h 3 (nI 0)) 4 (iz (-1))) 7 (nI 0)) 2 b).1 2 = b := mRow_s
  have t1 : (tFs (tFs (tFs (tRow g 2 a) 3 (nI 0)) 4 (nI 0)) 1 (nI 0)) 1 = g 1 := fG.1 1 (by omega) (by omega) (by omega)
  have t2 : (mRow (mFs (mFs (mFs h 3 (nI 0)) 4 (iz (-1))) 7 (nI 0)) 2 b).1 1 = g 1 := (fH.1 1 (by omega) (by omega) (by omega)).trans ht.symm
  have q7 : (mRow (mFs (mFs (mFs h 3 (nI 0)) 4 (iz (-1))) 7 (nI 0)) 2 b).1 0 7 = nI 0 := by rw [mRow_n (by omega)]; exact fs_s
  have q4 : (mRow (mFs (mFs (mFs h 3 (nI 0)) 4 (iz (-1))) 7 (nI 0)) 2 b).1 0 4 = iz (-1) := by rw [mRow_n (by omega), fs_n (by omega)]; exact fs_s
  have q3 : (mRow (mFs (mFs (mFs h 3 (nI 0)) 4 (iz (-1))) 7 (nI 0)) 2 b).1 0 3 = nI 0 := by rw [mRow_n (by omega), fs_n (by omega), fs_n (by omega)]; exact fs_s
  have r3 : (tFs (tFs (tFs (tRow g 2 a) 3 (nI 0)) 4 (nI 0)) 1 (nI 0)) 0 3 = nI 0 := (tfs_n (by omega)).trans ((tfs_n (by omega)).trans tfs_s)
  have r4 : (tFs (tFs (tFs (tRow g 2 a) 3 (nI 0)) 4 (nI 0)) 1 (nI 0)) 0 4 = nI 0 := (tfs_n (by omega)).trans tfs_s
  have r1 : (tFs (tFs (tFs (tRow g 2 a) 3 (nI 0)) 4 (nI 0)) 1 (nI 0)) 0 1 = nI 0 := tfs_s
  have ef : fT_faultOf u g = cSt u (nx_iter u (fT_faultOf_10 u) (nI 0, tFs (tFs (tFs (tRow g 2 a) 3 (nI 0)) 4 (nI 0)) 1 (nI 0))) := by
    unfold fT_faultOf fT_reset fT_rewind
    simp only [izN]
    rw [e1]
    rfl
  have em : fM_readStore u h = (nx_iter u (fM_readStore_44 u) (nI 0, nI 1, mRow (mFs (mFs (mFs h 3 (nI 0)) 4 (iz (-1))) 7 (nI 0)) 2 b)).bind (mMC u) := by
    unfold fM_readStore
    simp only [izN, Option.bind_some]
    rw [e2]
    rfl
  rw [ef, em]
  generalize tFs (tFs (tFs (tRow g 2 a) 3 (nI 0)) 4 (nI 0)) 1 (nI 0) = G at fG G2 t1 r1 r3 r4 ⊢
  generalize mRow (mFs (mFs (mFs h 3 (nI 0)) 4 (iz (-1))) 7 (nI 0)) 2 b = H at fH H2 t2 q3 q4 q7 ⊢
  obtain ⟨r, g', h', y1, y2, y3, y4, y5⟩ := store_run hu 7 0 0 0 u u G H (by omega) (by omega) ⟨pOk.at (t1.trans t2.symm) q4 ⟨fG.2.1.trans g0, r1, hn, by omega⟩ ⟨(fH.2.1 2 (by omega) (by omega) (by omega)).trans h0, q3, hn, by omega⟩, by omega, by omega, r3, q7, r4, ⟨fun i hi => by rw [G2, H2, ha i hi, hb2 i hi], ⟨6, by omega, by omega, by rw [G2, ha 0 (by omega)]; rfl⟩, ⟨10, by omega, by omega, by rw [G2, ha 2 (by omega)]; rfl⟩⟩, fun _ i hi => by rw [G2]; exact ha i hi, fun i hi => by omega⟩ (fun i => by rw [t1, ht]; exact hb i) (by omega) (by omega)
  exact ⟨r, g', h', y1, y2, fG.tr y3, fH.tr y4, y5⟩
