/-! ===== texts: a script's text on both sides ===== -/
def QR (n k i : Nat) (g : pS) (h : mS) : Prop := pOk n g h ∧ g 0 5 = nI i ∧ h.1 6 k = nI i ∧ ∀ t, t < i → (∃ kd, kd < 6 ∧ g 4 (4 * t) = nI kd) ∧ ∀ w, w < 4 → g 4 (4 * t + w) = h.1 5 (64 * k + 4 * t + w)
def gP (g g' : pS) : Prop := (∀ i, i ≠ 0 → i ≠ 4 → g' i = g i) ∧ ∀ q, q ≠ 1 → q ≠ 2 → q ≠ 5 → g' 0 q = g 0 q
def hP (k : Nat) (h h' : mS) : Prop := (∀ i, i ≠ 0 → i ≠ 5 → i ≠ 6 → h'.1 i = h.1 i) ∧ (∀ q, q ≠ 3 → q ≠ 4 → h'.1 0 q = h.1 0 q) ∧ h'.2 = h.2 ∧ (∀ j, j ≠ k → h'.1 6 j = h.1 6 j) ∧ ∀ j, (j < 64 * k ∨ 64 * k + 64 ≤ j) → h'.1 5 j = h.1 5 j
theorem gP.tr {a b c : pS} (h : gP a b) (k : gP b c) : gP a c := ⟨fun i h0 h4 => (k.1 i h0 h4).trans (h.1 i h0 h4), fun q h1 h2 h5 => (k.2 q h1 h2 h5).trans (h.2 q h1 h2 h5)⟩
theorem hP.tr {s : Nat} {a b c : mS} (h : hP s a b) (k : hP s b c) : hP s a c := ⟨fun i h0 h5 h6 => (k.1 i h0 h5 h6).trans (h.1 i h0 h5 h6), fun q h3 h4 => (k.2.1 q h3 h4).trans (h.2.1 q h3 h4), k.2.2.1.trans h.2.2.1, fun j hj => (k.2.2.2.1 j hj).trans (h.2.2.2.1 j hj), fun j hj => (k.2.2.2.2 j hj).trans (h.2.2.2.2 j hj)⟩
theorem gT.p {g g' : pS} (h : gT g g') : gP g g' := ⟨fun i h0 _ => h.1 i h0, fun q h1 h2 _ => h.2 q h1 h2⟩
theorem hT.p {k : Nat} {g g' : mS} (h : hT g g') : hP k g g' := ⟨fun i h0 _ _ => h.1 i h0, h.2.1, h.2.2, fun j _ => by rw [h.1 6 (by omega)], fun j _ => by rw [h.1 5 (by omega)]⟩
theorem gV.p {a : Nat} {g g' : pS} (h : gV a g g') : gP g g' := ⟨h.1.1, fun q h1 h2 _ => h.1.2 q h1 h2⟩
theorem hV.p {k i : Nat} {g g' : mS} (hi : i < 16) (h : hV (64 * k + 4 * i) g g') : hP k g g' := ⟨fun i h0 h5 _ => h.1.1 i h0 h5, h.1.2.1, h.1.2.2, fun j _ => by rw [h.1.1 6 (by omega) (by omega)], fun j hj => h.2 j (by omega)⟩
theorem mWr6_at {m : Nat} {g : mS} {v : Int32} (hm : m < 5) : mWr g 6 (nI m) v = some (mRow g 6 (upd (g.1 6) m v)) := mWr_at (show m < mlen 6 from hm) (show (5 : Nat) ≤ 100000 by omega)
theorem rd6x {m : Nat} {f : Nat → Int32} (hm : m < 5) : nx_rd (mlen 6) f (nI m) = some (f m) := rd_nI (show m < mlen 6 from hm) (show (5 : Nat) ≤ 100000 by omega)
theorem hP.r6 {k : Nat} {g : mS} {v : Int32} : hP k g (mRow g 6 (upd (g.1 6) k v)) := ⟨fun i _ _ h6 => mRow_n h6, fun q _ _ => by rw [mRow_n (by omega)], rfl, fun j hj => by rw [mRow_s, upd_n hj], fun j _ => by rw [mRow_n (by omega)]⟩
def mSE (u : Nat) (e14 : mS) : Option (Int32 × mS) :=
  (if (e14.1 0 4) = (iz (-1)) then
     (fM_ahead u e14).bind fun p15 =>
     if p15.1 = (iz (-1)) then
       some p15.2
     else
       (fM_bad u p15.2).bind fun g16 =>
       some g16
   else
     some e14 : Option (mS)).bind fun s17 =>
  some ((s17.1 0 4), s17)
def mN6 (u k : Nat) (g8 : mS) : Option ((Int32 × mS) ⊕ mS) :=
  (if (g8.1 0 4) = (iz (-1)) then
     (fM_ahead u g8).bind fun p9 =>
     if p9.1 = (nI 59) then
       (nx_rd (mlen 6) (p9.2.1 6) (nI k)).bind fun x10 =>
       if (nI 16) ≤ x10 then
         some ((nI 0), p9.2)
       else
         some ((nI 1), p9.2)
     else
       some ((nI 0), p9.2)
   else
     some ((nI 0), g8) : Option (Int32 × mS)).bind fun s11 =>
  (if s11.1 = nI 0 then
     some (nI 0)
   else
     some (nI 1) : Option (Int32)).bind fun s12 =>
  (some (mFs s11.2 3 ((s11.2.1 0 3) + s12))).bind fun g13 =>
  some (.inl (s11.1, g13))
theorem sc_step {u k i : Nat} {h h' : mS} (hk : k < 5) (h6 : h.1 6 k = nI i) (e : fM_readStep u h (nI (64 * k + 4 * i)) = some h') (h6' : h'.1 6 k = nI i) : fM_readScript_19 u (nI k) (nI 1, h) = mN6 u k (mRow h' 6 (upd (h'.1 6) k (nI (i + 1)))) := by
  unfold fM_readScript_19
  simp only [izN]
  rw [if_neg i10, rd6x hk, h6]
  simp only [Option.bind_some, mulI, nI_add]
  rw [show 4 * (16 * k + i) = 64 * k + 4 * i by omega, e]
  simp only [Option.bind_some]
  rw [rd6x hk, h6']
  simp only [Option.bind_some, nI_add]
  rw [mWr6_at hk]
  rfl
theorem sc_end {u k : Nat} {h : mS} : fM_readScript_19 u (nI k) (nI 0, h) = some (.inr h) := by
  unfold fM_readScript_19
  simp only [izN, if_true]
theorem mN6_bad {u k : Nat} {h : mS} (hw : h.1 0 4 ≠ iz (-1)) : mN6 u k h = some (.inl (nI 0, mFs h 3 (h.1 0 3 + nI 0))) := by
  unfold mN6
  rw [if_neg hw]
  simp only [Option.bind_some, if_true]
theorem mN6_on {u k : Nat} {s : Int32} {h h1 : mS} (hk : k < 5) (hw : h.1 0 4 = iz (-1)) (e : fM_ahead u h = some (s, h1)) (hs : s = nI 59) (h6 : ¬ nI 16 ≤ h1.1 6 k) : mN6 u k h = some (.inl (nI 1, mFs h1 3 (h1.1 0 3 + nI 1))) := by
  unfold mN6
  rw [if_pos hw, e]
  simp only [Option.bind_some]
  rw [if_pos hs, rd6x hk]
  simp only [Option.bind_some]
  rw [if_neg h6]
  simp only [Option.bind_some]
  rw [if_neg i10]
  rfl
theorem mN6_no {u k : Nat} {s : Int32} {h h1 : mS} (hk : k < 5) (hw : h.1 0 4 = iz (-1)) (e : fM_ahead u h = some (s, h1)) (hs : s = nI 59 → nI 16 ≤ h1.1 6 k) : mN6 u k h = some (.inl (nI 0, mFs h1 3 (h1.1 0 3 + nI 0))) := by
  unfold mN6
  rw [if_pos hw, e]
  simp only [Option.bind_some]
  by_cases c : s = nI 59
  · rw [if_pos c, rd6x hk]
    simp only [Option.bind_some]
    rw [if_pos (hs c)]
    simp only [Option.bind_some, if_true]
  · rw [if_neg c]
    simp only [Option.bind_some, if_true]
theorem mSE_bad {u : Nat} {h : mS} (hw : h.1 0 4 ≠ iz (-1)) : mSE u h = some (h.1 0 4, h) := by
  unfold mSE
  rw [if_neg hw]
  rfl
abbrev cSc (o : Option (pS ⊕ (Int32 × pS))) : Option (Int32 × pS) := o.bind (Sum.elim (fun e8 => some ((e8 0 1), e8)) (fun r0 => some r0))
def scOut (n k : Nat) (r : Int32) (g g' : pS) (h h' : mS) : Prop := gP g g' ∧ hP k h h' ∧ (r = iz (-1) → ∃ m, m ≤ 16 ∧ QR n k m g' h')
def scGoal (u n k i v w : Nat) (g : pS) (h : mS) : Prop := ∃ r g' h', cSc (nx_iter v (fP_faultOf_11 u) (nI i, g)) = some (r, g') ∧ (nx_iter w (fM_readScript_19 u (nI k)) (nI 1, h)).bind (mSE u) = some (r, h') ∧ scOut n k r g g' h h'
theorem script_one {u n k : Nat} (hu : 1000 ≤ u) (hk : k < 5) (i v w : Nat) (g : pS) (h : mS) (hi : i ≤ 15) (hs : QR n k i g h) (hw : 0 < w) (ih : ∀ g h, i < 15 → QR n k (i + 1) g h → scGoal u n k (i + 1) v w g h) : scGoal u n k i (v + 1) (w + 1) g h := by
  obtain ⟨ho, h5, h6, hq⟩ := hs
  obtain ⟨bb, g1, h1, x1, x2, x3, x4, x5⟩ := step_run (a := 4 * i) (b := 64 * k + 4 * i) hu (by omega) (by omega) ho
  have h61 : h1.1 6 k = nI i := by rw [x4.1.1 6 (by omega) (by omega)]; exact h6
  have n240 : n ≤ 240 := by obtain ⟨_, _, p, q, hc, _⟩ := ho; exact hc.2.2.1
  have stp := sc_step hk h6 x2 h61
  have i16 : ¬ nI 16 ≤ nI i := by rw [leI (by omega) (by omega)]; omega
  have g15 : g1 0 5 = nI i := (x3.1.2 5 (by omega) (by omega)).trans h5
  have estep : fP_faultOf_11 u (nI i, g) = (if bb = true then (fT_nextSign u (tFs g1 5 (nI (i + 1)))).bind fun p6 => if p6.1 = iz (-1) then some (.inr (.inr ((iz (-1)), p6.2))) else (if p6.1 = nI 59 then (if nI i = nI 15 then some (.inr (.inr ((p6.2 0 1), p6.2))) else (fT_pass u p6.2).bind fun g7 => some (.inl (nI (i + 1), g7))) else some (.inr (.inr ((p6.2 0 1), p6.2)))) else some (.inr (.inr ((g1 0 1), g1)))) := by
    unfold fP_faultOf_11
    simp only [izN, mulI]
    rw [if_neg i16, show i * 4 = 4 * i by omega, x1]
    simp only [Option.bind_some, g15, nI_add]
  have fH : hP k h (mRow h1 6 (upd (h1.1 6) k (nI (i + 1)))) := (hV.p (by omega) x4).tr hP.r6
  rcases x5 with ⟨rfl, po, pr, kd, hkd, ek⟩ | ⟨rfl, p', p1, p2, p3⟩
  · rw [if_pos rfl] at estep
    have po2 : pOk n (tFs g1 5 (nI (i + 1))) (mRow h1 6 (upd (h1.1 6) k (nI (i + 1)))) := by
      obtain ⟨o1, o2, p, q, o3, o4, o5⟩ := po
      refine ⟨by rw [tfs_r (by omega), mRow_n (by omega)]; exact o1, by rw [mRow_n (by omega)]; exact o2, p, q, ⟨(tfs_n (by omega)).trans o3.1, (tfs_n (by omega)).trans o3.2.1, o3.2.2⟩, o4.row (by omega), by rw [tfs_r (by omega)]; exact o5⟩
    have fG : gP g (tFs g1 5 (nI (i + 1))) := x3.p.tr ⟨fun i h0 _ => tfs_r h0, fun q _ _ h5 => tfs_n h5⟩
    have qq : ∀ t, t < i + 1 → (∃ kd, kd < 6 ∧ (tFs g1 5 (nI (i + 1))) 4 (4 * t) = nI kd) ∧ ∀ w, w < 4 → (tFs g1 5 (nI (i + 1))) 4 (4 * t + w) = (mRow h1 6 (upd (h1.1 6) k (nI (i + 1)))).1 5 (64 * k + 4 * t + w) := fun t ht => by
      rw [tfs_r (by omega), mRow_n (by omega)]
      by_cases e : t = i
      · subst e
        exact ⟨⟨kd, hkd, ek⟩, fun w hw => pr w hw⟩
      · obtain ⟨⟨c, c1, c2⟩, c3⟩ := hq t (by omega)
        exact ⟨⟨c, c1, by rw [x3.2 _ (by omega)]; exact c2⟩, fun w hw => by rw [x3.2 _ (by omega), x4.2 _ (by omega)]; exact c3 w hw⟩
    have h62 : (mRow h1 6 (upd (h1.1 6) k (nI (i + 1)))).1 6 k = nI (i + 1) := by rw [mRow_s, upd_s]
    have g52 : (tFs g1 5 (nI (i + 1))) 0 5 = nI (i + 1) := tfs_s
    generalize tFs g1 5 (nI (i + 1)) = G at po2 fG qq g52 estep
    generalize mRow h1 6 (upd (h1.1 6) k (nI (i + 1))) = H at po2 fH qq h62 stp
    obtain ⟨q, g3, h3, n1, n2, c1, m1, f1, k1, sq, t1, t2, w1⟩ := TM_next hu po2
    rw [n1] at estep
    simp only [Option.bind_some] at estep
    have h36 : h3.1 6 k = nI (i + 1) := by rw [k1.1 6 (by omega)]; exact h62
    have srk : ∀ (G' : pS) (H' : mS), pOk n G' H' → gT g3 G' → hA h3 H' → QR n k (i + 1) G' H' := fun G' H' po fG fH => ⟨po, (fG.2 5 (by omega) (by omega)).trans ((f1.2 5 (by omega) (by omega)).trans g52), by rw [fH.1 6 (by omega)]; exact h36, fun t ht => by rw [fG.1 4 (by omega), f1.1 4 (by omega), fH.1 5 (by omega), k1.1 5 (by omega)]; exact qq t ht⟩
    by_cases cs : sgn (G 1) n q = nI 59 ∧ i < 15
    · obtain ⟨cs, i15⟩ := cs
      have hqn : q < n := sgn_lt (by rw [cs]; exact neN1 (by omega))
      rw [if_neg (by rw [cs]; exact neN1 (by omega)), if_pos cs, if_neg (show ¬ nI i = nI 15 by rw [eqI (by omega) (by omega)]; omega), T_pass c1] at estep
      simp only [Option.bind_some] at estep
      have stp2 := stp.trans (mN6_on hk po2.2.1 n2 cs (by rw [h36, leI (by omega) (by omega)]; omega))
      rw [m1.2.1, nI_add] at stp2
      obtain ⟨r, g', h', y1, y2, y3, y4, y5⟩ := ih _ _ i15 (srk _ _ (pOk.ps (t1.trans t2.symm) w1 c1 m1 hqn) gT.f1 hA.f3)
      refine ⟨r, g', h', ?_, ?_, fG.tr (f1.p.tr (gT.f1.p.tr y3)), fH.tr (k1.t.p.tr (hA.f3.t.p.tr y4)), y5⟩
      · rw [it_on estep]; exact y1
      · rw [it_on stp2]; exact y2
    · have stp2 := stp.trans (mN6_no hk po2.2.1 n2 (fun e => by have hn : ¬ i < 15 := fun k => cs ⟨e, k⟩; rw [h36, leI (by omega) (by omega)]; omega))
      have m3 : mlT n q (mFs h3 3 (h3.1 0 3 + nI 0)) := m1.to hA.f3.t (by rw [fs_s, m1.2.1, nI_add]; rfl) m1.2.2.2
      obtain ⟨⟨s4', h4⟩, z1, z2, z3, z4⟩ := M_next hu m3
      dsimp only at z2 z3 z4
      have t3 : (mFs h3 3 (h3.1 0 3 + nI 0)).1 1 = G 1 := (fs_r (by omega)).trans t2
      rw [t3, sq] at z2 z3
      have w3 : (mFs h3 3 (h3.1 0 3 + nI 0)).1 0 4 = iz (-1) := (fs_n (by omega)).trans w1
      have w4 : h4.1 0 4 = iz (-1) := (z4.2.1 4 (by omega)).trans w3
      have fh4 : hP k h h4 := fH.tr (k1.t.p.tr (hA.f3.t.p.tr z4.t.p))
      have q9 : q ≤ 240 := Nat.le_trans c1.2.2.2 n240
      have hmm : (nx_iter (w + 1) (fM_readScript_19 u (nI k)) (nI 1, h)).bind (mSE u) = (if sgn (G 1) n q = iz (-1) then some (iz (-1), h4) else some (nI q, mFs h4 4 (nI q))) := by
        rw [it_on stp2, it_end sc_end hw]
        show mSE u _ = _
        unfold mSE
        rw [if_pos w3, z1]
        simp only [Option.bind_some]
        rw [z2, M_bad w4, z3.2.1]
        simp only [Option.bind_some]
        by_cases c : sgn (G 1) n q = iz (-1)
        · rw [if_pos c, if_pos c]
          simp only [Option.bind_some, w4]
        · rw [if_neg c, if_neg c]
          simp only [Option.bind_some, fs_s]
      by_cases c : sgn (G 1) n q = iz (-1)
      · rw [if_pos c] at estep hmm
        exact ⟨iz (-1), g3, h4, by rw [it_end estep (by omega)]; rfl, hmm, fG.tr f1.p, fh4, fun _ => ⟨i + 1, by omega, srk _ _ (pOk.at (t1.trans (((z4.1 1 (by omega)).trans t3).symm)) w4 c1 z3) gT.rf (hA.f3.tr z4)⟩⟩
      · have estep2 : fP_faultOf_11 u (nI i, g) = some (.inr (.inr (nI q, g3))) := by
          rw [estep, if_neg c, c1.2.1]
          by_cases d : sgn (G 1) n q = nI 59
          · have hn : ¬ i < 15 := fun k => cs ⟨d, k⟩
            rw [if_pos d, if_pos (show nI i = nI 15 by rw [eqI (by omega) (by omega)]; omega)]
          · rw [if_neg d]
        rw [if_neg c] at hmm
        exact ⟨nI q, g3, mFs h4 4 (nI q), by rw [it_end estep2 (by omega)]; rfl, hmm, fG.tr f1.p, fh4.tr hT.f4.p, fun k => absurd k (neN1 (by omega))⟩
  · rw [if_neg (by simp), p2] at estep
    have hww : (mRow h1 6 (upd (h1.1 6) k (nI (i + 1)))).1 0 4 = nI p' := by rw [mRow_n (by omega)]; exact p3
    have hne : (mRow h1 6 (upd (h1.1 6) k (nI (i + 1)))).1 0 4 ≠ iz (-1) := by rw [hww]; exact neN1 (by omega)
    have stp2 := stp.trans (mN6_bad hne)
    refine ⟨nI p', g1, mFs (mRow h1 6 (upd (h1.1 6) k (nI (i + 1)))) 3 ((mRow h1 6 (upd (h1.1 6) k (nI (i + 1)))).1 0 3 + nI 0), by rw [it_end estep (by omega)]; rfl, ?_, x3.p, fH.tr hA.f3.t.p, fun k => absurd k (neN1 (by omega))⟩
    rw [it_on stp2, it_end sc_end hw]
    simp only [Option.bind_some]
    rw [mSE_bad (by rw [fs_n (by omega)]; exact hne), fs_n (by omega), hww]
theorem script_run {u n k : Nat} (hu : 1000 ≤ u) (hk : k < 5) : ∀ (j i v w : Nat) (g : pS) (h : mS), j + i = 15 → QR n k i g h → j < v → j + 1 < w → scGoal u n k i v w g h := by
  intro j
  induction j with
  | zero =>
    intro i v w g h hi hs hv hw
    obtain ⟨v, rfl⟩ : ∃ v', v = v' + 1 := ⟨v - 1, by omega⟩
    obtain ⟨w, rfl⟩ : ∃ w', w = w' + 1 := ⟨w - 1, by omega⟩
    exact script_one hu hk i v w g h (by omega) hs (by omega) (fun g h h15 => by omega)
  | succ j ih =>
    intro i v w g h hi hs hv hw
    obtain ⟨v, rfl⟩ : ∃ v', v = v' + 1 := ⟨v - 1, by omega⟩
    obtain ⟨w, rfl⟩ : ∃ w', w = w' + 1 := ⟨w - 1, by omega⟩
    exact script_one hu hk i v w g h (by omega) hs (by omega) (fun g h h15 hs => ih (i + 1) v w g h (by omega) hs (by omega) (by omega))
/-- a script's text is read alike -/
theorem TM_script {u n k : Nat} {g : pS} {h : mS} (hu : 1000 ≤ u) (hk : k < 5) (hn : n ≤ 240) (g0 : g 0 0 = nI n) (h0 : h.1 0 2 = nI n) (ht : g 1 = h.1 1) : ∃ r g' h', fP_faultOf u g = some (r, g') ∧ fM_readScript u h (nI k) = some (r, h') ∧ scOut n k r g g' h h' := by
  have ef : fP_faultOf u g = cSc (nx_iter u (fP_faultOf_11 u) (nI 0, tFs (tFs g 1 (nI 0)) 5 (nI 0))) := by
    unfold fP_faultOf fT_rewind
    simp only [izN]
    rfl
  have em : fM_readScript u h (nI k) = (nx_iter u (fM_readScript_19 u (nI k)) (nI 1, mRow (mFs (mFs h 3 (nI 0)) 4 (iz (-1))) 6 (upd ((mFs (mFs h 3 (nI 0)) 4 (iz (-1))).1 6) k (nI 0)))).bind (mSE u) := by
    unfold fM_readScript
    simp only [izN, Option.bind_some]
    rw [mWr6_at hk]
    rfl
  rw [ef, em]
  have fG : gP g (tFs (tFs g 1 (nI 0)) 5 (nI 0)) := gT.f1.p.tr ⟨fun i h0 _ => tfs_r h0, fun q _ _ h5 => tfs_n h5⟩
  have fH : hP k h (mRow (mFs (mFs h 3 (nI 0)) 4 (iz (-1))) 6 (upd ((mFs (mFs h 3 (nI 0)) 4 (iz (-1))).1 6) k (nI 0))) := (hA.f3.t.tr hT.f4).p.tr hP.r6
  have po : pOk n (tFs (tFs g 1 (nI 0)) 5 (nI 0)) (mRow (mFs (mFs h 3 (nI 0)) 4 (iz (-1))) 6 (upd ((mFs (mFs h 3 (nI 0)) 4 (iz (-1))).1 6) k (nI 0))) := by
    refine pOk.at (p := 0) ?_ ?_ ⟨(fG.2 0 (by omega) (by omega) (by omega)).trans g0, (tfs_n (by omega)).trans tfs_s, hn, by omega⟩ ⟨(fH.2.1 2 (by omega) (by omega)).trans h0, ?_, hn, by omega⟩
    · rw [fG.1 1 (by omega) (by omega), fH.1 1 (by omega) (by omega) (by omega)]; exact ht
    · rw [mRow_n (by omega)]; exact fs_s
    · rw [mRow_n (by omega), fs_n (by omega)]; exact fs_s
  have g5 : (tFs (tFs g 1 (nI 0)) 5 (nI 0)) 0 5 = nI 0 := tfs_s
  have h6 : (mRow (mFs (mFs h 3 (nI 0)) 4 (iz (-1))) 6 (upd ((mFs (mFs h 3 (nI 0)) 4 (iz (-1))).1 6) k (nI 0))).1 6 k = nI 0 := by rw [mRow_s, upd_s]
  obtain ⟨r, g', h', y1, y2, y3, y4, y5⟩ := script_run hu hk 15 0 u u _ _ (by omega) ⟨po, g5, h6, fun t ht => by omega⟩ (by omega) (by omega)
  exact ⟨r, g', h', y1, y2, fG.tr y3, fH.tr y4, y5⟩
