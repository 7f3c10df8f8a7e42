/-! ===== an act ===== -/
/-- the state behind an act, and what it answers -/
def actT (R : ER) (T : ET) (kd : Nat) (a b c : Int32) : ET × Int32 :=
  if kd = 0 then (openT R T a.toInt.toNat b, tCk T + R.2.2.2)
  else if kd = 1 then (readA T a.toInt.toNat b.toInt.toNat, (vA T b.toInt.toNat ((rdI T a.toInt.toNat b.toInt.toNat).getD 0)).2.1)
  else if kd = 2 then writeT T a.toInt.toNat b.toInt.toNat c
  else if kd = 3 then commitT R T a.toInt.toNat
  else if kd = 4 then (fallT T a.toInt.toNat, nI (fallN 8 T a.toInt.toNat).2)
  else if kd = 5 then (pruneT T, nI (prC T (flT T) 6))
  else (openAtT T a.toInt.toNat b c, c)
def actD (D : Nat → List De) (kd : Nat) (a b c : Int32) : Nat → List De :=
  if kd = 0 then setD D a.toInt.toNat []
  else if kd = 1 then setD D a.toInt.toNat (deedL (D a.toInt.toNat) (nI 1, b, iz (-1)))
  else if kd = 2 then setD D a.toInt.toNat (deedL (D a.toInt.toNat) (nI 2, b, c))
  else if kd = 6 then setD D a.toInt.toNat []
  else D
/-- what holds where an act isn't refused -/
theorem ref0 {R : ER} {T : ET} {a b c : Int32} (h : refT R T 0 a b c = iz (-1)) : ∃ s, s < 8 ∧ a = nI s ∧ (b = nI 0 ∨ b = nI 1) ∧ lvT T s = false ∧ tCk T + R.2.2.2 ≤ nI 9999 := by
  unfold refT at h
  rw [if_neg (by omega)] at h
  by_cases ca : inR a 8 = true
  · rw [if_pos ca, if_pos rfl] at h
    obtain ⟨s, hs, rfl⟩ := inR_of ca
    rw [nI_back (by omega)] at h
    unfold opR at h
    split at h
    · next hb =>
      split at h
      · exact absurd h n2m1
      · next hl =>
        split at h
        · next hc => exact ⟨s, hs, rfl, hb, by simpa using hl, hc⟩
        · exact absurd h n3m1
    · exact absurd h n1m1
  · rw [if_neg ca] at h
    exact absurd h n0m1
theorem stR_ok {T : ET} {s : Nat} {a b : Int32} (h : stR T s a b = iz (-1)) : tSd T 0 s = a ∨ tSd T 0 s = b := by
  unfold stR at h
  split at h
  · exact absurd h n0m1
  · split at h
    · assumption
    · exact absurd h n2m1
theorem ref1 {R : ER} {T : ET} {a b c : Int32} (h : refT R T 1 a b c = iz (-1)) : ∃ s k, s < 8 ∧ k < R.1 ∧ a = nI s ∧ b = nI k ∧ tSd T 0 s = nI 1 := by
  unfold refT at h
  rw [if_neg (by omega)] at h
  by_cases ca : inR a 8 = true
  · rw [if_pos ca, if_neg (by omega), if_pos rfl] at h
    obtain ⟨s, hs, rfl⟩ := inR_of ca
    rw [nI_back (by omega)] at h
    unfold rdR at h
    by_cases ck : inR b R.1 = true
    · rw [if_pos ck] at h
      obtain ⟨k, hk, rfl⟩ := inR_of ck
      exact ⟨s, k, hs, hk, rfl, rfl, (stR_ok h).elim id id⟩
    · rw [if_neg ck] at h
      exact absurd h n0m1
  · rw [if_neg ca] at h
    exact absurd h n0m1
theorem ref2 {R : ER} {T : ET} {a b c : Int32} (hR : R.1 ≤ 6) (h : refT R T 2 a b c = iz (-1)) : ∃ s k v, s < 8 ∧ k < R.1 ∧ v < 100 ∧ a = nI s ∧ b = nI k ∧ c = nI v ∧ tSd T 0 s = nI 1 ∧ fuT R T s k = false := by
  unfold refT at h
  rw [if_neg (by omega)] at h
  by_cases ca : inR a 8 = true
  · rw [if_pos ca, if_neg (by omega), if_neg (by omega), if_pos rfl] at h
    obtain ⟨s, hs, rfl⟩ := inR_of ca
    rw [nI_back (by omega)] at h
    unfold wrR at h
    by_cases ck : inR b R.1 = true
    · rw [if_pos ck] at h
      obtain ⟨k, hk, rfl⟩ := inR_of ck
      rw [nI_back (by omega)] at h
      split at h
      · exact absurd h n0m1
      · by_cases cv : inR c 100 = true
        · rw [if_pos cv] at h
          obtain ⟨v, hv, rfl⟩ := inR_of cv
          split at h
          · next h1 =>
            split at h
            · exact absurd h n3m1
            · next hf => exact ⟨s, k, v, hs, hk, hv, rfl, rfl, rfl, h1, by simpa using hf⟩
          · exact absurd h n2m1
        · rw [if_neg cv] at h
          exact absurd h n1m1
    · rw [if_neg ck] at h
      exact absurd h n0m1
  · rw [if_neg ca] at h
    exact absurd h n0m1
theorem ref3 {R : ER} {T : ET} {a b c : Int32} (h : refT R T 3 a b c = iz (-1)) : ∃ s, s < 8 ∧ a = nI s ∧ tSd T 0 s = nI 1 := by
  unfold refT at h
  rw [if_neg (by omega)] at h
  by_cases ca : inR a 8 = true
  · rw [if_pos ca, if_neg (by omega), if_neg (by omega), if_neg (by omega), if_pos rfl] at h
    obtain ⟨s, hs, rfl⟩ := inR_of ca
    rw [nI_back (by omega)] at h
    exact ⟨s, hs, rfl, (stR_ok h).elim id id⟩
  · rw [if_neg ca] at h
    exact absurd h n0m1
theorem ref4 {R : ER} {T : ET} {a b c : Int32} (h : refT R T 4 a b c = iz (-1)) : ∃ s, s < 8 ∧ a = nI s ∧ lvT T s = true := by
  unfold refT at h
  rw [if_neg (by omega)] at h
  by_cases ca : inR a 8 = true
  · rw [if_pos ca, if_neg (by omega), if_neg (by omega), if_neg (by omega), if_neg (by omega), if_pos rfl] at h
    obtain ⟨s, hs, rfl⟩ := inR_of ca
    rw [nI_back (by omega)] at h
    exact ⟨s, hs, rfl, lvT_iff.mpr (stR_ok h)⟩
  · rw [if_neg ca] at h
    exact absurd h n0m1
theorem ref6 {R : ER} {T : ET} {a b c : Int32} (h : refT R T 6 a b c = iz (-1)) : ∃ s, s < 8 ∧ a = nI s ∧ (b = nI 0 ∨ b = nI 1) ∧ lvT T s = false ∧ frS R T c = true ∧ (tHd T).length < 30 := by
  unfold refT at h
  rw [if_neg (by omega)] at h
  by_cases ca : inR a 8 = true
  · rw [if_pos ca, if_neg (by omega), if_neg (by omega), if_neg (by omega), if_neg (by omega), if_neg (by omega), if_pos rfl] at h
    obtain ⟨s, hs, rfl⟩ := inR_of ca
    rw [nI_back (by omega)] at h
    unfold haR at h
    split at h
    · next hb =>
      split at h
      · exact absurd h n2m1
      · next hl =>
        split at h
        · next hc =>
          split at h
          · next h30 => exact ⟨s, hs, rfl, hb, by simpa using hl, hc, h30⟩
          · exact absurd h n3m1
        · exact absurd h n2m1
    · exact absurd h n1m1
  · rw [if_neg ca] at h
    exact absurd h n0m1
theorem ref7 {R : ER} {T : ET} {a b c : Int32} (h : refT R T 7 a b c = iz (-1)) : ∃ s, s < 8 ∧ a = nI s ∧ tSd T 0 s = nI 4 ∧ tCk T + R.2.2.2 ≤ nI 9999 := by
  unfold refT at h
  rw [if_neg (by omega)] at h
  by_cases ca : inR a 8 = true
  · rw [if_pos ca, if_neg (by omega), if_neg (by omega), if_neg (by omega), if_neg (by omega), if_neg (by omega), if_neg (by omega)] at h
    obtain ⟨s, hs, rfl⟩ := inR_of ca
    rw [nI_back (by omega)] at h
    unfold rtR at h
    split at h
    · exact absurd h n0m1
    · split at h
      · next h4 =>
        split at h
        · next hc => exact ⟨s, hs, rfl, h4, hc⟩
        · exact absurd h n3m1
      · exact absurd h n2m1
  · rw [if_neg ca] at h
    exact absurd h n0m1
theorem lv1 {T : ET} {s : Nat} (h : tSd T 0 s = nI 1) : lvT T s = true := lvT_iff.mpr (Or.inl h)
theorem W_act {u : Nat} (hu : 1000 ≤ u) {R : ER} {w0 : Int32} {D : Nat → List De} {f : Nat → Int32} {T : ET} (h : RW R w0 D f T) (hW : WF R T) {kd : Nat} (hk : kd < 7) {a b c : Int32} (hr : refT R T kd a b c = iz (-1)) : ok (fW_act u f (nI kd) a b c) (fun r => r.1 = (actT R T kd a b c).2 ∧ RW R w0 (actD D kd a b c) r.2 (actT R T kd a b c).1) := by
  have hK := hW.1.2.1
  unfold fW_act
  rw [sw_nI (by omega)]
  obtain rfl | rfl | rfl | rfl | rfl | rfl | rfl : kd = 0 ∨ kd = 1 ∨ kd = 2 ∨ kd = 3 ∨ kd = 4 ∨ kd = 5 ∨ kd = 6 := by omega
  · obtain ⟨s, hs, rfl, hb, hl, hc⟩ := ref0 hr
    show ok ((fW_ticked u f).bind fun p1 => (fW_enter u p1.2 (nI s) b p1.1).bind fun g2 => (nx_rd 514 g2 (iz 48 + nI s)).bind fun x3 => some (x3, g2)) (fun r => r.1 = tCk T + R.2.2.2 ∧ RW R w0 (setD D (nI s).toInt.toNat []) r.2 (openT R T (nI s).toInt.toNat b))
    rw [nI_back (by omega), W_ticked hu h, Option.bind_some]
    refine (W_enter hu (h.ck (tCk T + R.2.2.2)) hs b (tCk T + R.2.2.2)).bd (fun f1 h1 => ?_)
    simp (disch := omega) only [izN, nI_add, mulI, rdW, wrW, Option.bind_some, h1.sp]
    refine ok.ret ⟨?_, h1⟩
    show (if s = s ∧ 1 < 5 then enC 1 b _ else _) = _
    rw [if_pos ⟨rfl, by omega⟩]
    rfl
  · obtain ⟨s, k, hs, hk1, rfl, rfl, h1⟩ := ref1 hr
    obtain ⟨i, hi⟩ := hW.rd hs hk1 (lv1 h1)
    show ok ((fW_keepDeed u f (nI s) (iz 1) (nI k) (iz (-1))).bind fun g4 => (fW_readKey u g4 (nI s) (nI k)).bind fun p5 => some (p5.1, p5.2)) (fun r => r.1 = (vA T (nI k).toInt.toNat ((rdI T (nI s).toInt.toNat (nI k).toInt.toNat).getD 0)).2.1 ∧ RW R w0 (setD D (nI s).toInt.toNat (deedL (D (nI s).toInt.toNat) (nI 1, nI k, iz (-1)))) r.2 (readA T (nI s).toInt.toNat (nI k).toInt.toNat))
    rw [nI_back (by omega), nI_back (by omega)]
    refine (W_keepDeed hu h hs (nI 1) (nI k) (iz (-1))).bd (fun f1 h1 => ?_)
    refine (W_readKey hu h1 hs (by omega) hi).bd (fun r hr => ok.ret ?_)
    unfold readA
    rw [hi]
    exact hr
  · obtain ⟨s, k, v, hs, hk1, hv, rfl, rfl, rfl, h1, hf⟩ := ref2 hK hr
    show ok ((fW_keepDeed u f (nI s) (iz 2) (nI k) (nI v)).bind fun g4 => (fW_writeKey u g4 (nI s) (nI k) (nI v)).bind fun p5 => some (p5.1, p5.2)) (fun r => r.1 = (writeT T (nI s).toInt.toNat (nI k).toInt.toNat (nI v)).2 ∧ RW R w0 (setD D (nI s).toInt.toNat (deedL (D (nI s).toInt.toNat) (nI 2, nI k, nI v))) r.2 (writeT T (nI s).toInt.toNat (nI k).toInt.toNat (nI v)).1)
    rw [nI_back (by omega), nI_back (by omega)]
    refine (W_keepDeed hu h hs (nI 2) (nI k) (nI v)).bd (fun f1 h1 => ?_)
    exact (W_writeKey hu h1 hs (by omega) (nI v) (fun q1 q2 => (fu_room hW hk1 hf q1 q2).2)).bd (fun r hr => ok.ret hr)
  · obtain ⟨s, hs, rfl, h1⟩ := ref3 hr
    show ok ((fW_commitAt u f (nI s)).bind fun p5 => some (p5.1, p5.2)) (fun r => r.1 = (commitT R T (nI s).toInt.toNat).2 ∧ RW R w0 D r.2 (commitT R T (nI s).toInt.toNat).1)
    rw [nI_back (by omega)]
    exact (W_commitAt hu h hs).bd (fun r hr => ok.ret hr)
  · obtain ⟨s, hs, rfl, h1⟩ := ref4 hr
    show ok ((fW_fallWithAll u f (nI s)).bind fun p5 => some (p5.1, p5.2)) (fun r => r.1 = nI (fallN 8 T (nI s).toInt.toNat).2 ∧ RW R w0 D r.2 (fallT T (nI s).toInt.toNat))
    rw [nI_back (by omega)]
    exact (W_fallWithAll hu h hs).bd (fun r hr => ok.ret hr)
  · show ok ((fW_pruneAll u f).bind fun p5 => some (p5.1, p5.2)) (fun r => r.1 = nI (prC T (flT T) 6) ∧ RW R w0 D r.2 (pruneT T))
    exact (W_pruneAll hu h).bd (fun r hr => ok.ret hr)
  · obtain ⟨s, hs, rfl, hb, hl, hc, h30⟩ := ref6 hr
    show ok ((fW_keepHand u f c).bind fun g11 => (fW_enter u g11 (nI s) b c).bind fun g12 => some (c, g12)) (fun r => r.1 = c ∧ RW R w0 (setD D (nI s).toInt.toNat []) r.2 (openAtT T (nI s).toInt.toNat b c))
    rw [nI_back (by omega)]
    refine (W_keepHand hu h c h30).bd (fun f1 h1 => ?_)
    exact (W_enter hu h1 hs b c).bd (fun f2 h2 => ok.ret ⟨rfl, h2⟩)
/-! Model's acts by hand: answer and state -/
theorem M_act0 {u : Nat} (hu : 1000 ≤ u) {g0 : mS} {R : ER} {m0 : Int32} {tr : Option (Nat → Int32)} {D : Nat → List De} {g : mS} {T : ET} (h : RM g0 R m0 tr D g T) {a b c : Int32} (hr : refT R T 0 a b c = iz (-1)) : ok (fM_openNow u g a b) (fun r => r.1 = (actT R T 0 a b c).2 ∧ RM g0 R m0 tr (actD D 0 a b c) r.2 (actT R T 0 a b c).1) := by
  obtain ⟨s, hs, rfl, hb, hl, hc⟩ := ref0 hr
  show ok _ (fun r : Int32 × mS => r.1 = tCk T + R.2.2.2 ∧ RM g0 R m0 tr (setD D (nI s).toInt.toNat []) r.2 (openT R T (nI s).toInt.toNat b))
  rw [nI_back (by omega)]
  exact M_openNow hu h hs b
theorem M_act1 {u : Nat} (hu : 1000 ≤ u) {g0 : mS} {R : ER} {m0 : Int32} {tr : Option (Nat → Int32)} {D : Nat → List De} {g : mS} {T : ET} (h : RM g0 R m0 tr D g T) (hW : WF R T) {a b c : Int32} (hr : refT R T 1 a b c = iz (-1)) : ok (fM_readNow u g a b) (fun r => r.1 = (actT R T 1 a b c).2 ∧ RM g0 R m0 tr (actD D 1 a b c) r.2 (actT R T 1 a b c).1) := by
  have hK := hW.1.2.1
  obtain ⟨s, k, hs, hk1, rfl, rfl, h1⟩ := ref1 hr
  obtain ⟨i, hi⟩ := hW.rd hs hk1 (lv1 h1)
  show ok _ (fun r : Int32 × mS => r.1 = (vA T (nI k).toInt.toNat ((rdI T (nI s).toInt.toNat (nI k).toInt.toNat).getD 0)).2.1 ∧ RM g0 R m0 tr (setD D (nI s).toInt.toNat (deedL (D (nI s).toInt.toNat) (nI 1, nI k, iz (-1)))) r.2 (readA T (nI s).toInt.toNat (nI k).toInt.toNat))
  rw [nI_back (by omega), nI_back (by omega)]
  unfold readA
  rw [hi]
  exact M_readNow hu h hW hs (by omega) (lv1 h1) hi
theorem M_act2 {u : Nat} (hu : 1000 ≤ u) {g0 : mS} {R : ER} {m0 : Int32} {tr : Option (Nat → Int32)} {D : Nat → List De} {g : mS} {T : ET} (h : RM g0 R m0 tr D g T) (hW : WF R T) {a b c : Int32} (hr : refT R T 2 a b c = iz (-1)) : ok (fM_writeNow u g a b c) (fun r => r.1 = (actT R T 2 a b c).2 ∧ RM g0 R m0 tr (actD D 2 a b c) r.2 (actT R T 2 a b c).1) := by
  have hK := hW.1.2.1
  obtain ⟨s, k, v, hs, hk1, hv, rfl, rfl, rfl, h1, hf⟩ := ref2 hK hr
  show ok _ (fun r : Int32 × mS => r.1 = (writeT T (nI s).toInt.toNat (nI k).toInt.toNat (nI v)).2 ∧ RM g0 R m0 tr (setD D (nI s).toInt.toNat (deedL (D (nI s).toInt.toNat) (nI 2, nI k, nI v))) r.2 (writeT T (nI s).toInt.toNat (nI k).toInt.toNat (nI v)).1)
  rw [nI_back (by omega), nI_back (by omega)]
  exact M_writeNow hu h hW hs hk1 (lv1 h1) (nI v) hf
theorem M_act3 {u : Nat} (hu : 1000 ≤ u) {g0 : mS} {R : ER} {m0 : Int32} {tr : Option (Nat → Int32)} {D : Nat → List De} {g : mS} {T : ET} (h : RM g0 R m0 tr D g T) (hW : WF R T) {a b c : Int32} (hr : refT R T 3 a b c = iz (-1)) : ok (fM_commitNow u g a) (fun r => r.1 = (actT R T 3 a b c).2 ∧ RM g0 R m0 tr (actD D 3 a b c) r.2 (actT R T 3 a b c).1) := by
  obtain ⟨s, hs, rfl, h1⟩ := ref3 hr
  show ok _ (fun r : Int32 × mS => r.1 = (commitT R T (nI s).toInt.toNat).2 ∧ RM g0 R m0 tr D r.2 (commitT R T (nI s).toInt.toNat).1)
  rw [nI_back (by omega)]
  exact M_commitNow hu h hW hs (lv1 h1)
theorem M_act4 {u : Nat} (hu : 1000 ≤ u) {g0 : mS} {R : ER} {m0 : Int32} {tr : Option (Nat → Int32)} {D : Nat → List De} {g : mS} {T : ET} (h : RM g0 R m0 tr D g T) (hW : WF R T) {a b c : Int32} (hr : refT R T 4 a b c = iz (-1)) : ok (fM_fall u g a) (fun r => r.1 = (actT R T 4 a b c).2 ∧ RM g0 R m0 tr (actD D 4 a b c) r.2 (actT R T 4 a b c).1) := by
  obtain ⟨s, hs, rfl, h1⟩ := ref4 hr
  show ok _ (fun r : Int32 × mS => r.1 = nI (fallN 8 T (nI s).toInt.toNat).2 ∧ RM g0 R m0 tr D r.2 (fallT T (nI s).toInt.toNat))
  rw [nI_back (by omega)]
  exact M_fall hu h hW.1 hW.wk hs h1
theorem M_act5 {u : Nat} (hu : 1000 ≤ u) {g0 : mS} {R : ER} {m0 : Int32} {tr : Option (Nat → Int32)} {D : Nat → List De} {g : mS} {T : ET} (h : RM g0 R m0 tr D g T) (hW : WF R T) {a b c : Int32} : ok (fM_pruneNow u g) (fun r => r.1 = (actT R T 5 a b c).2 ∧ RM g0 R m0 tr (actD D 5 a b c) r.2 (actT R T 5 a b c).1) :=
  M_pruneNow hu h hW.1 hW.2.1.1 hW.2.1.2.1 (fun s hs hl => (hW.2.2.1.1 s hs hl).1)
theorem M_act6 {u : Nat} (hu : 1000 ≤ u) {g0 : mS} {R : ER} {m0 : Int32} {tr : Option (Nat → Int32)} {D : Nat → List De} {g : mS} {T : ET} (h : RM g0 R m0 tr D g T) {a b c : Int32} (hr : refT R T 6 a b c = iz (-1)) : ok (fM_openAtNow u g a b c) (fun r => r.1 = (actT R T 6 a b c).2 ∧ RM g0 R m0 tr (actD D 6 a b c) r.2 (actT R T 6 a b c).1) := by
  obtain ⟨s, hs, rfl, hb, hl, hc, h30⟩ := ref6 hr
  show ok _ (fun r : Int32 × mS => r.1 = c ∧ RM g0 R m0 tr (setD D (nI s).toInt.toNat []) r.2 (openAtT T (nI s).toInt.toNat b c))
  rw [nI_back (by omega)]
  exact M_openAtNow hu h hs h30 b c
theorem M_doNow {u : Nat} (hu : 1000 ≤ u) {g0 : mS} {R : ER} {m0 : Int32} {tr : Option (Nat → Int32)} {D : Nat → List De} {g : mS} {T : ET} (h : RM g0 R m0 tr D g T) (hW : WF R T) {kd : Nat} (hk : kd < 6) {a b c : Int32} (hr : refT R T kd a b c = iz (-1)) : ok (fM_doNow u g (nI kd) a b c) (fun g' => RM g0 R m0 tr (actD D kd a b c) g' (actT R T kd a b c).1) := by
  unfold fM_doNow
  rw [sw_nI (by omega)]
  obtain rfl | rfl | rfl | rfl | rfl | rfl : kd = 0 ∨ kd = 1 ∨ kd = 2 ∨ kd = 3 ∨ kd = 4 ∨ kd = 5 := by omega
  · exact (M_act0 hu h hr).bd (fun r hr => ok.ret hr.2)
  · exact (M_act1 hu h hW hr).bd (fun r hr => ok.ret hr.2)
  · exact (M_act2 hu h hW hr).bd (fun r hr => ok.ret hr.2)
  · exact (M_act3 hu h hW hr).bd (fun r hr => ok.ret hr.2)
  · exact (M_act4 hu h hW hr).bd (fun r hr => ok.ret hr.2)
  · exact (M_act5 hu h hW (a := a) (b := b) (c := c)).bd (fun r hr => ok.ret hr.2)
