/-! ===== texts: a step, whole ===== -/
theorem t64 : Int32.ofNat (tlen 4) = nI 64 := by decide +kernel
def mVal (u b : Nat) (e12 : mS) : Option mS :=
  (fM_ahead u e12).bind fun p13 =>
  if p13.1 = (nI 58) then
    (some (mFs p13.2 3 ((p13.2.1 0 3) + (nI 1)))).bind fun g14 =>
    (fM_number u g14 (nI 0) (nI 99)).bind fun p15 =>
    (mWr p15.2 5 (nI b + nI 3) p15.1).bind fun g16 =>
    some g16
  else
    (fM_bad u p13.2).bind fun g17 =>
    some g17
def sOut (n a b : Nat) (bb : Bool) (g g' : pS) (h h' : mS) : Prop := gV a g g' ∧ hV b h h' ∧ g' 4 a = g 4 a ∧ ((bb = true ∧ pOk n g' h' ∧ PR a b g' h') ∨ (bb = false ∧ pBd n g' h'))
theorem val_run {u n a b : Nat} {g : pS} {h : mS} (hu : 1000 ≤ u) (ha : a + 4 ≤ 64) (hb : b + 4 ≤ 320) (ho : pOk n g h) (hp : PR a b g h) : ∃ bb g' h', fP_hasValue u g (nI (a + 3)) = some (bb, g') ∧ mVal u b h = some h' ∧ sOut n a b bb g g' h h' := by
  obtain ⟨q, g1, h1, n1, n2, c1, m1, f1, k1, _, t1, t2, w1⟩ := TM_next hu ho
  unfold fP_hasValue mVal
  rw [n1, n2]
  simp only [Option.bind_some, izN, t64]
  by_cases cs : sgn (g 1) n q = nI 58
  · have hqn : q < n := sgn_lt (by rw [cs]; exact neN1 (by omega))
    rw [if_pos cs, if_pos cs, T_pass c1, m1.2.1, nI_add]
    simp only [Option.bind_some]
    obtain ⟨bb, g2, v2, h2, x1, x2, y1, y2, y3⟩ := TM_num hu (pOk.ps (t1.trans t2.symm) w1 c1 m1 hqn) (lo := 0) (hi := 99) (by omega) (by omega)
    rw [x1, x2]
    simp only [Option.bind_some]
    rw [nI_add, mWr5_at (by omega)]
    simp only [Option.bind_some]
    have G4 : g2 4 = g 4 := (y1.1 4 (by omega)).trans ((tfs_r (by omega)).trans (f1.1 4 (by omega)))
    have H5 : h2.1 5 = h.1 5 := (y2.1 5 (by omega)).trans ((fs_r (by omega)).trans (k1.1 5 (by omega)))
    have fg : gV a g g2 := (f1.tr (gT.f1.tr y1)).v
    have fh : hV b h h2 := (k1.t.tr (hA.f3.t.tr y2)).v
    rcases y3 with ⟨rfl, po, m, m3, m4, rfl, m6⟩ | ⟨rfl, po⟩
    · rw [if_pos rfl, L_within u _ (by omega), inR_nI (by omega), decide_eq_true (show a + 3 < 64 by omega)]
      simp only [Option.bind_some, if_true]
      rw [tWr4_at (by omega), m6]
      simp only [Option.bind_some]
      exact ⟨true, _, _, rfl, rfl, fg.tr (gV.row (by omega)), fh.tr (hV.row (by omega)), by rw [trow_s, upd_n (by omega), G4], Or.inl ⟨rfl, po.row (by omega) (by omega) (by omega) (by omega), hp.up G4 H5⟩⟩
    · rw [if_neg (by simp)]
      obtain ⟨p', p1, p2, p3⟩ := po
      exact ⟨false, g2, _, rfl, rfl, fg, fh.tr (hV.row (by omega)), by rw [G4], Or.inr ⟨rfl, p', p1, p2, by rw [mRow_n (by omega)]; exact p3⟩⟩
  · rw [if_neg cs, if_neg cs, M_bad w1]
    exact ⟨false, g1, _, rfl, rfl, f1.v, (k1.t.tr hT.f4).v, by rw [f1.1 4 (by omega)], Or.inr ⟨rfl, q, c1.2.2.2, c1.2.1, fs_s.trans m1.2.1⟩⟩
def fil (f : Nat → Int32) (a : Nat) (x : Int32) : Nat → Int32 := upd (upd (upd (upd f a x) (a + 1) (iz (-1))) (a + 2) (iz (-1))) (a + 3) (iz (-1))
theorem fil_eq {f f' : Nat → Int32} {a b w : Nat} {x : Int32} (hw : w < 4) : fil f a x (a + w) = fil f' b x (b + w) := by
  unfold fil
  obtain rfl | rfl | rfl | rfl : w = 0 ∨ w = 1 ∨ w = 2 ∨ w = 3 := by omega
  · rw [upd_n (by omega), upd_n (by omega), upd_n (by omega), upd_e (by omega), upd_n (by omega), upd_n (by omega), upd_n (by omega), upd_e (by omega)]
  · rw [upd_n (by omega), upd_n (by omega), upd_e (by omega), upd_n (by omega), upd_n (by omega), upd_e (by omega)]
  · rw [upd_n (by omega), upd_e (by omega), upd_n (by omega), upd_e (by omega)]
  · rw [upd_e (by omega), upd_e (by omega)]
theorem fil_0 {f : Nat → Int32} {a : Nat} {x : Int32} : fil f a x a = x := by
  unfold fil
  rw [upd_n (by omega), upd_n (by omega), upd_n (by omega), upd_s]
theorem fil_n {f : Nat → Int32} {a j : Nat} {x : Int32} (h : j < a ∨ a + 4 ≤ j) : fil f a x j = f j := by
  unfold fil
  rw [upd_n (by omega), upd_n (by omega), upd_n (by omega), upd_n (by omega)]
theorem M_37 {u b : Nat} {x : Int32} (hu : 1000 ≤ u) (hb : b + 4 ≤ 320) (h : mS) : nx_iter u (fM_readStep_37 (nI b)) (nI 1, mRow h 5 (upd (h.1 5) b x)) = some (mRow h 5 (fil (h.1 5) b x)) := by
  obtain ⟨w, rfl⟩ : ∃ w, u = w + 4 := ⟨u - 4, by omega⟩
  have st : ∀ i f, i < 4 → fM_readStep_37 (nI b) (nI i, mRow h 5 f) = some (.inl (nI (i + 1), mRow h 5 (upd f (b + i) (iz (-1))))) := fun i f hi => by
    unfold fM_readStep_37
    simp (disch := omega) only [izN, leI, nI_add]
    rw [if_neg (by omega), mWr5_at (by omega), mRow_s]
    simp only [Option.bind_some, mRow_m]
  have en : ∀ h', fM_readStep_37 (nI b) (nI 4, h') = some (.inr h') := fun h' => by
    unfold fM_readStep_37
    simp (disch := omega) only [izN, leI]
    rw [if_pos (by omega)]
  rw [it_on (st 1 _ (by omega)), it_on (st 2 _ (by omega)), it_on (st 3 _ (by omega)), it_end (en _) (by omega)]
  rfl
def stepOut (n a b : Nat) (bb : Bool) (g g' : pS) (h h' : mS) : Prop := gV a g g' ∧ hV b h h' ∧ ((bb = true ∧ pOk n g' h' ∧ PR a b g' h' ∧ ∃ kd, kd < 6 ∧ g' 4 a = nI kd) ∨ (bb = false ∧ pBd n g' h'))
theorem step_run {u n a b : Nat} {g : pS} {h : mS} (hu : 1000 ≤ u) (ha : a + 4 ≤ 64) (hb : b + 4 ≤ 320) (ho : pOk n g h) : ∃ bb g' h', fP_hasStep u g (nI a) = some (bb, g') ∧ fM_readStep u h (nI b) = some h' ∧ stepOut n a b bb g g' h h' := by
  obtain ⟨q, g1, h1, n1, n2, c1, m1, f1, k1, _, t1, t2, w1⟩ := TM_next hu ho
  have l0 : ¬ nI a < nI 0 := by rw [ltI (by omega) (by omega)]; omega
  have l1 : nI (a + 4) ≤ nI 64 := by rw [leI (by omega) (by omega)]; omega
  unfold fP_hasStep fM_readStep
  rw [n1, n2]
  simp only [Option.bind_some, izN, t64, nI_add, kind_sort]
  rw [if_neg l0, if_pos l1]
  rcases sort_c u (sgn (g 1) n q) with e | ⟨kd, hkd, e, en⟩
  · rw [e, M_bad w1]
    simp only [Option.bind_some, if_true]
    exact ⟨false, g1, _, rfl, rfl, f1.v, (k1.t.tr hT.f4).v, Or.inr ⟨rfl, q, c1.2.2.2, c1.2.1, fs_s.trans m1.2.1⟩⟩
  · have hqn : q < n := sgn_lt en
    have e9 := neN1 (a := kd) (by omega)
    rw [e]
    simp only [Option.bind_some]
    rw [if_neg e9, if_neg e9, T_pass c1, m1.2.1, nI_add]
    simp only [Option.bind_some]
    rw [P_digits hkd, tWr4_at (show a < 64 by omega), mWr5_at (show b < 320 by omega)]
    simp only [Option.bind_some]
    rw [M_37 hu hb, tWr4_at (show a + 1 < 64 by omega), trow_s, trow_m]
    simp only [Option.bind_some]
    rw [tWr4_at (show a + 2 < 64 by omega), trow_s, trow_m]
    simp only [Option.bind_some]
    rw [tWr4_at (show a + 3 < 64 by omega), trow_s, trow_m]
    simp only [Option.bind_some]
    have po := pOk.ps (t1.trans t2.symm) w1 c1 m1 hqn
    have G4 : (tFs g1 1 (nI (q + 1))) 4 = g 4 := (tfs_r (by omega)).trans (f1.1 4 (by omega))
    have H5 : (mFs h1 3 (nI (q + 1))).1 5 = h.1 5 := (fs_r (by omega)).trans (k1.1 5 (by omega))
    have fg0 : gT g (tFs g1 1 (nI (q + 1))) := f1.tr gT.f1
    have fh0 : hT h (mFs h1 3 (nI (q + 1))) := (k1.tr hA.f3).t
    generalize tFs g1 1 (nI (q + 1)) = G at po G4 fg0 ⊢
    generalize mFs h1 3 (nI (q + 1)) = H at po H5 fh0 ⊢
    show ∃ bb g' h', ((nx_iter u (fP_hasStep_94 u (nI a) (nI (ndE kd))) (nI 1, tRow G 4 (fil (G 4) a (nI kd)))).bind _) = _ ∧ _
    have po2 : pOk n (tRow G 4 (fil (G 4) a (nI kd))) (mRow H 5 (fil (H.1 5) b (nI kd))) := po.row (by omega) (by omega) (by omega) (by omega)
    have pr2 : PR a b (tRow G 4 (fil (G 4) a (nI kd))) (mRow H 5 (fil (H.1 5) b (nI kd))) := fun w hw => by
      rw [trow_s, mRow_s]
      exact fil_eq hw
    have k2 : (tRow G 4 (fil (G 4) a (nI kd))) 4 a = nI kd := by rw [trow_s, fil_0]
    have fg : gV a g (tRow G 4 (fil (G 4) a (nI kd))) := fg0.v.tr ⟨gU.row (by omega), fun j hj => by rw [trow_s, fil_n hj]⟩
    have fh : hV b h (mRow H 5 (fil (H.1 5) b (nI kd))) := fh0.v.tr ⟨hU.row (by omega), fun j hj => by rw [mRow_s, fil_n hj]⟩
    generalize tRow G 4 (fil (G 4) a (nI kd)) = G2 at po2 pr2 k2 fg ⊢
    generalize mRow H 5 (fil (H.1 5) b (nI kd)) = H2 at po2 pr2 fh ⊢
    obtain ⟨o, g', h', y1, y2, y3, y4, y5, y6⟩ := dig_run hu hkd ha hb (ndE kd) 1 u u G2 H2 (by omega) (by omega) po2 pr2 (by have := nd_le (kd := kd); omega) (by have := nd_le (kd := kd); omega)
    rw [y1, show nI 0 = nI (1 - 1) from rfl, y2]
    simp only [Option.bind_some]
    rcases y6 with ⟨rfl, z1, z2⟩ | ⟨rfl, p', p1, p2, p3⟩
    · simp only [Sum.elim_inl]
      by_cases k2' : nI kd = nI 2
      · rw [if_pos k2', if_pos k2', if_pos z1.2.1]
        obtain ⟨bb, g3, h3, v1, v2, v3, v4, v5, v6⟩ := val_run hu ha hb z1 z2
        unfold mVal at v2
        simp only [nI_add, Option.bind_some] at v2
        rw [v1]
        refine ⟨bb, g3, h3, ?_, v2, fg.tr (y3.tr v3), fh.tr (y4.tr v4), ?_⟩
        · simp only [Option.bind_some]
          cases bb <;> simp
        · rcases v6 with ⟨rfl, a1, a2⟩ | b1
          · exact Or.inl ⟨rfl, a1, a2, kd, hkd, v5.trans (y5.trans k2)⟩
          · exact Or.inr b1
      · rw [if_neg k2', if_neg k2']
        exact ⟨true, g', h', rfl, rfl, fg.tr y3, fh.tr y4, Or.inl ⟨rfl, z1, z2, kd, hkd, y5.trans k2⟩⟩
    · simp only [Sum.elim_inr]
      have n240 : n ≤ 240 := c1.2.2.1
      have hne : h'.1 0 4 ≠ iz (-1) := by rw [p3]; exact neN1 (by omega)
      refine ⟨false, g', h', rfl, ?_, fg.tr y3, fh.tr y4, Or.inr ⟨rfl, p', p1, p2, p3⟩⟩
      rw [if_neg hne]
      exact ite_self _
