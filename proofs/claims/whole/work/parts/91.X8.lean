/-! ===== texts: a step on both sides ===== -/
theorem sort_c (u : Nat) (x : Int32) : fM_sortOf u x = some (iz (-1)) ∨ ∃ kd, kd < 6 ∧ fM_sortOf u x = some (nI kd) ∧ x ≠ iz (-1) := by
  have hx : ∀ c : Int, x.toInt = c → 0 ≤ c → x ≠ iz (-1) := fun c e hc k => by
    rw [k, toN1] at e
    omega
  unfold fM_sortOf
  simp only [nx_ls, izN]
  by_cases c1 : x.toInt = 97
  · rw [if_pos c1]; exact Or.inr ⟨4, by omega, rfl, hx _ c1 (by omega)⟩
  rw [if_neg c1]
  by_cases c2 : x.toInt = 99
  · rw [if_pos c2]; exact Or.inr ⟨3, by omega, rfl, hx _ c2 (by omega)⟩
  rw [if_neg c2]
  by_cases c3 : x.toInt = 111
  · rw [if_pos c3]; exact Or.inr ⟨0, by omega, rfl, hx _ c3 (by omega)⟩
  rw [if_neg c3]
  by_cases c4 : x.toInt = 112
  · rw [if_pos c4]; exact Or.inr ⟨5, by omega, rfl, hx _ c4 (by omega)⟩
  rw [if_neg c4]
  by_cases c5 : x.toInt = 114
  · rw [if_pos c5]; exact Or.inr ⟨1, by omega, rfl, hx _ c5 (by omega)⟩
  rw [if_neg c5]
  by_cases c6 : x.toInt = 119
  · rw [if_pos c6]; exact Or.inr ⟨2, by omega, rfl, hx _ c6 (by omega)⟩
  rw [if_neg c6]
  exact Or.inl rfl
theorem kind_sort (u : Nat) (x : Int32) : fP_kindOf u x = fM_sortOf u x := by unfold fP_kindOf fM_sortOf; rfl
def ndE (kd : Nat) : Nat := if kd = 5 then 0 else if kd < 3 then 2 else 1
theorem nd_le {kd : Nat} : ndE kd ≤ 2 := by
  unfold ndE
  by_cases a : kd = 5
  · rw [if_pos a]; omega
  · rw [if_neg a]
    by_cases b : kd < 3
    · rw [if_pos b]; omega
    · rw [if_neg b]; omega
theorem M_digitsOf {u kd : Nat} (h : kd < 6) : fM_digitsOf u (nI kd) = some (nI (ndE kd)) := by
  unfold fM_digitsOf ndE
  simp (disch := omega) only [izN, eqI, ltI]
  by_cases a : kd = 5
  · rw [if_pos a, if_pos a]
  · rw [if_neg a, if_neg a]
    by_cases b : kd < 3
    · rw [if_pos b, if_pos b]
    · rw [if_neg b, if_neg b]
theorem P_digits {kd : Nat} (h : kd < 6) : (if nI 2 < nI kd then (if nI kd = nI 5 then some (nI 0) else some (nI 1)) else some (nI 2) : Option Int32) = some (nI (ndE kd)) := by
  unfold ndE
  simp (disch := omega) only [eqI, ltI]
  by_cases a : kd = 5
  · rw [if_pos (by omega), if_pos a, if_pos a]
  · rw [if_neg a, if_neg a]
    by_cases b : kd < 3
    · rw [if_neg (by omega), if_pos b]
    · rw [if_pos (by omega), if_neg b]
def gV (a : Nat) (g g' : pS) : Prop := gU 4 g g' ∧ ∀ j, (j < a ∨ a + 4 ≤ j) → g' 4 j = g 4 j
def hV (b : Nat) (h h' : mS) : Prop := hU 5 h h' ∧ ∀ j, (j < b ∨ b + 4 ≤ j) → h'.1 5 j = h.1 5 j
theorem gV.tr {a : Nat} {g1 g2 g3 : pS} (h : gV a g1 g2) (k : gV a g2 g3) : gV a g1 g3 := ⟨h.1.tr k.1, fun j hj => (k.2 j hj).trans (h.2 j hj)⟩
theorem hV.tr {a : Nat} {g1 g2 g3 : mS} (h : hV a g1 g2) (k : hV a g2 g3) : hV a g1 g3 := ⟨h.1.tr k.1, fun j hj => (k.2 j hj).trans (h.2 j hj)⟩
theorem gT.v {a : Nat} {g g' : pS} (h : gT g g') : gV a g g' := ⟨h.r, fun j _ => by rw [h.1 4 (by omega)]⟩
theorem hT.v {a : Nat} {g g' : mS} (h : hT g g') : hV a g g' := ⟨h.r, fun j _ => by rw [h.1 5 (by omega)]⟩
theorem gV.row {a w : Nat} {g : pS} {v : Int32} (hw : w < 4) : gV a g (tRow g 4 (upd (g 4) (a + w) v)) := ⟨gU.row (by omega), fun j hj => by rw [trow_s, upd_n (by omega)]⟩
theorem hV.row {a w : Nat} {g : mS} {v : Int32} (hw : w < 4) : hV a g (mRow g 5 (upd (g.1 5) (a + w) v)) := ⟨hU.row (by omega), fun j hj => by rw [mRow_s, upd_n (by omega)]⟩
def PR (a b : Nat) (g : pS) (h : mS) : Prop := ∀ w, w < 4 → g 4 (a + w) = h.1 5 (b + w)
theorem PR.to {a b : Nat} {g g' : pS} {h h' : mS} (hp : PR a b g h) (e1 : g' 4 = g 4) (e2 : h'.1 5 = h.1 5) : PR a b g' h' := by
  unfold PR
  rw [e1, e2]
  exact hp
theorem PR.up {a b k : Nat} {g g' : pS} {h h' : mS} {v : Int32} (hp : PR a b g h) (e1 : g' 4 = g 4) (e2 : h'.1 5 = h.1 5) : PR a b (tRow g' 4 (upd (g' 4) (a + k) v)) (mRow h' 5 (upd (h'.1 5) (b + k) v)) := fun w hw => by
  rw [trow_s, mRow_s, e1, e2]
  by_cases e : w = k
  · rw [upd_e (by omega), upd_e (by omega)]
  · rw [upd_n (by omega), upd_n (by omega)]; exact hp w hw
theorem tWr4_at {m : Nat} {g : pS} {v : Int32} (hm : m < 64) : tWr g 4 (nI m) v = some (tRow g 4 (upd (g 4) m v)) := by
  unfold tWr
  rw [wr_nI (show m < tlen 4 from hm) (show (64 : Nat) ≤ 100000 by omega)]
  rfl
theorem mWr5_at {m : Nat} {g : mS} {v : Int32} (hm : m < 320) : mWr g 5 (nI m) v = some (mRow g 5 (upd (g.1 5) m v)) := mWr_at (show m < mlen 5 from hm) (show (320 : Nat) ≤ 100000 by omega)
theorem dig_end {u b kd s : Nat} {h : mS} (hk : kd < 6) (hs : s < 100) (hh : h.1 0 4 = iz (-1) → ndE kd ≤ s) : fM_readStep_59 u (nI b) (nI kd) (nI s, h) = some (.inr h) := by
  unfold fM_readStep_59
  rw [M_digitsOf hk]
  have := nd_le (kd := kd)
  simp (disch := omega) only [Option.bind_some, leI]
  by_cases c : ndE kd ≤ s
  · rw [if_pos c]
  · rw [if_neg c, if_neg (fun k => c (hh k))]
theorem dig_run {u n a b kd : Nat} (hu : 1000 ≤ u) (hkd : kd < 6) (ha : a + 4 ≤ 64) (hb : b + 4 ≤ 320) : ∀ (j k v w : Nat) (g : pS) (h : mS), j + k = ndE kd + 1 → 1 ≤ k → pOk n g h → PR a b g h → j < v → j < w →
    ∃ o g' h', nx_iter v (fP_hasStep_94 u (nI a) (nI (ndE kd))) (nI k, g) = some o ∧ nx_iter w (fM_readStep_59 u (nI b) (nI kd)) (nI (k - 1), h) = some h' ∧ gV a g g' ∧ hV b h h' ∧ g' 4 a = g 4 a ∧ ((o = .inl g' ∧ pOk n g' h' ∧ PR a b g' h') ∨ (o = .inr (false, g') ∧ pBd n g' h')) := by
  have hnd := nd_le (kd := kd)
  intro j
  induction j with
  | zero =>
    intro k v w g h hk h1 ho hp hv hw
    have e1 : fP_hasStep_94 u (nI a) (nI (ndE kd)) (nI k, g) = some (.inr (.inl g)) := by
      unfold fP_hasStep_94
      simp (disch := omega) only [ltI]
      rw [if_pos (by omega)]
    exact ⟨_, g, h, it_end e1 (by omega), it_end (dig_end hkd (by omega) (fun _ => by omega)) (by omega), gT.rf.v, hT.rf.v, rfl, Or.inl ⟨rfl, ho, hp⟩⟩
  | succ j ih =>
    intro k v w g h hk h1 ho hp hv hw
    obtain ⟨v, rfl⟩ : ∃ v', v = v' + 1 := ⟨v - 1, by omega⟩
    obtain ⟨w, rfl⟩ : ∃ w', w = w' + 1 := ⟨w - 1, by omega⟩
    obtain ⟨q, g1, h1', n1, n2, c1, m1, f1, k1, _, t1, t2, w1⟩ := TM_next hu ho
    have kl : ¬ nI (ndE kd) < nI k := by rw [ltI (by omega) (by omega)]; omega
    have estep : fP_hasStep_94 u (nI a) (nI (ndE kd)) (nI k, g) = (fT_digitHere u g1).bind fun x11 => if x11 = iz (-1) then some (.inr (.inr (false, g1))) else (fT_digitHere u g1).bind fun x12 => (tWr g1 4 (nI (a + k)) x12).bind fun g13 => (fT_pass u g13).bind fun g14 => some (.inl (nI (k + 1), g14)) := by
      unfold fP_hasStep_94
      simp only [n1, Option.bind_some, izN, nI_add]
      rw [if_neg kl]
    have mstep : fM_readStep_59 u (nI b) (nI kd) (nI (k - 1), h) = (fM_digit u h).bind fun p10 => (mWr p10.2 5 (nI (b + k)) p10.1).bind fun g11 => some (.inl (nI k, g11)) := by
      unfold fM_readStep_59
      rw [M_digitsOf hkd]
      simp (disch := omega) only [Option.bind_some, leI, izN, nI_add]
      rw [if_neg (by omega), if_pos ho.2.1, show b + 1 + (k - 1) = b + k by omega, show k - 1 + 1 = k by omega]
    have dstep : fM_digit u h = if isDg (sgn (g 1) n q) = true then (nx_rd (mlen 1) (h1'.1 1) ((mFs h1' 3 (nI (q + 1))).1 0 3 - nI 1)).bind (fun x4 => some (x4 - nI 48, mFs h1' 3 (nI (q + 1)))) else (fM_bad u h1').bind fun g5 => some (nI 0, g5) := by
      unfold fM_digit
      rw [n2]
      simp only [Option.bind_some, M_isDigit, izN]
      rw [m1.2.1, nI_add, fs_r (by omega)]
    cases d1 : isDg (sgn (g 1) n q) with
    | false =>
      rw [T_digit_n c1 (by rw [t1]; exact d1)] at estep
      simp only [Option.bind_some, if_true] at estep
      rw [d1, if_neg (by simp), M_bad w1] at dstep
      rw [dstep] at mstep
      simp only [Option.bind_some] at mstep
      rw [mWr5_at (by omega)] at mstep
      simp only [Option.bind_some] at mstep
      have hww : (mRow (mFs h1' 4 (h1'.1 0 3)) 5 (upd ((mFs h1' 4 (h1'.1 0 3)).1 5) (b + k) (nI 0))).1 0 4 = nI q := by rw [mRow_n (by omega), fs_s, m1.2.1]
      have q9 : q ≤ 240 := Nat.le_trans c1.2.2.2 c1.2.2.1
      refine ⟨_, g1, _, it_end estep (by omega), ?_, f1.v, (k1.t.tr hT.f4).v.tr (hV.row (by omega)), by rw [f1.1 4 (by omega)], Or.inr ⟨rfl, q, c1.2.2.2, c1.2.1, hww⟩⟩
      rw [it_on mstep]
      exact it_end (dig_end hkd (by omega) (fun k => absurd (hww.symm.trans k) (neN1 (by omega)))) (by omega)
    | true =>
      obtain ⟨d, hd, ed⟩ := isDg_of d1
      have hqn : q < n := sgn_lt (by rw [ed]; exact neN1 (by omega))
      rw [T_digit_y c1 (by rw [t1]; exact d1) (by rw [t1]; exact ed)] at estep
      simp only [Option.bind_some] at estep
      rw [if_neg (neN1 (by omega)), tWr4_at (by omega)] at estep
      simp only [Option.bind_some] at estep
      rw [T_pass (c1.row (by omega))] at estep
      simp only [Option.bind_some] at estep
      have q9 : q < 240 := Nat.lt_of_lt_of_le hqn c1.2.2.1
      rw [d1, if_pos rfl, fs_s, decI, t2, rd_nI (show q < mlen 1 from q9) (show (240 : Nat) ≤ 100000 by omega)] at dstep
      simp only [Option.bind_some] at dstep
      rw [← sgn_v (t := g 1) hqn, ed, subI (by omega), show 48 + d - 48 = d by omega] at dstep
      rw [dstep] at mstep
      simp only [Option.bind_some] at mstep
      rw [mWr5_at (by omega)] at mstep
      simp only [Option.bind_some] at mstep
      have po : pOk n (tFs (tRow g1 4 (upd (g1 4) (a + k) (nI d))) 1 (nI (q + 1))) (mRow (mFs h1' 3 (nI (q + 1))) 5 (upd ((mFs h1' 3 (nI (q + 1))).1 5) (b + k) (nI d))) := by
        refine pOk.at (p := q + 1) ?_ ?_ ((c1.row (by omega)).to gT.f1 tfs_s (by omega)) ((m1.to hA.f3.t fs_s (by omega)).row (by omega))
        · rw [tfs_r (by omega), trow_n (by omega), mRow_n (by omega), fs_r (by omega)]
          exact t1.trans t2.symm
        · rw [mRow_n (by omega), fs_n (by omega)]
          exact w1
      have pr : PR a b (tFs (tRow g1 4 (upd (g1 4) (a + k) (nI d))) 1 (nI (q + 1))) (mRow (mFs h1' 3 (nI (q + 1))) 5 (upd ((mFs h1' 3 (nI (q + 1))).1 5) (b + k) (nI d))) := (hp.up (k := k) (v := nI d) (f1.1 4 (by omega)) ((fs_r (by omega)).trans (k1.1 5 (by omega)))).to (tfs_r (by omega)) rfl
      have fg : gV a g (tFs (tRow g1 4 (upd (g1 4) (a + k) (nI d))) 1 (nI (q + 1))) := f1.v.tr ((gV.row (by omega)).tr gT.f1.v)
      have fh : hV b h (mRow (mFs h1' 3 (nI (q + 1))) 5 (upd ((mFs h1' 3 (nI (q + 1))).1 5) (b + k) (nI d))) := (k1.t.tr hA.f3.t).v.tr (hV.row (by omega))
      have e0 : (tFs (tRow g1 4 (upd (g1 4) (a + k) (nI d))) 1 (nI (q + 1))) 4 a = g 4 a := by rw [tfs_r (by omega), trow_s, upd_n (by omega), f1.1 4 (by omega)]
      obtain ⟨o, g', h', y1, y2, y3, y4, y5, y6⟩ := ih (k + 1) v w _ _ (by omega) (by omega) po pr (by omega) (by omega)
      rw [show k + 1 - 1 = k by omega] at y2
      exact ⟨o, g', h', by rw [it_on estep]; exact y1, by rw [it_on mstep]; exact y2, fg.tr y3, fh.tr y4, y5.trans e0, y6⟩
