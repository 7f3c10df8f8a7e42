/-! ===== class and Model, side by side ===== -/
def txI (c : CS) (g : mS) : Prop := ∃ n, n ≤ 240 ∧ csI c 0 = nI n ∧ g.1 0 2 = nI n ∧ csR c 1 = g.1 1 ∧ ∀ i, g.1 1 i ≠ iz (-1)
def scI (c : CS) (g : mS) : Prop := ∃ n, n ≤ 4 ∧ csI c 6 = nI n ∧ g.1 0 12 = nI n ∧ ∀ k, k < n → ∃ a m, csQ c 0 k = some a ∧ m ≤ 16 ∧ csN c a = nI m ∧ g.1 6 k = nI m ∧ ∀ i, i < m → (∃ kd, kd < 6 ∧ csS c a (4 * i) = nI kd) ∧ ∀ w, w < 4 → csS c a (4 * i + w) = g.1 5 (64 * k + 4 * i + w)
def rfI (c : CS) (g : mS) : Prop := csR c 7 = g.1 8
def st2 (R : ER) (f h : Nat → Int32) (D : Nat → List De) (T : ET) : Prop := (∃ w0, RW R w0 D f T) ∧ rM none D h T ∧ EI R D T
def pastI (R : ER) (c : CS) (g : mS) : Prop := ∃ m nx, m ≤ 40 ∧ nx < 40 ∧ csI c 9 = nI m ∧ g.1 0 19 = nI m ∧ csI c 8 = nI nx ∧ ∀ j, j < m → ∃ a D T, csQ c 1 ((nx + 40 - m + j) % 40) = some a ∧ st2 R (csW c a) (fun k => g.1 10 (820 * j + k)) D T
def imgI (x : Nat) (R : ER) (c : CS) (g : mS) : Prop := (csI c 7 = nI 0 ∧ g.1 0 26 = nI 0) ∨ (csI c 7 = nI 1 ∧ g.1 0 26 = nI 1 ∧ ∃ D T, st2 R (csW c (x + 13)) (g.1 13) D T)
def rulI (R : ER) (g : mS) : Prop := g.1 0 9 = nI R.1 ∧ g.1 4 0 = R.2.1 ∧ g.1 4 1 = R.2.2.1 ∧ g.1 4 2 = R.2.2.2
def stoI (x : Nat) (c : CS) (g : mS) (R : ER) (D : Nat → List De) (T : ET) : Prop := rulI R g ∧ st2 R (csW c (x + 9)) (g.1 7) D T ∧ pastI R c g ∧ imgI x R c g
def freI (x : Nat) (c : CS) (g : mS) : Prop := csW c (x + 9) = (fun _ => nI 0) ∧ g.1 0 9 = nI 0 ∧ g.1 7 608 = nI 0 ∧ g.1 7 639 = nI 0 ∧ csI c 9 = nI 0 ∧ g.1 0 19 = nI 0 ∧ (∃ nx, nx < 40 ∧ csI c 8 = nI nx) ∧ csI c 7 = nI 0 ∧ g.1 0 26 = nI 0
def bas (c : CS) (g : mS) : Prop := txI c g ∧ scI c g ∧ rfI c g ∧ g.1 0 15 = nI 0
def INV (Γ : nx_G) (x A B : Nat) (D : nx_M) (g : mS) : Prop := ∃ c, CC Γ x A B c D ∧ bas c g ∧ (freI x c g ∨ ∃ R Ds T, stoI x c g R Ds T)
/-- Model's parts that stand between calls are the same -/
def mE (g g' : mS) : Prop := g'.1 1 = g.1 1 ∧ g'.1 4 = g.1 4 ∧ g'.1 5 = g.1 5 ∧ g'.1 6 = g.1 6 ∧ g'.1 8 = g.1 8 ∧ g'.1 10 = g.1 10 ∧ g'.1 13 = g.1 13 ∧ ∀ j, (j = 2 ∨ j = 9 ∨ j = 12 ∨ j = 19 ∨ j = 26) → g'.1 0 j = g.1 0 j
theorem mE.rf {g : mS} : mE g g := ⟨rfl, rfl, rfl, rfl, rfl, rfl, rfl, fun _ _ => rfl⟩
theorem mE.tr {a b c : mS} (h : mE a b) (k : mE b c) : mE a c := by
  obtain ⟨h1, h2, h3, h4, h5, h6, h7, h8⟩ := h
  obtain ⟨k1, k2, k3, k4, k5, k6, k7, k8⟩ := k
  exact ⟨k1.trans h1, k2.trans h2, k3.trans h3, k4.trans h4, k5.trans h5, k6.trans h6, k7.trans h7, fun j hj => (k8 j hj).trans (h8 j hj)⟩
theorem frM.mE {g g' : mS} (h : frM g g') : mE g g' := ⟨h.1 1 (by omega) (by omega), h.1 4 (by omega) (by omega), h.1 5 (by omega) (by omega), h.1 6 (by omega) (by omega), h.1 8 (by omega) (by omega), h.1 10 (by omega) (by omega), h.1 13 (by omega) (by omega), fun j hj => h.2.1 j (by omega)⟩
theorem mE.row {g : mS} {j : Nat} {a : Nat → Int32} (h : j = 2 ∨ j = 3 ∨ j = 7 ∨ j = 9 ∨ j = 11 ∨ j = 12) : mE g (mRow g j a) := by
  refine ⟨mRow_n (by omega), mRow_n (by omega), mRow_n (by omega), mRow_n (by omega), mRow_n (by omega), mRow_n (by omega), mRow_n (by omega), fun i hi => ?_⟩
  rw [mRow_n (by omega)]
theorem mE.fs {g : mS} {j : Nat} {v : Int32} (h : j ≠ 2 ∧ j ≠ 9 ∧ j ≠ 12 ∧ j ≠ 19 ∧ j ≠ 26) : mE g (mFs g j v) := by
  refine ⟨mRow_n (by omega), mRow_n (by omega), mRow_n (by omega), mRow_n (by omega), mRow_n (by omega), mRow_n (by omega), mRow_n (by omega), fun i hi => ?_⟩
  unfold mFs
  rw [mRow_s, upd_n (by omega)]
theorem fs_r {g : mS} {j i : Nat} {v : Int32} (h : i ≠ 0) : (mFs g j v).1 i = g.1 i := mRow_n h
theorem fs_s {g : mS} {j : Nat} {v : Int32} : (mFs g j v).1 0 j = v := by unfold mFs; rw [mRow_s, upd_s]
theorem fs_n {g : mS} {j i : Nat} {v : Int32} (h : i ≠ j) : (mFs g j v).1 0 i = g.1 0 i := by unfold mFs; rw [mRow_s, upd_n h]
section INVS
variable {x : Nat} {c c' : CS} {g g' : mS}
theorem txI.to (h : txI c g) (h0 : csI c' 0 = csI c 0) (h1 : csR c' 1 = csR c 1) (k : mE g g') : txI c' g' := by
  obtain ⟨n, n1, n2, n3, n4, n5⟩ := h
  exact ⟨n, n1, h0.trans n2, (k.2.2.2.2.2.2.2 2 (by omega)).trans n3, by rw [h1, k.1]; exact n4, by rw [k.1]; exact n5⟩
theorem scI.to (h : scI c g) (h6 : csI c' 6 = csI c 6) (hq : csQ c' 0 = csQ c 0) (hn : csN c' = csN c) (hs : csS c' = csS c) (k : mE g g') : scI c' g' := by
  obtain ⟨n, n1, n2, n3, n4⟩ := h
  refine ⟨n, n1, h6.trans n2, (k.2.2.2.2.2.2.2 12 (by omega)).trans n3, ?_⟩
  rw [hq, hn, hs, k.2.2.1, k.2.2.2.1]
  exact n4
theorem rfI.to (h : rfI c g) (h7 : csR c' 7 = csR c 7) (k : mE g g') : rfI c' g' := by
  unfold rfI
  rw [h7, k.2.2.2.2.1]
  exact h
theorem rulI.to {R : ER} (h : rulI R g) (k : mE g g') : rulI R g' := by
  unfold rulI
  rw [k.2.2.2.2.2.2.2 9 (by omega), k.2.1]
  exact h
theorem pastI.to {R : ER} (h : pastI R c g) (h8 : csI c' 8 = csI c 8) (h9 : csI c' 9 = csI c 9) (hq : ∀ i a, i < 40 → csQ c 1 i = some a → csQ c' 1 i = some a ∧ csW c' a = csW c a) (k : mE g g') : pastI R c' g' := by
  obtain ⟨m, nx, m1, m2, m3, m4, m5, m6⟩ := h
  refine ⟨m, nx, m1, m2, h9.trans m3, (k.2.2.2.2.2.2.2 19 (by omega)).trans m4, h8.trans m5, fun j hj => ?_⟩
  obtain ⟨a, D, T, e, hs⟩ := m6 j hj
  obtain ⟨e1, e2⟩ := hq _ a (Nat.mod_lt _ (by omega)) e
  refine ⟨a, D, T, e1, ?_⟩
  rw [e2, k.2.2.2.2.2.1]
  exact hs
theorem imgI.to {R : ER} (h : imgI x R c g) (h7 : csI c' 7 = csI c 7) (hw : csW c' (x + 13) = csW c (x + 13)) (k : mE g g') : imgI x R c' g' := by
  unfold imgI
  rw [h7, hw, k.2.2.2.2.2.2.2 26 (by omega), k.2.2.2.2.2.2.1]
  exact h
theorem bas.to (h : bas c g) (hk : cK x c c') (k : mE g g') (h15 : g'.1 0 15 = nI 0) : bas c' g' := by
  obtain ⟨h1, h2, h3, h4, h5, h6, h7, h8, h9⟩ := hk
  exact ⟨h.1.to (h1 0 (by omega)) (by rw [h2]) k, h.2.1.to (h1 6 (by omega)) h3 h5 h6 k, h.2.2.1.to (by rw [h2]) k, h15⟩
/-- what is tried apart leaves all as it was -/
theorem INV.tri {Γ : nx_G} {A B : Nat} {D' : nx_M} (hb : bas c g) (hs : freI x c g ∨ ∃ R Ds T, stoI x c g R Ds T) (hc : CC Γ x A B c' D') (hk : cK x c c') (k : mE g g') (h7 : g'.1 7 = g.1 7) (h15 : g'.1 0 15 = nI 0) : INV Γ x A B D' g' := by
  refine ⟨c', hc, hb.to hk k h15, ?_⟩
  obtain ⟨k1, k2, k3, k4, k5, k6, k7, k8, k9⟩ := hk
  rcases hs with ⟨f1, f2, f3, f4, f5, f6, ⟨nx, f7, f8⟩, f9, f10⟩ | ⟨R, Ds, T, s1, s2, s3, s4⟩
  · left
    exact ⟨k8.trans f1, (k.2.2.2.2.2.2.2 9 (by omega)).trans f2, by rw [h7]; exact f3, by rw [h7]; exact f4, (k1 9 (by omega)).trans f5, (k.2.2.2.2.2.2.2 19 (by omega)).trans f6, ⟨nx, f7, (k1 8 (by omega)).trans f8⟩, (k1 7 (by omega)).trans f9, (k.2.2.2.2.2.2.2 26 (by omega)).trans f10⟩
  · right
    refine ⟨R, Ds, T, s1.to k, ?_, s3.to (k1 8 (by omega)) (k1 9 (by omega)) k7 k, s4.to (k1 7 (by omega)) k9 k⟩
    rw [k8, h7]
    exact s2
end INVS
theorem st2.rm {x : Nat} {c : CS} {g : mS} {R : ER} {D : Nat → List De} {T : ET} (h : stoI x c g R D T) (h15 : g.1 0 15 = nI 0) : RM g R (g.1 0 16 - tFe T) none D g T := ⟨frM.rf, ⟨h.1.1, h.1.2.1, h.1.2.2.1, h.1.2.2.2, h15⟩, by rw [sub_add_I], h.2.1.2.1⟩
/-! ===== the past ===== -/
theorem i32800 : (32800 : Int32) = nI 32800 := by decide +kernel
theorem rd10 {m : Nat} {f : Nat → Int32} (hm : m < 32800) : nx_rd (mlen 10) f (nI m) = some (f m) := rd_nI hm (show (32800 : Nat) ≤ 100000 by omega)
theorem mWr10 {m : Nat} {g : mS} {v : Int32} (hm : m < 32800) : mWr g 10 (nI m) v = some (mRow g 10 (upd (g.1 10) m v)) := mWr_at hm (show (32800 : Nat) ≤ 100000 by omega)
theorem M_keep_s {u : Nat} (hu2 : 40000 ≤ u) (g : mS) : ok (nx_iter u fM_keep_13 (nI 820, g)) (fun g' => ∃ a, g' = mRow g 10 a ∧ ∀ j, j < 31980 → a j = g.1 10 (j + 820)) := by
  refine it_inv (fun i s => 820 ≤ i ∧ s.1 = nI i ∧ ∃ a, s.2 = mRow g 10 a ∧ (∀ j, j + 820 < i → a j = g.1 10 (j + 820)) ∧ ∀ j, i ≤ j + 820 → a j = g.1 10 j) 32800 (fun i s hi hI => ?_) (fun s hI => ?_) (i := 820) ⟨by omega, rfl, g.1 10, mRow_i.symm, fun j hj => by omega, fun _ _ => rfl⟩ (by omega) (by omega)
  · obtain ⟨i1, e1, a, e2, h1, h2⟩ := hI
    have e10 : (mRow g 10 a).1 10 = a := mRow_s
    unfold fM_keep_13
    rw [e1, e2, i32800]
    simp (disch := omega) only [leI, izN, rd10, e10, subI, mWr10, mRow_m, Option.bind_some, nI_add]
    rw [if_neg (by omega)]
    refine ok.ret ⟨by omega, rfl, upd a (i - 820) (a i), rfl, fun j hj => ?_, fun j hj => ?_⟩
    · by_cases e : j = i - 820
      · rw [upd_e e, h2 i (by omega), show j + 820 = i by omega]
      · rw [upd_n e]; exact h1 j (by omega)
    · rw [upd_n (by omega)]; exact h2 j (by omega)
  · obtain ⟨i1, e1, a, e2, h1, h2⟩ := hI
    unfold fM_keep_13
    rw [e1, i32800]
    simp (disch := omega) only [leI]
    rw [if_pos (by omega)]
    exact ok.ret ⟨a, e2, fun j hj => h1 j (by omega)⟩
theorem M_keep_c {u : Nat} (hu : 1000 ≤ u) (g : mS) {m : Nat} (hm : m < 40) (h19 : g.1 0 19 = nI m) : ok (nx_iter u fM_keep_53 (nI 0, g)) (fun g' => ∃ a, g' = mRow g 10 a ∧ (∀ j, j < 820 * m → a j = g.1 10 j) ∧ ∀ k, k < 820 → a (820 * m + k) = g.1 7 k) := by
  refine it_inv (fun i s => s.1 = nI i ∧ ∃ a, s.2 = mRow g 10 a ∧ (∀ j, j < 820 * m → a j = g.1 10 j) ∧ ∀ k, k < i → a (820 * m + k) = g.1 7 k) 820 (fun i s hi hI => ?_) (fun s hI => ?_) (i := 0) ⟨rfl, g.1 10, mRow_i.symm, fun _ _ => rfl, fun k hk => by omega⟩ (by omega) (by omega)
  · obtain ⟨e1, a, e2, h1, h2⟩ := hI
    have e10 : (mRow g 10 a).1 10 = a := mRow_s
    have e7 : (mRow g 10 a).1 7 = g.1 7 := mRow_n (by omega)
    have e0 : (mRow g 10 a).1 0 = g.1 0 := mRow_n (by omega)
    unfold fM_keep_53
    rw [e1, e2]
    simp (disch := omega) only [leI, izN, rdM, e7, e0, h19, mulI, nI_add, mWr10, e10, mRow_m, Option.bind_some]
    rw [if_neg (by omega)]
    refine ok.ret ⟨rfl, upd a (820 * m + i) (g.1 7 i), rfl, fun j hj => ?_, fun k hk => ?_⟩
    · rw [upd_n (by omega)]; exact h1 j hj
    · by_cases e : k = i
      · rw [upd_e (by omega), e]
      · rw [upd_n (by omega)]; exact h2 k (by omega)
  · obtain ⟨e1, a, e2, h1, h2⟩ := hI
    unfold fM_keep_53
    rw [e1]
    simp (disch := omega) only [leI, izN]
    rw [if_pos (by omega)]
    exact ok.ret ⟨a, e2, h1, h2⟩
theorem ms_ext {g g' : mS} (h0 : ∀ q, g.1 0 q = g'.1 0 q) (h : ∀ i, i ≠ 0 → g.1 i = g'.1 i) (h2 : g.2 = g'.2) : g = g' := by
  refine Prod.ext (funext fun i => ?_) h2
  by_cases e : i = 0
  · subst e; exact funext h0
  · exact h i e
theorem M_keep {u : Nat} (hu2 : 40000 ≤ u) (g : mS) {m : Nat} (hm : m ≤ 40) (h19 : g.1 0 19 = nI m) : ∃ a, fM_keep u g = some (mFs (mRow g 10 a) 19 (nI (if m = 40 then 40 else m + 1))) ∧ (∀ j k, j < (if m = 40 then 39 else m) → k < 820 → a (820 * j + k) = g.1 10 (820 * (if m = 40 then j + 1 else j) + k)) ∧ ∀ k, k < 820 → a (820 * (if m = 40 then 39 else m) + k) = g.1 7 k := by
  unfold fM_keep
  simp only [izN]
  rw [h19]
  simp (disch := omega) only [eqI]
  by_cases c : m = 40
  · rw [if_pos c]
    obtain ⟨g1, e1, a, rfl, ha⟩ := M_keep_s hu2 g
    rw [e1]
    simp only [Option.bind_some]
    have e0 : (mRow g 10 a).1 0 19 = nI 40 := by rw [mRow_n (by omega), h19, c]
    rw [e0, subI (by omega)]
    have h19' : (mFs (mRow g 10 a) 19 (nI (40 - 1))).1 0 19 = nI 39 := fs_s
    obtain ⟨g2, e2, b, rfl, hb1, hb2⟩ := M_keep_c (u := u) (by omega) (mFs (mRow g 10 a) 19 (nI (40 - 1))) (m := 39) (by omega) h19'
    rw [e2]
    simp only [Option.bind_some]
    have e3 : (mRow (mFs (mRow g 10 a) 19 (nI (40 - 1))) 10 b).1 0 19 = nI 39 := by rw [mRow_n (by omega)]; exact fs_s
    rw [e3, nI_add, if_pos c, if_pos c]
    refine ⟨b, ?_, fun j k hj hk => ?_, fun k hk => ?_⟩
    · congr 1
      refine ms_ext (fun q => ?_) (fun i hi => ?_) rfl
      · by_cases e : q = 19
        · subst e; rw [fs_s, fs_s]
        · rw [fs_n e, fs_n e, mRow_n (by omega), mRow_n (by omega), fs_n e, mRow_n (by omega)]
      · rw [fs_r hi, fs_r hi]
        by_cases e : i = 10
        · subst e; rw [mRow_s, mRow_s]
        · rw [mRow_n e, mRow_n e, fs_r hi, mRow_n e]
    · rw [hb1 _ (by omega), fs_r (by omega), mRow_s, ha _ (by omega), if_pos c, show 820 * j + k + 820 = 820 * (j + 1) + k by omega]
    · rw [hb2 k hk, fs_r (by omega), mRow_n (by omega)]
  · rw [if_neg c]
    simp only [Option.bind_some]
    obtain ⟨g2, e2, b, rfl, hb1, hb2⟩ := M_keep_c (u := u) (by omega) g (m := m) (by omega) h19
    rw [e2]
    simp only [Option.bind_some]
    have e3 : (mRow g 10 b).1 0 19 = nI m := by rw [mRow_n (by omega)]; exact h19
    rw [e3, nI_add, if_neg c, if_neg c]
    refine ⟨b, rfl, fun j k hj hk => ?_, fun k hk => ?_⟩
    · rw [hb1 _ (by omega), if_neg c]
    · rw [hb2 k hk]
theorem cI_n {c : CS} {q k : Nat} {v : Int32} (h : k ≠ q) : csI (cI' c q v) k = csI c k := upd_n h
theorem cI_s {c : CS} {q : Nat} {v : Int32} : csI (cI' c q v) q = v := upd_s
theorem C_keep {Γ : nx_G} {x A B : Nat} {c : CS} {D : nx_M} (h : CC Γ x A B c D) (u : Nat) {m nx : Nat} (hm : m ≤ 40) (hn : nx < 40) (h9 : csI c 9 = nI m) (h8 : csI c 8 = nI nx) : ∃ c' D' a, fQ_keep u Γ D (x + 11) (x + 9) = some D' ∧ CC Γ x A B c' D' ∧ csI c' 8 = nI (if nx + 1 < 40 then nx + 1 else 0) ∧ csI c' 9 = nI (if m = 40 then 40 else m + 1) ∧ (∀ k, k ≠ 8 → k ≠ 9 → csI c' k = csI c k) ∧ csR c' = csR c ∧ csQ c' 0 = csQ c 0 ∧ csP c' = csP c ∧ csN c' = csN c ∧ csS c' = csS c ∧ csQ c' 1 nx = some a ∧ (∀ j, j < 514 → csW c' a j = csW c (x + 9) j) ∧ csW c' (x + 9) = csW c (x + 9) ∧ csW c' (x + 13) = csW c (x + 13) ∧ (∀ i b, i < 40 → i ≠ nx → csQ c 1 i = some b → csQ c' 1 i = some b ∧ csW c' b = csW c b) ∧ csL c' = csL c := by
  have hs1 : ∃ c1 D1 a, CC Γ x A B c1 D1 ∧ cJ x c c1 ∧ csQ c1 1 nx = some a ∧ (if csQ c 1 nx = none then (some (nx_al D (.inr (6, [.null])) 1)).bind fun D8 => (fW_init u Γ D8 D.2.1).bind fun D9 => (qAw Γ 2 6 D9 (x + 12) (nI nx) D.2.1).bind fun D10 => some D10 else some D) = some D1 := by
    cases e : csQ c 1 nx with
    | some a =>
      rw [if_neg (by simp)]
      exact ⟨c, D, a, h, cJ.rf, e, rfl⟩
    | none =>
      obtain ⟨D', e2, h2, h3⟩ := h.nw (t := 1) (j0 := 12) (n := 40) (i := nx) (Or.inl ⟨rfl, rfl, rfl⟩) hn e
      rw [if_pos rfl]
      simp only [Option.bind_some]
      rw [newW u Γ D]
      simp only [Option.bind_some]
      rw [e2]
      refine ⟨_, _, D.2.1, h2, h3, ?_, rfl⟩
      show upQ (csQ c) 1 nx D.2.1 1 nx = _
      simp [upQ]
  obtain ⟨c1, D1, a, hc1, hJ, ea, es⟩ := hs1
  obtain ⟨⟨k1, k2, k3, k4, k5, k6, k7, k8, k9⟩, j2, j3, j4⟩ := hJ
  have wa : isWA x c1 a := WA_q (Or.inl ⟨rfl, hn⟩) ea
  have a34 := hc1.2.1 1 nx a (Or.inl ⟨rfl, hn⟩) ea
  have hc2 := hc1.wr wa (va_cpy (csW c1 (x + 9)) (csW c1 a) 0 0 514)
  obtain ⟨D3, e3, hm3, hd3⟩ := hc2.1.p8 (nI (if nx + 1 < 40 then nx + 1 else 0))
  have hc3 := hc2.same hm3 rfl rfl (cI_n (by omega)) hd3
  obtain ⟨D4, e4, hm4, hd4⟩ := hc3.1.p9 (nI (if m = 40 then 40 else m + 1))
  have hc4 := hc3.same hm4 rfl rfl (cI_n (by omega)) hd4
  have i8 : csI c1 8 = nI nx := by rw [j2]; exact h8
  have i9 : csI c1 9 = nI m := by rw [j2]; exact h9
  refine ⟨_, D4, a, ?_, hc4, ?_, ?_, fun k q8 q9 => ?_, k2, k3, k4, k5, k6, ea, fun j hj => ?_, ?_, ?_, fun i b hi hne hb => ?_, j3⟩
  · unfold fQ_keep
    rw [h.1.q1, Option.bind_some, h8]
    simp (disch := omega) only [izN, L_within, inR_nI, Option.bind_some]
    rw [if_pos (by simpa using hn)]
    simp only [h.1.q0, h.1.q1, h8, Option.bind_some, h.1.qp hn] at es ⊢
    rw [es]
    simp only [Option.bind_some, hc1.1.q0, hc1.1.q1, i8, hc1.1.qp hn, ea]
    rw [hc1.1.at6 wa, hc1.bc wa WA_9]
    have q1 := hc2.1.q1
    have e8 : csI (cW' c1 a (va_cpy (csW c1 (x + 9)) (csW c1 a) 0 0 514)) 8 = nI nx := i8
    rw [e8] at q1
    simp only [Option.bind_some, q1, nI_add]
    have es2 : (if nI 40 ≤ nI (nx + 1) then some (nI 0) else some (nI (nx + 1))) = some (nI (if nx + 1 < 40 then nx + 1 else 0)) := by
      by_cases c : nx + 1 < 40
      · rw [if_neg (by rw [leI (by omega) (by omega)]; omega), if_pos c]
      · rw [if_pos (by rw [leI (by omega) (by omega)]; omega), if_neg c]
    rw [es2]
    simp only [Option.bind_some]
    rw [e3]
    simp only [Option.bind_some]
    rw [hc3.1.q2]
    have e9 : csI (cI' (cW' c1 a (va_cpy (csW c1 (x + 9)) (csW c1 a) 0 0 514)) 8 (nI (if nx + 1 < 40 then nx + 1 else 0))) 9 = nI m := (cI_n (by omega)).trans i9
    rw [e9]
    simp only [Option.bind_some, nI_add]
    have es3 : (if nI 40 < nI (m + 1) then nI 40 else nI (m + 1)) = nI (if m = 40 then 40 else m + 1) := by
      by_cases c : m = 40
      · rw [if_pos (by rw [ltI (by omega) (by omega)]; omega), if_pos c]
      · rw [if_neg (by rw [ltI (by omega) (by omega)]; omega), if_neg c]
    rw [es3, e4]
    rfl
  · exact (cI_n (by omega)).trans cI_s
  · exact cI_s
  · rw [cI_n q9, cI_n q8]
    exact congrFun j2 k
  · show upR (csW c1) a _ a j = _
    rw [upR_s, pk_cpy_in (by omega) (by omega), k8, show 0 + (j - 0) = j by omega]
  · show upR (csW c1) a _ _ = _
    rw [upR_n (by omega)]
    exact k8
  · show upR (csW c1) a _ _ = _
    rw [upR_n (by omega)]
    exact k9
  · obtain ⟨b1, b2⟩ := k7 i b hi hb
    refine ⟨b1, ?_⟩
    show upR (csW c1) a _ b = _
    rw [upR_n]
    · exact b2
    · rintro rfl
      exact hne (hc1.2.2.1 1 i 1 nx b (Or.inl ⟨rfl, hi⟩) (Or.inl ⟨rfl, hn⟩) b1 ea).2
