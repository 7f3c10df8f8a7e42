/-! ===== acts by hand ===== -/
theorem bas.of {c c' : CS} {g g' : mS} (h : bas c g) (i0 : csI c' 0 = csI c 0) (i6 : csI c' 6 = csI c 6) (r : csR c' = csR c) (q0 : csQ c' 0 = csQ c 0) (n : csN c' = csN c) (s : csS c' = csS c) (m1 : g'.1 1 = g.1 1) (m5 : g'.1 5 = g.1 5) (m6 : g'.1 6 = g.1 6) (m8 : g'.1 8 = g.1 8) (f2 : g'.1 0 2 = g.1 0 2) (f12 : g'.1 0 12 = g.1 0 12) (f15 : g'.1 0 15 = g.1 0 15) : bas c' g' := by
  unfold bas txI scI rfI
  rw [i0, i6, r, q0, n, s, m1, m5, m6, m8, f2, f12, f15]
  exact h
/-- what is so is kept, on both sides -/
theorem K2 {Γ : nx_G} {x A B : Nat} {c : CS} {Dm : nx_M} {g : mS} {R : ER} {D : Nat → List De} {T : ET} {u : Nat} (hu2 : 40000 ≤ u) (hc : CC Γ x A B c Dm) (hb : bas c g) (hs : stoI x c g R D T) : ∃ c' Dm' g', fQ_keep u Γ Dm (x + 11) (x + 9) = some Dm' ∧ fM_keep u g = some g' ∧ CC Γ x A B c' Dm' ∧ bas c' g' ∧ stoI x c' g' R D T ∧ csL c' = csL c ∧ g'.2 = g.2 ∧ csQ c' 0 = csQ c 0 ∧ csN c' = csN c ∧ csS c' = csS c ∧ g'.1 5 = g.1 5 ∧ g'.1 6 = g.1 6 := by
  obtain ⟨s1, s2, ⟨m, nx, m1, m2, m3, m4, m5, m6⟩, s4⟩ := hs
  obtain ⟨c', Dm', a, e1, hc', i8, i9, ik, r, q0, p, n, s, qn, wn, w9, w13, wo, el⟩ := C_keep hc u m1 m2 m3 m5
  obtain ⟨b, e2, hb1, hb2⟩ := M_keep hu2 g m1 m4
  have rr : ∀ j, j ≠ 0 → j ≠ 10 → (mFs (mRow g 10 b) 19 (nI (if m = 40 then 40 else m + 1))).1 j = g.1 j := fun j h0 h10 => by rw [fs_r h0, mRow_n h10]
  have ff : ∀ j, j ≠ 19 → (mFs (mRow g 10 b) 19 (nI (if m = 40 then 40 else m + 1))).1 0 j = g.1 0 j := fun j hj => by rw [fs_n hj, mRow_n (by omega)]
  refine ⟨c', Dm', _, e1, e2, hc', hb.of (ik 0 (by omega) (by omega)) (ik 6 (by omega) (by omega)) r q0 n s (rr 1 (by omega) (by omega)) (rr 5 (by omega) (by omega)) (rr 6 (by omega) (by omega)) (rr 8 (by omega) (by omega)) (ff 2 (by omega)) (ff 12 (by omega)) (ff 15 (by omega)), ⟨?_, ?_, ?_, ?_⟩, el, rfl, q0, n, s, rr 5 (by omega) (by omega), rr 6 (by omega) (by omega)⟩
  · unfold rulI
    rw [ff 9 (by omega), rr 4 (by omega) (by omega)]
    exact s1
  · rw [w9, rr 7 (by omega) (by omega)]
    exact s2
  · refine ⟨if m = 40 then 40 else m + 1, if nx + 1 < 40 then nx + 1 else 0, by split <;> omega, by split <;> omega, i9, fs_s, i8, fun j hj => ?_⟩
    have er : ∀ k, (mFs (mRow g 10 b) 19 (nI (if m = 40 then 40 else m + 1))).1 10 k = b k := fun k => by rw [fs_r (by omega), mRow_s]
    by_cases ej : j = (if m = 40 then 39 else m)
    · refine ⟨a, D, T, ?_, ?_⟩
      · have : ((if nx + 1 < 40 then nx + 1 else 0) + 40 - (if m = 40 then 40 else m + 1) + j) % 40 = nx := by
          rw [ej]
          by_cases c1 : nx + 1 < 40 <;> by_cases c2 : m = 40 <;> simp only [c1, c2, if_true, if_false] <;> omega
        rw [this]
        exact qn
      · obtain ⟨⟨w0, hw⟩, hm, hE⟩ := s2
        refine ⟨⟨w0, hw.cp wn⟩, hm.cp (fun k hk => ?_), hE⟩
        show (mFs (mRow g 10 b) 19 (nI (if m = 40 then 40 else m + 1))).1 10 (820 * j + k) = _
        rw [er, ej]
        exact hb2 k hk
    · have hj' : j < (if m = 40 then 39 else m) := by
        by_cases c2 : m = 40
        · rw [if_pos c2] at hj ej ⊢; omega
        · rw [if_neg c2] at hj ej ⊢; omega
      obtain ⟨b0, D0, T0, q1, q2⟩ := m6 (if m = 40 then j + 1 else j) (by
        by_cases c2 : m = 40
        · rw [if_pos c2] at hj' ⊢; omega
        · rw [if_neg c2] at hj' ⊢; omega)
      have ei : ((if nx + 1 < 40 then nx + 1 else 0) + 40 - (if m = 40 then 40 else m + 1) + j) % 40 = (nx + 40 - m + (if m = 40 then j + 1 else j)) % 40 := by
        by_cases c1 : nx + 1 < 40 <;> by_cases c2 : m = 40 <;> simp only [c1, c2, if_true, if_false] at hj' ⊢ <;> omega
      have ne : (nx + 40 - m + (if m = 40 then j + 1 else j)) % 40 ≠ nx := by
        by_cases c2 : m = 40 <;> simp only [c2, if_true, if_false] at hj' ⊢ <;> omega
      obtain ⟨o1, o2⟩ := wo _ b0 (Nat.mod_lt _ (by omega)) ne q1
      refine ⟨b0, D0, T0, by rw [ei]; exact o1, ?_⟩
      obtain ⟨hw, hm, hE⟩ := q2
      rw [o2]
      refine ⟨hw, hm.cp (fun k hk => ?_), hE⟩
      show (mFs (mRow g 10 b) 19 (nI (if m = 40 then 40 else m + 1))).1 10 (820 * j + k) = _
      rw [er]
      exact hb1 j k hj' hk
  · unfold imgI
    rw [ik 7 (by omega) (by omega), w13, ff 26 (by omega), rr 13 (by omega) (by omega)]
    exact s4
theorem W9 {Γ : nx_G} {x A B : Nat} {c : CS} {Dm : nx_M} (hc : CC Γ x A B c Dm) (f : Nat → Int32) : (∀ i a, i < 40 → csQ c 1 i = some a → csQ (cW' c (x + 9) f) 1 i = some a ∧ csW (cW' c (x + 9) f) a = csW c a) ∧ csW (cW' c (x + 9) f) (x + 13) = csW c (x + 13) ∧ csW (cW' c (x + 9) f) (x + 9) = f := by
  refine ⟨fun i a hi e => ⟨e, ?_⟩, ?_, ?_⟩
  · have := hc.2.1 1 i a (Or.inl ⟨rfl, hi⟩) e
    show upR (csW c) (x + 9) f a = _
    rw [upR_n (by omega)]
  · show upR (csW c) (x + 9) f (x + 13) = _
    rw [upR_n (by omega)]
  · show upR (csW c) (x + 9) f (x + 9) = _
    rw [upR_s]
/-- an act, on both sides -/
theorem stoI.act {Γ : nx_G} {x A B : Nat} {c : CS} {Dm : nx_M} {g g' : mS} {R : ER} {D D' : Nat → List De} {T T' : ET} {f' : Nat → Int32} (hc : CC Γ x A B c Dm) (hb : bas c g) (hs : stoI x c g R D T) (hw : ∃ w0, RW R w0 D' f' T') (hm : mE g g') (h15 : g'.1 0 15 = nI 0) (h7 : rM none D' (g'.1 7) T') (hE : EI R D' T') : CC Γ x A B (cW' c (x + 9) f') (wPut Γ Dm (x + 9 + 1) f') ∧ bas (cW' c (x + 9) f') g' ∧ stoI x (cW' c (x + 9) f') g' R D' T' := by
  obtain ⟨w1, w2, w3⟩ := W9 hc f'
  obtain ⟨s1, s2, s3, s4⟩ := hs
  refine ⟨hc.wr WA_9 f', ⟨hb.1.to rfl rfl hm, hb.2.1.to rfl rfl rfl rfl hm, hb.2.2.1.to rfl hm, h15⟩, s1.to hm, ?_, s3.to rfl rfl w1 hm, s4.to rfl w2 hm⟩
  rw [w3]
  exact ⟨hw, h7, hE⟩
/-! refused -/
def rngP (v : Int32) : Prop := v = iz (-1) ∨ ∃ i, i < 4 ∧ v = nI i
theorem rng_ite {p : Prop} [Decidable p] {a b : Int32} (ha : rngP a) (hb : rngP b) : rngP (if p then a else b) := by
  by_cases h : p
  · rw [if_pos h]; exact ha
  · rw [if_neg h]; exact hb
theorem rng_m : rngP (iz (-1)) := Or.inl rfl
theorem rng_n {i : Nat} (h : i < 4) : rngP (nI i) := Or.inr ⟨i, h, rfl⟩
theorem ref_rng {R : ER} {T : ET} (kd : Nat) (a b c : Int32) : rngP (refT R T kd a b c) := by
  have r0 := rng_n (i := 0) (by omega)
  have r1 := rng_n (i := 1) (by omega)
  have r2 := rng_n (i := 2) (by omega)
  have r3 := rng_n (i := 3) (by omega)
  unfold refT opR rdR wrR haR rtR stR
  repeat' (first | exact rng_m | exact r0 | exact r1 | exact r2 | exact r3 | refine rng_ite ?_ ?_)
theorem rd8 {m : Nat} {f : Nat → Int32} (hm : m < 4) : nx_rd (mlen 8) f (nI m) = some (f m) := rd_nI hm (show (4 : Nat) ≤ 100000 by omega)
theorem mWr8 {m : Nat} {g : mS} {v : Int32} (hm : m < 4) : mWr g 8 (nI m) v = some (mRow g 8 (upd (g.1 8) m v)) := mWr_at hm (show (4 : Nat) ≤ 100000 by omega)
theorem M_refu (u : Nat) (g : mS) {i : Nat} (hi : i < 4) : fM_isRefused u g (nI i) = some (true, mRow g 8 (upd (g.1 8) i (g.1 8 i + nI 1))) := by
  unfold fM_isRefused
  have hn := neN1 (a := i) (by omega)
  simp (disch := omega) only [hn, if_false, izN, rd8, mWr8, Option.bind_some]
theorem cR_n {c : CS} {k j : Nat} {f : Nat → Int32} (h : j ≠ k) : csR (cR' c k f) j = csR c j := upR_n h
theorem cR_s {c : CS} {k : Nat} {f : Nat → Int32} : csR (cR' c k f) k = f := upR_s
theorem bas.ref {c : CS} {g : mS} (h : bas c g) (i : Nat) : bas (cR' c 7 (upd (csR c 7) i (csR c 7 i + nI 1))) (mRow g 8 (upd (g.1 8) i (g.1 8 i + nI 1))) := by
  obtain ⟨⟨n, h1, h2, h3, h4⟩, ⟨n', s1, s2, s3, s4⟩, h5, h6⟩ := h
  refine ⟨⟨n, h1, h2, ?_, ?_⟩, ⟨n', s1, s2, ?_, ?_⟩, ?_, ?_⟩
  · rw [mRow_n (by omega)]; exact h3
  · rw [cR_n (by omega), mRow_n (by omega)]
    exact h4
  · rw [mRow_n (by omega)]; exact s3
  · rw [mRow_n (by omega), mRow_n (by omega)]; exact s4
  · have h5 : csR c 7 = g.1 8 := h5
    unfold rfI
    rw [cR_s, mRow_s, h5]
  · rw [mRow_n (by omega)]; exact h6
theorem ref_st {x : Nat} {c : CS} {g : mS} {i : Nat} (hs : freI x c g ∨ ∃ R Ds T, stoI x c g R Ds T) : freI x (cR' c 7 (upd (csR c 7) i (csR c 7 i + nI 1))) (mRow g 8 (upd (g.1 8) i (g.1 8 i + nI 1))) ∨ ∃ R Ds T, stoI x (cR' c 7 (upd (csR c 7) i (csR c 7 i + nI 1))) (mRow g 8 (upd (g.1 8) i (g.1 8 i + nI 1))) R Ds T := by
  have e : ∀ j, j ≠ 8 → (mRow g 8 (upd (g.1 8) i (g.1 8 i + nI 1))).1 j = g.1 j := fun j hj => mRow_n hj
  unfold freI stoI rulI pastI imgI
  rw [e 0 (by omega), e 4 (by omega), e 7 (by omega), e 10 (by omega), e 13 (by omega)]
  exact hs
/-- a refusal is counted, on both sides -/
theorem C_refu {Γ : nx_G} {x A B : Nat} {c : CS} {Dm : nx_M} (hc : CC Γ x A B c Dm) {i : Nat} (hi : i < 4) : ∃ D', ((gR Dm x 7 11).bind fun q4 => (aI Γ Dm q4 (nI i)).bind fun x5 => (aIw Γ Dm q4 (nI i) (x5 + nI 1)).bind fun D6 => some (true, D6)) = some (true, D') ∧ CC Γ x A B (cR' c 7 (upd (csR c 7) i (csR c 7 i + nI 1))) D' := by
  obtain ⟨D', e, hm, hd⟩ := hc.1.pr hi (csR c 7 i + nI 1)
  refine ⟨D', ?_, hc.same hm rfl rfl rfl hd⟩
  rw [hc.1.r11, Option.bind_some, hc.1.ri hi, Option.bind_some, e]
  rfl
theorem Wf_hasStore (u : Nat) : fW_hasStore u (fun _ => nI 0) = some false := by
  unfold fW_hasStore
  simp (disch := omega) only [izN, nI_add, mulI, rdW, wrW, Option.bind_some, leI]
  rfl
theorem Wf_refusal (u : Nat) (k a b c : Int32) : fW_refusal u (fun _ => nI 0) k a b c = some (nI 0) := by
  unfold fW_refusal
  rw [Wf_hasStore]
  rfl
theorem C_isRef {Γ : nx_G} {x A B : Nat} {c : CS} {Dm : nx_M} (hc : CC Γ x A B c Dm) {u : Nat} {k a b d : Int32} {r : Int32} (e : fW_refusal u (csW c (x + 9)) k a b d = some r) : (r = iz (-1) → fC_isRefused u Γ Dm x k a b d = some (false, Dm)) ∧ ∀ i, i < 4 → r = nI i → ∃ D', fC_isRefused u Γ Dm x k a b d = some (true, D') ∧ CC Γ x A B (cR' c 7 (upd (csR c 7) i (csR c 7 i + nI 1))) D' := by
  unfold fC_isRefused
  rw [hc.1.r5, Option.bind_some, hc.wRd WA_9, e]
  simp (disch := omega) only [Option.bind_some, izN, L_within]
  constructor
  · rintro rfl
    rw [inR_N1]
    rfl
  · rintro i hi rfl
    obtain ⟨D', e1, h1⟩ := C_refu hc hi
    refine ⟨D', ?_, h1⟩
    rw [inR_nI (by omega), if_pos (by simpa using hi)]
    exact e1
/-- any act by hand -/
theorem B_tri {u : Nat} (hu2 : 40000 ≤ u) {Γ : nx_G} {x A B : Nat} {Dm : nx_M} {g : mS} {kd : Nat} (hk : kd < 7) (a b d : Int32) (why : mS → Option Int32) (now : mS → Option (Int32 × mS))
    (hwhy : ∀ (R : ER) (D : Nat → List De) (T : ET) (g0 : mS) (m0 : Int32) (g : mS), RM g0 R m0 none D g T → WF R T → why g = some (refT R T kd a b d))
    (hfre : ∀ g : mS, g.1 0 9 = nI 0 → why g = some (nI 0))
    (hnow : ∀ (R : ER) (D : Nat → List De) (T : ET) (g0 : mS) (m0 : Int32) (g : mS), RM g0 R m0 none D g T → WF R T → refT R T kd a b d = iz (-1) → ok (now g) (fun r => r.1 = (actT R T kd a b d).2 ∧ RM g0 R m0 none (actD D kd a b d) r.2 (actT R T kd a b d).1))
    (hI : INV Γ x A B Dm g) : ∃ r Dm' g', fC_tried u Γ Dm x (nI kd) a b d = some (r, Dm') ∧ ((why g).bind fun x1 => (fM_isRefused u g x1).bind fun p2 => if p2.1 = true then some (iz (-1), p2.2) else (now p2.2).bind fun p3 => some (p3.1, p3.2)) = some (r, g') ∧ INV Γ x A B Dm' g' := by
  have hu : 1000 ≤ u := by omega
  obtain ⟨c, hc, hb, hs⟩ := hI
  have href : ∀ i, i < 4 → fW_refusal u (csW c (x + 9)) (nI kd) a b d = some (nI i) → why g = some (nI i) → ∃ r Dm' g', fC_tried u Γ Dm x (nI kd) a b d = some (r, Dm') ∧ ((why g).bind fun x1 => (fM_isRefused u g x1).bind fun p2 => if p2.1 = true then some (iz (-1), p2.2) else (now p2.2).bind fun p3 => some (p3.1, p3.2)) = some (r, g') ∧ INV Γ x A B Dm' g' := by
    intro i hi e1 e2
    obtain ⟨D', e3, h3⟩ := (C_isRef hc e1).2 i hi rfl
    refine ⟨iz (-1), D', _, ?_, ?_, _, h3, hb.ref i, ref_st hs⟩
    · unfold fC_tried
      rw [hc.1.at0, e3]
      rfl
    · rw [e2, Option.bind_some, M_refu u g hi]
      rfl
  rcases hs with hf | ⟨R, D, T, hst⟩
  · exact href 0 (by omega) (by rw [hf.1]; exact Wf_refusal u _ _ _ _) (hfre g hf.2.1)
  · have hrm := st2.rm hst hb.2.2.2
    obtain ⟨⟨w0, hw⟩, _, hE⟩ := hst.2.1
    have e1 := W_refusal hu hw hE.1.1 (kd := kd) (by omega) a b d
    have e2 := hwhy _ _ _ _ _ _ hrm hE.1
    rcases ref_rng (R := R) (T := T) kd a b d with hr | ⟨i, hi, hr⟩
    · obtain ⟨c1, D1, g1, k1, k2, k3, k4, k5, _⟩ := K2 hu2 hc hb hst
      have hrm1 := st2.rm k5 k4.2.2.2
      obtain ⟨⟨w1, hw1⟩, _, _⟩ := k5.2.1
      obtain ⟨ra, ea, ra1, ra2⟩ := W_act hu hw1 hE.1 hk hr
      obtain ⟨rb, eb, rb1, rb2⟩ := hnow _ _ _ _ _ _ hrm1 hE.1 hr
      have h15 : rb.2.1 0 15 = nI 0 := (rb2.1.2.1 15 (by omega)).trans k4.2.2.2
      obtain ⟨q1, q2, q3⟩ := stoI.act k3 k4 k5 ⟨w1, ra2⟩ rb2.1.mE h15 rb2.2.2.2 (hE.act hk hr)
      refine ⟨ra.1, _, rb.2, ?_, ?_, _, q1, q2, Or.inr ⟨R, _, _, q3⟩⟩
      · unfold fC_tried
        rw [hc.1.at0, (C_isRef hc (e1.trans (congrArg some hr))).1 rfl]
        simp only [Option.bind_some, Bool.false_eq_true, if_false]
        rw [hc.1.r6, Option.bind_some, hc.1.r5, Option.bind_some, hc.1.at11, k1, Option.bind_some, k3.1.r5, Option.bind_some, k3.wWr WA_9 (F := fun f => fW_act u f (nI kd) a b d) ea]
        rfl
      · rw [e2, hr, Option.bind_some]
        unfold fM_isRefused
        simp only [if_true, k2, Option.bind_some, Bool.false_eq_true, if_false]
        rw [eb]
        simp only [Option.bind_some]
        rw [ra1, rb1]
    · rw [hr] at e1 e2
      exact href i hi e1 e2
/-! where there is no store -/
theorem Mf_isStore (u : Nat) {g : mS} (h : g.1 0 9 = nI 0) : fM_isStore u g = some false := by
  unfold fM_isStore
  rw [h]
  rfl
theorem Mf_isSeat (u : Nat) {g : mS} (h : g.1 0 9 = nI 0) (a : Int32) : fM_isSeat u g a = some false := by
  unfold fM_isSeat
  rw [Mf_isStore u h]
  rfl
theorem Mf_isThere (u : Nat) {g : mS} (h : g.1 0 9 = nI 0) (a : Int32) : fM_isThere u g a = some false := by
  unfold fM_isThere
  rw [Mf_isSeat u h]
  rfl
theorem Mf_isKey (u : Nat) {g : mS} (h : g.1 0 9 = nI 0) (a : Int32) : fM_isKey u g a = some false := by
  unfold fM_isKey
  rw [h]
  simp only [izN]
  rw [M_inS u a (b := 0) (by omega), Option.bind_some]
  congr 1
  unfold inR
  exact decide_eq_false (by simp)
section HAND
variable {u : Nat} (hu2 : 40000 ≤ u) {Γ : nx_G} {x A B : Nat} {Dm : nx_M} {g : mS} (hI : INV Γ x A B Dm g)
theorem B_unw {k : Int32} {a b d : Int32} {o : Option (Int32 × mS)} (h : ∃ r Dm' g', fC_tried u Γ Dm x k a b d = some (r, Dm') ∧ o = some (r, g') ∧ INV Γ x A B Dm' g') (hI : INV Γ x A B Dm g) : ∃ r Dm' g', ((gAt Dm x 7 (fC_tried u Γ Dm x k a b d)).bind fun p1 => some (p1.1, p1.2)) = some (r, Dm') ∧ o = some (r, g') ∧ INV Γ x A B Dm' g' := by
  obtain ⟨r, Dm', g', e1, e2, h3⟩ := h
  obtain ⟨c, hc, _⟩ := hI
  refine ⟨r, Dm', g', ?_, e2, h3⟩
  rw [hc.1.at0, e1]
  rfl
theorem B_open (a b : Int32) (hu2 : 40000 ≤ u) (hI : INV Γ x A B Dm g) : ∃ r Dm' g', fC_open u Γ Dm x a b = some (r, Dm') ∧ fM_open u g a b = some (r, g') ∧ INV Γ x A B Dm' g' :=
  B_unw (k := nI 0) (B_tri hu2 (kd := 0) (by omega) a b (iz (-1)) (fun g => fM_whyOpen u g a b) (fun g => fM_openNow u g a b) (fun R D T g0 m0 g h hW => M_whyOpen (by omega) h hW.1 a b _) (fun g h => by unfold fM_whyOpen; rw [Mf_isSeat u h]; rfl) (fun R D T g0 m0 g h hW hr => M_act0 (by omega) h hr) hI) hI
theorem B_openAt (a b d : Int32) (hu2 : 40000 ≤ u) (hI : INV Γ x A B Dm g) : ∃ r Dm' g', fC_openAt u Γ Dm x a b d = some (r, Dm') ∧ fM_openAt u g a b d = some (r, g') ∧ INV Γ x A B Dm' g' :=
  B_unw (k := nI 6) (B_tri hu2 (kd := 6) (by omega) a b d (fun g => fM_whyOpenAt u g a b d) (fun g => fM_openAtNow u g a b d) (fun R D T g0 m0 g h hW => M_whyOpenAt (by omega) h hW.1 a b d) (fun g h => by unfold fM_whyOpenAt; rw [Mf_isSeat u h]; rfl) (fun R D T g0 m0 g h hW hr => M_act6 (by omega) h hr) hI) hI
theorem B_read (a b : Int32) (hu2 : 40000 ≤ u) (hI : INV Γ x A B Dm g) : ∃ r Dm' g', fC_read u Γ Dm x a b = some (r, Dm') ∧ fM_read u g a b = some (r, g') ∧ INV Γ x A B Dm' g' :=
  B_unw (k := nI 1) (B_tri hu2 (kd := 1) (by omega) a b (iz (-1)) (fun g => fM_whyRead u g a b) (fun g => fM_readNow u g a b) (fun R D T g0 m0 g h hW => M_whyRead (by omega) h hW.1 a b _) (fun g h => by unfold fM_whyRead; rw [Mf_isThere u h]; rfl) (fun R D T g0 m0 g h hW hr => M_act1 (by omega) h hW hr) hI) hI
theorem B_write (a b d : Int32) (hu2 : 40000 ≤ u) (hI : INV Γ x A B Dm g) : ∃ r Dm' g', fC_write u Γ Dm x a b d = some (r, Dm') ∧ fM_write u g a b d = some (r, g') ∧ INV Γ x A B Dm' g' :=
  B_unw (k := nI 2) (B_tri hu2 (kd := 2) (by omega) a b d (fun g => fM_whyWrite u g a b d) (fun g => fM_writeNow u g a b d) (fun R D T g0 m0 g h hW => M_whyWrite (by omega) h hW a b d) (fun g h => by unfold fM_whyWrite; rw [Mf_isThere u h]; rfl) (fun R D T g0 m0 g h hW hr => M_act2 (by omega) h hW hr) hI) hI
theorem B_commit (a : Int32) (hu2 : 40000 ≤ u) (hI : INV Γ x A B Dm g) : ∃ r Dm' g', fC_commit u Γ Dm x a = some (r, Dm') ∧ fM_commit u g a = some (r, g') ∧ INV Γ x A B Dm' g' :=
  B_unw (k := nI 3) (B_tri hu2 (kd := 3) (by omega) a (iz (-1)) (iz (-1)) (fun g => fM_whyCommit u g a) (fun g => fM_commitNow u g a) (fun R D T g0 m0 g h hW => M_whyCommit (by omega) h hW.1 a _ _) (fun g h => by unfold fM_whyCommit; rw [Mf_isThere u h]; rfl) (fun R D T g0 m0 g h hW hr => M_act3 (by omega) h hW hr) hI) hI
theorem B_abort (a : Int32) (hu2 : 40000 ≤ u) (hI : INV Γ x A B Dm g) : ∃ r Dm' g', fC_abort u Γ Dm x a = some (r, Dm') ∧ fM_abort u g a = some (r, g') ∧ INV Γ x A B Dm' g' :=
  B_unw (k := nI 4) (B_tri hu2 (kd := 4) (by omega) a (iz (-1)) (iz (-1)) (fun g => fM_whyAbort u g a) (fun g => fM_fall u g a) (fun R D T g0 m0 g h hW => M_whyAbort (by omega) h hW.1 a _ _) (fun g h => by unfold fM_whyAbort; rw [Mf_isThere u h]; rfl) (fun R D T g0 m0 g h hW hr => M_act4 (by omega) h hW hr) hI) hI
theorem B_prune (hu2 : 40000 ≤ u) (hI : INV Γ x A B Dm g) : ∃ r Dm' g', fC_prune u Γ Dm x = some (r, Dm') ∧ fM_prune u g = some (r, g') ∧ INV Γ x A B Dm' g' := by
  have h := B_unw (k := nI 5) (B_tri hu2 (kd := 5) (by omega) (iz (-1)) (iz (-1)) (iz (-1)) (fun g => (fM_isStore u g).bind fun b1 => (if b1 = true then some (iz (-1)) else some (iz 0) : Option Int32)) (fun g => fM_pruneNow u g) (fun R D T g0 m0 g h hW => by
    rw [M_isStore (by omega) h hW.1.1 hW.1.2.1]
    rfl) (fun g h => by
    rw [Mf_isStore u h]
    rfl) (fun R D T g0 m0 g h hW hr => M_act5 (by omega) h hW) hI) hI
  obtain ⟨r, Dm', g', e1, e2, h3⟩ := h
  refine ⟨r, Dm', g', e1, ?_, h3⟩
  rw [← e2]
  unfold fM_prune
  rw [Option.bind_assoc]
end HAND
