/-! ===== acts tried without a trace ===== -/
section QUIET
variable {u : Nat} {Γ : nx_G} {x A B : Nat}
theorem T2 (hu2 : 40000 ≤ u) {Dm : nx_M} {g : mS} {c : CS} {R : ER} {D : Nat → List De} {T : ET} {kd : Nat} (hk : kd < 6) {a b d b' d' : Int32} (er : ∀ T, refT R T kd a b' d' = refT R T kd a b d) (ea : ∀ T, (actT R T kd a b' d').1 = (actT R T kd a b d).1) (eD : ∀ D, actD D kd a b' d' = actD D kd a b d) (hc : CC Γ x A B c Dm) (hb : bas c g) (hst : stoI x c g R D T) : ∃ z Dm' g' c' D' T', fC_triedQuietly u Γ Dm x (nI kd) a b d = some (z, Dm') ∧ fM_tryOne u g (nI kd) a b' d' = some (z, g') ∧ CC Γ x A B c' Dm' ∧ bas c' g' ∧ stoI x c' g' R D' T' ∧ csL c' = csL c ∧ g'.2 = g.2 ∧ csQ c' 0 = csQ c 0 ∧ csN c' = csN c ∧ csS c' = csS c ∧ g'.1 5 = g.1 5 ∧ g'.1 6 = g.1 6 := by
  have hu : 1000 ≤ u := by omega
  have hrm := st2.rm hst hb.2.2.2
  obtain ⟨⟨w0, hw⟩, _, hE⟩ := hst.2.1
  have e1 := W_refusal hu hw hE.1.1 (kd := kd) (by omega) a b d
  have e2 := M_whyNot hu hrm hE.1 hk a b' d'
  rw [er] at e2
  unfold fC_triedQuietly fM_tryOne
  rw [hc.1.r5, Option.bind_some, hc.wRd WA_9, e1, e2]
  simp only [Option.bind_some]
  by_cases hr : refT R T kd a b d = iz (-1)
  · rw [if_pos hr, if_pos hr]
    obtain ⟨c1, D1, g1, k1, k2, k3, k4, k5, k6, k7, k8, k9, k10, k11, k12⟩ := K2 hu2 hc hb hst
    have hrm1 := st2.rm k5 k4.2.2.2
    obtain ⟨⟨w1, hw1⟩, _, _⟩ := k5.2.1
    obtain ⟨ra, eA, ra1, ra2⟩ := W_act hu hw1 hE.1 (kd := kd) (by omega) hr
    obtain ⟨rb, eb, rb2⟩ := M_doNow hu hrm1 hE.1 hk ((er T).trans hr)
    rw [ea, eD] at rb2
    have h15 : rb.1 0 15 = nI 0 := (rb2.1.2.1 15 (by omega)).trans k4.2.2.2
    obtain ⟨q1, q2, q3⟩ := stoI.act k3 k4 k5 ⟨w1, ra2⟩ rb2.1.mE h15 rb2.2.2.2 (hE.act (kd := kd) (by omega) hr)
    have hf : g.1 0 15 = iz 0 := hb.2.2.2
    rw [if_pos hf, k2]
    simp only [Option.bind_some]
    rw [eb, hc.1.r6, Option.bind_some, Option.bind_some, hc.1.at11, k1, Option.bind_some, k3.1.r5, Option.bind_some, k3.wWr WA_9 (F := fun f => fW_act u f (nI kd) a b d) eA]
    exact ⟨true, _, rb, _, _, _, rfl, rfl, q1, q2, q3, k6, rb2.1.2.2.trans k7, k8, k9, k10, (rb2.1.1 5 (by omega) (by omega)).trans k11, (rb2.1.1 6 (by omega) (by omega)).trans k12⟩
  · rw [if_neg hr, if_neg hr]
    exact ⟨false, Dm, g, c, D, T, rfl, rfl, hc, hb, hst, rfl, rfl, rfl, rfl, rfl, rfl, rfl⟩
/-! ===== years ===== -/
def dnx (l : Int64) : Int64 := l * (6364136223846793005 : Int64) + (1442695040888963407 : Int64)
def dvA (l : Int64) : Int64 := (l.toUInt64 >>> ((iz 33).toInt64.toUInt64 &&& Int64.toUInt64 63)).toInt64
def dv (l : Int64) (b : Nat) : Int32 := (dvA l - dvA l / (nI b).toInt64 * (nI b).toInt64).toInt32
theorem rml_n (l : Int64) {b : Nat} (h0 : 0 < b) (hb : b < 1000) : nx_rml (dvA l) (nI b).toInt64 = some (dvA l - dvA l / (nI b).toInt64 * (nI b).toInt64) := by
  unfold nx_rml
  rw [if_neg]
  intro h
  have h2 := congrArg Int64.toInt h
  rw [nI_l (by omega), lN_toInt (by omega)] at h2
  have h3 : (0 : Int64).toInt = 0 := by decide +kernel
  rw [h3] at h2
  omega
theorem cL_q {c : CS} {v : Int64} : csQ (cL' c v) = csQ c := rfl
theorem cL_p {c : CS} {v : Int64} : csP (cL' c v) = csP c := rfl
theorem cL_i {c : CS} {v : Int64} : csI (cL' c v) = csI c := rfl
theorem cL_l {c : CS} {v : Int64} : csL (cL' c v) = v := rfl
theorem mFl_2 {g : mS} {v : Int64} : (mFl g v).2 = v := rfl
theorem bas.cl {c : CS} {g : mS} (h : bas c g) (v l : Int64) : bas (cL' c v) (mFl g l) := h
theorem stoI.cl {c : CS} {g : mS} {R : ER} {D : Nat → List De} {T : ET} (h : stoI x c g R D T) (v l : Int64) : stoI x (cL' c v) (mFl g l) R D T := h
theorem R_next {Dm : nx_M} {c : CS} (hc : CC Γ x A B c Dm) {b : Nat} (h0 : 0 < b) (hb : b < 1000) : ∃ D', fR_next u Γ Dm (x + 17) (nI b) = some (dv (dnx (csL c)) b, D') ∧ CC Γ x A B (cL' c (dnx (csL c))) D' := by
  obtain ⟨D', e, hm, hd⟩ := hc.1.pl (dnx (csL c))
  have hc' := hc.same hm cL_q cL_p (congrFun cL_i 6) hd
  refine ⟨D', ?_, hc'⟩
  unfold fR_next
  rw [hc.1.dl, Option.bind_some]
  show ((gPut Dm (x + 17) 1 0 (.long (dnx (csL c)))).bind _) = _
  rw [e, Option.bind_some, if_neg (by simp only [izN]; rw [leI (by omega) (by omega)]; omega), hc'.1.dl, Option.bind_some]
  show ((nx_rml (dvA (dnx (csL c))) (nI b).toInt64).bind _) = _
  rw [rml_n _ h0 hb]
  rfl
theorem M_draw (g : mS) {b : Nat} (h0 : 0 < b) (hb : b < 1000) : fM_draw u g (nI b) = some (dv (dnx g.2) b, mFl g (dnx g.2)) := by
  unfold fM_draw
  rw [Option.bind_some]
  show ((nx_rml (dvA (dnx g.2)) (nI b).toInt64).bind _) = _
  rw [rml_n _ h0 hb]
  rfl
theorem lt_le {a : Nat} (h : a < 1000) (v : Int32) : (nI a < v) ↔ (nI (a + 1) ≤ v) := by
  rw [Int32.lt_iff_toInt_lt, Int32.le_iff_toInt_le, toI (by omega), toI (by omega)]
  omega
theorem rf_0 {R : ER} {T : ET} {a b d d' : Int32} : refT R T 0 a b d' = refT R T 0 a b d := by simp [refT]
theorem rf_1 {R : ER} {T : ET} {a b d d' : Int32} : refT R T 1 a b d' = refT R T 1 a b d := by simp [refT]
theorem rf_3 {R : ER} {T : ET} {a b b' d d' : Int32} : refT R T 3 a b' d' = refT R T 3 a b d := by simp [refT]
theorem rf_4 {R : ER} {T : ET} {a b b' d d' : Int32} : refT R T 4 a b' d' = refT R T 4 a b d := by simp [refT]
theorem at_0 {R : ER} {T : ET} {a b d d' : Int32} : (actT R T 0 a b d').1 = (actT R T 0 a b d).1 := by simp [actT]
theorem at_1 {R : ER} {T : ET} {a b d d' : Int32} : (actT R T 1 a b d').1 = (actT R T 1 a b d).1 := by simp [actT]
theorem at_3 {R : ER} {T : ET} {a b b' d d' : Int32} : (actT R T 3 a b' d').1 = (actT R T 3 a b d).1 := by simp [actT]
theorem at_4 {R : ER} {T : ET} {a b b' d d' : Int32} : (actT R T 4 a b' d').1 = (actT R T 4 a b d).1 := by simp [actT]
theorem ad_0 {D : Nat → List De} {a b d d' : Int32} : actD D 0 a b d' = actD D 0 a b d := by simp [actD]
theorem ad_1 {D : Nat → List De} {a b d d' : Int32} : actD D 1 a b d' = actD D 1 a b d := by simp [actD]
theorem ad_3 {D : Nat → List De} {a b b' d d' : Int32} : actD D 3 a b' d' = actD D 3 a b d := by simp [actD]
theorem ad_4 {D : Nat → List De} {a b b' d d' : Int32} : actD D 4 a b' d' = actD D 4 a b d := by simp [actD]
def YI (Γ : nx_G) (x A B : Nat) (R : ER) (Dm : nx_M) (g : mS) : Prop := ∃ c D T, CC Γ x A B c Dm ∧ bas c g ∧ stoI x c g R D T ∧ csL c = g.2
section YEAR
variable {D2 : nx_M} {g2 : mS} {c2 : CS} {R : ER} {D : Nat → List De} {T : ET}
theorem Y_keys (h2 : CC Γ x A B c2 D2) (hs2 : stoI x c2 g2 R D T) : wRd Γ D2 (x + 9) (fun f => fW_keys u f) = some (nI R.1) := by
  obtain ⟨⟨w0, hw⟩, _, _⟩ := hs2.2.1
  rw [h2.wRd WA_9]
  unfold fW_keys
  simp (disch := omega) only [izN, nI_add, mulI, rdW, wrW, Option.bind_some, hw.r3]
theorem Y_o (hu2 : 40000 ≤ u) (h2 : CC Γ x A B c2 D2) (hb2 : bas c2 g2) (hs2 : stoI x c2 g2 R D T) (hl2 : csL c2 = g2.2) (v2 : Int32) : ∃ Dm' g', ((gR D2 x 7 10).bind fun q19 => (gAt D2 q19 1 (fR_next u Γ D2 q19 (nI 2))).bind fun p20 => (gAt p20.2 x 7 (fC_triedQuietly u Γ p20.2 x (nI 0) v2 p20.1 (iz (-1)))).bind fun p21 => some p21.2) = some Dm' ∧ ((fM_draw u g2 (nI 2)).bind fun p10 => (fM_tryOne u p10.2 (nI 0) v2 p10.1 (nI 0)).bind fun p11 => some p11.2) = some g' ∧ YI Γ x A B R Dm' g' := by
  obtain ⟨D3, e3, h3⟩ := R_next (u := u) h2 (b := 2) (by omega) (by omega)
  have m3 := M_draw (u := u) g2 (b := 2) (by omega) (by omega)
  rw [hl2] at e3 h3
  generalize dv (dnx g2.2) 2 = v3 at e3 m3
  generalize dnx g2.2 = l3 at h3 m3
  obtain ⟨z, Dm', g', c', D', T', t1, t2, t3, t4, t5, t6, t7, _⟩ := T2 hu2 (kd := 0) (a := v2) (b := v3) (d := iz (-1)) (b' := v3) (d' := nI 0) (by omega) (fun _ => rf_0) (fun _ => at_0) (fun _ => ad_0) h3 (hb2.cl l3 l3) (hs2.cl l3 l3)
  refine ⟨Dm', g', ?_, ?_, c', D', T', t3, t4, t5, ?_⟩
  · rw [h2.1.r10, Option.bind_some, h2.1.at17, e3, Option.bind_some, h3.1.at0, t1, Option.bind_some]
  · rw [m3, Option.bind_some, t2, Option.bind_some]
  · rw [t6, t7, cL_l, mFl_2]
theorem Y_ca (hu2 : 40000 ≤ u) (h2 : CC Γ x A B c2 D2) (hb2 : bas c2 g2) (hs2 : stoI x c2 g2 R D T) (hl2 : csL c2 = g2.2) (v2 : Int32) (kd : Nat) (hkd : kd = 3 ∨ kd = 4) : ∃ Dm' g', ((gAt D2 x 7 (fC_triedQuietly u Γ D2 x (nI kd) v2 (iz (-1)) (iz (-1)))).bind fun p6 => some p6.2) = some Dm' ∧ ((fM_tryOne u g2 (nI kd) v2 (nI 0) (nI 0)).bind fun p4 => some p4.2) = some g' ∧ YI Γ x A B R Dm' g' := by
  obtain ⟨z, Dm', g', c', D', T', t1, t2, t3, t4, t5, t6, t7, _⟩ := T2 hu2 (kd := kd) (a := v2) (b := iz (-1)) (d := iz (-1)) (b' := nI 0) (d' := nI 0) (by omega) (fun _ => by rcases hkd with rfl | rfl; exact rf_3; exact rf_4) (fun _ => by rcases hkd with rfl | rfl; exact at_3; exact at_4) (fun _ => by rcases hkd with rfl | rfl; exact ad_3; exact ad_4) h2 hb2 hs2
  refine ⟨Dm', g', ?_, ?_, c', D', T', t3, t4, t5, ?_⟩
  · rw [h2.1.at0, t1, Option.bind_some]
  · rw [t2, Option.bind_some]
  · rw [t6, t7, hl2]
theorem Y_w (hu2 : 40000 ≤ u) (h2 : CC Γ x A B c2 D2) (hb2 : bas c2 g2) (hs2 : stoI x c2 g2 R D T) (hl2 : csL c2 = g2.2) (hk1 : 1 ≤ R.1) (hk6 : R.1 ≤ 6) (v2 : Int32) : ∃ Dm' g', ((gR D2 x 7 10).bind fun q7 => (gR D2 x 7 5).bind fun q8 => (wRd Γ D2 q8 (fun f => fW_keys u f)).bind fun x9 => (gAt D2 q7 1 (fR_next u Γ D2 q7 x9)).bind fun p10 => (gR p10.2 x 7 10).bind fun q11 => (gAt p10.2 q11 1 (fR_next u Γ p10.2 q11 (nI 100))).bind fun p12 => (gAt p12.2 x 7 (fC_triedQuietly u Γ p12.2 x (nI 2) v2 p10.1 p12.1)).bind fun p13 => some p13.2) = some Dm' ∧ ((fM_draw u g2 (g2.1 0 9)).bind fun p5 => (fM_draw u p5.2 (nI 100)).bind fun p6 => (fM_tryOne u p6.2 (nI 2) v2 p5.1 p6.1).bind fun p7 => some p7.2) = some g' ∧ YI Γ x A B R Dm' g' := by
  have hk9 : g2.1 0 9 = nI R.1 := hs2.1.1
  obtain ⟨D3, e3, h3⟩ := R_next (u := u) h2 (b := R.1) (by omega) (by omega)
  have m3 := M_draw (u := u) g2 (b := R.1) (by omega) (by omega)
  rw [hl2] at e3 h3
  generalize dv (dnx g2.2) R.1 = v3 at e3 m3
  generalize dnx g2.2 = l3 at h3 m3
  obtain ⟨D4, e4, h4⟩ := R_next (u := u) h3 (b := 100) (by omega) (by omega)
  have m4 := M_draw (u := u) (mFl g2 l3) (b := 100) (by omega) (by omega)
  rw [cL_l] at e4 h4
  rw [mFl_2] at m4
  generalize dv (dnx l3) 100 = v4 at e4 m4
  generalize dnx l3 = l4 at h4 m4
  obtain ⟨z, Dm', g', c', D', T', t1, t2, t3, t4, t5, t6, t7, _⟩ := T2 hu2 (kd := 2) (a := v2) (b := v3) (d := v4) (b' := v3) (d' := v4) (by omega) (fun _ => Eq.refl _) (fun _ => Eq.refl _) (fun _ => Eq.refl _) h4 ((hb2.cl l3 l3).cl l4 l4) ((hs2.cl l3 l3).cl l4 l4)
  refine ⟨Dm', g', ?_, ?_, c', D', T', t3, t4, t5, ?_⟩
  · rw [h2.1.r10, Option.bind_some, h2.1.r5, Option.bind_some, Y_keys h2 hs2, Option.bind_some, h2.1.at17, e3, Option.bind_some, h3.1.r10, Option.bind_some, h3.1.at17, e4, Option.bind_some, h4.1.at0, t1, Option.bind_some]
  · rw [hk9, m3, Option.bind_some, m4, Option.bind_some, t2, Option.bind_some]
  · rw [t6, t7, cL_l, mFl_2]
theorem Y_r (hu2 : 40000 ≤ u) (h2 : CC Γ x A B c2 D2) (hb2 : bas c2 g2) (hs2 : stoI x c2 g2 R D T) (hl2 : csL c2 = g2.2) (hk1 : 1 ≤ R.1) (hk6 : R.1 ≤ 6) (v2 : Int32) : ∃ Dm' g', ((gR D2 x 7 10).bind fun q14 => (gR D2 x 7 5).bind fun q15 => (wRd Γ D2 q15 (fun f => fW_keys u f)).bind fun x16 => (gAt D2 q14 1 (fR_next u Γ D2 q14 x16)).bind fun p17 => (gAt p17.2 x 7 (fC_triedQuietly u Γ p17.2 x (nI 1) v2 p17.1 (iz (-1)))).bind fun p18 => some p18.2) = some Dm' ∧ ((fM_draw u g2 (g2.1 0 9)).bind fun p8 => (fM_tryOne u p8.2 (nI 1) v2 p8.1 (nI 0)).bind fun p9 => some p9.2) = some g' ∧ YI Γ x A B R Dm' g' := by
  have hk9 : g2.1 0 9 = nI R.1 := hs2.1.1
  obtain ⟨D3, e3, h3⟩ := R_next (u := u) h2 (b := R.1) (by omega) (by omega)
  have m3 := M_draw (u := u) g2 (b := R.1) (by omega) (by omega)
  rw [hl2] at e3 h3
  generalize dv (dnx g2.2) R.1 = v3 at e3 m3
  generalize dnx g2.2 = l3 at h3 m3
  obtain ⟨z, Dm', g', c', D', T', t1, t2, t3, t4, t5, t6, t7, _⟩ := T2 hu2 (kd := 1) (a := v2) (b := v3) (d := iz (-1)) (b' := v3) (d' := nI 0) (by omega) (fun _ => rf_1) (fun _ => at_1) (fun _ => ad_1) h3 (hb2.cl l3 l3) (hs2.cl l3 l3)
  refine ⟨Dm', g', ?_, ?_, c', D', T', t3, t4, t5, ?_⟩
  · rw [h2.1.r10, Option.bind_some, h2.1.r5, Option.bind_some, Y_keys h2 hs2, Option.bind_some, h2.1.at17, e3, Option.bind_some, h3.1.at0, t1, Option.bind_some]
  · rw [hk9, m3, Option.bind_some, t2, Option.bind_some]
  · rw [t6, t7, cL_l, mFl_2]
end YEAR
theorem Y1 (hu2 : 40000 ≤ u) {Dm : nx_M} {g : mS} {R : ER} (h : YI Γ x A B R Dm g) : ∃ Dm' g', fC_oneYear u Γ Dm x = some Dm' ∧ fM_drawYear u g = some g' ∧ YI Γ x A B R Dm' g' := by
  obtain ⟨c, D, T, hc, hb, hst, hl⟩ := h
  have hE := hst.2.1.2.2
  have hk1 := hE.1.1.1
  have hk6 := hE.1.1.2.1
  obtain ⟨D1, e1, h1⟩ := R_next (u := u) hc (b := 8) (by omega) (by omega)
  have m1 := M_draw (u := u) g (b := 8) (by omega) (by omega)
  rw [hl] at e1 h1
  generalize dv (dnx g.2) 8 = v1 at e1 m1
  generalize dnx g.2 = l1 at h1 m1
  obtain ⟨D2, e2, h2⟩ := R_next (u := u) h1 (b := 8) (by omega) (by omega)
  have m2 := M_draw (u := u) (mFl g l1) (b := 8) (by omega) (by omega)
  rw [cL_l] at e2 h2
  rw [mFl_2] at m2
  generalize dv (dnx l1) 8 = v2 at e2 m2
  generalize dnx l1 = l2 at h2 m2
  have hb2 := (hb.cl l1 l1).cl l2 l2
  have hs2 := (hst.cl l1 l1).cl l2 l2
  have hl2 : csL (cL' (cL' c l1) l2) = (mFl (mFl g l1) l2).2 := by rw [cL_l, mFl_2]
  generalize cL' (cL' c l1) l2 = c2 at h2 hb2 hs2 hl2
  generalize mFl (mFl g l1) l2 = g2 at m2 hb2 hs2 hl2
  unfold fC_oneYear fM_drawYear
  simp only [izN]
  rw [hc.1.r10, Option.bind_some, hc.1.at17, e1, Option.bind_some, h1.1.r10, Option.bind_some, h1.1.at17, e2, Option.bind_some, m1, Option.bind_some, m2, Option.bind_some]
  by_cases c0 : v1 = nI 0
  · rw [if_pos c0, if_pos c0]
    exact Y_o hu2 h2 hb2 hs2 hl2 v2
  · rw [if_neg c0, if_neg c0]
    by_cases c2' : nI 2 < v1
    · rw [if_pos c2', if_pos ((lt_le (by omega) v1).mp c2')]
      by_cases c4 : nI 4 < v1
      · rw [if_pos c4, if_pos ((lt_le (by omega) v1).mp c4)]
        by_cases c6 : nI 6 < v1
        · rw [if_pos c6, if_pos ((lt_le (by omega) v1).mp c6)]
          exact Y_ca hu2 h2 hb2 hs2 hl2 v2 4 (by omega)
        · rw [if_neg c6, if_neg (fun hh => c6 ((lt_le (by omega) v1).mpr hh))]
          exact Y_ca hu2 h2 hb2 hs2 hl2 v2 3 (by omega)
      · rw [if_neg c4, if_neg (fun hh => c4 ((lt_le (by omega) v1).mpr hh))]
        exact Y_w hu2 h2 hb2 hs2 hl2 hk1 hk6 v2
    · rw [if_neg c2', if_neg (fun hh => c2' ((lt_le (by omega) v1).mpr hh))]
      exact Y_r hu2 h2 hb2 hs2 hl2 hk1 hk6 v2
theorem YN (hu2 : 40000 ≤ u) {R : ER} {m : Nat} (hm : m ≤ 40) : ∀ (n : Nat) {i : Nat} {Dm : nx_M} {g : mS}, i + n = m → YI Γ x A B R Dm g → ∃ Dm' g', (∀ v, n < v → nx_iter v (fC_years_34 u Γ x (nI m)) (nI i, Dm) = some Dm') ∧ (∀ v, n < v → nx_iter v (fM_years_27 u (nI m)) (nI i, g) = some g') ∧ YI Γ x A B R Dm' g' := by
  intro n
  induction n with
  | zero =>
    intro i Dm g hi h
    refine ⟨Dm, g, fun v hv => it_end ?_ (by omega), fun v hv => it_end ?_ (by omega), h⟩
    · unfold fC_years_34
      simp (disch := omega) only [leI]
      rw [if_pos (by omega)]
    · unfold fM_years_27
      simp (disch := omega) only [leI]
      rw [if_pos (by omega)]
  | succ n ih =>
    intro i Dm g hi h
    obtain ⟨D1, g1, e1, e2, h1⟩ := Y1 hu2 h
    obtain ⟨Dm', g', f1, f2, h2⟩ := ih (i := i + 1) (by omega) h1
    obtain ⟨c, D, T, hc, _⟩ := h
    refine ⟨Dm', g', fun v hv => ?_, fun v hv => ?_, h2⟩
    · obtain ⟨w, rfl⟩ : ∃ w, v = w + 1 := ⟨v - 1, by omega⟩
      rw [it_on (s' := (nI (i + 1), D1))]
      · exact f1 w (by omega)
      · unfold fC_years_34
        simp (disch := omega) only [leI, izN, nI_add, hc.1.at0, e1, Option.bind_some]
        rw [if_neg (by omega)]
    · obtain ⟨w, rfl⟩ : ∃ w, v = w + 1 := ⟨v - 1, by omega⟩
      rw [it_on (s' := (nI (i + 1), g1))]
      · exact f2 w (by omega)
      · unfold fM_years_27
        simp (disch := omega) only [leI, izN, nI_add, e2, Option.bind_some]
        rw [if_neg (by omega)]
theorem in140 (u : Nat) (a : Int32) : fM_in u a (nI 1) (nI 40) = some (decide (¬ a < nI 1 ∧ a ≤ nI 40)) := by
  unfold fM_in
  by_cases c1 : a < nI 1
  · rw [if_pos c1]; simp [c1]
  · rw [if_neg c1]
    by_cases c2 : a ≤ nI 40
    · rw [if_neg (by rw [ltN]; exact fun hh => hh c2)]; simp [c1, c2]
    · rw [if_pos (by rw [ltN]; exact c2)]; simp [c2]
theorem B_years (hu2 : 40000 ≤ u) {Dm : nx_M} {g : mS} (hI : INV Γ x A B Dm g) (a : Int32) (l : Int64) : ∃ r Dm' g', fC_years u Γ Dm x a l = some (r, Dm') ∧ fM_years u g a l = some (r, g') ∧ INV Γ x A B Dm' g' := by
  have hu : 1000 ≤ u := by omega
  obtain ⟨c, hc, hb, hs⟩ := hI
  rcases hs with hf | ⟨R, D, T, hst⟩
  · refine ⟨iz (-1), Dm, g, ?_, ?_, c, hc, hb, Or.inl hf⟩
    · unfold fC_years
      rw [hc.1.r5, Option.bind_some, hc.wRd WA_9, hf.1, Wf_hasStore]
      rfl
    · unfold fM_years
      rw [Mf_isStore u hf.2.1]
      rfl
  · have hrm := st2.rm hst hb.2.2.2
    obtain ⟨⟨w0, hw⟩, hm, hE⟩ := hst.2.1
    unfold fC_years fM_years
    simp only [hc.1.r5, Option.bind_some, hc.wRd WA_9, W_hasStore hu hw hE.1.1, M_isStore hu hrm hE.1.1.1 hE.1.1.2.1, if_true, izN, in140]
    by_cases c1 : a < nI 1
    · rw [if_pos c1, if_neg (by simp [c1])]
      exact ⟨iz (-1), Dm, g, rfl, rfl, c, hc, hb, Or.inr ⟨R, D, T, hst⟩⟩
    · rw [if_neg c1]
      by_cases c2 : a ≤ nI 40
      · rw [if_pos c2, if_pos (by simp [c1, c2])]
        obtain ⟨n, hn, rfl⟩ := inR_of (x := a) (b := 41) (by
          unfold inR
          rw [Int32.lt_iff_toInt_lt, toI (by omega)] at c1
          rw [Int32.le_iff_toInt_le, toI (by omega)] at c2
          rw [decide_eq_true_eq]
          omega)
        obtain ⟨D1, e1, hm1, hd1⟩ := hc.1.pl l
        have hc1 := hc.same hm1 cL_q cL_p (congrFun cL_i 6) hd1
        have h1 : YI Γ x A B R D1 (mFl g l) := ⟨cL' c l, D, T, hc1, hb.cl _ _, hst.cl _ _, rfl⟩
        obtain ⟨Dm', g', f1, f2, c', D', T', q1, q2, q3, q4⟩ := YN hu2 (m := n) (by omega) n (i := 0) (by omega) h1
        rw [hc.1.r10, Option.bind_some, hc.1.at17]
        unfold fR_begin
        rw [e1, Option.bind_some, Option.bind_some, f1 u (by omega), f2 u (by omega)]
        obtain ⟨⟨w1, hw1⟩, hm2, hE2⟩ := q3.2.1
        simp (disch := omega) only [Option.bind_some, q1.1.r5, q1.wRd WA_9, rdM]
        unfold fW_clock
        simp (disch := omega) only [izN, nI_add, mulI, rdW, wrW, Option.bind_some, hw1.cc, hm2.cc]
        exact ⟨_, Dm', g', rfl, rfl, c', q1, q2, Or.inr ⟨R, D', T', q3⟩⟩
      · rw [if_neg c2, if_neg (by simp [c2])]
        exact ⟨iz (-1), Dm, g, rfl, rfl, c, hc, hb, Or.inr ⟨R, D, T, hst⟩⟩
/-! ===== perform ===== -/
theorem PN (hu2 : 40000 ≤ u) {R : ER} {k ad m : Nat} (hm : m ≤ 16) (hk4 : k < 4) : ∀ (n : Nat) {i : Nat} {Dm : nx_M} {g : mS} {c : CS} {D : Nat → List De} {T : ET}, i + n = m → CC Γ x A B c Dm → bas c g → stoI x c g R D T → csQ c 0 k = some ad → csN c ad = nI m → g.1 6 k = nI m → (∀ i, i < m → (∃ kd, kd < 6 ∧ csS c ad (4 * i) = nI kd) ∧ ∀ w, w < 4 → csS c ad (4 * i + w) = g.1 5 (64 * k + 4 * i + w)) → ∃ j Dm' g' c' D' T', (∀ v, n < v → nx_iter v (fC_perform_27 u Γ x (some ad)) (nI i, nI i, Dm) = some (nI j, Dm')) ∧ (∀ v, n < v → nx_iter v (fM_goSteps_2 u (nI k)) (nI i, g) = some (nI j, g')) ∧ CC Γ x A B c' Dm' ∧ bas c' g' ∧ stoI x c' g' R D' T' := by
  intro n
  induction n with
  | zero =>
    intro i Dm g c D T hi hc hb hst q1 q2 q3 q4
    have hsA : isSA c ad := Or.inr ⟨k, hk4, q1⟩
    refine ⟨i, Dm, g, c, D, T, fun v hv => it_end ?_ (by omega), fun v hv => it_end ?_ (by omega), hc, hb, hst⟩
    · unfold fC_perform_27
      simp (disch := omega) only [Option.bind_some, hc.1.sn hsA, q2, leI]
      rw [if_pos (by omega)]
    · unfold fM_goSteps_2
      simp (disch := omega) only [rd6, Option.bind_some, q3, leI]
      rw [if_pos (by omega)]
  | succ n ih =>
    intro i Dm g c D T hi hc hb hst q1 q2 q3 q4
    have hsA : isSA c ad := Or.inr ⟨k, hk4, q1⟩
    obtain ⟨⟨kd, hkd, ekd⟩, hw⟩ := q4 i (by omega)
    have w0 := hw 0 (by omega)
    have w1 := hw 1 (by omega)
    have w2 := hw 2 (by omega)
    have w3 := hw 3 (by omega)
    have ekd0 : csS c ad (4 * i + 0) = nI kd := ekd
    obtain ⟨z, D1, g1, c1, D', T', t1, t2, t3, t4, t5, t6, t7, t8, t9, t10, t11, t12⟩ := T2 hu2 (kd := kd) (a := csS c ad (4 * i + 1)) (b := csS c ad (4 * i + 2)) (d := csS c ad (4 * i + 3)) (b' := csS c ad (4 * i + 2)) (d' := csS c ad (4 * i + 3)) hkd (fun _ => rfl) (fun _ => rfl) (fun _ => rfl) hc hb hst
    have hdo : fM_doStep u g (nI k) (nI i) = some (z, g1) := by
      unfold fM_doStep
      simp (disch := omega) only [izN, mulI, nI_add, rd5, Option.bind_some]
      rw [show 4 * (16 * k + i) = 64 * k + 4 * i + 0 by omega, ← w0, ekd0, show 64 * k + 4 * i + 0 + 1 = 64 * k + 4 * i + 1 by omega, ← w1, show 64 * k + 4 * i + 0 + 2 = 64 * k + 4 * i + 2 by omega, ← w2, show 64 * k + 4 * i + 0 + 3 = 64 * k + 4 * i + 3 by omega, ← w3, t2]
      rfl
    cases z with
    | false =>
      refine ⟨i, D1, g1, c1, D', T', fun v hv => it_end ?_ (by omega), fun v hv => it_end ?_ (by omega), t3, t4, t5⟩
      · unfold fC_perform_27
        simp (disch := omega) only [Option.bind_some, hc.1.sn hsA, q2, leI, izN, hc.sRd hsA, S_part, hc.1.at0]
        rw [if_neg (by omega), ekd0, t1]
        rfl
      · unfold fM_goSteps_2
        simp (disch := omega) only [rd6, Option.bind_some, q3, leI]
        rw [if_neg (by omega), hdo]
        rfl
    | true =>
      obtain ⟨j, Dm', g', c', D'', T'', f1, f2, f3, f4, f5⟩ := ih (i := i + 1) (by omega) t3 t4 t5 (by rw [t8]; exact q1) (by rw [t9]; exact q2) (by rw [t12]; exact q3) (by rw [t10, t11]; exact q4)
      refine ⟨j, Dm', g', c', D'', T'', fun v hv => ?_, fun v hv => ?_, f3, f4, f5⟩
      · obtain ⟨w, rfl⟩ : ∃ w, v = w + 1 := ⟨v - 1, by omega⟩
        rw [it_on (s' := (nI (i + 1), nI (i + 1), D1))]
        · exact f1 w (by omega)
        · unfold fC_perform_27
          simp (disch := omega) only [Option.bind_some, hc.1.sn hsA, q2, leI, izN, hc.sRd hsA, S_part, hc.1.at0]
          rw [if_neg (by omega), ekd0, t1]
          simp only [Option.bind_some, if_true, nI_add]
      · obtain ⟨w, rfl⟩ : ∃ w, v = w + 1 := ⟨v - 1, by omega⟩
        rw [it_on (s' := (nI (i + 1), g1))]
        · exact f2 w (by omega)
        · unfold fM_goSteps_2
          simp (disch := omega) only [rd6, Option.bind_some, q3, leI, izN]
          rw [if_neg (by omega), hdo]
          simp only [Option.bind_some, if_true, nI_add]
theorem B_perform (hu2 : 40000 ≤ u) {Dm : nx_M} {g : mS} (hI : INV Γ x A B Dm g) (a : Int32) : ∃ r Dm' g', fC_perform u Γ Dm x a = some (r, Dm') ∧ fM_perform u g a = some (r, g') ∧ INV Γ x A B Dm' g' := by
  have hu : 1000 ≤ u := by omega
  obtain ⟨c, hc, hb, hs⟩ := hI
  obtain ⟨n, s1, s2, s3, s4⟩ := hb.2.1
  have hsa := C_scriptAt (u := u) hc s1 s2 a
  unfold fC_perform fM_perform
  rw [M_isScript s1 s3, hc.1.at0]
  by_cases ca : inR a n = true
  · obtain ⟨k, hk, rfl⟩ := inR_of ca
    obtain ⟨ad, m, q1, q2, q3, q4, q5⟩ := s4 k hk
    rw [hsa.2 k hk, q1, ca]
    simp only [Option.bind_some, if_true, hc.1.r5, hc.wRd WA_9]
    rw [if_neg (by simp)]
    rcases hs with hf | ⟨R, D, T, hst⟩
    · rw [hf.1, Wf_hasStore, Mf_isStore u hf.2.1]
      exact ⟨iz (-1), Dm, g, rfl, rfl, c, hc, hb, Or.inl hf⟩
    · have hrm := st2.rm hst hb.2.2.2
      obtain ⟨⟨w0, hw⟩, hm, hE⟩ := hst.2.1
      rw [W_hasStore hu hw hE.1.1, M_isStore hu hrm hE.1.1.1 hE.1.1.2.1]
      obtain ⟨j, Dm', g', c', D', T', f1, f2, f3, f4, f5⟩ := PN hu2 (k := k) (ad := ad) q2 (by omega) m (i := 0) (by omega) hc hb hst q1 q3 q4 q5
      unfold fM_goSteps
      simp only [Option.bind_some, if_true, izN]
      rw [f1 u (by omega), f2 u (by omega)]
      exact ⟨nI j, Dm', g', rfl, rfl, c', f3, f4, Or.inr ⟨R, D', T', f5⟩⟩
  · have ca : inR a n = false := by simpa using ca
    rw [hsa.1 ca, ca]
    exact ⟨iz (-1), Dm, g, rfl, rfl, c, hc, hb, hs⟩
end QUIET
