/-! ===== retries, run ===== -/
theorem RM.re {g0 : mS} {R : ER} {m0 : Int32} {tr : Option (Nat → Int32)} {D : Nat → List De} {g : mS} {T : ET} (h : RM g0 R m0 tr D g T) : RM g R m0 tr D g T := ⟨frM.rf, ⟨h.kk, h.most, h.prun, h.strd, h.trial⟩, h.2.2.1, h.2.2.2⟩
theorem i1_0 : ¬ (iz 1 = iz 0) := by decide +kernel
/-- an act tried in a trial -/
theorem M_tryT {u : Nat} (hu : 1000 ≤ u) {g0 : mS} {R : ER} {m0 : Int32} {h0 : Nat → Int32} {D : Nat → List De} {g : mS} {T : ET} (h : RM g0 R m0 (some h0) D g T) (hW : WF R T) {kd : Nat} (hk : kd < 6) (a b d : Int32) : (refT R T kd a b d ≠ iz (-1) → fM_tryOne u g (nI kd) a b d = some (false, g)) ∧ (refT R T kd a b d = iz (-1) → ∃ g', fM_tryOne u g (nI kd) a b d = some (true, g') ∧ RM g0 R m0 (some h0) (actD D kd a b d) g' (actT R T kd a b d).1) := by
  unfold fM_tryOne
  rw [M_whyNot hu h hW hk a b d, Option.bind_some]
  constructor
  · intro hr
    rw [if_neg hr]
  · intro hr
    have ht : g.1 0 15 = iz 1 := h.trial
    rw [if_pos hr, ht, if_neg i1_0, Option.bind_some]
    obtain ⟨g', e, h'⟩ := M_doNow hu h hW hk hr
    rw [e]
    exact ⟨g', rfl, h'⟩
section RETR
variable {u : Nat} {Γ : nx_G} {x A B : Nat}
theorem W_state {R : ER} {w0 : Int32} {D : Nat → List De} {f : Nat → Int32} {T : ET} (h : RW R w0 D f T) {s : Nat} (hs : s < 8) : fW_stateOf u f (nI s) = some (tSd T 0 s) := by
  unfold fW_stateOf
  simp (disch := omega) only [izN, nI_add, mulI, rdW, wrW, Option.bind_some, h.st]
theorem retN (hu : 1000 ≤ u) {R : ER} {s a0 : Nat} (hs8 : s < 8) {h0 : Nat → Int32} : ∀ (n : Nat) {i : Nat} {c : CS} {Dm : nx_M} {g0 g : mS} {m0 w0 : Int32} {D : Nat → List De} {T : ET}, i + n = 10 → 1 ≤ i → CC Γ x A B c Dm → csQ c 2 0 = some a0 → RW R w0 D (csW c a0) T → RM g0 R m0 (some h0) D g T → EI R D T → tSd T 0 s = nI 4 → ∃ z r c' Dm' mm g' T', (∀ v, n < v → nx_iter v (fA_retriesOf_9 u Γ (nI s) a0) (nI i, Dm) = some z) ∧ Sum.elim (fun e => some (iz (-1), e)) (fun r0 => some r0) z = some (r, Dm') ∧ CC Γ x A B c' Dm' ∧ cK x c c' ∧ (∀ v, n < v → nx_iter v (fM_retries_27 u (nI s)) (nI (i - 1), g) = some (nI mm, g')) ∧ fM_of u g' (nI s) (nI 0) = some (tSd T' 0 s) ∧ r = (if tSd T' 0 s = nI 4 then iz (-1) else nI mm) ∧ mE g g' ∧ g'.1 11 = g.1 11 ∧ ∀ j, 639 ≤ j → g'.1 7 j = h0 j := by
  intro n
  induction n with
  | zero =>
    intro i c Dm g0 g m0 w0 D T hi h1 hc q hw hm hE h4
    have hof : fM_of u g (nI s) (nI 0) = some (tSd T 0 s) := M_stA hu hm hs8 (by omega)
    refine ⟨.inl Dm, iz (-1), c, Dm, i - 1, g, T, fun v hv => it_end ?_ (by omega), rfl, hc, cK.rf, fun v hv => it_end ?_ (by omega), hof, by rw [if_pos h4], mE.rf, rfl, hm.log⟩
    · unfold fA_retriesOf_9
      simp (disch := omega) only [izN, ltI]
      rw [if_pos (by omega)]
    · unfold fM_retries_27
      simp (disch := omega) only [izN, hof, Option.bind_some, leI]
      rw [if_pos h4, if_pos (by omega)]
  | succ n ih =>
    intro i c Dm g0 g m0 w0 D T hi h1 hc q hw hm hE h4
    have wa : isWA x c a0 := WA_q (Or.inr ⟨rfl, by omega⟩) q
    have hof : fM_of u g (nI s) (nI 0) = some (tSd T 0 s) := M_stA hu hm hs8 (by omega)
    have e1 := W_refusal hu hw hE.1.1 (kd := 7) (by omega) (nI s) (iz (-1)) (iz (-1))
    have e2 := M_whyRetry hu hm hE.1.1 (nI s) (iz (-1)) (iz (-1))
    by_cases hr : refT R T 7 (nI s) (iz (-1)) (iz (-1)) = iz (-1)
    · obtain ⟨s', hs', es', _, hck⟩ := ref7 hr
      have hck' := ck_le hE.1 hck
      have hd := hE.2.1 s hs8
      obtain ⟨ra, ea, ra1, ra2⟩ := W_redoAll hu hw hE.1 hs8 hd (lv4 h4) hck'
      obtain ⟨p1, p2, p3, p4, p5⟩ := C_lw hc (d := 0) (by omega) q (F := fun f => fW_redoAll u f (nI s)) ea
      obtain ⟨rb, eb, rb1, ab, rb2⟩ := M_retryNow hu hm.re hE.1 hs8 hd (lv4 h4) hck'
      have hE1 := hE.retry hs8 h4 hck
      have hmE1 : mE g rb.2 := (mE.row (j := 9) (by omega)).tr rb2.1.mE
      have h11 : rb.2.1 11 = g.1 11 := by rw [rb2.1.1 11 (by omega) (by omega), mRow_n (by omega)]
      have p4' : RW R w0 D (csW (cW' c a0 ra.2) a0) (retryT R T s (D s)).1 := by rw [p4]; exact ra2
      generalize retryT R T s (D s) = TT at ra1 ra2 rb1 rb2 hE1 p4'
      -- behind the commit, if there is one
      have hcm : ∃ c2 D2 g2 w2 m2 T2, (if tSd TT.1 0 s = nI 1 then (wWr Γ (wPut Γ Dm (a0 + 1) ra.2) a0 (fun f => fW_commitAt u f (nI s))).bind fun p7 => some p7.2 else some (wPut Γ Dm (a0 + 1) ra.2) : Option nx_M) = some D2 ∧ (if (decide (tSd TT.1 0 s = nI 1)) = true then (fM_commitNow u rb.2 (nI s)).bind fun p9 => some p9.2 else some rb.2 : Option mS) = some g2 ∧ CC Γ x A B c2 D2 ∧ csQ c2 2 0 = some a0 ∧ RW R w2 D (csW c2 a0) T2 ∧ RM rb.2 R m2 (some h0) D g2 T2 ∧ EI R D T2 ∧ cK x c c2 ∧ mE g g2 ∧ g2.1 11 = g.1 11 := by
        by_cases c1 : tSd TT.1 0 s = nI 1
        · rw [if_pos c1, if_pos (by simp [c1])]
          obtain ⟨rc, ec, rc1, rc2⟩ := W_commitAt hu p4' hs8
          obtain ⟨t1, t2, t3, t4, t5⟩ := C_lw p2 (d := 0) (by omega) p3 (F := fun f => fW_commitAt u f (nI s)) ec
          obtain ⟨rd, ed, rd1, rd2⟩ := M_commitNow hu rb2.re hE1.1 hs8 (lv1 c1)
          refine ⟨_, _, rd.2, w0, m0, (commitT R TT.1 s).1, by rw [t1]; rfl, by rw [ed]; rfl, t2, t3, by rw [t4]; exact rc2, rd2, hE1.cm hs8 c1, p5.tr t5, hmE1.tr rd2.1.mE, (rd2.1.1 11 (by omega) (by omega)).trans h11⟩
        · rw [if_neg c1, if_neg (by simp [c1])]
          exact ⟨_, _, rb.2, w0, m0, TT.1, rfl, rfl, p2, p3, p4', rb2.re, hE1, p5, hmE1, h11⟩
      obtain ⟨c2, D2, g2, w2, m2, T2, f1, f2, f3, f4, f5, f6, f7, f8, f9, f10⟩ := hcm
      have wa2 : isWA x c2 a0 := WA_q (Or.inr ⟨rfl, by omega⟩) f4
      have wa1 : isWA x (cW' c a0 ra.2) a0 := WA_q (Or.inr ⟨rfl, by omega⟩) p3
      have ecl : fA_retriesOf_9 u Γ (nI s) a0 (nI i, Dm) = if tSd T2 0 s = nI 4 then some (.inl (nI (i + 1), D2)) else some (.inr (.inr (nI i, D2))) := by
        unfold fA_retriesOf_9
        simp (disch := omega) only [izN, ltI]
        rw [if_neg (by omega), hc.wRd wa, e1, Option.bind_some, if_pos hr, p1]
        simp only [Option.bind_some]
        rw [p2.wRd wa1, W_state p4' hs8]
        simp only [Option.bind_some]
        rw [f1]
        simp only [Option.bind_some]
        rw [f3.wRd wa2, W_state f5 hs8]
        simp only [Option.bind_some, nI_add]
      have eml : fM_retries_27 u (nI s) (nI (i - 1), g) = some (.inl (nI (i - 1 + 1), g2)) := by
        unfold fM_retries_27
        simp (disch := omega) only [izN, hof, Option.bind_some, leI]
        rw [if_pos h4, if_neg (by omega), e2, Option.bind_some, if_pos hr, eb, Option.bind_some, M_isActive hu rb2.re hE1.1.1, Option.bind_some]
        have ein : inR (nI s) 8 = true := by rw [inR_nI (by omega)]; simpa using hs8
        rw [ein, Bool.true_and, nI_back (by omega), f2]
        simp only [Option.bind_some, nI_add]
      by_cases c4 : tSd T2 0 s = nI 4
      · rw [if_pos c4] at ecl
        obtain ⟨z, r, c', Dm', mm, g', T', y1, y2, y3, y4, y5, y6, y7, y8, y9, y10⟩ := ih (i := i + 1) (by omega) (by omega) f3 f4 f5 f6 f7 c4
        refine ⟨z, r, c', Dm', mm, g', T', fun v hv => ?_, y2, y3, f8.tr y4, fun v hv => ?_, y6, y7, f9.tr y8, y9.trans f10, y10⟩
        · obtain ⟨w, rfl⟩ : ∃ w, v = w + 1 := ⟨v - 1, by omega⟩
          rw [it_on ecl]
          exact y1 w (by omega)
        · obtain ⟨w, rfl⟩ : ∃ w, v = w + 1 := ⟨v - 1, by omega⟩
          rw [it_on eml]
          have := y5 w (by omega)
          rw [show i + 1 - 1 = i - 1 + 1 by omega] at this
          exact this
      · rw [if_neg c4] at ecl
        have hof2 : fM_of u g2 (nI s) (nI 0) = some (tSd T2 0 s) := M_stA hu f6 hs8 (by omega)
        refine ⟨.inr (nI i, D2), nI i, c2, D2, i, g2, T2, fun v hv => it_end ecl (by omega), rfl, f3, f8, fun v hv => ?_, hof2, by rw [if_neg c4], f9, f10, f6.log⟩
        obtain ⟨w, rfl⟩ : ∃ w, v = w + 1 := ⟨v - 1, by omega⟩
        rw [it_on eml]
        refine it_end ?_ (by omega)
        unfold fM_retries_27
        simp only [izN]
        rw [hof2, Option.bind_some, if_neg c4, show i - 1 + 1 = i by omega]
    · refine ⟨.inr (iz (-1), Dm), iz (-1), c, Dm, i - 1, g, T, fun v hv => it_end ?_ (by omega), rfl, hc, cK.rf, fun v hv => it_end ?_ (by omega), hof, by rw [if_pos h4], mE.rf, rfl, hm.log⟩
      · unfold fA_retriesOf_9
        simp (disch := omega) only [izN, ltI]
        rw [if_neg (by omega), hc.wRd wa, e1, Option.bind_some, if_neg hr]
      · unfold fM_retries_27
        simp (disch := omega) only [izN, hof, Option.bind_some, leI]
        rw [if_pos h4, if_neg (by omega), e2, Option.bind_some, if_neg hr]
theorem B_retries (hu2 : 40000 ≤ u) {Dm : nx_M} {g : mS} (hI : INV Γ x A B Dm g) (a : Int32) : ∃ r Dm' g', fC_retries u Γ Dm x a = some (r, Dm') ∧ fM_retries u g a = some (r, g') ∧ INV Γ x A B Dm' g' := by
  have hu : 1000 ≤ u := by omega
  obtain ⟨c, hc, hb, hs⟩ := hI
  unfold fC_retries fM_retries
  simp (disch := omega) only [izN, L_within, Option.bind_some, hc.1.r5, hc.wRd WA_9]
  rcases hs with hf | ⟨R, D, T, hst⟩
  · rw [Mf_isSeat u hf.2.1]
    by_cases ca : inR a 8 = true
    · obtain ⟨s, hs8, rfl⟩ := inR_of ca
      rw [if_pos ca, hf.1, Wf_state u hs8, Option.bind_some, if_neg n04]
      exact ⟨iz (-1), Dm, g, rfl, rfl, c, hc, hb, Or.inl hf⟩
    · rw [if_neg ca]
      exact ⟨iz (-1), Dm, g, rfl, rfl, c, hc, hb, Or.inl hf⟩
  · have hrm := st2.rm hst hb.2.2.2
    obtain ⟨⟨w0, hw⟩, hm, hE⟩ := hst.2.1
    rw [M_isSeat hu hrm hE.1.1.1 hE.1.1.2.1]
    by_cases ca : inR a 8 = true
    · obtain ⟨s, hs8, rfl⟩ := inR_of ca
      rw [if_pos ca, W_state hw hs8, Option.bind_some, Option.bind_some, if_pos ca, M_stA hu hrm hs8 (by omega), Option.bind_some]
      by_cases c4 : tSd T 0 s = nI 4
      · rw [if_pos c4, if_pos c4]
        obtain ⟨a0, c2, D2, e2, h2, q2, k2, i2, w2⟩ := C_copy (u := u) hc
        have hw2 := hw.cp (f' := csW c2 a0) w2
        obtain ⟨gp, b1, b2, b3, b4⟩ := M_begin hu hst
        obtain ⟨z, r, c', Dm', mm, g', T', y1, y2, y3, y4, y5, y6, y7, y8, y9, y10⟩ := retN (Γ := Γ) (x := x) (A := A) (B := B) hu hs8 9 (i := 1) (by omega) (by omega) h2 q2 hw2 b2 hE c4
        obtain ⟨g3, z1, z2, z3, z4⟩ := b4 g' y8 y9 y10
        refine ⟨r, Dm', g3, ?_, ?_, INV.tri hb (Or.inr ⟨R, D, T, hst⟩) y3 (k2.tr y4) z2 z3 z4⟩
        · rw [hc.1.r9, Option.bind_some, hc.1.at15]
          unfold fA_retriesOf
          rw [hc.1.at15, e2]
          simp only [Option.bind_some, izN]
          rw [y1 u (by omega), Option.bind_some, y2]
          rfl
        · rw [b1, Option.bind_some]
          have y5' := y5 u (by omega)
          rw [show 1 - 1 = 0 from rfl] at y5'
          rw [y5', Option.bind_some, y6, Option.bind_some]
          have es : (if tSd T' 0 s = nI 4 then some (iz (-1)) else some (nI mm)) = some r := by rw [y7]; split <;> rfl
          rw [es, Option.bind_some, z1]
          rfl
      · rw [if_neg c4, if_neg c4]
        exact ⟨iz (-1), Dm, g, rfl, rfl, c, hc, hb, Or.inr ⟨R, D, T, hst⟩⟩
    · rw [if_neg ca, Option.bind_some, if_neg ca]
      exact ⟨iz (-1), Dm, g, rfl, rfl, c, hc, hb, Or.inr ⟨R, D, T, hst⟩⟩
/-- one step on, from one level's world to another's, or to the same -/
theorem C_goOn (hu : 1000 ≤ u) {c : CS} {Dm : nx_M} (hc : CC Γ x A B c Dm) {da db a b ad i : Nat} (hda : da < 13) (hdb : db < 13) (qa : csQ c 2 da = some a) (qb : csQ c 2 db = some b) (hsA : isSA c ad) (hi : i < 16) {kd : Nat} (hkd : kd < 6) (ekd : csS c ad (4 * i) = nI kd) {R : ER} {w0 : Int32} {D : Nat → List De} {T : ET} (hw : RW R w0 D (csW c a) T) (hW : WF R T) : (refT R T kd (csS c ad (4 * i + 1)) (csS c ad (4 * i + 2)) (csS c ad (4 * i + 3)) ≠ iz (-1) → fA_goOn u Γ Dm a b ad (nI i) = some (false, Dm)) ∧ (refT R T kd (csS c ad (4 * i + 1)) (csS c ad (4 * i + 2)) (csS c ad (4 * i + 3)) = iz (-1) → ∃ c' D', fA_goOn u Γ Dm a b ad (nI i) = some (true, D') ∧ CC Γ x A B c' D' ∧ csQ c' = csQ c ∧ csI c' = csI c ∧ cK x c c' ∧ RW R w0 (actD D kd (csS c ad (4 * i + 1)) (csS c ad (4 * i + 2)) (csS c ad (4 * i + 3))) (csW c' b) (actT R T kd (csS c ad (4 * i + 1)) (csS c ad (4 * i + 2)) (csS c ad (4 * i + 3))).1 ∧ ∀ e, e ≠ b → csW c' e = csW c e) := by
  have wa : isWA x c a := WA_q (Or.inr ⟨rfl, hda⟩) qa
  have wb : isWA x c b := WA_q (Or.inr ⟨rfl, hdb⟩) qb
  have ekd0 : csS c ad (4 * i + 0) = nI kd := ekd
  unfold fA_goOn
  simp (disch := omega) only [izN, hc.sRd hsA, S_part, Option.bind_some, ekd0, hc.wRd wa]
  rw [W_refusal hu hw hW.1 (kd := kd) (by omega), Option.bind_some]
  generalize csS c ad (4 * i + 1) = v1
  generalize csS c ad (4 * i + 2) = v2
  generalize csS c ad (4 * i + 3) = v3
  constructor
  · intro hr
    rw [if_neg hr]
  · intro hr
    rw [if_pos hr]
    by_cases e : b = a
    · rw [if_pos e]
      subst e
      obtain ⟨r, er, r1, r2⟩ := W_act hu hw hW (kd := kd) (by omega) hr
      obtain ⟨p1, p2, p3, p4, p5⟩ := C_lw hc hdb qb (F := fun f => fW_act u f (nI kd) v1 v2 v3) er
      simp only [Option.bind_some]
      rw [p1]
      exact ⟨_, _, rfl, p2, rfl, rfl, p5, by rw [p4]; exact r2, fun e he => upR_n he⟩
    · rw [if_neg e, hc.1.at6 wb, hc.bc wb wa]
      have hc1 := hc.wr wb (va_cpy (csW c a) (csW c b) 0 0 514)
      have k1 := cK.lw hc.2 hdb qb (va_cpy (csW c a) (csW c b) 0 0 514)
      have hw1 : RW R w0 D (csW (cW' c b (va_cpy (csW c a) (csW c b) 0 0 514)) b) T := by
        have : csW (cW' c b (va_cpy (csW c a) (csW c b) 0 0 514)) b = va_cpy (csW c a) (csW c b) 0 0 514 := upR_s
        rw [this]
        exact hw.cpy _
      obtain ⟨r, er, r1, r2⟩ := W_act hu hw1 hW (kd := kd) (by omega) hr
      obtain ⟨p1, p2, p3, p4, p5⟩ := C_lw hc1 hdb qb (F := fun f => fW_act u f (nI kd) v1 v2 v3) er
      simp only [Option.bind_some]
      rw [p1]
      refine ⟨_, _, rfl, p2, rfl, rfl, k1.tr p5, by rw [p4]; exact r2, fun e' he => ?_⟩
      show upR (upR (csW c) b _) b r.2 e' = _
      rw [upR_n he, upR_n he]
theorem runN (hu : 1000 ≤ u) {R : ER} {k ad m a0 : Nat} (hm : m ≤ 16) (hk4 : k < 4) {h0 : Nat → Int32} : ∀ (n : Nat) {i : Nat} {Dm : nx_M} {g0 g : mS} {m0 w0 : Int32} {c : CS} {D : Nat → List De} {T : ET}, i + n = m → CC Γ x A B c Dm → csQ c 2 0 = some a0 → RW R w0 D (csW c a0) T → RM g0 R m0 (some h0) D g T → EI R D T → csQ c 0 k = some ad → csN c ad = nI m → g.1 6 k = nI m → (∀ i, i < m → (∃ kd, kd < 6 ∧ csS c ad (4 * i) = nI kd) ∧ ∀ w, w < 4 → csS c ad (4 * i + w) = g.1 5 (64 * k + 4 * i + w)) → ∃ j Dm' g' c' D' T' w1 m1, (∀ v, n < v → nx_iter v (fA_stepsDone_12 u Γ ad a0) (nI i, nI i, Dm) = some (nI j, Dm')) ∧ (∀ v, n < v → nx_iter v (fM_goSteps_2 u (nI k)) (nI i, g) = some (nI j, g')) ∧ j ≤ m ∧ CC Γ x A B c' Dm' ∧ csQ c' 2 0 = some a0 ∧ RW R w1 D' (csW c' a0) T' ∧ RM g R m1 (some h0) D' g' T' ∧ EI R D' T' ∧ cK x c c' ∧ mE g g' ∧ g'.1 11 = g.1 11 := by
  intro n
  induction n with
  | zero =>
    intro i Dm g0 g m0 w0 c D T hi hc q hw hrm hE q1 q2 q3 q4
    have hsA : isSA c ad := Or.inr ⟨k, hk4, q1⟩
    refine ⟨i, Dm, g, c, D, T, w0, m0, fun v hv => it_end ?_ (by omega), fun v hv => it_end ?_ (by omega), by omega, hc, q, hw, hrm.re, hE, cK.rf, mE.rf, rfl⟩
    · unfold fA_stepsDone_12
      simp (disch := omega) only [Option.bind_some, hc.1.sn hsA, q2, leI]
      rw [if_pos (by omega)]
    · unfold fM_goSteps_2
      simp (disch := omega) only [rd6, Option.bind_some, q3, leI]
      rw [if_pos (by omega)]
  | succ n ih =>
    intro i Dm g0 g m0 w0 c D T hi hc q hw hrm hE q1 q2 q3 q4
    have hsA : isSA c ad := Or.inr ⟨k, hk4, q1⟩
    obtain ⟨⟨kd, hkd, ekd⟩, hwS⟩ := q4 i (by omega)
    have w0' := hwS 0 (by omega)
    have w1 := hwS 1 (by omega)
    have w2 := hwS 2 (by omega)
    have w3 := hwS 3 (by omega)
    have ekd0 : csS c ad (4 * i + 0) = nI kd := ekd
    obtain ⟨gN, gY⟩ := C_goOn hu hc (da := 0) (db := 0) (by omega) (by omega) q q hsA (i := i) (by omega) hkd ekd hw hE.1
    obtain ⟨tN, tY⟩ := M_tryT hu hrm.re hE.1 hkd (csS c ad (4 * i + 1)) (csS c ad (4 * i + 2)) (csS c ad (4 * i + 3))
    have hdo : fM_doStep u g (nI k) (nI i) = (fM_tryOne u g (nI kd) (csS c ad (4 * i + 1)) (csS c ad (4 * i + 2)) (csS c ad (4 * i + 3))).bind fun p5 => some (p5.1, p5.2) := by
      unfold fM_doStep
      simp (disch := omega) only [izN, mulI, nI_add, rd5, Option.bind_some]
      rw [show 4 * (16 * k + i) = 64 * k + 4 * i + 0 by omega, ← w0', ekd0, show 64 * k + 4 * i + 0 + 1 = 64 * k + 4 * i + 1 by omega, ← w1, show 64 * k + 4 * i + 0 + 2 = 64 * k + 4 * i + 2 by omega, ← w2, show 64 * k + 4 * i + 0 + 3 = 64 * k + 4 * i + 3 by omega, ← w3]
    by_cases hr : refT R T kd (csS c ad (4 * i + 1)) (csS c ad (4 * i + 2)) (csS c ad (4 * i + 3)) = iz (-1)
    · obtain ⟨c1, D1, t1, t2, t3, t4, t5, t6, t7⟩ := gY hr
      obtain ⟨g1, s1, s2⟩ := tY hr
      have hE1 := hE.act (kd := kd) (by omega) hr
      have x5 : csS c1 = csS c := t5.2.2.2.2.2.1
      have x6 : csN c1 = csN c := t5.2.2.2.2.1
      obtain ⟨j, Dm', g', c', D', T', w1', m1', y1, y2, y3, y4, y5, y6, y7, y8, y9, y10, y11⟩ := ih (i := i + 1) (by omega) t2 (by rw [t3]; exact q) t6 s2 hE1 (by rw [t3]; exact q1) (by rw [x6]; exact q2) (by rw [s2.1.1 6 (by omega) (by omega)]; exact q3) (by rw [x5, s2.1.1 5 (by omega) (by omega)]; exact q4)
      refine ⟨j, Dm', g', c', D', T', w1', m1', fun v hv => ?_, fun v hv => ?_, y3, y4, y5, y6, ?_, y8, t5.tr y9, s2.1.mE.tr y10, y11.trans (s2.1.1 11 (by omega) (by omega))⟩
      · obtain ⟨w, rfl⟩ : ∃ w, v = w + 1 := ⟨v - 1, by omega⟩
        rw [it_on (s' := (nI (i + 1), nI (i + 1), D1))]
        · exact y1 w (by omega)
        · unfold fA_stepsDone_12
          simp (disch := omega) only [Option.bind_some, hc.1.sn hsA, q2, leI, izN]
          rw [if_neg (by omega), t1]
          simp only [Option.bind_some, if_true, nI_add]
      · obtain ⟨w, rfl⟩ : ∃ w, v = w + 1 := ⟨v - 1, by omega⟩
        rw [it_on (s' := (nI (i + 1), g1))]
        · exact y2 w (by omega)
        · unfold fM_goSteps_2
          simp (disch := omega) only [rd6, Option.bind_some, q3, leI, izN]
          rw [if_neg (by omega), hdo, s1]
          simp only [Option.bind_some, if_true, nI_add]
      · exact ⟨s2.1.tr y7.1, hrm.re.2.1, y7.2.2.1, y7.2.2.2⟩
    · refine ⟨i, Dm, g, c, D, T, w0, m0, fun v hv => it_end ?_ (by omega), fun v hv => it_end ?_ (by omega), by omega, hc, q, hw, hrm.re, hE, cK.rf, mE.rf, rfl⟩
      · unfold fA_stepsDone_12
        simp (disch := omega) only [Option.bind_some, hc.1.sn hsA, q2, leI]
        rw [if_neg (by omega), gN hr]
        rfl
      · unfold fM_goSteps_2
        simp (disch := omega) only [rd6, Option.bind_some, q3, leI]
        rw [if_neg (by omega), hdo, tN hr]
        rfl
theorem inS_8 {T : ET} {v : Int32} : ∀ o, tb (inS T v) o = true → o < 8 := set_8
theorem B_run (hu2 : 40000 ≤ u) {Dm : nx_M} {g : mS} (hI : INV Γ x A B Dm g) (a b : Int32) : ∃ r Dm' g', fC_run u Γ Dm x a b = some (r, Dm') ∧ fM_run u g a b = some (r, g') ∧ INV Γ x A B Dm' g' := by
  have hu : 1000 ≤ u := by omega
  obtain ⟨c, hc, hb, hs⟩ := hI
  have hI0 : INV Γ x A B Dm g := ⟨c, hc, hb, hs⟩
  obtain ⟨n, s1, s2, s3, s4⟩ := hb.2.1
  have hsa := C_scriptAt (u := u) hc s1 s2 a
  unfold fC_run fM_run
  rw [M_isScript s1 s3, hc.1.at0]
  by_cases ca : inR a n = true
  · obtain ⟨k, hk, rfl⟩ := inR_of ca
    obtain ⟨ad, m, q1, q2, q3, q4, q5⟩ := s4 k hk
    rw [hsa.2 k hk, q1, ca]
    simp (disch := omega) only [Option.bind_some, if_true, hc.1.r5, hc.wRd WA_9, izN, L_within, inR2, M_in01]
    rw [if_neg (by simp)]
    rcases hs with hf | ⟨R, D, T, hst⟩
    · rw [hf.1, Wf_hasStore, Mf_isStore u hf.2.1]
      exact ⟨_, Dm, g, rfl, rfl, hI0⟩
    · have hrm := st2.rm hst hb.2.2.2
      obtain ⟨⟨w0, hw⟩, hm, hE⟩ := hst.2.1
      rw [W_hasStore hu hw hE.1.1, M_isStore hu hrm hE.1.1.1 hE.1.1.2.1]
      simp only [Option.bind_some, if_true]
      by_cases cb : decide (b = nI 0 ∨ b = nI 1) = true
      · rw [if_pos cb, if_pos cb]
        obtain ⟨a0, c2, D2, e2, h2, p2, k2, i2, w2⟩ := C_copy (u := u) hc
        have hw2 := hw.cp (f' := csW c2 a0) w2
        obtain ⟨gp, b1, b2, b3, b4⟩ := M_begin hu hst
        obtain ⟨j, Dm', g', c', D', T', w1', m1', y1, y2, y3, y4, y5, y6, y7, y8, y9, y10, y11⟩ := runN (Γ := Γ) (x := x) (A := A) (B := B) hu (k := k) (ad := ad) q2 (by omega) m (i := 0) (by omega) h2 p2 hw2 b2 hE (by rw [k2.2.2.1]; exact q1) (by rw [k2.2.2.2.2.1]; exact q3) (by rw [b3.2.2.2.1]; exact q4) (by rw [k2.2.2.2.2.2.1, b3.2.2.1]; exact q5)
        obtain ⟨g3, z1, z2, z3, z4⟩ := b4 g' y10 y11 y7.log
        have hkk := k2.tr y9
        have hfin := INV.tri hb (Or.inr ⟨R, D, T, hst⟩) y4 hkk z2 z3 z4
        have hsA' : isSA c' ad := Or.inr ⟨k, by omega, by rw [hkk.2.2.1]; exact q1⟩
        have hn' : csN c' ad = nI m := by rw [hkk.2.2.2.2.1]; exact q3
        have e6 : g3.1 6 k = nI m := by rw [z2.2.2.2.1]; exact q4
        rw [hc.1.r9, Option.bind_some, hc.1.at15]
        unfold fA_stepsDone fM_goSteps
        simp only [izN]
        rw [hc.1.at15, e2]
        simp only [Option.bind_some]
        rw [y1 u (by omega), b1]
        simp only [Option.bind_some]
        rw [y2 u (by omega)]
        simp only [Option.bind_some, M_those hu y7, M_bits hu, z1]
        rw [(bs_mask (inS_8 (T := T') (v := nI 3))).1]
        by_cases c1 : b = nI 1
        · rw [if_pos c1, if_pos c1, y4.1.r9, Option.bind_some, y4.1.at15]
          obtain ⟨a1, c3, D3, e3, h3, p3, hJ⟩ := y4.lv u (d := 0) (by omega)
          have ea : a1 = a0 := by
            have := (hJ.2.2.2 0 a0 (by omega) y5).1
            rw [p3] at this
            exact Option.some.inj this
          subst ea
          have wa : isWA x c3 a1 := WA_q (Or.inr ⟨rfl, by omega⟩) p3
          have w3 : csW c3 a1 = csW c' a1 := (hJ.2.2.2 0 a1 (by omega) y5).2
          unfold fA_sureBehind
          simp only [izN]
          rw [y4.1.at15, e3]
          simp only [Option.bind_some]
          rw [h3.wRd wa, w3, W_seatsIn hu y6]
          simp only [Option.bind_some, bcI_eq]
          exact ⟨_, D3, g3, rfl, rfl, INV.tri hb (Or.inr ⟨R, D, T, hst⟩) h3 (hkk.tr hJ.1) z2 z3 z4⟩
        · rw [if_neg c1, if_neg c1]
          simp (disch := omega) only [y4.1.sn hsA', hn', Option.bind_some, rd6, e6]
          by_cases cj : nI j = nI m
          · rw [if_pos cj, if_pos cj]
            exact ⟨iz (-1), Dm', g3, rfl, rfl, hfin⟩
          · rw [if_neg cj, if_neg cj]
            exact ⟨nI j, Dm', g3, rfl, rfl, hfin⟩
      · rw [if_neg cb, if_neg cb]
        exact ⟨_, Dm, g, rfl, rfl, hI0⟩
  · have ca : inR a n = false := by simpa using ca
    rw [hsa.1 ca, ca]
    exact ⟨_, Dm, g, rfl, rfl, hI0⟩
end RETR
