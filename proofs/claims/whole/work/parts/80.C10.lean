/-! ===== mix ===== -/
theorem sFe_id {T : ET} (h : tFe T = nI 0) : sFe T (nI 0) = T := by
  rw [← h]
  rfl
theorem RW.f0 {R : ER} {w0 : Int32} {D : Nat → List De} {f : Nat → Int32} {T : ET} (h : RW R w0 D f T) : RW R (nI 0) D (upd f 6 (nI 0)) (sFe T (nI 0)) := by
  obtain ⟨r, h4, h5, h6, hh, hsd, hrk, hds, hvs, hl⟩ := h
  have n : ∀ j, j ≠ 6 → upd f 6 (nI 0) j = f j := fun j hj => upd_n hj
  refine ⟨r.kept (fun j hj => n j (by omega)), by rw [n _ (by omega)]; exact h4, by rw [n _ (by omega)]; exact h5, by rw [upd_s]; rfl, hh.kept (n _ (by omega)) (fun j _ _ => n j (by omega)), fun c' s' hc' hs' => by rw [n _ (by omega)]; exact hsd c' s' hc' hs', fun s' k' hs' hk' => by rw [n _ (by omega)]; exact hrk s' k' hs' hk', fun s' hs' => (hds s' hs').kept (n _ (by omega)) (fun i hi => n _ (by omega)), fun k' hk' => ?_, ?_⟩
  · obtain ⟨b1, b2, b3⟩ := hvs k' hk'
    refine ⟨b1, by rw [n _ (by omega)]; exact b2, fun i v hi => ?_⟩
    obtain ⟨a, b, c, d⟩ := b3 i v hi
    exact ⟨by rw [n _ (by omega)]; exact a, by rw [n _ (by omega)]; exact b, by rw [n _ (by omega)]; exact c, by rw [n _ (by omega)]; exact d⟩
  · obtain ⟨l1, l2, n', l3, l4, l5⟩ := hl
    exact ⟨l1, by rw [n _ (by omega)]; exact l2, n', l3, by rw [n _ (by omega)]; exact l4, fun i e he => by rw [n _ (by omega)]; exact l5 i e he⟩
theorem z00 (v : Int32) : (nI 0 + v = nI 0) ↔ v = nI 0 := by
  have : nI 0 + v = v := Int32.zero_add v
  rw [this]
/-- a script on both sides -/
def scr (c : CS) (g : mS) (k ad m : Nat) : Prop := k < 4 ∧ m ≤ 16 ∧ csQ c 0 k = some ad ∧ csN c ad = nI m ∧ g.1 6 k = nI m ∧ ∀ i, i < m → (∃ kd, kd < 6 ∧ csS c ad (4 * i) = nI kd) ∧ ∀ w, w < 4 → csS c ad (4 * i + w) = g.1 5 (64 * k + 4 * i + w)
theorem scr.to {x : Nat} {c c' : CS} {g g' : mS} {k ad m : Nat} (h : scr c g k ad m) (hk : cK x c c') (hm : mE g g') : scr c' g' k ad m := by
  unfold scr
  rw [hk.2.2.1, hk.2.2.2.2.1, hk.2.2.2.2.2.1, hm.2.2.1, hm.2.2.2.1]
  exact h
/-- levels up to d are there as they were -/
def lvS (c c' : CS) (d : Nat) : Prop := ∀ e b, e ≤ d → e < 13 → csQ c 2 e = some b → csQ c' 2 e = some b ∧ csW c' b = csW c b
theorem lvS.rf {c : CS} {d : Nat} : lvS c c d := fun _ _ _ _ h => ⟨h, rfl⟩
theorem lvS.tr {a b c : CS} {d : Nat} (h : lvS a b d) (k : lvS b c d) : lvS a c d := fun e q h1 h2 h3 => by
  obtain ⟨a1, a2⟩ := h e q h1 h2 h3
  obtain ⟨b1, b2⟩ := k e q h1 h2 a1
  exact ⟨b1, b2.trans a2⟩
theorem lvS.le {a b : CS} {d e : Nat} (h : lvS a b d) (he : e ≤ d) : lvS a b e := fun e' q h1 h2 h3 => h e' q (by omega) h2 h3
section MIX
variable {u : Nat} {Γ : nx_G} {x A B : Nat}
/-- one side of a mix: a step, and what is behind it -/
theorem SD (hu : 1000 ≤ u) {R : ER} {d a b k ad m i : Nat} (hd : d < 12) (him : i < m) {c : CS} {Dm : nx_M} {g : mS} {D : Nat → List De} {T : ET} (hc : CC Γ x A B c Dm) (qa : csQ c 2 d = some a) (qb : csQ c 2 (d + 1) = some b) (hw : RW R (nI 0) D (csW c a) T) (hT : tFe T = nI 0) (hr : rulI R g) (h7 : rM (some (g.1 7)) D (g.1 7) T) (h15 : g.1 0 15 = nI 1) (h11 : ∀ q, q < 639 → g.1 11 (639 * d + q) = g.1 7 q) (hE : EI R D T) (hsc : scr c g k ad m) (hct : csI c 10 = g.1 0 22 ∧ csI c 11 = g.1 0 23)
    (rcC : nx_M → Option nx_M) (rcM : mS → Option mS)
    (hrec : ∀ (c1 : CS) (D1 : nx_M) (g1 : mS) (Dx : Nat → List De) (T1 : ET), CC Γ x A B c1 D1 → csQ c1 2 (d + 1) = some b → RW R (nI 0) Dx (csW c1 b) T1 → tFe T1 = nI 0 → rulI R g1 → rM (some (g1.1 7)) Dx (g1.1 7) T1 → EI R Dx T1 → cK x c c1 → mE g g1 → csI c1 10 = g1.1 0 22 ∧ csI c1 11 = g1.1 0 23 → ∃ c' D' g', rcC D1 = some D' ∧ rcM g1 = some g' ∧ CC Γ x A B c' D' ∧ cK x c1 c' ∧ lvS c1 c' (d + 1) ∧ mE g1 g' ∧ g'.1 7 = g1.1 7 ∧ (∀ q, q < 639 * (d + 1) → g'.1 11 q = g1.1 11 q) ∧ csI c' 10 = g'.1 0 22 ∧ csI c' 11 = g'.1 0 23) :
    ∃ c' D' g', ((fA_goOn u Γ Dm a b ad (nI i)).bind fun p8 => if p8.1 = true then (gR p8.2 b 6 0).bind fun q9 => (aI Γ p8.2 q9 (nI 6)).bind fun x10 => if x10 = nI 0 then (gAt p8.2 (x + 15) 0 (rcC p8.2)).bind fun D11 => some D11 else some p8.2 else some p8.2) = some D' ∧
      ((some (mFs g 16 (nI 0))).bind fun g8 => (fM_doStep u g8 (nI k) (nI i)).bind fun p9 => (if p9.1 = true then if p9.2.1 0 16 = nI 0 then (rcM p9.2).bind fun g10 => some g10 else some p9.2 else some p9.2 : Option mS).bind fun s11 => (fM_bringBack u s11 (nI d)).bind fun g12 => (some (mFs g12 15 (nI 1))).bind fun g13 => some g13) = some g' ∧
      CC Γ x A B c' D' ∧ cK x c c' ∧ lvS c c' d ∧ csQ c' 2 (d + 1) = some b ∧ mE g g' ∧ g'.1 7 = g.1 7 ∧ g'.1 0 15 = nI 1 ∧ (∀ q, q < 639 * (d + 1) → g'.1 11 q = g.1 11 q) ∧ csI c' 10 = g'.1 0 22 ∧ csI c' 11 = g'.1 0 23 := by
  obtain ⟨k4, m16, q1, q2, q3, q5⟩ := hsc
  have hsA : isSA c ad := Or.inr ⟨k, k4, q1⟩
  obtain ⟨⟨kd, hkd, ekd⟩, hwS⟩ := q5 i him
  have w0' := hwS 0 (by omega)
  have w1 := hwS 1 (by omega)
  have w2 := hwS 2 (by omega)
  have w3 := hwS 3 (by omega)
  have ekd0 : csS c ad (4 * i + 0) = nI kd := ekd
  have hab : b ≠ a := fun e => by
    have := (hc.2.2.1 2 d 2 (d + 1) a (Or.inr ⟨rfl, by omega⟩) (Or.inr ⟨rfl, by omega⟩) qa (by rw [← e]; exact qb)).2
    omega
  have hm8 : mE g (mFs g 16 (nI 0)) := mE.fs (by omega)
  have e78 : (mFs g 16 (nI 0)).1 7 = g.1 7 := fs_r (by omega)
  have hrm : RM (mFs g 16 (nI 0)) R (nI 0) (some (g.1 7)) D (mFs g 16 (nI 0)) T := by
    have hr8 := hr.to hm8
    refine ⟨frM.rf, ⟨hr8.1, hr8.2.1, hr8.2.2.1, hr8.2.2.2, by rw [fs_n (by omega)]; exact h15⟩, by rw [fs_s, hT]; rfl, by rw [e78]; exact h7⟩
  obtain ⟨gN, gY⟩ := C_goOn hu hc (da := d) (db := d + 1) (by omega) (by omega) qa qb hsA (i := i) (by omega) hkd ekd hw hE.1
  obtain ⟨tN, tY⟩ := M_tryT hu hrm hE.1 hkd (csS c ad (4 * i + 1)) (csS c ad (4 * i + 2)) (csS c ad (4 * i + 3))
  have hdo : fM_doStep u (mFs g 16 (nI 0)) (nI k) (nI i) = (fM_tryOne u (mFs g 16 (nI 0)) (nI kd) (csS c ad (4 * i + 1)) (csS c ad (4 * i + 2)) (csS c ad (4 * i + 3))).bind fun p5 => some (p5.1, p5.2) := by
    have e5 : (mFs g 16 (nI 0)).1 5 = g.1 5 := fs_r (by omega)
    unfold fM_doStep
    simp (disch := omega) only [izN, mulI, nI_add, rd5, Option.bind_some, e5]
    rw [show 4 * (16 * k + i) = 64 * k + 4 * i + 0 by omega, ← w0', ekd0, show 64 * k + 4 * i + 0 + 1 = 64 * k + 4 * i + 1 by omega, ← w1, show 64 * k + 4 * i + 0 + 2 = 64 * k + 4 * i + 2 by omega, ← w2, show 64 * k + 4 * i + 0 + 3 = 64 * k + 4 * i + 3 by omega, ← w3]
  -- the end: what was aside is brought back
  have back : ∀ s11 : mS, mE g s11 → (∀ q, q < 639 * (d + 1) → s11.1 11 q = g.1 11 q) → (∀ j, 639 ≤ j → s11.1 7 j = g.1 7 j) → ∃ g', ((fM_bringBack u s11 (nI d)).bind fun g12 => (some (mFs g12 15 (nI 1))).bind fun g13 => some g13) = some g' ∧ mE g g' ∧ g'.1 7 = g.1 7 ∧ g'.1 0 15 = nI 1 ∧ (∀ q, q < 639 * (d + 1) → g'.1 11 q = g.1 11 q) ∧ g'.1 0 22 = s11.1 0 22 ∧ g'.1 0 23 = s11.1 0 23 := by
    intro s11 y1 y2 y3
    obtain ⟨bb, v, e2, _, b1, b2⟩ := M_bring hu s11 (d := d) (by omega)
    have eb : bb = g.1 7 := by
      funext j
      by_cases cj : j < 639
      · rw [b1 j cj, y2 _ (by omega)]
        exact h11 j cj
      · rw [b2 j (by omega), y3 j (by omega)]
    refine ⟨mFs (mRow (mFs s11 15 v) 7 bb) 15 (nI 1), by rw [e2]; rfl, (y1.tr ((mE.fs (by omega)).tr (mE.row (by omega)))).tr (mE.fs (by omega)), by rw [fs_r (by omega), mRow_s, eb], fs_s, fun q hq => ?_, ?_, ?_⟩
    · rw [fs_r (by omega), mRow_n (by omega), fs_r (by omega)]
      exact y2 q hq
    · rw [fs_n (by omega), mRow_n (by omega), fs_n (by omega)]
    · rw [fs_n (by omega), mRow_n (by omega), fs_n (by omega)]
  rw [Option.bind_some, hdo]
  by_cases href : refT R T kd (csS c ad (4 * i + 1)) (csS c ad (4 * i + 2)) (csS c ad (4 * i + 3)) = iz (-1)
  · obtain ⟨c1, D1, t1, t2, t3, t4, t5, t6, t7⟩ := gY href
    obtain ⟨g1, s1, s2⟩ := tY href
    have hE1 := hE.act (kd := kd) (by omega) href
    rw [t1, s1]
    simp only [Option.bind_some, if_true]
    generalize actT R T kd (csS c ad (4 * i + 1)) (csS c ad (4 * i + 2)) (csS c ad (4 * i + 3)) = TT at t6 s2 hE1
    generalize actD D kd (csS c ad (4 * i + 1)) (csS c ad (4 * i + 2)) (csS c ad (4 * i + 3)) = DD at t6 s2 hE1
    have qb1 : csQ c1 2 (d + 1) = some b := by rw [t3]; exact qb
    have wb1 : isWA x c1 b := WA_q (Or.inr ⟨rfl, by omega⟩) qb1
    have l1 : lvS c c1 d := fun e q he h13 hq => ⟨by rw [t3]; exact hq, t7 q (fun eq => by
      have := (hc.2.2.1 2 e 2 (d + 1) q (Or.inr ⟨rfl, h13⟩) (Or.inr ⟨rfl, by omega⟩) hq (by rw [eq]; exact qb)).2
      omega)⟩
    have eg6 : gR D1 b 6 0 = some (b + 1) := by
      unfold gR
      rw [t2.1.go6 wb1]
      rfl
    have ea6 : aI Γ D1 (b + 1) (nI 6) = some (nI 0 + tFe TT.1) := by
      unfold aI
      rw [aF_row (t2.1.2.1 b wb1).2, Option.bind_some, ← t6.ee]
      exact rd_nI (by omega) (by omega)
    have em6 : g1.1 0 16 = nI 0 + tFe TT.1 := s2.2.2.1
    have hmg1 : mE g g1 := hm8.tr s2.1.mE
    have h11g1 : ∀ q, q < 639 * (d + 1) → g1.1 11 q = g.1 11 q := fun q hq => by rw [s2.1.1 11 (by omega) (by omega), fs_r (by omega)]
    have ct1 : csI c1 10 = g1.1 0 22 ∧ csI c1 11 = g1.1 0 23 := by
      rw [t4, s2.1.2.1 22 (by omega), s2.1.2.1 23 (by omega), fs_n (by omega), fs_n (by omega)]
      exact hct
    rw [eg6, em6]
    simp only [Option.bind_some]
    rw [ea6]
    simp only [Option.bind_some]
    by_cases cz : nI 0 + tFe TT.1 = nI 0
    · rw [if_pos cz, if_pos cz, t2.1.at15]
      have hr1 := hr.to hmg1
      obtain ⟨c', D', g', y1, y2, y3, y4, y5, y6, y7, y8, y9⟩ := hrec c1 D1 g1 DD TT.1 t2 qb1 t6 ((z00 _).mp cz) hr1 s2.2.2.2.tri hE1 t5 hmg1 ct1
      obtain ⟨g2, z1, z2, z3, z4, z5, z6, z7⟩ := back g' (hmg1.tr y6) (fun q hq => (y8 q hq).trans (h11g1 q hq)) (fun j hj => by rw [y7]; exact s2.log j hj)
      rw [y1, y2]
      simp only [Option.bind_some] at z1 ⊢
      rw [z1]
      exact ⟨c', D', g2, rfl, rfl, y3, t5.tr y4, l1.tr (y5.le (by omega)), (y5 (d + 1) b (by omega) (by omega) qb1).1, z2, z3, z4, z5, by rw [z6]; exact y9.1, by rw [z7]; exact y9.2⟩
    · rw [if_neg cz, if_neg cz]
      obtain ⟨g2, z1, z2, z3, z4, z5, z6, z7⟩ := back g1 hmg1 h11g1 s2.log
      simp only [Option.bind_some] at z1 ⊢
      rw [z1]
      exact ⟨c1, D1, g2, rfl, rfl, t2, t5, l1, qb1, z2, z3, z4, z5, by rw [z6]; exact ct1.1, by rw [z7]; exact ct1.2⟩
  · rw [gN href, tN href]
    obtain ⟨g2, z1, z2, z3, z4, z5, z6, z7⟩ := back (mFs g 16 (nI 0)) hm8 (fun q hq => by rw [fs_r (by omega)]) (fun j hj => by rw [e78])
    simp only [Option.bind_some, Bool.false_eq_true, if_false] at z1 ⊢
    rw [z1]
    refine ⟨c, Dm, g2, rfl, rfl, hc, cK.rf, lvS.rf, qb, z2, z3, z4, z5, ?_, ?_⟩
    · rw [z6, fs_n (by omega)]; exact hct.1
    · rw [z7, fs_n (by omega)]; exact hct.2
end MIX
