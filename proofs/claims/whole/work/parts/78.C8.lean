/-! ===== what would be: aside and back ===== -/
theorem rd11 {m : Nat} {f : Nat → Int32} (hm : m < 20448) : nx_rd (mlen 11) f (nI m) = some (f m) := rd_nI hm (show (20448 : Nat) ≤ 100000 by omega)
theorem mWr11 {m : Nat} {g : mS} {v : Int32} (hm : m < 20448) : mWr g 11 (nI m) v = some (mRow g 11 (upd (g.1 11) m v)) := mWr_at hm (show (20448 : Nat) ≤ 100000 by omega)
theorem M_put {u : Nat} (hu : 1000 ≤ u) (g : mS) {d : Nat} (hd : d < 32) : ∃ a, fM_putAside u g (nI d) = some (mRow (mFs g 15 (nI 1)) 11 a) ∧ (∀ k, k < 639 → a (639 * d + k) = g.1 7 k) ∧ ∀ j, (j < 639 * d ∨ 639 * d + 639 ≤ j) → a j = g.1 11 j := by
  have hl : ok (nx_iter u (fM_putAside_7 (nI d)) (nI 0, mFs g 15 (nI 1))) (fun g' => ∃ a, g' = mRow (mFs g 15 (nI 1)) 11 a ∧ (∀ k, k < 639 → a (639 * d + k) = g.1 7 k) ∧ ∀ j, (j < 639 * d ∨ 639 * d + 639 ≤ j) → a j = g.1 11 j) := by
    refine it_inv (fun i s => s.1 = nI i ∧ ∃ a, s.2 = mRow (mFs g 15 (nI 1)) 11 a ∧ (∀ k, k < i → a (639 * d + k) = g.1 7 k) ∧ ∀ j, (j < 639 * d ∨ 639 * d + 639 ≤ j) → a j = g.1 11 j) 639 (fun i s hi hI => ?_) (fun s hI => ?_) (i := 0) ⟨rfl, g.1 11, ?_, fun k hk => by omega, fun _ _ => rfl⟩ (by omega) (by omega)
    · obtain ⟨e1, a, e2, h1, h2⟩ := hI
      have e7 : (mRow (mFs g 15 (nI 1)) 11 a).1 7 = g.1 7 := by rw [mRow_n (by omega), fs_r (by omega)]
      unfold fM_putAside_7
      rw [e1, e2]
      simp (disch := omega) only [leI, izN, rdM, e7, mulI, nI_add, mWr11, mRow_s, mRow_m, Option.bind_some]
      rw [if_neg (by omega)]
      refine ok.ret ⟨rfl, upd a (639 * d + i) (g.1 7 i), rfl, fun k hk => ?_, fun j hj => ?_⟩
      · by_cases e : k = i
        · rw [upd_e (by omega), e]
        · rw [upd_n (by omega)]; exact h1 k (by omega)
      · rw [upd_n (by omega)]; exact h2 j hj
    · obtain ⟨e1, a, e2, h1, h2⟩ := hI
      unfold fM_putAside_7
      rw [e1]
      simp (disch := omega) only [leI, izN]
      rw [if_pos (by omega)]
      exact ok.ret ⟨a, e2, h1, h2⟩
    · have : (mFs g 15 (nI 1)).1 11 = g.1 11 := fs_r (by omega)
      rw [← this]
      exact mRow_i.symm
  obtain ⟨g', e, a, rfl, h1, h2⟩ := hl
  refine ⟨a, ?_, h1, h2⟩
  unfold fM_putAside
  simp only [izN, Option.bind_some]
  rw [e]
  rfl
theorem M_bring {u : Nat} (hu : 1000 ≤ u) (g : mS) {d : Nat} (hd : d < 32) : ∃ b v, fM_bringBack u g (nI d) = some (mRow (mFs g 15 v) 7 b) ∧ (d = 0 → v = nI 0) ∧ (∀ k, k < 639 → b k = g.1 11 (639 * d + k)) ∧ ∀ j, 639 ≤ j → b j = g.1 7 j := by
  have hv : ∃ v, ((if nI d ≤ nI 0 then some (nI 0) else some (nI 1) : Option Int32).bind fun s1 => (nx_tob s1).bind fun b => some (mFs g 15 (bz b))) = some (mFs g 15 v) ∧ (d = 0 → v = nI 0) := by
    by_cases c : d = 0
    · rw [if_pos (by rw [leI (by omega) (by omega)]; omega)]
      exact ⟨nI 0, rfl, fun _ => rfl⟩
    · rw [if_neg (by rw [leI (by omega) (by omega)]; omega)]
      exact ⟨nI 1, rfl, fun h => absurd h c⟩
  obtain ⟨v, ev, hv0⟩ := hv
  have hl : ok (nx_iter u (fM_bringBack_15 (nI d)) (nI 0, mFs g 15 v)) (fun g' => ∃ b, g' = mRow (mFs g 15 v) 7 b ∧ (∀ k, k < 639 → b k = g.1 11 (639 * d + k)) ∧ ∀ j, 639 ≤ j → b j = g.1 7 j) := by
    refine it_inv (fun i s => s.1 = nI i ∧ ∃ b, s.2 = mRow (mFs g 15 v) 7 b ∧ (∀ k, k < i → b k = g.1 11 (639 * d + k)) ∧ ∀ j, 639 ≤ j → b j = g.1 7 j) 639 (fun i s hi hI => ?_) (fun s hI => ?_) (i := 0) ⟨rfl, g.1 7, ?_, fun k hk => by omega, fun _ _ => rfl⟩ (by omega) (by omega)
    · obtain ⟨e1, a, e2, h1, h2⟩ := hI
      have e7 : (mRow (mFs g 15 v) 7 a).1 11 = g.1 11 := by rw [mRow_n (by omega), fs_r (by omega)]
      unfold fM_bringBack_15
      rw [e1, e2]
      simp (disch := omega) only [leI, izN, rd11, e7, mulI, nI_add, mWr7, mRow_s, mRow_m, Option.bind_some]
      rw [if_neg (by omega)]
      refine ok.ret ⟨rfl, upd a i (g.1 11 (639 * d + i)), rfl, fun k hk => ?_, fun j hj => ?_⟩
      · by_cases e : k = i
        · rw [upd_e e, e]
        · rw [upd_n e]; exact h1 k (by omega)
      · rw [upd_n (by omega)]; exact h2 j hj
    · obtain ⟨e1, a, e2, h1, h2⟩ := hI
      unfold fM_bringBack_15
      rw [e1]
      simp (disch := omega) only [leI, izN]
      rw [if_pos (by omega)]
      exact ok.ret ⟨a, e2, h1, h2⟩
    · have : (mFs g 15 v).1 7 = g.1 7 := fs_r (by omega)
      rw [← this]
      exact mRow_i.symm
  obtain ⟨g', e, b, rfl, h1, h2⟩ := hl
  refine ⟨b, v, ?_, hv0, h1, h2⟩
  unfold fM_bringBack
  simp only [izN]
  rw [← Option.bind_assoc, ev, Option.bind_some, e]
  rfl
/-- row 7 of a trial -/
theorem rM.tri {tr : Option (Nat → Int32)} {D : Nat → List De} {f : Nat → Int32} {T : ET} (h : rM tr D f T) : rM (some f) D f T := ⟨h.1, h.2.1, h.2.2.1, h.2.2.2.1, h.2.2.2.2.1, h.2.2.2.2.2.1, h.2.2.2.2.2.2.1, fun _ _ => rfl⟩
theorem RM.start {tr : Option (Nat → Int32)} {R : ER} {D : Nat → List De} {T : ET} {g : mS} (hr : rulI R g) (h7 : rM tr D (g.1 7) T) (h15 : g.1 0 15 = nI 1) : RM g R (g.1 0 16 - tFe T) (some (g.1 7)) D g T := ⟨frM.rf, ⟨hr.1, hr.2.1, hr.2.2.1, hr.2.2.2, h15⟩, by rw [sub_add_I], h7.tri⟩
/-- a trial begins -/
theorem M_begin {u : Nat} (hu : 1000 ≤ u) {x : Nat} {c : CS} {g : mS} {R : ER} {D : Nat → List De} {T : ET} (hst : stoI x c g R D T) : ∃ gp, fM_putAside u g (nI 0) = some gp ∧ RM gp R (gp.1 0 16 - tFe T) (some (g.1 7)) D gp T ∧ mE g gp ∧ ∀ g', mE gp g' → g'.1 11 = gp.1 11 → (∀ j, 639 ≤ j → g'.1 7 j = g.1 7 j) → ∃ g3, fM_bringBack u g' (nI 0) = some g3 ∧ mE g g3 ∧ g3.1 7 = g.1 7 ∧ g3.1 0 15 = nI 0 := by
  obtain ⟨a, e1, h1, h2⟩ := M_put hu g (d := 0) (by omega)
  have e7 : (mRow (mFs g 15 (nI 1)) 11 a).1 7 = g.1 7 := by rw [mRow_n (by omega), fs_r (by omega)]
  have hmE : mE g (mRow (mFs g 15 (nI 1)) 11 a) := (mE.fs (by omega)).tr (mE.row (by omega))
  have h15 : (mRow (mFs g 15 (nI 1)) 11 a).1 0 15 = nI 1 := by rw [mRow_n (by omega), fs_s]
  have hrm := RM.start (g := mRow (mFs g 15 (nI 1)) 11 a) (hst.1.to hmE) (tr := none) (D := D) (T := T) (by rw [e7]; exact hst.2.1.2.1) h15
  rw [e7] at hrm
  refine ⟨_, e1, hrm, hmE, fun g' k1 k2 k3 => ?_⟩
  obtain ⟨b, v, e2, hv, b1, b2⟩ := M_bring hu g' (d := 0) (by omega)
  have eb : b = g.1 7 := by
    funext j
    by_cases c : j < 639
    · rw [b1 j c, k2, mRow_s]
      exact h1 j c
    · rw [b2 j (by omega), k3 j (by omega)]
  refine ⟨_, e2, (hmE.tr k1).tr ((mE.fs (by omega)).tr (mE.row (by omega))), by rw [mRow_s, eb], ?_⟩
  rw [mRow_n (by omega), fs_s]
  exact hv rfl
theorem RM.log {g0 g : mS} {R : ER} {m0 : Int32} {h0 : Nat → Int32} {D : Nat → List De} {T : ET} (h : RM g0 R m0 (some h0) D g T) : ∀ j, 639 ≤ j → g.1 7 j = h0 j := h.2.2.2.2.2.2.2.2.2.2
/-! the class's copy -/
section COPY
variable {u : Nat} {Γ : nx_G} {x A B : Nat} {Dm : nx_M} {c : CS}
theorem C_copy (hc : CC Γ x A B c Dm) : ∃ a c' D', fA_copyOf u Γ Dm (x + 15) (x + 9) = some (some a, D') ∧ CC Γ x A B c' D' ∧ csQ c' 2 0 = some a ∧ cK x c c' ∧ csI c' = csI c ∧ ∀ j, j < 514 → csW c' a j = csW c (x + 9) j := by
  obtain ⟨a, c1, D1, e1, h1, q1, hJ⟩ := hc.lv u (d := 0) (by omega)
  have wa : isWA x c1 a := WA_q (Or.inr ⟨rfl, by omega⟩) q1
  have h2 := h1.wr wa (va_cpy (csW c1 (x + 9)) (csW c1 a) 0 0 514)
  refine ⟨a, _, _, ?_, h2, q1, hJ.1.tr (cK.lw h1.2 (d := 0) (by omega) q1 _), hJ.2.1, fun j hj => ?_⟩
  · unfold fA_copyOf
    simp only [izN]
    rw [hc.1.at15, e1]
    simp only [Option.bind_some]
    rw [h1.1.at6 wa, h1.bc wa WA_9]
    rfl
  · show upR (csW c1) a _ a j = _
    rw [upR_s, pk_cpy_in (by omega) (by omega), show 0 + (j - 0) = j by omega]
    exact congrFun hJ.1.2.2.2.2.2.2.2.1 j
/-- an act on a level's world -/
theorem C_lw (hc : CC Γ x A B c Dm) {d a : Nat} (hd : d < 13) (q : csQ c 2 d = some a) {β : Type} {F : (Nat → Int32) → Option (β × (Nat → Int32))} {r : β × (Nat → Int32)} (e : F (csW c a) = some r) : wWr Γ Dm a F = some (r.1, wPut Γ Dm (a + 1) r.2) ∧ CC Γ x A B (cW' c a r.2) (wPut Γ Dm (a + 1) r.2) ∧ csQ (cW' c a r.2) 2 d = some a ∧ csW (cW' c a r.2) a = r.2 ∧ cK x c (cW' c a r.2) := by
  have wa : isWA x c a := WA_q (Or.inr ⟨rfl, hd⟩) q
  exact ⟨hc.wWr wa e, hc.wr wa _, q, upR_s, cK.lw hc.2 hd q _⟩
end COPY
theorem EI.cm {R : ER} {D : Nat → List De} {T : ET} (h : EI R D T) {s : Nat} (hs : s < 8) (h1 : tSd T 0 s = nI 1) : EI R D (commitT R T s).1 := h.of (h.1.commit hs (lv1 h1)) (stp.commit h.1 hs (lv1 h1)) h.2.1 (fun _ _ _ => Or.inl rfl)
section TRI
variable {u : Nat} {Γ : nx_G} {x A B : Nat} {Dm : nx_M} {g : mS}
theorem B_sures (hu2 : 40000 ≤ u) (hI : INV Γ x A B Dm g) (a : Int32) : ∃ r Dm' g', fC_sures u Γ Dm x a = some (r, Dm') ∧ fM_sures u g a = some (r, g') ∧ INV Γ x A B Dm' g' := by
  have hu : 1000 ≤ u := by omega
  obtain ⟨c, hc, hb, hs⟩ := hI
  unfold fC_sures fM_sures
  simp (disch := omega) only [izN, L_within, Option.bind_some, hc.1.r5, hc.wRd WA_9]
  rcases hs with hf | ⟨R, D, T, hst⟩
  · rw [Mf_isActive u hf.2.1]
    by_cases ca : inR a 8 = true
    · obtain ⟨s, hs8, rfl⟩ := inR_of ca
      rw [if_pos ca, hf.1, Wf_state u hs8, Option.bind_some, if_neg n01]
      exact ⟨iz (-1), Dm, g, rfl, rfl, c, hc, hb, Or.inl hf⟩
    · rw [if_neg ca]
      exact ⟨iz (-1), Dm, g, rfl, rfl, c, hc, hb, Or.inl hf⟩
  · have hrm := st2.rm hst hb.2.2.2
    obtain ⟨⟨w0, hw⟩, hm, hE⟩ := hst.2.1
    rw [M_isActive hu hrm hE.1.1]
    by_cases ca : inR a 8 = true
    · obtain ⟨s, hs8, rfl⟩ := inR_of ca
      rw [if_pos ca, ca, nI_back (by omega)]
      have es : fW_stateOf u (csW c (x + 9)) (nI s) = some (tSd T 0 s) := by
        unfold fW_stateOf
        simp (disch := omega) only [izN, nI_add, mulI, rdW, wrW, Option.bind_some, hw.st]
      rw [es, Option.bind_some]
      by_cases c1 : tSd T 0 s = nI 1
      · rw [if_pos c1]
        simp only [c1, decide_true, Bool.and_true, if_true]
        obtain ⟨a0, c2, D2, e2, h2, q2, k2, i2, w2⟩ := C_copy (u := u) hc
        have hw2 := hw.cp (f' := csW c2 a0) w2
        obtain ⟨r, er, r1, r2⟩ := W_commitAt hu hw2 hs8
        obtain ⟨p1, p2, p3, p4, p5⟩ := C_lw h2 (d := 0) (by omega) q2 (F := fun f => fW_commitAt u f (nI s)) er
        obtain ⟨gp, b1, b2, b3, b4⟩ := M_begin hu hst
        obtain ⟨rm, em, m1, m2⟩ := M_commitNow hu b2 hE.1 hs8 (lv1 c1)
        obtain ⟨g3, z1, z2, z3, z4⟩ := b4 rm.2 m2.1.mE (m2.1.1 11 (by omega) (by omega)) m2.log
        simp only [M_those hu hrm, Option.bind_some, b1, em, M_those hu m2, z1, if_true]
        rw [hc.1.r9, Option.bind_some, hc.1.at15]
        unfold fA_sureBy
        rw [hc.1.at15, e2]
        simp only [Option.bind_some]
        rw [p1]
        simp only [Option.bind_some, izN]
        have wa : isWA x (cW' c2 a0 r.2) a0 := WA_q (Or.inr ⟨rfl, by omega⟩) p3
        rw [p2.wRd wa, p2.wRd WA_9, p4, W_seatsIn hu r2]
        have e9 : csW (cW' c2 a0 r.2) (x + 9) = csW c (x + 9) := p5.2.2.2.2.2.2.2.1.trans k2.2.2.2.2.2.2.2.1
        rw [e9, W_seatsIn hu hw]
        exact ⟨_, _, g3, rfl, rfl, INV.tri hb (Or.inr ⟨R, D, T, hst⟩) p2 (k2.tr p5) z2 z3 z4⟩
      · rw [if_neg c1]
        simp only [c1, decide_false, Bool.and_false]
        exact ⟨iz (-1), Dm, g, rfl, rfl, c, hc, hb, Or.inr ⟨R, D, T, hst⟩⟩
    · rw [if_neg ca]
      simp only [ca, Bool.false_and]
      exact ⟨iz (-1), Dm, g, rfl, rfl, c, hc, hb, Or.inr ⟨R, D, T, hst⟩⟩
/-! ===== all ===== -/
theorem sw_nD {α : Type} {k : Nat} {os : List (Option α)} {d : Option α} (hk : k < 1000000000) (h : os.length ≤ k) : nx_sw (nI k) 0 os d = d := by
  rw [sw_nI hk, List.getElem?_eq_none h]
  rfl
theorem B_all (hu2 : 40000 ≤ u) (hI : INV Γ x A B Dm g) (a : Int32) : ∃ r Dm' g', fC_all u Γ Dm x a = some (r, Dm') ∧ fM_all u g a = some (r, g') ∧ INV Γ x A B Dm' g' := by
  have hu : 1000 ≤ u := by omega
  obtain ⟨c, hc, hb, hs⟩ := hI
  unfold fC_all fM_all
  rw [hc.1.r5, Option.bind_some, hc.wRd WA_9]
  rcases hs with hf | ⟨R, D, T, hst⟩
  · rw [hf.1, Wf_hasStore, Mf_isStore u hf.2.1]
    exact ⟨_, Dm, g, rfl, rfl, c, hc, hb, Or.inl hf⟩
  · have hrm := st2.rm hst hb.2.2.2
    obtain ⟨⟨w0, hw⟩, hm, hE⟩ := hst.2.1
    have hI0 : INV Γ x A B Dm g := ⟨c, hc, hb, Or.inr ⟨R, D, T, hst⟩⟩
    rw [W_hasStore hu hw hE.1.1, M_isStore hu hrm hE.1.1.1 hE.1.1.2.1]
    simp (disch := omega) only [Option.bind_some, if_true, izN, M_in]
    by_cases ca : inR a 14 = true
    · obtain ⟨i, hi, rfl⟩ := inR_of ca
      rw [if_pos ca]
      by_cases c13 : i = 13
      · subst c13
        rw [sw_nI (by omega), sw_nD (by omega) (by simp)]
        refine ⟨nI (sumV T 6), Dm, g, ?_, ?_, hI0⟩
        · show (wRd Γ Dm (x + 9) (fun f => fW_versionsOfAll u f)).bind _ = _
          rw [hc.wRd WA_9, W_versionsOfAll hu hw]
          rfl
        · rw [M_versionsOfAll hu hrm hE.1]
          rfl
      · by_cases c10 : i = 10
        · subst c10
          rw [sw_nI (by omega), sw_nI (by omega)]
          obtain ⟨a0, c2, D2, e2, h2, q2, k2, i2, w2⟩ := C_copy (u := u) hc
          have hw2 := hw.cp (f' := csW c2 a0) w2
          obtain ⟨r, er, r1, r2⟩ := W_pruneAll hu hw2
          obtain ⟨p1, p2, p3, p4, p5⟩ := C_lw h2 (d := 0) (by omega) q2 (F := fun f => fW_pruneAll u f) er
          refine ⟨nI (prC T (flT T) 6), _, g, ?_, ?_, INV.tri hb (Or.inr ⟨R, D, T, hst⟩) p2 (k2.tr p5) mE.rf rfl hb.2.2.2⟩
          · show ((gR Dm x 7 9).bind fun q23 => (some (x + 9)).bind fun q24 => (gAt Dm q23 0 (fA_spareOf u Γ Dm q23 q24)).bind fun p25 => some (p25.1, p25.2)) = _
            rw [hc.1.r9, Option.bind_some, Option.bind_some, hc.1.at15]
            unfold fA_spareOf
            rw [hc.1.at15, e2]
            simp only [Option.bind_some]
            rw [p1]
            simp only [Option.bind_some]
            rw [r1]
          · show ((fM_spare u g).bind fun x14 => some (x14, g)) = _
            rw [M_spare hu hrm hE.1]
            rfl
        · by_cases c9 : i = 9
          · subst c9
            rw [sw_nI (by omega), sw_nI (by omega)]
            obtain ⟨H, H8, H1, H2, H3, H4⟩ := ch_H hE.1
            obtain ⟨p, ep, p1, b, p2⟩ := M_chain hu hrm hE.1 H8 H3 H4
            refine ⟨nI H, Dm, p.2, ?_, ?_, ?_⟩
            · show (wRd Γ Dm (x + 9) (fun f => fW_longestChain u f)).bind _ = _
              rw [hc.wRd WA_9, W_longestChain hu hw hE.1 H8 H1 H2]
              rfl
            · show ((fM_chain u g).bind fun p13 => some (p13.1, p13.2)) = _
              rw [ep, Option.bind_some, p1]
            · rw [p2]
              exact INV.tri hb (Or.inr ⟨R, D, T, hst⟩) hc cK.rf (mE.row (by omega)) (mRow_n (by omega)) (by rw [mRow_n (by omega)]; exact hb.2.2.2)
          · have key : ∃ r, (∀ (F : (Nat → Int32) → Option Int32), F (csW c (x + 9)) = some r → ((some (x + 9)).bind fun q => (wRd Γ Dm q F).bind fun y => some (y, Dm)) = some (r, Dm)) := ⟨nI 0, fun F e => by rw [Option.bind_some, hc.wRd WA_9, e]; rfl⟩
            have fin : ∀ (o1 o2 : Option Int32), both o1 o2 → ∃ r Dm' g', (o1.bind fun y => some (y, Dm)) = some (r, Dm') ∧ (o2.bind fun y => some (y, g)) = some (r, g') ∧ INV Γ x A B Dm' g' := by
              rintro o1 o2 ⟨r, rfl, rfl⟩
              exact ⟨r, Dm, g, rfl, rfl, hI0⟩
            rw [sw_nI (by omega), sw_nI (by omega)]
            obtain rfl | rfl | rfl | rfl | rfl | rfl | rfl | rfl | rfl | rfl | rfl : i = 0 ∨ i = 1 ∨ i = 2 ∨ i = 3 ∨ i = 4 ∨ i = 5 ∨ i = 6 ∨ i = 7 ∨ i = 8 ∨ i = 11 ∨ i = 12 := by omega
            · exact fin (wRd Γ Dm (x + 9) (fun f => fW_seatsIn u f (nI 1))) (fM_those u g (nI 1)) (both.of ((hc.wRd WA_9 _).trans (W_seatsIn hu hw _)) (M_those hu hrm _))
            · exact fin (wRd Γ Dm (x + 9) (fun f => fW_seatsIn u f (nI 2))) (fM_those u g (nI 2)) (both.of ((hc.wRd WA_9 _).trans (W_seatsIn hu hw _)) (M_those hu hrm _))
            · exact fin (wRd Γ Dm (x + 9) (fun f => fW_seatsIn u f (nI 3))) (fM_those u g (nI 3)) (both.of ((hc.wRd WA_9 _).trans (W_seatsIn hu hw _)) (M_those hu hrm _))
            · exact fin (wRd Γ Dm (x + 9) (fun f => fW_seatsIn u f (nI 4))) (fM_those u g (nI 4)) (both.of ((hc.wRd WA_9 _).trans (W_seatsIn hu hw _)) (M_those hu hrm _))
            · exact fin (wRd Γ Dm (x + 9) (fun f => fW_doomedSeats u f)) (fM_doomedOnes u g) (both.of ((hc.wRd WA_9 _).trans (W_doomedSeats hu hw)) (M_doomedOnes hu hrm hE.1))
            · exact fin (wRd Γ Dm (x + 9) (fun f => fW_unsureKeys u f)) (fM_unsure u g) (both.of ((hc.wRd WA_9 _).trans (W_unsureKeys hu hw hE.1)) (M_unsure hu hrm hE.1))
            · exact fin (wRd Γ Dm (x + 9) (fun f => fW_oldestSeat u f)) (fM_oldest u g) (both.of ((hc.wRd WA_9 _).trans (W_oldestSeat hu hw)) (M_oldest hu hrm hE.1.1))
            · exact fin (wRd Γ Dm (x + 9) (fun f => fW_fullestKey u f)) (fM_fullest u g) (both.of ((hc.wRd WA_9 _).trans (W_fullestKey hu hw)) (M_fullest hu hrm hE.1))
            · exact fin (wRd Γ Dm (x + 9) (fun f => fW_worstSeat u f)) (fM_worst u g) (both.of ((hc.wRd WA_9 _).trans (W_worstSeat hu hw)) (M_worst hu hrm hE.1))
            · refine fin (wRd Γ Dm (x + 9) (fun f => fW_clock u f)) (nx_rd (mlen 7) (g.1 7) (nI 606)) (both.of ((hc.wRd WA_9 _).trans (?_ : _ = some (tCk T))) ?_)
              · unfold fW_clock
                simp (disch := omega) only [izN, nI_add, mulI, rdW, wrW, Option.bind_some, hw.cc]
              · rw [rdM (by omega), hm.cc]
            · refine fin (wRd Γ Dm (x + 9) (fun f => fW_floor u f)) (nx_rd (mlen 7) (g.1 7) (nI 607)) (both.of ((hc.wRd WA_9 _).trans (?_ : _ = some (tFl T))) ?_)
              · unfold fW_floor
                simp (disch := omega) only [izN, nI_add, mulI, rdW, wrW, Option.bind_some, hw.ff]
              · rw [rdM (by omega), hm.ff]
    · have ca : inR a 14 = false := by simpa using ca
      rw [if_neg (by rw [ca]; decide), sw_out ca]
      exact ⟨_, Dm, g, rfl, rfl, hI0⟩
end TRI
