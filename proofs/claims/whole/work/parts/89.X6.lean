/-! ===== texts: a store's text on both sides ===== -/
def SR (n K F : Nat) (g : pS) (h : mS) : Prop := pOk n g h ∧ K ≤ 6 ∧ F ≤ 1 ∧ g 0 3 = nI K ∧ h.1 0 7 = nI K ∧ g 0 4 = nI F ∧ RR g h ∧ (F = 0 → ∀ i, i < 3 → g 2 i = nI (usE i)) ∧ ∀ i, i < K → g 3 i = h.1 3 i
def gS (g g' : pS) : Prop := (∀ i, i ≠ 0 → i ≠ 2 → i ≠ 3 → g' i = g i) ∧ g' 0 0 = g 0 0 ∧ g' 0 5 = g 0 5
def hS (h h' : mS) : Prop := (∀ i, i ≠ 0 → i ≠ 2 → i ≠ 3 → h'.1 i = h.1 i) ∧ (∀ q, q ≠ 3 → q ≠ 4 → q ≠ 7 → h'.1 0 q = h.1 0 q) ∧ h'.2 = h.2
theorem gS.rf {g : pS} : gS g g := ⟨fun _ _ _ _ => rfl, rfl, rfl⟩
theorem hS.rf {g : mS} : hS g g := ⟨fun _ _ _ _ => rfl, fun _ _ _ _ => rfl, rfl⟩
theorem gS.tr {a b c : pS} (h : gS a b) (k : gS b c) : gS a c := ⟨fun i h0 h2 h3 => (k.1 i h0 h2 h3).trans (h.1 i h0 h2 h3), k.2.1.trans h.2.1, k.2.2.trans h.2.2⟩
theorem hS.tr {a b c : mS} (h : hS a b) (k : hS b c) : hS a c := ⟨fun i h0 h2 h3 => (k.1 i h0 h2 h3).trans (h.1 i h0 h2 h3), fun q h3 h4 h7 => (k.2.1 q h3 h4 h7).trans (h.2.1 q h3 h4 h7), k.2.2.trans h.2.2⟩
theorem gU.s {j : Nat} {g g' : pS} (hj : j = 2 ∨ j = 3) (h : gU j g g') : gS g g' := ⟨fun i h0 h2 h3 => h.1 i h0 (by omega), h.2 0 (by omega) (by omega), h.2 5 (by omega) (by omega)⟩
theorem hU.s {j : Nat} {g g' : mS} (hj : j = 2 ∨ j = 3) (h : hU j g g') : hS g g' := ⟨fun i h0 h2 h3 => h.1 i h0 (by omega), fun q h3 h4 _ => h.2.1 q h3 h4, h.2.2⟩
theorem gT.s {g g' : pS} (h : gT g g') : gS g g' := gU.s (Or.inl rfl) h.r
theorem hT.s {g g' : mS} (h : hT g g') : hS g g' := hU.s (Or.inl rfl) h.r
theorem gS.f {g : pS} {k : Nat} {v : Int32} (hk : k ≠ 0 ∧ k ≠ 5) : gS g (tFs g k v) := ⟨fun i h0 _ _ => tfs_r h0, tfs_n (Ne.symm hk.1), tfs_n (Ne.symm hk.2)⟩
theorem hS.f {g : mS} {k : Nat} {v : Int32} (hk : k = 3 ∨ k = 4 ∨ k = 7) : hS g (mFs g k v) := ⟨fun i h0 _ _ => fs_r h0, fun q h3 h4 h7 => fs_n (by omega), rfl⟩
theorem gS.row {g : pS} {f : Nat → Int32} {j : Nat} (hj : j = 2 ∨ j = 3) : gS g (tRow g j f) := gU.s hj (gU.row (by omega))
def mCl (u : Nat) (fl : Int32) (p9 : Int32 × mS) : Option (Int32 × mS) :=
  if p9.1 = (nI 115) then
    if fl = nI 0 then
      (some (mFs p9.2 3 ((p9.2.1 0 3) + (nI 1)))).bind fun g20 =>
      (fM_items u g20 p9.1 2 (nI 0) (nI 3)).bind fun g21 =>
      some ((nI 1), g21)
    else
      if p9.1 = (nI 107) then
        if (nI 6) ≤ (p9.2.1 0 7) then
          (fM_bad u p9.2).bind fun g16 =>
          some (fl, g16)
        else
          (some (mFs p9.2 3 ((p9.2.1 0 3) + (nI 1)))).bind fun g17 =>
          (fM_items u g17 p9.1 3 (g17.1 0 7) (nI 1)).bind fun g18 =>
          (some (mFs g18 7 ((g18.1 0 7) + (nI 1)))).bind fun g19 =>
          some (fl, g19)
      else
        (fM_bad u p9.2).bind fun g15 =>
        some (fl, g15)
  else
    if p9.1 = (nI 107) then
      if (nI 6) ≤ (p9.2.1 0 7) then
        (fM_bad u p9.2).bind fun g11 =>
        some (fl, g11)
      else
        (some (mFs p9.2 3 ((p9.2.1 0 3) + (nI 1)))).bind fun g12 =>
        (fM_items u g12 p9.1 3 (g12.1 0 7) (nI 1)).bind fun g13 =>
        (some (mFs g13 7 ((g13.1 0 7) + (nI 1)))).bind fun g14 =>
        some (fl, g14)
    else
      (fM_bad u p9.2).bind fun g10 =>
      some (fl, g10)
theorem clause {u n K F : Nat} {g : pS} {h : mS} (hu : 1000 ≤ u) (hs : SR n K F g h) : ∃ b g' s h1 F' h', fT_hasClause u g = some (b, g') ∧ fM_ahead u h = some (s, h1) ∧ mCl u (nI F) (s, h1) = some (nI F', h') ∧ gS g g' ∧ hS h h' ∧ ((b = true ∧ ∃ K', K' + F' = K + F + 1 ∧ SR n K' F' g' h') ∨ (b = false ∧ pBd n g' h')) := by
  obtain ⟨ho, hK, hF, s3, m7, s4, hr, hus, hks⟩ := hs
  obtain ⟨q, g1, h1, n1, n2, c1, m1, f1, k1, _, t1, t2, w1⟩ := TM_next hu ho
  have g13 : g1 0 3 = nI K := (f1.2 3 (by omega) (by omega)).trans s3
  have g14 : g1 0 4 = nI F := (f1.2 4 (by omega) (by omega)).trans s4
  have h17 : h1.1 0 7 = nI K := (k1.2.1 7 (by omega)).trans m7
  have gr2 : g1 2 = g 2 := f1.1 2 (by omega)
  have gr3 : g1 3 = g 3 := f1.1 3 (by omega)
  have hr2 : h1.1 2 = h.1 2 := k1.1 2 (by omega)
  have hr3 : h1.1 3 = h.1 3 := k1.1 3 (by omega)
  have bd : ∀ o : Option (Bool × pS), o = some (false, g1) → fT_hasClause u g = o → mCl u (nI F) (sgn (g 1) n q, h1) = (fM_bad u h1).bind (fun g10 => some (nI F, g10)) → ∃ b g' s h1 F' h', fT_hasClause u g = some (b, g') ∧ fM_ahead u h = some (s, h1) ∧ mCl u (nI F) (s, h1) = some (nI F', h') ∧ gS g g' ∧ hS h h' ∧ ((b = true ∧ ∃ K', K' + F' = K + F + 1 ∧ SR n K' F' g' h') ∨ (b = false ∧ pBd n g' h')) := fun o e1 e2 e3 => by
    rw [M_bad w1] at e3
    exact ⟨false, g1, _, h1, F, _, e2.trans e1, n2, e3, f1.s, k1.t.s.tr (hS.f (by omega)), Or.inr ⟨rfl, q, c1.2.2.2, c1.2.1, fs_s.trans m1.2.1⟩⟩
  have estep : fT_hasClause u g = (if sgn (g 1) n q = nI 115 then (if nI F = nI 0 then (fT_pass u (tFs g1 4 (nI 1))).bind fun g11 => (fT_hasRuleItems u g11).bind fun p12 => some (p12.1, p12.2) else if sgn (g 1) n q = nI 107 then if nI 6 ≤ nI K then some (false, g1) else (tWr g1 3 (nI K) (nI 0)).bind fun g6 => (fT_pass u (tFs g6 3 ((g6 0 3) + nI 1))).bind fun g8 => (fT_hasKeyItem u g8).bind fun p9 => some (p9.1, p9.2) else some (false, g1)) else if sgn (g 1) n q = nI 107 then if nI 6 ≤ nI K then some (false, g1) else (tWr g1 3 (nI K) (nI 0)).bind fun g6 => (fT_pass u (tFs g6 3 ((g6 0 3) + nI 1))).bind fun g8 => (fT_hasKeyItem u g8).bind fun p9 => some (p9.1, p9.2) else some (false, g1)) := by
    unfold fT_hasClause
    rw [n1]
    simp only [Option.bind_some, izN, g13, g14]
  by_cases a : sgn (g 1) n q = nI 115
  · rw [if_pos a] at estep
    have hqn : q < n := sgn_lt (by rw [a]; exact neN1 (by omega))
    by_cases f : F = 0
    · subst f
      rw [if_pos rfl] at estep
      have c4 : clT n q (tFs g1 4 (nI 1)) := ⟨(tfs_n (by omega)).trans c1.1, (tfs_n (by omega)).trans c1.2.1, c1.2.2⟩
      rw [T_pass c4] at estep
      simp only [Option.bind_some] at estep
      have po : pOk n (tFs (tFs g1 4 (nI 1)) 1 (nI (q + 1))) (mFs h1 3 (nI (q + 1))) := pOk.ps (by rw [tfs_r (by omega)]; exact t1.trans t2.symm) w1 c4 m1 hqn
      have G2 : (tFs (tFs g1 4 (nI 1)) 1 (nI (q + 1))) 2 = g 2 := by rw [tfs_r (by omega), tfs_r (by omega)]; exact gr2
      have G3 : (tFs (tFs g1 4 (nI 1)) 1 (nI (q + 1))) 3 = g 3 := by rw [tfs_r (by omega), tfs_r (by omega)]; exact gr3
      have G4 : (tFs (tFs g1 4 (nI 1)) 1 (nI (q + 1))) 0 4 = nI 1 := (tfs_n (by omega)).trans tfs_s
      have Gk : (tFs (tFs g1 4 (nI 1)) 1 (nI (q + 1))) 0 3 = nI K := (tfs_n (by omega)).trans ((tfs_n (by omega)).trans g13)
      have fG : gS g (tFs (tFs g1 4 (nI 1)) 1 (nI (q + 1))) := f1.s.tr ((gS.f (by omega)).tr (gS.f (by omega)))
      generalize tFs (tFs g1 4 (nI 1)) 1 (nI (q + 1)) = G at po G2 G3 G4 Gk fG estep
      have H3 : (mFs h1 3 (nI (q + 1))).1 3 = h.1 3 := (fs_r (by omega)).trans hr3
      have H7 : (mFs h1 3 (nI (q + 1))).1 0 7 = nI K := (fs_n (by omega)).trans h17
      have fH : hS h (mFs h1 3 (nI (q + 1))) := k1.t.s.tr (hS.f (by omega))
      obtain ⟨b, g', h', x1, x2, ⟨x3, x4, x5⟩, x6⟩ := rules_items hu po (fun i hi => by rw [G2]; exact hus rfl i hi)
      rw [x1] at estep
      refine ⟨b, g', _, h1, 1, h', estep, n2, ?_, fG.tr (gU.s (Or.inl rfl) x3), fH.tr (hU.s (Or.inl rfl) x4), ?_⟩
      · unfold mCl
        dsimp only
        rw [if_pos a, if_pos rfl, a, m1.2.1, nI_add]
        simp only [Option.bind_some]
        rw [x2]
        rfl
      · rcases x5 with ⟨rfl, po2⟩ | ⟨rfl, bd⟩
        · refine Or.inl ⟨rfl, K, by omega, po2, hK, by omega, (x3.2 3 (by omega) (by omega)).trans Gk, (x4.2.1 7 (by omega) (by omega)).trans H7, (x3.2 4 (by omega) (by omega)).trans G4, x6 rfl, fun k => by omega, fun i hi => ?_⟩
          rw [x3.1 3 (by omega) (by omega), G3, x4.1 3 (by omega) (by omega), H3]
          exact hks i hi
        · exact Or.inr ⟨rfl, bd⟩
    · have f1' : ¬ nI F = nI 0 := by rw [eqI (by omega) (by omega)]; exact f
      have e7 : ¬ sgn (g 1) n q = nI 107 := by rw [a]; exact n115_107
      refine bd _ ?_ estep ?_
      · rw [if_neg f1', if_neg e7]
      · unfold mCl
        dsimp only
        rw [if_pos a, if_neg f1', if_neg e7]
  · rw [if_neg a] at estep
    by_cases c : sgn (g 1) n q = nI 107
    · rw [if_pos c] at estep
      have hqn : q < n := sgn_lt (by rw [c]; exact neN1 (by omega))
      by_cases k6 : K = 6
      · have l6 : nI 6 ≤ nI K := by rw [leI (by omega) (by omega)]; omega
        rw [if_pos l6] at estep
        refine bd _ rfl estep ?_
        unfold mCl
        dsimp only
        rw [if_neg a, if_pos c, h17, if_pos l6]
      · have l6 : ¬ nI 6 ≤ nI K := by rw [leI (by omega) (by omega)]; omega
        rw [if_neg l6, tWr3_at (by omega)] at estep
        simp only [Option.bind_some] at estep
        have e3 : tRow g1 3 (upd (g1 3) K (nI 0)) 0 3 = nI K := by rw [trow_n (by omega)]; exact g13
        rw [e3, nI_add] at estep
        have c3 : clT n q (tRow g1 3 (upd (g1 3) K (nI 0))) := c1.row (by omega)
        have c4 : clT n q (tFs (tRow g1 3 (upd (g1 3) K (nI 0))) 3 (nI (K + 1))) := ⟨(tfs_n (by omega)).trans c3.1, (tfs_n (by omega)).trans c3.2.1, c1.2.2⟩
        rw [T_pass c4] at estep
        simp only [Option.bind_some] at estep
        have po : pOk n (tFs (tFs (tRow g1 3 (upd (g1 3) K (nI 0))) 3 (nI (K + 1))) 1 (nI (q + 1))) (mFs h1 3 (nI (q + 1))) := pOk.ps (by rw [tfs_r (by omega), trow_n (by omega)]; exact t1.trans t2.symm) w1 c4 m1 hqn
        have G2 : (tFs (tFs (tRow g1 3 (upd (g1 3) K (nI 0))) 3 (nI (K + 1))) 1 (nI (q + 1))) 2 = g 2 := by rw [tfs_r (by omega), tfs_r (by omega), trow_n (by omega)]; exact gr2
        have G3 : (tFs (tFs (tRow g1 3 (upd (g1 3) K (nI 0))) 3 (nI (K + 1))) 1 (nI (q + 1))) 3 = upd (g 3) K (nI 0) := by rw [tfs_r (by omega), tfs_r (by omega), trow_s, gr3]
        have G4 : (tFs (tFs (tRow g1 3 (upd (g1 3) K (nI 0))) 3 (nI (K + 1))) 1 (nI (q + 1))) 0 4 = nI F := by rw [tfs_n (by omega), tfs_n (by omega), trow_n (by omega)]; exact g14
        have Gk : (tFs (tFs (tRow g1 3 (upd (g1 3) K (nI 0))) 3 (nI (K + 1))) 1 (nI (q + 1))) 0 3 = nI (K + 1) := (tfs_n (by omega)).trans tfs_s
        have fG : gS g (tFs (tFs (tRow g1 3 (upd (g1 3) K (nI 0))) 3 (nI (K + 1))) 1 (nI (q + 1))) := f1.s.tr ((gS.row (Or.inr rfl)).tr ((gS.f (by omega)).tr (gS.f (by omega))))
        generalize tFs (tFs (tRow g1 3 (upd (g1 3) K (nI 0))) 3 (nI (K + 1))) 1 (nI (q + 1)) = G at po G2 G3 G4 Gk fG estep
        have H2 : (mFs h1 3 (nI (q + 1))).1 2 = h.1 2 := (fs_r (by omega)).trans hr2
        have H3 : (mFs h1 3 (nI (q + 1))).1 3 = h.1 3 := (fs_r (by omega)).trans hr3
        have H7 : (mFs h1 3 (nI (q + 1))).1 0 7 = nI K := (fs_n (by omega)).trans h17
        have fH : hS h (mFs h1 3 (nI (q + 1))) := k1.t.s.tr (hS.f (by omega))
        obtain ⟨b, g', h', x1, x2, ⟨x3, x4, x5⟩, x6, x7⟩ := key_item hu po (show K < 6 by omega) Gk (by rw [G3, upd_s])
        rw [x1] at estep
        have H7' : h'.1 0 7 = nI K := (x4.2.1 7 (by omega) (by omega)).trans H7
        refine ⟨b, g', _, h1, F, mFs h' 7 (nI (K + 1)), estep, n2, ?_, fG.tr (gU.s (Or.inr rfl) x3), fH.tr ((hU.s (Or.inr rfl) x4).tr (hS.f (by omega))), ?_⟩
        · unfold mCl
          dsimp only
          rw [if_neg a, if_pos c, h17, if_neg l6, c, m1.2.1, nI_add]
          simp only [Option.bind_some]
          rw [H7, x2]
          simp only [Option.bind_some]
          rw [H7', nI_add]
        · rcases x5 with ⟨rfl, o1, o2, p', q', o3, o4, o5⟩ | ⟨rfl, p', p1, p2, p3⟩
          · refine Or.inl ⟨rfl, K + 1, by omega, ⟨o1.trans (fs_r (by omega)).symm, (fs_n (by omega)).trans o2, p', q', o3, ⟨(fs_n (by omega)).trans o4.1, (fs_n (by omega)).trans o4.2.1, o4.2.2⟩, o5⟩, by omega, hF, (x3.2 3 (by omega) (by omega)).trans Gk, fs_s, (x3.2 4 (by omega) (by omega)).trans G4, ?_, fun k i hi => ?_, fun i hi => ?_⟩
            · refine hr.to ((x3.1 2 (by omega) (by omega)).trans G2) ?_
              rw [fs_r (by omega), x4.1 2 (by omega) (by omega), H2]
            · rw [x3.1 2 (by omega) (by omega), G2]; exact hus k i hi
            · rw [fs_r (by omega)]
              by_cases e : i = K
              · rw [e]; exact x7 rfl
              · rw [(x6 i e).1, (x6 i e).2, G3, upd_n e, H3]
                exact hks i (by omega)
          · exact Or.inr ⟨rfl, p', p1, p2, (fs_n (by omega)).trans p3⟩
    · rw [if_neg c] at estep
      refine bd _ rfl estep ?_
      unfold mCl
      dsimp only
      rw [if_neg a, if_neg c]
