/-! ===== texts: the rules' items on both sides ===== -/
theorem RR.up {g G : pS} {h H : mS} {e m : Nat} (hr : RR g h) (g2 : G 2 = g 2) (h2 : H.1 2 = h.1 2) (he : e < 3) (h1 : loE e ≤ m) (h3 : m ≤ hiE e) : RR (tRow G 2 (upd (G 2) e (nI m))) (mRow H 2 (upd (H.1 2) e (nI m))) := by
  obtain ⟨r1, ⟨a, a1, a2, a3⟩, c, c1, c2, c3⟩ := hr
  unfold RR
  rw [trow_s, mRow_s, g2, h2]
  refine ⟨fun i hi => ?_, ?_, ?_⟩
  · by_cases x : i = e
    · rw [upd_e x, upd_e x]
    · rw [upd_n x, upd_n x]; exact r1 i hi
  · by_cases x : e = 0
    · subst x; exact ⟨m, h1, h3, upd_s⟩
    · exact ⟨a, a1, a2, by rw [upd_n (by omega)]; exact a3⟩
  · by_cases x : e = 2
    · subst x; exact ⟨m, h1, h3, upd_s⟩
    · exact ⟨c, c1, c2, by rw [upd_n (by omega)]; exact c3⟩
theorem RR.to {g G : pS} {h H : mS} (hr : RR g h) (g2 : G 2 = g 2) (h2 : H.1 2 = h.1 2) : RR G H := by
  unfold RR
  rw [g2, h2]
  exact hr
def rOut (n j : Nat) (b : Bool) (g g' : pS) (h h' : mS) : Prop := gU j g g' ∧ hU j h h' ∧ ((b = true ∧ pOk n g' h') ∨ (b = false ∧ pBd n g' h'))
abbrev cItems (o : Option (pS ⊕ (Bool × pS))) : Option (Bool × pS) := o.bind (Sum.elim (fun e10 => some (true, e10)) (fun r0 => some r0))
theorem items_end {u : Nat} {S : Int32} {it : Int32} {a1 a3 : Int32} {a2 : Nat} {h : mS} (hh : (h.1 0 4 = iz (-1) → it = iz (-1) ∨ fM_has u S it = some true)) : fM_items_41 u a1 a2 a3 (S, it, h) = some (.inr h) := by
  unfold fM_items_41
  dsimp only
  by_cases c : h.1 0 4 = iz (-1)
  · rw [if_pos c]
    rcases hh c with e | e
    · rw [if_pos e]
    · by_cases d : it = iz (-1)
      · rw [if_pos d]
      · rw [if_neg d, e]
        rfl
  · rw [if_neg c]
theorem has_v {u S e : Nat} (hS : S < 8) (he : e < 3) : fM_has u (nI S) (nI e) = some (hasS S e) := by
  unfold fM_has
  simp only [izN]
  cases c : hasS S e with
  | true => rw [if_pos ((bt_has hS he).mpr c)]
  | false => rw [if_neg (fun k => by rw [(bt_has hS he).mp k] at c; cases c)]
theorem rules_run {u n : Nat} (hu : 1000 ≤ u) : ∀ (j i S p q v w : Nat) (g : pS) (h : mS), j + i = 3 → S < 8 → pcS S = i → clT n p g → mlT n q h → skT (g 1) n p = q → g 1 = h.1 1 → h.1 0 4 = iz (-1) → RR g h → j < v → j + 1 < w →
    ∃ b g' h', cItems (nx_iter v (fT_hasRuleItems_4 u) (nI S, nI i, g)) = some (b, g') ∧ nx_iter w (fM_items_41 u (nI 115) 2 (nI 0)) (nI S, itm (sgn (g 1) n q), h) = some h' ∧ rOut n 2 b g g' h h' ∧ (b = true → RR g' h') := by
  intro j
  induction j with
  | zero =>
    intro i S p q v w g h hi hS hp hc hm hq ht hw hr hv hww
    have e1 : fT_hasRuleItems_4 u (nI S, nI i, g) = some (.inr (.inl g)) := by
      unfold fT_hasRuleItems_4
      simp (disch := omega) only [izN, leI]
      rw [if_pos (by omega)]
    have e2 : fM_items_41 u (nI 115) 2 (nI 0) (nI S, itm (sgn (g 1) n q), h) = some (.inr h) := items_end (fun _ => by
      rcases itm_c (sgn (g 1) n q) with e | ⟨e, he, e4, _⟩
      · exact Or.inl e
      · right
        rw [e4, has_v hS he, bt_all hS he (by omega)])
    refine ⟨true, g, h, by rw [it_end e1 (by omega)]; rfl, it_end e2 (by omega), ⟨gT.rf.r, hT.rf.r, Or.inl ⟨rfl, ht, hw, p, q, hc, hm, ?_⟩⟩, fun _ => hr⟩
    rw [hq, ← hq, skT_i hc.2.2.2]
  | succ j ih =>
    intro i S p q v w g h hi hS hp hc hm hq ht hw hr hv hww
    obtain ⟨v, rfl⟩ : ∃ v', v = v' + 1 := ⟨v - 1, by omega⟩
    obtain ⟨w, rfl⟩ : ∃ w', w = w' + 1 := ⟨w - 1, by omega⟩
    obtain ⟨⟨s1, g1⟩, en, r1, c1, f1⟩ := T_next hu hc
    dsimp only at r1 c1 f1
    rw [hq] at r1 c1
    subst r1
    have t1 : g1 1 = g 1 := f1.1 1 (by omega)
    have i3 : ¬ nI 3 ≤ nI i := by rw [leI (by omega) (by omega)]; omega
    have hsame : ∀ (x : Option (Int32 × Int32 × pS ⊕ pS ⊕ Bool × pS)), fT_hasRuleItems_4 u (nI S, nI i, g) = x → x = some (.inr (.inr (true, g1))) → fM_items_41 u (nI 115) 2 (nI 0) (nI S, itm (sgn (g 1) n q), h) = some (.inr h) → ∃ b g' h', cItems (nx_iter (v + 1) (fT_hasRuleItems_4 u) (nI S, nI i, g)) = some (b, g') ∧ nx_iter (w + 1) (fM_items_41 u (nI 115) 2 (nI 0)) (nI S, itm (sgn (g 1) n q), h) = some h' ∧ rOut n 2 b g g' h h' ∧ (b = true → RR g' h') := fun x e1 e2 e3 => by
      refine ⟨true, g1, h, by rw [it_end (e1.trans e2) (by omega)]; rfl, it_end e3 (by omega), ⟨f1.r, hT.rf.r, Or.inl ⟨rfl, pOk.at (t1.trans ht) hw c1 hm⟩⟩, fun _ => hr.to (f1.1 2 (by omega)) rfl⟩
    have estep : fT_hasRuleItems_4 u (nI S, nI i, g) = (if inR (itm (sgn (g 1) n q)) 3 = true then (if ((nI S >>> (itm (sgn (g 1) n q) &&& 31)) &&& nI 1) = nI 1 then some (.inr (.inr (true, g1))) else (fT_pass u g1).bind fun g5 => (nx_rd 3 (nx_sv 1) (itm (sgn (g 1) n q))).bind fun x6 => (nx_rd 3 (nx_sv 2) (itm (sgn (g 1) n q))).bind fun x7 => (fT_hasNumber u g5 x6 x7).bind fun p8 => if p8.1 = true then (tWr p8.2 2 (itm (sgn (g 1) n q)) (p8.2 0 2)).bind fun g9 => some (.inl ((nI S ||| (nI 1 <<< (itm (sgn (g 1) n q) &&& 31))), nI (i + 1), g9)) else some (.inr (.inr (false, p8.2)))) else some (.inr (.inr (true, g1)))) := by
      unfold fT_hasRuleItems_4
      simp (disch := omega) only [izN, en, Option.bind_some, T_ruleBy hu, L_within, nI_add]
      rw [if_neg i3]
    rcases itm_c (sgn (g 1) n q) with e | ⟨e, he, e4, en1⟩
    · rw [e] at estep
      refine hsame _ estep ?_ (items_end (fun _ => Or.inl e))
      rw [if_neg (by decide +kernel)]
    · have hqn : q < n := sgn_lt en1
      rw [e4] at estep
      rw [inR_nI (by omega), decide_eq_true he, if_pos rfl] at estep
      cases c : hasS S e with
      | true =>
        rw [if_pos ((bt_has hS he).mpr c)] at estep
        exact hsame _ estep rfl (items_end (fun _ => Or.inr (by rw [e4, has_v hS he, c])))
      | false =>
        rw [if_neg (fun k => by rw [(bt_has hS he).mp k] at c; cases c), T_pass c1, rd3 he, rd3 he, sv_1 he, sv_2 he] at estep
        simp only [Option.bind_some] at estep
        obtain ⟨b, g2, v2, h2, x1, x2, y1, y2, y3⟩ := TM_num hu (pOk.ps (t1.trans ht) hw c1 hm hqn) (lohi (e := e)).1 (lohi (e := e)).2
        rw [x1] at estep
        simp only [Option.bind_some] at estep
        have mstep : fM_items_41 u (nI 115) 2 (nI 0) (nI S, nI e, h) = ((if ((mRow h2 2 (upd (h2.1 2) e v2)).1 0 4) = iz (-1) then (fM_ahead u (mRow h2 2 (upd (h2.1 2) e v2))).bind fun p14 => (fM_itemOf u (nI 115) p14.1).bind fun x15 => some (x15, p14.2) else some (iz (-1), mRow h2 2 (upd (h2.1 2) e v2)) : Option (Int32 × mS)).bind fun s16 => some (.inl ((nI S ||| (nI 1 <<< (nI e &&& 31))), s16.1, s16.2))) := by
          unfold fM_items_41
          simp (disch := omega) only [izN]
          rw [if_pos hw, if_neg (neN1 (by omega)), has_v hS he, c, hm.2.1, nI_add]
          simp only [Option.bind_some, Bool.false_eq_true, if_false]
          rw [M_low he, M_high he]
          simp only [Option.bind_some]
          rw [x2]
          simp only [Option.bind_some, nI_add, Nat.zero_add]
          rw [mWr2_at he]
          rfl
        obtain ⟨o1, o2, o3⟩ := bt_or hS he c
        rw [o1] at estep mstep
        have G2 : g2 2 = g 2 := (y1.1 2 (by omega)).trans ((tfs_r (by omega)).trans (f1.1 2 (by omega)))
        have H2 : h2.1 2 = h.1 2 := (y2.1 2 (by omega)).trans (fs_r (by omega))
        have fg : gU 2 g g2 := (f1.tr (gT.f1.tr y1)).r
        have fh : hU 2 h h2 := (hA.f3.t.tr y2).r
        rcases y3 with ⟨rfl, po, m, m1, m2, rfl, m4⟩ | ⟨rfl, po⟩
        · rw [if_pos rfl, m4, tWr2_at he] at estep
          simp only [Option.bind_some] at estep
          have po2 : pOk n (tRow g2 2 (upd (g2 2) e (nI m))) (mRow h2 2 (upd (h2.1 2) e (nI m))) := po.row (by omega) (by omega) (by omega) (by omega)
          have rr2 : RR (tRow g2 2 (upd (g2 2) e (nI m))) (mRow h2 2 (upd (h2.1 2) e (nI m))) := hr.up G2 H2 he m1 m2
          have fg2 := fg.tr (gU.row (g := g2) (f := upd (g2 2) e (nI m)) (show (2 : Nat) ≠ 0 by omega))
          have fh2 := fh.tr (hU.row (g := h2) (f := upd (h2.1 2) e (nI m)) (show (2 : Nat) ≠ 0 by omega))
          generalize tRow g2 2 (upd (g2 2) e (nI m)) = G at po2 rr2 fg2 estep
          generalize mRow h2 2 (upd (h2.1 2) e (nI m)) = H at po2 rr2 fh2 mstep
          obtain ⟨ht2, hw2, p2, q2, hc2, hm2, es⟩ := po2
          obtain ⟨⟨s3, h3⟩, z1, z2, z3, z4⟩ := M_next hu hm2
          dsimp only at z2 z3 z4
          rw [← ht2, ← es] at z2 z3
          rw [if_pos hw2, z1] at mstep
          simp only [Option.bind_some, M_itemS] at mstep
          rw [it_on estep, e4, it_on mstep, z2]
          obtain ⟨b, g', h', w1, w2, ⟨w3, w4, w5⟩, w6⟩ := ih (i + 1) (orS S e) p2 (skT (G 1) n p2) v w G h3 (by omega) o2 (by omega) hc2 z3 rfl (ht2.trans (z4.1 1 (by omega)).symm) ((z4.2.1 4 (by omega)).trans hw2) (rr2.to rfl (z4.1 2 (by omega))) (by omega) (by omega)
          exact ⟨b, g', h', w1, w2, ⟨fg2.tr w3, fh2.tr (z4.t.r.tr w4), w5⟩, w6⟩
        · rw [if_neg (by simp)] at estep
          obtain ⟨p', p1, p2, p3⟩ := po
          have hw2 : (mRow h2 2 (upd (h2.1 2) e v2)).1 0 4 = nI p' := by rw [mRow_n (by omega)]; exact p3
          have hp9 : p' ≤ 240 := Nat.le_trans p1 hc.2.2.1
          rw [if_neg (by rw [hw2]; exact neN1 (by omega))] at mstep
          simp only [Option.bind_some] at mstep
          rw [it_end estep (by omega), e4, it_on mstep]
          refine ⟨false, g2, _, rfl, it_end (items_end (fun k => absurd (hw2.symm.trans k) (neN1 (by omega)))) (by omega), ⟨fg, fh.tr (hU.row (by omega)), Or.inr ⟨rfl, p', p1, p2, hw2⟩⟩, fun k => by cases k⟩
