/-! ===== texts: items of a clause ===== -/
def usE : Nat → Nat
  | 0 => 6
  | 1 => 0
  | _ => 10
theorem M_usual {u e : Nat} (h : e < 3) : fM_usual u (nI 115) (nI e) = some (nI (usE e)) := by
  unfold fM_usual
  simp (disch := omega) only [izN, eqI]
  rcases e3 h with rfl | rfl | rfl <;> simp [usE]
theorem M_usual_k {u : Nat} {x : Int32} : fM_usual u (nI 107) x = some (nI 0) := by
  unfold fM_usual
  simp only [izN, if_true]
theorem M_reset {u : Nat} (hu : 1000 ≤ u) (h : mS) : ∃ a, nx_iter u (fM_items_3 u (nI 115) 2 (nI 0) (nI 3)) (nI 0, h) = some (mRow h 2 a) ∧ ∀ i, i < 3 → a i = nI (usE i) := by
  have key : ok (nx_iter u (fM_items_3 u (nI 115) 2 (nI 0) (nI 3)) (nI 0, h)) (fun h' => ∃ a, h' = mRow h 2 a ∧ ∀ i, i < 3 → a i = nI (usE i)) := by
    refine it_inv (fun i s => s.1 = nI i ∧ ∃ a, s.2 = mRow h 2 a ∧ ∀ j, j < i → a j = nI (usE j)) 3 (fun i s hi hI => ?_) (fun s hI => ?_) (i := 0) ⟨rfl, h.1 2, mRow_i.symm, fun j hj => by omega⟩ (by omega) (by omega)
    · obtain ⟨e1, a, e2, ha⟩ := hI
      have es : (mRow h 2 a).1 2 = a := mRow_s
      unfold fM_items_3
      rw [e1, e2]
      simp (disch := omega) only [leI, M_usual, Option.bind_some, nI_add, Nat.zero_add, izN]
      rw [if_neg (by omega), mWr2_at hi, es]
      simp only [Option.bind_some, mRow_m]
      refine ok.ret ⟨rfl, _, rfl, fun j hj => ?_⟩
      by_cases e : j = i
      · rw [upd_e e, e]
      · rw [upd_n e]; exact ha j (by omega)
    · obtain ⟨e1, a, e2, ha⟩ := hI
      unfold fM_items_3
      rw [e1]
      simp (disch := omega) only [leI]
      rw [if_pos (by omega)]
      exact ok.ret ⟨a, e2, ha⟩
  obtain ⟨h', e, a, rfl, ha⟩ := key
  exact ⟨a, e, ha⟩
theorem rules_items {u n : Nat} {g : pS} {h : mS} (hu : 1000 ≤ u) (ho : pOk n g h) (hg : ∀ i, i < 3 → g 2 i = nI (usE i)) : ∃ b g' h', fT_hasRuleItems u g = some (b, g') ∧ fM_items u h (nI 115) 2 (nI 0) (nI 3) = some h' ∧ rOut n 2 b g g' h h' ∧ (b = true → RR g' h') := by
  obtain ⟨a, ea, ha⟩ := M_reset hu h
  obtain ⟨ht, hw, p, q, hc, hm, es⟩ := ho
  have hm2 : mlT n q (mRow h 2 a) := hm.row (by omega)
  obtain ⟨⟨s3, h3⟩, z1, z2, z3, z4⟩ := M_next hu hm2
  dsimp only at z2 z3 z4
  have t1 : (mRow h 2 a).1 1 = g 1 := by rw [mRow_n (by omega)]; exact ht.symm
  rw [t1, ← es] at z2 z3
  have hr : RR g h3 := by
    have e2 : h3.1 2 = a := (z4.1 2 (by omega)).trans mRow_s
    refine ⟨fun i hi => ?_, ⟨6, by omega, by omega, hg 0 (by omega)⟩, ⟨10, by omega, by omega, hg 2 (by omega)⟩⟩
    rw [e2, ha i hi, hg i hi]
  obtain ⟨b, g', h', w1, w2, ⟨w3, w4, w5⟩, w6⟩ := rules_run (u := u) (n := n) hu 3 0 0 p (skT (g 1) n p) u u g h3 (by omega) (by omega) (by decide) hc z3 rfl ((z4.1 1 (by omega)).trans t1).symm ((z4.2.1 4 (by omega)).trans (by rw [mRow_n (by omega)]; exact hw)) hr (by omega) (by omega)
  refine ⟨b, g', h', ?_, ?_, ⟨w3, (hU.row (by omega)).tr (z4.t.r.tr w4), w5⟩, w6⟩
  · unfold fT_hasRuleItems
    simp only [izN]
    exact w1
  · unfold fM_items
    simp only [izN]
    rw [ea]
    simp only [Option.bind_some]
    rw [z1]
    simp only [Option.bind_some, M_itemS]
    rw [z2, w2]
    rfl
theorem tWr3_at {m : Nat} {g : pS} {v : Int32} (hm : m < 6) : tWr g 3 (nI m) v = some (tRow g 3 (upd (g 3) m v)) := by
  unfold tWr
  rw [wr_nI (show m < tlen 3 from hm) (show (6 : Nat) ≤ 100000 by omega)]
  rfl
theorem mWr3_at {m : Nat} {g : mS} {v : Int32} (hm : m < 6) : mWr g 3 (nI m) v = some (mRow g 3 (upd (g.1 3) m v)) := mWr_at (show m < mlen 3 from hm) (show (6 : Nat) ≤ 100000 by omega)
theorem M_itemK {u : Nat} (x : Int32) : fM_itemOf u (nI 107) x = some (if x = nI 118 then nI 0 else iz (-1)) := by
  unfold fM_itemOf
  simp only [izN, if_true]
  by_cases a : x = nI 118
  · rw [if_pos a, if_pos a]
  · rw [if_neg a, if_neg a]
theorem M_reset_k {u K : Nat} (hu : 1000 ≤ u) (hK : K < 6) (h : mS) : nx_iter u (fM_items_3 u (nI 107) 3 (nI K) (nI 1)) (nI 0, h) = some (mRow h 3 (upd (h.1 3) K (nI 0))) := by
  obtain ⟨w, rfl⟩ : ∃ w, u = w + 2 := ⟨u - 2, by omega⟩
  have e1 : fM_items_3 (w + 2) (nI 107) 3 (nI K) (nI 1) (nI 0, h) = some (.inl (nI 1, mRow h 3 (upd (h.1 3) K (nI 0)))) := by
    unfold fM_items_3
    simp (disch := omega) only [leI, M_usual_k, Option.bind_some, nI_add, Nat.add_zero, izN]
    rw [if_neg (by omega), mWr3_at hK]
    rfl
  have e2 : fM_items_3 (w + 2) (nI 107) 3 (nI K) (nI 1) (nI 1, mRow h 3 (upd (h.1 3) K (nI 0))) = some (.inr (mRow h 3 (upd (h.1 3) K (nI 0)))) := by
    unfold fM_items_3
    simp (disch := omega) only [leI]
    rw [if_pos (by omega)]
  rw [it_on e1, it_end e2 (by omega)]
theorem M_lowK {u : Nat} {x : Int32} : fM_lowest u (nI 107) x = some (nI 0) := by
  unfold fM_lowest
  simp only [izN, if_true]
theorem M_highK {u : Nat} {x : Int32} : fM_highest u (nI 107) x = some (nI 99) := by
  unfold fM_highest
  simp only [izN, if_true]
theorem key_item {u n K : Nat} {g : pS} {h : mS} (hu : 1000 ≤ u) (ho : pOk n g h) (hK : K < 6) (hk : g 0 3 = nI (K + 1)) (h0 : g 3 K = nI 0) : ∃ b g' h', fT_hasKeyItem u g = some (b, g') ∧ fM_items u h (nI 107) 3 (nI K) (nI 1) = some h' ∧ rOut n 3 b g g' h h' ∧ (∀ i, i ≠ K → g' 3 i = g 3 i ∧ h'.1 3 i = h.1 3 i) ∧ (b = true → g' 3 K = h'.1 3 K) := by
  have er := M_reset_k hu hK h
  have fr : hU 3 h (mRow h 3 (upd (h.1 3) K (nI 0))) := hU.row (by omega)
  have ho2 : pOk n g (mRow h 3 (upd (h.1 3) K (nI 0))) := by
    obtain ⟨ht, hw, p, q, hc, hm, es⟩ := ho
    exact ⟨by rw [mRow_n (by omega)]; exact ht, by rw [mRow_n (by omega)]; exact hw, p, q, hc, hm.row (by omega), es⟩
  have e3 : (mRow h 3 (upd (h.1 3) K (nI 0))).1 3 = upd (h.1 3) K (nI 0) := mRow_s
  generalize mRow h 3 (upd (h.1 3) K (nI 0)) = H0 at er fr ho2 e3
  obtain ⟨q, g1, h1, n1, n2, c1, m1, f1, k1, _, t1, t2, w1⟩ := TM_next hu ho2
  have g13 : g1 3 = g 3 := f1.1 3 (by omega)
  have h13 : h1.1 3 = upd (h.1 3) K (nI 0) := (k1.1 3 (by omega)).trans e3
  unfold fT_hasKeyItem fM_items
  simp only [izN]
  rw [n1, er]
  simp only [Option.bind_some]
  rw [n2]
  simp only [Option.bind_some, M_itemK]
  by_cases cs : sgn (g 1) n q = nI 118
  · rw [if_pos cs, if_pos cs]
    have hqn : q < n := sgn_lt (by rw [cs]; exact neN1 (by omega))
    rw [T_pass c1]
    simp only [Option.bind_some]
    obtain ⟨b, g2, v2, h2, x1, x2, y1, y2, y3⟩ := TM_num hu (pOk.ps (t1.trans t2.symm) w1 c1 m1 hqn) (lo := 0) (hi := 99) (by omega) (by omega)
    rw [x1]
    simp only [Option.bind_some]
    have mstep : fM_items_41 u (nI 107) 3 (nI K) (nI 0, nI 0, h1) = ((if ((mRow h2 3 (upd (h2.1 3) K v2)).1 0 4) = iz (-1) then (fM_ahead u (mRow h2 3 (upd (h2.1 3) K v2))).bind fun p14 => (fM_itemOf u (nI 107) p14.1).bind fun x15 => some (x15, p14.2) else some (iz (-1), mRow h2 3 (upd (h2.1 3) K v2)) : Option (Int32 × mS)).bind fun s16 => some (.inl (nI 1, s16.1, s16.2))) := by
      unfold fM_items_41
      simp (disch := omega) only [izN]
      rw [if_pos w1, if_neg (neN1 (by omega)), has_v (S := 0) (e := 0) (by omega) (by omega), m1.2.1, nI_add]
      rw [show hasS 0 0 = false by decide]
      simp only [Option.bind_some, Bool.false_eq_true, if_false]
      rw [M_lowK, M_highK]
      simp only [Option.bind_some]
      rw [x2]
      simp only [Option.bind_some, nI_add, Nat.add_zero]
      rw [mWr3_at hK, show nI 0 ||| nI 1 <<< (nI 0 &&& 31) = nI 1 by decide +kernel]
      rfl
    have G3 : g2 3 = g 3 := (y1.1 3 (by omega)).trans ((tfs_r (by omega)).trans g13)
    have H3 : h2.1 3 = upd (h.1 3) K (nI 0) := (y2.1 3 (by omega)).trans ((fs_r (by omega)).trans h13)
    have fg : gU 3 g g2 := (f1.tr (gT.f1.tr y1)).r
    have fh : hU 3 h h2 := fr.tr (k1.t.tr (hA.f3.t.tr y2)).r
    have gk : g2 0 3 = nI (K + 1) := (fg.2 3 (by omega) (by omega)).trans hk
    obtain ⟨w, rfl⟩ : ∃ w, u = w + 1 := ⟨u - 1, by omega⟩
    rcases y3 with ⟨rfl, po, m, m3, m4, rfl, m6⟩ | ⟨rfl, po⟩
    · rw [if_pos rfl, gk]
      simp (disch := omega) only [ltI, leI, decI]
      rw [if_neg (by omega), if_pos (by omega), tWr3_at hK, m6]
      simp only [Option.bind_some]
      have po2 : pOk n (tRow g2 3 (upd (g2 3) K (nI m))) (mRow h2 3 (upd (h2.1 3) K (nI m))) := po.row (by omega) (by omega) (by omega) (by omega)
      have fg2 := fg.tr (gU.row (g := g2) (f := upd (g2 3) K (nI m)) (show (3 : Nat) ≠ 0 by omega))
      have fh2 := fh.tr (hU.row (g := h2) (f := upd (h2.1 3) K (nI m)) (show (3 : Nat) ≠ 0 by omega))
      have r1 : (tRow g2 3 (upd (g2 3) K (nI m))) 3 = upd (g2 3) K (nI m) := trow_s
      have r2 : (mRow h2 3 (upd (h2.1 3) K (nI m))).1 3 = upd (h2.1 3) K (nI m) := mRow_s
      generalize tRow g2 3 (upd (g2 3) K (nI m)) = G at po2 fg2 r1 ⊢
      generalize mRow h2 3 (upd (h2.1 3) K (nI m)) = H at po2 fh2 r2 mstep
      obtain ⟨ht2, hw2, p2, q2, hc2, hm2, es⟩ := po2
      obtain ⟨⟨s3, h3⟩, z1, z2, z3, z4⟩ := M_next hu hm2
      dsimp only at z2 z3 z4
      rw [← ht2, ← es] at z2 z3
      rw [if_pos hw2, z1] at mstep
      simp only [Option.bind_some, M_itemK] at mstep
      rw [it_on mstep, it_end (items_end (fun _ => ?_)) (by omega)]
      · refine ⟨true, G, h3, rfl, rfl, ⟨fg2, fh2.tr z4.t.r, Or.inl ⟨rfl, ht2.trans (z4.1 1 (by omega)).symm, (z4.2.1 4 (by omega)).trans hw2, p2, _, hc2, z3, ?_⟩⟩, fun i hi => ⟨?_, ?_⟩, fun _ => ?_⟩
        · rw [skT_i hc2.2.2.2]
        · rw [r1, upd_n hi, G3]
        · rw [z4.1 3 (by omega), r2, upd_n hi, H3, upd_n hi]
        · rw [r1, z4.1 3 (by omega), r2, upd_s, upd_s]
      · by_cases c : s3 = nI 118
        · rw [if_pos c]
          right
          rw [has_v (S := 1) (e := 0) (by omega) (by omega)]
          decide +kernel
        · rw [if_neg c]; exact Or.inl rfl
    · rw [if_neg (by simp)]
      obtain ⟨p', p1, p2, p3⟩ := po
      have hw2 : (mRow h2 3 (upd (h2.1 3) K v2)).1 0 4 = nI p' := by rw [mRow_n (by omega)]; exact p3
      have hp9 : p' ≤ 240 := Nat.le_trans p1 c1.2.2.1
      rw [if_neg (by rw [hw2]; exact neN1 (by omega))] at mstep
      simp only [Option.bind_some] at mstep
      rw [it_on mstep, it_end (items_end (fun k => absurd (hw2.symm.trans k) (neN1 (by omega)))) (by omega)]
      refine ⟨false, g2, _, rfl, rfl, ⟨fg, fh.tr (hU.row (by omega)), Or.inr ⟨rfl, p', p1, p2, hw2⟩⟩, fun i hi => ⟨by rw [G3], by rw [mRow_s, upd_n hi, H3, upd_n hi]⟩, fun k => by cases k⟩
  · rw [if_neg cs, if_neg cs, it_end (items_end (fun _ => Or.inl rfl)) (by omega)]
    refine ⟨true, g1, h1, rfl, rfl, ⟨f1.r, fr.tr k1.t.r, Or.inl ⟨rfl, pOk.at (t1.trans t2.symm) w1 c1 m1⟩⟩, fun i hi => ⟨by rw [g13], by rw [h13, upd_n hi]⟩, fun _ => by rw [g13, h13, upd_s, h0]⟩
