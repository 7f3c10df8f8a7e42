section NXC
variable {Γ : nx_G} {X : nx_X} {Y : nx_Y} {Z : nx_Z} {α β : Type} {C : α → nx_C} {pc q : Nat} {ls : List (Option Value)} {st stk : List Value} {M : nx_M}
theorem nx_run {H : Heap} {locs : List Loc} {L : Array Slot} {cells slots mc ms pc : Nat} {r : Option Value} {M' : nx_M} {as' : Array Value} (hl : ∀ x ∈ locs, nx_A Γ x.base)
    (hr : va_Run X.1 X.2.1 X.2.2.1 X.2.2.2.1 X.2.2.2.2.1 X.2.2.2.2.2.1 X.2.2.2.2.2.2.1 X.2.2.2.2.2.2.2.1 X.2.2.2.2.2.2.2.2.1 X.2.2.2.2.2.2.2.2.2.1 H locs cells slots mc ms (F0 (nx_m X) pc L stk) st (nx_Qc Γ r M' as') (nx_A Γ))
    (k : ∀ H' locs', nx_Hold Γ M' H' → (∀ x ∈ locs', nx_A Γ x.base) → nx_W X H' locs' (cells + mc) (slots + ms) (F0 (nx_m X) (pc + 3) L (r.toList ++ st))) : nx_W X H locs cells slots (F0 (nx_m X) pc L stk) := by
  intro T hT X0
  obtain ⟨v, st₀, t, T', Lc, h0, X', hL, e1, e2, ⟨hv, hH'⟩, stp⟩ := hr T hT X0
  cases hv
  obtain ⟨t2, a1, b1⟩ := k T'.heap (locs ++ Lc) (by rw [e1]; exact hH') (fun x hx => by
    rcases List.mem_append.mp hx with h | h
    · exact hl x h
    · exact hL x h) T' rfl X'
  exact ⟨t2, stp t2 a1, b1⟩
/-- a call, whatever its kind -/
theorem nx_call {oc : Option β} {out : β → Option Value × nx_M} {kk : β → Option α} (hct : ∀ r, oc = some r → M.2.1 ≤ (out r).2.2.1 ∧ M.2.2 ≤ (out r).2.2.2)
    (hs : nx_K Γ X Y Z → ∀ r, oc = some r → Z.1.2.1 ≤ M.2.1 → Z.1.2.2 ≤ M.2.2 → (out r).2.2.1 ≤ Z.2.2.2.1 → (out r).2.2.2 ≤ Z.2.2.2.2 → ∀ (H : Heap) (locs : List Loc) (L : Array Slot), nx_Hold Γ M H → (∀ x ∈ locs, nx_A Γ x.base) → nx_Lr Y.2.2.1 ls L →
      va_Run X.1 X.2.1 X.2.2.1 X.2.2.2.1 X.2.2.2.2.1 X.2.2.2.2.2.1 X.2.2.2.2.2.2.1 X.2.2.2.2.2.2.2.1 X.2.2.2.2.2.2.2.2.1 X.2.2.2.2.2.2.2.2.2.1 H locs (M.2.1 - Z.1.2.1) (M.2.2 - Z.1.2.2) ((out r).2.2.1 - M.2.1) ((out r).2.2.2 - M.2.2) (F0 (nx_m X) pc L stk) st (nx_Qc Γ (out r).1 (out r).2 (nx_as X)) (nx_A Γ))
    (k : ∀ r, nx_J Γ X Y Z C (.inl (pc + 3, ls, (out r).1.toList ++ st, (out r).2)) (kk r)) : nx_J Γ X Y Z C (.inl (pc, ls, stk, M)) (oc.bind kk) := by
  intro a ha
  obtain ⟨r, e1, e2⟩ := nx_bind_some ha
  obtain ⟨g1, g2⟩ := hct r e1
  obtain ⟨l1, w1⟩ := k r a e2
  refine ⟨⟨Nat.le_trans g1 l1.1, Nat.le_trans g2 l1.2⟩, fun K h h1 h2 => ?_⟩
  have h1 : Z.1.2.1 ≤ M.2.1 := h1
  have h2 : Z.1.2.2 ≤ M.2.2 := h2
  obtain ⟨z1, z2, w⟩ := w1 K h (Nat.le_trans h1 g1) (Nat.le_trans h2 g2)
  have z1 : (out r).2.2.1 ≤ Z.2.2.2.1 := z1
  have z2 : (out r).2.2.2 ≤ Z.2.2.2.2 := z2
  refine ⟨Nat.le_trans g1 z1, Nat.le_trans g2 z2, fun H locs L hH hl hL => nx_run hl (hs K r e1 h1 h2 z1 z2 H locs L hH hl hL) (fun H' locs' hH' hl' => ?_)⟩
  have hw := w H' locs' L hH' hl' hL
  have a1 : M.2.1 - Z.1.2.1 + ((out r).2.2.1 - M.2.1) = (out r).2.2.1 - Z.1.2.1 := by omega
  have a2 : M.2.2 - Z.1.2.2 + ((out r).2.2.2 - M.2.2) = (out r).2.2.2 - Z.1.2.2 := by omega
  show nx_W X H' locs' (M.2.1 - Z.1.2.1 + ((out r).2.2.1 - M.2.1)) (M.2.2 - Z.1.2.2 + ((out r).2.2.2 - M.2.2)) _
  rw [a1, a2]
  exact hw
theorem nx_catW {st : List Value} (h : (st.map fun v => v.category).sum ≤ 8) {m : MethodId} {pc : Nat} {L : Array Slot} {stk : List Value} : 2 * (F0 m pc L stk).monitorRoom + (st.map fun v => v.category).sum ≤ 8 := lv_room h
theorem nx_qca {Γ : nx_G} {r : Option Value} {M' : nx_M} {a b : Array Value} : nx_Qc Γ r M' a = nx_Qc Γ r M' b := rfl
variable {y' : MethodName} {cc' : ByteArray} {nL' d' idx n : Nat} {ret' : Option FieldType} {oc : Option β} {out : β → Option Value × nx_M} {kk : β → Option α}
theorem nx_callV {b ci : Nat} {fs : List Value} (As : List Value) (cw : nx_CW Y.1 idx y' cc' nL' ret' n) (cv : nx_CV y' ci) (hct : ∀ r, oc = some r → nx_Ct X.2.1 Γ d' y' cc' nL' ret' (.ref b :: As) M (out r))
    (hμ : M.1 b = some (.inr (ci, fs))) (hn : As.length = n) (hs : stk = As.reverse ++ .ref b :: st) (hW : (st.map fun v => v.category).sum ≤ 8) (hd : d' + 1 ≤ Y.2.2.2.2.2) (d : decode Y.2.1 pc = .ok (.invokevirtual idx, 3)) (hq : pc + 3 = q)
    (k : ∀ r, nx_J Γ X Y Z C (.inl (q, ls, (out r).1.toList ++ st, (out r).2)) (kk r)) : nx_J Γ X Y Z C (.inl (pc, ls, stk, M)) (oc.bind kk) := by
  subst hq
  refine nx_call (fun r e => (hct r e).1 X rfl) (fun K r e g1 g2 z1 z2 H locs L hH hl hL => ?_) k
  obtain ⟨m0, hM⟩ := hct r e
  have m1 := m0 X rfl
  obtain ⟨w1, w2, w3, w4, w5, w6⟩ := cw
  obtain ⟨v1, v2, T, N, v3⟩ := cv
  obtain ⟨hx, hb, hr, hlk, hml, hown, hnm, hts, hE, hR, hQ⟩ := K
  have hpre : PreV (nx_s X) H y'.cls b (nx_Pc Γ (.ref b :: As) M) As := ⟨nx_blind, va_recv hE.1 (hH.P hμ) (q := (y'.cls, T, N)) v3 (q0 := 0) rfl, fun U hU hWm => ⟨rfl, by rw [hU]; exact hH, hE.warm hWm⟩⟩
  have c1 : (nx_rm d' M (out r).2).frames + 1 ≤ (nx_R X).frames := by rw [hR]; exact hd
  have c2 : 8 + (nL' + 11) + (nx_rm d' M (out r).2).locals ≤ (nx_R X).locals := by
    rw [hR]
    show 8 + (nL' + 11) + 40 * d' ≤ 40 * Y.2.2.2.2.2
    omega
  have c3 : M.2.1 - Z.1.2.1 + ((out r).2.2.1 - M.2.1) ≤ (nx_R X).cells ∧ M.2.2 - Z.1.2.2 + ((out r).2.2.2 - M.2.2) ≤ (nx_R X).slots := by
    rw [hR]
    show _ ≤ Z.2.2.2.1 - Z.1.2.1 ∧ _ ≤ Z.2.2.2.2 - Z.1.2.2
    omega
  rcases w6 with w6 | ⟨host, w6⟩
  · exact va_runV (Ts := nx_TB) (own := Y.1) (nL := Y.2.2.1) ⟨hx, hb, hml, hown, hts⟩ hM ⟨⟨rfl, rfl, c1, c2, nx_wsW hts w1, List.mem_cons_self, hts _ w1, hts _ w2, w3, nx_plen w4, hts _ w6⟩, hts _ v1, hts _ v2⟩ hpre rfl hn hL.1 hs (nx_catW hW) d c3
  · exact va_runVN (Ts := nx_TB) (own := Y.1) (nL := Y.2.2.1) (host := host) ⟨hx, hb, hml, hown, hts⟩ hM ⟨⟨⟨rfl, rfl, c1, c2, nx_wsW hts w1, List.mem_cons_self⟩, hts _ w1, hts _ w2, w3, nx_plen w4, va_Nw.use rfl (hE.2.1 _ w6 rfl)⟩, hts _ v1, hts _ v2⟩ hpre rfl hn hL.1 hs (nx_catW hW) d c3
theorem nx_callS (As : List Value) (cw : nx_CW Y.1 idx y' cc' nL' ret' n) (cs : Cond.static y' ∈ nx_TB) (hct : ∀ r, oc = some r → nx_Ct X.2.1 Γ d' y' cc' nL' ret' As M (out r))
    (hn : As.length = n) (hs : stk = As.reverse ++ st) (hW : (st.map fun v => v.category).sum ≤ 8) (hd : d' + 1 ≤ Y.2.2.2.2.2) (d : decode Y.2.1 pc = .ok (.invokestatic idx, 3)) (hq : pc + 3 = q)
    (k : ∀ r, nx_J Γ X Y Z C (.inl (q, ls, (out r).1.toList ++ st, (out r).2)) (kk r)) : nx_J Γ X Y Z C (.inl (pc, ls, stk, M)) (oc.bind kk) := by
  subst hq
  refine nx_call (fun r e => (hct r e).1 X rfl) (fun K r e g1 g2 z1 z2 H locs L hH hl hL => ?_) k
  obtain ⟨m0, hM⟩ := hct r e
  have m1 := m0 X rfl
  rw [nx_qca (b := As.toArray)]
  obtain ⟨w1, w2, w3, w4, w5, w6⟩ := cw
  obtain ⟨hx, hb, hr, hlk, hml, hown, hnm, hts, hE, hR, hQ⟩ := K
  have hpre : PreS (nx_s X) H (nx_Pc Γ As M) As := ⟨nx_blind, fun U hU hWm => ⟨rfl, by rw [hU]; exact hH, hE.warm hWm⟩⟩
  have c1 : (nx_rm d' M (out r).2).frames + 1 ≤ (nx_R X).frames := by rw [hR]; exact hd
  have c2 : 8 + (nL' + 11) + (nx_rm d' M (out r).2).locals ≤ (nx_R X).locals := by
    rw [hR]
    show 8 + (nL' + 11) + 40 * d' ≤ 40 * Y.2.2.2.2.2
    omega
  have c3 : M.2.1 - Z.1.2.1 + ((out r).2.2.1 - M.2.1) ≤ (nx_R X).cells ∧ M.2.2 - Z.1.2.2 + ((out r).2.2.2 - M.2.2) ≤ (nx_R X).slots := by
    rw [hR]
    show _ ≤ Z.2.2.2.1 - Z.1.2.1 ∧ _ ≤ Z.2.2.2.2 - Z.1.2.2
    omega
  rcases w6 with w6 | ⟨host, w6⟩
  · exact va_runS (Ts := nx_TB) (own := Y.1) (nL := Y.2.2.1) ⟨hx, hb, hml, hown, hts⟩ hM ⟨⟨rfl, rfl, c1, c2, nx_wsW hts w1, List.mem_cons_self, hts _ w1, hts _ w2, w3, nx_plen w4, hts _ w6⟩, hts _ cs⟩ hpre rfl hn hL.1 hs (nx_catW hW) d c3
  · exact va_runSN (Ts := nx_TB) (own := Y.1) (nL := Y.2.2.1) (host := host) ⟨hx, hb, hml, hown, hts⟩ hM ⟨⟨⟨rfl, rfl, c1, c2, nx_wsW hts w1, List.mem_cons_self⟩, hts _ w1, hts _ w2, w3, nx_plen w4, va_Nw.use rfl (hE.2.1 _ w6 rfl)⟩, hts _ cs, trivial⟩ hpre rfl hn hL.1 hs (nx_catW hW) d c3
end NXC
section NXT
/-- the locals at a method's entry -/
def nx_L0 (nL : Nat) (as : List Value) : List (Option Value) := ((lg_sl as).map fun s => match s with
  | .val v => some v
  | _ => none) ++ List.replicate (nL - (lg_sl as).length) none
theorem nx_entry (as : List Value) {nL : Nat} (h : (lg_sl as).length ≤ nL) : nx_Lr nL (nx_L0 nL as) ((lg_sl as ++ List.replicate (nL - (lg_sl as).length) Slot.unset).toArray) := by
  obtain ⟨h1, h2, h3⟩ := lv_entry as h
  refine ⟨h1, h2, by simp [nx_L0]; omega, fun i v hi => ?_⟩
  unfold nx_L0 at hi
  by_cases hl : i < (lg_sl as).length
  · rw [List.getElem?_append_left (by simpa using hl), List.getElem?_map] at hi
    simp only [List.getElem?_toArray]
    rw [List.getElem?_append_left hl]
    cases hs : (lg_sl as)[i]? with
    | none => rw [hs] at hi; cases hi
    | some s =>
      rw [hs] at hi
      cases s with
      | val w =>
        have : w = v := by simpa using hi
        rw [this]
      | _ => simp at hi
  · rw [List.getElem?_append_right (by simpa using Nat.not_lt.mp hl)] at hi
    have := List.eq_of_mem_replicate (List.mem_of_getElem? hi)
    cases this
/-- a contract out of a judgement of the body -/
theorem nx_ct {l : Launch} {Γ : nx_G} {d nL : Nat} {y : MethodName} {cc : ByteArray} {ret : Option FieldType} {as : List Value} {M : nx_M} {α : Type} {out : α → Option Value × nx_M} {o : Option α} {a : α} (ls : List (Option Value)) (hy : plainName y.cls = true) (ho : o = some a) (hlen : (lg_sl as).length ≤ nL) (hls : nx_L0 nL as = ls)
    (j : ∀ (X : nx_X) (Z : nx_Z), X.2.1 = l → nx_J Γ X (y.cls, cc, nL, ret, y.name, d) Z (fun a => .inr (out a)) (.inl (0, ls, [], M)) o) : nx_Ct l Γ d y cc nL ret as M (out a) := by
  subst hls
  · refine ⟨fun X hX => (j X (M, out a) hX a ho).1, Met.ofW (cc := cc) (maxL := nL) (ret := ret) hy rfl ?_⟩
    intro p e s m args below meth c s₁ B hml hv
    obtain ⟨rfl, hH, hE⟩ := hv
    have hts := atoms_spec (ws := (Cond.code y cc nL ret :: nx_TB)) B.pre
    have hown : s.vm.findClass y.cls = some m.cls := findClass_of_methodNamed B.named
    have hK : nx_K Γ (p, l, e, (headSpec (Cond.code y cc nL ret :: nx_TB) (nx_rm d M (out a).2)).room, s, m, as.toArray, below, meth, c, MQ below (nx_Qc Γ (out a).1 (out a).2) as.toArray s ((out a).2.2.1 - M.2.1) ((out a).2.2.2 - M.2.2) (nx_A Γ)) (y.cls, cc, nL, ret, y.name, d) (M, out a) :=
      ⟨B.exec, B.bytes, B.returns, B.notSynchronized, hml, hown, (name_of_methodNamed B.named B.method).1, fun w hw => hts w (List.mem_cons_of_mem _ hw), hE, rfl, fun _ h => h⟩
    obtain ⟨-, w⟩ := j (p, l, e, (headSpec (Cond.code y cc nL ret :: nx_TB) (nx_rm d M (out a).2)).room, s, m, as.toArray, below, meth, c, MQ below (nx_Qc Γ (out a).1 (out a).2) as.toArray s ((out a).2.2.1 - M.2.1) ((out a).2.2.2 - M.2.2) (nx_A Γ)) (M, out a) rfl a ho
    obtain ⟨-, -, w⟩ := w hK rfl (Nat.le_refl _) (Nat.le_refl _)
    rw [lg_entry_eq]
    have := w s.heap [] _ hH (fun _ h => by cases h) (nx_entry as hlen)
    have z1 : M.2.1 - M.2.1 = 0 := Nat.sub_self _
    have z2 : M.2.2 - M.2.2 = 0 := Nat.sub_self _
    dsimp only at this
    rw [z1, z2] at this
    exact this
end NXT
