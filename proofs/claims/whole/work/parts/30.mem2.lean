def nx_al (M : nx_M) (e : va_E) (sz : Nat) : nx_M := (fun b => if b = M.2.1 then some e else M.1 b, M.2.1 + 1, M.2.2 + sz)
theorem nx_Hold.al {Γ : nx_G} {M : nx_M} {H H' : Heap} {e : va_E} {sz : Nat} (h : nx_Hold Γ M H) (hat : va_at Γ.2.2.1 vwCl (M.2.1, e) H') (hz : H'.size = H.size + 1) (hne : ∀ q : Nat, q < H.size → H'[q]? = H[q]?) : nx_Hold Γ (nx_al M e sz) H' := by
  refine ⟨by rw [hz, h.1]; rfl, Nat.le_trans h.2.1 (Nat.le_succ _), fun b x hb => ?_, fun q hq => ?_⟩
  · unfold nx_al at hb
    dsimp only at hb
    by_cases hab : b = M.2.1
    · rw [if_pos hab] at hb
      cases hb
      subst hab
      exact ⟨h.2.1, hat⟩
    · rw [if_neg hab] at hb
      obtain ⟨g1, g2⟩ := h.2.2.1 _ _ hb
      exact ⟨g1, g2.kept (hne b g2.lt)⟩
  · have h1 := h.2.1
    have h2 := h.1
    rw [hne q (by omega)]
    exact h.2.2.2 q hq
def nx_rdq (n : Nat) (f : Nat → Option Nat) (i : Int32) : Option (Option Nat) := if i < 0 ∨ n ≤ i.toNatClampNeg then none else some (f i.toNatClampNeg)
def nx_wrq (n : Nat) (f : Nat → Option Nat) (i : Int32) (x : Nat) : Option (Nat → Option Nat) := if i < 0 ∨ n ≤ i.toNatClampNeg then none else some (va_up f i.toNatClampNeg (some x))
/-- a class that is made here -/
def nx_CN (own : String) (idx ci : Nat) (fs : List Value) (N : Nat) : Prop := ∃ (C : String) (T : u_T) (ty : Nat → FieldType), vwCl[ci]? = some (C, T, N) ∧ (∀ w ∈ u_ws C T N, w ∈ nx_TB) ∧ (∀ k, k < N → parseFieldDescriptor (T k).2.2.1 = some (ty k)) ∧ Cond.classLink own idx C ∈ nx_TB ∧ Cond.instantiable C N ∈ nx_TB ∧ Cond.initialized C ∈ nx_TB ∧ (∀ j, j < N → defaultValue (ty j) = vp_V fs j)
section NXA
variable {Γ : nx_G} {X : nx_X} {Y : nx_Y} {Z : nx_Z} {α β : Type} {C : α → nx_C} {pc q : Nat} {ls : List (Option Value)} {st stk : List Value} {M : nx_M} {o : Option α}
theorem nx_liftA {e : va_E} {sz : Nat} {st' : List Value} (hs : nx_K Γ X Y Z → ∀ (H : Heap) (locs : List Loc) (L : Array Slot) (n k : Nat), nx_Hold Γ M H → nx_Lr Y.2.2.1 ls L → n + 1 ≤ (nx_R X).cells → k + sz ≤ (nx_R X).slots → (∀ H', nx_Hold Γ (nx_al M e sz) H' → nx_W X H' locs (n + 1) (k + sz) (F0 (nx_m X) q L st')) → nx_W X H locs n k (F0 (nx_m X) pc L st))
    (k : nx_J Γ X Y Z C (.inl (q, ls, st', nx_al M e sz)) o) : nx_J Γ X Y Z C (.inl (pc, ls, st, M)) o := by
  intro a ha
  obtain ⟨l1, w1⟩ := k a ha
  have l1a : M.2.1 + 1 ≤ (nx_mm (C a)).1 := l1.1
  have l1b : M.2.2 + sz ≤ (nx_mm (C a)).2 := l1.2
  refine ⟨⟨by show M.2.1 ≤ _; omega, by show M.2.2 ≤ _; omega⟩, fun K h h1 h2 => ?_⟩
  have h1 : Z.1.2.1 ≤ M.2.1 := h1
  have h2 : Z.1.2.2 ≤ M.2.2 := h2
  obtain ⟨e1, e2, w⟩ := w1 K h (by show Z.1.2.1 ≤ M.2.1 + 1; omega) (by show Z.1.2.2 ≤ M.2.2 + sz; omega)
  have e1 : M.2.1 + 1 ≤ Z.2.2.2.1 := e1
  have e2 : M.2.2 + sz ≤ Z.2.2.2.2 := e2
  have hR := K.2.2.2.2.2.2.2.2.2.1
  refine ⟨by show M.2.1 ≤ Z.2.2.2.1; omega, by show M.2.2 ≤ Z.2.2.2.2; omega, fun H locs L hH hl hL => ?_⟩
  refine hs K H locs L _ _ hH hL ?_ ?_ (fun H' hH' => ?_)
  · rw [hR]
    show M.2.1 - Z.1.2.1 + 1 ≤ Z.2.2.2.1 - Z.1.2.1
    omega
  · rw [hR]
    show M.2.2 - Z.1.2.2 + sz ≤ Z.2.2.2.2 - Z.1.2.2
    omega
  · have hw := w H' locs L hH' hl hL
    have z1 : M.2.1 + 1 - Z.1.2.1 = M.2.1 - Z.1.2.1 + 1 := by omega
    have z2 : M.2.2 + sz - Z.1.2.2 = M.2.2 - Z.1.2.2 + sz := by omega
    have hw2 : nx_W X H' locs (M.2.1 + 1 - Z.1.2.1) (M.2.2 + sz - Z.1.2.2) (F0 (nx_m X) q L st') := hw
    rw [z1, z2] at hw2
    exact hw2
theorem nx_new {ci idx N : Nat} {fs : List Value} (cn : nx_CN Y.1 idx ci fs N) (d : decode Y.2.1 pc = .ok (.new idx, 3)) (hq : pc + 3 = q) (k : nx_J Γ X Y Z C (.inl (q, ls, .ref M.2.1 :: st, nx_al M (.inr (ci, fs)) N)) o) : nx_J Γ X Y Z C (.inl (pc, ls, st, M)) o := by
  subst hq
  obtain ⟨Cn, T, ty, h1, h2, h3, h4, h5, h6, h7⟩ := cn
  refine nx_liftA (fun K H locs L n kk hH hL c1 c2 w => ?_) k
  have hts := K.2.2.2.2.2.2.2.1
  have hKn := K.2.2.2.2.2.2.2.2.1.1.1 ci _ h1
  refine W.newcK K.1 K.2.1 K.2.2.2.2.2.1 (hts _ h4) (hts _ h5) (hts _ h6) rfl d c1 c2 hKn.2.1 hH.1 fun H1 kC hkC e1 z1 o1 => ?_
  exact w H1 (hH.al ⟨_, h1, (u_born ty hts h2 hKn hkC e1 h3).to h7⟩ (by rw [z1, hH.1]) (fun q hq => o1 q (by rw [← hH.1]; exact hq)))
theorem nx_newI {n : Int32} {N : Nat} (hw : Cond.arrayClass .int ∈ nx_TB) (hn : ¬ n < 0) (hN : n.toNatClampNeg = N) (hb : N * 4 ≤ 536870912) (d : decode Y.2.1 pc = .ok (.newarray .int, 2)) (hq : pc + 2 = q) (k : nx_J Γ X Y Z C (.inl (q, ls, .ref M.2.1 :: st, nx_al M (.inl (Γ.2.2.2.1 0, N, .inl (fun _ => 0))) N)) o) : nx_J Γ X Y Z C (.inl (pc, ls, .int n :: st, M)) o := by
  subst hq
  refine nx_liftA (fun K H locs L n' kk hH hL c1 c2 w => ?_) k
  have hts := K.2.2.2.2.2.2.2.1
  have hra : (nx_s X).vm.findClass ("[" ++ (FieldType.int).toString) = some (Γ.2.2.2.1 0) := (K.2.2.2.2.2.2.2.2.1.1.2 0 (Γ.2.2.2.1 0, .int) rfl).2
  refine va_newaK (atype := .int) K.1 K.2.1 (hts _ hw) rfl d rfl hn hN hb c1 c2 hH.1 fun H1 cA e1 z1 o1 hAr hNm => ?_
  have hc : cA = Γ.2.2.2.1 0 := Option.some.inj (hNm.symm.trans hra)
  subst hc
  exact w H1 (hH.al e1 (by rw [z1, hH.1]) (fun q hq => o1 q (by rw [← hH.1]; exact hq)))
theorem nx_newJ {n : Int32} {N : Nat} (hw : Cond.arrayClass .long ∈ nx_TB) (hn : ¬ n < 0) (hN : n.toNatClampNeg = N) (hb : N * 8 ≤ 536870912) (d : decode Y.2.1 pc = .ok (.newarray .long, 2)) (hq : pc + 2 = q) (k : nx_J Γ X Y Z C (.inl (q, ls, .ref M.2.1 :: st, nx_al M (.inl (Γ.2.2.2.1 1, N, .inr (.inl (fun _ => 0)))) N)) o) : nx_J Γ X Y Z C (.inl (pc, ls, .int n :: st, M)) o := by
  subst hq
  refine nx_liftA (fun K H locs L n' kk hH hL c1 c2 w => ?_) k
  have hts := K.2.2.2.2.2.2.2.1
  have hra : (nx_s X).vm.findClass ("[" ++ (FieldType.long).toString) = some (Γ.2.2.2.1 1) := (K.2.2.2.2.2.2.2.2.1.1.2 1 (Γ.2.2.2.1 1, .long) rfl).2
  refine va_newaK (atype := .long) K.1 K.2.1 (hts _ hw) rfl d rfl hn hN hb c1 c2 hH.1 fun H1 cA e1 z1 o1 hAr hNm => ?_
  have hc : cA = Γ.2.2.2.1 1 := Option.some.inj (hNm.symm.trans hra)
  subst hc
  exact w H1 (hH.al e1 (by rw [z1, hH.1]) (fun q hq => o1 q (by rw [← hH.1]; exact hq)))
theorem nx_newQ {n : Int32} {N t idx : Nat} {Cn : String} (hw : Cn = "LateStamps$World" ∨ Cn = "LateStamps$Script") (hl : Cond.classLink Y.1 idx Cn ∈ nx_TB) (ht : (nx_tys Γ)[t]? = some (Γ.2.2.2.1 t, .object Cn)) (hn : ¬ n < 0) (hN : n.toNatClampNeg = N) (hb : N * 4 ≤ 536870912) (d : decode Y.2.1 pc = .ok (.anewarray idx, 3)) (hq : pc + 3 = q) (k : nx_J Γ X Y Z C (.inl (q, ls, .ref M.2.1 :: st, nx_al M (.inl (Γ.2.2.2.1 t, N, .inr (.inr (.inr (.inr (fun _ => none)))))) N)) o) : nx_J Γ X Y Z C (.inl (pc, ls, .int n :: st, M)) o := by
  subst hq hN
  refine nx_liftA (fun K H locs L n' kk hH hL c1 c2 w => ?_) k
  have hts := K.2.2.2.2.2.2.2.1
  obtain ⟨kA0, comp0, g1, g2, g3, g4⟩ := (K.2.2.2.2.2.2.2.2.1.1.2 t _ ht).2
  have hao : va_AO Cn (nx_s X) := by
    rcases hw with rfl | rfl
    · exact K.2.2.2.2.2.2.2.2.1.2.2.2.1
    · exact K.2.2.2.2.2.2.2.2.1.2.2.2.2
  refine W.anew K.1 K.2.1 K.2.2.2.2.2.1 (hts _ hl) (va_AO.use hao) rfl d rfl hn hb c1 c2 fun cA kA comp f1 f2 f3 f4 => ?_
  have hc : cA = Γ.2.2.2.1 t := Option.some.inj (f1.symm.trans g4)
  subst hc
  rw [hH.1]
  refine w _ (hH.al ?_ (by rw [Array.size_push]) (fun q hq => by rw [Array.getElem?_push, if_neg (Nat.ne_of_lt hq)]))
  show (H.push _)[M.2.1]? = some (vp_cell _ _)
  rw [← hH.1, Array.getElem?_push_size, vp_cell_q, arrV_new]
  rfl
theorem nx_aald {a n t : Nat} {Cn : String} {f : Nat → Option Nat} {i : Int32} {g : Option Nat → Option α} (ht : (nx_tys Γ)[t]? = some (Γ.2.2.2.1 t, .object Cn)) (hμ : M.1 a = some (.inl (Γ.2.2.2.1 t, n, .inr (.inr (.inr (.inr f)))))) (d : decode Y.2.1 pc = .ok (.aaload, 1)) (hq : pc + 1 = q) (k : ∀ x, nx_J Γ X Y Z C (.inl (q, ls, va_rf x :: st, M)) (g x)) : nx_J Γ X Y Z C (.inl (pc, ls, .int i :: .ref a :: st, M)) ((nx_rdq n f i).bind g) := by
  subst hq
  intro z hz
  obtain ⟨hc, h⟩ := nx_opt hz
  exact nx_lift (fun K H locs L n k hH hL w => va_aldq K.1 K.2.1 K.2.2.2.2.2.2.2.2.1.1 (hH.P hμ) 0 t rfl ht hc d w) (k _) z h
theorem nx_aast {a n t v ci : Nat} {Cn : String} {T : u_T} {N : Nat} {f : Nat → Option Nat} {i : Int32} {vs : List Value} {g : (Nat → Option Nat) → Option α} (ht : (nx_tys Γ)[t]? = some (Γ.2.2.2.1 t, .object Cn)) (hc : vwCl[ci]? = some (Cn, T, N)) (hμ : M.1 a = some (.inl (Γ.2.2.2.1 t, n, .inr (.inr (.inr (.inr f)))))) (hv : M.1 v = some (.inr (ci, vs))) (d : decode Y.2.1 pc = .ok (.aastore, 1)) (hq : pc + 1 = q) (k : ∀ f', nx_J Γ X Y Z C (.inl (q, ls, st, nx_put M a (.inl (Γ.2.2.2.1 t, n, .inr (.inr (.inr (.inr f'))))))) (g f')) : nx_J Γ X Y Z C (.inl (pc, ls, .ref v :: .int i :: .ref a :: st, M)) ((nx_wrq n f i v).bind g) := by
  subst hq
  intro z hz
  obtain ⟨hin, h⟩ := nx_opt hz
  refine nx_liftM (M := M) (M' := nx_put M a _) rfl (fun K H locs L n' k' hH hl hL w => ?_) (k _) z h
  have hK := K.2.2.2.2.2.2.2.2.1.1
  have hlt : i.toNatClampNeg < n := Nat.not_le.mp fun q => hin (Or.inr q)
  have h0 : ¬ i < 0 := fun q => hin (Or.inl q)
  obtain ⟨r', hr', cellV, g1, g2, g3, -⟩ := (hH.2.2.1 _ _ hv).2
  have hcls := (hK.1 ci _ hc).2
  obtain ⟨kA, comp, k1, k2, k3, -⟩ := (hK.2 t _ ht).2
  have hcomp : comp = Γ.2.2.1.1 ci := Option.some.inj (k3.symm.trans hcls.1)
  subst hcomp
  obtain ⟨kC, hkC, -⟩ := hcls.2
  have hat : va_at Γ.2.2.1 vwCl (a, .inl (Γ.2.2.2.1 t, n, .inr (.inr (.inr (.inr f))))) H := (hH.2.2.1 _ _ hμ).2
  refine W.aast K.1 K.2.1 hat (fun q h => by cases h) (fun h => by cases h) k1 k2 rfl hkC ⟨h0, by show _ < (arrV _ _ _).slots.size; rw [arrV_size]; exact hlt⟩ g1 (fun q h => by rw [g3] at h; cases h) (by rw [g2]; exact hkC) (by rw [g2]; exact va_assign hcls) rfl rfl d fun H1 e z1 oq => ?_
  refine w H1 _ (hH.put hμ ?_ z1 oq) (nx_locs hl (hH.2.2.1 _ _ hμ).1)
  show H1[a]? = some (vp_cell _ _)
  rw [e, vp_cell_q, vp_cell_q, arrV_store]
  congr 2
  funext q
  by_cases hq : q = i.toNatClampNeg
  · subst hq
    simp [updV, va_up, va_rf]
  · simp [updV, va_up, hq]
theorem nx_lald {a n : Nat} {f : Nat → Int64} {i : Int32} {g : Int64 → Option α} (hμ : M.1 a = some (.inl (Γ.2.2.2.1 1, n, .inr (.inl f)))) (d : decode Y.2.1 pc = .ok (.laload, 1)) (hq : pc + 1 = q) (k : ∀ x, nx_J Γ X Y Z C (.inl (q, ls, .long x :: st, M)) (g x)) : nx_J Γ X Y Z C (.inl (pc, ls, .int i :: .ref a :: st, M)) ((if i < 0 ∨ n ≤ i.toNatClampNeg then none else some (f i.toNatClampNeg) : Option Int64).bind g) := by
  subst hq
  intro z hz
  obtain ⟨hc, h⟩ := nx_opt hz
  exact nx_lift (fun K H locs L n k hH hL w => va_lald K.1 K.2.1 K.2.2.2.2.2.2.2.2.1.1 (hH.P hμ) 0 1 rfl rfl hc d w) (k _) z h
/-- a static array of StoreText -/
theorem nx_gets {j idx : Nat} (hj : j < 4) (hl : Cond.fieldLink Y.1 idx "LateStamps$StoreText" (nx_sn j) "[I" ∈ nx_TB) (d : decode Y.2.1 pc = .ok (.getstatic idx, 3)) (hq : pc + 3 = q) (k : nx_J Γ X Y Z C (.inl (q, ls, .ref (Γ.2.2.2.2 j) :: st, M)) o) : nx_J Γ X Y Z C (.inl (pc, ls, st, M)) o := by
  subst hq
  refine nx_lift (fun K H locs L n k hH hL w => ?_) k
  obtain ⟨cf, kf, fi, f, a, cell, h1, h2, h3, h4, h5, h6, h7, h8⟩ := (K.2.2.2.2.2.2.2.2.1.2.2.1 j hj).1
  have ha : a < Γ.1 := Nat.not_le.mp h8
  exact W.gets K.1 K.2.1 K.2.2.2.2.2.1 (K.2.2.2.2.2.2.2.1 _ hl) h1 h2 h3 h4 (by rw [hH.2.2.2 a ha]; exact h5) (fun e => by rw [e] at h6; cases h6) h7 rfl d w
theorem nx_sald {j : Nat} {i : Int32} {g : Int32 → Option α} (hj : j < 4) (d : decode Y.2.1 pc = .ok (.iaload, 1)) (hq : pc + 1 = q) (k : ∀ x, nx_J Γ X Y Z C (.inl (q, ls, .int x :: st, M)) (g x)) : nx_J Γ X Y Z C (.inl (pc, ls, .int i :: .ref (Γ.2.2.2.2 j) :: st, M)) ((nx_rd 3 (nx_sv j) i).bind g) := by
  subst hq
  intro z hz
  obtain ⟨hc, h⟩ := nx_opt hz
  refine nx_lift (fun K H locs L n k hH hL w => ?_) (k _) z h
  obtain ⟨cell, h1, h2, h3, h4, h5, h6, h7⟩ := (K.2.2.2.2.2.2.2.2.1.2.2.1 j hj).2
  have ha : Γ.2.2.2.2 j < Γ.1 := Nat.not_le.mp h7
  have hlt : i.toNatClampNeg < 3 := Nat.not_le.mp fun q => hc (Or.inr q)
  have hcell : H[Γ.2.2.2.2 j]? = some cell := by rw [hH.2.2.2 _ ha]; exact h1
  refine W.iald K.1 K.2.1 hcell h2 h3 (fun hz => hz.elim (fun a => hc (Or.inl a)) (fun a => by omega)) (h6 _ hlt) rfl rfl d w
theorem nx_objInit {a idx : Nat} (w1 : Cond.methodLink Y.1 idx Lib.objectInit ∈ nx_TB) (w2 : Cond.instanceMethod Lib.objectInit ∈ nx_TB) (w3 : Cond.code Lib.objectInit ⟨#[0xb1]⟩ 1 none ∈ nx_TB) (hd : 1 ≤ Y.2.2.2.2.2) (hW : (st.map fun v => v.category).sum ≤ 8) (d : decode Y.2.1 pc = .ok (.invokespecial idx, 3)) (hq : pc + 3 = q) (k : nx_J Γ X Y Z C (.inl (q, ls, st, M)) o) : nx_J Γ X Y Z C (.inl (pc, ls, .ref a :: st, M)) o := by
  subst hq
  refine nx_lift (fun K H locs L n k hH hL w => ?_) k
  have hR := K.2.2.2.2.2.2.2.2.2.1
  have hts := K.2.2.2.2.2.2.2.1
  refine W.objInit K.1 K.2.1 K.2.2.2.2.2.1 (hts _ w1) (hts _ w2) (hts _ w3) rfl (hL.1.trans K.2.2.2.2.1.symm) rfl d ?_ ?_ w
  · show 1 ≤ (nx_R X).frames
    rw [hR]; exact hd
  · show _ ≤ (nx_R X).locals
    rw [hR]
    have := nx_catW hW (m := nx_m X) (pc := pc) (L := L) (stk := .ref a :: st)
    show _ ≤ 40 * Y.2.2.2.2.2
    omega
theorem nx_callI {y' : MethodName} {cc' : ByteArray} {nL' d' idx n b : Nat} {oc : Option β} {mem : β → nx_M} {kk : β → Option α} (As : List Value) (cw : nx_CW Y.1 idx y' cc' nL' none n) (ci : Cond.instanceMethod y' ∈ nx_TB) (hy : y'.name = "<init>") (hct : ∀ r, oc = some r → nx_Ct X.2.1 Γ d' y' cc' nL' none (.ref b :: As) M (none, mem r))
    (hn : As.length = n) (hs : stk = As.reverse ++ .ref b :: st) (hW : (st.map fun v => v.category).sum ≤ 8) (hd : d' + 1 ≤ Y.2.2.2.2.2) (d : decode Y.2.1 pc = .ok (.invokespecial idx, 3)) (hq : pc + 3 = q)
    (k : ∀ r, nx_J Γ X Y Z C (.inl (q, ls, st, mem r)) (kk r)) : nx_J Γ X Y Z C (.inl (pc, ls, stk, M)) (oc.bind kk) := by
  subst hq
  refine nx_call (out := fun r => (none, mem r)) (fun r e => (hct r e).1 X rfl) (fun K r e g1 g2 z1 z2 H locs L hH hl hL => ?_) k
  obtain ⟨m0, hM⟩ := hct r e
  have m1 := m0 X rfl
  obtain ⟨w1, w2, w3, w4, w5, w6⟩ := cw
  obtain ⟨hx, hb, hr, hlk, hml, hown, hnm, hts, hE, hR, hQ⟩ := K
  dsimp only at z1 z2 m1
  have hpre : PreS (nx_s X) H (nx_Pc Γ (.ref b :: As) M) (.ref b :: As) := ⟨nx_blind, fun U hU hWm => ⟨rfl, by rw [hU]; exact hH, hE.warm hWm⟩⟩
  have c1 : (nx_rm d' M (mem r)).frames + 1 ≤ (nx_R X).frames := by rw [hR]; exact hd
  have c2 : 8 + (nL' + 11) + (nx_rm d' M (mem r)).locals ≤ (nx_R X).locals := by
    rw [hR]
    show 8 + (nL' + 11) + 40 * d' ≤ 40 * Y.2.2.2.2.2
    omega
  have c3 : M.2.1 - Z.1.2.1 + ((mem r).2.1 - M.2.1) ≤ (nx_R X).cells ∧ M.2.2 - Z.1.2.2 + ((mem r).2.2 - M.2.2) ≤ (nx_R X).slots := by
    rw [hR]
    show _ ≤ Z.2.2.2.1 - Z.1.2.1 ∧ _ ≤ Z.2.2.2.2 - Z.1.2.2
    omega
  rcases w6 with w6 | ⟨host, w6⟩
  · exact va_runI (Ts := nx_TB) (own := Y.1) (nL := Y.2.2.1) ⟨hx, hb, hml, hown, hts⟩ hM ⟨⟨rfl, rfl, c1, c2, nx_wsW hts w1, List.mem_cons_self, hts _ w1, hts _ w2, w3, nx_plen w4, hts _ w6⟩, hy, hts _ ci⟩ hpre rfl hn hL.1 hs (nx_catW hW) d c3
  · exact va_runIN (Ts := nx_TB) (own := Y.1) (nL := Y.2.2.1) (host := host) ⟨hx, hb, hml, hown, hts⟩ hM ⟨⟨⟨rfl, rfl, c1, c2, nx_wsW hts w1, List.mem_cons_self⟩, hts _ w1, hts _ w2, w3, nx_plen w4, va_Nw.use rfl (hE.2.1 _ w6 rfl)⟩, hy, hts _ ci⟩ hpre rfl hn hL.1 hs (nx_catW hW) d c3
/-- a final field, in its class's constructor -/
theorem nx_putfF {a ci idx kf : Nat} {fs : List Value} {v : Value} {ty : FieldType} (hF : nx_FL Y.1 idx ci kf) (hT : nx_FT ci kf true ty) (hown : ∃ T N, vwCl[ci]? = some (Y.1, T, N)) (hin : Y.2.2.2.2.1 = "<init>") (hμ : M.1 a = some (.inr (ci, fs))) (hn : narrow ty v = v) (hfit : fits ty v = true) (hl : kf < fs.length) (d : decode Y.2.1 pc = .ok (.putfield idx, 3)) (hq : pc + 3 = q) (k : nx_J Γ X Y Z C (.inl (q, ls, st, nx_put M a (.inr (ci, fs.set kf v)))) o) : nx_J Γ X Y Z C (.inl (pc, ls, v :: .ref a :: st, M)) o := by
  subst hq
  obtain ⟨C', T, N, h1, h2, h3, h4⟩ := hF
  obtain ⟨C2, T2, N2, ty0, g1, g2, g3, g4, g5, g6, g7⟩ := hT
  obtain ⟨T3, N3, h5⟩ := hown
  rw [h1] at g1 h5
  cases g1
  cases h5
  refine nx_liftM (M := M) (M' := nx_put M a _) rfl (fun K H locs L n' k' hH hlo hL w => ?_) k
  have hts := K.2.2.2.2.2.2.2.1
  have hK := K.2.2.2.2.2.2.2.2.1.1
  have hown := K.2.2.2.2.2.1
  have hap := va_apart (own := Y.1) (D := Γ.2.2.1) (cl := vwCl) (tys := nx_tys Γ) hts h3 ty0 g3 g4 hK h1
  obtain ⟨r, e1, cell, q1, q2, q3, q4⟩ := (hH.2.2.1 _ _ hμ).2
  have hr : r = (Y.1, T, N) := Option.some.inj (e1.symm.trans h1)
  subst hr
  obtain ⟨hS, hfc, kC, hkC, hkind⟩ := hK.1 ci _ h1
  obtain ⟨cf, kf2, fi, f, hi, hsl⟩ := hS kf h2
  have hlay := hts _ (h3 _ (u_in_lay h2))
  unfold u_lay at hlay
  rw [if_pos g5] at hlay
  have hst := (u_facts hfc hkC (u_lays hts h3 h2) hi).1
  have hcf : (nx_m X).cls = cf := by
    obtain ⟨_, _, c', _, _, _, -, -, hf', -, -, -, hown2, -⟩ := Cond.laysFinal_spec hlay
    have e1 : c' = cf := by have := hi.symm.trans hf'; simp at this; exact this.1.symm
    rw [g7 rfl] at hown2
    rw [← e1]; exact Option.some.inj (hown.symm.trans hown2)
  have h6 := u_fits hfc hkC hkind (Or.inr hlay) hi (by rw [g3 kf h2, g6]) hn hfit
  refine W.putFinK K.1 K.2.1 hown (hts _ h4) hi hst hcf (K.2.2.2.2.2.2.1.trans hin) (by rw [q2]; exact h6) q1 q3 (by rw [hsl]; exact k2_hasslot (q4 kf h2)) rfl rfl d fun H' x1 x2 x3 => ?_
  rw [hsl] at x1
  exact w H' _ (hH.put hμ ⟨_, h1, t_OB.to (V := updV (vp_V fs) kf v) ⟨_, x1, q2, q3, t_set q4 hap h2 v⟩ (fun j _ => vp_updV_set hl v j)⟩ x2 x3) (nx_locs hlo (hH.2.2.1 _ _ hμ).1)
end NXA
section NXY
variable {Γ : nx_G} {X : nx_X} {Y : nx_Y} {Z : nx_Z} {α : Type} {C : α → nx_C} {pc q : Nat} {ls : List (Option Value)} {st : List Value} {M : nx_M} {o : Option α}
/-- one row becomes as another of the same length -/
theorem nx_copy {a0 a N idx : Nat} {f g : Nat → Int32} {n : Int32} (w1 : Cond.methodLink Y.1 idx arraycopyName ∈ nx_TB) (w2 : Cond.native arraycopyName ∈ nx_TB) (w3 : Cond.static arraycopyName ∈ nx_TB) (w4 : Cond.initialized "java/lang/System" ∈ nx_TB) (h0 : M.1 a0 = some (.inl (Γ.2.2.2.1 0, N, .inl f))) (h1 : M.1 a = some (.inl (Γ.2.2.2.1 0, N, .inl g))) (hn : ¬ n < 0) (hN : n.toNatClampNeg = N) (hd : 1 ≤ Y.2.2.2.2.2) (hW : (st.map fun v => v.category).sum + (nativeFrameWords "java/lang/System" "arraycopy" 5 + 11) ≤ 40)
    (d : decode Y.2.1 pc = .ok (.invokestatic idx, 3)) (hq : pc + 3 = q) (k : nx_J Γ X Y Z C (.inl (q, ls, st, nx_put M a (.inl (Γ.2.2.2.1 0, N, .inl (va_cpy f g 0 0 N))))) o) : nx_J Γ X Y Z C (.inl (pc, ls, .int n :: .int (iz 0) :: .ref a :: .int (iz 0) :: .ref a0 :: st, M)) o := by
  subst hq
  refine nx_liftM (M := M) (M' := nx_put M a _) rfl (fun K H locs L n' k' hH hl hL w => ?_) k
  have hts := K.2.2.2.2.2.2.2.1
  have hK := K.2.2.2.2.2.2.2.2.1.1
  have hR := K.2.2.2.2.2.2.2.2.2.1
  have z0 : ¬ (iz 0) < (0 : Int32) := by decide +kernel
  have zc : (iz 0).toNatClampNeg = 0 := by decide +kernel
  have hc0 : H[a0]? = some (vp_cell (Γ.2.2.2.1 0) (N, .inl f)) := (hH.2.2.1 _ _ h0).2
  have hc1 : H[a]? = some (vp_cell (Γ.2.2.2.1 0) (N, .inl g)) := (hH.2.2.1 _ _ h1).2
  have nn : ∀ z : Int32, ¬ z < 0 → z.toInt = (z.toNatClampNeg : Int) := by
    intro z hz
    have hz0 : (0 : Int) ≤ z.toInt := by
      have := Int32.not_lt.mp hz
      simpa using Int32.le_iff_toInt_le.mp this
    show z.toInt = ((z.toInt.toNat : Nat) : Int)
    omega
  intro T hT X0
  obtain ⟨-, k0, hk0, cm0, hkk0⟩ := (hK.2 0 (Γ.2.2.2.1 0, .int) rfl).1 N (fun j => .int (f j))
  obtain ⟨-, k1, hk1, cm1, hkk1⟩ := (hK.2 0 (Γ.2.2.2.1 0, .int) rfl).1 N (fun j => .int (g j))
  have hfr : 1 ≤ (nx_R X).frames := by rw [hR]; exact hd
  have hlo : 2 * 0 + (st.map fun v => v.category).sum + (nativeFrameWords "java/lang/System" "arraycopy" 5 + 11) ≤ (nx_R X).locals := by
    rw [hR]
    show _ ≤ 40 * Y.2.2.2.2.2
    omega
  obtain ⟨vm', X', step⟩ := X0.arraycopy K.1 K.2.2.2.2.2.1 (hts _ w1) (hts _ w2) (hts _ w3) (hts _ w4) (src := a0) (dst := a) (cs := vp_cell (Γ.2.2.2.1 0) (N, .inl f)) (cd := vp_cell (Γ.2.2.2.1 0) (N, .inl g)) (srcPos := iz 0) (destPos := iz 0) (n := n) (by rw [hT]; exact hc0) (by rw [hT]; exact hc1)
    (fun _ h => by cases h) (fun _ h => by cases h) (fun h => by cases h) (fun h => by cases h) hk0 hk1 hkk0 hkk1 (by simp [refKind]) z0 z0 hn
    (by rw [nn _ z0, nn n hn, zc, hN]; show ¬ _ > ((arrV _ N (fun j => .int (f j))).slots.size : Int); rw [arrV_size]; omega)
    (by rw [nn _ z0, nn n hn, zc, hN]; show ¬ _ > ((arrV _ N (fun j => .int (g j))).slots.size : Int); rw [arrV_size]; omega)
    (fun vm₁ _ i hi => by
      have e : (vp_cell (Γ.2.2.2.1 0) (N, .inl f)).slots.getD ((iz 0).toNatClampNeg + i) .null = .int (f i) := by
        rw [zc, Nat.zero_add]
        show (arrV _ N (fun j => .int (f j))).slots.getD _ _ = _
        rw [Array.getD_eq_getD_getElem?, arrV_read _ _ (by omega)]
        rfl
      refine ⟨?_, ?_⟩
      · rw [e]
        rfl
      · rw [e]
        exact trivial)
    (g := F0 (nx_m X) pc L (.int n :: .int (iz 0) :: .ref a :: .int (iz 0) :: .ref a0 :: st)) rfl (by rw [hL.1]; exact K.2.2.2.2.1.symm) (rest := st) rfl (by rw [K.2.1]; exact d) hfr hlo
  have e1 : copied (vp_cell (Γ.2.2.2.1 0) (N, .inl f)) (vp_cell (Γ.2.2.2.1 0) (N, .inl g)) (iz 0) (iz 0) n = vp_cell (Γ.2.2.2.1 0) (N, .inl (va_cpy f g 0 0 N)) := by
    have := va_copied (fun z => Value.int z) (Γ.2.2.2.1 0) (Γ.2.2.2.1 0) (n0 := N) (n1 := N) (sp := (iz 0).toNatClampNeg) (dp := (iz 0).toNatClampNeg) (n := n.toNatClampNeg) f g (by rw [zc, hN]; omega)
    rw [show va_cpy f g 0 0 N = va_cpy f g (iz 0).toNatClampNeg (iz 0).toNatClampNeg n.toNatClampNeg by rw [zc, hN]]
    exact this
  rw [e1] at X' step
  have hlt : a < H.size := (Array.getElem?_eq_some_iff.mp hc1).1
  have hheap : ((T.setVm vm').setCell a (vp_cell (Γ.2.2.2.1 0) (N, .inl (va_cpy f g 0 0 N)))).heap = H.setIfInBounds a (vp_cell (Γ.2.2.2.1 0) (N, .inl (va_cpy f g 0 0 N))) := by rw [← hT]; rfl
  have oq : ∀ q : Nat, q ≠ a → (H.setIfInBounds a (vp_cell (Γ.2.2.2.1 0) (N, .inl (va_cpy f g 0 0 N))))[q]? = H[q]? := fun q hq => by simp [Array.getElem?_setIfInBounds, Ne.symm hq]
  obtain ⟨t, a1, b1⟩ := w _ _ (hH.put h1 (show (H.setIfInBounds a _)[a]? = some _ by simp [Array.getElem?_setIfInBounds, hlt]) (by simp) oq) (fun x hx => by
      rcases List.mem_append.mp hx with h | h
      · exact hl x h
      · obtain ⟨z, -, hz⟩ := List.mem_map.mp h
        rw [← hz]
        exact (hH.2.2.1 _ _ h1).1) _ hheap X'
  exact ⟨t, step t a1, b1⟩
end NXY
