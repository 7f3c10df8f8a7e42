def nx_put (M : nx_M) (a : Nat) (e : va_E) : nx_M := (fun b => if b = a then some e else M.1 b, M.2)
theorem nx_put_self {M : nx_M} {a : Nat} {e : va_E} : (nx_put M a e).1 a = some e := by simp [nx_put]
theorem nx_put_ne {M : nx_M} {a b : Nat} {e : va_E} (h : b ≠ a) : (nx_put M a e).1 b = M.1 b := by simp [nx_put, h]
theorem nx_put_put {M : nx_M} {a : Nat} {e e' : va_E} : nx_put (nx_put M a e) a e' = nx_put M a e' := by
  unfold nx_put
  congr 1
  funext b
  by_cases h : b = a <;> simp [h]
theorem nx_put_id {M : nx_M} {a : Nat} {e : va_E} (h : M.1 a = some e) : nx_put M a e = M := by
  obtain ⟨μ, n, k⟩ := M
  unfold nx_put
  congr 1
  funext b
  by_cases hb : b = a
  · subst hb; simp; exact h.symm
  · simp [hb]
theorem nx_Hold.put {Γ : nx_G} {M : nx_M} {H H' : Heap} {a : Nat} {e0 e : va_E} (h : nx_Hold Γ M H) (ha : M.1 a = some e0) (hat : va_at Γ.2.2.1 vwCl (a, e) H') (hz : H'.size = H.size) (hne : ∀ q : Nat, q ≠ a → H'[q]? = H[q]?) : nx_Hold Γ (nx_put M a e) H' := by
  refine ⟨hz.trans h.1, h.2.1, fun b x hb => ?_, fun q hq => ?_⟩
  · by_cases hab : b = a
    · subst hab
      rw [nx_put_self] at hb
      cases hb
      exact ⟨(h.2.2.1 _ _ ha).1, hat⟩
    · rw [nx_put_ne hab] at hb
      exact ⟨(h.2.2.1 _ _ hb).1, (h.2.2.1 _ _ hb).2.kept (hne b hab)⟩
  · have h1 := (h.2.2.1 _ _ ha).1
    rw [hne q (by omega)]
    exact h.2.2.2 q hq
theorem nx_Hold.P {Γ : nx_G} {M : nx_M} {H : Heap} {a : Nat} {e : va_E} (h : nx_Hold Γ M H) (ha : M.1 a = some e) : va_P Γ.2.2.1 vwCl [(a, e)] H := by
  intro k q hk
  cases k with
  | zero => cases hk; exact (h.2.2.1 _ _ ha).2
  | succ k => simp at hk
theorem nx_locs {Γ : nx_G} {locs : List Loc} {a i : Nat} (h : ∀ x ∈ locs, nx_A Γ x.base) (ha : Γ.1 ≤ a) : ∀ x ∈ locs ++ [⟨a, i⟩], nx_A Γ x.base := t_lc h ha
def nx_rd (n : Nat) (f : Nat → Int32) (i : Int32) : Option Int32 := if i < 0 ∨ n ≤ i.toNatClampNeg then none else some (f i.toNatClampNeg)
def nx_wr (n : Nat) (f : Nat → Int32) (i x : Int32) : Option (Nat → Int32) := if i < 0 ∨ n ≤ i.toNatClampNeg then none else some (upd f i.toNatClampNeg x)
/-- a field's words -/
def nx_FL (own : String) (idx ci k : Nat) : Prop := ∃ (C : String) (T : u_T) (N : Nat), vwCl[ci]? = some (C, T, N) ∧ k < N ∧ (∀ w ∈ u_ws C T N, w ∈ nx_TB) ∧ Cond.fieldLink own idx (T k).1 (T k).2.1 (T k).2.2.1 ∈ nx_TB
def nx_FN (own : String) (idx ci k : Nat) : Prop := ∃ (C : String) (T : u_T) (N : Nat) (host : String), vwCl[ci]? = some (C, T, N) ∧ k < N ∧ (∀ w ∈ u_ws C T N, w ∈ nx_TB) ∧ Cond.fieldLinkNest own idx (T k).1 (T k).2.1 (T k).2.2.1 host ∈ tables_1
/-- a field that may be written: its type, not final -/
def nx_FT (ci k : Nat) (fin : Bool) (ty : FieldType) : Prop := ∃ (C : String) (T : u_T) (N : Nat) (ty0 : Nat → FieldType), vwCl[ci]? = some (C, T, N) ∧ k < N ∧ (∀ j, j < N → parseFieldDescriptor (T j).2.2.1 = some (ty0 j)) ∧ (∀ a, a < N → ∀ b, b < N → a ≠ b → (T a).2.1 ≠ (T b).2.1) ∧ (T k).2.2.2 = fin ∧ ty0 k = ty ∧ (fin = true → (T k).1 = C)
/-- a callee's words at a call by its class's own pool -/
def nx_CW (own : String) (idx : Nat) (y : MethodName) (cc : ByteArray) (nL : Nat) (ret : Option FieldType) (n : Nat) : Prop := Cond.code y cc nL ret ∈ nx_TB ∧ Cond.initialized y.cls ∈ nx_TB ∧ (y.cls ≠ "java/lang/invoke/MethodHandle" ∧ y.cls ≠ "java/lang/invoke/VarHandle") ∧ (parseMethodDescriptor y.desc).map (fun d => d.parameters.length) = some n ∧ nL ≤ 21 ∧ (Cond.methodLink own idx y ∈ nx_TB ∨ ∃ host, Cond.methodLinkNest own idx y host ∈ tables_1)
def nx_CV (y : MethodName) (ci : Nat) : Prop := Cond.instanceMethod y ∈ nx_TB ∧ Cond.selects y.cls y y ∈ nx_TB ∧ ∃ (T : u_T) (N : Nat), vwCl[ci]? = some (y.cls, T, N)
theorem nx_wsW {s : State} {as : Array Value} {y : MethodName} {cc : ByteArray} {nL : Nat} {ret : Option FieldType} (h : ∀ w ∈ nx_TB, w.before as s = true) (hc : Cond.code y cc nL ret ∈ nx_TB) : ∀ w ∈ (Cond.code y cc nL ret :: nx_TB), ∀ (a' : Array Value) (U : State), s.WarmedH U.vm → w.before a' U = true := by
  intro w hw a' U hW
  have hm : w ∈ nx_TB := by
    rcases List.mem_cons.mp hw with rfl | h
    · exact hc
    · exact h
  exact word_at hW (good_of_word (List.mem_filter.mp hm).2) (h w hm)
theorem nx_plen {y : MethodName} {n : Nat} (h : (parseMethodDescriptor y.desc).map (fun d => d.parameters.length) = some n) : ∀ sig, parseMethodDescriptor y.desc = some sig → n = sig.parameters.length := by
  intro sig hs
  rw [hs] at h
  exact (Option.some.inj h).symm
section NXM
variable {Γ : nx_G} {X : nx_X} {Y : nx_Y} {Z : nx_Z} {α β : Type} {C : α → nx_C} {pc q : Nat} {ls : List (Option Value)} {st : List Value} {M : nx_M} {o : Option α}
theorem nx_iald {a n : Nat} {f : Nat → Int32} {i : Int32} {g : Int32 → Option α} (hμ : M.1 a = some (.inl (Γ.2.2.2.1 0, n, .inl f))) (d : decode Y.2.1 pc = .ok (.iaload, 1)) (hq : pc + 1 = q) (k : ∀ x, nx_J Γ X Y Z C (.inl (q, ls, .int x :: st, M)) (g x)) : nx_J Γ X Y Z C (.inl (pc, ls, .int i :: .ref a :: st, M)) ((nx_rd n f i).bind g) := by
  subst hq
  intro z hz
  obtain ⟨hc, h⟩ := nx_opt hz
  exact nx_lift (fun K H locs L n k hH hL w => va_iald K.1 K.2.1 K.2.2.2.2.2.2.2.2.1.1 (hH.P hμ) 0 0 rfl rfl hc d w) (k _) z h
theorem nx_iast {a n : Nat} {f : Nat → Int32} {i x : Int32} {g : (Nat → Int32) → Option α} (hμ : M.1 a = some (.inl (Γ.2.2.2.1 0, n, .inl f))) (d : decode Y.2.1 pc = .ok (.iastore, 1)) (hq : pc + 1 = q) (k : ∀ f', nx_J Γ X Y Z C (.inl (q, ls, st, nx_put M a (.inl (Γ.2.2.2.1 0, n, .inl f')))) (g f')) : nx_J Γ X Y Z C (.inl (pc, ls, .int x :: .int i :: .ref a :: st, M)) ((nx_wr n f i x).bind g) := by
  subst hq
  intro z hz
  obtain ⟨hc, h⟩ := nx_opt hz
  refine nx_liftM (M := M) (M' := nx_put M a _) rfl (fun K H locs L n' k' hH hl hL w => ?_) (k _) z h
  have hat : va_at Γ.2.2.1 vwCl (a, .inl (Γ.2.2.2.1 0, n, .inl f)) H := (hH.2.2.1 _ _ hμ).2
  have hK := K.2.2.2.2.2.2.2.2.1.1
  refine W.iast K.1 K.2.1 hat ((hK.2 0 (Γ.2.2.2.1 0, .int) rfl).1 n (fun j => .int (f j))) (fun q => by cases q) (by show ¬ (i < 0 ∨ (arrV _ _ _).slots.size ≤ _); rw [arrV_size]; exact hc) rfl rfl d fun H1 e z1 oq => ?_
  refine w H1 _ (hH.put hμ ?_ z1 oq) (nx_locs hl (hH.2.2.1 _ _ hμ).1)
  show H1[a]? = some (vp_cell _ _)
  rw [e, vp_cell_i, vp_cell_i, arrV_store]
  congr 2
  funext q
  by_cases hq : q = i.toNatClampNeg
  · subst hq
    simp [updV, upd]
  · simp [updV, upd, hq]
theorem nx_alen {a n : Nat} {f : Nat → Int32} (hμ : M.1 a = some (.inl (Γ.2.2.2.1 0, n, .inl f))) (d : decode Y.2.1 pc = .ok (.arraylength, 1)) (hq : pc + 1 = q) (k : nx_J Γ X Y Z C (.inl (q, ls, .int (Int32.ofNat n) :: st, M)) o) : nx_J Γ X Y Z C (.inl (pc, ls, .ref a :: st, M)) o := by
  subst hq
  exact nx_lift (fun K H locs L n k hH hL w => va_alen K.1 K.2.1 K.2.2.2.2.2.2.2.2.1.1 (hH.P hμ) 0 0 rfl (ty := .int) rfl rfl d w) k
theorem nx_getf {a ci idx kf : Nat} {fs : List Value} {v : Value} (hF : nx_FL Y.1 idx ci kf) (hμ : M.1 a = some (.inr (ci, fs))) (hv : fs[kf]? = some v) (d : decode Y.2.1 pc = .ok (.getfield idx, 3)) (hq : pc + 3 = q) (k : nx_J Γ X Y Z C (.inl (q, ls, v :: st, M)) o) : nx_J Γ X Y Z C (.inl (pc, ls, .ref a :: st, M)) o := by
  subst hq
  obtain ⟨C', T, N, h1, h2, h3, h4⟩ := hF
  exact nx_lift (fun K H locs L n k hH hL w => va_get K.1 K.2.1 K.2.2.2.2.2.2.2.1 h3 K.2.2.2.2.2.1 K.2.2.2.2.2.2.2.2.1.1 (hH.P hμ) 0 rfl h1 kf h2 (K.2.2.2.2.2.2.2.1 _ h4) (fun _ h => h) hv d w) k
theorem nx_getfN {a ci idx kf : Nat} {fs : List Value} {v : Value} (hF : nx_FN Y.1 idx ci kf) (hμ : M.1 a = some (.inr (ci, fs))) (hv : fs[kf]? = some v) (d : decode Y.2.1 pc = .ok (.getfield idx, 3)) (hq : pc + 3 = q) (k : nx_J Γ X Y Z C (.inl (q, ls, v :: st, M)) o) : nx_J Γ X Y Z C (.inl (pc, ls, .ref a :: st, M)) o := by
  subst hq
  obtain ⟨C', T, N, host, h1, h2, h3, h4⟩ := hF
  exact nx_lift (fun K H locs L n k hH hL w => va_getN K.1 K.2.1 K.2.2.2.2.2.2.2.1 h3 K.2.2.2.2.2.1 K.2.2.2.2.2.2.2.2.1.1 (hH.P hμ) 0 rfl h1 kf h2 (va_Nw.use rfl (K.2.2.2.2.2.2.2.2.1.2.1 _ h4 rfl)) (fun _ h => h) hv d w) k
/-- a field is written: what is known of the field, then the step -/
theorem nx_putf {a ci idx kf : Nat} {fs : List Value} {v : Value} {ty : FieldType} (hF : nx_FL Y.1 idx ci kf) (hT : nx_FT ci kf false ty) (hμ : M.1 a = some (.inr (ci, fs))) (hn : narrow ty v = v) (hfit : fits ty v = true) (hl : kf < fs.length) (d : decode Y.2.1 pc = .ok (.putfield idx, 3)) (hq : pc + 3 = q) (k : nx_J Γ X Y Z C (.inl (q, ls, st, nx_put M a (.inr (ci, fs.set kf v)))) o) : nx_J Γ X Y Z C (.inl (pc, ls, v :: .ref a :: st, M)) o := by
  subst hq
  obtain ⟨C', T, N, h1, h2, h3, h4⟩ := hF
  obtain ⟨C2, T2, N2, ty0, g1, g2, g3, g4, g5, g6, -⟩ := hT
  rw [h1] at g1
  cases g1
  refine nx_liftM (M := M) (M' := nx_put M a _) rfl (fun K H locs L n' k' hH hlo hL w => ?_) k
  have hts := K.2.2.2.2.2.2.2.1
  have hK := K.2.2.2.2.2.2.2.2.1.1
  have hap := va_apart (own := Y.1) (D := Γ.2.2.1) (cl := vwCl) (tys := nx_tys Γ) hts h3 ty0 g3 g4 hK h1
  obtain ⟨r, e1, cell, q1, q2, q3, q4⟩ := (hH.2.2.1 _ _ hμ).2
  have hr : r = (C', T, N) := Option.some.inj (e1.symm.trans h1)
  subst hr
  obtain ⟨hS, hfc, kC, hkC, hkind⟩ := hK.1 ci _ h1
  obtain ⟨cf, kf2, fi, f, hi, hsl⟩ := hS kf h2
  have hlay := hts _ (h3 _ (u_in_lay h2))
  unfold u_lay at hlay
  rw [if_neg (by rw [g5]; decide)] at hlay
  have hst := (u_facts hfc hkC (u_lays hts h3 h2) hi).1
  have h6 := u_store hfc hkC hkind hlay hi (by rw [g3 kf h2, g6]) hn hfit
  refine W.putK K.1 K.2.1 (f := f) ⟨K.2.2.2.2.2.1, hts _ h4, ⟨_, _, _, hi⟩, hst⟩ (by rw [q2]; exact h6) q1 q3 (by rw [hsl]; exact k2_hasslot (q4 kf h2)) rfl rfl d fun H' x1 x2 x3 => ?_
  rw [hsl] at x1
  exact w H' _ (hH.put hμ ⟨_, h1, t_OB.to (V := updV (vp_V fs) kf v) ⟨_, x1, q2, q3, t_set q4 hap h2 v⟩ (fun j _ => vp_updV_set hl v j)⟩ x2 x3) (nx_locs hlo (hH.2.2.1 _ _ hμ).1)
theorem nx_putfN {a ci idx kf : Nat} {fs : List Value} {v : Value} {ty : FieldType} (hF : nx_FN Y.1 idx ci kf) (hT : nx_FT ci kf false ty) (hμ : M.1 a = some (.inr (ci, fs))) (hn : narrow ty v = v) (hfit : fits ty v = true) (hl : kf < fs.length) (d : decode Y.2.1 pc = .ok (.putfield idx, 3)) (hq : pc + 3 = q) (k : nx_J Γ X Y Z C (.inl (q, ls, st, nx_put M a (.inr (ci, fs.set kf v)))) o) : nx_J Γ X Y Z C (.inl (pc, ls, v :: .ref a :: st, M)) o := by
  subst hq
  obtain ⟨C', T, N, host, h1, h2, h3, h4⟩ := hF
  obtain ⟨C2, T2, N2, ty0, g1, g2, g3, g4, g5, g6, -⟩ := hT
  rw [h1] at g1
  cases g1
  refine nx_liftM (M := M) (M' := nx_put M a _) rfl (fun K H locs L n' k' hH hlo hL w => ?_) k
  have hts := K.2.2.2.2.2.2.2.1
  have hK := K.2.2.2.2.2.2.2.2.1.1
  have hap := va_apart (own := Y.1) (D := Γ.2.2.1) (cl := vwCl) (tys := nx_tys Γ) hts h3 ty0 g3 g4 hK h1
  obtain ⟨r, e1, cell, q1, q2, q3, q4⟩ := (hH.2.2.1 _ _ hμ).2
  have hr : r = (C', T, N) := Option.some.inj (e1.symm.trans h1)
  subst hr
  obtain ⟨hS, hfc, kC, hkC, hkind⟩ := hK.1 ci _ h1
  obtain ⟨cf, kf2, fi, f, hi, hsl⟩ := hS kf h2
  have hlay := hts _ (h3 _ (u_in_lay h2))
  unfold u_lay at hlay
  rw [if_neg (by rw [g5]; decide)] at hlay
  have hst := (u_facts hfc hkC (u_lays hts h3 h2) hi).1
  have h6 := u_store hfc hkC hkind hlay hi (by rw [g3 kf h2, g6]) hn hfit
  refine va_WputK K.1 K.2.1 (f := f) K.2.2.2.2.2.1 (va_Nw.use rfl (K.2.2.2.2.2.2.2.2.1.2.1 _ h4 rfl)) hi hst (by rw [q2]; exact h6) q1 q3 (by rw [hsl]; exact k2_hasslot (q4 kf h2)) rfl rfl d fun H' x1 x2 x3 => ?_
  rw [hsl] at x1
  exact w H' _ (hH.put hμ ⟨_, h1, t_OB.to (V := updV (vp_V fs) kf v) ⟨_, x1, q2, q3, t_set q4 hap h2 v⟩ (fun j _ => vp_updV_set hl v j)⟩ x2 x3) (nx_locs hlo (hH.2.2.1 _ _ hμ).1)
end NXM
