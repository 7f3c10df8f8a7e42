/-! a part D of the memory, the rest M0 under it -/
def ov (M0 : Nat → Option va_E) (D : nx_M) : nx_M := (fun a => match D.1 a with
  | some e => some e
  | none => M0 a, D.2)
theorem ov_some {M0 : Nat → Option va_E} {D : nx_M} {a : Nat} {e : va_E} (h : D.1 a = some e) : (ov M0 D).1 a = some e := by simp [ov, h]
theorem ov_put {M0 : Nat → Option va_E} {D : nx_M} {a : Nat} {e : va_E} : nx_put (ov M0 D) a e = ov M0 (nx_put D a e) := by
  unfold nx_put ov
  congr 1
  funext b
  by_cases h : b = a <;> simp [h]
theorem ov_al {M0 : Nat → Option va_E} {D : nx_M} {e : va_E} {sz : Nat} : nx_al (ov M0 D) e sz = ov M0 (nx_al D e sz) := by
  unfold nx_al ov
  congr 1
  funext b
  by_cases h : b = D.2.1 <;> simp [h]
def gO (D : nx_M) (a ci : Nat) : Option (List Value) := match D.1 a with
  | some (.inr q) => if q.1 = ci then some q.2 else none
  | _ => none
def vI : Option Value → Option Int32
  | some (.int v) => some v
  | _ => none
def vL : Option Value → Option Int64
  | some (.long v) => some v
  | _ => none
def vR : Option Value → Option Nat
  | some (.ref v) => some v
  | _ => none
def gI (D : nx_M) (a ci k : Nat) : Option Int32 := (gO D a ci).bind fun fs => vI fs[k]?
def gL (D : nx_M) (a ci k : Nat) : Option Int64 := (gO D a ci).bind fun fs => vL fs[k]?
def gR (D : nx_M) (a ci k : Nat) : Option Nat := (gO D a ci).bind fun fs => vR fs[k]?
def gPut (D : nx_M) (a ci k : Nat) (v : Value) : Option nx_M := (gO D a ci).bind fun fs => if k < fs.length then some (nx_put D a (.inr (ci, fs.set k v))) else none
def aF (Γ : nx_G) (D : nx_M) (a : Nat) : Option (Nat × (Nat → Int32)) := match D.1 a with
  | some (.inl (cA, n, .inl f)) => if cA = Γ.2.2.2.1 0 then some (n, f) else none
  | _ => none
def aI (Γ : nx_G) (D : nx_M) (a : Nat) (i : Int32) : Option Int32 := (aF Γ D a).bind fun nf => nx_rd nf.1 nf.2 i
def aIw (Γ : nx_G) (D : nx_M) (a : Nat) (i x : Int32) : Option nx_M := (aF Γ D a).bind fun nf => (nx_wr nf.1 nf.2 i x).bind fun f => some (nx_put D a (.inl (Γ.2.2.2.1 0, nf.1, .inl f)))
def qF (Γ : nx_G) (t : Nat) (D : nx_M) (a : Nat) : Option (Nat × (Nat → Option Nat)) := match D.1 a with
  | some (.inl (cA, n, .inr (.inr (.inr (.inr f))))) => if cA = Γ.2.2.2.1 t then some (n, f) else none
  | _ => none
def qA (Γ : nx_G) (t : Nat) (D : nx_M) (a : Nat) (i : Int32) : Option (Option Nat) := (qF Γ t D a).bind fun nf => nx_rdq nf.1 nf.2 i
def qAw (Γ : nx_G) (t ci : Nat) (D : nx_M) (a : Nat) (i : Int32) (v : Nat) : Option nx_M := (gO D v ci).bind fun _ => (qF Γ t D a).bind fun nf => (nx_wrq nf.1 nf.2 i v).bind fun f => some (nx_put D a (.inl (Γ.2.2.2.1 t, nf.1, .inr (.inr (.inr (.inr f))))))
def wC : Option (List Value) → Option Nat
  | some [.ref c] => some c
  | _ => none
/-- a World at w: where its row is, and what it holds -/
def wGet (Γ : nx_G) (D : nx_M) (w : Nat) : Option (Nat × (Nat → Int32)) := (wC (gO D w 6)).bind fun c => (aF Γ D c).bind fun nf => if nf.1 = 514 then some (c, nf.2) else none
def wPut (Γ : nx_G) (D : nx_M) (c : Nat) (f : Nat → Int32) : nx_M := nx_put D c (.inl (Γ.2.2.2.1 0, 514, .inl f))
def sC : Option (List Value) → Option Nat
  | some [.ref c, _] => some c
  | _ => none
def sGet (Γ : nx_G) (D : nx_M) (p : Nat) : Option (Nat × (Nat → Int32)) := (sC (gO D p 3)).bind fun c => (aF Γ D c).bind fun nf => if nf.1 = 64 then some (c, nf.2) else none
def tG5 : Option (List Value) → Option (Nat × Int32 × Int32 × Int32)
  | some [.ref a, .int x, .int y, .int z] => some (a, x, y, z)
  | _ => none
def tG4 : Option (List Value) → Option (Nat × Nat × Int32 × Int32)
  | some [.ref a, .ref b, .int x, .int y] => some (a, b, x, y)
  | _ => none
def tG3 : Option (List Value) → Option (Nat × Int32)
  | some [.ref a, .int x] => some (a, x)
  | _ => none
def tMk (o5 : Nat × Int32 × Int32 × Int32) (o4 : Nat × Nat × Int32 × Int32) (o3 : Nat × Int32) (f1 f2 f3 f4 : Nat → Int32) : pS
  | 0 => fun i => match i with
    | 0 => o5.2.1
    | 1 => o5.2.2.1
    | 2 => o5.2.2.2
    | 3 => o4.2.2.1
    | 4 => o4.2.2.2
    | _ => o3.2
  | 1 => f1
  | 2 => f2
  | 3 => f3
  | _ => f4
/-- what is read as texts, out of the memory -/
def tGet (Γ : nx_G) (D : nx_M) (t p : Nat) : Option pS := (tG5 (gO D t 5)).bind fun o5 => (tG4 (gO D (t + 2) 4)).bind fun o4 => (tG3 (gO D p 3)).bind fun o3 => (aF Γ D (t + 1)).bind fun f1 => (aF Γ D (t + 3)).bind fun f2 => (aF Γ D (t + 4)).bind fun f3 => (aF Γ D (p + 1)).bind fun f4 =>
  if o5.1 = t + 1 ∧ o4.1 = t + 3 ∧ o4.2.1 = t + 4 ∧ o3.1 = p + 1 ∧ f1.1 = 240 ∧ f2.1 = 3 ∧ f3.1 = 6 ∧ f4.1 = 64 ∧ t + 4 < p then some (tMk o5 o4 o3 f1.2 f2.2 f3.2 f4.2) else none
theorem gO_spec {D : nx_M} {a ci : Nat} {fs : List Value} (h : gO D a ci = some fs) : D.1 a = some (.inr (ci, fs)) := by
  unfold gO at h
  split at h
  next q hq =>
    split at h
    next hc =>
      cases h
      rw [hq, ← hc]
    next => cases h
  next => cases h
theorem aF_spec {Γ : nx_G} {D : nx_M} {a : Nat} {nf : Nat × (Nat → Int32)} (h : aF Γ D a = some nf) : D.1 a = some (.inl (Γ.2.2.2.1 0, nf.1, .inl nf.2)) := by
  unfold aF at h
  split at h
  next cA n f hq =>
    split at h
    next hc =>
      cases h
      rw [hq, hc]
    next => cases h
  next => cases h
theorem qF_spec {Γ : nx_G} {t : Nat} {D : nx_M} {a : Nat} {nf : Nat × (Nat → Option Nat)} (h : qF Γ t D a = some nf) : D.1 a = some (.inl (Γ.2.2.2.1 t, nf.1, .inr (.inr (.inr (.inr nf.2))))) := by
  unfold qF at h
  split at h
  next cA n f hq =>
    split at h
    next hc =>
      cases h
      rw [hq, hc]
    next => cases h
  next => cases h
theorem vI_spec {o : Option Value} {x : Int32} (h : vI o = some x) : o = some (.int x) := by
  unfold vI at h
  split at h
  · cases h; rfl
  · cases h
theorem vL_spec {o : Option Value} {x : Int64} (h : vL o = some x) : o = some (.long x) := by
  unfold vL at h
  split at h
  · cases h; rfl
  · cases h
theorem vR_spec {o : Option Value} {x : Nat} (h : vR o = some x) : o = some (.ref x) := by
  unfold vR at h
  split at h
  · cases h; rfl
  · cases h
theorem wGet_spec {Γ : nx_G} {D : nx_M} {w : Nat} {cf : Nat × (Nat → Int32)} (h : wGet Γ D w = some cf) : D.1 w = some (.inr (6, [.ref cf.1])) ∧ D.1 cf.1 = some (.inl (Γ.2.2.2.1 0, 514, .inl cf.2)) ∧ w ≠ cf.1 := by
  obtain ⟨c, h1, h2⟩ := nx_bind_some h
  obtain ⟨nf, h3, h4⟩ := nx_bind_some h2
  split at h4
  next hn =>
    cases h4
    have e1 : gO D w 6 = some [.ref c] := by
      unfold wC at h1
      split at h1
      next he => cases h1; exact he
      next => cases h1
    have g1 := gO_spec e1
    have g2 := aF_spec h3
    rw [hn] at g2
    refine ⟨g1, g2, fun e => ?_⟩
    subst e
    rw [g1] at g2
    cases g2
  next => cases h4
theorem sGet_spec {Γ : nx_G} {D : nx_M} {w : Nat} {cf : Nat × (Nat → Int32)} (h : sGet Γ D w = some cf) : (∃ ln, D.1 w = some (.inr (3, [.ref cf.1, ln]))) ∧ D.1 cf.1 = some (.inl (Γ.2.2.2.1 0, 64, .inl cf.2)) ∧ w ≠ cf.1 := by
  obtain ⟨c, h1, h2⟩ := nx_bind_some h
  obtain ⟨nf, h3, h4⟩ := nx_bind_some h2
  split at h4
  next hn =>
    cases h4
    have e1 : ∃ ln, gO D w 3 = some [.ref c, ln] := by
      unfold sC at h1
      split at h1
      next ln he => cases h1; exact ⟨_, he⟩
      next => cases h1
    obtain ⟨ln, e1⟩ := e1
    have g1 := gO_spec e1
    have g2 := aF_spec h3
    rw [hn] at g2
    refine ⟨⟨ln, g1⟩, g2, fun e => ?_⟩
    subst e
    rw [g1] at g2
    cases g2
  next => cases h4
theorem wPut_eq {Γ : nx_G} {M0 : Nat → Option va_E} {D : nx_M} {c : Nat} {f : Nat → Int32} : wW Γ (ov M0 D) c f = ov M0 (wPut Γ D c f) := ov_put
theorem wGet_eq {Γ : nx_G} {M0 : Nat → Option va_E} {D : nx_M} {w : Nat} {cf : Nat × (Nat → Int32)} (h : wGet Γ D w = some cf) : wW Γ (ov M0 D) cf.1 cf.2 = ov M0 D := nx_put_id (ov_some (wGet_spec h).2.1)
theorem tW_ov {Γ : nx_G} {M0 : Nat → Option va_E} {D : nx_M} {t p : Nat} {g : pS} : tW Γ (ov M0 D) t p g = ov M0 (tW Γ D t p g) := by
  unfold tW ov
  congr 1
  funext a
  dsimp only
  repeat' split
  all_goals first | rfl | simp_all
theorem tGet_spec {Γ : nx_G} {D : nx_M} {t p : Nat} {g : pS} (h : tGet Γ D t p = some g) : tW Γ D t p g = D ∧ t + 4 < p := by
  obtain ⟨o5, a1, h⟩ := nx_bind_some h
  obtain ⟨o4, a2, h⟩ := nx_bind_some h
  obtain ⟨o3, a3, h⟩ := nx_bind_some h
  obtain ⟨f1, a4, h⟩ := nx_bind_some h
  obtain ⟨f2, a5, h⟩ := nx_bind_some h
  obtain ⟨f3, a6, h⟩ := nx_bind_some h
  obtain ⟨f4, a7, h⟩ := nx_bind_some h
  split at h
  next hc =>
    obtain ⟨c1, c2, c3, c4, c5, c6, c7, c8, c9⟩ := hc
    cases h
    have e5 : D.1 t = some (.inr (5, [.ref (t + 1), .int o5.2.1, .int o5.2.2.1, .int o5.2.2.2])) := by
      unfold tG5 at a1
      split at a1
      next he => cases a1; rw [← c1]; exact gO_spec he
      next => cases a1
    have e4 : D.1 (t + 2) = some (.inr (4, [.ref (t + 3), .ref (t + 4), .int o4.2.2.1, .int o4.2.2.2])) := by
      unfold tG4 at a2
      split at a2
      next he => cases a2; rw [← c2, ← c3]; exact gO_spec he
      next => cases a2
    have e3 : D.1 p = some (.inr (3, [.ref (p + 1), .int o3.2])) := by
      unfold tG3 at a3
      split at a3
      next he => cases a3; rw [← c4]; exact gO_spec he
      next => cases a3
    have b1 := aF_spec a4
    have b2 := aF_spec a5
    have b3 := aF_spec a6
    have b4 := aF_spec a7
    rw [c5] at b1
    rw [c6] at b2
    rw [c7] at b3
    rw [c8] at b4
    refine ⟨?_, c9⟩
    obtain ⟨μ, n, k⟩ := D
    unfold tW
    congr 1
    funext a
    dsimp only at *
    by_cases z1 : a = t
    · rw [if_pos z1, z1, e5]; rfl
    rw [if_neg z1]
    by_cases z2 : a = t + 1
    · rw [if_pos z2, z2, b1]; rfl
    rw [if_neg z2]
    by_cases z3 : a = t + 2
    · rw [if_pos z3, z3, e4]; rfl
    rw [if_neg z3]
    by_cases z4 : a = t + 3
    · rw [if_pos z4, z4, b2]; rfl
    rw [if_neg z4]
    by_cases z5 : a = t + 4
    · rw [if_pos z5, z5, b3]; rfl
    rw [if_neg z5]
    by_cases z6 : a = p
    · rw [if_pos z6, z6, e3]; rfl
    rw [if_neg z6]
    by_cases z7 : a = p + 1
    · rw [if_pos z7, z7, b4]; rfl
    rw [if_neg z7]
  next => cases h
section NXG
variable {Γ : nx_G} {X : nx_X} {Y : nx_Y} {Z : nx_Z} {α β : Type} {C : α → nx_C} {pc q : Nat} {ls : List (Option Value)} {st stk : List Value} {M0 : Nat → Option va_E} {D : nx_M} {o : Option α}
theorem nx_none {c : nx_C} : nx_J Γ X Y Z C c none := fun _ h => by cases h
theorem nx_guard {c : nx_C} {e : Option β} {k : β → Option α} (h : ∀ a, e = some a → nx_J Γ X Y Z C c (k a)) : nx_J Γ X Y Z C c (e.bind k) := by
  intro a ha
  obtain ⟨b, e1, e2⟩ := nx_bind_some ha
  exact h b e1 a e2
theorem nx_getX {a ci idx kf : Nat} {fs : List Value} {v : Value} {M : nx_M} (hF : nx_FL Y.1 idx ci kf ∨ nx_FN Y.1 idx ci kf) (hμ : M.1 a = some (.inr (ci, fs))) (hv : fs[kf]? = some v) (d : decode Y.2.1 pc = .ok (.getfield idx, 3)) (hq : pc + 3 = q) (k : nx_J Γ X Y Z C (.inl (q, ls, v :: st, M)) o) : nx_J Γ X Y Z C (.inl (pc, ls, .ref a :: st, M)) o := by
  rcases hF with hF | hF
  · exact nx_getf hF hμ hv d hq k
  · exact nx_getfN hF hμ hv d hq k
theorem g_geti {a ci idx k : Nat} {g : Int32 → Option α} (hF : nx_FL Y.1 idx ci k ∨ nx_FN Y.1 idx ci k) (d : decode Y.2.1 pc = .ok (.getfield idx, 3)) (hq : pc + 3 = q) (kk : ∀ x, nx_J Γ X Y Z C (.inl (q, ls, .int x :: st, ov M0 D)) (g x)) : nx_J Γ X Y Z C (.inl (pc, ls, .ref a :: st, ov M0 D)) ((gI D a ci k).bind g) := by
  refine nx_guard fun x hx => ?_
  obtain ⟨fs, h1, h2⟩ := nx_bind_some hx
  exact nx_getX hF (ov_some (gO_spec h1)) (vI_spec h2) d hq (kk x)
theorem g_getl {a ci idx k : Nat} {g : Int64 → Option α} (hF : nx_FL Y.1 idx ci k ∨ nx_FN Y.1 idx ci k) (d : decode Y.2.1 pc = .ok (.getfield idx, 3)) (hq : pc + 3 = q) (kk : ∀ x, nx_J Γ X Y Z C (.inl (q, ls, .long x :: st, ov M0 D)) (g x)) : nx_J Γ X Y Z C (.inl (pc, ls, .ref a :: st, ov M0 D)) ((gL D a ci k).bind g) := by
  refine nx_guard fun x hx => ?_
  obtain ⟨fs, h1, h2⟩ := nx_bind_some hx
  exact nx_getX hF (ov_some (gO_spec h1)) (vL_spec h2) d hq (kk x)
theorem g_getr {a ci idx k : Nat} {g : Nat → Option α} (hF : nx_FL Y.1 idx ci k ∨ nx_FN Y.1 idx ci k) (d : decode Y.2.1 pc = .ok (.getfield idx, 3)) (hq : pc + 3 = q) (kk : ∀ x, nx_J Γ X Y Z C (.inl (q, ls, .ref x :: st, ov M0 D)) (g x)) : nx_J Γ X Y Z C (.inl (pc, ls, .ref a :: st, ov M0 D)) ((gR D a ci k).bind g) := by
  refine nx_guard fun x hx => ?_
  obtain ⟨fs, h1, h2⟩ := nx_bind_some hx
  exact nx_getX hF (ov_some (gO_spec h1)) (vR_spec h2) d hq (kk x)
theorem g_put {a ci idx k : Nat} {v : Value} {ty : FieldType} {g : nx_M → Option α} (hF : nx_FL Y.1 idx ci k ∨ nx_FN Y.1 idx ci k) (hT : nx_FT ci k false ty) (hn : narrow ty v = v) (hfit : fits ty v = true) (d : decode Y.2.1 pc = .ok (.putfield idx, 3)) (hq : pc + 3 = q) (kk : ∀ D', nx_J Γ X Y Z C (.inl (q, ls, st, ov M0 D')) (g D')) : nx_J Γ X Y Z C (.inl (pc, ls, v :: .ref a :: st, ov M0 D)) ((gPut D a ci k v).bind g) := by
  refine nx_guard fun D' hx => ?_
  obtain ⟨fs, h1, h2⟩ := nx_bind_some hx
  split at h2
  next hk =>
    cases h2
    have k2 := kk (nx_put D a (.inr (ci, fs.set k v)))
    rw [← ov_put] at k2
    rcases hF with hF | hF
    · exact nx_putf hF hT (ov_some (gO_spec h1)) hn hfit hk d hq k2
    · exact nx_putfN hF hT (ov_some (gO_spec h1)) hn hfit hk d hq k2
  next => cases h2
theorem g_putF {a ci idx k : Nat} {v : Value} {ty : FieldType} {g : nx_M → Option α} (hF : nx_FL Y.1 idx ci k) (hT : nx_FT ci k true ty) (hown : ∃ T N, vwCl[ci]? = some (Y.1, T, N)) (hin : Y.2.2.2.2.1 = "<init>") (hn : narrow ty v = v) (hfit : fits ty v = true) (d : decode Y.2.1 pc = .ok (.putfield idx, 3)) (hq : pc + 3 = q) (kk : ∀ D', nx_J Γ X Y Z C (.inl (q, ls, st, ov M0 D')) (g D')) : nx_J Γ X Y Z C (.inl (pc, ls, v :: .ref a :: st, ov M0 D)) ((gPut D a ci k v).bind g) := by
  refine nx_guard fun D' hx => ?_
  obtain ⟨fs, h1, h2⟩ := nx_bind_some hx
  split at h2
  next hk =>
    cases h2
    have k2 := kk (nx_put D a (.inr (ci, fs.set k v)))
    rw [← ov_put] at k2
    exact nx_putfF hF hT hown hin (ov_some (gO_spec h1)) hn hfit hk d hq k2
  next => cases h2
theorem g_iald {a : Nat} {i : Int32} {g : Int32 → Option α} (d : decode Y.2.1 pc = .ok (.iaload, 1)) (hq : pc + 1 = q) (kk : ∀ x, nx_J Γ X Y Z C (.inl (q, ls, .int x :: st, ov M0 D)) (g x)) : nx_J Γ X Y Z C (.inl (pc, ls, .int i :: .ref a :: st, ov M0 D)) ((aI Γ D a i).bind g) := by
  unfold aI
  rw [Option.bind_assoc]
  exact nx_guard fun nf hx => nx_iald (ov_some (aF_spec hx)) d hq kk
theorem g_iast {a : Nat} {i x : Int32} {g : nx_M → Option α} (d : decode Y.2.1 pc = .ok (.iastore, 1)) (hq : pc + 1 = q) (kk : ∀ D', nx_J Γ X Y Z C (.inl (q, ls, st, ov M0 D')) (g D')) : nx_J Γ X Y Z C (.inl (pc, ls, .int x :: .int i :: .ref a :: st, ov M0 D)) ((aIw Γ D a i x).bind g) := by
  unfold aIw
  rw [Option.bind_assoc]
  refine nx_guard fun nf hx => ?_
  rw [Option.bind_assoc]
  exact nx_iast (ov_some (aF_spec hx)) d hq (fun f' => by rw [ov_put]; exact kk _)
theorem g_aald {a t : Nat} {Cn : String} {i : Int32} {g : Option Nat → Option α} (ht : (nx_tys Γ)[t]? = some (Γ.2.2.2.1 t, .object Cn)) (d : decode Y.2.1 pc = .ok (.aaload, 1)) (hq : pc + 1 = q) (kk : ∀ x, nx_J Γ X Y Z C (.inl (q, ls, va_rf x :: st, ov M0 D)) (g x)) : nx_J Γ X Y Z C (.inl (pc, ls, .int i :: .ref a :: st, ov M0 D)) ((qA Γ t D a i).bind g) := by
  unfold qA
  rw [Option.bind_assoc]
  exact nx_guard fun nf hx => nx_aald ht (ov_some (qF_spec hx)) d hq kk
theorem g_aast {a t v ci : Nat} {Cn : String} {T : u_T} {N : Nat} {i : Int32} {g : nx_M → Option α} (ht : (nx_tys Γ)[t]? = some (Γ.2.2.2.1 t, .object Cn)) (hc : vwCl[ci]? = some (Cn, T, N)) (d : decode Y.2.1 pc = .ok (.aastore, 1)) (hq : pc + 1 = q) (kk : ∀ D', nx_J Γ X Y Z C (.inl (q, ls, st, ov M0 D')) (g D')) : nx_J Γ X Y Z C (.inl (pc, ls, .ref v :: .int i :: .ref a :: st, ov M0 D)) ((qAw Γ t ci D a i v).bind g) := by
  unfold qAw
  rw [Option.bind_assoc]
  refine nx_guard fun vs hv => ?_
  rw [Option.bind_assoc]
  refine nx_guard fun nf hx => ?_
  rw [Option.bind_assoc]
  exact nx_aast ht hc (ov_some (qF_spec hx)) (ov_some (gO_spec hv)) d hq (fun f' => by rw [ov_put]; exact kk _)
theorem g_new {ci idx N : Nat} {fs : List Value} {g : nx_M → Option α} (cn : nx_CN Y.1 idx ci fs N) (d : decode Y.2.1 pc = .ok (.new idx, 3)) (hq : pc + 3 = q) (kk : ∀ D', D' = nx_al D (.inr (ci, fs)) N → nx_J Γ X Y Z C (.inl (q, ls, .ref D.2.1 :: st, ov M0 D')) (g D')) : nx_J Γ X Y Z C (.inl (pc, ls, st, ov M0 D)) ((some (nx_al D (.inr (ci, fs)) N)).bind g) := by
  have k2 := kk _ rfl
  rw [← ov_al] at k2
  exact nx_new cn d hq k2
theorem g_newI {n : Int32} {N : Nat} {g : nx_M → Option α} (hw : Cond.arrayClass .int ∈ nx_TB) (hn : ¬ n < 0) (hN : n.toNatClampNeg = N) (hb : N * 4 ≤ 536870912) (d : decode Y.2.1 pc = .ok (.newarray .int, 2)) (hq : pc + 2 = q) (kk : ∀ D', D' = nx_al D (.inl (Γ.2.2.2.1 0, N, .inl (fun _ => 0))) N → nx_J Γ X Y Z C (.inl (q, ls, .ref D.2.1 :: st, ov M0 D')) (g D')) : nx_J Γ X Y Z C (.inl (pc, ls, .int n :: st, ov M0 D)) ((some (nx_al D (.inl (Γ.2.2.2.1 0, N, .inl (fun _ => 0))) N)).bind g) := by
  have k2 := kk _ rfl
  rw [← ov_al] at k2
  exact nx_newI hw hn hN hb d hq k2
theorem g_newQ {n : Int32} {N t idx : Nat} {Cn : String} {g : nx_M → Option α} (hw : Cn = "LateStamps$World" ∨ Cn = "LateStamps$Script") (hl : Cond.classLink Y.1 idx Cn ∈ nx_TB) (ht : (nx_tys Γ)[t]? = some (Γ.2.2.2.1 t, .object Cn)) (hn : ¬ n < 0) (hN : n.toNatClampNeg = N) (hb : N * 4 ≤ 536870912) (d : decode Y.2.1 pc = .ok (.anewarray idx, 3)) (hq : pc + 3 = q) (kk : ∀ D', D' = nx_al D (.inl (Γ.2.2.2.1 t, N, .inr (.inr (.inr (.inr (fun _ => none)))))) N → nx_J Γ X Y Z C (.inl (q, ls, .ref D.2.1 :: st, ov M0 D')) (g D')) : nx_J Γ X Y Z C (.inl (pc, ls, .int n :: st, ov M0 D)) ((some (nx_al D (.inl (Γ.2.2.2.1 t, N, .inr (.inr (.inr (.inr (fun _ => none)))))) N)).bind g) := by
  have k2 := kk _ rfl
  rw [← ov_al] at k2
  exact nx_newQ hw hl ht hn hN hb d hq k2
theorem nx_acmp {x y : Nat} {off : Int} {t : Nat} {M : nx_M} {o1 o2 : Option α} (d : decode Y.2.1 pc = .ok (.if_acmp .eq off, 3)) (ht : (pc : Int) + off = (t : Int)) (hq : pc + 3 = q) (k1 : nx_J Γ X Y Z C (.inl (t, ls, st, M)) o1) (k2 : nx_J Γ X Y Z C (.inl (q, ls, st, M)) o2) : nx_J Γ X Y Z C (.inl (pc, ls, .ref y :: .ref x :: st, M)) (if x = y then o1 else o2) := by
  subst hq
  exact nx_br (fun K H locs L n k w1 w2 => lv_acmp_eq (rx := some x) (ry := some y) K.1 K.2.1 d ht (fun h => w1 (Option.some.inj h)) (fun h => w2 (fun e => h (by rw [e])))) k1 k2
end NXG
