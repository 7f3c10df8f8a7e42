def eqg (a b : Nat) : Option Unit := if a = b then some () else none
theorem eqg_spec {a b : Nat} {z : Unit} (h : eqg a b = some z) : a = b := by
  unfold eqg at h
  split at h
  next e => exact e
  next => cases h
def wRd {β : Type} (Γ : nx_G) (D : nx_M) (w : Nat) (F : (Nat → Int32) → Option β) : Option β := (wGet Γ D w).bind fun cf => F cf.2
def wWr {β : Type} (Γ : nx_G) (D : nx_M) (w : Nat) (F : (Nat → Int32) → Option (β × (Nat → Int32))) : Option (β × nx_M) := (wGet Γ D w).bind fun cf => (F cf.2).bind fun r => some (r.1, wPut Γ D cf.1 r.2)
def wWv (Γ : nx_G) (D : nx_M) (w : Nat) (F : (Nat → Int32) → Option (Nat → Int32)) : Option nx_M := (wGet Γ D w).bind fun cf => (F cf.2).bind fun f => some (wPut Γ D cf.1 f)
def sRd {β : Type} (Γ : nx_G) (D : nx_M) (w : Nat) (F : (Nat → Int32) → Option β) : Option β := (sGet Γ D w).bind fun cf => F cf.2
def tWr2 {β : Type} (Γ : nx_G) (D : nx_M) (t p : Nat) (F : pS → Option (β × pS)) : Option (β × nx_M) := (tGet Γ D t p).bind fun g => (F g).bind fun r => some (r.1, tW Γ D t p r.2)
def tWv2 (Γ : nx_G) (D : nx_M) (t p : Nat) (F : pS → Option pS) : Option nx_M := (tGet Γ D t p).bind fun g => (F g).bind fun r => some (tW Γ D t p r)
def gAt {β : Type} (D : nx_M) (b ci : Nat) (o : Option β) : Option β := (gO D b ci).bind fun _ => o
section NXH
variable {Γ : nx_G} {X : nx_X} {Y : nx_Y} {Z : nx_Z} {α β : Type} {C : α → nx_C} {pc q : Nat} {ls : List (Option Value)} {st stk : List Value} {M0 : Nat → Option va_E} {D : nx_M}
variable {y' : MethodName} {cc' : ByteArray} {nL' d' idx n : Nat} {ret' : Option FieldType}
theorem g_callWr {w : Nat} {F : (Nat → Int32) → Option β} {kk : β → Option α} (As : List Value) (res : β → Value) (cw : nx_CW Y.1 idx y' cc' nL' ret' n) (cv : nx_CV y' 6) (hct : ∀ (M1 : nx_M) (c : Nat) (f : Nat → Int32) (r : β), M1.1 w = some (.inr (6, [.ref c])) → w ≠ c → F f = some r → nx_Ct X.2.1 Γ d' y' cc' nL' ret' (.ref w :: As) (wW Γ M1 c f) (some (res r), wW Γ M1 c f))
    (hn : As.length = n) (hs : stk = As.reverse ++ .ref w :: st) (hW : (st.map fun v => v.category).sum ≤ 8) (hd : d' + 1 ≤ Y.2.2.2.2.2) (d : decode Y.2.1 pc = .ok (.invokevirtual idx, 3)) (hq : pc + 3 = q)
    (k : ∀ r, nx_J Γ X Y Z C (.inl (q, ls, res r :: st, ov M0 D)) (kk r)) : nx_J Γ X Y Z C (.inl (pc, ls, stk, ov M0 D)) ((wRd Γ D w F).bind kk) := by
  unfold wRd
  rw [Option.bind_assoc]
  refine nx_guard fun cf hcf => ?_
  obtain ⟨g1, g2, g3⟩ := wGet_spec hcf
  refine nx_callVr As res (fun _ => ov M0 D) cw cv (fun r e => ?_) (ov_some g1) hn hs hW hd d hq k
  have := hct (ov M0 D) cf.1 cf.2 r (ov_some g1) g3 e
  rwa [wGet_eq hcf] at this
theorem g_callWw {w : Nat} {F : (Nat → Int32) → Option (β × (Nat → Int32))} {kk : β × nx_M → Option α} (As : List Value) (res : β → Value) (cw : nx_CW Y.1 idx y' cc' nL' ret' n) (cv : nx_CV y' 6) (hct : ∀ (M1 : nx_M) (c : Nat) (f : Nat → Int32) (r : β × (Nat → Int32)), M1.1 w = some (.inr (6, [.ref c])) → w ≠ c → F f = some r → nx_Ct X.2.1 Γ d' y' cc' nL' ret' (.ref w :: As) (wW Γ M1 c f) (some (res r.1), wW Γ M1 c r.2))
    (hn : As.length = n) (hs : stk = As.reverse ++ .ref w :: st) (hW : (st.map fun v => v.category).sum ≤ 8) (hd : d' + 1 ≤ Y.2.2.2.2.2) (d : decode Y.2.1 pc = .ok (.invokevirtual idx, 3)) (hq : pc + 3 = q)
    (k : ∀ r : β × nx_M, nx_J Γ X Y Z C (.inl (q, ls, res r.1 :: st, ov M0 r.2)) (kk r)) : nx_J Γ X Y Z C (.inl (pc, ls, stk, ov M0 D)) ((wWr Γ D w F).bind kk) := by
  unfold wWr
  rw [Option.bind_assoc]
  refine nx_guard fun cf hcf => ?_
  rw [Option.bind_assoc]
  obtain ⟨g1, g2, g3⟩ := wGet_spec hcf
  refine nx_callVr As (fun r => res r.1) (fun r => wW Γ (ov M0 D) cf.1 r.2) cw cv (fun r e => ?_) (ov_some g1) hn hs hW hd d hq (fun r => ?_)
  · have := hct (ov M0 D) cf.1 cf.2 r (ov_some g1) g3 e
    rwa [wGet_eq hcf] at this
  · rw [wPut_eq]
    exact k (r.1, wPut Γ D cf.1 r.2)
theorem g_callWv {w : Nat} {F : (Nat → Int32) → Option (Nat → Int32)} {kk : nx_M → Option α} (As : List Value) (cw : nx_CW Y.1 idx y' cc' nL' ret' n) (cv : nx_CV y' 6) (hct : ∀ (M1 : nx_M) (c : Nat) (f : Nat → Int32) (r : Nat → Int32), M1.1 w = some (.inr (6, [.ref c])) → w ≠ c → F f = some r → nx_Ct X.2.1 Γ d' y' cc' nL' ret' (.ref w :: As) (wW Γ M1 c f) (none, wW Γ M1 c r))
    (hn : As.length = n) (hs : stk = As.reverse ++ .ref w :: st) (hW : (st.map fun v => v.category).sum ≤ 8) (hd : d' + 1 ≤ Y.2.2.2.2.2) (d : decode Y.2.1 pc = .ok (.invokevirtual idx, 3)) (hq : pc + 3 = q)
    (k : ∀ r : nx_M, nx_J Γ X Y Z C (.inl (q, ls, st, ov M0 r)) (kk r)) : nx_J Γ X Y Z C (.inl (pc, ls, stk, ov M0 D)) ((wWv Γ D w F).bind kk) := by
  unfold wWv
  rw [Option.bind_assoc]
  refine nx_guard fun cf hcf => ?_
  rw [Option.bind_assoc]
  obtain ⟨g1, g2, g3⟩ := wGet_spec hcf
  refine nx_callVv As (fun r => wW Γ (ov M0 D) cf.1 r) cw cv (fun r e => ?_) (ov_some g1) hn hs hW hd d hq (fun r => ?_)
  · have := hct (ov M0 D) cf.1 cf.2 r (ov_some g1) g3 e
    rwa [wGet_eq hcf] at this
  · rw [wPut_eq]
    exact k (wPut Γ D cf.1 r)
theorem g_callS {w : Nat} {F : (Nat → Int32) → Option β} {kk : β → Option α} (As : List Value) (res : β → Value) (cw : nx_CW Y.1 idx y' cc' nL' ret' n) (cv : nx_CV y' 3) (hct : ∀ (M1 : nx_M) (c : Nat) (ln : Value) (f : Nat → Int32) (r : β), M1.1 w = some (.inr (3, [.ref c, ln])) → w ≠ c → F f = some r → nx_Ct X.2.1 Γ d' y' cc' nL' ret' (.ref w :: As) (nx_put M1 c (.inl (Γ.2.2.2.1 0, 64, .inl f))) (some (res r), nx_put M1 c (.inl (Γ.2.2.2.1 0, 64, .inl f))))
    (hn : As.length = n) (hs : stk = As.reverse ++ .ref w :: st) (hW : (st.map fun v => v.category).sum ≤ 8) (hd : d' + 1 ≤ Y.2.2.2.2.2) (d : decode Y.2.1 pc = .ok (.invokevirtual idx, 3)) (hq : pc + 3 = q)
    (k : ∀ r, nx_J Γ X Y Z C (.inl (q, ls, res r :: st, ov M0 D)) (kk r)) : nx_J Γ X Y Z C (.inl (pc, ls, stk, ov M0 D)) ((sRd Γ D w F).bind kk) := by
  unfold sRd
  rw [Option.bind_assoc]
  refine nx_guard fun cf hcf => ?_
  obtain ⟨⟨ln, g1⟩, g2, g3⟩ := sGet_spec hcf
  refine nx_callVr As res (fun _ => ov M0 D) cw cv (fun r e => ?_) (ov_some g1) hn hs hW hd d hq k
  have := hct (ov M0 D) cf.1 ln cf.2 r (ov_some g1) g3 e
  rwa [nx_put_id (ov_some g2)] at this
theorem g_callTw {t p b ci : Nat} {F : pS → Option (β × pS)} {kk : β × nx_M → Option α} (As : List Value) (res : β → Value) (cw : nx_CW Y.1 idx y' cc' nL' ret' n) (cv : nx_CV y' ci) (hb : ∀ (M1 : nx_M) (g : pS), t + 4 < p → ∃ fs, (tW Γ M1 t p g).1 b = some (.inr (ci, fs))) (hct : ∀ (M1 : nx_M) (g : pS) (r : β × pS), t + 4 < p → F g = some r → nx_Ct X.2.1 Γ d' y' cc' nL' ret' (.ref b :: As) (tW Γ M1 t p g) (some (res r.1), tW Γ M1 t p r.2))
    (hn : As.length = n) (hs : stk = As.reverse ++ .ref b :: st) (hW : (st.map fun v => v.category).sum ≤ 8) (hd : d' + 1 ≤ Y.2.2.2.2.2) (d : decode Y.2.1 pc = .ok (.invokevirtual idx, 3)) (hq : pc + 3 = q)
    (k : ∀ r : β × nx_M, nx_J Γ X Y Z C (.inl (q, ls, res r.1 :: st, ov M0 r.2)) (kk r)) : nx_J Γ X Y Z C (.inl (pc, ls, stk, ov M0 D)) ((tWr2 Γ D t p F).bind kk) := by
  unfold tWr2
  rw [Option.bind_assoc]
  refine nx_guard fun g hg => ?_
  rw [Option.bind_assoc]
  obtain ⟨g1, g2⟩ := tGet_spec hg
  have e0 : tW Γ (ov M0 D) t p g = ov M0 D := by rw [tW_ov, g1]
  obtain ⟨fs, hfs⟩ := hb (ov M0 D) g g2
  rw [e0] at hfs
  refine nx_callVr As (fun r => res r.1) (fun r => tW Γ (ov M0 D) t p r.2) cw cv (fun r e => ?_) hfs hn hs hW hd d hq (fun r => ?_)
  · have := hct (ov M0 D) g r g2 e
    rwa [e0] at this
  · rw [tW_ov]
    exact k (r.1, tW Γ D t p r.2)
theorem g_callTv {t p b ci : Nat} {F : pS → Option pS} {kk : nx_M → Option α} (As : List Value) (cw : nx_CW Y.1 idx y' cc' nL' ret' n) (cv : nx_CV y' ci) (hb : ∀ (M1 : nx_M) (g : pS), t + 4 < p → ∃ fs, (tW Γ M1 t p g).1 b = some (.inr (ci, fs))) (hct : ∀ (M1 : nx_M) (g : pS) (r : pS), t + 4 < p → F g = some r → nx_Ct X.2.1 Γ d' y' cc' nL' ret' (.ref b :: As) (tW Γ M1 t p g) (none, tW Γ M1 t p r))
    (hn : As.length = n) (hs : stk = As.reverse ++ .ref b :: st) (hW : (st.map fun v => v.category).sum ≤ 8) (hd : d' + 1 ≤ Y.2.2.2.2.2) (d : decode Y.2.1 pc = .ok (.invokevirtual idx, 3)) (hq : pc + 3 = q)
    (k : ∀ r : nx_M, nx_J Γ X Y Z C (.inl (q, ls, st, ov M0 r)) (kk r)) : nx_J Γ X Y Z C (.inl (pc, ls, stk, ov M0 D)) ((tWv2 Γ D t p F).bind kk) := by
  unfold tWv2
  rw [Option.bind_assoc]
  refine nx_guard fun g hg => ?_
  rw [Option.bind_assoc]
  obtain ⟨g1, g2⟩ := tGet_spec hg
  have e0 : tW Γ (ov M0 D) t p g = ov M0 D := by rw [tW_ov, g1]
  obtain ⟨fs, hfs⟩ := hb (ov M0 D) g g2
  rw [e0] at hfs
  refine nx_callVv As (fun r => tW Γ (ov M0 D) t p r) cw cv (fun r e => ?_) hfs hn hs hW hd d hq (fun r => ?_)
  · have := hct (ov M0 D) g r g2 e
    rwa [e0] at this
  · rw [tW_ov]
    exact k (tW Γ D t p r)
/-- a call of a method over raw memory -/
theorem g_callGr {b ci : Nat} {oc : Option β} {kk : β → Option α} (As : List Value) (res : β → Value) (mem : β → nx_M) (cw : nx_CW Y.1 idx y' cc' nL' ret' n) (cv : nx_CV y' ci) (hct : ∀ r, oc = some r → nx_Ct X.2.1 Γ d' y' cc' nL' ret' (.ref b :: As) (ov M0 D) (some (res r), ov M0 (mem r)))
    (hn : As.length = n) (hs : stk = As.reverse ++ .ref b :: st) (hW : (st.map fun v => v.category).sum ≤ 8) (hd : d' + 1 ≤ Y.2.2.2.2.2) (d : decode Y.2.1 pc = .ok (.invokevirtual idx, 3)) (hq : pc + 3 = q)
    (k : ∀ r, nx_J Γ X Y Z C (.inl (q, ls, res r :: st, ov M0 (mem r))) (kk r)) : nx_J Γ X Y Z C (.inl (pc, ls, stk, ov M0 D)) ((gAt D b ci oc).bind kk) := by
  unfold gAt
  rw [Option.bind_assoc]
  exact nx_guard fun fs hfs => nx_callVr As res (fun r => ov M0 (mem r)) cw cv hct (ov_some (gO_spec hfs)) hn hs hW hd d hq k
theorem g_callGv {b ci : Nat} {oc : Option β} {kk : β → Option α} (As : List Value) (mem : β → nx_M) (cw : nx_CW Y.1 idx y' cc' nL' ret' n) (cv : nx_CV y' ci) (hct : ∀ r, oc = some r → nx_Ct X.2.1 Γ d' y' cc' nL' ret' (.ref b :: As) (ov M0 D) (none, ov M0 (mem r)))
    (hn : As.length = n) (hs : stk = As.reverse ++ .ref b :: st) (hW : (st.map fun v => v.category).sum ≤ 8) (hd : d' + 1 ≤ Y.2.2.2.2.2) (d : decode Y.2.1 pc = .ok (.invokevirtual idx, 3)) (hq : pc + 3 = q)
    (k : ∀ r, nx_J Γ X Y Z C (.inl (q, ls, st, ov M0 (mem r))) (kk r)) : nx_J Γ X Y Z C (.inl (pc, ls, stk, ov M0 D)) ((gAt D b ci oc).bind kk) := by
  unfold gAt
  rw [Option.bind_assoc]
  exact nx_guard fun fs hfs => nx_callVv As (fun r => ov M0 (mem r)) cw cv hct (ov_some (gO_spec hfs)) hn hs hW hd d hq k
end NXH
section NXQ
variable {Γ : nx_G} {X : nx_X} {Y : nx_Y} {Z : nx_Z} {α : Type} {C : α → nx_C} {pc q : Nat} {ls : List (Option Value)} {st : List Value} {M : nx_M} {o : Option α}
theorem nx_qload_n {k : Fin 4} {r : Option Nat} (h : ls[(k : Nat)]? = some (some (va_rf r))) (d : decode Y.2.1 pc = .ok (.aload_n k, 1)) (hq : pc + 1 = q) (kk : nx_J Γ X Y Z C (.inl (q, ls, va_rf r :: st, M)) o) : nx_J Γ X Y Z C (.inl (pc, ls, st, M)) o := by
  cases r with
  | none => exact nx_nload_n h d hq kk
  | some a => exact nx_aload_n (x := a) h d hq kk
theorem nx_qload {i : Nat} {r : Option Nat} (h : ls[i]? = some (some (va_rf r))) (d : decode Y.2.1 pc = .ok (.aload i, 2)) (hq : pc + 2 = q) (kk : nx_J Γ X Y Z C (.inl (q, ls, va_rf r :: st, M)) o) : nx_J Γ X Y Z C (.inl (pc, ls, st, M)) o := by
  cases r with
  | none => exact nx_nload h d hq kk
  | some a => exact nx_aload (x := a) h d hq kk
theorem nx_qstore_n {k : Fin 4} {r : Option Nat} (ls' : List (Option Value)) (d : decode Y.2.1 pc = .ok (.astore_n k, 1)) (hq : pc + 1 = q) (hn : (k : Nat) < Y.2.2.1) (ho : nx_okS ls k = true) (hs : ls.set k (some (va_rf r)) = ls') (kk : nx_J Γ X Y Z C (.inl (q, ls', st, M)) o) : nx_J Γ X Y Z C (.inl (pc, ls, va_rf r :: st, M)) o := by
  cases r with
  | none => exact nx_nstore_n ls' d hq hn ho hs kk
  | some a => exact nx_astore_n (x := a) ls' d hq hn ho hs kk
theorem nx_qstore {i : Nat} {r : Option Nat} (ls' : List (Option Value)) (d : decode Y.2.1 pc = .ok (.astore i, 2)) (hq : pc + 2 = q) (hn : i < Y.2.2.1) (ho : nx_okS ls i = true) (hs : ls.set i (some (va_rf r)) = ls') (kk : nx_J Γ X Y Z C (.inl (q, ls', st, M)) o) : nx_J Γ X Y Z C (.inl (pc, ls, va_rf r :: st, M)) o := by
  cases r with
  | none => exact nx_nstore ls' d hq hn ho hs kk
  | some a => exact nx_astore (x := a) ls' d hq hn ho hs kk
end NXQ
theorem nx_okq {ls : List (Option Value)} {i j : Nat} {r : Option Nat} (hj : i = j + 1) (h : ls[j]? = some (some (va_rf r))) : nx_okS ls i = true := by
  subst hj
  unfold nx_okS
  simp only [h]
  cases r <;> rfl
