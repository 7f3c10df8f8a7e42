theorem nx_wk_e : nx_wk [] [] := True.intro
theorem nx_wk_s {v : Value} {a b : List (Option Value)} (h : nx_wk a b) : nx_wk (some v :: a) (some v :: b) := ⟨rfl, h⟩
theorem nx_wk_n {x : Option Value} {a b : List (Option Value)} (h : nx_wk a b) : nx_wk (x :: a) (none :: b) := by
  unfold nx_wk
  exact h
def nx_tob (x : Int32) : Option Bool := if x = 0 then some false else if x = 1 then some true else none
theorem nx_tob_some {x : Int32} {b : Bool} (h : nx_tob x = some b) : x = bz b := by
  unfold nx_tob at h
  split at h
  next h0 => cases h; exact h0
  next h0 =>
    split at h
    next h1 => cases h; exact h1
    next => cases h
section NXP
variable {Γ : nx_G} {X : nx_X} {Y : nx_Y} {Z : nx_Z} {α β : Type} {C : α → nx_C} {pc q : Nat} {ls : List (Option Value)} {st stk : List Value} {M : nx_M} {o : Option α}
theorem nx_zretI {x : Int32} {g : Bool → Option α} (k : ∀ b, nx_J Γ X Y Z C (.inl (pc, ls, [.int (bz b)], M)) (g b)) : nx_J Γ X Y Z C (.inl (pc, ls, [.int x], M)) ((nx_tob x).bind g) := by
  intro a ha
  obtain ⟨b, e1, e2⟩ := nx_bind_some ha
  rw [nx_tob_some e1]
  exact k b a e2
/-- a named value -/
theorem nx_let {c : nx_C} {v : β} {g : β → Option α} (k : ∀ b, b = v → nx_J Γ X Y Z C c (g b)) : nx_J Γ X Y Z C c ((some v).bind g) := k v rfl
theorem nx_max {x y : Int32} {idx : Nat} (w1 : Cond.methodLink Y.1 idx Lib.Math.max.name ∈ nx_TB) (w2 : Cond.static Lib.Math.max.name ∈ nx_TB) (w3 : Cond.initialized "java/lang/Math" ∈ nx_TB) (w4 : Cond.code Lib.Math.max.name Lib.Math.max.code 2 (some .int) ∈ nx_TB) (hd : 1 ≤ Y.2.2.2.2.2) (hW : (st.map fun v => v.category).sum ≤ 8) (d : decode Y.2.1 pc = .ok (.invokestatic idx, 3)) (hq : pc + 3 = q) (k : nx_J Γ X Y Z C (.inl (q, ls, .int (if x < y then y else x) :: st, M)) o) : nx_J Γ X Y Z C (.inl (pc, ls, .int y :: .int x :: st, M)) o := by
  subst hq
  intro a ha
  obtain ⟨l1, w0⟩ := k a ha
  refine ⟨l1, fun K h h1 h2 => ?_⟩
  obtain ⟨e1, e2, w⟩ := w0 K h h1 h2
  refine ⟨e1, e2, fun H locs L hH hl hL => ?_⟩
  have hw := w H locs L hH hl hL
  obtain ⟨hx, hb, hr, hlk, hml, hown, hnm, hts, hE, hR, hQ⟩ := K
  dsimp only at e1 e2 h1 h2 hw ⊢
  have c1 : 1 ≤ (nx_R X).frames := by rw [hR]; exact hd
  have c2 : (st.map fun v => v.category).sum + 13 ≤ (nx_R X).locals := by
    rw [hR]
    show _ ≤ 40 * Y.2.2.2.2.2
    omega
  have c3 : M.2.1 - Z.1.2.1 ≤ (nx_R X).cells := by
    rw [hR]
    show _ ≤ Z.2.2.2.1 - Z.1.2.1
    omega
  have c4 : M.2.2 - Z.1.2.2 ≤ (nx_R X).slots := by
    rw [hR]
    show _ ≤ Z.2.2.2.2 - Z.1.2.2
    omega
  exact va_mmax hx hb (hml.trans hL.1.symm) hown (hts _ w1) (hts _ w2) (hts _ w3) (hts _ w4) c1 c2 c3 c4 d hw
theorem nx_min {x y : Int32} {idx : Nat} (w1 : Cond.methodLink Y.1 idx Lib.Math.min.name ∈ nx_TB) (w2 : Cond.static Lib.Math.min.name ∈ nx_TB) (w3 : Cond.initialized "java/lang/Math" ∈ nx_TB) (w4 : Cond.code Lib.Math.min.name Lib.Math.min.code 2 (some .int) ∈ nx_TB) (hd : 1 ≤ Y.2.2.2.2.2) (hW : (st.map fun v => v.category).sum ≤ 8) (d : decode Y.2.1 pc = .ok (.invokestatic idx, 3)) (hq : pc + 3 = q) (k : nx_J Γ X Y Z C (.inl (q, ls, .int (if y < x then y else x) :: st, M)) o) : nx_J Γ X Y Z C (.inl (pc, ls, .int y :: .int x :: st, M)) o := by
  subst hq
  intro a ha
  obtain ⟨l1, w0⟩ := k a ha
  refine ⟨l1, fun K h h1 h2 => ?_⟩
  obtain ⟨e1, e2, w⟩ := w0 K h h1 h2
  refine ⟨e1, e2, fun H locs L hH hl hL => ?_⟩
  have hw := w H locs L hH hl hL
  obtain ⟨hx, hb, hr, hlk, hml, hown, hnm, hts, hE, hR, hQ⟩ := K
  dsimp only at e1 e2 h1 h2 hw ⊢
  have c1 : 1 ≤ (nx_R X).frames := by rw [hR]; exact hd
  have c2 : (st.map fun v => v.category).sum + 13 ≤ (nx_R X).locals := by
    rw [hR]
    show _ ≤ 40 * Y.2.2.2.2.2
    omega
  have c3 : M.2.1 - Z.1.2.1 ≤ (nx_R X).cells := by
    rw [hR]
    show _ ≤ Z.2.2.2.1 - Z.1.2.1
    omega
  have c4 : M.2.2 - Z.1.2.2 ≤ (nx_R X).slots := by
    rw [hR]
    show _ ≤ Z.2.2.2.2 - Z.1.2.2
    omega
  exact va_mmin hx hb (hml.trans hL.1.symm) hown (hts _ w1) (hts _ w2) (hts _ w3) (hts _ w4) c1 c2 c3 c4 d hw
/-- a table of jumps -/
def nx_sw {α : Type} (x : Int32) (lo : Int) (os : List (Option α)) (dflt : Option α) : Option α := if x.toInt < lo then dflt else match os[(x.toInt - lo).toNat]? with
  | some o => o
  | none => dflt
def nx_swl (Γ : nx_G) (X : nx_X) (Y : nx_Y) (Z : nx_Z) {α : Type} (C : α → nx_C) (pc : Nat) (ls : List (Option Value)) (st : List Value) (M : nx_M) : List Int → List (Option α) → Prop
  | [], [] => True
  | off :: offs, o :: os => (∃ t : Nat, (pc : Int) + off = (t : Int) ∧ nx_J Γ X Y Z C (.inl (t, ls, st, M)) o) ∧ nx_swl Γ X Y Z C pc ls st M offs os
  | _, _ => False
theorem nx_swl_e : nx_swl Γ X Y Z C pc ls st M [] [] := True.intro
theorem nx_swl_c {off : Int} {offs : List Int} {os : List (Option α)} (t : Nat) (ht : (pc : Int) + off = (t : Int)) (h : nx_J Γ X Y Z C (.inl (t, ls, st, M)) o) (hr : nx_swl Γ X Y Z C pc ls st M offs os) : nx_swl Γ X Y Z C pc ls st M (off :: offs) (o :: os) := ⟨⟨t, ht, h⟩, hr⟩
theorem nx_swl_at : ∀ (offs : List Int) (os : List (Option α)), nx_swl Γ X Y Z C pc ls st M offs os → offs.length = os.length ∧ ∀ (i : Nat) (o : Option α), os[i]? = some o → ∃ (off : Int) (t : Nat), offs[i]? = some off ∧ (pc : Int) + off = (t : Int) ∧ nx_J Γ X Y Z C (.inl (t, ls, st, M)) o
  | [], [], _ => ⟨rfl, fun i o h => by simp at h⟩
  | off :: offs, o :: os, h => by
    obtain ⟨⟨t, h1, h2⟩, h3⟩ := h
    obtain ⟨e, g⟩ := nx_swl_at offs os h3
    refine ⟨by simp [e], fun i o' hi => ?_⟩
    cases i with
    | zero =>
      have : o = o' := by simpa using hi
      subst this
      exact ⟨off, t, rfl, h1, h2⟩
    | succ i => exact g i o' (by simpa using hi)
  | [], _ :: _, h => by cases h
  | _ :: _, [], h => by cases h
theorem nx_tsw {x : Int32} {dflt lo hi : Int} {offs : Array Int} {len td : Nat} {os : List (Option α)} {od : Option α} (d : decode Y.2.1 pc = .ok (.tableswitch dflt lo hi offs, len)) (hhi : hi = lo + offs.size - 1) (htd : (pc : Int) + dflt = (td : Int)) (hd : nx_J Γ X Y Z C (.inl (td, ls, st, M)) od) (hs : nx_swl Γ X Y Z C pc ls st M offs.toList os) : nx_J Γ X Y Z C (.inl (pc, ls, .int x :: st, M)) (nx_sw x lo os od) := by
  obtain ⟨e, g⟩ := nx_swl_at _ _ hs
  have e : offs.size = os.length := by simpa using e
  unfold nx_sw
  by_cases h1 : x.toInt < lo
  · rw [if_pos h1]
    exact nx_lift (fun K H locs L n k _ hL w => lv_tableOut K.1 K.2.1 d (Or.inl h1) htd w) hd
  · rw [if_neg h1]
    cases ho : os[(x.toInt - lo).toNat]? with
    | none =>
      have h2 : os.length ≤ (x.toInt - lo).toNat := by simpa using ho
      exact nx_lift (fun K H locs L n k _ hL w => lv_tableOut K.1 K.2.1 d (Or.inr (by omega)) htd w) hd
    | some o =>
      have h2 : (x.toInt - lo).toNat < os.length := (List.getElem?_eq_some_iff.mp ho).1
      obtain ⟨off, t, z1, z2, z3⟩ := g _ _ ho
      exact nx_lift (fun K H locs L n k _ hL w => lv_tableIn K.1 K.2.1 d h1 (by omega) (by simpa using z1) z2 w) z3
end NXP
/-! the World: one row of 514 ints -/
abbrev wW (Γ : nx_G) (M0 : nx_M) (c : Nat) (f : Nat → Int32) : nx_M := nx_put M0 c (.inl (Γ.2.2.2.1 0, 514, .inl f))
/-! the Model: its int fields are row 0, its arrays rows 1 to 13 -/
abbrev mS : Type := (Nat → Nat → Int32) × Int64
def mlen : Nat → Nat
  | 1 => 240
  | 2 => 3
  | 3 => 6
  | 4 => 3
  | 5 => 320
  | 6 => 5
  | 7 => 820
  | 8 => 4
  | 9 => 37
  | 10 => 32800
  | 11 => 20448
  | 12 => 8
  | _ => 820
def mfl (m : Nat) (g : mS) : List Value := [.int (g.1 0 0), .ref (m + 1), .int (g.1 0 2), .int (g.1 0 3), .int (g.1 0 4), .ref (m + 2), .ref (m + 3), .int (g.1 0 7), .ref (m + 4), .int (g.1 0 9), .ref (m + 5), .ref (m + 6), .int (g.1 0 12), .ref (m + 7), .ref (m + 8), .int (g.1 0 15), .int (g.1 0 16), .ref (m + 9), .ref (m + 10), .int (g.1 0 19), .long g.2, .ref (m + 11), .int (g.1 0 22), .int (g.1 0 23), .ref (m + 12), .ref (m + 13), .int (g.1 0 26)]
def mW (Γ : nx_G) (M0 : nx_M) (m : Nat) (g : mS) : nx_M := (fun a => if a = m then some (.inr (8, mfl m g)) else if m < a ∧ a ≤ m + 13 then some (.inl (Γ.2.2.2.1 0, mlen (a - m), .inl (g.1 (a - m)))) else M0.1 a, M0.2)
def mRow (g : mS) (j : Nat) (f : Nat → Int32) : mS := (fun a => if a = j then f else g.1 a, g.2)
def mFs (g : mS) (k : Nat) (v : Int32) : mS := mRow g 0 (upd (g.1 0) k v)
def mFl (g : mS) (v : Int64) : mS := (g.1, v)
def mWr (g : mS) (j : Nat) (i x : Int32) : Option mS := (nx_wr (mlen j) (g.1 j) i x).bind fun f => some (mRow g j f)
theorem mW_m {Γ : nx_G} {M0 : nx_M} {m : Nat} {g : mS} : (mW Γ M0 m g).1 m = some (.inr (8, mfl m g)) := by simp [mW]
theorem mW_a {Γ : nx_G} {M0 : nx_M} {m : Nat} {g : mS} (j : Nat) (h : 1 ≤ j ∧ j ≤ 13) : (mW Γ M0 m g).1 (m + j) = some (.inl (Γ.2.2.2.1 0, mlen j, .inl (g.1 j))) := by
  unfold mW
  dsimp only
  rw [if_neg (by omega), if_pos (by omega), Nat.add_sub_cancel_left]
theorem mW_row {Γ : nx_G} {M0 : nx_M} {m : Nat} {g : mS} {j : Nat} {f : Nat → Int32} (h : 1 ≤ j ∧ j ≤ 13) : nx_put (mW Γ M0 m g) (m + j) (.inl (Γ.2.2.2.1 0, mlen j, .inl f)) = mW Γ M0 m (mRow g j f) := by
  unfold nx_put mW
  congr 1
  funext a
  dsimp only
  by_cases ha : a = m + j
  · subst ha
    rw [if_pos rfl, if_neg (by omega), if_pos (by omega), Nat.add_sub_cancel_left]
    simp [mRow]
  · rw [if_neg ha]
    by_cases hm : a = m
    · rw [if_pos hm, if_pos hm]
      have h0 : ∀ i, (mRow g j f).1 0 i = g.1 0 i := by
        intro i
        unfold mRow
        dsimp only
        rw [if_neg (by omega)]
      have hl : (mRow g j f).2 = g.2 := rfl
      unfold mfl
      simp only [h0, hl]
    · rw [if_neg hm, if_neg hm]
      by_cases hr : m < a ∧ a ≤ m + 13
      · rw [if_pos hr, if_pos hr]
        unfold mRow
        dsimp only
        rw [if_neg (by omega)]
      · rw [if_neg hr, if_neg hr]
theorem mW_fld {Γ : nx_G} {M0 : nx_M} {m : Nat} {g g' : mS} {fs : List Value} (hf : mfl m g' = fs) (hr : ∀ j, 1 ≤ j → g'.1 j = g.1 j) : nx_put (mW Γ M0 m g) m (.inr (8, fs)) = mW Γ M0 m g' := by
  unfold nx_put mW
  congr 1
  funext a
  dsimp only
  by_cases hm : a = m
  · rw [if_pos hm, if_pos hm, hf]
  · rw [if_neg hm, if_neg hm, if_neg hm]
    by_cases hz : m < a ∧ a ≤ m + 13
    · rw [if_pos hz, if_pos hz, hr (a - m) (by omega)]
    · rw [if_neg hz, if_neg hz]
theorem mRow_ne {g : mS} {k : Nat} {v : Int32} {j : Nat} (h : 1 ≤ j) : (mFs g k v).1 j = g.1 j := by
  unfold mFs mRow
  dsimp only
  rw [if_neg (by omega)]
section NXW
variable {Γ : nx_G} {X : nx_X} {Y : nx_Y} {Z : nx_Z} {α : Type} {C : α → nx_C} {pc q : Nat} {ls : List (Option Value)} {st : List Value} {M0 : nx_M} {o : Option α} {c m : Nat} {f : Nat → Int32} {g : mS}
theorem w_iast {i x : Int32} {k : (Nat → Int32) → Option α} (d : decode Y.2.1 pc = .ok (.iastore, 1)) (hq : pc + 1 = q) (kk : ∀ f', nx_J Γ X Y Z C (.inl (q, ls, st, wW Γ M0 c f')) (k f')) : nx_J Γ X Y Z C (.inl (pc, ls, .int x :: .int i :: .ref c :: st, wW Γ M0 c f)) ((nx_wr 514 f i x).bind k) :=
  nx_iast nx_put_self d hq (fun f' => by rw [nx_put_put]; exact kk f')
theorem m_iald {i : Int32} {k : Int32 → Option α} (j : Nat) (h : 1 ≤ j ∧ j ≤ 13) (d : decode Y.2.1 pc = .ok (.iaload, 1)) (hq : pc + 1 = q) (kk : ∀ x, nx_J Γ X Y Z C (.inl (q, ls, .int x :: st, mW Γ M0 m g)) (k x)) : nx_J Γ X Y Z C (.inl (pc, ls, .int i :: .ref (m + j) :: st, mW Γ M0 m g)) ((nx_rd (mlen j) (g.1 j) i).bind k) := nx_iald (mW_a j h) d hq kk
theorem m_iast {i x : Int32} {k : mS → Option α} (j : Nat) (h : 1 ≤ j ∧ j ≤ 13) (d : decode Y.2.1 pc = .ok (.iastore, 1)) (hq : pc + 1 = q) (kk : ∀ g', nx_J Γ X Y Z C (.inl (q, ls, st, mW Γ M0 m g')) (k g')) : nx_J Γ X Y Z C (.inl (pc, ls, .int x :: .int i :: .ref (m + j) :: st, mW Γ M0 m g)) ((mWr g j i x).bind k) := by
  unfold mWr
  rw [Option.bind_assoc]
  exact nx_iast (mW_a j h) d hq (fun f' => by rw [mW_row h]; exact kk _)
theorem m_put {k idx : Nat} {v : Int32} {ty : FieldType} {kk : mS → Option α} (hF : nx_FL Y.1 idx 8 k) (hT : nx_FT 8 k false ty) (hn : narrow ty (.int v) = .int v) (hfit : fits ty (.int v) = true) (hk : k < 27) (hs : mfl m (mFs g k v) = (mfl m g).set k (.int v)) (d : decode Y.2.1 pc = .ok (.putfield idx, 3)) (hq : pc + 3 = q) (kx : ∀ g', nx_J Γ X Y Z C (.inl (q, ls, st, mW Γ M0 m g')) (kk g')) : nx_J Γ X Y Z C (.inl (pc, ls, .int v :: .ref m :: st, mW Γ M0 m g)) ((some (mFs g k v)).bind kk) := by
  refine nx_putf hF hT mW_m hn hfit hk d hq ?_
  rw [mW_fld hs (fun j hj => mRow_ne hj)]
  exact kx _
theorem m_putl {idx : Nat} {v : Int64} {kk : mS → Option α} (hF : nx_FL Y.1 idx 8 20) (hT : nx_FT 8 20 false .long) (d : decode Y.2.1 pc = .ok (.putfield idx, 3)) (hq : pc + 3 = q) (kx : ∀ g', nx_J Γ X Y Z C (.inl (q, ls, st, mW Γ M0 m g')) (kk g')) : nx_J Γ X Y Z C (.inl (pc, ls, .long v :: .ref m :: st, mW Γ M0 m g)) ((some (mFl g v)).bind kk) := by
  refine nx_putf hF hT mW_m rfl rfl (by show 20 < 27; decide) d hq ?_
  rw [mW_fld (g := g) (g' := mFl g v) (show mfl m (mFl g v) = (mfl m g).set 20 (.long v) from rfl) (fun j hj => rfl)]
  exact kx _
/-- a field of a truth value, from an int -/
theorem m_putz {k idx : Nat} {v : Int32} {kk : mS → Option α} (hF : nx_FL Y.1 idx 8 k) (hT : nx_FT 8 k false .boolean) (hk : k < 27) (hs : ∀ v, mfl m (mFs g k v) = (mfl m g).set k (.int v)) (d : decode Y.2.1 pc = .ok (.putfield idx, 3)) (hq : pc + 3 = q) (kx : ∀ g', nx_J Γ X Y Z C (.inl (q, ls, st, mW Γ M0 m g')) (kk g')) : nx_J Γ X Y Z C (.inl (pc, ls, .int v :: .ref m :: st, mW Γ M0 m g)) (((nx_tob v).bind fun b => some (mFs g k (bz b))).bind kk) := by
  rw [Option.bind_assoc]
  intro a ha
  obtain ⟨b, e1, e2⟩ := nx_bind_some ha
  rw [nx_tob_some e1]
  exact m_put hF hT (nx_nar_b b) (by cases b <;> rfl) hk (hs _) d hq kx a e2
end NXW
section NXS
variable {Γ : nx_G} {X : nx_X} {Y : nx_Y} {Z : nx_Z} {α β γ : Type} {C : α → nx_C} {pc q : Nat} {ls : List (Option Value)} {st stk : List Value} {M : nx_M}
variable {y' : MethodName} {cc' : ByteArray} {nL' d' idx n : Nat} {ret' : Option FieldType} {oc : Option β} {kk : β → Option α}
theorem nx_callVr {b ci : Nat} {fs : List Value} (As : List Value) (res : β → Value) (mem : β → nx_M) (cw : nx_CW Y.1 idx y' cc' nL' ret' n) (cv : nx_CV y' ci) (hct : ∀ r, oc = some r → nx_Ct X.2.1 Γ d' y' cc' nL' ret' (.ref b :: As) M (some (res r), mem r))
    (hμ : M.1 b = some (.inr (ci, fs))) (hn : As.length = n) (hs : stk = As.reverse ++ .ref b :: st) (hW : (st.map fun v => v.category).sum ≤ 8) (hd : d' + 1 ≤ Y.2.2.2.2.2) (d : decode Y.2.1 pc = .ok (.invokevirtual idx, 3)) (hq : pc + 3 = q)
    (k : ∀ r, nx_J Γ X Y Z C (.inl (q, ls, res r :: st, mem r)) (kk r)) : nx_J Γ X Y Z C (.inl (pc, ls, stk, M)) (oc.bind kk) := nx_callV (out := fun r => (some (res r), mem r)) As cw cv hct hμ hn hs hW hd d hq k
theorem nx_callVv {b ci : Nat} {fs : List Value} (As : List Value) (mem : β → nx_M) (cw : nx_CW Y.1 idx y' cc' nL' ret' n) (cv : nx_CV y' ci) (hct : ∀ r, oc = some r → nx_Ct X.2.1 Γ d' y' cc' nL' ret' (.ref b :: As) M (none, mem r))
    (hμ : M.1 b = some (.inr (ci, fs))) (hn : As.length = n) (hs : stk = As.reverse ++ .ref b :: st) (hW : (st.map fun v => v.category).sum ≤ 8) (hd : d' + 1 ≤ Y.2.2.2.2.2) (d : decode Y.2.1 pc = .ok (.invokevirtual idx, 3)) (hq : pc + 3 = q)
    (k : ∀ r, nx_J Γ X Y Z C (.inl (q, ls, st, mem r)) (kk r)) : nx_J Γ X Y Z C (.inl (pc, ls, stk, M)) (oc.bind kk) := nx_callV (out := fun r => (none, mem r)) As cw cv hct hμ hn hs hW hd d hq k
theorem nx_callSr (As : List Value) (res : β → Value) (mem : β → nx_M) (cw : nx_CW Y.1 idx y' cc' nL' ret' n) (cs : Cond.static y' ∈ nx_TB) (hct : ∀ r, oc = some r → nx_Ct X.2.1 Γ d' y' cc' nL' ret' As M (some (res r), mem r))
    (hn : As.length = n) (hs : stk = As.reverse ++ st) (hW : (st.map fun v => v.category).sum ≤ 8) (hd : d' + 1 ≤ Y.2.2.2.2.2) (d : decode Y.2.1 pc = .ok (.invokestatic idx, 3)) (hq : pc + 3 = q)
    (k : ∀ r, nx_J Γ X Y Z C (.inl (q, ls, res r :: st, mem r)) (kk r)) : nx_J Γ X Y Z C (.inl (pc, ls, stk, M)) (oc.bind kk) := nx_callS (out := fun r => (some (res r), mem r)) As cw cs hct hn hs hW hd d hq k
theorem nx_callSv (As : List Value) (mem : β → nx_M) (cw : nx_CW Y.1 idx y' cc' nL' ret' n) (cs : Cond.static y' ∈ nx_TB) (hct : ∀ r, oc = some r → nx_Ct X.2.1 Γ d' y' cc' nL' ret' As M (none, mem r))
    (hn : As.length = n) (hs : stk = As.reverse ++ st) (hW : (st.map fun v => v.category).sum ≤ 8) (hd : d' + 1 ≤ Y.2.2.2.2.2) (d : decode Y.2.1 pc = .ok (.invokestatic idx, 3)) (hq : pc + 3 = q)
    (k : ∀ r, nx_J Γ X Y Z C (.inl (q, ls, st, mem r)) (kk r)) : nx_J Γ X Y Z C (.inl (pc, ls, stk, M)) (oc.bind kk) := nx_callS (out := fun r => (none, mem r)) As cw cs hct hn hs hW hd d hq k
theorem nx_seqS {Ca : β → nx_C} {Cb : γ → nx_C} {c : nx_C} {o : Option (β ⊕ γ)} {f : β → Option α} {g : γ → Option α} (h1 : nx_J Γ X Y Z (Sum.elim Ca Cb) c o) (h2 : ∀ b, nx_J Γ X Y Z C (Ca b) (f b)) (h3 : ∀ b, nx_J Γ X Y Z C (Cb b) (g b)) : nx_J Γ X Y Z C c (o.bind (Sum.elim f g)) :=
  nx_seq h1 (fun b => by
    cases b with
    | inl b => exact h2 b
    | inr b => exact h3 b)
theorem nx_sub {ws : List Cond} (ps : List Nat) (hp : ws = ps.filterMap (fun i => lw_tbl[i]?)) (hg : ws.all goodWord = true) : ∀ w ∈ ws, w ∈ nx_TB := by
  intro w hw
  have h1 := List.all_eq_true.mp hg w hw
  rw [hp] at hw
  obtain ⟨i, -, hi⟩ := List.mem_filterMap.mp hw
  exact nx_mem i hi h1
end NXS
section NXL
variable {Γ : nx_G} {X : nx_X} {Y : nx_Y} {Z : nx_Z} {α : Type} {C : α → nx_C} {pc q : Nat} {ls : List (Option Value)} {st : List Value} {M : nx_M} {o : Option α}
def nx_ls {α : Type} (x : Int32) : List (Int × Option α) → Option α → Option α
  | [], d => d
  | (k, o) :: r, d => if x.toInt = k then o else nx_ls x r d
def nx_lsl (Γ : nx_G) (X : nx_X) (Y : nx_Y) (Z : nx_Z) {α : Type} (C : α → nx_C) (pc : Nat) (ls : List (Option Value)) (st : List Value) (M : nx_M) : List (Int × Int) → List (Int × Option α) → Prop
  | [], [] => True
  | (k, off) :: offs, (k', o) :: os => k = k' ∧ (∃ t : Nat, (pc : Int) + off = (t : Int) ∧ nx_J Γ X Y Z C (.inl (t, ls, st, M)) o) ∧ nx_lsl Γ X Y Z C pc ls st M offs os
  | _, _ => False
theorem nx_lsl_e : nx_lsl Γ X Y Z C pc ls st M [] [] := True.intro
theorem nx_lsl_c {k off : Int} {offs : List (Int × Int)} {os : List (Int × Option α)} (t : Nat) (ht : (pc : Int) + off = (t : Int)) (h : nx_J Γ X Y Z C (.inl (t, ls, st, M)) o) (hr : nx_lsl Γ X Y Z C pc ls st M offs os) : nx_lsl Γ X Y Z C pc ls st M ((k, off) :: offs) ((k, o) :: os) := ⟨rfl, ⟨t, ht, h⟩, hr⟩
theorem nx_lsl_at {x : Int32} {dflt : Int} {td : Nat} {od : Option α} (htd : (pc : Int) + dflt = (td : Int)) (hd : nx_J Γ X Y Z C (.inl (td, ls, st, M)) od) : ∀ (offs : List (Int × Int)) (os : List (Int × Option α)), nx_lsl Γ X Y Z C pc ls st M offs os → ∃ t : Nat, (pc : Int) + Op.lookupswitch.offset offs dflt x.toInt = (t : Int) ∧ nx_J Γ X Y Z C (.inl (t, ls, st, M)) (nx_ls x os od)
  | [], [], _ => ⟨td, htd, hd⟩
  | (k, off) :: offs, (k', o) :: os, h => by
    obtain ⟨rfl, ⟨t, h1, h2⟩, h3⟩ := h
    by_cases hk : x.toInt = k
    · refine ⟨t, ?_, ?_⟩
      · simp [Op.lookupswitch.offset, hk, h1]
      · rw [show nx_ls x ((k, o) :: os) od = o from by simp [nx_ls, hk]]
        exact h2
    · obtain ⟨t2, g1, g2⟩ := nx_lsl_at htd hd offs os h3
      refine ⟨t2, ?_, ?_⟩
      · have : ¬ k = x.toInt := fun e => hk e.symm
        simpa [Op.lookupswitch.offset, hk, this] using g1
      · rw [show nx_ls x ((k, o) :: os) od = nx_ls x os od from by simp [nx_ls, hk]]
        exact g2
  | [], _ :: _, h => by cases h
  | _ :: _, [], h => by cases h
theorem nx_lsw {x : Int32} {dflt : Int} {ps : Array (Int × Int)} {len td : Nat} {os : List (Int × Option α)} {od : Option α} (d : decode Y.2.1 pc = .ok (.lookupswitch dflt ps, len)) (hp : (ps.toList.zip (ps.toList.drop 1)).all (fun (a, next) => a.1 < next.1) = true) (htd : (pc : Int) + dflt = (td : Int)) (hd : nx_J Γ X Y Z C (.inl (td, ls, st, M)) od) (hs : nx_lsl Γ X Y Z C pc ls st M ps.toList os) : nx_J Γ X Y Z C (.inl (pc, ls, .int x :: st, M)) (nx_ls x os od) := by
  obtain ⟨t, h1, h2⟩ := nx_lsl_at (x := x) htd hd _ _ hs
  exact nx_lift (fun K H locs L n k _ hL w => lv_lookup K.1 K.2.1 d hp rfl h1 w) h2
end NXL
