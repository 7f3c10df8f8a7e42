/-! A small logic of programs over the kit's W: a memory is a function from addresses to cells, with the heap's size and the slots used; a judgement nx_J says that the code from a configuration computes an Option. -/
abbrev nx_M : Type := (Nat → Option va_E) × Nat × Nat
abbrev nx_G : Type := Nat × Heap × va_G × (Nat → ClassId) × (Nat → Nat)
abbrev nx_X : Type := Program × Launch × Env × Room × State × MethodId × Array Value × List Frame × Method × Code × (State → Prop)
abbrev nx_Y : Type := String × ByteArray × Nat × Option FieldType × String × Nat
abbrev nx_Z : Type := nx_M × Option Value × nx_M
abbrev nx_C : Type := (Nat × List (Option Value) × List Value × nx_M) ⊕ (Option Value × nx_M)
def nx_tys (Γ : nx_G) : List (ClassId × FieldType) := [(Γ.2.2.2.1 0, .int), (Γ.2.2.2.1 1, .long), (Γ.2.2.2.1 2, .object "LateStamps$World"), (Γ.2.2.2.1 3, .object "LateStamps$Script")]
def nx_A (Γ : nx_G) : Nat → Prop := fun q => Γ.1 ≤ q
def nx_nest : Cond → Bool
  | .methodLinkNest _ _ _ _ => true
  | .fieldLinkNest _ _ _ _ _ _ => true
  | _ => false
def nx_TB : List Cond := lw_tbl.filter goodWord
theorem nx_mem {w : Cond} (i : Nat) (h : lw_tbl[i]? = some w) (hg : goodWord w = true) : w ∈ nx_TB := List.mem_filter.mpr ⟨List.mem_of_getElem? h, hg⟩
def nx_sn : Nat → String
  | 0 => "LETTERS"
  | 1 => "LEAST"
  | 2 => "GREATEST"
  | _ => "WITHOUT"
def nx_sv : Nat → Nat → Int32
  | 0, 0 => 109
  | 0, 1 => 112
  | 0, _ => 116
  | 1, 0 => 2
  | 1, 1 => 0
  | 1, _ => 2
  | 2, 0 => 9
  | 2, 1 => 1
  | 2, _ => 20
  | _, 0 => 6
  | _, 1 => 0
  | _, _ => 10
def nx_Env (Γ : nx_G) (U : State) : Prop := va_K Γ.2.2.1 vwCl (nx_tys Γ) U ∧ (∀ w ∈ tables_1, nx_nest w = true → va_Nw w U) ∧
  (∀ j, j < 4 → va_Z "LateStamps$StoreText" (nx_sn j) "[I" (.ref (Γ.2.2.2.2 j)) (nx_A Γ) U Γ.2.1 ∧ va_T .int (Γ.2.2.2.2 j) 3 (fun i => .int (nx_sv j i)) (nx_A Γ) U Γ.2.1) ∧ va_AO "LateStamps$World" U ∧ va_AO "LateStamps$Script" U
theorem nx_Env.warm {Γ : nx_G} {s U : State} (h : nx_Env Γ s) (hW : s.WarmedH U.vm) : nx_Env Γ U := by
  refine ⟨va_K.moved hW.alike h.1, fun w hw hn => ?_, fun j hj => ⟨(h.2.2.1 j hj).1.moved hW.alike, (h.2.2.1 j hj).2.moved hW.alike⟩, h.2.2.2.1.moved hW.alike, h.2.2.2.2.moved hW.alike⟩
  have h1 := h.2.1 w hw hn
  cases w <;> first | (cases hn; done) | exact va_Nw.warmM hW h1 | exact va_Nw.warmF hW h1
theorem nx_Env.blind {Γ : nx_G} {U : State} {g : JFrame} {mk : MethodId} {a : Array Value} (h : nx_Env Γ U) : nx_Env Γ (U.calling g mk a) := by
  have hA : U.vm.Alike (U.calling g mk a).vm := Vm.Alike.refl U.vm
  refine ⟨va_K.moved hA h.1, fun w hw hn => ?_, fun j hj => ⟨(h.2.2.1 j hj).1.moved hA, (h.2.2.1 j hj).2.moved hA⟩, h.2.2.2.1.moved hA, h.2.2.2.2.moved hA⟩
  have h1 := h.2.1 w hw hn
  cases w <;> first | (cases hn; done) | exact va_Nw.same rfl (u := U) rfl h1
def nx_Hold (Γ : nx_G) (M : nx_M) (H : Heap) : Prop := H.size = M.2.1 ∧ Γ.1 ≤ M.2.1 ∧ (∀ (a : Nat) (e : va_E), M.1 a = some e → Γ.1 ≤ a ∧ va_at Γ.2.2.1 vwCl (a, e) H) ∧ ∀ q : Nat, q < Γ.1 → H[q]? = Γ.2.1[q]?
def nx_rm (d : Nat) (M M' : nx_M) : Room := { frames := d, cells := M'.2.1 - M.2.1, slots := M'.2.2 - M.2.2, locals := 40 * d }
def nx_Pc (Γ : nx_G) (as : List Value) (M : nx_M) : Array Value → State → Prop := fun v U => v = as.toArray ∧ nx_Hold Γ M U.heap ∧ nx_Env Γ U
def nx_Qc (Γ : nx_G) (r : Option Value) (M' : nx_M) : Array Value → State → Outcome → State → Prop := fun _ _ oc t => oc = .returned r ∧ nx_Hold Γ M' t.heap
/-- a contract: from memory M with the arguments as, the method returns r with memory M' -/
def nx_Ct (l : Launch) (Γ : nx_G) (d : Nat) (y : MethodName) (cc : ByteArray) (nL : Nat) (ret : Option FieldType) (as : List Value) (M : nx_M) (q : Option Value × nx_M) : Prop :=
  (∀ X : nx_X, X.2.1 = l → M.2.1 ≤ q.2.2.1 ∧ M.2.2 ≤ q.2.2.2) ∧ Met l y (.code y cc nL ret :: nx_TB) (nx_rm d M q.2) (nx_Pc Γ as M) (nx_Qc Γ q.1 q.2) (q.2.2.1 - M.2.1) (q.2.2.2 - M.2.2) (nx_A Γ)
theorem nx_blind {Γ : nx_G} {as : List Value} {M : nx_M} : FrameBlind (nx_Pc Γ as M) := fun _ _ _ _ h => ⟨h.1, h.2.1, h.2.2.blind⟩
def nx_Lr (nL : Nat) (ls : List (Option Value)) (L : Array Slot) : Prop := L.size = nL ∧ lv_wf L ∧ ls.length = nL ∧ ∀ (i : Nat) (v : Value), ls[i]? = some (some v) → L[i]? = some (.val v)
abbrev nx_W (X : nx_X) (H : Heap) (locs : List Loc) (cells slots : Nat) (g : JFrame) : Prop := W X.1 X.2.1 X.2.2.1 X.2.2.2.1 X.2.2.2.2.1 X.2.2.2.2.2.1 X.2.2.2.2.2.2.1 X.2.2.2.2.2.2.2.1 X.2.2.2.2.2.2.2.2.1 X.2.2.2.2.2.2.2.2.2.1 H locs cells slots X.2.2.2.2.2.2.2.2.2.2 g
abbrev nx_s (X : nx_X) : State := X.2.2.2.2.1
abbrev nx_m (X : nx_X) : MethodId := X.2.2.2.2.2.1
abbrev nx_as (X : nx_X) : Array Value := X.2.2.2.2.2.2.1
abbrev nx_me (X : nx_X) : Method := X.2.2.2.2.2.2.2.2.1
abbrev nx_c (X : nx_X) : Code := X.2.2.2.2.2.2.2.2.2.1
abbrev nx_R (X : nx_X) : Room := X.2.2.2.1
/-- what a method's body knows -/
def nx_K (Γ : nx_G) (X : nx_X) (Y : nx_Y) (Z : nx_Z) : Prop := X.1.tables.exec = Jvm.exec ∧ (nx_c X).code = Y.2.1 ∧ (nx_me X).sig.returnType = Y.2.2.2.1 ∧ (nx_me X).locks = false ∧ (nx_c X).maxLocals = Y.2.2.1 ∧ (nx_s X).vm.findClass Y.1 = some (nx_m X).cls ∧ (nx_me X).name = Y.2.2.2.2.1 ∧
  (∀ w ∈ nx_TB, w.before (nx_as X) (nx_s X) = true) ∧ nx_Env Γ (nx_s X) ∧ nx_R X = nx_rm Y.2.2.2.2.2 Z.1 Z.2.2 ∧
  ∀ t, MQ X.2.2.2.2.2.2.2.1 (nx_Qc Γ Z.2.1 Z.2.2) (nx_as X) (nx_s X) (Z.2.2.2.1 - Z.1.2.1) (Z.2.2.2.2 - Z.1.2.2) (nx_A Γ) t → X.2.2.2.2.2.2.2.2.2.2 t
theorem nx_Wmono {p : Program} {l : Launch} {e : Env} {R : Room} {s : State} {m : MethodId} {args : Array Value} {below : List Frame} {meth : Method} {c : Code} {H : Heap} {locs : List Loc} {cells slots : Nat} {Q Q' : State → Prop} {g : JFrame} (h : ∀ t, Q t → Q' t) (w : W p l e R s m args below meth c H locs cells slots Q g) : W p l e R s m args below meth c H locs cells slots Q' g := fun T hT X => by
  obtain ⟨t, a, b⟩ := w T hT X
  exact ⟨t, a, h t b⟩
def nx_Wc (Γ : nx_G) (X : nx_X) (Y : nx_Y) (Z : nx_Z) : nx_C → Prop
  | .inl q => Z.1.2.1 ≤ q.2.2.2.2.1 → Z.1.2.2 ≤ q.2.2.2.2.2 → q.2.2.2.2.1 ≤ Z.2.2.2.1 ∧ q.2.2.2.2.2 ≤ Z.2.2.2.2 ∧
      ∀ (H : Heap) (locs : List Loc) (L : Array Slot), nx_Hold Γ q.2.2.2 H → (∀ x ∈ locs, nx_A Γ x.base) → nx_Lr Y.2.2.1 q.2.1 L → nx_W X H locs (q.2.2.2.2.1 - Z.1.2.1) (q.2.2.2.2.2 - Z.1.2.2) (F0 (nx_m X) q.1 L q.2.2.1)
  | .inr q => q = Z.2
def nx_mm : nx_C → Nat × Nat
  | .inl q => q.2.2.2.2
  | .inr q => q.2.2
def nx_le (c c' : nx_C) : Prop := (nx_mm c).1 ≤ (nx_mm c').1 ∧ (nx_mm c).2 ≤ (nx_mm c').2
def nx_J (Γ : nx_G) (X : nx_X) (Y : nx_Y) (Z : nx_Z) {α : Type} (C : α → nx_C) (c : nx_C) (o : Option α) : Prop :=
  ∀ a, o = some a → nx_le c (C a) ∧ (nx_K Γ X Y Z → nx_Wc Γ X Y Z (C a) → nx_Wc Γ X Y Z c)
/-- a loop: a body that goes on with a state, or ends with a result -/
def nx_iter {σ ρ : Type} : Nat → (σ → Option (σ ⊕ ρ)) → σ → Option ρ
  | 0, _, _ => none
  | n + 1, b, s => (b s).bind fun x => match x with
    | .inl s' => nx_iter n b s'
    | .inr r => some r
theorem nx_ite_some {α : Type} {c : Prop} [Decidable c] {x y : Option α} {a : α} (h : (if c then x else y) = some a) : (c ∧ x = some a) ∨ (¬ c ∧ y = some a) := by
  by_cases hc : c
  · rw [if_pos hc] at h; exact Or.inl ⟨hc, h⟩
  · rw [if_neg hc] at h; exact Or.inr ⟨hc, h⟩
theorem nx_bind_some {α β : Type} {x : Option α} {k : α → Option β} {b : β} (h : x.bind k = some b) : ∃ a, x = some a ∧ k a = some b := by
  cases x with
  | none => cases h
  | some a => exact ⟨a, rfl, h⟩
section NXR
variable {Γ : nx_G} {X : nx_X} {Y : nx_Y} {Z : nx_Z} {α β : Type} {C : α → nx_C}
theorem nx_le.rf {c : nx_C} : nx_le c c := ⟨Nat.le_refl _, Nat.le_refl _⟩
theorem nx_le.tr {a b c : nx_C} (h : nx_le a b) (h2 : nx_le b c) : nx_le a c := ⟨Nat.le_trans h.1 h2.1, Nat.le_trans h.2 h2.2⟩
/-- here the computation's value is the configuration -/
theorem nx_leaf {a : α} {c : nx_C} (h : C a = c) : nx_J Γ X Y Z C c (some a) := by
  intro a' ha
  cases ha
  rw [h]
  exact ⟨nx_le.rf, fun _ h => h⟩
theorem nx_seq {C1 : β → nx_C} {c : nx_C} {o : Option β} {k : β → Option α} (h1 : nx_J Γ X Y Z C1 c o) (h2 : ∀ b, nx_J Γ X Y Z C (C1 b) (k b)) : nx_J Γ X Y Z C c (o.bind k) := by
  intro a ha
  obtain ⟨b, e1, e2⟩ := nx_bind_some ha
  obtain ⟨l1, w1⟩ := h1 b e1
  obtain ⟨l2, w2⟩ := h2 b a e2
  exact ⟨l1.tr l2, fun K h => w1 K (w2 K h)⟩
theorem nx_loop {σ : Type} {C1 : σ → nx_C} {n : Nat} {b : σ → Option (σ ⊕ α)} (h : ∀ s, nx_J Γ X Y Z (Sum.elim C1 C) (C1 s) (b s)) (s : σ) : nx_J Γ X Y Z C (C1 s) (nx_iter n b s) := by
  induction n generalizing s with
  | zero => intro a ha; cases ha
  | succ n ih =>
    intro a ha
    obtain ⟨x, e1, e2⟩ := nx_bind_some (show (b s).bind _ = some a from ha)
    obtain ⟨l1, w1⟩ := h s x e1
    cases x with
    | inl s' =>
      obtain ⟨l2, w2⟩ := ih s' a e2
      exact ⟨l1.tr l2, fun K hh => w1 K (w2 K hh)⟩
    | inr r =>
      cases e2
      exact ⟨l1, fun K hh => w1 K hh⟩
theorem nx_ite {c : nx_C} {P : Prop} [Decidable P] {x y : Option α} (h1 : P → nx_J Γ X Y Z C c x) (h2 : ¬ P → nx_J Γ X Y Z C c y) : nx_J Γ X Y Z C c (if P then x else y) := by
  intro a ha
  rcases nx_ite_some ha with ⟨hP, h⟩ | ⟨hP, h⟩
  · exact h1 hP a h
  · exact h2 hP a h
/-- one step that leaves memory and locals -/
theorem nx_lift {pc q : Nat} {ls : List (Option Value)} {st st' : List Value} {M : nx_M} {o : Option α}
    (hs : nx_K Γ X Y Z → ∀ (H : Heap) (locs : List Loc) (L : Array Slot) (n k : Nat), nx_Hold Γ M H → nx_Lr Y.2.2.1 ls L → nx_W X H locs n k (F0 (nx_m X) q L st') → nx_W X H locs n k (F0 (nx_m X) pc L st))
    (k : nx_J Γ X Y Z C (.inl (q, ls, st', M)) o) : nx_J Γ X Y Z C (.inl (pc, ls, st, M)) o := by
  intro a ha
  obtain ⟨l1, w1⟩ := k a ha
  refine ⟨l1, fun K h h1 h2 => ?_⟩
  obtain ⟨e1, e2, w⟩ := w1 K h h1 h2
  exact ⟨e1, e2, fun H locs L hH hl hL => hs K H locs L _ _ hH hL (w H locs L hH hl hL)⟩
/-- one step that sets locals -/
theorem nx_liftL {pc q : Nat} {ls ls' : List (Option Value)} {st st' : List Value} {M : nx_M} {o : Option α}
    (hs : nx_K Γ X Y Z → ∀ (H : Heap) (locs : List Loc) (L : Array Slot) (n k : Nat), nx_Lr Y.2.2.1 ls L → (∀ L', nx_Lr Y.2.2.1 ls' L' → nx_W X H locs n k (F0 (nx_m X) q L' st')) → nx_W X H locs n k (F0 (nx_m X) pc L st))
    (k : nx_J Γ X Y Z C (.inl (q, ls', st', M)) o) : nx_J Γ X Y Z C (.inl (pc, ls, st, M)) o := by
  intro a ha
  obtain ⟨l1, w1⟩ := k a ha
  refine ⟨l1, fun K h h1 h2 => ?_⟩
  obtain ⟨e1, e2, w⟩ := w1 K h h1 h2
  exact ⟨e1, e2, fun H locs L hH hl hL => hs K H locs L _ _ hL (fun L' hL' => w H locs L' hH hl hL')⟩
/-- one step that changes memory, not its size -/
theorem nx_liftM {pc q : Nat} {ls : List (Option Value)} {st st' : List Value} {M M' : nx_M} {o : Option α} (hz : M'.2 = M.2)
    (hs : nx_K Γ X Y Z → ∀ (H : Heap) (locs : List Loc) (L : Array Slot) (n k : Nat), nx_Hold Γ M H → (∀ x ∈ locs, nx_A Γ x.base) → nx_Lr Y.2.2.1 ls L → (∀ H' locs', nx_Hold Γ M' H' → (∀ x ∈ locs', nx_A Γ x.base) → nx_W X H' locs' n k (F0 (nx_m X) q L st')) → nx_W X H locs n k (F0 (nx_m X) pc L st))
    (k : nx_J Γ X Y Z C (.inl (q, ls, st', M')) o) : nx_J Γ X Y Z C (.inl (pc, ls, st, M)) o := by
  intro a ha
  obtain ⟨l1, w1⟩ := k a ha
  obtain ⟨μ, n, kk⟩ := M
  obtain ⟨μ', n', kk'⟩ := M'
  cases hz
  refine ⟨l1, fun K h h1 h2 => ?_⟩
  obtain ⟨e1, e2, w⟩ := w1 K h h1 h2
  exact ⟨e1, e2, fun H locs L hH hl hL => hs K H locs L _ _ hH hl hL (fun H' locs' hH' hl' => w H' locs' L hH' hl' hL)⟩
/-- locals of which less is said -/
def nx_wk : List (Option Value) → List (Option Value) → Prop
  | [], [] => True
  | _ :: as, none :: bs => nx_wk as bs
  | a :: as, some v :: bs => a = some v ∧ nx_wk as bs
  | _, _ => False
theorem nx_wk_len : ∀ (a b : List (Option Value)), nx_wk a b → a.length = b.length
  | [], [], _ => rfl
  | _ :: as, none :: bs, h => by simp [nx_wk_len as bs h]
  | _ :: as, some _ :: bs, h => by simp [nx_wk_len as bs h.2]
  | [], _ :: _, h => by cases h
  | _ :: _, [], h => by cases h
theorem nx_wk_at : ∀ (a b : List (Option Value)), nx_wk a b → ∀ (i : Nat) (v : Value), b[i]? = some (some v) → a[i]? = some (some v)
  | [], [], _, _, _, h => by simp at h
  | x :: as, none :: bs, h, i, v, hi => by
    cases i with
    | zero => simp at hi
    | succ i => exact nx_wk_at as bs h i v hi
  | x :: as, some w :: bs, h, i, v, hi => by
    cases i with
    | zero =>
      have e : w = v := by simpa using hi
      rw [h.1, e]
      rfl
    | succ i => exact nx_wk_at as bs h.2 i v hi
  | [], _ :: _, h, _, _, _ => by cases h
  | _ :: _, [], h, _, _, _ => by cases h
theorem nx_Lr.wk {nL : Nat} {a b : List (Option Value)} {L : Array Slot} (h : nx_Lr nL a L) (hw : nx_wk a b) : nx_Lr nL b L := ⟨h.1, h.2.1, (nx_wk_len a b hw) ▸ h.2.2.1, fun i v hi => h.2.2.2 i v (nx_wk_at a b hw i v hi)⟩
theorem nx_weak {pc : Nat} {ls ls' : List (Option Value)} {st : List Value} {M : nx_M} {o : Option α} (hw : nx_wk ls ls') (k : nx_J Γ X Y Z C (.inl (pc, ls', st, M)) o) : nx_J Γ X Y Z C (.inl (pc, ls, st, M)) o :=
  nx_liftL (fun _ _ _ _ _ _ hL w => w _ (hL.wk hw)) k
end NXR
