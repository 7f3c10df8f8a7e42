def iz (n : Int) : Int32 := Int32.ofInt n
def bz (b : Bool) : Int32 := if b then 1 else 0
def nx_okS (ls : List (Option Value)) (i : Nat) : Bool := match i with
  | 0 => true
  | j + 1 => match ls[j]? with
    | some (some (.long _)) => false
    | some (some (.double _)) => false
    | _ => true
def nx_asc (ls : List (Option Value)) : List (Nat × Value) := (List.range ls.length).filterMap fun i => match ls[i]? with
  | some (some v) => some (i, v)
  | _ => none
theorem nx_asc_mem {ls : List (Option Value)} {i : Nat} {v : Value} : (i, v) ∈ nx_asc ls ↔ ls[i]? = some (some v) := by
  unfold nx_asc
  rw [List.mem_filterMap]
  constructor
  · rintro ⟨j, hj, h⟩
    split at h
    next w hw =>
      cases h
      exact hw
    next => cases h
  · intro h
    refine ⟨i, List.mem_range.mpr (List.getElem?_eq_some_iff.mp h).1, ?_⟩
    rw [h]
theorem nx_Lr.has {nL : Nat} {ls : List (Option Value)} {L : Array Slot} (h : nx_Lr nL ls L) : lv_has L nL (nx_asc ls) := ⟨h.1, h.2.1, fun q hq => h.2.2.2 q.1 q.2 (nx_asc_mem.mp hq)⟩
theorem nx_Lr.st1 {nL i : Nat} {ls : List (Option Value)} {L L' : Array Slot} {v : Value} (h : nx_Lr nL ls L) (ho : nx_okS ls i = true) (h' : lv_has L' nL ((i, v) :: (nx_asc ls).filter (fun q => !(q.1 == i) && !(q.1 + 1 == i && q.2.category == 2)))) : nx_Lr nL (ls.set i (some v)) L' := by
  refine ⟨h'.1, h'.2.1, by rw [List.length_set]; exact h.2.2.1, fun j u hj => ?_⟩
  by_cases hij : i = j
  · subst hij
    have hl : i < ls.length := by
      have := (List.getElem?_eq_some_iff.mp hj).1
      rwa [List.length_set] at this
    rw [List.getElem?_set_self hl] at hj
    cases hj
    exact h'.2.2 (i, v) List.mem_cons_self
  · rw [List.getElem?_set_ne hij] at hj
    refine h'.2.2 (j, u) (List.mem_cons_of_mem _ (List.mem_filter.mpr ⟨nx_asc_mem.mpr hj, ?_⟩))
    have h1 : (j == i) = false := by simp; exact fun e => hij e.symm
    by_cases h2 : j + 1 = i
    · subst h2
      unfold nx_okS at ho
      simp only [hj] at ho
      cases u <;> simp_all [Value.category]
    · simp [h1, h2]
theorem nx_Lr.st2 {nL i : Nat} {ls : List (Option Value)} {L L' : Array Slot} {v : Value} (h : nx_Lr nL ls L) (ho : nx_okS ls i = true) (h' : lv_has L' nL ((i, v) :: (nx_asc ls).filter (fun q => !(q.1 == i) && (!(q.1 == i + 1) && !(q.1 + 1 == i && q.2.category == 2))))) : nx_Lr nL ((ls.set i (some v)).set (i + 1) none) L' := by
  refine ⟨h'.1, h'.2.1, by rw [List.length_set, List.length_set]; exact h.2.2.1, fun j u hj => ?_⟩
  by_cases hk : i + 1 = j
  · subst hk
    have hl : i + 1 < (ls.set i (some v)).length := by
      have := (List.getElem?_eq_some_iff.mp hj).1
      rwa [List.length_set] at this
    rw [List.getElem?_set_self hl] at hj
    cases hj
  rw [List.getElem?_set_ne hk] at hj
  by_cases hij : i = j
  · subst hij
    have hl : i < ls.length := by
      have := (List.getElem?_eq_some_iff.mp hj).1
      rwa [List.length_set] at this
    rw [List.getElem?_set_self hl] at hj
    cases hj
    exact h'.2.2 (i, v) List.mem_cons_self
  · rw [List.getElem?_set_ne hij] at hj
    refine h'.2.2 (j, u) (List.mem_cons_of_mem _ (List.mem_filter.mpr ⟨nx_asc_mem.mpr hj, ?_⟩))
    have h1 : (j == i) = false := by simp; exact fun e => hij e.symm
    have h3 : (j == i + 1) = false := by simp; exact fun e => hk e.symm
    by_cases h2 : j + 1 = i
    · subst h2
      unfold nx_okS at ho
      simp only [hj] at ho
      cases u <;> simp_all [Value.category]
    · simp [h1, h2, h3]
section NXI
variable {Γ : nx_G} {X : nx_X} {Y : nx_Y} {Z : nx_Z} {α : Type} {C : α → nx_C} {pc q : Nat} {ls ls' : List (Option Value)} {st : List Value} {M : nx_M} {o o1 o2 : Option α}

theorem nx_iconst {n : Int} (d : decode Y.2.1 pc = .ok (.iconst n, 1)) (hq : pc + 1 = q) (k : nx_J Γ X Y Z C (.inl (q, ls, .int (iz n) :: st, M)) o) : nx_J Γ X Y Z C (.inl (pc, ls, st, M)) o := by
  subst hq
  exact nx_lift (fun K H locs L n k _ hL w => lv_iconst K.1 K.2.1 d rfl w) k
theorem nx_bipush {n : Int} (hv : (Int8.ofInt n).toInt32 = iz n) (d : decode Y.2.1 pc = .ok (.bipush n, 2)) (hq : pc + 2 = q) (k : nx_J Γ X Y Z C (.inl (q, ls, .int (iz n) :: st, M)) o) : nx_J Γ X Y Z C (.inl (pc, ls, st, M)) o := by
  subst hq
  exact nx_lift (fun K H locs L n k _ hL w => lv_bipush K.1 K.2.1 d hv w) k
theorem nx_sipush {n : Int} (hv : (Int16.ofInt n).toInt32 = iz n) (d : decode Y.2.1 pc = .ok (.sipush n, 3)) (hq : pc + 3 = q) (k : nx_J Γ X Y Z C (.inl (q, ls, .int (iz n) :: st, M)) o) : nx_J Γ X Y Z C (.inl (pc, ls, st, M)) o := by
  subst hq
  exact nx_lift (fun K H locs L n k _ hL w => lv_sipush K.1 K.2.1 d hv w) k
theorem nx_lconst {n : Fin 2} (d : decode Y.2.1 pc = .ok (.lconst n, 1)) (hq : pc + 1 = q) (k : nx_J Γ X Y Z C (.inl (q, ls, .long (Int64.ofNat (n : Nat)) :: st, M)) o) : nx_J Γ X Y Z C (.inl (pc, ls, st, M)) o := by
  subst hq
  exact nx_lift (fun K H locs L n k _ hL w => lv_lconst K.1 K.2.1 d rfl w) k
theorem nx_ldc {i : Nat} {v : Int32} (hc : Cond.constant Y.1 i v ∈ nx_TB) (d : decode Y.2.1 pc = .ok (.ldc i, 2)) (hq : pc + 2 = q) (k : nx_J Γ X Y Z C (.inl (q, ls, .int v :: st, M)) o) : nx_J Γ X Y Z C (.inl (pc, ls, st, M)) o := by
  subst hq
  exact nx_lift (fun K H locs L n k _ hL w => lv_ldc K.1 K.2.1 K.2.2.2.2.2.1 (K.2.2.2.2.2.2.2.1 _ hc) d w) k
theorem nx_ldcw {i : Nat} {v : Int32} (hc : Cond.constant Y.1 i v ∈ nx_TB) (d : decode Y.2.1 pc = .ok (.ldc_w i, 3)) (hq : pc + 3 = q) (k : nx_J Γ X Y Z C (.inl (q, ls, .int v :: st, M)) o) : nx_J Γ X Y Z C (.inl (pc, ls, st, M)) o := by
  subst hq
  exact nx_lift (fun K H locs L n k _ hL w => lv_ldcw K.1 K.2.1 K.2.2.2.2.2.1 (K.2.2.2.2.2.2.2.1 _ hc) d w) k
theorem nx_ldc2 {i : Nat} {v : Int64} (hc : Cond.constantLong Y.1 i v ∈ nx_TB) (d : decode Y.2.1 pc = .ok (.ldc2_w i, 3)) (hq : pc + 3 = q) (k : nx_J Γ X Y Z C (.inl (q, ls, .long v :: st, M)) o) : nx_J Γ X Y Z C (.inl (pc, ls, st, M)) o := by
  subst hq
  exact nx_lift (fun K H locs L n k _ hL w => lv_ldc2 K.1 K.2.1 K.2.2.2.2.2.1 (K.2.2.2.2.2.2.2.1 _ hc) d w) k
theorem nx_anull  (d : decode Y.2.1 pc = .ok (.aconst_null, 1)) (hq : pc + 1 = q) (k : nx_J Γ X Y Z C (.inl (q, ls, .null :: st, M)) o) : nx_J Γ X Y Z C (.inl (pc, ls, st, M)) o := by
  subst hq
  exact nx_lift (fun K H locs L n k _ hL w => lv_null K.1 K.2.1 d w) k
theorem nx_iload_n {k : Fin 4} {x : Int32} (h : ls[(k : Nat)]? = some (some (.int x))) (d : decode Y.2.1 pc = .ok (.iload_n k, 1)) (hq : pc + 1 = q) (k : nx_J Γ X Y Z C (.inl (q, ls, .int x :: st, M)) o) : nx_J Γ X Y Z C (.inl (pc, ls, st, M)) o := by
  subst hq
  exact nx_lift (fun K H locs L n k _ hL w => lv_iload_n K.1 K.2.1 d rfl (hL.2.2.2 _ _ h) w) k
theorem nx_iload {i : Nat} {x : Int32} (h : ls[i]? = some (some (.int x))) (d : decode Y.2.1 pc = .ok (.iload i, 2)) (hq : pc + 2 = q) (k : nx_J Γ X Y Z C (.inl (q, ls, .int x :: st, M)) o) : nx_J Γ X Y Z C (.inl (pc, ls, st, M)) o := by
  subst hq
  exact nx_lift (fun K H locs L n k _ hL w => lv_iload K.1 K.2.1 d (hL.2.2.2 _ _ h) w) k
theorem nx_lload_n {k : Fin 4} {x : Int64} (h : ls[(k : Nat)]? = some (some (.long x))) (d : decode Y.2.1 pc = .ok (.lload_n k, 1)) (hq : pc + 1 = q) (k : nx_J Γ X Y Z C (.inl (q, ls, .long x :: st, M)) o) : nx_J Γ X Y Z C (.inl (pc, ls, st, M)) o := by
  subst hq
  exact nx_lift (fun K H locs L n k _ hL w => lv_lload_n K.1 K.2.1 d rfl (hL.2.2.2 _ _ h) w) k
theorem nx_lload {i : Nat} {x : Int64} (h : ls[i]? = some (some (.long x))) (d : decode Y.2.1 pc = .ok (.lload i, 2)) (hq : pc + 2 = q) (k : nx_J Γ X Y Z C (.inl (q, ls, .long x :: st, M)) o) : nx_J Γ X Y Z C (.inl (pc, ls, st, M)) o := by
  subst hq
  exact nx_lift (fun K H locs L n k _ hL w => lv_lload K.1 K.2.1 d (hL.2.2.2 _ _ h) w) k
theorem nx_aload_n {k : Fin 4} {x : Nat} (h : ls[(k : Nat)]? = some (some (.ref x))) (d : decode Y.2.1 pc = .ok (.aload_n k, 1)) (hq : pc + 1 = q) (k : nx_J Γ X Y Z C (.inl (q, ls, .ref x :: st, M)) o) : nx_J Γ X Y Z C (.inl (pc, ls, st, M)) o := by
  subst hq
  exact nx_lift (fun K H locs L n k _ hL w => lv_aload_n K.1 K.2.1 d rfl (hL.2.2.2 _ _ h) w) k
theorem nx_aload {i : Nat} {x : Nat} (h : ls[i]? = some (some (.ref x))) (d : decode Y.2.1 pc = .ok (.aload i, 2)) (hq : pc + 2 = q) (k : nx_J Γ X Y Z C (.inl (q, ls, .ref x :: st, M)) o) : nx_J Γ X Y Z C (.inl (pc, ls, st, M)) o := by
  subst hq
  exact nx_lift (fun K H locs L n k _ hL w => lv_aload K.1 K.2.1 d (hL.2.2.2 _ _ h) w) k
theorem nx_nload_n {k : Fin 4} (h : ls[(k : Nat)]? = some (some .null)) (d : decode Y.2.1 pc = .ok (.aload_n k, 1)) (hq : pc + 1 = q) (k : nx_J Γ X Y Z C (.inl (q, ls, .null :: st, M)) o) : nx_J Γ X Y Z C (.inl (pc, ls, st, M)) o := by
  subst hq
  exact nx_lift (fun K H locs L n k _ hL w => lv_aload_nN K.1 K.2.1 d rfl (hL.2.2.2 _ _ h) w) k
theorem nx_nload {i : Nat} (h : ls[i]? = some (some .null)) (d : decode Y.2.1 pc = .ok (.aload i, 2)) (hq : pc + 2 = q) (k : nx_J Γ X Y Z C (.inl (q, ls, .null :: st, M)) o) : nx_J Γ X Y Z C (.inl (pc, ls, st, M)) o := by
  subst hq
  exact nx_lift (fun K H locs L n k _ hL w => lv_aloadN K.1 K.2.1 d (hL.2.2.2 _ _ h) w) k
theorem nx_istore_n {k : Fin 4} {x : Int32} (ls' : List (Option Value)) (d : decode Y.2.1 pc = .ok (.istore_n k, 1)) (hq : pc + 1 = q) (hn : (k : Nat) < Y.2.2.1) (ho : nx_okS ls k = true) (hs : ls.set k (some (.int x)) = ls') (k : nx_J Γ X Y Z C (.inl (q, ls', st, M)) o) : nx_J Γ X Y Z C (.inl (pc, ls, .int x :: st, M)) o := by
  subst hq hs
  exact nx_liftL (fun K H locs L n k hL w => lv_istore_n K.1 K.2.1 d rfl hL.has hn rfl (fun L' h' => w L' (hL.st1 ho h'))) k
theorem nx_istore {i : Nat} {x : Int32} (ls' : List (Option Value)) (d : decode Y.2.1 pc = .ok (.istore i, 2)) (hq : pc + 2 = q) (hn : i < Y.2.2.1) (ho : nx_okS ls i = true) (hs : ls.set i (some (.int x)) = ls') (k : nx_J Γ X Y Z C (.inl (q, ls', st, M)) o) : nx_J Γ X Y Z C (.inl (pc, ls, .int x :: st, M)) o := by
  subst hq hs
  exact nx_liftL (fun K H locs L n k hL w => lv_istore K.1 K.2.1 d hL.has hn rfl (fun L' h' => w L' (hL.st1 ho h'))) k
theorem nx_astore_n {k : Fin 4} {x : Nat} (ls' : List (Option Value)) (d : decode Y.2.1 pc = .ok (.astore_n k, 1)) (hq : pc + 1 = q) (hn : (k : Nat) < Y.2.2.1) (ho : nx_okS ls k = true) (hs : ls.set k (some (.ref x)) = ls') (k : nx_J Γ X Y Z C (.inl (q, ls', st, M)) o) : nx_J Γ X Y Z C (.inl (pc, ls, .ref x :: st, M)) o := by
  subst hq hs
  exact nx_liftL (fun K H locs L n k hL w => lv_astore_n K.1 K.2.1 d rfl hL.has hn rfl (fun L' h' => w L' (hL.st1 ho h'))) k
theorem nx_astore {i : Nat} {x : Nat} (ls' : List (Option Value)) (d : decode Y.2.1 pc = .ok (.astore i, 2)) (hq : pc + 2 = q) (hn : i < Y.2.2.1) (ho : nx_okS ls i = true) (hs : ls.set i (some (.ref x)) = ls') (k : nx_J Γ X Y Z C (.inl (q, ls', st, M)) o) : nx_J Γ X Y Z C (.inl (pc, ls, .ref x :: st, M)) o := by
  subst hq hs
  exact nx_liftL (fun K H locs L n k hL w => lv_astore K.1 K.2.1 d hL.has hn rfl (fun L' h' => w L' (hL.st1 ho h'))) k
theorem nx_lstore_n {k : Fin 4} {x : Int64} (ls' : List (Option Value)) (d : decode Y.2.1 pc = .ok (.lstore_n k, 1)) (hq : pc + 1 = q) (hn : (k : Nat) + 1 < Y.2.2.1) (ho : nx_okS ls k = true) (hs : (ls.set k (some (.long x))).set (k + 1) none = ls') (k : nx_J Γ X Y Z C (.inl (q, ls', st, M)) o) : nx_J Γ X Y Z C (.inl (pc, ls, .long x :: st, M)) o := by
  subst hq hs
  exact nx_liftL (fun K H locs L n k hL w => lv_lstore_n K.1 K.2.1 d rfl hL.has hn rfl (fun L' h' => w L' (hL.st2 ho h'))) k
theorem nx_lstore {i : Nat} {x : Int64} (ls' : List (Option Value)) (d : decode Y.2.1 pc = .ok (.lstore i, 2)) (hq : pc + 2 = q) (hn : i + 1 < Y.2.2.1) (ho : nx_okS ls i = true) (hs : (ls.set i (some (.long x))).set (i + 1) none = ls') (k : nx_J Γ X Y Z C (.inl (q, ls', st, M)) o) : nx_J Γ X Y Z C (.inl (pc, ls, .long x :: st, M)) o := by
  subst hq hs
  exact nx_liftL (fun K H locs L n k hL w => lv_lstore K.1 K.2.1 d hL.has hn rfl (fun L' h' => w L' (hL.st2 ho h'))) k
theorem nx_nstore {i : Nat} (ls' : List (Option Value)) (d : decode Y.2.1 pc = .ok (.astore i, 2)) (hq : pc + 2 = q) (hn : i < Y.2.2.1) (ho : nx_okS ls i = true) (hs : ls.set i (some .null) = ls') (k : nx_J Γ X Y Z C (.inl (q, ls', st, M)) o) : nx_J Γ X Y Z C (.inl (pc, ls, .null :: st, M)) o := by
  subst hq hs
  exact nx_liftL (fun K H locs L n k hL w => lv_astoreN K.1 K.2.1 d hL.has hn rfl (fun L' h' => w L' (hL.st1 ho h'))) k
theorem nx_nstore_n {k : Fin 4} (ls' : List (Option Value)) (d : decode Y.2.1 pc = .ok (.astore_n k, 1)) (hq : pc + 1 = q) (hn : (k : Nat) < Y.2.2.1) (ho : nx_okS ls k = true) (hs : ls.set k (some .null) = ls') (k : nx_J Γ X Y Z C (.inl (q, ls', st, M)) o) : nx_J Γ X Y Z C (.inl (pc, ls, .null :: st, M)) o := by
  subst hq hs
  exact nx_liftL (fun K H locs L n k hL w => lv_astore_nN K.1 K.2.1 d rfl hL.has hn rfl (fun L' h' => w L' (hL.st1 ho h'))) k
theorem nx_iinc {i : Nat} {n : Int} {x : Int32} (ls' : List (Option Value)) (d : decode Y.2.1 pc = .ok (.iinc i n, 3)) (hq : pc + 3 = q) (h : ls[i]? = some (some (.int x))) (hn : i < Y.2.2.1) (ho : nx_okS ls i = true) (hs : ls.set i (some (.int (x + iz n))) = ls') (k : nx_J Γ X Y Z C (.inl (q, ls', st, M)) o) : nx_J Γ X Y Z C (.inl (pc, ls, st, M)) o := by
  subst hq hs
  refine nx_liftL (fun K H locs L n k hL w => ?_) k
  obtain ⟨k0, hk0⟩ := List.getElem?_of_mem (nx_asc_mem.mpr h)
  exact lv_iinc K.1 K.2.1 d hL.has (k := k0) hk0 rfl hn rfl (fun L' h' => w L' (hL.st1 ho h'))
theorem nx_iadd {x y : Int32} (d : decode Y.2.1 pc = .ok (.iadd, 1)) (hq : pc + 1 = q) (k : nx_J Γ X Y Z C (.inl (q, ls, .int (x + y) :: st, M)) o) : nx_J Γ X Y Z C (.inl (pc, ls, .int y :: .int x :: st, M)) o := by
  subst hq
  exact nx_lift (fun K H locs L n k _ hL w => lv_iadd K.1 K.2.1 d w) k
theorem nx_isub {x y : Int32} (d : decode Y.2.1 pc = .ok (.isub, 1)) (hq : pc + 1 = q) (k : nx_J Γ X Y Z C (.inl (q, ls, .int (x - y) :: st, M)) o) : nx_J Γ X Y Z C (.inl (pc, ls, .int y :: .int x :: st, M)) o := by
  subst hq
  exact nx_lift (fun K H locs L n k _ hL w => lv_isub K.1 K.2.1 d w) k
theorem nx_imul {x y : Int32} (d : decode Y.2.1 pc = .ok (.imul, 1)) (hq : pc + 1 = q) (k : nx_J Γ X Y Z C (.inl (q, ls, .int (x * y) :: st, M)) o) : nx_J Γ X Y Z C (.inl (pc, ls, .int y :: .int x :: st, M)) o := by
  subst hq
  exact nx_lift (fun K H locs L n k _ hL w => lv_imul K.1 K.2.1 d w) k
theorem nx_iand {x y : Int32} (d : decode Y.2.1 pc = .ok (.iand, 1)) (hq : pc + 1 = q) (k : nx_J Γ X Y Z C (.inl (q, ls, .int (x &&& y) :: st, M)) o) : nx_J Γ X Y Z C (.inl (pc, ls, .int y :: .int x :: st, M)) o := by
  subst hq
  exact nx_lift (fun K H locs L n k _ hL w => lv_iand K.1 K.2.1 d w) k
theorem nx_ior {x y : Int32} (d : decode Y.2.1 pc = .ok (.ior, 1)) (hq : pc + 1 = q) (k : nx_J Γ X Y Z C (.inl (q, ls, .int (x ||| y) :: st, M)) o) : nx_J Γ X Y Z C (.inl (pc, ls, .int y :: .int x :: st, M)) o := by
  subst hq
  exact nx_lift (fun K H locs L n k _ hL w => lv_ior K.1 K.2.1 d w) k
theorem nx_ixor {x y : Int32} (d : decode Y.2.1 pc = .ok (.ixor, 1)) (hq : pc + 1 = q) (k : nx_J Γ X Y Z C (.inl (q, ls, .int (x ^^^ y) :: st, M)) o) : nx_J Γ X Y Z C (.inl (pc, ls, .int y :: .int x :: st, M)) o := by
  subst hq
  exact nx_lift (fun K H locs L n k _ hL w => lv_ixor K.1 K.2.1 d w) k
theorem nx_ishl {x y : Int32} (d : decode Y.2.1 pc = .ok (.ishl, 1)) (hq : pc + 1 = q) (k : nx_J Γ X Y Z C (.inl (q, ls, .int (x <<< (y &&& 31)) :: st, M)) o) : nx_J Γ X Y Z C (.inl (pc, ls, .int y :: .int x :: st, M)) o := by
  subst hq
  exact nx_lift (fun K H locs L n k _ hL w => lv_ishl K.1 K.2.1 d w) k
theorem nx_ishr {x y : Int32} (d : decode Y.2.1 pc = .ok (.ishr, 1)) (hq : pc + 1 = q) (k : nx_J Γ X Y Z C (.inl (q, ls, .int (x >>> (y &&& 31)) :: st, M)) o) : nx_J Γ X Y Z C (.inl (pc, ls, .int y :: .int x :: st, M)) o := by
  subst hq
  exact nx_lift (fun K H locs L n k _ hL w => lv_ishr K.1 K.2.1 d w) k
theorem nx_iushr {x y : Int32} (d : decode Y.2.1 pc = .ok (.iushr, 1)) (hq : pc + 1 = q) (k : nx_J Γ X Y Z C (.inl (q, ls, .int ((x.toUInt32 >>> (y.toUInt32 &&& Int32.toUInt32 31)).toInt32) :: st, M)) o) : nx_J Γ X Y Z C (.inl (pc, ls, .int y :: .int x :: st, M)) o := by
  subst hq
  exact nx_lift (fun K H locs L n k _ hL w => lv_iushr K.1 K.2.1 d rfl w) k
theorem nx_ladd {x y : Int64} (d : decode Y.2.1 pc = .ok (.ladd, 1)) (hq : pc + 1 = q) (k : nx_J Γ X Y Z C (.inl (q, ls, .long (x + y) :: st, M)) o) : nx_J Γ X Y Z C (.inl (pc, ls, .long y :: .long x :: st, M)) o := by
  subst hq
  exact nx_lift (fun K H locs L n k _ hL w => lv_ladd K.1 K.2.1 d w) k
theorem nx_lsub {x y : Int64} (d : decode Y.2.1 pc = .ok (.lsub, 1)) (hq : pc + 1 = q) (k : nx_J Γ X Y Z C (.inl (q, ls, .long (x - y) :: st, M)) o) : nx_J Γ X Y Z C (.inl (pc, ls, .long y :: .long x :: st, M)) o := by
  subst hq
  exact nx_lift (fun K H locs L n k _ hL w => lv_lsub K.1 K.2.1 d w) k
theorem nx_lmul {x y : Int64} (d : decode Y.2.1 pc = .ok (.lmul, 1)) (hq : pc + 1 = q) (k : nx_J Γ X Y Z C (.inl (q, ls, .long (x * y) :: st, M)) o) : nx_J Γ X Y Z C (.inl (pc, ls, .long y :: .long x :: st, M)) o := by
  subst hq
  exact nx_lift (fun K H locs L n k _ hL w => lv_lmul K.1 K.2.1 d w) k
theorem nx_land {x y : Int64} (d : decode Y.2.1 pc = .ok (.land, 1)) (hq : pc + 1 = q) (k : nx_J Γ X Y Z C (.inl (q, ls, .long (x &&& y) :: st, M)) o) : nx_J Γ X Y Z C (.inl (pc, ls, .long y :: .long x :: st, M)) o := by
  subst hq
  exact nx_lift (fun K H locs L n k _ hL w => lv_land K.1 K.2.1 d w) k
theorem nx_lor {x y : Int64} (d : decode Y.2.1 pc = .ok (.lor, 1)) (hq : pc + 1 = q) (k : nx_J Γ X Y Z C (.inl (q, ls, .long (x ||| y) :: st, M)) o) : nx_J Γ X Y Z C (.inl (pc, ls, .long y :: .long x :: st, M)) o := by
  subst hq
  exact nx_lift (fun K H locs L n k _ hL w => lv_lor K.1 K.2.1 d w) k
theorem nx_lcmp {x y : Int64} (d : decode Y.2.1 pc = .ok (.lcmp, 1)) (hq : pc + 1 = q) (k : nx_J Γ X Y Z C (.inl (q, ls, .int (lg_cmp x y) :: st, M)) o) : nx_J Γ X Y Z C (.inl (pc, ls, .long y :: .long x :: st, M)) o := by
  subst hq
  exact nx_lift (fun K H locs L n k _ hL w => W.lcmp K.1 K.2.1 d w) k
theorem nx_lshl {x : Int64} {y : Int32} (d : decode Y.2.1 pc = .ok (.lshl, 1)) (hq : pc + 1 = q) (k : nx_J Γ X Y Z C (.inl (q, ls, .long (x <<< (y.toInt64 &&& 63)) :: st, M)) o) : nx_J Γ X Y Z C (.inl (pc, ls, .int y :: .long x :: st, M)) o := by
  subst hq
  exact nx_lift (fun K H locs L n k _ hL w => lv_lshl K.1 K.2.1 d rfl w) k
theorem nx_lushr {x : Int64} {y : Int32} (d : decode Y.2.1 pc = .ok (.lushr, 1)) (hq : pc + 1 = q) (k : nx_J Γ X Y Z C (.inl (q, ls, .long ((x.toUInt64 >>> (y.toInt64.toUInt64 &&& Int64.toUInt64 63)).toInt64) :: st, M)) o) : nx_J Γ X Y Z C (.inl (pc, ls, .int y :: .long x :: st, M)) o := by
  subst hq
  exact nx_lift (fun K H locs L n k _ hL w => lv_lushr K.1 K.2.1 d rfl w) k
theorem nx_i2l {x : Int32} (d : decode Y.2.1 pc = .ok (.i2l, 1)) (hq : pc + 1 = q) (k : nx_J Γ X Y Z C (.inl (q, ls, .long x.toInt64 :: st, M)) o) : nx_J Γ X Y Z C (.inl (pc, ls, .int x :: st, M)) o := by
  subst hq
  exact nx_lift (fun K H locs L n k _ hL w => lv_i2l K.1 K.2.1 d rfl w) k
theorem nx_l2i {x : Int64} (d : decode Y.2.1 pc = .ok (.l2i, 1)) (hq : pc + 1 = q) (k : nx_J Γ X Y Z C (.inl (q, ls, .int x.toInt32 :: st, M)) o) : nx_J Γ X Y Z C (.inl (pc, ls, .long x :: st, M)) o := by
  subst hq
  exact nx_lift (fun K H locs L n k _ hL w => lv_l2i K.1 K.2.1 d rfl w) k
def nx_dv (x y : Int32) : Option Int32 := if y = 0 then none else some (x / y)
def nx_rm32 (x y : Int32) : Option Int32 := if y = 0 then none else some (x - x / y * y)
def nx_dvl (x y : Int64) : Option Int64 := if y = 0 then none else some (x / y)
def nx_rml (x y : Int64) : Option Int64 := if y = 0 then none else some (x - x / y * y)
theorem nx_opt {α β : Type} {c : Prop} [Decidable c] {v : β} {f : β → Option α} {a : α} (h : (if c then none else some v : Option β).bind f = some a) : ¬ c ∧ f v = some a := by
  by_cases hc : c
  · rw [if_pos hc] at h; cases h
  · rw [if_neg hc] at h; exact ⟨hc, h⟩
theorem nx_idiv {x y : Int32} {f : Int32 → Option α} (d : decode Y.2.1 pc = .ok (.idiv, 1)) (hq : pc + 1 = q) (k : ∀ v, nx_J Γ X Y Z C (.inl (q, ls, .int v :: st, M)) (f v)) : nx_J Γ X Y Z C (.inl (pc, ls, .int y :: .int x :: st, M)) ((nx_dv x y).bind f) := by
  subst hq
  intro a ha
  obtain ⟨hc, h⟩ := nx_opt ha
  exact nx_lift (fun K H locs L n k _ hL w => lv_idiv K.1 K.2.1 d hc w) (k _) a h
theorem nx_irem {x y : Int32} {f : Int32 → Option α} (d : decode Y.2.1 pc = .ok (.irem, 1)) (hq : pc + 1 = q) (k : ∀ v, nx_J Γ X Y Z C (.inl (q, ls, .int v :: st, M)) (f v)) : nx_J Γ X Y Z C (.inl (pc, ls, .int y :: .int x :: st, M)) ((nx_rm32 x y).bind f) := by
  subst hq
  intro a ha
  obtain ⟨hc, h⟩ := nx_opt ha
  exact nx_lift (fun K H locs L n k _ hL w => lv_irem K.1 K.2.1 d hc w) (k _) a h
theorem nx_ldiv {x y : Int64} {f : Int64 → Option α} (d : decode Y.2.1 pc = .ok (.ldiv, 1)) (hq : pc + 1 = q) (k : ∀ v, nx_J Γ X Y Z C (.inl (q, ls, .long v :: st, M)) (f v)) : nx_J Γ X Y Z C (.inl (pc, ls, .long y :: .long x :: st, M)) ((nx_dvl x y).bind f) := by
  subst hq
  intro a ha
  obtain ⟨hc, h⟩ := nx_opt ha
  exact nx_lift (fun K H locs L n k _ hL w => lv_ldiv K.1 K.2.1 d hc w) (k _) a h
theorem nx_lrem {x y : Int64} {f : Int64 → Option α} (d : decode Y.2.1 pc = .ok (.lrem, 1)) (hq : pc + 1 = q) (k : ∀ v, nx_J Γ X Y Z C (.inl (q, ls, .long v :: st, M)) (f v)) : nx_J Γ X Y Z C (.inl (pc, ls, .long y :: .long x :: st, M)) ((nx_rml x y).bind f) := by
  subst hq
  intro a ha
  obtain ⟨hc, h⟩ := nx_opt ha
  exact nx_lift (fun K H locs L n k _ hL w => lv_lrem K.1 K.2.1 d hc w) (k _) a h
theorem nx_dup {v : Value} (hc : v.category = 1) (d : decode Y.2.1 pc = .ok (.dup, 1)) (hq : pc + 1 = q) (k : nx_J Γ X Y Z C (.inl (q, ls, v :: v :: st, M)) o) : nx_J Γ X Y Z C (.inl (pc, ls, v :: st, M)) o := by
  subst hq
  exact nx_lift (fun K H locs L n k _ hL w => lv_dup K.1 K.2.1 d hc w) k
theorem nx_pop {v : Value} (hc : v.category = 1) (d : decode Y.2.1 pc = .ok (.pop, 1)) (hq : pc + 1 = q) (k : nx_J Γ X Y Z C (.inl (q, ls, st, M)) o) : nx_J Γ X Y Z C (.inl (pc, ls, v :: st, M)) o := by
  subst hq
  exact nx_lift (fun K H locs L n k _ hL w => lv_pop K.1 K.2.1 d hc w) k
theorem nx_dup2 {v u : Value} (hc : v.category = 1) (hc2 : u.category = 1) (d : decode Y.2.1 pc = .ok (.dup2, 1)) (hq : pc + 1 = q) (k : nx_J Γ X Y Z C (.inl (q, ls, v :: u :: v :: u :: st, M)) o) : nx_J Γ X Y Z C (.inl (pc, ls, v :: u :: st, M)) o := by
  subst hq
  exact nx_lift (fun K H locs L n k _ hL w => lv_dup2_11 K.1 K.2.1 d hc hc2 w) k
theorem nx_goto {off : Int} (d : decode Y.2.1 pc = .ok (.goto off, 3)) (hq : (pc : Int) + off = (q : Int)) (k : nx_J Γ X Y Z C (.inl (q, ls, st, M)) o) : nx_J Γ X Y Z C (.inl (pc, ls, st, M)) o :=
  nx_lift (fun K H locs L n k _ hL w => lv_goto K.1 K.2.1 d hq w) k
theorem nx_br {t : Nat} {P : Prop} [Decidable P] {st' : List Value} (hs : nx_K Γ X Y Z → ∀ (H : Heap) (locs : List Loc) (L : Array Slot) (n k : Nat), (P → nx_W X H locs n k (F0 (nx_m X) t L st)) → (¬ P → nx_W X H locs n k (F0 (nx_m X) q L st)) → nx_W X H locs n k (F0 (nx_m X) pc L st'))
    (k1 : nx_J Γ X Y Z C (.inl (t, ls, st, M)) o1) (k2 : nx_J Γ X Y Z C (.inl (q, ls, st, M)) o2) : nx_J Γ X Y Z C (.inl (pc, ls, st', M)) (if P then o1 else o2) := by
  by_cases hP : P
  · rw [if_pos hP]
    exact nx_lift (fun K H locs L n k _ hL w => hs K H locs L n k (fun _ => w) (fun h => absurd hP h)) k1
  · rw [if_neg hP]
    exact nx_lift (fun K H locs L n k _ hL w => hs K H locs L n k (fun h => absurd h hP) (fun _ => w)) k2
theorem nx_icmp_eq {x y : Int32} {off : Int} {t : Nat} (d : decode Y.2.1 pc = .ok (.if_icmp .eq off, 3)) (ht : (pc : Int) + off = (t : Int)) (hq : pc + 3 = q) (k1 : nx_J Γ X Y Z C (.inl (t, ls, st, M)) o1) (k2 : nx_J Γ X Y Z C (.inl (q, ls, st, M)) o2) : nx_J Γ X Y Z C (.inl (pc, ls, .int y :: .int x :: st, M)) (if x = y then o1 else o2) := by
  subst hq
  exact nx_br (fun K H locs L n k w1 w2 => lv_icmp_eq K.1 K.2.1 d ht w1 w2) k1 k2
theorem nx_icmp_lt {x y : Int32} {off : Int} {t : Nat} (d : decode Y.2.1 pc = .ok (.if_icmp .lt off, 3)) (ht : (pc : Int) + off = (t : Int)) (hq : pc + 3 = q) (k1 : nx_J Γ X Y Z C (.inl (t, ls, st, M)) o1) (k2 : nx_J Γ X Y Z C (.inl (q, ls, st, M)) o2) : nx_J Γ X Y Z C (.inl (pc, ls, .int y :: .int x :: st, M)) (if x < y then o1 else o2) := by
  subst hq
  exact nx_br (fun K H locs L n k w1 w2 => lv_icmp_lt K.1 K.2.1 d ht w1 w2) k1 k2
theorem nx_icmp_ge {x y : Int32} {off : Int} {t : Nat} (d : decode Y.2.1 pc = .ok (.if_icmp .ge off, 3)) (ht : (pc : Int) + off = (t : Int)) (hq : pc + 3 = q) (k1 : nx_J Γ X Y Z C (.inl (t, ls, st, M)) o1) (k2 : nx_J Γ X Y Z C (.inl (q, ls, st, M)) o2) : nx_J Γ X Y Z C (.inl (pc, ls, .int y :: .int x :: st, M)) (if y ≤ x then o1 else o2) := by
  subst hq
  exact nx_br (fun K H locs L n k w1 w2 => lv_icmp_ge K.1 K.2.1 d ht w1 w2) k1 k2
theorem nx_icmp_gt {x y : Int32} {off : Int} {t : Nat} (d : decode Y.2.1 pc = .ok (.if_icmp .gt off, 3)) (ht : (pc : Int) + off = (t : Int)) (hq : pc + 3 = q) (k1 : nx_J Γ X Y Z C (.inl (t, ls, st, M)) o1) (k2 : nx_J Γ X Y Z C (.inl (q, ls, st, M)) o2) : nx_J Γ X Y Z C (.inl (pc, ls, .int y :: .int x :: st, M)) (if y < x then o1 else o2) := by
  subst hq
  exact nx_br (fun K H locs L n k w1 w2 => lv_icmp_gt K.1 K.2.1 d ht w1 w2) k1 k2
theorem nx_icmp_le {x y : Int32} {off : Int} {t : Nat} (d : decode Y.2.1 pc = .ok (.if_icmp .le off, 3)) (ht : (pc : Int) + off = (t : Int)) (hq : pc + 3 = q) (k1 : nx_J Γ X Y Z C (.inl (t, ls, st, M)) o1) (k2 : nx_J Γ X Y Z C (.inl (q, ls, st, M)) o2) : nx_J Γ X Y Z C (.inl (pc, ls, .int y :: .int x :: st, M)) (if x ≤ y then o1 else o2) := by
  subst hq
  exact nx_br (fun K H locs L n k w1 w2 => lv_icmp_le K.1 K.2.1 d ht w1 w2) k1 k2
theorem nx_icmp_ne {x y : Int32} {off : Int} {t : Nat} (d : decode Y.2.1 pc = .ok (.if_icmp .ne off, 3)) (ht : (pc : Int) + off = (t : Int)) (hq : pc + 3 = q) (k1 : nx_J Γ X Y Z C (.inl (t, ls, st, M)) o1) (k2 : nx_J Γ X Y Z C (.inl (q, ls, st, M)) o2) : nx_J Γ X Y Z C (.inl (pc, ls, .int y :: .int x :: st, M)) (if x = y then o2 else o1) := by
  subst hq
  exact nx_br (fun K H locs L n k w1 w2 => lv_icmp_ne K.1 K.2.1 d ht w2 w1) k2 k1
theorem iz_0 : iz 0 = 0 := by decide +kernel
theorem nx_if_eq {x : Int32} {off : Int} {t : Nat} (d : decode Y.2.1 pc = .ok (.ifCond .eq off, 3)) (ht : (pc : Int) + off = (t : Int)) (hq : pc + 3 = q) (k1 : nx_J Γ X Y Z C (.inl (t, ls, st, M)) o1) (k2 : nx_J Γ X Y Z C (.inl (q, ls, st, M)) o2) : nx_J Γ X Y Z C (.inl (pc, ls, .int x :: st, M)) (if x = iz 0 then o1 else o2) := by
  subst hq
  rw [iz_0]
  exact nx_br (fun K H locs L n k w1 w2 => lv_if_eq K.1 K.2.1 d ht w1 w2) k1 k2
theorem nx_if_lt {x : Int32} {off : Int} {t : Nat} (d : decode Y.2.1 pc = .ok (.ifCond .lt off, 3)) (ht : (pc : Int) + off = (t : Int)) (hq : pc + 3 = q) (k1 : nx_J Γ X Y Z C (.inl (t, ls, st, M)) o1) (k2 : nx_J Γ X Y Z C (.inl (q, ls, st, M)) o2) : nx_J Γ X Y Z C (.inl (pc, ls, .int x :: st, M)) (if x < iz 0 then o1 else o2) := by
  subst hq
  rw [iz_0]
  exact nx_br (fun K H locs L n k w1 w2 => lv_if_lt K.1 K.2.1 d ht w1 w2) k1 k2
theorem nx_if_ge {x : Int32} {off : Int} {t : Nat} (d : decode Y.2.1 pc = .ok (.ifCond .ge off, 3)) (ht : (pc : Int) + off = (t : Int)) (hq : pc + 3 = q) (k1 : nx_J Γ X Y Z C (.inl (t, ls, st, M)) o1) (k2 : nx_J Γ X Y Z C (.inl (q, ls, st, M)) o2) : nx_J Γ X Y Z C (.inl (pc, ls, .int x :: st, M)) (if iz 0 ≤ x then o1 else o2) := by
  subst hq
  rw [iz_0]
  exact nx_br (fun K H locs L n k w1 w2 => lv_if_ge K.1 K.2.1 d ht w1 w2) k1 k2
theorem nx_if_gt {x : Int32} {off : Int} {t : Nat} (d : decode Y.2.1 pc = .ok (.ifCond .gt off, 3)) (ht : (pc : Int) + off = (t : Int)) (hq : pc + 3 = q) (k1 : nx_J Γ X Y Z C (.inl (t, ls, st, M)) o1) (k2 : nx_J Γ X Y Z C (.inl (q, ls, st, M)) o2) : nx_J Γ X Y Z C (.inl (pc, ls, .int x :: st, M)) (if iz 0 < x then o1 else o2) := by
  subst hq
  rw [iz_0]
  exact nx_br (fun K H locs L n k w1 w2 => lv_if_gt K.1 K.2.1 d ht w1 w2) k1 k2
theorem nx_if_le {x : Int32} {off : Int} {t : Nat} (d : decode Y.2.1 pc = .ok (.ifCond .le off, 3)) (ht : (pc : Int) + off = (t : Int)) (hq : pc + 3 = q) (k1 : nx_J Γ X Y Z C (.inl (t, ls, st, M)) o1) (k2 : nx_J Γ X Y Z C (.inl (q, ls, st, M)) o2) : nx_J Γ X Y Z C (.inl (pc, ls, .int x :: st, M)) (if x ≤ iz 0 then o1 else o2) := by
  subst hq
  rw [iz_0]
  exact nx_br (fun K H locs L n k w1 w2 => lv_if_le K.1 K.2.1 d ht w1 w2) k1 k2
theorem nx_if_ne {x : Int32} {off : Int} {t : Nat} (d : decode Y.2.1 pc = .ok (.ifCond .ne off, 3)) (ht : (pc : Int) + off = (t : Int)) (hq : pc + 3 = q) (k1 : nx_J Γ X Y Z C (.inl (t, ls, st, M)) o1) (k2 : nx_J Γ X Y Z C (.inl (q, ls, st, M)) o2) : nx_J Γ X Y Z C (.inl (pc, ls, .int x :: st, M)) (if x = iz 0 then o2 else o1) := by
  subst hq
  rw [iz_0]
  exact nx_br (fun K H locs L n k w1 w2 => lv_if_ne K.1 K.2.1 d ht w2 w1) k2 k1
theorem bz_0 (b : Bool) : bz b = 0 ↔ ¬ b = true := by cases b <;> decide
theorem nx_ifz_eq {b : Bool} {off : Int} {t : Nat} (d : decode Y.2.1 pc = .ok (.ifCond .eq off, 3)) (ht : (pc : Int) + off = (t : Int)) (hq : pc + 3 = q) (k1 : nx_J Γ X Y Z C (.inl (t, ls, st, M)) o1) (k2 : nx_J Γ X Y Z C (.inl (q, ls, st, M)) o2) : nx_J Γ X Y Z C (.inl (pc, ls, .int (bz b) :: st, M)) (if b = true then o2 else o1) := by
  subst hq
  exact nx_br (fun K H locs L n k w1 w2 => lv_if_eq K.1 K.2.1 d ht (fun h => w2 ((bz_0 b).mp h)) (fun h => w1 (Classical.byContradiction fun z => h ((bz_0 b).mpr z)))) k2 k1
theorem nx_ifz_ne {b : Bool} {off : Int} {t : Nat} (d : decode Y.2.1 pc = .ok (.ifCond .ne off, 3)) (ht : (pc : Int) + off = (t : Int)) (hq : pc + 3 = q) (k1 : nx_J Γ X Y Z C (.inl (t, ls, st, M)) o1) (k2 : nx_J Γ X Y Z C (.inl (q, ls, st, M)) o2) : nx_J Γ X Y Z C (.inl (pc, ls, .int (bz b) :: st, M)) (if b = true then o1 else o2) := by
  subst hq
  exact nx_br (fun K H locs L n k w1 w2 => lv_if_ne K.1 K.2.1 d ht (fun h => w1 (Classical.byContradiction fun z => h ((bz_0 b).mpr z))) (fun h => w2 ((bz_0 b).mp h))) k1 k2
theorem nx_ifnull {r : Option Nat} {off : Int} {t : Nat} (d : decode Y.2.1 pc = .ok (.ifnull off, 3)) (ht : (pc : Int) + off = (t : Int)) (hq : pc + 3 = q) (k1 : nx_J Γ X Y Z C (.inl (t, ls, st, M)) o1) (k2 : nx_J Γ X Y Z C (.inl (q, ls, st, M)) o2) : nx_J Γ X Y Z C (.inl (pc, ls, va_rf r :: st, M)) (if r = none then o1 else o2) := by
  subst hq
  cases r with
  | none => exact nx_br (P := (none : Option Nat) = none) (fun K H locs L n k w1 w2 => lv_ifnullN K.1 K.2.1 d ht (w1 rfl)) k1 k2
  | some x => exact nx_br (P := some x = none) (fun K H locs L n k w1 w2 => lv_ifnull K.1 K.2.1 d (w2 (by simp))) k1 k2
theorem nx_ifnonnull {r : Option Nat} {off : Int} {t : Nat} (d : decode Y.2.1 pc = .ok (.ifnonnull off, 3)) (ht : (pc : Int) + off = (t : Int)) (hq : pc + 3 = q) (k1 : nx_J Γ X Y Z C (.inl (t, ls, st, M)) o1) (k2 : nx_J Γ X Y Z C (.inl (q, ls, st, M)) o2) : nx_J Γ X Y Z C (.inl (pc, ls, va_rf r :: st, M)) (if r = none then o2 else o1) := by
  subst hq
  cases r with
  | none => exact nx_br (P := (none : Option Nat) = none) (fun K H locs L n k w1 w2 => lv_ifnonnullN K.1 K.2.1 d (w1 rfl)) k2 k1
  | some x => exact nx_br (P := some x = none) (fun K H locs L n k w1 w2 => lv_ifnonnull K.1 K.2.1 d ht (w2 (by simp))) k2 k1
theorem nx_ret0 {r : Option Value} {a : α} (hC : C a = .inr (r, M)) (hs : nx_K Γ X Y Z → ∀ (H : Heap) (locs : List Loc) (L : Array Slot), (r, M) = Z.2 → nx_Hold Γ M H → (∀ x ∈ locs, nx_A Γ x.base) → nx_W X H locs (M.2.1 - Z.1.2.1) (M.2.2 - Z.1.2.2) (F0 (nx_m X) pc L st)) : nx_J Γ X Y Z C (.inl (pc, ls, st, M)) (some a) := by
  intro a' ha
  cases ha
  rw [hC]
  refine ⟨⟨Nat.le_refl _, Nat.le_refl _⟩, fun K h h1 h2 => ?_⟩
  have h : (r, M) = Z.2 := h
  have e : Z.2.2 = M := by rw [← h]
  refine ⟨by rw [e]; exact Nat.le_refl _, by rw [e]; exact Nat.le_refl _, fun H locs L hH hl hL => hs K H locs L h hH hl⟩
theorem nx_q {r : Option Value} {t : State} {H : Heap} (h : (r, M) = Z.2) (ht : t.heap = H) (hH : nx_Hold Γ M H) {a : Array Value} {s : State} : nx_Qc Γ Z.2.1 Z.2.2 a s (.returned r) t := by
  have e1 : Z.2.1 = r := by rw [← h]
  have e2 : Z.2.2 = M := by rw [← h]
  rw [e1, e2]
  exact ⟨rfl, by rw [ht]; exact hH⟩
theorem nx_iret {v : Int32} {a : α} (d : decode Y.2.1 pc = .ok (.ireturn, 1)) (hr : Y.2.2.2.1 = some .int) (hC : C a = .inr (some (.int v), M)) : nx_J Γ X Y Z C (.inl (pc, ls, [.int v], M)) (some a) := by
  refine nx_ret0 hC fun K H locs L h hH hl => ?_
  have e2 : Z.2.2 = M := by rw [← h]
  refine nx_Wmono K.2.2.2.2.2.2.2.2.2.2 ?_
  rw [e2]
  exact W.iret K.1 K.2.1 (K.2.2.1.trans hr) (fun t ht _ => by have := nx_q h ht hH (a := nx_as X) (s := nx_s X); rwa [e2] at this) hl d K.2.2.2.1
theorem nx_nar_b (b : Bool) : narrow .boolean (.int (bz b)) = .int (bz b) := by cases b <;> rfl
theorem nx_zret {b : Bool} {a : α} (d : decode Y.2.1 pc = .ok (.ireturn, 1)) (hr : Y.2.2.2.1 = some .boolean) (hC : C a = .inr (some (.int (bz b)), M)) : nx_J Γ X Y Z C (.inl (pc, ls, [.int (bz b)], M)) (some a) := by
  refine nx_ret0 hC fun K H locs L h hH hl => ?_
  have e2 : Z.2.2 = M := by rw [← h]
  refine nx_Wmono K.2.2.2.2.2.2.2.2.2.2 ?_
  rw [e2]
  exact W.zret K.1 K.2.1 (K.2.2.1.trans hr) (nx_nar_b b) (fun t ht _ => by have := nx_q h ht hH (a := nx_as X) (s := nx_s X); rwa [e2] at this) hl d K.2.2.2.1
theorem nx_lret {v : Int64} {a : α} (d : decode Y.2.1 pc = .ok (.lreturn, 1)) (hr : Y.2.2.2.1 = some .long) (hC : C a = .inr (some (.long v), M)) : nx_J Γ X Y Z C (.inl (pc, ls, [.long v], M)) (some a) := by
  refine nx_ret0 hC fun K H locs L h hH hl => ?_
  have e2 : Z.2.2 = M := by rw [← h]
  refine nx_Wmono K.2.2.2.2.2.2.2.2.2.2 ?_
  rw [e2]
  exact W.lret K.1 K.2.1 (K.2.2.1.trans hr) (fun t ht _ => by have := nx_q h ht hH (a := nx_as X) (s := nx_s X); rwa [e2] at this) hl d K.2.2.2.1
theorem nx_vret {a : α} (d : decode Y.2.1 pc = .ok (.return_, 1)) (hr : Y.2.2.2.1 = none) (hC : C a = .inr (none, M)) : nx_J Γ X Y Z C (.inl (pc, ls, [], M)) (some a) := by
  refine nx_ret0 hC fun K H locs L h hH hl => ?_
  have e2 : Z.2.2 = M := by rw [← h]
  refine nx_Wmono K.2.2.2.2.2.2.2.2.2.2 ?_
  rw [e2]
  exact W.vret K.1 K.2.1 (K.2.2.1.trans hr) (fun t ht _ => by have := nx_q h ht hH (a := nx_as X) (s := nx_s X); rwa [e2] at this) hl d K.2.2.2.1
theorem nx_aret {r : Option Nat} {a : α} {c : String} (d : decode Y.2.1 pc = .ok (.areturn, 1)) (hr : Y.2.2.2.1 = some (.object c)) (hC : C a = .inr (some (va_rf r), M)) : nx_J Γ X Y Z C (.inl (pc, ls, [va_rf r], M)) (some a) := by
  refine nx_ret0 hC fun K H locs L h hH hl => ?_
  have e2 : Z.2.2 = M := by rw [← h]
  refine nx_Wmono K.2.2.2.2.2.2.2.2.2.2 ?_
  rw [e2]
  exact W.aret K.1 K.2.1 (K.2.2.1.trans hr) (Or.inl ⟨_, rfl⟩) (va_rf_or r) (fun t ht _ => by have := nx_q h ht hH (a := nx_as X) (s := nx_s X); rwa [e2] at this) hl d K.2.2.2.1
end NXI
