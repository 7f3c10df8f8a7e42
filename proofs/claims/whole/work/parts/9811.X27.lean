/-! ===== the law's entry: the rows' types ===== -/
theorem K_ia {s : State} {args : Array Value} {ty : FieldType} (ht : ty = .int ∨ ty = .long) (h : (Cond.arrayClass ty).before args s = true) : ∃ cA : ClassId, ArrOfT s cA ty ∧ va_RA s cA ty := by
  obtain ⟨cA, kA, comp, hfind, hk, hkind⟩ := Cond.arrayClass_spec h
  refine ⟨cA, fun n z => ⟨fun k h => (by cases h), kA, hk, comp, hkind⟩, ?_⟩
  rcases ht with rfl | rfl
  · exact hfind
  · exact hfind
theorem K_oa {s : State} {C : String} (h : va_AO C s) : ∃ cA : ClassId, ArrOfT s cA (.object C) ∧ va_RA s cA (.object C) := by
  obtain ⟨comp, c, k, h1, h2, h3, h4, h5⟩ := Cond.arrayOver_spec h
  exact ⟨c, fun n z => ⟨fun k h => (by cases h), k, h3, comp, h4⟩, k, comp, h3, h4, h1, h5⟩
/-- all that is known of classes and rows -/
theorem K_all {s : State} {args : Array Value} (hts : ∀ w ∈ lw_tbl, w.before args s = true) : ∃ (D : va_G) (ty : Nat → ClassId), va_AO "LateStamps$World" s ∧ va_AO "LateStamps$Script" s ∧ ∀ (n : Nat) (H : Heap) (st : Nat → Nat), va_K D vwCl (nx_tys (n, H, D, ty, st)) s := by
  obtain ⟨D, hD⟩ := K_cls (s := s) (args := args) (fun w hw => hts w (List.mem_filter.mp hw).1)
  have oW : va_AO "LateStamps$World" s := va_AO.of (hts (.arrayOver (.object "LateStamps$World")) (by decide +kernel))
  have oS : va_AO "LateStamps$Script" s := va_AO.of (hts (.arrayOver (.object "LateStamps$Script")) (by decide +kernel))
  obtain ⟨c0, a0, b0⟩ := K_ia (s := s) (args := args) (Or.inl rfl) (hts (.arrayClass .int) (by decide +kernel))
  obtain ⟨c1, a1, b1⟩ := K_ia (s := s) (args := args) (Or.inr rfl) (hts (.arrayClass .long) (by decide +kernel))
  obtain ⟨c2, a2, b2⟩ := K_oa oW
  obtain ⟨c3, a3, b3⟩ := K_oa oS
  refine ⟨D, fun k => match k with | 0 => c0 | 1 => c1 | 2 => c2 | _ => c3, oW, oS, fun n H st => ⟨hD, fun k q hk => ?_⟩⟩
  match k with
  | 0 => cases Option.some.inj hk; exact ⟨a0, b0⟩
  | 1 => cases Option.some.inj hk; exact ⟨a1, b1⟩
  | 2 => cases Option.some.inj hk; exact ⟨a2, b2⟩
  | 3 => cases Option.some.inj hk; exact ⟨a3, b3⟩
  | k + 4 => cases hk
