/-! ===== the law's entry: the classes ===== -/
theorem ins_7 : Cond.instantiable RX7 12 ∈ nx_TB := nx_mem 209 (by decide +kernel) (by decide +kernel)
theorem ins_8 : Cond.instantiable RX8 27 ∈ nx_TB := nx_mem 1139 (by decide +kernel) (by decide +kernel)
theorem K_cls {s : State} {args : Array Value} (hts : ∀ w ∈ nx_TB, w.before args s = true) : ∃ D : va_G, ∀ (c : Nat) (q : vw_C), vwCl[c]? = some q → u_Kn s q.1 q.2.1 q.2.2 (D.1 c) (D.2 c) := by
  have one : ∀ {C : String} {T : u_T} {N : Nat}, (∀ w ∈ u_ws C T N, w ∈ nx_TB) → Cond.instantiable C N ∈ nx_TB → ∃ z : ClassId × (Nat → Nat), u_Kn s C T N z.1 z.2 := fun h1 h2 => by
    obtain ⟨a, b, h⟩ := u_known hts h1 (hts _ h2)
    exact ⟨(a, b), h⟩
  have all : ∀ c : Nat, ∃ z : ClassId × (Nat → Nat), ∀ q : vw_C, vwCl[c]? = some q → u_Kn s q.1 q.2.1 q.2.2 z.1 z.2 := by
    intro c
    match c with
    | 0 => obtain ⟨z, h⟩ := one us_0 wd_311; exact ⟨z, fun q e => by cases Option.some.inj e; exact h⟩
    | 1 => obtain ⟨z, h⟩ := one us_1 wd_337; exact ⟨z, fun q e => by cases Option.some.inj e; exact h⟩
    | 2 => obtain ⟨z, h⟩ := one us_2 wd_292; exact ⟨z, fun q e => by cases Option.some.inj e; exact h⟩
    | 3 => obtain ⟨z, h⟩ := one us_3 wd_266; exact ⟨z, fun q e => by cases Option.some.inj e; exact h⟩
    | 4 => obtain ⟨z, h⟩ := one us_4 wd_243; exact ⟨z, fun q e => by cases Option.some.inj e; exact h⟩
    | 5 => obtain ⟨z, h⟩ := one us_5 wd_217; exact ⟨z, fun q e => by cases Option.some.inj e; exact h⟩
    | 6 => obtain ⟨z, h⟩ := one us_6 wd_281; exact ⟨z, fun q e => by cases Option.some.inj e; exact h⟩
    | 7 => obtain ⟨z, h⟩ := one us_7 ins_7; exact ⟨z, fun q e => by cases Option.some.inj e; exact h⟩
    | 8 => obtain ⟨z, h⟩ := one us_8 ins_8; exact ⟨z, fun q e => by cases Option.some.inj e; exact h⟩
    | c + 9 => exact ⟨(0, fun _ => 0), fun q e => by cases e⟩
  exact ⟨(fun c => (Classical.choose (all c)).1, fun c => (Classical.choose (all c)).2), fun c q e => Classical.choose_spec (all c) q e⟩
