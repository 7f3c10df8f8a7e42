/-! ===== the law's entry: the four rows of StoreText, and all together ===== -/
theorem K_st {s : State} {args : Array Value} {nm : String} {f : Nat → Int32} {A : Nat → Prop} (hl : (Cond.laysStatic "LateStamps$StoreText" nm "[I").before args s = true) (hini : (Cond.initialized "LateStamps$StoreText").before args s = true)
    (harr : (Cond.arrayOf (.static "LateStamps$StoreText" nm "[I") .int).before args s = true) (hlen : (Cond.eq (.length (.static "LateStamps$StoreText" nm "[I")) (.int 3)).before args s = true)
    (h0 : (Cond.eq (.elem (.static "LateStamps$StoreText" nm "[I") (.int 0)) (.int (f 0))).before args s = true) (h1 : (Cond.eq (.elem (.static "LateStamps$StoreText" nm "[I") (.int 1)) (.int (f 1))).before args s = true) (h2 : (Cond.eq (.elem (.static "LateStamps$StoreText" nm "[I") (.int 2)) (.int (f 2))).before args s = true)
    (hA : ∀ a : Nat, a < s.heap.size → ¬ A a) : ∃ t : Nat, va_Z "LateStamps$StoreText" nm "[I" (.ref t) A s s.heap ∧ va_T .int t 3 (fun i => .int (f i)) A s s.heap := by
  obtain ⟨t, ht, hT⟩ := va_Tof (args := args) (s := s) (tm := .static "LateStamps$StoreText" nm "[I") (N := 3) (f := fun i => .int (f i)) (A := A) (by decide) harr (va_eqt hlen) (fun j hj => by
    match j, hj with
    | 0, _ => exact va_eqt h0
    | 1, _ => exact va_eqt h1
    | 2, _ => exact va_eqt h2
    | j + 3, h => omega) hA
  exact ⟨t, va_Zof hl hini ht hA, hT⟩
theorem K_env {s : State} {args : Array Value} (hts : ∀ w ∈ lw_tbl, w.before args s = true) (hg : (Jvm.Cond.and given_1 narrow_1).before args s = true) : ∃ Γ : nx_G, Γ.1 = s.heap.size ∧ Γ.2.1 = s.heap ∧ nx_Env Γ s := by
  obtain ⟨D, ty, oW, oS, hK⟩ := K_all hts
  have hf := flat_of_before _ hg
  have hA : ∀ a : Nat, a < s.heap.size → ¬ (s.heap.size ≤ a) := fun a h => Nat.not_le.mpr h
  have ini := hts (.initialized "LateStamps$StoreText") (by decide +kernel)
  have sts : ∀ j : Nat, j < 4 → ∃ t : Nat, va_Z "LateStamps$StoreText" (nx_sn j) "[I" (.ref t) (fun q => s.heap.size ≤ q) s s.heap ∧ va_T .int t 3 (fun i => .int (nx_sv j i)) (fun q => s.heap.size ≤ q) s s.heap := by
    intro j hj
    match j, hj with
    | 0, _ => exact K_st (hts (.laysStatic "LateStamps$StoreText" "LETTERS" "[I") (by decide +kernel)) ini (hf _ (by decide +kernel)) (hf _ (by decide +kernel)) (hf _ (by decide +kernel)) (hf _ (by decide +kernel)) (hf _ (by decide +kernel)) hA
    | 1, _ => exact K_st (hts (.laysStatic "LateStamps$StoreText" "LEAST" "[I") (by decide +kernel)) ini (hf _ (by decide +kernel)) (hf _ (by decide +kernel)) (hf _ (by decide +kernel)) (hf _ (by decide +kernel)) (hf _ (by decide +kernel)) hA
    | 2, _ => exact K_st (hts (.laysStatic "LateStamps$StoreText" "GREATEST" "[I") (by decide +kernel)) ini (hf _ (by decide +kernel)) (hf _ (by decide +kernel)) (hf _ (by decide +kernel)) (hf _ (by decide +kernel)) (hf _ (by decide +kernel)) hA
    | 3, _ => exact K_st (hts (.laysStatic "LateStamps$StoreText" "WITHOUT" "[I") (by decide +kernel)) ini (hf _ (by decide +kernel)) (hf _ (by decide +kernel)) (hf _ (by decide +kernel)) (hf _ (by decide +kernel)) (hf _ (by decide +kernel)) hA
    | j + 4, h => exact absurd h (by omega)
  have all : ∀ j : Nat, ∃ t : Nat, j < 4 → va_Z "LateStamps$StoreText" (nx_sn j) "[I" (.ref t) (fun q => s.heap.size ≤ q) s s.heap ∧ va_T .int t 3 (fun i => .int (nx_sv j i)) (fun q => s.heap.size ≤ q) s s.heap := fun j => by
    by_cases c : j < 4
    · obtain ⟨t, h⟩ := sts j c
      exact ⟨t, fun _ => h⟩
    · exact ⟨0, fun h => absurd h c⟩
  refine ⟨(s.heap.size, s.heap, D, ty, fun j => Classical.choose (all j)), rfl, rfl, hK _ _ _, fun w hw hn => ?_, fun j hj => Classical.choose_spec (all j) hj, oW, oS⟩
  have hb : w.before args s = true := hts w (List.mem_append.mpr (Or.inr hw))
  cases w <;> first | (cases hn; done) | exact va_tabs rfl rfl hb
