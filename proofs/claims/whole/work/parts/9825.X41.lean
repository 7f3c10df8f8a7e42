/-! ===== the law's case 5: seat ===== -/
theorem cmp_s (w : Int64) : lg_cmp w w = iz 0 := by
  unfold lg_cmp
  have h : ¬ (w > w) := fun h => Int.lt_irrefl _ (Int64.lt_iff_toInt_lt.mp h)
  rw [if_neg h, if_pos rfl]
  exact iz_0.symm
abbrev ls5 (b x j : Nat) (k : Int32) : List (Option Value) := [some (.ref b), some (.ref x), some (.ref (x + 19)), some (.ref (x + 33)), some (.int (ii j)), some (.int k), none]
abbrev ls6 (b x j : Nat) (k v : Int32) : List (Option Value) := [some (.ref b), some (.ref x), some (.ref (x + 19)), some (.ref (x + 33)), some (.int (ii j)), some (.int k), some (.int v)]
section LAWS
variable {Γ : nx_G} {X : nx_X} {nm : String} {Z : nx_Z} {α : Type} {C : α → nx_C} {pc q : Nat} {ls : List (Option Value)} {st stk : List Value} {M : nx_M} {o : Option α} {b L x j A B : Nat} {xs : Nat → Int32} {D : nx_M} {g : mS} {f : Nat → Int64}
theorem L_fall {off : Int} {t : Nat} (d : decode code pc = .ok (.ifCond .ne off, 3)) (ht : (pc : Int) + off = (t : Int)) (hq : pc + 3 = q) (k : nx_J Γ X (YL nm) Z C (.inl (q, ls, st, M)) o) : nx_J Γ X (YL nm) Z C (.inl (pc, ls, .int (iz 0) :: st, M)) o := by
  have h := nx_if_ne (C := C) (x := iz 0) (Y := YL nm) (o1 := none) (o2 := o) d ht hq J_no k
  rw [if_pos rfl] at h
  exact h
theorem L_jump {off : Int} {t : Nat} {v : Int32} (hv : ¬ v = iz 0) (d : decode code pc = .ok (.ifCond .ne off, 3)) (ht : (pc : Int) + off = (t : Int)) (k : nx_J Γ X (YL nm) Z C (.inl (t, ls, st, M)) o) : nx_J Γ X (YL nm) Z C (.inl (pc, ls, .int v :: st, M)) o := by
  have h := nx_if_ne (C := C) (x := v) (Y := YL nm) (q := pc + 3) (o1 := o) (o2 := none) d ht rfl k J_no
  rw [if_neg hv] at h
  exact h
theorem L_zero {off : Int} {t : Nat} (d : decode code pc = .ok (.ifCond .eq off, 3)) (ht : (pc : Int) + off = (t : Int)) (k : nx_J Γ X (YL nm) Z C (.inl (t, ls, st, M)) o) : nx_J Γ X (YL nm) Z C (.inl (pc, ls, .int (iz 0) :: st, M)) o := by
  have h := nx_if_eq (C := C) (x := iz 0) (Y := YL nm) (q := pc + 3) (o1 := o) (o2 := none) d ht rfl k J_no
  rw [if_pos rfl] at h
  exact h
theorem x_lald1 {Y : nx_Y} {a n : Nat} {f : Nat → Int64} {i : Int32} {v : Int64} (hμ : M.1 a = some (.inl (Γ.2.2.2.1 1, n, .inr (.inl f)))) (hv : (if i < 0 ∨ n ≤ i.toNatClampNeg then none else some (f i.toNatClampNeg) : Option Int64) = some v) (d : decode Y.2.1 pc = .ok (.laload, 1)) (hq : pc + 1 = q) (k : nx_J Γ X Y Z C (.inl (q, ls, .long v :: st, M)) o) : nx_J Γ X Y Z C (.inl (pc, ls, .int i :: .ref a :: st, M)) o := by
  have h := nx_lald (C := C) (i := i) (g := fun w => if w = v then o else none) (st := st) (ls := ls) (M := M) (Z := Z) hμ d hq (fun w => by
    by_cases e : w = v
    · subst e
      rw [if_pos rfl]
      exact k
    · rw [if_neg e]
      exact J_no)
  rw [hv] at h
  have e2 : (some v).bind (fun w => if w = v then o else none) = o := by
    show (if v = v then o else none) = o
    rw [if_pos rfl]
  rw [e2] at h
  exact h
theorem wk_6 {k v : Int32} : nx_wk (ls6 b x j k v) (lls b x j) := ⟨rfl, rfl, rfl, rfl, rfl, True.intro⟩
theorem Ls_a {v : Int32} (hfr : fr19 x D) (h0 : g.1 0 0 = iz 0) (hf : f 0 = v.toInt64) : nx_J Γ X (YL nm) Z (fun _ : Unit => .inl (1521, lls b x j, [], LM Γ x D g f)) (.inl (418, ls6 b x j (iz 0) v, [], LM Γ x D g f)) (some ()) := by
  have hth : fM_thrown 0 g = some (iz 0) := congrArg some h0
  refine nx_aload_n rfl dL_418 rfl ?_
  refine L_cm [] cwl_M_thrown cvl_M_thrown (cM_thrown X.2.1 (M0 := LM Γ x D g f) (m := x + 19) hth) hfr rfl rfl (Nat.le_of_ble_eq_true rfl) (by decide) dL_419 rfl ?_
  refine nx_iload rfl dL_422 rfl ?_
  refine L_eq (t := 429) dL_424 (by decide) ?_
  refine nx_iload rfl dL_429 rfl ?_
  refine L_fall (t := 446) dL_431 (by decide) rfl ?_
  refine nx_aload_n rfl dL_434 rfl ?_
  refine nx_iconst dL_435 rfl ?_
  refine x_lald1 (n := 1) (f := f) (v := v.toInt64) (LM_out hfr) (by
    have e0 : (iz 0).toNatClampNeg = 0 := by decide +kernel
    rw [e0, hf, if_neg (by decide +kernel)]) dL_436 rfl ?_
  refine nx_iload rfl dL_437 rfl ?_
  refine nx_i2l dL_439 rfl ?_
  refine nx_lcmp dL_440 rfl ?_
  rw [cmp_s]
  refine L_zero (t := 446) dL_441 (by decide) ?_
  refine nx_goto (q := 1521) dL_446 (by decide) ?_
  refine nx_weak wk_6 ?_
  exact nx_leaf rfl
theorem Ls_b {v : Int32} (hfr : fr19 x D) (h0 : g.1 0 0 = iz 1) : nx_J Γ X (YL nm) Z (fun _ : Unit => .inl (1521, lls b x j, [], LM Γ x D g f)) (.inl (418, ls6 b x j (iz 1) v, [], LM Γ x D g f)) (some ()) := by
  have hth : fM_thrown 0 g = some (iz 1) := congrArg some h0
  refine nx_aload_n rfl dL_418 rfl ?_
  refine L_cm [] cwl_M_thrown cvl_M_thrown (cM_thrown X.2.1 (M0 := LM Γ x D g f) (m := x + 19) hth) hfr rfl rfl (Nat.le_of_ble_eq_true rfl) (by decide) dL_419 rfl ?_
  refine nx_iload rfl dL_422 rfl ?_
  refine L_eq (t := 429) dL_424 (by decide) ?_
  refine nx_iload rfl dL_429 rfl ?_
  refine L_jump (t := 446) (by decide +kernel) dL_431 (by decide) ?_
  refine nx_goto (q := 1521) dL_446 (by decide) ?_
  refine nx_weak wk_6 ?_
  exact nx_leaf rfl
/-- from the law's seat on -/
theorem Ls_c {D1 : nx_M} {g1 : mS} {f1 : Nat → Int64} {k v : Int32} (hX : LX Γ X b L xs) (hj : 6 * j + 6 ≤ L) (hL : L ≤ 3072) (hct : nx_CtW X.2.1 Γ (seA x (xs (6 * j + 1)) (xs (6 * j + 2))) (LM Γ x D g f) (some (.int k), LM Γ x D1 g f1)) (hfr : fr19 x D1) (hm : fM_seat 40000 g (xs (6 * j + 1)) (xs (6 * j + 2)) = some (v, g1))
    (kk : nx_J Γ X (YL nm) Z (fun _ : Unit => .inl (1521, lls b x j, [], LM Γ x D1 g1 f1)) (.inl (418, ls6 b x j k v, [], LM Γ x D1 g1 f1)) (some ())) : nx_J Γ X (YL nm) Z (fun _ : Unit => .inl (1521, lls b x j, [], LM Γ x D1 g1 f1)) (.inl (381, lls b x j, [], LM Γ x D g f)) (some ()) := by
  refine nx_aload_n rfl dL_381 rfl ?_
  refine L_arg hX.1 hj hL (k := 1) (by decide) aL_382 rfl rfl rfl ?_
  refine L_arg hX.1 hj hL (k := 2) (by decide) aL_388 rfl rfl rfl ?_
  refine nx_aload_n rfl dL_394 rfl ?_
  refine L_seat (st := []) hX.2.1 hct rfl rfl (Nat.le_of_ble_eq_true rfl) dL_395 rfl ?_
  refine nx_istore (ls5 b x j k) dL_398 rfl (Nat.le_of_ble_eq_true rfl) rfl rfl ?_
  refine nx_aload_n rfl dL_400 rfl ?_
  refine L_arg hX.1 hj hL (k := 1) (by decide) aL_401 rfl rfl rfl ?_
  refine L_arg hX.1 hj hL (k := 2) (by decide) aL_407 rfl rfl rfl ?_
  refine L_cm [.int (xs (6 * j + 1)), .int (xs (6 * j + 2))] cwl_M_seat cvl_M_seat (cM_seat X.2.1 (M0 := LM Γ x D1 g f1) (m := x + 19) hm) hfr rfl rfl (Nat.le_of_ble_eq_true rfl) (by decide) dL_413 rfl ?_
  refine nx_istore (ls6 b x j k v) dL_416 rfl (Nat.le_of_ble_eq_true rfl) rfl rfl ?_
  exact kk
theorem Lc_5 (hI : INV Γ x A B D g) (hj : 6 * j + 6 ≤ L) (hL : L ≤ 3072) : ∃ (A' B' : Nat) (D' : nx_M) (g' : mS) (f' : Nat → Int64), A' ≤ A + 1 ∧ B' ≤ B + 6 ∧ INV Γ x A' B' D' g' ∧ ∀ (X : nx_X) (Z : nx_Z) (nm : String), LX Γ X b L xs → nx_J Γ X (YL nm) Z (fun _ : Unit => .inl (1521, lls b x j, [], LM Γ x D' g' f')) (.inl (381, lls b x j, [], LM Γ x D g f)) (some ()) := by
  obtain ⟨r, e1, e2, hI'⟩ := B_seat (u := 40000) (by decide) hI (xs (6 * j + 1)) (xs (6 * j + 2))
  cases r with
  | some v =>
    have e3 : fM_seat 40000 g (xs (6 * j + 1)) (xs (6 * j + 2)) = some (v, mFs g 0 (nI 0)) := e2
    have hI2 : INV Γ x A B D (mFs g 0 (nI 0)) := hI'
    refine ⟨A, B, D, mFs g 0 (nI 0), vp_updL f 0 v.toInt64, by omega, by omega, hI2, fun X Z nm hX => ?_⟩
    refine Ls_c hX hj hL (sL_A X.2.1 e1 hI.fr (hI.ob g f)) hI.fr e3 ?_
    exact Ls_a hI.fr (fs_s.trans (iz_cast 0).symm) (by unfold vp_updL; rw [if_pos rfl])
  | none =>
    have e3 : fM_seat 40000 g (xs (6 * j + 1)) (xs (6 * j + 2)) = some (nI 0, mFs g 0 (nI 1)) := e2
    have hI2 : INV Γ x A B D (mFs g 0 (nI 1)) := hI'
    refine ⟨A + 1, B + 6, (D.1, D.2.1 + 1, D.2.2 + 6), mFs g 0 (nI 1), f, Nat.le_refl _, Nat.le_refl _, hI2.mo 1 6, fun X Z nm hX => ?_⟩
    refine Ls_c (k := iz 1) hX hj hL (sL_B X.2.1 hX.2.2 e1 (hI.ob g f)) (hI2.mo 1 6).fr e3 ?_
    exact Ls_b (hI2.mo 1 6).fr (fs_s.trans (iz_cast 1).symm)
end LAWS
