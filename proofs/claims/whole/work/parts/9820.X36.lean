/-! ===== rules for the law's body ===== -/
abbrev YL (nm : String) : nx_Y := (RL, code, 7, some .boolean, nm, 2048)
abbrev ii (j : Nat) : Int32 := iz ((6 * j : Nat) : Int)
abbrev lls (b x j : Nat) : List (Option Value) := [some (.ref b), some (.ref x), some (.ref (x + 19)), some (.ref (x + 33)), some (.int (ii j)), none, none]
/-- what the law's walk is told of the world -/
def LX (Γ : nx_G) (X : nx_X) (b L : Nat) (xs : Nat → Int32) : Prop := scK Γ X b L xs ∧ nx_Th Γ (nx_s X) ∧ X.2.1.stackTraces = false
abbrev argD (pc : Nat) (k : Int) : Prop := decode code pc = .ok (.aload_n 0, 1) ∧ decode code (pc + 1) = .ok (.iload 4, 2) ∧ decode code (pc + 3) = .ok (.iconst k, 1) ∧ decode code (pc + 4) = .ok (.iadd, 1) ∧ decode code (pc + 5) = .ok (.iaload, 1)
theorem INV.ob {Γ : nx_G} {x A B : Nat} {D : nx_M} {g : mS} (h : INV Γ x A B D g) (g' : mS) (f : Nat → Int64) : ∃ fs, (LM Γ x D g' f).1 x = some (.inr (7, fs)) := by
  obtain ⟨c, hc, _⟩ := h
  have e : D.1 (x + 0) = some (fx Γ x c 0) := hc.1.1 0 (Or.inl (by omega))
  rw [Nat.add_zero] at e
  have e2 : (LM Γ x D g' f).1 x = some (fx Γ x c 0) := by
    unfold LM ov
    dsimp only
    rw [e]
  exact ⟨_, e2⟩
theorem LM_mo {Γ : nx_G} {x : Nat} {D : nx_M} (h : fr19 x D) (g : mS) (f : Nat → Int64) : (LM Γ x D g f).1 (x + 19) = some (.inr (8, mfl (x + 19) g)) := by
  rw [LM_n h (Nat.le_refl _) (by omega)]
  unfold lwM
  rw [if_pos rfl]
section LAWR
variable {Γ : nx_G} {X : nx_X} {nm : String} {Z : nx_Z} {α : Type} {C : α → nx_C} {pc q : Nat} {ls : List (Option Value)} {st stk : List Value} {M : nx_M} {o : Option α} {b L x j A B : Nat} {xs : Nat → Int32} {D D' : nx_M} {g g' : mS} {f : Nat → Int64}
theorem J_no {Y : nx_Y} {cf : nx_C} : nx_J Γ X Y Z C cf (none : Option α) := fun _ h => nomatch h
theorem x_ald1 {Y : nx_Y} {i v : Int32} (hx : scK Γ X b L xs) (hv : nx_rd L xs i = some v) (d : decode Y.2.1 pc = .ok (.iaload, 1)) (hq : pc + 1 = q) (k : nx_J Γ X Y Z C (.inl (q, ls, .int v :: st, M)) o) : nx_J Γ X Y Z C (.inl (pc, ls, .int i :: .ref b :: st, M)) o := by
  have h := x_ald (C := C) (i := i) (g := fun w => if w = v then o else none) (st := st) (ls := ls) (M := M) (Z := Z) hx d hq (fun w => by
    by_cases e : w = v
    · subst e
      rw [if_pos rfl]
      exact k
    · rw [if_neg e]
      exact J_no)
  rw [hv] at h
  have e2 : (some v).bind (fun w => if w = v then o else none) = o := by
    show (if v = v then o else none) = o
    rw [if_pos rfl]
  rw [e2] at h
  exact h
theorem Lrd_at {k : Nat} (hj : 6 * j + 6 ≤ L) (hL : L ≤ 3072) (hk : k < 6) : nx_rd L xs (ii j + iz (k : Int)) = some (xs (6 * j + k)) := by
  have e : ii j + iz (k : Int) = iz ((6 * j + k : Nat) : Int) := by
    show iz _ + iz _ = _
    rw [iz_add]
    exact congrArg iz (by omega)
  rw [e]
  unfold nx_rd
  rw [iz_clamp (by omega), if_neg]
  rintro (h | h)
  · exact iz_nn (by omega) h
  · omega
theorem L_arg {k : Nat} (hx : scK Γ X b L xs) (hj : 6 * j + 6 ≤ L) (hL : L ≤ 3072) (hk : k < 6) (d : argD pc (k : Int)) (h0 : ls[0]? = some (some (.ref b))) (h4 : ls[4]? = some (some (.int (ii j)))) (hq : pc + 6 = q) (kk : nx_J Γ X (YL nm) Z C (.inl (q, ls, .int (xs (6 * j + k)) :: st, M)) o) : nx_J Γ X (YL nm) Z C (.inl (pc, ls, st, M)) o := by
  subst hq
  refine nx_aload_n (k := 0) h0 d.1 rfl ?_
  refine nx_iload h4 d.2.1 rfl ?_
  refine nx_iconst d.2.2.1 rfl ?_
  refine nx_iadd d.2.2.2.1 rfl ?_
  exact x_ald1 hx (Lrd_at hj hL hk) d.2.2.2.2 rfl kk
/-- a call of the class -/
theorem L_cc {y' : MethodName} {cc' : ByteArray} {nL' d' idx n : Nat} {ret' : Option FieldType} {r : Int32} {a : α} (As : List Value) (cw : nx_CW RL idx y' cc' nL' ret' n) (cv : nx_CV y' 7) (hct : nx_Ct X.2.1 Γ d' y' cc' nL' ret' (.ref x :: As) (ov (lwM Γ x g f) D) (some (.int r), ov (lwM Γ x g f) D')) (hI : INV Γ x A B D g)
    (hn : As.length = n) (hs : stk = As.reverse ++ [.ref x]) (hd : d' + 1 ≤ 2048) (d : decode code pc = .ok (.invokevirtual idx, 3)) (hq : pc + 3 = q)
    (k : nx_J Γ X (YL nm) Z C (.inl (q, ls, [.int r], LM Γ x D' g f)) (some a)) : nx_J Γ X (YL nm) Z C (.inl (pc, ls, stk, LM Γ x D g f)) (some a) := by
  obtain ⟨fs, hob⟩ := hI.ob g f
  exact nx_callV (oc := some ()) (kk := fun _ => some a) (out := fun _ => (some (.int r), LM Γ x D' g f)) (b := x) (ci := 7) (fs := fs) (st := []) As cw cv (fun _ _ => hct) hob hn hs (Nat.le_of_ble_eq_true rfl) hd d hq (fun _ => k)
/-- a call of the Model -/
theorem L_cm {y' : MethodName} {cc' : ByteArray} {nL' d' idx n : Nat} {ret' : Option FieldType} {r : Int32} {a : α} (As : List Value) (cw : nx_CW RL idx y' cc' nL' ret' n) (cv : nx_CV y' 8) (hct : nx_Ct X.2.1 Γ d' y' cc' nL' ret' (.ref (x + 19) :: As) (mW Γ (LM Γ x D g f) (x + 19) g) (some (.int r), mW Γ (LM Γ x D g f) (x + 19) g')) (hfr : fr19 x D)
    (hn : As.length = n) (hs : stk = As.reverse ++ .ref (x + 19) :: st) (hW : (st.map fun v => v.category).sum ≤ 8) (hd : d' + 1 ≤ 2048) (d : decode code pc = .ok (.invokevirtual idx, 3)) (hq : pc + 3 = q)
    (k : nx_J Γ X (YL nm) Z C (.inl (q, ls, .int r :: st, LM Γ x D g' f)) (some a)) : nx_J Γ X (YL nm) Z C (.inl (pc, ls, stk, LM Γ x D g f)) (some a) := by
  rw [LM_m hfr, LM_m hfr] at hct
  exact nx_callV (oc := some ()) (kk := fun _ => some a) (out := fun _ => (some (.int r), LM Γ x D g' f)) (b := x + 19) (ci := 8) (fs := mfl (x + 19) g) (st := st) As cw cv (fun _ _ => hct) (LM_mo hfr g f) hn hs hW hd d hq (fun _ => k)
/-- the two answers are the same -/
theorem L_eq {r : Int32} {off : Int} {t : Nat} (d : decode code pc = .ok (.if_icmp .eq off, 3)) (ht : (pc : Int) + off = (t : Int)) (k : nx_J Γ X (YL nm) Z C (.inl (t, ls, st, M)) o) : nx_J Γ X (YL nm) Z C (.inl (pc, ls, .int r :: .int r :: st, M)) o := by
  have h := nx_icmp_eq (C := C) (x := r) (y := r) (Y := YL nm) (o1 := o) (o2 := none) d ht (q := pc + 3) rfl k J_no
  rw [if_pos rfl] at h
  exact h
/-- the law's seat -/
theorem L_seat {q' : Option Value × nx_M} {a : α} {As : List Value} (hTh : nx_Th Γ (nx_s X)) (hct : nx_CtW X.2.1 Γ As M q') (hn : As.length = 4) (hs : stk = As.reverse ++ st) (hW : (st.map fun v => v.category).sum ≤ 8) (d : decode code pc = .ok (.invokestatic 42, 3)) (hq : pc + 3 = q)
    (k : nx_J Γ X (YL nm) Z C (.inl (q, ls, q'.1.toList ++ st, q'.2)) (some a)) : nx_J Γ X (YL nm) Z C (.inl (pc, ls, stk, M)) (some a) := by
  subst hq
  refine nx_call (oc := some ()) (kk := fun _ => some a) (out := fun _ => q') (fun _ _ => hct.1) (fun K r e g1 g2 z1 z2 H locs Lv hH hl hL => ?_) (fun _ => k)
  obtain ⟨⟨m1, m2⟩, hM⟩ := hct
  rw [nx_qca (b := As.toArray)]
  obtain ⟨hx, hb, hr, hlk, hml, hown, hnm, hts, hE, hR, hQ⟩ := K
  have hpre : PreS (nx_s X) H (nx_PcT Γ As M) As := ⟨nx_blindT, fun U hU hWm => ⟨⟨rfl, by rw [hU]; exact hH, hE.warm hWm⟩, hTh.warm hWm⟩⟩
  have c1 : (nx_rm 12 M q'.2).frames + 1 ≤ (nx_R X).frames := by rw [hR]; exact Nat.le_of_ble_eq_true rfl
  have c2 : 8 + (5 + 11) + (nx_rm 12 M q'.2).locals ≤ (nx_R X).locals := by rw [hR]; exact Nat.le_of_ble_eq_true rfl
  have c3 : M.2.1 - Z.1.2.1 + (q'.2.2.1 - M.2.1) ≤ (nx_R X).cells ∧ M.2.2 - Z.1.2.2 + (q'.2.2.2 - M.2.2) ≤ (nx_R X).slots := by
    rw [hR]
    show _ ≤ Z.2.2.2.1 - Z.1.2.1 ∧ _ ≤ Z.2.2.2.2 - Z.1.2.2
    omega
  exact vx_runSW (Ts := nx_TB) (own := RL) (nL := 7) (hh := hhS) (bytes := cL_seat) (maxL := 5) (ret := some .int) (n := 4) ⟨hx, hb, hml, hown, hts⟩ hM ⟨⟨rfl, rfl, c1, c2, wsW9 hts wl_1061, List.mem_cons_self⟩, hts _ wl_1061, hts _ wl_191, ⟨by decide +kernel, by decide +kernel⟩, nx_plen (by decide +kernel), hts _ wl_1059, hts _ wl_1060⟩ hpre rfl hn hL.1 hs (nx_catW hW) d c3
/-- the switch -/
theorem L_in {dflt : Int} {offs : Array Int} {len c t : Nat} {off : Int} (d : decode code pc = .ok (.tableswitch dflt 0 37 offs, len)) (hc : c < 38) (ho : offs[c]? = some off) (ht : (pc : Int) + off = (t : Int)) (k : nx_J Γ X (YL nm) Z C (.inl (t, ls, st, M)) o) : nx_J Γ X (YL nm) Z C (.inl (pc, ls, .int (iz (c : Int)) :: st, M)) o := by
  have e : (iz (c : Int)).toInt = (c : Int) := iz_toInt (by omega) (by omega)
  exact nx_lift (fun K H locs Lv n k' _ hL w => lv_tableIn K.1 K.2.1 d (by rw [e]; omega) (by rw [e]; omega) (by
    rw [e]
    have e2 : ((c : Int) - 0).toNat = c := by omega
    rw [e2]
    exact ho) ht w) k
theorem L_out {dflt : Int} {offs : Array Int} {len t : Nat} {v : Int32} (d : decode code pc = .ok (.tableswitch dflt 0 37 offs, len)) (hv : 37 < v.toInt) (ht : (pc : Int) + dflt = (t : Int)) (k : nx_J Γ X (YL nm) Z C (.inl (t, ls, st, M)) o) : nx_J Γ X (YL nm) Z C (.inl (pc, ls, .int v :: st, M)) o :=
  nx_lift (fun K H locs Lv n k' _ hL w => lv_tableOut K.1 K.2.1 d (Or.inr hv) ht w) k
end LAWR
