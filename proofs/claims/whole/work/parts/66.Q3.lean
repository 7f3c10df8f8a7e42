/-! ===== what else holds of every state: stamps, log, deeds ===== -/
def vE (e : De) : Prop := ∃ a b c : Nat, a < 8 ∧ b ≤ 8 ∧ c ≤ 20000 ∧ e = (nI a, nI b - nI 1, nI c - nI 2)
def lgV (T : ET) : Prop := ∀ e ∈ tLg T, vE e
def stV (T : ET) : Prop := ∀ s, s < 8 → ∃ n, n ≤ 9999 ∧ tSd T 1 s = nI n
theorem vE_of {a s : Nat} {x : Int32} (ha : a < 8) (hs : s < 8) (h1 : -2 ≤ x.toInt) (h2 : x.toInt ≤ 19998) : vE (nI a, nI s, x) := by
  refine ⟨a, s + 1, (x.toInt + 2).toNat, ha, by omega, by omega, ?_⟩
  have e2 : x = nI (x.toInt + 2).toNat - nI 2 := by
    rw [← iz_cast, ← iz_cast, iz_sub, Int.toNat_of_nonneg (by omega)]
    rw [show x.toInt + 2 - ((2 : Nat) : Int) = x.toInt by omega]
    unfold iz
    exact (Int32.ofInt_toInt x).symm
  rw [decI, ← e2]
theorem vE_n {a s n : Nat} (ha : a < 8) (hs : s < 8) (hn : n ≤ 9999) : vE (nI a, nI s, nI n) := vE_of ha hs (by rw [toI (by omega)]; omega) (by rw [toI (by omega)]; omega)
theorem vE_m1 {c : Nat} (hc : c ≤ 9999) : vE (nI 6, iz (-1), nI c) := by
  refine ⟨6, 0, c + 2, by omega, by omega, by omega, ?_⟩
  rw [zero_dec, subI (by omega), show c + 2 - 2 = c by omega]
theorem vE_m2 {a s : Nat} (ha : a < 8) (hs : s < 8) : vE (nI a, nI s, iz (-2)) := vE_of ha hs (by decide +kernel) (by decide +kernel)
theorem lgV.note {T : ET} (h : lgV T) {e : De} (he : vE e) : lgV (noteT T e) := by
  intro x hx
  have hx : x ∈ pushL (tLg T) e := hx
  unfold pushL at hx
  split at hx
  · rcases List.mem_append.mp hx with h1 | h1
    · exact h x (List.mem_of_mem_tail h1)
    · rw [List.mem_singleton.mp h1]; exact he
  · rcases List.mem_append.mp hx with h1 | h1
    · exact h x h1
    · rw [List.mem_singleton.mp h1]; exact he
/-- from one state to another: who was there stays, stamps and log stay good -/
def stp (T T' : ET) : Prop := (∀ o, tSd T' 0 o = nI 0 → tSd T 0 o = nI 0) ∧ (stV T → lgV T → stV T' ∧ lgV T')
theorem stp.rf {T : ET} : stp T T := ⟨fun _ h => h, fun a b => ⟨a, b⟩⟩
theorem stp.tr {A B C : ET} (h : stp A B) (h2 : stp B C) : stp A C := ⟨fun o ho => h.1 o (h2.1 o ho), fun a b => h2.2 (h.2 a b).1 (h.2 a b).2⟩
theorem stp.note {T : ET} {e : De} (he : stV T → vE e) : stp T (noteT T e) := ⟨fun _ h => h, fun a b => ⟨a, b.note (he a)⟩⟩
theorem stp.of {T T' : ET} (h0 : ∀ o, tSd T' 0 o = nI 0 → tSd T 0 o = nI 0) (h1 : ∀ o, tSd T' 1 o = tSd T 1 o) (h2 : tLg T' = tLg T) : stp T T' := ⟨h0, fun a b => ⟨fun s hs => by rw [h1]; exact a s hs, fun e he => b e (h2 ▸ he)⟩⟩
theorem stp.fall1 {T : ET} {s : Nat} (hs : s < 8) : stp T (fall1T T s) := by
  unfold fall1T
  refine stp.tr (B := dropA (sSd (sSd T 0 s (nI 4)) 3 s (nI 0)) s 6) (stp.of (fun o ho => ?_) (fun o => ?_) rfl) ⟨fun _ h => h, fun a b => ⟨a, b.note ?_⟩⟩
  · have ho : (if 0 = 3 ∧ o = s then nI 0 else if 0 = 0 ∧ o = s then nI 4 else tSd T 0 o) = nI 0 := ho
    rw [if_neg (by omega)] at ho
    split at ho
    · exact absurd ho n4
    · exact ho
  · show (if 1 = 3 ∧ o = s then nI 0 else if 1 = 0 ∧ o = s then nI 4 else tSd T 1 o) = _
    rw [if_neg (by omega), if_neg (by omega)]
  · obtain ⟨n, hn, e⟩ := a s hs
    have e : (if 1 = 3 ∧ s = s then nI 0 else if 1 = 0 ∧ s = s then nI 4 else tSd T 1 s) = nI n := e
    rw [if_neg (by omega), if_neg (by omega)] at e
    rw [e]
    exact vE_n (by omega) hs hn
theorem stp.flN : ∀ (n : Nat) {T : ET} {s : Nat}, s < 8 → stp T (fallN n T s).1 := by
  intro n
  induction n with
  | zero => intro T s _; exact stp.rf
  | succ n ih =>
    intro T s hs
    have h1 := stp.fall1 (T := T) hs
    unfold fallN
    cases e : leT (fall1T T s) with
    | none => exact h1
    | some s' => exact h1.tr (ih (fst_some e).1)
theorem stp.fall {T : ET} {s : Nat} (hs : s < 8) : stp T (fallT T s) := stp.flN 8 hs
theorem stp.sure1 {T : ET} {s : Nat} (hs : s < 8) : stp T (sure1T T s) := by
  refine stp.tr (B := clA (msA (sSd T 0 s (nI 3)) s 6) s 8) (stp.of (fun o ho => ?_) (fun o => ?_) rfl) ⟨fun _ h => h, fun a b => ⟨a, b.note ?_⟩⟩
  · have ho : (if 0 = 3 ∧ o < 8 then (sSd T 0 s (nI 3)).1 3 o &&& (bitA s ^^^ iz (-1)) else if 0 = 0 ∧ o = s then nI 3 else tSd T 0 o) = nI 0 := ho
    rw [if_neg (by omega)] at ho
    split at ho
    · exact absurd ho n3
    · exact ho
  · show (if 1 = 3 ∧ o < 8 then (sSd T 0 s (nI 3)).1 3 o &&& (bitA s ^^^ iz (-1)) else if 1 = 0 ∧ o = s then nI 3 else tSd T 1 o) = _
    rw [if_neg (by omega), if_neg (by omega)]
  · obtain ⟨n, hn, e⟩ := a s hs
    have e : (if 1 = 3 ∧ s < 8 then (sSd T 0 s (nI 3)).1 3 s &&& (bitA s ^^^ iz (-1)) else if 1 = 0 ∧ s = s then nI 3 else tSd T 1 s) = nI n := e
    rw [if_neg (by omega), if_neg (by omega)] at e
    rw [e]
    exact vE_n (by omega) hs hn
theorem WF.l9 {R : ER} {T : ET} (h : WF R T) {k : Nat} (hk : k < 6) : (tVs T k).length ≤ 9 := by
  obtain ⟨m, m2, m9, e1, e2⟩ := most_of h.1
  have := h.2.1.2.2.2.2.2.2 k hk
  omega
theorem prC_le {T : ET} {x : Int32} (h : ∀ k, k < 6 → (tVs T k).length ≤ 9) : ∀ n, n ≤ 6 → prC T x n ≤ 9 * n := by
  intro n
  induction n with
  | zero => intro _; exact Nat.le_refl _
  | succ n ih =>
    intro hn
    have := h n (by omega)
    have := ih (by omega)
    show prC T x n + _ ≤ _
    omega
theorem stp.prune {R : ER} {T : ET} (h : WF R T) : stp T (pruneT T) := by
  have := prC_le (x := flT T) (fun k hk => h.l9 hk) 6 (by omega)
  exact stp.tr (B := prA (sFl T (flT T)) (flT T) 6) (stp.of (fun _ ho => ho) (fun _ => rfl) rfl) (stp.note (fun _ => vE_m1 (by omega)))
theorem stp.step {R : ER} {T : ET} (h : WF R T) {s : Nat} (hs : s < 8) (hl : lvT T s = true) (hd : tSd T 3 s = nI 0) : stp T (stepS R T s) := by
  unfold stepS
  split
  · split
    · exact (stp.sure1 hs).tr (stp.prune (h.sure1 hs hl hd))
    · exact stp.sure1 hs
  · exact stp.fall hs
theorem stp.suN {R : ER} : ∀ (n : Nat) {T : ET} {s : Nat}, WF R T → s < 8 → lvT T s = true → tSd T 3 s = nI 0 → stp T (sureN R n T s) := by
  intro n
  induction n with
  | zero => intro T s _ _ _ _; exact stp.rf
  | succ n ih =>
    intro T s h hs hl hd
    have h1 := stp.step h hs hl hd
    unfold sureN
    cases e : rdyT (stepS R T s) with
    | none => exact h1
    | some s' =>
      obtain ⟨a, b, c⟩ := rdyT_some e
      exact h1.tr (ih (h.step hs hl hd) a b c)
theorem stp.wait {T : ET} {s : Nat} (hs : s < 8) : stp T (waitT T s) := by
  refine stp.tr (B := sSd T 0 s (nI 2)) (stp.of (fun o ho => ?_) (fun o => ?_) rfl) ⟨fun _ h => h, fun a b => ⟨a, b.note ?_⟩⟩
  · have ho : (if 0 = 0 ∧ o = s then nI 2 else tSd T 0 o) = nI 0 := ho
    split at ho
    · exact absurd ho n2
    · exact ho
  · show (if 1 = 0 ∧ o = s then nI 2 else tSd T 1 o) = _
    rw [if_neg (by omega)]
  · obtain ⟨n, hn, e⟩ := a s hs
    have e : (if 1 = 0 ∧ s = s then nI 2 else tSd T 1 s) = nI n := e
    rw [if_neg (by omega)] at e
    rw [e]
    exact vE_n (by omega) hs hn
theorem stp.commit {R : ER} {T : ET} (h : WF R T) {s : Nat} (hs : s < 8) (hl : lvT T s = true) : stp T (commitT R T s).1 := by
  unfold commitT
  split
  · split
    · next hd => exact (stp.wait hs).tr (stp.suN 8 (h.wait hs hl) hs (by rw [wait_lv hl]; exact hl) (by rw [wait_sd, if_neg (by omega)]; exact hd))
    · exact stp.wait hs
  · exact stp.fall hs
theorem stp.leave {T : ET} {s k i : Nat} : stp T (leaveT T s k i) := by
  refine stp.of (fun o ho => ?_) (fun o => ?_) ?_
  · unfold leaveT at ho
    split at ho
    · rw [doomT_sd.1 (by omega)] at ho; exact ho
    · split at ho
      · exact ho
      · rw [g_sd, if_neg (by omega)] at ho; exact ho
  · unfold leaveT
    split
    · rw [doomT_sd.1 (by omega)]; rfl
    · split
      · rfl
      · rw [g_sd, if_neg (by omega)]; rfl
  · show (leaveT T s k i).2.2.2.2.2.2.1 = _
    rw [leaveT_vs]
    rfl
theorem usd_n {R : ER} {T : ET} (h : WF R T) {x : Int32} (hu : usd R T x) : ∃ n, n ≤ 9999 ∧ x = nI n := by
  have h1 := h.2.2.2.2.1
  obtain ⟨a, ha, e⟩ := inR_of (x := x) (b := 10000) (by
    unfold inR
    rw [decide_eq_true_eq]
    exact ⟨hu.1, by have := hu.2.1; omega⟩)
  exact ⟨a, by omega, e⟩
theorem stp.read {R : ER} {T : ET} (h : WF R T) {s k i : Nat} (hs : s < 8) (hk : k < 6) (hi : i < (tVs T k).length) : stp T (readT T s k i) := by
  obtain ⟨n, hn, e⟩ := usd_n h (h.2.1.2.2.2.2.2.1 k i hk hi).1
  unfold readT
  rw [e]
  refine stp.tr ?_ (stp.note (fun _ => vE_n (by omega) hs hn))
  split
  · exact stp.rf
  · exact stp.leave
theorem rdI_lt {T : ET} {s k i : Nat} (h : rdI T s k = some i) : i < (tVs T k).length := (lst_some h).1
theorem stp.rdA {R : ER} {T : ET} (h : WF R T) {s k : Nat} (hs : s < 8) (hk : k < R.1) (hl : lvT T s = true) : stp T (readA T s k) := by
  obtain ⟨i, hi⟩ := h.rd hs hk hl
  unfold readA
  rw [hi]
  exact stp.read h hs (by have := h.1.2.1; omega) (rdI_lt hi)
theorem stp.write {T : ET} {s k : Nat} (hs : s < 8) (v : Int32) : stp T (writeT T s k v).1 := by
  unfold writeT
  split
  · exact (stp.note (fun _ => vE_m2 (by omega) hs)).tr (stp.fall hs)
  · cases owI T k s with
    | none => exact stp.tr (B := addT T s k v) (stp.of (fun _ ho => ho) (fun _ => rfl) rfl) (stp.note (fun _ => vE_n (by omega) hs (by omega)))
    | some i => exact stp.tr (B := wrV T k i v) (stp.of (fun _ ho => ho) (fun _ => rfl) rfl) (stp.note (fun _ => vE_n (by omega) hs (by omega)))
theorem stp.enter {T : ET} {s n : Nat} (hs : s < 8) (hn : n ≤ 9999) (w : Int32) : stp T (enterT T s w (nI n)) := by
  refine stp.tr (B := seatT T s w (nI n)) ⟨fun o ho => ?_, fun a b => ⟨fun o ho => ?_, b⟩⟩ (stp.note (fun _ => vE_n (by omega) hs hn))
  · rw [seat_sd] at ho
    split at ho
    · exact absurd ho i10
    · exact ho
  · rw [seat_sd]
    split
    · exact ⟨n, hn, rfl⟩
    · exact a o ho
theorem ck_le {R : ER} {T : ET} (h : WF R T) (hc : tCk T + R.2.2.2 ≤ nI 9999) : (tCk T).toInt + R.2.2.2.toInt ≤ 9999 := by
  obtain ⟨d, d2, d20, e1, e2⟩ := strd_of h.1
  have h1 := h.2.2.2.1
  have h2 := h.2.2.2.2.1
  rw [Int32.le_iff_toInt_le, toI (by omega), add_toInt (by omega) (by omega)] at hc
  exact hc
theorem stp.opn {R : ER} {T : ET} (h : WF R T) {s : Nat} (hs : s < 8) (w : Int32) (hc : tCk T + R.2.2.2 ≤ nI 9999) : stp T (openT R T s w) := by
  have h1 := h.2.2.2.1
  have hc' := ck_le h hc
  obtain ⟨d, d2, d20, e1, e2⟩ := strd_of h.1
  have e := add_toInt (a := tCk T) (b := R.2.2.2) (by omega) (by omega)
  obtain ⟨n, hn, en⟩ := inR_of (x := tCk T + R.2.2.2) (b := 10000) (by
    unfold inR
    rw [decide_eq_true_eq, e]
    omega)
  unfold openT
  rw [en]
  exact stp.tr (B := tickT R T) (stp.of (fun _ ho => ho) (fun _ => rfl) rfl) (stp.enter hs (by omega) w)
theorem stp.re1 {R : ER} {T : ET} (h : WF R T) {s : Nat} (hs : s < 8) (hl : lvT T s = true) {d : De} (hd : vD R d) : stp T (redo1 R T s d).1 := by
  obtain ⟨a, k, b, ha, hk, hb, rfl⟩ := hd
  have h6 := h.1.2.1
  unfold redo1
  rw [nI_back (by omega)]
  split
  · exact stp.rdA h hs hk hl
  · split
    · exact stp.rf
    · exact stp.write hs _
theorem stp.reN {R : ER} {s : Nat} (hs : s < 8) : ∀ (ds : List De) {T : ET}, WF R T → lvT T s = true → (∀ d ∈ ds, vD R d) → stp T (redoN R s ds T).1 := by
  intro ds
  induction ds with
  | nil => intro T _ _ _; exact stp.rf
  | cons d ds ih =>
    intro T h hl hd
    have h1 := stp.re1 h hs hl (hd d List.mem_cons_self)
    have h2 := redo1_ok h hs hl (hd d List.mem_cons_self)
    unfold redoN
    split
    · next c => exact h1.tr (ih h2.1 (h2.2 c) (fun d' hd' => hd d' (List.mem_cons_of_mem _ hd')))
    · exact h1
/-- all that holds of a state with its deeds -/
def EI (R : ER) (D : Nat → List De) (T : ET) : Prop := WF R T ∧ WD R D ∧ (∀ s, s < 8 → tSd T 0 s = nI 0 → D s = []) ∧ stV T ∧ lgV T
theorem lv_nz {T : ET} {s : Nat} (h : tSd T 0 s = nI 0) : lvT T s = false := by
  unfold lvT
  rw [h]
  decide +kernel
theorem EI.of {R : ER} {D D' : Nat → List De} {T T' : ET} (h : EI R D T) (hW : WF R T') (hs : stp T T') (hD : WD R D') (hz : ∀ s, s < 8 → tSd T' 0 s = nI 0 → D' s = D s ∨ D' s = []) : EI R D' T' := by
  obtain ⟨h1, h2, h3, h4, h5⟩ := h
  have h6 := hs.2 h4 h5
  refine ⟨hW, hD, fun s hs1 ho => ?_, h6.1, h6.2⟩
  rcases hz s hs1 ho with e | e
  · rw [e]; exact h3 s hs1 (hs.1 s ho)
  · exact e
theorem WD.set {R : ER} {D : Nat → List De} (h : WD R D) {s : Nat} {l : List De} (hl : ∀ d ∈ l, vD R d) : WD R (setD D s l) := by
  intro o ho d hd
  unfold setD at hd
  split at hd
  · exact hl d hd
  · exact h o ho d hd
theorem WD.add {R : ER} {D : Nat → List De} (h : WD R D) {s : Nat} (hs : s < 8) {d : De} (hd : vD R d) : ∀ x ∈ deedL (D s) d, vD R x := by
  intro x hx
  unfold deedL at hx
  split at hx
  · rcases List.mem_append.mp hx with h1 | h1
    · exact h s hs x h1
    · rw [List.mem_singleton.mp h1]; exact hd
  · exact h s hs x hx
theorem frS_ok {R : ER} {T : ET} (hW : WF R T) {x : Int32} (h : frS R T x = true) : (tFl T).toInt < x.toInt ∧ x.toInt < (tCk T).toInt ∧ ¬ R.2.2.2.toInt ∣ x.toInt ∧ x ∉ tHd T := by
  obtain ⟨d, d2, d20, e1, e2⟩ := strd_of hW.1
  obtain ⟨c1, c2, c3, c4, c5, c6⟩ := hW.2.2.2
  unfold frS at h
  rw [Bool.and_eq_true, decide_eq_true_eq] at h
  obtain ⟨⟨a1, a2, a3⟩, a4⟩ := h
  have b1 : (tFl T).toInt < x.toInt := by
    rw [Int32.le_iff_toInt_le] at a1; omega
  have b2 : x.toInt < (tCk T).toInt := by
    rw [Int32.le_iff_toInt_le] at a2; omega
  refine ⟨b1, b2, fun hd => a3 ?_, hdI_none (by simpa using a4)⟩
  obtain ⟨n, hn, en⟩ := inR_of (x := x) (b := 10000) (by
    unfold inR
    rw [decide_eq_true_eq]
    omega)
  rw [e2, en, toI (by omega)] at hd
  rw [en, e1, pk_rem (by omega) (by omega) (by omega)]
  congr 1
  exact Nat.mod_eq_zero_of_dvd (Int.natCast_dvd_natCast.mp hd)
theorem vD1 {R : ER} {k : Nat} (hk : k < R.1) : vD R (nI 1, nI k, iz (-1)) := ⟨1, k, 0, Or.inl rfl, hk, by omega, by rw [zero_dec]⟩
theorem vD2 {R : ER} {k v : Nat} (hk : k < R.1) (hv : v < 100) : vD R (nI 2, nI k, nI v) := ⟨2, k, v + 1, Or.inr rfl, hk, by omega, by rw [decI]⟩
theorem EI.act {R : ER} {D : Nat → List De} {T : ET} (h : EI R D T) {kd : Nat} (hk : kd < 7) {a b c : Int32} (hr : refT R T kd a b c = iz (-1)) : EI R (actD D kd a b c) (actT R T kd a b c).1 := by
  have hW := h.1
  have h6 := hW.1.2.1
  have hD := h.2.1
  obtain rfl | rfl | rfl | rfl | rfl | rfl | rfl : kd = 0 ∨ kd = 1 ∨ kd = 2 ∨ kd = 3 ∨ kd = 4 ∨ kd = 5 ∨ kd = 6 := by omega
  · obtain ⟨s, hs, rfl, hb, hl, hc⟩ := ref0 hr
    show EI R (setD D (nI s).toInt.toNat []) (openT R T (nI s).toInt.toNat b)
    rw [nI_back (by omega)]
    refine h.of (hW.opn hs hl b (ck_le hW hc)) (stp.opn hW hs b hc) (hD.set (fun d hd => by cases hd)) (fun o _ ho => ?_)
    unfold setD
    split
    · exact Or.inr rfl
    · exact Or.inl rfl
  · obtain ⟨s, k, hs, hk1, rfl, rfl, h1⟩ := ref1 hr
    show EI R (setD D (nI s).toInt.toNat (deedL (D (nI s).toInt.toNat) (nI 1, nI k, iz (-1)))) (readA T (nI s).toInt.toNat (nI k).toInt.toNat)
    rw [nI_back (by omega), nI_back (by omega)]
    obtain ⟨i, hi⟩ := hW.rd hs hk1 (lv1 h1)
    have hst := stp.rdA hW hs hk1 (lv1 h1)
    refine h.of ?_ hst (hD.set (hD.add hs (vD1 hk1))) (fun o _ ho => ?_)
    · unfold readA
      rw [hi]
      exact hW.read hs hk1 (lv1 h1) hi
    · unfold setD
      split
      · next e =>
        have := hst.1 o ho
        rw [e, h1] at this
        exact absurd this i10
      · exact Or.inl rfl
  · obtain ⟨s, k, v, hs, hk1, hv, rfl, rfl, rfl, h1, hf⟩ := ref2 h6 hr
    show EI R (setD D (nI s).toInt.toNat (deedL (D (nI s).toInt.toNat) (nI 2, nI k, nI v))) (writeT T (nI s).toInt.toNat (nI k).toInt.toNat (nI v)).1
    rw [nI_back (by omega), nI_back (by omega)]
    have hst := stp.write (T := T) (k := k) hs (nI v)
    refine h.of (hW.write hs hk1 (lv1 h1) hf (nI v)) hst (hD.set (hD.add hs (vD2 hk1 hv))) (fun o _ ho => ?_)
    unfold setD
    split
    · next e =>
      have := hst.1 o ho
      rw [e, h1] at this
      exact absurd this i10
    · exact Or.inl rfl
  · obtain ⟨s, hs, rfl, h1⟩ := ref3 hr
    show EI R D (commitT R T (nI s).toInt.toNat).1
    rw [nI_back (by omega)]
    exact h.of (hW.commit hs (lv1 h1)) (stp.commit hW hs (lv1 h1)) hD (fun o _ _ => Or.inl rfl)
  · obtain ⟨s, hs, rfl, h1⟩ := ref4 hr
    show EI R D (fallT T (nI s).toInt.toNat)
    rw [nI_back (by omega)]
    exact h.of (hW.fall hs h1) (stp.fall hs) hD (fun o _ _ => Or.inl rfl)
  · exact h.of hW.prune (stp.prune hW) hD (fun o _ _ => Or.inl rfl)
  · obtain ⟨s, hs, rfl, hb, hl, hc, h30⟩ := ref6 hr
    show EI R (setD D (nI s).toInt.toNat []) (openAtT T (nI s).toInt.toNat b c)
    rw [nI_back (by omega)]
    obtain ⟨q1, q2, q3, q4⟩ := frS_ok hW hc
    obtain ⟨c1, c2, c3, c4, c5, c6⟩ := hW.2.2.2
    obtain ⟨n, hn, en⟩ := inR_of (x := c) (b := 10000) (by
      unfold inR
      rw [decide_eq_true_eq]
      omega)
    refine h.of (hW.openAt hs hl b q1 q2 q3 q4 h30) ?_ (hD.set (fun d hd => by cases hd)) (fun o _ ho => ?_)
    · unfold openAtT
      rw [en]
      exact stp.tr (B := handT T (nI n)) (stp.of (fun _ ho => ho) (fun _ => rfl) rfl) (stp.enter hs (by omega) b)
    · unfold setD
      split
      · exact Or.inr rfl
      · exact Or.inl rfl
theorem n41 : ¬ (nI 4 = nI 1) := by decide +kernel
theorem lv4 {T : ET} {s : Nat} (h : tSd T 0 s = nI 4) : lvT T s = false := by
  unfold lvT
  rw [h]
  decide +kernel
theorem EI.retry {R : ER} {D : Nat → List De} {T : ET} (h : EI R D T) {s : Nat} (hs : s < 8) (h4 : tSd T 0 s = nI 4) (hc : tCk T + R.2.2.2 ≤ nI 9999) : EI R D (retryT R T s (D s)).1 := by
  have hW := h.1
  have hl := lv4 h4
  have hd := h.2.1 s hs
  have hw1 := hW.opn hs hl (tSd T 2 s) (ck_le hW hc)
  exact h.of (WF.redo hs (D s) hw1 open_lv hd) ((stp.opn hW hs _ hc).tr (stp.reN hs (D s) hw1 open_lv hd)) h.2.1 (fun o _ _ => Or.inl rfl)
