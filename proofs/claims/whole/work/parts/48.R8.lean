def spL (l : List Vr) (x : Int32) (i : Nat) : Bool := decide ((vG l i).2.2.2 = iz (-1)) && (suL l x).elim false (fun st => decide (i < st))
def prI (l : List Vr) (x : Int32) (n : Nat) : List Nat := (List.range n).filter (fun i => ! spL l x i)
def pruL (l : List Vr) (x : Int32) : List Vr := (prI l x l.length).map (vG l)
theorem prI_succ {l : List Vr} {x : Int32} {n : Nat} : prI l x (n + 1) = if spL l x n = true then prI l x n else prI l x n ++ [n] := by
  unfold prI
  rw [List.range_succ, List.filter_append]
  by_cases h : spL l x n = true <;> simp [h]
theorem prI_len {l : List Vr} {x : Int32} {n : Nat} : (prI l x n).length ≤ n := by
  unfold prI
  have := List.length_filter_le (fun i => ! spL l x i) (List.range n)
  rw [List.length_range] at this
  exact this
theorem prI_mem {l : List Vr} {x : Int32} {n j : Nat} (h : j ∈ prI l x n) : j < n := by
  unfold prI at h
  have := (List.mem_filter.mp h).1
  simpa using this
theorem pruL_len {l : List Vr} {x : Int32} : (pruL l x).length = (prI l x l.length).length := by
  unfold pruL
  rw [List.length_map]
theorem W_prune_loop {u : Nat} (hu : 1000 ≤ u) {R : ER} {w0 : Int32} {D : Nat → List De} {f : Nat → Int32} {T : ET} (h : RW R w0 D f T) {k : Nat} (hk : k < 6) (x : Int32) : ok (nx_iter u (fW_pruneKey_40 u (nI k) (nI (tVs T k).length) ((suL (tVs T k) x).elim (iz (-1)) (fun i => nI (k * 9 + i)))) (nI 0, nI 0, f)) (fun r => r.1 = nI (prI (tVs T k) x (tVs T k).length).length ∧ (∀ j, (∀ c, c < 4 → j < 238 + c * 54 + k * 9 ∨ 247 + c * 54 + k * 9 ≤ j) → r.2 j = f j) ∧ ∀ c m j, c < 4 → (prI (tVs T k) x (tVs T k).length)[m]? = some j → r.2 (238 + c * 54 + k * 9 + m) = f (238 + c * 54 + k * 9 + j)) := by
  have hl := h.l9 hk
  refine it_inv (fun i y => y.1 = nI (prI (tVs T k) x i).length ∧ y.2.1 = nI i ∧ (∀ j, (∀ c, c < 4 → j < 238 + c * 54 + k * 9 ∨ 247 + c * 54 + k * 9 ≤ j) → y.2.2 j = f j) ∧ (∀ c m j, c < 4 → (prI (tVs T k) x i)[m]? = some j → y.2.2 (238 + c * 54 + k * 9 + m) = f (238 + c * 54 + k * 9 + j)) ∧ ∀ c m, c < 4 → i ≤ m → m < 9 → y.2.2 (238 + c * 54 + k * 9 + m) = f (238 + c * 54 + k * 9 + m)) (tVs T k).length (fun i y hi hI => ?_) (fun y hI => ?_) (i := 0) ⟨rfl, rfl, fun _ _ => rfl, fun c m j hc hm => by simp [prI] at hm, fun _ _ _ _ _ => rfl⟩ (by omega) (by omega)
  · obtain ⟨e1, e2, hf, h3, h4⟩ := hI
    have hle := prI_len (l := tVs T k) (x := x) (n := i)
    have eo : y.2.2 (400 + k * 9 + i) = (vA T k i).2.2.2 := (h4 3 i (by omega) (Nat.le_refl _) (by omega)).trans (h.v4 hk hi)
    have key : (if (vA T k i).2.2.2 = iz (-1) then if ((suL (tVs T k) x).elim (iz (-1)) (fun i => nI (k * 9 + i))) ≤ nI (k * 9 + i) then some (nI 0) else some (nI 1) else some (nI 0) : Option Int32) = some (if spL (tVs T k) x i = true then nI 1 else nI 0) := by
      unfold spL
      have ev : vA T k i = vG (tVs T k) i := rfl
      rw [ev]
      cases es : suL (tVs T k) x with
      | none =>
        have : iz (-1) ≤ nI (k * 9 + i) := by rw [Int32.le_iff_toInt_le, toN1, toI (by omega)]; omega
        simp [this]
      | some st =>
        have hst : st < (tVs T k).length := (lst_some es).1
        have hq : (nI (k * 9 + st) ≤ nI (k * 9 + i)) = ¬ (i < st) := by rw [leI (by omega) (by omega)]; apply propext; omega
        simp only [Option.elim, hq]
        grind
    unfold fW_pruneKey_40
    simp (disch := omega) only [izN, nI_add, mulI, rdW, wrW, Option.bind_some, e1, e2, min9, leI, eo]
    rw [if_neg (by omega), key, Option.bind_some]
    by_cases c : spL (tVs T k) x i = true
    · rw [if_pos c, if_neg i10]
      refine ok.ret ⟨?_, rfl, hf, fun c' m j hc' hm => ?_, fun c' m hc' h1 h2 => h4 c' m hc' (by omega) h2⟩
      · show nI _ = nI _
        rw [prI_succ, if_pos c]
      · rw [prI_succ, if_pos c] at hm
        exact h3 c' m j hc' hm
    · rw [if_neg c, if_pos rfl, W_move (by omega) (by omega)]
      refine ok.ret ⟨?_, rfl, fun j hj => ?_, fun c' m j hc' hm => ?_, fun c' m hc' h1 h2 => ?_⟩
      · show nI _ = nI _
        rw [prI_succ, if_neg c, List.length_append, List.length_singleton]
      · show mvW _ _ _ _ = _
        rw [mvW_ko hk (by omega) (by omega) hj]
        exact hf j hj
      · show mvW _ _ _ _ = _
        rw [prI_succ, if_neg c] at hm
        rcases getE_snoc hm with ⟨a, b⟩ | ⟨a, b⟩
        · rw [mvW_kc hk (by omega) (by omega) hc' (by omega), if_neg (by omega)]
          exact h3 c' m j hc' b
        · rw [mvW_kc hk (by omega) (by omega) hc' (by omega), if_pos a, b]
          exact h4 c' i hc' (Nat.le_refl _) (by omega)
      · show mvW _ _ _ _ = _
        rw [mvW_kc hk (by omega) (by omega) hc' h2, if_neg (by omega)]
        exact h4 c' m hc' (by omega) h2
  · obtain ⟨e1, e2, hf, h3, h4⟩ := hI
    unfold fW_pruneKey_40
    simp (disch := omega) only [izN, nI_add, mulI, rdW, wrW, Option.bind_some, e1, e2, min9, leI]
    rw [if_pos (by omega)]
    exact ok.ret ⟨rfl, hf, h3⟩
theorem W_pruneKey {u : Nat} (hu : 1000 ≤ u) {R : ER} {w0 : Int32} {D : Nat → List De} {f : Nat → Int32} {T : ET} (h : RW R w0 D f T) {k : Nat} (hk : k < 6) : ok (fW_pruneKey u f (nI k)) (fun r => r.1 = nI ((tVs T k).length - (pruL (tVs T k) (tFl T)).length) ∧ RW R w0 D r.2 (sVs T k (pruL (tVs T k) (tFl T)))) := by
  have hl := h.l9 hk
  have hle := prI_len (l := tVs T k) (x := tFl T) (n := (tVs T k).length)
  unfold fW_pruneKey
  simp (disch := omega) only [izN, nI_add, mulI, rdW, wrW, Option.bind_some, h.mn, h.ff, W_lastSureSlot hu h hk]
  refine (W_prune_loop hu h hk (tFl T)).bd (fun r hr => ?_)
  obtain ⟨e1, hf, h3⟩ := hr
  simp (disch := omega) only [izN, nI_add, mulI, rdW, wrW, Option.bind_some, e1, min9, subI]
  refine ok.ret ⟨by rw [pruL_len], ?_⟩
  show RW R w0 D (upd r.2 (232 + k) (nI (prI (tVs T k) (tFl T) (tVs T k).length).length)) _
  refine h.vc hk (blkW.mk (by rw [pruL_len]; omega) (by rw [upd_s, pruL_len]) (fun c m v hc hm => ?_)) (fun j h0 hj => by rw [upd_n h0]; exact hf j hj)
  rw [upd_n (by omega)]
  unfold pruL at hm
  rw [List.getElem?_map] at hm
  cases ej : (prI (tVs T k) (tFl T) (tVs T k).length)[m]? with
  | none => rw [ej] at hm; cases hm
  | some j =>
    rw [ej] at hm
    have hj := prI_mem (List.mem_of_getElem? ej)
    rw [h3 c m j hc ej]
    cases hm
    exact (h.bb hk).c hc (vA_eq hj)
def prA (T : ET) (x : Int32) (n : Nat) : ET := (T.1, T.2.1, fun k => if k < n then pruL (T.2.2.1 k) x else T.2.2.1 k, T.2.2.2)
def prC (T : ET) (x : Int32) : Nat → Nat
  | 0 => 0
  | n + 1 => prC T x n + ((tVs T n).length - (pruL (tVs T n) x).length)
def flT (T : ET) : Int32 := maxI (tFl T) ((olN T 8).elim (tCk T) (fun o => tSd T 1 o))
def pruneT (T : ET) : ET := noteT (prA (sFl T (flT T)) (flT T) 6) (nI 6, iz (-1), nI (prC T (flT T) 6))
theorem W_pruneAll {u : Nat} (hu : 1000 ≤ u) {R : ER} {w0 : Int32} {D : Nat → List De} {f : Nat → Int32} {T : ET} (h : RW R w0 D f T) : ok (fW_pruneAll u f) (fun r => r.1 = nI (prC T (flT T) 6) ∧ RW R w0 D r.2 (pruneT T)) := by
  unfold fW_pruneAll
  rw [W_oldestSeat hu h]
  simp (disch := omega) only [izN, nI_add, mulI, rdW, wrW, Option.bind_some, L_within]
  have e5 : (if inR ((olN T 8).elim (iz (-1)) nI) 8 = true then (nx_rd 514 f (nI 48 + (olN T 8).elim (iz (-1)) nI)).bind fun x4 => some x4 else some (f 4) : Option Int32) = some ((olN T 8).elim (tCk T) (fun o => tSd T 1 o)) := by
    cases e : olN T 8 with
    | none =>
      simp only [Option.elim, inR_N1]
      rw [if_neg (by decide), h.cc]
    | some o =>
      have ho := (olN_lt e).1
      simp (disch := omega) only [Option.elim, inR_nI, izN, nI_add, mulI, rdW, wrW, Option.bind_some, h.sp]
      rw [if_pos (by simpa using ho)]
  rw [e5]
  simp (disch := omega) only [izN, nI_add, mulI, rdW, wrW, Option.bind_some, h.ff]
  have h1 := h.fl (flT T)
  have e6 : (if tFl T < (olN T 8).elim (tCk T) (fun o => tSd T 1 o) then (olN T 8).elim (tCk T) (fun o => tSd T 1 o) else tFl T) = flT T := rfl
  rw [e6]
  refine ok.bd (it_inv (Q := fun r => r.1 = nI (prC T (flT T) 6) ∧ RW R w0 D r.2 (prA (sFl T (flT T)) (flT T) 6)) (fun i y => y.1 = nI (prC T (flT T) i) ∧ y.2.1 = nI i ∧ RW R w0 D y.2.2 (prA (sFl T (flT T)) (flT T) i)) 6 (fun i y hi hI => ?_) (fun y hI => ?_) (i := 0) ⟨rfl, rfl, h1.to (show _ = prA (sFl T (flT T)) (flT T) 0 from Prod.ext rfl (Prod.ext rfl (Prod.ext (funext fun k => by simp [prA]) rfl))) rfl⟩ (by omega) (by omega)) (fun r hr => ?_)
  · obtain ⟨e1, e2, hx⟩ := hI
    unfold fW_pruneAll_54
    simp (disch := omega) only [izN, nI_add, mulI, rdW, wrW, Option.bind_some, e1, e2, leI]
    rw [if_neg (by omega)]
    have ev : tVs (prA (sFl T (flT T)) (flT T) i) i = tVs T i := by
      show (if i < i then _ else _) = _
      rw [if_neg (Nat.lt_irrefl i)]
      rfl
    refine (W_pruneKey hu hx hi).bd (fun r hr => ?_)
    rw [ev] at hr
    have efl : tFl (prA (sFl T (flT T)) (flT T) i) = flT T := rfl
    rw [efl] at hr
    rw [hr.1]
    simp only [nI_add]
    refine ok.ret ⟨rfl, rfl, hr.2.to (Prod.ext rfl (Prod.ext rfl (Prod.ext (funext fun k => ?_) rfl))) rfl⟩
    show (if k = i then pruL (tVs T i) _ else if k < i then pruL (tVs T k) _ else tVs T k) = if k < i + 1 then pruL (tVs T k) _ else tVs T k
    by_cases e1 : k = i
    · subst e1; simp
    · by_cases e2 : k < i
      · simp [e1, e2]; omega
      · simp [e1, e2]; omega
  · obtain ⟨e1, e2, hx⟩ := hI
    unfold fW_pruneAll_54
    simp (disch := omega) only [izN, nI_add, mulI, rdW, wrW, Option.bind_some, e1, e2, leI]
    rw [if_pos (by omega)]
    exact ok.ret ⟨rfl, hx⟩
  · rw [hr.1]
    exact (W_note hu hr.2 _ _ _).bd (fun f2 h2 => ok.ret ⟨rfl, h2⟩)
/-! to commit -/
def rdyT (T : ET) : Option Nat := fst (fun s => decide (tSd T 0 s = nI 2 ∧ tSd T 3 s = nI 0)) 8
theorem W_lowestReady {u : Nat} (hu : 1000 ≤ u) {R : ER} {w0 : Int32} {D : Nat → List De} {f : Nat → Int32} {T : ET} (h : RW R w0 D f T) : fW_lowestReady u f = some ((rdyT T).elim (iz (-1)) nI) := by
  unfold fW_lowestReady
  refine (bdE (it_fst (fun i => nI i) (fun s => decide (tSd T 0 s = nI 2 ∧ tSd T 3 s = nI 0)) 8 (.inl ()) (fun i => .inr (nI i)) (fun i hi hp => ?_) (fun i hi hp => ?_) ?_ (by omega))).trans ?_
  · unfold fW_lowestReady_2
    simp (disch := omega) only [izN, nI_add, mulI, rdW, wrW, Option.bind_some, h.st, h.dp, leI]
    grind
  · unfold fW_lowestReady_2
    simp (disch := omega) only [izN, nI_add, mulI, rdW, wrW, Option.bind_some, h.st, h.dp, leI]
    grind
  · unfold fW_lowestReady_2
    simp (disch := omega) only [izN, nI_add, mulI, rdW, wrW, Option.bind_some, leI]
    rfl
  · unfold rdyT
    cases fst _ _ <;> rfl
/-- one of those who wait for nobody: sure, or fallen -/
def stepS (R : ER) (T : ET) (s : Nat) : ET := if tSd T 4 s = nI 0 then (if R.2.2.1 = nI 1 then pruneT (sure1T T s) else sure1T T s) else fallT T s
def sureN (R : ER) : Nat → ET → Nat → ET
  | 0, T, _ => T
  | n + 1, T, s => (rdyT (stepS R T s)).elim (stepS R T s) (fun s' => sureN R n (stepS R T s) s')
theorem W_sure_n {u : Nat} (hu : 1000 ≤ u) {R : ER} {w0 : Int32} {D : Nat → List De} : ∀ (n : Nat) {f : Nat → Int32} {T : ET} {s v : Nat}, RW R w0 D f T → s < 8 → n ≤ 8 → n < v → ok (nx_iter v (fW_commitAt_75 u) (nI s, nI (8 - n), f)) (fun r => RW R w0 D r (sureN R n T s)) := by
  intro n
  induction n with
  | zero =>
    intro f T s v h hs hn hv
    obtain ⟨v, rfl⟩ : ∃ w, v = w + 1 := ⟨v - 1, by omega⟩
    refine it_go (P := fun _ => False) ?_ (fun _ hh => hh.elim)
    unfold fW_commitAt_75
    simp (disch := omega) only [izN, nI_add, mulI, rdW, wrW, Option.bind_some, leI]
    rw [if_pos (by omega)]
    exact ok.ret h
  | succ n ih =>
    intro f T s v h hs hn hv
    obtain ⟨v, rfl⟩ : ∃ w, v = w + 1 := ⟨v - 1, by omega⟩
    refine it_go (P := fun x => ∃ f', RW R w0 D f' (stepS R T s) ∧ x = ((rdyT (stepS R T s)).elim (iz (-1)) nI, nI (8 - (n + 1) + 1), f')) ?_ ?_
    · unfold fW_commitAt_75
      simp (disch := omega) only [izN, nI_add, mulI, rdW, wrW, Option.bind_some, leI, L_within, inR_nI, h.dm]
      rw [if_neg (by omega), if_pos (by simpa using hs)]
      refine ok.bd (P := fun f' => RW R w0 D f' (stepS R T s)) ?_ (fun f' hf' => ?_)
      · unfold stepS
        by_cases c : tSd T 4 s = nI 0
        · rw [if_pos c, if_pos c]
          refine (W_makeSure hu h hs).bd (fun f1 h1 => ?_)
          rw [h1.r1]
          by_cases c2 : R.2.2.1 = nI 1
          · rw [if_pos c2, if_pos c2]
            exact (W_pruneAll hu h1).bd (fun r hr => ok.ret hr.2)
          · rw [if_neg c2, if_neg c2]
            exact ok.ret h1
        · rw [if_neg c, if_neg c]
          exact (W_fallWithAll hu h hs).bd (fun r hr => ok.ret hr.2)
      · rw [W_lowestReady hu hf']
        exact ok.ret ⟨f', hf', rfl⟩
    · rintro x ⟨f', hf', rfl⟩
      unfold sureN
      cases e : rdyT (stepS R T s) with
      | none =>
        obtain ⟨v, rfl⟩ : ∃ w, v = w + 1 := ⟨v - 1, by omega⟩
        refine it_go (P := fun _ => False) ?_ (fun _ hh => hh.elim)
        unfold fW_commitAt_75
        simp (disch := omega) only [izN, nI_add, mulI, rdW, wrW, Option.bind_some, leI, Option.elim, L_within, inR_N1, Bool.false_eq_true, if_false]
        split
        · exact ok.ret hf'
        · exact ok.ret hf'
      | some s' =>
        have hs' := (fst_some e).1
        rw [show 8 - (n + 1) + 1 = 8 - n by omega]
        exact ih hf' hs' (by omega) (show n < v by omega)
def bcI (x : Int32) : Int32 := (fJ_bitCount_0f7a4 0 x).getD 0
theorem bcI_eq (u : Nat) (x : Int32) : fJ_bitCount_0f7a4 u x = some (bcI x) := rfl
def waitT (T : ET) (s : Nat) : ET := noteT (sSd T 0 s (nI 2)) (nI 3, nI s, tSd T 1 s)
def commitT (R : ER) (T : ET) (s : Nat) : ET × Int32 := if tSd T 4 s = nI 0 then (if tSd T 3 s = nI 0 then (sureN R 8 (waitT T s) s, nI 0) else (waitT T s, bcI (tSd T 3 s))) else (fallT T s, iz (-2))
theorem W_commitAt {u : Nat} (hu : 1000 ≤ u) {R : ER} {w0 : Int32} {D : Nat → List De} {f : Nat → Int32} {T : ET} (h : RW R w0 D f T) {s : Nat} (hs : s < 8) : ok (fW_commitAt u f (nI s)) (fun r => r.1 = (commitT R T s).2 ∧ RW R w0 D r.2 (commitT R T s).1) := by
  unfold fW_commitAt commitT
  simp (disch := omega) only [izN, nI_add, mulI, rdW, wrW, Option.bind_some, h.dm]
  by_cases c : tSd T 4 s = nI 0
  · rw [if_pos c, if_pos c]
    simp (disch := omega) only [izN, nI_add, mulI, rdW, wrW, Option.bind_some, upd_n, h.sp, bcI_eq]
    refine (W_note hu (h.sd (c := 0) (by omega) hs (nI 2)) _ _ _).bd (fun f1 h1 => ?_)
    have e3 : f1 (64 + s) = tSd T 3 s := h1.dp hs
    rw [e3]
    by_cases c2 : tSd T 3 s = nI 0
    · rw [if_pos c2, if_pos c2]
      exact (W_sure_n hu 8 h1 hs (by omega) (show 8 < u by omega)).bd (fun r hr => ok.ret ⟨rfl, hr⟩)
    · rw [if_neg c2, if_neg c2]
      exact ok.ret ⟨rfl, h1⟩
  · rw [if_neg c, if_neg c]
    exact (W_fallWithAll hu h hs).bd (fun r hr => ok.ret ⟨rfl, hr.2⟩)
