/-! a key's versions: late, full, to drop one, to add one: World -/
def laP (T : ET) (k : Nat) (x : Int32) (i : Nat) : Bool := decide ((vA T k i).1 ≤ x ∧ ¬ (vA T k i).2.2.1 ≤ x)
def laT (T : ET) (k : Nat) (x : Int32) : Bool := (fst (laP T k x) (tVs T k).length).isSome
theorem W_isLate {u : Nat} (hu : 1000 ≤ u) {R : ER} {w0 : Int32} {D : Nat → List De} {f : Nat → Int32} {T : ET} (h : RW R w0 D f T) {k : Nat} (hk : k < 6) (x : Int32) : fW_isLate u f (nI k) x = some (laT T k x) := by
  have hl := h.l9 hk
  unfold fW_isLate
  refine (bdE (it_fst (fun i => nI i) (laP T k x) (tVs T k).length (.inl ()) (fun i => .inr true) (fun i hi hp => ?_) (fun i hi hp => ?_) ?_ (by omega))).trans ?_
  · unfold fW_isLate_8
    unfold laP at hp
    simp (disch := omega) only [izN, nI_add, mulI, rdW, wrW, Option.bind_some, h.mn, leI, h.v1, h.v3]
    simp only [ltN]
    grind
  · unfold fW_isLate_8
    unfold laP at hp
    simp (disch := omega) only [izN, nI_add, mulI, rdW, wrW, Option.bind_some, h.mn, leI, h.v1, h.v3]
    simp only [ltN]
    grind
  · unfold fW_isLate_8
    simp (disch := omega) only [izN, nI_add, mulI, rdW, wrW, Option.bind_some, h.mn, leI]
    split <;> simp
  · unfold laT
    cases fst _ _ <;> rfl
def owI (T : ET) (k s : Nat) : Option Nat := fst (fun i => decide ((vA T k i).2.2.2 = nI s)) (tVs T k).length
def fuT (R : ER) (T : ET) (s k : Nat) : Bool := decide (R.2.1 ≤ nI (tVs T k).length) && (owI T k s).isNone && ! laT T k (tSd T 1 s)
theorem W_isFull {u : Nat} (hu : 1000 ≤ u) {R : ER} {w0 : Int32} {D : Nat → List De} {f : Nat → Int32} {T : ET} (h : RW R w0 D f T) {s k : Nat} (hs : s < 8) (hk : k < 6) : fW_isFull u f (nI s) (nI k) = some (fuT R T s k) := by
  have hl := h.l9 hk
  unfold fW_isFull
  rw [W_ownSlot hu h hk]
  simp (disch := omega) only [izN, nI_add, mulI, rdW, wrW, Option.bind_some, h.mn, h.r0, h.sp, W_isLate hu h hk]
  simp only [ltN]
  unfold fuT owI
  cases e : fst (fun i => decide ((vA T k i).2.2.2 = nI s)) (tVs T k).length with
  | none => grind
  | some i =>
    have := neN1 (a := k * 9 + i) (by have := (fst_some e).1; omega)
    grind
def mvW (f : Nat → Int32) (a b : Nat) : Nat → Int32 := upd (upd (upd (upd f (238 + b) (f (238 + a))) (292 + b) (f (292 + a))) (346 + b) (f (346 + a))) (400 + b) (f (400 + a))
theorem W_move {u : Nat} {f : Nat → Int32} {a b : Nat} (ha : a < 54) (hb : b < 54) : fW_moveVersion u f (nI a) (nI b) = some (mvW f a b) := by
  unfold fW_moveVersion mvW
  simp (disch := omega) only [izN, nI_add, mulI, rdW, wrW, Option.bind_some, upd_n]
theorem mvW_c {f : Nat → Int32} {a b c x : Nat} (ha : a < 54) (hb : b < 54) (hc : c < 4) (hx : x < 54) : mvW f a b (238 + c * 54 + x) = if x = b then f (238 + c * 54 + a) else f (238 + c * 54 + x) := by
  unfold mvW upd
  obtain rfl | rfl | rfl | rfl : c = 0 ∨ c = 1 ∨ c = 2 ∨ c = 3 := by omega
  all_goals
    by_cases e : x = b
    · subst e; simp; try omega
    · simp [e]; repeat rw [if_neg (by omega)]
theorem mvW_o {f : Nat → Int32} {a b x : Nat} (hb : b < 54) (hx : x < 238 ∨ 454 ≤ x) : mvW f a b x = f x := by
  unfold mvW
  rw [upd_n (by omega), upd_n (by omega), upd_n (by omega), upd_n (by omega)]
def col (v : Vr) (c : Nat) : Int32 := if c = 0 then v.1 else if c = 1 then v.2.1 else if c = 2 then v.2.2.1 else v.2.2.2
theorem blkW.c {f : Nat → Int32} {k : Nat} {l : List Vr} (h : blkW f k l) {c i : Nat} {v : Vr} (hc : c < 4) (hi : l[i]? = some v) : f (238 + c * 54 + k * 9 + i) = col v c := by
  obtain ⟨a, b, c', d⟩ := h.2.2 i v hi
  obtain rfl | rfl | rfl | rfl : c = 0 ∨ c = 1 ∨ c = 2 ∨ c = 3 := by omega
  · exact a
  · exact b
  · exact c'
  · exact d
theorem blkW.mk {f : Nat → Int32} {k : Nat} {l : List Vr} (h1 : l.length ≤ 9) (h2 : f (232 + k) = nI l.length) (h : ∀ (c i : Nat) (v : Vr), c < 4 → l[i]? = some v → f (238 + c * 54 + k * 9 + i) = col v c) : blkW f k l := ⟨h1, h2, fun i v hi => ⟨h 0 i v (by omega) hi, h 1 i v (by omega) hi, h 2 i v (by omega) hi, h 3 i v (by omega) hi⟩⟩
theorem RW.vc {R : ER} {w0 : Int32} {D : Nat → List De} {f : Nat → Int32} {T : ET} {f' : Nat → Int32} (h : RW R w0 D f T) {k : Nat} (hk : k < 6) {l : List Vr} (hl : blkW f' k l) (hf : ∀ j, j ≠ 232 + k → (∀ c, c < 4 → j < 238 + c * 54 + k * 9 ∨ 247 + c * 54 + k * 9 ≤ j) → f' j = f j) : RW R w0 D f' (sVs T k l) :=
  h.vs hk hl (fun j h0 h1 h2 h3 h4 => hf j h0 (fun c hc => by
    obtain rfl | rfl | rfl | rfl : c = 0 ∨ c = 1 ∨ c = 2 ∨ c = 3 := by omega
    all_goals omega))
/-- the versions from j on are moved down, as far as i -/
def shI (f : Nat → Int32) (k j i : Nat) (f' : Nat → Int32) : Prop := (∀ x, (∀ c, c < 4 → x < 238 + c * 54 + k * 9 ∨ 247 + c * 54 + k * 9 ≤ x) → f' x = f x) ∧ ∀ c m, c < 4 → m < 9 → f' (238 + c * 54 + k * 9 + m) = if j ≤ m ∧ m < i then f (238 + c * 54 + k * 9 + (m + 1)) else f (238 + c * 54 + k * 9 + m)
theorem mvW_kc {f : Nat → Int32} {k a b c m : Nat} (hk : k < 6) (ha : a < 9) (hb : b < 9) (hc : c < 4) (hm : m < 9) : mvW f (k * 9 + a) (k * 9 + b) (238 + c * 54 + k * 9 + m) = if m = b then f (238 + c * 54 + k * 9 + a) else f (238 + c * 54 + k * 9 + m) := by
  rw [show 238 + c * 54 + k * 9 + m = 238 + c * 54 + (k * 9 + m) by omega, mvW_c (by omega) (by omega) hc (by omega), show 238 + c * 54 + (k * 9 + a) = 238 + c * 54 + k * 9 + a by omega]
  by_cases e : m = b
  · rw [if_pos e, if_pos (by omega)]
  · rw [if_neg e, if_neg (by omega)]
theorem mvW_ko {f : Nat → Int32} {k a b x : Nat} (hk : k < 6) (ha : a < 9) (hb : b < 9) (hx : ∀ c, c < 4 → x < 238 + c * 54 + k * 9 ∨ 247 + c * 54 + k * 9 ≤ x) : mvW f (k * 9 + a) (k * 9 + b) x = f x := by
  have h0 := hx 0 (by omega)
  have h1 := hx 1 (by omega)
  have h2 := hx 2 (by omega)
  have h3 := hx 3 (by omega)
  unfold mvW
  rw [upd_n (by omega), upd_n (by omega), upd_n (by omega), upd_n (by omega)]
theorem W_drop_loop {u : Nat} (hu : 1000 ≤ u) {f : Nat → Int32} {k j n : Nat} (hk : k < 6) (hj : j < n) (hn : n ≤ 9) : ok (nx_iter u (fW_dropOwn_44 u (nI k) (nI n)) (nI (k * 9 + j), f)) (fun f' => shI f k j (n - 1) f') := by
  refine it_inv (Q := fun f' => shI f k j (n - 1) f') (fun i x => x.1 = nI (k * 9 + i) ∧ j ≤ i ∧ shI f k j i x.2) (n - 1) (fun i x hi hI => ?_) (fun x hI => ?_) (i := j) ⟨rfl, Nat.le_refl _, fun x _ => rfl, fun c m hc hm => by rw [if_neg (by omega)]⟩ (by omega) (by omega)
  · obtain ⟨e, hji, hx⟩ := hI
    unfold fW_dropOwn_44
    simp (disch := omega) only [izN, nI_add, mulI, rdW, wrW, Option.bind_some, e, min9, subI, leI]
    rw [if_neg (by omega), show k * 9 + i + 1 = k * 9 + (i + 1) by omega, W_move (by omega) (by omega)]
    refine ok.ret ⟨rfl, by omega, fun x hx' => ?_, fun c m hc hm => ?_⟩
    · show mvW _ _ _ _ = _
      rw [mvW_ko hk (by omega) (by omega) hx']
      exact hx.1 x hx'
    · show mvW _ _ _ _ = _
      rw [mvW_kc hk (by omega) (by omega) hc hm, hx.2 c m hc hm, hx.2 c (i + 1) hc (by omega), if_neg (show ¬ (j ≤ i + 1 ∧ i + 1 < i) by omega)]
      by_cases e : m = i
      · subst e
        rw [if_pos rfl, if_pos ⟨hji, by omega⟩]
      · rw [if_neg e]
        by_cases e2 : j ≤ m ∧ m < i
        · rw [if_pos e2, if_pos ⟨e2.1, by omega⟩]
        · rw [if_neg e2, if_neg (by omega)]
  · obtain ⟨e, hji, hx⟩ := hI
    unfold fW_dropOwn_44
    simp (disch := omega) only [izN, nI_add, mulI, rdW, wrW, Option.bind_some, e, min9, subI, leI]
    rw [if_pos (by omega)]
    exact ok.ret hx
theorem getE_erase {l : List Vr} {j i : Nat} {v : Vr} (h : (l.eraseIdx j)[i]? = some v) : (i < j ∧ l[i]? = some v) ∨ (j ≤ i ∧ l[i + 1]? = some v) := by
  rw [List.getElem?_eraseIdx] at h
  split at h
  · exact Or.inl ⟨by assumption, h⟩
  · exact Or.inr ⟨by omega, h⟩
/-- the version of one at a seat is dropped -/
def dropL (l : List Vr) (x : Int32) : List Vr := (fst (fun i => decide ((l[i]?.getD (0, 0, 0, 0)).2.2.2 = x)) l.length).elim l (fun i => l.eraseIdx i)
theorem W_dropOwn {u : Nat} (hu : 1000 ≤ u) {R : ER} {w0 : Int32} {D : Nat → List De} {f : Nat → Int32} {T : ET} (h : RW R w0 D f T) {s k : Nat} (hs : s < 8) (hk : k < 6) : ok (fW_dropOwn u f (nI k) (nI s)) (fun f' => RW R w0 D f' (sVs T k (dropL (tVs T k) (nI s)))) := by
  have hl := h.l9 hk
  unfold fW_dropOwn
  rw [W_ownSlot hu h hk]
  have ed : dropL (tVs T k) (nI s) = (fst (fun i => decide ((vA T k i).2.2.2 = nI s)) (tVs T k).length).elim (tVs T k) (fun i => (tVs T k).eraseIdx i) := rfl
  rw [ed]
  cases e : fst (fun i => decide ((vA T k i).2.2.2 = nI s)) (tVs T k).length with
  | none =>
    simp (disch := omega) only [izN, nI_add, mulI, rdW, wrW, Option.bind_some, Option.elim, L_within, inR_N1, if_false, Bool.false_eq_true]
    refine ok.ret (h.to (Prod.ext rfl (Prod.ext rfl (Prod.ext (funext fun k' => ?_) rfl))) rfl)
    show _ = if k' = k then _ else _
    split
    · next e => rw [e]
    · rfl
  | some i =>
    have hi := (fst_some e).1
    simp (disch := omega) only [izN, nI_add, mulI, rdW, wrW, Option.bind_some, Option.elim, L_within, inR_nI]
    rw [if_pos (by simp; omega)]
    simp (disch := omega) only [izN, nI_add, mulI, rdW, wrW, Option.bind_some, h.mn]
    refine (W_drop_loop hu hk hi hl).bd (fun f' hf' => ?_)
    have e9 : f' (232 + k) = nI (tVs T k).length := by
      rw [hf'.1 _ (fun c hc => by omega)]
      exact h.mn hk
    simp (disch := omega) only [izN, nI_add, mulI, rdW, wrW, Option.bind_some, e9, subI]
    refine ok.ret (h.vc hk (blkW.mk ?_ ?_ (fun c m v hc hm => ?_)) (fun j h0 hj => by rw [upd_n h0]; exact hf'.1 j hj))
    · rw [List.length_eraseIdx]; split <;> omega
    · rw [upd_s, List.length_eraseIdx, if_pos hi]
    · rw [upd_n (by omega)]
      rcases getE_erase hm with ⟨a, b⟩ | ⟨a, b⟩
      · have := (List.getElem?_eq_some_iff.mp b).1
        rw [hf'.2 c m hc (by omega), if_neg (by omega)]
        exact (h.bb hk).c hc b
      · have := (List.getElem?_eq_some_iff.mp b).1
        rw [hf'.2 c m hc (by omega), if_pos (by omega)]
        exact (h.bb hk).c hc b
