/-! ===== the longest chain ===== -/
theorem RM.row {g0 : mS} {R : ER} {m0 : Int32} {tr : Option (Nat → Int32)} {D : Nat → List De} {g : mS} {T : ET} (h : RM g0 R m0 tr D g T) {j : Nat} (h0 : j ≠ 0) (h4 : j ≠ 4) (h7 : j ≠ 7) (a : Nat → Int32) : RM (mRow g0 j a) R m0 tr D (mRow g j a) T := by
  obtain ⟨⟨f1, f2, f3⟩, ⟨a1, a2, a3, a4, a5⟩, b, c⟩ := h
  refine ⟨⟨fun i h0 h7 => ?_, fun i hi => ?_, f3⟩, ⟨?_, ?_, ?_, ?_, ?_⟩, ?_, ?_⟩
  · by_cases e : i = j
    · subst e; rw [mRow_s, mRow_s]
    · rw [mRow_n e, mRow_n e]; exact f1 i h0 h7
  · rw [mRow_n (Ne.symm h0), mRow_n (Ne.symm h0)]; exact f2 i hi
  · rw [mRow_n (Ne.symm h0)]; exact a1
  · rw [mRow_n (Ne.symm h4)]; exact a2
  · rw [mRow_n (Ne.symm h4)]; exact a3
  · rw [mRow_n (Ne.symm h4)]; exact a4
  · rw [mRow_n (Ne.symm h0)]; exact a5
  · rw [mRow_n (Ne.symm h0)]; exact b
  · rw [mRow_n (Ne.symm h7)]; exact c
/-- those left after r rounds -/
def chL (T : ET) : Nat → Nat → Bool
  | 0, s => lvT T s
  | r + 1, s => chL T r s && anyP (fun o => tb (tSd T 3 s) o && chL T r o) 8
theorem chL_dec {T : ET} {r s : Nat} (h : chL T (r + 1) s = true) : chL T r s = true := by
  unfold chL at h
  exact (Bool.and_eq_true _ _ ▸ h).1
theorem chL_lv {T : ET} {s : Nat} : ∀ {r : Nat}, chL T r s = true → lvT T s = true := by
  intro r
  induction r with
  | zero => exact id
  | succ r ih => exact fun h => ih (chL_dec h)
theorem chL_le {T : ET} {s : Nat} : ∀ {r q : Nat}, q ≤ r → chL T r s = true → chL T q s = true := by
  intro r
  induction r with
  | zero => intro q hq h; rw [Nat.le_zero.mp hq]; exact h
  | succ r ih =>
    intro q hq h
    by_cases e : q = r + 1
    · rw [e]; exact h
    · exact ih (by omega) (chL_dec h)
theorem chL_less {R : ER} {T : ET} (hW : WF R T) {r : Nat} (h : ∃ s, s < 8 ∧ chL T r s = true) : cnt (chL T (r + 1)) 8 < cnt (chL T r) 8 := by
  obtain ⟨k, ⟨s, hs, hc, hk⟩, hm⟩ := pk_least (fun k => ∃ s, s < 8 ∧ chL T r s = true ∧ (tSd T 1 s).toInt.toNat = k) (by obtain ⟨s, hs, hc⟩ := h; exact ⟨_, s, hs, hc, rfl⟩)
  refine cnt_lt 8 (fun j _ hj => chL_dec hj) hs hc ?_
  unfold chL
  rw [hc, Bool.true_and]
  cases e : anyP (fun o => tb (tSd T 3 s) o && chL T r o) 8 with
  | false => rfl
  | true =>
    obtain ⟨o, ho, h2⟩ := anyP_iff.mp e
    rw [Bool.and_eq_true] at h2
    obtain ⟨_, l1, l2, l3⟩ := hW.2.2.1.2.2.1 s o hs h2.1
    have p1 := (hW.2.2.1.1 o ho l2).1
    exact absurd ⟨o, ho, h2.2, rfl⟩ (hm (tSd T 1 o).toInt.toNat (by omega))
theorem chL_cnt {R : ER} {T : ET} (hW : WF R T) : ∀ r, r ≤ 8 → cnt (chL T r) 8 ≤ 8 - r := by
  intro r
  induction r with
  | zero => intro _; exact cnt_le 8
  | succ r ih =>
    intro hr
    have h1 := ih (by omega)
    by_cases h : ∃ s, s < 8 ∧ chL T r s = true
    · have := chL_less hW h
      omega
    · have h2 : cnt (chL T (r + 1)) 8 ≤ cnt (fun _ => false) 8 := cnt_mono 8 (fun j hj hq => absurd ⟨j, hj, chL_dec hq⟩ h)
      have h3 : cnt (fun _ => false) 8 = 0 := rfl
      omega
theorem chL_8 {R : ER} {T : ET} (hW : WF R T) {s : Nat} (hs : s < 8) : chL T 8 s = false := by
  cases e : chL T 8 s with
  | false => rfl
  | true =>
    have h1 := chL_cnt hW 8 (Nat.le_refl _)
    have h2 := cnt_lt (p := chL T 8) (q := fun _ => false) (s := s) 8 (fun _ _ h => by cases h) hs e rfl
    omega
theorem cnt_full {p : Nat → Bool} : ∀ n, (∀ j, j < n → p j = true) → cnt p n = n := by
  intro n
  induction n with
  | zero => intro _; rfl
  | succ n ih =>
    intro h
    show cnt p n + _ = _
    rw [ih (fun j hj => h j (by omega)), h n (by omega), if_pos rfl]
theorem cnt_dec {p : Nat → Bool} (h : ∀ r, p (r + 1) = true → p r = true) : ∀ n r, r < n → (p r = true ↔ r < cnt p n) := by
  have hle : ∀ r q, q ≤ r → p r = true → p q = true := by
    intro r
    induction r with
    | zero => intro q hq h; rw [Nat.le_zero.mp hq]; exact h
    | succ r ih =>
      intro q hq hr
      by_cases e : q = r + 1
      · rw [e]; exact hr
      · exact ih q (by omega) (h r hr)
  intro n
  induction n with
  | zero => intro r hr; omega
  | succ n ih =>
    intro r hr
    by_cases c : p n = true
    · have := cnt_full (p := p) (n + 1) (fun j hj => hle n j (by omega) c)
      rw [this]
      exact ⟨fun _ => hr, fun _ => hle n r (by omega) c⟩
    · have e : cnt p (n + 1) = cnt p n := by
        show cnt p n + _ = _
        rw [if_neg c]
        rfl
      rw [e]
      by_cases e2 : r = n
      · rw [e2]
        have := cnt_le (p := p) n
        exact ⟨fun hh => absurd hh c, fun hh => by omega⟩
      · exact ih r (by omega)
/-- how high one stands -/
def htT (T : ET) (s : Nat) : Nat := cnt (fun r => chL T r s) 8
theorem ht_le {T : ET} {s : Nat} : htT T s ≤ 8 := cnt_le 8
theorem ht_iff {R : ER} {T : ET} (hW : WF R T) {s r : Nat} (hs : s < 8) (hr : r ≤ 8) : chL T r s = true ↔ r < htT T s := by
  by_cases e : r = 8
  · rw [e, chL_8 hW hs]
    have := ht_le (T := T) (s := s)
    constructor
    · intro h; cases h
    · intro h; omega
  · exact cnt_dec (p := fun r => chL T r s) (fun r h => chL_dec h) 8 r (by omega)
theorem ht_lv {R : ER} {T : ET} (hW : WF R T) {s : Nat} (hs : s < 8) : lvT T s = true ↔ 0 < htT T s := ht_iff (r := 0) hW hs (by omega)
theorem ht_dep {R : ER} {T : ET} (hW : WF R T) {s o : Nat} (hs : s < 8) (h : tb (tSd T 3 s) o = true) : o < 8 ∧ htT T o + 1 ≤ htT T s := by
  obtain ⟨ho, l1, l2, l3⟩ := hW.2.2.1.2.2.1 s o hs h
  refine ⟨ho, ?_⟩
  have key : ∀ r, r ≤ 8 → (r = 0 ∨ chL T (r - 1) o = true) → chL T r s = true := by
    intro r
    induction r with
    | zero => intro _ _; exact l1
    | succ r ih =>
      intro hr hh
      have hh : chL T r o = true := hh.elim (fun e => by omega) id
      unfold chL
      rw [Bool.and_eq_true]
      refine ⟨ih (by omega) ?_, anyP_iff.mpr ⟨o, ho, by rw [h, hh]; rfl⟩⟩
      by_cases e : r = 0
      · exact Or.inl e
      · exact Or.inr (chL_le (by omega) hh)
  have h0 := (ht_lv hW ho).mp l2
  have h8 := ht_le (T := T) (s := o)
  have h1 := key (htT T o) h8 (Or.inr ((ht_iff hW ho (by omega)).mpr (by omega)))
  exact (ht_iff hW hs h8).mp h1
theorem ht_ex {R : ER} {T : ET} (hW : WF R T) {s : Nat} (hs : s < 8) (h : 2 ≤ htT T s) : ∃ o, o < 8 ∧ tb (tSd T 3 s) o = true ∧ htT T s ≤ htT T o + 1 := by
  have h8 := ht_le (T := T) (s := s)
  have h1 : chL T (htT T s - 2 + 1) s = true := (ht_iff hW hs (by omega)).mpr (by omega)
  unfold chL at h1
  rw [Bool.and_eq_true] at h1
  obtain ⟨o, ho, h2⟩ := anyP_iff.mp h1.2
  rw [Bool.and_eq_true] at h2
  have := (ht_iff hW ho (by omega)).mp h2.2
  exact ⟨o, ho, h2.1, by omega⟩
theorem set_0 {p : Nat → Bool} : setA p 8 = nI 0 ↔ ∀ s, s < 8 → p s = false := by
  constructor
  · intro h s hs
    have := tb_set (p := p) (n := 8) (i := s) (by omega)
    rw [h, tb_0] at this
    cases e : p s with
    | false => rfl
    | true => simp [e, hs] at this
  · intro h
    rw [setA_ext (p := p) (n := 0) (m := 8) (by omega) (fun i _ hi => h i hi)]
    rfl
theorem ch_H {R : ER} {T : ET} (hW : WF R T) : ∃ H, H ≤ 8 ∧ setA (chL T H) 8 = nI 0 ∧ (∀ r, r < H → setA (chL T r) 8 ≠ nI 0) ∧ (∀ s, s < 8 → htT T s ≤ H) ∧ (∀ m, (∀ s, s < 8 → htT T s ≤ m) → H ≤ m) := by
  obtain ⟨H, h1, h2⟩ := pk_least (fun r => setA (chL T r) 8 = nI 0) ⟨8, set_0.mpr (fun s hs => chL_8 hW hs)⟩
  have h8 : H ≤ 8 := by
    apply Classical.byContradiction
    intro hh
    exact h2 8 (by omega) (set_0.mpr (fun s hs => chL_8 hW hs))
  refine ⟨H, h8, h1, h2, fun s hs => ?_, fun m hm => ?_⟩
  · apply Classical.byContradiction
    intro hh
    have := (ht_iff hW hs h8).mpr (by omega)
    rw [set_0.mp h1 s hs] at this
    cases this
  · apply Classical.byContradiction
    intro hh
    apply h2 m (by omega)
    refine set_0.mpr (fun s hs => ?_)
    cases e : chL T m s with
    | false => rfl
    | true =>
      have := (ht_iff hW hs (by omega)).mp e
      have := hm s hs
      omega
theorem hasB : ∀ (n : Fin 256) (s : Fin 8), ((((nI n.val >>> (nI s.val &&& 31)) &&& nI 1) = nI 1) ↔ tb (nI n.val) s.val = true) ∧ ((((nI n.val >>> (nI s.val &&& 31)) &&& nI 1) = nI 0) ↔ tb (nI n.val) s.val = false) := by decide +kernel
theorem has1 {x : Int32} (h : ∀ o, tb x o = true → o < 8) {s : Nat} (hs : s < 8) : (((x >>> (nI s &&& 31)) &&& nI 1) = nI 1) ↔ tb x s = true := by
  obtain ⟨n, hn, rfl⟩ := mask8 h
  exact (hasB ⟨n, hn⟩ ⟨s, hs⟩).1
theorem has0 {x : Int32} (h : ∀ o, tb x o = true → o < 8) {s : Nat} (hs : s < 8) : (((x >>> (nI s &&& 31)) &&& nI 1) = nI 0) ↔ tb x s = false := by
  obtain ⟨n, hn, rfl⟩ := mask8 h
  exact (hasB ⟨n, hn⟩ ⟨s, hs⟩).2
theorem set_8 {p : Nat → Bool} : ∀ o, tb (setA p 8) o = true → o < 8 := by
  intro o ho
  rw [tb_set (by omega)] at ho
  rw [Bool.and_eq_true] at ho
  exact of_decide_eq_true ho.1
theorem set_b {p : Nat → Bool} {s : Nat} (hs : s < 8) : tb (setA p 8) s = p s := by
  rw [tb_set (by omega)]
  simp [hs]
theorem and_set {x : Int32} {p : Nat → Bool} : (x &&& setA p 8 = nI 0) ↔ anyP (fun o => tb x o && p o) 8 = false := by
  constructor
  · intro h
    cases e : anyP (fun o => tb x o && p o) 8 with
    | false => rfl
    | true =>
      obtain ⟨o, ho, h2⟩ := anyP_iff.mp e
      rw [Bool.and_eq_true] at h2
      have : tb (x &&& setA p 8) o = true := by rw [tb_and, set_b ho, h2.1, h2.2]; rfl
      rw [h, tb_0] at this
      cases this
  · intro h
    apply Classical.byContradiction
    intro hn
    obtain ⟨o, _, ho⟩ := tb_ne.mp hn
    rw [tb_and, Bool.and_eq_true] at ho
    have h8 := set_8 o ho.2
    rw [set_b h8] at ho
    have := anyP_iff.mpr (⟨o, h8, by show (tb x o && p o) = true; rw [ho.1, ho.2]; rfl⟩ : ∃ j, j < 8 ∧ (fun o => tb x o && p o) j = true)
    rw [h] at this
    cases this
theorem W_liveSeats {u : Nat} (hu : 1000 ≤ u) {R : ER} {w0 : Int32} {D : Nat → List De} {f : Nat → Int32} {T : ET} (h : RW R w0 D f T) : fW_liveSeats u f = some (setA (lvT T) 8) := by
  unfold fW_liveSeats
  rw [W_seatsIn hu h, W_seatsIn hu h]
  simp only [Option.bind_some, izN]
  congr 1
  apply tb_ext
  intro i _
  rw [tb_or, tb_set (by omega), tb_set (by omega), tb_set (by omega)]
  unfold lvT
  by_cases c : i < 8 <;> simp [c]
theorem W_longestChain {u : Nat} (hu : 1000 ≤ u) {R : ER} {w0 : Int32} {D : Nat → List De} {f : Nat → Int32} {T : ET} (h : RW R w0 D f T) (hW : WF R T) {H : Nat} (h8 : H ≤ 8) (h1 : setA (chL T H) 8 = nI 0) (h2 : ∀ r, r < H → setA (chL T r) 8 ≠ nI 0) : fW_longestChain u f = some (nI H) := by
  unfold fW_longestChain
  rw [W_liveSeats hu h, Option.bind_some]
  refine bdE (it_up (fun r => (setA (chL T r) 8, nI r)) H (fun r hr => ?_) ?_ (i := 0) (by omega) (by omega))
  · unfold fW_longestChain_7
    simp (disch := omega) only [izN, nI_add, mulI, rdW, wrW, Option.bind_some, leI]
    rw [if_neg (h2 r hr), if_neg (by omega)]
    have hin : nx_iter u (fW_longestChain_22 f (setA (chL T r) 8, nI r)) (nI 0, nI 0) = some (setA (fun s => chL T r s && ! anyP (fun o => tb (tSd T 3 s) o && chL T r o) 8) 8) := by
      refine it_up (fun i => (setA (fun s => chL T r s && ! anyP (fun o => tb (tSd T 3 s) o && chL T r o) 8) i, nI i)) 8 (fun i hi => ?_) ?_ (i := 0) (by omega) (by omega)
      · unfold fW_longestChain_22
        simp (disch := omega) only [izN, nI_add, mulI, rdW, wrW, Option.bind_some, leI, h.dp]
        rw [if_neg (by omega)]
        have e1 := has1 (set_8 (p := chL T r)) hi
        rw [set_b hi] at e1
        conv => rhs; unfold setA
        cases c1 : chL T r i with
        | false =>
          rw [c1] at e1
          rw [if_neg (fun hh => by have := e1.mp hh; cases this)]
          simp
        | true =>
          rw [if_pos (e1.mpr c1)]
          cases c2 : anyP (fun o => tb (tSd T 3 i) o && chL T r o) 8 with
          | false =>
            rw [if_pos (and_set.mpr c2)]
            simp [bitA]
          | true =>
            rw [if_neg (fun hh => by have := and_set.mp hh; rw [c2] at this; cases this)]
            simp
      · unfold fW_longestChain_22
        simp (disch := omega) only [izN, nI_add, mulI, rdW, wrW, Option.bind_some, leI]
        rfl
    rw [hin]
    simp only [Option.bind_some]
    congr 2
    show (_, nI (r + 1)) = (_, nI (r + 1))
    congr 1
    apply tb_ext
    intro i hi
    rw [tb_and, tb_xor, tb_set (by omega), tb_set (by omega), tb_set (by omega), tb_m1]
    show _ = (decide (i < 8) && (chL T r i && anyP (fun o => tb (tSd T 3 i) o && chL T r o) 8))
    by_cases c : i < 8
    · cases chL T r i <;> cases anyP (fun o => tb (tSd T 3 i) o && chL T r o) 8 <;> simp [c, hi]
    · simp [c]
  · unfold fW_longestChain_7
    rw [h1]
    simp only [izN, if_true]
/-! .. Model -/
theorem rd12 {m : Nat} {f : Nat → Int32} (hm : m < 8) : nx_rd (mlen 12) f (nI m) = some (f m) := rd_nI hm (show (8 : Nat) ≤ 100000 by omega)
theorem mWr12 {m : Nat} {g : mS} {v : Int32} (hm : m < 8) : mWr g 12 (nI m) v = some (mRow g 12 (upd (g.1 12) m v)) := mWr_at hm (show (8 : Nat) ≤ 100000 by omega)
theorem M_has (u : Nat) {x : Int32} (h : ∀ o, tb x o = true → o < 8) {s : Nat} (hs : s < 8) : fM_has u x (nI s) = some (tb x s) := by
  unfold fM_has
  simp only [izN]
  have e := has1 h hs
  cases c : tb x s with
  | true => rw [if_pos (e.mpr c)]
  | false => rw [if_neg (fun hh => by have := e.mp hh; rw [c] at this; cases this)]
theorem maxN {a b : Nat} (ha : a < 1000) (hb : b < 1000) : (if nI a < nI b then nI b else nI a) = nI (max a b) := by
  have e := ltI (a := a) (b := b) (by omega) (by omega)
  by_cases c : a < b
  · rw [if_pos (e.mpr c), Nat.max_eq_right (by omega)]
  · rw [if_neg (fun hh => c (e.mp hh)), Nat.max_eq_left (by omega)]
def rowsA (a : Nat → Int32) (r : Nat → Nat) : Prop := ∀ o, o < 8 → r o ≤ 9 ∧ a o = nI (r o)
theorem M_chain54 {u : Nat} (hu : 1000 ≤ u) {g0 : mS} {R : ER} {m0 : Int32} {tr : Option (Nat → Int32)} {D : Nat → List De} {g : mS} {T : ET} (h : RM g0 R m0 tr D g T) (hW : WF R T) {s : Nat} (hs : s < 8) {r : Nat → Nat} {a : Nat → Int32} (ha : rowsA a r) (hr8 : ∀ o, o < 8 → r o ≤ 8) (s7 : Int32 × Int32 × mS) (e7 : s7.2.1 = nI s) : ok (nx_iter u (fM_chain_54 u s7) (nI 0, mRow g 12 a)) (fun g' => ∃ a' r', g' = mRow g 12 a' ∧ rowsA a' r' ∧ (∀ o, o ≠ s → r' o = r o) ∧ r s ≤ r' s ∧ (∀ o, o < 8 → tb (tSd T 3 s) o = true → r o + 1 ≤ r' s) ∧ (r' s = r s ∨ ∃ o, o < 8 ∧ tb (tSd T 3 s) o = true ∧ r' s = r o + 1)) := by
  have hd : ∀ o, tb (tSd T 3 s) o = true → o < 8 := fun o ho => (hW.2.2.1.2.2.1 s o hs ho).1
  refine it_inv (fun n x => x.1 = nI n ∧ ∃ a' r', x.2 = mRow g 12 a' ∧ rowsA a' r' ∧ (∀ o, o ≠ s → r' o = r o) ∧ r s ≤ r' s ∧ (∀ o, o < n → tb (tSd T 3 s) o = true → r o + 1 ≤ r' s) ∧ (r' s = r s ∨ ∃ o, o < 8 ∧ tb (tSd T 3 s) o = true ∧ r' s = r o + 1)) 8 (fun n x hn hI => ?_) (fun x hI => ?_) (i := 0) ⟨rfl, a, r, rfl, ha, fun _ _ => rfl, Nat.le_refl _, fun o ho => by omega, Or.inl rfl⟩ (by omega) (by omega)
  · obtain ⟨e1, a', r', e2, h1, h2, h3, h4, h5⟩ := hI
    have hx := h.row (j := 12) (by omega) (by omega) (by omega) a'
    obtain ⟨q1, q2⟩ := h1 s hs
    obtain ⟨p1, p2⟩ := h1 n hn
    have e12 : (mRow g 12 a').1 12 = a' := mRow_s
    unfold fM_chain_54
    rw [e1, e2, e7]
    simp (disch := omega) only [fM_ofSeat, fM_of, fM_keyAt, fM_many, fM_cell, fM_its, izN, nI_add, mulI, rdM, mWr7, mRow_s, mRow_m, mRow_2, Option.bind_some, leI, M_isOn hu hx hW.1.1 hW.1.2.1, hx.q.st, M_has u hd, rd12, mWr12, e12, q2, p2]
    rw [if_neg (by omega)]
    by_cases c : tb (tSd T 3 s) n = true
    · obtain ⟨ho, l1, l2, l3⟩ := hW.2.2.1.2.2.1 s n hs c
      have hne : n ≠ s := fun e => by rw [e] at l3; omega
      have hrn := h2 n hne
      have hr8n := hr8 n hn
      rw [l1, l2, c, if_pos rfl, if_pos rfl, if_pos rfl, maxN (by omega) (by omega)]
      simp only [Option.bind_some]
      refine ok.ret ⟨rfl, upd a' s (nI (max (r' s) (r' n + 1))), fun o => if o = s then max (r' s) (r' n + 1) else r' o, rfl, fun o ho => ?_, fun o ho => ?_, ?_, fun o ho ht => ?_, ?_⟩
      · dsimp only
        by_cases e : o = s
        · rw [if_pos e, upd_e e]
          exact ⟨by omega, rfl⟩
        · rw [if_neg e, upd_n e]
          exact h1 o ho
      · dsimp only
        rw [if_neg ho]; exact h2 o ho
      · dsimp only
        rw [if_pos rfl]; omega
      · dsimp only
        rw [if_pos rfl]
        by_cases e : o = n
        · rw [e]; omega
        · have := h4 o (by omega) ht; omega
      · dsimp only
        rw [if_pos rfl]
        by_cases cc : r' s ≤ r' n + 1
        · exact Or.inr ⟨n, hn, c, by omega⟩
        · rcases h5 with h5 | ⟨o, o1, o2, o3⟩
          · exact Or.inl (by omega)
          · exact Or.inr ⟨o, o1, o2, by omega⟩
    · have c' : tb (tSd T 3 s) n = false := by simpa using c
      rw [c']
      simp only [Option.bind_some, Bool.false_eq_true, if_false, ite_self]
      refine ok.ret ⟨rfl, upd a' s (nI (r' s)), r', rfl, fun o ho => ?_, h2, h3, fun o ho ht => ?_, h5⟩
      · by_cases e : o = s
        · rw [upd_e e, e]; exact ⟨q1, rfl⟩
        · rw [upd_n e]; exact h1 o ho
      · by_cases e : o = n
        · rw [e, c'] at ht; cases ht
        · exact h4 o (by omega) ht
  · obtain ⟨e1, a', r', e2, h1, h2, h3, h4, h5⟩ := hI
    unfold fM_chain_54
    simp (disch := omega) only [fM_ofSeat, fM_of, fM_keyAt, fM_many, fM_cell, fM_its, izN, nI_add, mulI, rdM, mWr7, mRow_s, mRow_m, mRow_2, Option.bind_some, e1, leI]
    rw [if_pos (by omega)]
    exact ok.ret ⟨a', r', e2, h1, h2, h3, h4, h5⟩
theorem M_chain {u : Nat} (hu : 1000 ≤ u) {g0 : mS} {R : ER} {m0 : Int32} {tr : Option (Nat → Int32)} {D : Nat → List De} {g : mS} {T : ET} (h : RM g0 R m0 tr D g T) (hW : WF R T) {H : Nat} (hH8 : H ≤ 8) (hH : ∀ s, s < 8 → htT T s ≤ H) (hm : ∀ m, (∀ s, s < 8 → htT T s ≤ m) → H ≤ m) : ok (fM_chain u g) (fun p => p.1 = nI H ∧ ∃ a, p.2 = mRow g 12 a) := by
  unfold fM_chain
  refine ok.bd (P := fun g' => ∃ a, g' = mRow g 12 a ∧ rowsA a (fun s => if lvT T s = true then 1 else 0)) ?_ (fun g1 hg1 => ?_)
  · refine it_inv (fun n x => x.1 = nI n ∧ ∃ a, x.2 = mRow g 12 a ∧ ∀ s, s < n → a s = if lvT T s = true then nI 1 else nI 0) 8 (fun n x hn hI => ?_) (fun x hI => ?_) (i := 0) ⟨rfl, g.1 12, mRow_i.symm, fun s hs => by omega⟩ (by omega) (by omega)
    · obtain ⟨e1, a, e2, ha⟩ := hI
      have hx := h.row (j := 12) (by omega) (by omega) (by omega) a
      have e12 : (mRow g 12 a).1 12 = a := mRow_s
      unfold fM_chain_2
      rw [e1, e2]
      simp (disch := omega) only [fM_ofSeat, fM_of, fM_keyAt, fM_many, fM_cell, fM_its, izN, nI_add, mulI, rdM, mWr7, mRow_s, mRow_m, mRow_2, Option.bind_some, leI, M_isOn hu hx hW.1.1 hW.1.2.1]
      rw [if_neg (by omega)]
      have es : (if lvT T n = true then some (nI 1) else some (nI 0)) = some (if lvT T n = true then nI 1 else nI 0) := by split <;> rfl
      rw [es]
      simp (disch := omega) only [Option.bind_some, mWr12, e12, mRow_m]
      refine ok.ret ⟨rfl, upd a n (if lvT T n = true then nI 1 else nI 0), rfl, fun s hs => ?_⟩
      by_cases e : s = n
      · rw [upd_e e, e]
      · rw [upd_n e]; exact ha s (by omega)
    · obtain ⟨e1, a, e2, ha⟩ := hI
      unfold fM_chain_2
      simp (disch := omega) only [fM_ofSeat, fM_of, fM_keyAt, fM_many, fM_cell, fM_its, izN, nI_add, mulI, rdM, mWr7, mRow_s, mRow_m, mRow_2, Option.bind_some, e1, leI]
      rw [if_pos (by omega)]
      refine ok.ret ⟨a, e2, fun s hs => ?_⟩
      rw [ha s hs]
      by_cases c : lvT T s = true
      · rw [if_pos c]; simp [c]
      · rw [if_neg c]; simp [c]
  · obtain ⟨a0, rfl, ha0⟩ := hg1
    refine ok.bd (P := fun p => p.1 = nI H ∧ ∃ a, p.2 = mRow g 12 a) ?_ (fun p hp => ok.ret hp)
    refine it_inv (fun t x => x.2.1 = nI t ∧ ∃ m a r, x.1 = nI m ∧ x.2.2 = mRow g 12 a ∧ rowsA a r ∧ m ≤ H ∧ (∀ s, s < 8 → r s ≤ htT T s) ∧ (∀ s, s < 8 → min (htT T s) (t + 1) ≤ r s) ∧ (0 < t → ∀ s, s < 8 → r s ≤ m)) 8 (fun t x ht hI => ?_) (fun x hI => ?_) (i := 0) ⟨rfl, 0, a0, _, rfl, rfl, ha0, by omega, fun s hs => ?_, fun s hs => ?_, fun hh => by omega⟩ (by omega) (by omega)
    · obtain ⟨e1, m, a, r, e2, e3, h1, h2, h3, h4, h5⟩ := hI
      unfold fM_chain_37
      rw [e1, e2, e3]
      simp (disch := omega) only [fM_ofSeat, fM_of, fM_keyAt, fM_many, fM_cell, fM_its, izN, nI_add, mulI, rdM, mWr7, mRow_s, mRow_m, mRow_2, Option.bind_some, leI]
      rw [if_neg (by omega)]
      refine ok.bd (P := fun p => ∃ m a r, p.1 = nI m ∧ p.2 = mRow g 12 a ∧ rowsA a r ∧ m ≤ H ∧ (∀ s, s < 8 → r s ≤ htT T s) ∧ (∀ s, s < 8 → min (htT T s) (t + 2) ≤ r s) ∧ (∀ s, s < 8 → r s ≤ m)) ?_ (fun p hp => ?_)
      · refine it_inv (fun j y => y.2.1 = nI j ∧ ∃ m a r, y.1 = nI m ∧ y.2.2 = mRow g 12 a ∧ rowsA a r ∧ m ≤ H ∧ (∀ s, s < 8 → r s ≤ htT T s) ∧ (∀ s, s < 8 → min (htT T s) (if s < j then t + 2 else t + 1) ≤ r s) ∧ (∀ s, s < j → r s ≤ m)) 8 (fun j y hj hJ => ?_) (fun y hJ => ?_) (i := 0) ⟨rfl, m, a, r, rfl, rfl, h1, h2, h3, fun s hs => by rw [if_neg (by omega)]; exact h4 s hs, fun s hs => by omega⟩ (by omega) (by omega)
        · obtain ⟨d1, m, a, r, d2, d3, g1, g2, g3, g4, g5⟩ := hJ
          unfold fM_chain_45
          rw [d1, d3]
          simp (disch := omega) only [fM_ofSeat, fM_of, fM_keyAt, fM_many, fM_cell, fM_its, izN, nI_add, mulI, rdM, mWr7, mRow_s, mRow_m, mRow_2, Option.bind_some, leI]
          rw [if_neg (by omega)]
          have hr8 : ∀ o, o < 8 → r o ≤ 8 := fun o ho => Nat.le_trans (g3 o ho) ht_le
          refine (M_chain54 hu h hW hj g1 hr8 y d1).bd (fun g' hg' => ?_)
          obtain ⟨a', r', rfl, k1, k2, k3, k4, k5⟩ := hg'
          have e12 : (mRow g 12 a').1 12 = a' := mRow_s
          obtain ⟨q1, q2⟩ := k1 j hj
          rw [d2]
          simp (disch := omega) only [Option.bind_some, rd12, e12, q2]
          rw [maxN (by omega) (by omega)]
          have hup : r' j ≤ htT T j := by
            rcases k5 with k5 | ⟨o, o1, o2, o3⟩
            · rw [k5]; exact g3 j hj
            · have := (ht_dep hW hj o2).2
              have := g3 o o1
              omega
          have hlo : min (htT T j) (t + 2) ≤ r' j := by
            by_cases c : 2 ≤ htT T j
            · obtain ⟨o, o1, o2, o3⟩ := ht_ex hW hj c
              have b1 := k4 o o1 o2
              have b2 := g4 o o1
              split at b2 <;> omega
            · have b2 := g4 j hj
              rw [if_neg (by omega)] at b2
              omega
          refine ok.ret ⟨rfl, max m (r' j), a', r', rfl, rfl, k1, ?_, fun s hs => ?_, fun s hs => ?_, fun s hs => ?_⟩
          · have := hH j hj; omega
          · by_cases e : s = j
            · rw [e]; exact hup
            · rw [k2 s e]; exact g3 s hs
          · by_cases e : s = j
            · rw [e, if_pos (by omega)]; exact hlo
            · rw [k2 s e]
              have := g4 s hs
              by_cases c : s < j
              · rw [if_pos c] at this
                rw [if_pos (by omega)]
                exact this
              · rw [if_neg c] at this
                rw [if_neg (by omega)]
                exact this
          · by_cases e : s = j
            · rw [e]; omega
            · rw [k2 s e]
              have := g5 s (by omega)
              omega
        · obtain ⟨d1, m, a, r, d2, d3, g1, g2, g3, g4, g5⟩ := hJ
          unfold fM_chain_45
          rw [d1]
          simp (disch := omega) only [fM_ofSeat, fM_of, fM_keyAt, fM_many, fM_cell, fM_its, izN, nI_add, mulI, rdM, mWr7, mRow_s, mRow_m, mRow_2, Option.bind_some, leI]
          rw [if_pos (by omega)]
          exact ok.ret ⟨m, a, r, d2, d3, g1, g2, g3, fun s hs => by have := g4 s hs; rw [if_pos hs] at this; exact this, g5⟩
      · obtain ⟨m, a, r, d2, d3, g1, g2, g3, g4, g5⟩ := hp
        refine ok.ret ⟨?_, m, a, r, d2, d3, g1, g2, g3, g4, fun _ => g5⟩
        rfl
    · obtain ⟨e1, m, a, r, e2, e3, h1, h2, h3, h4, h5⟩ := hI
      unfold fM_chain_37
      rw [e1]
      simp (disch := omega) only [fM_ofSeat, fM_of, fM_keyAt, fM_many, fM_cell, fM_its, izN, nI_add, mulI, rdM, mWr7, mRow_s, mRow_m, mRow_2, Option.bind_some, leI]
      rw [if_pos (by omega)]
      have := hm m (fun s hs => by
        have b1 := h4 s hs
        have b2 := h5 (by omega) s hs
        have b3 := ht_le (T := T) (s := s)
        omega)
      have e : m = H := by omega
      refine ok.ret ⟨?_, a, e3⟩
      rw [e2, e]
    · have b := ht_lv hW hs
      by_cases c : lvT T s = true
      · rw [if_pos c]; exact b.mp c
      · rw [if_neg c]; omega
    · have b := ht_lv hW hs
      by_cases c : lvT T s = true
      · rw [if_pos c]; omega
      · rw [if_neg c]
        have : ¬ 0 < htT T s := fun hh => c (b.mpr hh)
        omega
