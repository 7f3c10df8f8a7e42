/-! a version more; to fall: World -/
def insL (l : List Vr) (p : Nat) (v : Vr) : List Vr := l.take p ++ v :: l.drop p
theorem insL_len {l : List Vr} {p : Nat} {v : Vr} (h : p ≤ l.length) : (insL l p v).length = l.length + 1 := by
  unfold insL
  simp
  omega
theorem getE_ins {l : List Vr} {p i : Nat} {v w : Vr} (hp : p ≤ l.length) (h : (insL l p v)[i]? = some w) : (i < p ∧ l[i]? = some w) ∨ (i = p ∧ w = v) ∨ (p < i ∧ l[i - 1]? = some w) := by
  unfold insL at h
  have e : (l.take p).length = p := by simp; omega
  by_cases h1 : i < p
  · rw [List.getElem?_append_left (by omega), List.getElem?_take, if_pos h1] at h
    exact Or.inl ⟨h1, h⟩
  · rw [List.getElem?_append_right (by omega), e] at h
    by_cases h2 : i = p
    · subst h2
      rw [Nat.sub_self] at h
      exact Or.inr (Or.inl ⟨rfl, by simpa using h.symm⟩)
    · obtain ⟨d, hd⟩ : ∃ d, i - p = d + 1 := ⟨i - p - 1, by omega⟩
      rw [hd, List.getElem?_cons_succ, List.getElem?_drop] at h
      refine Or.inr (Or.inr ⟨by omega, ?_⟩)
      rw [← h]
      congr 1
      omega
def ipL (l : List Vr) (x : Int32) : Nat := (lst (fun i => decide ((l[i]?.getD (0, 0, 0, 0)).1 ≤ x)) l.length).elim 0 (fun i => i + 1)
theorem ipL_le {l : List Vr} {x : Int32} : ipL l x ≤ l.length := by
  unfold ipL
  cases e : lst (fun i => decide ((l[i]?.getD (0, 0, 0, 0)).1 ≤ x)) l.length with
  | none => exact Nat.zero_le _
  | some i => exact (lst_some e).1
theorem ipL_above {T : ET} {k : Nat} {x : Int32} {i : Nat} (h1 : ipL (tVs T k) x ≤ i) (h2 : i < (tVs T k).length) : ¬ (vA T k i).1 ≤ x := by
  unfold ipL at h1
  cases e : lst (fun i => decide (((tVs T k)[i]?.getD (0, 0, 0, 0)).1 ≤ x)) (tVs T k).length with
  | none =>
    have := lst_none e i h2
    unfold vA
    simpa using this
  | some j =>
    rw [e] at h1
    have := (lst_some e).2.2 i h1 h2
    unfold vA
    simpa using this
theorem ipL_below {T : ET} {k : Nat} {x : Int32} {i : Nat} (h1 : ipL (tVs T k) x = i + 1) : (vA T k i).1 ≤ x := by
  unfold ipL at h1
  cases e : lst (fun i => decide (((tVs T k)[i]?.getD (0, 0, 0, 0)).1 ≤ x)) (tVs T k).length with
  | none => rw [e] at h1; cases h1
  | some j =>
    rw [e] at h1
    cases h1
    have := (lst_some e).2.1
    unfold vA
    simpa using this
/-- the versions from i on are moved up -/
def shU (f : Nat → Int32) (k i n : Nat) (f' : Nat → Int32) : Prop := (∀ x, (∀ c, c < 4 → x < 238 + c * 54 + k * 9 ∨ 247 + c * 54 + k * 9 ≤ x) → f' x = f x) ∧ ∀ c m, c < 4 → m < 9 → f' (238 + c * 54 + k * 9 + m) = if i < m ∧ m ≤ n then f (238 + c * 54 + k * 9 + (m - 1)) else f (238 + c * 54 + k * 9 + m)
theorem W_add_loop {u : Nat} (hu : 1000 ≤ u) {R : ER} {w0 : Int32} {D : Nat → List De} {f : Nat → Int32} {T : ET} (h : RW R w0 D f T) {k : Nat} (hk : k < 6) (hl : (tVs T k).length < 9) (x : Int32) : ok (nx_iter u (fW_addVersion_40 u (nI k) x) (nI (tVs T k).length, f)) (fun r => r.1 = nI (ipL (tVs T k) x) ∧ shU f k (ipL (tVs T k) x) (tVs T k).length r.2) := by
  have hp := ipL_le (l := tVs T k) (x := x)
  refine it_inv (fun t y => y.1 = nI ((tVs T k).length - t) ∧ shU f k ((tVs T k).length - t) (tVs T k).length y.2) ((tVs T k).length - ipL (tVs T k) x) (fun t y ht hI => ?_) (fun y hI => ?_) (i := 0) ⟨rfl, fun x _ => rfl, fun c m hc hm => by rw [if_neg (by omega)]⟩ (by omega) (by omega)
  · obtain ⟨e, hy⟩ := hI
    have hv : y.2 (238 + k * 9 + ((tVs T k).length - t) - 1) = (vA T k ((tVs T k).length - t - 1)).1 := by
      have := hy.2 0 ((tVs T k).length - t - 1) (by omega) (by omega)
      rw [if_neg (by omega)] at this
      rw [show 238 + k * 9 + ((tVs T k).length - t) - 1 = 238 + 0 * 54 + k * 9 + ((tVs T k).length - t - 1) by omega, this]
      exact h.v1 hk (i := (tVs T k).length - t - 1) (by omega)
    unfold fW_addVersion_40
    simp (disch := omega) only [izN, nI_add, mulI, rdW, wrW, Option.bind_some, e, subI, leI, hv]
    rw [if_neg (by omega), if_neg (ipL_above (by omega) (by omega)), show k * 9 + ((tVs T k).length - t) - 1 = k * 9 + ((tVs T k).length - t - 1) by omega, W_move (by omega) (by omega)]
    refine ok.ret ⟨?_, fun x hx' => ?_, fun c m hc hm => ?_⟩
    · show nI ((tVs T k).length - t) + iz (-1) = _
      rw [show (tVs T k).length - t = (tVs T k).length - (t + 1) + 1 by omega, decI']
    · show mvW _ _ _ _ = _
      rw [mvW_ko hk (by omega) (by omega) hx']
      exact hy.1 x hx'
    · show mvW _ _ _ _ = _
      rw [mvW_kc hk (by omega) (by omega) hc hm, hy.2 c m hc hm, hy.2 c _ hc (by omega), if_neg (show ¬ ((tVs T k).length - t < (tVs T k).length - t - 1 ∧ (tVs T k).length - t - 1 ≤ (tVs T k).length) by omega)]
      by_cases e : m = (tVs T k).length - t
      · rw [if_pos e, if_pos (by omega), e]
      · rw [if_neg e]
        by_cases e2 : (tVs T k).length - t < m ∧ m ≤ (tVs T k).length
        · rw [if_pos e2, if_pos (by omega)]
        · rw [if_neg e2, if_neg (by omega)]
  · obtain ⟨e, hy⟩ := hI
    have en : (tVs T k).length - ((tVs T k).length - ipL (tVs T k) x) = ipL (tVs T k) x := by omega
    rw [en] at e hy
    unfold fW_addVersion_40
    simp (disch := omega) only [izN, nI_add, mulI, rdW, wrW, Option.bind_some, e, leI]
    by_cases e0 : ipL (tVs T k) x ≤ 0
    · rw [if_pos e0]
      exact ok.ret ⟨rfl, hy⟩
    · obtain ⟨q, hq⟩ : ∃ q, ipL (tVs T k) x = q + 1 := ⟨ipL (tVs T k) x - 1, by omega⟩
      have hv : y.2 (238 + k * 9 + ipL (tVs T k) x - 1) = (vA T k q).1 := by
        have := hy.2 0 q (by omega) (by omega)
        rw [if_neg (by omega)] at this
        rw [show 238 + k * 9 + ipL (tVs T k) x - 1 = 238 + 0 * 54 + k * 9 + q by omega, this]
        exact h.v1 hk (i := q) (by omega)
      rw [if_neg e0]
      simp (disch := omega) only [izN, nI_add, mulI, rdW, wrW, Option.bind_some, subI, hv]
      rw [if_pos (ipL_below hq)]
      exact ok.ret ⟨rfl, hy⟩
def addT (T : ET) (s k : Nat) (value : Int32) : ET := sVs T k (insL (tVs T k) (ipL (tVs T k) (tSd T 1 s)) (tSd T 1 s, value, tSd T 1 s, nI s))
theorem W_addVersion {u : Nat} (hu : 1000 ≤ u) {R : ER} {w0 : Int32} {D : Nat → List De} {f : Nat → Int32} {T : ET} (h : RW R w0 D f T) {s k : Nat} (hs : s < 8) (hk : k < 6) (hl : (tVs T k).length < 9) (value : Int32) : ok (fW_addVersion u f (nI s) (nI k) value) (fun f' => RW R w0 D f' (addT T s k value)) := by
  have hp := ipL_le (l := tVs T k) (x := tSd T 1 s)
  unfold fW_addVersion
  simp (disch := omega) only [izN, nI_add, mulI, rdW, wrW, Option.bind_some, h.sp, h.mn, L_within, inR_nI]
  rw [if_pos (by simp; omega)]
  refine (W_add_loop hu h hk hl (tSd T 1 s)).bd (fun r hr => ?_)
  obtain ⟨e, hr⟩ := hr
  have e9 : r.2 (232 + k) = nI (tVs T k).length := by
    rw [hr.1 _ (fun c hc => by omega)]
    exact h.mn hk
  rw [e]
  simp (disch := omega) only [izN, nI_add, mulI, rdW, wrW, Option.bind_some, upd_n, e9]
  refine ok.ret (h.vc hk (blkW.mk ?_ ?_ (fun c m v hc hm => ?_)) (fun j h0 hj => ?_))
  · rw [insL_len hp]; omega
  · rw [upd_s, insL_len hp]
  · have hm9 : m < 9 := by
      have := (List.getElem?_eq_some_iff.mp hm).1
      rw [insL_len hp] at this
      omega
    have hq := hr.2 c m hc hm9
    rw [upd_n (by omega)]
    rcases getE_ins hp hm with ⟨a, b⟩ | ⟨a, b⟩ | ⟨a, b⟩
    · rw [upd_n (by omega), upd_n (by omega), upd_n (by omega), upd_n (by omega), hq, if_neg (by omega)]
      exact (h.bb hk).c hc b
    · subst a b
      obtain rfl | rfl | rfl | rfl : c = 0 ∨ c = 1 ∨ c = 2 ∨ c = 3 := by omega
      · rw [upd_n (by omega), upd_n (by omega), upd_n (by omega), upd_e (by omega)]; rfl
      · rw [upd_n (by omega), upd_n (by omega), upd_e (by omega)]; rfl
      · rw [upd_n (by omega), upd_e (by omega)]; rfl
      · rw [upd_e (by omega)]; rfl
    · have hb := (List.getElem?_eq_some_iff.mp b).1
      rw [upd_n (by omega), upd_n (by omega), upd_n (by omega), upd_n (by omega), hq, if_pos (by omega)]
      exact (h.bb hk).c hc b
  · have h0' := hj 0 (by omega)
    have h1' := hj 1 (by omega)
    have h2' := hj 2 (by omega)
    have h3' := hj 3 (by omega)
    rw [upd_n h0, upd_n (by omega), upd_n (by omega), upd_n (by omega), upd_n (by omega)]
    exact hr.1 j hj
theorem it_go {σ ρ : Type} {b : σ → Option (σ ⊕ ρ)} {s : σ} {P : σ → Prop} {Q : ρ → Prop} {u : Nat} (h1 : ok (b s) (Sum.elim P Q)) (h2 : ∀ s', P s' → ok (nx_iter u b s') Q) : ok (nx_iter (u + 1) b s) Q := by
  obtain ⟨x, e, hx⟩ := h1
  show ok ((b s).bind _) Q
  rw [e]
  cases x with
  | inl s' => exact h2 s' hx
  | inr r => exact ok.ret hx
/-! to fall -/
def dropA (T : ET) (s n : Nat) : ET := (T.1, T.2.1, fun k => if k < n then dropL (T.2.2.1 k) (nI s) else T.2.2.1 k, T.2.2.2)
def fall1T (T : ET) (s : Nat) : ET := noteT (dropA (sSd (sSd T 0 s (nI 4)) 3 s (nI 0)) s 6) (nI 5, nI s, tSd T 1 s)
def inS (T : ET) (v : Int32) : Int32 := setA (fun s => decide (tSd T 0 s = v)) 8
def leT (T : ET) : Option Nat := fst (fun s => ! decide (tSd T 3 s &&& inS T (nI 4) = nI 0)) 8
theorem W_lowestLeaning {u : Nat} (hu : 1000 ≤ u) {R : ER} {w0 : Int32} {D : Nat → List De} {f : Nat → Int32} {T : ET} (h : RW R w0 D f T) : fW_lowestLeaning u f = some ((leT T).elim (iz (-1)) nI) := by
  unfold fW_lowestLeaning
  simp only [izN]
  rw [W_seatsIn hu h, show setA (fun s => decide (tSd T 0 s = nI 4)) 8 = inS T (nI 4) from rfl]
  refine (bdE (it_fst (fun i => nI i) (fun s => ! decide (tSd T 3 s &&& inS T (nI 4) = nI 0)) 8 (.inl ()) (fun i => .inr (nI i)) (fun i hi hp => ?_) (fun i hi hp => ?_) ?_ (by omega))).trans ?_
  · unfold fW_lowestLeaning_8
    simp (disch := omega) only [izN, nI_add, mulI, rdW, wrW, Option.bind_some, h.dp, leI]
    rw [if_neg (by omega), if_pos (by simpa using hp)]
  · unfold fW_lowestLeaning_8
    simp (disch := omega) only [izN, nI_add, mulI, rdW, wrW, Option.bind_some, h.dp, leI]
    rw [if_neg (by omega), if_neg (by simpa using hp)]
  · unfold fW_lowestLeaning_8
    simp (disch := omega) only [izN, nI_add, mulI, rdW, wrW, Option.bind_some, leI]
    rfl
  · unfold leT
    cases fst _ _ <;> rfl
def fallN : Nat → ET → Nat → ET × Nat
  | 0, T, _ => (T, 0)
  | n + 1, T, s => (leT (fall1T T s)).elim (fall1T T s, 1) (fun s' => ((fallN n (fall1T T s) s').1, (fallN n (fall1T T s) s').2 + 1))
def fallT (T : ET) (s : Nat) : ET := sFe (fallN 8 T s).1 (tFe T + nI (fallN 8 T s).2)
theorem W_fall_1 {u : Nat} (hu : 1000 ≤ u) {R : ER} {w0 : Int32} {D : Nat → List De} {f : Nat → Int32} {T : ET} (h : RW R w0 D f T) {s : Nat} (hs : s < 8) {m r : Nat} (hr : r < 8) : ok (fW_fallWithAll_7 u (nI m, nI s, nI r, f)) (fun x => ∃ f', RW R w0 D f' (fall1T T s) ∧ x = .inl (nI (m + 1), (leT (fall1T T s)).elim (iz (-1)) nI, nI (r + 1), f')) := by
  unfold fW_fallWithAll_7
  simp (disch := omega) only [izN, nI_add, mulI, rdW, wrW, Option.bind_some, leI, L_within, inR_nI]
  rw [if_neg (by omega), if_pos (by simpa using hs)]
  have h1 := (h.sd (c := 0) (by omega) hs (nI 4)).sd (c := 3) (by omega) hs (nI 0)
  refine ok.bd (it_inv (Q := fun f' => RW R w0 D f' (dropA (sSd (sSd T 0 s (nI 4)) 3 s (nI 0)) s 6)) (fun i x => x.1 = nI i ∧ RW R w0 D x.2 (dropA (sSd (sSd T 0 s (nI 4)) 3 s (nI 0)) s i)) 6 (fun i x hi hI => ?_) (fun x hI => ?_) (i := 0) ⟨rfl, ?_⟩ (by omega) (by omega)) (fun f' hf' => ?_)
  · obtain ⟨e, hx⟩ := hI
    unfold fW_fallWithAll_46
    simp (disch := omega) only [izN, nI_add, mulI, rdW, wrW, Option.bind_some, e, leI]
    rw [if_neg (by omega)]
    refine (W_dropOwn hu hx hs hi).bd (fun f' hf' => ok.ret ⟨rfl, hf'.to (Prod.ext rfl (Prod.ext rfl (Prod.ext (funext fun k => ?_) rfl))) rfl⟩)
    show (if k = i then dropL (if i < i then _ else _) _ else if k < i then _ else _) = if k < i + 1 then _ else _
    rw [if_neg (Nat.lt_irrefl i)]
    by_cases e1 : k = i
    · rw [if_pos e1, if_pos (by omega), e1]
    · rw [if_neg e1]
      by_cases e2 : k < i
      · rw [if_pos e2, if_pos (by omega)]
      · rw [if_neg e2, if_neg (by omega)]
  · obtain ⟨e, hx⟩ := hI
    unfold fW_fallWithAll_46
    simp (disch := omega) only [izN, nI_add, mulI, rdW, wrW, Option.bind_some, e, leI]
    exact ok.ret hx
  · exact h1.to (Prod.ext rfl (Prod.ext rfl (Prod.ext (funext fun k => by simp [dropA]) rfl))) rfl
  · simp (disch := omega) only [izN, nI_add, mulI, rdW, wrW, Option.bind_some, hf'.sp]
    refine (W_note hu hf' _ _ _).bd (fun f2 h2 => ?_)
    rw [W_lowestLeaning hu h2]
    refine ok.ret ⟨f2, h2, ?_⟩
    rfl
theorem W_fall_n {u : Nat} (hu : 1000 ≤ u) {R : ER} {w0 : Int32} {D : Nat → List De} : ∀ (n : Nat) {f : Nat → Int32} {T : ET} {s m v : Nat}, RW R w0 D f T → s < 8 → n ≤ 8 → n < v → ok (nx_iter v (fW_fallWithAll_7 u) (nI m, nI s, nI (8 - n), f)) (fun r => r.1 = nI (m + (fallN n T s).2) ∧ RW R w0 D r.2 (fallN n T s).1) := by
  intro n
  induction n with
  | zero =>
    intro f T s m v h hs hn hv
    obtain ⟨v, rfl⟩ : ∃ w, v = w + 1 := ⟨v - 1, by omega⟩
    refine it_go (P := fun _ => False) ?_ (fun _ hh => hh.elim)
    unfold fW_fallWithAll_7
    simp (disch := omega) only [izN, nI_add, mulI, rdW, wrW, Option.bind_some, leI]
    rw [if_pos (by omega)]
    exact ok.ret ⟨rfl, h⟩
  | succ n ih =>
    intro f T s m v h hs hn hv
    obtain ⟨v, rfl⟩ : ∃ w, v = w + 1 := ⟨v - 1, by omega⟩
    refine it_go ((W_fall_1 hu h hs (m := m) (r := 8 - (n + 1)) (by omega)).im (P := _) (Q := Sum.elim (fun x => ∃ f', RW R w0 D f' (fall1T T s) ∧ x = (nI (m + 1), (leT (fall1T T s)).elim (iz (-1)) nI, nI (8 - (n + 1) + 1), f')) (fun r => r.1 = nI (m + (fallN (n + 1) T s).2) ∧ RW R w0 D r.2 (fallN (n + 1) T s).1)) ?_) ?_
    · rintro x ⟨f', hf', rfl⟩
      exact ⟨f', hf', rfl⟩
    · rintro x ⟨f', hf', rfl⟩
      unfold fallN
      cases e : leT (fall1T T s) with
      | none =>
        obtain ⟨v, rfl⟩ : ∃ w, v = w + 1 := ⟨v - 1, by omega⟩
        refine it_go (P := fun _ => False) ?_ (fun _ hh => hh.elim)
        unfold fW_fallWithAll_7
        simp (disch := omega) only [izN, nI_add, mulI, rdW, wrW, Option.bind_some, leI, Option.elim, L_within, inR_N1, Bool.false_eq_true, if_false]
        split
        · exact ok.ret ⟨rfl, hf'⟩
        · exact ok.ret ⟨rfl, hf'⟩
      | some s' =>
        have hs' := (fst_some e).1
        have := ih (m := m + 1) hf' hs' (by omega) (show n < v by omega)
        rw [show 8 - (n + 1) + 1 = 8 - n by omega]
        refine this.im (fun r hr => ⟨?_, hr.2⟩)
        rw [hr.1]
        show nI (m + 1 + _) = nI (m + (_ + 1))
        congr 1
        omega
theorem fall1T_fe {T : ET} {s : Nat} : tFe (fall1T T s) = tFe T := rfl
theorem fallN_fe : ∀ (n : Nat) {T : ET} {s : Nat}, tFe (fallN n T s).1 = tFe T := by
  intro n
  induction n with
  | zero => intro T s; rfl
  | succ n ih =>
    intro T s
    unfold fallN
    cases e : leT (fall1T T s) with
    | none => rfl
    | some s' => exact (ih (T := fall1T T s) (s := s')).trans fall1T_fe
theorem W_fallWithAll {u : Nat} (hu : 1000 ≤ u) {R : ER} {w0 : Int32} {D : Nat → List De} {f : Nat → Int32} {T : ET} (h : RW R w0 D f T) {s : Nat} (hs : s < 8) : ok (fW_fallWithAll u f (nI s)) (fun r => r.1 = nI (fallN 8 T s).2 ∧ RW R w0 D r.2 (fallT T s)) := by
  unfold fW_fallWithAll
  refine (W_fall_n hu 8 (m := 0) h hs (by omega) (show 8 < u by omega)).bd (fun r hr => ?_)
  obtain ⟨e, hr⟩ := hr
  simp (disch := omega) only [izN, nI_add, mulI, rdW, wrW, Option.bind_some, hr.ee, e]
  refine ok.ret ⟨by rw [Nat.zero_add], ?_⟩
  unfold fallT
  rw [Nat.zero_add]
  have := hr.fe (tFe T + nI (fallN 8 T s).2)
  rw [fallN_fe, Int32.add_assoc]
  exact this
