/-! ===== texts: signs and numbers ===== -/
def sgn (t : Nat → Int32) (n p : Nat) : Int32 := if p < n then t p else iz (-1)
def skp (t : Nat → Int32) : Nat → Nat → Nat
  | 0, p => p
  | k + 1, p => if t p = nI 32 then skp t k (p + 1) else p
def skT (t : Nat → Int32) (n p : Nat) : Nat := skp t (n - p) p
theorem skp_le (t : Nat → Int32) : ∀ k p, p ≤ skp t k p ∧ skp t k p ≤ p + k := by
  intro k
  induction k with
  | zero => intro p; exact ⟨Nat.le_refl _, Nat.le_refl _⟩
  | succ k ih =>
    intro p
    unfold skp
    split
    · have := ih (p + 1); omega
    · omega
theorem skT_le {t : Nat → Int32} {n p : Nat} (h : p ≤ n) : p ≤ skT t n p ∧ skT t n p ≤ n := by
  have := skp_le t (n - p) p
  unfold skT
  omega
theorem skT_on {t : Nat → Int32} {n p : Nat} (h : p < n) (e : t p = nI 32) : skT t n p = skT t n (p + 1) := by
  unfold skT
  rw [show n - p = (n - (p + 1)) + 1 by omega]
  show (if t p = nI 32 then _ else _) = _
  rw [if_pos e]
theorem skT_no {t : Nat → Int32} {n p : Nat} (e : sgn t n p ≠ nI 32) : skT t n p = p := by
  unfold skT
  cases k : n - p with
  | zero => rfl
  | succ k =>
    show (if t p = nI 32 then _ else _) = _
    unfold sgn at e
    rw [if_pos (by omega)] at e
    rw [if_neg e]
theorem skp_s (t : Nat → Int32) (n : Nat) : ∀ k p, p + k = n → sgn t n (skp t k p) ≠ nI 32 := by
  intro k
  induction k with
  | zero =>
    intro p hp
    show sgn t n p ≠ _
    unfold sgn
    rw [if_neg (by omega)]
    decide +kernel
  | succ k ih =>
    intro p hp
    unfold skp
    split
    · exact ih (p + 1) (by omega)
    · next c =>
      unfold sgn
      rw [if_pos (by omega)]
      exact c
theorem skT_s {t : Nat → Int32} {n p : Nat} (h : p ≤ n) : sgn t n (skT t n p) ≠ nI 32 := skp_s t n (n - p) p (by omega)
theorem skT_i {t : Nat → Int32} {n p : Nat} (h : p ≤ n) : skT t n (skT t n p) = skT t n p := skT_no (skT_s h)
theorem sgn_lt {t : Nat → Int32} {n p : Nat} (h : sgn t n p ≠ iz (-1)) : p < n := by
  unfold sgn at h
  by_cases c : p < n
  · exact c
  · rw [if_neg c] at h; exact absurd rfl h
theorem sgn_v {t : Nat → Int32} {n p : Nat} (h : p < n) : sgn t n p = t p := if_pos h
theorem sgn_e {t : Nat → Int32} {n p : Nat} (ht : ∀ i, t i ≠ iz (-1)) (hp : p ≤ n) (h : sgn t n p = iz (-1)) : p = n := by
  unfold sgn at h
  by_cases c : p < n
  · rw [if_pos c] at h; exact absurd h (ht p)
  · omega
def clT (n p : Nat) (g : pS) : Prop := g 0 0 = nI n ∧ g 0 1 = nI p ∧ n ≤ 240 ∧ p ≤ n
def mlT (n p : Nat) (h : mS) : Prop := h.1 0 2 = nI n ∧ h.1 0 3 = nI p ∧ n ≤ 240 ∧ p ≤ n
/-- the same but for where it reads, and the number -/
def gT (g g' : pS) : Prop := (∀ i, i ≠ 0 → g' i = g i) ∧ ∀ q, q ≠ 1 → q ≠ 2 → g' 0 q = g 0 q
def hA (h h' : mS) : Prop := (∀ i, i ≠ 0 → h'.1 i = h.1 i) ∧ (∀ q, q ≠ 3 → h'.1 0 q = h.1 0 q) ∧ h'.2 = h.2
def hT (h h' : mS) : Prop := (∀ i, i ≠ 0 → h'.1 i = h.1 i) ∧ (∀ q, q ≠ 3 → q ≠ 4 → h'.1 0 q = h.1 0 q) ∧ h'.2 = h.2
theorem gT.rf {g : pS} : gT g g := ⟨fun _ _ => rfl, fun _ _ _ => rfl⟩
theorem gT.tr {a b c : pS} (h : gT a b) (k : gT b c) : gT a c := ⟨fun i hi => (k.1 i hi).trans (h.1 i hi), fun q h1 h2 => (k.2 q h1 h2).trans (h.2 q h1 h2)⟩
theorem hA.rf {g : mS} : hA g g := ⟨fun _ _ => rfl, fun _ _ => rfl, rfl⟩
theorem hA.tr {a b c : mS} (h : hA a b) (k : hA b c) : hA a c := ⟨fun i hi => (k.1 i hi).trans (h.1 i hi), fun q h1 => (k.2.1 q h1).trans (h.2.1 q h1), k.2.2.trans h.2.2⟩
theorem hT.rf {g : mS} : hT g g := ⟨fun _ _ => rfl, fun _ _ _ => rfl, rfl⟩
theorem hT.tr {a b c : mS} (h : hT a b) (k : hT b c) : hT a c := ⟨fun i hi => (k.1 i hi).trans (h.1 i hi), fun q h1 h2 => (k.2.1 q h1 h2).trans (h.2.1 q h1 h2), k.2.2.trans h.2.2⟩
theorem hA.t {a b : mS} (h : hA a b) : hT a b := ⟨h.1, fun q h3 _ => h.2.1 q h3, h.2.2⟩
theorem trow_n {g : pS} {j i : Nat} {f : Nat → Int32} (h : i ≠ j) : tRow g j f i = g i := if_neg h
theorem trow_s {g : pS} {j : Nat} {f : Nat → Int32} : tRow g j f j = f := if_pos rfl
theorem tfs_r {g : pS} {k i : Nat} {v : Int32} (h : i ≠ 0) : tFs g k v i = g i := trow_n h
theorem tfs_s {g : pS} {k : Nat} {v : Int32} : tFs g k v 0 k = v := by unfold tFs; rw [trow_s, upd_s]
theorem tfs_n {g : pS} {k q : Nat} {v : Int32} (h : q ≠ k) : tFs g k v 0 q = g 0 q := by unfold tFs; rw [trow_s, upd_n h]
theorem gT.f1 {g : pS} {v : Int32} : gT g (tFs g 1 v) := ⟨fun i hi => tfs_r hi, fun q h1 _ => tfs_n h1⟩
theorem gT.f2 {g : pS} {v : Int32} : gT g (tFs g 2 v) := ⟨fun i hi => tfs_r hi, fun q _ h2 => tfs_n h2⟩
theorem hA.f3 {g : mS} {v : Int32} : hA g (mFs g 3 v) := ⟨fun i hi => fs_r hi, fun q h => fs_n h, rfl⟩
theorem hT.f4 {g : mS} {v : Int32} : hT g (mFs g 4 v) := ⟨fun i hi => fs_r hi, fun q _ h => fs_n h, rfl⟩
theorem clT.to {n p p' : Nat} {g g' : pS} (h : clT n p g) (k : gT g g') (e : g' 0 1 = nI p') (hp : p' ≤ n) : clT n p' g' := ⟨(k.2 0 (by omega) (by omega)).trans h.1, e, h.2.2.1, hp⟩
theorem mlT.to {n p p' : Nat} {g g' : mS} (h : mlT n p g) (k : hT g g') (e : g'.1 0 3 = nI p') (hp : p' ≤ n) : mlT n p' g' := ⟨(k.2.1 2 (by omega) (by omega)).trans h.1, e, h.2.2.1, hp⟩
section TXT
variable {u n p : Nat} {g : pS} {h : mS}
theorem T_sign (hc : clT n p g) : fT_signHere u g = some (sgn (g 1) n p) := by
  obtain ⟨h0, h1, h2, h3⟩ := hc
  unfold fT_signHere sgn
  rw [h0, h1]
  simp (disch := omega) only [izN, leI]
  by_cases c : p < n
  · rw [if_neg (by omega), if_neg (by omega), if_pos c, rd_nI (show p < tlen 1 by show p < 240; omega) (show (240 : Nat) ≤ 100000 by omega)]
    rfl
  · rw [if_pos (by omega), if_neg c]
theorem M_here (hm : mlT n p h) : fM_here u h = some (sgn (h.1 1) n p) := by
  obtain ⟨h0, h1, h2, h3⟩ := hm
  unfold fM_here sgn
  rw [h0, h1]
  simp (disch := omega) only [izN, leI]
  by_cases c : p < n
  · rw [if_neg (by omega), if_pos c, rd_nI (show p < mlen 1 by show p < 240; omega) (show (240 : Nat) ≤ 100000 by omega)]
    rfl
  · rw [if_pos (by omega), if_neg c]
theorem i32n : (nI 32 : Int32) ≠ iz (-1) := by decide +kernel
theorem T_next_l : ∀ (k p i v : Nat) (g : pS), n - p = k → clT n p g → i + k ≤ 240 → k < v → ok (nx_iter v (fT_nextSign_2 u) (nI i, g)) (fun g' => clT n (skT (g 1) n p) g' ∧ gT g g') := by
  intro k
  induction k with
  | zero =>
    intro p i v g hk hc hi hv
    obtain ⟨w, rfl⟩ : ∃ w, v = w + 1 := ⟨v - 1, by omega⟩
    have hs : sgn (g 1) n p ≠ nI 32 := by unfold sgn; rw [if_neg (by omega)]; exact Ne.symm i32n
    refine it_go (P := fun _ => False) ?_ (fun s' f => f.elim)
    unfold fT_nextSign_2
    simp only [T_sign hc, Option.bind_some, izN]
    rw [if_neg hs, ite_self]
    rw [skT_no hs]
    exact ok.ret ⟨hc, gT.rf⟩
  | succ k ih =>
    intro p i v g hk hc hi hv
    obtain ⟨w, rfl⟩ : ∃ w, v = w + 1 := ⟨v - 1, by omega⟩
    by_cases c : sgn (g 1) n p = nI 32
    · have hp : p < n := sgn_lt (by rw [c]; exact i32n)
      have hc' : clT n (p + 1) (tFs g 1 (nI (p + 1))) := hc.to gT.f1 tfs_s (by omega)
      have e1 : (tFs g 1 (nI (p + 1))) 1 = g 1 := tfs_r (by omega)
      refine it_go (P := fun s => s = (nI (i + 1), tFs g 1 (nI (p + 1)))) ?_ (fun s' e => ?_)
      · unfold fT_nextSign_2
        simp (disch := omega) only [T_sign hc, Option.bind_some, izN, leI]
        rw [if_neg (by omega), if_pos c, hc.2.1, nI_add, nI_add]
        exact ok.ret rfl
      · rw [e]
        refine (ih (p + 1) (i + 1) w _ (by omega) hc' (by omega) (by omega)).im (fun g' hg => ?_)
        rw [e1] at hg
        rw [skT_on hp ((sgn_v hp).symm.trans c)]
        exact ⟨hg.1, gT.f1.tr hg.2⟩
    · refine it_go (P := fun _ => False) ?_ (fun s' f => f.elim)
      unfold fT_nextSign_2
      simp only [T_sign hc, Option.bind_some, izN]
      rw [if_neg c, ite_self]
      rw [skT_no c]
      exact ok.ret ⟨hc, gT.rf⟩
theorem T_next (hu : 1000 ≤ u) (hc : clT n p g) : ok (fT_nextSign u g) (fun r => r.1 = sgn (g 1) n (skT (g 1) n p) ∧ clT n (skT (g 1) n p) r.2 ∧ gT g r.2) := by
  unfold fT_nextSign
  refine (T_next_l (n - p) p 0 u g rfl hc (by have := hc.2.2; omega) (by have := hc.2.2; omega)).bd (fun g' hg => ?_)
  rw [T_sign hg.1, hg.2.1 1 (by omega)]
  exact ok.ret ⟨rfl, hg⟩
theorem M_next_l : ∀ (k p v : Nat) (h : mS), n - p = k → mlT n p h → k < v → ok (nx_iter v (fM_ahead_0 u) h) (fun h' => mlT n (skT (h.1 1) n p) h' ∧ hA h h') := by
  intro k
  induction k with
  | zero =>
    intro p v g hk hc hv
    obtain ⟨w, rfl⟩ : ∃ w, v = w + 1 := ⟨v - 1, by omega⟩
    have hs : sgn (g.1 1) n p ≠ nI 32 := by unfold sgn; rw [if_neg (by omega)]; exact Ne.symm i32n
    refine it_go (P := fun _ => False) ?_ (fun s' f => f.elim)
    unfold fM_ahead_0
    simp only [M_here hc, Option.bind_some, izN]
    rw [if_neg hs]
    rw [skT_no hs]
    exact ok.ret ⟨hc, hA.rf⟩
  | succ k ih =>
    intro p v g hk hc hv
    obtain ⟨w, rfl⟩ : ∃ w, v = w + 1 := ⟨v - 1, by omega⟩
    by_cases c : sgn (g.1 1) n p = nI 32
    · have hp : p < n := sgn_lt (by rw [c]; exact i32n)
      have hc' : mlT n (p + 1) (mFs g 3 (nI (p + 1))) := hc.to hA.f3.t fs_s (by omega)
      have e1 : (mFs g 3 (nI (p + 1))).1 1 = g.1 1 := fs_r (by omega)
      refine it_go (P := fun s => s = mFs g 3 (nI (p + 1))) ?_ (fun s' e => ?_)
      · unfold fM_ahead_0
        simp (disch := omega) only [M_here hc, Option.bind_some, izN]
        rw [if_pos c, hc.2.1, nI_add]
        exact ok.ret rfl
      · rw [e]
        refine (ih (p + 1) w _ (by omega) hc' (by omega)).im (fun g' hg => ?_)
        rw [e1] at hg
        rw [skT_on hp ((sgn_v hp).symm.trans c)]
        exact ⟨hg.1, hA.f3.tr hg.2⟩
    · refine it_go (P := fun _ => False) ?_ (fun s' f => f.elim)
      unfold fM_ahead_0
      simp only [M_here hc, Option.bind_some, izN]
      rw [if_neg c]
      rw [skT_no c]
      exact ok.ret ⟨hc, hA.rf⟩
theorem M_next (hu : 1000 ≤ u) (hc : mlT n p h) : ok (fM_ahead u h) (fun r => r.1 = sgn (h.1 1) n (skT (h.1 1) n p) ∧ mlT n (skT (h.1 1) n p) r.2 ∧ hA h r.2) := by
  unfold fM_ahead
  refine (M_next_l (n - p) p u h rfl hc (by have := hc.2.2; omega)).bd (fun g' hg => ?_)
  rw [M_here hg.1, hg.2.1 1 (by omega)]
  exact ok.ret ⟨rfl, hg⟩
def isDg (x : Int32) : Bool := decide (¬ x < nI 48 ∧ ¬ nI 57 < x)
theorem isDg_of {x : Int32} (e : isDg x = true) : ∃ d, d ≤ 9 ∧ x = nI (48 + d) := by
  unfold isDg at e
  obtain ⟨a, ha, h1, h2⟩ := iz_of x
  have e := of_decide_eq_true e
  rw [ha, ← iz_cast 48, ← iz_cast 57, iz_lt (by omega) (by omega) (by omega) (by omega), iz_lt (by omega) (by omega) (by omega) (by omega)] at e
  refine ⟨(a - 48).toNat, by omega, ?_⟩
  rw [ha, ← iz_cast]
  congr 1
  omega
theorem isDg_m1 : isDg (iz (-1)) = false := by decide +kernel
theorem M_isDigit {x : Int32} : fM_isDigit u x = some (isDg x) := by
  unfold fM_isDigit isDg
  simp only [izN]
  by_cases c : x < nI 48
  · simp [c]
  · by_cases d : nI 57 < x <;> simp [c, d]
theorem T_digit (hc : clT n p g) : fT_digitHere u g = some (if isDg (sgn (g 1) n p) = true then sgn (g 1) n p - nI 48 else iz (-1)) := by
  unfold fT_digitHere
  simp only [T_sign hc, Option.bind_some, izN]
  unfold isDg
  by_cases c : sgn (g 1) n p < nI 48
  · simp [c]
  · by_cases d : nI 57 < sgn (g 1) n p <;> simp [c, d]
theorem T_digit_n (hc : clT n p g) (e : isDg (sgn (g 1) n p) = false) : fT_digitHere u g = some (iz (-1)) := by rw [T_digit hc, if_neg (by rw [e]; simp)]
theorem T_digit_y (hc : clT n p g) {d : Nat} (e : isDg (sgn (g 1) n p) = true) (ed : sgn (g 1) n p = nI (48 + d)) : fT_digitHere u g = some (nI d) := by
  rw [T_digit hc, if_pos e, ed, subI (by omega), show 48 + d - 48 = d by omega]
theorem M_bad (hw : h.1 0 4 = iz (-1)) : fM_bad u h = some (mFs h 4 (h.1 0 3)) := by
  unfold fM_bad
  rw [if_pos hw]
  rfl
theorem M_in2 {v lo hi : Nat} (h1 : v < 1000) (h2 : lo < 1000) (h3 : hi < 1000) : fM_in u (nI v) (nI lo) (nI hi) = some (decide (lo ≤ v ∧ v ≤ hi)) := by
  unfold fM_in
  simp (disch := omega) only [ltI]
  by_cases c : v < lo
  · rw [if_pos c, decide_eq_false (by omega)]
  · by_cases d : hi < v
    · rw [if_neg c, if_pos d, decide_eq_false (by omega)]
    · rw [if_neg c, if_neg d, decide_eq_true (by omega)]
theorem T_rng {v lo hi : Nat} (hc : clT n (p + 1) g) (h2 : g 0 2 = nI v) (hv : v < 1000) (hl : lo < 1000) (hh : hi < 1000) : (if (g 0 2) < nI lo then some (false, tFs g 1 ((g 0 1) - nI 1)) else if (g 0 2) ≤ nI hi then some (true, g) else some (false, tFs g 1 ((g 0 1) - nI 1))) = some (decide (lo ≤ v ∧ v ≤ hi), if lo ≤ v ∧ v ≤ hi then g else tFs g 1 (nI p)) := by
  rw [h2, hc.2.1, decI]
  simp (disch := omega) only [ltI, leI]
  by_cases c : v < lo
  · rw [if_pos c, decide_eq_false (by omega), if_neg (by omega)]
  · by_cases d : v ≤ hi
    · rw [if_neg c, if_pos d, decide_eq_true (by omega), if_pos (by omega)]
    · rw [if_neg c, if_neg d, decide_eq_false (by omega), if_neg (by omega)]
theorem M_rng {v lo hi : Nat} (hc : mlT n (p + 1) h) (hw : h.1 0 4 = iz (-1)) (hv : v < 1000) (hl : lo < 1000) (hh : hi < 1000) : ((fM_in u (nI v) (nI lo) (nI hi)).bind fun b12 => if b12 = true then some h else (fM_bad u (mFs h 3 ((h.1 0 3) - nI 1))).bind fun g14 => some g14) = some (if lo ≤ v ∧ v ≤ hi then h else mFs (mFs h 3 (nI p)) 4 (nI p)) := by
  rw [M_in2 hv hl hh]
  simp only [Option.bind_some]
  by_cases c : lo ≤ v ∧ v ≤ hi
  · rw [decide_eq_true c, if_pos rfl, if_pos c]
  · rw [decide_eq_false c, if_neg (by simp), if_neg c, hc.2.1, decI, M_bad (by rw [fs_n (by omega)]; exact hw), fs_s]
    rfl
end TXT
