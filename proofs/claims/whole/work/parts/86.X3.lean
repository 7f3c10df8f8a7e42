/-! ===== texts: rules ===== -/
def itm (x : Int32) : Int32 := if x = nI 109 then nI 0 else if x = nI 112 then nI 1 else if x = nI 116 then nI 2 else iz (-1)
theorem itm_c (x : Int32) : itm x = iz (-1) ∨ ∃ e, e < 3 ∧ itm x = nI e ∧ x ≠ iz (-1) := by
  unfold itm
  by_cases a : x = nI 109
  · rw [if_pos a]; exact Or.inr ⟨0, by omega, rfl, by rw [a]; exact neN1 (by omega)⟩
  · rw [if_neg a]
    by_cases b : x = nI 112
    · rw [if_pos b]; exact Or.inr ⟨1, by omega, rfl, by rw [b]; exact neN1 (by omega)⟩
    · rw [if_neg b]
      by_cases c : x = nI 116
      · rw [if_pos c]; exact Or.inr ⟨2, by omega, rfl, by rw [c]; exact neN1 (by omega)⟩
      · rw [if_neg c]; exact Or.inl rfl
theorem sv_00 : nx_sv 0 0 = nI 109 := by decide +kernel
theorem sv_01 : nx_sv 0 1 = nI 112 := by decide +kernel
theorem sv_02 : nx_sv 0 2 = nI 116 := by decide +kernel
theorem rd3 {m : Nat} {f : Nat → Int32} (hm : m < 3) : nx_rd 3 f (nI m) = some (f m) := rd_nI hm (by omega)
theorem T_ruleBy {u : Nat} (hu : 1000 ≤ u) (x : Int32) : fT_ruleBy u x = some (itm x) := by
  unfold fT_ruleBy itm
  obtain ⟨w, rfl⟩ : ∃ w, u = w + 4 := ⟨u - 4, by omega⟩
  simp only [izN]
  have hb : ∀ i, i < 3 → fT_ruleBy_2 x (nI i) = if nx_sv 0 i = x then some (.inr (.inr (nI i))) else some (.inl (nI (i + 1))) := fun i hi => by
    unfold fT_ruleBy_2
    simp (disch := omega) only [izN, leI, rd3, Option.bind_some, nI_add]
    rw [if_neg (by omega)]
  have he : fT_ruleBy_2 x (nI 3) = some (.inr (.inl ())) := by
    unfold fT_ruleBy_2
    simp (disch := omega) only [izN, leI]
    rw [if_pos (by omega)]
  have h0 := hb 0 (by omega)
  have h1 := hb 1 (by omega)
  have h2 := hb 2 (by omega)
  rw [sv_00] at h0
  rw [sv_01] at h1
  rw [sv_02] at h2
  by_cases a : x = nI 109
  · rw [if_pos a.symm] at h0
    rw [it_end h0 (by omega), if_pos a]
    rfl
  · rw [if_neg (Ne.symm a)] at h0
    rw [it_on h0, if_neg a]
    by_cases b : x = nI 112
    · rw [if_pos b.symm] at h1
      rw [it_end h1 (by omega), if_pos b]
      rfl
    · rw [if_neg (Ne.symm b)] at h1
      rw [it_on h1, if_neg b]
      by_cases c : x = nI 116
      · rw [if_pos c.symm] at h2
        rw [it_end h2 (by omega), if_pos c]
        rfl
      · rw [if_neg (Ne.symm c)] at h2
        rw [it_on h2, it_end he (by omega), if_neg c]
        rfl
theorem n115_107 : nI 115 ≠ nI 107 := by decide +kernel
theorem M_itemS {u : Nat} (x : Int32) : fM_itemOf u (nI 115) x = some (itm x) := by
  unfold fM_itemOf itm
  simp only [izN]
  rw [if_neg n115_107]
  by_cases a : x = nI 109
  · rw [if_pos a, if_pos a]
  · rw [if_neg a, if_neg a]
    by_cases b : x = nI 112
    · rw [if_pos b, if_pos b]
    · rw [if_neg b, if_neg b]
      by_cases c : x = nI 116
      · rw [if_pos c, if_pos c]
      · rw [if_neg c, if_neg c]
def loE : Nat → Nat
  | 1 => 0
  | _ => 2
def hiE : Nat → Nat
  | 0 => 9
  | 1 => 1
  | _ => 20
theorem e3 {e : Nat} (h : e < 3) : e = 0 ∨ e = 1 ∨ e = 2 := by omega
theorem sv_1 {e : Nat} (h : e < 3) : nx_sv 1 e = nI (loE e) := by
  rcases e3 h with rfl | rfl | rfl <;> decide +kernel
theorem sv_2 {e : Nat} (h : e < 3) : nx_sv 2 e = nI (hiE e) := by
  rcases e3 h with rfl | rfl | rfl <;> decide +kernel
theorem M_low {u e : Nat} (h : e < 3) : fM_lowest u (nI 115) (nI e) = some (nI (loE e)) := by
  unfold fM_lowest
  simp (disch := omega) only [izN, eqI]
  rcases e3 h with rfl | rfl | rfl <;> simp [loE]
theorem M_high {u e : Nat} (h : e < 3) : fM_highest u (nI 115) (nI e) = some (nI (hiE e)) := by
  unfold fM_highest
  simp (disch := omega) only [izN, eqI]
  rcases e3 h with rfl | rfl | rfl <;> simp [hiE]
theorem lohi {e : Nat} : loE e ≤ 99 ∧ hiE e ≤ 99 := by
  unfold loE hiE
  constructor <;> split <;> omega
def hasS (S e : Nat) : Bool := decide (S / 2 ^ e % 2 = 1)
def pcS (S : Nat) : Nat := S % 2 + S / 2 % 2 + S / 4 % 2
def orS (S e : Nat) : Nat := S + 2 ^ e
theorem bt_has' : ∀ S : Fin 8, ∀ e : Fin 3, decide (((nI S.1 >>> (nI e.1 &&& 31)) &&& nI 1) = nI 1) = hasS S.1 e.1 := by decide +kernel
theorem bt_has {S e : Nat} (hS : S < 8) (he : e < 3) : (((nI S >>> (nI e &&& 31)) &&& nI 1) = nI 1) ↔ hasS S e = true := by
  have := bt_has' ⟨S, hS⟩ ⟨e, he⟩
  dsimp only at this
  rw [← this]
  simp
theorem bt_or' : ∀ S : Fin 8, ∀ e : Fin 3, hasS S.1 e.1 = false → (nI S.1 ||| (nI 1 <<< (nI e.1 &&& 31))) = nI (orS S.1 e.1) ∧ orS S.1 e.1 < 8 ∧ pcS (orS S.1 e.1) = pcS S.1 + 1 := by decide +kernel
theorem bt_or {S e : Nat} (hS : S < 8) (he : e < 3) (h : hasS S e = false) : (nI S ||| (nI 1 <<< (nI e &&& 31))) = nI (orS S e) ∧ orS S e < 8 ∧ pcS (orS S e) = pcS S + 1 := bt_or' ⟨S, hS⟩ ⟨e, he⟩ h
theorem bt_all' : ∀ S : Fin 8, ∀ e : Fin 3, pcS S.1 = 3 → hasS S.1 e.1 = true := by decide +kernel
theorem bt_all {S e : Nat} (hS : S < 8) (he : e < 3) (h : pcS S = 3) : hasS S e = true := bt_all' ⟨S, hS⟩ ⟨e, he⟩ h
def RR (g : pS) (h : mS) : Prop := (∀ i, i < 3 → g 2 i = h.1 2 i) ∧ (∃ a, 2 ≤ a ∧ a ≤ 9 ∧ g 2 0 = nI a) ∧ ∃ a, 2 ≤ a ∧ a ≤ 20 ∧ g 2 2 = nI a
def gU (j : Nat) (g g' : pS) : Prop := (∀ i, i ≠ 0 → i ≠ j → g' i = g i) ∧ ∀ q, q ≠ 1 → q ≠ 2 → g' 0 q = g 0 q
def hU (j : Nat) (h h' : mS) : Prop := (∀ i, i ≠ 0 → i ≠ j → h'.1 i = h.1 i) ∧ (∀ q, q ≠ 3 → q ≠ 4 → h'.1 0 q = h.1 0 q) ∧ h'.2 = h.2
theorem gT.r {j : Nat} {g g' : pS} (h : gT g g') : gU j g g' := ⟨fun i hi _ => h.1 i hi, h.2⟩
theorem hT.r {j : Nat} {g g' : mS} (h : hT g g') : hU j g g' := ⟨fun i hi _ => h.1 i hi, h.2⟩
theorem gU.tr {j : Nat} {a b c : pS} (h : gU j a b) (k : gU j b c) : gU j a c := ⟨fun i hi hj => (k.1 i hi hj).trans (h.1 i hi hj), fun q h1 h2 => (k.2 q h1 h2).trans (h.2 q h1 h2)⟩
theorem hU.tr {j : Nat} {a b c : mS} (h : hU j a b) (k : hU j b c) : hU j a c := ⟨fun i hi hj => (k.1 i hi hj).trans (h.1 i hi hj), fun q h1 h2 => (k.2.1 q h1 h2).trans (h.2.1 q h1 h2), k.2.2.trans h.2.2⟩
theorem gU.row {j : Nat} {g : pS} {f : Nat → Int32} (hj : j ≠ 0) : gU j g (tRow g j f) := ⟨fun i _ h => trow_n h, fun q _ _ => by rw [trow_n (Ne.symm hj)]⟩
theorem hU.row {j : Nat} {g : mS} {f : Nat → Int32} (hj : j ≠ 0) : hU j g (mRow g j f) := ⟨fun i _ h => mRow_n h, fun q _ _ => by rw [mRow_n (Ne.symm hj)], rfl⟩
theorem clT.row {n p j : Nat} {g : pS} {f : Nat → Int32} (h : clT n p g) (hj : j ≠ 0) : clT n p (tRow g j f) := by
  unfold clT
  rw [trow_n (Ne.symm hj)]
  exact h
theorem mlT.row {n p j : Nat} {g : mS} {f : Nat → Int32} (h : mlT n p g) (hj : j ≠ 0) : mlT n p (mRow g j f) := by
  unfold mlT
  rw [mRow_n (Ne.symm hj)]
  exact h
theorem pOk.row {n j : Nat} {g : pS} {h : mS} {f f' : Nat → Int32} (ho : pOk n g h) (hj : j ≠ 0) (hj1 : j ≠ 1) {i : Nat} (hi : i ≠ 0) (hi1 : i ≠ 1) : pOk n (tRow g j f) (mRow h i f') := by
  obtain ⟨h1, h2, p, q, hc, hm, e⟩ := ho
  refine ⟨by rw [trow_n (Ne.symm hj1), mRow_n (Ne.symm hi1)]; exact h1, by rw [mRow_n (Ne.symm hi)]; exact h2, p, q, hc.row hj, hm.row hi, by rw [trow_n (Ne.symm hj1)]; exact e⟩
theorem T_pass {u n p : Nat} {g : pS} (hc : clT n p g) : fT_pass u g = some (tFs g 1 (nI (p + 1))) := by
  unfold fT_pass
  simp only [izN]
  rw [hc.2.1, nI_add]
  rfl
theorem tWr2_at {m : Nat} {g : pS} {v : Int32} (hm : m < 3) : tWr g 2 (nI m) v = some (tRow g 2 (upd (g 2) m v)) := by
  unfold tWr
  rw [wr_nI (show m < tlen 2 from hm) (show (3 : Nat) ≤ 100000 by omega)]
  rfl
theorem mWr2_at {m : Nat} {g : mS} {v : Int32} (hm : m < 3) : mWr g 2 (nI m) v = some (mRow g 2 (upd (g.1 2) m v)) := mWr_at (show m < mlen 2 from hm) (show (3 : Nat) ≤ 100000 by omega)
/-- class and Model step over a sign -/
theorem pOk.ps {n q : Nat} {g : pS} {h : mS} (ht : g 1 = h.1 1) (hw : h.1 0 4 = iz (-1)) (hc : clT n q g) (hm : mlT n q h) (hq : q < n) : pOk n (tFs g 1 (nI (q + 1))) (mFs h 3 (nI (q + 1))) :=
  pOk.at (by rw [tfs_r (by omega), fs_r (by omega)]; exact ht) (by rw [fs_n (by omega)]; exact hw) (hc.to gT.f1 tfs_s (by omega)) (hm.to hA.f3.t fs_s (by omega))
