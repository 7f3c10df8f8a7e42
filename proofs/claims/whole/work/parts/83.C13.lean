/-! .. Model -/
def whoM (p : Nat → Bool) (t : Nat) : Int32 := setA (fun s => p s && decide (t ≤ s)) 8
theorem clr : ∀ (n : Fin 256) (i : Fin 8), tb (nI n.val &&& (nI n.val - nI 1)) i.val = (tb (nI n.val) i.val && anyP (fun j => decide (j < i.val) && tb (nI n.val) j) 8) := by decide +kernel
theorem who_clr {p : Nat → Bool} {t o : Nat} (h1 : t ≤ o) (h2 : o < 8) (h3 : p o = true) (h4 : ∀ s, t ≤ s → s < o → p s = false) : whoM p t &&& (whoM p t - nI 1) = whoM p (o + 1) := by
  have h8 : ∀ i, tb (whoM p t) i = true → i < 8 := set_8
  obtain ⟨n, hn, e⟩ := mask8 h8
  apply tb_ext
  intro i _
  by_cases c : i < 8
  · have hb : ∀ s, s < 8 → tb (whoM p t) s = (p s && decide (t ≤ s)) := fun s hs => set_b hs
    have hr : tb (whoM p (o + 1)) i = (p i && decide (o + 1 ≤ i)) := set_b c
    have key := clr ⟨n, hn⟩ ⟨i, c⟩
    dsimp only at key
    rw [← e] at key
    rw [key, hr, hb i c]
    cases hp : p i with
    | false => rfl
    | true =>
      by_cases ci : o + 1 ≤ i
      · have : anyP (fun j => decide (j < i) && tb (whoM p t) j) 8 = true := anyP_iff.mpr ⟨o, h2, by
          show (decide (o < i) && tb (whoM p t) o) = true
          rw [hb o h2, h3]
          simp
          omega⟩
        rw [this]
        simp [ci]
        omega
      · have : (decide (t ≤ i) && anyP (fun j => decide (j < i) && tb (whoM p t) j) 8) = false := by
          cases ha : anyP (fun j => decide (j < i) && tb (whoM p t) j) 8 with
          | false => simp
          | true =>
            obtain ⟨j, hj, hh⟩ := anyP_iff.mp ha
            rw [Bool.and_eq_true, hb j hj, Bool.and_eq_true] at hh
            have a1 := of_decide_eq_true hh.1
            have a2 := of_decide_eq_true hh.2.2
            rw [h4 j a2 (by omega)] at hh
            exact absurd hh.2.1 (by decide)
        rw [Bool.true_and, this]
        simp [ci]
  · have a1 : tb (whoM p t) i = false := by
      cases e : tb (whoM p t) i with
      | false => rfl
      | true => exact absurd (h8 i e) c
    have a2 : tb (whoM p (o + 1)) i = false := by
      cases e : tb (whoM p (o + 1)) i with
      | false => rfl
      | true => exact absurd (set_8 i e) c
    rw [tb_and, a1, a2]
    rfl
section ODDSM
variable {u : Nat} {Γ : nx_G} {x A B : Nat}
theorem M_sureParts (hu : 1000 ≤ u) {g0 g : mS} {R : ER} {m0 : Int32} {h0 : Nat → Int32} {D : Nat → List De} {T : ET} (h : RM g0 R m0 (some h0) D g T) (hE : EI R D T) {tg : Nat} (htg : tg < 8) : ∃ g', fM_sureParts u g (nI tg) = some (if tSd (cmA R T 8) 0 tg = nI 3 then nI 1 else nI 0, g') ∧ RM g0 R m0 (some h0) D g' (cmA R T 8) := by
  have hl : ok (nx_iter u (fM_sureParts_2 u) (nI 0, g)) (fun g' => RM g0 R m0 (some h0) D g' (cmA R T 8)) := by
    refine it_inv (fun i s => s.1 = nI i ∧ RM g0 R m0 (some h0) D s.2 (cmA R T i)) 8 (fun i s hi hI => ?_) (fun s hI => ?_) (i := 0) ⟨rfl, h⟩ (by omega) (by omega)
    · obtain ⟨e1, h1⟩ := hI
      unfold fM_sureParts_2
      rw [e1]
      simp (disch := omega) only [izN, leI, M_stA hu h1 hi, Option.bind_some, nI_add]
      rw [if_neg (by omega)]
      by_cases cs : tSd (cmA R T i) 0 i = nI 1
      · rw [if_pos cs]
        obtain ⟨r, er, r1, r2⟩ := M_commitNow hu h1 (hE.ca i (by omega)).1 hi (lv1 cs)
        rw [er]
        refine ok.ret ⟨rfl, ?_⟩
        show RM g0 R m0 (some h0) D r.2 (cmA R T (i + 1))
        unfold cmA
        rw [if_pos cs]
        exact r2
      · rw [if_neg cs]
        refine ok.ret ⟨rfl, ?_⟩
        show RM g0 R m0 (some h0) D s.2 (cmA R T (i + 1))
        unfold cmA
        rw [if_neg cs]
        exact h1
    · obtain ⟨e1, h1⟩ := hI
      unfold fM_sureParts_2
      rw [e1]
      simp (disch := omega) only [izN, leI]
      rw [if_pos (by omega)]
      exact ok.ret h1
  obtain ⟨g', e, h'⟩ := hl
  refine ⟨g', ?_, h'⟩
  unfold fM_sureParts
  simp only [izN]
  rw [e, Option.bind_some, M_stA hu h' htg (by omega), Option.bind_some]
  split <;> rfl
theorem oddsM (hu : 1000 ≤ u) {R : ER} {p : Nat → Bool} {tg ch : Nat} (htg : tg < 8) (hch : ch ≤ 100) {Dd : Nat → List De} : ∀ (n v : Nat), n < v → ∀ {t e q : Nat} {T : ET} {g : mS}, t ≤ 8 → (dsl p t (8 - t)).length = n → e + n ≤ 8 → q ≤ 1000000000 → rulI R g → rM (some (g.1 7)) Dd (g.1 7) T → EI R Dd T → ∃ g', fM_oddsFrom v u g (nI tg) (whoM p t) (nI ch) (nI q) (nI e) = some (nI (ovV R tg ch (dsl p t (8 - t)) T q), g') ∧ mE g g' ∧ g'.1 7 = g.1 7 ∧ ∀ j, j < 639 * e → g'.1 11 j = g.1 11 j := by
  intro n
  induction n with
  | zero =>
    intro v hv t e q T g ht hn he hq hr h7 hE
    obtain ⟨w, rfl⟩ : ∃ w, v = w + 1 := ⟨v - 1, by omega⟩
    have hnil : dsl p t (8 - t) = [] := List.length_eq_zero_iff.mp hn
    have hp : ∀ s, t ≤ s → s < 8 → p s = false := by
      rcases dsl_next (p := p) (8 - t) t (by omega) with ⟨_, h2⟩ | ⟨o, _, _, _, _, h5⟩
      · exact h2
      · rw [hnil] at h5; cases h5
    have hwho : whoM p t = nI 0 := set_0.mpr (fun s hs => by
      by_cases c : t ≤ s
      · rw [hp s c hs]; rfl
      · simp [c])
    obtain ⟨aa, p1, p2, p3⟩ := M_put hu g (d := e) (by omega)
    have e37 : (mRow (mFs g 15 (nI 1)) 11 aa).1 7 = g.1 7 := by rw [mRow_n (by omega), fs_r (by omega)]
    have hm3 : mE g (mRow (mFs g 15 (nI 1)) 11 aa) := (mE.fs (by omega)).tr (mE.row (by omega))
    have h315 : (mRow (mFs g 15 (nI 1)) 11 aa).1 0 15 = nI 1 := by rw [mRow_n (by omega), fs_s]
    have e311 : (mRow (mFs g 15 (nI 1)) 11 aa).1 11 = aa := mRow_s
    have hrm := RM.start (hr.to hm3) (tr := some (g.1 7)) (D := Dd) (T := T) (by rw [e37]; exact h7) h315
    rw [e37] at hrm
    generalize mRow (mFs g 15 (nI 1)) 11 aa = g3 at p1 e37 hm3 h315 e311 hrm
    obtain ⟨g4, s1, s2⟩ := M_sureParts hu hrm hE htg
    obtain ⟨bb, vv, b0, _, b1, b2⟩ := M_bring hu g4 (d := e) (by omega)
    have e411 : g4.1 11 = aa := (s2.1.1 11 (by omega) (by omega)).trans e311
    have eb : bb = g.1 7 := by
      funext j
      by_cases cj : j < 639
      · rw [b1 j cj, e411]
        exact p2 j cj
      · rw [b2 j (by omega), s2.log j (by omega)]
    refine ⟨mFs (mRow (mFs g4 15 vv) 7 bb) 15 (nI 1), ?_, ((hm3.tr s2.1.mE).tr ((mE.fs (by omega)).tr (mE.row (by omega)))).tr (mE.fs (by omega)), by rw [fs_r (by omega), mRow_s, eb], fun j hj => ?_⟩
    · show fM_oddsFrom_b u (fM_oddsFrom w u) g (nI tg) (whoM p t) (nI ch) (nI q) (nI e) = _
      unfold fM_oddsFrom_b
      rw [p1, hwho]
      simp only [Option.bind_some, izN, if_true]
      rw [s1]
      simp only [Option.bind_some]
      rw [b0, hnil]
      simp only [Option.bind_some]
      unfold ovV
      by_cases c3 : tSd (cmA R T 8) 0 tg = nI 3
      · rw [if_pos c3, if_pos c3, mulI, Nat.one_mul]
      · rw [if_neg c3, if_neg c3, mulI, Nat.zero_mul]
    · rw [fs_r (by omega), mRow_n (by omega), fs_r (by omega), e411]
      exact p3 j (Or.inl hj)
  | succ n ih =>
    intro v hv t e q T g ht hn he hq hr h7 hE
    obtain ⟨w, rfl⟩ : ∃ w, v = w + 1 := ⟨v - 1, by omega⟩
    rcases dsl_next (p := p) (8 - t) t (by omega) with ⟨h1, _⟩ | ⟨o, o1, o2, o3, o4, o5⟩
    · rw [h1] at hn; cases hn
    · have hn' : (dsl p (o + 1) (8 - (o + 1))).length = n := by rw [o5] at hn; simpa using hn
      have hwho : whoM p t ≠ nI 0 := fun hh => by
        have := set_0.mp hh o o2
        rw [o3] at this
        simp [o1] at this
      obtain ⟨aa, p1, p2, p3⟩ := M_put hu g (d := e) (by omega)
      have e37 : (mRow (mFs g 15 (nI 1)) 11 aa).1 7 = g.1 7 := by rw [mRow_n (by omega), fs_r (by omega)]
      have hm3 : mE g (mRow (mFs g 15 (nI 1)) 11 aa) := (mE.fs (by omega)).tr (mE.row (by omega))
      have h315 : (mRow (mFs g 15 (nI 1)) 11 aa).1 0 15 = nI 1 := by rw [mRow_n (by omega), fs_s]
      have e311 : (mRow (mFs g 15 (nI 1)) 11 aa).1 11 = aa := mRow_s
      have hr3 := hr.to hm3
      have hrm := RM.start hr3 (tr := some (g.1 7)) (D := Dd) (T := T) (by rw [e37]; exact h7) h315
      rw [e37] at hrm
      generalize mRow (mFs g 15 (nI 1)) 11 aa = g3 at p1 e37 hm3 h315 e311 hrm hr3
      -- behind the fall
      have hfl : ∃ g4, (if lvT T o = true then (fM_fall u g3 (nI o)).bind fun p7 => some p7.2 else some g3 : Option mS) = some g4 ∧ mE g3 g4 ∧ g4.1 11 = aa ∧ rM (some (g4.1 7)) Dd (g4.1 7) (flI T o) ∧ ∀ j, 639 ≤ j → g4.1 7 j = g.1 7 j := by
        unfold flI
        by_cases cl : lvT T o = true
        · rw [if_pos cl, if_pos cl]
          obtain ⟨r, er, r1, r2⟩ := M_fall hu hrm hE.1.1 hE.1.wk o2 cl
          rw [er]
          exact ⟨r.2, rfl, r2.1.mE, (r2.1.1 11 (by omega) (by omega)).trans e311, r2.2.2.2.tri, r2.log⟩
        · rw [if_neg cl, if_neg cl]
          exact ⟨g3, rfl, mE.rf, e311, hrm.2.2.2.tri, fun j _ => by rw [e37]⟩
      obtain ⟨g4, f1, f2, f3, f4, f5⟩ := hfl
      have hcl := ch_le (p := q) hch
      obtain ⟨g5, y1, y2, y3, y4⟩ := ih w (by omega) (t := o + 1) (e := e + 1) (q := q * ch / 100) (by omega) hn' (by omega) (by omega) (hr3.to f2) f4 (hE.fl o2)
      obtain ⟨bb, vv, b0, _, b1, b2⟩ := M_bring hu g5 (d := e) (by omega)
      have eb : bb = g.1 7 := by
        funext j
        by_cases cj : j < 639
        · rw [b1 j cj, y4 _ (by omega), f3]
          exact p2 j cj
        · rw [b2 j (by omega), y3, f5 j (by omega)]
      have hm6 : mE g (mFs (mRow (mFs g5 15 vv) 7 bb) 15 (nI 1)) := (((hm3.tr f2).tr y2).tr ((mE.fs (by omega)).tr (mE.row (by omega)))).tr (mE.fs (by omega))
      have e67 : (mFs (mRow (mFs g5 15 vv) 7 bb) 15 (nI 1)).1 7 = g.1 7 := by rw [fs_r (by omega), mRow_s, eb]
      have e611 : (mFs (mRow (mFs g5 15 vv) 7 bb) 15 (nI 1)).1 11 = g5.1 11 := by rw [fs_r (by omega), mRow_n (by omega), fs_r (by omega)]
      obtain ⟨g7, z1, z2, z3, z4⟩ := ih w (by omega) (t := o + 1) (e := e + 1) (q := q - q * ch / 100) (by omega) hn' (by omega) (by omega) (hr.to hm6) (by rw [e67]; exact h7) hE
      refine ⟨g7, ?_, hm6.tr z2, z3.trans e67, fun j hj => ?_⟩
      · show fM_oddsFrom_b u (fM_oddsFrom w u) g (nI tg) (whoM p t) (nI ch) (nI q) (nI e) = _
        have hlow : nx_iter u (fM_oddsFrom_40 u (whoM p t)) (nI 0) = some (nI o) := by
          refine it_up (b := fM_oddsFrom_40 u (whoM p t)) (fun i => nI i) o (fun i hi => ?_) ?_ (i := 0) (by omega) (by omega)
          · unfold fM_oddsFrom_40
            rw [M_has u (x := whoM p t) set_8 (by omega), Option.bind_some]
            have : tb (whoM p t) i = false := by
              have e : tb (whoM p t) i = (p i && decide (t ≤ i)) := set_b (by omega)
              rw [e]
              by_cases c : t ≤ i
              · rw [o4 i c hi]; rfl
              · simp [c]
            rw [this]
            simp only [Bool.false_eq_true, if_false, izN, nI_add]
          · unfold fM_oddsFrom_40
            rw [M_has u (x := whoM p t) set_8 o2, Option.bind_some]
            have : tb (whoM p t) o = true := by
              have e : tb (whoM p t) o = (p o && decide (t ≤ o)) := set_b o2
              rw [e, o3]
              simp [o1]
            rw [this]
            rfl
        unfold fM_oddsFrom_b fM_oddsFrom_84k0
        simp only [izN]
        rw [p1, Option.bind_some, if_neg hwho, hlow, Option.bind_some, nI_l (show q < 2 ^ 31 by omega), dvl_n hq hch, Option.bind_some, M_isOn hu hrm hE.1.1.1 hE.1.1.2.1 o2, Option.bind_some, f1, Option.bind_some, who_clr o1 o2 o3 o4, lN_i, nI_add, y1, Option.bind_some]
        simp only [Option.bind_some]
        rw [b0]
        simp only [Option.bind_some]
        rw [subI hcl, z1]
        simp only [Option.bind_some, nI_add, Nat.zero_add]
        rw [o5]
        rfl
      · rw [z4 j (by omega), e611, y4 j (by omega), f3]
        exact p3 j (Or.inl hj)
theorem l1e9 : (1000000000 : Int64) = lN 1000000000 := by decide +kernel
theorem i1e9 : (1000000000 : Int32) = nI 1000000000 := by decide +kernel
theorem B_odds (hu2 : 40000 ≤ u) {Dm : nx_M} {g : mS} (hI : INV Γ x A B Dm g) (a b : Int32) : ∃ r Dm' g', fC_odds u Γ Dm x a b = some (r, Dm') ∧ fM_odds u g a b = some (r, g') ∧ INV Γ x A B Dm' g' := by
  have hu : 1000 ≤ u := by omega
  obtain ⟨c, hc, hb, hs⟩ := hI
  have hI0 : INV Γ x A B Dm g := ⟨c, hc, hb, hs⟩
  unfold fC_odds fM_odds
  rw [hc.1.r5, Option.bind_some, hc.wRd WA_9]
  rcases hs with hf | ⟨R, D, T, hst⟩
  · rw [hf.1, Wf_hasStore, Mf_isSeat u hf.2.1]
    exact ⟨_, Dm, g, rfl, rfl, hI0⟩
  · have hrm := st2.rm hst hb.2.2.2
    obtain ⟨⟨w0, hw⟩, hm, hE⟩ := hst.2.1
    rw [W_hasStore hu hw hE.1.1, M_isSeat hu hrm hE.1.1.1 hE.1.1.2.1]
    simp (disch := omega) only [Option.bind_some, if_true, izN, L_within, M_in]
    by_cases ca : inR a 8 = true
    · obtain ⟨s, hs8, rfl⟩ := inR_of ca
      rw [if_pos ca, if_pos ca]
      by_cases cb : inR b 101 = true
      · obtain ⟨ch, hch, rfl⟩ := inR_of cb
        rw [if_neg (by rw [ltI (by omega) (by omega)]; omega), if_pos (show nI ch ≤ nI 100 by rw [leI (by omega) (by omega)]; omega), if_pos cb, hc.1.r9, Option.bind_some, hc.1.at15, M_isThere hu hrm hE.1.1, Option.bind_some, ca, nI_back (by omega)]
        -- the class
        obtain ⟨D1, e1, hm1, hd1⟩ := hc.1.p12 (nI s)
        have hc1 := hc.same hm1 rfl rfl (cI_n (by omega)) hd1
        obtain ⟨D2, e2, hm2, hd2⟩ := hc1.1.p13 (nI ch)
        have hc2 := hc1.same hm2 rfl rfl (cI_n (by omega)) hd2
        obtain ⟨D3, e3, hm3, hd3⟩ := hc2.1.p14 (setA (lvT T) 8)
        have hc3 := hc2.same hm3 rfl rfl (cI_n (by omega)) hd3
        obtain ⟨a0, c4, D4, e4, h4, q4, k4, i4, w4⟩ := C_copy (u := u) hc3
        have k03 : cK x c (cI' (cI' (cI' c 12 (nI s)) 13 (nI ch)) 14 (setA (lvT T) 8)) := ⟨fun q hq => ((cI_n (by omega)).trans (cI_n (by omega))).trans (cI_n (by omega)), rfl, rfl, rfl, rfl, rfl, fun _ _ _ h => ⟨h, rfl⟩, rfl, rfl⟩
        obtain ⟨c5, D5, y1, y2, y3, y4, y5⟩ := partsN (Γ := Γ) (x := x) (A := A) (B := B) hu (R := R) (p := lvT T) (tg := s) (ch := ch) hs8 (by omega) (Dd := D) (dsl (lvT T) 0 8).length 20 (by have := dsl_len (p := lvT T) 8 0; omega) (t := 0) (e := 0) (q := 1000000000) (w0 := w0) (T := T) (by omega) rfl (by have := dsl_len (p := lvT T) 8 0; omega) (by omega) h4 q4 (hw.cp (f' := csW c4 a0) w4) hE (by rw [i4]; exact ((cI_n (by omega)).trans (cI_n (by omega))).trans cI_s) (by rw [i4]; exact (cI_n (by omega)).trans cI_s) (by rw [i4]; exact cI_s)
        have hcls : fA_oddsOf u Γ Dm (x + 15) (x + 9) (nI s) (nI ch) = some (nI (ovV R s ch (dsl (lvT T) 0 8) T 1000000000), D5) := by
          unfold fA_oddsOf
          rw [e1, Option.bind_some, e2, Option.bind_some, hc2.wRd WA_9]
          have : csW (cI' (cI' c 12 (nI s)) 13 (nI ch)) (x + 9) = csW c (x + 9) := rfl
          rw [this, W_liveSeats hu hw, Option.bind_some, e3, Option.bind_some, hc3.1.at15, e4]
          simp only [Option.bind_some, izN]
          rw [h4.1.at15, l1e9, y1]
          simp only [Option.bind_some, lN_i]
        rw [hcls]
        by_cases c0 : tSd T 0 s = nI 0
        · rw [z_ov _ (dsl_8 8 0 (by omega)) hE c0]
          simp only [c0]
          exact ⟨nI 0, D5, g, rfl, rfl, INV.tri hb (Or.inr ⟨R, D, T, hst⟩) y2 ((k03.tr k4).tr y3) mE.rf rfl hb.2.2.2⟩
        · simp only [c0, decide_false, Bool.not_false, Bool.and_true, if_true]
          have hwho : inS T (nI 1) ||| inS T (nI 2) = whoM (lvT T) 0 := by
            apply tb_ext
            intro i _
            unfold inS whoM
            rw [tb_or, tb_set (by omega), tb_set (by omega), tb_set (by omega)]
            unfold lvT
            by_cases c : i < 8 <;> simp [c]
          obtain ⟨g7, z1, z2, z3, z4⟩ := oddsM hu (R := R) (p := lvT T) (tg := s) (ch := ch) hs8 (by omega) (Dd := D) (dsl (lvT T) 0 8).length 20 (by have := dsl_len (p := lvT T) 8 0; omega) (t := 0) (e := 0) (q := 1000000000) (T := T) (g := g) (by omega) rfl (by have := dsl_len (p := lvT T) 8 0; omega) (by omega) hst.1 hm.tri hE
          rw [M_those hu hrm, M_those hu hrm]
          simp only [Option.bind_some]
          rw [hwho, i1e9, z1]
          simp only [Option.bind_some]
          exact ⟨_, D5, mFs g7 15 (nI 0), rfl, rfl, INV.tri hb (Or.inr ⟨R, D, T, hst⟩) y2 ((k03.tr k4).tr y3) (z2.tr (mE.fs (by omega))) (by rw [fs_r (by omega), z3]) fs_s⟩
      · have hnb : (if b < nI 0 then some (iz (-1), Dm) else if b ≤ nI 100 then (gR Dm x 7 9).bind fun q4 => (gAt Dm q4 0 (fA_oddsOf u Γ Dm q4 (x + 9) (nI s) b)).bind fun p6 => some (p6.1, p6.2) else some (iz (-1), Dm)) = some (iz (-1), Dm) := by
          by_cases c0 : b < nI 0
          · rw [if_pos c0]
          · rw [if_neg c0, if_neg]
            intro c1
            apply cb
            unfold inR
            rw [Int32.lt_iff_toInt_lt, toI (by omega)] at c0
            rw [Int32.le_iff_toInt_le, toI (by omega)] at c1
            rw [decide_eq_true_eq]
            omega
        rw [if_neg cb]
        exact ⟨iz (-1), Dm, g, hnb, rfl, hI0⟩
    · rw [if_neg ca, if_neg ca]
      exact ⟨_, Dm, g, rfl, rfl, hI0⟩
end ODDSM
