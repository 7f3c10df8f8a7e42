/-! ===== odds ===== -/
def flI (T : ET) (o : Nat) : ET := if lvT T o = true then fallT T o else T
def cmA (R : ER) (T : ET) : Nat → ET
  | 0 => T
  | n + 1 => if tSd (cmA R T n) 0 n = nI 1 then (commitT R (cmA R T n) n).1 else cmA R T n
def ovV (R : ER) (tg ch : Nat) : List Nat → ET → Nat → Nat
  | [], T, p => if tSd (cmA R T 8) 0 tg = nI 3 then p else 0
  | o :: ds, T, p => ovV R tg ch ds (flI T o) (p * ch / 100) + ovV R tg ch ds T (p - p * ch / 100)
theorem ch_le {p ch : Nat} (h : ch ≤ 100) : p * ch / 100 ≤ p := by
  have : p * ch ≤ p * 100 := Nat.mul_le_mul_left p h
  omega
theorem ov_le {R : ER} {tg ch : Nat} (h : ch ≤ 100) : ∀ (ds : List Nat) {T : ET} {p : Nat}, ovV R tg ch ds T p ≤ p := by
  intro ds
  induction ds with
  | nil =>
    intro T p
    unfold ovV
    split <;> omega
  | cons o ds ih =>
    intro T p
    unfold ovV
    have h1 := ih (T := flI T o) (p := p * ch / 100)
    have h2 := ih (T := T) (p := p - p * ch / 100)
    have h3 := ch_le (p := p) h
    omega
/-- the seats that are drawn, from one on -/
def dsl (p : Nat → Bool) : Nat → Nat → List Nat
  | _, 0 => []
  | t, r + 1 => if p t = true then t :: dsl p (t + 1) r else dsl p (t + 1) r
theorem dsl_len {p : Nat → Bool} : ∀ r t, (dsl p t r).length ≤ r := by
  intro r
  induction r with
  | zero => intro t; exact Nat.le_refl _
  | succ r ih =>
    intro t
    have := ih (t + 1)
    unfold dsl
    split
    · simp only [List.length_cons]; omega
    · omega
theorem dsl_next {p : Nat → Bool} : ∀ r t, t + r = 8 → (dsl p t r = [] ∧ ∀ s, t ≤ s → s < 8 → p s = false) ∨ ∃ o, t ≤ o ∧ o < 8 ∧ p o = true ∧ (∀ s, t ≤ s → s < o → p s = false) ∧ dsl p t r = o :: dsl p (o + 1) (8 - (o + 1)) := by
  intro r
  induction r with
  | zero => intro t ht; exact Or.inl ⟨rfl, fun s h1 h2 => by omega⟩
  | succ r ih =>
    intro t ht
    by_cases c : p t = true
    · right
      refine ⟨t, Nat.le_refl _, by omega, c, fun s h1 h2 => by omega, ?_⟩
      conv => lhs; unfold dsl
      rw [if_pos c, show 8 - (t + 1) = r by omega]
    · have e : dsl p t (r + 1) = dsl p (t + 1) r := by
        conv => lhs; unfold dsl
        rw [if_neg c]
      rw [e]
      rcases ih (t + 1) (by omega) with ⟨h1, h2⟩ | ⟨o, h1, h2, h3, h4, h5⟩
      · refine Or.inl ⟨h1, fun s a b => ?_⟩
        by_cases e : s = t
        · rw [e]; simpa using c
        · exact h2 s (by omega) b
      · refine Or.inr ⟨o, by omega, h2, h3, fun s a b => ?_, h5⟩
        by_cases e : s = t
        · rw [e]; simpa using c
        · exact h4 s (by omega) b
theorem EI.fl {R : ER} {D : Nat → List De} {T : ET} (h : EI R D T) {o : Nat} (ho : o < 8) : EI R D (flI T o) := by
  unfold flI
  split
  · next hl => exact h.of (h.1.fall ho hl) (stp.fall ho) h.2.1 (fun _ _ _ => Or.inl rfl)
  · exact h
theorem EI.ca {R : ER} {D : Nat → List De} {T : ET} (h : EI R D T) : ∀ n, n ≤ 8 → EI R D (cmA R T n) := by
  intro n
  induction n with
  | zero => intro _; exact h
  | succ n ih =>
    intro hn
    unfold cmA
    split
    · next h1 => exact (ih (by omega)).cm (by omega) h1
    · exact ih (by omega)
/-! who isn't there is never sure -/
theorem z_fallN {R : ER} {tg : Nat} : ∀ (n : Nat) {T : ET} {s : Nat}, wkF R T → s < 8 → s ≠ tg → tSd T 0 tg = nI 0 → tSd (fallN n T s).1 0 tg = nI 0 := by
  intro n
  induction n with
  | zero => intro T s _ _ _ h; exact h
  | succ n ih =>
    intro T s hw hs hne h
    have h1 : tSd (fall1T T s) 0 tg = nI 0 := by
      rw [fall1_sd]
      simp [hne, Ne.symm hne, h]
    unfold fallN
    cases e : leT (fall1T T s) with
    | none => exact h1
    | some s' =>
      obtain ⟨a, b⟩ := leT_some (wkF.fall1 hw) e
      exact ih (wkF.fall1 hw) a (fun eq => by rw [eq, lv_nz h1] at b; cases b) h1
theorem z_fall {R : ER} {T : ET} (hW : WF R T) {s tg : Nat} (hs : s < 8) (hne : s ≠ tg) (h : tSd T 0 tg = nI 0) : tSd (fallT T s) 0 tg = nI 0 := z_fallN 8 hW.wk hs hne h
theorem z_step {R : ER} {T : ET} (hW : WF R T) {s tg : Nat} (hs : s < 8) (hne : s ≠ tg) (h : tSd T 0 tg = nI 0) : tSd (stepS R T s) 0 tg = nI 0 := by
  have h1 : tSd (sure1T T s) 0 tg = nI 0 := by
    rw [sure1_sd]
    simp [Ne.symm hne, h]
  unfold stepS
  split
  · split
    · exact h1
    · exact h1
  · exact z_fall hW hs hne h
theorem z_sureN {R : ER} {tg : Nat} : ∀ (n : Nat) {T : ET} {s : Nat}, WF R T → s < 8 → lvT T s = true → tSd T 3 s = nI 0 → s ≠ tg → tSd T 0 tg = nI 0 → tSd (sureN R n T s) 0 tg = nI 0 := by
  intro n
  induction n with
  | zero => intro T s _ _ _ _ _ h; exact h
  | succ n ih =>
    intro T s hW hs hl hd hne h
    have h1 := z_step (R := R) hW hs hne h
    unfold sureN
    cases e : rdyT (stepS R T s) with
    | none => exact h1
    | some s' =>
      obtain ⟨a, b, c⟩ := rdyT_some e
      exact ih (hW.step hs hl hd) a b c (fun eq => by rw [eq, lv_nz h1] at b; cases b) h1
theorem z_commit {R : ER} {T : ET} (hW : WF R T) {s tg : Nat} (hs : s < 8) (h1 : tSd T 0 s = nI 1) (h : tSd T 0 tg = nI 0) : tSd (commitT R T s).1 0 tg = nI 0 := by
  have hne : s ≠ tg := fun e => by rw [e, h] at h1; exact n01 h1
  have hl := lv1 h1
  have hw : tSd (waitT T s) 0 tg = nI 0 := by
    rw [wait_sd]
    simp [Ne.symm hne, h]
  unfold commitT
  split
  · split
    · next hd => exact z_sureN 8 (hW.wait hs hl) hs (by rw [wait_lv hl]; exact hl) (by rw [wait_sd, if_neg (by omega)]; exact hd) hne hw
    · exact hw
  · exact z_fall hW hs hne h
theorem z_ca {R : ER} {D : Nat → List De} {T : ET} (hE : EI R D T) {tg : Nat} (h : tSd T 0 tg = nI 0) : ∀ n, n ≤ 8 → tSd (cmA R T n) 0 tg = nI 0 := by
  intro n
  induction n with
  | zero => intro _; exact h
  | succ n ih =>
    intro hn
    unfold cmA
    split
    · next h1 => exact z_commit (hE.ca n (by omega)).1 (by omega) h1 (ih (by omega))
    · exact ih (by omega)
theorem n03 : ¬ (nI 0 = nI 3) := by decide +kernel
theorem z_ov {R : ER} {D : Nat → List De} {tg ch : Nat} : ∀ (ds : List Nat) {T : ET} {p : Nat}, (∀ o ∈ ds, o < 8) → EI R D T → tSd T 0 tg = nI 0 → ovV R tg ch ds T p = 0 := by
  intro ds
  induction ds with
  | nil =>
    intro T p _ hE h
    unfold ovV
    rw [z_ca hE h 8 (Nat.le_refl _), if_neg n03]
  | cons o ds ih =>
    intro T p ho hE h
    have ho8 := ho o List.mem_cons_self
    unfold ovV
    rw [ih (fun q hq => ho q (List.mem_cons_of_mem _ hq)) hE h, ih (fun q hq => ho q (List.mem_cons_of_mem _ hq)) (hE.fl ho8) ?_]
    unfold flI
    split
    · next hl => exact z_fall hE.1 ho8 (fun eq => by rw [eq, lv_nz h] at hl; cases hl) h
    · exact h
theorem dsl_8 {p : Nat → Bool} : ∀ r t, t + r = 8 → ∀ o ∈ dsl p t r, o < 8 := by
  intro r
  induction r with
  | zero => intro t _ o ho; cases ho
  | succ r ih =>
    intro t ht o ho
    unfold dsl at ho
    split at ho
    · rcases List.mem_cons.mp ho with rfl | h
      · omega
      · exact ih (t + 1) (by omega) o h
    · exact ih (t + 1) (by omega) o ho
/-! long numbers -/
theorem l100 : (100 : Int64) = lN 100 := by decide +kernel
theorem dvl_n {q ch : Nat} (hq : q ≤ 1000000000) (hc : ch ≤ 100) : nx_dvl (lN q * (nI ch).toInt64) (100 : Int64) = some (lN (q * ch / 100)) := by
  have hb : q * ch ≤ 1000000000 * 100 := Nat.mul_le_mul hq hc
  unfold nx_dvl
  rw [l100, if_neg, nI_l (by omega), lN_mul, pk_lDiv (by omega) (by omega) (by omega)]
  intro h
  have h2 := congrArg Int64.toInt h
  rw [lN_toInt (by omega)] at h2
  have h3 : (0 : Int64).toInt = 0 := by decide +kernel
  rw [h3] at h2
  omega
theorem cmp0 {q : Nat} (hq : q ≤ 1000000000) : (lg_cmp (lN q) (Int64.ofNat 0) = iz 0) ↔ q = 0 := by
  have e0 : Int64.ofNat 0 = lN 0 := rfl
  rw [e0]
  unfold lg_cmp
  by_cases c : q = 0
  · subst c
    have h1 : ¬ (lN 0 > lN 0) := by
      show ¬ lN 0 < lN 0
      rw [pk_lLT (by omega) (by omega)]
      omega
    rw [if_neg h1, if_pos rfl]
    exact ⟨fun _ => rfl, fun _ => by decide +kernel⟩
  · have h1 : lN q > lN 0 := by
      show lN 0 < lN q
      rw [pk_lLT (by omega) (by omega)]
      omega
    rw [if_pos h1]
    constructor
    · intro h
      exact absurd h (by decide +kernel)
    · intro h
      exact absurd h c
/-- levels below d are as they were, and all levels stand where they stood -/
def lvB (c c' : CS) (d : Nat) : Prop := ∀ e b, e < 13 → csQ c 2 e = some b → csQ c' 2 e = some b ∧ (e < d → csW c' b = csW c b)
theorem lvB.rf {c : CS} {d : Nat} : lvB c c d := fun _ _ _ h => ⟨h, fun _ => rfl⟩
theorem lvB.tr {a b c : CS} {d : Nat} (h : lvB a b d) (k : lvB b c d) : lvB a c d := fun e q h2 h3 => by
  obtain ⟨a1, a2⟩ := h e q h2 h3
  obtain ⟨b1, b2⟩ := k e q h2 a1
  exact ⟨b1, fun hd => (b2 hd).trans (a2 hd)⟩
theorem lvB.le {a b : CS} {d e : Nat} (h : lvB a b d) (he : e ≤ d) : lvB a b e := fun e' q h2 h3 => ⟨(h e' q h2 h3).1, fun hd => (h e' q h2 h3).2 (by omega)⟩
theorem cJ.lb {x : Nat} {c c' : CS} (h : cJ x c c') (d : Nat) : lvB c c' d := fun e b h13 hq => ⟨(h.2.2.2 e b h13 hq).1, fun _ => (h.2.2.2 e b h13 hq).2⟩
section ODDS
variable {u : Nat} {Γ : nx_G} {x A B : Nat}
theorem lvB.lw {c : CS} {D : nx_M} (hr : RD x A B c D) {d a : Nat} (hd : d < 13) (q : csQ c 2 d = some a) (f : Nat → Int32) : lvB c (cW' c a f) d := fun e b h13 hq => ⟨hq, fun hlt => upR_n (fun eq => by
  have := (hr.2.1 2 e 2 d b (Or.inr ⟨rfl, h13⟩) (Or.inr ⟨rfl, hd⟩) hq (by rw [eq]; exact q)).2
  omega)⟩
theorem C_commitAll (hu : 1000 ≤ u) {R : ER} {w0 : Int32} {Dd : Nat → List De} {T : ET} {c : CS} {Dm : nx_M} {d a : Nat} (hd : d < 13) (hc : CC Γ x A B c Dm) (q : csQ c 2 d = some a) (hw : RW R w0 Dd (csW c a) T) (hE : EI R Dd T) : ∃ c' D', fA_commitAll u Γ Dm a = some D' ∧ CC Γ x A B c' D' ∧ csQ c' 2 d = some a ∧ RW R w0 Dd (csW c' a) (cmA R T 8) ∧ cK x c c' ∧ csI c' = csI c ∧ lvB c c' d := by
  have hl : ok (nx_iter u (fA_commitAll_2 u Γ a) (nI 0, Dm)) (fun D' => ∃ c', CC Γ x A B c' D' ∧ csQ c' 2 d = some a ∧ RW R w0 Dd (csW c' a) (cmA R T 8) ∧ cK x c c' ∧ csI c' = csI c ∧ lvB c c' d) := by
    refine it_inv (fun i s => s.1 = nI i ∧ ∃ c', CC Γ x A B c' s.2 ∧ csQ c' 2 d = some a ∧ RW R w0 Dd (csW c' a) (cmA R T i) ∧ cK x c c' ∧ csI c' = csI c ∧ lvB c c' d) 8 (fun i s hi hI => ?_) (fun s hI => ?_) (i := 0) ⟨rfl, c, hc, q, hw, cK.rf, rfl, lvB.rf⟩ (by omega) (by omega)
    · obtain ⟨e1, c1, h1, q1, w1, k1, i1, b1⟩ := hI
      have wa : isWA x c1 a := WA_q (Or.inr ⟨rfl, hd⟩) q1
      unfold fA_commitAll_2
      rw [e1]
      simp (disch := omega) only [izN, leI, h1.wRd wa, W_state w1 hi, Option.bind_some, nI_add]
      rw [if_neg (by omega)]
      by_cases cs : tSd (cmA R T i) 0 i = nI 1
      · rw [if_pos cs]
        obtain ⟨r, er, r1, r2⟩ := W_commitAt hu w1 hi
        obtain ⟨p1, p2, p3, p4, p5⟩ := C_lw h1 hd q1 (F := fun f => fW_commitAt u f (nI i)) er
        rw [p1]
        refine ok.ret ⟨rfl, _, p2, p3, ?_, k1.tr p5, i1, b1.tr (lvB.lw h1.2 hd q1 _)⟩
        rw [p4]
        unfold cmA
        rw [if_pos cs]
        exact r2
      · rw [if_neg cs]
        refine ok.ret ⟨rfl, c1, h1, q1, ?_, k1, i1, b1⟩
        unfold cmA
        rw [if_neg cs]
        exact w1
    · obtain ⟨e1, c1, h1, q1, w1, k1, i1, b1⟩ := hI
      unfold fA_commitAll_2
      rw [e1]
      simp (disch := omega) only [izN, leI]
      rw [if_pos (by omega)]
      exact ok.ret ⟨c1, h1, q1, w1, k1, i1, b1⟩
  obtain ⟨D', e, c', y⟩ := hl
  refine ⟨c', D', ?_, y⟩
  unfold fA_commitAll
  simp only [izN]
  rw [e]
  rfl
theorem C_nextD {c : CS} {Dm : nx_M} (hu : 1000 ≤ u) (hc : CC Γ x A B c Dm) {p : Nat → Bool} (h14 : csI c 14 = setA p 8) {t o : Nat} (hto : t ≤ o) (ho : o ≤ 8) (hp : o < 8 → p o = true) (hn : ∀ s, t ≤ s → s < o → p s = false) : fA_nextDrawn u Γ Dm (x + 15) (nI t) = some (nI o) := by
  unfold fA_nextDrawn
  have h := it_up (b := fA_nextDrawn_2 Dm (x + 15)) (fun i => nI (t + i)) (o - t) (fun i hi => by
    unfold fA_nextDrawn_2
    simp (disch := omega) only [izN, leI, hc.1.a5, Option.bind_some, nI_add, h14]
    rw [if_neg (by omega), if_pos]
    · rfl
    · rw [has0 set_8 (by omega), set_b (by omega)]
      exact hn _ (by omega) (by omega)) (r := nI o) (by
    unfold fA_nextDrawn_2
    rw [show t + (o - t) = o by omega]
    simp (disch := omega) only [izN, leI, hc.1.a5, Option.bind_some, h14]
    by_cases c8 : 8 ≤ o
    · rw [if_pos c8]
    · rw [if_neg c8, if_neg]
      rw [has0 set_8 (by omega), set_b (by omega), hp (by omega)]
      decide) (u := u) (i := 0) (by omega) (by omega)
  simp only [Nat.add_zero] at h
  rw [h]
  rfl
theorem partsN (hu : 1000 ≤ u) {R : ER} {p : Nat → Bool} {tg ch : Nat} (htg : tg < 8) (hch : ch ≤ 100) {Dd : Nat → List De} : ∀ (n v : Nat), n < v → ∀ {t e q a : Nat} {w0 : Int32} {T : ET} {c : CS} {Dm : nx_M}, t ≤ 8 → (dsl p t (8 - t)).length = n → e + n ≤ 8 → q ≤ 1000000000 → CC Γ x A B c Dm → csQ c 2 e = some a → RW R w0 Dd (csW c a) T → EI R Dd T → csI c 12 = nI tg → csI c 13 = nI ch → csI c 14 = setA p 8 → ∃ c' D', fA_partsFrom v u Γ Dm (x + 15) (nI e) (nI t) (lN q) = some (lN (ovV R tg ch (dsl p t (8 - t)) T q), D') ∧ CC Γ x A B c' D' ∧ cK x c c' ∧ csI c' = csI c ∧ lvB c c' e := by
  intro n
  induction n with
  | zero =>
    intro v hv t e q a w0 T c Dm ht hn he hq hc qa hw hE h12 h13 h14
    obtain ⟨w, rfl⟩ : ∃ w, v = w + 1 := ⟨v - 1, by omega⟩
    have hnil : dsl p t (8 - t) = [] := List.length_eq_zero_iff.mp hn
    have hp : ∀ s, t ≤ s → s < 8 → p s = false := by
      rcases dsl_next (p := p) (8 - t) t (by omega) with ⟨_, h2⟩ | ⟨o, _, _, _, _, h5⟩
      · exact h2
      · rw [hnil] at h5; cases h5
    show ∃ c' D', fA_partsFrom_b u (fA_partsFrom w u Γ) Γ Dm (x + 15) (nI e) (nI t) (lN q) = _ ∧ _
    unfold fA_partsFrom_b
    rw [hnil]
    by_cases c0 : q = 0
    · rw [if_pos ((cmp0 hq).mpr c0)]
      refine ⟨c, Dm, ?_, hc, cK.rf, rfl, lvB.rf⟩
      unfold ovV
      rw [c0]
      split <;> rfl
    · rw [if_neg (fun hh => c0 ((cmp0 hq).mp hh))]
      simp (disch := omega) only [izN, leI]
      rw [if_pos (by omega), hc.1.at15]
      obtain ⟨a', c1, D1, e1, h1, q1, hJ⟩ := hc.lv u (d := e) (by omega)
      have ea : a' = a := by
        have := (hJ.2.2.2 e a (by omega) qa).1
        rw [q1] at this
        exact Option.some.inj this
      subst ea
      have wa1 := (hJ.2.2.2 e a' (by omega) qa).2
      have i1 : csI c1 = csI c := hJ.2.1
      rw [e1]
      simp only [Option.bind_some]
      rw [h1.1.at15, C_nextD hu h1 (by rw [i1]; exact h14) (o := 8) ht (Nat.le_refl _) (fun h => by omega) hp]
      simp (disch := omega) only [Option.bind_some, ltI]
      rw [if_neg (by omega)]
      obtain ⟨c2, D2, f1, f2, f3, f4, f5, f6, f7⟩ := C_commitAll hu (d := e) (by omega) h1 q1 (by rw [wa1]; exact hw) hE
      have wa2 : isWA x c2 a' := WA_q (Or.inr ⟨rfl, by omega⟩) f3
      rw [f1, Option.bind_some, f2.1.a3, f6, i1, h12, Option.bind_some, f2.wRd wa2, W_state f4 htg, Option.bind_some]
      unfold ovV
      by_cases c3 : tSd (cmA R T 8) 0 tg = nI 3
      · rw [if_pos c3, if_pos c3]
        exact ⟨c2, D2, rfl, f2, hJ.1.tr f5, f6.trans i1, (hJ.lb e).tr f7⟩
      · rw [if_neg c3, if_neg c3]
        exact ⟨c2, D2, rfl, f2, hJ.1.tr f5, f6.trans i1, (hJ.lb e).tr f7⟩
  | succ n ih =>
    intro v hv t e q a w0 T c Dm ht hn he hq hc qa hw hE h12 h13 h14
    obtain ⟨w, rfl⟩ : ∃ w, v = w + 1 := ⟨v - 1, by omega⟩
    rcases dsl_next (p := p) (8 - t) t (by omega) with ⟨h1, _⟩ | ⟨o, o1, o2, o3, o4, o5⟩
    · rw [h1] at hn; cases hn
    · have hn' : (dsl p (o + 1) (8 - (o + 1))).length = n := by rw [o5] at hn; simpa using hn
      show ∃ c' D', fA_partsFrom_b u (fA_partsFrom w u Γ) Γ Dm (x + 15) (nI e) (nI t) (lN q) = _ ∧ _
      unfold fA_partsFrom_b
      by_cases c0 : q = 0
      · rw [if_pos ((cmp0 hq).mpr c0)]
        refine ⟨c, Dm, ?_, hc, cK.rf, rfl, lvB.rf⟩
        have := ov_le (R := R) (tg := tg) hch (dsl p t (8 - t)) (T := T) (p := q)
        rw [show ovV R tg ch (dsl p t (8 - t)) T q = 0 by omega]
        rfl
      · rw [if_neg (fun hh => c0 ((cmp0 hq).mp hh))]
        simp (disch := omega) only [izN, leI]
        rw [if_pos (by omega), hc.1.at15]
        obtain ⟨a', c1, D1, e1, h1, q1, hJ⟩ := hc.lv u (d := e) (by omega)
        have ea : a' = a := by
          have := (hJ.2.2.2 e a (by omega) qa).1
          rw [q1] at this
          exact Option.some.inj this
        subst ea
        have wa1 := (hJ.2.2.2 e a' (by omega) qa).2
        have i1 : csI c1 = csI c := hJ.2.1
        rw [e1]
        simp only [Option.bind_some]
        rw [h1.1.at15, C_nextD hu h1 (by rw [i1]; exact h14) (o := o) o1 (by omega) (fun _ => o3) o4]
        simp (disch := omega) only [Option.bind_some, ltI]
        rw [if_pos o2, h1.1.a4, i1, h13, Option.bind_some, dvl_n hq hch, Option.bind_some, h1.1.at15, nI_add]
        obtain ⟨b, c2, D2, e2, h2, q2, hJ2⟩ := h1.lv u (d := e + 1) (by omega)
        obtain ⟨qa2, wa2⟩ := hJ2.2.2.2 e a' (by omega) q1
        have i2 : csI c2 = csI c := hJ2.2.1.trans i1
        have wb : isWA x c2 b := WA_q (Or.inr ⟨rfl, by omega⟩) q2
        have wa : isWA x c2 a' := WA_q (Or.inr ⟨rfl, by omega⟩) qa2
        have h3 := h2.wr wb (va_cpy (csW c2 a') (csW c2 b) 0 0 514)
        have hwa2 : RW R w0 Dd (csW c2 a') T := by rw [wa2, wa1]; exact hw
        have hw3 : RW R w0 Dd (csW (cW' c2 b (va_cpy (csW c2 a') (csW c2 b) 0 0 514)) b) T := by
          have : csW (cW' c2 b (va_cpy (csW c2 a') (csW c2 b) 0 0 514)) b = va_cpy (csW c2 a') (csW c2 b) 0 0 514 := upR_s
          rw [this]
          exact hwa2.cpy _
        have k3 := cK.lw h2.2 (d := e + 1) (by omega) q2 (va_cpy (csW c2 a') (csW c2 b) 0 0 514)
        have b3 := lvB.lw h2.2 (d := e + 1) (by omega) q2 (va_cpy (csW c2 a') (csW c2 b) 0 0 514)
        have wb3 : isWA x (cW' c2 b (va_cpy (csW c2 a') (csW c2 b) 0 0 514)) b := wb
        rw [e2]
        simp only [Option.bind_some]
        rw [h2.1.at6 wb, h2.bc wb wa]
        simp only [Option.bind_some]
        rw [h3.wRd wb3, W_isLive hu hw3 o2]
        simp only [Option.bind_some]
        -- behind the fall
        have hfl : ∃ c4 D4, (if lvT T o = true then (wWr Γ (wPut Γ D2 (b + 1) (va_cpy (csW c2 a') (csW c2 b) 0 0 514)) b (fun f => fW_fallWithAll u f (nI o))).bind fun p10 => some p10.2 else some (wPut Γ D2 (b + 1) (va_cpy (csW c2 a') (csW c2 b) 0 0 514)) : Option nx_M) = some D4 ∧ CC Γ x A B c4 D4 ∧ csQ c4 2 (e + 1) = some b ∧ RW R w0 Dd (csW c4 b) (flI T o) ∧ cK x c2 c4 ∧ csI c4 = csI c2 ∧ lvB c2 c4 (e + 1) := by
          unfold flI
          by_cases cl : lvT T o = true
          · rw [if_pos cl, if_pos cl]
            obtain ⟨r, er, r1, r2⟩ := W_fallWithAll hu hw3 o2
            obtain ⟨p1, p2, p3, p4, p5⟩ := C_lw h3 (d := e + 1) (by omega) q2 (F := fun f => fW_fallWithAll u f (nI o)) er
            rw [p1]
            exact ⟨_, _, rfl, p2, p3, by rw [p4]; exact r2, k3.tr p5, rfl, b3.tr (lvB.lw h3.2 (d := e + 1) (by omega) q2 _)⟩
          · rw [if_neg cl, if_neg cl]
            exact ⟨_, _, rfl, h3, q2, hw3, k3, rfl, b3⟩
        obtain ⟨c4, D4, f1, f2, f3, f4, f5, f6, f7⟩ := hfl
        have i4 : csI c4 = csI c := f6.trans i2
        rw [f1]
        simp only [Option.bind_some]
        have hcl := ch_le (p := q) hch
        obtain ⟨c5, D5, y1, y2, y3, y4, y5⟩ := ih w (by omega) (t := o + 1) (e := e + 1) (q := q * ch / 100) (by omega) hn' (by omega) (by omega) f2 f3 f4 (hE.fl o2) (by rw [i4]; exact h12) (by rw [i4]; exact h13) (by rw [i4]; exact h14)
        obtain ⟨qa4, wa4⟩ := f7 e a' (by omega) qa2
        obtain ⟨qa5, wa5⟩ := y5 e a' (by omega) qa4
        have i5 : csI c5 = csI c := y4.trans i4
        have hw5 : RW R w0 Dd (csW c5 a') T := by rw [wa5 (by omega), wa4 (by omega)]; exact hwa2
        obtain ⟨c6, D6, z1, z2, z3, z4, z5⟩ := ih w (by omega) (t := o + 1) (e := e) (q := q - q * ch / 100) (by omega) hn' (by omega) (by omega) y2 qa5 hw5 hE (by rw [i5]; exact h12) (by rw [i5]; exact h13) (by rw [i5]; exact h14)
        refine ⟨c6, D6, ?_, z2, (((hJ.1.tr hJ2.1).tr f5).tr y3).tr z3, z4.trans i5, ((((hJ.lb e).tr (hJ2.lb e)).tr (f7.le (by omega))).tr (y5.le (by omega))).tr z5⟩
        unfold fA_partsFrom_106k0
        simp only [izN, nI_add]
        rw [f2.1.at15, y1]
        simp only [Option.bind_some]
        rw [y2.1.at15, lN_sub hcl, z1]
        simp only [Option.bind_some, lN_add]
        rw [o5]
        rfl
end ODDS
