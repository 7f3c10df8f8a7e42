/-! ===== seat: what it answers, or that it throws (none) ===== -/
def fC_seat (u : Nat) (Γ : nx_G) (D : nx_M) (x : Nat) (a1 : Int32) (a2 : Int32) : Option (Option Int32) :=
  (gR D x 7 5).bind fun q1 =>
  (wRd Γ D q1 (fun f => fW_hasStore u f)).bind fun b2 =>
  if b2 = true then
    (fL_within u a1 (iz 8)).bind fun b3 =>
    if b3 = true then
      (fL_within u a2 (iz 5)).bind fun b4 =>
      if b4 = true then
        if a2 = iz 0 then
          (gR D x 7 5).bind fun q7 =>
          (wRd Γ D q7 (fun f => fW_partOf u f a1 a2)).bind fun x8 =>
          some (some x8)
        else
          (gR D x 7 5).bind fun q5 =>
          (wRd Γ D q5 (fun f => fW_stateOf u f a1)).bind fun x6 =>
          if x6 = iz 0 then
            some none
          else
            (gR D x 7 5).bind fun q7 =>
            (wRd Γ D q7 (fun f => fW_partOf u f a1 a2)).bind fun x8 =>
            some (some x8)
      else
        some none
    else
      some none
  else
    some none
section SEAT
variable {Γ : nx_G} {x A B : Nat} {Dm : nx_M} {g : mS} {u : Nat}
theorem INV.th (h : INV Γ x A B Dm g) (v : Int32) : INV Γ x A B Dm (mFs g 0 v) := by
  obtain ⟨c, hc, hb, hs⟩ := h
  obtain ⟨b1, b2, b3, b4⟩ := id hb
  refine INV.ty hb hs hc ?_ ?_ rfl rfl rfl (fun _ _ => rfl) (fun i hi => fs_r (by omega)) (fun q hq => fs_n (by omega))
  · obtain ⟨n, n1, n2, n3, n4, n5⟩ := b1
    exact ⟨n, n1, n2, (fs_n (by omega)).trans n3, by rw [fs_r (by omega)]; exact n4, by rw [fs_r (by omega)]; exact n5⟩
  · obtain ⟨n, n1, n2, n3, n4⟩ := b2
    exact ⟨n, n1, n2, (fs_n (by omega)).trans n3, by rw [fs_r (by omega), fs_r (by omega)]; exact n4⟩
theorem B_seat (hu : 1000 ≤ u) (hI : INV Γ x A B Dm g) (a b : Int32) : ∃ r, fC_seat u Γ Dm x a b = some r ∧ fM_seat u g a b = some (r.getD (nI 0), mFs g 0 (if r.isSome = true then nI 0 else nI 1)) ∧ INV Γ x A B Dm (mFs g 0 (if r.isSome = true then nI 0 else nI 1)) := by
  suffices hh : ∃ r, fC_seat u Γ Dm x a b = some r ∧ fM_seat u g a b = some (r.getD (nI 0), mFs g 0 (if r.isSome = true then nI 0 else nI 1)) by
    obtain ⟨r, e1, e2⟩ := hh
    exact ⟨r, e1, e2, hI.th _⟩
  obtain ⟨c, hc, hb, hf | ⟨R, D, T, hst⟩⟩ := hI
  · refine ⟨none, ?_, ?_⟩
    · unfold fC_seat
      rw [hc.1.r5, Option.bind_some, hc.wRd WA_9, hf.1, Wf_hasStore]
      rfl
    · unfold fM_seat
      rw [Mf_isSeat u hf.2.1]
      simp only [Option.bind_some, Bool.false_eq_true, if_false, izN]
      rw [if_pos fs_s]
      rfl
  · obtain ⟨⟨w0, h⟩, _, hE⟩ := hst.2.1
    have k := st2.rm hst hb.2.2.2
    have hR := hE.1.1
    unfold fC_seat fM_seat
    rw [hc.1.r5, Option.bind_some, hc.wRd WA_9, W_hasStore hu h hR, M_isSeat hu k hR.1 hR.2.1 a]
    simp (disch := omega) only [izN, L_within, Option.bind_some, hc.wRd WA_9, hc.1.r5, if_true, M_in]
    have thr : ∀ s : Int32, s = nI 1 → ((some (mFs g 0 s)).bind fun g5 => if (g5.1 0 0) = (nI 1) then some ((nI 0), g5) else (fM_of u g5 a b).bind fun x6 => some (x6, g5)) = some (nI 0, mFs g 0 (nI 1)) := fun s e => by
      rw [e, Option.bind_some, if_pos fs_s]
    by_cases ca : inR a 8 = true
    · rw [if_pos ca, if_pos ca]
      obtain ⟨s, hs, rfl⟩ := inR_of ca
      by_cases cb : inR b 5 = true
      · rw [if_pos cb, if_pos cb]
        obtain ⟨w, hw, rfl⟩ := inR_of cb
        have hp : fW_partOf u (csW c (x + 9)) (nI s) (nI w) = some (tSd T w s) := by
          unfold fW_partOf
          simp (disch := omega) only [izN, nI_add, mulI, rdW, wrW, Option.bind_some]
          rw [h.2.2.2.2.2.1 w s hw hs]
        have hst0 : fW_stateOf u (csW c (x + 9)) (nI s) = some (tSd T 0 s) := by
          unfold fW_stateOf
          simp (disch := omega) only [izN, nI_add, mulI, rdW, wrW, Option.bind_some]
          have := h.2.2.2.2.2.1 0 s (by omega) hs
          rw [show 40 + 0 * 8 + s = 40 + s by omega] at this
          rw [this]
        have hth : fM_isThere u g (nI s) = some (! decide (tSd T 0 s = nI 0)) := by
          rw [M_isThere hu k hR, ca, nI_back (by omega)]
          rfl
        have ho : ∀ v, fM_of u (mFs g 0 v) (nI s) (nI w) = some (tSd T w s) := fun v => by
          unfold fM_of fM_ofSeat
          simp (disch := omega) only [izN, mulI, nI_add, Option.bind_some]
          rw [fs_r (by omega), rdM (by omega)]
          have := k.2.2.2.2.2.2.1 w s hw hs
          rw [Option.bind_some, this]
        rw [hp, hst0, hth]
        simp only [Option.bind_some]
        by_cases c0 : nI w = nI 0
        · rw [if_pos c0, if_pos c0]
          refine ⟨some (tSd T w s), rfl, ?_⟩
          simp only [Option.bind_some, fs_s]
          rw [if_neg n01, ho]
          rfl
        · rw [if_neg c0, if_neg c0]
          by_cases cz : tSd T 0 s = nI 0
          · rw [if_pos cz, decide_eq_true cz]
            exact ⟨none, rfl, thr _ rfl⟩
          · rw [if_neg cz, decide_eq_false cz]
            refine ⟨some (tSd T w s), rfl, ?_⟩
            simp only [Bool.not_false, if_true, Option.bind_some, fs_s]
            rw [if_neg n01, ho]
            rfl
      · rw [if_neg cb, if_neg cb]
        exact ⟨none, rfl, thr _ rfl⟩
    · rw [if_neg ca, if_neg ca]
      exact ⟨none, rfl, thr _ rfl⟩
end SEAT
