/-! ===== LateStamps.seat where it throws ===== -/
theorem dX7_seat_27 : decode cX7_seat 27 = .ok (.new 121, 3) := by decide +kernel
theorem dX7_seat_30 : decode cX7_seat 30 = .ok (.dup, 1) := by decide +kernel
theorem dX7_seat_31 : decode cX7_seat 31 = .ok (.ldc 123, 2) := by decide +kernel
theorem dX7_seat_33 : decode cX7_seat 33 = .ok (.invokespecial 125, 3) := by decide +kernel
theorem dX7_seat_36 : decode cX7_seat 36 = .ok (.athrow, 1) := by decide +kernel
theorem dX7_seat_52 : decode cX7_seat 52 = .ok (.new 121, 3) := by decide +kernel
theorem dX7_seat_55 : decode cX7_seat 55 = .ok (.dup, 1) := by decide +kernel
theorem dX7_seat_56 : decode cX7_seat 56 = .ok (.ldc 131, 2) := by decide +kernel
theorem dX7_seat_58 : decode cX7_seat 58 = .ok (.invokespecial 125, 3) := by decide +kernel
theorem dX7_seat_61 : decode cX7_seat 61 = .ok (.athrow, 1) := by decide +kernel
/-- a memory that no heap holds -/
def noM (M : nx_M) : nx_M := (fun _ => some (.inr (0, [])), M.2.1 + 1, M.2.2 + 6)
theorem noM_no {Γ : nx_G} {M : nx_M} {H : Heap} (h : nx_Hold Γ (noM M) H) : False := by
  obtain ⟨h1, h2, h3, h4⟩ := h
  obtain ⟨_, g⟩ := h3 H.size (.inr (0, [])) rfl
  exact Nat.lt_irrefl _ g.lt
/-- one cell more, six slots more -/
def mo1 (M : nx_M) : nx_M := (M.1, M.2.1 + 1, M.2.2 + 6)
theorem nx_Hold.mo1 {Γ : nx_G} {M : nx_M} {H H' : Heap} (h : nx_Hold Γ M H) (hz : H'.size = H.size + 1) (hne : ∀ q : Nat, q < H.size → H'[q]? = H[q]?) : nx_Hold Γ (mo1 M) H' := by
  refine ⟨by rw [hz, h.1]; rfl, Nat.le_trans h.2.1 (Nat.le_succ _), fun b x hb => ?_, fun q hq => ?_⟩
  · obtain ⟨g1, g2⟩ := h.2.2.1 b x hb
    exact ⟨g1, g2.kept (hne b g2.lt)⟩
  · have h1 := h.2.1
    have h2 := h.1
    rw [hne q (by omega)]
    exact h.2.2.2 q hq
def nx_PcT (Γ : nx_G) (as : List Value) (M : nx_M) : Array Value → State → Prop := fun v U => nx_Pc Γ as M v U ∧ nx_Th Γ U
theorem nx_blindT {Γ : nx_G} {as : List Value} {M : nx_M} : FrameBlind (nx_PcT Γ as M) := fun _ _ _ _ h => ⟨nx_blind _ _ _ _ h.1, h.2.blind⟩
def xC_seat (Γ : nx_G) (M : nx_M) : String → State → State → Prop := fun E _ t => E = nsN ∧ nx_Hold Γ (mo1 M) t.heap
theorem vC_seat (l : Launch) (hl : l.stackTraces = false) {Γ : nx_G} {M0 : Nat → Option va_E} {u : Nat} {D : nx_M} {x : Nat} {a1 a2 : Int32} {b : Bool} (h : fC_seatX u Γ D x a1 a2 = some (.inr b)) :
    vx_Met l yX7_seat (.code yX7_seat cX7_seat 3 (some .int) :: nx_TB) (nx_rm 8 (ov M0 D) (mo1 (ov M0 D))) (nx_PcT Γ [.ref x, .int a1, .int a2] (ov M0 D)) (nx_Qc Γ none (noM (ov M0 D))) (xC_seat Γ (ov M0 D)) 1 6 (nx_A Γ) := by
  obtain ⟨M, hMe⟩ : ∃ M, M = ov M0 D := ⟨_, rfl⟩
  have z1 : M.2.1 + 1 - M.2.1 = 1 := Nat.add_sub_cancel_left _ _
  have z2 : M.2.2 + 6 - M.2.2 = 6 := Nat.add_sub_cancel_left _ _
  refine vx_ofW (cc := cX7_seat) (maxL := 3) (ret := some .int) pn_RX7 rfl ?_
  intro p e s m args below meth c s₁ B hml ht hv
  obtain ⟨⟨rfl, hH, hE⟩, hTh⟩ := hv
  have hts := atoms_spec (ws := (Cond.code yX7_seat cX7_seat 3 (some .int) :: nx_TB)) B.pre
  have hts' : ∀ w ∈ nx_TB, w.before ([.ref x, .int a1, .int a2] : List Value).toArray s = true := fun w hw => hts w (List.mem_cons_of_mem _ hw)
  have hown : s.vm.findClass yX7_seat.cls = some m.cls := findClass_of_methodNamed B.named
  obtain ⟨X, hXe⟩ : ∃ X : nx_X, X = (p, l, e, (headSpec (Cond.code yX7_seat cX7_seat 3 (some .int) :: nx_TB) (nx_rm 8 (ov M0 D) (mo1 (ov M0 D)))).room, s, m, ([.ref x, .int a1, .int a2] : List Value).toArray, below, meth, c, vx_MQ below (nx_Qc Γ none (noM (ov M0 D))) (xC_seat Γ (ov M0 D)) ([.ref x, .int a1, .int a2] : List Value).toArray s 1 6 (nx_A Γ)) := ⟨_, rfl⟩
  have hK : nx_K Γ X (RX7, cX7_seat, 3, (some .int), "seat", 8) (ov M0 D, none, noM (ov M0 D)) := by
    subst hXe
    refine ⟨B.exec, B.bytes, B.returns, B.notSynchronized, hml, hown, (name_of_methodNamed B.named B.method).1, hts', hE, rfl, fun t hq => ?_⟩
    obtain ⟨o, b1, b2, b3, b4⟩ := hq
    have b4' : ∃ L, FrameEnd s o t L 1 6 ∧ ∀ q ∈ L, nx_A Γ q.base := by
      obtain ⟨L, c1, c2⟩ := b4
      refine ⟨L, ?_, c2⟩
      have e1 : (ov M0 D).2.1 + 1 - (ov M0 D).2.1 = 1 := Nat.add_sub_cancel_left _ _
      have e2 : (ov M0 D).2.2 + 6 - (ov M0 D).2.2 = 6 := Nat.add_sub_cancel_left _ _
      have c1' : FrameEnd s o t L ((ov M0 D).2.1 + 1 - (ov M0 D).2.1) ((ov M0 D).2.2 + 6 - (ov M0 D).2.2) := c1
      rw [e1, e2] at c1'
      exact c1'
    exact ⟨o, b1, b2, Or.inl ⟨b3, b4'⟩⟩
  obtain ⟨-, w⟩ := jC_seat (Γ := Γ) (M0 := M0) u D x a1 a2 X (ov M0 D, none, noM (ov M0 D)) (.inr b) h
  have w2 := w hK (fun _ _ => ⟨Nat.le_succ _, Nat.le_add_right _ _, fun H locs L hH2 hl2 hL2 => by
    subst hXe
    have y1 : (ov M0 D).2.1 - (ov M0 D).2.1 = 0 := Nat.sub_self _
    have y2 : (ov M0 D).2.2 - (ov M0 D).2.2 = 0 := Nat.sub_self _
    show W p l e (headSpec (Cond.code yX7_seat cX7_seat 3 (some .int) :: nx_TB) (nx_rm 8 (ov M0 D) (mo1 (ov M0 D)))).room s m ([.ref x, .int a1, .int a2] : List Value).toArray below meth c H locs ((ov M0 D).2.1 - (ov M0 D).2.1) ((ov M0 D).2.2 - (ov M0 D).2.2) (vx_MQ below (nx_Qc Γ none (noM (ov M0 D))) (xC_seat Γ (ov M0 D)) ([.ref x, .int a1, .int a2] : List Value).toArray s 1 6 (nx_A Γ)) (F0 m (if b = true then 52 else 27) L [])
    rw [y1, y2]
    have q1 : (0 : Nat) + 1 ≤ (ov M0 D).2.1 + 1 - (ov M0 D).2.1 := by omega
    have q2 : (0 : Nat) + 6 ≤ (ov M0 D).2.2 + 6 - (ov M0 D).2.2 := by omega
    cases b with
    | false => exact x_thr false B.exec B.bytes hl hown hts' hTh hH2 (hL2.1.trans hml.symm) dX7_seat_27 dX7_seat_30 dX7_seat_31 dX7_seat_33 dX7_seat_36 (fun x hx => (ht x hx).elim) (Nat.le_of_ble_eq_true rfl) (Nat.le_of_ble_eq_true rfl) q1 q2 B.notSynchronized (fun t _ h1 h2 => ⟨rfl, hH2.mo1 h1 h2⟩) hl2 (Nat.le_refl _) (Nat.le_refl _)
    | true => exact x_thr true B.exec B.bytes hl hown hts' hTh hH2 (hL2.1.trans hml.symm) dX7_seat_52 dX7_seat_55 dX7_seat_56 dX7_seat_58 dX7_seat_61 (fun x hx => (ht x hx).elim) (Nat.le_of_ble_eq_true rfl) (Nat.le_of_ble_eq_true rfl) q1 q2 B.notSynchronized (fun t _ h1 h2 => ⟨rfl, hH2.mo1 h1 h2⟩) hl2 (Nat.le_refl _) (Nat.le_refl _)⟩)
  obtain ⟨-, -, w3⟩ := w2 (Nat.le_refl _) (Nat.le_refl _)
  subst hXe
  rw [lg_entry_eq]
  have w4 := w3 s.heap [] _ hH (fun _ h => by cases h) (nx_entry [.ref x, .int a1, .int a2] (nL := 3) (Nat.le_of_ble_eq_true rfl))
  have y1 : (ov M0 D).2.1 - (ov M0 D).2.1 = 0 := Nat.sub_self _
  have y2 : (ov M0 D).2.2 - (ov M0 D).2.2 = 0 := Nat.sub_self _
  dsimp only at w4
  rw [y1, y2] at w4
  exact w4
