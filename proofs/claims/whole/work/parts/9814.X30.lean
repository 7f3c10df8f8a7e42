/-! ===== LateStamps.seat where it returns ===== -/
theorem seatX_s {u : Nat} {Γ : nx_G} {D : nx_M} {x : Nat} {a1 a2 : Int32} : fC_seat u Γ D x a1 a2 = (fC_seatX u Γ D x a1 a2).map (Sum.elim some (fun _ => none)) := by
  unfold fC_seat fC_seatX fC_seatP
  cases gR D x 7 5 with
  | none => rfl
  | some q1 =>
    simp only [Option.bind_some]
    cases wRd Γ D q1 (fun f => fW_hasStore u f) with
    | none => rfl
    | some b2 =>
      simp only [Option.bind_some]
      cases b2 with
      | false => rfl
      | true =>
        simp only [if_true]
        cases fL_within u a1 (iz 8) with
        | none => rfl
        | some b3 =>
          simp only [Option.bind_some]
          cases b3 with
          | false => rfl
          | true =>
            simp only [if_true]
            cases fL_within u a2 (iz 5) with
            | none => rfl
            | some b4 =>
              simp only [Option.bind_some]
              cases b4 with
              | false => rfl
              | true =>
                simp only [if_true]
                cases wRd Γ D q1 (fun f => fW_partOf u f a1 a2) with
                | none =>
                  by_cases c : a2 = iz 0
                  · rw [if_pos c, if_pos c]; rfl
                  · rw [if_neg c, if_neg c]
                    cases wRd Γ D q1 (fun f => fW_stateOf u f a1) with
                    | none => rfl
                    | some x6 =>
                      simp only [Option.bind_some]
                      by_cases d : x6 = iz 0
                      · rw [if_pos d, if_pos d]; rfl
                      · rw [if_neg d, if_neg d]; rfl
                | some v =>
                  by_cases c : a2 = iz 0
                  · rw [if_pos c, if_pos c]; rfl
                  · rw [if_neg c, if_neg c]
                    cases wRd Γ D q1 (fun f => fW_stateOf u f a1) with
                    | none => rfl
                    | some x6 =>
                      simp only [Option.bind_some]
                      by_cases d : x6 = iz 0
                      · rw [if_pos d, if_pos d]; rfl
                      · rw [if_neg d, if_neg d]; rfl
theorem seatX_y {u : Nat} {Γ : nx_G} {D : nx_M} {x : Nat} {a1 a2 v : Int32} (h : fC_seat u Γ D x a1 a2 = some (some v)) : fC_seatX u Γ D x a1 a2 = some (.inl v) := by
  rw [seatX_s] at h
  cases e : fC_seatX u Γ D x a1 a2 with
  | none => rw [e] at h; cases h
  | some r =>
    rw [e] at h
    cases r with
    | inl w => cases h; rfl
    | inr b => cases h
theorem seatX_n {u : Nat} {Γ : nx_G} {D : nx_M} {x : Nat} {a1 a2 : Int32} (h : fC_seat u Γ D x a1 a2 = some none) : ∃ b, fC_seatX u Γ D x a1 a2 = some (.inr b) := by
  rw [seatX_s] at h
  cases e : fC_seatX u Γ D x a1 a2 with
  | none => rw [e] at h; cases h
  | some r =>
    rw [e] at h
    cases r with
    | inl w => cases h
    | inr b => exact ⟨b, rfl⟩
theorem cC_seat (l : Launch) {Γ : nx_G} {M0 : Nat → Option va_E} {u : Nat} {D : nx_M} {x : Nat} {a1 : Int32} {a2 : Int32} {r : Int32} (h : fC_seat u Γ D x a1 a2 = some (some r)) : nx_Ct l Γ 8 yX7_seat cX7_seat 3 (some .int) [.ref x, .int a1, .int a2] (ov M0 D) (some (.int r), (ov M0 D)) :=
  nx_ct (out := fun r0 : Int32 => (some (.int r0), (ov M0 D))) [some (.ref x), some (.int a1), some (.int a2)] pn_RX7 (o := some r) rfl (Nat.le_of_ble_eq_true rfl) rfl (fun X Z _ => fun a ha => by
    cases ha
    exact jC_seat u D x a1 a2 X Z (.inl r) (seatX_y h))
