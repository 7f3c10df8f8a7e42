/-! numbers, reads and writes, loops, for the pure functions -/
theorem iz_add (a b : Int) : iz a + iz b = iz (a + b) := by
  unfold iz
  exact (Int32.ofInt_add a b).symm
theorem iz_mul (a b : Int) : iz a * iz b = iz (a * b) := by
  unfold iz
  exact (Int32.ofInt_mul a b).symm
theorem iz_sub (a b : Int) : iz a - iz b = iz (a - b) := by
  unfold iz
  exact (Int32.ofInt_sub a b).symm
theorem iz_toInt {a : Int} (h1 : -2147483648 ≤ a) (h2 : a < 2147483648) : (iz a).toInt = a := by
  unfold iz
  rw [Int32.toInt_ofInt]
  exact Int.bmod_eq_of_le (by simpa using h1) (by simpa using h2)
theorem iz_lt {a b : Int} (a1 : -2147483648 ≤ a) (a2 : a < 2147483648) (b1 : -2147483648 ≤ b) (b2 : b < 2147483648) : iz a < iz b ↔ a < b := by
  rw [Int32.lt_iff_toInt_lt, iz_toInt a1 a2, iz_toInt b1 b2]
theorem iz_le {a b : Int} (a1 : -2147483648 ≤ a) (a2 : a < 2147483648) (b1 : -2147483648 ≤ b) (b2 : b < 2147483648) : iz a ≤ iz b ↔ a ≤ b := by
  rw [Int32.le_iff_toInt_le, iz_toInt a1 a2, iz_toInt b1 b2]
theorem iz_inj {a b : Int} (a1 : -2147483648 ≤ a) (a2 : a < 2147483648) (b1 : -2147483648 ≤ b) (b2 : b < 2147483648) : iz a = iz b ↔ a = b := by
  constructor
  · intro h
    have := congrArg Int32.toInt h
    rwa [iz_toInt a1 a2, iz_toInt b1 b2] at this
  · rintro rfl
    rfl
theorem iz_of (x : Int32) : ∃ a : Int, x = iz a ∧ -2147483648 ≤ a ∧ a < 2147483648 := by
  refine ⟨x.toInt, ?_, ?_, ?_⟩
  · unfold iz
    exact (Int32.ofInt_toInt x).symm
  · have := Int32.le_toInt x
    simpa using this
  · have := Int32.toInt_lt x
    simpa using this
theorem iz_clamp {n : Nat} (h : n < 2147483648) : (iz (n : Int)).toNatClampNeg = n := by
  show (iz (n : Int)).toInt.toNat = n
  rw [iz_toInt (by omega) (by omega)]
  omega
theorem iz_nn {n : Nat} (h : n < 2147483648) : ¬ iz (n : Int) < 0 := by
  rw [← iz_0, iz_lt (by omega) (by omega) (by omega) (by omega)]
  omega
theorem rd_at {n m : Nat} {f : Nat → Int32} {x : Int32} (hx : x = iz (m : Int)) (hm : m < n) (hn : n ≤ 100000) : nx_rd n f x = some (f m) := by
  subst hx
  unfold nx_rd
  rw [iz_clamp (by omega), if_neg]
  rintro (h | h)
  · exact iz_nn (by omega) h
  · omega
theorem wr_at {n m : Nat} {f : Nat → Int32} {x v : Int32} (hx : x = iz (m : Int)) (hm : m < n) (hn : n ≤ 100000) : nx_wr n f x v = some (upd f m v) := by
  subst hx
  unfold nx_wr
  rw [iz_clamp (by omega), if_neg]
  rintro (h | h)
  · exact iz_nn (by omega) h
  · omega
/-- a loop with a measure: it ends, and with what its invariant says -/
theorem it_run {σ ρ : Type} {b : σ → Option (σ ⊕ ρ)} (P : Nat → σ → Prop) (Q : ρ → Prop) (h : ∀ k s, P k s → (∃ k' s', k' < k ∧ b s = some (.inl s') ∧ P k' s') ∨ (∃ r, b s = some (.inr r) ∧ Q r)) : ∀ (u k : Nat) (s : σ), P k s → k < u → ∃ r, nx_iter u b s = some r ∧ Q r := by
  intro u
  induction u with
  | zero => intro k s _ hk; omega
  | succ u ih =>
    intro k s hP hk
    rcases h k s hP with ⟨k', s', hk', hb, hP'⟩ | ⟨r, hb, hQ⟩
    · obtain ⟨r, h1, h2⟩ := ih k' s' hP' (by omega)
      exact ⟨r, by show (b s).bind _ = _; rw [hb]; exact h1, h2⟩
    · exact ⟨r, by show (b s).bind _ = _; rw [hb]; rfl, hQ⟩
/-- .. to one result -/
theorem it_eq {σ ρ : Type} {b : σ → Option (σ ⊕ ρ)} {r : ρ} (P : Nat → σ → Prop) (h : ∀ k s, P k s → (∃ k' s', k' < k ∧ b s = some (.inl s') ∧ P k' s') ∨ b s = some (.inr r)) {u k : Nat} {s : σ} (hP : P k s) (hk : k < u) : nx_iter u b s = some r := by
  obtain ⟨r', h1, h2⟩ := it_run P (fun z => z = r) (fun k s hk => (h k s hk).elim Or.inl (fun e => Or.inr ⟨r, e, rfl⟩)) u k s hP hk
  rw [h1, h2]
