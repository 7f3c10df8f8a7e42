/-- .. and FELL -/
def repX (R : ER) (f : Nat → Int32) (A : EA) (L : List De) (fe : Int32) : Prop := repW R f A L ∧ f 6 = fe
theorem repX.sd {R : ER} {f : Nat → Int32} {A : EA} {L : List De} {fe : Int32} (h : repX R f A L fe) {c s : Nat} (hc : c < 5) (hs : s < 8) (v : Int32) : repX R (upd f (40 + 8 * c + s) v) (sSd A c s v) L fe := ⟨h.1.sd hc hs v, by rw [upd_n (by omega)]; exact h.2⟩
theorem repX.rk {R : ER} {f : Nat → Int32} {A : EA} {L : List De} {fe : Int32} (h : repX R f A L fe) {s k : Nat} (hs : s < 8) (hk : k < 6) (v : Int32) : repX R (upd f (184 + 6 * s + k) v) (sRk A s k v) L fe := ⟨h.1.rk hs hk v, by rw [upd_n (by omega)]; exact h.2⟩
theorem repX.ck {R : ER} {f : Nat → Int32} {A : EA} {L : List De} {fe : Int32} (h : repX R f A L fe) (v : Int32) : repX R (upd f 4 v) (sCk A v) L fe := ⟨h.1.ck v, by rw [upd_n (by omega)]; exact h.2⟩
theorem repX.fl {R : ER} {f : Nat → Int32} {A : EA} {L : List De} {fe : Int32} (h : repX R f A L fe) (v : Int32) : repX R (upd f 5 v) (sFl A v) L fe := ⟨h.1.fl v, by rw [upd_n (by omega)]; exact h.2⟩
theorem repX.fe {R : ER} {f : Nat → Int32} {A : EA} {L : List De} {fe : Int32} (h : repX R f A L fe) (v : Int32) : repX R (upd f 6 v) A L v := ⟨h.1.fe v, upd_s⟩
theorem repX.ds {R : ER} {f f' : Nat → Int32} {A : EA} {L : List De} {fe : Int32} (h : repX R f A L fe) {s : Nat} (hs : s < 8) {l : List De} (hl : deeW f' s l) (hf : ∀ j, j ≠ 80 + s → (j < 88 + 12 * s ∨ 100 + 12 * s ≤ j) → f' j = f j) : repX R f' (sDs A s l) L fe := ⟨h.1.ds hs hl hf, by rw [hf _ (by omega) (by omega)]; exact h.2⟩
theorem repX.vs {R : ER} {f f' : Nat → Int32} {A : EA} {L : List De} {fe : Int32} (h : repX R f A L fe) {k : Nat} (hk : k < 6) {l : List Vr} (hl : blkW f' k l) (hf : ∀ j, j ≠ 232 + k → (j < 238 + 9 * k ∨ 247 + 9 * k ≤ j) → (j < 292 + 9 * k ∨ 301 + 9 * k ≤ j) → (j < 346 + 9 * k ∨ 355 + 9 * k ≤ j) → (j < 400 + 9 * k ∨ 409 + 9 * k ≤ j) → f' j = f j) : repX R f' (sVs A k l) L fe := ⟨h.1.vs hk hl hf, by rw [hf _ (by omega) (by omega) (by omega) (by omega) (by omega)]; exact h.2⟩
theorem repX.hd {R : ER} {f : Nat → Int32} {A : EA} {L : List De} {fe : Int32} (h : repX R f A L fe) (v : Int32) (hlt : (eHd A).length < 30) : repX R (upd (upd f (10 + (eHd A).length) v) 7 (nI ((eHd A).length + 1))) (sHd A (eHd A ++ [v])) L fe := ⟨h.1.hd v hlt, by rw [upd_n (by omega), upd_n (by omega)]; exact h.2⟩
theorem izN (n : Nat) : iz (no_index (OfNat.ofNat n)) = nI (OfNat.ofNat n) := rfl
theorem L_within {a b : Nat} (u : Nat) (ha : a < 1000000000) (hb : b < 1000000000) : fL_within u (nI a) (nI b) = some (decide (a < b)) := by
  unfold fL_within
  simp only [izN]
  rw [if_neg (by rw [ltI ha (by omega)]; omega)]
  by_cases h : a < b
  · rw [if_neg (by rw [leI hb ha]; omega)]; simp [h]
  · rw [if_pos (by rw [leI hb ha]; omega)]; simp [h]
theorem W_note {R : ER} {f : Nat → Int32} {A : EA} {L : List De} {fe : Int32} (h : repX R f A L fe) (u : Nat) (e : De) : ∃ f', fW_note u f e.1 e.2.1 e.2.2 = some f' ∧ repX R f' A (pushL L e) fe := by
  obtain ⟨h, h6⟩ := h
  obtain ⟨l1, l2, n, l3, l4, l5⟩ := h.2.2.2.2.2.2.2.2
  unfold fW_note
  simp only [izN]
  rw [rdW (by omega), Option.bind_some, l4, L_within u (by omega) (by omega), Option.bind_some, if_pos (by simp; omega)]
  simp only [nI_add]
  rw [wrW (by omega), Option.bind_some]
  have hs : (if nI 60 ≤ nI (n + 1) then some (nI 0) else some (nI (n + 1)) : Option Int32) = some (nI (if n + 1 < 60 then n + 1 else 0)) := by
    by_cases hn : n + 1 < 60
    · rw [if_neg (by rw [leI (by omega) (by omega)]; omega), if_pos hn]
    · rw [if_pos (by rw [leI (by omega) (by omega)]; omega), if_neg hn]
  rw [hs, Option.bind_some, wrW (by omega), Option.bind_some, rdW (by omega), Option.bind_some, upd_n (by omega), upd_n (by omega), l2]
  simp only [nI_add]
  rw [wrW (by omega), Option.bind_some]
  refine ⟨_, rfl, ?_, ?_⟩
  · refine h.log (fun j h1 h2 h3 => ?_) (logW.push e l1 l3 l5 (fun j h1 h2 h3 => ?_) ?_ ?_ ?_)
    · rw [upd_n h1, upd_n h2, upd_n (by omega)]
    · rw [upd_n (by omega), upd_n (by omega), upd_n h3]
    · rw [upd_n (by omega), upd_n (by omega), upd_s]
      rfl
    · rw [upd_s, pushL_len l1]
      by_cases h60 : L.length = 60
      · rw [if_pos (by rw [ltI (by omega) (by omega)]; omega), if_pos h60]
      · rw [if_neg (by rw [ltI (by omega) (by omega)]; omega), if_neg h60]
    · rw [upd_n (by omega), upd_s]
  · rw [upd_n (by omega), upd_n (by omega), upd_n (by omega)]
    exact h6
