/-! notes, who enters, stamps by hand, deeds: World -/
def pushL (L : List De) (e : De) : List De := if L.length = 60 then L.tail ++ [e] else L ++ [e]
theorem pushL_len {L : List De} {e : De} (h : L.length ≤ 60) : (pushL L e).length = if L.length = 60 then 60 else L.length + 1 := by
  unfold pushL
  split
  · next h6 => simp [h6]
  · simp
def noteT (T : ET) (e : De) : ET := sLg T (pushL (tLg T) e)
theorem logW.push {f : Nat → Int32} {L : List De} {n : Nat} (e : De) (h1 : L.length ≤ 60) (hn : n < 60) (h9 : ∀ (i : Nat) (e : De), L[i]? = some e → f (454 + (n + 60 - L.length + i) % 60) = encL e) {f' : Nat → Int32} (hf : ∀ j, 454 ≤ j → j < 514 → j ≠ 454 + n → f' j = f j) (he : f' (454 + n) = encL e) (g8 : f' 8 = nI (pushL L e).length) (g9 : f' 9 = nI (if n + 1 < 60 then n + 1 else 0)) : logW f' (pushL L e) := by
  have hlen := pushL_len (e := e) h1
  refine ⟨by rw [hlen]; split <;> omega, g8, (if n + 1 < 60 then n + 1 else 0), by split <;> omega, g9, fun i x hi => ?_⟩
  rw [hlen]
  unfold pushL at hi
  by_cases h6 : L.length = 60
  · rw [if_pos h6] at hi ⊢
    rcases getE_snoc hi with ⟨a, b⟩ | ⟨a, b⟩
    · rw [List.length_tail] at a
      have hi2 : L[i + 1]? = some x := by
        rw [List.getElem?_tail] at b
        exact b
      have e2 : ((if n + 1 < 60 then n + 1 else 0) + 60 - 60 + i) % 60 = (n + 60 - L.length + (i + 1)) % 60 := by split <;> omega
      rw [e2, hf _ (by omega) (by omega) (by omega)]
      exact h9 (i + 1) x hi2
    · rw [List.length_tail] at a
      have e2 : ((if n + 1 < 60 then n + 1 else 0) + 60 - 60 + i) % 60 = n := by split <;> omega
      rw [e2, b, he]
  · rw [if_neg h6] at hi ⊢
    rcases getE_snoc hi with ⟨a, b⟩ | ⟨a, b⟩
    · have e2 : ((if n + 1 < 60 then n + 1 else 0) + 60 - (L.length + 1) + i) % 60 = (n + 60 - L.length + i) % 60 := by split <;> omega
      rw [e2, hf _ (by omega) (by omega) (by omega)]
      exact h9 i x b
    · have e2 : ((if n + 1 < 60 then n + 1 else 0) + 60 - (L.length + 1) + i) % 60 = n := by split <;> omega
      rw [e2, b, he]
theorem W_note {u : Nat} (hu : 1000 ≤ u) {R : ER} {w0 : Int32} {D : Nat → List De} {f : Nat → Int32} {T : ET} (h : RW R w0 D f T) (a b c : Int32) : ok (fW_note u f a b c) (fun f' => RW R w0 D f' (noteT T (a, b, c))) := by
  obtain ⟨l1, l2, n, l3, l4, l5⟩ := h.ll
  unfold fW_note
  simp (disch := omega) only [izN, nI_add, mulI, rdW, wrW, Option.bind_some, l4, L_within, inR_nI, leI]
  rw [if_pos (by simpa using l3)]
  have hs : (if 60 ≤ n + 1 then some (nI 0) else some (nI (n + 1)) : Option Int32) = some (nI (if n + 1 < 60 then n + 1 else 0)) := by
    by_cases hn : n + 1 < 60
    · rw [if_neg (by omega), if_pos hn]
    · rw [if_pos (by omega), if_neg hn]
  rw [hs]
  simp (disch := omega) only [izN, nI_add, mulI, rdW, wrW, Option.bind_some, upd_n, l2, ltI]
  refine ok.ret (h.lg (logW.push (a, b, c) l1 l3 l5 (fun j h1 h2 h3 => ?_) ?_ ?_ ?_) (fun j h1 h2 h3 => ?_))
  · rw [upd_n (by omega), upd_n (by omega), upd_n h3]
  · rw [upd_n (by omega), upd_n (by omega), upd_s]
    rfl
  · rw [upd_s, pushL_len l1]
    by_cases h60 : (tLg T).length = 60
    · rw [if_pos (by omega), if_pos h60]
    · rw [if_neg (by omega), if_neg h60]
  · rw [upd_n (by omega), upd_s]
  · rw [upd_n (by omega), upd_n (by omega), upd_n (by omega)]
theorem RW.to {R : ER} {w0 : Int32} {D D' : Nat → List De} {f : Nat → Int32} {T T' : ET} (h : RW R w0 D f T) (e : T = T') (e2 : D = D') : RW R w0 D' f T' := e ▸ e2 ▸ h
theorem RM.to {g0 : mS} {R : ER} {m0 : Int32} {tr : Option (Nat → Int32)} {D D' : Nat → List De} {g : mS} {T T' : ET} (h : RM g0 R m0 tr D g T) (e : T = T') (e2 : D = D') : RM g0 R m0 tr D' g T' := e ▸ e2 ▸ h
theorem rM.to {tr : Option (Nat → Int32)} {D D' : Nat → List De} {f : Nat → Int32} {T T' : ET} (h : rM tr D f T) (e : T = T') (e2 : D = D') : rM tr D' f T' := e ▸ e2 ▸ h
def enC (c : Nat) (way stamp : Int32) : Int32 := if c = 0 then nI 1 else if c = 1 then stamp else if c = 2 then way else nI 0
def seatT (T : ET) (s : Nat) (way stamp : Int32) : ET := (fun c s' => if s' = s ∧ c < 5 then enC c way stamp else T.1 c s', fun s' k => if s' = s ∧ k < 6 then iz (-1) else T.2.1 s' k, T.2.2)
def enterT (T : ET) (s : Nat) (way stamp : Int32) : ET := noteT (seatT T s way stamp) (nI 0, nI s, stamp)
def setD (D : Nat → List De) (s : Nat) (l : List De) : Nat → List De := fun s' => if s' = s then l else D s'
theorem W_enter {u : Nat} (hu : 1000 ≤ u) {R : ER} {w0 : Int32} {D : Nat → List De} {f : Nat → Int32} {T : ET} (h : RW R w0 D f T) {s : Nat} (hs : s < 8) (way stamp : Int32) : ok (fW_enter u f (nI s) way stamp) (fun f' => RW R w0 (setD D s []) f' (enterT T s way stamp)) := by
  unfold fW_enter
  simp (disch := omega) only [izN, nI_add, mulI, rdW, wrW, Option.bind_some]
  have h1 := ((((h.sd (c := 0) (by omega) hs (nI 1)).sd (c := 1) (by omega) hs stamp).sd (c := 2) (by omega) hs way).sd (c := 3) (by omega) hs (nI 0)).sd (c := 4) (by omega) hs (nI 0)
  have h2 := h1.ds hs (l := []) (f' := upd (upd (upd (upd (upd (upd f (40 + s) (nI 1)) (48 + s) stamp) (56 + s) way) (64 + s) (nI 0)) (72 + s) (nI 0)) (80 + s) (nI 0)) ⟨by simp, upd_s, fun i d hi => by simp at hi⟩ (fun j a b => upd_n a)
  refine ok.bd (it_inv (Q := fun f' => RW R w0 (setD D s []) f' (seatT T s way stamp)) (fun i x => x.1 = nI i ∧ RW R w0 (setD D s []) x.2 (fun c s' => if s' = s ∧ c < 5 then enC c way stamp else T.1 c s', fun s' k => if s' = s ∧ k < i then iz (-1) else T.2.1 s' k, T.2.2)) 6 (fun i x hi hI => ?_) (fun x hI => ?_) (i := 0) ⟨rfl, ?_⟩ (by omega) (by omega)) (fun f' hf' => ?_)
  · obtain ⟨e, hx⟩ := hI
    unfold fW_enter_63
    simp (disch := omega) only [izN, nI_add, mulI, rdW, wrW, Option.bind_some, e, leI]
    rw [if_neg (by omega)]
    refine ok.ret ⟨rfl, ?_⟩
    refine (hx.rk hs hi (iz (-1))).to (Prod.ext rfl (Prod.ext (funext fun s' => funext fun k => ?_) rfl)) rfl
    by_cases e1 : s' = s <;> by_cases e2 : k = i <;> by_cases e3 : k < i <;> simp [sRk, e1, e2, e3] <;> omega
  · obtain ⟨e, hx⟩ := hI
    unfold fW_enter_63
    simp (disch := omega) only [izN, nI_add, mulI, rdW, wrW, Option.bind_some, e, leI]
    exact ok.ret hx
  · refine h2.to (Prod.ext (funext fun c => funext fun s' => ?_) (Prod.ext (funext fun s' => funext fun k => ?_) rfl)) rfl
    · by_cases e1 : s' = s
      · subst e1
        rcases c with _ | _ | _ | _ | _ | c <;> simp [enC, sSd] <;> (intro hh; omega)
      · simp [e1, sSd]
    · simp [sSd]
  · exact (W_note hu hf' _ _ _).bd (fun f' h' => ok.ret h')
def handT (T : ET) (v : Int32) : ET := sHd T (tHd T ++ [v])
theorem W_keepHand {u : Nat} (hu : 1000 ≤ u) {R : ER} {w0 : Int32} {D : Nat → List De} {f : Nat → Int32} {T : ET} (h : RW R w0 D f T) (v : Int32) (hl : (tHd T).length < 30) : ok (fW_keepHand u f v) (fun f' => RW R w0 D f' (handT T v)) := by
  obtain ⟨h1, h2, h3⟩ := h.hh
  unfold fW_keepHand
  simp (disch := omega) only [izN, nI_add, mulI, rdW, wrW, Option.bind_some, h2, L_within, inR_nI]
  rw [if_pos (by simpa using hl)]
  refine ok.ret (h.hd ⟨by simp; omega, by rw [upd_s]; simp, fun i x hi => ?_⟩ (fun j a b => by rw [upd_n a, upd_n (by omega)]))
  rcases getE_snoc hi with ⟨a, b⟩ | ⟨rfl, rfl⟩
  · rw [upd_n (by omega), upd_n (by omega)]
    exact h3 i x b
  · rw [upd_n (by omega), upd_s]
def deedL (l : List De) (d : De) : List De := if l.length < 12 then l ++ [d] else l
theorem W_keepDeed {u : Nat} (hu : 1000 ≤ u) {R : ER} {w0 : Int32} {D : Nat → List De} {f : Nat → Int32} {T : ET} (h : RW R w0 D f T) {s : Nat} (hs : s < 8) (a b c : Int32) : ok (fW_keepDeed u f (nI s) a b c) (fun f' => RW R w0 (setD D s (deedL (D s) (a, b, c))) f' T) := by
  obtain ⟨h1, h2, h3⟩ := h.dd hs
  unfold fW_keepDeed
  simp (disch := omega) only [izN, nI_add, mulI, rdW, wrW, Option.bind_some, h2, L_within, inR_nI]
  by_cases hl : (D s).length < 12
  · rw [if_pos (by simpa using hl)]
    refine ok.ret (h.ds hs ⟨?_, ?_, fun i x hi => ?_⟩ (fun j a b => by rw [upd_n a, upd_n (by omega)]))
    · unfold deedL; rw [if_pos hl]; simp; omega
    · unfold deedL; rw [if_pos hl, upd_s]; simp
    · unfold deedL at hi
      rw [if_pos hl] at hi
      rcases getE_snoc hi with ⟨a, b⟩ | ⟨rfl, rfl⟩
      · rw [upd_n (by omega), upd_n (by omega)]
        exact h3 i x b
      · rw [upd_n (by omega), upd_s]
        rfl
  · rw [if_neg (by simpa using hl)]
    refine ok.ret ?_
    have e : setD D s (deedL (D s) (a, b, c)) = D := by
      funext s'
      unfold setD deedL
      rw [if_neg hl]
      split
      · next e => rw [e]
      · rfl
    rw [e]
    exact h
