/-! ===== the start: what the constructors leave ===== -/
/-- memory with the cells L from x on -/
def lm (x : Nat) (L : List va_E) (s : Nat) : nx_M := (fun a => if a < x then none else L[a - x]?, x + L.length, s)
theorem lm_21 {x : Nat} {L : List va_E} {s : Nat} : (lm x L s).2.1 = x + L.length := rfl
theorem lm_at {x i : Nat} {L : List va_E} {s : Nat} : (lm x L s).1 (x + i) = L[i]? := by
  show (if x + i < x then none else L[x + i - x]?) = _
  rw [if_neg (by omega), Nat.add_sub_cancel_left]
theorem lm_al {x : Nat} {L : List va_E} {s k : Nat} {e : va_E} : nx_al (lm x L s) e k = lm x (L ++ [e]) (s + k) := by
  unfold nx_al lm
  refine Prod.ext (funext fun b => ?_) (Prod.ext ?_ rfl)
  · dsimp only
    by_cases c : b < x
    · rw [if_pos c, if_neg (by omega), if_pos c]
    · rw [if_neg c, if_neg c]
      by_cases d : b = x + L.length
      · rw [if_pos d, d, Nat.add_sub_cancel_left]
        simp
      · rw [if_neg d]
        by_cases e : b - x < L.length
        · rw [List.getElem?_append_left e]
        · rw [List.getElem?_eq_none (by omega), List.getElem?_eq_none (by simp; omega)]
  · show x + L.length + 1 = x + (L ++ [e]).length
    simp
    omega
theorem lm_put {x i ci k : Nat} {L : List va_E} {s : Nat} {fs : List Value} {v : Value} (h : L[i]? = some (.inr (ci, fs))) (hk : k < fs.length) : gPut (lm x L s) (x + i) ci k v = some (lm x (L.set i (.inr (ci, fs.set k v))) s) := by
  unfold gPut gO
  rw [lm_at, h]
  simp only [if_true, Option.bind_some]
  rw [if_pos hk]
  congr 1
  unfold nx_put lm
  have hi := (List.getElem?_eq_some_iff.mp h).1
  refine Prod.ext (funext fun b => ?_) (Prod.ext ?_ rfl)
  · dsimp only
    by_cases c : b < x
    · rw [if_pos c, if_neg (by omega), if_pos c]
    · rw [if_neg c]
      by_cases d : b = x + i
      · rw [if_pos d, d, if_neg (by omega), Nat.add_sub_cancel_left, List.getElem?_set_self hi]
      · rw [if_neg d, if_neg c, List.getElem?_set_ne (by omega)]
  · show x + L.length = x + (L.set i _).length
    rw [List.length_set]
section INI
variable {x s u : Nat} {Γ : nx_G} {L : List va_E}
theorem lm_lst {ci k : Nat} {fs : List Value} {v : Value} {M : List va_E} (hk : k < fs.length) : gPut (lm x (L ++ .inr (ci, fs) :: M) s) (x + L.length) ci k v = some (lm x (L ++ .inr (ci, fs.set k v) :: M) s) := by
  rw [lm_put (fs := fs) (by simp) hk]
  simp
theorem lm_hd {ci k : Nat} {fs : List Value} {v : Value} {M : List va_E} (hk : k < fs.length) : gPut (lm x (.inr (ci, fs) :: M) s) x ci k v = some (lm x (.inr (ci, fs.set k v) :: M) s) := by
  have := lm_lst (x := x) (s := s) (L := []) (M := M) (v := v) (ci := ci) hk
  exact this
theorem n_T : fT_init u Γ (nx_al (lm x L s) (.inr (5, [.null, .int 0, .int 0, .int 0])) 4) (lm x L s).2.1 = some (lm x (L ++ [.inr (5, [.ref (x + L.length + 1), .int 0, .int 0, .int 0]), rowE Γ 240 (fun _ => 0)]) (s + 4 + 240)) := by
  unfold fT_init
  simp only [Option.bind_some]
  show (gPut (nx_al (nx_al _ _ _) _ _) (x + L.length) _ 0 (.ref (nx_al _ _ _).2.1)).bind _ = _
  rw [lm_al, lm_al, List.append_assoc]
  show (gPut (lm x (L ++ .inr (5, _) :: [_]) _) (x + L.length) 5 0 (.ref (x + (L ++ [_]).length))).bind _ = _
  rw [lm_lst (by simp)]
  simp [rowE, Nat.add_assoc]
theorem n_O : fO_init u Γ (nx_al (lm x L s) (.inr (4, [.null, .null, .int 0, .int 0])) 4) (lm x L s).2.1 = some (lm x (L ++ [.inr (4, [.ref (x + L.length + 1), .ref (x + L.length + 2), .int 0, .int 0]), rowE Γ 3 (fun _ => 0), rowE Γ 6 (fun _ => 0)]) (s + 4 + 3 + 6)) := by
  unfold fO_init
  simp only [Option.bind_some]
  show (gPut (nx_al (nx_al _ _ _) _ _) (x + L.length) _ 0 (.ref (nx_al _ _ _).2.1)).bind _ = _
  rw [lm_al, lm_al, List.append_assoc]
  show (gPut (lm x (L ++ .inr (4, _) :: [_]) _) (x + L.length) 4 0 (.ref (x + (L ++ [_]).length))).bind _ = _
  rw [lm_lst (by simp)]
  simp only [Option.bind_some]
  rw [lm_al, List.append_assoc]
  show (gPut (lm x (L ++ .inr (4, _) :: [_, _]) _) (x + L.length) 4 1 (.ref (x + (L ++ [_, _]).length))).bind _ = _
  rw [lm_lst (by simp)]
  simp [rowE, Nat.add_assoc]
theorem n_P : fP_init u Γ (nx_al (lm x L s) (.inr (3, [.null, .int 0])) 2) (lm x L s).2.1 = some (lm x (L ++ [.inr (3, [.ref (x + L.length + 1), .int 0]), rowE Γ 64 (fun _ => 0)]) (s + 2 + 64)) := by
  unfold fP_init
  simp only [Option.bind_some]
  show (gPut (nx_al (nx_al _ _ _) _ _) (x + L.length) _ 0 (.ref (nx_al _ _ _).2.1)).bind _ = _
  rw [lm_al, lm_al, List.append_assoc]
  show (gPut (lm x (L ++ .inr (3, _) :: [_]) _) (x + L.length) 3 0 (.ref (x + (L ++ [_]).length))).bind _ = _
  rw [lm_lst (by simp)]
  simp [rowE, Nat.add_assoc]
theorem n_W : fW_init u Γ (nx_al (lm x L s) (.inr (6, [.null])) 1) (lm x L s).2.1 = some (lm x (L ++ [.inr (6, [.ref (x + L.length + 1)]), rowE Γ 514 (fun _ => 0)]) (s + 1 + 514)) := by
  unfold fW_init
  simp only [Option.bind_some]
  show (gPut (nx_al (nx_al _ _ _) _ _) (x + L.length) _ 0 (.ref (nx_al _ _ _).2.1)).bind _ = _
  rw [lm_al, lm_al, List.append_assoc]
  show (gPut (lm x (L ++ .inr (6, _) :: [_]) _) (x + L.length) 6 0 (.ref (x + (L ++ [_]).length))).bind _ = _
  rw [lm_lst (by simp)]
  simp [rowE, Nat.add_assoc]
theorem n_Q : fQ_init u Γ (nx_al (lm x L s) (.inr (2, [.null, .int 0, .int 0])) 3) (lm x L s).2.1 = some (lm x (L ++ [.inr (2, [.ref (x + L.length + 1), .int 0, .int 0]), refE Γ 2 40 (fun _ => none)]) (s + 3 + 40)) := by
  unfold fQ_init
  simp only [Option.bind_some]
  show (gPut (nx_al (nx_al _ _ _) _ _) (x + L.length) _ 0 (.ref (nx_al _ _ _).2.1)).bind _ = _
  rw [lm_al, lm_al, List.append_assoc]
  show (gPut (lm x (L ++ .inr (2, _) :: [_]) _) (x + L.length) 2 0 (.ref (x + (L ++ [_]).length))).bind _ = _
  rw [lm_lst (by simp)]
  simp [refE, Nat.add_assoc]
theorem n_A : fA_init u Γ (nx_al (lm x L s) (.inr (0, [.null, .int 0, .int 0, .int 0, .int 0, .int 0])) 6) (lm x L s).2.1 = some (lm x (L ++ [.inr (0, [.ref (x + L.length + 1), .int 0, .int 0, .int 0, .int 0, .int 0]), refE Γ 2 13 (fun _ => none)]) (s + 6 + 13)) := by
  unfold fA_init
  simp only [Option.bind_some]
  show (gPut (nx_al (nx_al _ _ _) _ _) (x + L.length) _ 0 (.ref (nx_al _ _ _).2.1)).bind _ = _
  rw [lm_al, lm_al, List.append_assoc]
  show (gPut (lm x (L ++ .inr (0, _) :: [_]) _) (x + L.length) 0 0 (.ref (x + (L ++ [_]).length))).bind _ = _
  rw [lm_lst (by simp)]
  simp [refE, Nat.add_assoc]
theorem n_R : fR_init u Γ (nx_al (lm x L s) (.inr (1, [.long 0])) 1) (lm x L s).2.1 = some (lm x (L ++ [.inr (1, [.long 0])]) (s + 1)) := by
  unfold fR_init
  rw [lm_al]
end INI
def c00 (x : Nat) : CS := (fun _ => 0, fun _ _ => 0, fun _ _ => none, x + 7, 0, fun _ _ => 0, fun _ => 0, fun _ _ => 0)
def L19 (Γ : nx_G) (x : Nat) : List va_E := [fx Γ x (c00 x) 0, fx Γ x (c00 x) 1, fx Γ x (c00 x) 2, fx Γ x (c00 x) 3, fx Γ x (c00 x) 4, fx Γ x (c00 x) 5, fx Γ x (c00 x) 6, .inr (3, [.ref (x + 8), .int 0]), rowE Γ 64 (fun _ => 0), .inr (6, [.ref (x + 10)]), rowE Γ 514 (fun _ => 0), fx Γ x (c00 x) 11, fx Γ x (c00 x) 12, .inr (6, [.ref (x + 14)]), rowE Γ 514 (fun _ => 0), fx Γ x (c00 x) 15, fx Γ x (c00 x) 16, fx Γ x (c00 x) 17, fx Γ x (c00 x) 18]
/-- a fresh memory in which LateStamps' object has just been made -/
theorem C_init {x s u : Nat} {Γ : nx_G} : fC_init u Γ (lm x [.inr (7, [.null, .null, .null, .null, .int 0, .null, .null, .null, .int 0, .null, .null, .null])] s) x = some (lm x (L19 Γ x) (s + (244 + 13 + 4 + 66 + 515 + 43 + 515 + 19 + 1 + 4))) := by
  unfold fC_init
  rw [Option.bind_some, n_T, Option.bind_some]
  simp only [List.cons_append, List.nil_append]
  rw [lm_hd (by simp), Option.bind_some, Option.bind_some, n_O, Option.bind_some]
  simp only [List.cons_append, List.nil_append]
  rw [lm_hd (by simp), Option.bind_some, Option.bind_some, lm_al]
  simp only [List.cons_append, List.nil_append]
  rw [lm_hd (by simp), Option.bind_some, Option.bind_some, n_P, Option.bind_some]
  simp only [List.cons_append, List.nil_append]
  rw [lm_hd (by simp), Option.bind_some, Option.bind_some, n_W, Option.bind_some]
  simp only [List.cons_append, List.nil_append]
  rw [lm_hd (by simp), Option.bind_some, Option.bind_some, n_Q, Option.bind_some]
  simp only [List.cons_append, List.nil_append]
  rw [lm_hd (by simp), Option.bind_some, Option.bind_some, n_W, Option.bind_some]
  simp only [List.cons_append, List.nil_append]
  rw [lm_hd (by simp), Option.bind_some, Option.bind_some, n_A, Option.bind_some]
  simp only [List.cons_append, List.nil_append]
  rw [lm_hd (by simp), Option.bind_some, Option.bind_some, n_R, Option.bind_some]
  simp only [List.cons_append, List.nil_append]
  rw [lm_hd (by simp), Option.bind_some, Option.bind_some, lm_al]
  simp only [List.cons_append, List.nil_append]
  rw [lm_hd (by simp), Option.bind_some]
  have e : ∀ {L L' : List va_E} {s s' : Nat}, L = L' → s = s' → some (lm x L s) = some (lm x L' s') := fun h k => by rw [h, k]
  refine e ?_ (by omega)
  unfold L19
  simp only [lm_21, fx, c00, List.set_cons_zero, List.set_cons_succ, List.length_cons, List.length_nil, rowE, refE, Nat.add_assoc]
