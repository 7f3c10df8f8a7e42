/-! ===== feed ===== -/
theorem i32_nat (y : Int32) : (y.toInt = (y.toBitVec.toNat : Int) ∨ y.toInt = (y.toBitVec.toNat : Int) - 4294967296) ∧ y.toBitVec.toNat < 4294967296 := by
  refine ⟨?_, y.toBitVec.isLt⟩
  have : y.toInt = y.toBitVec.toInt := rfl
  rw [this, BitVec.toInt_eq_toNat_cond]
  split
  · left; rfl
  · right; rfl
def bv (a : Int32) (k : Nat) : Nat := a.toBitVec.toNat / 2 ^ k % 256
theorem bv_lt {a : Int32} {k : Nat} : bv a k < 256 := Nat.mod_lt _ (by omega)
theorem b255 : (nI 255).toBitVec.toNat = 2 ^ 8 - 1 := by decide +kernel
theorem bT (a : Int32) {k : Nat} (hk : k = 0 ∨ k = 8 ∨ k = 16 ∨ k = 24) : (a.toUInt32 >>> ((nI k).toUInt32 &&& Int32.toUInt32 31)).toInt32 &&& (nI 255) = nI (bv a k) := by
  have hs : (((nI k).toUInt32 &&& Int32.toUInt32 31).toBitVec % 32).toNat = k := by
    rcases hk with rfl | rfl | rfl | rfl <;> decide +kernel
  rw [pk_and _ 8 b255, pk_ushr a (nI k) k hs]
  rfl
theorem bM (a : Int32) {k : Nat} (hk : k = 0 ∨ k = 8 ∨ k = 16 ∨ k = 24) : (a >>> (nI k &&& 31)) &&& (nI 255) = nI (bv a k) := by
  have hs : ((nI k &&& 31).toBitVec.smod 32).toNat = k := by
    rcases hk with rfl | rfl | rfl | rfl <;> decide +kernel
  have e := pk_shr a (nI k &&& 31) k hs
  rw [pk_and _ 8 b255]
  congr 1
  rw [Int.shiftRight_eq_div_pow] at e
  have h1 := i32_nat a
  have h2 := i32_nat (a >>> (nI k &&& 31))
  unfold bv
  generalize (a >>> (nI k &&& 31)).toInt = P at e h2
  generalize (a >>> (nI k &&& 31)).toBitVec.toNat = M at h2 ⊢
  generalize a.toInt = S at e h1
  generalize a.toBitVec.toNat = N at h1 ⊢
  rcases hk with rfl | rfl | rfl | rfl
  · simp at e ⊢; omega
  · simp at e ⊢; omega
  · simp at e ⊢; omega
  · simp at e ⊢; omega
abbrev tp : Type := Nat × (Nat → Int32)
def putB (s : tp) (b : Nat) : tp := if b = 0 then s else (s.1 + 1, upd s.2 s.1 (nI b))
def cB (b : Nat) : Nat := if b = 0 then 0 else 1
theorem putB_1 (s : tp) (b : Nat) : (putB s b).1 = s.1 + cB b := by
  unfold putB cB
  split <;> rfl
theorem putB_ok {s : tp} {b : Nat} (hb : b < 256) (h : ∀ i, s.2 i ≠ iz (-1)) : ∀ i, (putB s b).2 i ≠ iz (-1) := by
  intro i
  unfold putB
  split
  · exact h i
  · show upd s.2 s.1 (nI b) i ≠ _
    by_cases e : i = s.1
    · rw [upd_e e]; exact neN1 (by omega)
    · rw [upd_n e]; exact h i
def putW (s : tp) (a : Int32) : tp := putB (putB (putB (putB s (bv a 24)) (bv a 16)) (bv a 8)) (bv a 0)
def cW (a : Int32) : Nat := cB (bv a 24) + cB (bv a 16) + cB (bv a 8) + cB (bv a 0)
theorem putW_1 (s : tp) (a : Int32) : (putW s a).1 = s.1 + cW a := by
  unfold putW cW
  rw [putB_1, putB_1, putB_1, putB_1]
  omega
theorem putW_ok {s : tp} {a : Int32} (h : ∀ i, s.2 i ≠ iz (-1)) : ∀ i, (putW s a).2 i ≠ iz (-1) := putB_ok bv_lt (putB_ok bv_lt (putB_ok bv_lt (putB_ok bv_lt h)))
theorem cB_le {b : Nat} : cB b ≤ 1 := by unfold cB; split <;> omega
theorem cW_le {a : Int32} : cW a ≤ 4 := by
  unfold cW
  have := cB_le (b := bv a 24); have := cB_le (b := bv a 16); have := cB_le (b := bv a 8); have := cB_le (b := bv a 0)
  omega
theorem nb0 {b : Nat} (hb : b < 256) : (nI b = nI 0) ↔ b = 0 := eqI (by omega) (by omega)
theorem m8 (k : Nat) (hk : k = 24 ∨ k = 16 ∨ k = 8) : nI k + iz (-8) = nI (k - 8) := by
  rcases hk with rfl | rfl | rfl <;> decide +kernel
theorem m8n : nI 0 + iz (-8) < nI 0 := by decide +kernel
theorem k_nn {k : Nat} (h : k < 100) : ¬ nI k < nI 0 := by rw [ltI (by omega) (by omega)]; omega
theorem T_bytes {u : Nat} (hu : 1000 ≤ u) (a : Int32) : fT_bytesIn u a = some (nI (cW a)) := by
  obtain ⟨w, rfl⟩ : ∃ w, u = w + 5 := ⟨u - 5, by omega⟩
  have st : ∀ m k, (k = 0 ∨ k = 8 ∨ k = 16 ∨ k = 24) → fT_bytesIn_5 a (nI m, nI k) = some (.inl (nI (m + cB (bv a k)), nI k + iz (-8))) := fun m k hk => by
    unfold fT_bytesIn_5
    simp only [izN]
    rw [if_neg (k_nn (by omega)), bT a hk]
    unfold cB
    by_cases e : bv a k = 0
    · rw [if_pos ((nb0 bv_lt).mpr e), if_pos e]; rfl
    · rw [if_neg (fun q => e ((nb0 bv_lt).mp q)), if_neg e]
      simp only [Option.bind_some, nI_add]
  have en : ∀ m, fT_bytesIn_5 a (m, nI 0 + iz (-8)) = some (.inr m) := fun m => by
    unfold fT_bytesIn_5
    simp only [izN]
    rw [if_pos m8n]
  have s1 := st 0 24 (by omega)
  have s2 := st (0 + cB (bv a 24)) 16 (by omega)
  have s3 := st (0 + cB (bv a 24) + cB (bv a 16)) 8 (by omega)
  have s4 := st (0 + cB (bv a 24) + cB (bv a 16) + cB (bv a 8)) 0 (by omega)
  rw [m8 24 (by omega)] at s1
  rw [m8 16 (by omega)] at s2
  rw [m8 8 (by omega)] at s3
  unfold fT_bytesIn
  simp only [izN]
  rw [it_on s1, it_on s2, it_on s3, it_on s4, it_end (en _) (by omega)]
  unfold cW
  simp only [Option.bind_some, Nat.zero_add]
def gTp (g : pS) (s : tp) : pS := tFs (tRow g 1 s.2) 0 (nI s.1)
theorem gTp_0 {g : pS} {s : tp} : gTp g s 0 0 = nI s.1 := tfs_s
theorem gTp_1 {g : pS} {s : tp} : gTp g s 1 = s.2 := by unfold gTp; rw [tfs_r (by omega), trow_s]
theorem gTp_m {g : pS} {s s' : tp} : tFs (tRow (gTp g s) 1 s'.2) 0 (nI s'.1) = gTp g s' := by
  funext i
  by_cases e : i = 0
  · subst e
    funext j
    by_cases k : j = 0
    · subst k; rw [tfs_s, gTp_0]
    · unfold gTp
      rw [tfs_n k, tfs_n k, trow_n (by omega), trow_n (by omega), tfs_n k, trow_n (by omega)]
  · unfold gTp
    rw [tfs_r e, tfs_r e]
    by_cases k : i = 1
    · subst k; rw [trow_s, trow_s]
    · rw [trow_n k, trow_n k, tfs_r e, trow_n k]
theorem gTp_i {g : pS} {n : Nat} (h : g 0 0 = nI n) : gTp g (n, g 1) = g := by
  funext i
  by_cases e : i = 0
  · subst e
    funext j
    by_cases k : j = 0
    · subst k; rw [gTp_0, h]
    · unfold gTp
      rw [tfs_n k, trow_n (by omega)]
  · unfold gTp
    rw [tfs_r e]
    by_cases k : i = 1
    · subst k; rw [trow_s]
    · rw [trow_n k]
theorem tWr1_at {m : Nat} {g : pS} {v : Int32} (hm : m < 240) : tWr g 1 (nI m) v = some (tRow g 1 (upd (g 1) m v)) := by
  unfold tWr
  rw [wr_nI (show m < tlen 1 from hm) (show (240 : Nat) ≤ 100000 by omega)]
  rfl
theorem mWr1_at {m : Nat} {g : mS} {v : Int32} (hm : m < 240) : mWr g 1 (nI m) v = some (mRow g 1 (upd (g.1 1) m v)) := mWr_at (show m < mlen 1 from hm) (show (240 : Nat) ≤ 100000 by omega)
theorem T_take {u n : Nat} (hu : 1000 ≤ u) {g : pS} {a : Int32} (hn : g 0 0 = nI n) (hl : n + cW a ≤ 240) : fT_take u g a = some (gTp g (putW (n, g 1) a)) := by
  obtain ⟨w, rfl⟩ : ∃ w, u = w + 5 := ⟨u - 5, by omega⟩
  have st : ∀ (s : tp) k, (k = 0 ∨ k = 8 ∨ k = 16 ∨ k = 24) → s.1 + cB (bv a k) ≤ 240 → fT_take_3 a (nI k, gTp g s) = some (.inl (nI k + iz (-8), gTp g (putB s (bv a k)))) := fun s k hk hs => by
    unfold fT_take_3
    simp only [izN]
    rw [if_neg (k_nn (by omega)), bT a hk]
    unfold putB
    unfold cB at hs
    by_cases e : bv a k = 0
    · rw [if_pos ((nb0 bv_lt).mpr e), if_pos e]; rfl
    · rw [if_neg e] at hs
      rw [if_neg (fun q => e ((nb0 bv_lt).mp q)), if_neg e, gTp_0, if_neg (by rw [leI (by omega) (by omega)]; omega), tWr1_at (by omega)]
      simp only [Option.bind_some]
      rw [trow_n (by omega), gTp_0, nI_add, gTp_1, gTp_m (s' := (s.1 + 1, upd s.2 s.1 (nI (bv a k))))]
  have en : ∀ m, fT_take_3 a (nI 0 + iz (-8), m) = some (.inr m) := fun m => by
    unfold fT_take_3
    simp only [izN]
    rw [if_pos m8n]
  unfold cW at hl
  have s1 := st (n, g 1) 24 (by omega) (by show n + _ ≤ _; omega)
  have s2 := st (putB (n, g 1) (bv a 24)) 16 (by omega) (by rw [putB_1]; show n + _ + _ ≤ _; omega)
  have s3 := st (putB (putB (n, g 1) (bv a 24)) (bv a 16)) 8 (by omega) (by rw [putB_1, putB_1]; show n + _ + _ + _ ≤ _; omega)
  have s4 := st (putB (putB (putB (n, g 1) (bv a 24)) (bv a 16)) (bv a 8)) 0 (by omega) (by rw [putB_1, putB_1, putB_1]; show n + _ + _ + _ + _ ≤ _; omega)
  rw [m8 24 (by omega)] at s1
  rw [m8 16 (by omega)] at s2
  rw [m8 8 (by omega)] at s3
  rw [gTp_i hn] at s1
  unfold fT_take
  simp only [izN]
  rw [it_on s1, it_on s2, it_on s3, it_on s4, it_end (en _) (by omega)]
  rfl
