/-! ===== questions, with and without a store ===== -/
theorem Wf_hasKey (u : Nat) (a : Int32) : fW_hasKey u (fun _ => nI 0) a = some false := by
  unfold fW_hasKey
  simp (disch := omega) only [izN, nI_add, mulI, rdW, wrW, Option.bind_some, L_within]
  by_cases c : inR a 6 = true
  · obtain ⟨k, hk, rfl⟩ := inR_of c
    rw [if_pos c, if_pos (by rw [leI (by omega) (by omega)]; omega)]
  · rw [if_neg c]
theorem inR0 (a : Int32) : inR a 0 = false := by
  unfold inR
  exact decide_eq_false (by simp)
theorem n01 : ¬ (nI 0 = nI 1) := by decide +kernel
theorem n02 : ¬ (nI 0 = nI 2) := by decide +kernel
theorem n04 : ¬ (nI 0 = nI 4) := by decide +kernel
theorem Mf_isActive (u : Nat) {g : mS} (h : g.1 0 9 = nI 0) (a : Int32) : fM_isActive u g a = some false := by
  unfold fM_isActive
  rw [Mf_isSeat u h]
  rfl
theorem Mf_isOn (u : Nat) {g : mS} (h : g.1 0 9 = nI 0) (a : Int32) : fM_isOn u g a = some false := by
  unfold fM_isOn
  rw [Mf_isSeat u h]
  rfl
theorem Wf_state (u : Nat) {s : Nat} (hs : s < 8) : fW_stateOf u (fun _ => nI 0) (nI s) = some (nI 0) := by
  unfold fW_stateOf
  simp (disch := omega) only [izN, nI_add, mulI, rdW, wrW, Option.bind_some]
/-- a question on both sides: fresh, or over a store -/
theorem B_q {α : Type} {u : Nat} (hu : 1000 ≤ u) {Γ : nx_G} {x A B : Nat} {Dm : nx_M} {g : mS} {o1 o2 : Option α} (hI : INV Γ x A B Dm g)
    (hf : ∀ c, CC Γ x A B c Dm → freI x c g → both o1 o2)
    (hs : ∀ c w0 R m0 D T, gR Dm x 7 5 = some (x + 9) → wGet Γ Dm (x + 9) = some (x + 9 + 1, csW c (x + 9)) → RW R w0 D (csW c (x + 9)) T → RM g R m0 none D g T → EI R D T → both o1 o2) : both o1 o2 := by
  obtain ⟨c, hc, hb, hh | ⟨R, D, T, hst⟩⟩ := hI
  · exact hf c hc hh
  · obtain ⟨⟨w0, hw⟩, _, hE⟩ := hst.2.1
    exact hs c w0 R _ D T hc.1.r5 (hc.1.wg WA_9) hw (st2.rm hst hb.2.2.2) hE
section QS
variable {u : Nat} {Γ : nx_G} {x A B : Nat} {Dm : nx_M} {g : mS}
theorem B_rule (hu : 1000 ≤ u) (hI : INV Γ x A B Dm g) (a : Int32) : both (fC_rule u Γ Dm x a) (fM_rule u g a) :=
  B_q hu hI (fun c hc hf => by
    unfold fC_rule fM_rule
    rw [hc.1.r5, Option.bind_some, hc.wRd WA_9, hf.1, Wf_hasStore, Mf_isStore u hf.2.1]
    exact both.of rfl rfl) (fun c w0 R m0 D T e5 eW h k hE => Q_rule hu e5 eW h k hE a)
theorem B_readBy (hu : 1000 ≤ u) (hI : INV Γ x A B Dm g) (a b : Int32) : both (fC_readBy u Γ Dm x a b) (fM_readBy u g a b) :=
  B_q hu hI (fun c hc hf => by
    unfold fC_readBy fM_readBy
    rw [hc.1.r5, Mf_isThere u hf.2.1]
    simp (disch := omega) only [Option.bind_some, hc.wRd WA_9, hf.1, Wf_hasKey, izN, L_within, Bool.false_eq_true, if_false]
    split <;> exact both.of rfl rfl) (fun c w0 R m0 D T e5 eW h k hE => Q_readBy hu e5 eW h k hE a b)
theorem B_deed (hu : 1000 ≤ u) (hI : INV Γ x A B Dm g) (a b d : Int32) : both (fC_deed u Γ Dm x a b d) (fM_deed u g a b d) :=
  B_q hu hI (fun c hc hf => by
    unfold fC_deed fM_deed fW_deedsOf
    rw [hc.1.r5, Mf_isThere u hf.2.1]
    simp (disch := omega) only [Option.bind_some, hc.wRd WA_9, hf.1, izN, L_within, Bool.false_eq_true, if_false]
    by_cases ca : inR a 8 = true
    · obtain ⟨s, hs, rfl⟩ := inR_of ca
      rw [if_pos ca]
      simp (disch := omega) only [izN, nI_add, mulI, rdW, wrW, Option.bind_some, L_within, inR0, Bool.false_eq_true, if_false]
      split <;> exact both.of rfl rfl
    · rw [if_neg ca]
      exact both.of rfl rfl) (fun c w0 R m0 D T e5 eW h k hE => Q_deed hu e5 eW h k hE a b d)
theorem B_versions (hu : 1000 ≤ u) (hI : INV Γ x A B Dm g) (a : Int32) : both (fC_versions u Γ Dm x a) (fM_versions u g a) :=
  B_q hu hI (fun c hc hf => by
    unfold fC_versions fM_versions
    rw [hc.1.r5, Mf_isKey u hf.2.1]
    simp (disch := omega) only [Option.bind_some, hc.wRd WA_9, hf.1, Wf_hasKey, Bool.false_eq_true, if_false]
    exact both.of rfl rfl) (fun c w0 R m0 D T e5 eW h k hE => Q_versions hu e5 eW h k hE a)
theorem B_version (hu : 1000 ≤ u) (hI : INV Γ x A B Dm g) (a b d : Int32) : both (fC_version u Γ Dm x a b d) (fM_version u g a b d) :=
  B_q hu hI (fun c hc hf => by
    unfold fC_version fM_version
    rw [hc.1.r5, Mf_isKey u hf.2.1]
    simp (disch := omega) only [Option.bind_some, hc.wRd WA_9, hf.1, Wf_hasKey, Bool.false_eq_true, if_false]
    exact both.of rfl rfl) (fun c w0 R m0 D T e5 eW h k hE => Q_version hu e5 eW h k hE a b d)
theorem Cf_log {c : CS} (hc : CC Γ x A B c Dm) (hf : csW c (x + 9) = (fun _ => nI 0)) (a b : Int32) : fC_log u Γ Dm x a b = some ((-1000000) : Int32) := by
  unfold fC_log fW_logLength
  rw [hc.1.r5]
  simp only [Option.bind_some, hc.wRd WA_9]
  rw [hf]
  simp (disch := omega) only [izN, rdW, Option.bind_some, L_within, inR0]
  by_cases cb : inR b 3 = true
  · rw [if_pos cb, if_neg (by decide)]
  · rw [if_neg cb]
theorem Mf_log (h : g.1 7 639 = nI 0) (a b : Int32) : fM_log u g a b = some ((-1000000) : Int32) := by
  unfold fM_log
  simp (disch := omega) only [izN, rdM, Option.bind_some]
  rw [h, M_inS u a (by omega), Option.bind_some, inR0, if_neg (by decide)]
theorem B_log (hu : 1000 ≤ u) (hI : INV Γ x A B Dm g) (a b : Int32) : both (fC_log u Γ Dm x a b) (fM_log u g a b) :=
  B_q hu hI (fun c hc hf => both.of (Cf_log hc hf.1 a b) (Mf_log hf.2.2.2.1 a b)) (fun c w0 R m0 D T e5 eW h k hE => Q_log hu e5 eW h k hE a b)
theorem B_would (hu : 1000 ≤ u) (hI : INV Γ x A B Dm g) (a b d : Int32) : both (fC_would u Γ Dm x a b d) (fM_would u g a b d) :=
  B_q hu hI (fun c hc hf => by
    unfold fC_would fM_would
    rw [hc.1.r5, Mf_isActive u hf.2.1]
    simp (disch := omega) only [Option.bind_some, hc.wRd WA_9, hf.1, Wf_hasKey, izN, L_within, Bool.false_eq_true, if_false]
    split <;> exact both.of rfl rfl) (fun c w0 R m0 D T e5 eW h k hE => Q_would hu e5 eW h k hE a b d)
theorem B_since (hu2 : 40000 ≤ u) (hI : INV Γ x A B Dm g) (a b : Int32) : both (fC_since u Γ Dm x a b) (fM_since u g a b) :=
  B_q (u := u) (by omega) hI (fun c hc hf => by
    unfold fC_since fM_since
    rw [hc.1.r5, Mf_isKey u hf.2.1]
    simp (disch := omega) only [Option.bind_some, hc.wRd WA_9, hf.1, Wf_hasKey, Bool.false_eq_true, if_false]
    exact both.of rfl rfl) (fun c w0 R m0 D T e5 eW h k hE => Q_since (by omega) e5 eW h k hE (by omega) a b)
theorem Wf_isLive (u : Nat) {s : Nat} (hs : s < 8) : fW_isLive u (fun _ => nI 0) (nI s) = some false := by
  unfold fW_isLive
  simp (disch := omega) only [izN, nI_add, mulI, rdW, wrW, Option.bind_some, n01, n02, if_false]
theorem B_falls (hu : 1000 ≤ u) (hI : INV Γ x A B Dm g) (a : Int32) : both (fC_falls u Γ Dm x a) (fM_falls u g a) :=
  B_q hu hI (fun c hc hf => by
    unfold fC_falls fM_falls
    rw [hc.1.r5, Mf_isOn u hf.2.1]
    simp (disch := omega) only [Option.bind_some, hc.wRd WA_9, hf.1, izN, L_within, Bool.false_eq_true, if_false]
    by_cases ca : inR a 8 = true
    · obtain ⟨s, hs, rfl⟩ := inR_of ca
      rw [if_pos ca, Wf_isLive u hs]
      exact both.of rfl rfl
    · rw [if_neg ca]
      exact both.of rfl rfl) (fun c w0 R m0 D T e5 eW h k hE => Q_falls hu e5 eW h k hE a)
theorem B_asOf (hu : 1000 ≤ u) (hI : INV Γ x A B Dm g) (a b : Int32) : both (fC_asOf u Γ Dm x a b) (fM_asOf u g a b) :=
  B_q hu hI (fun c hc hf => by
    unfold fC_asOf fM_asOf
    rw [hc.1.r5, Mf_isKey u hf.2.1]
    simp (disch := omega) only [Option.bind_some, hc.wRd WA_9, hf.1, Wf_hasKey, Bool.false_eq_true, if_false]
    exact both.of rfl rfl) (fun c w0 R m0 D T e5 eW h k hE => Q_asOf hu e5 eW h k hE a b)
theorem Wf_all (hu : 1000 ≤ u) : fW_versionsOfAll u (fun _ => nI 0) = some (nI 0) := by
  unfold fW_versionsOfAll
  refine bdE (it_up (fun i => (nI 0, nI i)) 6 (fun i hi => ?_) ?_ (i := 0) (by omega) (by omega))
  · unfold fW_versionsOfAll_4
    simp (disch := omega) only [izN, nI_add, mulI, rdW, wrW, Option.bind_some, leI]
    rw [if_neg (by omega)]
  · unfold fW_versionsOfAll_4
    simp (disch := omega) only [izN, nI_add, mulI, rdW, wrW, Option.bind_some, leI]
    rfl
theorem B_shares (hu : 1000 ≤ u) (hI : INV Γ x A B Dm g) (a b : Int32) : both (fC_shares u Γ Dm x a b) (fM_shares u g a b) :=
  B_q hu hI (fun c hc hf => by
    unfold fC_shares fM_shares
    rw [hc.1.r5, Mf_isKey u hf.2.1]
    simp (disch := omega) only [Option.bind_some, hc.wRd WA_9, hf.1, Wf_all hu, Wf_hasKey, Bool.false_eq_true, if_false]
    exact both.of rfl rfl) (fun c w0 R m0 D T e5 eW h k hE => Q_shares hu e5 eW h k hE a b)
theorem B_status (hI : INV Γ x A B Dm g) (a : Int32) : both (fC_status u Γ Dm x a) (fM_status u g a) := by
  obtain ⟨c, hc, hb, _⟩ := hI
  unfold fC_status fM_status
  simp (disch := omega) only [izN, L_within, M_in, Option.bind_some]
  by_cases ca : inR a 4 = true
  · obtain ⟨i, hi, rfl⟩ := inR_of ca
    rw [if_pos ca, if_pos ca, hc.1.r11, Option.bind_some, hc.1.ri hi]
    simp (disch := omega) only [rd8, Option.bind_some]
    have h5 : csR c 7 = g.1 8 := hb.2.2.1
    rw [h5]
    exact both.of rfl rfl
  · rw [if_neg ca, if_neg ca]
    exact both.of rfl rfl
theorem B_count (hI : INV Γ x A B Dm g) (a : Int32) : both (fC_count u Γ Dm x a) (fM_count u g a) := by
  obtain ⟨c, hc, hb, hs⟩ := hI
  unfold fC_count fM_count
  by_cases ca : inR a 6 = true
  · obtain ⟨i, hi, rfl⟩ := inR_of ca
    rw [sw_nI (by omega), sw_nI (by omega), hc.1.r5, hc.1.r0, hc.1.r6]
    unfold fW_keys fW_stampsByHand fW_logLength
    simp (disch := omega) only [Option.bind_some, hc.wRd WA_9, izN, nI_add, mulI, rdW, wrW, Option.bind_some, rdM, hc.1.i4, hc.1.tl, hc.1.q2]
    obtain ⟨n, h1, h2, h3, h4⟩ := hb.1
    obtain ⟨n', s1, s2, s3, s4⟩ := hb.2.1
    have e3 : csW c (x + 9) 3 = g.1 0 9 ∧ csW c (x + 9) 7 = g.1 7 608 ∧ csW c (x + 9) 8 = g.1 7 639 ∧ csI c 9 = g.1 0 19 := by
      rcases hs with ⟨f1, f2, f3, f4, f5, f6, f7⟩ | ⟨R, D, T, hst⟩
      · rw [f1, f2, f3, f4, f5, f6]
        exact ⟨rfl, rfl, rfl, rfl⟩
      · obtain ⟨⟨w0, hw⟩, hm, hE⟩ := hst.2.1
        obtain ⟨m, nx, m1, m2, m3, m4, m5, m6⟩ := hst.2.2.1
        rw [hw.r3, hw.hh.2.1, hm.hh.2.1, hw.ll.2.1, (show logM (g.1 7) (tLg T) from hm.2.2.2.2.2.2.2).2.1, hst.1.1, m3, m4]
        exact ⟨rfl, rfl, rfl, rfl⟩
    obtain rfl | rfl | rfl | rfl | rfl | rfl : i = 0 ∨ i = 1 ∨ i = 2 ∨ i = 3 ∨ i = 4 ∨ i = 5 := by omega
    · exact both.of (congrArg some e3.1) rfl
    · exact both.of (congrArg some s2) (congrArg some s3)
    · exact both.of (congrArg some h2) (congrArg some h3)
    · exact both.of (congrArg some e3.2.1) rfl
    · exact both.of (congrArg some e3.2.2.1) rfl
    · exact both.of (congrArg some e3.2.2.2) rfl
  · have ca : inR a 6 = false := by simpa using ca
    rw [sw_out ca, sw_out ca]
    exact both.of rfl rfl
/-! scripts -/
theorem C_scriptAt {c : CS} (hc : CC Γ x A B c Dm) {n : Nat} (hn : n ≤ 4) (h6 : csI c 6 = nI n) (a : Int32) : (inR a n = false → fC_scriptAt u Γ Dm x a = some none) ∧ ∀ k, k < n → fC_scriptAt u Γ Dm x (nI k) = some (csQ c 0 k) := by
  unfold fC_scriptAt
  rw [hc.1.i4, h6]
  simp (disch := omega) only [Option.bind_some, L_within, izN]
  constructor
  · intro e
    rw [e]
    rfl
  · intro k hk
    simp (disch := omega) only [inR_nI, leI]
    rw [if_pos (by simpa using hk), if_neg (by omega), hc.1.r2, Option.bind_some, hc.1.qs (by omega)]
    rfl
theorem M_isScript {n : Nat} (hn : n ≤ 4) (h12 : g.1 0 12 = nI n) (a : Int32) : fM_isScript u g a = some (inR a n) := by
  unfold fM_isScript
  rw [h12]
  simp only [izN]
  rw [M_inS u a (by omega)]
  rfl
theorem rd5 {m : Nat} {f : Nat → Int32} (hm : m < 320) : nx_rd (mlen 5) f (nI m) = some (f m) := rd_nI hm (show (320 : Nat) ≤ 100000 by omega)
theorem rd6 {m : Nat} {f : Nat → Int32} (hm : m < 5) : nx_rd (mlen 6) f (nI m) = some (f m) := rd_nI hm (show (5 : Nat) ≤ 100000 by omega)
theorem S_part (u : Nat) (f : Nat → Int32) {i w : Nat} (hi : i < 16) (hw : w < 4) : fS_part u f (nI i) (nI w) = some (f (4 * i + w)) := by
  unfold fS_part
  simp (disch := omega) only [izN, L_within, inR_nI, Option.bind_some, mulI, nI_add]
  rw [if_pos (by simpa using hi), if_pos (by simpa using hw), rd_nI (by omega) (by omega), Nat.mul_comm i 4]
  rfl
theorem CC.sRd {c : CS} (h : CC Γ x A B c Dm) {β : Type} {a : Nat} (ha : isSA c a) (F : (Nat → Int32) → Option β) : sRd Γ Dm a F = F (csS c a) := by
  show (sGet Γ Dm a).bind _ = _
  rw [h.1.sg ha]
  rfl
theorem B_step (hI : INV Γ x A B Dm g) (a b d : Int32) : both (fC_step u Γ Dm x a b d) (fM_step u g a b d) := by
  obtain ⟨c, hc, hb, hs⟩ := hI
  obtain ⟨n, s1, s2, s3, s4⟩ := hb.2.1
  have hsa := C_scriptAt (u := u) hc s1 s2 a
  unfold fC_step fM_step
  rw [M_isScript s1 s3, hc.1.at0]
  by_cases ca : inR a n = true
  · obtain ⟨k, hk, rfl⟩ := inR_of ca
    obtain ⟨ad, m, q1, q2, q3, q4, q5⟩ := s4 k hk
    have hsA : isSA c ad := Or.inr ⟨k, by omega, q1⟩
    rw [hsa.2 k hk, q1, ca]
    simp (disch := omega) only [Option.bind_some, if_true, izN, L_within, M_in, rd6, q4, M_inS, hc.1.sn hsA, q3]
    rw [if_neg (by simp)]
    by_cases cb : inR b m = true
    · obtain ⟨i, hi, rfl⟩ := inR_of cb
      by_cases cd : inR d 4 = true
      · obtain ⟨w, hw, rfl⟩ := inR_of cd
        rw [if_pos cd, if_pos cb, if_pos cd, if_pos cb, hc.sRd hsA, S_part u _ (by omega) hw]
        simp (disch := omega) only [mulI, nI_add, rd5, Option.bind_some]
        rw [show 4 * (16 * k + i) + w = 64 * k + 4 * i + w by omega]
        exact both.of (congrArg some ((q5 i hi).2 w hw)) rfl
      · rw [if_neg cd, if_pos cb, if_neg cd]
        exact both.of rfl rfl
    · rw [if_neg cb, if_neg cb]
      split <;> exact both.of rfl rfl
  · have ca : inR a n = false := by simpa using ca
    rw [hsa.1 ca, ca]
    exact both.of rfl rfl
end QS
