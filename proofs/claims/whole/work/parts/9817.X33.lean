/-! ===== what a throw wants of the world beside nx_Env; the throw out of LateStamps.seat ===== -/
def th_ws : List Cond := [.declares (Bundle.initS rtN), .declares (Bundle.initS exN), .declares (Bundle.initS Bundle.tN), .castable nsN nsN]
def th_so : List Cond := ns_r ++ [.laysStatic Bundle.tN "UNASSIGNED_STACK" Bundle.steD, .laysStatic Bundle.tN "SUPPRESSED_SENTINEL" Bundle.listD]
theorem ns_in : ∀ w ∈ ns_ws, (goodWord w = true ∧ w ∈ lw_tbl) ∨ w ∈ th_ws ∨ w ∈ th_so := by decide +kernel
def thT : Bool → String
  | false => "no such seat or question"
  | true => "nobody is at the seat"
def thI : Bool → Nat
  | false => 123
  | true => 131
def nx_Th (Γ : nx_G) (U : State) : Prop := (∀ w ∈ th_ws, va_Nw w U) ∧ (∀ b : Bool, ∃ a, vk_R "LateStamps" (thI b) (thT b) a U) ∧ vx_Zq Bundle.tN "UNASSIGNED_STACK" Bundle.steD (nx_A Γ) U Γ.2.1 ∧ vx_Zq Bundle.tN "SUPPRESSED_SENTINEL" Bundle.listD (nx_A Γ) U Γ.2.1
theorem th_all {P : Cond → Prop} (h1 : P (.declares (Bundle.initS rtN))) (h2 : P (.declares (Bundle.initS exN))) (h3 : P (.declares (Bundle.initS Bundle.tN))) (h4 : P (.castable nsN nsN)) : ∀ w ∈ th_ws, P w := by
  intro w hw
  simp only [th_ws, List.mem_cons, List.not_mem_nil, or_false] at hw
  rcases hw with rfl | rfl | rfl | rfl
  · exact h1
  · exact h2
  · exact h3
  · exact h4
theorem th_mem : Cond.declares (Bundle.initS rtN) ∈ th_ws ∧ Cond.declares (Bundle.initS exN) ∈ th_ws ∧ Cond.declares (Bundle.initS Bundle.tN) ∈ th_ws ∧ Cond.castable nsN nsN ∈ th_ws := by simp [th_ws]
theorem nx_Th.warm {Γ : nx_G} {s U : State} (h : nx_Th Γ s) (hW : s.WarmedH U.vm) : nx_Th Γ U :=
  ⟨th_all (va_Nw.warmD hW (h.1 _ th_mem.1)) (va_Nw.warmD hW (h.1 _ th_mem.2.1)) (va_Nw.warmD hW (h.1 _ th_mem.2.2.1)) (va_Nw.warmC hW (h.1 _ th_mem.2.2.2)), fun b => by
    obtain ⟨a, ha⟩ := h.2.1 b
    exact ⟨a, vk_R.warm hW ha⟩, h.2.2.1.moved hW.alike, h.2.2.2.moved hW.alike⟩
theorem nx_Th.same {Γ : nx_G} {s U : State} (h : nx_Th Γ s) (hv : U.vm = s.vm) : nx_Th Γ U :=
  ⟨th_all (va_Nw.same rfl hv.symm (h.1 _ th_mem.1)) (va_Nw.same rfl hv.symm (h.1 _ th_mem.2.1)) (va_Nw.same rfl hv.symm (h.1 _ th_mem.2.2.1)) (va_Nw.same rfl hv.symm (h.1 _ th_mem.2.2.2)), fun b => by
    obtain ⟨a, ha⟩ := h.2.1 b
    exact ⟨a, vk_R.same hv ha⟩, h.2.2.1.moved (by rw [hv]; exact Vm.Alike.refl _), h.2.2.2.moved (by rw [hv]; exact Vm.Alike.refl _)⟩
theorem nx_Th.blind {Γ : nx_G} {U : State} {g : JFrame} {mk : MethodId} {a : Array Value} (h : nx_Th Γ U) : nx_Th Γ (U.calling g mk a) := h.same rfl
theorem K_th {s : State} {args : Array Value} {Γ : nx_G} (h1 : Γ.1 = s.heap.size) (h2 : Γ.2.1 = s.heap) (hts : ∀ w ∈ lw_tbl, w.before args s = true) (hg : (Jvm.Cond.and given_1 narrow_1).before args s = true) : nx_Th Γ s := by
  have hf := flat_of_before _ hg
  have hA : ∀ a : Nat, a < s.heap.size → ¬ nx_A Γ a := fun a h => by
    show ¬ Γ.1 ≤ a
    rw [h1]
    exact Nat.not_le.mpr h
  have ini := hts (.initialized Bundle.tN) (by decide +kernel)
  refine ⟨th_all (va_Nw.of rfl (hts (.declares (Bundle.initS rtN)) (by decide +kernel))) (va_Nw.of rfl (hts (.declares (Bundle.initS exN)) (by decide +kernel))) (va_Nw.of rfl (hts (.declares (Bundle.initS Bundle.tN)) (by decide +kernel))) (va_Nw.of rfl (hts (.castable nsN nsN) (by decide +kernel))), fun b => ?_, ?_, ?_⟩
  · cases b with
    | false =>
      obtain ⟨a, _, _, _, q1, _⟩ := Cond.exactly_spec (hf (.exactly (.string "LateStamps" 123) "java/lang/String") (by decide +kernel))
      exact ⟨a, vk_R.of (hts (.stringRef "LateStamps" 123 "no such seat or question") (by decide +kernel)) q1⟩
    | true =>
      obtain ⟨a, _, _, _, q1, _⟩ := Cond.exactly_spec (hf (.exactly (.string "LateStamps" 131) "java/lang/String") (by decide +kernel))
      exact ⟨a, vk_R.of (hts (.stringRef "LateStamps" 131 "nobody is at the seat") (by decide +kernel)) q1⟩
  · rw [h2]
    exact vx_Zqof (hts (.laysStatic Bundle.tN "UNASSIGNED_STACK" Bundle.steD) (by decide +kernel)) ini (hf _ (by decide +kernel)) hA
  · rw [h2]
    exact vx_Zqof (hts (.laysStatic Bundle.tN "SUPPRESSED_SENTINEL" Bundle.listD) (by decide +kernel)) ini (hf _ (by decide +kernel)) hA
theorem wd_ns1 : Cond.classLink "LateStamps" 121 nsN ∈ nx_TB := nx_mem 1067 (by decide +kernel) (by decide +kernel)
theorem wd_ns2 : Cond.initialized nsN ∈ nx_TB := nx_mem 204 (by decide +kernel) (by decide +kernel)
theorem ns_all {Γ : nx_G} {s s' : State} {args : Array Value} {M : nx_M} (hts : ∀ w ∈ nx_TB, w.before args s = true) (hTh : nx_Th Γ s) (hv : s'.vm = s.vm) (hW : s.WarmedH s'.vm) (hH : nx_Hold Γ M s'.heap) : ∀ w ∈ ns_ws, w.before args s' = true := by
  have hTh' := hTh.same hv
  have hk : ∀ a : Nat, a < Γ.2.1.size → ¬ nx_A Γ a → s'.heap[a]? = Γ.2.1[a]? := fun a h1 h2 => hH.2.2.2 a (Nat.not_le.mp h2)
  have hU := hTh'.2.2.1.kept hk
  have hN := hTh'.2.2.2.kept hk
  intro w hw
  rcases ns_in w hw with ⟨g, hm⟩ | hm | hm
  · exact word_at hW (good_of_word g) (hts w (List.mem_filter.mpr ⟨hm, g⟩))
  · exact th_all (P := fun w => w.before args s' = true) (va_Nw.use rfl (hTh'.1 _ th_mem.1)) (va_Nw.use rfl (hTh'.1 _ th_mem.2.1)) (va_Nw.use rfl (hTh'.1 _ th_mem.2.2.1)) (va_Nw.use rfl (hTh'.1 _ th_mem.2.2.2)) w hm
  · simp only [th_so, ns_r, List.mem_append, List.mem_cons, List.not_mem_nil, or_false] at hm
    rcases hm with (rfl | rfl) | (rfl | rfl)
    · exact vx_isRefq hU.1
    · exact vx_isRefq hN.1
    · exact hU.2.word
    · exact hN.2.word
section XTH
variable {p : Program} {l : Launch} {e : Env} {R : Room} {s : State} {m : MethodId} {args : Array Value} {below : List Frame} {meth : Method} {c : Code} {H : Heap} {locs : List Loc} {cells slots : Nat}
variable {mc ms : Nat} {free : Addr → Prop} {ls : Array Slot} {Qc : Array Value → State → Outcome → State → Prop} {XC : String → State → State → Prop}
theorem x_thr {Γ : nx_G} {M : nx_M} {cc : ByteArray} {pc : Nat} (b : Bool) (hexec : p.tables.exec = Jvm.exec) (hb : c.code = cc) (hl : l.stackTraces = false) (hown : s.vm.findClass "LateStamps" = some m.cls)
    (hts : ∀ w ∈ nx_TB, w.before args s = true) (hTh : nx_Th Γ s) (hH : nx_Hold Γ M H) (hsize : ls.size = c.maxLocals)
    (d0 : decode cc pc = .ok (.new 121, 3)) (d3 : decode cc (pc + 3) = .ok (.dup, 1)) (d4 : decode cc (pc + 4) = .ok (.ldc (thI b), 2)) (d6 : decode cc (pc + 6) = .ok (.invokespecial 125, 3)) (d9 : decode cc (pc + 9) = .ok (.athrow, 1))
    (hout : ∀ x ∈ c.exceptionTable.toList, covers x (pc + 9) = false) (hRframes : 5 < R.frames) (hRlocals : 82 ≤ R.locals) (hRcells : cells + 1 ≤ R.cells) (hRslots : slots + 6 ≤ R.slots) (hlocks : meth.locks = false)
    (hx : ∀ t : State, s.vm.Alike t.vm → t.heap.size = H.size + 1 → (∀ q : Nat, q < H.size → t.heap[q]? = H[q]?) → XC nsN s t)
    (hf : ∀ z ∈ locs, free z.base) (hc : cells + 1 ≤ mc) (hs : slots + 6 ≤ ms) :
    W p l e R s m args below meth c H locs cells slots (vx_MQ below Qc XC args s mc ms free) (F0 m pc ls []) := by
  intro T hT X
  have htr : e.platform.stackTraces = false := (show e.platform.stackTraces = l.stackTraces by rw [X.admits.platform]).trans hl
  have Y := vx_rebase X (R' := { frames := R.frames, locals := R.locals, cells := 1, slots := 6 }) (Nat.le_refl _) (Nat.le_refl _) hRcells hRslots
  obtain ⟨s', hA⟩ : ∃ z, z = (T.setVm s.vm).setFrames (.invoking m args :: below) := ⟨_, rfl⟩
  rw [← hA] at Y
  have hvm : s'.vm = s.vm := by rw [hA]; rfl
  have hhp : s'.heap = H := by rw [hA]; exact hT
  have hW0 : s.WarmedH s'.vm := by rw [hvm]; exact State.WarmedH.refl s
  have h : ∀ w ∈ ns_ws, w.before args s' = true := ns_all hts hTh hvm hW0 (by rw [hhp]; exact hH)
  have hk' : (Cond.classLink "LateStamps" 121 nsN).before args s' = true := word_at hW0 (good_of_word (by decide +kernel)) (hts _ wd_ns1)
  have hini' : (Cond.initialized nsN).before args s' = true := word_at hW0 (good_of_word (by decide +kernel)) (hts _ wd_ns2)
  have hown' : s'.vm.findClass "LateStamps" = some m.cls := by rw [hvm]; exact hown
  have hins : (Cond.instantiable nsN 6).before args s' = true := h _ (List.mem_append_right _ (List.mem_append_right _ (List.mem_append_right _ (List.mem_append_right _ (List.mem_append_left _ (by simp [ns_o]))))))
  obtain ⟨sa, hstr⟩ := (hTh.same hvm).2.1 b
  obtain ⟨vm₁, cX, kX, hfX, hkX, -, -, X₁, st1⟩ := Y.newCold hexec (own := "LateStamps") (C := nsN) (index := 121) (n := 6) hown' hk' hins hini'
    (g := F0 m pc ls []) rfl (by rw [hb]; exact d0) (Nat.le_refl _) (Nat.le_refl _)
  generalize hT1 : (T.setVm vm₁).pushCell { cls := cX, slots := kX.instanceTypes.map defaultValue, vm := .none } = T1 at X₁ st1
  have hcat : (Value.ref T.heap.size).category = 1 := rfl
  have hcellA : T1.heap[T.heap.size]? = some (freshCell cX kX) := by rw [← hT1]; exact State.heap_pushCell_size _ _
  have d3' : decode c.code (pc + 3) = .ok (.dup, 1) := by rw [hb]; exact d3
  have d4' : decode c.code (pc + 4) = .ok (.ldc (thI b), 2) := by rw [hb]; exact d4
  obtain ⟨U, hsteps, hrun, hend, hW, hsame, ce, hce, hcv, hcl⟩ := x_ctor X₁ hexec htr hown' h hfX hkX hcellA (by rw [hhp, hT]; exact Nat.le_refl _) (msg := .ref sa) rfl
    (g := { method := m, pc := pc + 6, locals := ls, stack := .ref sa :: .ref T.heap.size :: .ref T.heap.size :: [], locked := none }) rfl hsize rfl rfl (rest := []) rfl
    (by rw [hb]; exact d6) (by rw [hb]; exact d9) hout hRframes (by
      have h0 : (JFrame.monitorRoom { method := m, pc := pc + 6, locals := ls, stack := .ref sa :: .ref T.heap.size :: .ref T.heap.size :: [], locked := none }) = 0 := rfl
      rw [h0]
      simp only [List.map_cons, List.map_nil, List.sum_cons, List.sum_nil, hcat]
      exact hRlocals) hlocks
  obtain ⟨f1, f2⟩ := vx_frame hsame
  rw [hhp] at f1 f2
  have hWs : s.WarmedH U.vm := State.WarmedH.trans hW0 hW
  have hcl' : s.vm.findClass nsN = some ce.cls := by
    rw [← hvm]
    exact hcl
  have hsz : U.heap.size = H.size + 1 := by
    have g1 : U.heap.size ≤ s'.heap.size + (0 + 1) := hsame.2.2.1
    have g2 : T.heap.size < U.heap.size := (Array.getElem?_eq_some_iff.mp hce).1
    rw [hhp] at g1
    rw [hT] at g2
    omega
  have hall : s.sameButNew ({ U with vm := s.vm } : State) locs mc ms := by
    subst hA
    obtain ⟨e1, e2⟩ := hsame
    rw [State.setFrames_setFrames] at e1
    have h2 : (T.setVm s.vm).sameButNew ({ U with vm := s.vm } : State) [] (0 + 1) (0 + 6) := ⟨e1, e2⟩
    have h3 := X.same.trans h2
    rw [List.append_nil] at h3
    exact h3.mono hc hs
  refine ⟨U, ?_, .threw T.heap.size, hrun, hend, Or.inr ⟨T.heap.size, rfl, nsN, ce, locs, hx U hWs.alike hsz (fun q hq => f2 q hq (fun z hz => nomatch hz)), hce, hcv, hcl', hWs, hall, hf⟩⟩
  refine st1 _ ?_
  show Steps p.tables e below (T1.setTop { method := m, pc := pc + 3, locals := ls, stack := .ref T.heap.size :: [], locked := none }) _
  jvm_step X₁.here [X₁.here.top, hexec, d3', Value.category]
  exact X₁.ldcString hexec (own := "LateStamps") (text := thT b) (index := thI b) (a := sa) hown' hstr.1 hstr.2
    (g := { method := m, pc := pc + 4, locals := ls, stack := .ref T.heap.size :: .ref T.heap.size :: [], locked := none }) rfl d4' _ hsteps
end XTH
