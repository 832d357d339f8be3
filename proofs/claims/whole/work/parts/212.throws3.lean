def x_K (G : uG) (A : Nat → Prop) (U : State) : Prop := u_K G U ∧ va_Nw (.castable x_E x_E) U ∧ (∀ x ∈ x_decl, va_Nw (.declares x) U) ∧ ((∃ a, vk_R RX11 145 "no such furrow, or nothing such of it" a U) ∧ (∃ a, vk_R RX11 159 "nobody such, or nothing such of one" a U) ∧ ∃ a, vk_R RX11 425 "the row has no such number" a U) ∧ vx_Zq Bundle.tN "UNASSIGNED_STACK" Bundle.steD A U U.heap ∧ vx_Zq Bundle.tN "SUPPRESSED_SENTINEL" Bundle.listD A U U.heap
theorem x_K.to {G : uG} {A B : Nat → Prop} {s U : State} (hW : s.WarmedH U.vm) (hkeep : ∀ q, q < s.heap.size → ¬ A q → U.heap[q]? = s.heap[q]?) (hBA : ∀ q, B q → A q) (h : x_K G A s) : x_K G B U := by
  obtain ⟨h1, h2, h3, ⟨⟨a1, k1⟩, ⟨a2, k2⟩, ⟨a3, k3⟩⟩, h5, h6⟩ := h
  exact ⟨u_K.warm hW h1, va_Nw.warmC hW h2, fun x hx => va_Nw.warmD hW (h3 x hx), ⟨⟨a1, vk_R.warm hW k1⟩, ⟨a2, vk_R.warm hW k2⟩, ⟨a3, vk_R.warm hW k3⟩⟩, ((h5.kept hkeep).moved hW.alike).narrow hBA, ((h6.kept hkeep).moved hW.alike).narrow hBA⟩
theorem x_K.same {G : uG} {A : Nat → Prop} {u U : State} (hvm : u.vm = U.vm) (hh : u.heap = U.heap) (h : x_K G A u) : x_K G A U := by
  obtain ⟨h1, h2, h3, ⟨⟨a1, k1⟩, ⟨a2, k2⟩, ⟨a3, k3⟩⟩, h5, h6⟩ := h
  have ha : u.vm.Alike U.vm := by rw [hvm]; exact Vm.Alike.refl U.vm
  exact ⟨u_K.same hvm h1, va_Nw.same rfl hvm h2, fun x hx => va_Nw.same rfl hvm (h3 x hx), ⟨⟨a1, vk_R.same hvm.symm k1⟩, ⟨a2, vk_R.same hvm.symm k2⟩, ⟨a3, vk_R.same hvm.symm k3⟩⟩, by rw [← hh]; exact h5.moved ha, by rw [← hh]; exact h6.moved ha⟩
section XB
variable {p : Program} {l : Launch} {e : Env} {R : Room} {s : State} {m : MethodId} {args : Array Value} {below : List Frame} {meth : Method} {c : Code} {H : Heap} {locs : List Loc} {cells slots : Nat}
variable {y : MethodName} {cc : ByteArray} {mL : Nat} {rt : Option FieldType} {G : uG} {pc : Nat} {ls : Array Slot} {rest : List Value} {A : Nat → Prop} {free : Addr → Prop} {mc ms : Nat}
variable {Qc : Array Value → State → Outcome → State → Prop} {XC : String → State → State → Prop}
set_option maxHeartbeats 2000000 in
theorem x_throw (cx : u_C p s m args meth c RX11 y cc mL rt G) (hl : l.stackTraces = false) (hxk : x_K G A s) (hS : va_S A s.heap H locs) {is sa n : Nat} {text : String} (hstr : vk_R RX11 is text sa s) (hsize : ls.size = mL) (hnt : ∀ x ∈ c.exceptionTable.toList, False)
    (d0 : decode cc pc = .ok (.new 143, 3)) (d3 : decode cc (pc + 3) = .ok (.dup, 1)) (d4 : (decode cc (pc + 4) = .ok (.ldc is, 2) ∧ n = 2) ∨ (decode cc (pc + 4) = .ok (.ldc_w is, 3) ∧ n = 3)) (d6 : decode cc (pc + 4 + n) = .ok (.invokespecial 147, 3)) (d9 : decode cc (pc + 4 + n + 3) = .ok (.athrow, 1))
    (hRframes : 5 < R.frames) (hRlocals : (rest.map fun v => v.category).sum + 82 ≤ R.locals) (hRcells : cells + 1 ≤ R.cells) (hRslots : slots + 6 ≤ R.slots)
    (hx : ∀ t : State, s.vm.Alike t.vm → H.size ≤ t.heap.size → (∀ q : Nat, q < H.size → t.heap[q]? = H[q]?) → XC x_E s t)
    (hf : ∀ z ∈ locs, free z.base) (hc : cells + 1 ≤ mc) (hs : slots + 6 ≤ ms) :
    W p l e R s m args below meth c H locs cells slots (vx_MQ below Qc XC args s mc ms free) (F0 m pc ls rest) := by
  obtain ⟨hexec, hb, hml, hown, hts, hr, hlocks, hK⟩ := cx
  obtain ⟨-, hca, hde, -, hU, hN⟩ := hxk
  have ok : ∀ {w : Cond}, w ∈ u_big → w.before args s = true := fun h => hts _ (List.mem_cons_of_mem _ h)
  have hat : ∀ w ∈ x_at0, w.before args s = true := vx_hat (fun w hw => ok (x_good w hw)) x_notgood (vx_c (va_Nw.use rfl hca) (fun w hw => by
    obtain ⟨x, hx, rfl⟩ := List.mem_map.mp hw
    exact va_Nw.use rfl (hde x hx)))
  intro T hT X
  have htr : e.platform.stackTraces = false := (show e.platform.stackTraces = l.stackTraces by rw [X.admits.platform]).trans hl
  have Y := vx_rebase X (R' := { frames := R.frames, locals := R.locals, cells := 1, slots := 6 }) (Nat.le_refl _) (Nat.le_refl _) hRcells hRslots
  obtain ⟨s', hA⟩ : ∃ z, z = (T.setVm s.vm).setFrames (.invoking m args :: below) := ⟨_, rfl⟩
  rw [← hA] at Y
  have hvm : s'.vm = s.vm := by rw [hA]; rfl
  have hhp : s'.heap = H := by rw [hA]; exact hT
  have hW0 : s.WarmedH s'.vm := by rw [hvm]; exact State.WarmedH.refl s
  have hat' : ∀ w ∈ x_at0, w.before args s' = true := fun w hw => vx_ot_at hW0 hvm.symm (x_ot w (List.mem_cons_of_mem _ (List.mem_cons_of_mem _ hw))) (hat w hw)
  have hk' : (Cond.classLink RX11 143 x_E).before args s' = true := vx_ot_at hW0 hvm.symm (x_ot _ List.mem_cons_self) (ok q_1001)
  have hini' : (Cond.initialized x_E).before args s' = true := vx_ot_at hW0 hvm.symm (x_ot _ (List.mem_cons_of_mem _ List.mem_cons_self)) (ok q_18)
  have hU' : vx_Zq Bundle.tN "UNASSIGNED_STACK" Bundle.steD A s' s'.heap := by rw [hhp]; exact vx_Zq.moved hW0.alike (hU.kept hS.2.1)
  have hN' : vx_Zq Bundle.tN "SUPPRESSED_SENTINEL" Bundle.listD A s' s'.heap := by rw [hhp]; exact vx_Zq.moved hW0.alike (hN.kept hS.2.1)
  have h : ∀ w ∈ x_at, w.before args s' = true := vx_own hat' (vx_isRefq hU'.1) (vx_isRefq hN'.1) hU'.2.word hN'.2.word
  have hown' : s'.vm.findClass RX11 = some m.cls := by rw [hvm]; exact hown
  have hins : (Cond.instantiable x_E 6).before args s' = true := h _ (List.mem_append_right _ (by simp [x_tail]))
  obtain ⟨vm₁, cX, kX, hfX, hkX, -, -, X₁, st1⟩ := Y.newCold hexec (own := RX11) (C := x_E) (index := 143) (n := 6) hown' hk' hins hini'
    (g := F0 m pc ls rest) rfl (by rw [hb]; exact d0) (Nat.le_refl _) (Nat.le_refl _)
  generalize hT1 : (T.setVm vm₁).pushCell { cls := cX, slots := kX.instanceTypes.map defaultValue, vm := .none } = T1 at X₁ st1
  have hcat : (Value.ref T.heap.size).category = 1 := rfl
  have hcellA : T1.heap[T.heap.size]? = some (freshCell cX kX) := by rw [← hT1]; exact State.heap_pushCell_size _ _
  have d3' : decode c.code (pc + 3) = .ok (.dup, 1) := by rw [hb]; exact d3
  have hstr' : vk_R RX11 is text sa s' := vk_R.warm hW0 hstr
  obtain ⟨U, hsteps, hrun, hend, hW, hsame, ce, hce, hcv, hcl0⟩ := x_ctor X₁ hexec htr hown' h (fun x hx => nomatch hx) hfX hkX hcellA (by rw [hhp, hT]; exact Nat.le_refl _) (msg := .ref sa) rfl
    (g := { method := m, pc := pc + 4 + n, locals := ls, stack := .ref sa :: .ref T.heap.size :: .ref T.heap.size :: rest, locked := none }) rfl (hsize.trans hml.symm) rfl rfl (rest := rest) rfl
    (by rw [hb]; exact d6) (by rw [hb]; exact d9) (fun x hx => (hnt x hx).elim) hRframes (by simp only [List.map_cons, List.sum_cons, hcat]; show 2 * 0 + _ + 81 ≤ R.locals; omega) hlocks
  obtain ⟨f1, f2⟩ := vx_frame hsame
  rw [hhp] at f1 f2
  have hWs : s.WarmedH U.vm := State.WarmedH.trans hW0 hW
  have hcl : s.vm.findClass x_E = some ce.cls := by
    rw [hvm] at hcl0
    exact hcl0
  have hall : s.sameButNew ({ U with vm := s.vm } : State) locs mc ms := by
    subst hA
    obtain ⟨e1, e2⟩ := hsame
    rw [State.setFrames_setFrames] at e1
    have h2 : (T.setVm s.vm).sameButNew ({ U with vm := s.vm } : State) [] (0 + 1) (0 + 6) := ⟨e1, e2⟩
    have h3 := X.same.trans h2
    rw [List.append_nil] at h3
    exact h3.mono hc hs
  refine ⟨U, ?_, .threw T.heap.size, hrun, hend, Or.inr ⟨T.heap.size, rfl, x_E, ce, locs, hx U hWs.alike f1 (fun q hq => f2 q hq (fun z hz => nomatch hz)), hce, hcv, hcl, hWs, hall, hf⟩⟩
  refine st1 _ ?_
  show Steps p.tables e below (T1.setTop { method := m, pc := pc + 3, locals := ls, stack := .ref T.heap.size :: rest, locked := none }) _
  jvm_step X₁.here [X₁.here.top, hexec, d3', Value.category]
  rcases d4 with ⟨d4, rfl⟩ | ⟨d4, rfl⟩
  · exact X₁.ldcString hexec (own := RX11) (text := text) (index := is) (a := sa) hown' hstr'.1 hstr'.2
      (g := { method := m, pc := pc + 4, locals := ls, stack := .ref T.heap.size :: .ref T.heap.size :: rest, locked := none }) rfl (by rw [hb]; exact d4) _ hsteps
  · exact X₁.ldcStringW hexec (own := RX11) (text := text) (index := is) (a := sa) hown' hstr'.1 hstr'.2
      (g := { method := m, pc := pc + 4, locals := ls, stack := .ref T.heap.size :: .ref T.heap.size :: rest, locked := none }) rfl (by rw [hb]; exact d4) _ hsteps
end XB
