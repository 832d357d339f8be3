/-! INHERITED METHODS: a virtual one that the receiver's class selects; a static one named through a class that inherits it -/
def u_LU (own : String) (idx : Nat) (C owner : String) (x y : MethodName) (bytes : ByteArray) (mL : Nat) (ret : Option FieldType) (n : Nat) : Prop :=
  Cond.methodLink own idx x ∈ u_big ∧ Cond.sameMethod x.cls owner x.name x.desc ∈ u_big ∧ Cond.selects C x y ∈ u_big ∧ Cond.instanceMethod y ∈ u_big ∧ Cond.initialized y.cls ∈ u_big ∧ Cond.code y bytes mL ret ∈ u_big ∧
  (owner ≠ "java/lang/invoke/MethodHandle" ∧ owner ≠ "java/lang/invoke/VarHandle" ∧ (parseMethodDescriptor x.desc).map (fun d => d.parameters.length) = some n) ∧ mL ≤ 21 ∧
  ((⟨owner, x.name, x.desc⟩ : MethodName) ∈ u_decl ∨ ∃ (b0 : ByteArray) (m0 : Nat) (r0 : Option FieldType), Cond.instanceMethod ⟨owner, x.name, x.desc⟩ ∈ u_big ∧ Cond.code ⟨owner, x.name, x.desc⟩ b0 m0 r0 ∈ u_big)
section UR5
variable {p : Program} {l : Launch} {e : Env} {R : Room} {s : State} {m : MethodId} {args : Array Value} {below : List Frame} {meth : Method} {c : Code} {H : Heap} {locs : List Loc} {cells slots : Nat} {Q : State → Prop}
variable {own : String} {y : MethodName} {cc : ByteArray} {mL : Nat} {rt : Option FieldType} {G : uG} {Z : uZ} {σ : uS} {pc : Nat} {ls : Array Slot} {rest : List Value} {hg : Nat}
theorem u_callUi (cx : u_C p s m args meth c own y cc mL rt G) (hw : u_W Z G σ s H locs) {C owner : String} {idx n m2 h2 ci N i : Nat} {x2 y2 : MethodName} {c2 : ByteArray} {t2 : FieldType} {As : List Value} {r : Int32} {σ' : uS} {kf : Nat → Option (Option Nat)} {T : u_T} (hL : u_LU own idx C owner x2 y2 c2 m2 (some t2) n) (hM : u_Mi l Z G y2 c2 m2 t2 h2 (.ref (G.2.2 i) :: As) σ r σ') (ho : u_o Z i ci N kf) (hc : vwCl[ci]? = some (C, T, N)) (hh : h2 < hg) (hls : ls.size = mL) (hn : As.length = n) (hr8 : (rest.map fun v => v.category).sum ≤ 8) (hdg : decode cc pc = .ok (.invokevirtual idx, 3)) {st : List Value} (hst : st = As.reverse ++ .ref (G.2.2 i) :: rest)
    (kk : ∀ (H1 : Heap) (locs1 : List Loc), u_W Z G σ' s H1 locs1 → W p l e (u_rm hg) s m args below meth c H1 locs1 0 0 Q (F0 m (pc + 3) ls (.int r :: rest))) : W p l e (u_rm hg) s m args below meth c H locs 0 0 Q (F0 m pc ls st) := by
  obtain ⟨hx, hb, hml, hown, hts, hr, hlocks, hK⟩ := id cx
  obtain ⟨l1, l2, l3, l4, l5, l6, l7, l8, l9⟩ := hL
  have ok : ∀ {w : Cond}, w ∈ u_big → w.before args s = true := fun h => hts _ (List.mem_cons_of_mem _ h)
  have hdec : va_Decl s ⟨owner, x2.name, x2.desc⟩ := by
    rcases l9 with h | ⟨b0, m0, r0, h, h'⟩
    · exact va_Decl.abs (hK.2.2.2 _ h)
    · exact va_Decl.of (ok h) (ok h')
  refine va_calli (va_runU (x := x2) (owner := owner) (As := As) (rest := rest) ⟨hx, hb, hml, hown, hts⟩ (hM H.size) ⟨⟨rfl, rfl, by show h2 + 1 ≤ hg; omega, by show 8 + (m2 + 11) + 40 * h2 ≤ 40 * hg; omega, pay_in hts (u_goodIn l6), List.mem_cons_self⟩, ok l6, ok l5, ⟨l7.1, l7.2.1⟩, fun sig h => by have h3 := l7.2.2; rw [h] at h3; exact (Option.some.inj h3).symm, ok l1, ok l2, hdec, ok l3, ok l4⟩ ⟨u_blind, va_recv hK.1 hw.1 (ci := ci) (q0 := i) hc (by rw [u_w_get ho.1, u_E_ob ho.2.1]), u_pre cx hw⟩ rfl hn hls hst (lv_room hr8) hdg ⟨Nat.le_refl 0, Nat.le_refl 0⟩) hw.2.2 (fun q _ h => u_Ain hw rfl q h) (u_Ain hw rfl) (fun r2 u t H1 locs1 ht hvm hp hB hz1 hk1 hS => ?_)
  obtain ⟨rfl, rfl⟩ := hp
  exact kk H1 locs1 (u_back hw hB ht hS)
end UR5
/-- the step of invokestatic, where the class named only inherits the method: as if class and method had been noted before -/
theorem u_statStep {Q : Unit → Pre} {E : CtlPost} {e : Env} {d : Bool} {acts : List Action} {S S0 : State} {fr : JFrame} {ix ci nt cid : Nat} {mt : MethodId} {kd kc : Class} {file : ClassFile} {nm ds : String} (htop : S.topJava?.isSome) (hpoly : e.platform.polymorphicOnlyByInvokevirtual = true)
    (hwarm : S0.WarmedH S.vm) (hent : S0.MethodEntryUp e S.vm fr.method.cls ix cid mt ci) (hkd : S0.vm.classes[fr.method.cls]? = some kd) (hfile : kd.cf = some file)
    (hpool : file.constantPool[ix]? = some (.methodref ci nt)) (hnt : file.constantPool.nameAndType? nt = some (nm, ds))
    (hkc : S0.vm.classes[cid]? = some kc) (hno : (kc.methods.any fun q => q.name == nm && !q.isStatic && signaturePolymorphic kc q) = false) :
    wp (invokestatic.sem ix) Q E e d acts (S.setTop fr) ↔ wp (invokestatic.sem ix) Q E e d acts ((S.setVm (S.vm.calledUp fr.method.cls ci ix cid mt)).setTop fr) := by
  have hsplit := hent.classFirst
  obtain ⟨toClass, -, hwarm1, toMeth⟩ := hsplit
  have hpool2 : file.constantPool[ix]? = some (if false then .interfaceMethodref ci nt else .methodref ci nt) := hpool
  obtain ⟨ka, hka, ea⟩ := hwarm.alike.2.2 _ _ hkd
  obtain ⟨kb, hkb, eb⟩ := hent.warmed.alike.2.2 _ _ hkd
  obtain ⟨ca, hca, eca⟩ := hwarm1.alike.2.2 _ _ hkc
  obtain ⟨cb, hcb, ecb⟩ := hent.warmed.alike.2.2 _ _ hkc
  have refA := memberRef_ask_via (e := e) hka (by rw [ea]; exact hfile) hpool2 hnt
  have refB := memberRef_ask_via (e := e) hkb (by rw [eb]; exact hfile) hpool2 hnt
  have noA : (ca.methods.any fun q => q.name == nm && !q.isStatic && signaturePolymorphic ca q) = false := by rw [eca]; exact hno
  have noB : (cb.methods.any fun q => q.name == nm && !q.isStatic && signaturePolymorphic cb q) = false := by rw [ecb]; exact hno
  have top1 : (S.setVm (S.vm.noted fr.method.cls ci (.cls cid))).topJava?.isSome := htop
  have top2 : (S.setVm (S.vm.calledUp fr.method.cls ci ix cid mt)).topJava?.isSome := htop
  have goClass : ∀ {Q' : ClassId → Pre} {d' : Bool} {acts' : List Action}, wp (Jvm.resolveClassAt ci) Q' E e d' acts' (S.setTop fr) ↔ Q' cid d' acts' ((S.setVm (S.vm.noted fr.method.cls ci (.cls cid))).setTop fr) := W.resolveClassAt_links (t := S.setTop fr) (State.method?_setTop fr htop) toClass
  have goMeth : ∀ {Q' : MethodId → Pre} {d' : Bool} {acts' : List Action}, wp (Jvm.resolveMethodAt ix) Q' E e d' acts' ((S.setVm (S.vm.noted fr.method.cls ci (.cls cid))).setTop fr) ↔ Q' mt d' acts' ((S.setVm (S.vm.calledUp fr.method.cls ci ix cid mt)).setTop fr) := W.resolveMethodAt_links (t := (S.setVm (S.vm.noted fr.method.cls ci (.cls cid))).setTop fr) (State.method?_setTop fr top1) toMeth
  simp [invokestatic.sem, hpoly, Seam.memberRefOf, State.method?_setTop fr htop, State.method?_setTop fr top2, refA, refB, goClass, W.resolveClassAt_ready (s := (S.setVm (S.vm.calledUp fr.method.cls ci ix cid mt)).setTop fr) (State.method?_setTop fr top2) hent.classReady, hca, hcb, noA, noB, goMeth, W.resolveMethodAt_ready (s := (S.setVm (S.vm.calledUp fr.method.cls ci ix cid mt)).setTop fr) (State.method?_setTop fr top2) hent.ready, -Array.any_eq_true]
section UR6
variable {p : Program} {l : Launch} {e : Env} {R : Room} {s : State} {m : MethodId} {args : Array Value} {below : List Frame} {meth : Method} {c : Code} {locs : List Loc} {cells slots : Nat} {T : State}
/-- a static method, named through a class that inherits it -/
theorem u_statUp (X : Stand p l e R s m args below meth c T locs cells slots) (hexec : p.tables.exec = Jvm.exec) {own owner : String} {index : Nat} {x : MethodName} (hown : s.vm.findClass own = some m.cls) (hlink : (Cond.methodLink own index x).before args s = true)
    (hsame : (Cond.sameMethod x.cls owner x.name x.desc).before args s = true) (howner : owner ≠ "java/lang/invoke/MethodHandle" ∧ owner ≠ "java/lang/invoke/VarHandle")
    {mt : MethodId} {method : Method} {kc : Class} (hn : s.methodNamed? ⟨owner, x.name, x.desc⟩ = some mt) (hm : s.vm.method? mt = some method) (hstatic : method.isStatic = true) (hkc : s.vm.classes[mt.cls]? = some kc) (hinit : kc.init = .initialized)
    {g : JFrame} (hg : g.method = m) {argsL rest : List Value} (hlen : argsL.length = method.sig.parameters.length) (hstack : g.stack = argsL.reverse ++ rest) (hdg : decode c.code g.pc = .ok (.invokestatic index, 3)) :
    ∃ vm', Stand p l e R s m args below meth c (T.setVm vm') locs cells slots ∧ ∀ target, (∀ acts, Steps p.tables e below (doInvoke e ((T.setVm vm').setTop { g with stack := rest }) acts mt argsL.toArray).1 target) → Steps p.tables e below (T.setTop g) target := by
  have plat := X.admits.platform
  obtain ⟨cid, kq, mq, hcid, hkq, hplain, hfound, hnq⟩ := Cond.sameMethod_found hsame
  cases hn.symm.trans hnq
  obtain ⟨ci, hl, hright⟩ := Cond.methodLink_specUp hown hcid hkq hplain hfound hlink e.platform (by rw [plat]) (by rw [plat])
  have ent : s.MethodEntryUp e T.vm m.cls index cid mt ci := State.methodEntryUp X.warmed hl hright
  obtain ⟨kn, hkn, hname⟩ := className_of_methodNamed hn
  cases hkc.symm.trans hkn
  obtain ⟨kd, file, nt, nm, ds, kc2, _, _, hd, hcf, hcp, hnt, -, -, hkc2, -, hnopoly, -⟩ := hl.here
  cases hkq.symm.trans hkc2
  have alike := ent.warmed.alike
  obtain ⟨kd2, hkd2, ekd2⟩ := alike.2.2 _ _ hd
  obtain ⟨km2, hkm2, ekm2⟩ := alike.2.2 _ _ hkc
  obtain ⟨kq2, hkq2, ekq2⟩ := alike.2.2 _ _ hkq
  have no1 : (kq.methods.any fun q => q.name == nm && !q.isStatic && signaturePolymorphic kq q) = false := by simp [hnopoly]
  have no2 : (kq2.methods.any fun q => q.name == nm && !q.isStatic && signaturePolymorphic kq2 q) = false := by rw [ekq2]; exact no1
  have hcp2 : file.constantPool[index]? = some (if false then .interfaceMethodref ci nt else .methodref ci nt) := hcp
  have hmv : (T.vm.calledUp m.cls ci index cid mt).method? mt = some method := by rw [alike.method?]; exact hm
  have hpo : signaturePolymorphic km2 method = false := by rw [ekm2]; simp [signaturePolymorphic, hname, howner.1, howner.2]
  refine ⟨T.vm.calledUp m.cls ci index cid mt, X.noted ent.warmed, fun target hrest => ?_⟩
  subst hg
  jvm_step X.here [hexec, hdg, u_statStep (e := e) (S := T) (S0 := s) (fr := g) X.here.top (by rw [plat]) X.warmed ent hd hcf hcp hnt hkq no1,
    invokestatic.wp_ready (e := e) (s := T.setVm (T.vm.calledUp g.method.cls ci index cid mt)) (k := km2) (meth := method) (m := mt) (args := argsL) (rest := rest) (f := g)
      X.here.top ⟨ci, nm, ds, false, cid, kq2, memberRef_ask_via (e := e) hkd2 (by rw [ekd2]; exact hcf) hcp2 hnt, ent.classReady, hkq2, no2⟩ ent.ready hkm2 hmv hpo hstatic (by rw [ekm2]; exact hinit) hlen hstack]
  exact fun acts => hrest _
end UR6
def u_LUS (own : String) (idx : Nat) (owner : String) (x y : MethodName) (bytes : ByteArray) (mL : Nat) (ret : Option FieldType) (n : Nat) : Prop :=
  Cond.methodLink own idx x ∈ u_big ∧ Cond.sameMethod x.cls owner x.name x.desc ∈ u_big ∧ Cond.static y ∈ u_big ∧ Cond.initialized y.cls ∈ u_big ∧ Cond.code y bytes mL ret ∈ u_big ∧ y = ⟨owner, x.name, x.desc⟩ ∧
  (owner ≠ "java/lang/invoke/MethodHandle" ∧ owner ≠ "java/lang/invoke/VarHandle" ∧ (parseMethodDescriptor x.desc).map (fun d => d.parameters.length) = some n) ∧ mL ≤ 21
section UR7
variable {p : Program} {l : Launch} {e : Env} {R : Room} {s : State} {m : MethodId} {args : Array Value} {below : List Frame} {meth : Method} {c : Code} {H : Heap} {locs : List Loc} {cells slots : Nat} {Q : State → Prop}
variable {own : String} {y : MethodName} {cc : ByteArray} {mL : Nat} {rt : Option FieldType} {G : uG} {Z : uZ} {σ : uS} {pc : Nat} {ls : Array Slot} {rest : List Value} {hg : Nat}
theorem u_callTi (cx : u_C p s m args meth c own y cc mL rt G) (hw : u_W Z G σ s H locs) {owner : String} {idx n m2 h2 : Nat} {x2 y2 : MethodName} {c2 : ByteArray} {t2 : FieldType} {As : List Value} {r : Int32} {σ' : uS} (hL : u_LUS own idx owner x2 y2 c2 m2 (some t2) n) (hM : u_Mi l Z G y2 c2 m2 t2 h2 As σ r σ') (hh : h2 < hg) (hls : ls.size = mL) (hn : As.length = n) (hr8 : (rest.map fun v => v.category).sum ≤ 8) (hdg : decode cc pc = .ok (.invokestatic idx, 3)) {st : List Value} (hst : st = As.reverse ++ rest)
    (kk : ∀ (H1 : Heap) (locs1 : List Loc), u_W Z G σ' s H1 locs1 → W p l e (u_rm hg) s m args below meth c H1 locs1 0 0 Q (F0 m (pc + 3) ls (.int r :: rest))) : W p l e (u_rm hg) s m args below meth c H locs 0 0 Q (F0 m pc ls st) := by
  obtain ⟨hx, hb, hml, hown, hts, hr, hlocks, hK⟩ := id cx
  obtain ⟨l1, l2, l3, l4, l5, l6, l7, l8⟩ := hL
  subst l6
  have ok : ∀ {w : Cond}, w ∈ u_big → w.before args s = true := fun h => hts _ (List.mem_cons_of_mem _ h)
  have hBk : Back l (u_rm hg) p e below s args ⟨owner, x2.name, x2.desc⟩ 3 8 (PreOf (u_rm hg) 0 0 (va_Pc As (u_Pre Z G σ H.size))) (PostOf (va_Qi (fun (r' : Int32) (u : uS) => r' = r ∧ u = σ') (u_B Z G H.size) (u_A Z G H.size)) 0 0 (u_A Z G H.size)) :=
    back_of (bytes := c2) (maxL := m2) (ret := some t2) (hM H.size) u_blind rfl rfl (by show h2 + 1 ≤ hg; omega) (by show 8 + (m2 + 11) + 40 * h2 ≤ 40 * hg; omega) (pay_in hts (u_goodIn l5)) List.mem_cons_self (fun a' U hW => word_at hW (Or.inl (by first | rfl | simp [Cond.onTables, Cond.keeps, Cond.steady])) (ok l4))
  have hrun : va_Run p l e (u_rm hg) s m args below meth c H locs 0 0 0 0 (F0 m pc ls st) rest (va_Qi (fun (r' : Int32) (u : uS) => r' = r ∧ u = σ') (u_B Z G H.size) (u_A Z G H.size) As.toArray) (u_A Z G H.size) := by
    intro T hT X
    obtain ⟨mk, hnamed⟩ := Cond.code_named (ok l5)
    obtain ⟨methM, cM, hmethM, -, -, -, -, -, -, hsigM⟩ := Cond.code_spec hnamed (ok l5)
    have hstatic : methM.isStatic = true := Cond.static_spec hnamed hmethM (ok l3)
    obtain ⟨kP, hkP, -⟩ := className_of_methodNamed hnamed
    have hinitP : kP.init = .initialized := Cond.initialized_spec (findClass_of_methodNamed hnamed) hkP (ok l4)
    have hlen : As.length = methM.sig.parameters.length := by
      have h3 := l7.2.2
      rw [show parseMethodDescriptor x2.desc = some methM.sig from hsigM] at h3
      rw [hn]; exact (Option.some.inj h3).symm
    obtain ⟨vm₁, X₁, hstep₁⟩ := u_statUp X hx hown (ok l1) (ok l2) ⟨l7.1, l7.2.1⟩ hnamed hmethM hstatic hkP hinitP (g := F0 m pc ls st) rfl (argsL := As) (rest := rest) hlen hst (by rw [hb]; exact hdg)
    obtain ⟨v, ⟨U', lo2, ce2, sl2⟩, X', ⟨g', mk', t, L, e1, e2, hq, h1, hL, h2', h3'⟩, hsteps⟩ := hBk m meth c ⟨T.setVm vm₁, locs, 0, 0⟩ { F0 m pc ls st with stack := rest } (.invokestatic idx) mk As.toArray X₁ rfl (hls.trans hml.symm) (by rw [hb]; exact hdg) (lv_room hr8) (X₁.named hnamed) ⟨Nat.zero_le _, Nat.zero_le _, u_pre cx hw (T.setVm vm₁) hT X₁.warmed⟩
    dsimp only [Pt.U, Pt.locs, Pt.cells, Pt.slots] at X' e1 e2 h1 h2' h3' hsteps
    subst h1; subst h2'; subst h3'
    exact ⟨v, (T.setVm vm₁).calling g' mk' As.toArray, t, U', L, hT, X', hL, e1, e2, hq, fun target h => hstep₁ _ fun acts => by rw [doInvoke_state]; exact hsteps.trans h⟩
  refine va_calli hrun hw.2.2 (fun q _ h => u_Ain hw rfl q h) (u_Ain hw rfl) (fun r2 u t H1 locs1 ht hvm hp hB hz1 hk1 hS => ?_)
  obtain ⟨rfl, rfl⟩ := hp
  exact kk H1 locs1 (u_back hw hB ht hS)
end UR7
