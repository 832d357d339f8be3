/-! MAKING OBJECTS: worlds as lists that grow -/
def k_K (G : uG) (U : State) : Prop := u_K G U ∧ va_AO RX7 U
theorem k_K.warm {G : uG} {s U : State} (hW : s.WarmedH U.vm) (h : k_K G s) : k_K G U := ⟨u_K.warm hW h.1, va_AO.moved hW.alike h.2⟩
theorem k_K.same {G : uG} {u U : State} (hvm : u.vm = U.vm) (h : k_K G u) : k_K G U := ⟨u_K.same hvm h.1, va_AO.moved (by rw [hvm]; exact Vm.Alike.refl U.vm) h.2⟩
def k_rm (h mc ms : Nat) : Room := { frames := h, cells := mc, slots := ms, locals := 40 * h }
abbrev k_x (h0 ci : Nat) (fs : List Value) : va_W := [(h0, .inr (ci, fs))]
def k_Pre (G : uG) (x : va_W) (sz : Nat) (U : State) : Prop := U.heap.size = sz ∧ va_P G.1 vwCl x U.heap ∧ va_D (fun _ => True) x ∧ k_K G U
def k_B (G : uG) (x : va_W) (cw : (Nat → Nat) → va_W) (sz : Nat) (u : Nat → Nat) (t : State) : Prop := va_P G.1 vwCl (cw u) t.heap ∧ va_D (va_A x sz) (cw u)
/-- a constructor without arguments: its object, and what it makes, become the cells cw u, the object at u 0 -/
def k_M (l : Launch) (G : uG) (y : MethodName) (cc : ByteArray) (mL hg mc ms ci : Nat) (fs : List Value) (cw : (Nat → Nat) → va_W) : Prop :=
  ∀ h0 sz : Nat, Met l y (u_ws0 y cc mL none) (k_rm hg mc ms) (va_Pc [.ref h0] (k_Pre G (k_x h0 ci fs) sz)) (va_Qv (fun (u : Nat → Nat) => u 0 = h0) (k_B G (k_x h0 ci fs) cw sz) (va_A (k_x h0 ci fs) sz)) mc ms (va_A (k_x h0 ci fs) sz)
def k_C (p : Program) (s : State) (m : MethodId) (args : Array Value) (meth : Method) (c : Code) (own : String) (y : MethodName) (cc : ByteArray) (mL : Nat) (G : uG) : Prop := u_C p s m args meth c own y cc mL none G ∧ meth.name = "<init>" ∧ va_AO RX7 s
/-- the cells of a growing world, and the rest of the heap -/
def k_W (G : uG) (A : Nat → Prop) (ws : va_W) (s : State) (H : Heap) (locs : List Loc) : Prop := va_P G.1 vwCl ws H ∧ va_D A ws ∧ va_S A s.heap H locs ∧ ∀ q, s.heap.size ≤ q → A q
theorem k_M_of {l : Launch} {G : uG} {y : MethodName} {cc : ByteArray} {mL hg mc ms ci : Nat} {fs : List Value} {cw : (Nat → Nat) → va_W} (own : String) (hy : plainName y.cls = true) (ho : y.cls = own) (hnm : y.name = "<init>") (hn : 1 ≤ mL)
    (body : ∀ (p : Program) (e : Env) (s : State) (m : MethodId) (args : Array Value) (below : List Frame) (meth : Method) (c : Code) (ls : Array Slot) (h0 : Nat) (A : Nat → Prop), A = va_A (k_x h0 ci fs) s.heap.size → k_C p s m args meth c own y cc mL G → k_W G A (k_x h0 ci fs) s s.heap [] → lv_has ls mL [(0, .ref h0)] → W p l e (k_rm hg mc ms) s m args below meth c s.heap [] 0 0 (MQ below (va_Qv (fun (u : Nat → Nat) => u 0 = h0) (k_B G (k_x h0 ci fs) cw s.heap.size) A) args s mc ms A) (F0 m 0 ls [])) : k_M l G y cc mL hg mc ms ci fs cw := by
  intro h0 sz
  refine Met.ofW (cc := cc) (maxL := mL) (ret := none) hy rfl ?_
  intro p e s m args below meth c s₁ B hml hv
  obtain ⟨rfl, hsz, hP, hD, hK⟩ := hv
  subst hsz
  have hl := lv_entry [.ref h0] (n := mL) (by simpa [lg_sl, Value.category] using hn)
  rw [lg_entry_eq]
  exact body p e s m _ below meth c _ h0 _ rfl ⟨⟨B.exec, B.bytes, hml, by rw [← ho]; exact findClass_of_methodNamed B.named, atoms_spec (ws := u_ws0 y cc mL none) B.pre, B.returns, B.notSynchronized, hK.1⟩, (name_of_methodNamed B.named B.method).1.trans hnm, hK.2⟩ ⟨hP, hD.self, va_S.rf, fun q h => Or.inr h⟩ hl

/-- behind a constructor's call: the other cells, and the callee's -/
theorem k_join {D : va_G} {cl : List vw_C} {A : Nat → Prop} {ws w1 x : va_W} {H H1 : Heap} (hP : va_P D cl (ws ++ x) H) (hD : va_D A (ws ++ x)) (hk : ∀ q : Nat, q < H.size → ¬ va_A x H.size q → H1[q]? = H[q]?) (hF : ∀ q, va_A x H.size q → A q) (hP1 : va_P D cl w1 H1) (hD1 : va_D (va_A x H.size) w1) : va_P D cl (ws ++ w1) H1 ∧ va_D A (ws ++ w1) := by
  have hl : ∀ (k : Nat) (q : Nat × va_E), ws[k]? = some q → (ws ++ x)[k]? = some q := fun k q hk => by
    rw [List.getElem?_append_left (List.getElem?_eq_some_iff.mp hk).1]; exact hk
  have hr : ∀ (k : Nat) (q : Nat × va_E), x[k]? = some q → (ws ++ x)[ws.length + k]? = some q := fun k q hk => by
    rw [List.getElem?_append_right (Nat.le_add_right _ _), Nat.add_sub_cancel_left]; exact hk
  have apart : ∀ (k : Nat) (q : Nat × va_E), ws[k]? = some q → q.1 < H.size ∧ ¬ va_A x H.size q.1 := by
    intro k q hq
    have h1 := (hP k q (hl k q hq)).lt
    refine ⟨h1, fun h => ?_⟩
    rcases h with ⟨k2, e, h⟩ | h
    · have h2 := hD.1 k (ws.length + k2) q (q.1, e) (hl k q hq) (hr k2 _ h) rfl
      have h3 := (List.getElem?_eq_some_iff.mp hq).1
      omega
    · omega
  refine ⟨va_P.app (fun k q hq => ?_) hP1, va_D.app ⟨fun i j a b hi hj hab => hD.1 i j a b (hl i a hi) (hl j b hj) hab, fun k q hq => hD.2 k q (hl k q hq)⟩ (hD1.weaken (fun k q _ h => hF q.1 h)) (fun i j a b hi hj hab => ?_)⟩
  · exact (hP k q (hl k q hq)).kept (hk q.1 (apart k q hq).1 (apart k q hq).2)
  · exact (apart i a hi).2 (by rw [hab]; exact hD1.2 j b hj)
theorem k_free {G : uG} {A : Nat → Prop} {ws x : va_W} {s : State} {H : Heap} {locs : List Loc} (hw : k_W G A (ws ++ x) s H locs) : ∀ q, va_A x H.size q → A q := by
  intro q h
  rcases h with ⟨k, e, h⟩ | h
  · exact hw.2.1.2 (ws.length + k) (q, e) (by rw [List.getElem?_append_right (Nat.le_add_right _ _), Nat.add_sub_cancel_left]; exact h)
  · exact hw.2.2.2 q (Nat.le_trans hw.2.2.1.1 h)
theorem k_last {G : uG} {A : Nat → Prop} {ws x : va_W} {s : State} {H : Heap} {locs : List Loc} (hw : k_W G A (ws ++ x) s H locs) : va_P G.1 vwCl x H ∧ va_D (fun _ => True) x :=
  have hr : ∀ (k : Nat) (q : Nat × va_E), x[k]? = some q → (ws ++ x)[ws.length + k]? = some q := fun k q hk => by
    rw [List.getElem?_append_right (Nat.le_add_right _ _), Nat.add_sub_cancel_left]; exact hk
  ⟨fun k q hq => hw.1 _ q (hr k q hq), fun i j a b hi hj hab => by have := hw.2.1.1 _ _ a b (hr i a hi) (hr j b hj) hab; omega, fun _ _ _ => trivial⟩
/-- a class that is made here -/
def k_N (own : String) (idx : Nat) (C : String) (T : u_T) (N ci : Nat) (ty : Nat → FieldType) : Prop := (∀ w ∈ u_ws C T N, w ∈ u_big) ∧ (∀ k, k < N → parseFieldDescriptor (T k).2.2.1 = some (ty k)) ∧ Cond.classLink own idx C ∈ u_big ∧ Cond.instantiable C N ∈ u_big ∧ Cond.initialized C ∈ u_big ∧ vwCl[ci]? = some (C, T, N)
/-- its constructor, of a nest mate, or by an ordinary link -/
def k_I (own : String) (idx : Nat) (y : MethodName) (bytes : ByteArray) (mL : Nat) : Prop := Cond.initialized y.cls ∈ u_big ∧ Cond.code y bytes mL none ∈ u_big ∧ Cond.instanceMethod y ∈ u_big ∧ y.name = "<init>" ∧ (y.cls ≠ "java/lang/invoke/MethodHandle" ∧ y.cls ≠ "java/lang/invoke/VarHandle" ∧ (parseMethodDescriptor y.desc).map (fun d => d.parameters.length) = some 0) ∧ mL ≤ 21 ∧ ((∃ host, (own, idx, y, host) ∈ u_nestM) ∨ Cond.methodLink own idx y ∈ u_big)
section KR
variable {p : Program} {l : Launch} {e : Env} {s : State} {m : MethodId} {args : Array Value} {below : List Frame} {meth : Method} {c : Code} {H : Heap} {locs : List Loc} {cells slots : Nat} {Q : State → Prop}
variable {own : String} {y : MethodName} {cc : ByteArray} {mL : Nat} {rt : Option FieldType} {G : uG} {A : Nat → Prop} {ws : va_W} {pc : Nat} {ls : Array Slot} {rest : List Value} {R : Room}
theorem k_blind {x : va_W} {sz : Nat} {av : List Value} : FrameBlind (va_Pc av (k_Pre G x sz)) := fun a U g mk q => ⟨q.1, q.2.1, q.2.2.1, q.2.2.2.1, k_K.same (U := U.calling g mk a) rfl q.2.2.2.2⟩
/-- 'new C()' where C's constructor has a contract: new; dup; invokespecial -/
theorem k_mk (cx : u_C p s m args meth c own y cc mL rt G) (hao : va_AO RX7 s) (hw : k_W G A ws s H locs) {C : String} {T : u_T} {N ci i1 i2 m2 h2 mc ms : Nat} {ty : Nat → FieldType} {fs : List Value} {y2 : MethodName} {c2 : ByteArray} {cw : (Nat → Nat) → va_W} (hN : k_N own i1 C T N ci ty) (hfs : ∀ j, j < N → defaultValue (ty j) = vp_V fs j) (hI : k_I own i2 y2 c2 m2) (hM : k_M l G y2 c2 m2 h2 mc ms ci fs cw)
    (hls : ls.size = mL) (hRf : h2 + 1 ≤ R.frames) (hRl : 40 * h2 + 40 ≤ R.locals) (hRc : cells + 1 + mc ≤ R.cells) (hRs : slots + N + ms ≤ R.slots) (hr8 : (rest.map fun v => v.category).sum ≤ 6) (d0 : decode cc pc = .ok (.new i1, 3)) (d3 : decode cc (pc + 3) = .ok (.dup, 1)) (d4 : decode cc (pc + 4) = .ok (.invokespecial i2, 3))
    (kk : ∀ (u : Nat → Nat) (H1 : Heap) (locs1 : List Loc), k_W G A (ws ++ cw u) s H1 locs1 → W p l e R s m args below meth c H1 locs1 (cells + 1 + mc) (slots + N + ms) Q (F0 m (pc + 7) ls (.ref (u 0) :: rest))) : W p l e R s m args below meth c H locs cells slots Q (F0 m pc ls rest) := by
  obtain ⟨hx, hb, hml, hown, hts, hr, hlocks, hK⟩ := id cx
  obtain ⟨n1, n2, n3, n4, n5, n6⟩ := hN
  obtain ⟨j1, j2, j3, j4, j5, j6, j7⟩ := hI
  have ok : ∀ {w : Cond}, w ∈ u_big → w.before args s = true := fun h => hts _ (List.mem_cons_of_mem _ h)
  refine va_new (ci := ci) (fs := fs) hx hb hts (fun w h => List.mem_cons_of_mem _ (n1 w h)) ty n2 hown (ok n3) (ok n4) (ok n5) hK.1 hw.1 hw.2.1 hw.2.2.1 hw.2.2.2 n6 hfs (by omega) (by omega) d0 (fun q H2 q1 q2 q3 => ?_)
  have hw2 : k_W G A (ws ++ k_x q ci fs) s H2 locs := ⟨q1, q2, q3, hw.2.2.2⟩
  refine lv_dup hx hb d3 rfl ?_
  have hF := k_free hw2
  have hL := k_last hw2
  have hpre : ∀ U : State, U.heap = H2 → s.WarmedH U.vm → va_Pc [.ref q] (k_Pre G (k_x q ci fs) H2.size) ([.ref q] : List Value).toArray U := fun U hU hW => ⟨rfl, by rw [hU], by rw [hU]; exact hL.1, hL.2, k_K.warm hW ⟨hK, hao⟩⟩
  have hRR : (k_rm h2 mc ms).frames + 1 ≤ R.frames ∧ 8 + (m2 + 11) + (k_rm h2 mc ms).locals ≤ R.locals := ⟨hRf, by show 8 + (m2 + 11) + 40 * h2 ≤ R.locals; omega⟩
  have hst8 : ((Value.ref q :: rest).map fun v => v.category).sum ≤ 8 := by
    have : ((Value.ref q :: rest).map fun v => v.category).sum = 1 + (rest.map fun v => v.category).sum := by simp [Value.category]
    omega
  have hrun : va_Run p l e R s m args below meth c H2 locs (cells + 1) (slots + N) mc ms (F0 m (pc + 3 + 1) ls (.ref q :: .ref q :: rest)) (.ref q :: rest) (va_Qv (fun (u : Nat → Nat) => u 0 = q) (k_B G (k_x q ci fs) cw H2.size) (va_A (k_x q ci fs) H2.size) ([.ref q] : List Value).toArray) (va_A (k_x q ci fs) H2.size) := by
    rcases j7 with ⟨host, j7⟩ | j7
    · exact va_runIN (As := []) (rest := .ref q :: rest) ⟨hx, hb, hml, hown, hts⟩ (hM q H2.size) ⟨va_cnB 0 hts (u_goodIn j2) rfl rfl rfl (hK.2.2.1 _ j7) (ok j1) j5 hRR, j4, ok j3⟩ ⟨k_blind, hpre⟩ rfl rfl hls rfl (lv_room hst8) d4 ⟨hRc, hRs⟩
    · exact va_runI (As := []) (rest := .ref q :: rest) ⟨hx, hb, hml, hown, hts⟩ (hM q H2.size) (cwI 0 hts (u_goodIn j2) rfl rfl rfl (ok j1) (ok j7) (ok j3) j4 j5 hRR) ⟨k_blind, hpre⟩ rfl rfl hls rfl (lv_room hst8) d4 ⟨hRc, hRs⟩
  refine va_callv hrun hw2.2.2.1 (fun z _ h => hF z h) hF (fun u t H1 locs1 ht hvm hp hB hz1 hk1 hS => ?_)
  obtain ⟨b1, b2⟩ := hB
  rw [ht] at b1
  obtain ⟨g1, g2⟩ := k_join hw2.1 hw2.2.1 hk1 hF b1 b2
  subst hp
  exact kk u H1 locs1 ⟨g1, g2, hS, hw.2.2.2⟩
/-- Object's constructor -/
theorem k_obj (cx : u_C p s m args meth c own y cc mL rt G) {a idx : Nat} (hq : Cond.methodLink own idx objectInit ∈ u_big) (hls : ls.size = mL) (hRf : 1 ≤ R.frames) (hRl : 40 ≤ R.locals) (hr8 : (rest.map fun v => v.category).sum ≤ 8) (hdg : decode cc pc = .ok (.invokespecial idx, 3))
    (kk : W p l e R s m args below meth c H locs cells slots Q (F0 m (pc + 3) ls rest)) : W p l e R s m args below meth c H locs cells slots Q (F0 m pc ls (.ref a :: rest)) := by
  obtain ⟨hx, hb, hml, hown, hts, hr, hlocks, hK⟩ := cx
  refine W.objInit hx hb hown (hts _ (List.mem_cons_of_mem _ hq)) (hts _ (List.mem_cons_of_mem _ q_27)) (hts _ (List.mem_cons_of_mem _ q_28)) rfl (by rw [hml]; exact hls) rfl hdg hRf (by show 2 * 0 + _ + 12 ≤ _; omega) ?_
  exact kk
theorem k_cy {ty : FieldType} {cA cB : ClassId} (h : ∀ C, ty ≠ .object C) (h1 : va_RA s cA ty) (h2 : va_RA s cB ty) : cA = cB := by
  have e : ∀ x, va_RA s x ty → s.vm.findClass ("[" ++ ty.toString) = some x := by
    intro x hx
    cases ty with
    | object C => exact absurd rfl (h C)
    | _ => exact hx
  exact Option.some.inj ((e cA h1).symm.trans (e cB h2))
/-- a row of numbers -/
theorem k_arr (cx : u_C p s m args meth c own y cc mL rt G) (hw : k_W G A ws s H locs) {atype : ArrayType} {ty : FieldType} {t N' : Nat} {a0 : vp_A} {n : Int32} (hty : newarray.typeOf atype = ty) (hnob : ∀ C, ty ≠ .object C) (ht : (u_tys G)[t]? = some (G.2.1 t, ty)) (hq : Cond.arrayClass ty ∈ u_big) (ha : ∀ cA : ClassId, vp_cell cA a0 = arrV cA N' (fun _ => defaultValue ty)) (hn : ¬ n < 0) (hN : n.toNatClampNeg = N') (hbytes : N' * componentBytes ty ≤ 536870912) (hRc : cells + 1 ≤ R.cells) (hRs : slots + N' ≤ R.slots) (hdg : decode cc pc = .ok (.newarray atype, 2))
    (kk : ∀ (q : Nat) (H1 : Heap), k_W G A (ws ++ [(q, .inl (G.2.1 t, a0))]) s H1 locs → W p l e R s m args below meth c H1 locs (cells + 1) (slots + N') Q (F0 m (pc + 2) ls (.ref q :: rest))) : W p l e R s m args below meth c H locs cells slots Q (F0 m pc ls (.int n :: rest)) := by
  obtain ⟨hx, hb, hml, hown, hts, hr, hlocks, hK⟩ := cx
  subst hty
  refine va_newa hx hb (hts _ (List.mem_cons_of_mem _ hq)) rfl hK.1 hw.1 hw.2.1 hw.2.2.1 hw.2.2.2 ha hn hN hbytes hRc hRs hdg (fun q cA H1 g1 g2 g3 g4 => ?_)
  have e : cA = G.2.1 t := k_cy hnob ((g1.2 (u_tys G).length _ (by rw [List.getElem?_append_right (Nat.le_refl _), Nat.sub_self]; rfl)).2) ((hK.1.2 t _ ht).2)
  subst e
  exact kk q H1 ⟨g2, g3, g4, hw.2.2.2⟩
/-- a final field of the object that is being made -/
theorem k_putF (cx : u_C p s m args meth c own y cc mL rt G) (hin : meth.name = "<init>") (hw : k_W G A ws s H locs) {N ci idx k a : Nat} {T : u_T} {fs : List Value} {ty0 : Nat → FieldType} (hF : u_F own idx own T N ci k) (hty : ∀ k, k < N → parseFieldDescriptor (T k).2.2.1 = some (ty0 k)) (hnm : ∀ a, a < N → ∀ b, b < N → a ≠ b → (T a).2.1 ≠ (T b).2.1) (hlk : Cond.fieldLink own idx (T k).1 (T k).2.1 (T k).2.2.1 ∈ u_big) (q0 : Nat) (he : ws[q0]? = some (a, .inr (ci, fs))) (hfin : (T k).2.2.2 = true) (hdecl : (T k).1 = own) {v : Value} (hn : narrow (ty0 k) v = v) (hfit : fits (ty0 k) v = true) (hl : k < fs.length) (hdg : decode cc pc = .ok (.putfield idx, 3))
    (kk : ∀ (H1 : Heap) (locs1 : List Loc), k_W G A (ws.set q0 (a, .inr (ci, fs.set k v))) s H1 locs1 → W p l e R s m args below meth c H1 locs1 cells slots Q (F0 m (pc + 3) ls rest)) : W p l e R s m args below meth c H locs cells slots Q (F0 m pc ls (v :: .ref a :: rest)) := by
  obtain ⟨hx, hb, hml, hown, hts, hr, hlocks, hK⟩ := cx
  obtain ⟨h1, h2, h3, -⟩ := hF
  exact va_putF hx hb hts (fun w h => List.mem_cons_of_mem _ (h1 w h)) ty0 hty hnm hown hK.1 hw.1 hw.2.1 hw.2.2.1 q0 he h2 k h3 (hts _ (List.mem_cons_of_mem _ hlk)) (fun _ h => h) hfin hin hdecl (hty k h3) hn hfit hl hdg (fun H1 locs1 g1 g2 g3 => kk H1 locs1 ⟨g1, g2, g3, hw.2.2.2⟩)
/-- another field of it -/
theorem k_put (cx : u_C p s m args meth c own y cc mL rt G) (hw : k_W G A ws s H locs) {N ci idx k a : Nat} {T : u_T} {fs : List Value} {ty0 : Nat → FieldType} (hF : u_F own idx own T N ci k) (hty : ∀ k, k < N → parseFieldDescriptor (T k).2.2.1 = some (ty0 k)) (hnm : ∀ a, a < N → ∀ b, b < N → a ≠ b → (T a).2.1 ≠ (T b).2.1) (hlk : Cond.fieldLink own idx (T k).1 (T k).2.1 (T k).2.2.1 ∈ u_big) (q0 : Nat) (he : ws[q0]? = some (a, .inr (ci, fs))) (hfin : (T k).2.2.2 = false) {v : Value} (hn : narrow (ty0 k) v = v) (hfit : fits (ty0 k) v = true) (hl : k < fs.length) (hdg : decode cc pc = .ok (.putfield idx, 3))
    (kk : ∀ (H1 : Heap) (locs1 : List Loc), k_W G A (ws.set q0 (a, .inr (ci, fs.set k v))) s H1 locs1 → W p l e R s m args below meth c H1 locs1 cells slots Q (F0 m (pc + 3) ls rest)) : W p l e R s m args below meth c H locs cells slots Q (F0 m pc ls (v :: .ref a :: rest)) := by
  obtain ⟨hx, hb, hml, hown, hts, hr, hlocks, hK⟩ := cx
  obtain ⟨h1, h2, h3, -⟩ := hF
  exact va_put hx hb hts (fun w h => List.mem_cons_of_mem _ (h1 w h)) ty0 hty hnm hown hK.1 hw.1 hw.2.1 hw.2.2.1 q0 he h2 k h3 (hts _ (List.mem_cons_of_mem _ hlk)) (fun _ h => h) hfin (hty k h3) hn hfit hl hdg (fun H1 locs1 g1 g2 g3 => kk H1 locs1 ⟨g1, g2, g3, hw.2.2.2⟩)
/-- the end of a constructor -/
theorem k_ret {cw : (Nat → Nat) → va_W} {h0 ci mc ms : Nat} {fs : List Value} (cx : u_C p s m args meth c own y cc mL none G) (hA : A = va_A (k_x h0 ci fs) s.heap.size) (hw : k_W G A ws s H locs) (u : Nat → Nat) (hu : u 0 = h0) (is : List Nat) (hnd : va_nd is = true) (h1 : is.map (fun i => ws[i]?) = (cw u).map some) (hc : cells ≤ mc) (hs : slots ≤ ms) (hdg : decode cc pc = .ok (.return_, 1)) : W p l e R s m args below meth c H locs cells slots (MQ below (va_Qv (fun (u : Nat → Nat) => u 0 = h0) (k_B G (k_x h0 ci fs) cw s.heap.size) A) args s mc ms A) (F0 m pc ls []) := by
  obtain ⟨hx, hb, hml, hown, hts, hr, hlocks, hK⟩ := cx
  have hPs : va_P G.1 vwCl (cw u) H := by
    intro k q hk
    have h2 : (is.map (fun i => ws[i]?))[k]? = some (some q) := by rw [h1, List.getElem?_map, hk]; rfl
    rw [List.getElem?_map] at h2
    cases hi : is[k]? with
    | none => rw [hi] at h2; cases h2
    | some i => rw [hi] at h2; exact hw.1 i q (Option.some.inj h2)
  have hDs := hw.2.1.sub (ws' := cw u) is hnd h1
  refine W.widen (k := mc) (n := ms) hc hs ?_
  refine W.vret hx hb hr (fun t ht hW => ⟨⟨u, rfl, hu, by rw [ht]; exact hPs, by rw [← hA]; exact hDs⟩, hw.2.2.1.F ht⟩) hw.2.2.1.2.2 hdg hlocks
end KR
