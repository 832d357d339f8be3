def x_Pre (G : uG) (σ : uS) (sz : Nat) (U : State) : Prop := U.heap.size = sz ∧ va_P G.1 vwCl (u_w ZC G σ) U.heap ∧ va_D (fun _ => True) (u_w ZC G σ) ∧ x_K G (u_A ZC G sz) U
def x_X (G : uG) (b : Prop) (σ' : uS) (sz : Nat) : String → State → State → Prop := vx_X (fun (_ : Unit) => b) (fun E _ t => E = x_E ∧ u_B ZC G sz σ' t) (u_A ZC G sz)
/-- contracts: it returns an int, or throws -/
def x_Mi (l : Launch) (G : uG) (y : MethodName) (cc : ByteArray) (mL hg : Nat) (av : List Value) (σ : uS) (z : Option Int32 × uS) : Prop :=
  ∀ sz : Nat, vx_Met l y (u_ws0 y cc mL (some .int)) (k_rm hg 1 6) (va_Pc av (x_Pre G σ sz)) (va_Qi (fun (r : Int32) (u : uS) => z.1 = some r ∧ u = z.2) (u_B ZC G sz) (u_A ZC G sz)) (x_X G (z.1 = none) z.2 sz) 1 6 (u_A ZC G sz)
def x_Ml (l : Launch) (G : uG) (y : MethodName) (cc : ByteArray) (mL hg : Nat) (av : List Value) (σ : uS) (z : Option Int64 × uS) : Prop :=
  ∀ sz : Nat, vx_Met l y (u_ws0 y cc mL (some .long)) (k_rm hg 1 6) (va_Pc av (x_Pre G σ sz)) (va_Ql (fun (r : Int64) (u : uS) => z.1 = some r ∧ u = z.2) (u_B ZC G sz) (u_A ZC G sz)) (x_X G (z.1 = none) z.2 sz) 1 6 (u_A ZC G sz)
def x_Qi (below : List Frame) (G : uG) (s : State) (args : Array Value) (z : Option Int32 × uS) : State → Prop := vx_MQ below (va_Qi (fun (r : Int32) (u : uS) => z.1 = some r ∧ u = z.2) (u_B ZC G s.heap.size) (u_A ZC G s.heap.size)) (x_X G (z.1 = none) z.2 s.heap.size) args s 1 6 (u_A ZC G s.heap.size)
def x_Ql (below : List Frame) (G : uG) (s : State) (args : Array Value) (z : Option Int64 × uS) : State → Prop := vx_MQ below (va_Ql (fun (r : Int64) (u : uS) => z.1 = some r ∧ u = z.2) (u_B ZC G s.heap.size) (u_A ZC G s.heap.size)) (x_X G (z.1 = none) z.2 s.heap.size) args s 1 6 (u_A ZC G s.heap.size)
section XC
variable {l : Launch} {G : uG} {y : MethodName} {cc : ByteArray} {mL hg : Nat} {av : List Value} {σ : uS}
theorem x_Mi_of {z : Option Int32 × uS} (own : String) (hy : plainName y.cls = true) (ho : y.cls = own) (hn : (lg_sl av).length ≤ mL)
    (body : ∀ (p : Program) (e : Env) (s : State) (m : MethodId) (args : Array Value) (below : List Frame) (meth : Method) (c : Code) (ls : Array Slot), u_C p s m args meth c own y cc mL (some .int) G → (∀ x ∈ c.exceptionTable.toList, False) → x_K G (u_A ZC G s.heap.size) s → u_W ZC G σ s s.heap [] → lv_has ls mL (lv_args 0 av) → W p l e (k_rm hg 1 6) s m args below meth c s.heap [] 0 0 (x_Qi below G s args z) (F0 m 0 ls [])) : x_Mi l G y cc mL hg av σ z := by
  intro sz
  refine vx_ofW (cc := cc) (maxL := mL) (ret := some .int) hy rfl ?_
  intro p e s m args below meth c s₁ B hml hnt hv
  obtain ⟨rfl, hsz, hP, hD, hK⟩ := hv
  subst hsz
  have hl := lv_entry av (n := mL) hn
  rw [lg_entry_eq]
  exact body p e s m _ below meth c _ ⟨B.exec, B.bytes, hml, by rw [← ho]; exact findClass_of_methodNamed B.named, atoms_spec (ws := u_ws0 y cc mL (some .int)) B.pre, B.returns, B.notSynchronized, hK.1⟩ hnt hK ⟨hP, u_D_self hD, va_S.rf⟩ hl
theorem x_Ml_of {z : Option Int64 × uS} (own : String) (hy : plainName y.cls = true) (ho : y.cls = own) (hn : (lg_sl av).length ≤ mL)
    (body : ∀ (p : Program) (e : Env) (s : State) (m : MethodId) (args : Array Value) (below : List Frame) (meth : Method) (c : Code) (ls : Array Slot), u_C p s m args meth c own y cc mL (some .long) G → (∀ x ∈ c.exceptionTable.toList, False) → x_K G (u_A ZC G s.heap.size) s → u_W ZC G σ s s.heap [] → lv_has ls mL (lv_args 0 av) → W p l e (k_rm hg 1 6) s m args below meth c s.heap [] 0 0 (x_Ql below G s args z) (F0 m 0 ls [])) : x_Ml l G y cc mL hg av σ z := by
  intro sz
  refine vx_ofW (cc := cc) (maxL := mL) (ret := some .long) hy rfl ?_
  intro p e s m args below meth c s₁ B hml hnt hv
  obtain ⟨rfl, hsz, hP, hD, hK⟩ := hv
  subst hsz
  have hl := lv_entry av (n := mL) hn
  rw [lg_entry_eq]
  exact body p e s m _ below meth c _ ⟨B.exec, B.bytes, hml, by rw [← ho]; exact findClass_of_methodNamed B.named, atoms_spec (ws := u_ws0 y cc mL (some .long)) B.pre, B.returns, B.notSynchronized, hK.1⟩ hnt hK ⟨hP, u_D_self hD, va_S.rf⟩ hl
end XC
section XD
variable {p : Program} {l : Launch} {e : Env} {R : Room} {s : State} {m : MethodId} {args : Array Value} {below : List Frame} {meth : Method} {c : Code} {H : Heap} {locs : List Loc} {cells slots : Nat} {Q : State → Prop}
variable {own : String} {y : MethodName} {cc : ByteArray} {mL : Nat} {rt : Option FieldType} {G : uG} {Z : uZ} {σ : uS} {pc : Nat} {ls : Array Slot} {rest : List Value} {hg : Nat}
theorem x_iret {z : Option Int32 × uS} {v : Int32} (cx : u_C p s m args meth c own y cc mL (some .int) G) (hw : u_W ZC G σ s H locs) (hq : (some v, σ) = z) (hdg : decode cc pc = .ok (.ireturn, 1)) : W p l e R s m args below meth c H locs 0 0 (x_Qi below G s args z) (F0 m pc ls [.int v]) := by
  obtain ⟨hx, hb, hml, hown, hts, hr, hlocks, hK⟩ := cx
  refine W.widen (k := 1) (n := 6) (by omega) (by omega) (vx_ret ?_)
  exact W.iret hx hb hr (fun t ht hW => ⟨⟨v, σ, rfl, by rw [← hq]; exact ⟨rfl, rfl⟩, by rw [ht]; exact hw.1, hw.2.1⟩, hw.2.2.F ht⟩) hw.2.2.2.2 hdg hlocks
theorem x_lret {z : Option Int64 × uS} {v : Int64} (cx : u_C p s m args meth c own y cc mL (some .long) G) (hw : u_W ZC G σ s H locs) (hq : (some v, σ) = z) (hdg : decode cc pc = .ok (.lreturn, 1)) : W p l e R s m args below meth c H locs 0 0 (x_Ql below G s args z) (F0 m pc ls [.long v]) := by
  obtain ⟨hx, hb, hml, hown, hts, hr, hlocks, hK⟩ := cx
  refine W.widen (k := 1) (n := 6) (by omega) (by omega) (vx_ret ?_)
  exact W.lret hx hb hr (fun t ht hW => ⟨⟨v, σ, rfl, by rw [← hq]; exact ⟨rfl, rfl⟩, by rw [ht]; exact hw.1, hw.2.1⟩, hw.2.2.F ht⟩) hw.2.2.2.2 hdg hlocks
theorem x_XC (hw : u_W ZC G σ s H locs) {b : Prop} (hb : b) {σ' : uS} (hσ : σ = σ') : ∀ t : State, s.vm.Alike t.vm → H.size ≤ t.heap.size → (∀ q : Nat, q < H.size → t.heap[q]? = H[q]?) → x_X G b σ' s.heap.size x_E s t := by
  intro t _ h1 h2
  subst hσ
  refine ⟨(), hb, ⟨rfl, hw.1.kept (fun k q hk => h2 q.1 ((hw.1 k q hk).lt)), hw.2.1⟩, Nat.le_trans hw.2.2.1 h1, fun q g1 g2 => ?_⟩
  rw [h2 q (Nat.lt_of_lt_of_le g1 hw.2.2.1)]
  exact hw.2.2.2.1 q g1 g2
theorem x_thi {z : Option Int32 × uS} (cx : u_C p s m args meth c RX11 y cc mL rt G) (hl : l.stackTraces = false) (hxk : x_K G (u_A ZC G s.heap.size) s) (hnt : ∀ x ∈ c.exceptionTable.toList, False) (hw : u_W ZC G σ s H locs) (hq : (none, σ) = z) {is n : Nat} {text : String} (hstr : ∃ sa, vk_R RX11 is text sa s) (hsize : ls.size = mL)
    (d0 : decode cc pc = .ok (.new 143, 3)) (d3 : decode cc (pc + 3) = .ok (.dup, 1)) (d4 : (decode cc (pc + 4) = .ok (.ldc is, 2) ∧ n = 2) ∨ (decode cc (pc + 4) = .ok (.ldc_w is, 3) ∧ n = 3)) (d6 : decode cc (pc + 4 + n) = .ok (.invokespecial 147, 3)) (d9 : decode cc (pc + 4 + n + 3) = .ok (.athrow, 1)) (hh : 5 < hg) (hr8 : (rest.map fun v => v.category).sum ≤ 8) :
    W p l e (k_rm hg 1 6) s m args below meth c H locs 0 0 (x_Qi below G s args z) (F0 m pc ls rest) := by
  obtain ⟨sa, hstr⟩ := hstr
  exact x_throw cx hl hxk hw.2.2 hstr hsize hnt d0 d3 d4 d6 d9 hh (by show _ + 82 ≤ 40 * hg; omega) (Nat.le_refl 1) (Nat.le_refl 6) (x_XC hw (by rw [← hq]) (by rw [← hq])) hw.2.2.2.2 (Nat.le_refl 1) (Nat.le_refl 6)
theorem x_thl {z : Option Int64 × uS} (cx : u_C p s m args meth c RX11 y cc mL rt G) (hl : l.stackTraces = false) (hxk : x_K G (u_A ZC G s.heap.size) s) (hnt : ∀ x ∈ c.exceptionTable.toList, False) (hw : u_W ZC G σ s H locs) (hq : (none, σ) = z) {is n : Nat} {text : String} (hstr : ∃ sa, vk_R RX11 is text sa s) (hsize : ls.size = mL)
    (d0 : decode cc pc = .ok (.new 143, 3)) (d3 : decode cc (pc + 3) = .ok (.dup, 1)) (d4 : (decode cc (pc + 4) = .ok (.ldc is, 2) ∧ n = 2) ∨ (decode cc (pc + 4) = .ok (.ldc_w is, 3) ∧ n = 3)) (d6 : decode cc (pc + 4 + n) = .ok (.invokespecial 147, 3)) (d9 : decode cc (pc + 4 + n + 3) = .ok (.athrow, 1)) (hh : 5 < hg) (hr8 : (rest.map fun v => v.category).sum ≤ 8) :
    W p l e (k_rm hg 1 6) s m args below meth c H locs 0 0 (x_Ql below G s args z) (F0 m pc ls rest) := by
  obtain ⟨sa, hstr⟩ := hstr
  exact x_throw cx hl hxk hw.2.2 hstr hsize hnt d0 d3 d4 d6 d9 hh (by show _ + 82 ≤ 40 * hg; omega) (Nat.le_refl 1) (Nat.le_refl 6) (x_XC hw (by rw [← hq]) (by rw [← hq])) hw.2.2.2.2 (Nat.le_refl 1) (Nat.le_refl 6)
theorem x_cb (cx : u_C p s m args meth c own y cc mL rt G) {idx n m2 h2 mc ms : Nat} {y2 : MethodName} {c2 : ByteArray} {r2 : Option FieldType} (hL : u_L own idx y2 c2 m2 r2 n) (hh : h2 < hg) : CallB (k_rm hg mc ms) s args own idx y2 c2 m2 r2 (u_ws0 y2 c2 m2 r2) (u_rm h2) 0 0 n := by
  obtain ⟨h1, h2', h3, h4, h5⟩ := hL
  have hts := cx.2.2.2.2.1
  refine callB_of n hts (u_goodIn h3) rfl rfl rfl (hts _ (List.mem_cons_of_mem _ h2')) (hts _ (List.mem_cons_of_mem _ h1)) h4 ⟨?_, ?_⟩
  · show h2 + 1 ≤ hg; omega
  · show 8 + (m2 + 11) + 40 * h2 ≤ 40 * hg; omega
theorem x_callVi (cx : u_C p s m args meth c own y cc mL rt G) (hw : u_W Z G σ s H locs) {C : String} {idx n m2 h2 ci N i mc ms : Nat} {y2 : MethodName} {c2 : ByteArray} {t2 : FieldType} {As : List Value} {r : Int32} {σ' : uS} {kf : Nat → Option (Option Nat)} {T : u_T} (hL : u_LV own idx C y2 c2 m2 (some t2) n) (hM : u_Mi l Z G y2 c2 m2 t2 h2 (.ref (G.2.2 i) :: As) σ r σ') (ho : u_o Z i ci N kf) (hc : vwCl[ci]? = some (C, T, N)) (hh : h2 < hg) (hls : ls.size = mL) (hn : As.length = n) (hr8 : (rest.map fun v => v.category).sum ≤ 8) (hdg : decode cc pc = .ok (.invokevirtual idx, 3)) {st : List Value} (hst : st = As.reverse ++ .ref (G.2.2 i) :: rest)
    (kk : ∀ (H1 : Heap) (locs1 : List Loc), u_W Z G σ' s H1 locs1 → W p l e (k_rm hg mc ms) s m args below meth c H1 locs1 0 0 Q (F0 m (pc + 3) ls (.int r :: rest))) : W p l e (k_rm hg mc ms) s m args below meth c H locs 0 0 Q (F0 m pc ls st) := by
  obtain ⟨hx, hb, hml, hown, hts, hr, hlocks, hK⟩ := id cx
  refine va_calli (va_runV (As := As) (rest := rest) ⟨hx, hb, hml, hown, hts⟩ (hM H.size) ⟨x_cb cx hL.1 hh, hts _ (List.mem_cons_of_mem _ hL.2.1), hts _ (List.mem_cons_of_mem _ hL.2.2)⟩ ⟨u_blind, va_recv hK.1 hw.1 (ci := ci) (q0 := i) hc (by rw [u_w_get ho.1, u_E_ob ho.2.1]), u_pre cx hw⟩ rfl hn hls hst (lv_room hr8) hdg ⟨Nat.zero_le _, Nat.zero_le _⟩) hw.2.2 (fun q _ h => u_Ain hw rfl q h) (u_Ain hw rfl) (fun r2 u t H1 locs1 ht hvm hp hB hz1 hk1 hS => ?_)
  obtain ⟨rfl, rfl⟩ := hp
  exact kk H1 locs1 (u_back hw hB ht hS)
theorem x_callVl (cx : u_C p s m args meth c own y cc mL rt G) (hw : u_W Z G σ s H locs) {C : String} {idx n m2 h2 ci N i mc ms : Nat} {y2 : MethodName} {c2 : ByteArray} {As : List Value} {r : Int64} {σ' : uS} {kf : Nat → Option (Option Nat)} {T : u_T} (hL : u_LV own idx C y2 c2 m2 (some .long) n) (hM : u_Ml l Z G y2 c2 m2 h2 (.ref (G.2.2 i) :: As) σ r σ') (ho : u_o Z i ci N kf) (hc : vwCl[ci]? = some (C, T, N)) (hh : h2 < hg) (hls : ls.size = mL) (hn : As.length = n) (hr8 : (rest.map fun v => v.category).sum ≤ 8) (hdg : decode cc pc = .ok (.invokevirtual idx, 3)) {st : List Value} (hst : st = As.reverse ++ .ref (G.2.2 i) :: rest)
    (kk : ∀ (H1 : Heap) (locs1 : List Loc), u_W Z G σ' s H1 locs1 → W p l e (k_rm hg mc ms) s m args below meth c H1 locs1 0 0 Q (F0 m (pc + 3) ls (.long r :: rest))) : W p l e (k_rm hg mc ms) s m args below meth c H locs 0 0 Q (F0 m pc ls st) := by
  obtain ⟨hx, hb, hml, hown, hts, hr, hlocks, hK⟩ := id cx
  refine va_calll (va_runV (As := As) (rest := rest) ⟨hx, hb, hml, hown, hts⟩ (hM H.size) ⟨x_cb cx hL.1 hh, hts _ (List.mem_cons_of_mem _ hL.2.1), hts _ (List.mem_cons_of_mem _ hL.2.2)⟩ ⟨u_blind, va_recv hK.1 hw.1 (ci := ci) (q0 := i) hc (by rw [u_w_get ho.1, u_E_ob ho.2.1]), u_pre cx hw⟩ rfl hn hls hst (lv_room hr8) hdg ⟨Nat.zero_le _, Nat.zero_le _⟩) hw.2.2 (fun q _ h => u_Ain hw rfl q h) (u_Ain hw rfl) (fun r2 u t H1 locs1 ht hvm hp hB hz1 hk1 hS => ?_)
  obtain ⟨rfl, rfl⟩ := hp
  exact kk H1 locs1 (u_back hw hB ht hS)
theorem x_callSi (cx : u_C p s m args meth c own y cc mL rt G) (hw : u_W Z G σ s H locs) {idx n m2 h2 mc ms : Nat} {y2 : MethodName} {c2 : ByteArray} {t2 : FieldType} {As : List Value} {r : Int32} {σ' : uS} (hL : u_LS own idx y2 c2 m2 (some t2) n) (hM : u_Mi l Z G y2 c2 m2 t2 h2 As σ r σ') (hh : h2 < hg) (hls : ls.size = mL) (hn : As.length = n) (hr8 : (rest.map fun v => v.category).sum ≤ 8) (hdg : decode cc pc = .ok (.invokestatic idx, 3)) {st : List Value} (hst : st = As.reverse ++ rest)
    (kk : ∀ (H1 : Heap) (locs1 : List Loc), u_W Z G σ' s H1 locs1 → W p l e (k_rm hg mc ms) s m args below meth c H1 locs1 0 0 Q (F0 m (pc + 3) ls (.int r :: rest))) : W p l e (k_rm hg mc ms) s m args below meth c H locs 0 0 Q (F0 m pc ls st) := by
  obtain ⟨hx, hb, hml, hown, hts, hr, hlocks, hK⟩ := id cx
  refine va_calli (va_runS (As := As) (rest := rest) ⟨hx, hb, hml, hown, hts⟩ (hM H.size) ⟨x_cb cx hL.1 hh, hts _ (List.mem_cons_of_mem _ hL.2)⟩ ⟨u_blind, u_pre cx hw⟩ rfl hn hls hst (lv_room hr8) hdg ⟨Nat.zero_le _, Nat.zero_le _⟩) hw.2.2 (fun q _ h => u_Ain hw rfl q h) (u_Ain hw rfl) (fun r2 u t H1 locs1 ht hvm hp hB hz1 hk1 hS => ?_)
  obtain ⟨rfl, rfl⟩ := hp
  exact kk H1 locs1 (u_back hw hB ht hS)
end XD
