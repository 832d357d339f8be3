/-! OUR OWN WORLD: a system is a number of cells; cell i lies at the address h i; what it holds is a pure state -/
/-- ints (fields, int, byte, boolean rows), longs (rows), references that move (fields, rows), each by cell and place -/
abbrev uS : Type := (Nat → Nat → Int32) × (Nat → Nat → Int64) × (Nat → Nat → Option Nat)
/-- classes' numbers and slots, array classes by type number, addresses -/
abbrev uG : Type := va_G × (Nat → ClassId) × (Nat → Nat)
/-- a shape: how many cells; of each, a row (type number, length) or an object (class number, fields); of a field: an int (none), a reference that moves (some none), always cell k (some (some k)) -/
abbrev uZ : Type := Nat × (Nat → (Nat × Nat) ⊕ (Nat × Nat)) × (Nat → Nat → Option (Option Nat))
def u_tys (G : uG) : List (ClassId × FieldType) := [(G.2.1 0, .int), (G.2.1 1, .long), (G.2.1 2, .byte), (G.2.1 3, .boolean), (G.2.1 4, .object RX7)]
def u_fv (G : uG) (σ : uS) (kd : Option (Option Nat)) (i j : Nat) : Value := match kd with
  | none => .int (σ.1 i j)
  | some none => va_rf ((σ.2.2 i j).map G.2.2)
  | some (some k) => .ref (G.2.2 k)
def u_row (G : uG) (σ : uS) (t i : Nat) : (Nat → Int32) ⊕ (Nat → Int64) ⊕ (Nat → UInt32) ⊕ (Nat → UInt64) ⊕ (Nat → Option Nat) :=
  if t = 1 then .inr (.inl (σ.2.1 i)) else if t = 4 then .inr (.inr (.inr (.inr (fun j => (σ.2.2 i j).map G.2.2)))) else .inl (σ.1 i)
def u_fs (Z : uZ) (G : uG) (σ : uS) (i n : Nat) : List Value := (List.range n).map (fun j => u_fv G σ (Z.2.2 i j) i j)
def u_E (Z : uZ) (G : uG) (σ : uS) (i : Nat) : va_E := match Z.2.1 i with
  | .inl q => .inl (G.2.1 q.1, q.2, u_row G σ q.1 i)
  | .inr q => .inr (q.1, u_fs Z G σ i q.2)
def u_w (Z : uZ) (G : uG) (σ : uS) : va_W := (List.range Z.1).map (fun i => (G.2.2 i, u_E Z G σ i))
/-- new contents of a cell -/
def u_sI (σ : uS) (i : Nat) (f : Nat → Int32) : uS := (fun a => if a = i then f else σ.1 a, σ.2)
def u_sL (σ : uS) (i : Nat) (f : Nat → Int64) : uS := (σ.1, fun a => if a = i then f else σ.2.1 a, σ.2.2)
def u_sR (σ : uS) (i : Nat) (f : Nat → Option Nat) : uS := (σ.1, σ.2.1, fun a => if a = i then f else σ.2.2 a)
def u_pI (σ : uS) (i j : Nat) (v : Int32) : uS := u_sI σ i (upd (σ.1 i) j v)
def u_pL (σ : uS) (i j : Nat) (v : Int64) : uS := u_sL σ i (vp_updL (σ.2.1 i) j v)
def u_pR (σ : uS) (i j : Nat) (v : Option Nat) : uS := u_sR σ i (va_up (σ.2.2 i) j v)
theorem u_w_get {Z : uZ} {G : uG} {σ : uS} {i : Nat} (hi : i < Z.1) : (u_w Z G σ)[i]? = some (G.2.2 i, u_E Z G σ i) := by
  simp [u_w, List.getElem?_map, List.getElem?_range hi]
theorem u_w_len {Z : uZ} {G : uG} {σ : uS} : (u_w Z G σ).length = Z.1 := by simp [u_w]
theorem u_w_inv {Z : uZ} {G : uG} {σ : uS} {k : Nat} {q : Nat × va_E} (h : (u_w Z G σ)[k]? = some q) : k < Z.1 ∧ q = (G.2.2 k, u_E Z G σ k) := by
  have hk : k < Z.1 := by
    have := (List.getElem?_eq_some_iff.mp h).1
    rwa [u_w_len] at this
  rw [u_w_get hk] at h
  exact ⟨hk, (Option.some.inj h).symm⟩
theorem u_w_set {Z : uZ} {G : uG} {σ σ' : uS} {i : Nat} (hi : i < Z.1) (ho : ∀ a, a ≠ i → u_E Z G σ' a = u_E Z G σ a) : (u_w Z G σ).set i (G.2.2 i, u_E Z G σ' i) = u_w Z G σ' := by
  apply List.ext_getElem?
  intro k
  by_cases hk : k = i
  · subst hk
    rw [List.getElem?_set_self (by rw [u_w_len]; exact hi), u_w_get hi]
  · rw [List.getElem?_set_ne (Ne.symm hk)]
    by_cases hz : k < Z.1
    · rw [u_w_get hz, u_w_get hz, ho k hk]
    · rw [List.getElem?_eq_none (by rw [u_w_len]; omega), List.getElem?_eq_none (by rw [u_w_len]; omega)]
theorem u_E_congr {Z : uZ} {G : uG} {σ σ' : uS} {a : Nat} (h1 : σ'.1 a = σ.1 a) (h2 : σ'.2.1 a = σ.2.1 a) (h3 : σ'.2.2 a = σ.2.2 a) : u_E Z G σ' a = u_E Z G σ a := by
  have hf : ∀ kd j, u_fv G σ' kd a j = u_fv G σ kd a j := by
    intro kd j
    cases kd with
    | none => simp [u_fv, h1]
    | some x => cases x <;> simp [u_fv, h3]
  unfold u_E
  cases Z.2.1 a with
  | inl q => simp [u_row, h1, h2, h3]
  | inr q => simp [u_fs, hf]
theorem u_sI_o {Z : uZ} {G : uG} {σ : uS} {i : Nat} {f : Nat → Int32} : ∀ a, a ≠ i → u_E Z G (u_sI σ i f) a = u_E Z G σ a := fun a h => u_E_congr (by simp [u_sI, h]) rfl rfl
theorem u_sL_o {Z : uZ} {G : uG} {σ : uS} {i : Nat} {f : Nat → Int64} : ∀ a, a ≠ i → u_E Z G (u_sL σ i f) a = u_E Z G σ a := fun a h => u_E_congr rfl (by simp [u_sL, h]) rfl
theorem u_sR_o {Z : uZ} {G : uG} {σ : uS} {i : Nat} {f : Nat → Option Nat} : ∀ a, a ≠ i → u_E Z G (u_sR σ i f) a = u_E Z G σ a := fun a h => u_E_congr rfl rfl (by simp [u_sR, h])
theorem u_E_ob {Z : uZ} {G : uG} {σ : uS} {i ci N : Nat} (hs : Z.2.1 i = .inr (ci, N)) : u_E Z G σ i = .inr (ci, u_fs Z G σ i N) := by
  unfold u_E; rw [hs]
theorem u_E_ro {Z : uZ} {G : uG} {σ : uS} {i t n : Nat} (hs : Z.2.1 i = .inl (t, n)) : u_E Z G σ i = .inl (G.2.1 t, n, u_row G σ t i) := by
  unfold u_E; rw [hs]
theorem u_fs_get {Z : uZ} {G : uG} {σ : uS} {i n j : Nat} (hj : j < n) : (u_fs Z G σ i n)[j]? = some (u_fv G σ (Z.2.2 i j) i j) := by
  simp [u_fs, List.getElem?_map, List.getElem?_range hj]
theorem u_fs_len {Z : uZ} {G : uG} {σ : uS} {i n : Nat} : (u_fs Z G σ i n).length = n := by simp [u_fs]
theorem u_fs_set {Z : uZ} {G : uG} {σ σ' : uS} {i n j : Nat} {v : Value} (hj : j < n) (hv : u_fv G σ' (Z.2.2 i j) i j = v) (ho : ∀ k, k ≠ j → u_fv G σ' (Z.2.2 i k) i k = u_fv G σ (Z.2.2 i k) i k) : (u_fs Z G σ i n).set j v = u_fs Z G σ' i n := by
  apply List.ext_getElem?
  intro k
  by_cases hk : k = j
  · subst hk
    rw [List.getElem?_set_self (by rw [u_fs_len]; exact hj), u_fs_get hj, hv]
  · rw [List.getElem?_set_ne (Ne.symm hk)]
    by_cases hz : k < n
    · rw [u_fs_get hz, u_fs_get hz, ho k hk]
    · rw [List.getElem?_eq_none (by rw [u_fs_len]; omega), List.getElem?_eq_none (by rw [u_fs_len]; omega)]
theorem u_fv_pI {G : uG} {σ : uS} {i j k : Nat} {v : Int32} (h : k ≠ j) (kd : Option (Option Nat)) : u_fv G (u_pI σ i j v) kd i k = u_fv G σ kd i k := by
  cases kd with
  | none => simp [u_fv, u_pI, u_sI, upd, h]
  | some x => cases x <;> rfl
theorem u_fv_pR {G : uG} {σ : uS} {i j k : Nat} {v : Option Nat} (h : k ≠ j) (kd : Option (Option Nat)) : u_fv G (u_pR σ i j v) kd i k = u_fv G σ kd i k := by
  cases kd with
  | none => rfl
  | some x => cases x <;> simp [u_fv, u_pR, u_sR, va_up, h]
/-! links of nest mates go along with the world -/
abbrev u_nF : Type := String × Nat × String × String × String × String
abbrev u_nM : Type := String × Nat × MethodName × String
def u_cF (q : u_nF) : Cond := .fieldLinkNest q.1 q.2.1 q.2.2.1 q.2.2.2.1 q.2.2.2.2.1 q.2.2.2.2.2
def u_cM (q : u_nM) : Cond := .methodLinkNest q.1 q.2.1 q.2.2.1 q.2.2.2
/-- abstract methods that are called -/
def u_decl : List MethodName := [⟨RX5, "takes", "(I)Z"⟩, ⟨RX5, "takesEnd", "()Z"⟩]
def u_K (G : uG) (U : State) : Prop := va_K G.1 vwCl (u_tys G) U ∧ (∀ q ∈ u_nestF, va_Nw (u_cF q) U) ∧ (∀ q ∈ u_nestM, va_Nw (u_cM q) U) ∧ ∀ x ∈ u_decl, va_Nw (.declares x) U
theorem u_K.warm {G : uG} {s U : State} (hW : s.WarmedH U.vm) (h : u_K G s) : u_K G U := ⟨va_K.moved hW.alike h.1, fun q hq => va_Nw.warmF hW (h.2.1 q hq), fun q hq => va_Nw.warmM hW (h.2.2.1 q hq), fun x hx => va_Nw.warmD hW (h.2.2.2 x hx)⟩
theorem u_K.same {G : uG} {u U : State} (hvm : u.vm = U.vm) (h : u_K G u) : u_K G U := ⟨va_K.moved (by rw [hvm]; exact Vm.Alike.refl U.vm) h.1, fun q hq => va_Nw.same rfl hvm (h.2.1 q hq), fun q hq => va_Nw.same rfl hvm (h.2.2.1 q hq), fun x hx => va_Nw.same rfl hvm (h.2.2.2 x hx)⟩
/-- which cells a method may change -/
def u_A (Z : uZ) (G : uG) (sz : Nat) : Nat → Prop := fun q => (∃ i, i < Z.1 ∧ G.2.2 i = q) ∨ sz ≤ q
def u_W (Z : uZ) (G : uG) (σ : uS) (s : State) (H : Heap) (locs : List Loc) : Prop := va_P G.1 vwCl (u_w Z G σ) H ∧ va_D (u_A Z G s.heap.size) (u_w Z G σ) ∧ va_S (u_A Z G s.heap.size) s.heap H locs
def u_Pre (Z : uZ) (G : uG) (σ : uS) (sz : Nat) (U : State) : Prop := U.heap.size = sz ∧ va_P G.1 vwCl (u_w Z G σ) U.heap ∧ va_D (fun _ => True) (u_w Z G σ) ∧ u_K G U
def u_B (Z : uZ) (G : uG) (sz : Nat) (u : uS) (t : State) : Prop := va_P G.1 vwCl (u_w Z G u) t.heap ∧ va_D (u_A Z G sz) (u_w Z G u)
def u_rm (h : Nat) : Room := { frames := h, cells := 0, slots := 0, locals := 40 * h }
/-- the words of a method: its own code, and all that the law has -/
abbrev u_ws0 (y : MethodName) (cc : ByteArray) (mL : Nat) (rt : Option FieldType) : List Cond := .code y cc mL rt :: u_big
/-- contracts: an int (of a kind rt), a long, nothing -/
def u_Mi (l : Launch) (Z : uZ) (G : uG) (y : MethodName) (cc : ByteArray) (mL : Nat) (rt : FieldType) (hg : Nat) (av : List Value) (σ : uS) (r : Int32) (σ' : uS) : Prop :=
  ∀ sz : Nat, Met l y (u_ws0 y cc mL (some rt)) (u_rm hg) (va_Pc av (u_Pre Z G σ sz)) (va_Qi (fun (r' : Int32) (u : uS) => r' = r ∧ u = σ') (u_B Z G sz) (u_A Z G sz)) 0 0 (u_A Z G sz)
def u_Ml (l : Launch) (Z : uZ) (G : uG) (y : MethodName) (cc : ByteArray) (mL : Nat) (hg : Nat) (av : List Value) (σ : uS) (r : Int64) (σ' : uS) : Prop :=
  ∀ sz : Nat, Met l y (u_ws0 y cc mL (some .long)) (u_rm hg) (va_Pc av (u_Pre Z G σ sz)) (va_Ql (fun (r' : Int64) (u : uS) => r' = r ∧ u = σ') (u_B Z G sz) (u_A Z G sz)) 0 0 (u_A Z G sz)
def u_Mv (l : Launch) (Z : uZ) (G : uG) (y : MethodName) (cc : ByteArray) (mL : Nat) (hg : Nat) (av : List Value) (σ σ' : uS) : Prop :=
  ∀ sz : Nat, Met l y (u_ws0 y cc mL none) (u_rm hg) (va_Pc av (u_Pre Z G σ sz)) (va_Qv (fun (u : uS) => u = σ') (u_B Z G sz) (u_A Z G sz)) 0 0 (u_A Z G sz)
/-- what holds in a method's body from its entry on -/
def u_C (p : Program) (s : State) (m : MethodId) (args : Array Value) (meth : Method) (c : Code) (own : String) (y : MethodName) (cc : ByteArray) (mL : Nat) (rt : Option FieldType) (G : uG) : Prop :=
  p.tables.exec = Jvm.exec ∧ c.code = cc ∧ c.maxLocals = mL ∧ s.vm.findClass own = some m.cls ∧ (∀ w ∈ u_ws0 y cc mL rt, w.before args s = true) ∧ meth.sig.returnType = rt ∧ meth.locks = false ∧ u_K G s
def u_Qi (below : List Frame) (Z : uZ) (G : uG) (s : State) (args : Array Value) (r : Int32) (σ' : uS) : State → Prop := MQ below (va_Qi (fun (r' : Int32) (u : uS) => r' = r ∧ u = σ') (u_B Z G s.heap.size) (u_A Z G s.heap.size)) args s 0 0 (u_A Z G s.heap.size)
def u_Ql (below : List Frame) (Z : uZ) (G : uG) (s : State) (args : Array Value) (r : Int64) (σ' : uS) : State → Prop := MQ below (va_Ql (fun (r' : Int64) (u : uS) => r' = r ∧ u = σ') (u_B Z G s.heap.size) (u_A Z G s.heap.size)) args s 0 0 (u_A Z G s.heap.size)
def u_Qv (below : List Frame) (Z : uZ) (G : uG) (s : State) (args : Array Value) (σ' : uS) : State → Prop := MQ below (va_Qv (fun (u : uS) => u = σ') (u_B Z G s.heap.size) (u_A Z G s.heap.size)) args s 0 0 (u_A Z G s.heap.size)
theorem u_D_self {Z : uZ} {G : uG} {σ : uS} {A : Nat → Prop} {sz : Nat} (h : va_D A (u_w Z G σ)) : va_D (u_A Z G sz) (u_w Z G σ) :=
  ⟨h.1, fun k q hk => by obtain ⟨h1, h2⟩ := u_w_inv hk; rw [h2]; exact Or.inl ⟨k, h1, rfl⟩⟩
section UOF
variable {l : Launch} {Z : uZ} {G : uG} {y : MethodName} {cc : ByteArray} {mL hg : Nat} {rt : FieldType} {av : List Value} {σ σ' : uS}
theorem u_Mi_of {r : Int32} (own : String) (hy : plainName y.cls = true) (ho : y.cls = own) (hn : (lg_sl av).length ≤ mL)
    (body : ∀ (p : Program) (e : Env) (s : State) (m : MethodId) (args : Array Value) (below : List Frame) (meth : Method) (c : Code) (ls : Array Slot), u_C p s m args meth c own y cc mL (some rt) G → u_W Z G σ s s.heap [] → lv_has ls mL (lv_args 0 av) → W p l e (u_rm hg) s m args below meth c s.heap [] 0 0 (u_Qi below Z G s args r σ') (F0 m 0 ls [])) : u_Mi l Z G y cc mL rt hg av σ r σ' := by
  intro sz
  refine Met.ofW (cc := cc) (maxL := mL) (ret := some rt) hy rfl ?_
  intro p e s m args below meth c s₁ B hml hv
  obtain ⟨rfl, hsz, hP, hD, hK⟩ := hv
  subst hsz
  have hl := lv_entry av (n := mL) hn
  rw [lg_entry_eq]
  exact body p e s m _ below meth c _ ⟨B.exec, B.bytes, hml, by rw [← ho]; exact findClass_of_methodNamed B.named, atoms_spec (ws := u_ws0 y cc mL (some rt)) B.pre, B.returns, B.notSynchronized, hK⟩ ⟨hP, u_D_self hD, va_S.rf⟩ hl
theorem u_Ml_of {r : Int64} (own : String) (hy : plainName y.cls = true) (ho : y.cls = own) (hn : (lg_sl av).length ≤ mL)
    (body : ∀ (p : Program) (e : Env) (s : State) (m : MethodId) (args : Array Value) (below : List Frame) (meth : Method) (c : Code) (ls : Array Slot), u_C p s m args meth c own y cc mL (some .long) G → u_W Z G σ s s.heap [] → lv_has ls mL (lv_args 0 av) → W p l e (u_rm hg) s m args below meth c s.heap [] 0 0 (u_Ql below Z G s args r σ') (F0 m 0 ls [])) : u_Ml l Z G y cc mL hg av σ r σ' := by
  intro sz
  refine Met.ofW (cc := cc) (maxL := mL) (ret := some .long) hy rfl ?_
  intro p e s m args below meth c s₁ B hml hv
  obtain ⟨rfl, hsz, hP, hD, hK⟩ := hv
  subst hsz
  have hl := lv_entry av (n := mL) hn
  rw [lg_entry_eq]
  exact body p e s m _ below meth c _ ⟨B.exec, B.bytes, hml, by rw [← ho]; exact findClass_of_methodNamed B.named, atoms_spec (ws := u_ws0 y cc mL (some .long)) B.pre, B.returns, B.notSynchronized, hK⟩ ⟨hP, u_D_self hD, va_S.rf⟩ hl
theorem u_Mv_of (own : String) (hy : plainName y.cls = true) (ho : y.cls = own) (hn : (lg_sl av).length ≤ mL)
    (body : ∀ (p : Program) (e : Env) (s : State) (m : MethodId) (args : Array Value) (below : List Frame) (meth : Method) (c : Code) (ls : Array Slot), u_C p s m args meth c own y cc mL none G → u_W Z G σ s s.heap [] → lv_has ls mL (lv_args 0 av) → W p l e (u_rm hg) s m args below meth c s.heap [] 0 0 (u_Qv below Z G s args σ') (F0 m 0 ls [])) : u_Mv l Z G y cc mL hg av σ σ' := by
  intro sz
  refine Met.ofW (cc := cc) (maxL := mL) (ret := none) hy rfl ?_
  intro p e s m args below meth c s₁ B hml hv
  obtain ⟨rfl, hsz, hP, hD, hK⟩ := hv
  subst hsz
  have hl := lv_entry av (n := mL) hn
  rw [lg_entry_eq]
  exact body p e s m _ below meth c _ ⟨B.exec, B.bytes, hml, by rw [← ho]; exact findClass_of_methodNamed B.named, atoms_spec (ws := u_ws0 y cc mL none) B.pre, B.returns, B.notSynchronized, hK⟩ ⟨hP, u_D_self hD, va_S.rf⟩ hl
end UOF
