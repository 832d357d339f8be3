/-! MORE ROWS: names for values, loops, numbers -/
def u_ushr (x y : Int32) : Int32 := (x.toUInt32 >>> (y.toUInt32 &&& Int32.toUInt32 31)).toInt32
theorem u_let {α β : Type} {a : α} {f : α → Option β} {z : β} (h : u_jn a f = some z) : ∃ x, x = a ∧ f x = some z := ⟨a, rfl, h⟩
def u_lp1 {a1 β : Type} (B : (a1 → Option β) → a1 → Option β) : Nat → a1 → Option β
  | 0 => fun _ => none
  | n + 1 => B (u_lp1 B n)
def u_lp2 {a1 a2 β : Type} (B : (a1 → a2 → Option β) → a1 → a2 → Option β) : Nat → a1 → a2 → Option β
  | 0 => fun _ _ => none
  | n + 1 => B (u_lp2 B n)
def u_lp3 {a1 a2 a3 β : Type} (B : (a1 → a2 → a3 → Option β) → a1 → a2 → a3 → Option β) : Nat → a1 → a2 → a3 → Option β
  | 0 => fun _ _ _ => none
  | n + 1 => B (u_lp3 B n)
def u_lp4 {a1 a2 a3 a4 β : Type} (B : (a1 → a2 → a3 → a4 → Option β) → a1 → a2 → a3 → a4 → Option β) : Nat → a1 → a2 → a3 → a4 → Option β
  | 0 => fun _ _ _ _ => none
  | n + 1 => B (u_lp4 B n)
def u_lp5 {a1 a2 a3 a4 a5 β : Type} (B : (a1 → a2 → a3 → a4 → a5 → Option β) → a1 → a2 → a3 → a4 → a5 → Option β) : Nat → a1 → a2 → a3 → a4 → a5 → Option β
  | 0 => fun _ _ _ _ _ => none
  | n + 1 => B (u_lp5 B n)
def u_lp6 {a1 a2 a3 a4 a5 a6 β : Type} (B : (a1 → a2 → a3 → a4 → a5 → a6 → Option β) → a1 → a2 → a3 → a4 → a5 → a6 → Option β) : Nat → a1 → a2 → a3 → a4 → a5 → a6 → Option β
  | 0 => fun _ _ _ _ _ _ => none
  | n + 1 => B (u_lp6 B n)
def u_cpy (Z : uZ) (σ : uS) (a0 : Nat) (sp : Int32) (a1 : Nat) (dp n : Int32) : Option uS := match Z.2.1 a0, Z.2.1 a1 with
  | .inl q0, .inl q1 => if a0 < Z.1 ∧ a1 < Z.1 ∧ q0.1 = 0 ∧ q1.1 = 0 ∧ ¬ sp < 0 ∧ ¬ dp < 0 ∧ ¬ n < 0 ∧ sp.toNatClampNeg + n.toNatClampNeg ≤ q0.2 ∧ dp.toNatClampNeg + n.toNatClampNeg ≤ q1.2 then some (u_sI σ a1 (va_cpy (σ.1 a0) (σ.1 a1) sp.toNatClampNeg dp.toNatClampNeg n.toNatClampNeg)) else none
  | _, _ => none
section UR2
variable {p : Program} {l : Launch} {e : Env} {R : Room} {s : State} {m : MethodId} {args : Array Value} {below : List Frame} {meth : Method} {c : Code} {H : Heap} {locs : List Loc} {cells slots : Nat} {Q : State → Prop}
variable {own : String} {y : MethodName} {cc : ByteArray} {mL : Nat} {rt : Option FieldType} {G : uG} {Z : uZ} {σ : uS} {pc : Nat} {ls : Array Slot} {rest : List Value} {hg : Nat}
theorem u_topi {x v : Int32} (h : v = x) (k : W p l e R s m args below meth c H locs cells slots Q (F0 m pc ls (.int v :: rest))) : W p l e R s m args below meth c H locs cells slots Q (F0 m pc ls (.int x :: rest)) := by rw [← h]; exact k
theorem u_topl {x v : Int64} (h : v = x) (k : W p l e R s m args below meth c H locs cells slots Q (F0 m pc ls (.long v :: rest))) : W p l e R s m args below meth c H locs cells slots Q (F0 m pc ls (.long x :: rest)) := by rw [← h]; exact k
theorem u_puti2 (cx : u_C p s m args meth c own y cc mL rt G) (hw : u_W Z G σ s H locs) {i j N ci idx : Nat} {C : String} {T : u_T} {kf : Nat → Option (Option Nat)} (hF : u_Fp own idx C T N ci j .int) (ho : u_o Z i ci N kf) (hk : kf j = none) {v : Int32} {σ' : uS} (hσ : σ' = u_pI σ i j v) (hdg : decode cc pc = .ok (.putfield idx, 3))
    (kk : ∀ (H1 : Heap) (locs1 : List Loc), u_W Z G σ' s H1 locs1 → W p l e R s m args below meth c H1 locs1 cells slots Q (F0 m (pc + 3) ls rest)) : W p l e R s m args below meth c H locs cells slots Q (F0 m pc ls (.int v :: .ref (G.2.2 i) :: rest)) := by
  subst hσ
  exact u_puti cx hw hF ho hk hdg kk
theorem u_putz2 (cx : u_C p s m args meth c own y cc mL rt G) (hw : u_W Z G σ s H locs) {i j N ci idx : Nat} {C : String} {T : u_T} {kf : Nat → Option (Option Nat)} (hF : u_Fp own idx C T N ci j .boolean) (ho : u_o Z i ci N kf) (hk : kf j = none) {v : Int32} (hb01 : v = 0 ∨ v = 1) {σ' : uS} (hσ : σ' = u_pI σ i j v) (hdg : decode cc pc = .ok (.putfield idx, 3))
    (kk : ∀ (H1 : Heap) (locs1 : List Loc), u_W Z G σ' s H1 locs1 → W p l e R s m args below meth c H1 locs1 cells slots Q (F0 m (pc + 3) ls rest)) : W p l e R s m args below meth c H locs cells slots Q (F0 m pc ls (.int v :: .ref (G.2.2 i) :: rest)) := by
  subst hσ
  exact u_putz cx hw hF ho hk hb01 hdg kk
theorem u_putr2 (cx : u_C p s m args meth c own y cc mL rt G) (hw : u_W Z G σ s H locs) {i j N ci idx k : Nat} {C : String} {T : u_T} {kf : Nat → Option (Option Nat)} {ty : FieldType} (hF : u_Fp own idx C T N ci j ty) (ho : u_o Z i ci N kf) (hk : kf j = some none) (hn : narrow ty (.ref (G.2.2 k)) = .ref (G.2.2 k)) (hfit : fits ty (.ref (G.2.2 k)) = true) {σ' : uS} (hσ : σ' = u_pR σ i j (some k)) (hdg : decode cc pc = .ok (.putfield idx, 3))
    (kk : ∀ (H1 : Heap) (locs1 : List Loc), u_W Z G σ' s H1 locs1 → W p l e R s m args below meth c H1 locs1 cells slots Q (F0 m (pc + 3) ls rest)) : W p l e R s m args below meth c H locs cells slots Q (F0 m pc ls (.ref (G.2.2 k) :: .ref (G.2.2 i) :: rest)) := by
  subst hσ
  exact u_putr cx hw hF ho hk hn hfit hdg kk
def u_Lm (own : String) (idx : Nat) (y : MethodName) (bytes : ByteArray) : Prop := Cond.methodLink own idx y ∈ u_big ∧ Cond.static y ∈ u_big ∧ Cond.initialized "java/lang/Math" ∈ u_big ∧ Cond.code y bytes 2 (some .int) ∈ u_big
theorem u_mmax (cx : u_C p s m args meth c own y cc mL rt G) {idx : Nat} {x v : Int32} (hL : u_Lm own idx Lib.Math.max.name Lib.Math.max.code) (hh : 0 < hg) (hls : ls.size = mL) (hr8 : (rest.map fun v => v.category).sum ≤ 8) (hdg : decode cc pc = .ok (.invokestatic idx, 3))
    (kk : W p l e (u_rm hg) s m args below meth c H locs 0 0 Q (F0 m (pc + 3) ls (.int (if x < v then v else x) :: rest))) : W p l e (u_rm hg) s m args below meth c H locs 0 0 Q (F0 m pc ls (.int v :: .int x :: rest)) := by
  obtain ⟨hx, hb, hml, hown, hts, hr, hlk, hK⟩ := cx
  exact va_mmax hx hb (hml.trans hls.symm) hown (hts _ (List.mem_cons_of_mem _ hL.1)) (hts _ (List.mem_cons_of_mem _ hL.2.1)) (hts _ (List.mem_cons_of_mem _ hL.2.2.1)) (hts _ (List.mem_cons_of_mem _ hL.2.2.2)) (by show 1 ≤ hg; omega) (by show _ ≤ 40 * hg; omega) (Nat.le_refl 0) (Nat.le_refl 0) hdg kk
theorem u_mmin (cx : u_C p s m args meth c own y cc mL rt G) {idx : Nat} {x v : Int32} (hL : u_Lm own idx Lib.Math.min.name Lib.Math.min.code) (hh : 0 < hg) (hls : ls.size = mL) (hr8 : (rest.map fun v => v.category).sum ≤ 8) (hdg : decode cc pc = .ok (.invokestatic idx, 3))
    (kk : W p l e (u_rm hg) s m args below meth c H locs 0 0 Q (F0 m (pc + 3) ls (.int (if v < x then v else x) :: rest))) : W p l e (u_rm hg) s m args below meth c H locs 0 0 Q (F0 m pc ls (.int v :: .int x :: rest)) := by
  obtain ⟨hx, hb, hml, hown, hts, hr, hlk, hK⟩ := cx
  exact va_mmin hx hb (hml.trans hls.symm) hown (hts _ (List.mem_cons_of_mem _ hL.1)) (hts _ (List.mem_cons_of_mem _ hL.2.1)) (hts _ (List.mem_cons_of_mem _ hL.2.2.1)) (hts _ (List.mem_cons_of_mem _ hL.2.2.2)) (by show 1 ≤ hg; omega) (by show _ ≤ 40 * hg; omega) (Nat.le_refl 0) (Nat.le_refl 0) hdg kk
def u_Lc (own : String) (idx : Nat) : Prop := Cond.methodLink own idx arraycopyName ∈ u_big ∧ Cond.native arraycopyName ∈ u_big ∧ Cond.static arraycopyName ∈ u_big ∧ Cond.initialized "java/lang/System" ∈ u_big
theorem u_cpy_some {σ' : uS} {a0 a1 : Nat} {sp dp n : Int32} (h : u_cpy Z σ a0 sp a1 dp n = some σ') : ∃ n0 n1, Z.2.1 a0 = .inl (0, n0) ∧ Z.2.1 a1 = .inl (0, n1) ∧ a0 < Z.1 ∧ a1 < Z.1 ∧ ¬ sp < 0 ∧ ¬ dp < 0 ∧ ¬ n < 0 ∧ sp.toNatClampNeg + n.toNatClampNeg ≤ n0 ∧ dp.toNatClampNeg + n.toNatClampNeg ≤ n1 ∧ σ' = u_sI σ a1 (va_cpy (σ.1 a0) (σ.1 a1) sp.toNatClampNeg dp.toNatClampNeg n.toNatClampNeg) := by
  unfold u_cpy at h
  split at h
  · next q0 q1 e0 e1 =>
    split at h
    · next hc =>
      obtain ⟨h1, h2, h3, h4, h5, h6, h7, h8, h9⟩ := hc
      obtain ⟨t0, n0⟩ := q0
      obtain ⟨t1, n1⟩ := q1
      subst h3; subst h4
      exact ⟨n0, n1, e0, e1, h1, h2, h5, h6, h7, h8, h9, (Option.some.inj h).symm⟩
    · cases h
  · cases h
theorem u_copy (cx : u_C p s m args meth c own y cc mL rt G) (hw : u_W Z G σ s H locs) {idx a0 a1 : Nat} {sp dp n : Int32} {σ' : uS} (hL : u_Lc own idx) (hv : u_cpy Z σ a0 sp a1 dp n = some σ') (hh : 0 < hg) (hls : ls.size = mL) (hr8 : (rest.map fun v => v.category).sum ≤ 8) (hdg : decode cc pc = .ok (.invokestatic idx, 3))
    (kk : ∀ (H1 : Heap) (locs1 : List Loc), u_W Z G σ' s H1 locs1 → W p l e (u_rm hg) s m args below meth c H1 locs1 0 0 Q (F0 m (pc + 3) ls rest)) : W p l e (u_rm hg) s m args below meth c H locs 0 0 Q (F0 m pc ls (.int n :: .int dp :: .ref (G.2.2 a1) :: .int sp :: .ref (G.2.2 a0) :: rest)) := by
  obtain ⟨n0, n1, e0, e1, h1, h2, h5, h6, h7, h8, h9, rfl⟩ := u_cpy_some hv
  obtain ⟨hx, hb, hml, hown, hts, hr, hlk, hK⟩ := cx
  have hfr : 1 ≤ (u_rm hg).frames := hh
  have e9 : nativeFrameWords "java/lang/System" "arraycopy" 5 = 7 := by decide +kernel
  have hlo : (rest.map fun v => v.category).sum + (nativeFrameWords "java/lang/System" "arraycopy" 5 + 11) ≤ (u_rm hg).locals := by
    rw [e9]; show _ ≤ 40 * hg; omega
  refine va_copyi hx hb (hml.trans hls.symm) hown (hts _ (List.mem_cons_of_mem _ hL.1)) (hts _ (List.mem_cons_of_mem _ hL.2.1)) (hts _ (List.mem_cons_of_mem _ hL.2.2.1)) (hts _ (List.mem_cons_of_mem _ hL.2.2.2)) hK.1 hw.1 hw.2.1 hw.2.2 a0 a1 0 0 (f := σ.1 a0) (g := σ.1 a1) (ty := .int) (by rw [u_w_get h1, u_E_ro e0]; rfl) (by rw [u_w_get h2, u_E_ro e1]; rfl) rfl rfl rfl h5 h6 h7 h8 h9 (fun _ _ => rfl) hfr hlo hdg (fun H1 locs1 q1 q2 q3 => ?_)
  have e : (.inl (va_cpy (σ.1 a0) (σ.1 a1) sp.toNatClampNeg dp.toNatClampNeg n.toNatClampNeg) : (Nat → Int32) ⊕ (Nat → Int64) ⊕ (Nat → UInt32) ⊕ (Nat → UInt64) ⊕ (Nat → Option Nat)) = u_row G (u_sI σ a1 (va_cpy (σ.1 a0) (σ.1 a1) sp.toNatClampNeg dp.toNatClampNeg n.toNatClampNeg)) 0 a1 := by simp [u_row, u_sI]
  rw [e, u_w_row (G := G) (σ := σ) (σ' := u_sI σ a1 (va_cpy (σ.1 a0) (σ.1 a1) sp.toNatClampNeg dp.toNatClampNeg n.toNatClampNeg)) h2 e1 u_sI_o] at q1 q2
  exact kk H1 locs1 ⟨q1, q2, q3⟩
theorem u_ldcw (cx : u_C p s m args meth c own y cc mL rt G) {idx : Nat} {v : Int32} (hq : Cond.constant own idx v ∈ u_big) (hdg : decode cc pc = .ok (.ldc_w idx, 3))
    (kk : W p l e R s m args below meth c H locs cells slots Q (F0 m (pc + 3) ls (.int v :: rest))) : W p l e R s m args below meth c H locs cells slots Q (F0 m pc ls rest) :=
  lv_ldcw cx.1 cx.2.1 cx.2.2.2.1 (cx.2.2.2.2.1 _ (List.mem_cons_of_mem _ hq)) hdg kk
theorem u_ldc (cx : u_C p s m args meth c own y cc mL rt G) {idx : Nat} {v : Int32} (hq : Cond.constant own idx v ∈ u_big) (hdg : decode cc pc = .ok (.ldc idx, 2))
    (kk : W p l e R s m args below meth c H locs cells slots Q (F0 m (pc + 2) ls (.int v :: rest))) : W p l e R s m args below meth c H locs cells slots Q (F0 m pc ls rest) :=
  lv_ldc cx.1 cx.2.1 cx.2.2.2.1 (cx.2.2.2.2.1 _ (List.mem_cons_of_mem _ hq)) hdg kk
theorem u_ldc2 (cx : u_C p s m args meth c own y cc mL rt G) {idx : Nat} {v : Int64} (hq : Cond.constantLong own idx v ∈ u_big) (hdg : decode cc pc = .ok (.ldc2_w idx, 3))
    (kk : W p l e R s m args below meth c H locs cells slots Q (F0 m (pc + 3) ls (.long v :: rest))) : W p l e R s m args below meth c H locs cells slots Q (F0 m pc ls rest) :=
  lv_ldc2 cx.1 cx.2.1 cx.2.2.2.1 (cx.2.2.2.2.1 _ (List.mem_cons_of_mem _ hq)) hdg kk
end UR2
theorem LM_X11_196 : u_Lm RX11 196 Lib.Math.min.name Lib.Math.min.code := ⟨q_536, q_485, q_14, q_486⟩
theorem LM_X11_201 : u_Lm RX11 201 Lib.Math.max.name Lib.Math.max.code := ⟨q_537, q_425, q_14, q_426⟩
theorem LM_X6_87 : u_Lm RX6 87 Lib.Math.max.name Lib.Math.max.code := ⟨q_424, q_425, q_14, q_426⟩
theorem LC_X7_31 : u_Lc RX7 31 := ⟨q_550, q_552, q_551, q_20⟩
theorem LM_X7_60 : u_Lm RX7 60 Lib.Math.min.name Lib.Math.min.code := ⟨q_484, q_485, q_14, q_486⟩
theorem LM_X7_66 : u_Lm RX7 66 Lib.Math.max.name Lib.Math.max.code := ⟨q_487, q_425, q_14, q_426⟩
theorem LM_X12_218 : u_Lm RX12 218 Lib.Math.min.name Lib.Math.min.code := ⟨q_1356, q_485, q_14, q_486⟩
theorem LM_X12_224 : u_Lm RX12 224 Lib.Math.max.name Lib.Math.max.code := ⟨q_1357, q_425, q_14, q_426⟩
