/-! ROWS over our world -/
theorem u_good : ∀ w ∈ u_big, (w.onTables && w.keeps) = true ∨ ∃ ty, w = .arrayClass ty := fun w hw => good_of_word (List.mem_filter.mp hw).2
theorem u_goodIn {me y : MethodName} {c1 c2 : ByteArray} {m1 m2 : Nat} {r1 r2 : Option FieldType} (h : Cond.code y c2 m2 r2 ∈ u_big) : GoodIn (u_ws0 me c1 m1 r1) (u_ws0 y c2 m2 r2) := by
  intro w hw
  have hm : w ∈ u_big := (List.mem_cons.mp hw).elim (fun e => by rw [e]; exact h) id
  exact ⟨List.mem_cons_of_mem _ hm, u_good w hm⟩
/-- a field: class, number of its class, place, and a link to it -/
def u_F (own : String) (idx : Nat) (C : String) (T : u_T) (N ci j : Nat) : Prop := (∀ w ∈ u_ws C T N, w ∈ u_big) ∧ vwCl[ci]? = some (C, T, N) ∧ j < N ∧ (Cond.fieldLink own idx (T j).1 (T j).2.1 (T j).2.2.1 ∈ u_big ∨ ∃ host, (own, idx, (T j).1, (T j).2.1, (T j).2.2.1, host) ∈ u_nestF)
/-- a field that may be written -/
def u_Fp (own : String) (idx : Nat) (C : String) (T : u_T) (N ci j : Nat) (ty : FieldType) : Prop := u_F own idx C T N ci j ∧ (∃ ty0 : Nat → FieldType, ∀ k, k < N → parseFieldDescriptor (T k).2.2.1 = some (ty0 k)) ∧ (∀ a, a < N → ∀ b, b < N → a ≠ b → (T a).2.1 ≠ (T b).2.1) ∧ (T j).2.2.2 = false ∧ parseFieldDescriptor (T j).2.2.1 = some ty
/-- an object of a class, with the kinds of its fields -/
def u_o (Z : uZ) (i ci N : Nat) (kf : Nat → Option (Option Nat)) : Prop := i < Z.1 ∧ Z.2.1 i = .inr (ci, N) ∧ Z.2.2 i = kf
/-- a method that is called -/
def u_L (own : String) (idx : Nat) (y : MethodName) (bytes : ByteArray) (mL : Nat) (ret : Option FieldType) (n : Nat) : Prop :=
  Cond.methodLink own idx y ∈ u_big ∧ Cond.initialized y.cls ∈ u_big ∧ Cond.code y bytes mL ret ∈ u_big ∧ (y.cls ≠ "java/lang/invoke/MethodHandle" ∧ y.cls ≠ "java/lang/invoke/VarHandle" ∧ (parseMethodDescriptor y.desc).map (fun d => d.parameters.length) = some n) ∧ mL ≤ 21
def u_LV (own : String) (idx : Nat) (C : String) (y : MethodName) (bytes : ByteArray) (mL : Nat) (ret : Option FieldType) (n : Nat) : Prop := u_L own idx y bytes mL ret n ∧ Cond.instanceMethod y ∈ u_big ∧ Cond.selects C y y ∈ u_big
def u_LS (own : String) (idx : Nat) (y : MethodName) (bytes : ByteArray) (mL : Nat) (ret : Option FieldType) (n : Nat) : Prop := u_L own idx y bytes mL ret n ∧ Cond.static y ∈ u_big
/-! pure reads and writes of rows -/
def u_rI (Z : uZ) (σ : uS) (t a : Nat) (x : Int32) : Option Int32 := match Z.2.1 a with
  | .inl q => if a < Z.1 ∧ q.1 = t ∧ ¬ (x < 0 ∨ q.2 ≤ x.toNatClampNeg) then some (σ.1 a x.toNatClampNeg) else none
  | .inr _ => none
def u_rL (Z : uZ) (σ : uS) (a : Nat) (x : Int32) : Option Int64 := match Z.2.1 a with
  | .inl q => if a < Z.1 ∧ q.1 = 1 ∧ ¬ (x < 0 ∨ q.2 ≤ x.toNatClampNeg) then some (σ.2.1 a x.toNatClampNeg) else none
  | .inr _ => none
def u_nar (t : Nat) (v : Int32) : Int32 := if t = 2 then vp_nar .byte v else if t = 3 then vp_nar .boolean v else v
def u_wI (Z : uZ) (σ : uS) (t a : Nat) (x v : Int32) : Option uS := match Z.2.1 a with
  | .inl q => if a < Z.1 ∧ q.1 = t ∧ ¬ (x < 0 ∨ q.2 ≤ x.toNatClampNeg) then some (u_pI σ a x.toNatClampNeg (u_nar t v)) else none
  | .inr _ => none
def u_wL (Z : uZ) (σ : uS) (a : Nat) (x : Int32) (v : Int64) : Option uS := match Z.2.1 a with
  | .inl q => if a < Z.1 ∧ q.1 = 1 ∧ ¬ (x < 0 ∨ q.2 ≤ x.toNatClampNeg) then some (u_pL σ a x.toNatClampNeg v) else none
  | .inr _ => none
def u_len (Z : uZ) (a : Nat) : Option Int32 := match Z.2.1 a with
  | .inl q => if a < Z.1 ∧ q.1 < 5 then some (Int32.ofNat q.2) else none
  | .inr _ => none
theorem u_rI_some {Z : uZ} {σ : uS} {t a : Nat} {x v : Int32} (h : u_rI Z σ t a x = some v) : ∃ n, a < Z.1 ∧ Z.2.1 a = .inl (t, n) ∧ vp_in x n ∧ v = σ.1 a x.toNatClampNeg := by
  unfold u_rI at h
  split at h
  · next q hq =>
    split at h
    · next hc =>
      obtain ⟨h1, h2, h3⟩ := hc
      obtain ⟨q1, q2⟩ := q
      subst h2
      exact ⟨q2, h1, hq, h3, (Option.some.inj h).symm⟩
    · cases h
  · cases h
theorem u_rL_some {Z : uZ} {σ : uS} {a : Nat} {x : Int32} {v : Int64} (h : u_rL Z σ a x = some v) : ∃ n, a < Z.1 ∧ Z.2.1 a = .inl (1, n) ∧ vp_in x n ∧ v = σ.2.1 a x.toNatClampNeg := by
  unfold u_rL at h
  split at h
  · next q hq =>
    split at h
    · next hc =>
      obtain ⟨h1, h2, h3⟩ := hc
      obtain ⟨q1, q2⟩ := q
      subst h2
      exact ⟨q2, h1, hq, h3, (Option.some.inj h).symm⟩
    · cases h
  · cases h
theorem u_wI_some {Z : uZ} {σ σ' : uS} {t a : Nat} {x v : Int32} (h : u_wI Z σ t a x v = some σ') : ∃ n, a < Z.1 ∧ Z.2.1 a = .inl (t, n) ∧ vp_in x n ∧ σ' = u_pI σ a x.toNatClampNeg (u_nar t v) := by
  unfold u_wI at h
  split at h
  · next q hq =>
    split at h
    · next hc =>
      obtain ⟨h1, h2, h3⟩ := hc
      obtain ⟨q1, q2⟩ := q
      subst h2
      exact ⟨q2, h1, hq, h3, (Option.some.inj h).symm⟩
    · cases h
  · cases h
theorem u_wL_some {Z : uZ} {σ σ' : uS} {a : Nat} {x : Int32} {v : Int64} (h : u_wL Z σ a x v = some σ') : ∃ n, a < Z.1 ∧ Z.2.1 a = .inl (1, n) ∧ vp_in x n ∧ σ' = u_pL σ a x.toNatClampNeg v := by
  unfold u_wL at h
  split at h
  · next q hq =>
    split at h
    · next hc =>
      obtain ⟨h1, h2, h3⟩ := hc
      obtain ⟨q1, q2⟩ := q
      subst h2
      exact ⟨q2, h1, hq, h3, (Option.some.inj h).symm⟩
    · cases h
  · cases h
theorem u_len_some {Z : uZ} {a : Nat} {v : Int32} (h : u_len Z a = some v) : ∃ t n, a < Z.1 ∧ Z.2.1 a = .inl (t, n) ∧ t < 5 ∧ Int32.ofNat n = v := by
  unfold u_len at h
  split at h
  · next q hq =>
    split at h
    · next hc => exact ⟨q.1, q.2, hc.1, hq, hc.2, Option.some.inj h⟩
    · cases h
  · cases h
theorem u_bind {α β : Type} {x : Option α} {k : α → Option β} {z : β} (h : x.bind k = some z) : ∃ v, x = some v ∧ k v = some z := by
  cases x with
  | none => cases h
  | some v => exact ⟨v, rfl, h⟩
theorem u_ift {α : Type} {c : Prop} [Decidable c] {a b : Option α} {z : α} (h : (if c then a else b) = some z) (hc : c) : a = some z := by rwa [if_pos hc] at h
theorem u_iff {α : Type} {c : Prop} [Decidable c] {a b : Option α} {z : α} (h : (if c then a else b) = some z) (hc : ¬ c) : b = some z := by rwa [if_neg hc] at h
/-- a place where ways meet -/
def u_jn {α β : Type} (a : α) (f : α → β) : β := f a
/-- only if something holds -/
def u_ck {α : Type} (c : Prop) [Decidable c] (x : Option α) : Option α := if c then x else none
theorem u_ck_some {α : Type} {c : Prop} [Decidable c] {x : Option α} {z : α} (h : u_ck c x = some z) : c ∧ x = some z := by
  unfold u_ck at h
  split at h
  · next hc => exact ⟨hc, h⟩
  · cases h
section UR
variable {p : Program} {l : Launch} {e : Env} {R : Room} {s : State} {m : MethodId} {args : Array Value} {below : List Frame} {meth : Method} {c : Code} {H : Heap} {locs : List Loc} {cells slots : Nat} {Q : State → Prop}
variable {own : String} {y : MethodName} {cc : ByteArray} {mL : Nat} {rt : Option FieldType} {G : uG} {Z : uZ} {σ : uS} {pc : Nat} {ls : Array Slot} {rest : List Value}
theorem u_getv (cx : u_C p s m args meth c own y cc mL rt G) (hw : u_W Z G σ s H locs) {i j N ci idx : Nat} {C : String} {T : u_T} (hF : u_F own idx C T N ci j) (hi : i < Z.1) (hs : Z.2.1 i = .inr (ci, N)) {v : Value} (hv : u_fv G σ (Z.2.2 i j) i j = v) (hdg : decode cc pc = .ok (.getfield idx, 3))
    (kk : W p l e R s m args below meth c H locs cells slots Q (F0 m (pc + 3) ls (v :: rest))) : W p l e R s m args below meth c H locs cells slots Q (F0 m pc ls (.ref (G.2.2 i) :: rest)) := by
  obtain ⟨hx, hb, hml, hown, hts, hr, hlk, hK⟩ := cx
  obtain ⟨hin, hc, hj, hl⟩ := hF
  have he : (u_w Z G σ)[i]? = some (G.2.2 i, .inr (ci, u_fs Z G σ i N)) := by rw [u_w_get hi, u_E_ob hs]
  rcases hl with hl | ⟨host, hl⟩
  · exact va_get hx hb hts (fun w h => List.mem_cons_of_mem _ (hin w h)) hown hK.1 hw.1 i he hc j hj (hts _ (List.mem_cons_of_mem _ hl)) (fun _ h => h) (by rw [u_fs_get hj, hv]) hdg kk
  · exact va_getN hx hb hts (fun w h => List.mem_cons_of_mem _ (hin w h)) hown hK.1 hw.1 i he hc j hj (va_Nw.use rfl (hK.2.1 _ hl)) (fun _ h => h) (by rw [u_fs_get hj, hv]) hdg kk
/-- an int field -/
theorem u_geti (cx : u_C p s m args meth c own y cc mL rt G) (hw : u_W Z G σ s H locs) {i j N ci idx : Nat} {C : String} {T : u_T} {kf : Nat → Option (Option Nat)} (hF : u_F own idx C T N ci j) (ho : u_o Z i ci N kf) (hk : kf j = none) (hdg : decode cc pc = .ok (.getfield idx, 3))
    (kk : W p l e R s m args below meth c H locs cells slots Q (F0 m (pc + 3) ls (.int (σ.1 i j) :: rest))) : W p l e R s m args below meth c H locs cells slots Q (F0 m pc ls (.ref (G.2.2 i) :: rest)) :=
  u_getv cx hw hF ho.1 ho.2.1 (by rw [ho.2.2, hk]; rfl) hdg kk
/-- a reference that never moves -/
theorem u_getp (cx : u_C p s m args meth c own y cc mL rt G) (hw : u_W Z G σ s H locs) {i j N ci idx k : Nat} {C : String} {T : u_T} {kf : Nat → Option (Option Nat)} (hF : u_F own idx C T N ci j) (ho : u_o Z i ci N kf) (hk : kf j = some (some k)) (hdg : decode cc pc = .ok (.getfield idx, 3))
    (kk : W p l e R s m args below meth c H locs cells slots Q (F0 m (pc + 3) ls (.ref (G.2.2 k) :: rest))) : W p l e R s m args below meth c H locs cells slots Q (F0 m pc ls (.ref (G.2.2 i) :: rest)) :=
  u_getv cx hw hF ho.1 ho.2.1 (by rw [ho.2.2, hk]; rfl) hdg kk
/-- a reference that moves, not null here -/
theorem u_getr (cx : u_C p s m args meth c own y cc mL rt G) (hw : u_W Z G σ s H locs) {i j N ci idx k : Nat} {C : String} {T : u_T} {kf : Nat → Option (Option Nat)} (hF : u_F own idx C T N ci j) (ho : u_o Z i ci N kf) (hk : kf j = some none) (hv : σ.2.2 i j = some k) (hdg : decode cc pc = .ok (.getfield idx, 3))
    (kk : W p l e R s m args below meth c H locs cells slots Q (F0 m (pc + 3) ls (.ref (G.2.2 k) :: rest))) : W p l e R s m args below meth c H locs cells slots Q (F0 m pc ls (.ref (G.2.2 i) :: rest)) :=
  u_getv cx hw hF ho.1 ho.2.1 (by rw [ho.2.2, hk]; show va_rf ((σ.2.2 i j).map G.2.2) = _; rw [hv]; rfl) hdg kk
theorem u_putv (cx : u_C p s m args meth c own y cc mL rt G) (hw : u_W Z G σ s H locs) {i j N ci idx : Nat} {C : String} {T : u_T} {ty : FieldType} (hF : u_Fp own idx C T N ci j ty) (hi : i < Z.1) (hs : Z.2.1 i = .inr (ci, N)) {v : Value} {σ' : uS} (hv : u_fv G σ' (Z.2.2 i j) i j = v) (ho : ∀ k, k ≠ j → u_fv G σ' (Z.2.2 i k) i k = u_fv G σ (Z.2.2 i k) i k) (hq : ∀ a, a ≠ i → u_E Z G σ' a = u_E Z G σ a) (hn : narrow ty v = v) (hfit : fits ty v = true) (hdg : decode cc pc = .ok (.putfield idx, 3))
    (kk : ∀ (H1 : Heap) (locs1 : List Loc), u_W Z G σ' s H1 locs1 → W p l e R s m args below meth c H1 locs1 cells slots Q (F0 m (pc + 3) ls rest)) : W p l e R s m args below meth c H locs cells slots Q (F0 m pc ls (v :: .ref (G.2.2 i) :: rest)) := by
  obtain ⟨hx, hb, hml, hown, hts, hr, hlk, hK⟩ := cx
  obtain ⟨⟨hin, hc, hj, hl⟩, ⟨ty0, hty⟩, hnm, hfin, hd⟩ := hF
  have he : (u_w Z G σ)[i]? = some (G.2.2 i, .inr (ci, u_fs Z G σ i N)) := by rw [u_w_get hi, u_E_ob hs]
  have hset : (u_w Z G σ).set i (G.2.2 i, .inr (ci, (u_fs Z G σ i N).set j v)) = u_w Z G σ' := by
    rw [u_fs_set hj hv ho, ← u_E_ob (G := G) (σ := σ') hs]
    exact u_w_set hi hq
  have kk2 : ∀ (H1 : Heap) (locs1 : List Loc), va_P G.1 vwCl ((u_w Z G σ).set i (G.2.2 i, .inr (ci, (u_fs Z G σ i N).set j v))) H1 → va_D (u_A Z G s.heap.size) ((u_w Z G σ).set i (G.2.2 i, .inr (ci, (u_fs Z G σ i N).set j v))) → va_S (u_A Z G s.heap.size) s.heap H1 locs1 → W p l e R s m args below meth c H1 locs1 cells slots Q (F0 m (pc + 3) ls rest) := by
    intro H1 locs1 h1 h2 h3
    rw [hset] at h1 h2
    exact kk H1 locs1 ⟨h1, h2, h3⟩
  rcases hl with hl | ⟨host, hl⟩
  · exact va_put hx hb hts (fun w h => List.mem_cons_of_mem _ (hin w h)) ty0 hty hnm hown hK.1 hw.1 hw.2.1 hw.2.2 i he hc j hj (hts _ (List.mem_cons_of_mem _ hl)) (fun _ h => h) hfin hd hn hfit (by rw [u_fs_len]; exact hj) hdg kk2
  · exact va_putN hx hb hts (fun w h => List.mem_cons_of_mem _ (hin w h)) ty0 hty hnm hown hK.1 hw.1 hw.2.1 hw.2.2 i he hc j hj (va_Nw.use rfl (hK.2.1 _ hl)) (fun _ h => h) hfin hd hn hfit (by rw [u_fs_len]; exact hj) hdg kk2
theorem u_puti (cx : u_C p s m args meth c own y cc mL rt G) (hw : u_W Z G σ s H locs) {i j N ci idx : Nat} {C : String} {T : u_T} {kf : Nat → Option (Option Nat)} (hF : u_Fp own idx C T N ci j .int) (ho : u_o Z i ci N kf) (hk : kf j = none) {v : Int32} (hdg : decode cc pc = .ok (.putfield idx, 3))
    (kk : ∀ (H1 : Heap) (locs1 : List Loc), u_W Z G (u_pI σ i j v) s H1 locs1 → W p l e R s m args below meth c H1 locs1 cells slots Q (F0 m (pc + 3) ls rest)) : W p l e R s m args below meth c H locs cells slots Q (F0 m pc ls (.int v :: .ref (G.2.2 i) :: rest)) :=
  u_putv cx hw hF ho.1 ho.2.1 (σ' := u_pI σ i j v) (by rw [ho.2.2, hk]; simp [u_fv, u_pI, u_sI, upd]) (fun k hk => u_fv_pI hk _) u_sI_o rfl rfl hdg kk
theorem u_putz (cx : u_C p s m args meth c own y cc mL rt G) (hw : u_W Z G σ s H locs) {i j N ci idx : Nat} {C : String} {T : u_T} {kf : Nat → Option (Option Nat)} (hF : u_Fp own idx C T N ci j .boolean) (ho : u_o Z i ci N kf) (hk : kf j = none) {v : Int32} (hb01 : v = 0 ∨ v = 1) (hdg : decode cc pc = .ok (.putfield idx, 3))
    (kk : ∀ (H1 : Heap) (locs1 : List Loc), u_W Z G (u_pI σ i j v) s H1 locs1 → W p l e R s m args below meth c H1 locs1 cells slots Q (F0 m (pc + 3) ls rest)) : W p l e R s m args below meth c H locs cells slots Q (F0 m pc ls (.int v :: .ref (G.2.2 i) :: rest)) :=
  u_putv cx hw hF ho.1 ho.2.1 (σ' := u_pI σ i j v) (by rw [ho.2.2, hk]; simp [u_fv, u_pI, u_sI, upd]) (fun k hk => u_fv_pI hk _) u_sI_o (by rcases hb01 with rfl | rfl <;> rfl) (by rcases hb01 with rfl | rfl <;> rfl) hdg kk
theorem u_putr (cx : u_C p s m args meth c own y cc mL rt G) (hw : u_W Z G σ s H locs) {i j N ci idx k : Nat} {C : String} {T : u_T} {kf : Nat → Option (Option Nat)} {ty : FieldType} (hF : u_Fp own idx C T N ci j ty) (ho : u_o Z i ci N kf) (hk : kf j = some none) (hn : narrow ty (.ref (G.2.2 k)) = .ref (G.2.2 k)) (hfit : fits ty (.ref (G.2.2 k)) = true) (hdg : decode cc pc = .ok (.putfield idx, 3))
    (kk : ∀ (H1 : Heap) (locs1 : List Loc), u_W Z G (u_pR σ i j (some k)) s H1 locs1 → W p l e R s m args below meth c H1 locs1 cells slots Q (F0 m (pc + 3) ls rest)) : W p l e R s m args below meth c H locs cells slots Q (F0 m pc ls (.ref (G.2.2 k) :: .ref (G.2.2 i) :: rest)) :=
  u_putv cx hw hF ho.1 ho.2.1 (σ' := u_pR σ i j (some k)) (by rw [ho.2.2, hk]; simp [u_fv, u_pR, u_sR, va_up, va_rf]) (fun k hk => u_fv_pR hk _) u_sR_o hn hfit hdg kk
/-! rows -/
theorem u_tysI : ∀ G : uG, (u_tys G)[0]? = some (G.2.1 0, .int) := fun _ => rfl
theorem u_iald (cx : u_C p s m args meth c own y cc mL rt G) (hw : u_W Z G σ s H locs) {a : Nat} {x v : Int32} (hv : u_rI Z σ 0 a x = some v) (hdg : decode cc pc = .ok (.iaload, 1))
    (kk : W p l e R s m args below meth c H locs cells slots Q (F0 m (pc + 1) ls (.int v :: rest))) : W p l e R s m args below meth c H locs cells slots Q (F0 m pc ls (.int x :: .ref (G.2.2 a) :: rest)) := by
  obtain ⟨n, h1, h2, h3, rfl⟩ := u_rI_some hv
  exact va_iald cx.1 cx.2.1 cx.2.2.2.2.2.2.2.1 hw.1 a 0 (f := σ.1 a) (by rw [u_w_get h1, u_E_ro h2]; rfl) rfl h3 hdg kk
theorem u_bald (cx : u_C p s m args meth c own y cc mL rt G) (hw : u_W Z G σ s H locs) {a : Nat} {x v : Int32} (hv : u_rI Z σ 2 a x = some v) (hdg : decode cc pc = .ok (.baload, 1))
    (kk : W p l e R s m args below meth c H locs cells slots Q (F0 m (pc + 1) ls (.int v :: rest))) : W p l e R s m args below meth c H locs cells slots Q (F0 m pc ls (.int x :: .ref (G.2.2 a) :: rest)) := by
  obtain ⟨n, h1, h2, h3, rfl⟩ := u_rI_some hv
  exact va_bald cx.1 cx.2.1 cx.2.2.2.2.2.2.2.1 hw.1 a 2 (f := σ.1 a) (by rw [u_w_get h1, u_E_ro h2]; rfl) rfl h3 hdg kk
theorem u_zald (cx : u_C p s m args meth c own y cc mL rt G) (hw : u_W Z G σ s H locs) {a : Nat} {x v : Int32} (hv : u_rI Z σ 3 a x = some v) (hdg : decode cc pc = .ok (.baload, 1))
    (kk : W p l e R s m args below meth c H locs cells slots Q (F0 m (pc + 1) ls (.int v :: rest))) : W p l e R s m args below meth c H locs cells slots Q (F0 m pc ls (.int x :: .ref (G.2.2 a) :: rest)) := by
  obtain ⟨n, h1, h2, h3, rfl⟩ := u_rI_some hv
  exact va_zald cx.1 cx.2.1 cx.2.2.2.2.2.2.2.1 hw.1 a 3 (f := σ.1 a) (by rw [u_w_get h1, u_E_ro h2]; rfl) rfl h3 hdg kk
theorem u_lald (cx : u_C p s m args meth c own y cc mL rt G) (hw : u_W Z G σ s H locs) {a : Nat} {x : Int32} {v : Int64} (hv : u_rL Z σ a x = some v) (hdg : decode cc pc = .ok (.laload, 1))
    (kk : W p l e R s m args below meth c H locs cells slots Q (F0 m (pc + 1) ls (.long v :: rest))) : W p l e R s m args below meth c H locs cells slots Q (F0 m pc ls (.int x :: .ref (G.2.2 a) :: rest)) := by
  obtain ⟨n, h1, h2, h3, rfl⟩ := u_rL_some hv
  exact va_lald cx.1 cx.2.1 cx.2.2.2.2.2.2.2.1 hw.1 a 1 (f := σ.2.1 a) (by rw [u_w_get h1, u_E_ro h2]; rfl) rfl h3 hdg kk
theorem u_alen (cx : u_C p s m args meth c own y cc mL rt G) (hw : u_W Z G σ s H locs) {a : Nat} {v : Int32} (hv : u_len Z a = some v) (hdg : decode cc pc = .ok (.arraylength, 1))
    (kk : W p l e R s m args below meth c H locs cells slots Q (F0 m (pc + 1) ls (.int v :: rest))) : W p l e R s m args below meth c H locs cells slots Q (F0 m pc ls (.ref (G.2.2 a) :: rest)) := by
  obtain ⟨t, n, h1, h2, h3, h4⟩ := u_len_some hv
  have ht : ∃ ty, (u_tys G)[t]? = some (G.2.1 t, ty) := by
    match t, h3 with
    | 0, _ => exact ⟨_, rfl⟩
    | 1, _ => exact ⟨_, rfl⟩
    | 2, _ => exact ⟨_, rfl⟩
    | 3, _ => exact ⟨_, rfl⟩
    | 4, _ => exact ⟨_, rfl⟩
  obtain ⟨ty, ht⟩ := ht
  exact va_alen cx.1 cx.2.1 cx.2.2.2.2.2.2.2.1 hw.1 a t (by rw [u_w_get h1, u_E_ro h2]) ht h4 hdg kk
theorem u_w_row {i t n : Nat} {σ' : uS} (hi : i < Z.1) (hs : Z.2.1 i = .inl (t, n)) (ho : ∀ a, a ≠ i → u_E Z G σ' a = u_E Z G σ a) : (u_w Z G σ).set i (G.2.2 i, .inl (G.2.1 t, n, u_row G σ' t i)) = u_w Z G σ' := by
  rw [← u_E_ro (G := G) (σ := σ') hs]
  exact u_w_set hi ho
theorem u_pI_row {i j t : Nat} {v : Int32} (h : t = 0 ∨ t = 2 ∨ t = 3) : (.inl (upd (σ.1 i) j v) : (Nat → Int32) ⊕ (Nat → Int64) ⊕ (Nat → UInt32) ⊕ (Nat → UInt64) ⊕ (Nat → Option Nat)) = u_row G (u_pI σ i j v) t i := by
  rcases h with rfl | rfl | rfl <;> simp [u_row, u_pI, u_sI]
theorem u_iast (cx : u_C p s m args meth c own y cc mL rt G) (hw : u_W Z G σ s H locs) {a : Nat} {x v : Int32} {σ' : uS} (hv : u_wI Z σ 0 a x v = some σ') (hdg : decode cc pc = .ok (.iastore, 1))
    (kk : ∀ (H1 : Heap) (locs1 : List Loc), u_W Z G σ' s H1 locs1 → W p l e R s m args below meth c H1 locs1 cells slots Q (F0 m (pc + 1) ls rest)) : W p l e R s m args below meth c H locs cells slots Q (F0 m pc ls (.int v :: .int x :: .ref (G.2.2 a) :: rest)) := by
  obtain ⟨n, h1, h2, h3, rfl⟩ := u_wI_some hv
  refine va_iast cx.1 cx.2.1 cx.2.2.2.2.2.2.2.1 hw.1 hw.2.1 hw.2.2 a 0 (f := σ.1 a) (by rw [u_w_get h1, u_E_ro h2]; rfl) rfl h3 hdg (fun H1 locs1 q1 q2 q3 => ?_)
  rw [u_pI_row (G := G) (Or.inl rfl), u_w_row (G := G) (σ := σ) (σ' := u_pI σ a x.toNatClampNeg v) h1 h2 u_sI_o] at q1 q2
  exact kk H1 locs1 ⟨q1, q2, q3⟩
theorem u_bast (cx : u_C p s m args meth c own y cc mL rt G) (hw : u_W Z G σ s H locs) {a : Nat} {x v : Int32} {σ' : uS} (hv : u_wI Z σ 2 a x v = some σ') (hdg : decode cc pc = .ok (.bastore, 1))
    (kk : ∀ (H1 : Heap) (locs1 : List Loc), u_W Z G σ' s H1 locs1 → W p l e R s m args below meth c H1 locs1 cells slots Q (F0 m (pc + 1) ls rest)) : W p l e R s m args below meth c H locs cells slots Q (F0 m pc ls (.int v :: .int x :: .ref (G.2.2 a) :: rest)) := by
  obtain ⟨n, h1, h2, h3, rfl⟩ := u_wI_some hv
  refine va_bast cx.1 cx.2.1 cx.2.2.2.2.2.2.2.1 hw.1 hw.2.1 hw.2.2 a 2 (f := σ.1 a) (by rw [u_w_get h1, u_E_ro h2]; rfl) rfl h3 hdg (fun H1 locs1 q1 q2 q3 => ?_)
  rw [u_pI_row (G := G) (Or.inr (Or.inl rfl)), u_w_row (G := G) (σ := σ) (σ' := u_pI σ a x.toNatClampNeg (vp_nar .byte v)) h1 h2 u_sI_o] at q1 q2
  exact kk H1 locs1 ⟨q1, q2, q3⟩
theorem u_zast (cx : u_C p s m args meth c own y cc mL rt G) (hw : u_W Z G σ s H locs) {a : Nat} {x v : Int32} {σ' : uS} (hv : u_wI Z σ 3 a x v = some σ') (hdg : decode cc pc = .ok (.bastore, 1))
    (kk : ∀ (H1 : Heap) (locs1 : List Loc), u_W Z G σ' s H1 locs1 → W p l e R s m args below meth c H1 locs1 cells slots Q (F0 m (pc + 1) ls rest)) : W p l e R s m args below meth c H locs cells slots Q (F0 m pc ls (.int v :: .int x :: .ref (G.2.2 a) :: rest)) := by
  obtain ⟨n, h1, h2, h3, rfl⟩ := u_wI_some hv
  refine va_zast cx.1 cx.2.1 cx.2.2.2.2.2.2.2.1 hw.1 hw.2.1 hw.2.2 a 3 (f := σ.1 a) (by rw [u_w_get h1, u_E_ro h2]; rfl) rfl h3 hdg (fun H1 locs1 q1 q2 q3 => ?_)
  rw [u_pI_row (G := G) (Or.inr (Or.inr rfl)), u_w_row (G := G) (σ := σ) (σ' := u_pI σ a x.toNatClampNeg (vp_nar .boolean v)) h1 h2 u_sI_o] at q1 q2
  exact kk H1 locs1 ⟨q1, q2, q3⟩
theorem u_last (cx : u_C p s m args meth c own y cc mL rt G) (hw : u_W Z G σ s H locs) {a : Nat} {x : Int32} {v : Int64} {σ' : uS} (hv : u_wL Z σ a x v = some σ') (hdg : decode cc pc = .ok (.lastore, 1))
    (kk : ∀ (H1 : Heap) (locs1 : List Loc), u_W Z G σ' s H1 locs1 → W p l e R s m args below meth c H1 locs1 cells slots Q (F0 m (pc + 1) ls rest)) : W p l e R s m args below meth c H locs cells slots Q (F0 m pc ls (.long v :: .int x :: .ref (G.2.2 a) :: rest)) := by
  obtain ⟨n, h1, h2, h3, rfl⟩ := u_wL_some hv
  refine va_last cx.1 cx.2.1 cx.2.2.2.2.2.2.2.1 hw.1 hw.2.1 hw.2.2 a 1 (f := σ.2.1 a) (by rw [u_w_get h1, u_E_ro h2]; rfl) rfl h3 hdg (fun H1 locs1 q1 q2 q3 => ?_)
  have e : (.inr (.inl (vp_updL (σ.2.1 a) x.toNatClampNeg v)) : (Nat → Int32) ⊕ (Nat → Int64) ⊕ (Nat → UInt32) ⊕ (Nat → UInt64) ⊕ (Nat → Option Nat)) = u_row G (u_pL σ a x.toNatClampNeg v) 1 a := by simp [u_row, u_pL, u_sL]
  rw [e, u_w_row (G := G) (σ := σ) (σ' := u_pL σ a x.toNatClampNeg v) h1 h2 u_sL_o] at q1 q2
  exact kk H1 locs1 ⟨q1, q2, q3⟩
/-! ends -/
theorem u_iret {r v : Int32} {σ' : uS} (cx : u_C p s m args meth c own y cc mL (some .int) G) (hw : u_W Z G σ s H locs) (hq : v = r ∧ σ = σ') (hdg : decode cc pc = .ok (.ireturn, 1)) : W p l e R s m args below meth c H locs 0 0 (u_Qi below Z G s args r σ') (F0 m pc ls [.int v]) := by
  obtain ⟨hx, hb, hml, hown, hts, hr, hlocks, hK⟩ := cx
  exact W.iret hx hb hr (fun t ht hW => ⟨⟨v, σ, rfl, hq, by rw [ht]; exact hw.1, hw.2.1⟩, hw.2.2.F ht⟩) hw.2.2.2.2 hdg hlocks
theorem u_zret {r v : Int32} {σ' : uS} (cx : u_C p s m args meth c own y cc mL (some .boolean) G) (hw : u_W Z G σ s H locs) (h01 : v = 0 ∨ v = 1) (hq : v = r ∧ σ = σ') (hdg : decode cc pc = .ok (.ireturn, 1)) : W p l e R s m args below meth c H locs 0 0 (u_Qi below Z G s args r σ') (F0 m pc ls [.int v]) := by
  obtain ⟨hx, hb, hml, hown, hts, hr, hlocks, hK⟩ := cx
  exact W.zret hx hb hr (by rcases h01 with rfl | rfl <;> rfl) (fun t ht hW => ⟨⟨v, σ, rfl, hq, by rw [ht]; exact hw.1, hw.2.1⟩, hw.2.2.F ht⟩) hw.2.2.2.2 hdg hlocks
theorem u_lret {r v : Int64} {σ' : uS} (cx : u_C p s m args meth c own y cc mL (some .long) G) (hw : u_W Z G σ s H locs) (hq : v = r ∧ σ = σ') (hdg : decode cc pc = .ok (.lreturn, 1)) : W p l e R s m args below meth c H locs 0 0 (u_Ql below Z G s args r σ') (F0 m pc ls [.long v]) := by
  obtain ⟨hx, hb, hml, hown, hts, hr, hlocks, hK⟩ := cx
  exact W.lret hx hb hr (fun t ht hW => ⟨⟨v, σ, rfl, hq, by rw [ht]; exact hw.1, hw.2.1⟩, hw.2.2.F ht⟩) hw.2.2.2.2 hdg hlocks
theorem u_vret {σ' : uS} (cx : u_C p s m args meth c own y cc mL none G) (hw : u_W Z G σ s H locs) (hq : σ = σ') (hdg : decode cc pc = .ok (.return_, 1)) : W p l e R s m args below meth c H locs 0 0 (u_Qv below Z G s args σ') (F0 m pc ls []) := by
  obtain ⟨hx, hb, hml, hown, hts, hr, hlocks, hK⟩ := cx
  exact W.vret hx hb hr (fun t ht hW => ⟨⟨σ, rfl, hq, by rw [ht]; exact hw.1, hw.2.1⟩, hw.2.2.F ht⟩) hw.2.2.2.2 hdg hlocks
/-! calls -/
theorem u_blind {sz : Nat} {av : List Value} : FrameBlind (va_Pc av (u_Pre Z G σ sz)) := fun a U g mk q => ⟨q.1, q.2.1, q.2.2.1, q.2.2.2.1, u_K.same (U := U.calling g mk a) rfl q.2.2.2.2⟩
theorem u_pre (cx : u_C p s m args meth c own y cc mL rt G) (hw : u_W Z G σ s H locs) {av : List Value} : ∀ U : State, U.heap = H → s.WarmedH U.vm → va_Pc av (u_Pre Z G σ H.size) av.toArray U := fun U hU hW => ⟨rfl, by rw [hU], by rw [hU]; exact hw.1, ⟨hw.2.1.1, fun _ _ _ => trivial⟩, u_K.warm hW cx.2.2.2.2.2.2.2⟩
theorem u_cb (cx : u_C p s m args meth c own y cc mL rt G) {idx n m2 h2 hg : Nat} {y2 : MethodName} {c2 : ByteArray} {r2 : Option FieldType} (hL : u_L own idx y2 c2 m2 r2 n) (hh : h2 < hg) : CallB (u_rm hg) s args own idx y2 c2 m2 r2 (u_ws0 y2 c2 m2 r2) (u_rm h2) 0 0 n := by
  obtain ⟨h1, h2', h3, h4, h5⟩ := hL
  have hts := cx.2.2.2.2.1
  refine callB_of n hts (u_goodIn h3) rfl rfl rfl (hts _ (List.mem_cons_of_mem _ h2')) (hts _ (List.mem_cons_of_mem _ h1)) h4 ⟨?_, ?_⟩
  · show h2 + 1 ≤ hg; omega
  · show 8 + (m2 + 11) + 40 * h2 ≤ 40 * hg; omega
theorem u_Ain {sz : Nat} (hw : u_W Z G σ s H locs) (hz : sz = H.size) : ∀ q, u_A Z G sz q → u_A Z G s.heap.size q := by
  intro q h
  rcases h with h | h
  · exact Or.inl h
  · exact Or.inr (Nat.le_trans hw.2.2.1 (by rw [← hz]; exact h))
theorem u_back {H1 : Heap} {locs1 : List Loc} {σ' : uS} {t : State} (hw : u_W Z G σ s H locs) (hB : u_B Z G H.size σ' t) (ht : t.heap = H1) (hS : va_S (u_A Z G s.heap.size) s.heap H1 locs1) : u_W Z G σ' s H1 locs1 :=
  ⟨by rw [← ht]; exact hB.1, hB.2.weaken (fun k q _ h => u_Ain hw rfl q.1 h), hS⟩
variable {hg : Nat}
theorem u_callVi (cx : u_C p s m args meth c own y cc mL rt G) (hw : u_W Z G σ s H locs) {C : String} {idx n m2 h2 ci N i : Nat} {y2 : MethodName} {c2 : ByteArray} {t2 : FieldType} {As : List Value} {r : Int32} {σ' : uS} {kf : Nat → Option (Option Nat)} {T : u_T} (hL : u_LV own idx C y2 c2 m2 (some t2) n) (hM : u_Mi l Z G y2 c2 m2 t2 h2 (.ref (G.2.2 i) :: As) σ r σ') (ho : u_o Z i ci N kf) (hc : vwCl[ci]? = some (C, T, N)) (hh : h2 < hg) (hls : ls.size = mL) (hn : As.length = n) (hr8 : (rest.map fun v => v.category).sum ≤ 8) (hdg : decode cc pc = .ok (.invokevirtual idx, 3)) {st : List Value} (hst : st = As.reverse ++ .ref (G.2.2 i) :: rest)
    (kk : ∀ (H1 : Heap) (locs1 : List Loc), u_W Z G σ' s H1 locs1 → W p l e (u_rm hg) s m args below meth c H1 locs1 0 0 Q (F0 m (pc + 3) ls (.int r :: rest))) : W p l e (u_rm hg) s m args below meth c H locs 0 0 Q (F0 m pc ls st) := by
  obtain ⟨hx, hb, hml, hown, hts, hr, hlocks, hK⟩ := id cx
  refine va_calli (va_runV (As := As) (rest := rest) ⟨hx, hb, hml, hown, hts⟩ (hM H.size) ⟨u_cb cx hL.1 hh, hts _ (List.mem_cons_of_mem _ hL.2.1), hts _ (List.mem_cons_of_mem _ hL.2.2)⟩ ⟨u_blind, va_recv hK.1 hw.1 (ci := ci) (q0 := i) hc (by rw [u_w_get ho.1, u_E_ob ho.2.1]), u_pre cx hw⟩ rfl hn hls hst (lv_room hr8) hdg ⟨Nat.le_refl 0, Nat.le_refl 0⟩) hw.2.2 (fun q _ h => u_Ain hw rfl q h) (u_Ain hw rfl) (fun r2 u t H1 locs1 ht hvm hp hB hz1 hk1 hS => ?_)
  obtain ⟨rfl, rfl⟩ := hp
  exact kk H1 locs1 (u_back hw hB ht hS)
theorem u_callVl (cx : u_C p s m args meth c own y cc mL rt G) (hw : u_W Z G σ s H locs) {C : String} {idx n m2 h2 ci N i : Nat} {y2 : MethodName} {c2 : ByteArray} {As : List Value} {r : Int64} {σ' : uS} {kf : Nat → Option (Option Nat)} {T : u_T} (hL : u_LV own idx C y2 c2 m2 (some .long) n) (hM : u_Ml l Z G y2 c2 m2 h2 (.ref (G.2.2 i) :: As) σ r σ') (ho : u_o Z i ci N kf) (hc : vwCl[ci]? = some (C, T, N)) (hh : h2 < hg) (hls : ls.size = mL) (hn : As.length = n) (hr8 : (rest.map fun v => v.category).sum ≤ 8) (hdg : decode cc pc = .ok (.invokevirtual idx, 3)) {st : List Value} (hst : st = As.reverse ++ .ref (G.2.2 i) :: rest)
    (kk : ∀ (H1 : Heap) (locs1 : List Loc), u_W Z G σ' s H1 locs1 → W p l e (u_rm hg) s m args below meth c H1 locs1 0 0 Q (F0 m (pc + 3) ls (.long r :: rest))) : W p l e (u_rm hg) s m args below meth c H locs 0 0 Q (F0 m pc ls st) := by
  obtain ⟨hx, hb, hml, hown, hts, hr, hlocks, hK⟩ := id cx
  refine va_calll (va_runV (As := As) (rest := rest) ⟨hx, hb, hml, hown, hts⟩ (hM H.size) ⟨u_cb cx hL.1 hh, hts _ (List.mem_cons_of_mem _ hL.2.1), hts _ (List.mem_cons_of_mem _ hL.2.2)⟩ ⟨u_blind, va_recv hK.1 hw.1 (ci := ci) (q0 := i) hc (by rw [u_w_get ho.1, u_E_ob ho.2.1]), u_pre cx hw⟩ rfl hn hls hst (lv_room hr8) hdg ⟨Nat.le_refl 0, Nat.le_refl 0⟩) hw.2.2 (fun q _ h => u_Ain hw rfl q h) (u_Ain hw rfl) (fun r2 u t H1 locs1 ht hvm hp hB hz1 hk1 hS => ?_)
  obtain ⟨rfl, rfl⟩ := hp
  exact kk H1 locs1 (u_back hw hB ht hS)
theorem u_callVv (cx : u_C p s m args meth c own y cc mL rt G) (hw : u_W Z G σ s H locs) {C : String} {idx n m2 h2 ci N i : Nat} {y2 : MethodName} {c2 : ByteArray} {As : List Value} {σ' : uS} {kf : Nat → Option (Option Nat)} {T : u_T} (hL : u_LV own idx C y2 c2 m2 none n) (hM : u_Mv l Z G y2 c2 m2 h2 (.ref (G.2.2 i) :: As) σ σ') (ho : u_o Z i ci N kf) (hc : vwCl[ci]? = some (C, T, N)) (hh : h2 < hg) (hls : ls.size = mL) (hn : As.length = n) (hr8 : (rest.map fun v => v.category).sum ≤ 8) (hdg : decode cc pc = .ok (.invokevirtual idx, 3)) {st : List Value} (hst : st = As.reverse ++ .ref (G.2.2 i) :: rest)
    (kk : ∀ (H1 : Heap) (locs1 : List Loc), u_W Z G σ' s H1 locs1 → W p l e (u_rm hg) s m args below meth c H1 locs1 0 0 Q (F0 m (pc + 3) ls rest)) : W p l e (u_rm hg) s m args below meth c H locs 0 0 Q (F0 m pc ls st) := by
  obtain ⟨hx, hb, hml, hown, hts, hr, hlocks, hK⟩ := id cx
  refine va_callv (va_runV (As := As) (rest := rest) ⟨hx, hb, hml, hown, hts⟩ (hM H.size) ⟨u_cb cx hL.1 hh, hts _ (List.mem_cons_of_mem _ hL.2.1), hts _ (List.mem_cons_of_mem _ hL.2.2)⟩ ⟨u_blind, va_recv hK.1 hw.1 (ci := ci) (q0 := i) hc (by rw [u_w_get ho.1, u_E_ob ho.2.1]), u_pre cx hw⟩ rfl hn hls hst (lv_room hr8) hdg ⟨Nat.le_refl 0, Nat.le_refl 0⟩) hw.2.2 (fun q _ h => u_Ain hw rfl q h) (u_Ain hw rfl) (fun u t H1 locs1 ht hvm hp hB hz1 hk1 hS => ?_)
  obtain rfl := hp
  exact kk H1 locs1 (u_back hw hB ht hS)
theorem u_callSi (cx : u_C p s m args meth c own y cc mL rt G) (hw : u_W Z G σ s H locs) {idx n m2 h2 : Nat} {y2 : MethodName} {c2 : ByteArray} {t2 : FieldType} {As : List Value} {r : Int32} {σ' : uS} (hL : u_LS own idx y2 c2 m2 (some t2) n) (hM : u_Mi l Z G y2 c2 m2 t2 h2 As σ r σ') (hh : h2 < hg) (hls : ls.size = mL) (hn : As.length = n) (hr8 : (rest.map fun v => v.category).sum ≤ 8) (hdg : decode cc pc = .ok (.invokestatic idx, 3)) {st : List Value} (hst : st = As.reverse ++ rest)
    (kk : ∀ (H1 : Heap) (locs1 : List Loc), u_W Z G σ' s H1 locs1 → W p l e (u_rm hg) s m args below meth c H1 locs1 0 0 Q (F0 m (pc + 3) ls (.int r :: rest))) : W p l e (u_rm hg) s m args below meth c H locs 0 0 Q (F0 m pc ls st) := by
  obtain ⟨hx, hb, hml, hown, hts, hr, hlocks, hK⟩ := id cx
  refine va_calli (va_runS (As := As) (rest := rest) ⟨hx, hb, hml, hown, hts⟩ (hM H.size) ⟨u_cb cx hL.1 hh, hts _ (List.mem_cons_of_mem _ hL.2)⟩ ⟨u_blind, u_pre cx hw⟩ rfl hn hls hst (lv_room hr8) hdg ⟨Nat.le_refl 0, Nat.le_refl 0⟩) hw.2.2 (fun q _ h => u_Ain hw rfl q h) (u_Ain hw rfl) (fun r2 u t H1 locs1 ht hvm hp hB hz1 hk1 hS => ?_)
  obtain ⟨rfl, rfl⟩ := hp
  exact kk H1 locs1 (u_back hw hB ht hS)
theorem u_callSl (cx : u_C p s m args meth c own y cc mL rt G) (hw : u_W Z G σ s H locs) {idx n m2 h2 : Nat} {y2 : MethodName} {c2 : ByteArray} {As : List Value} {r : Int64} {σ' : uS} (hL : u_LS own idx y2 c2 m2 (some .long) n) (hM : u_Ml l Z G y2 c2 m2 h2 As σ r σ') (hh : h2 < hg) (hls : ls.size = mL) (hn : As.length = n) (hr8 : (rest.map fun v => v.category).sum ≤ 8) (hdg : decode cc pc = .ok (.invokestatic idx, 3)) {st : List Value} (hst : st = As.reverse ++ rest)
    (kk : ∀ (H1 : Heap) (locs1 : List Loc), u_W Z G σ' s H1 locs1 → W p l e (u_rm hg) s m args below meth c H1 locs1 0 0 Q (F0 m (pc + 3) ls (.long r :: rest))) : W p l e (u_rm hg) s m args below meth c H locs 0 0 Q (F0 m pc ls st) := by
  obtain ⟨hx, hb, hml, hown, hts, hr, hlocks, hK⟩ := id cx
  refine va_calll (va_runS (As := As) (rest := rest) ⟨hx, hb, hml, hown, hts⟩ (hM H.size) ⟨u_cb cx hL.1 hh, hts _ (List.mem_cons_of_mem _ hL.2)⟩ ⟨u_blind, u_pre cx hw⟩ rfl hn hls hst (lv_room hr8) hdg ⟨Nat.le_refl 0, Nat.le_refl 0⟩) hw.2.2 (fun q _ h => u_Ain hw rfl q h) (u_Ain hw rfl) (fun r2 u t H1 locs1 ht hvm hp hB hz1 hk1 hS => ?_)
  obtain ⟨rfl, rfl⟩ := hp
  exact kk H1 locs1 (u_back hw hB ht hS)
theorem u_callSv (cx : u_C p s m args meth c own y cc mL rt G) (hw : u_W Z G σ s H locs) {idx n m2 h2 : Nat} {y2 : MethodName} {c2 : ByteArray} {As : List Value} {σ' : uS} (hL : u_LS own idx y2 c2 m2 none n) (hM : u_Mv l Z G y2 c2 m2 h2 As σ σ') (hh : h2 < hg) (hls : ls.size = mL) (hn : As.length = n) (hr8 : (rest.map fun v => v.category).sum ≤ 8) (hdg : decode cc pc = .ok (.invokestatic idx, 3)) {st : List Value} (hst : st = As.reverse ++ rest)
    (kk : ∀ (H1 : Heap) (locs1 : List Loc), u_W Z G σ' s H1 locs1 → W p l e (u_rm hg) s m args below meth c H1 locs1 0 0 Q (F0 m (pc + 3) ls rest)) : W p l e (u_rm hg) s m args below meth c H locs 0 0 Q (F0 m pc ls st) := by
  obtain ⟨hx, hb, hml, hown, hts, hr, hlocks, hK⟩ := id cx
  refine va_callv (va_runS (As := As) (rest := rest) ⟨hx, hb, hml, hown, hts⟩ (hM H.size) ⟨u_cb cx hL.1 hh, hts _ (List.mem_cons_of_mem _ hL.2)⟩ ⟨u_blind, u_pre cx hw⟩ rfl hn hls hst (lv_room hr8) hdg ⟨Nat.le_refl 0, Nat.le_refl 0⟩) hw.2.2 (fun q _ h => u_Ain hw rfl q h) (u_Ain hw rfl) (fun u t H1 locs1 ht hvm hp hB hz1 hk1 hS => ?_)
  obtain rfl := hp
  exact kk H1 locs1 (u_back hw hB ht hS)
end UR
