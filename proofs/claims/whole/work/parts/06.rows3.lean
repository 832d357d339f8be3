/-! ROWS, third part: pairs, nest mates' statics, switches, rows of references, inherited methods -/
theorem u_pair {α β : Type} {a : α} {b : β} {z : α × β} (h : some (a, b) = some z) : a = z.1 ∧ b = z.2 := by
  obtain rfl := Option.some.inj h
  exact ⟨rfl, rfl⟩
section UR3
variable {p : Program} {l : Launch} {e : Env} {R : Room} {s : State} {m : MethodId} {args : Array Value} {below : List Frame} {meth : Method} {c : Code} {H : Heap} {locs : List Loc} {cells slots : Nat} {Q : State → Prop}
variable {own : String} {y : MethodName} {cc : ByteArray} {mL : Nat} {rt : Option FieldType} {G : uG} {Z : uZ} {σ : uS} {pc : Nat} {ls : Array Slot} {rest : List Value} {hg : Nat}
/-- a nest mate's static method -/
def u_LN (own : String) (idx : Nat) (y : MethodName) (host : String) (bytes : ByteArray) (mL : Nat) (ret : Option FieldType) (n : Nat) : Prop :=
  (own, idx, y, host) ∈ u_nestM ∧ Cond.initialized y.cls ∈ u_big ∧ Cond.code y bytes mL ret ∈ u_big ∧ Cond.static y ∈ u_big ∧ (y.cls ≠ "java/lang/invoke/MethodHandle" ∧ y.cls ≠ "java/lang/invoke/VarHandle" ∧ (parseMethodDescriptor y.desc).map (fun d => d.parameters.length) = some n) ∧ mL ≤ 21
theorem u_callNi (cx : u_C p s m args meth c own y cc mL rt G) (hw : u_W Z G σ s H locs) {idx n m2 h2 : Nat} {y2 : MethodName} {c2 : ByteArray} {t2 : FieldType} {As : List Value} {r : Int32} {σ' : uS} {host : String} (hL : u_LN own idx y2 host c2 m2 (some t2) n) (hM : u_Mi l Z G y2 c2 m2 t2 h2 As σ r σ') (hh : h2 < hg) (hls : ls.size = mL) (hn : As.length = n) (hr8 : (rest.map fun v => v.category).sum ≤ 8) (hdg : decode cc pc = .ok (.invokestatic idx, 3)) {st : List Value} (hst : st = As.reverse ++ rest)
    (kk : ∀ (H1 : Heap) (locs1 : List Loc), u_W Z G σ' s H1 locs1 → W p l e (u_rm hg) s m args below meth c H1 locs1 0 0 Q (F0 m (pc + 3) ls (.int r :: rest))) : W p l e (u_rm hg) s m args below meth c H locs 0 0 Q (F0 m pc ls st) := by
  obtain ⟨hx, hb, hml, hown, hts, hr, hlocks, hK⟩ := id cx
  obtain ⟨l1, l2, l3, l4, l5, l6⟩ := hL
  refine va_calli (va_runSN (As := As) (rest := rest) ⟨hx, hb, hml, hown, hts⟩ (hM H.size) ⟨va_cnB n hts (u_goodIn l3) rfl rfl rfl (hK.2.2.1 _ l1) (hts _ (List.mem_cons_of_mem _ l2)) l5 ⟨by show h2 + 1 ≤ hg; omega, by show 8 + (m2 + 11) + 40 * h2 ≤ 40 * hg; omega⟩, hts _ (List.mem_cons_of_mem _ l4), trivial⟩ ⟨u_blind, u_pre cx hw⟩ rfl hn hls hst (lv_room hr8) hdg ⟨Nat.le_refl 0, Nat.le_refl 0⟩) hw.2.2 (fun q _ h => u_Ain hw rfl q h) (u_Ain hw rfl) (fun r2 u t H1 locs1 ht hvm hp hB hz1 hk1 hS => ?_)
  obtain ⟨rfl, rfl⟩ := hp
  exact kk H1 locs1 (u_back hw hB ht hS)
/-- a switch's default, also from places within the table -/
theorem u_tdflt (hx : p.tables.exec = Jvm.exec) (hb : c.code = cc) {dflt lo hi : Int} {offs : Array Int} {len tgt : Nat} {x : Int32} (hdg : decode cc pc = .ok (.tableswitch dflt lo hi offs, len)) (ht : (pc : Int) + dflt = (tgt : Int)) (hall : x.toInt < lo ∨ hi < x.toInt ∨ offs[(x.toInt - lo).toNat]? = some dflt)
    (k : W p l e R s m args below meth c H locs cells slots Q (F0 m tgt ls rest)) : W p l e R s m args below meth c H locs cells slots Q (F0 m pc ls (.int x :: rest)) := by
  by_cases h1 : x.toInt < lo
  · exact lv_tableOut hx hb hdg (Or.inl h1) ht k
  · by_cases h2 : hi < x.toInt
    · exact lv_tableOut hx hb hdg (Or.inr h2) ht k
    · rcases hall with h | h | h
      · exact absurd h h1
      · exact absurd h h2
      · exact lv_tableIn hx hb hdg h1 h2 h ht k
end UR3
/-! rows of references -/
def u_rR (Z : uZ) (σ : uS) (a : Nat) (x : Int32) : Option Nat := match Z.2.1 a with
  | .inl q => if a < Z.1 ∧ q.1 = 4 ∧ ¬ (x < 0 ∨ q.2 ≤ x.toNatClampNeg) then σ.2.2 a x.toNatClampNeg else none
  | .inr _ => none
def u_wR (Z : uZ) (σ : uS) (a : Nat) (x : Int32) (v : Nat) : Option uS := match Z.2.1 a with
  | .inl q => if a < Z.1 ∧ q.1 = 4 ∧ ¬ (x < 0 ∨ q.2 ≤ x.toNatClampNeg) then some (u_pR σ a x.toNatClampNeg (some v)) else none
  | .inr _ => none
theorem u_rR_some {Z : uZ} {σ : uS} {a v : Nat} {x : Int32} (h : u_rR Z σ a x = some v) : ∃ n, a < Z.1 ∧ Z.2.1 a = .inl (4, n) ∧ vp_in x n ∧ σ.2.2 a x.toNatClampNeg = some v := by
  unfold u_rR at h
  split at h
  · next q hq =>
    split at h
    · next hc =>
      obtain ⟨h1, h2, h3⟩ := hc
      obtain ⟨q1, q2⟩ := q
      subst h2
      exact ⟨q2, h1, hq, h3, h⟩
    · cases h
  · cases h
theorem u_wR_some {Z : uZ} {σ σ' : uS} {a v : Nat} {x : Int32} (h : u_wR Z σ a x v = some σ') : ∃ n, a < Z.1 ∧ Z.2.1 a = .inl (4, n) ∧ vp_in x n ∧ σ' = u_pR σ a x.toNatClampNeg (some v) := by
  unfold u_wR at h
  split at h
  · next q hq =>
    split at h
    · next hc =>
      obtain ⟨h1, h2, h3⟩ := hc
      obtain ⟨q1, q2⟩ := q
      subst h2
      exact ⟨q2, h1, hq, h3, (Option.some.inj h).symm⟩
    · cases h
  · cases h
section UR4
variable {p : Program} {l : Launch} {e : Env} {R : Room} {s : State} {m : MethodId} {args : Array Value} {below : List Frame} {meth : Method} {c : Code} {H : Heap} {locs : List Loc} {cells slots : Nat} {Q : State → Prop}
variable {own : String} {y : MethodName} {cc : ByteArray} {mL : Nat} {rt : Option FieldType} {G : uG} {Z : uZ} {σ : uS} {pc : Nat} {ls : Array Slot} {rest : List Value} {hg : Nat}
theorem u_aald (cx : u_C p s m args meth c own y cc mL rt G) (hw : u_W Z G σ s H locs) {a v : Nat} {x : Int32} (hv : u_rR Z σ a x = some v) (hdg : decode cc pc = .ok (.aaload, 1))
    (kk : W p l e R s m args below meth c H locs cells slots Q (F0 m (pc + 1) ls (.ref (G.2.2 v) :: rest))) : W p l e R s m args below meth c H locs cells slots Q (F0 m pc ls (.int x :: .ref (G.2.2 a) :: rest)) := by
  obtain ⟨n, h1, h2, h3, h4⟩ := u_rR_some hv
  refine va_aldq cx.1 cx.2.1 cx.2.2.2.2.2.2.2.1 hw.1 a 4 (C := RX7) (f := fun j => (σ.2.2 a j).map G.2.2) (by rw [u_w_get h1, u_E_ro h2]; rfl) rfl h3 hdg ?_
  show W p l e R s m args below meth c H locs cells slots Q (F0 m (pc + 1) ls (va_rf ((σ.2.2 a x.toNatClampNeg).map G.2.2) :: rest))
  rw [h4]
  exact kk
theorem u_aast (cx : u_C p s m args meth c own y cc mL rt G) (hw : u_W Z G σ s H locs) {a v : Nat} {x : Int32} {σ' : uS} {kf : Nat → Option (Option Nat)} (hv : u_wR Z σ a x v = some σ') (ho : u_o Z v 6 12 kf) (hdg : decode cc pc = .ok (.aastore, 1))
    (kk : ∀ (H1 : Heap) (locs1 : List Loc), u_W Z G σ' s H1 locs1 → W p l e R s m args below meth c H1 locs1 cells slots Q (F0 m (pc + 1) ls rest)) : W p l e R s m args below meth c H locs cells slots Q (F0 m pc ls (.ref (G.2.2 v) :: .int x :: .ref (G.2.2 a) :: rest)) := by
  obtain ⟨n, h1, h2, h3, rfl⟩ := u_wR_some hv
  refine va_astq cx.1 cx.2.1 cx.2.2.2.2.2.2.2.1 hw.1 hw.2.1 hw.2.2 a 4 v 6 (r := (RX7, TX7, 12)) (f := fun j => (σ.2.2 a j).map G.2.2) (by rw [u_w_get h1, u_E_ro h2]; rfl) rfl (by rw [u_w_get ho.1, u_E_ob ho.2.1]) rfl h3 hdg (fun H1 locs1 q1 q2 q3 => ?_)
  have e : (.inr (.inr (.inr (.inr (va_up (fun j => (σ.2.2 a j).map G.2.2) x.toNatClampNeg (some (G.2.2 v)))))) : (Nat → Int32) ⊕ (Nat → Int64) ⊕ (Nat → UInt32) ⊕ (Nat → UInt64) ⊕ (Nat → Option Nat)) = u_row G (u_pR σ a x.toNatClampNeg (some v)) 4 a := by
    have e2 : va_up (fun j => (σ.2.2 a j).map G.2.2) x.toNatClampNeg (some (G.2.2 v)) = fun j => ((u_pR σ a x.toNatClampNeg (some v)).2.2 a j).map G.2.2 := by
      funext j
      by_cases hj : j = x.toNatClampNeg
      · simp [va_up, u_pR, u_sR, hj]
      · simp [va_up, u_pR, u_sR, hj]
    rw [e2]
    rfl
  rw [e, u_w_row (G := G) (σ := σ) (σ' := u_pR σ a x.toNatClampNeg (some v)) h1 h2 u_sR_o] at q1 q2
  exact kk H1 locs1 ⟨q1, q2, q3⟩
end UR4
theorem LN_X6_101 : u_LN RX6 101 yX11_digitOf "RopeRemembers" cX11_digitOf 1 (some .int) 1 := ⟨List.mem_of_getElem? (i := 14) rfl, q_1, q_535, q_534, ⟨by decide +kernel, by decide +kernel, by decide +kernel⟩, by decide⟩
