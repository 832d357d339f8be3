/-! THE LAW AND ITS HELPERS: rows over both objects and the row 'out' -/
def n_C (p : Program) (s : State) (m : MethodId) (args : Array Value) (c : Code) (own : String) (cc : ByteArray) (mL : Nat) : Prop := p.tables.exec = Jvm.exec ∧ c.code = cc ∧ c.maxLocals = mL ∧ s.vm.findClass own = some m.cls ∧ ∀ w ∈ u_big, w.before args s = true
theorem n_goodIn {y : MethodName} {c2 : ByteArray} {m2 : Nat} {r2 : Option FieldType} (h : Cond.code y c2 m2 r2 ∈ u_big) : GoodIn u_big (u_ws0 y c2 m2 r2) := by
  intro w hw
  have hm : w ∈ u_big := (List.mem_cons.mp hw).elim (fun e => by rw [e]; exact h) id
  exact ⟨hm, u_good w hm⟩
theorem n_inj {Z : uZ} {G : uG} {σ : uS} (h : ∀ i j, i < Z.1 → j < Z.1 → G.2.2 i = G.2.2 j → i = j) {A : Nat → Prop} (hA : ∀ i, i < Z.1 → A (G.2.2 i)) : va_D A (u_w Z G σ) := by
  refine ⟨fun i j p q hi hj hpq => ?_, fun k q hk => ?_⟩
  · obtain ⟨h1, rfl⟩ := u_w_inv hi
    obtain ⟨h2, rfl⟩ := u_w_inv hj
    exact h i j h1 h2 hpq
  · obtain ⟨h1, rfl⟩ := u_w_inv hk
    exact hA k h1
/-- where everything lies -/
def n_AF (hc hm : Nat → Nat) (o sz : Nat) : Prop := (∀ i j, i < 134 → j < 134 → hc i = hc j → i = j) ∧ (∀ i j, i < 21 → j < 21 → hm i = hm j → i = j) ∧ (∀ i j, i < 134 → j < 21 → hc i ≠ hm j) ∧ (∀ i, i < 134 → hc i ≠ o) ∧ (∀ j, j < 21 → hm j ≠ o) ∧ (∀ i, i < 134 → sz ≤ hc i) ∧ (∀ j, j < 21 → sz ≤ hm j) ∧ sz ≤ o
abbrev n_o (cy : Nat → ClassId) (o : Nat) (ov : Nat → Int64) : va_W := [(o, .inl (cy 1, 1, .inr (.inl ov)))]
def n_W (D : va_G) (cy : Nat → ClassId) (hc hm : Nat → Nat) (o : Nat) (σc σm : uS) (ov : Nat → Int64) (s : State) (H : Heap) (locs : List Loc) : Prop :=
  va_P D vwCl (u_w ZC (D, cy, hc) σc) H ∧ va_P D vwCl (u_w ZM (D, cy, hm) σm) H ∧ va_P D vwCl (n_o cy o ov) H ∧ va_S (fun q => s.heap.size ≤ q) s.heap H locs
theorem n_o_inv {cy : Nat → ClassId} {o : Nat} {ov : Nat → Int64} {k : Nat} {q : Nat × va_E} (h : (n_o cy o ov)[k]? = some q) : q.1 = o := by
  cases k with
  | zero => cases h; rfl
  | succ k => cases h
section NR
variable {p : Program} {l : Launch} {e : Env} {R : Room} {s : State} {m : MethodId} {args : Array Value} {below : List Frame} {meth : Method} {c : Code} {H : Heap} {locs : List Loc} {cells slots : Nat} {Q : State → Prop}
variable {own : String} {cc : ByteArray} {mL : Nat} {D : va_G} {cy : Nat → ClassId} {hc hm : Nat → Nat} {o : Nat} {σc σm : uS} {ov : Nat → Int64} {pc : Nat} {ls : Array Slot} {rest : List Value}
theorem n_drop {g : JFrame} (h : ∀ x ∈ locs, s.heap.size ≤ x.base) (kk : W p l e R s m args below meth c H [] cells slots Q g) : W p l e R s m args below meth c H locs cells slots Q g :=
  fun T hT X => kk T hT { X with same := X.same.weaken (fun x hx hlt => absurd hlt (Nat.not_lt.mpr (h x hx))) (Nat.le_refl _) (Nat.le_refl _) }
theorem n_cb (cx : n_C p s m args c own cc mL) {idx n m2 h2 mc ms : Nat} {y2 : MethodName} {c2 : ByteArray} {r2 : Option FieldType} (hL : u_L own idx y2 c2 m2 r2 n) (hf : h2 + 1 ≤ R.frames) (hlo : 40 * h2 + 40 ≤ R.locals) : CallB R s args own idx y2 c2 m2 r2 (u_ws0 y2 c2 m2 r2) (k_rm h2 mc ms) mc ms n := by
  obtain ⟨h1, h2', h3, h4, h5⟩ := hL
  have hts := cx.2.2.2.2
  refine callB_of n hts (n_goodIn h3) rfl rfl rfl (hts _ h2') (hts _ h1) h4 ⟨?_, ?_⟩
  · show h2 + 1 ≤ _; omega
  · show 8 + (m2 + 11) + 40 * h2 ≤ _; omega
theorem n_callCi (cx : n_C p s m args c own cc mL) (hK : u_K (D, cy, hc) s) (af : n_AF hc hm o s.heap.size) (hw : n_W D cy hc hm o σc σm ov s H locs) {idx n m2 h2 : Nat} {y2 : MethodName} {c2 : ByteArray} {t2 : FieldType} {As : List Value} {r : Int32} {σ' : uS} (hL : u_LV own idx RX11 y2 c2 m2 (some t2) n) (hM : u_Mi l ZC (D, cy, hc) y2 c2 m2 t2 h2 (.ref (hc 0) :: As) σc r σ') (hf : h2 + 1 ≤ R.frames) (hlo : 40 * h2 + 40 ≤ R.locals) (hcs : cells ≤ R.cells ∧ slots ≤ R.slots) (hls : ls.size = mL) (hn : As.length = n) (hr8 : (rest.map fun v => v.category).sum ≤ 8) (hdg : decode cc pc = .ok (.invokevirtual idx, 3)) {st : List Value} (hst : st = As.reverse ++ .ref (hc 0) :: rest)
    (kk : ∀ (H1 : Heap) (locs1 : List Loc), n_W D cy hc hm o σ' σm ov s H1 locs1 → W p l e R s m args below meth c H1 locs1 cells slots Q (F0 m (pc + 3) ls (.int r :: rest))) : W p l e R s m args below meth c H locs cells slots Q (F0 m pc ls st) := by
  obtain ⟨hx, hb, hml, hown, hts⟩ := id cx
  obtain ⟨a1, a2, a3, a4, a5, a6, a7, a8⟩ := af
  have hA : ∀ q, u_A ZC (D, cy, hc) H.size q → s.heap.size ≤ q := fun q h => by
    rcases h with ⟨i, hi, rfl⟩ | h
    · exact a6 i hi
    · exact Nat.le_trans hw.2.2.2.1 h
  refine va_calli (va_runV (As := As) (rest := rest) ⟨hx, hb, hml, hown, hts⟩ (hM H.size) ⟨n_cb cx hL.1 hf hlo, hts _ hL.2.1, hts _ hL.2.2⟩ ⟨u_blind, va_recv hK.1 hw.1 (ci := 10) (q0 := 0) rfl (by rw [u_w_get o_X11.1, u_E_ob o_X11.2.1]), fun U hU hW => ⟨rfl, by rw [hU], by rw [hU]; exact hw.1, n_inj a1 (fun _ _ => trivial), u_K.warm hW hK⟩⟩ rfl hn hls hst (lv_room hr8) hdg hcs) hw.2.2.2 (fun q _ h => hA q h) hA (fun r2 u t H1 locs1 ht hvm hp hB hz1 hk1 hS => ?_)
  obtain ⟨rfl, rfl⟩ := hp
  refine kk H1 locs1 ⟨by rw [← ht]; exact hB.1, hw.2.1.kept (fun k q hk => ?_), hw.2.2.1.kept (fun k q hk => ?_), hS⟩
  · have hlt := (hw.2.1 k q hk).lt
    obtain ⟨h1, rfl⟩ := u_w_inv hk
    exact hk1 _ hlt (fun h => by
      rcases h with ⟨i, hi, h⟩ | h
      · exact a3 i k hi h1 h
      · exact absurd hlt (Nat.not_lt.mpr h))
  · have hlt := (hw.2.2.1 k q hk).lt
    have ho := n_o_inv hk
    exact hk1 _ hlt (fun h => by
      rcases h with ⟨i, hi, h⟩ | h
      · exact a4 i hi (h.trans ho)
      · exact absurd hlt (Nat.not_lt.mpr h))
theorem n_callMi (cx : n_C p s m args c own cc mL) (hK : u_K (D, cy, hm) s) (af : n_AF hc hm o s.heap.size) (hw : n_W D cy hc hm o σc σm ov s H locs) {idx n m2 h2 : Nat} {y2 : MethodName} {c2 : ByteArray} {t2 : FieldType} {As : List Value} {r : Int32} {σ' : uS} (hL : u_LV own idx RX12 y2 c2 m2 (some t2) n) (hM : u_Mi l ZM (D, cy, hm) y2 c2 m2 t2 h2 (.ref (hm 0) :: As) σm r σ') (hf : h2 + 1 ≤ R.frames) (hlo : 40 * h2 + 40 ≤ R.locals) (hcs : cells ≤ R.cells ∧ slots ≤ R.slots) (hls : ls.size = mL) (hn : As.length = n) (hr8 : (rest.map fun v => v.category).sum ≤ 8) (hdg : decode cc pc = .ok (.invokevirtual idx, 3)) {st : List Value} (hst : st = As.reverse ++ .ref (hm 0) :: rest)
    (kk : ∀ (H1 : Heap) (locs1 : List Loc), n_W D cy hc hm o σc σ' ov s H1 locs1 → W p l e R s m args below meth c H1 locs1 cells slots Q (F0 m (pc + 3) ls (.int r :: rest))) : W p l e R s m args below meth c H locs cells slots Q (F0 m pc ls st) := by
  obtain ⟨hx, hb, hml, hown, hts⟩ := id cx
  obtain ⟨a1, a2, a3, a4, a5, a6, a7, a8⟩ := af
  have hA : ∀ q, u_A ZM (D, cy, hm) H.size q → s.heap.size ≤ q := fun q h => by
    rcases h with ⟨i, hi, rfl⟩ | h
    · exact a7 i hi
    · exact Nat.le_trans hw.2.2.2.1 h
  refine va_calli (va_runV (As := As) (rest := rest) ⟨hx, hb, hml, hown, hts⟩ (hM H.size) ⟨n_cb cx hL.1 hf hlo, hts _ hL.2.1, hts _ hL.2.2⟩ ⟨u_blind, va_recv hK.1 hw.2.1 (ci := 11) (q0 := 0) rfl (by rw [u_w_get o_X12.1, u_E_ob o_X12.2.1]), fun U hU hW => ⟨rfl, by rw [hU], by rw [hU]; exact hw.2.1, n_inj a2 (fun _ _ => trivial), u_K.warm hW hK⟩⟩ rfl hn hls hst (lv_room hr8) hdg hcs) hw.2.2.2 (fun q _ h => hA q h) hA (fun r2 u t H1 locs1 ht hvm hp hB hz1 hk1 hS => ?_)
  obtain ⟨rfl, rfl⟩ := hp
  refine kk H1 locs1 ⟨hw.1.kept (fun k q hk => ?_), by rw [← ht]; exact hB.1, hw.2.2.1.kept (fun k q hk => ?_), hS⟩
  · have hlt := (hw.1 k q hk).lt
    obtain ⟨h1, rfl⟩ := u_w_inv hk
    exact hk1 _ hlt (fun h => by
      rcases h with ⟨i, hi, h⟩ | h
      · exact a3 k i h1 hi h.symm
      · exact absurd hlt (Nat.not_lt.mpr h))
  · have hlt := (hw.2.2.1 k q hk).lt
    have ho := n_o_inv hk
    exact hk1 _ hlt (fun h => by
      rcases h with ⟨i, hi, h⟩ | h
      · exact a5 i hi (h.trans ho)
      · exact absurd hlt (Nat.not_lt.mpr h))
theorem n_callCl (cx : n_C p s m args c own cc mL) (hK : u_K (D, cy, hc) s) (af : n_AF hc hm o s.heap.size) (hw : n_W D cy hc hm o σc σm ov s H locs) {idx n m2 h2 : Nat} {y2 : MethodName} {c2 : ByteArray} {As : List Value} {r : Int64} {σ' : uS} (hL : u_LV own idx RX11 y2 c2 m2 (some .long) n) (hM : u_Ml l ZC (D, cy, hc) y2 c2 m2 h2 (.ref (hc 0) :: As) σc r σ') (hf : h2 + 1 ≤ R.frames) (hlo : 40 * h2 + 40 ≤ R.locals) (hcs : cells ≤ R.cells ∧ slots ≤ R.slots) (hls : ls.size = mL) (hn : As.length = n) (hr8 : (rest.map fun v => v.category).sum ≤ 8) (hdg : decode cc pc = .ok (.invokevirtual idx, 3)) {st : List Value} (hst : st = As.reverse ++ .ref (hc 0) :: rest)
    (kk : ∀ (H1 : Heap) (locs1 : List Loc), n_W D cy hc hm o σ' σm ov s H1 locs1 → W p l e R s m args below meth c H1 locs1 cells slots Q (F0 m (pc + 3) ls (.long r :: rest))) : W p l e R s m args below meth c H locs cells slots Q (F0 m pc ls st) := by
  obtain ⟨hx, hb, hml, hown, hts⟩ := id cx
  obtain ⟨a1, a2, a3, a4, a5, a6, a7, a8⟩ := af
  have hA : ∀ q, u_A ZC (D, cy, hc) H.size q → s.heap.size ≤ q := fun q h => by
    rcases h with ⟨i, hi, rfl⟩ | h
    · exact a6 i hi
    · exact Nat.le_trans hw.2.2.2.1 h
  refine va_calll (va_runV (As := As) (rest := rest) ⟨hx, hb, hml, hown, hts⟩ (hM H.size) ⟨n_cb cx hL.1 hf hlo, hts _ hL.2.1, hts _ hL.2.2⟩ ⟨u_blind, va_recv hK.1 hw.1 (ci := 10) (q0 := 0) rfl (by rw [u_w_get o_X11.1, u_E_ob o_X11.2.1]), fun U hU hW => ⟨rfl, by rw [hU], by rw [hU]; exact hw.1, n_inj a1 (fun _ _ => trivial), u_K.warm hW hK⟩⟩ rfl hn hls hst (lv_room hr8) hdg hcs) hw.2.2.2 (fun q _ h => hA q h) hA (fun r2 u t H1 locs1 ht hvm hp hB hz1 hk1 hS => ?_)
  obtain ⟨rfl, rfl⟩ := hp
  refine kk H1 locs1 ⟨by rw [← ht]; exact hB.1, hw.2.1.kept (fun k q hk => ?_), hw.2.2.1.kept (fun k q hk => ?_), hS⟩
  · have hlt := (hw.2.1 k q hk).lt
    obtain ⟨h1, rfl⟩ := u_w_inv hk
    exact hk1 _ hlt (fun h => by
      rcases h with ⟨i, hi, h⟩ | h
      · exact a3 i k hi h1 h
      · exact absurd hlt (Nat.not_lt.mpr h))
  · have hlt := (hw.2.2.1 k q hk).lt
    have ho := n_o_inv hk
    exact hk1 _ hlt (fun h => by
      rcases h with ⟨i, hi, h⟩ | h
      · exact a4 i hi (h.trans ho)
      · exact absurd hlt (Nat.not_lt.mpr h))
theorem n_callMl (cx : n_C p s m args c own cc mL) (hK : u_K (D, cy, hm) s) (af : n_AF hc hm o s.heap.size) (hw : n_W D cy hc hm o σc σm ov s H locs) {idx n m2 h2 : Nat} {y2 : MethodName} {c2 : ByteArray} {As : List Value} {r : Int64} {σ' : uS} (hL : u_LV own idx RX12 y2 c2 m2 (some .long) n) (hM : u_Ml l ZM (D, cy, hm) y2 c2 m2 h2 (.ref (hm 0) :: As) σm r σ') (hf : h2 + 1 ≤ R.frames) (hlo : 40 * h2 + 40 ≤ R.locals) (hcs : cells ≤ R.cells ∧ slots ≤ R.slots) (hls : ls.size = mL) (hn : As.length = n) (hr8 : (rest.map fun v => v.category).sum ≤ 8) (hdg : decode cc pc = .ok (.invokevirtual idx, 3)) {st : List Value} (hst : st = As.reverse ++ .ref (hm 0) :: rest)
    (kk : ∀ (H1 : Heap) (locs1 : List Loc), n_W D cy hc hm o σc σ' ov s H1 locs1 → W p l e R s m args below meth c H1 locs1 cells slots Q (F0 m (pc + 3) ls (.long r :: rest))) : W p l e R s m args below meth c H locs cells slots Q (F0 m pc ls st) := by
  obtain ⟨hx, hb, hml, hown, hts⟩ := id cx
  obtain ⟨a1, a2, a3, a4, a5, a6, a7, a8⟩ := af
  have hA : ∀ q, u_A ZM (D, cy, hm) H.size q → s.heap.size ≤ q := fun q h => by
    rcases h with ⟨i, hi, rfl⟩ | h
    · exact a7 i hi
    · exact Nat.le_trans hw.2.2.2.1 h
  refine va_calll (va_runV (As := As) (rest := rest) ⟨hx, hb, hml, hown, hts⟩ (hM H.size) ⟨n_cb cx hL.1 hf hlo, hts _ hL.2.1, hts _ hL.2.2⟩ ⟨u_blind, va_recv hK.1 hw.2.1 (ci := 11) (q0 := 0) rfl (by rw [u_w_get o_X12.1, u_E_ob o_X12.2.1]), fun U hU hW => ⟨rfl, by rw [hU], by rw [hU]; exact hw.2.1, n_inj a2 (fun _ _ => trivial), u_K.warm hW hK⟩⟩ rfl hn hls hst (lv_room hr8) hdg hcs) hw.2.2.2 (fun q _ h => hA q h) hA (fun r2 u t H1 locs1 ht hvm hp hB hz1 hk1 hS => ?_)
  obtain ⟨rfl, rfl⟩ := hp
  refine kk H1 locs1 ⟨hw.1.kept (fun k q hk => ?_), by rw [← ht]; exact hB.1, hw.2.2.1.kept (fun k q hk => ?_), hS⟩
  · have hlt := (hw.1 k q hk).lt
    obtain ⟨h1, rfl⟩ := u_w_inv hk
    exact hk1 _ hlt (fun h => by
      rcases h with ⟨i, hi, h⟩ | h
      · exact a3 k i h1 hi h.symm
      · exact absurd hlt (Nat.not_lt.mpr h))
  · have hlt := (hw.2.2.1 k q hk).lt
    have ho := n_o_inv hk
    exact hk1 _ hlt (fun h => by
      rcases h with ⟨i, hi, h⟩ | h
      · exact a5 i hi (h.trans ho)
      · exact absurd hlt (Nat.not_lt.mpr h))
end NR
