/-! THE LAW, its cases -/
def n_q {α : Type} (zo : Option α) (t : Int32) (v : α) : Prop := match zo with | none => t = 1 | some r => t = 0 ∧ r = v
theorem n_cmp (x : Int64) : lg_cmp x x = 0 := by
  unfold lg_cmp
  rw [if_neg (by show ¬ (x < x); exact Int64.lt_irrefl), if_pos rfl]
theorem n_updL (f : Nat → Int64) (x : Int64) : vp_updL f 0 x 0 = x := by simp [vp_updL]
abbrev n_lv (hc hm : Nat → Nat) (b o : Nat) (i : Int32) : List (Nat × Value) := [(0, .ref b), (1, .ref (hc 0)), (2, .ref (hm 0)), (3, .ref o), (4, .int i)]
/-- what holds in the law from its loop on -/
def n_L (p : Program) (l : Launch) (s : State) (m : MethodId) (args : Array Value) (c : Code) (D : va_G) (cy : Nat → ClassId) (hc hm : Nat → Nat) (o b L : Nat) (xs : Nat → Int32) : Prop := n_C p s m args c RL cL_law 8 ∧ l.stackTraces = false ∧ x_K (D, cy, hc) (fun q => s.heap.size ≤ q) s ∧ n_AF hc hm o s.heap.size ∧ va_X b L xs s s.heap ∧ b < s.heap.size
section NL
variable {p : Program} {l : Launch} {e : Env} {s : State} {m : MethodId} {args : Array Value} {below : List Frame} {meth : Method} {c : Code} {H : Heap} {locs : List Loc} {cells slots : Nat} {Q : State → Prop}
variable {D : va_G} {cy : Nat → ClassId} {hc hm : Nat → Nat} {o b L : Nat} {xs : Nat → Int32} {σc σm : uS} {ov : Nat → Int64} {pc : Nat} {ls : Array Slot} {rest : List Value} {i : Int32}
/-- a helper is called -/
theorem n_callH (C : n_L p l s m args c D cy hc hm o b L xs) (hw : n_W D cy hc hm o σc σm ov s H locs) {idx n m2 : Nat} {hh : List (Nat × Nat × Nat × Nat)} {y2 : MethodName} {c2 : ByteArray} {As : List Value} {r : Int32} {w : uS × (Nat → Int64)} (h1 : Cond.methodLink RL idx y2 ∈ u_big) (h2 : Cond.static y2 ∈ u_big) (h3 : Cond.codeWith y2 c2 m2 (some .int) hh ∈ u_big) (h4 : y2.cls = RL) (h5 : y2.cls ≠ "java/lang/invoke/MethodHandle" ∧ y2.cls ≠ "java/lang/invoke/VarHandle" ∧ (parseMethodDescriptor y2.desc).map (fun d => d.parameters.length) = some n) (h6 : m2 ≤ 21) (hM : n_Mh l y2 c2 m2 hh 7 As (D, cy, hc) σc o ov r w) (hcs : cells + 1 ≤ room_1.cells ∧ slots + 6 ≤ room_1.slots) (hls : ls.size = 8) (hn : As.length = n) (hdg : decode cL_law pc = .ok (.invokestatic idx, 3)) {st : List Value} (hst : st = As.reverse ++ [])
    (kk : ∀ (H1 : Heap) (locs1 : List Loc), n_W D cy hc hm o w.1 σm w.2 s H1 locs1 → W p l e room_1 s m args below meth c H1 locs1 (cells + 1) (slots + 6) Q (F0 m (pc + 3) ls [.int r])) : W p l e room_1 s m args below meth c H locs cells slots Q (F0 m pc ls st) := by
  obtain ⟨cx, hl0, hxk, af, hX, hbl⟩ := C
  obtain ⟨hx, hb, hml, hown, hts⟩ := id cx
  obtain ⟨a1, a2, a3, a4, a5, a6, a7, a8⟩ := id af
  have hA : ∀ q, n_hA (D, cy, hc) o H.size q → s.heap.size ≤ q := fun q h => by
    rcases h with (⟨i, hi, rfl⟩ | h) | rfl
    · exact a6 i hi
    · exact Nat.le_trans hw.2.2.2.1 h
    · exact a8
  have hgood : GoodIn u_big (n_hws y2 c2 m2 hh) := fun w hw => by
    have hm : w ∈ u_big := (List.mem_cons.mp hw).elim (fun e => by rw [e]; exact h3) id
    exact ⟨hm, u_good w hm⟩
  refine vx_calli (vx_runSX (hh := hh) (bytes := c2) (maxL := m2) (ret := some .int) (ws := n_hws y2 c2 m2 hh) (rm := k_rm 7 1 6) (As := As) (rest := []) ⟨hx, hb, hml, hown, hts⟩ (hM H.size) ⟨⟨rfl, rfl, by decide, by show 8 + (m2 + 11) + 40 * 7 ≤ 84000; omega, pay_in hts hgood, List.mem_cons_self⟩, hts _ h3, by rw [h4]; exact hts _ q_0, ⟨h5.1, h5.2.1⟩, fun sig h => by have h9 := h5.2.2; rw [h] at h9; exact (Option.some.inj h9).symm, hts _ h1, hts _ h2⟩ ⟨n_hblind, fun U hU hW => ⟨rfl, by rw [hU], by rw [hU]; exact hw.1, by rw [hU]; exact hw.2.2.1, a1, a4, x_K.to hW (fun q g1 g2 => by rw [hU]; exact hw.2.2.2.2.1 q g1 g2) hA hxk⟩⟩ rfl hn hls hst (lv_room (Nat.le_of_ble_eq_true rfl)) hdg hcs) hw.2.2.2 (fun q _ h => hA q h) hA (fun q _ h => h.elim) (fun E ce q9 u t H1 locs1 ht hvm hpx hBX hz1 hk1 hS hce hcv hcl => hpx.elim) (fun r2 u t H1 locs1 ht hvm hp hB hz1 hk1 hS => ?_)
  obtain ⟨rfl, rfl⟩ := hp
  refine kk H1 locs1 ⟨by rw [← ht]; exact hB.1, hw.2.1.kept (fun k q hk => ?_), by rw [← ht]; exact hB.2, hS⟩
  have hlt := (hw.2.1 k q hk).lt
  obtain ⟨h1, rfl⟩ := u_w_inv hk
  exact hk1 _ hlt (fun h => by
    rcases h with (⟨i, hi, h⟩ | h) | h
    · exact a3 i k hi h1 h
    · exact absurd hlt (Nat.not_lt.mpr h)
    · exact a5 k h1 h)
theorem n_k0 (C : n_L p l s m args c D cy hc hm o b L xs) (hi : ∀ j : Int32, 0 ≤ j → j ≤ 4 → vp_in (i + j) L) (hcs : cells + 1 ≤ room_1.cells ∧ slots + 6 ≤ room_1.slots) (hw : n_W D cy hc hm o σc σm ov s H locs) (hl : lv_has ls 8 (n_lv hc hm b o i)) (N : Nat) (zc : (Int32 × uS)) (zm : (Int32 × uS)) (hzc : f_X11_sign N σc (xs (i + 1).toNatClampNeg) = some zc) (hzm : f_X12_sign N σm (xs (i + 1).toNatClampNeg) = some zm) (heq : zc.1 = zm.1) (kk : ∀ (H1 : Heap) (locs1 : List Loc) (ls1 : Array Slot) (ov1 : Nat → Int64), lv_has ls1 8 (n_lv hc hm b o i) → n_W D cy hc hm o zc.2 zm.2 ov1 s H1 locs1 → W p l e room_1 s m args below meth c H1 locs1 (cells + 1) (slots + 6) Q (F0 m 1560 ls1 [])) : W p l e room_1 s m args below meth c H locs cells slots Q (F0 m 244 ls []) := by
  obtain ⟨cx, hl0, hxk, af, hX, hbl⟩ := id C
  obtain ⟨hx, hb, hml, hown, hts⟩ := id cx
  have hK := hxk.1
  have hKm : u_K (D, cy, hm) s := hK
  refine lv_aload_n hx hb dL_law_244 rfl (lv_at hl 1 rfl) ?_
  refine lv_aload_n hx hb dL_law_245 rfl (lv_at hl 0 rfl) ?_
  refine lv_iload hx hb dL_law_246 (lv_at hl 4 rfl) ?_
  refine lv_iconst (v := 1) hx hb dL_law_248 (by decide) ?_
  refine lv_iadd hx hb dL_law_249 ?_
  refine va_sld hx hb hX hbl (Nat.not_le.mpr hbl) hw.2.2.2 (hi 1 (by decide) (by decide)) dL_law_250 ?_
  refine n_callCi (As := [.int (xs (i + 1).toNatClampNeg)]) (rest := []) cx hK af hw LVx_L_26 (c_X11_sign l (D, cy, hc) N σc (xs (i + 1).toNatClampNeg) zc hzc) (by decide) (by decide) ⟨by omega, by omega⟩ hl.1 rfl (Nat.le_of_ble_eq_true rfl) dL_law_251 rfl (fun H locs hw => ?_)
  refine lv_aload_n hx hb dL_law_254 rfl (lv_at hl 2 rfl) ?_
  refine lv_aload_n hx hb dL_law_255 rfl (lv_at hl 0 rfl) ?_
  refine lv_iload hx hb dL_law_256 (lv_at hl 4 rfl) ?_
  refine lv_iconst (v := 1) hx hb dL_law_258 (by decide) ?_
  refine lv_iadd hx hb dL_law_259 ?_
  refine va_sld hx hb hX hbl (Nat.not_le.mpr hbl) hw.2.2.2 (hi 1 (by decide) (by decide)) dL_law_260 ?_
  refine n_callMi (As := [.int (xs (i + 1).toNatClampNeg)]) (rest := [.int zc.1]) cx hKm af hw LVx_L_30 (c_X12_sign l (D, cy, hm) N σm (xs (i + 1).toNatClampNeg) zm hzm) (by decide) (by decide) ⟨by omega, by omega⟩ hl.1 rfl (Nat.le_of_ble_eq_true rfl) dL_law_261 rfl (fun H locs hw => ?_)
  refine lv_icmp_eq (tgt := 1560) hx hb dL_law_264 (by decide) (fun _ => ?_) (fun hne => absurd heq hne)
  exact W.widen (by omega) (by omega) (kk H locs ls ov hl hw)
theorem n_k1 (C : n_L p l s m args c D cy hc hm o b L xs) (hi : ∀ j : Int32, 0 ≤ j → j ≤ 4 → vp_in (i + j) L) (hcs : cells + 1 ≤ room_1.cells ∧ slots + 6 ≤ room_1.slots) (hw : n_W D cy hc hm o σc σm ov s H locs) (hl : lv_has ls 8 (n_lv hc hm b o i)) (N : Nat) (zc : (Int32 × uS)) (zm : (Int32 × uS)) (hzc : f_X11_end N σc (xs (i + 1).toNatClampNeg) = some zc) (hzm : f_X12_end N σm (xs (i + 1).toNatClampNeg) = some zm) (heq : zc.1 = zm.1) (kk : ∀ (H1 : Heap) (locs1 : List Loc) (ls1 : Array Slot) (ov1 : Nat → Int64), lv_has ls1 8 (n_lv hc hm b o i) → n_W D cy hc hm o zc.2 zm.2 ov1 s H1 locs1 → W p l e room_1 s m args below meth c H1 locs1 (cells + 1) (slots + 6) Q (F0 m 1560 ls1 [])) : W p l e room_1 s m args below meth c H locs cells slots Q (F0 m 269 ls []) := by
  obtain ⟨cx, hl0, hxk, af, hX, hbl⟩ := id C
  obtain ⟨hx, hb, hml, hown, hts⟩ := id cx
  have hK := hxk.1
  have hKm : u_K (D, cy, hm) s := hK
  refine lv_aload_n hx hb dL_law_269 rfl (lv_at hl 1 rfl) ?_
  refine lv_aload_n hx hb dL_law_270 rfl (lv_at hl 0 rfl) ?_
  refine lv_iload hx hb dL_law_271 (lv_at hl 4 rfl) ?_
  refine lv_iconst (v := 1) hx hb dL_law_273 (by decide) ?_
  refine lv_iadd hx hb dL_law_274 ?_
  refine va_sld hx hb hX hbl (Nat.not_le.mpr hbl) hw.2.2.2 (hi 1 (by decide) (by decide)) dL_law_275 ?_
  refine n_callCi (As := [.int (xs (i + 1).toNatClampNeg)]) (rest := []) cx hK af hw LVx_L_31 (c_X11_end l (D, cy, hc) N σc (xs (i + 1).toNatClampNeg) zc hzc) (by decide) (by decide) ⟨by omega, by omega⟩ hl.1 rfl (Nat.le_of_ble_eq_true rfl) dL_law_276 rfl (fun H locs hw => ?_)
  refine lv_aload_n hx hb dL_law_279 rfl (lv_at hl 2 rfl) ?_
  refine lv_aload_n hx hb dL_law_280 rfl (lv_at hl 0 rfl) ?_
  refine lv_iload hx hb dL_law_281 (lv_at hl 4 rfl) ?_
  refine lv_iconst (v := 1) hx hb dL_law_283 (by decide) ?_
  refine lv_iadd hx hb dL_law_284 ?_
  refine va_sld hx hb hX hbl (Nat.not_le.mpr hbl) hw.2.2.2 (hi 1 (by decide) (by decide)) dL_law_285 ?_
  refine n_callMi (As := [.int (xs (i + 1).toNatClampNeg)]) (rest := [.int zc.1]) cx hKm af hw LVx_L_35 (c_X12_end l (D, cy, hm) N σm (xs (i + 1).toNatClampNeg) zm hzm) (by decide) (by decide) ⟨by omega, by omega⟩ hl.1 rfl (Nat.le_of_ble_eq_true rfl) dL_law_286 rfl (fun H locs hw => ?_)
  refine lv_icmp_eq (tgt := 1560) hx hb dL_law_289 (by decide) (fun _ => ?_) (fun hne => absurd heq hne)
  exact W.widen (by omega) (by omega) (kk H locs ls ov hl hw)
theorem n_k2 (C : n_L p l s m args c D cy hc hm o b L xs) (hi : ∀ j : Int32, 0 ≤ j → j ≤ 4 → vp_in (i + j) L) (hcs : cells + 1 ≤ room_1.cells ∧ slots + 6 ≤ room_1.slots) (hw : n_W D cy hc hm o σc σm ov s H locs) (hl : lv_has ls 8 (n_lv hc hm b o i)) (N : Nat) (zc : (Int32 × uS)) (zm : (Int32 × uS)) (hzc : f_X11_field N σc  = some zc) (hzm : f_X12_field N σm  = some zm) (heq : zc.1 = zm.1) (kk : ∀ (H1 : Heap) (locs1 : List Loc) (ls1 : Array Slot) (ov1 : Nat → Int64), lv_has ls1 8 (n_lv hc hm b o i) → n_W D cy hc hm o zc.2 zm.2 ov1 s H1 locs1 → W p l e room_1 s m args below meth c H1 locs1 (cells + 1) (slots + 6) Q (F0 m 1560 ls1 [])) : W p l e room_1 s m args below meth c H locs cells slots Q (F0 m 294 ls []) := by
  obtain ⟨cx, hl0, hxk, af, hX, hbl⟩ := id C
  obtain ⟨hx, hb, hml, hown, hts⟩ := id cx
  have hK := hxk.1
  have hKm : u_K (D, cy, hm) s := hK
  refine lv_aload_n hx hb dL_law_294 rfl (lv_at hl 1 rfl) ?_
  refine n_callCi (As := []) (rest := []) cx hK af hw LVx_L_36 (c_X11_field l (D, cy, hc) N σc  zc hzc) (by decide) (by decide) ⟨by omega, by omega⟩ hl.1 rfl (Nat.le_of_ble_eq_true rfl) dL_law_295 rfl (fun H locs hw => ?_)
  refine lv_aload_n hx hb dL_law_298 rfl (lv_at hl 2 rfl) ?_
  refine n_callMi (As := []) (rest := [.int zc.1]) cx hKm af hw LVx_L_40 (c_X12_field l (D, cy, hm) N σm  zm hzm) (by decide) (by decide) ⟨by omega, by omega⟩ hl.1 rfl (Nat.le_of_ble_eq_true rfl) dL_law_299 rfl (fun H locs hw => ?_)
  refine lv_icmp_eq (tgt := 1560) hx hb dL_law_302 (by decide) (fun _ => ?_) (fun hne => absurd heq hne)
  exact W.widen (by omega) (by omega) (kk H locs ls ov hl hw)
theorem n_k3 (C : n_L p l s m args c D cy hc hm o b L xs) (hi : ∀ j : Int32, 0 ≤ j → j ≤ 4 → vp_in (i + j) L) (hcs : cells + 1 ≤ room_1.cells ∧ slots + 6 ≤ room_1.slots) (hw : n_W D cy hc hm o σc σm ov s H locs) (hl : lv_has ls 8 (n_lv hc hm b o i)) (N : Nat) (zc : (Int32 × uS)) (zm : (Int32 × uS)) (hzc : f_X11_people N σc  = some zc) (hzm : f_X12_people N σm  = some zm) (heq : zc.1 = zm.1) (kk : ∀ (H1 : Heap) (locs1 : List Loc) (ls1 : Array Slot) (ov1 : Nat → Int64), lv_has ls1 8 (n_lv hc hm b o i) → n_W D cy hc hm o zc.2 zm.2 ov1 s H1 locs1 → W p l e room_1 s m args below meth c H1 locs1 (cells + 1) (slots + 6) Q (F0 m 1560 ls1 [])) : W p l e room_1 s m args below meth c H locs cells slots Q (F0 m 307 ls []) := by
  obtain ⟨cx, hl0, hxk, af, hX, hbl⟩ := id C
  obtain ⟨hx, hb, hml, hown, hts⟩ := id cx
  have hK := hxk.1
  have hKm : u_K (D, cy, hm) s := hK
  refine lv_aload_n hx hb dL_law_307 rfl (lv_at hl 1 rfl) ?_
  refine n_callCi (As := []) (rest := []) cx hK af hw LVx_L_41 (c_X11_people l (D, cy, hc) N σc  zc hzc) (by decide) (by decide) ⟨by omega, by omega⟩ hl.1 rfl (Nat.le_of_ble_eq_true rfl) dL_law_308 rfl (fun H locs hw => ?_)
  refine lv_aload_n hx hb dL_law_311 rfl (lv_at hl 2 rfl) ?_
  refine n_callMi (As := []) (rest := [.int zc.1]) cx hKm af hw LVx_L_44 (c_X12_people l (D, cy, hm) N σm  zm hzm) (by decide) (by decide) ⟨by omega, by omega⟩ hl.1 rfl (Nat.le_of_ble_eq_true rfl) dL_law_312 rfl (fun H locs hw => ?_)
  refine lv_icmp_eq (tgt := 1560) hx hb dL_law_315 (by decide) (fun _ => ?_) (fun hne => absurd heq hne)
  exact W.widen (by omega) (by omega) (kk H locs ls ov hl hw)
theorem n_k4 (C : n_L p l s m args c D cy hc hm o b L xs) (hi : ∀ j : Int32, 0 ≤ j → j ≤ 4 → vp_in (i + j) L) (hcs : cells + 1 ≤ room_1.cells ∧ slots + 6 ≤ room_1.slots) (hw : n_W D cy hc hm o σc σm ov s H locs) (hl : lv_has ls 8 (n_lv hc hm b o i)) (N : Nat) (zc : (Int32 × uS)) (zm : (Int32 × uS)) (hzc : f_X11_rule N σc  = some zc) (hzm : f_X12_rule N σm  = some zm) (heq : zc.1 = zm.1) (kk : ∀ (H1 : Heap) (locs1 : List Loc) (ls1 : Array Slot) (ov1 : Nat → Int64), lv_has ls1 8 (n_lv hc hm b o i) → n_W D cy hc hm o zc.2 zm.2 ov1 s H1 locs1 → W p l e room_1 s m args below meth c H1 locs1 (cells + 1) (slots + 6) Q (F0 m 1560 ls1 [])) : W p l e room_1 s m args below meth c H locs cells slots Q (F0 m 320 ls []) := by
  obtain ⟨cx, hl0, hxk, af, hX, hbl⟩ := id C
  obtain ⟨hx, hb, hml, hown, hts⟩ := id cx
  have hK := hxk.1
  have hKm : u_K (D, cy, hm) s := hK
  refine lv_aload_n hx hb dL_law_320 rfl (lv_at hl 1 rfl) ?_
  refine n_callCi (As := []) (rest := []) cx hK af hw LVx_L_45 (c_X11_rule l (D, cy, hc) N σc  zc hzc) (by decide) (by decide) ⟨by omega, by omega⟩ hl.1 rfl (Nat.le_of_ble_eq_true rfl) dL_law_321 rfl (fun H locs hw => ?_)
  refine lv_aload_n hx hb dL_law_324 rfl (lv_at hl 2 rfl) ?_
  refine n_callMi (As := []) (rest := [.int zc.1]) cx hKm af hw LVx_L_48 (c_X12_rule l (D, cy, hm) N σm  zm hzm) (by decide) (by decide) ⟨by omega, by omega⟩ hl.1 rfl (Nat.le_of_ble_eq_true rfl) dL_law_325 rfl (fun H locs hw => ?_)
  refine lv_icmp_eq (tgt := 1560) hx hb dL_law_328 (by decide) (fun _ => ?_) (fun hne => absurd heq hne)
  exact W.widen (by omega) (by omega) (kk H locs ls ov hl hw)
theorem n_w5 : Cond.methodLink RL 49 yL_furrow ∈ u_big ∧ Cond.static yL_furrow ∈ u_big ∧ Cond.codeWith yL_furrow cL_furrow 5 (some .int) [(0, 10, 13, 13)] ∈ u_big := ⟨u_t5 (i := 33) rfl rfl, u_t5 (i := 34) rfl rfl, u_t5 (i := 35) rfl rfl⟩
theorem n_k5_ (C : n_L p l s m args c D cy hc hm o b L xs) (hi : ∀ j : Int32, 0 ≤ j → j ≤ 4 → vp_in (i + j) L) (hcs : cells + 1 ≤ room_1.cells ∧ slots + 6 ≤ room_1.slots) (hw : n_W D cy hc hm o σc σm ov s H locs) (hl : lv_has ls 8 (n_lv hc hm b o i)) (N : Nat) (σc1 : uS) (zm : (Int32 × uS)) (zt : Int32) (kr : Int32) (ov1 : Nat → Int64) (hM : n_Mh l yL_furrow cL_furrow 5 [(0, 10, 13, 13)] 7 [.ref (hc 0), .int (xs (i + 1).toNatClampNeg), .int (xs (i + 2).toNatClampNeg), .ref o] (D, cy, hc) σc o ov kr (σc1, ov1)) (hval : kr = 0 → lg_cmp (ov1 0) (Int32.toInt64 zm.1) = 0) (hzm : f_X12_furrow N σm (xs (i + 1).toNatClampNeg) (xs (i + 2).toNatClampNeg) = some zm) (hzt : f_X12_thrown N zm.2 = some zt) (hth : zt = kr) (kk : ∀ (H1 : Heap) (locs1 : List Loc) (ls1 : Array Slot) (ov1 : Nat → Int64), lv_has ls1 8 (n_lv hc hm b o i) → n_W D cy hc hm o σc1 zm.2 ov1 s H1 locs1 → W p l e room_1 s m args below meth c H1 locs1 (cells + 1) (slots + 6) Q (F0 m 1560 ls1 [])) : W p l e room_1 s m args below meth c H locs cells slots Q (F0 m 333 ls []) := by
  obtain ⟨cx, hl0, hxk, af, hX, hbl⟩ := id C
  obtain ⟨hx, hb, hml, hown, hts⟩ := id cx
  have hK := hxk.1
  have hKm : u_K (D, cy, hm) s := hK
  refine lv_aload_n hx hb dL_law_333 rfl (lv_at hl 1 rfl) ?_
  refine lv_aload_n hx hb dL_law_334 rfl (lv_at hl 0 rfl) ?_
  refine lv_iload hx hb dL_law_335 (lv_at hl 4 rfl) ?_
  refine lv_iconst (v := 1) hx hb dL_law_337 (by decide) ?_
  refine lv_iadd hx hb dL_law_338 ?_
  refine va_sld hx hb hX hbl (Nat.not_le.mpr hbl) hw.2.2.2 (hi 1 (by decide) (by decide)) dL_law_339 ?_
  refine lv_aload_n hx hb dL_law_340 rfl (lv_at hl 0 rfl) ?_
  refine lv_iload hx hb dL_law_341 (lv_at hl 4 rfl) ?_
  refine lv_iconst (v := 2) hx hb dL_law_343 (by decide) ?_
  refine lv_iadd hx hb dL_law_344 ?_
  refine va_sld hx hb hX hbl (Nat.not_le.mpr hbl) hw.2.2.2 (hi 2 (by decide) (by decide)) dL_law_345 ?_
  refine lv_aload_n hx hb dL_law_346 rfl (lv_at hl 3 rfl) ?_
  refine n_callH (n := 4) (As := [.ref (hc 0), .int (xs (i + 1).toNatClampNeg), .int (xs (i + 2).toNatClampNeg), .ref o]) C hw n_w5.1 n_w5.2.1 n_w5.2.2 rfl ⟨by decide +kernel, by decide +kernel, by decide +kernel⟩ (by decide) hM hcs hl.1 rfl dL_law_347 rfl (fun H locs hw => ?_)
  refine lv_istore (lv' := (5, .int kr) :: n_lv hc hm b o i) hx hb dL_law_350 hl (by decide) rfl (fun ls hl => ?_)
  refine lv_aload_n hx hb dL_law_352 rfl (lv_at hl 3 rfl) ?_
  refine lv_aload_n hx hb dL_law_353 rfl (lv_at hl 1 rfl) ?_
  refine lv_iload hx hb dL_law_354 (lv_at hl 5 rfl) ?_
  refine lv_iconst (v := 1) hx hb dL_law_356 (by decide) ?_
  refine lv_iadd hx hb dL_law_357 ?_
  refine va_sld hx hb hX hbl (Nat.not_le.mpr hbl) hw.2.2.2 (hi 1 (by decide) (by decide)) dL_law_358 ?_
  refine lv_aload_n hx hb dL_law_359 rfl (lv_at hl 1 rfl) ?_
  refine lv_iload hx hb dL_law_360 (lv_at hl 5 rfl) ?_
  refine lv_iconst (v := 2) hx hb dL_law_362 (by decide) ?_
  refine lv_iadd hx hb dL_law_363 ?_
  refine va_sld hx hb hX hbl (Nat.not_le.mpr hbl) hw.2.2.2 (hi 2 (by decide) (by decide)) dL_law_364 ?_
  refine n_callMi (As := [.int (xs (i + 1).toNatClampNeg), .int (xs (i + 2).toNatClampNeg)]) (rest := []) cx hKm af hw LVx_L_54 (c_X12_furrow l (D, cy, hm) N σm (xs (i + 1).toNatClampNeg) (xs (i + 2).toNatClampNeg) zm hzm) (by decide) (by decide) hcs hl.1 rfl (Nat.le_of_ble_eq_true rfl) dL_law_365 rfl (fun H locs hw => ?_)
  refine lv_istore (lv' := (6, .int zm.1) :: (5, .int kr) :: n_lv hc hm b o i) hx hb dL_law_368 hl (by decide) rfl (fun ls hl => ?_)
  refine lv_aload_n hx hb dL_law_370 rfl (lv_at hl 4 rfl) ?_
  refine n_callMi (As := []) (rest := []) cx hKm af hw LVx_L_55 (c_X12_thrown l (D, cy, hm) N zm.2 zt hzt) (by decide) (by decide) hcs hl.1 rfl (Nat.le_of_ble_eq_true rfl) dL_law_371 rfl (fun H locs hw => ?_)
  refine lv_iload hx hb dL_law_374 (lv_at hl 1 rfl) ?_
  refine lv_icmp_eq (tgt := 381) hx hb dL_law_376 (by decide) (fun _ => ?_) (fun hne => absurd hth hne)
  refine lv_iload hx hb dL_law_381 (lv_at hl 1 rfl) ?_
  refine lv_if_ne (tgt := 398) hx hb dL_law_383 (by decide) (fun hne => ?_) (fun h0 => ?_)
  · refine lv_goto (tgt := 1560) hx hb dL_law_398 (by decide) ?_
    exact kk H locs ls _ (lv_sub hl [2, 3, 4, 5, 6] rfl) hw
  · refine lv_aload_n hx hb dL_law_386 rfl (lv_at hl 5 rfl) ?_
    refine lv_iconst (v := 0) hx hb dL_law_387 (by decide) ?_
    refine va_lald (D := D) (cl := vwCl) hx hb hK.1 hw.2.2.1 0 1 (f := ov1) rfl rfl (by unfold vp_in; decide) dL_law_388 ?_
    refine lv_iload hx hb dL_law_389 (lv_at hl 0 rfl) ?_
    refine lv_i2l (v := Int32.toInt64 zm.1) hx hb dL_law_391 rfl ?_
    refine W.lcmp hx hb dL_law_392 ?_
    refine lv_if_eq (tgt := 398) hx hb dL_law_393 (by decide) (fun _ => ?_) (fun hne => absurd (hval h0) hne)
    refine lv_goto (tgt := 1560) hx hb dL_law_398 (by decide) ?_
    exact kk H locs ls _ (lv_sub hl [2, 3, 4, 5, 6] rfl) hw
theorem n_k5 (C : n_L p l s m args c D cy hc hm o b L xs) (hi : ∀ j : Int32, 0 ≤ j → j ≤ 4 → vp_in (i + j) L) (hcs : cells + 1 ≤ room_1.cells ∧ slots + 6 ≤ room_1.slots) (hw : n_W D cy hc hm o σc σm ov s H locs) (hl : lv_has ls 8 (n_lv hc hm b o i)) (N : Nat) (zo : Option Int32) (σc1 : uS) (zm : (Int32 × uS)) (zt : Int32) (hzc : f_X11_furrow N σc (xs (i + 1).toNatClampNeg) (xs (i + 2).toNatClampNeg) = some (zo, σc1)) (hzm : f_X12_furrow N σm (xs (i + 1).toNatClampNeg) (xs (i + 2).toNatClampNeg) = some zm) (hzt : f_X12_thrown N zm.2 = some zt) (hq : n_q zo zt zm.1) (kk : ∀ (H1 : Heap) (locs1 : List Loc) (ls1 : Array Slot) (ov1 : Nat → Int64), lv_has ls1 8 (n_lv hc hm b o i) → n_W D cy hc hm o σc1 zm.2 ov1 s H1 locs1 → W p l e room_1 s m args below meth c H1 locs1 (cells + 1) (slots + 6) Q (F0 m 1560 ls1 [])) : W p l e room_1 s m args below meth c H locs cells slots Q (F0 m 333 ls []) := by
  obtain ⟨cx, hl0, hxk, af, hX, hbl⟩ := id C
  cases zo with
  | none => exact n_k5_ C hi hcs hw hl N σc1 zm zt 1 ov (c_L_furrow l hl0 (D, cy, hc) N σc o ov (xs (i + 1).toNatClampNeg) (xs (i + 2).toNatClampNeg) (none, σc1) hzc) (fun h => absurd h (by decide)) hzm hzt hq kk
  | some r =>
    obtain ⟨h1, h2⟩ := hq
    exact n_k5_ C hi hcs hw hl N σc1 zm zt 0 (vp_updL ov 0 (Int32.toInt64 r)) (c_L_furrow l hl0 (D, cy, hc) N σc o ov (xs (i + 1).toNatClampNeg) (xs (i + 2).toNatClampNeg) (some r, σc1) hzc) (fun _ => by rw [n_updL, h2]; exact n_cmp _) hzm hzt h1 kk
theorem n_w6 : Cond.methodLink RL 58 yL_person ∈ u_big ∧ Cond.static yL_person ∈ u_big ∧ Cond.codeWith yL_person cL_person 5 (some .int) [(0, 10, 13, 13)] ∈ u_big := ⟨u_t5 (i := 107) rfl rfl, u_t5 (i := 108) rfl rfl, u_t5 (i := 109) rfl rfl⟩
theorem n_k6_ (C : n_L p l s m args c D cy hc hm o b L xs) (hi : ∀ j : Int32, 0 ≤ j → j ≤ 4 → vp_in (i + j) L) (hcs : cells + 1 ≤ room_1.cells ∧ slots + 6 ≤ room_1.slots) (hw : n_W D cy hc hm o σc σm ov s H locs) (hl : lv_has ls 8 (n_lv hc hm b o i)) (N : Nat) (σc1 : uS) (zm : (Int32 × uS)) (zt : Int32) (kr : Int32) (ov1 : Nat → Int64) (hM : n_Mh l yL_person cL_person 5 [(0, 10, 13, 13)] 7 [.ref (hc 0), .int (xs (i + 1).toNatClampNeg), .int (xs (i + 2).toNatClampNeg), .ref o] (D, cy, hc) σc o ov kr (σc1, ov1)) (hval : kr = 0 → lg_cmp (ov1 0) (Int32.toInt64 zm.1) = 0) (hzm : f_X12_person N σm (xs (i + 1).toNatClampNeg) (xs (i + 2).toNatClampNeg) = some zm) (hzt : f_X12_thrown N zm.2 = some zt) (hth : zt = kr) (kk : ∀ (H1 : Heap) (locs1 : List Loc) (ls1 : Array Slot) (ov1 : Nat → Int64), lv_has ls1 8 (n_lv hc hm b o i) → n_W D cy hc hm o σc1 zm.2 ov1 s H1 locs1 → W p l e room_1 s m args below meth c H1 locs1 (cells + 1) (slots + 6) Q (F0 m 1560 ls1 [])) : W p l e room_1 s m args below meth c H locs cells slots Q (F0 m 401 ls []) := by
  obtain ⟨cx, hl0, hxk, af, hX, hbl⟩ := id C
  obtain ⟨hx, hb, hml, hown, hts⟩ := id cx
  have hK := hxk.1
  have hKm : u_K (D, cy, hm) s := hK
  refine lv_aload_n hx hb dL_law_401 rfl (lv_at hl 1 rfl) ?_
  refine lv_aload_n hx hb dL_law_402 rfl (lv_at hl 0 rfl) ?_
  refine lv_iload hx hb dL_law_403 (lv_at hl 4 rfl) ?_
  refine lv_iconst (v := 1) hx hb dL_law_405 (by decide) ?_
  refine lv_iadd hx hb dL_law_406 ?_
  refine va_sld hx hb hX hbl (Nat.not_le.mpr hbl) hw.2.2.2 (hi 1 (by decide) (by decide)) dL_law_407 ?_
  refine lv_aload_n hx hb dL_law_408 rfl (lv_at hl 0 rfl) ?_
  refine lv_iload hx hb dL_law_409 (lv_at hl 4 rfl) ?_
  refine lv_iconst (v := 2) hx hb dL_law_411 (by decide) ?_
  refine lv_iadd hx hb dL_law_412 ?_
  refine va_sld hx hb hX hbl (Nat.not_le.mpr hbl) hw.2.2.2 (hi 2 (by decide) (by decide)) dL_law_413 ?_
  refine lv_aload_n hx hb dL_law_414 rfl (lv_at hl 3 rfl) ?_
  refine n_callH (n := 4) (As := [.ref (hc 0), .int (xs (i + 1).toNatClampNeg), .int (xs (i + 2).toNatClampNeg), .ref o]) C hw n_w6.1 n_w6.2.1 n_w6.2.2 rfl ⟨by decide +kernel, by decide +kernel, by decide +kernel⟩ (by decide) hM hcs hl.1 rfl dL_law_415 rfl (fun H locs hw => ?_)
  refine lv_istore (lv' := (5, .int kr) :: n_lv hc hm b o i) hx hb dL_law_418 hl (by decide) rfl (fun ls hl => ?_)
  refine lv_aload_n hx hb dL_law_420 rfl (lv_at hl 3 rfl) ?_
  refine lv_aload_n hx hb dL_law_421 rfl (lv_at hl 1 rfl) ?_
  refine lv_iload hx hb dL_law_422 (lv_at hl 5 rfl) ?_
  refine lv_iconst (v := 1) hx hb dL_law_424 (by decide) ?_
  refine lv_iadd hx hb dL_law_425 ?_
  refine va_sld hx hb hX hbl (Nat.not_le.mpr hbl) hw.2.2.2 (hi 1 (by decide) (by decide)) dL_law_426 ?_
  refine lv_aload_n hx hb dL_law_427 rfl (lv_at hl 1 rfl) ?_
  refine lv_iload hx hb dL_law_428 (lv_at hl 5 rfl) ?_
  refine lv_iconst (v := 2) hx hb dL_law_430 (by decide) ?_
  refine lv_iadd hx hb dL_law_431 ?_
  refine va_sld hx hb hX hbl (Nat.not_le.mpr hbl) hw.2.2.2 (hi 2 (by decide) (by decide)) dL_law_432 ?_
  refine n_callMi (As := [.int (xs (i + 1).toNatClampNeg), .int (xs (i + 2).toNatClampNeg)]) (rest := []) cx hKm af hw LVx_L_60 (c_X12_person l (D, cy, hm) N σm (xs (i + 1).toNatClampNeg) (xs (i + 2).toNatClampNeg) zm hzm) (by decide) (by decide) hcs hl.1 rfl (Nat.le_of_ble_eq_true rfl) dL_law_433 rfl (fun H locs hw => ?_)
  refine lv_istore (lv' := (6, .int zm.1) :: (5, .int kr) :: n_lv hc hm b o i) hx hb dL_law_436 hl (by decide) rfl (fun ls hl => ?_)
  refine lv_aload_n hx hb dL_law_438 rfl (lv_at hl 4 rfl) ?_
  refine n_callMi (As := []) (rest := []) cx hKm af hw LVx_L_55 (c_X12_thrown l (D, cy, hm) N zm.2 zt hzt) (by decide) (by decide) hcs hl.1 rfl (Nat.le_of_ble_eq_true rfl) dL_law_439 rfl (fun H locs hw => ?_)
  refine lv_iload hx hb dL_law_442 (lv_at hl 1 rfl) ?_
  refine lv_icmp_eq (tgt := 449) hx hb dL_law_444 (by decide) (fun _ => ?_) (fun hne => absurd hth hne)
  refine lv_iload hx hb dL_law_449 (lv_at hl 1 rfl) ?_
  refine lv_if_ne (tgt := 466) hx hb dL_law_451 (by decide) (fun hne => ?_) (fun h0 => ?_)
  · refine lv_goto (tgt := 1560) hx hb dL_law_466 (by decide) ?_
    exact kk H locs ls _ (lv_sub hl [2, 3, 4, 5, 6] rfl) hw
  · refine lv_aload_n hx hb dL_law_454 rfl (lv_at hl 5 rfl) ?_
    refine lv_iconst (v := 0) hx hb dL_law_455 (by decide) ?_
    refine va_lald (D := D) (cl := vwCl) hx hb hK.1 hw.2.2.1 0 1 (f := ov1) rfl rfl (by unfold vp_in; decide) dL_law_456 ?_
    refine lv_iload hx hb dL_law_457 (lv_at hl 0 rfl) ?_
    refine lv_i2l (v := Int32.toInt64 zm.1) hx hb dL_law_459 rfl ?_
    refine W.lcmp hx hb dL_law_460 ?_
    refine lv_if_eq (tgt := 466) hx hb dL_law_461 (by decide) (fun _ => ?_) (fun hne => absurd (hval h0) hne)
    refine lv_goto (tgt := 1560) hx hb dL_law_466 (by decide) ?_
    exact kk H locs ls _ (lv_sub hl [2, 3, 4, 5, 6] rfl) hw
theorem n_k6 (C : n_L p l s m args c D cy hc hm o b L xs) (hi : ∀ j : Int32, 0 ≤ j → j ≤ 4 → vp_in (i + j) L) (hcs : cells + 1 ≤ room_1.cells ∧ slots + 6 ≤ room_1.slots) (hw : n_W D cy hc hm o σc σm ov s H locs) (hl : lv_has ls 8 (n_lv hc hm b o i)) (N : Nat) (zo : Option Int32) (σc1 : uS) (zm : (Int32 × uS)) (zt : Int32) (hzc : f_X11_person N σc (xs (i + 1).toNatClampNeg) (xs (i + 2).toNatClampNeg) = some (zo, σc1)) (hzm : f_X12_person N σm (xs (i + 1).toNatClampNeg) (xs (i + 2).toNatClampNeg) = some zm) (hzt : f_X12_thrown N zm.2 = some zt) (hq : n_q zo zt zm.1) (kk : ∀ (H1 : Heap) (locs1 : List Loc) (ls1 : Array Slot) (ov1 : Nat → Int64), lv_has ls1 8 (n_lv hc hm b o i) → n_W D cy hc hm o σc1 zm.2 ov1 s H1 locs1 → W p l e room_1 s m args below meth c H1 locs1 (cells + 1) (slots + 6) Q (F0 m 1560 ls1 [])) : W p l e room_1 s m args below meth c H locs cells slots Q (F0 m 401 ls []) := by
  obtain ⟨cx, hl0, hxk, af, hX, hbl⟩ := id C
  cases zo with
  | none => exact n_k6_ C hi hcs hw hl N σc1 zm zt 1 ov (c_L_person l hl0 (D, cy, hc) N σc o ov (xs (i + 1).toNatClampNeg) (xs (i + 2).toNatClampNeg) (none, σc1) hzc) (fun h => absurd h (by decide)) hzm hzt hq kk
  | some r =>
    obtain ⟨h1, h2⟩ := hq
    exact n_k6_ C hi hcs hw hl N σc1 zm zt 0 (vp_updL ov 0 (Int32.toInt64 r)) (c_L_person l hl0 (D, cy, hc) N σc o ov (xs (i + 1).toNatClampNeg) (xs (i + 2).toNatClampNeg) (some r, σc1) hzc) (fun _ => by rw [n_updL, h2]; exact n_cmp _) hzm hzt h1 kk
theorem n_k7 (C : n_L p l s m args c D cy hc hm o b L xs) (hi : ∀ j : Int32, 0 ≤ j → j ≤ 4 → vp_in (i + j) L) (hcs : cells + 1 ≤ room_1.cells ∧ slots + 6 ≤ room_1.slots) (hw : n_W D cy hc hm o σc σm ov s H locs) (hl : lv_has ls 8 (n_lv hc hm b o i)) (N : Nat) (zc : (Int32 × uS)) (zm : (Int32 × uS)) (hzc : f_X11_sheet N σc (xs (i + 1).toNatClampNeg) (xs (i + 2).toNatClampNeg) (xs (i + 3).toNatClampNeg) (xs (i + 4).toNatClampNeg) = some zc) (hzm : f_X12_sheet N σm (xs (i + 1).toNatClampNeg) (xs (i + 2).toNatClampNeg) (xs (i + 3).toNatClampNeg) (xs (i + 4).toNatClampNeg) = some zm) (heq : zc.1 = zm.1) (kk : ∀ (H1 : Heap) (locs1 : List Loc) (ls1 : Array Slot) (ov1 : Nat → Int64), lv_has ls1 8 (n_lv hc hm b o i) → n_W D cy hc hm o zc.2 zm.2 ov1 s H1 locs1 → W p l e room_1 s m args below meth c H1 locs1 (cells + 1) (slots + 6) Q (F0 m 1560 ls1 [])) : W p l e room_1 s m args below meth c H locs cells slots Q (F0 m 469 ls []) := by
  obtain ⟨cx, hl0, hxk, af, hX, hbl⟩ := id C
  obtain ⟨hx, hb, hml, hown, hts⟩ := id cx
  have hK := hxk.1
  have hKm : u_K (D, cy, hm) s := hK
  refine lv_aload_n hx hb dL_law_469 rfl (lv_at hl 1 rfl) ?_
  refine lv_aload_n hx hb dL_law_470 rfl (lv_at hl 0 rfl) ?_
  refine lv_iload hx hb dL_law_471 (lv_at hl 4 rfl) ?_
  refine lv_iconst (v := 1) hx hb dL_law_473 (by decide) ?_
  refine lv_iadd hx hb dL_law_474 ?_
  refine va_sld hx hb hX hbl (Nat.not_le.mpr hbl) hw.2.2.2 (hi 1 (by decide) (by decide)) dL_law_475 ?_
  refine lv_aload_n hx hb dL_law_476 rfl (lv_at hl 0 rfl) ?_
  refine lv_iload hx hb dL_law_477 (lv_at hl 4 rfl) ?_
  refine lv_iconst (v := 2) hx hb dL_law_479 (by decide) ?_
  refine lv_iadd hx hb dL_law_480 ?_
  refine va_sld hx hb hX hbl (Nat.not_le.mpr hbl) hw.2.2.2 (hi 2 (by decide) (by decide)) dL_law_481 ?_
  refine lv_aload_n hx hb dL_law_482 rfl (lv_at hl 0 rfl) ?_
  refine lv_iload hx hb dL_law_483 (lv_at hl 4 rfl) ?_
  refine lv_iconst (v := 3) hx hb dL_law_485 (by decide) ?_
  refine lv_iadd hx hb dL_law_486 ?_
  refine va_sld hx hb hX hbl (Nat.not_le.mpr hbl) hw.2.2.2 (hi 3 (by decide) (by decide)) dL_law_487 ?_
  refine lv_aload_n hx hb dL_law_488 rfl (lv_at hl 0 rfl) ?_
  refine lv_iload hx hb dL_law_489 (lv_at hl 4 rfl) ?_
  refine lv_iconst (v := 4) hx hb dL_law_491 (by decide) ?_
  refine lv_iadd hx hb dL_law_492 ?_
  refine va_sld hx hb hX hbl (Nat.not_le.mpr hbl) hw.2.2.2 (hi 4 (by decide) (by decide)) dL_law_493 ?_
  refine n_callCi (As := [.int (xs (i + 1).toNatClampNeg), .int (xs (i + 2).toNatClampNeg), .int (xs (i + 3).toNatClampNeg), .int (xs (i + 4).toNatClampNeg)]) (rest := []) cx hK af hw LVx_L_61 (c_X11_sheet l (D, cy, hc) N σc (xs (i + 1).toNatClampNeg) (xs (i + 2).toNatClampNeg) (xs (i + 3).toNatClampNeg) (xs (i + 4).toNatClampNeg) zc hzc) (by decide) (by decide) ⟨by omega, by omega⟩ hl.1 rfl (Nat.le_of_ble_eq_true rfl) dL_law_494 rfl (fun H locs hw => ?_)
  refine lv_aload_n hx hb dL_law_497 rfl (lv_at hl 2 rfl) ?_
  refine lv_aload_n hx hb dL_law_498 rfl (lv_at hl 0 rfl) ?_
  refine lv_iload hx hb dL_law_499 (lv_at hl 4 rfl) ?_
  refine lv_iconst (v := 1) hx hb dL_law_501 (by decide) ?_
  refine lv_iadd hx hb dL_law_502 ?_
  refine va_sld hx hb hX hbl (Nat.not_le.mpr hbl) hw.2.2.2 (hi 1 (by decide) (by decide)) dL_law_503 ?_
  refine lv_aload_n hx hb dL_law_504 rfl (lv_at hl 0 rfl) ?_
  refine lv_iload hx hb dL_law_505 (lv_at hl 4 rfl) ?_
  refine lv_iconst (v := 2) hx hb dL_law_507 (by decide) ?_
  refine lv_iadd hx hb dL_law_508 ?_
  refine va_sld hx hb hX hbl (Nat.not_le.mpr hbl) hw.2.2.2 (hi 2 (by decide) (by decide)) dL_law_509 ?_
  refine lv_aload_n hx hb dL_law_510 rfl (lv_at hl 0 rfl) ?_
  refine lv_iload hx hb dL_law_511 (lv_at hl 4 rfl) ?_
  refine lv_iconst (v := 3) hx hb dL_law_513 (by decide) ?_
  refine lv_iadd hx hb dL_law_514 ?_
  refine va_sld hx hb hX hbl (Nat.not_le.mpr hbl) hw.2.2.2 (hi 3 (by decide) (by decide)) dL_law_515 ?_
  refine lv_aload_n hx hb dL_law_516 rfl (lv_at hl 0 rfl) ?_
  refine lv_iload hx hb dL_law_517 (lv_at hl 4 rfl) ?_
  refine lv_iconst (v := 4) hx hb dL_law_519 (by decide) ?_
  refine lv_iadd hx hb dL_law_520 ?_
  refine va_sld hx hb hX hbl (Nat.not_le.mpr hbl) hw.2.2.2 (hi 4 (by decide) (by decide)) dL_law_521 ?_
  refine n_callMi (As := [.int (xs (i + 1).toNatClampNeg), .int (xs (i + 2).toNatClampNeg), .int (xs (i + 3).toNatClampNeg), .int (xs (i + 4).toNatClampNeg)]) (rest := [.int zc.1]) cx hKm af hw LVx_L_65 (c_X12_sheet l (D, cy, hm) N σm (xs (i + 1).toNatClampNeg) (xs (i + 2).toNatClampNeg) (xs (i + 3).toNatClampNeg) (xs (i + 4).toNatClampNeg) zm hzm) (by decide) (by decide) ⟨by omega, by omega⟩ hl.1 rfl (Nat.le_of_ble_eq_true rfl) dL_law_522 rfl (fun H locs hw => ?_)
  refine lv_icmp_eq (tgt := 1560) hx hb dL_law_525 (by decide) (fun _ => ?_) (fun hne => absurd heq hne)
  exact W.widen (by omega) (by omega) (kk H locs ls ov hl hw)
theorem n_k8 (C : n_L p l s m args c D cy hc hm o b L xs) (hi : ∀ j : Int32, 0 ≤ j → j ≤ 4 → vp_in (i + j) L) (hcs : cells + 1 ≤ room_1.cells ∧ slots + 6 ≤ room_1.slots) (hw : n_W D cy hc hm o σc σm ov s H locs) (hl : lv_has ls 8 (n_lv hc hm b o i)) (N : Nat) (zc : (Int32 × uS)) (zm : (Int32 × uS)) (hzc : f_X11_crossing N σc (xs (i + 1).toNatClampNeg) = some zc) (hzm : f_X12_crossing N σm (xs (i + 1).toNatClampNeg) = some zm) (heq : zc.1 = zm.1) (kk : ∀ (H1 : Heap) (locs1 : List Loc) (ls1 : Array Slot) (ov1 : Nat → Int64), lv_has ls1 8 (n_lv hc hm b o i) → n_W D cy hc hm o zc.2 zm.2 ov1 s H1 locs1 → W p l e room_1 s m args below meth c H1 locs1 (cells + 1) (slots + 6) Q (F0 m 1560 ls1 [])) : W p l e room_1 s m args below meth c H locs cells slots Q (F0 m 530 ls []) := by
  obtain ⟨cx, hl0, hxk, af, hX, hbl⟩ := id C
  obtain ⟨hx, hb, hml, hown, hts⟩ := id cx
  have hK := hxk.1
  have hKm : u_K (D, cy, hm) s := hK
  refine lv_aload_n hx hb dL_law_530 rfl (lv_at hl 1 rfl) ?_
  refine lv_aload_n hx hb dL_law_531 rfl (lv_at hl 0 rfl) ?_
  refine lv_iload hx hb dL_law_532 (lv_at hl 4 rfl) ?_
  refine lv_iconst (v := 1) hx hb dL_law_534 (by decide) ?_
  refine lv_iadd hx hb dL_law_535 ?_
  refine va_sld hx hb hX hbl (Nat.not_le.mpr hbl) hw.2.2.2 (hi 1 (by decide) (by decide)) dL_law_536 ?_
  refine n_callCi (As := [.int (xs (i + 1).toNatClampNeg)]) (rest := []) cx hK af hw LVx_L_66 (c_X11_crossing l (D, cy, hc) N σc (xs (i + 1).toNatClampNeg) zc hzc) (by decide) (by decide) ⟨by omega, by omega⟩ hl.1 rfl (Nat.le_of_ble_eq_true rfl) dL_law_537 rfl (fun H locs hw => ?_)
  refine lv_aload_n hx hb dL_law_540 rfl (lv_at hl 2 rfl) ?_
  refine lv_aload_n hx hb dL_law_541 rfl (lv_at hl 0 rfl) ?_
  refine lv_iload hx hb dL_law_542 (lv_at hl 4 rfl) ?_
  refine lv_iconst (v := 1) hx hb dL_law_544 (by decide) ?_
  refine lv_iadd hx hb dL_law_545 ?_
  refine va_sld hx hb hX hbl (Nat.not_le.mpr hbl) hw.2.2.2 (hi 1 (by decide) (by decide)) dL_law_546 ?_
  refine n_callMi (As := [.int (xs (i + 1).toNatClampNeg)]) (rest := [.int zc.1]) cx hKm af hw LVx_L_69 (c_X12_crossing l (D, cy, hm) N σm (xs (i + 1).toNatClampNeg) zm hzm) (by decide) (by decide) ⟨by omega, by omega⟩ hl.1 rfl (Nat.le_of_ble_eq_true rfl) dL_law_547 rfl (fun H locs hw => ?_)
  refine lv_icmp_eq (tgt := 1560) hx hb dL_law_550 (by decide) (fun _ => ?_) (fun hne => absurd heq hne)
  exact W.widen (by omega) (by omega) (kk H locs ls ov hl hw)
theorem n_k9 (C : n_L p l s m args c D cy hc hm o b L xs) (hi : ∀ j : Int32, 0 ≤ j → j ≤ 4 → vp_in (i + j) L) (hcs : cells + 1 ≤ room_1.cells ∧ slots + 6 ≤ room_1.slots) (hw : n_W D cy hc hm o σc σm ov s H locs) (hl : lv_has ls 8 (n_lv hc hm b o i)) (N : Nat) (zc : (Int32 × uS)) (zm : (Int32 × uS)) (hzc : f_X11_show N σc (xs (i + 1).toNatClampNeg) = some zc) (hzm : f_X12_show N σm (xs (i + 1).toNatClampNeg) = some zm) (heq : zc.1 = zm.1) (kk : ∀ (H1 : Heap) (locs1 : List Loc) (ls1 : Array Slot) (ov1 : Nat → Int64), lv_has ls1 8 (n_lv hc hm b o i) → n_W D cy hc hm o zc.2 zm.2 ov1 s H1 locs1 → W p l e room_1 s m args below meth c H1 locs1 (cells + 1) (slots + 6) Q (F0 m 1560 ls1 [])) : W p l e room_1 s m args below meth c H locs cells slots Q (F0 m 555 ls []) := by
  obtain ⟨cx, hl0, hxk, af, hX, hbl⟩ := id C
  obtain ⟨hx, hb, hml, hown, hts⟩ := id cx
  have hK := hxk.1
  have hKm : u_K (D, cy, hm) s := hK
  refine lv_aload_n hx hb dL_law_555 rfl (lv_at hl 1 rfl) ?_
  refine lv_aload_n hx hb dL_law_556 rfl (lv_at hl 0 rfl) ?_
  refine lv_iload hx hb dL_law_557 (lv_at hl 4 rfl) ?_
  refine lv_iconst (v := 1) hx hb dL_law_559 (by decide) ?_
  refine lv_iadd hx hb dL_law_560 ?_
  refine va_sld hx hb hX hbl (Nat.not_le.mpr hbl) hw.2.2.2 (hi 1 (by decide) (by decide)) dL_law_561 ?_
  refine n_callCi (As := [.int (xs (i + 1).toNatClampNeg)]) (rest := []) cx hK af hw LVx_L_70 (c_X11_show l (D, cy, hc) N σc (xs (i + 1).toNatClampNeg) zc hzc) (by decide) (by decide) ⟨by omega, by omega⟩ hl.1 rfl (Nat.le_of_ble_eq_true rfl) dL_law_562 rfl (fun H locs hw => ?_)
  refine lv_aload_n hx hb dL_law_565 rfl (lv_at hl 2 rfl) ?_
  refine lv_aload_n hx hb dL_law_566 rfl (lv_at hl 0 rfl) ?_
  refine lv_iload hx hb dL_law_567 (lv_at hl 4 rfl) ?_
  refine lv_iconst (v := 1) hx hb dL_law_569 (by decide) ?_
  refine lv_iadd hx hb dL_law_570 ?_
  refine va_sld hx hb hX hbl (Nat.not_le.mpr hbl) hw.2.2.2 (hi 1 (by decide) (by decide)) dL_law_571 ?_
  refine n_callMi (As := [.int (xs (i + 1).toNatClampNeg)]) (rest := [.int zc.1]) cx hKm af hw LVx_L_73 (c_X12_show l (D, cy, hm) N σm (xs (i + 1).toNatClampNeg) zm hzm) (by decide) (by decide) ⟨by omega, by omega⟩ hl.1 rfl (Nat.le_of_ble_eq_true rfl) dL_law_572 rfl (fun H locs hw => ?_)
  refine lv_icmp_eq (tgt := 1560) hx hb dL_law_575 (by decide) (fun _ => ?_) (fun hne => absurd heq hne)
  exact W.widen (by omega) (by omega) (kk H locs ls ov hl hw)
theorem n_k10 (C : n_L p l s m args c D cy hc hm o b L xs) (hi : ∀ j : Int32, 0 ≤ j → j ≤ 4 → vp_in (i + j) L) (hcs : cells + 1 ≤ room_1.cells ∧ slots + 6 ≤ room_1.slots) (hw : n_W D cy hc hm o σc σm ov s H locs) (hl : lv_has ls 8 (n_lv hc hm b o i)) (N : Nat) (zc : (Int32 × uS)) (zm : (Int32 × uS)) (hzc : f_X11_glance N σc (xs (i + 1).toNatClampNeg) (xs (i + 2).toNatClampNeg) = some zc) (hzm : f_X12_glance N σm (xs (i + 1).toNatClampNeg) (xs (i + 2).toNatClampNeg) = some zm) (heq : zc.1 = zm.1) (kk : ∀ (H1 : Heap) (locs1 : List Loc) (ls1 : Array Slot) (ov1 : Nat → Int64), lv_has ls1 8 (n_lv hc hm b o i) → n_W D cy hc hm o zc.2 zm.2 ov1 s H1 locs1 → W p l e room_1 s m args below meth c H1 locs1 (cells + 1) (slots + 6) Q (F0 m 1560 ls1 [])) : W p l e room_1 s m args below meth c H locs cells slots Q (F0 m 580 ls []) := by
  obtain ⟨cx, hl0, hxk, af, hX, hbl⟩ := id C
  obtain ⟨hx, hb, hml, hown, hts⟩ := id cx
  have hK := hxk.1
  have hKm : u_K (D, cy, hm) s := hK
  refine lv_aload_n hx hb dL_law_580 rfl (lv_at hl 1 rfl) ?_
  refine lv_aload_n hx hb dL_law_581 rfl (lv_at hl 0 rfl) ?_
  refine lv_iload hx hb dL_law_582 (lv_at hl 4 rfl) ?_
  refine lv_iconst (v := 1) hx hb dL_law_584 (by decide) ?_
  refine lv_iadd hx hb dL_law_585 ?_
  refine va_sld hx hb hX hbl (Nat.not_le.mpr hbl) hw.2.2.2 (hi 1 (by decide) (by decide)) dL_law_586 ?_
  refine lv_aload_n hx hb dL_law_587 rfl (lv_at hl 0 rfl) ?_
  refine lv_iload hx hb dL_law_588 (lv_at hl 4 rfl) ?_
  refine lv_iconst (v := 2) hx hb dL_law_590 (by decide) ?_
  refine lv_iadd hx hb dL_law_591 ?_
  refine va_sld hx hb hX hbl (Nat.not_le.mpr hbl) hw.2.2.2 (hi 2 (by decide) (by decide)) dL_law_592 ?_
  refine n_callCi (As := [.int (xs (i + 1).toNatClampNeg), .int (xs (i + 2).toNatClampNeg)]) (rest := []) cx hK af hw LVx_L_74 (c_X11_glance l (D, cy, hc) N σc (xs (i + 1).toNatClampNeg) (xs (i + 2).toNatClampNeg) zc hzc) (by decide) (by decide) ⟨by omega, by omega⟩ hl.1 rfl (Nat.le_of_ble_eq_true rfl) dL_law_593 rfl (fun H locs hw => ?_)
  refine lv_aload_n hx hb dL_law_596 rfl (lv_at hl 2 rfl) ?_
  refine lv_aload_n hx hb dL_law_597 rfl (lv_at hl 0 rfl) ?_
  refine lv_iload hx hb dL_law_598 (lv_at hl 4 rfl) ?_
  refine lv_iconst (v := 1) hx hb dL_law_600 (by decide) ?_
  refine lv_iadd hx hb dL_law_601 ?_
  refine va_sld hx hb hX hbl (Nat.not_le.mpr hbl) hw.2.2.2 (hi 1 (by decide) (by decide)) dL_law_602 ?_
  refine lv_aload_n hx hb dL_law_603 rfl (lv_at hl 0 rfl) ?_
  refine lv_iload hx hb dL_law_604 (lv_at hl 4 rfl) ?_
  refine lv_iconst (v := 2) hx hb dL_law_606 (by decide) ?_
  refine lv_iadd hx hb dL_law_607 ?_
  refine va_sld hx hb hX hbl (Nat.not_le.mpr hbl) hw.2.2.2 (hi 2 (by decide) (by decide)) dL_law_608 ?_
  refine n_callMi (As := [.int (xs (i + 1).toNatClampNeg), .int (xs (i + 2).toNatClampNeg)]) (rest := [.int zc.1]) cx hKm af hw LVx_L_77 (c_X12_glance l (D, cy, hm) N σm (xs (i + 1).toNatClampNeg) (xs (i + 2).toNatClampNeg) zm hzm) (by decide) (by decide) ⟨by omega, by omega⟩ hl.1 rfl (Nat.le_of_ble_eq_true rfl) dL_law_609 rfl (fun H locs hw => ?_)
  refine lv_icmp_eq (tgt := 1560) hx hb dL_law_612 (by decide) (fun _ => ?_) (fun hne => absurd heq hne)
  exact W.widen (by omega) (by omega) (kk H locs ls ov hl hw)
theorem n_k11 (C : n_L p l s m args c D cy hc hm o b L xs) (hi : ∀ j : Int32, 0 ≤ j → j ≤ 4 → vp_in (i + j) L) (hcs : cells + 1 ≤ room_1.cells ∧ slots + 6 ≤ room_1.slots) (hw : n_W D cy hc hm o σc σm ov s H locs) (hl : lv_has ls 8 (n_lv hc hm b o i)) (N : Nat) (zc : (Int32 × uS)) (zm : (Int32 × uS)) (hzc : f_X11_rope N σc (xs (i + 1).toNatClampNeg) (xs (i + 2).toNatClampNeg) = some zc) (hzm : f_X12_rope N σm (xs (i + 1).toNatClampNeg) (xs (i + 2).toNatClampNeg) = some zm) (heq : zc.1 = zm.1) (kk : ∀ (H1 : Heap) (locs1 : List Loc) (ls1 : Array Slot) (ov1 : Nat → Int64), lv_has ls1 8 (n_lv hc hm b o i) → n_W D cy hc hm o zc.2 zm.2 ov1 s H1 locs1 → W p l e room_1 s m args below meth c H1 locs1 (cells + 1) (slots + 6) Q (F0 m 1560 ls1 [])) : W p l e room_1 s m args below meth c H locs cells slots Q (F0 m 617 ls []) := by
  obtain ⟨cx, hl0, hxk, af, hX, hbl⟩ := id C
  obtain ⟨hx, hb, hml, hown, hts⟩ := id cx
  have hK := hxk.1
  have hKm : u_K (D, cy, hm) s := hK
  refine lv_aload_n hx hb dL_law_617 rfl (lv_at hl 1 rfl) ?_
  refine lv_aload_n hx hb dL_law_618 rfl (lv_at hl 0 rfl) ?_
  refine lv_iload hx hb dL_law_619 (lv_at hl 4 rfl) ?_
  refine lv_iconst (v := 1) hx hb dL_law_621 (by decide) ?_
  refine lv_iadd hx hb dL_law_622 ?_
  refine va_sld hx hb hX hbl (Nat.not_le.mpr hbl) hw.2.2.2 (hi 1 (by decide) (by decide)) dL_law_623 ?_
  refine lv_aload_n hx hb dL_law_624 rfl (lv_at hl 0 rfl) ?_
  refine lv_iload hx hb dL_law_625 (lv_at hl 4 rfl) ?_
  refine lv_iconst (v := 2) hx hb dL_law_627 (by decide) ?_
  refine lv_iadd hx hb dL_law_628 ?_
  refine va_sld hx hb hX hbl (Nat.not_le.mpr hbl) hw.2.2.2 (hi 2 (by decide) (by decide)) dL_law_629 ?_
  refine n_callCi (As := [.int (xs (i + 1).toNatClampNeg), .int (xs (i + 2).toNatClampNeg)]) (rest := []) cx hK af hw LVx_L_78 (c_X11_rope l (D, cy, hc) N σc (xs (i + 1).toNatClampNeg) (xs (i + 2).toNatClampNeg) zc hzc) (by decide) (by decide) ⟨by omega, by omega⟩ hl.1 rfl (Nat.le_of_ble_eq_true rfl) dL_law_630 rfl (fun H locs hw => ?_)
  refine lv_aload_n hx hb dL_law_633 rfl (lv_at hl 2 rfl) ?_
  refine lv_aload_n hx hb dL_law_634 rfl (lv_at hl 0 rfl) ?_
  refine lv_iload hx hb dL_law_635 (lv_at hl 4 rfl) ?_
  refine lv_iconst (v := 1) hx hb dL_law_637 (by decide) ?_
  refine lv_iadd hx hb dL_law_638 ?_
  refine va_sld hx hb hX hbl (Nat.not_le.mpr hbl) hw.2.2.2 (hi 1 (by decide) (by decide)) dL_law_639 ?_
  refine lv_aload_n hx hb dL_law_640 rfl (lv_at hl 0 rfl) ?_
  refine lv_iload hx hb dL_law_641 (lv_at hl 4 rfl) ?_
  refine lv_iconst (v := 2) hx hb dL_law_643 (by decide) ?_
  refine lv_iadd hx hb dL_law_644 ?_
  refine va_sld hx hb hX hbl (Nat.not_le.mpr hbl) hw.2.2.2 (hi 2 (by decide) (by decide)) dL_law_645 ?_
  refine n_callMi (As := [.int (xs (i + 1).toNatClampNeg), .int (xs (i + 2).toNatClampNeg)]) (rest := [.int zc.1]) cx hKm af hw LVx_L_81 (c_X12_rope l (D, cy, hm) N σm (xs (i + 1).toNatClampNeg) (xs (i + 2).toNatClampNeg) zm hzm) (by decide) (by decide) ⟨by omega, by omega⟩ hl.1 rfl (Nat.le_of_ble_eq_true rfl) dL_law_646 rfl (fun H locs hw => ?_)
  refine lv_icmp_eq (tgt := 1560) hx hb dL_law_649 (by decide) (fun _ => ?_) (fun hne => absurd heq hne)
  exact W.widen (by omega) (by omega) (kk H locs ls ov hl hw)
theorem n_k12 (C : n_L p l s m args c D cy hc hm o b L xs) (hi : ∀ j : Int32, 0 ≤ j → j ≤ 4 → vp_in (i + j) L) (hcs : cells + 1 ≤ room_1.cells ∧ slots + 6 ≤ room_1.slots) (hw : n_W D cy hc hm o σc σm ov s H locs) (hl : lv_has ls 8 (n_lv hc hm b o i)) (N : Nat) (zc : (Int32 × uS)) (zm : (Int32 × uS)) (hzc : f_X11_sow N σc (xs (i + 1).toNatClampNeg) (xs (i + 2).toNatClampNeg) = some zc) (hzm : f_X12_sow N σm (xs (i + 1).toNatClampNeg) (xs (i + 2).toNatClampNeg) = some zm) (heq : zc.1 = zm.1) (kk : ∀ (H1 : Heap) (locs1 : List Loc) (ls1 : Array Slot) (ov1 : Nat → Int64), lv_has ls1 8 (n_lv hc hm b o i) → n_W D cy hc hm o zc.2 zm.2 ov1 s H1 locs1 → W p l e room_1 s m args below meth c H1 locs1 (cells + 1) (slots + 6) Q (F0 m 1560 ls1 [])) : W p l e room_1 s m args below meth c H locs cells slots Q (F0 m 654 ls []) := by
  obtain ⟨cx, hl0, hxk, af, hX, hbl⟩ := id C
  obtain ⟨hx, hb, hml, hown, hts⟩ := id cx
  have hK := hxk.1
  have hKm : u_K (D, cy, hm) s := hK
  refine lv_aload_n hx hb dL_law_654 rfl (lv_at hl 1 rfl) ?_
  refine lv_aload_n hx hb dL_law_655 rfl (lv_at hl 0 rfl) ?_
  refine lv_iload hx hb dL_law_656 (lv_at hl 4 rfl) ?_
  refine lv_iconst (v := 1) hx hb dL_law_658 (by decide) ?_
  refine lv_iadd hx hb dL_law_659 ?_
  refine va_sld hx hb hX hbl (Nat.not_le.mpr hbl) hw.2.2.2 (hi 1 (by decide) (by decide)) dL_law_660 ?_
  refine lv_aload_n hx hb dL_law_661 rfl (lv_at hl 0 rfl) ?_
  refine lv_iload hx hb dL_law_662 (lv_at hl 4 rfl) ?_
  refine lv_iconst (v := 2) hx hb dL_law_664 (by decide) ?_
  refine lv_iadd hx hb dL_law_665 ?_
  refine va_sld hx hb hX hbl (Nat.not_le.mpr hbl) hw.2.2.2 (hi 2 (by decide) (by decide)) dL_law_666 ?_
  refine n_callCi (As := [.int (xs (i + 1).toNatClampNeg), .int (xs (i + 2).toNatClampNeg)]) (rest := []) cx hK af hw LVx_L_82 (c_X11_sow l (D, cy, hc) N σc (xs (i + 1).toNatClampNeg) (xs (i + 2).toNatClampNeg) zc hzc) (by decide) (by decide) ⟨by omega, by omega⟩ hl.1 rfl (Nat.le_of_ble_eq_true rfl) dL_law_667 rfl (fun H locs hw => ?_)
  refine lv_aload_n hx hb dL_law_670 rfl (lv_at hl 2 rfl) ?_
  refine lv_aload_n hx hb dL_law_671 rfl (lv_at hl 0 rfl) ?_
  refine lv_iload hx hb dL_law_672 (lv_at hl 4 rfl) ?_
  refine lv_iconst (v := 1) hx hb dL_law_674 (by decide) ?_
  refine lv_iadd hx hb dL_law_675 ?_
  refine va_sld hx hb hX hbl (Nat.not_le.mpr hbl) hw.2.2.2 (hi 1 (by decide) (by decide)) dL_law_676 ?_
  refine lv_aload_n hx hb dL_law_677 rfl (lv_at hl 0 rfl) ?_
  refine lv_iload hx hb dL_law_678 (lv_at hl 4 rfl) ?_
  refine lv_iconst (v := 2) hx hb dL_law_680 (by decide) ?_
  refine lv_iadd hx hb dL_law_681 ?_
  refine va_sld hx hb hX hbl (Nat.not_le.mpr hbl) hw.2.2.2 (hi 2 (by decide) (by decide)) dL_law_682 ?_
  refine n_callMi (As := [.int (xs (i + 1).toNatClampNeg), .int (xs (i + 2).toNatClampNeg)]) (rest := [.int zc.1]) cx hKm af hw LVx_L_85 (c_X12_sow l (D, cy, hm) N σm (xs (i + 1).toNatClampNeg) (xs (i + 2).toNatClampNeg) zm hzm) (by decide) (by decide) ⟨by omega, by omega⟩ hl.1 rfl (Nat.le_of_ble_eq_true rfl) dL_law_683 rfl (fun H locs hw => ?_)
  refine lv_icmp_eq (tgt := 1560) hx hb dL_law_686 (by decide) (fun _ => ?_) (fun hne => absurd heq hne)
  exact W.widen (by omega) (by omega) (kk H locs ls ov hl hw)
theorem n_k13 (C : n_L p l s m args c D cy hc hm o b L xs) (hi : ∀ j : Int32, 0 ≤ j → j ≤ 4 → vp_in (i + j) L) (hcs : cells + 1 ≤ room_1.cells ∧ slots + 6 ≤ room_1.slots) (hw : n_W D cy hc hm o σc σm ov s H locs) (hl : lv_has ls 8 (n_lv hc hm b o i)) (N : Nat) (zc : (Int32 × uS)) (zm : (Int32 × uS)) (hzc : f_X11_week N σc  = some zc) (hzm : f_X12_week N σm  = some zm) (heq : zc.1 = zm.1) (kk : ∀ (H1 : Heap) (locs1 : List Loc) (ls1 : Array Slot) (ov1 : Nat → Int64), lv_has ls1 8 (n_lv hc hm b o i) → n_W D cy hc hm o zc.2 zm.2 ov1 s H1 locs1 → W p l e room_1 s m args below meth c H1 locs1 (cells + 1) (slots + 6) Q (F0 m 1560 ls1 [])) : W p l e room_1 s m args below meth c H locs cells slots Q (F0 m 691 ls []) := by
  obtain ⟨cx, hl0, hxk, af, hX, hbl⟩ := id C
  obtain ⟨hx, hb, hml, hown, hts⟩ := id cx
  have hK := hxk.1
  have hKm : u_K (D, cy, hm) s := hK
  refine lv_aload_n hx hb dL_law_691 rfl (lv_at hl 1 rfl) ?_
  refine n_callCi (As := []) (rest := []) cx hK af hw LVx_L_86 (c_X11_week l (D, cy, hc) N σc  zc hzc) (by decide) (by decide) ⟨by omega, by omega⟩ hl.1 rfl (Nat.le_of_ble_eq_true rfl) dL_law_692 rfl (fun H locs hw => ?_)
  refine lv_aload_n hx hb dL_law_695 rfl (lv_at hl 2 rfl) ?_
  refine n_callMi (As := []) (rest := [.int zc.1]) cx hKm af hw LVx_L_89 (c_X12_week l (D, cy, hm) N σm  zm hzm) (by decide) (by decide) ⟨by omega, by omega⟩ hl.1 rfl (Nat.le_of_ble_eq_true rfl) dL_law_696 rfl (fun H locs hw => ?_)
  refine lv_icmp_eq (tgt := 1560) hx hb dL_law_699 (by decide) (fun _ => ?_) (fun hne => absurd heq hne)
  exact W.widen (by omega) (by omega) (kk H locs ls ov hl hw)
theorem n_k14 (C : n_L p l s m args c D cy hc hm o b L xs) (hi : ∀ j : Int32, 0 ≤ j → j ≤ 4 → vp_in (i + j) L) (hcs : cells + 1 ≤ room_1.cells ∧ slots + 6 ≤ room_1.slots) (hw : n_W D cy hc hm o σc σm ov s H locs) (hl : lv_has ls 8 (n_lv hc hm b o i)) (N : Nat) (zc : (Int32 × uS)) (zm : (Int32 × uS)) (hzc : f_X11_undo N σc  = some zc) (hzm : f_X12_undo N σm  = some zm) (heq : zc.1 = zm.1) (kk : ∀ (H1 : Heap) (locs1 : List Loc) (ls1 : Array Slot) (ov1 : Nat → Int64), lv_has ls1 8 (n_lv hc hm b o i) → n_W D cy hc hm o zc.2 zm.2 ov1 s H1 locs1 → W p l e room_1 s m args below meth c H1 locs1 (cells + 1) (slots + 6) Q (F0 m 1560 ls1 [])) : W p l e room_1 s m args below meth c H locs cells slots Q (F0 m 704 ls []) := by
  obtain ⟨cx, hl0, hxk, af, hX, hbl⟩ := id C
  obtain ⟨hx, hb, hml, hown, hts⟩ := id cx
  have hK := hxk.1
  have hKm : u_K (D, cy, hm) s := hK
  refine lv_aload_n hx hb dL_law_704 rfl (lv_at hl 1 rfl) ?_
  refine n_callCi (As := []) (rest := []) cx hK af hw LVx_L_90 (c_X11_undo l (D, cy, hc) N σc  zc hzc) (by decide) (by decide) ⟨by omega, by omega⟩ hl.1 rfl (Nat.le_of_ble_eq_true rfl) dL_law_705 rfl (fun H locs hw => ?_)
  refine lv_aload_n hx hb dL_law_708 rfl (lv_at hl 2 rfl) ?_
  refine n_callMi (As := []) (rest := [.int zc.1]) cx hKm af hw LVx_L_93 (c_X12_undo l (D, cy, hm) N σm  zm hzm) (by decide) (by decide) ⟨by omega, by omega⟩ hl.1 rfl (Nat.le_of_ble_eq_true rfl) dL_law_709 rfl (fun H locs hw => ?_)
  refine lv_icmp_eq (tgt := 1560) hx hb dL_law_712 (by decide) (fun _ => ?_) (fun hne => absurd heq hne)
  exact W.widen (by omega) (by omega) (kk H locs ls ov hl hw)
theorem n_k15 (C : n_L p l s m args c D cy hc hm o b L xs) (hi : ∀ j : Int32, 0 ≤ j → j ≤ 4 → vp_in (i + j) L) (hcs : cells + 1 ≤ room_1.cells ∧ slots + 6 ≤ room_1.slots) (hw : n_W D cy hc hm o σc σm ov s H locs) (hl : lv_has ls 8 (n_lv hc hm b o i)) (N : Nat) (zc : (Int32 × uS)) (zm : (Int32 × uS)) (hzc : f_X11_later N σc (xs (i + 1).toNatClampNeg) = some zc) (hzm : f_X12_later N σm (xs (i + 1).toNatClampNeg) = some zm) (heq : zc.1 = zm.1) (kk : ∀ (H1 : Heap) (locs1 : List Loc) (ls1 : Array Slot) (ov1 : Nat → Int64), lv_has ls1 8 (n_lv hc hm b o i) → n_W D cy hc hm o zc.2 zm.2 ov1 s H1 locs1 → W p l e room_1 s m args below meth c H1 locs1 (cells + 1) (slots + 6) Q (F0 m 1560 ls1 [])) : W p l e room_1 s m args below meth c H locs cells slots Q (F0 m 717 ls []) := by
  obtain ⟨cx, hl0, hxk, af, hX, hbl⟩ := id C
  obtain ⟨hx, hb, hml, hown, hts⟩ := id cx
  have hK := hxk.1
  have hKm : u_K (D, cy, hm) s := hK
  refine lv_aload_n hx hb dL_law_717 rfl (lv_at hl 1 rfl) ?_
  refine lv_aload_n hx hb dL_law_718 rfl (lv_at hl 0 rfl) ?_
  refine lv_iload hx hb dL_law_719 (lv_at hl 4 rfl) ?_
  refine lv_iconst (v := 1) hx hb dL_law_721 (by decide) ?_
  refine lv_iadd hx hb dL_law_722 ?_
  refine va_sld hx hb hX hbl (Nat.not_le.mpr hbl) hw.2.2.2 (hi 1 (by decide) (by decide)) dL_law_723 ?_
  refine n_callCi (As := [.int (xs (i + 1).toNatClampNeg)]) (rest := []) cx hK af hw LVx_L_94 (c_X11_later l (D, cy, hc) N σc (xs (i + 1).toNatClampNeg) zc hzc) (by decide) (by decide) ⟨by omega, by omega⟩ hl.1 rfl (Nat.le_of_ble_eq_true rfl) dL_law_724 rfl (fun H locs hw => ?_)
  refine lv_aload_n hx hb dL_law_727 rfl (lv_at hl 2 rfl) ?_
  refine lv_aload_n hx hb dL_law_728 rfl (lv_at hl 0 rfl) ?_
  refine lv_iload hx hb dL_law_729 (lv_at hl 4 rfl) ?_
  refine lv_iconst (v := 1) hx hb dL_law_731 (by decide) ?_
  refine lv_iadd hx hb dL_law_732 ?_
  refine va_sld hx hb hX hbl (Nat.not_le.mpr hbl) hw.2.2.2 (hi 1 (by decide) (by decide)) dL_law_733 ?_
  refine n_callMi (As := [.int (xs (i + 1).toNatClampNeg)]) (rest := [.int zc.1]) cx hKm af hw LVx_L_97 (c_X12_later l (D, cy, hm) N σm (xs (i + 1).toNatClampNeg) zm hzm) (by decide) (by decide) ⟨by omega, by omega⟩ hl.1 rfl (Nat.le_of_ble_eq_true rfl) dL_law_734 rfl (fun H locs hw => ?_)
  refine lv_icmp_eq (tgt := 1560) hx hb dL_law_737 (by decide) (fun _ => ?_) (fun hne => absurd heq hne)
  exact W.widen (by omega) (by omega) (kk H locs ls ov hl hw)
theorem n_k16 (C : n_L p l s m args c D cy hc hm o b L xs) (hi : ∀ j : Int32, 0 ≤ j → j ≤ 4 → vp_in (i + j) L) (hcs : cells + 1 ≤ room_1.cells ∧ slots + 6 ≤ room_1.slots) (hw : n_W D cy hc hm o σc σm ov s H locs) (hl : lv_has ls 8 (n_lv hc hm b o i)) (N : Nat) (zc : (Int32 × uS)) (zm : (Int32 × uS)) (hzc : f_X11_settles N σc  = some zc) (hzm : f_X12_settles N σm  = some zm) (heq : zc.1 = zm.1) (kk : ∀ (H1 : Heap) (locs1 : List Loc) (ls1 : Array Slot) (ov1 : Nat → Int64), lv_has ls1 8 (n_lv hc hm b o i) → n_W D cy hc hm o zc.2 zm.2 ov1 s H1 locs1 → W p l e room_1 s m args below meth c H1 locs1 (cells + 1) (slots + 6) Q (F0 m 1560 ls1 [])) : W p l e room_1 s m args below meth c H locs cells slots Q (F0 m 742 ls []) := by
  obtain ⟨cx, hl0, hxk, af, hX, hbl⟩ := id C
  obtain ⟨hx, hb, hml, hown, hts⟩ := id cx
  have hK := hxk.1
  have hKm : u_K (D, cy, hm) s := hK
  refine lv_aload_n hx hb dL_law_742 rfl (lv_at hl 1 rfl) ?_
  refine n_callCi (As := []) (rest := []) cx hK af hw LVx_L_98 (c_X11_settles l (D, cy, hc) N σc  zc hzc) (by decide) (by decide) ⟨by omega, by omega⟩ hl.1 rfl (Nat.le_of_ble_eq_true rfl) dL_law_743 rfl (fun H locs hw => ?_)
  refine lv_aload_n hx hb dL_law_746 rfl (lv_at hl 2 rfl) ?_
  refine n_callMi (As := []) (rest := [.int zc.1]) cx hKm af hw LVx_L_101 (c_X12_settles l (D, cy, hm) N σm  zm hzm) (by decide) (by decide) ⟨by omega, by omega⟩ hl.1 rfl (Nat.le_of_ble_eq_true rfl) dL_law_747 rfl (fun H locs hw => ?_)
  refine lv_icmp_eq (tgt := 1560) hx hb dL_law_750 (by decide) (fun _ => ?_) (fun hne => absurd heq hne)
  exact W.widen (by omega) (by omega) (kk H locs ls ov hl hw)
theorem n_k17 (C : n_L p l s m args c D cy hc hm o b L xs) (hi : ∀ j : Int32, 0 ≤ j → j ≤ 4 → vp_in (i + j) L) (hcs : cells + 1 ≤ room_1.cells ∧ slots + 6 ≤ room_1.slots) (hw : n_W D cy hc hm o σc σm ov s H locs) (hl : lv_has ls 8 (n_lv hc hm b o i)) (N : Nat) (zc : (Int32 × uS)) (zm : (Int32 × uS)) (hzc : f_X11_leaves N σc (xs (i + 1).toNatClampNeg) = some zc) (hzm : f_X12_leaves N σm (xs (i + 1).toNatClampNeg) = some zm) (heq : zc.1 = zm.1) (kk : ∀ (H1 : Heap) (locs1 : List Loc) (ls1 : Array Slot) (ov1 : Nat → Int64), lv_has ls1 8 (n_lv hc hm b o i) → n_W D cy hc hm o zc.2 zm.2 ov1 s H1 locs1 → W p l e room_1 s m args below meth c H1 locs1 (cells + 1) (slots + 6) Q (F0 m 1560 ls1 [])) : W p l e room_1 s m args below meth c H locs cells slots Q (F0 m 755 ls []) := by
  obtain ⟨cx, hl0, hxk, af, hX, hbl⟩ := id C
  obtain ⟨hx, hb, hml, hown, hts⟩ := id cx
  have hK := hxk.1
  have hKm : u_K (D, cy, hm) s := hK
  refine lv_aload_n hx hb dL_law_755 rfl (lv_at hl 1 rfl) ?_
  refine lv_aload_n hx hb dL_law_756 rfl (lv_at hl 0 rfl) ?_
  refine lv_iload hx hb dL_law_757 (lv_at hl 4 rfl) ?_
  refine lv_iconst (v := 1) hx hb dL_law_759 (by decide) ?_
  refine lv_iadd hx hb dL_law_760 ?_
  refine va_sld hx hb hX hbl (Nat.not_le.mpr hbl) hw.2.2.2 (hi 1 (by decide) (by decide)) dL_law_761 ?_
  refine n_callCi (As := [.int (xs (i + 1).toNatClampNeg)]) (rest := []) cx hK af hw LVx_L_102 (c_X11_leaves l (D, cy, hc) N σc (xs (i + 1).toNatClampNeg) zc hzc) (by decide) (by decide) ⟨by omega, by omega⟩ hl.1 rfl (Nat.le_of_ble_eq_true rfl) dL_law_762 rfl (fun H locs hw => ?_)
  refine lv_aload_n hx hb dL_law_765 rfl (lv_at hl 2 rfl) ?_
  refine lv_aload_n hx hb dL_law_766 rfl (lv_at hl 0 rfl) ?_
  refine lv_iload hx hb dL_law_767 (lv_at hl 4 rfl) ?_
  refine lv_iconst (v := 1) hx hb dL_law_769 (by decide) ?_
  refine lv_iadd hx hb dL_law_770 ?_
  refine va_sld hx hb hX hbl (Nat.not_le.mpr hbl) hw.2.2.2 (hi 1 (by decide) (by decide)) dL_law_771 ?_
  refine n_callMi (As := [.int (xs (i + 1).toNatClampNeg)]) (rest := [.int zc.1]) cx hKm af hw LVx_L_105 (c_X12_leaves l (D, cy, hm) N σm (xs (i + 1).toNatClampNeg) zm hzm) (by decide) (by decide) ⟨by omega, by omega⟩ hl.1 rfl (Nat.le_of_ble_eq_true rfl) dL_law_772 rfl (fun H locs hw => ?_)
  refine lv_icmp_eq (tgt := 1560) hx hb dL_law_775 (by decide) (fun _ => ?_) (fun hne => absurd heq hne)
  exact W.widen (by omega) (by omega) (kk H locs ls ov hl hw)
theorem n_k18 (C : n_L p l s m args c D cy hc hm o b L xs) (hi : ∀ j : Int32, 0 ≤ j → j ≤ 4 → vp_in (i + j) L) (hcs : cells + 1 ≤ room_1.cells ∧ slots + 6 ≤ room_1.slots) (hw : n_W D cy hc hm o σc σm ov s H locs) (hl : lv_has ls 8 (n_lv hc hm b o i)) (N : Nat) (zc : (Int32 × uS)) (zm : (Int32 × uS)) (hzc : f_X11_signs N σc (xs (i + 1).toNatClampNeg) (xs (i + 2).toNatClampNeg) = some zc) (hzm : f_X12_signs N σm (xs (i + 1).toNatClampNeg) (xs (i + 2).toNatClampNeg) = some zm) (heq : zc.1 = zm.1) (kk : ∀ (H1 : Heap) (locs1 : List Loc) (ls1 : Array Slot) (ov1 : Nat → Int64), lv_has ls1 8 (n_lv hc hm b o i) → n_W D cy hc hm o zc.2 zm.2 ov1 s H1 locs1 → W p l e room_1 s m args below meth c H1 locs1 (cells + 1) (slots + 6) Q (F0 m 1560 ls1 [])) : W p l e room_1 s m args below meth c H locs cells slots Q (F0 m 780 ls []) := by
  obtain ⟨cx, hl0, hxk, af, hX, hbl⟩ := id C
  obtain ⟨hx, hb, hml, hown, hts⟩ := id cx
  have hK := hxk.1
  have hKm : u_K (D, cy, hm) s := hK
  refine lv_aload_n hx hb dL_law_780 rfl (lv_at hl 1 rfl) ?_
  refine lv_aload_n hx hb dL_law_781 rfl (lv_at hl 0 rfl) ?_
  refine lv_iload hx hb dL_law_782 (lv_at hl 4 rfl) ?_
  refine lv_iconst (v := 1) hx hb dL_law_784 (by decide) ?_
  refine lv_iadd hx hb dL_law_785 ?_
  refine va_sld hx hb hX hbl (Nat.not_le.mpr hbl) hw.2.2.2 (hi 1 (by decide) (by decide)) dL_law_786 ?_
  refine lv_aload_n hx hb dL_law_787 rfl (lv_at hl 0 rfl) ?_
  refine lv_iload hx hb dL_law_788 (lv_at hl 4 rfl) ?_
  refine lv_iconst (v := 2) hx hb dL_law_790 (by decide) ?_
  refine lv_iadd hx hb dL_law_791 ?_
  refine va_sld hx hb hX hbl (Nat.not_le.mpr hbl) hw.2.2.2 (hi 2 (by decide) (by decide)) dL_law_792 ?_
  refine n_callCi (As := [.int (xs (i + 1).toNatClampNeg), .int (xs (i + 2).toNatClampNeg)]) (rest := []) cx hK af hw LVx_L_106 (c_X11_signs l (D, cy, hc) N σc (xs (i + 1).toNatClampNeg) (xs (i + 2).toNatClampNeg) zc hzc) (by decide) (by decide) ⟨by omega, by omega⟩ hl.1 rfl (Nat.le_of_ble_eq_true rfl) dL_law_793 rfl (fun H locs hw => ?_)
  refine lv_aload_n hx hb dL_law_796 rfl (lv_at hl 2 rfl) ?_
  refine lv_aload_n hx hb dL_law_797 rfl (lv_at hl 0 rfl) ?_
  refine lv_iload hx hb dL_law_798 (lv_at hl 4 rfl) ?_
  refine lv_iconst (v := 1) hx hb dL_law_800 (by decide) ?_
  refine lv_iadd hx hb dL_law_801 ?_
  refine va_sld hx hb hX hbl (Nat.not_le.mpr hbl) hw.2.2.2 (hi 1 (by decide) (by decide)) dL_law_802 ?_
  refine lv_aload_n hx hb dL_law_803 rfl (lv_at hl 0 rfl) ?_
  refine lv_iload hx hb dL_law_804 (lv_at hl 4 rfl) ?_
  refine lv_iconst (v := 2) hx hb dL_law_806 (by decide) ?_
  refine lv_iadd hx hb dL_law_807 ?_
  refine va_sld hx hb hX hbl (Nat.not_le.mpr hbl) hw.2.2.2 (hi 2 (by decide) (by decide)) dL_law_808 ?_
  refine n_callMi (As := [.int (xs (i + 1).toNatClampNeg), .int (xs (i + 2).toNatClampNeg)]) (rest := [.int zc.1]) cx hKm af hw LVx_L_109 (c_X12_signs l (D, cy, hm) N σm (xs (i + 1).toNatClampNeg) (xs (i + 2).toNatClampNeg) zm hzm) (by decide) (by decide) ⟨by omega, by omega⟩ hl.1 rfl (Nat.le_of_ble_eq_true rfl) dL_law_809 rfl (fun H locs hw => ?_)
  refine lv_icmp_eq (tgt := 1560) hx hb dL_law_812 (by decide) (fun _ => ?_) (fun hne => absurd heq hne)
  exact W.widen (by omega) (by omega) (kk H locs ls ov hl hw)
theorem n_k19 (C : n_L p l s m args c D cy hc hm o b L xs) (hi : ∀ j : Int32, 0 ≤ j → j ≤ 4 → vp_in (i + j) L) (hcs : cells + 1 ≤ room_1.cells ∧ slots + 6 ≤ room_1.slots) (hw : n_W D cy hc hm o σc σm ov s H locs) (hl : lv_has ls 8 (n_lv hc hm b o i)) (N : Nat) (zc : (Int32 × uS)) (zm : (Int32 × uS)) (hzc : f_X11_empties N σc (xs (i + 1).toNatClampNeg) = some zc) (hzm : f_X12_empties N σm (xs (i + 1).toNatClampNeg) = some zm) (heq : zc.1 = zm.1) (kk : ∀ (H1 : Heap) (locs1 : List Loc) (ls1 : Array Slot) (ov1 : Nat → Int64), lv_has ls1 8 (n_lv hc hm b o i) → n_W D cy hc hm o zc.2 zm.2 ov1 s H1 locs1 → W p l e room_1 s m args below meth c H1 locs1 (cells + 1) (slots + 6) Q (F0 m 1560 ls1 [])) : W p l e room_1 s m args below meth c H locs cells slots Q (F0 m 817 ls []) := by
  obtain ⟨cx, hl0, hxk, af, hX, hbl⟩ := id C
  obtain ⟨hx, hb, hml, hown, hts⟩ := id cx
  have hK := hxk.1
  have hKm : u_K (D, cy, hm) s := hK
  refine lv_aload_n hx hb dL_law_817 rfl (lv_at hl 1 rfl) ?_
  refine lv_aload_n hx hb dL_law_818 rfl (lv_at hl 0 rfl) ?_
  refine lv_iload hx hb dL_law_819 (lv_at hl 4 rfl) ?_
  refine lv_iconst (v := 1) hx hb dL_law_821 (by decide) ?_
  refine lv_iadd hx hb dL_law_822 ?_
  refine va_sld hx hb hX hbl (Nat.not_le.mpr hbl) hw.2.2.2 (hi 1 (by decide) (by decide)) dL_law_823 ?_
  refine n_callCi (As := [.int (xs (i + 1).toNatClampNeg)]) (rest := []) cx hK af hw LVx_L_110 (c_X11_empties l (D, cy, hc) N σc (xs (i + 1).toNatClampNeg) zc hzc) (by decide) (by decide) ⟨by omega, by omega⟩ hl.1 rfl (Nat.le_of_ble_eq_true rfl) dL_law_824 rfl (fun H locs hw => ?_)
  refine lv_aload_n hx hb dL_law_827 rfl (lv_at hl 2 rfl) ?_
  refine lv_aload_n hx hb dL_law_828 rfl (lv_at hl 0 rfl) ?_
  refine lv_iload hx hb dL_law_829 (lv_at hl 4 rfl) ?_
  refine lv_iconst (v := 1) hx hb dL_law_831 (by decide) ?_
  refine lv_iadd hx hb dL_law_832 ?_
  refine va_sld hx hb hX hbl (Nat.not_le.mpr hbl) hw.2.2.2 (hi 1 (by decide) (by decide)) dL_law_833 ?_
  refine n_callMi (As := [.int (xs (i + 1).toNatClampNeg)]) (rest := [.int zc.1]) cx hKm af hw LVx_L_113 (c_X12_empties l (D, cy, hm) N σm (xs (i + 1).toNatClampNeg) zm hzm) (by decide) (by decide) ⟨by omega, by omega⟩ hl.1 rfl (Nat.le_of_ble_eq_true rfl) dL_law_834 rfl (fun H locs hw => ?_)
  refine lv_icmp_eq (tgt := 1560) hx hb dL_law_837 (by decide) (fun _ => ?_) (fun hne => absurd heq hne)
  exact W.widen (by omega) (by omega) (kk H locs ls ov hl hw)
theorem n_k20 (C : n_L p l s m args c D cy hc hm o b L xs) (hi : ∀ j : Int32, 0 ≤ j → j ≤ 4 → vp_in (i + j) L) (hcs : cells + 1 ≤ room_1.cells ∧ slots + 6 ≤ room_1.slots) (hw : n_W D cy hc hm o σc σm ov s H locs) (hl : lv_has ls 8 (n_lv hc hm b o i)) (N : Nat) (zc : (Int32 × uS)) (zm : (Int32 × uS)) (hzc : f_X11_weakest N σc (xs (i + 1).toNatClampNeg) = some zc) (hzm : f_X12_weakest N σm (xs (i + 1).toNatClampNeg) = some zm) (heq : zc.1 = zm.1) (kk : ∀ (H1 : Heap) (locs1 : List Loc) (ls1 : Array Slot) (ov1 : Nat → Int64), lv_has ls1 8 (n_lv hc hm b o i) → n_W D cy hc hm o zc.2 zm.2 ov1 s H1 locs1 → W p l e room_1 s m args below meth c H1 locs1 (cells + 1) (slots + 6) Q (F0 m 1560 ls1 [])) : W p l e room_1 s m args below meth c H locs cells slots Q (F0 m 842 ls []) := by
  obtain ⟨cx, hl0, hxk, af, hX, hbl⟩ := id C
  obtain ⟨hx, hb, hml, hown, hts⟩ := id cx
  have hK := hxk.1
  have hKm : u_K (D, cy, hm) s := hK
  refine lv_aload_n hx hb dL_law_842 rfl (lv_at hl 1 rfl) ?_
  refine lv_aload_n hx hb dL_law_843 rfl (lv_at hl 0 rfl) ?_
  refine lv_iload hx hb dL_law_844 (lv_at hl 4 rfl) ?_
  refine lv_iconst (v := 1) hx hb dL_law_846 (by decide) ?_
  refine lv_iadd hx hb dL_law_847 ?_
  refine va_sld hx hb hX hbl (Nat.not_le.mpr hbl) hw.2.2.2 (hi 1 (by decide) (by decide)) dL_law_848 ?_
  refine n_callCi (As := [.int (xs (i + 1).toNatClampNeg)]) (rest := []) cx hK af hw LVx_L_114 (c_X11_weakest l (D, cy, hc) N σc (xs (i + 1).toNatClampNeg) zc hzc) (by decide) (by decide) ⟨by omega, by omega⟩ hl.1 rfl (Nat.le_of_ble_eq_true rfl) dL_law_849 rfl (fun H locs hw => ?_)
  refine lv_aload_n hx hb dL_law_852 rfl (lv_at hl 2 rfl) ?_
  refine lv_aload_n hx hb dL_law_853 rfl (lv_at hl 0 rfl) ?_
  refine lv_iload hx hb dL_law_854 (lv_at hl 4 rfl) ?_
  refine lv_iconst (v := 1) hx hb dL_law_856 (by decide) ?_
  refine lv_iadd hx hb dL_law_857 ?_
  refine va_sld hx hb hX hbl (Nat.not_le.mpr hbl) hw.2.2.2 (hi 1 (by decide) (by decide)) dL_law_858 ?_
  refine n_callMi (As := [.int (xs (i + 1).toNatClampNeg)]) (rest := [.int zc.1]) cx hKm af hw LVx_L_117 (c_X12_weakest l (D, cy, hm) N σm (xs (i + 1).toNatClampNeg) zm hzm) (by decide) (by decide) ⟨by omega, by omega⟩ hl.1 rfl (Nat.le_of_ble_eq_true rfl) dL_law_859 rfl (fun H locs hw => ?_)
  refine lv_icmp_eq (tgt := 1560) hx hb dL_law_862 (by decide) (fun _ => ?_) (fun hne => absurd heq hne)
  exact W.widen (by omega) (by omega) (kk H locs ls ov hl hw)
theorem n_k21 (C : n_L p l s m args c D cy hc hm o b L xs) (hi : ∀ j : Int32, 0 ≤ j → j ≤ 4 → vp_in (i + j) L) (hcs : cells + 1 ≤ room_1.cells ∧ slots + 6 ≤ room_1.slots) (hw : n_W D cy hc hm o σc σm ov s H locs) (hl : lv_has ls 8 (n_lv hc hm b o i)) (N : Nat) (zc : (Int32 × uS)) (zm : (Int32 × uS)) (hzc : f_X11_mean N σc  = some zc) (hzm : f_X12_mean N σm  = some zm) (heq : zc.1 = zm.1) (kk : ∀ (H1 : Heap) (locs1 : List Loc) (ls1 : Array Slot) (ov1 : Nat → Int64), lv_has ls1 8 (n_lv hc hm b o i) → n_W D cy hc hm o zc.2 zm.2 ov1 s H1 locs1 → W p l e room_1 s m args below meth c H1 locs1 (cells + 1) (slots + 6) Q (F0 m 1560 ls1 [])) : W p l e room_1 s m args below meth c H locs cells slots Q (F0 m 867 ls []) := by
  obtain ⟨cx, hl0, hxk, af, hX, hbl⟩ := id C
  obtain ⟨hx, hb, hml, hown, hts⟩ := id cx
  have hK := hxk.1
  have hKm : u_K (D, cy, hm) s := hK
  refine lv_aload_n hx hb dL_law_867 rfl (lv_at hl 1 rfl) ?_
  refine n_callCi (As := []) (rest := []) cx hK af hw LVx_L_118 (c_X11_mean l (D, cy, hc) N σc  zc hzc) (by decide) (by decide) ⟨by omega, by omega⟩ hl.1 rfl (Nat.le_of_ble_eq_true rfl) dL_law_868 rfl (fun H locs hw => ?_)
  refine lv_aload_n hx hb dL_law_871 rfl (lv_at hl 2 rfl) ?_
  refine n_callMi (As := []) (rest := [.int zc.1]) cx hKm af hw LVx_L_121 (c_X12_mean l (D, cy, hm) N σm  zm hzm) (by decide) (by decide) ⟨by omega, by omega⟩ hl.1 rfl (Nat.le_of_ble_eq_true rfl) dL_law_872 rfl (fun H locs hw => ?_)
  refine lv_icmp_eq (tgt := 1560) hx hb dL_law_875 (by decide) (fun _ => ?_) (fun hne => absurd heq hne)
  exact W.widen (by omega) (by omega) (kk H locs ls ov hl hw)
theorem n_k22 (C : n_L p l s m args c D cy hc hm o b L xs) (hi : ∀ j : Int32, 0 ≤ j → j ≤ 4 → vp_in (i + j) L) (hcs : cells + 1 ≤ room_1.cells ∧ slots + 6 ≤ room_1.slots) (hw : n_W D cy hc hm o σc σm ov s H locs) (hl : lv_has ls 8 (n_lv hc hm b o i)) (N : Nat) (zc : (Int32 × uS)) (zm : (Int32 × uS)) (hzc : f_X11_depends N σc (xs (i + 1).toNatClampNeg) = some zc) (hzm : f_X12_depends N σm (xs (i + 1).toNatClampNeg) = some zm) (heq : zc.1 = zm.1) (kk : ∀ (H1 : Heap) (locs1 : List Loc) (ls1 : Array Slot) (ov1 : Nat → Int64), lv_has ls1 8 (n_lv hc hm b o i) → n_W D cy hc hm o zc.2 zm.2 ov1 s H1 locs1 → W p l e room_1 s m args below meth c H1 locs1 (cells + 1) (slots + 6) Q (F0 m 1560 ls1 [])) : W p l e room_1 s m args below meth c H locs cells slots Q (F0 m 880 ls []) := by
  obtain ⟨cx, hl0, hxk, af, hX, hbl⟩ := id C
  obtain ⟨hx, hb, hml, hown, hts⟩ := id cx
  have hK := hxk.1
  have hKm : u_K (D, cy, hm) s := hK
  refine lv_aload_n hx hb dL_law_880 rfl (lv_at hl 1 rfl) ?_
  refine lv_aload_n hx hb dL_law_881 rfl (lv_at hl 0 rfl) ?_
  refine lv_iload hx hb dL_law_882 (lv_at hl 4 rfl) ?_
  refine lv_iconst (v := 1) hx hb dL_law_884 (by decide) ?_
  refine lv_iadd hx hb dL_law_885 ?_
  refine va_sld hx hb hX hbl (Nat.not_le.mpr hbl) hw.2.2.2 (hi 1 (by decide) (by decide)) dL_law_886 ?_
  refine n_callCi (As := [.int (xs (i + 1).toNatClampNeg)]) (rest := []) cx hK af hw LVx_L_122 (c_X11_depends l (D, cy, hc) N σc (xs (i + 1).toNatClampNeg) zc hzc) (by decide) (by decide) ⟨by omega, by omega⟩ hl.1 rfl (Nat.le_of_ble_eq_true rfl) dL_law_887 rfl (fun H locs hw => ?_)
  refine lv_aload_n hx hb dL_law_890 rfl (lv_at hl 2 rfl) ?_
  refine lv_aload_n hx hb dL_law_891 rfl (lv_at hl 0 rfl) ?_
  refine lv_iload hx hb dL_law_892 (lv_at hl 4 rfl) ?_
  refine lv_iconst (v := 1) hx hb dL_law_894 (by decide) ?_
  refine lv_iadd hx hb dL_law_895 ?_
  refine va_sld hx hb hX hbl (Nat.not_le.mpr hbl) hw.2.2.2 (hi 1 (by decide) (by decide)) dL_law_896 ?_
  refine n_callMi (As := [.int (xs (i + 1).toNatClampNeg)]) (rest := [.int zc.1]) cx hKm af hw LVx_L_125 (c_X12_depends l (D, cy, hm) N σm (xs (i + 1).toNatClampNeg) zm hzm) (by decide) (by decide) ⟨by omega, by omega⟩ hl.1 rfl (Nat.le_of_ble_eq_true rfl) dL_law_897 rfl (fun H locs hw => ?_)
  refine lv_icmp_eq (tgt := 1560) hx hb dL_law_900 (by decide) (fun _ => ?_) (fun hne => absurd heq hne)
  exact W.widen (by omega) (by omega) (kk H locs ls ov hl hw)
theorem n_k23 (C : n_L p l s m args c D cy hc hm o b L xs) (hi : ∀ j : Int32, 0 ≤ j → j ≤ 4 → vp_in (i + j) L) (hcs : cells + 1 ≤ room_1.cells ∧ slots + 6 ≤ room_1.slots) (hw : n_W D cy hc hm o σc σm ov s H locs) (hl : lv_has ls 8 (n_lv hc hm b o i)) (N : Nat) (zc : (Int32 × uS)) (zm : (Int32 × uS)) (hzc : f_X11_cut N σc (xs (i + 1).toNatClampNeg) (xs (i + 2).toNatClampNeg) = some zc) (hzm : f_X12_cut N σm (xs (i + 1).toNatClampNeg) (xs (i + 2).toNatClampNeg) = some zm) (heq : zc.1 = zm.1) (kk : ∀ (H1 : Heap) (locs1 : List Loc) (ls1 : Array Slot) (ov1 : Nat → Int64), lv_has ls1 8 (n_lv hc hm b o i) → n_W D cy hc hm o zc.2 zm.2 ov1 s H1 locs1 → W p l e room_1 s m args below meth c H1 locs1 (cells + 1) (slots + 6) Q (F0 m 1560 ls1 [])) : W p l e room_1 s m args below meth c H locs cells slots Q (F0 m 905 ls []) := by
  obtain ⟨cx, hl0, hxk, af, hX, hbl⟩ := id C
  obtain ⟨hx, hb, hml, hown, hts⟩ := id cx
  have hK := hxk.1
  have hKm : u_K (D, cy, hm) s := hK
  refine lv_aload_n hx hb dL_law_905 rfl (lv_at hl 1 rfl) ?_
  refine lv_aload_n hx hb dL_law_906 rfl (lv_at hl 0 rfl) ?_
  refine lv_iload hx hb dL_law_907 (lv_at hl 4 rfl) ?_
  refine lv_iconst (v := 1) hx hb dL_law_909 (by decide) ?_
  refine lv_iadd hx hb dL_law_910 ?_
  refine va_sld hx hb hX hbl (Nat.not_le.mpr hbl) hw.2.2.2 (hi 1 (by decide) (by decide)) dL_law_911 ?_
  refine lv_aload_n hx hb dL_law_912 rfl (lv_at hl 0 rfl) ?_
  refine lv_iload hx hb dL_law_913 (lv_at hl 4 rfl) ?_
  refine lv_iconst (v := 2) hx hb dL_law_915 (by decide) ?_
  refine lv_iadd hx hb dL_law_916 ?_
  refine va_sld hx hb hX hbl (Nat.not_le.mpr hbl) hw.2.2.2 (hi 2 (by decide) (by decide)) dL_law_917 ?_
  refine n_callCi (As := [.int (xs (i + 1).toNatClampNeg), .int (xs (i + 2).toNatClampNeg)]) (rest := []) cx hK af hw LVx_L_126 (c_X11_cut l (D, cy, hc) N σc (xs (i + 1).toNatClampNeg) (xs (i + 2).toNatClampNeg) zc hzc) (by decide) (by decide) ⟨by omega, by omega⟩ hl.1 rfl (Nat.le_of_ble_eq_true rfl) dL_law_918 rfl (fun H locs hw => ?_)
  refine lv_aload_n hx hb dL_law_921 rfl (lv_at hl 2 rfl) ?_
  refine lv_aload_n hx hb dL_law_922 rfl (lv_at hl 0 rfl) ?_
  refine lv_iload hx hb dL_law_923 (lv_at hl 4 rfl) ?_
  refine lv_iconst (v := 1) hx hb dL_law_925 (by decide) ?_
  refine lv_iadd hx hb dL_law_926 ?_
  refine va_sld hx hb hX hbl (Nat.not_le.mpr hbl) hw.2.2.2 (hi 1 (by decide) (by decide)) dL_law_927 ?_
  refine lv_aload_n hx hb dL_law_928 rfl (lv_at hl 0 rfl) ?_
  refine lv_iload hx hb dL_law_929 (lv_at hl 4 rfl) ?_
  refine lv_iconst (v := 2) hx hb dL_law_931 (by decide) ?_
  refine lv_iadd hx hb dL_law_932 ?_
  refine va_sld hx hb hX hbl (Nat.not_le.mpr hbl) hw.2.2.2 (hi 2 (by decide) (by decide)) dL_law_933 ?_
  refine n_callMi (As := [.int (xs (i + 1).toNatClampNeg), .int (xs (i + 2).toNatClampNeg)]) (rest := [.int zc.1]) cx hKm af hw LVx_L_129 (c_X12_cut l (D, cy, hm) N σm (xs (i + 1).toNatClampNeg) (xs (i + 2).toNatClampNeg) zm hzm) (by decide) (by decide) ⟨by omega, by omega⟩ hl.1 rfl (Nat.le_of_ble_eq_true rfl) dL_law_934 rfl (fun H locs hw => ?_)
  refine lv_icmp_eq (tgt := 1560) hx hb dL_law_937 (by decide) (fun _ => ?_) (fun hne => absurd heq hne)
  exact W.widen (by omega) (by omega) (kk H locs ls ov hl hw)
theorem n_k24 (C : n_L p l s m args c D cy hc hm o b L xs) (hi : ∀ j : Int32, 0 ≤ j → j ≤ 4 → vp_in (i + j) L) (hcs : cells + 1 ≤ room_1.cells ∧ slots + 6 ≤ room_1.slots) (hw : n_W D cy hc hm o σc σm ov s H locs) (hl : lv_has ls 8 (n_lv hc hm b o i)) (N : Nat) (zc : (Int32 × uS)) (zm : (Int32 × uS)) (hzc : f_X11_faces N σc  = some zc) (hzm : f_X12_faces N σm  = some zm) (heq : zc.1 = zm.1) (kk : ∀ (H1 : Heap) (locs1 : List Loc) (ls1 : Array Slot) (ov1 : Nat → Int64), lv_has ls1 8 (n_lv hc hm b o i) → n_W D cy hc hm o zc.2 zm.2 ov1 s H1 locs1 → W p l e room_1 s m args below meth c H1 locs1 (cells + 1) (slots + 6) Q (F0 m 1560 ls1 [])) : W p l e room_1 s m args below meth c H locs cells slots Q (F0 m 942 ls []) := by
  obtain ⟨cx, hl0, hxk, af, hX, hbl⟩ := id C
  obtain ⟨hx, hb, hml, hown, hts⟩ := id cx
  have hK := hxk.1
  have hKm : u_K (D, cy, hm) s := hK
  refine lv_aload_n hx hb dL_law_942 rfl (lv_at hl 1 rfl) ?_
  refine n_callCi (As := []) (rest := []) cx hK af hw LVx_L_130 (c_X11_faces l (D, cy, hc) N σc  zc hzc) (by decide) (by decide) ⟨by omega, by omega⟩ hl.1 rfl (Nat.le_of_ble_eq_true rfl) dL_law_943 rfl (fun H locs hw => ?_)
  refine lv_aload_n hx hb dL_law_946 rfl (lv_at hl 2 rfl) ?_
  refine n_callMi (As := []) (rest := [.int zc.1]) cx hKm af hw LVx_L_133 (c_X12_faces l (D, cy, hm) N σm  zm hzm) (by decide) (by decide) ⟨by omega, by omega⟩ hl.1 rfl (Nat.le_of_ble_eq_true rfl) dL_law_947 rfl (fun H locs hw => ?_)
  refine lv_icmp_eq (tgt := 1560) hx hb dL_law_950 (by decide) (fun _ => ?_) (fun hne => absurd heq hne)
  exact W.widen (by omega) (by omega) (kk H locs ls ov hl hw)
theorem n_k25 (C : n_L p l s m args c D cy hc hm o b L xs) (hi : ∀ j : Int32, 0 ≤ j → j ≤ 4 → vp_in (i + j) L) (hcs : cells + 1 ≤ room_1.cells ∧ slots + 6 ≤ room_1.slots) (hw : n_W D cy hc hm o σc σm ov s H locs) (hl : lv_has ls 8 (n_lv hc hm b o i)) (N : Nat) (zc : (Int32 × uS)) (zm : (Int32 × uS)) (hzc : f_X11_knows N σc (xs (i + 1).toNatClampNeg) = some zc) (hzm : f_X12_knows N σm (xs (i + 1).toNatClampNeg) = some zm) (heq : zc.1 = zm.1) (kk : ∀ (H1 : Heap) (locs1 : List Loc) (ls1 : Array Slot) (ov1 : Nat → Int64), lv_has ls1 8 (n_lv hc hm b o i) → n_W D cy hc hm o zc.2 zm.2 ov1 s H1 locs1 → W p l e room_1 s m args below meth c H1 locs1 (cells + 1) (slots + 6) Q (F0 m 1560 ls1 [])) : W p l e room_1 s m args below meth c H locs cells slots Q (F0 m 955 ls []) := by
  obtain ⟨cx, hl0, hxk, af, hX, hbl⟩ := id C
  obtain ⟨hx, hb, hml, hown, hts⟩ := id cx
  have hK := hxk.1
  have hKm : u_K (D, cy, hm) s := hK
  refine lv_aload_n hx hb dL_law_955 rfl (lv_at hl 1 rfl) ?_
  refine lv_aload_n hx hb dL_law_956 rfl (lv_at hl 0 rfl) ?_
  refine lv_iload hx hb dL_law_957 (lv_at hl 4 rfl) ?_
  refine lv_iconst (v := 1) hx hb dL_law_959 (by decide) ?_
  refine lv_iadd hx hb dL_law_960 ?_
  refine va_sld hx hb hX hbl (Nat.not_le.mpr hbl) hw.2.2.2 (hi 1 (by decide) (by decide)) dL_law_961 ?_
  refine n_callCi (As := [.int (xs (i + 1).toNatClampNeg)]) (rest := []) cx hK af hw LVx_L_134 (c_X11_knows l (D, cy, hc) N σc (xs (i + 1).toNatClampNeg) zc hzc) (by decide) (by decide) ⟨by omega, by omega⟩ hl.1 rfl (Nat.le_of_ble_eq_true rfl) dL_law_962 rfl (fun H locs hw => ?_)
  refine lv_aload_n hx hb dL_law_965 rfl (lv_at hl 2 rfl) ?_
  refine lv_aload_n hx hb dL_law_966 rfl (lv_at hl 0 rfl) ?_
  refine lv_iload hx hb dL_law_967 (lv_at hl 4 rfl) ?_
  refine lv_iconst (v := 1) hx hb dL_law_969 (by decide) ?_
  refine lv_iadd hx hb dL_law_970 ?_
  refine va_sld hx hb hX hbl (Nat.not_le.mpr hbl) hw.2.2.2 (hi 1 (by decide) (by decide)) dL_law_971 ?_
  refine n_callMi (As := [.int (xs (i + 1).toNatClampNeg)]) (rest := [.int zc.1]) cx hKm af hw LVx_L_137 (c_X12_knows l (D, cy, hm) N σm (xs (i + 1).toNatClampNeg) zm hzm) (by decide) (by decide) ⟨by omega, by omega⟩ hl.1 rfl (Nat.le_of_ble_eq_true rfl) dL_law_972 rfl (fun H locs hw => ?_)
  refine lv_icmp_eq (tgt := 1560) hx hb dL_law_975 (by decide) (fun _ => ?_) (fun hne => absurd heq hne)
  exact W.widen (by omega) (by omega) (kk H locs ls ov hl hw)
theorem n_k26 (C : n_L p l s m args c D cy hc hm o b L xs) (hi : ∀ j : Int32, 0 ≤ j → j ≤ 4 → vp_in (i + j) L) (hcs : cells + 1 ≤ room_1.cells ∧ slots + 6 ≤ room_1.slots) (hw : n_W D cy hc hm o σc σm ov s H locs) (hl : lv_has ls 8 (n_lv hc hm b o i)) (N : Nat) (zc : (Int32 × uS)) (zm : (Int32 × uS)) (hzc : f_X11_circle N σc  = some zc) (hzm : f_X12_circle N σm  = some zm) (heq : zc.1 = zm.1) (kk : ∀ (H1 : Heap) (locs1 : List Loc) (ls1 : Array Slot) (ov1 : Nat → Int64), lv_has ls1 8 (n_lv hc hm b o i) → n_W D cy hc hm o zc.2 zm.2 ov1 s H1 locs1 → W p l e room_1 s m args below meth c H1 locs1 (cells + 1) (slots + 6) Q (F0 m 1560 ls1 [])) : W p l e room_1 s m args below meth c H locs cells slots Q (F0 m 980 ls []) := by
  obtain ⟨cx, hl0, hxk, af, hX, hbl⟩ := id C
  obtain ⟨hx, hb, hml, hown, hts⟩ := id cx
  have hK := hxk.1
  have hKm : u_K (D, cy, hm) s := hK
  refine lv_aload_n hx hb dL_law_980 rfl (lv_at hl 1 rfl) ?_
  refine n_callCi (As := []) (rest := []) cx hK af hw LVx_L_138 (c_X11_circle l (D, cy, hc) N σc  zc hzc) (by decide) (by decide) ⟨by omega, by omega⟩ hl.1 rfl (Nat.le_of_ble_eq_true rfl) dL_law_981 rfl (fun H locs hw => ?_)
  refine lv_aload_n hx hb dL_law_984 rfl (lv_at hl 2 rfl) ?_
  refine n_callMi (As := []) (rest := [.int zc.1]) cx hKm af hw LVx_L_141 (c_X12_circle l (D, cy, hm) N σm  zm hzm) (by decide) (by decide) ⟨by omega, by omega⟩ hl.1 rfl (Nat.le_of_ble_eq_true rfl) dL_law_985 rfl (fun H locs hw => ?_)
  refine lv_icmp_eq (tgt := 1560) hx hb dL_law_988 (by decide) (fun _ => ?_) (fun hne => absurd heq hne)
  exact W.widen (by omega) (by omega) (kk H locs ls ov hl hw)
theorem n_k27 (C : n_L p l s m args c D cy hc hm o b L xs) (hi : ∀ j : Int32, 0 ≤ j → j ≤ 4 → vp_in (i + j) L) (hcs : cells + 1 ≤ room_1.cells ∧ slots + 6 ≤ room_1.slots) (hw : n_W D cy hc hm o σc σm ov s H locs) (hl : lv_has ls 8 (n_lv hc hm b o i)) (N : Nat) (zc : (Int32 × uS)) (zm : (Int32 × uS)) (hzc : f_X11_spreads N σc (xs (i + 1).toNatClampNeg) = some zc) (hzm : f_X12_spreads N σm (xs (i + 1).toNatClampNeg) = some zm) (heq : zc.1 = zm.1) (kk : ∀ (H1 : Heap) (locs1 : List Loc) (ls1 : Array Slot) (ov1 : Nat → Int64), lv_has ls1 8 (n_lv hc hm b o i) → n_W D cy hc hm o zc.2 zm.2 ov1 s H1 locs1 → W p l e room_1 s m args below meth c H1 locs1 (cells + 1) (slots + 6) Q (F0 m 1560 ls1 [])) : W p l e room_1 s m args below meth c H locs cells slots Q (F0 m 993 ls []) := by
  obtain ⟨cx, hl0, hxk, af, hX, hbl⟩ := id C
  obtain ⟨hx, hb, hml, hown, hts⟩ := id cx
  have hK := hxk.1
  have hKm : u_K (D, cy, hm) s := hK
  refine lv_aload_n hx hb dL_law_993 rfl (lv_at hl 1 rfl) ?_
  refine lv_aload_n hx hb dL_law_994 rfl (lv_at hl 0 rfl) ?_
  refine lv_iload hx hb dL_law_995 (lv_at hl 4 rfl) ?_
  refine lv_iconst (v := 1) hx hb dL_law_997 (by decide) ?_
  refine lv_iadd hx hb dL_law_998 ?_
  refine va_sld hx hb hX hbl (Nat.not_le.mpr hbl) hw.2.2.2 (hi 1 (by decide) (by decide)) dL_law_999 ?_
  refine n_callCi (As := [.int (xs (i + 1).toNatClampNeg)]) (rest := []) cx hK af hw LVx_L_142 (c_X11_spreads l (D, cy, hc) N σc (xs (i + 1).toNatClampNeg) zc hzc) (by decide) (by decide) ⟨by omega, by omega⟩ hl.1 rfl (Nat.le_of_ble_eq_true rfl) dL_law_1000 rfl (fun H locs hw => ?_)
  refine lv_aload_n hx hb dL_law_1003 rfl (lv_at hl 2 rfl) ?_
  refine lv_aload_n hx hb dL_law_1004 rfl (lv_at hl 0 rfl) ?_
  refine lv_iload hx hb dL_law_1005 (lv_at hl 4 rfl) ?_
  refine lv_iconst (v := 1) hx hb dL_law_1007 (by decide) ?_
  refine lv_iadd hx hb dL_law_1008 ?_
  refine va_sld hx hb hX hbl (Nat.not_le.mpr hbl) hw.2.2.2 (hi 1 (by decide) (by decide)) dL_law_1009 ?_
  refine n_callMi (As := [.int (xs (i + 1).toNatClampNeg)]) (rest := [.int zc.1]) cx hKm af hw LVx_L_145 (c_X12_spreads l (D, cy, hm) N σm (xs (i + 1).toNatClampNeg) zm hzm) (by decide) (by decide) ⟨by omega, by omega⟩ hl.1 rfl (Nat.le_of_ble_eq_true rfl) dL_law_1010 rfl (fun H locs hw => ?_)
  refine lv_icmp_eq (tgt := 1560) hx hb dL_law_1013 (by decide) (fun _ => ?_) (fun hne => absurd heq hne)
  exact W.widen (by omega) (by omega) (kk H locs ls ov hl hw)
theorem n_k28 (C : n_L p l s m args c D cy hc hm o b L xs) (hi : ∀ j : Int32, 0 ≤ j → j ≤ 4 → vp_in (i + j) L) (hcs : cells + 1 ≤ room_1.cells ∧ slots + 6 ≤ room_1.slots) (hw : n_W D cy hc hm o σc σm ov s H locs) (hl : lv_has ls 8 (n_lv hc hm b o i)) (N : Nat) (zc : (Int32 × uS)) (zm : (Int32 × uS)) (hzc : f_X11_unlike N σc  = some zc) (hzm : f_X12_unlike N σm  = some zm) (heq : zc.1 = zm.1) (kk : ∀ (H1 : Heap) (locs1 : List Loc) (ls1 : Array Slot) (ov1 : Nat → Int64), lv_has ls1 8 (n_lv hc hm b o i) → n_W D cy hc hm o zc.2 zm.2 ov1 s H1 locs1 → W p l e room_1 s m args below meth c H1 locs1 (cells + 1) (slots + 6) Q (F0 m 1560 ls1 [])) : W p l e room_1 s m args below meth c H locs cells slots Q (F0 m 1018 ls []) := by
  obtain ⟨cx, hl0, hxk, af, hX, hbl⟩ := id C
  obtain ⟨hx, hb, hml, hown, hts⟩ := id cx
  have hK := hxk.1
  have hKm : u_K (D, cy, hm) s := hK
  refine lv_aload_n hx hb dL_law_1018 rfl (lv_at hl 1 rfl) ?_
  refine n_callCi (As := []) (rest := []) cx hK af hw LVx_L_146 (c_X11_unlike l (D, cy, hc) N σc  zc hzc) (by decide) (by decide) ⟨by omega, by omega⟩ hl.1 rfl (Nat.le_of_ble_eq_true rfl) dL_law_1019 rfl (fun H locs hw => ?_)
  refine lv_aload_n hx hb dL_law_1022 rfl (lv_at hl 2 rfl) ?_
  refine n_callMi (As := []) (rest := [.int zc.1]) cx hKm af hw LVx_L_149 (c_X12_unlike l (D, cy, hm) N σm  zm hzm) (by decide) (by decide) ⟨by omega, by omega⟩ hl.1 rfl (Nat.le_of_ble_eq_true rfl) dL_law_1023 rfl (fun H locs hw => ?_)
  refine lv_icmp_eq (tgt := 1560) hx hb dL_law_1026 (by decide) (fun _ => ?_) (fun hne => absurd heq hne)
  exact W.widen (by omega) (by omega) (kk H locs ls ov hl hw)
theorem n_k29 (C : n_L p l s m args c D cy hc hm o b L xs) (hi : ∀ j : Int32, 0 ≤ j → j ≤ 4 → vp_in (i + j) L) (hcs : cells + 1 ≤ room_1.cells ∧ slots + 6 ≤ room_1.slots) (hw : n_W D cy hc hm o σc σm ov s H locs) (hl : lv_has ls 8 (n_lv hc hm b o i)) (N : Nat) (zc : (Int32 × uS)) (zm : (Int32 × uS)) (hzc : f_X11_dig N σc (xs (i + 1).toNatClampNeg) (xs (i + 2).toNatClampNeg) = some zc) (hzm : f_X12_dig N σm (xs (i + 1).toNatClampNeg) (xs (i + 2).toNatClampNeg) = some zm) (heq : zc.1 = zm.1) (kk : ∀ (H1 : Heap) (locs1 : List Loc) (ls1 : Array Slot) (ov1 : Nat → Int64), lv_has ls1 8 (n_lv hc hm b o i) → n_W D cy hc hm o zc.2 zm.2 ov1 s H1 locs1 → W p l e room_1 s m args below meth c H1 locs1 (cells + 1) (slots + 6) Q (F0 m 1560 ls1 [])) : W p l e room_1 s m args below meth c H locs cells slots Q (F0 m 1031 ls []) := by
  obtain ⟨cx, hl0, hxk, af, hX, hbl⟩ := id C
  obtain ⟨hx, hb, hml, hown, hts⟩ := id cx
  have hK := hxk.1
  have hKm : u_K (D, cy, hm) s := hK
  refine lv_aload_n hx hb dL_law_1031 rfl (lv_at hl 1 rfl) ?_
  refine lv_aload_n hx hb dL_law_1032 rfl (lv_at hl 0 rfl) ?_
  refine lv_iload hx hb dL_law_1033 (lv_at hl 4 rfl) ?_
  refine lv_iconst (v := 1) hx hb dL_law_1035 (by decide) ?_
  refine lv_iadd hx hb dL_law_1036 ?_
  refine va_sld hx hb hX hbl (Nat.not_le.mpr hbl) hw.2.2.2 (hi 1 (by decide) (by decide)) dL_law_1037 ?_
  refine lv_aload_n hx hb dL_law_1038 rfl (lv_at hl 0 rfl) ?_
  refine lv_iload hx hb dL_law_1039 (lv_at hl 4 rfl) ?_
  refine lv_iconst (v := 2) hx hb dL_law_1041 (by decide) ?_
  refine lv_iadd hx hb dL_law_1042 ?_
  refine va_sld hx hb hX hbl (Nat.not_le.mpr hbl) hw.2.2.2 (hi 2 (by decide) (by decide)) dL_law_1043 ?_
  refine n_callCi (As := [.int (xs (i + 1).toNatClampNeg), .int (xs (i + 2).toNatClampNeg)]) (rest := []) cx hK af hw LVx_L_150 (c_X11_dig l (D, cy, hc) N σc (xs (i + 1).toNatClampNeg) (xs (i + 2).toNatClampNeg) zc hzc) (by decide) (by decide) ⟨by omega, by omega⟩ hl.1 rfl (Nat.le_of_ble_eq_true rfl) dL_law_1044 rfl (fun H locs hw => ?_)
  refine lv_aload_n hx hb dL_law_1047 rfl (lv_at hl 2 rfl) ?_
  refine lv_aload_n hx hb dL_law_1048 rfl (lv_at hl 0 rfl) ?_
  refine lv_iload hx hb dL_law_1049 (lv_at hl 4 rfl) ?_
  refine lv_iconst (v := 1) hx hb dL_law_1051 (by decide) ?_
  refine lv_iadd hx hb dL_law_1052 ?_
  refine va_sld hx hb hX hbl (Nat.not_le.mpr hbl) hw.2.2.2 (hi 1 (by decide) (by decide)) dL_law_1053 ?_
  refine lv_aload_n hx hb dL_law_1054 rfl (lv_at hl 0 rfl) ?_
  refine lv_iload hx hb dL_law_1055 (lv_at hl 4 rfl) ?_
  refine lv_iconst (v := 2) hx hb dL_law_1057 (by decide) ?_
  refine lv_iadd hx hb dL_law_1058 ?_
  refine va_sld hx hb hX hbl (Nat.not_le.mpr hbl) hw.2.2.2 (hi 2 (by decide) (by decide)) dL_law_1059 ?_
  refine n_callMi (As := [.int (xs (i + 1).toNatClampNeg), .int (xs (i + 2).toNatClampNeg)]) (rest := [.int zc.1]) cx hKm af hw LVx_L_153 (c_X12_dig l (D, cy, hm) N σm (xs (i + 1).toNatClampNeg) (xs (i + 2).toNatClampNeg) zm hzm) (by decide) (by decide) ⟨by omega, by omega⟩ hl.1 rfl (Nat.le_of_ble_eq_true rfl) dL_law_1060 rfl (fun H locs hw => ?_)
  refine lv_icmp_eq (tgt := 1560) hx hb dL_law_1063 (by decide) (fun _ => ?_) (fun hne => absurd heq hne)
  exact W.widen (by omega) (by omega) (kk H locs ls ov hl hw)
theorem n_k30 (C : n_L p l s m args c D cy hc hm o b L xs) (hi : ∀ j : Int32, 0 ≤ j → j ≤ 4 → vp_in (i + j) L) (hcs : cells + 1 ≤ room_1.cells ∧ slots + 6 ≤ room_1.slots) (hw : n_W D cy hc hm o σc σm ov s H locs) (hl : lv_has ls 8 (n_lv hc hm b o i)) (N : Nat) (zc : (Int32 × uS)) (zm : (Int32 × uS)) (hzc : f_X11_forget N σc  = some zc) (hzm : f_X12_forget N σm  = some zm) (heq : zc.1 = zm.1) (kk : ∀ (H1 : Heap) (locs1 : List Loc) (ls1 : Array Slot) (ov1 : Nat → Int64), lv_has ls1 8 (n_lv hc hm b o i) → n_W D cy hc hm o zc.2 zm.2 ov1 s H1 locs1 → W p l e room_1 s m args below meth c H1 locs1 (cells + 1) (slots + 6) Q (F0 m 1560 ls1 [])) : W p l e room_1 s m args below meth c H locs cells slots Q (F0 m 1068 ls []) := by
  obtain ⟨cx, hl0, hxk, af, hX, hbl⟩ := id C
  obtain ⟨hx, hb, hml, hown, hts⟩ := id cx
  have hK := hxk.1
  have hKm : u_K (D, cy, hm) s := hK
  refine lv_aload_n hx hb dL_law_1068 rfl (lv_at hl 1 rfl) ?_
  refine n_callCi (As := []) (rest := []) cx hK af hw LVx_L_154 (c_X11_forget l (D, cy, hc) N σc  zc hzc) (by decide) (by decide) ⟨by omega, by omega⟩ hl.1 rfl (Nat.le_of_ble_eq_true rfl) dL_law_1069 rfl (fun H locs hw => ?_)
  refine lv_aload_n hx hb dL_law_1072 rfl (lv_at hl 2 rfl) ?_
  refine n_callMi (As := []) (rest := [.int zc.1]) cx hKm af hw LVx_L_157 (c_X12_forget l (D, cy, hm) N σm  zm hzm) (by decide) (by decide) ⟨by omega, by omega⟩ hl.1 rfl (Nat.le_of_ble_eq_true rfl) dL_law_1073 rfl (fun H locs hw => ?_)
  refine lv_icmp_eq (tgt := 1560) hx hb dL_law_1076 (by decide) (fun _ => ?_) (fun hne => absurd heq hne)
  exact W.widen (by omega) (by omega) (kk H locs ls ov hl hw)
theorem n_k31 (C : n_L p l s m args c D cy hc hm o b L xs) (hi : ∀ j : Int32, 0 ≤ j → j ≤ 4 → vp_in (i + j) L) (hcs : cells + 1 ≤ room_1.cells ∧ slots + 6 ≤ room_1.slots) (hw : n_W D cy hc hm o σc σm ov s H locs) (hl : lv_has ls 8 (n_lv hc hm b o i)) (N : Nat) (zc : (Int32 × uS)) (zm : (Int32 × uS)) (hzc : f_X11_courses N σc  = some zc) (hzm : f_X12_courses N σm  = some zm) (heq : zc.1 = zm.1) (kk : ∀ (H1 : Heap) (locs1 : List Loc) (ls1 : Array Slot) (ov1 : Nat → Int64), lv_has ls1 8 (n_lv hc hm b o i) → n_W D cy hc hm o zc.2 zm.2 ov1 s H1 locs1 → W p l e room_1 s m args below meth c H1 locs1 (cells + 1) (slots + 6) Q (F0 m 1560 ls1 [])) : W p l e room_1 s m args below meth c H locs cells slots Q (F0 m 1081 ls []) := by
  obtain ⟨cx, hl0, hxk, af, hX, hbl⟩ := id C
  obtain ⟨hx, hb, hml, hown, hts⟩ := id cx
  have hK := hxk.1
  have hKm : u_K (D, cy, hm) s := hK
  refine lv_aload_n hx hb dL_law_1081 rfl (lv_at hl 1 rfl) ?_
  refine n_callCi (As := []) (rest := []) cx hK af hw LVx_L_158 (c_X11_courses l (D, cy, hc) N σc  zc hzc) (by decide) (by decide) ⟨by omega, by omega⟩ hl.1 rfl (Nat.le_of_ble_eq_true rfl) dL_law_1082 rfl (fun H locs hw => ?_)
  refine lv_aload_n hx hb dL_law_1085 rfl (lv_at hl 2 rfl) ?_
  refine n_callMi (As := []) (rest := [.int zc.1]) cx hKm af hw LVx_L_161 (c_X12_courses l (D, cy, hm) N σm  zm hzm) (by decide) (by decide) ⟨by omega, by omega⟩ hl.1 rfl (Nat.le_of_ble_eq_true rfl) dL_law_1086 rfl (fun H locs hw => ?_)
  refine lv_icmp_eq (tgt := 1560) hx hb dL_law_1089 (by decide) (fun _ => ?_) (fun hne => absurd heq hne)
  exact W.widen (by omega) (by omega) (kk H locs ls ov hl hw)
theorem n_k32 (C : n_L p l s m args c D cy hc hm o b L xs) (hi : ∀ j : Int32, 0 ≤ j → j ≤ 4 → vp_in (i + j) L) (hcs : cells + 1 ≤ room_1.cells ∧ slots + 6 ≤ room_1.slots) (hw : n_W D cy hc hm o σc σm ov s H locs) (hl : lv_has ls 8 (n_lv hc hm b o i)) (N : Nat) (zc : (Int32 × uS)) (zm : (Int32 × uS)) (hzc : f_X11_sure N σc  = some zc) (hzm : f_X12_sure N σm  = some zm) (heq : zc.1 = zm.1) (kk : ∀ (H1 : Heap) (locs1 : List Loc) (ls1 : Array Slot) (ov1 : Nat → Int64), lv_has ls1 8 (n_lv hc hm b o i) → n_W D cy hc hm o zc.2 zm.2 ov1 s H1 locs1 → W p l e room_1 s m args below meth c H1 locs1 (cells + 1) (slots + 6) Q (F0 m 1560 ls1 [])) : W p l e room_1 s m args below meth c H locs cells slots Q (F0 m 1094 ls []) := by
  obtain ⟨cx, hl0, hxk, af, hX, hbl⟩ := id C
  obtain ⟨hx, hb, hml, hown, hts⟩ := id cx
  have hK := hxk.1
  have hKm : u_K (D, cy, hm) s := hK
  refine lv_aload_n hx hb dL_law_1094 rfl (lv_at hl 1 rfl) ?_
  refine n_callCi (As := []) (rest := []) cx hK af hw LVx_L_162 (c_X11_sure l (D, cy, hc) N σc  zc hzc) (by decide) (by decide) ⟨by omega, by omega⟩ hl.1 rfl (Nat.le_of_ble_eq_true rfl) dL_law_1095 rfl (fun H locs hw => ?_)
  refine lv_aload_n hx hb dL_law_1098 rfl (lv_at hl 2 rfl) ?_
  refine n_callMi (As := []) (rest := [.int zc.1]) cx hKm af hw LVx_L_165 (c_X12_sure l (D, cy, hm) N σm  zm hzm) (by decide) (by decide) ⟨by omega, by omega⟩ hl.1 rfl (Nat.le_of_ble_eq_true rfl) dL_law_1099 rfl (fun H locs hw => ?_)
  refine lv_icmp_eq (tgt := 1560) hx hb dL_law_1102 (by decide) (fun _ => ?_) (fun hne => absurd heq hne)
  exact W.widen (by omega) (by omega) (kk H locs ls ov hl hw)
theorem n_k33 (C : n_L p l s m args c D cy hc hm o b L xs) (hi : ∀ j : Int32, 0 ≤ j → j ≤ 4 → vp_in (i + j) L) (hcs : cells + 1 ≤ room_1.cells ∧ slots + 6 ≤ room_1.slots) (hw : n_W D cy hc hm o σc σm ov s H locs) (hl : lv_has ls 8 (n_lv hc hm b o i)) (N : Nat) (zc : (Int32 × uS)) (zm : (Int32 × uS)) (hzc : f_X11_next N σc  = some zc) (hzm : f_X12_next N σm  = some zm) (heq : zc.1 = zm.1) (kk : ∀ (H1 : Heap) (locs1 : List Loc) (ls1 : Array Slot) (ov1 : Nat → Int64), lv_has ls1 8 (n_lv hc hm b o i) → n_W D cy hc hm o zc.2 zm.2 ov1 s H1 locs1 → W p l e room_1 s m args below meth c H1 locs1 (cells + 1) (slots + 6) Q (F0 m 1560 ls1 [])) : W p l e room_1 s m args below meth c H locs cells slots Q (F0 m 1107 ls []) := by
  obtain ⟨cx, hl0, hxk, af, hX, hbl⟩ := id C
  obtain ⟨hx, hb, hml, hown, hts⟩ := id cx
  have hK := hxk.1
  have hKm : u_K (D, cy, hm) s := hK
  refine lv_aload_n hx hb dL_law_1107 rfl (lv_at hl 1 rfl) ?_
  refine n_callCi (As := []) (rest := []) cx hK af hw LVx_L_166 (c_X11_next l (D, cy, hc) N σc  zc hzc) (by decide) (by decide) ⟨by omega, by omega⟩ hl.1 rfl (Nat.le_of_ble_eq_true rfl) dL_law_1108 rfl (fun H locs hw => ?_)
  refine lv_aload_n hx hb dL_law_1111 rfl (lv_at hl 2 rfl) ?_
  refine n_callMi (As := []) (rest := [.int zc.1]) cx hKm af hw LVx_L_169 (c_X12_next l (D, cy, hm) N σm  zm hzm) (by decide) (by decide) ⟨by omega, by omega⟩ hl.1 rfl (Nat.le_of_ble_eq_true rfl) dL_law_1112 rfl (fun H locs hw => ?_)
  refine lv_icmp_eq (tgt := 1560) hx hb dL_law_1115 (by decide) (fun _ => ?_) (fun hne => absurd heq hne)
  exact W.widen (by omega) (by omega) (kk H locs ls ov hl hw)
theorem n_k34 (C : n_L p l s m args c D cy hc hm o b L xs) (hi : ∀ j : Int32, 0 ≤ j → j ≤ 4 → vp_in (i + j) L) (hcs : cells + 1 ≤ room_1.cells ∧ slots + 6 ≤ room_1.slots) (hw : n_W D cy hc hm o σc σm ov s H locs) (hl : lv_has ls 8 (n_lv hc hm b o i)) (N : Nat) (zc : (Int32 × uS)) (zm : (Int32 × uS)) (hzc : f_X11_dues N σc (xs (i + 1).toNatClampNeg) = some zc) (hzm : f_X12_dues N σm (xs (i + 1).toNatClampNeg) = some zm) (heq : zc.1 = zm.1) (kk : ∀ (H1 : Heap) (locs1 : List Loc) (ls1 : Array Slot) (ov1 : Nat → Int64), lv_has ls1 8 (n_lv hc hm b o i) → n_W D cy hc hm o zc.2 zm.2 ov1 s H1 locs1 → W p l e room_1 s m args below meth c H1 locs1 (cells + 1) (slots + 6) Q (F0 m 1560 ls1 [])) : W p l e room_1 s m args below meth c H locs cells slots Q (F0 m 1120 ls []) := by
  obtain ⟨cx, hl0, hxk, af, hX, hbl⟩ := id C
  obtain ⟨hx, hb, hml, hown, hts⟩ := id cx
  have hK := hxk.1
  have hKm : u_K (D, cy, hm) s := hK
  refine lv_aload_n hx hb dL_law_1120 rfl (lv_at hl 1 rfl) ?_
  refine lv_aload_n hx hb dL_law_1121 rfl (lv_at hl 0 rfl) ?_
  refine lv_iload hx hb dL_law_1122 (lv_at hl 4 rfl) ?_
  refine lv_iconst (v := 1) hx hb dL_law_1124 (by decide) ?_
  refine lv_iadd hx hb dL_law_1125 ?_
  refine va_sld hx hb hX hbl (Nat.not_le.mpr hbl) hw.2.2.2 (hi 1 (by decide) (by decide)) dL_law_1126 ?_
  refine n_callCi (As := [.int (xs (i + 1).toNatClampNeg)]) (rest := []) cx hK af hw LVx_L_170 (c_X11_dues l (D, cy, hc) N σc (xs (i + 1).toNatClampNeg) zc hzc) (by decide) (by decide) ⟨by omega, by omega⟩ hl.1 rfl (Nat.le_of_ble_eq_true rfl) dL_law_1127 rfl (fun H locs hw => ?_)
  refine lv_aload_n hx hb dL_law_1130 rfl (lv_at hl 2 rfl) ?_
  refine lv_aload_n hx hb dL_law_1131 rfl (lv_at hl 0 rfl) ?_
  refine lv_iload hx hb dL_law_1132 (lv_at hl 4 rfl) ?_
  refine lv_iconst (v := 1) hx hb dL_law_1134 (by decide) ?_
  refine lv_iadd hx hb dL_law_1135 ?_
  refine va_sld hx hb hX hbl (Nat.not_le.mpr hbl) hw.2.2.2 (hi 1 (by decide) (by decide)) dL_law_1136 ?_
  refine n_callMi (As := [.int (xs (i + 1).toNatClampNeg)]) (rest := [.int zc.1]) cx hKm af hw LVx_L_173 (c_X12_dues l (D, cy, hm) N σm (xs (i + 1).toNatClampNeg) zm hzm) (by decide) (by decide) ⟨by omega, by omega⟩ hl.1 rfl (Nat.le_of_ble_eq_true rfl) dL_law_1137 rfl (fun H locs hw => ?_)
  refine lv_icmp_eq (tgt := 1560) hx hb dL_law_1140 (by decide) (fun _ => ?_) (fun hne => absurd heq hne)
  exact W.widen (by omega) (by omega) (kk H locs ls ov hl hw)
theorem n_k35 (C : n_L p l s m args c D cy hc hm o b L xs) (hi : ∀ j : Int32, 0 ≤ j → j ≤ 4 → vp_in (i + j) L) (hcs : cells + 1 ≤ room_1.cells ∧ slots + 6 ≤ room_1.slots) (hw : n_W D cy hc hm o σc σm ov s H locs) (hl : lv_has ls 8 (n_lv hc hm b o i)) (N : Nat) (zc : (Int32 × uS)) (zm : (Int32 × uS)) (hzc : f_X11_cheapest N σc (xs (i + 1).toNatClampNeg) = some zc) (hzm : f_X12_cheapest N σm (xs (i + 1).toNatClampNeg) = some zm) (heq : zc.1 = zm.1) (kk : ∀ (H1 : Heap) (locs1 : List Loc) (ls1 : Array Slot) (ov1 : Nat → Int64), lv_has ls1 8 (n_lv hc hm b o i) → n_W D cy hc hm o zc.2 zm.2 ov1 s H1 locs1 → W p l e room_1 s m args below meth c H1 locs1 (cells + 1) (slots + 6) Q (F0 m 1560 ls1 [])) : W p l e room_1 s m args below meth c H locs cells slots Q (F0 m 1145 ls []) := by
  obtain ⟨cx, hl0, hxk, af, hX, hbl⟩ := id C
  obtain ⟨hx, hb, hml, hown, hts⟩ := id cx
  have hK := hxk.1
  have hKm : u_K (D, cy, hm) s := hK
  refine lv_aload_n hx hb dL_law_1145 rfl (lv_at hl 1 rfl) ?_
  refine lv_aload_n hx hb dL_law_1146 rfl (lv_at hl 0 rfl) ?_
  refine lv_iload hx hb dL_law_1147 (lv_at hl 4 rfl) ?_
  refine lv_iconst (v := 1) hx hb dL_law_1149 (by decide) ?_
  refine lv_iadd hx hb dL_law_1150 ?_
  refine va_sld hx hb hX hbl (Nat.not_le.mpr hbl) hw.2.2.2 (hi 1 (by decide) (by decide)) dL_law_1151 ?_
  refine n_callCi (As := [.int (xs (i + 1).toNatClampNeg)]) (rest := []) cx hK af hw LVx_L_174 (c_X11_cheapest l (D, cy, hc) N σc (xs (i + 1).toNatClampNeg) zc hzc) (by decide) (by decide) ⟨by omega, by omega⟩ hl.1 rfl (Nat.le_of_ble_eq_true rfl) dL_law_1152 rfl (fun H locs hw => ?_)
  refine lv_aload_n hx hb dL_law_1155 rfl (lv_at hl 2 rfl) ?_
  refine lv_aload_n hx hb dL_law_1156 rfl (lv_at hl 0 rfl) ?_
  refine lv_iload hx hb dL_law_1157 (lv_at hl 4 rfl) ?_
  refine lv_iconst (v := 1) hx hb dL_law_1159 (by decide) ?_
  refine lv_iadd hx hb dL_law_1160 ?_
  refine va_sld hx hb hX hbl (Nat.not_le.mpr hbl) hw.2.2.2 (hi 1 (by decide) (by decide)) dL_law_1161 ?_
  refine n_callMi (As := [.int (xs (i + 1).toNatClampNeg)]) (rest := [.int zc.1]) cx hKm af hw LVx_L_177 (c_X12_cheapest l (D, cy, hm) N σm (xs (i + 1).toNatClampNeg) zm hzm) (by decide) (by decide) ⟨by omega, by omega⟩ hl.1 rfl (Nat.le_of_ble_eq_true rfl) dL_law_1162 rfl (fun H locs hw => ?_)
  refine lv_icmp_eq (tgt := 1560) hx hb dL_law_1165 (by decide) (fun _ => ?_) (fun hne => absurd heq hne)
  exact W.widen (by omega) (by omega) (kk H locs ls ov hl hw)
theorem n_k36 (C : n_L p l s m args c D cy hc hm o b L xs) (hi : ∀ j : Int32, 0 ≤ j → j ≤ 4 → vp_in (i + j) L) (hcs : cells + 1 ≤ room_1.cells ∧ slots + 6 ≤ room_1.slots) (hw : n_W D cy hc hm o σc σm ov s H locs) (hl : lv_has ls 8 (n_lv hc hm b o i)) (N : Nat) (zc : (Int32 × uS)) (zm : (Int32 × uS)) (hzc : f_X11_yard N σc (xs (i + 1).toNatClampNeg) = some zc) (hzm : f_X12_yard N σm (xs (i + 1).toNatClampNeg) = some zm) (heq : zc.1 = zm.1) (kk : ∀ (H1 : Heap) (locs1 : List Loc) (ls1 : Array Slot) (ov1 : Nat → Int64), lv_has ls1 8 (n_lv hc hm b o i) → n_W D cy hc hm o zc.2 zm.2 ov1 s H1 locs1 → W p l e room_1 s m args below meth c H1 locs1 (cells + 1) (slots + 6) Q (F0 m 1560 ls1 [])) : W p l e room_1 s m args below meth c H locs cells slots Q (F0 m 1170 ls []) := by
  obtain ⟨cx, hl0, hxk, af, hX, hbl⟩ := id C
  obtain ⟨hx, hb, hml, hown, hts⟩ := id cx
  have hK := hxk.1
  have hKm : u_K (D, cy, hm) s := hK
  refine lv_aload_n hx hb dL_law_1170 rfl (lv_at hl 1 rfl) ?_
  refine lv_aload_n hx hb dL_law_1171 rfl (lv_at hl 0 rfl) ?_
  refine lv_iload hx hb dL_law_1172 (lv_at hl 4 rfl) ?_
  refine lv_iconst (v := 1) hx hb dL_law_1174 (by decide) ?_
  refine lv_iadd hx hb dL_law_1175 ?_
  refine va_sld hx hb hX hbl (Nat.not_le.mpr hbl) hw.2.2.2 (hi 1 (by decide) (by decide)) dL_law_1176 ?_
  refine n_callCi (As := [.int (xs (i + 1).toNatClampNeg)]) (rest := []) cx hK af hw LVx_L_178 (c_X11_yard l (D, cy, hc) N σc (xs (i + 1).toNatClampNeg) zc hzc) (by decide) (by decide) ⟨by omega, by omega⟩ hl.1 rfl (Nat.le_of_ble_eq_true rfl) dL_law_1177 rfl (fun H locs hw => ?_)
  refine lv_aload_n hx hb dL_law_1180 rfl (lv_at hl 2 rfl) ?_
  refine lv_aload_n hx hb dL_law_1181 rfl (lv_at hl 0 rfl) ?_
  refine lv_iload hx hb dL_law_1182 (lv_at hl 4 rfl) ?_
  refine lv_iconst (v := 1) hx hb dL_law_1184 (by decide) ?_
  refine lv_iadd hx hb dL_law_1185 ?_
  refine va_sld hx hb hX hbl (Nat.not_le.mpr hbl) hw.2.2.2 (hi 1 (by decide) (by decide)) dL_law_1186 ?_
  refine n_callMi (As := [.int (xs (i + 1).toNatClampNeg)]) (rest := [.int zc.1]) cx hKm af hw LVx_L_181 (c_X12_yard l (D, cy, hm) N σm (xs (i + 1).toNatClampNeg) zm hzm) (by decide) (by decide) ⟨by omega, by omega⟩ hl.1 rfl (Nat.le_of_ble_eq_true rfl) dL_law_1187 rfl (fun H locs hw => ?_)
  refine lv_icmp_eq (tgt := 1560) hx hb dL_law_1190 (by decide) (fun _ => ?_) (fun hne => absurd heq hne)
  exact W.widen (by omega) (by omega) (kk H locs ls ov hl hw)
theorem n_k37 (C : n_L p l s m args c D cy hc hm o b L xs) (hi : ∀ j : Int32, 0 ≤ j → j ≤ 4 → vp_in (i + j) L) (hcs : cells + 1 ≤ room_1.cells ∧ slots + 6 ≤ room_1.slots) (hw : n_W D cy hc hm o σc σm ov s H locs) (hl : lv_has ls 8 (n_lv hc hm b o i)) (N : Nat) (zc : (Int32 × uS)) (zm : (Int32 × uS)) (hzc : f_X11_harvest N σc (xs (i + 1).toNatClampNeg) = some zc) (hzm : f_X12_harvest N σm (xs (i + 1).toNatClampNeg) = some zm) (heq : zc.1 = zm.1) (kk : ∀ (H1 : Heap) (locs1 : List Loc) (ls1 : Array Slot) (ov1 : Nat → Int64), lv_has ls1 8 (n_lv hc hm b o i) → n_W D cy hc hm o zc.2 zm.2 ov1 s H1 locs1 → W p l e room_1 s m args below meth c H1 locs1 (cells + 1) (slots + 6) Q (F0 m 1560 ls1 [])) : W p l e room_1 s m args below meth c H locs cells slots Q (F0 m 1195 ls []) := by
  obtain ⟨cx, hl0, hxk, af, hX, hbl⟩ := id C
  obtain ⟨hx, hb, hml, hown, hts⟩ := id cx
  have hK := hxk.1
  have hKm : u_K (D, cy, hm) s := hK
  refine lv_aload_n hx hb dL_law_1195 rfl (lv_at hl 1 rfl) ?_
  refine lv_aload_n hx hb dL_law_1196 rfl (lv_at hl 0 rfl) ?_
  refine lv_iload hx hb dL_law_1197 (lv_at hl 4 rfl) ?_
  refine lv_iconst (v := 1) hx hb dL_law_1199 (by decide) ?_
  refine lv_iadd hx hb dL_law_1200 ?_
  refine va_sld hx hb hX hbl (Nat.not_le.mpr hbl) hw.2.2.2 (hi 1 (by decide) (by decide)) dL_law_1201 ?_
  refine n_callCi (As := [.int (xs (i + 1).toNatClampNeg)]) (rest := []) cx hK af hw LVx_L_182 (c_X11_harvest l (D, cy, hc) N σc (xs (i + 1).toNatClampNeg) zc hzc) (by decide) (by decide) ⟨by omega, by omega⟩ hl.1 rfl (Nat.le_of_ble_eq_true rfl) dL_law_1202 rfl (fun H locs hw => ?_)
  refine lv_aload_n hx hb dL_law_1205 rfl (lv_at hl 2 rfl) ?_
  refine lv_aload_n hx hb dL_law_1206 rfl (lv_at hl 0 rfl) ?_
  refine lv_iload hx hb dL_law_1207 (lv_at hl 4 rfl) ?_
  refine lv_iconst (v := 1) hx hb dL_law_1209 (by decide) ?_
  refine lv_iadd hx hb dL_law_1210 ?_
  refine va_sld hx hb hX hbl (Nat.not_le.mpr hbl) hw.2.2.2 (hi 1 (by decide) (by decide)) dL_law_1211 ?_
  refine n_callMi (As := [.int (xs (i + 1).toNatClampNeg)]) (rest := [.int zc.1]) cx hKm af hw LVx_L_185 (c_X12_harvest l (D, cy, hm) N σm (xs (i + 1).toNatClampNeg) zm hzm) (by decide) (by decide) ⟨by omega, by omega⟩ hl.1 rfl (Nat.le_of_ble_eq_true rfl) dL_law_1212 rfl (fun H locs hw => ?_)
  refine lv_icmp_eq (tgt := 1560) hx hb dL_law_1215 (by decide) (fun _ => ?_) (fun hne => absurd heq hne)
  exact W.widen (by omega) (by omega) (kk H locs ls ov hl hw)
theorem n_k38 (C : n_L p l s m args c D cy hc hm o b L xs) (hi : ∀ j : Int32, 0 ≤ j → j ≤ 4 → vp_in (i + j) L) (hcs : cells + 1 ≤ room_1.cells ∧ slots + 6 ≤ room_1.slots) (hw : n_W D cy hc hm o σc σm ov s H locs) (hl : lv_has ls 8 (n_lv hc hm b o i)) (N : Nat) (zc : (Int32 × uS)) (zm : (Int32 × uS)) (hzc : f_X11_owed N σc (xs (i + 1).toNatClampNeg) (xs (i + 2).toNatClampNeg) = some zc) (hzm : f_X12_owed N σm (xs (i + 1).toNatClampNeg) (xs (i + 2).toNatClampNeg) = some zm) (heq : zc.1 = zm.1) (kk : ∀ (H1 : Heap) (locs1 : List Loc) (ls1 : Array Slot) (ov1 : Nat → Int64), lv_has ls1 8 (n_lv hc hm b o i) → n_W D cy hc hm o zc.2 zm.2 ov1 s H1 locs1 → W p l e room_1 s m args below meth c H1 locs1 (cells + 1) (slots + 6) Q (F0 m 1560 ls1 [])) : W p l e room_1 s m args below meth c H locs cells slots Q (F0 m 1220 ls []) := by
  obtain ⟨cx, hl0, hxk, af, hX, hbl⟩ := id C
  obtain ⟨hx, hb, hml, hown, hts⟩ := id cx
  have hK := hxk.1
  have hKm : u_K (D, cy, hm) s := hK
  refine lv_aload_n hx hb dL_law_1220 rfl (lv_at hl 1 rfl) ?_
  refine lv_aload_n hx hb dL_law_1221 rfl (lv_at hl 0 rfl) ?_
  refine lv_iload hx hb dL_law_1222 (lv_at hl 4 rfl) ?_
  refine lv_iconst (v := 1) hx hb dL_law_1224 (by decide) ?_
  refine lv_iadd hx hb dL_law_1225 ?_
  refine va_sld hx hb hX hbl (Nat.not_le.mpr hbl) hw.2.2.2 (hi 1 (by decide) (by decide)) dL_law_1226 ?_
  refine lv_aload_n hx hb dL_law_1227 rfl (lv_at hl 0 rfl) ?_
  refine lv_iload hx hb dL_law_1228 (lv_at hl 4 rfl) ?_
  refine lv_iconst (v := 2) hx hb dL_law_1230 (by decide) ?_
  refine lv_iadd hx hb dL_law_1231 ?_
  refine va_sld hx hb hX hbl (Nat.not_le.mpr hbl) hw.2.2.2 (hi 2 (by decide) (by decide)) dL_law_1232 ?_
  refine n_callCi (As := [.int (xs (i + 1).toNatClampNeg), .int (xs (i + 2).toNatClampNeg)]) (rest := []) cx hK af hw LVx_L_186 (c_X11_owed l (D, cy, hc) N σc (xs (i + 1).toNatClampNeg) (xs (i + 2).toNatClampNeg) zc hzc) (by decide) (by decide) ⟨by omega, by omega⟩ hl.1 rfl (Nat.le_of_ble_eq_true rfl) dL_law_1233 rfl (fun H locs hw => ?_)
  refine lv_aload_n hx hb dL_law_1236 rfl (lv_at hl 2 rfl) ?_
  refine lv_aload_n hx hb dL_law_1237 rfl (lv_at hl 0 rfl) ?_
  refine lv_iload hx hb dL_law_1238 (lv_at hl 4 rfl) ?_
  refine lv_iconst (v := 1) hx hb dL_law_1240 (by decide) ?_
  refine lv_iadd hx hb dL_law_1241 ?_
  refine va_sld hx hb hX hbl (Nat.not_le.mpr hbl) hw.2.2.2 (hi 1 (by decide) (by decide)) dL_law_1242 ?_
  refine lv_aload_n hx hb dL_law_1243 rfl (lv_at hl 0 rfl) ?_
  refine lv_iload hx hb dL_law_1244 (lv_at hl 4 rfl) ?_
  refine lv_iconst (v := 2) hx hb dL_law_1246 (by decide) ?_
  refine lv_iadd hx hb dL_law_1247 ?_
  refine va_sld hx hb hX hbl (Nat.not_le.mpr hbl) hw.2.2.2 (hi 2 (by decide) (by decide)) dL_law_1248 ?_
  refine n_callMi (As := [.int (xs (i + 1).toNatClampNeg), .int (xs (i + 2).toNatClampNeg)]) (rest := [.int zc.1]) cx hKm af hw LVx_L_189 (c_X12_owed l (D, cy, hm) N σm (xs (i + 1).toNatClampNeg) (xs (i + 2).toNatClampNeg) zm hzm) (by decide) (by decide) ⟨by omega, by omega⟩ hl.1 rfl (Nat.le_of_ble_eq_true rfl) dL_law_1249 rfl (fun H locs hw => ?_)
  refine lv_icmp_eq (tgt := 1560) hx hb dL_law_1252 (by decide) (fun _ => ?_) (fun hne => absurd heq hne)
  exact W.widen (by omega) (by omega) (kk H locs ls ov hl hw)
theorem n_k39 (C : n_L p l s m args c D cy hc hm o b L xs) (hi : ∀ j : Int32, 0 ≤ j → j ≤ 4 → vp_in (i + j) L) (hcs : cells + 1 ≤ room_1.cells ∧ slots + 6 ≤ room_1.slots) (hw : n_W D cy hc hm o σc σm ov s H locs) (hl : lv_has ls 8 (n_lv hc hm b o i)) (N : Nat) (zc : (Int32 × uS)) (zm : (Int32 × uS)) (hzc : f_X11_floods N σc (xs (i + 1).toNatClampNeg) (xs (i + 2).toNatClampNeg) (xs (i + 3).toNatClampNeg) = some zc) (hzm : f_X12_floods N σm (xs (i + 1).toNatClampNeg) (xs (i + 2).toNatClampNeg) (xs (i + 3).toNatClampNeg) = some zm) (heq : zc.1 = zm.1) (kk : ∀ (H1 : Heap) (locs1 : List Loc) (ls1 : Array Slot) (ov1 : Nat → Int64), lv_has ls1 8 (n_lv hc hm b o i) → n_W D cy hc hm o zc.2 zm.2 ov1 s H1 locs1 → W p l e room_1 s m args below meth c H1 locs1 (cells + 1) (slots + 6) Q (F0 m 1560 ls1 [])) : W p l e room_1 s m args below meth c H locs cells slots Q (F0 m 1257 ls []) := by
  obtain ⟨cx, hl0, hxk, af, hX, hbl⟩ := id C
  obtain ⟨hx, hb, hml, hown, hts⟩ := id cx
  have hK := hxk.1
  have hKm : u_K (D, cy, hm) s := hK
  refine lv_aload_n hx hb dL_law_1257 rfl (lv_at hl 1 rfl) ?_
  refine lv_aload_n hx hb dL_law_1258 rfl (lv_at hl 0 rfl) ?_
  refine lv_iload hx hb dL_law_1259 (lv_at hl 4 rfl) ?_
  refine lv_iconst (v := 1) hx hb dL_law_1261 (by decide) ?_
  refine lv_iadd hx hb dL_law_1262 ?_
  refine va_sld hx hb hX hbl (Nat.not_le.mpr hbl) hw.2.2.2 (hi 1 (by decide) (by decide)) dL_law_1263 ?_
  refine lv_aload_n hx hb dL_law_1264 rfl (lv_at hl 0 rfl) ?_
  refine lv_iload hx hb dL_law_1265 (lv_at hl 4 rfl) ?_
  refine lv_iconst (v := 2) hx hb dL_law_1267 (by decide) ?_
  refine lv_iadd hx hb dL_law_1268 ?_
  refine va_sld hx hb hX hbl (Nat.not_le.mpr hbl) hw.2.2.2 (hi 2 (by decide) (by decide)) dL_law_1269 ?_
  refine lv_aload_n hx hb dL_law_1270 rfl (lv_at hl 0 rfl) ?_
  refine lv_iload hx hb dL_law_1271 (lv_at hl 4 rfl) ?_
  refine lv_iconst (v := 3) hx hb dL_law_1273 (by decide) ?_
  refine lv_iadd hx hb dL_law_1274 ?_
  refine va_sld hx hb hX hbl (Nat.not_le.mpr hbl) hw.2.2.2 (hi 3 (by decide) (by decide)) dL_law_1275 ?_
  refine n_callCi (As := [.int (xs (i + 1).toNatClampNeg), .int (xs (i + 2).toNatClampNeg), .int (xs (i + 3).toNatClampNeg)]) (rest := []) cx hK af hw LVx_L_190 (c_X11_floods l (D, cy, hc) N σc (xs (i + 1).toNatClampNeg) (xs (i + 2).toNatClampNeg) (xs (i + 3).toNatClampNeg) zc hzc) (by decide) (by decide) ⟨by omega, by omega⟩ hl.1 rfl (Nat.le_of_ble_eq_true rfl) dL_law_1276 rfl (fun H locs hw => ?_)
  refine lv_aload_n hx hb dL_law_1279 rfl (lv_at hl 2 rfl) ?_
  refine lv_aload_n hx hb dL_law_1280 rfl (lv_at hl 0 rfl) ?_
  refine lv_iload hx hb dL_law_1281 (lv_at hl 4 rfl) ?_
  refine lv_iconst (v := 1) hx hb dL_law_1283 (by decide) ?_
  refine lv_iadd hx hb dL_law_1284 ?_
  refine va_sld hx hb hX hbl (Nat.not_le.mpr hbl) hw.2.2.2 (hi 1 (by decide) (by decide)) dL_law_1285 ?_
  refine lv_aload_n hx hb dL_law_1286 rfl (lv_at hl 0 rfl) ?_
  refine lv_iload hx hb dL_law_1287 (lv_at hl 4 rfl) ?_
  refine lv_iconst (v := 2) hx hb dL_law_1289 (by decide) ?_
  refine lv_iadd hx hb dL_law_1290 ?_
  refine va_sld hx hb hX hbl (Nat.not_le.mpr hbl) hw.2.2.2 (hi 2 (by decide) (by decide)) dL_law_1291 ?_
  refine lv_aload_n hx hb dL_law_1292 rfl (lv_at hl 0 rfl) ?_
  refine lv_iload hx hb dL_law_1293 (lv_at hl 4 rfl) ?_
  refine lv_iconst (v := 3) hx hb dL_law_1295 (by decide) ?_
  refine lv_iadd hx hb dL_law_1296 ?_
  refine va_sld hx hb hX hbl (Nat.not_le.mpr hbl) hw.2.2.2 (hi 3 (by decide) (by decide)) dL_law_1297 ?_
  refine n_callMi (As := [.int (xs (i + 1).toNatClampNeg), .int (xs (i + 2).toNatClampNeg), .int (xs (i + 3).toNatClampNeg)]) (rest := [.int zc.1]) cx hKm af hw LVx_L_194 (c_X12_floods l (D, cy, hm) N σm (xs (i + 1).toNatClampNeg) (xs (i + 2).toNatClampNeg) (xs (i + 3).toNatClampNeg) zm hzm) (by decide) (by decide) ⟨by omega, by omega⟩ hl.1 rfl (Nat.le_of_ble_eq_true rfl) dL_law_1298 rfl (fun H locs hw => ?_)
  refine lv_icmp_eq (tgt := 1560) hx hb dL_law_1301 (by decide) (fun _ => ?_) (fun hne => absurd heq hne)
  exact W.widen (by omega) (by omega) (kk H locs ls ov hl hw)
theorem n_k40 (C : n_L p l s m args c D cy hc hm o b L xs) (hi : ∀ j : Int32, 0 ≤ j → j ≤ 4 → vp_in (i + j) L) (hcs : cells + 1 ≤ room_1.cells ∧ slots + 6 ≤ room_1.slots) (hw : n_W D cy hc hm o σc σm ov s H locs) (hl : lv_has ls 8 (n_lv hc hm b o i)) (N : Nat) (zc : (Int32 × uS)) (zm : (Int32 × uS)) (hzc : f_X11_twice N σc (xs (i + 1).toNatClampNeg) (xs (i + 2).toNatClampNeg) = some zc) (hzm : f_X12_twice N σm (xs (i + 1).toNatClampNeg) (xs (i + 2).toNatClampNeg) = some zm) (heq : zc.1 = zm.1) (kk : ∀ (H1 : Heap) (locs1 : List Loc) (ls1 : Array Slot) (ov1 : Nat → Int64), lv_has ls1 8 (n_lv hc hm b o i) → n_W D cy hc hm o zc.2 zm.2 ov1 s H1 locs1 → W p l e room_1 s m args below meth c H1 locs1 (cells + 1) (slots + 6) Q (F0 m 1560 ls1 [])) : W p l e room_1 s m args below meth c H locs cells slots Q (F0 m 1306 ls []) := by
  obtain ⟨cx, hl0, hxk, af, hX, hbl⟩ := id C
  obtain ⟨hx, hb, hml, hown, hts⟩ := id cx
  have hK := hxk.1
  have hKm : u_K (D, cy, hm) s := hK
  refine lv_aload_n hx hb dL_law_1306 rfl (lv_at hl 1 rfl) ?_
  refine lv_aload_n hx hb dL_law_1307 rfl (lv_at hl 0 rfl) ?_
  refine lv_iload hx hb dL_law_1308 (lv_at hl 4 rfl) ?_
  refine lv_iconst (v := 1) hx hb dL_law_1310 (by decide) ?_
  refine lv_iadd hx hb dL_law_1311 ?_
  refine va_sld hx hb hX hbl (Nat.not_le.mpr hbl) hw.2.2.2 (hi 1 (by decide) (by decide)) dL_law_1312 ?_
  refine lv_aload_n hx hb dL_law_1313 rfl (lv_at hl 0 rfl) ?_
  refine lv_iload hx hb dL_law_1314 (lv_at hl 4 rfl) ?_
  refine lv_iconst (v := 2) hx hb dL_law_1316 (by decide) ?_
  refine lv_iadd hx hb dL_law_1317 ?_
  refine va_sld hx hb hX hbl (Nat.not_le.mpr hbl) hw.2.2.2 (hi 2 (by decide) (by decide)) dL_law_1318 ?_
  refine n_callCi (As := [.int (xs (i + 1).toNatClampNeg), .int (xs (i + 2).toNatClampNeg)]) (rest := []) cx hK af hw LVx_L_195 (c_X11_twice l (D, cy, hc) N σc (xs (i + 1).toNatClampNeg) (xs (i + 2).toNatClampNeg) zc hzc) (by decide) (by decide) ⟨by omega, by omega⟩ hl.1 rfl (Nat.le_of_ble_eq_true rfl) dL_law_1319 rfl (fun H locs hw => ?_)
  refine lv_aload_n hx hb dL_law_1322 rfl (lv_at hl 2 rfl) ?_
  refine lv_aload_n hx hb dL_law_1323 rfl (lv_at hl 0 rfl) ?_
  refine lv_iload hx hb dL_law_1324 (lv_at hl 4 rfl) ?_
  refine lv_iconst (v := 1) hx hb dL_law_1326 (by decide) ?_
  refine lv_iadd hx hb dL_law_1327 ?_
  refine va_sld hx hb hX hbl (Nat.not_le.mpr hbl) hw.2.2.2 (hi 1 (by decide) (by decide)) dL_law_1328 ?_
  refine lv_aload_n hx hb dL_law_1329 rfl (lv_at hl 0 rfl) ?_
  refine lv_iload hx hb dL_law_1330 (lv_at hl 4 rfl) ?_
  refine lv_iconst (v := 2) hx hb dL_law_1332 (by decide) ?_
  refine lv_iadd hx hb dL_law_1333 ?_
  refine va_sld hx hb hX hbl (Nat.not_le.mpr hbl) hw.2.2.2 (hi 2 (by decide) (by decide)) dL_law_1334 ?_
  refine n_callMi (As := [.int (xs (i + 1).toNatClampNeg), .int (xs (i + 2).toNatClampNeg)]) (rest := [.int zc.1]) cx hKm af hw LVx_L_198 (c_X12_twice l (D, cy, hm) N σm (xs (i + 1).toNatClampNeg) (xs (i + 2).toNatClampNeg) zm hzm) (by decide) (by decide) ⟨by omega, by omega⟩ hl.1 rfl (Nat.le_of_ble_eq_true rfl) dL_law_1335 rfl (fun H locs hw => ?_)
  refine lv_icmp_eq (tgt := 1560) hx hb dL_law_1338 (by decide) (fun _ => ?_) (fun hne => absurd heq hne)
  exact W.widen (by omega) (by omega) (kk H locs ls ov hl hw)
theorem n_k41 (C : n_L p l s m args c D cy hc hm o b L xs) (hi : ∀ j : Int32, 0 ≤ j → j ≤ 4 → vp_in (i + j) L) (hcs : cells + 1 ≤ room_1.cells ∧ slots + 6 ≤ room_1.slots) (hw : n_W D cy hc hm o σc σm ov s H locs) (hl : lv_has ls 8 (n_lv hc hm b o i)) (N : Nat) (zc : (Int32 × uS)) (zm : (Int32 × uS)) (hzc : f_X11_rests N σc (xs (i + 1).toNatClampNeg) (xs (i + 2).toNatClampNeg) = some zc) (hzm : f_X12_rests N σm (xs (i + 1).toNatClampNeg) (xs (i + 2).toNatClampNeg) = some zm) (heq : zc.1 = zm.1) (kk : ∀ (H1 : Heap) (locs1 : List Loc) (ls1 : Array Slot) (ov1 : Nat → Int64), lv_has ls1 8 (n_lv hc hm b o i) → n_W D cy hc hm o zc.2 zm.2 ov1 s H1 locs1 → W p l e room_1 s m args below meth c H1 locs1 (cells + 1) (slots + 6) Q (F0 m 1560 ls1 [])) : W p l e room_1 s m args below meth c H locs cells slots Q (F0 m 1343 ls []) := by
  obtain ⟨cx, hl0, hxk, af, hX, hbl⟩ := id C
  obtain ⟨hx, hb, hml, hown, hts⟩ := id cx
  have hK := hxk.1
  have hKm : u_K (D, cy, hm) s := hK
  refine lv_aload_n hx hb dL_law_1343 rfl (lv_at hl 1 rfl) ?_
  refine lv_aload_n hx hb dL_law_1344 rfl (lv_at hl 0 rfl) ?_
  refine lv_iload hx hb dL_law_1345 (lv_at hl 4 rfl) ?_
  refine lv_iconst (v := 1) hx hb dL_law_1347 (by decide) ?_
  refine lv_iadd hx hb dL_law_1348 ?_
  refine va_sld hx hb hX hbl (Nat.not_le.mpr hbl) hw.2.2.2 (hi 1 (by decide) (by decide)) dL_law_1349 ?_
  refine lv_aload_n hx hb dL_law_1350 rfl (lv_at hl 0 rfl) ?_
  refine lv_iload hx hb dL_law_1351 (lv_at hl 4 rfl) ?_
  refine lv_iconst (v := 2) hx hb dL_law_1353 (by decide) ?_
  refine lv_iadd hx hb dL_law_1354 ?_
  refine va_sld hx hb hX hbl (Nat.not_le.mpr hbl) hw.2.2.2 (hi 2 (by decide) (by decide)) dL_law_1355 ?_
  refine n_callCi (As := [.int (xs (i + 1).toNatClampNeg), .int (xs (i + 2).toNatClampNeg)]) (rest := []) cx hK af hw LVx_L_199 (c_X11_rests l (D, cy, hc) N σc (xs (i + 1).toNatClampNeg) (xs (i + 2).toNatClampNeg) zc hzc) (by decide) (by decide) ⟨by omega, by omega⟩ hl.1 rfl (Nat.le_of_ble_eq_true rfl) dL_law_1356 rfl (fun H locs hw => ?_)
  refine lv_aload_n hx hb dL_law_1359 rfl (lv_at hl 2 rfl) ?_
  refine lv_aload_n hx hb dL_law_1360 rfl (lv_at hl 0 rfl) ?_
  refine lv_iload hx hb dL_law_1361 (lv_at hl 4 rfl) ?_
  refine lv_iconst (v := 1) hx hb dL_law_1363 (by decide) ?_
  refine lv_iadd hx hb dL_law_1364 ?_
  refine va_sld hx hb hX hbl (Nat.not_le.mpr hbl) hw.2.2.2 (hi 1 (by decide) (by decide)) dL_law_1365 ?_
  refine lv_aload_n hx hb dL_law_1366 rfl (lv_at hl 0 rfl) ?_
  refine lv_iload hx hb dL_law_1367 (lv_at hl 4 rfl) ?_
  refine lv_iconst (v := 2) hx hb dL_law_1369 (by decide) ?_
  refine lv_iadd hx hb dL_law_1370 ?_
  refine va_sld hx hb hX hbl (Nat.not_le.mpr hbl) hw.2.2.2 (hi 2 (by decide) (by decide)) dL_law_1371 ?_
  refine n_callMi (As := [.int (xs (i + 1).toNatClampNeg), .int (xs (i + 2).toNatClampNeg)]) (rest := [.int zc.1]) cx hKm af hw LVx_L_202 (c_X12_rests l (D, cy, hm) N σm (xs (i + 1).toNatClampNeg) (xs (i + 2).toNatClampNeg) zm hzm) (by decide) (by decide) ⟨by omega, by omega⟩ hl.1 rfl (Nat.le_of_ble_eq_true rfl) dL_law_1372 rfl (fun H locs hw => ?_)
  refine lv_icmp_eq (tgt := 1560) hx hb dL_law_1375 (by decide) (fun _ => ?_) (fun hne => absurd heq hne)
  exact W.widen (by omega) (by omega) (kk H locs ls ov hl hw)
theorem n_k42 (C : n_L p l s m args c D cy hc hm o b L xs) (hi : ∀ j : Int32, 0 ≤ j → j ≤ 4 → vp_in (i + j) L) (hcs : cells + 1 ≤ room_1.cells ∧ slots + 6 ≤ room_1.slots) (hw : n_W D cy hc hm o σc σm ov s H locs) (hl : lv_has ls 8 (n_lv hc hm b o i)) (N : Nat) (zc : (Int32 × uS)) (zm : (Int32 × uS)) (hzc : f_X11_law N σc  = some zc) (hzm : f_X12_law N σm  = some zm) (heq : zc.1 = zm.1) (kk : ∀ (H1 : Heap) (locs1 : List Loc) (ls1 : Array Slot) (ov1 : Nat → Int64), lv_has ls1 8 (n_lv hc hm b o i) → n_W D cy hc hm o zc.2 zm.2 ov1 s H1 locs1 → W p l e room_1 s m args below meth c H1 locs1 (cells + 1) (slots + 6) Q (F0 m 1560 ls1 [])) : W p l e room_1 s m args below meth c H locs cells slots Q (F0 m 1380 ls []) := by
  obtain ⟨cx, hl0, hxk, af, hX, hbl⟩ := id C
  obtain ⟨hx, hb, hml, hown, hts⟩ := id cx
  have hK := hxk.1
  have hKm : u_K (D, cy, hm) s := hK
  refine lv_aload_n hx hb dL_law_1380 rfl (lv_at hl 1 rfl) ?_
  refine n_callCi (As := []) (rest := []) cx hK af hw LVx_L_203 (c_X11_law l (D, cy, hc) N σc  zc hzc) (by decide) (by decide) ⟨by omega, by omega⟩ hl.1 rfl (Nat.le_of_ble_eq_true rfl) dL_law_1381 rfl (fun H locs hw => ?_)
  refine lv_aload_n hx hb dL_law_1384 rfl (lv_at hl 2 rfl) ?_
  refine n_callMi (As := []) (rest := [.int zc.1]) cx hKm af hw LVx_L_206 (c_X12_law l (D, cy, hm) N σm  zm hzm) (by decide) (by decide) ⟨by omega, by omega⟩ hl.1 rfl (Nat.le_of_ble_eq_true rfl) dL_law_1385 rfl (fun H locs hw => ?_)
  refine lv_icmp_eq (tgt := 1560) hx hb dL_law_1388 (by decide) (fun _ => ?_) (fun hne => absurd heq hne)
  exact W.widen (by omega) (by omega) (kk H locs ls ov hl hw)
theorem n_k43 (C : n_L p l s m args c D cy hc hm o b L xs) (hi : ∀ j : Int32, 0 ≤ j → j ≤ 4 → vp_in (i + j) L) (hcs : cells + 1 ≤ room_1.cells ∧ slots + 6 ≤ room_1.slots) (hw : n_W D cy hc hm o σc σm ov s H locs) (hl : lv_has ls 8 (n_lv hc hm b o i)) (N : Nat) (zc : (Int32 × uS)) (zm : (Int32 × uS)) (hzc : f_X11_years N σc (xs (i + 1).toNatClampNeg) (xs (i + 2).toNatClampNeg) = some zc) (hzm : f_X12_years N σm (xs (i + 1).toNatClampNeg) (xs (i + 2).toNatClampNeg) = some zm) (heq : zc.1 = zm.1) (kk : ∀ (H1 : Heap) (locs1 : List Loc) (ls1 : Array Slot) (ov1 : Nat → Int64), lv_has ls1 8 (n_lv hc hm b o i) → n_W D cy hc hm o zc.2 zm.2 ov1 s H1 locs1 → W p l e room_1 s m args below meth c H1 locs1 (cells + 1) (slots + 6) Q (F0 m 1560 ls1 [])) : W p l e room_1 s m args below meth c H locs cells slots Q (F0 m 1393 ls []) := by
  obtain ⟨cx, hl0, hxk, af, hX, hbl⟩ := id C
  obtain ⟨hx, hb, hml, hown, hts⟩ := id cx
  have hK := hxk.1
  have hKm : u_K (D, cy, hm) s := hK
  refine lv_aload_n hx hb dL_law_1393 rfl (lv_at hl 1 rfl) ?_
  refine lv_aload_n hx hb dL_law_1394 rfl (lv_at hl 0 rfl) ?_
  refine lv_iload hx hb dL_law_1395 (lv_at hl 4 rfl) ?_
  refine lv_iconst (v := 1) hx hb dL_law_1397 (by decide) ?_
  refine lv_iadd hx hb dL_law_1398 ?_
  refine va_sld hx hb hX hbl (Nat.not_le.mpr hbl) hw.2.2.2 (hi 1 (by decide) (by decide)) dL_law_1399 ?_
  refine lv_aload_n hx hb dL_law_1400 rfl (lv_at hl 0 rfl) ?_
  refine lv_iload hx hb dL_law_1401 (lv_at hl 4 rfl) ?_
  refine lv_iconst (v := 2) hx hb dL_law_1403 (by decide) ?_
  refine lv_iadd hx hb dL_law_1404 ?_
  refine va_sld hx hb hX hbl (Nat.not_le.mpr hbl) hw.2.2.2 (hi 2 (by decide) (by decide)) dL_law_1405 ?_
  refine n_callCi (As := [.int (xs (i + 1).toNatClampNeg), .int (xs (i + 2).toNatClampNeg)]) (rest := []) cx hK af hw LVx_L_207 (c_X11_years l (D, cy, hc) N σc (xs (i + 1).toNatClampNeg) (xs (i + 2).toNatClampNeg) zc hzc) (by decide) (by decide) ⟨by omega, by omega⟩ hl.1 rfl (Nat.le_of_ble_eq_true rfl) dL_law_1406 rfl (fun H locs hw => ?_)
  refine lv_aload_n hx hb dL_law_1409 rfl (lv_at hl 2 rfl) ?_
  refine lv_aload_n hx hb dL_law_1410 rfl (lv_at hl 0 rfl) ?_
  refine lv_iload hx hb dL_law_1411 (lv_at hl 4 rfl) ?_
  refine lv_iconst (v := 1) hx hb dL_law_1413 (by decide) ?_
  refine lv_iadd hx hb dL_law_1414 ?_
  refine va_sld hx hb hX hbl (Nat.not_le.mpr hbl) hw.2.2.2 (hi 1 (by decide) (by decide)) dL_law_1415 ?_
  refine lv_aload_n hx hb dL_law_1416 rfl (lv_at hl 0 rfl) ?_
  refine lv_iload hx hb dL_law_1417 (lv_at hl 4 rfl) ?_
  refine lv_iconst (v := 2) hx hb dL_law_1419 (by decide) ?_
  refine lv_iadd hx hb dL_law_1420 ?_
  refine va_sld hx hb hX hbl (Nat.not_le.mpr hbl) hw.2.2.2 (hi 2 (by decide) (by decide)) dL_law_1421 ?_
  refine n_callMi (As := [.int (xs (i + 1).toNatClampNeg), .int (xs (i + 2).toNatClampNeg)]) (rest := [.int zc.1]) cx hKm af hw LVx_L_210 (c_X12_years l (D, cy, hm) N σm (xs (i + 1).toNatClampNeg) (xs (i + 2).toNatClampNeg) zm hzm) (by decide) (by decide) ⟨by omega, by omega⟩ hl.1 rfl (Nat.le_of_ble_eq_true rfl) dL_law_1422 rfl (fun H locs hw => ?_)
  refine lv_icmp_eq (tgt := 1560) hx hb dL_law_1425 (by decide) (fun _ => ?_) (fun hne => absurd heq hne)
  exact W.widen (by omega) (by omega) (kk H locs ls ov hl hw)
theorem n_k44 (C : n_L p l s m args c D cy hc hm o b L xs) (hi : ∀ j : Int32, 0 ≤ j → j ≤ 4 → vp_in (i + j) L) (hcs : cells + 1 ≤ room_1.cells ∧ slots + 6 ≤ room_1.slots) (hw : n_W D cy hc hm o σc σm ov s H locs) (hl : lv_has ls 8 (n_lv hc hm b o i)) (N : Nat) (zc : (Int32 × uS)) (zm : (Int32 × uS)) (hzc : f_X11_keep N σc (xs (i + 1).toNatClampNeg) = some zc) (hzm : f_X12_keep N σm (xs (i + 1).toNatClampNeg) = some zm) (heq : zc.1 = zm.1) (kk : ∀ (H1 : Heap) (locs1 : List Loc) (ls1 : Array Slot) (ov1 : Nat → Int64), lv_has ls1 8 (n_lv hc hm b o i) → n_W D cy hc hm o zc.2 zm.2 ov1 s H1 locs1 → W p l e room_1 s m args below meth c H1 locs1 (cells + 1) (slots + 6) Q (F0 m 1560 ls1 [])) : W p l e room_1 s m args below meth c H locs cells slots Q (F0 m 1430 ls []) := by
  obtain ⟨cx, hl0, hxk, af, hX, hbl⟩ := id C
  obtain ⟨hx, hb, hml, hown, hts⟩ := id cx
  have hK := hxk.1
  have hKm : u_K (D, cy, hm) s := hK
  refine lv_aload_n hx hb dL_law_1430 rfl (lv_at hl 1 rfl) ?_
  refine lv_aload_n hx hb dL_law_1431 rfl (lv_at hl 0 rfl) ?_
  refine lv_iload hx hb dL_law_1432 (lv_at hl 4 rfl) ?_
  refine lv_iconst (v := 1) hx hb dL_law_1434 (by decide) ?_
  refine lv_iadd hx hb dL_law_1435 ?_
  refine va_sld hx hb hX hbl (Nat.not_le.mpr hbl) hw.2.2.2 (hi 1 (by decide) (by decide)) dL_law_1436 ?_
  refine n_callCi (As := [.int (xs (i + 1).toNatClampNeg)]) (rest := []) cx hK af hw LVx_L_211 (c_X11_keep l (D, cy, hc) N σc (xs (i + 1).toNatClampNeg) zc hzc) (by decide) (by decide) ⟨by omega, by omega⟩ hl.1 rfl (Nat.le_of_ble_eq_true rfl) dL_law_1437 rfl (fun H locs hw => ?_)
  refine lv_aload_n hx hb dL_law_1440 rfl (lv_at hl 2 rfl) ?_
  refine lv_aload_n hx hb dL_law_1441 rfl (lv_at hl 0 rfl) ?_
  refine lv_iload hx hb dL_law_1442 (lv_at hl 4 rfl) ?_
  refine lv_iconst (v := 1) hx hb dL_law_1444 (by decide) ?_
  refine lv_iadd hx hb dL_law_1445 ?_
  refine va_sld hx hb hX hbl (Nat.not_le.mpr hbl) hw.2.2.2 (hi 1 (by decide) (by decide)) dL_law_1446 ?_
  refine n_callMi (As := [.int (xs (i + 1).toNatClampNeg)]) (rest := [.int zc.1]) cx hKm af hw LVx_L_214 (c_X12_keep l (D, cy, hm) N σm (xs (i + 1).toNatClampNeg) zm hzm) (by decide) (by decide) ⟨by omega, by omega⟩ hl.1 rfl (Nat.le_of_ble_eq_true rfl) dL_law_1447 rfl (fun H locs hw => ?_)
  refine lv_icmp_eq (tgt := 1560) hx hb dL_law_1450 (by decide) (fun _ => ?_) (fun hne => absurd heq hne)
  exact W.widen (by omega) (by omega) (kk H locs ls ov hl hw)
theorem n_k45 (C : n_L p l s m args c D cy hc hm o b L xs) (hi : ∀ j : Int32, 0 ≤ j → j ≤ 4 → vp_in (i + j) L) (hcs : cells + 1 ≤ room_1.cells ∧ slots + 6 ≤ room_1.slots) (hw : n_W D cy hc hm o σc σm ov s H locs) (hl : lv_has ls 8 (n_lv hc hm b o i)) (N : Nat) (zc : (Int32 × uS)) (zm : (Int32 × uS)) (hzc : f_X11_again N σc (xs (i + 1).toNatClampNeg) = some zc) (hzm : f_X12_again N σm (xs (i + 1).toNatClampNeg) = some zm) (heq : zc.1 = zm.1) (kk : ∀ (H1 : Heap) (locs1 : List Loc) (ls1 : Array Slot) (ov1 : Nat → Int64), lv_has ls1 8 (n_lv hc hm b o i) → n_W D cy hc hm o zc.2 zm.2 ov1 s H1 locs1 → W p l e room_1 s m args below meth c H1 locs1 (cells + 1) (slots + 6) Q (F0 m 1560 ls1 [])) : W p l e room_1 s m args below meth c H locs cells slots Q (F0 m 1455 ls []) := by
  obtain ⟨cx, hl0, hxk, af, hX, hbl⟩ := id C
  obtain ⟨hx, hb, hml, hown, hts⟩ := id cx
  have hK := hxk.1
  have hKm : u_K (D, cy, hm) s := hK
  refine lv_aload_n hx hb dL_law_1455 rfl (lv_at hl 1 rfl) ?_
  refine lv_aload_n hx hb dL_law_1456 rfl (lv_at hl 0 rfl) ?_
  refine lv_iload hx hb dL_law_1457 (lv_at hl 4 rfl) ?_
  refine lv_iconst (v := 1) hx hb dL_law_1459 (by decide) ?_
  refine lv_iadd hx hb dL_law_1460 ?_
  refine va_sld hx hb hX hbl (Nat.not_le.mpr hbl) hw.2.2.2 (hi 1 (by decide) (by decide)) dL_law_1461 ?_
  refine n_callCi (As := [.int (xs (i + 1).toNatClampNeg)]) (rest := []) cx hK af hw LVx_L_215 (c_X11_again l (D, cy, hc) N σc (xs (i + 1).toNatClampNeg) zc hzc) (by decide) (by decide) ⟨by omega, by omega⟩ hl.1 rfl (Nat.le_of_ble_eq_true rfl) dL_law_1462 rfl (fun H locs hw => ?_)
  refine lv_aload_n hx hb dL_law_1465 rfl (lv_at hl 2 rfl) ?_
  refine lv_aload_n hx hb dL_law_1466 rfl (lv_at hl 0 rfl) ?_
  refine lv_iload hx hb dL_law_1467 (lv_at hl 4 rfl) ?_
  refine lv_iconst (v := 1) hx hb dL_law_1469 (by decide) ?_
  refine lv_iadd hx hb dL_law_1470 ?_
  refine va_sld hx hb hX hbl (Nat.not_le.mpr hbl) hw.2.2.2 (hi 1 (by decide) (by decide)) dL_law_1471 ?_
  refine n_callMi (As := [.int (xs (i + 1).toNatClampNeg)]) (rest := [.int zc.1]) cx hKm af hw LVx_L_218 (c_X12_again l (D, cy, hm) N σm (xs (i + 1).toNatClampNeg) zm hzm) (by decide) (by decide) ⟨by omega, by omega⟩ hl.1 rfl (Nat.le_of_ble_eq_true rfl) dL_law_1472 rfl (fun H locs hw => ?_)
  refine lv_icmp_eq (tgt := 1560) hx hb dL_law_1475 (by decide) (fun _ => ?_) (fun hne => absurd heq hne)
  exact W.widen (by omega) (by omega) (kk H locs ls ov hl hw)
theorem n_k46 (C : n_L p l s m args c D cy hc hm o b L xs) (hi : ∀ j : Int32, 0 ≤ j → j ≤ 4 → vp_in (i + j) L) (hcs : cells + 1 ≤ room_1.cells ∧ slots + 6 ≤ room_1.slots) (hw : n_W D cy hc hm o σc σm ov s H locs) (hl : lv_has ls 8 (n_lv hc hm b o i)) (N : Nat) (zc : Int32) (zm : (Int32 × uS)) (hzc : f_X11_count N σc (xs (i + 1).toNatClampNeg) = some zc) (hzm : f_X12_count N σm (xs (i + 1).toNatClampNeg) = some zm) (heq : zc = zm.1) (kk : ∀ (H1 : Heap) (locs1 : List Loc) (ls1 : Array Slot) (ov1 : Nat → Int64), lv_has ls1 8 (n_lv hc hm b o i) → n_W D cy hc hm o σc zm.2 ov1 s H1 locs1 → W p l e room_1 s m args below meth c H1 locs1 (cells + 1) (slots + 6) Q (F0 m 1560 ls1 [])) : W p l e room_1 s m args below meth c H locs cells slots Q (F0 m 1480 ls []) := by
  obtain ⟨cx, hl0, hxk, af, hX, hbl⟩ := id C
  obtain ⟨hx, hb, hml, hown, hts⟩ := id cx
  have hK := hxk.1
  have hKm : u_K (D, cy, hm) s := hK
  refine lv_aload_n hx hb dL_law_1480 rfl (lv_at hl 1 rfl) ?_
  refine lv_aload_n hx hb dL_law_1481 rfl (lv_at hl 0 rfl) ?_
  refine lv_iload hx hb dL_law_1482 (lv_at hl 4 rfl) ?_
  refine lv_iconst (v := 1) hx hb dL_law_1484 (by decide) ?_
  refine lv_iadd hx hb dL_law_1485 ?_
  refine va_sld hx hb hX hbl (Nat.not_le.mpr hbl) hw.2.2.2 (hi 1 (by decide) (by decide)) dL_law_1486 ?_
  refine n_callCi (As := [.int (xs (i + 1).toNatClampNeg)]) (rest := []) cx hK af hw LVx_L_219 (c_X11_count l (D, cy, hc) N σc (xs (i + 1).toNatClampNeg) zc hzc) (by decide) (by decide) ⟨by omega, by omega⟩ hl.1 rfl (Nat.le_of_ble_eq_true rfl) dL_law_1487 rfl (fun H locs hw => ?_)
  refine lv_aload_n hx hb dL_law_1490 rfl (lv_at hl 2 rfl) ?_
  refine lv_aload_n hx hb dL_law_1491 rfl (lv_at hl 0 rfl) ?_
  refine lv_iload hx hb dL_law_1492 (lv_at hl 4 rfl) ?_
  refine lv_iconst (v := 1) hx hb dL_law_1494 (by decide) ?_
  refine lv_iadd hx hb dL_law_1495 ?_
  refine va_sld hx hb hX hbl (Nat.not_le.mpr hbl) hw.2.2.2 (hi 1 (by decide) (by decide)) dL_law_1496 ?_
  refine n_callMi (As := [.int (xs (i + 1).toNatClampNeg)]) (rest := [.int zc]) cx hKm af hw LVx_L_222 (c_X12_count l (D, cy, hm) N σm (xs (i + 1).toNatClampNeg) zm hzm) (by decide) (by decide) ⟨by omega, by omega⟩ hl.1 rfl (Nat.le_of_ble_eq_true rfl) dL_law_1497 rfl (fun H locs hw => ?_)
  refine lv_icmp_eq (tgt := 1560) hx hb dL_law_1500 (by decide) (fun _ => ?_) (fun hne => absurd heq hne)
  exact W.widen (by omega) (by omega) (kk H locs ls ov hl hw)
theorem n_w47 : Cond.methodLink RL 223 yL_row ∈ u_big ∧ Cond.static yL_row ∈ u_big ∧ Cond.codeWith yL_row cL_row 4 (some .int) [(0, 8, 11, 13)] ∈ u_big := ⟨u_t5 (i := 120) rfl rfl, u_t5 (i := 121) rfl rfl, u_t5 (i := 122) rfl rfl⟩
theorem n_k47_ (C : n_L p l s m args c D cy hc hm o b L xs) (hi : ∀ j : Int32, 0 ≤ j → j ≤ 4 → vp_in (i + j) L) (hcs : cells + 1 ≤ room_1.cells ∧ slots + 6 ≤ room_1.slots) (hw : n_W D cy hc hm o σc σm ov s H locs) (hl : lv_has ls 8 (n_lv hc hm b o i)) (N : Nat) (σc1 : uS) (zm : (Int64 × uS)) (zt : Int32) (kr : Int32) (ov1 : Nat → Int64) (hM : n_Mh l yL_row cL_row 4 [(0, 8, 11, 13)] 7 [.ref (hc 0), .int (xs (i + 1).toNatClampNeg), .ref o] (D, cy, hc) σc o ov kr (σc1, ov1)) (hval : kr = 0 → lg_cmp (ov1 0) zm.1 = 0) (hzm : f_X12_row N σm (xs (i + 1).toNatClampNeg) = some zm) (hzt : f_X12_thrown N zm.2 = some zt) (hth : zt = kr) (kk : ∀ (H1 : Heap) (locs1 : List Loc) (ls1 : Array Slot) (ov1 : Nat → Int64), lv_has ls1 8 (n_lv hc hm b o i) → n_W D cy hc hm o σc1 zm.2 ov1 s H1 locs1 → W p l e room_1 s m args below meth c H1 locs1 (cells + 1) (slots + 6) Q (F0 m 1560 ls1 [])) : W p l e room_1 s m args below meth c H locs cells slots Q (F0 m 1505 ls []) := by
  obtain ⟨cx, hl0, hxk, af, hX, hbl⟩ := id C
  obtain ⟨hx, hb, hml, hown, hts⟩ := id cx
  have hK := hxk.1
  have hKm : u_K (D, cy, hm) s := hK
  refine lv_aload_n hx hb dL_law_1505 rfl (lv_at hl 1 rfl) ?_
  refine lv_aload_n hx hb dL_law_1506 rfl (lv_at hl 0 rfl) ?_
  refine lv_iload hx hb dL_law_1507 (lv_at hl 4 rfl) ?_
  refine lv_iconst (v := 1) hx hb dL_law_1509 (by decide) ?_
  refine lv_iadd hx hb dL_law_1510 ?_
  refine va_sld hx hb hX hbl (Nat.not_le.mpr hbl) hw.2.2.2 (hi 1 (by decide) (by decide)) dL_law_1511 ?_
  refine lv_aload_n hx hb dL_law_1512 rfl (lv_at hl 3 rfl) ?_
  refine n_callH (n := 3) (As := [.ref (hc 0), .int (xs (i + 1).toNatClampNeg), .ref o]) C hw n_w47.1 n_w47.2.1 n_w47.2.2 rfl ⟨by decide +kernel, by decide +kernel, by decide +kernel⟩ (by decide) hM hcs hl.1 rfl dL_law_1513 rfl (fun H locs hw => ?_)
  refine lv_istore (lv' := (5, .int kr) :: n_lv hc hm b o i) hx hb dL_law_1516 hl (by decide) rfl (fun ls hl => ?_)
  refine lv_aload_n hx hb dL_law_1518 rfl (lv_at hl 3 rfl) ?_
  refine lv_aload_n hx hb dL_law_1519 rfl (lv_at hl 1 rfl) ?_
  refine lv_iload hx hb dL_law_1520 (lv_at hl 5 rfl) ?_
  refine lv_iconst (v := 1) hx hb dL_law_1522 (by decide) ?_
  refine lv_iadd hx hb dL_law_1523 ?_
  refine va_sld hx hb hX hbl (Nat.not_le.mpr hbl) hw.2.2.2 (hi 1 (by decide) (by decide)) dL_law_1524 ?_
  refine n_callMl (As := [.int (xs (i + 1).toNatClampNeg)]) (rest := []) cx hKm af hw LVx_L_226 (c_X12_row l (D, cy, hm) N σm (xs (i + 1).toNatClampNeg) zm hzm) (by decide) (by decide) hcs hl.1 rfl (Nat.le_of_ble_eq_true rfl) dL_law_1525 rfl (fun H locs hw => ?_)
  refine lv_lstore (lv' := (6, .long zm.1) :: (5, .int kr) :: n_lv hc hm b o i) hx hb dL_law_1528 hl (by decide) rfl (fun ls hl => ?_)
  refine lv_aload_n hx hb dL_law_1530 rfl (lv_at hl 4 rfl) ?_
  refine n_callMi (As := []) (rest := []) cx hKm af hw LVx_L_55 (c_X12_thrown l (D, cy, hm) N zm.2 zt hzt) (by decide) (by decide) hcs hl.1 rfl (Nat.le_of_ble_eq_true rfl) dL_law_1531 rfl (fun H locs hw => ?_)
  refine lv_iload hx hb dL_law_1534 (lv_at hl 1 rfl) ?_
  refine lv_icmp_eq (tgt := 1541) hx hb dL_law_1536 (by decide) (fun _ => ?_) (fun hne => absurd hth hne)
  refine lv_iload hx hb dL_law_1541 (lv_at hl 1 rfl) ?_
  refine lv_if_ne (tgt := 1557) hx hb dL_law_1543 (by decide) (fun hne => ?_) (fun h0 => ?_)
  · refine lv_goto (tgt := 1560) hx hb dL_law_1557 (by decide) ?_
    exact kk H locs ls _ (lv_sub hl [2, 3, 4, 5, 6] rfl) hw
  · refine lv_aload_n hx hb dL_law_1546 rfl (lv_at hl 5 rfl) ?_
    refine lv_iconst (v := 0) hx hb dL_law_1547 (by decide) ?_
    refine va_lald (D := D) (cl := vwCl) hx hb hK.1 hw.2.2.1 0 1 (f := ov1) rfl rfl (by unfold vp_in; decide) dL_law_1548 ?_
    refine lv_lload hx hb dL_law_1549 (lv_at hl 0 rfl) ?_
    refine W.lcmp hx hb dL_law_1551 ?_
    refine lv_if_eq (tgt := 1557) hx hb dL_law_1552 (by decide) (fun _ => ?_) (fun hne => absurd (hval h0) hne)
    refine lv_goto (tgt := 1560) hx hb dL_law_1557 (by decide) ?_
    exact kk H locs ls _ (lv_sub hl [2, 3, 4, 5, 6] rfl) hw
theorem n_k47 (C : n_L p l s m args c D cy hc hm o b L xs) (hi : ∀ j : Int32, 0 ≤ j → j ≤ 4 → vp_in (i + j) L) (hcs : cells + 1 ≤ room_1.cells ∧ slots + 6 ≤ room_1.slots) (hw : n_W D cy hc hm o σc σm ov s H locs) (hl : lv_has ls 8 (n_lv hc hm b o i)) (N : Nat) (zo : Option Int64) (σc1 : uS) (zm : (Int64 × uS)) (zt : Int32) (hzc : f_X11_row N σc (xs (i + 1).toNatClampNeg) = some (zo, σc1)) (hzm : f_X12_row N σm (xs (i + 1).toNatClampNeg) = some zm) (hzt : f_X12_thrown N zm.2 = some zt) (hq : n_q zo zt zm.1) (kk : ∀ (H1 : Heap) (locs1 : List Loc) (ls1 : Array Slot) (ov1 : Nat → Int64), lv_has ls1 8 (n_lv hc hm b o i) → n_W D cy hc hm o σc1 zm.2 ov1 s H1 locs1 → W p l e room_1 s m args below meth c H1 locs1 (cells + 1) (slots + 6) Q (F0 m 1560 ls1 [])) : W p l e room_1 s m args below meth c H locs cells slots Q (F0 m 1505 ls []) := by
  obtain ⟨cx, hl0, hxk, af, hX, hbl⟩ := id C
  cases zo with
  | none => exact n_k47_ C hi hcs hw hl N σc1 zm zt 1 ov (c_L_row l hl0 (D, cy, hc) N σc o ov (xs (i + 1).toNatClampNeg) (none, σc1) hzc) (fun h => absurd h (by decide)) hzm hzt hq kk
  | some r =>
    obtain ⟨h1, h2⟩ := hq
    exact n_k47_ C hi hcs hw hl N σc1 zm zt 0 (vp_updL ov 0 r) (c_L_row l hl0 (D, cy, hc) N σc o ov (xs (i + 1).toNatClampNeg) (some r, σc1) hzc) (fun _ => by rw [n_updL, h2]; exact n_cmp _) hzm hzt h1 kk
end NL
def n_s0 (N : Nat) (Rel Rel2 : uS → uS → Prop) : Prop := ∀ σc σm : uS, Rel σc σm → ∀ a1 : Int32, ∃ (zc : (Int32 × uS)) (zm : (Int32 × uS)), f_X11_sign N σc a1 = some zc ∧ f_X12_sign N σm a1 = some zm ∧ zc.1 = zm.1 ∧ Rel2 zc.2 zm.2
def n_s1 (N : Nat) (Rel Rel2 : uS → uS → Prop) : Prop := ∀ σc σm : uS, Rel σc σm → ∀ a1 : Int32, ∃ (zc : (Int32 × uS)) (zm : (Int32 × uS)), f_X11_end N σc a1 = some zc ∧ f_X12_end N σm a1 = some zm ∧ zc.1 = zm.1 ∧ Rel2 zc.2 zm.2
def n_s2 (N : Nat) (Rel Rel2 : uS → uS → Prop) : Prop := ∀ σc σm : uS, Rel σc σm → ∃ (zc : (Int32 × uS)) (zm : (Int32 × uS)), f_X11_field N σc = some zc ∧ f_X12_field N σm = some zm ∧ zc.1 = zm.1 ∧ Rel2 zc.2 zm.2
def n_s3 (N : Nat) (Rel Rel2 : uS → uS → Prop) : Prop := ∀ σc σm : uS, Rel σc σm → ∃ (zc : (Int32 × uS)) (zm : (Int32 × uS)), f_X11_people N σc = some zc ∧ f_X12_people N σm = some zm ∧ zc.1 = zm.1 ∧ Rel2 zc.2 zm.2
def n_s4 (N : Nat) (Rel Rel2 : uS → uS → Prop) : Prop := ∀ σc σm : uS, Rel σc σm → ∃ (zc : (Int32 × uS)) (zm : (Int32 × uS)), f_X11_rule N σc = some zc ∧ f_X12_rule N σm = some zm ∧ zc.1 = zm.1 ∧ Rel2 zc.2 zm.2
def n_s5 (N : Nat) (Rel Rel2 : uS → uS → Prop) : Prop := ∀ σc σm : uS, Rel σc σm → ∀ a1 a2 : Int32, ∃ (zo : Option Int32) (σc1 : uS) (zm : (Int32 × uS)) (zt : Int32), f_X11_furrow N σc a1 a2 = some (zo, σc1) ∧ f_X12_furrow N σm a1 a2 = some zm ∧ f_X12_thrown N zm.2 = some zt ∧ n_q zo zt zm.1 ∧ Rel2 σc1 zm.2
def n_s6 (N : Nat) (Rel Rel2 : uS → uS → Prop) : Prop := ∀ σc σm : uS, Rel σc σm → ∀ a1 a2 : Int32, ∃ (zo : Option Int32) (σc1 : uS) (zm : (Int32 × uS)) (zt : Int32), f_X11_person N σc a1 a2 = some (zo, σc1) ∧ f_X12_person N σm a1 a2 = some zm ∧ f_X12_thrown N zm.2 = some zt ∧ n_q zo zt zm.1 ∧ Rel2 σc1 zm.2
def n_s7 (N : Nat) (Rel Rel2 : uS → uS → Prop) : Prop := ∀ σc σm : uS, Rel σc σm → ∀ a1 a2 a3 a4 : Int32, ∃ (zc : (Int32 × uS)) (zm : (Int32 × uS)), f_X11_sheet N σc a1 a2 a3 a4 = some zc ∧ f_X12_sheet N σm a1 a2 a3 a4 = some zm ∧ zc.1 = zm.1 ∧ Rel2 zc.2 zm.2
def n_s8 (N : Nat) (Rel Rel2 : uS → uS → Prop) : Prop := ∀ σc σm : uS, Rel σc σm → ∀ a1 : Int32, ∃ (zc : (Int32 × uS)) (zm : (Int32 × uS)), f_X11_crossing N σc a1 = some zc ∧ f_X12_crossing N σm a1 = some zm ∧ zc.1 = zm.1 ∧ Rel2 zc.2 zm.2
def n_s9 (N : Nat) (Rel Rel2 : uS → uS → Prop) : Prop := ∀ σc σm : uS, Rel σc σm → ∀ a1 : Int32, ∃ (zc : (Int32 × uS)) (zm : (Int32 × uS)), f_X11_show N σc a1 = some zc ∧ f_X12_show N σm a1 = some zm ∧ zc.1 = zm.1 ∧ Rel2 zc.2 zm.2
def n_s10 (N : Nat) (Rel Rel2 : uS → uS → Prop) : Prop := ∀ σc σm : uS, Rel σc σm → ∀ a1 a2 : Int32, ∃ (zc : (Int32 × uS)) (zm : (Int32 × uS)), f_X11_glance N σc a1 a2 = some zc ∧ f_X12_glance N σm a1 a2 = some zm ∧ zc.1 = zm.1 ∧ Rel2 zc.2 zm.2
def n_s11 (N : Nat) (Rel Rel2 : uS → uS → Prop) : Prop := ∀ σc σm : uS, Rel σc σm → ∀ a1 a2 : Int32, ∃ (zc : (Int32 × uS)) (zm : (Int32 × uS)), f_X11_rope N σc a1 a2 = some zc ∧ f_X12_rope N σm a1 a2 = some zm ∧ zc.1 = zm.1 ∧ Rel2 zc.2 zm.2
def n_s12 (N : Nat) (Rel Rel2 : uS → uS → Prop) : Prop := ∀ σc σm : uS, Rel σc σm → ∀ a1 a2 : Int32, ∃ (zc : (Int32 × uS)) (zm : (Int32 × uS)), f_X11_sow N σc a1 a2 = some zc ∧ f_X12_sow N σm a1 a2 = some zm ∧ zc.1 = zm.1 ∧ Rel2 zc.2 zm.2
def n_s13 (N : Nat) (Rel Rel2 : uS → uS → Prop) : Prop := ∀ σc σm : uS, Rel σc σm → ∃ (zc : (Int32 × uS)) (zm : (Int32 × uS)), f_X11_week N σc = some zc ∧ f_X12_week N σm = some zm ∧ zc.1 = zm.1 ∧ Rel2 zc.2 zm.2
def n_s14 (N : Nat) (Rel Rel2 : uS → uS → Prop) : Prop := ∀ σc σm : uS, Rel σc σm → ∃ (zc : (Int32 × uS)) (zm : (Int32 × uS)), f_X11_undo N σc = some zc ∧ f_X12_undo N σm = some zm ∧ zc.1 = zm.1 ∧ Rel2 zc.2 zm.2
def n_s15 (N : Nat) (Rel Rel2 : uS → uS → Prop) : Prop := ∀ σc σm : uS, Rel σc σm → ∀ a1 : Int32, ∃ (zc : (Int32 × uS)) (zm : (Int32 × uS)), f_X11_later N σc a1 = some zc ∧ f_X12_later N σm a1 = some zm ∧ zc.1 = zm.1 ∧ Rel2 zc.2 zm.2
def n_s16 (N : Nat) (Rel Rel2 : uS → uS → Prop) : Prop := ∀ σc σm : uS, Rel σc σm → ∃ (zc : (Int32 × uS)) (zm : (Int32 × uS)), f_X11_settles N σc = some zc ∧ f_X12_settles N σm = some zm ∧ zc.1 = zm.1 ∧ Rel2 zc.2 zm.2
def n_s17 (N : Nat) (Rel Rel2 : uS → uS → Prop) : Prop := ∀ σc σm : uS, Rel σc σm → ∀ a1 : Int32, ∃ (zc : (Int32 × uS)) (zm : (Int32 × uS)), f_X11_leaves N σc a1 = some zc ∧ f_X12_leaves N σm a1 = some zm ∧ zc.1 = zm.1 ∧ Rel2 zc.2 zm.2
def n_s18 (N : Nat) (Rel Rel2 : uS → uS → Prop) : Prop := ∀ σc σm : uS, Rel σc σm → ∀ a1 a2 : Int32, ∃ (zc : (Int32 × uS)) (zm : (Int32 × uS)), f_X11_signs N σc a1 a2 = some zc ∧ f_X12_signs N σm a1 a2 = some zm ∧ zc.1 = zm.1 ∧ Rel2 zc.2 zm.2
def n_s19 (N : Nat) (Rel Rel2 : uS → uS → Prop) : Prop := ∀ σc σm : uS, Rel σc σm → ∀ a1 : Int32, ∃ (zc : (Int32 × uS)) (zm : (Int32 × uS)), f_X11_empties N σc a1 = some zc ∧ f_X12_empties N σm a1 = some zm ∧ zc.1 = zm.1 ∧ Rel2 zc.2 zm.2
def n_s20 (N : Nat) (Rel Rel2 : uS → uS → Prop) : Prop := ∀ σc σm : uS, Rel σc σm → ∀ a1 : Int32, ∃ (zc : (Int32 × uS)) (zm : (Int32 × uS)), f_X11_weakest N σc a1 = some zc ∧ f_X12_weakest N σm a1 = some zm ∧ zc.1 = zm.1 ∧ Rel2 zc.2 zm.2
def n_s21 (N : Nat) (Rel Rel2 : uS → uS → Prop) : Prop := ∀ σc σm : uS, Rel σc σm → ∃ (zc : (Int32 × uS)) (zm : (Int32 × uS)), f_X11_mean N σc = some zc ∧ f_X12_mean N σm = some zm ∧ zc.1 = zm.1 ∧ Rel2 zc.2 zm.2
def n_s22 (N : Nat) (Rel Rel2 : uS → uS → Prop) : Prop := ∀ σc σm : uS, Rel σc σm → ∀ a1 : Int32, ∃ (zc : (Int32 × uS)) (zm : (Int32 × uS)), f_X11_depends N σc a1 = some zc ∧ f_X12_depends N σm a1 = some zm ∧ zc.1 = zm.1 ∧ Rel2 zc.2 zm.2
def n_s23 (N : Nat) (Rel Rel2 : uS → uS → Prop) : Prop := ∀ σc σm : uS, Rel σc σm → ∀ a1 a2 : Int32, ∃ (zc : (Int32 × uS)) (zm : (Int32 × uS)), f_X11_cut N σc a1 a2 = some zc ∧ f_X12_cut N σm a1 a2 = some zm ∧ zc.1 = zm.1 ∧ Rel2 zc.2 zm.2
def n_s24 (N : Nat) (Rel Rel2 : uS → uS → Prop) : Prop := ∀ σc σm : uS, Rel σc σm → ∃ (zc : (Int32 × uS)) (zm : (Int32 × uS)), f_X11_faces N σc = some zc ∧ f_X12_faces N σm = some zm ∧ zc.1 = zm.1 ∧ Rel2 zc.2 zm.2
def n_s25 (N : Nat) (Rel Rel2 : uS → uS → Prop) : Prop := ∀ σc σm : uS, Rel σc σm → ∀ a1 : Int32, ∃ (zc : (Int32 × uS)) (zm : (Int32 × uS)), f_X11_knows N σc a1 = some zc ∧ f_X12_knows N σm a1 = some zm ∧ zc.1 = zm.1 ∧ Rel2 zc.2 zm.2
def n_s26 (N : Nat) (Rel Rel2 : uS → uS → Prop) : Prop := ∀ σc σm : uS, Rel σc σm → ∃ (zc : (Int32 × uS)) (zm : (Int32 × uS)), f_X11_circle N σc = some zc ∧ f_X12_circle N σm = some zm ∧ zc.1 = zm.1 ∧ Rel2 zc.2 zm.2
def n_s27 (N : Nat) (Rel Rel2 : uS → uS → Prop) : Prop := ∀ σc σm : uS, Rel σc σm → ∀ a1 : Int32, ∃ (zc : (Int32 × uS)) (zm : (Int32 × uS)), f_X11_spreads N σc a1 = some zc ∧ f_X12_spreads N σm a1 = some zm ∧ zc.1 = zm.1 ∧ Rel2 zc.2 zm.2
def n_s28 (N : Nat) (Rel Rel2 : uS → uS → Prop) : Prop := ∀ σc σm : uS, Rel σc σm → ∃ (zc : (Int32 × uS)) (zm : (Int32 × uS)), f_X11_unlike N σc = some zc ∧ f_X12_unlike N σm = some zm ∧ zc.1 = zm.1 ∧ Rel2 zc.2 zm.2
def n_s29 (N : Nat) (Rel Rel2 : uS → uS → Prop) : Prop := ∀ σc σm : uS, Rel σc σm → ∀ a1 a2 : Int32, ∃ (zc : (Int32 × uS)) (zm : (Int32 × uS)), f_X11_dig N σc a1 a2 = some zc ∧ f_X12_dig N σm a1 a2 = some zm ∧ zc.1 = zm.1 ∧ Rel2 zc.2 zm.2
def n_s30 (N : Nat) (Rel Rel2 : uS → uS → Prop) : Prop := ∀ σc σm : uS, Rel σc σm → ∃ (zc : (Int32 × uS)) (zm : (Int32 × uS)), f_X11_forget N σc = some zc ∧ f_X12_forget N σm = some zm ∧ zc.1 = zm.1 ∧ Rel2 zc.2 zm.2
def n_s31 (N : Nat) (Rel Rel2 : uS → uS → Prop) : Prop := ∀ σc σm : uS, Rel σc σm → ∃ (zc : (Int32 × uS)) (zm : (Int32 × uS)), f_X11_courses N σc = some zc ∧ f_X12_courses N σm = some zm ∧ zc.1 = zm.1 ∧ Rel2 zc.2 zm.2
def n_s32 (N : Nat) (Rel Rel2 : uS → uS → Prop) : Prop := ∀ σc σm : uS, Rel σc σm → ∃ (zc : (Int32 × uS)) (zm : (Int32 × uS)), f_X11_sure N σc = some zc ∧ f_X12_sure N σm = some zm ∧ zc.1 = zm.1 ∧ Rel2 zc.2 zm.2
def n_s33 (N : Nat) (Rel Rel2 : uS → uS → Prop) : Prop := ∀ σc σm : uS, Rel σc σm → ∃ (zc : (Int32 × uS)) (zm : (Int32 × uS)), f_X11_next N σc = some zc ∧ f_X12_next N σm = some zm ∧ zc.1 = zm.1 ∧ Rel2 zc.2 zm.2
def n_s34 (N : Nat) (Rel Rel2 : uS → uS → Prop) : Prop := ∀ σc σm : uS, Rel σc σm → ∀ a1 : Int32, ∃ (zc : (Int32 × uS)) (zm : (Int32 × uS)), f_X11_dues N σc a1 = some zc ∧ f_X12_dues N σm a1 = some zm ∧ zc.1 = zm.1 ∧ Rel2 zc.2 zm.2
def n_s35 (N : Nat) (Rel Rel2 : uS → uS → Prop) : Prop := ∀ σc σm : uS, Rel σc σm → ∀ a1 : Int32, ∃ (zc : (Int32 × uS)) (zm : (Int32 × uS)), f_X11_cheapest N σc a1 = some zc ∧ f_X12_cheapest N σm a1 = some zm ∧ zc.1 = zm.1 ∧ Rel2 zc.2 zm.2
def n_s36 (N : Nat) (Rel Rel2 : uS → uS → Prop) : Prop := ∀ σc σm : uS, Rel σc σm → ∀ a1 : Int32, ∃ (zc : (Int32 × uS)) (zm : (Int32 × uS)), f_X11_yard N σc a1 = some zc ∧ f_X12_yard N σm a1 = some zm ∧ zc.1 = zm.1 ∧ Rel2 zc.2 zm.2
def n_s37 (N : Nat) (Rel Rel2 : uS → uS → Prop) : Prop := ∀ σc σm : uS, Rel σc σm → ∀ a1 : Int32, ∃ (zc : (Int32 × uS)) (zm : (Int32 × uS)), f_X11_harvest N σc a1 = some zc ∧ f_X12_harvest N σm a1 = some zm ∧ zc.1 = zm.1 ∧ Rel2 zc.2 zm.2
def n_s38 (N : Nat) (Rel Rel2 : uS → uS → Prop) : Prop := ∀ σc σm : uS, Rel σc σm → ∀ a1 a2 : Int32, ∃ (zc : (Int32 × uS)) (zm : (Int32 × uS)), f_X11_owed N σc a1 a2 = some zc ∧ f_X12_owed N σm a1 a2 = some zm ∧ zc.1 = zm.1 ∧ Rel2 zc.2 zm.2
def n_s39 (N : Nat) (Rel Rel2 : uS → uS → Prop) : Prop := ∀ σc σm : uS, Rel σc σm → ∀ a1 a2 a3 : Int32, ∃ (zc : (Int32 × uS)) (zm : (Int32 × uS)), f_X11_floods N σc a1 a2 a3 = some zc ∧ f_X12_floods N σm a1 a2 a3 = some zm ∧ zc.1 = zm.1 ∧ Rel2 zc.2 zm.2
def n_s40 (N : Nat) (Rel Rel2 : uS → uS → Prop) : Prop := ∀ σc σm : uS, Rel σc σm → ∀ a1 a2 : Int32, ∃ (zc : (Int32 × uS)) (zm : (Int32 × uS)), f_X11_twice N σc a1 a2 = some zc ∧ f_X12_twice N σm a1 a2 = some zm ∧ zc.1 = zm.1 ∧ Rel2 zc.2 zm.2
def n_s41 (N : Nat) (Rel Rel2 : uS → uS → Prop) : Prop := ∀ σc σm : uS, Rel σc σm → ∀ a1 a2 : Int32, ∃ (zc : (Int32 × uS)) (zm : (Int32 × uS)), f_X11_rests N σc a1 a2 = some zc ∧ f_X12_rests N σm a1 a2 = some zm ∧ zc.1 = zm.1 ∧ Rel2 zc.2 zm.2
def n_s42 (N : Nat) (Rel Rel2 : uS → uS → Prop) : Prop := ∀ σc σm : uS, Rel σc σm → ∃ (zc : (Int32 × uS)) (zm : (Int32 × uS)), f_X11_law N σc = some zc ∧ f_X12_law N σm = some zm ∧ zc.1 = zm.1 ∧ Rel2 zc.2 zm.2
def n_s43 (N : Nat) (Rel Rel2 : uS → uS → Prop) : Prop := ∀ σc σm : uS, Rel σc σm → ∀ a1 a2 : Int32, ∃ (zc : (Int32 × uS)) (zm : (Int32 × uS)), f_X11_years N σc a1 a2 = some zc ∧ f_X12_years N σm a1 a2 = some zm ∧ zc.1 = zm.1 ∧ Rel2 zc.2 zm.2
def n_s44 (N : Nat) (Rel Rel2 : uS → uS → Prop) : Prop := ∀ σc σm : uS, Rel σc σm → ∀ a1 : Int32, ∃ (zc : (Int32 × uS)) (zm : (Int32 × uS)), f_X11_keep N σc a1 = some zc ∧ f_X12_keep N σm a1 = some zm ∧ zc.1 = zm.1 ∧ Rel2 zc.2 zm.2
def n_s45 (N : Nat) (Rel Rel2 : uS → uS → Prop) : Prop := ∀ σc σm : uS, Rel σc σm → ∀ a1 : Int32, ∃ (zc : (Int32 × uS)) (zm : (Int32 × uS)), f_X11_again N σc a1 = some zc ∧ f_X12_again N σm a1 = some zm ∧ zc.1 = zm.1 ∧ Rel2 zc.2 zm.2
def n_s46 (N : Nat) (Rel Rel2 : uS → uS → Prop) : Prop := ∀ σc σm : uS, Rel σc σm → ∀ a1 : Int32, ∃ (zc : Int32) (zm : (Int32 × uS)), f_X11_count N σc a1 = some zc ∧ f_X12_count N σm a1 = some zm ∧ zc = zm.1 ∧ Rel2 σc zm.2
def n_s47 (N : Nat) (Rel Rel2 : uS → uS → Prop) : Prop := ∀ σc σm : uS, Rel σc σm → ∀ a1 : Int32, ∃ (zo : Option Int64) (σc1 : uS) (zm : (Int64 × uS)) (zt : Int32), f_X11_row N σc a1 = some (zo, σc1) ∧ f_X12_row N σm a1 = some zm ∧ f_X12_thrown N zm.2 = some zt ∧ n_q zo zt zm.1 ∧ Rel2 σc1 zm.2
/-- every call answers alike, and leaves alike -/
def n_St (N : Nat) (Rel : Nat → uS → uS → Prop) : Prop := ∀ j : Nat, j < 512 → (∀ σc σm : uS, Rel j σc σm → Rel (j + 1) σc σm) ∧ n_s0 N (Rel j) (Rel (j + 1)) ∧ n_s1 N (Rel j) (Rel (j + 1)) ∧ n_s2 N (Rel j) (Rel (j + 1)) ∧ n_s3 N (Rel j) (Rel (j + 1)) ∧ n_s4 N (Rel j) (Rel (j + 1)) ∧ n_s5 N (Rel j) (Rel (j + 1)) ∧ n_s6 N (Rel j) (Rel (j + 1)) ∧ n_s7 N (Rel j) (Rel (j + 1)) ∧ n_s8 N (Rel j) (Rel (j + 1)) ∧ n_s9 N (Rel j) (Rel (j + 1)) ∧ n_s10 N (Rel j) (Rel (j + 1)) ∧ n_s11 N (Rel j) (Rel (j + 1)) ∧ n_s12 N (Rel j) (Rel (j + 1)) ∧ n_s13 N (Rel j) (Rel (j + 1)) ∧ n_s14 N (Rel j) (Rel (j + 1)) ∧ n_s15 N (Rel j) (Rel (j + 1)) ∧ n_s16 N (Rel j) (Rel (j + 1)) ∧ n_s17 N (Rel j) (Rel (j + 1)) ∧ n_s18 N (Rel j) (Rel (j + 1)) ∧ n_s19 N (Rel j) (Rel (j + 1)) ∧ n_s20 N (Rel j) (Rel (j + 1)) ∧ n_s21 N (Rel j) (Rel (j + 1)) ∧ n_s22 N (Rel j) (Rel (j + 1)) ∧ n_s23 N (Rel j) (Rel (j + 1)) ∧ n_s24 N (Rel j) (Rel (j + 1)) ∧ n_s25 N (Rel j) (Rel (j + 1)) ∧ n_s26 N (Rel j) (Rel (j + 1)) ∧ n_s27 N (Rel j) (Rel (j + 1)) ∧ n_s28 N (Rel j) (Rel (j + 1)) ∧ n_s29 N (Rel j) (Rel (j + 1)) ∧ n_s30 N (Rel j) (Rel (j + 1)) ∧ n_s31 N (Rel j) (Rel (j + 1)) ∧ n_s32 N (Rel j) (Rel (j + 1)) ∧ n_s33 N (Rel j) (Rel (j + 1)) ∧ n_s34 N (Rel j) (Rel (j + 1)) ∧ n_s35 N (Rel j) (Rel (j + 1)) ∧ n_s36 N (Rel j) (Rel (j + 1)) ∧ n_s37 N (Rel j) (Rel (j + 1)) ∧ n_s38 N (Rel j) (Rel (j + 1)) ∧ n_s39 N (Rel j) (Rel (j + 1)) ∧ n_s40 N (Rel j) (Rel (j + 1)) ∧ n_s41 N (Rel j) (Rel (j + 1)) ∧ n_s42 N (Rel j) (Rel (j + 1)) ∧ n_s43 N (Rel j) (Rel (j + 1)) ∧ n_s44 N (Rel j) (Rel (j + 1)) ∧ n_s45 N (Rel j) (Rel (j + 1)) ∧ n_s46 N (Rel j) (Rel (j + 1)) ∧ n_s47 N (Rel j) (Rel (j + 1))
