/-! THE LAW: its start -/
theorem n_inF : ∀ q ∈ u_nestF, u_cF q ∈ tables_1 := by decide +kernel
theorem n_inM : ∀ q ∈ u_nestM, u_cM q ∈ tables_1 := by decide +kernel
theorem n_inD : ∀ x ∈ u_decl, Cond.declares x ∈ tables_1 := by decide +kernel
theorem n_inD2 : ∀ x ∈ x_decl, Cond.declares x ∈ tables_1 := by decide +kernel
theorem n_inC : Cond.castable x_E x_E ∈ tables_1 := by decide +kernel
theorem n_inO : Cond.arrayOver (.object RX7) ∈ tables_1 := by decide +kernel
theorem n_inS : Cond.stringRef RX11 145 "no such furrow, or nothing such of it" ∈ tables_1 ∧ Cond.stringRef RX11 159 "nobody such, or nothing such of one" ∈ tables_1 ∧ Cond.stringRef RX11 425 "the row has no such number" ∈ tables_1 := by decide +kernel
theorem n_inL : Cond.laysStatic Bundle.tN "UNASSIGNED_STACK" Bundle.steD ∈ tables_1 ∧ Cond.laysStatic Bundle.tN "SUPPRESSED_SENTINEL" Bundle.listD ∈ tables_1 ∧ Cond.initialized Bundle.tN ∈ tables_1 := by decide +kernel
theorem n_big : ∀ w ∈ u_big, w ∈ lw_tbl := fun w h => (List.mem_filter.mp h).1
theorem n_tab : ∀ w ∈ tables_1, w ∈ lw_tbl := fun w h => List.mem_append_right _ h
theorem n_trace {l : Launch} (h : l.flags = flags0) : l.stackTraces = false := by
  unfold Launch.stackTraces
  rw [h]
  decide +kernel
theorem n_arr {args : Array Value} {s : State} {ty : FieldType} (h : (Cond.arrayClass ty).before args s = true) (hnob : ∀ C, ty ≠ .object C) : ∃ cA : ClassId, ArrOfT s cA ty ∧ va_RA s cA ty := by
  obtain ⟨cA, kA, comp, h1, h2, h3⟩ := Cond.arrayClass_spec h
  refine ⟨cA, fun n z => ⟨fun k h => (by cases h), kA, h2, comp, h3⟩, ?_⟩
  cases ty with
  | object C => exact absurd rfl (hnob C)
  | _ => exact h1
theorem n_arrO {args : Array Value} {s : State} {C : String} (h : (Cond.arrayOver (.object C)).before args s = true) : ∃ cA : ClassId, ArrOfT s cA (.object C) ∧ va_RA s cA (.object C) := by
  obtain ⟨comp, cA, kA, h1, h2, h3, h4, h5⟩ := Cond.arrayOver_spec h
  exact ⟨cA, fun n z => ⟨fun k h => (by cases h), kA, h3, comp, h4⟩, kA, comp, h3, h4, h1, h5⟩
theorem n_str {args : Array Value} {s : State} {own tx : String} {k : Nat} (h1 : (Cond.stringRef own k tx).before args s = true) (h2 : (Cond.exactly (.string own k) "java/lang/String").before args s = true) : ∃ a, vk_R own k tx a s := by
  obtain ⟨a, c, cA, kA, q1, -⟩ := Cond.exactly_spec (args := args) (first := s) (o := none) (s := s) (idx := []) (t := .string own k) (cls := "java/lang/String") h2
  exact ⟨a, vk_R.of h1 q1⟩
set_option maxRecDepth 100000 in
theorem n_known {args : Array Value} {s : State} (hts : ∀ w ∈ lw_tbl, w.before args s = true) : ∃ (D : va_G) (cy : Nat → ClassId), ∀ h : Nat → Nat, u_K (D, cy, h) s := by
  have hB : ∀ w ∈ u_big, w.before args s = true := fun w h => hts w (n_big w h)
  have hT : ∀ w ∈ tables_1, w.before args s = true := fun w h => hts w (n_tab w h)
  obtain ⟨c0, i0, k0⟩ := u_known (C := RX0) (T := TX0) (N := 3) hB u_inX0 (hB _ q_144)
  obtain ⟨c1, i1, k1⟩ := u_known (C := RX1) (T := TX1) (N := 1) hB u_inX1 (hB _ q_238)
  obtain ⟨c2, i2, k2⟩ := u_known (C := RX2) (T := TX2) (N := 2) hB u_inX2 (hB _ q_161)
  obtain ⟨c3, i3, k3⟩ := u_known (C := RX3) (T := TX3) (N := 4) hB u_inX3 (hB _ q_121)
  obtain ⟨c4, i4, k4⟩ := u_known (C := RX4) (T := TX4) (N := 6) hB u_inX4 (hB _ q_179)
  obtain ⟨c5, i5, k5⟩ := u_known (C := RX6) (T := TX6) (N := 11) hB u_inX6 (hB _ q_249)
  obtain ⟨c6, i6, k6⟩ := u_known (C := RX7) (T := TX7) (N := 12) hB u_inX7 (hB _ q_61)
  obtain ⟨c7, i7, k7⟩ := u_known (C := RX8) (T := TX8) (N := 2) hB u_inX8 (hB _ q_46)
  obtain ⟨c8, i8, k8⟩ := u_known (C := RX9) (T := TX9) (N := 6) hB u_inX9 (hB _ q_209)
  obtain ⟨c9, i9, k9⟩ := u_known (C := RX10) (T := TX10) (N := 2) hB u_inX10 (hB _ q_30)
  obtain ⟨c10, i10, k10⟩ := u_known (C := RX11) (T := TX11) (N := 15) hB u_inX11 (hB _ q_22)
  obtain ⟨c11, i11, k11⟩ := u_known (C := RX12) (T := TX12) (N := 37) hB u_inX12 (hB _ q_1089)
  obtain ⟨a0, b0⟩ := n_arr (hB _ q_44) (by intro C h; cases h)
  obtain ⟨a1, b1⟩ := n_arr (hB _ q_59) (by intro C h; cases h)
  obtain ⟨a2, b2⟩ := n_arr (hB _ q_1066) (by intro C h; cases h)
  obtain ⟨a3, b3⟩ := n_arr (hB _ q_1206) (by intro C h; cases h)
  obtain ⟨a4, b4⟩ := n_arrO (hT _ n_inO)
  refine ⟨(fun n => match n with | 0 => c0 | 1 => c1 | 2 => c2 | 3 => c3 | 4 => c4 | 5 => c5 | 6 => c6 | 7 => c7 | 8 => c8 | 9 => c9 | 10 => c10 | 11 => c11 | _ => c0, fun n => match n with | 0 => i0 | 1 => i1 | 2 => i2 | 3 => i3 | 4 => i4 | 5 => i5 | 6 => i6 | 7 => i7 | 8 => i8 | 9 => i9 | 10 => i10 | 11 => i11 | _ => i0), fun n => match n with | 0 => a0 | 1 => a1 | 2 => a2 | 3 => a3 | _ => a4, fun h => ⟨⟨fun c q hc => ?_, fun k q hk => ?_⟩, fun q hq => va_Nw.of rfl (hT _ (n_inF q hq)), fun q hq => va_Nw.of rfl (hT _ (n_inM q hq)), fun x hx => va_Nw.of rfl (hT _ (n_inD x hx))⟩⟩
  · have hlt : c < 12 := (List.getElem?_eq_some_iff.mp hc).1
    match c, hlt, hc with
    | 0, _, hc => cases hc; exact k0
    | 1, _, hc => cases hc; exact k1
    | 2, _, hc => cases hc; exact k2
    | 3, _, hc => cases hc; exact k3
    | 4, _, hc => cases hc; exact k4
    | 5, _, hc => cases hc; exact k5
    | 6, _, hc => cases hc; exact k6
    | 7, _, hc => cases hc; exact k7
    | 8, _, hc => cases hc; exact k8
    | 9, _, hc => cases hc; exact k9
    | 10, _, hc => cases hc; exact k10
    | 11, _, hc => cases hc; exact k11
  · have hlt : k < 5 := (List.getElem?_eq_some_iff.mp hk).1
    match k, hlt, hk with
    | 0, _, hk => cases hk; exact b0
    | 1, _, hk => cases hk; exact b1
    | 2, _, hk => cases hk; exact b2
    | 3, _, hk => cases hk; exact b3
    | 4, _, hk => cases hk; exact b4
theorem n_xK {b : Nat} {s : State} {G : uG} (hK : u_K G s) (hts : ∀ w ∈ lw_tbl, w.before #[Value.ref b] s = true) (hgv : (Jvm.Cond.and given_1 narrow_1).before #[Value.ref b] s = true) : x_K G (fun q => s.heap.size ≤ q) s := by
  have hT : ∀ w ∈ tables_1, w.before #[Value.ref b] s = true := fun w h => hts w (n_tab w h)
  have hN := flat_of_before _ hgv
  exact ⟨hK, va_Nw.of rfl (hT _ n_inC), fun x hx => va_Nw.of rfl (hT _ (n_inD2 x hx)), ⟨n_str (hT _ n_inS.1) (hN _ (by decide +kernel)), n_str (hT _ n_inS.2.1) (hN _ (by decide +kernel)), n_str (hT _ n_inS.2.2) (hN _ (by decide +kernel))⟩,
    vx_Zqof (hT _ n_inL.1) (hT _ n_inL.2.2) (hN _ (by decide +kernel)) (fun a h => Nat.not_le.mpr h), vx_Zqof (hT _ n_inL.2.1) (hT _ n_inL.2.2) (hN _ (by decide +kernel)) (fun a h => Nat.not_le.mpr h)⟩
section NST
variable {p : Program} {l : Launch} {e : Env} {s : State} {m : MethodId} {args : Array Value} {below : List Frame} {meth : Method} {c : Code} {H : Heap} {locs : List Loc} {cells slots : Nat} {Q : State → Prop}
variable {own : String} {cc : ByteArray} {mL : Nat} {G : uG} {A : Nat → Prop} {ws : va_W} {pc : Nat} {ls : Array Slot} {rest : List Value} {R : Room}
theorem n_mk (cx : n_C p s m args c own cc mL) (hK : u_K G s) (hao : va_AO RX7 s) (hw : k_W G A ws s H locs) {C : String} {T : u_T} {N ci i1 i2 m2 h2 mc ms : Nat} {ty : Nat → FieldType} {fs : List Value} {y2 : MethodName} {c2 : ByteArray} {cw : (Nat → Nat) → va_W} (hN : k_N own i1 C T N ci ty) (hfs : ∀ j, j < N → defaultValue (ty j) = vp_V fs j) (hI : k_I own i2 y2 c2 m2) (hM : k_M l G y2 c2 m2 h2 mc ms ci fs cw)
    (hls : ls.size = mL) (hRf : h2 + 1 ≤ R.frames) (hRl : 40 * h2 + 40 ≤ R.locals) (hRc : cells + 1 + mc ≤ R.cells) (hRs : slots + N + ms ≤ R.slots) (hr8 : (rest.map fun v => v.category).sum ≤ 6) (d0 : decode cc pc = .ok (.new i1, 3)) (d3 : decode cc (pc + 3) = .ok (.dup, 1)) (d4 : decode cc (pc + 4) = .ok (.invokespecial i2, 3))
    (kk : ∀ (u : Nat → Nat) (H1 : Heap) (locs1 : List Loc), k_W G A (ws ++ cw u) s H1 locs1 → W p l e R s m args below meth c H1 locs1 (cells + 1 + mc) (slots + N + ms) Q (F0 m (pc + 7) ls (.ref (u 0) :: rest))) : W p l e R s m args below meth c H locs cells slots Q (F0 m pc ls rest) := by
  obtain ⟨hx, hb, hml, hown, hts⟩ := id cx
  obtain ⟨n1, n2, n3, n4, n5, n6⟩ := hN
  obtain ⟨j1, j2, j3, j4, j5, j6, j7⟩ := hI
  have ok : ∀ {w : Cond}, w ∈ u_big → w.before args s = true := fun h => hts _ h
  refine va_new (ci := ci) (fs := fs) hx hb hts n1 ty n2 hown (ok n3) (ok n4) (ok n5) hK.1 hw.1 hw.2.1 hw.2.2.1 hw.2.2.2 n6 hfs (by omega) (by omega) d0 (fun q H2 q1 q2 q3 => ?_)
  have hw2 : k_W G A (ws ++ k_x q ci fs) s H2 locs := ⟨q1, q2, q3, hw.2.2.2⟩
  refine lv_dup hx hb d3 rfl ?_
  have hF := k_free hw2
  have hL := k_last hw2
  have hpre : ∀ U : State, U.heap = H2 → s.WarmedH U.vm → va_Pc [.ref q] (k_Pre G (k_x q ci fs) H2.size) ([.ref q] : List Value).toArray U := fun U hU hW => ⟨rfl, by rw [hU], by rw [hU]; exact hL.1, hL.2, k_K.warm hW ⟨hK, hao⟩⟩
  have hRR : (k_rm h2 mc ms).frames + 1 ≤ R.frames ∧ 8 + (m2 + 11) + (k_rm h2 mc ms).locals ≤ R.locals := ⟨hRf, by show 8 + (m2 + 11) + 40 * h2 ≤ R.locals; omega⟩
  have hst8 : ((Value.ref q :: rest).map fun v => v.category).sum ≤ 8 := by
    have : ((Value.ref q :: rest).map fun v => v.category).sum = 1 + (rest.map fun v => v.category).sum := by simp [Value.category]
    omega
  have hrun : va_Run p l e R s m args below meth c H2 locs (cells + 1) (slots + N) mc ms (F0 m (pc + 3 + 1) ls (.ref q :: .ref q :: rest)) (.ref q :: rest) (va_Qv (fun (u : Nat → Nat) => u 0 = q) (k_B G (k_x q ci fs) cw H2.size) (va_A (k_x q ci fs) H2.size) ([.ref q] : List Value).toArray) (va_A (k_x q ci fs) H2.size) := by
    rcases j7 with ⟨host, j7⟩ | j7
    · exact va_runIN (As := []) (rest := .ref q :: rest) ⟨hx, hb, hml, hown, hts⟩ (hM q H2.size) ⟨va_cnB 0 hts (n_goodIn j2) rfl rfl rfl (hK.2.2.1 _ j7) (ok j1) j5 hRR, j4, ok j3⟩ ⟨k_blind, hpre⟩ rfl rfl hls rfl (lv_room hst8) d4 ⟨hRc, hRs⟩
    · exact va_runI (As := []) (rest := .ref q :: rest) ⟨hx, hb, hml, hown, hts⟩ (hM q H2.size) (cwI 0 hts (n_goodIn j2) rfl rfl rfl (ok j1) (ok j7) (ok j3) j4 j5 hRR) ⟨k_blind, hpre⟩ rfl rfl hls rfl (lv_room hst8) d4 ⟨hRc, hRs⟩
  refine va_callv hrun hw2.2.2.1 (fun z _ h => hF z h) hF (fun u t H1 locs1 ht hvm hp hB hz1 hk1 hS => ?_)
  obtain ⟨b1, b2⟩ := hB
  rw [ht] at b1
  obtain ⟨g1, g2⟩ := k_join hw2.1 hw2.2.1 hk1 hF b1 b2
  subst hp
  exact kk u H1 locs1 ⟨g1, g2, hS, hw.2.2.2⟩
theorem n_arrN (cx : n_C p s m args c own cc mL) (hK : u_K G s) (hw : k_W G A ws s H locs) {atype : ArrayType} {ty : FieldType} {t N' : Nat} {a0 : vp_A} {n : Int32} (hty : newarray.typeOf atype = ty) (hnob : ∀ C, ty ≠ .object C) (ht : (u_tys G)[t]? = some (G.2.1 t, ty)) (hq : Cond.arrayClass ty ∈ u_big) (ha : ∀ cA : ClassId, vp_cell cA a0 = arrV cA N' (fun _ => defaultValue ty)) (hn : ¬ n < 0) (hN : n.toNatClampNeg = N') (hbytes : N' * componentBytes ty ≤ 536870912) (hRc : cells + 1 ≤ R.cells) (hRs : slots + N' ≤ R.slots) (hdg : decode cc pc = .ok (.newarray atype, 2))
    (kk : ∀ (q : Nat) (H1 : Heap), k_W G A (ws ++ [(q, .inl (G.2.1 t, a0))]) s H1 locs → W p l e R s m args below meth c H1 locs (cells + 1) (slots + N') Q (F0 m (pc + 2) ls (.ref q :: rest))) : W p l e R s m args below meth c H locs cells slots Q (F0 m pc ls (.int n :: rest)) := by
  obtain ⟨hx, hb, hml, hown, hts⟩ := cx
  subst hty
  refine va_newa hx hb (hts _ hq) rfl hK.1 hw.1 hw.2.1 hw.2.2.1 hw.2.2.2 ha hn hN hbytes hRc hRs hdg (fun q cA H1 g1 g2 g3 g4 => ?_)
  have e : cA = G.2.1 t := k_cy hnob ((g1.2 (u_tys G).length _ (by rw [List.getElem?_append_right (Nat.le_refl _), Nat.sub_self]; rfl)).2) ((hK.1.2 t _ ht).2)
  subst e
  exact kk q H1 ⟨g2, g3, g4, hw.2.2.2⟩
end NST
theorem n_w_get {Z : uZ} {G : uG} {σ : uS} {i : Nat} (hi : i < Z.1) (w : va_W) : (u_w Z G σ ++ w)[i]? = some (G.2.2 i, u_E Z G σ i) := by
  rw [List.getElem?_append_left (by rw [u_w_len]; exact hi), u_w_get hi]
set_option maxRecDepth 100000 in
set_option maxHeartbeats 4000000 in
/-- from the law's entry: whatever relation holds at the start and is kept by every call, with equal answers, the law comes to its end with true -/
theorem n_main {p : Program} {e : Env} {s : State} {m : MethodId} {below : List Frame} {meth : Method} {c : Code} (l : Launch) (hflags : l.flags = flags0) {b L : Nat} {xs : Nat → Int32} (hL : L ≤ 2560) (C0 : lw_At p s m meth c b L xs) (N : Nat) (Rel : Nat → uS → uS → Prop) (hst : n_St N Rel) (h0 : Rel 0 σC0 σM0) : W p l e room_1 s m #[Value.ref b] below meth c s.heap [] 0 0 (lw_Z below #[Value.ref b] s) (entryFrame m ([Value.ref b] : List Value).toArray 8) := by
  obtain ⟨hx, hb, hr, hml, hown, hts, hX, hbl, hlocks, hgv⟩ := C0
  obtain ⟨D, cy, hKK⟩ := n_known hts
  have hl := lv_entry [.ref b] (n := 8) (Nat.le_of_ble_eq_true rfl)
  have cx : n_C p s m #[Value.ref b] c RL cL_law 8 := ⟨hx, hb, hml, hown, fun w h => hts w (n_big w h)⟩
  have hao : va_AO RX7 s := va_AO.of (hts _ (n_tab _ n_inO))
  have hK := hKK (fun _ => 0)
  rw [lg_entry_eq]
  generalize hA : (fun q => s.heap.size ≤ q) = A
  have hge : ∀ q, A q → s.heap.size ≤ q := fun q h => by rw [← hA] at h; exact h
  have hw : k_W (D, cy, fun _ => 0) A [] s s.heap [] := ⟨fun k q h => (by cases h), ⟨fun i j a b h => (by cases h), fun k q h => (by cases h)⟩, va_S.rf, fun q h => (by rw [← hA]; exact h)⟩
  refine n_mk (own := RL) (cc := cL_law) (mL := 8) cx hK hao hw (cw := fun u => u_w ZC (D, cy, u) σC0) KN_L_8 dfX11 KI_L_22 (c_X11_init l (D, cy, fun _ => 0)) hl.1 (Nat.le_of_ble_eq_true rfl) (Nat.le_of_ble_eq_true rfl) (Nat.le_of_ble_eq_true rfl) (Nat.le_of_ble_eq_true rfl) (Nat.le_of_ble_eq_true rfl) dL_law_0 dL_law_3 dL_law_4 (fun hc H locs hw => ?_)
  refine lv_astore_n (lv' := [(1, .ref (hc 0)), (0, .ref b)]) hx hb dL_law_7 rfl hl (by decide) rfl (fun ls hl => ?_)
  refine n_mk (own := RL) (cc := cL_law) (mL := 8) cx hK hao hw (cw := fun u => u_w ZM (D, cy, u) σM0) KN_L_23 dfX12 KI_L_25 (c_X12_init l (D, cy, fun _ => 0)) hl.1 (Nat.le_of_ble_eq_true rfl) (Nat.le_of_ble_eq_true rfl) (Nat.le_of_ble_eq_true rfl) (Nat.le_of_ble_eq_true rfl) (Nat.le_of_ble_eq_true rfl) dL_law_8 dL_law_11 dL_law_12 (fun hm H locs hw => ?_)
  refine lv_astore_n (lv' := [(2, .ref (hm 0)), (1, .ref (hc 0)), (0, .ref b)]) hx hb dL_law_15 rfl hl (by decide) rfl (fun ls hl => ?_)
  refine lv_iconst (v := 1) hx hb dL_law_16 (by decide) ?_
  refine n_arrN (own := RL) (cc := cL_law) (mL := 8) cx hK hw (t := 1) (ty := .long) (a0 := (1, .inr (.inl (fun _ => 0)))) rfl (by intro C h; cases h) rfl q_59 (fun _ => rfl) (by decide) (by decide) (Nat.le_of_ble_eq_true rfl) (Nat.le_of_ble_eq_true rfl) (Nat.le_of_ble_eq_true rfl) dL_law_17 (fun o H hw => ?_)
  refine lv_astore_n (lv' := [(3, .ref o), (2, .ref (hm 0)), (1, .ref (hc 0)), (0, .ref b)]) hx hb dL_law_19 rfl hl (by decide) rfl (fun ls hl => ?_)
  refine lv_iconst (v := 0) hx hb dL_law_20 (by decide) ?_
  refine lv_istore (lv' := [(4, .int 0), (3, .ref o), (2, .ref (hm 0)), (1, .ref (hc 0)), (0, .ref b)]) hx hb dL_law_21 hl (by decide) rfl (fun ls hl => ?_)
  obtain ⟨hP, hD, hS, -⟩ := hw
  have gc : ∀ i, i < 134 → ((([] ++ u_w ZC (D, cy, hc) σC0) ++ u_w ZM (D, cy, hm) σM0) ++ [(o, .inl (cy 1, 1, .inr (.inl (fun _ => 0))))] : va_W)[i]? = some (hc i, u_E ZC (D, cy, hc) σC0 i) := fun i hi => by
    rw [List.nil_append, List.append_assoc]; exact n_w_get hi _
  have gm : ∀ i, i < 21 → ((([] ++ u_w ZC (D, cy, hc) σC0) ++ u_w ZM (D, cy, hm) σM0) ++ [(o, .inl (cy 1, 1, .inr (.inl (fun _ => 0))))] : va_W)[134 + i]? = some (hm i, u_E ZM (D, cy, hm) σM0 i) := fun i hi => by
    rw [List.nil_append, List.append_assoc, List.getElem?_append_right (by rw [u_w_len]; exact Nat.le_add_right _ _), u_w_len, show 134 + i - ZC.1 = i from Nat.add_sub_cancel_left _ _]; exact n_w_get hi _
  have go : ((([] ++ u_w ZC (D, cy, hc) σC0) ++ u_w ZM (D, cy, hm) σM0) ++ [(o, .inl (cy 1, 1, .inr (.inl (fun _ => 0))))] : va_W)[155]? = some (o, .inl (cy 1, 1, .inr (.inl (fun _ => 0)))) := by
    rw [List.nil_append, List.append_assoc, List.getElem?_append_right (by rw [u_w_len]; decide), u_w_len, List.getElem?_append_right (by rw [u_w_len]; decide), u_w_len]; rfl
  have af : n_AF hc hm o s.heap.size := by
    refine ⟨fun i j hi hj h => hD.1 i j _ _ (gc i hi) (gc j hj) h, fun i j hi hj h => ?_, fun i j hi hj h => ?_, fun i hi h => ?_, fun j hj h => ?_, fun i hi => hge _ (hD.2 i _ (gc i hi)), fun j hj => hge _ (hD.2 _ _ (gm j hj)), hge _ (hD.2 _ _ go)⟩
    · have := hD.1 _ _ _ _ (gm i hi) (gm j hj) h; omega
    · have := hD.1 _ _ _ _ (gc i hi) (gm j hj) h; omega
    · have := hD.1 _ _ _ _ (gc i hi) go h; omega
    · have := hD.1 _ _ _ _ (gm j hj) go h; omega
  have C : n_L p l s m #[Value.ref b] c D cy hc hm o b L xs := ⟨cx, n_trace hflags, n_xK (hKK hc) hts hgv, af, hX, hbl⟩
  have hw : n_W D cy hc hm o σC0 σM0 (fun _ => 0) s H locs := by
    refine ⟨fun k q hk => ?_, fun k q hk => ?_, fun k q hk => ?_, by rw [hA]; exact hS⟩
    · obtain ⟨h1, rfl⟩ := u_w_inv hk
      exact hP k _ (gc k h1)
    · obtain ⟨h1, rfl⟩ := u_w_inv hk
      exact hP (134 + k) _ (gm k h1)
    · cases k with
      | zero => cases hk; exact hP 155 _ go
      | succ k => cases hk
  exact W.widen (k := 10000 + 0) (n := 100000 + 6 * 0) (by decide) (by decide) (n_loop C hr hlocks hL N Rel hst 600 0 σC0 σM0 (fun _ => 0) H locs ls (by omega) (by omega) h0 hw (lv_sub hl [4, 3, 2, 1, 0] rfl))
