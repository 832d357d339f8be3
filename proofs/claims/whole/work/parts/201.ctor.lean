/-! CONSTRUCTORS -/
theorem dfX0 : ∀ j, j < 3 → defaultValue (tyX0 j) = vp_V [.int 0, .int 0, .int 0] j := by decide +kernel
theorem dfX1 : ∀ j, j < 1 → defaultValue (tyX1 j) = vp_V [.int 0] j := by decide +kernel
theorem dfX2 : ∀ j, j < 2 → defaultValue (tyX2 j) = vp_V [.null, .int 0] j := by decide +kernel
theorem dfX3 : ∀ j, j < 4 → defaultValue (tyX3 j) = vp_V [.null, .null, .int 0, .int 0] j := by decide +kernel
theorem dfX4 : ∀ j, j < 6 → defaultValue (tyX4 j) = vp_V [.null, .null, .null, .int 0, .int 0, .int 0] j := by decide +kernel
theorem dfX6 : ∀ j, j < 11 → defaultValue (tyX6 j) = vp_V [.null, .null, .null, .null, .int 0, .int 0, .int 0, .int 0, .int 0, .int 0, .int 0] j := by decide +kernel
theorem dfX7 : ∀ j, j < 12 → defaultValue (tyX7 j) = vp_V [.null, .null, .null, .null, .null, .int 0, .int 0, .int 0, .int 0, .int 0, .int 0, .int 0] j := by decide +kernel
theorem dfX8 : ∀ j, j < 2 → defaultValue (tyX8 j) = vp_V [.null, .int 0] j := by decide +kernel
theorem dfX9 : ∀ j, j < 6 → defaultValue (tyX9 j) = vp_V [.null, .null, .null, .int 0, .int 0, .int 0] j := by decide +kernel
theorem dfX10 : ∀ j, j < 2 → defaultValue (tyX10 j) = vp_V [.null, .int 0] j := by decide +kernel
theorem dfX11 : ∀ j, j < 15 → defaultValue (tyX11 j) = vp_V [.null, .null, .null, .null, .null, .null, .null, .null, .null, .null, .null, .null, .null, .null, .null] j := by decide +kernel
theorem dfX12 : ∀ j, j < 37 → defaultValue (tyX12 j) = vp_V [.null, .int 0, .int 0, .null, .null, .int 0, .null, .int 0, .int 0, .null, .int 0, .int 0, .int 0, .int 0, .null, .null, .null, .int 0, .int 0, .null, .null, .int 0, .null, .null, .null, .null, .null, .null, .null, .int 0, .int 0, .null, .int 0, .int 0, .null, .null, .null] j := by decide +kernel
theorem dX5_init_0 : decode cX5_init 0 = .ok (.aload_n 0, 1) := by decide +kernel
theorem dX5_init_1 : decode cX5_init 1 = .ok (.invokespecial 3, 3) := by decide +kernel
theorem dX5_init_4 : decode cX5_init 4 = .ok (.return_, 1) := by decide +kernel
theorem c_X5_init (l : Launch) (h0 sz : Nat) : Met l yX5_init (u_ws0 yX5_init cX5_init 1 none) (k_rm 1 0 0) (va_Pc [.ref h0] (fun U => U.heap.size = sz)) (va_Qv (fun (_ : Unit) => True) (fun _ _ => True) (fun _ => False)) 0 0 (fun _ => False) := by
  refine Met.ofW (cc := cX5_init) (maxL := 1) (ret := none) (by decide) rfl ?_
  intro p e s m args below meth c s₁ B hml hv
  obtain ⟨rfl, hsz⟩ := hv
  have hx := B.exec
  have hb := B.bytes
  have hts := atoms_spec (ws := u_ws0 yX5_init cX5_init 1 none) B.pre
  have hown : s.vm.findClass RX5 = some m.cls := findClass_of_methodNamed B.named
  have hl := lv_entry ([.ref h0]) (n := 1) (Nat.le_of_ble_eq_true rfl)
  rw [lg_entry_eq]
  generalize (lg_sl ([.ref h0]) ++ List.replicate (1 - (lg_sl ([.ref h0])).length) Slot.unset).toArray = ls at hl ⊢
  have hl : lv_has ls 1 [(0, .ref h0)] := hl
  refine lv_aload_n hx hb dX5_init_0 rfl (lv_at hl 0 rfl) ?_
  refine W.objInit hx hb hown (hts _ (List.mem_cons_of_mem _ q_168)) (hts _ (List.mem_cons_of_mem _ q_27)) (hts _ (List.mem_cons_of_mem _ q_28)) rfl (by rw [hml]; exact hl.1) rfl dX5_init_1 (Nat.le_of_ble_eq_true rfl) (Nat.le_of_ble_eq_true rfl) ?_
  exact W.vret hx hb B.returns (fun t ht hW => ⟨⟨(), rfl, trivial, trivial⟩, by rw [ht]; exact Nat.le_refl _, fun q _ _ => by rw [ht]⟩) (fun q h => by cases h) dX5_init_4 B.notSynchronized
section KS
variable {p : Program} {l : Launch} {e : Env} {s : State} {m : MethodId} {args : Array Value} {below : List Frame} {meth : Method} {c : Code} {H : Heap} {locs : List Loc} {cells slots : Nat} {Q : State → Prop}
variable {own : String} {y : MethodName} {cc : ByteArray} {mL : Nat} {rt : Option FieldType} {G : uG} {A : Nat → Prop} {ws : va_W} {pc : Nat} {ls : Array Slot} {rest : List Value} {R : Room}
/-- Reader's constructor, called by a subclass's -/
theorem k_sup (cx : u_C p s m args meth c own y cc mL rt G) (hw : k_W G A ws s H locs) {idx a : Nat} (hI : k_I own idx yX5_init cX5_init 1) (hls : ls.size = mL) (hRf : 2 ≤ R.frames) (hRl : 80 ≤ R.locals) (hRc : cells ≤ R.cells) (hRs : slots ≤ R.slots) (hr8 : (rest.map fun v => v.category).sum ≤ 8) (hdg : decode cc pc = .ok (.invokespecial idx, 3))
    (kk : ∀ (H1 : Heap) (locs1 : List Loc), k_W G A ws s H1 locs1 → W p l e R s m args below meth c H1 locs1 cells slots Q (F0 m (pc + 3) ls rest)) : W p l e R s m args below meth c H locs cells slots Q (F0 m pc ls (.ref a :: rest)) := by
  obtain ⟨hx, hb, hml, hown, hts, hr, hlocks, hK⟩ := id cx
  obtain ⟨j1, j2, j3, j4, j5, j6, j7⟩ := hI
  have ok : ∀ {w : Cond}, w ∈ u_big → w.before args s = true := fun h => hts _ (List.mem_cons_of_mem _ h)
  have hRR : (k_rm 1 0 0).frames + 1 ≤ R.frames ∧ 8 + (1 + 11) + (k_rm 1 0 0).locals ≤ R.locals := ⟨hRf, by show 8 + (1 + 11) + 40 * 1 ≤ R.locals; omega⟩
  have hbl : FrameBlind (va_Pc [.ref a] (fun U => U.heap.size = H.size)) := fun _ _ _ _ q => q
  have hpre : ∀ U : State, U.heap = H → s.WarmedH U.vm → va_Pc [.ref a] (fun U => U.heap.size = H.size) ([.ref a] : List Value).toArray U := fun U hU _ => ⟨rfl, by show U.heap.size = H.size; rw [hU]⟩
  have hrun : va_Run p l e R s m args below meth c H locs cells slots 0 0 (F0 m pc ls (.ref a :: rest)) rest (va_Qv (fun (_ : Unit) => True) (fun _ _ => True) (fun _ => False) ([.ref a] : List Value).toArray) (fun _ => False) := by
    rcases j7 with ⟨host, j7⟩ | j7
    · exact va_runIN (As := []) (rest := rest) ⟨hx, hb, hml, hown, hts⟩ (c_X5_init l a H.size) ⟨va_cnB 0 hts (u_goodIn j2) rfl rfl rfl (hK.2.2.1 _ j7) (ok j1) j5 hRR, j4, ok j3⟩ ⟨hbl, hpre⟩ rfl rfl hls rfl (lv_room hr8) hdg ⟨hRc, hRs⟩
    · exact va_runI (As := []) (rest := rest) ⟨hx, hb, hml, hown, hts⟩ (c_X5_init l a H.size) (cwI 0 hts (u_goodIn j2) rfl rfl rfl (ok j1) (ok j7) (ok j3) j4 j5 hRR) ⟨hbl, hpre⟩ rfl rfl hls rfl (lv_room hr8) hdg ⟨hRc, hRs⟩
  refine va_callv hrun hw.2.2.1 (fun z _ h => h.elim) (fun z h => h.elim) (fun u t H1 locs1 ht hvm hp hB hz1 hk1 hS => ?_)
  exact kk H1 locs1 ⟨hw.1.kept (fun k q hk => hk1 q.1 ((hw.1 k q hk).lt) (fun h => h)), hw.2.1, hS, hw.2.2.2⟩
end KS
theorem KI_X11_9 : k_I RX11 9 yX10_init cX10_init 1 := ⟨q_2, q_33, q_32, rfl, ⟨by decide +kernel, by decide +kernel, by decide +kernel⟩, by decide, Or.inl ⟨"RopeRemembers", List.mem_of_getElem? (i := 0) rfl⟩⟩
theorem KI_X11_18 : k_I RX11 18 yX8_init cX8_init 1 := ⟨q_3, q_49, q_48, rfl, ⟨by decide +kernel, by decide +kernel, by decide +kernel⟩, by decide, Or.inl ⟨"RopeRemembers", List.mem_of_getElem? (i := 1) rfl⟩⟩
theorem KI_X11_25 : k_I RX11 25 yX7_init cX7_init 1 := ⟨q_4, q_64, q_63, rfl, ⟨by decide +kernel, by decide +kernel, by decide +kernel⟩, by decide, Or.inl ⟨"RopeRemembers", List.mem_of_getElem? (i := 2) rfl⟩⟩
theorem KI_X11_45 : k_I RX11 45 yX0_init cX0_init 1 := ⟨q_6, q_147, q_146, rfl, ⟨by decide +kernel, by decide +kernel, by decide +kernel⟩, by decide, Or.inl ⟨"RopeRemembers", List.mem_of_getElem? (i := 4) rfl⟩⟩
theorem KI_X11_52 : k_I RX11 52 yX2_init cX2_init 1 := ⟨q_8, q_164, q_163, rfl, ⟨by decide +kernel, by decide +kernel, by decide +kernel⟩, by decide, Or.inl ⟨"RopeRemembers", List.mem_of_getElem? (i := 5) rfl⟩⟩
theorem KI_X11_59 : k_I RX11 59 yX4_init cX4_init 1 := ⟨q_9, q_182, q_181, rfl, ⟨by decide +kernel, by decide +kernel, by decide +kernel⟩, by decide, Or.inl ⟨"RopeRemembers", List.mem_of_getElem? (i := 7) rfl⟩⟩
theorem KI_X11_66 : k_I RX11 66 yX9_init cX9_init 1 := ⟨q_10, q_212, q_211, rfl, ⟨by decide +kernel, by decide +kernel, by decide +kernel⟩, by decide, Or.inl ⟨"RopeRemembers", List.mem_of_getElem? (i := 9) rfl⟩⟩
theorem KI_X11_81 : k_I RX11 81 yX1_init cX1_init 1 := ⟨q_11, q_241, q_240, rfl, ⟨by decide +kernel, by decide +kernel, by decide +kernel⟩, by decide, Or.inl ⟨"RopeRemembers", List.mem_of_getElem? (i := 11) rfl⟩⟩
theorem KI_X11_88 : k_I RX11 88 yX6_init cX6_init 1 := ⟨q_12, q_252, q_251, rfl, ⟨by decide +kernel, by decide +kernel, by decide +kernel⟩, by decide, Or.inl ⟨"RopeRemembers", List.mem_of_getElem? (i := 12) rfl⟩⟩
theorem KI_X2_3 : k_I RX2 3 yX5_init cX5_init 1 := ⟨q_7, q_167, q_166, rfl, ⟨by decide +kernel, by decide +kernel, by decide +kernel⟩, by decide, Or.inl ⟨"RopeRemembers", List.mem_of_getElem? (i := 6) rfl⟩⟩
theorem KI_X3_20 : k_I RX3 20 yX7_init cX7_init 1 := ⟨q_4, q_64, q_63, rfl, ⟨by decide +kernel, by decide +kernel, by decide +kernel⟩, by decide, Or.inl ⟨"RopeRemembers", List.mem_of_getElem? (i := 3) rfl⟩⟩
theorem KI_X4_3 : k_I RX4 3 yX5_init cX5_init 1 := ⟨q_7, q_167, q_166, rfl, ⟨by decide +kernel, by decide +kernel, by decide +kernel⟩, by decide, Or.inl ⟨"RopeRemembers", List.mem_of_getElem? (i := 8) rfl⟩⟩
theorem KI_X6_3 : k_I RX6 3 yX5_init cX5_init 1 := ⟨q_7, q_167, q_166, rfl, ⟨by decide +kernel, by decide +kernel, by decide +kernel⟩, by decide, Or.inl ⟨"RopeRemembers", List.mem_of_getElem? (i := 13) rfl⟩⟩
theorem KI_X9_3 : k_I RX9 3 yX5_init cX5_init 1 := ⟨q_7, q_167, q_166, rfl, ⟨by decide +kernel, by decide +kernel, by decide +kernel⟩, by decide, Or.inl ⟨"RopeRemembers", List.mem_of_getElem? (i := 10) rfl⟩⟩
theorem KI_X11_38 : k_I RX11 38 yX3_init cX3_init 2 := ⟨q_5, q_124, q_123, rfl, ⟨by decide +kernel, by decide +kernel, by decide +kernel⟩, by decide, Or.inr q_122⟩
theorem KI_L_22 : k_I RL 22 yX11_init cX11_init 1 := ⟨q_1, q_25, q_24, rfl, ⟨by decide +kernel, by decide +kernel, by decide +kernel⟩, by decide, Or.inr q_23⟩
theorem KI_L_25 : k_I RL 25 yX12_init cX12_init 1 := ⟨q_13, q_1092, q_1091, rfl, ⟨by decide +kernel, by decide +kernel, by decide +kernel⟩, by decide, Or.inr q_1090⟩
theorem KN_X11_7 : k_N RX11 7 RX10 TX10 2 9 tyX10 := ⟨u_inX10, tyX10_ok, q_29, q_30, q_2, rfl⟩
theorem KN_X11_16 : k_N RX11 16 RX8 TX8 2 7 tyX8 := ⟨u_inX8, tyX8_ok, q_45, q_46, q_3, rfl⟩
theorem KN_X11_23 : k_N RX11 23 RX7 TX7 12 6 tyX7 := ⟨u_inX7, tyX7_ok, q_60, q_61, q_4, rfl⟩
theorem KN_X11_36 : k_N RX11 36 RX3 TX3 4 3 tyX3 := ⟨u_inX3, tyX3_ok, q_120, q_121, q_5, rfl⟩
theorem KN_X11_43 : k_N RX11 43 RX0 TX0 3 0 tyX0 := ⟨u_inX0, tyX0_ok, q_143, q_144, q_6, rfl⟩
theorem KN_X11_50 : k_N RX11 50 RX2 TX2 2 2 tyX2 := ⟨u_inX2, tyX2_ok, q_160, q_161, q_8, rfl⟩
theorem KN_X11_57 : k_N RX11 57 RX4 TX4 6 4 tyX4 := ⟨u_inX4, tyX4_ok, q_178, q_179, q_9, rfl⟩
theorem KN_X11_64 : k_N RX11 64 RX9 TX9 6 8 tyX9 := ⟨u_inX9, tyX9_ok, q_208, q_209, q_10, rfl⟩
theorem KN_X11_79 : k_N RX11 79 RX1 TX1 1 1 tyX1 := ⟨u_inX1, tyX1_ok, q_237, q_238, q_11, rfl⟩
theorem KN_X11_86 : k_N RX11 86 RX6 TX6 11 5 tyX6 := ⟨u_inX6, tyX6_ok, q_248, q_249, q_12, rfl⟩
theorem KN_X3_9 : k_N RX3 9 RX7 TX7 12 6 tyX7 := ⟨u_inX7, tyX7_ok, q_126, q_61, q_4, rfl⟩
theorem KN_L_8 : k_N RL 8 RX11 TX11 15 10 tyX11 := ⟨u_inX11, tyX11_ok, q_21, q_22, q_1, rfl⟩
theorem KN_L_23 : k_N RL 23 RX12 TX12 37 11 tyX12 := ⟨u_inX12, tyX12_ok, q_1088, q_1089, q_13, rfl⟩
theorem dX0_init_0 : decode cX0_init 0 = .ok (.aload_n 0, 1) := by decide +kernel
theorem dX0_init_1 : decode cX0_init 1 = .ok (.invokespecial 1, 3) := by decide +kernel
theorem dX0_init_4 : decode cX0_init 4 = .ok (.return_, 1) := by decide +kernel
def cw_X0 (G : uG) (u : Nat → Nat) : va_W := [(u 0, .inr (0, [.int 0, .int 0, .int 0]))]
set_option maxRecDepth 100000 in
set_option maxHeartbeats 4000000 in
theorem c_X0_init (l : Launch) (G : uG) : k_M l G yX0_init cX0_init 1 2 0 0 0 [.int 0, .int 0, .int 0] (cw_X0 G) := by
  refine k_M_of RX0 (by decide) rfl rfl (by decide) ?_
  intro p e s m args below meth c ls h0 A hAe cx hw hl
  have hx := cx.1.1
  have hb := cx.1.2.1
  refine lv_aload_n hx hb dX0_init_0 rfl (lv_at hl 0 rfl) ?_
  refine k_obj cx.1 q_148 hl.1 (Nat.le_of_ble_eq_true rfl) (Nat.le_of_ble_eq_true rfl) (Nat.le_of_ble_eq_true rfl) dX0_init_1 ?_
  exact k_ret cx.1 hAe hw (fun i => h0) rfl [0] (by decide) rfl (Nat.le_of_ble_eq_true rfl) (Nat.le_of_ble_eq_true rfl) dX0_init_4
theorem dX1_init_0 : decode cX1_init 0 = .ok (.aload_n 0, 1) := by decide +kernel
theorem dX1_init_1 : decode cX1_init 1 = .ok (.invokespecial 1, 3) := by decide +kernel
theorem dX1_init_4 : decode cX1_init 4 = .ok (.return_, 1) := by decide +kernel
def cw_X1 (G : uG) (u : Nat → Nat) : va_W := [(u 0, .inr (1, [.int 0]))]
set_option maxRecDepth 100000 in
set_option maxHeartbeats 4000000 in
theorem c_X1_init (l : Launch) (G : uG) : k_M l G yX1_init cX1_init 1 2 0 0 1 [.int 0] (cw_X1 G) := by
  refine k_M_of RX1 (by decide) rfl rfl (by decide) ?_
  intro p e s m args below meth c ls h0 A hAe cx hw hl
  have hx := cx.1.1
  have hb := cx.1.2.1
  refine lv_aload_n hx hb dX1_init_0 rfl (lv_at hl 0 rfl) ?_
  refine k_obj cx.1 q_242 hl.1 (Nat.le_of_ble_eq_true rfl) (Nat.le_of_ble_eq_true rfl) (Nat.le_of_ble_eq_true rfl) dX1_init_1 ?_
  exact k_ret cx.1 hAe hw (fun i => h0) rfl [0] (by decide) rfl (Nat.le_of_ble_eq_true rfl) (Nat.le_of_ble_eq_true rfl) dX1_init_4
theorem dX10_init_0 : decode cX10_init 0 = .ok (.aload_n 0, 1) := by decide +kernel
theorem dX10_init_1 : decode cX10_init 1 = .ok (.invokespecial 3, 3) := by decide +kernel
theorem dX10_init_4 : decode cX10_init 4 = .ok (.aload_n 0, 1) := by decide +kernel
theorem dX10_init_5 : decode cX10_init 5 = .ok (.bipush 80, 2) := by decide +kernel
theorem dX10_init_7 : decode cX10_init 7 = .ok (.newarray .int, 2) := by decide +kernel
theorem dX10_init_9 : decode cX10_init 9 = .ok (.putfield 9, 3) := by decide +kernel
theorem dX10_init_12 : decode cX10_init 12 = .ok (.return_, 1) := by decide +kernel
def cw_X10 (G : uG) (u : Nat → Nat) : va_W := [(u 0, .inr (9, [.ref (u 1), .int 0])), (u 1, .inl (G.2.1 0, 80, .inl (fun _ => 0)))]
set_option maxRecDepth 100000 in
set_option maxHeartbeats 4000000 in
theorem c_X10_init (l : Launch) (G : uG) : k_M l G yX10_init cX10_init 1 2 1 80 9 [.null, .int 0] (cw_X10 G) := by
  refine k_M_of RX10 (by decide) rfl rfl (by decide) ?_
  intro p e s m args below meth c ls h0 A hAe cx hw hl
  have hx := cx.1.1
  have hb := cx.1.2.1
  refine lv_aload_n hx hb dX10_init_0 rfl (lv_at hl 0 rfl) ?_
  refine k_obj cx.1 q_34 hl.1 (Nat.le_of_ble_eq_true rfl) (Nat.le_of_ble_eq_true rfl) (Nat.le_of_ble_eq_true rfl) dX10_init_1 ?_
  refine lv_aload_n hx hb dX10_init_4 rfl (lv_at hl 0 rfl) ?_
  refine lv_bipush (v := 80) hx hb dX10_init_5 (by decide) ?_
  refine k_arr cx.1 hw (t := 0) (ty := .int) (a0 := (80, .inl (fun _ => 0))) rfl (by intro C h; cases h) rfl q_44 (fun _ => rfl) (by decide) (by decide) (Nat.le_of_ble_eq_true rfl) (Nat.le_of_ble_eq_true rfl) (Nat.le_of_ble_eq_true rfl) dX10_init_7 (fun q1 H hw => ?_)
  have hw : k_W G A [(h0, .inr (9, [.null, .int 0])), (q1, .inl (G.2.1 0, 80, .inl (fun _ => 0)))] s _ _ := hw
  refine k_putF cx.1 cx.2.1 hw F_X10_9 tyX10_ok nmX10 q_35 0 rfl rfl rfl rfl rfl (Nat.le_of_ble_eq_true rfl) dX10_init_9 (fun H locs hw => ?_)
  have hw : k_W G A [(h0, .inr (9, [.ref q1, .int 0])), (q1, .inl (G.2.1 0, 80, .inl (fun _ => 0)))] s _ _ := hw
  exact k_ret cx.1 hAe hw (fun i => if i = 0 then h0 else q1) rfl [0, 1] (by decide) rfl (Nat.le_of_ble_eq_true rfl) (Nat.le_of_ble_eq_true rfl) dX10_init_12
theorem dX8_init_0 : decode cX8_init 0 = .ok (.aload_n 0, 1) := by decide +kernel
theorem dX8_init_1 : decode cX8_init 1 = .ok (.invokespecial 3, 3) := by decide +kernel
theorem dX8_init_4 : decode cX8_init 4 = .ok (.aload_n 0, 1) := by decide +kernel
theorem dX8_init_5 : decode cX8_init 5 = .ok (.bipush 16, 2) := by decide +kernel
theorem dX8_init_7 : decode cX8_init 7 = .ok (.newarray .long, 2) := by decide +kernel
theorem dX8_init_9 : decode cX8_init 9 = .ok (.putfield 9, 3) := by decide +kernel
theorem dX8_init_12 : decode cX8_init 12 = .ok (.return_, 1) := by decide +kernel
def cw_X8 (G : uG) (u : Nat → Nat) : va_W := [(u 0, .inr (7, [.ref (u 1), .int 0])), (u 1, .inl (G.2.1 1, 16, .inr (.inl (fun _ => 0))))]
set_option maxRecDepth 100000 in
set_option maxHeartbeats 4000000 in
theorem c_X8_init (l : Launch) (G : uG) : k_M l G yX8_init cX8_init 1 2 1 16 7 [.null, .int 0] (cw_X8 G) := by
  refine k_M_of RX8 (by decide) rfl rfl (by decide) ?_
  intro p e s m args below meth c ls h0 A hAe cx hw hl
  have hx := cx.1.1
  have hb := cx.1.2.1
  refine lv_aload_n hx hb dX8_init_0 rfl (lv_at hl 0 rfl) ?_
  refine k_obj cx.1 q_50 hl.1 (Nat.le_of_ble_eq_true rfl) (Nat.le_of_ble_eq_true rfl) (Nat.le_of_ble_eq_true rfl) dX8_init_1 ?_
  refine lv_aload_n hx hb dX8_init_4 rfl (lv_at hl 0 rfl) ?_
  refine lv_bipush (v := 16) hx hb dX8_init_5 (by decide) ?_
  refine k_arr cx.1 hw (t := 1) (ty := .long) (a0 := (16, .inr (.inl (fun _ => 0)))) rfl (by intro C h; cases h) rfl q_59 (fun _ => rfl) (by decide) (by decide) (Nat.le_of_ble_eq_true rfl) (Nat.le_of_ble_eq_true rfl) (Nat.le_of_ble_eq_true rfl) dX8_init_7 (fun q1 H hw => ?_)
  have hw : k_W G A [(h0, .inr (7, [.null, .int 0])), (q1, .inl (G.2.1 1, 16, .inr (.inl (fun _ => 0))))] s _ _ := hw
  refine k_putF cx.1 cx.2.1 hw F_X8_9 tyX8_ok nmX8 q_51 0 rfl rfl rfl rfl rfl (Nat.le_of_ble_eq_true rfl) dX8_init_9 (fun H locs hw => ?_)
  have hw : k_W G A [(h0, .inr (7, [.ref q1, .int 0])), (q1, .inl (G.2.1 1, 16, .inr (.inl (fun _ => 0))))] s _ _ := hw
  exact k_ret cx.1 hAe hw (fun i => if i = 0 then h0 else q1) rfl [0, 1] (by decide) rfl (Nat.le_of_ble_eq_true rfl) (Nat.le_of_ble_eq_true rfl) dX8_init_12
theorem dX2_init_0 : decode cX2_init 0 = .ok (.aload_n 0, 1) := by decide +kernel
theorem dX2_init_1 : decode cX2_init 1 = .ok (.invokespecial 3, 3) := by decide +kernel
theorem dX2_init_4 : decode cX2_init 4 = .ok (.aload_n 0, 1) := by decide +kernel
theorem dX2_init_5 : decode cX2_init 5 = .ok (.bipush 16, 2) := by decide +kernel
theorem dX2_init_7 : decode cX2_init 7 = .ok (.newarray .int, 2) := by decide +kernel
theorem dX2_init_9 : decode cX2_init 9 = .ok (.putfield 9, 3) := by decide +kernel
theorem dX2_init_12 : decode cX2_init 12 = .ok (.return_, 1) := by decide +kernel
def cw_X2 (G : uG) (u : Nat → Nat) : va_W := [(u 0, .inr (2, [.ref (u 1), .int 0])), (u 1, .inl (G.2.1 0, 16, .inl (fun _ => 0)))]
set_option maxRecDepth 100000 in
set_option maxHeartbeats 4000000 in
theorem c_X2_init (l : Launch) (G : uG) : k_M l G yX2_init cX2_init 1 3 1 16 2 [.null, .int 0] (cw_X2 G) := by
  refine k_M_of RX2 (by decide) rfl rfl (by decide) ?_
  intro p e s m args below meth c ls h0 A hAe cx hw hl
  have hx := cx.1.1
  have hb := cx.1.2.1
  refine lv_aload_n hx hb dX2_init_0 rfl (lv_at hl 0 rfl) ?_
  refine k_sup cx.1 hw KI_X2_3 hl.1 (Nat.le_of_ble_eq_true rfl) (Nat.le_of_ble_eq_true rfl) (Nat.le_of_ble_eq_true rfl) (Nat.le_of_ble_eq_true rfl) (Nat.le_of_ble_eq_true rfl) dX2_init_1 (fun H locs hw => ?_)
  refine lv_aload_n hx hb dX2_init_4 rfl (lv_at hl 0 rfl) ?_
  refine lv_bipush (v := 16) hx hb dX2_init_5 (by decide) ?_
  refine k_arr cx.1 hw (t := 0) (ty := .int) (a0 := (16, .inl (fun _ => 0))) rfl (by intro C h; cases h) rfl q_44 (fun _ => rfl) (by decide) (by decide) (Nat.le_of_ble_eq_true rfl) (Nat.le_of_ble_eq_true rfl) (Nat.le_of_ble_eq_true rfl) dX2_init_7 (fun q1 H hw => ?_)
  have hw : k_W G A [(h0, .inr (2, [.null, .int 0])), (q1, .inl (G.2.1 0, 16, .inl (fun _ => 0)))] s _ _ := hw
  refine k_putF cx.1 cx.2.1 hw F_X2_9 tyX2_ok nmX2 q_169 0 rfl rfl rfl rfl rfl (Nat.le_of_ble_eq_true rfl) dX2_init_9 (fun H locs hw => ?_)
  have hw : k_W G A [(h0, .inr (2, [.ref q1, .int 0])), (q1, .inl (G.2.1 0, 16, .inl (fun _ => 0)))] s _ _ := hw
  exact k_ret cx.1 hAe hw (fun i => if i = 0 then h0 else q1) rfl [0, 1] (by decide) rfl (Nat.le_of_ble_eq_true rfl) (Nat.le_of_ble_eq_true rfl) dX2_init_12
theorem dX4_init_0 : decode cX4_init 0 = .ok (.aload_n 0, 1) := by decide +kernel
theorem dX4_init_1 : decode cX4_init 1 = .ok (.invokespecial 3, 3) := by decide +kernel
theorem dX4_init_4 : decode cX4_init 4 = .ok (.aload_n 0, 1) := by decide +kernel
theorem dX4_init_5 : decode cX4_init 5 = .ok (.bipush 8, 2) := by decide +kernel
theorem dX4_init_7 : decode cX4_init 7 = .ok (.newarray .int, 2) := by decide +kernel
theorem dX4_init_9 : decode cX4_init 9 = .ok (.putfield 9, 3) := by decide +kernel
theorem dX4_init_12 : decode cX4_init 12 = .ok (.aload_n 0, 1) := by decide +kernel
theorem dX4_init_13 : decode cX4_init 13 = .ok (.bipush 8, 2) := by decide +kernel
theorem dX4_init_15 : decode cX4_init 15 = .ok (.newarray .int, 2) := by decide +kernel
theorem dX4_init_17 : decode cX4_init 17 = .ok (.putfield 15, 3) := by decide +kernel
theorem dX4_init_20 : decode cX4_init 20 = .ok (.aload_n 0, 1) := by decide +kernel
theorem dX4_init_21 : decode cX4_init 21 = .ok (.bipush 8, 2) := by decide +kernel
theorem dX4_init_23 : decode cX4_init 23 = .ok (.newarray .int, 2) := by decide +kernel
theorem dX4_init_25 : decode cX4_init 25 = .ok (.putfield 18, 3) := by decide +kernel
theorem dX4_init_28 : decode cX4_init 28 = .ok (.return_, 1) := by decide +kernel
def cw_X4 (G : uG) (u : Nat → Nat) : va_W := [(u 0, .inr (4, [.ref (u 1), .ref (u 2), .ref (u 3), .int 0, .int 0, .int 0])), (u 1, .inl (G.2.1 0, 8, .inl (fun _ => 0))), (u 2, .inl (G.2.1 0, 8, .inl (fun _ => 0))), (u 3, .inl (G.2.1 0, 8, .inl (fun _ => 0)))]
set_option maxRecDepth 100000 in
set_option maxHeartbeats 4000000 in
theorem c_X4_init (l : Launch) (G : uG) : k_M l G yX4_init cX4_init 1 3 3 24 4 [.null, .null, .null, .int 0, .int 0, .int 0] (cw_X4 G) := by
  refine k_M_of RX4 (by decide) rfl rfl (by decide) ?_
  intro p e s m args below meth c ls h0 A hAe cx hw hl
  have hx := cx.1.1
  have hb := cx.1.2.1
  refine lv_aload_n hx hb dX4_init_0 rfl (lv_at hl 0 rfl) ?_
  refine k_sup cx.1 hw KI_X4_3 hl.1 (Nat.le_of_ble_eq_true rfl) (Nat.le_of_ble_eq_true rfl) (Nat.le_of_ble_eq_true rfl) (Nat.le_of_ble_eq_true rfl) (Nat.le_of_ble_eq_true rfl) dX4_init_1 (fun H locs hw => ?_)
  refine lv_aload_n hx hb dX4_init_4 rfl (lv_at hl 0 rfl) ?_
  refine lv_bipush (v := 8) hx hb dX4_init_5 (by decide) ?_
  refine k_arr cx.1 hw (t := 0) (ty := .int) (a0 := (8, .inl (fun _ => 0))) rfl (by intro C h; cases h) rfl q_44 (fun _ => rfl) (by decide) (by decide) (Nat.le_of_ble_eq_true rfl) (Nat.le_of_ble_eq_true rfl) (Nat.le_of_ble_eq_true rfl) dX4_init_7 (fun q1 H hw => ?_)
  have hw : k_W G A [(h0, .inr (4, [.null, .null, .null, .int 0, .int 0, .int 0])), (q1, .inl (G.2.1 0, 8, .inl (fun _ => 0)))] s _ _ := hw
  refine k_putF cx.1 cx.2.1 hw F_X4_9 tyX4_ok nmX4 q_184 0 rfl rfl rfl rfl rfl (Nat.le_of_ble_eq_true rfl) dX4_init_9 (fun H locs hw => ?_)
  have hw : k_W G A [(h0, .inr (4, [.ref q1, .null, .null, .int 0, .int 0, .int 0])), (q1, .inl (G.2.1 0, 8, .inl (fun _ => 0)))] s _ _ := hw
  refine lv_aload_n hx hb dX4_init_12 rfl (lv_at hl 0 rfl) ?_
  refine lv_bipush (v := 8) hx hb dX4_init_13 (by decide) ?_
  refine k_arr cx.1 hw (t := 0) (ty := .int) (a0 := (8, .inl (fun _ => 0))) rfl (by intro C h; cases h) rfl q_44 (fun _ => rfl) (by decide) (by decide) (Nat.le_of_ble_eq_true rfl) (Nat.le_of_ble_eq_true rfl) (Nat.le_of_ble_eq_true rfl) dX4_init_15 (fun q2 H hw => ?_)
  have hw : k_W G A [(h0, .inr (4, [.ref q1, .null, .null, .int 0, .int 0, .int 0])), (q1, .inl (G.2.1 0, 8, .inl (fun _ => 0))), (q2, .inl (G.2.1 0, 8, .inl (fun _ => 0)))] s _ _ := hw
  refine k_putF cx.1 cx.2.1 hw F_X4_15 tyX4_ok nmX4 q_186 0 rfl rfl rfl rfl rfl (Nat.le_of_ble_eq_true rfl) dX4_init_17 (fun H locs hw => ?_)
  have hw : k_W G A [(h0, .inr (4, [.ref q1, .ref q2, .null, .int 0, .int 0, .int 0])), (q1, .inl (G.2.1 0, 8, .inl (fun _ => 0))), (q2, .inl (G.2.1 0, 8, .inl (fun _ => 0)))] s _ _ := hw
  refine lv_aload_n hx hb dX4_init_20 rfl (lv_at hl 0 rfl) ?_
  refine lv_bipush (v := 8) hx hb dX4_init_21 (by decide) ?_
  refine k_arr cx.1 hw (t := 0) (ty := .int) (a0 := (8, .inl (fun _ => 0))) rfl (by intro C h; cases h) rfl q_44 (fun _ => rfl) (by decide) (by decide) (Nat.le_of_ble_eq_true rfl) (Nat.le_of_ble_eq_true rfl) (Nat.le_of_ble_eq_true rfl) dX4_init_23 (fun q3 H hw => ?_)
  have hw : k_W G A [(h0, .inr (4, [.ref q1, .ref q2, .null, .int 0, .int 0, .int 0])), (q1, .inl (G.2.1 0, 8, .inl (fun _ => 0))), (q2, .inl (G.2.1 0, 8, .inl (fun _ => 0))), (q3, .inl (G.2.1 0, 8, .inl (fun _ => 0)))] s _ _ := hw
  refine k_putF cx.1 cx.2.1 hw F_X4_18 tyX4_ok nmX4 q_188 0 rfl rfl rfl rfl rfl (Nat.le_of_ble_eq_true rfl) dX4_init_25 (fun H locs hw => ?_)
  have hw : k_W G A [(h0, .inr (4, [.ref q1, .ref q2, .ref q3, .int 0, .int 0, .int 0])), (q1, .inl (G.2.1 0, 8, .inl (fun _ => 0))), (q2, .inl (G.2.1 0, 8, .inl (fun _ => 0))), (q3, .inl (G.2.1 0, 8, .inl (fun _ => 0)))] s _ _ := hw
  exact k_ret cx.1 hAe hw (fun i => if i = 0 then h0 else if i = 1 then q1 else if i = 2 then q2 else q3) rfl [0, 1, 2, 3] (by decide) rfl (Nat.le_of_ble_eq_true rfl) (Nat.le_of_ble_eq_true rfl) dX4_init_28
theorem dX9_init_0 : decode cX9_init 0 = .ok (.aload_n 0, 1) := by decide +kernel
theorem dX9_init_1 : decode cX9_init 1 = .ok (.invokespecial 3, 3) := by decide +kernel
theorem dX9_init_4 : decode cX9_init 4 = .ok (.aload_n 0, 1) := by decide +kernel
theorem dX9_init_5 : decode cX9_init 5 = .ok (.bipush 60, 2) := by decide +kernel
theorem dX9_init_7 : decode cX9_init 7 = .ok (.newarray .int, 2) := by decide +kernel
theorem dX9_init_9 : decode cX9_init 9 = .ok (.putfield 9, 3) := by decide +kernel
theorem dX9_init_12 : decode cX9_init 12 = .ok (.aload_n 0, 1) := by decide +kernel
theorem dX9_init_13 : decode cX9_init 13 = .ok (.bipush 60, 2) := by decide +kernel
theorem dX9_init_15 : decode cX9_init 15 = .ok (.newarray .int, 2) := by decide +kernel
theorem dX9_init_17 : decode cX9_init 17 = .ok (.putfield 15, 3) := by decide +kernel
theorem dX9_init_20 : decode cX9_init 20 = .ok (.aload_n 0, 1) := by decide +kernel
theorem dX9_init_21 : decode cX9_init 21 = .ok (.bipush 60, 2) := by decide +kernel
theorem dX9_init_23 : decode cX9_init 23 = .ok (.newarray .int, 2) := by decide +kernel
theorem dX9_init_25 : decode cX9_init 25 = .ok (.putfield 18, 3) := by decide +kernel
theorem dX9_init_28 : decode cX9_init 28 = .ok (.return_, 1) := by decide +kernel
def cw_X9 (G : uG) (u : Nat → Nat) : va_W := [(u 0, .inr (8, [.ref (u 1), .ref (u 2), .ref (u 3), .int 0, .int 0, .int 0])), (u 1, .inl (G.2.1 0, 60, .inl (fun _ => 0))), (u 2, .inl (G.2.1 0, 60, .inl (fun _ => 0))), (u 3, .inl (G.2.1 0, 60, .inl (fun _ => 0)))]
set_option maxRecDepth 100000 in
set_option maxHeartbeats 4000000 in
theorem c_X9_init (l : Launch) (G : uG) : k_M l G yX9_init cX9_init 1 3 3 180 8 [.null, .null, .null, .int 0, .int 0, .int 0] (cw_X9 G) := by
  refine k_M_of RX9 (by decide) rfl rfl (by decide) ?_
  intro p e s m args below meth c ls h0 A hAe cx hw hl
  have hx := cx.1.1
  have hb := cx.1.2.1
  refine lv_aload_n hx hb dX9_init_0 rfl (lv_at hl 0 rfl) ?_
  refine k_sup cx.1 hw KI_X9_3 hl.1 (Nat.le_of_ble_eq_true rfl) (Nat.le_of_ble_eq_true rfl) (Nat.le_of_ble_eq_true rfl) (Nat.le_of_ble_eq_true rfl) (Nat.le_of_ble_eq_true rfl) dX9_init_1 (fun H locs hw => ?_)
  refine lv_aload_n hx hb dX9_init_4 rfl (lv_at hl 0 rfl) ?_
  refine lv_bipush (v := 60) hx hb dX9_init_5 (by decide) ?_
  refine k_arr cx.1 hw (t := 0) (ty := .int) (a0 := (60, .inl (fun _ => 0))) rfl (by intro C h; cases h) rfl q_44 (fun _ => rfl) (by decide) (by decide) (Nat.le_of_ble_eq_true rfl) (Nat.le_of_ble_eq_true rfl) (Nat.le_of_ble_eq_true rfl) dX9_init_7 (fun q1 H hw => ?_)
  have hw : k_W G A [(h0, .inr (8, [.null, .null, .null, .int 0, .int 0, .int 0])), (q1, .inl (G.2.1 0, 60, .inl (fun _ => 0)))] s _ _ := hw
  refine k_putF cx.1 cx.2.1 hw F_X9_9 tyX9_ok nmX9 q_214 0 rfl rfl rfl rfl rfl (Nat.le_of_ble_eq_true rfl) dX9_init_9 (fun H locs hw => ?_)
  have hw : k_W G A [(h0, .inr (8, [.ref q1, .null, .null, .int 0, .int 0, .int 0])), (q1, .inl (G.2.1 0, 60, .inl (fun _ => 0)))] s _ _ := hw
  refine lv_aload_n hx hb dX9_init_12 rfl (lv_at hl 0 rfl) ?_
  refine lv_bipush (v := 60) hx hb dX9_init_13 (by decide) ?_
  refine k_arr cx.1 hw (t := 0) (ty := .int) (a0 := (60, .inl (fun _ => 0))) rfl (by intro C h; cases h) rfl q_44 (fun _ => rfl) (by decide) (by decide) (Nat.le_of_ble_eq_true rfl) (Nat.le_of_ble_eq_true rfl) (Nat.le_of_ble_eq_true rfl) dX9_init_15 (fun q2 H hw => ?_)
  have hw : k_W G A [(h0, .inr (8, [.ref q1, .null, .null, .int 0, .int 0, .int 0])), (q1, .inl (G.2.1 0, 60, .inl (fun _ => 0))), (q2, .inl (G.2.1 0, 60, .inl (fun _ => 0)))] s _ _ := hw
  refine k_putF cx.1 cx.2.1 hw F_X9_15 tyX9_ok nmX9 q_216 0 rfl rfl rfl rfl rfl (Nat.le_of_ble_eq_true rfl) dX9_init_17 (fun H locs hw => ?_)
  have hw : k_W G A [(h0, .inr (8, [.ref q1, .ref q2, .null, .int 0, .int 0, .int 0])), (q1, .inl (G.2.1 0, 60, .inl (fun _ => 0))), (q2, .inl (G.2.1 0, 60, .inl (fun _ => 0)))] s _ _ := hw
  refine lv_aload_n hx hb dX9_init_20 rfl (lv_at hl 0 rfl) ?_
  refine lv_bipush (v := 60) hx hb dX9_init_21 (by decide) ?_
  refine k_arr cx.1 hw (t := 0) (ty := .int) (a0 := (60, .inl (fun _ => 0))) rfl (by intro C h; cases h) rfl q_44 (fun _ => rfl) (by decide) (by decide) (Nat.le_of_ble_eq_true rfl) (Nat.le_of_ble_eq_true rfl) (Nat.le_of_ble_eq_true rfl) dX9_init_23 (fun q3 H hw => ?_)
  have hw : k_W G A [(h0, .inr (8, [.ref q1, .ref q2, .null, .int 0, .int 0, .int 0])), (q1, .inl (G.2.1 0, 60, .inl (fun _ => 0))), (q2, .inl (G.2.1 0, 60, .inl (fun _ => 0))), (q3, .inl (G.2.1 0, 60, .inl (fun _ => 0)))] s _ _ := hw
  refine k_putF cx.1 cx.2.1 hw F_X9_18 tyX9_ok nmX9 q_218 0 rfl rfl rfl rfl rfl (Nat.le_of_ble_eq_true rfl) dX9_init_25 (fun H locs hw => ?_)
  have hw : k_W G A [(h0, .inr (8, [.ref q1, .ref q2, .ref q3, .int 0, .int 0, .int 0])), (q1, .inl (G.2.1 0, 60, .inl (fun _ => 0))), (q2, .inl (G.2.1 0, 60, .inl (fun _ => 0))), (q3, .inl (G.2.1 0, 60, .inl (fun _ => 0)))] s _ _ := hw
  exact k_ret cx.1 hAe hw (fun i => if i = 0 then h0 else if i = 1 then q1 else if i = 2 then q2 else q3) rfl [0, 1, 2, 3] (by decide) rfl (Nat.le_of_ble_eq_true rfl) (Nat.le_of_ble_eq_true rfl) dX9_init_28
theorem dX6_init_0 : decode cX6_init 0 = .ok (.aload_n 0, 1) := by decide +kernel
theorem dX6_init_1 : decode cX6_init 1 = .ok (.invokespecial 3, 3) := by decide +kernel
theorem dX6_init_4 : decode cX6_init 4 = .ok (.aload_n 0, 1) := by decide +kernel
theorem dX6_init_5 : decode cX6_init 5 = .ok (.bipush 40, 2) := by decide +kernel
theorem dX6_init_7 : decode cX6_init 7 = .ok (.newarray .int, 2) := by decide +kernel
theorem dX6_init_9 : decode cX6_init 9 = .ok (.putfield 9, 3) := by decide +kernel
theorem dX6_init_12 : decode cX6_init 12 = .ok (.aload_n 0, 1) := by decide +kernel
theorem dX6_init_13 : decode cX6_init 13 = .ok (.bipush 40, 2) := by decide +kernel
theorem dX6_init_15 : decode cX6_init 15 = .ok (.newarray .int, 2) := by decide +kernel
theorem dX6_init_17 : decode cX6_init 17 = .ok (.putfield 15, 3) := by decide +kernel
theorem dX6_init_20 : decode cX6_init 20 = .ok (.aload_n 0, 1) := by decide +kernel
theorem dX6_init_21 : decode cX6_init 21 = .ok (.bipush 41, 2) := by decide +kernel
theorem dX6_init_23 : decode cX6_init 23 = .ok (.newarray .int, 2) := by decide +kernel
theorem dX6_init_25 : decode cX6_init 25 = .ok (.putfield 18, 3) := by decide +kernel
theorem dX6_init_28 : decode cX6_init 28 = .ok (.aload_n 0, 1) := by decide +kernel
theorem dX6_init_29 : decode cX6_init 29 = .ok (.bipush 7, 2) := by decide +kernel
theorem dX6_init_31 : decode cX6_init 31 = .ok (.newarray .int, 2) := by decide +kernel
theorem dX6_init_33 : decode cX6_init 33 = .ok (.putfield 21, 3) := by decide +kernel
theorem dX6_init_36 : decode cX6_init 36 = .ok (.return_, 1) := by decide +kernel
def cw_X6 (G : uG) (u : Nat → Nat) : va_W := [(u 0, .inr (5, [.ref (u 1), .ref (u 2), .ref (u 3), .ref (u 4), .int 0, .int 0, .int 0, .int 0, .int 0, .int 0, .int 0])), (u 1, .inl (G.2.1 0, 40, .inl (fun _ => 0))), (u 2, .inl (G.2.1 0, 40, .inl (fun _ => 0))), (u 3, .inl (G.2.1 0, 41, .inl (fun _ => 0))), (u 4, .inl (G.2.1 0, 7, .inl (fun _ => 0)))]
set_option maxRecDepth 100000 in
set_option maxHeartbeats 4000000 in
theorem c_X6_init (l : Launch) (G : uG) : k_M l G yX6_init cX6_init 1 3 4 128 5 [.null, .null, .null, .null, .int 0, .int 0, .int 0, .int 0, .int 0, .int 0, .int 0] (cw_X6 G) := by
  refine k_M_of RX6 (by decide) rfl rfl (by decide) ?_
  intro p e s m args below meth c ls h0 A hAe cx hw hl
  have hx := cx.1.1
  have hb := cx.1.2.1
  refine lv_aload_n hx hb dX6_init_0 rfl (lv_at hl 0 rfl) ?_
  refine k_sup cx.1 hw KI_X6_3 hl.1 (Nat.le_of_ble_eq_true rfl) (Nat.le_of_ble_eq_true rfl) (Nat.le_of_ble_eq_true rfl) (Nat.le_of_ble_eq_true rfl) (Nat.le_of_ble_eq_true rfl) dX6_init_1 (fun H locs hw => ?_)
  refine lv_aload_n hx hb dX6_init_4 rfl (lv_at hl 0 rfl) ?_
  refine lv_bipush (v := 40) hx hb dX6_init_5 (by decide) ?_
  refine k_arr cx.1 hw (t := 0) (ty := .int) (a0 := (40, .inl (fun _ => 0))) rfl (by intro C h; cases h) rfl q_44 (fun _ => rfl) (by decide) (by decide) (Nat.le_of_ble_eq_true rfl) (Nat.le_of_ble_eq_true rfl) (Nat.le_of_ble_eq_true rfl) dX6_init_7 (fun q1 H hw => ?_)
  have hw : k_W G A [(h0, .inr (5, [.null, .null, .null, .null, .int 0, .int 0, .int 0, .int 0, .int 0, .int 0, .int 0])), (q1, .inl (G.2.1 0, 40, .inl (fun _ => 0)))] s _ _ := hw
  refine k_putF cx.1 cx.2.1 hw F_X6_9 tyX6_ok nmX6 q_254 0 rfl rfl rfl rfl rfl (Nat.le_of_ble_eq_true rfl) dX6_init_9 (fun H locs hw => ?_)
  have hw : k_W G A [(h0, .inr (5, [.ref q1, .null, .null, .null, .int 0, .int 0, .int 0, .int 0, .int 0, .int 0, .int 0])), (q1, .inl (G.2.1 0, 40, .inl (fun _ => 0)))] s _ _ := hw
  refine lv_aload_n hx hb dX6_init_12 rfl (lv_at hl 0 rfl) ?_
  refine lv_bipush (v := 40) hx hb dX6_init_13 (by decide) ?_
  refine k_arr cx.1 hw (t := 0) (ty := .int) (a0 := (40, .inl (fun _ => 0))) rfl (by intro C h; cases h) rfl q_44 (fun _ => rfl) (by decide) (by decide) (Nat.le_of_ble_eq_true rfl) (Nat.le_of_ble_eq_true rfl) (Nat.le_of_ble_eq_true rfl) dX6_init_15 (fun q2 H hw => ?_)
  have hw : k_W G A [(h0, .inr (5, [.ref q1, .null, .null, .null, .int 0, .int 0, .int 0, .int 0, .int 0, .int 0, .int 0])), (q1, .inl (G.2.1 0, 40, .inl (fun _ => 0))), (q2, .inl (G.2.1 0, 40, .inl (fun _ => 0)))] s _ _ := hw
  refine k_putF cx.1 cx.2.1 hw F_X6_15 tyX6_ok nmX6 q_255 0 rfl rfl rfl rfl rfl (Nat.le_of_ble_eq_true rfl) dX6_init_17 (fun H locs hw => ?_)
  have hw : k_W G A [(h0, .inr (5, [.ref q1, .ref q2, .null, .null, .int 0, .int 0, .int 0, .int 0, .int 0, .int 0, .int 0])), (q1, .inl (G.2.1 0, 40, .inl (fun _ => 0))), (q2, .inl (G.2.1 0, 40, .inl (fun _ => 0)))] s _ _ := hw
  refine lv_aload_n hx hb dX6_init_20 rfl (lv_at hl 0 rfl) ?_
  refine lv_bipush (v := 41) hx hb dX6_init_21 (by decide) ?_
  refine k_arr cx.1 hw (t := 0) (ty := .int) (a0 := (41, .inl (fun _ => 0))) rfl (by intro C h; cases h) rfl q_44 (fun _ => rfl) (by decide) (by decide) (Nat.le_of_ble_eq_true rfl) (Nat.le_of_ble_eq_true rfl) (Nat.le_of_ble_eq_true rfl) dX6_init_23 (fun q3 H hw => ?_)
  have hw : k_W G A [(h0, .inr (5, [.ref q1, .ref q2, .null, .null, .int 0, .int 0, .int 0, .int 0, .int 0, .int 0, .int 0])), (q1, .inl (G.2.1 0, 40, .inl (fun _ => 0))), (q2, .inl (G.2.1 0, 40, .inl (fun _ => 0))), (q3, .inl (G.2.1 0, 41, .inl (fun _ => 0)))] s _ _ := hw
  refine k_putF cx.1 cx.2.1 hw F_X6_18 tyX6_ok nmX6 q_256 0 rfl rfl rfl rfl rfl (Nat.le_of_ble_eq_true rfl) dX6_init_25 (fun H locs hw => ?_)
  have hw : k_W G A [(h0, .inr (5, [.ref q1, .ref q2, .ref q3, .null, .int 0, .int 0, .int 0, .int 0, .int 0, .int 0, .int 0])), (q1, .inl (G.2.1 0, 40, .inl (fun _ => 0))), (q2, .inl (G.2.1 0, 40, .inl (fun _ => 0))), (q3, .inl (G.2.1 0, 41, .inl (fun _ => 0)))] s _ _ := hw
  refine lv_aload_n hx hb dX6_init_28 rfl (lv_at hl 0 rfl) ?_
  refine lv_bipush (v := 7) hx hb dX6_init_29 (by decide) ?_
  refine k_arr cx.1 hw (t := 0) (ty := .int) (a0 := (7, .inl (fun _ => 0))) rfl (by intro C h; cases h) rfl q_44 (fun _ => rfl) (by decide) (by decide) (Nat.le_of_ble_eq_true rfl) (Nat.le_of_ble_eq_true rfl) (Nat.le_of_ble_eq_true rfl) dX6_init_31 (fun q4 H hw => ?_)
  have hw : k_W G A [(h0, .inr (5, [.ref q1, .ref q2, .ref q3, .null, .int 0, .int 0, .int 0, .int 0, .int 0, .int 0, .int 0])), (q1, .inl (G.2.1 0, 40, .inl (fun _ => 0))), (q2, .inl (G.2.1 0, 40, .inl (fun _ => 0))), (q3, .inl (G.2.1 0, 41, .inl (fun _ => 0))), (q4, .inl (G.2.1 0, 7, .inl (fun _ => 0)))] s _ _ := hw
  refine k_putF cx.1 cx.2.1 hw F_X6_21 tyX6_ok nmX6 q_257 0 rfl rfl rfl rfl rfl (Nat.le_of_ble_eq_true rfl) dX6_init_33 (fun H locs hw => ?_)
  have hw : k_W G A [(h0, .inr (5, [.ref q1, .ref q2, .ref q3, .ref q4, .int 0, .int 0, .int 0, .int 0, .int 0, .int 0, .int 0])), (q1, .inl (G.2.1 0, 40, .inl (fun _ => 0))), (q2, .inl (G.2.1 0, 40, .inl (fun _ => 0))), (q3, .inl (G.2.1 0, 41, .inl (fun _ => 0))), (q4, .inl (G.2.1 0, 7, .inl (fun _ => 0)))] s _ _ := hw
  exact k_ret cx.1 hAe hw (fun i => if i = 0 then h0 else if i = 1 then q1 else if i = 2 then q2 else if i = 3 then q3 else q4) rfl [0, 1, 2, 3, 4] (by decide) rfl (Nat.le_of_ble_eq_true rfl) (Nat.le_of_ble_eq_true rfl) dX6_init_36
theorem dX7_init_0 : decode cX7_init 0 = .ok (.aload_n 0, 1) := by decide +kernel
theorem dX7_init_1 : decode cX7_init 1 = .ok (.invokespecial 3, 3) := by decide +kernel
theorem dX7_init_4 : decode cX7_init 4 = .ok (.aload_n 0, 1) := by decide +kernel
theorem dX7_init_5 : decode cX7_init 5 = .ok (.bipush 16, 2) := by decide +kernel
theorem dX7_init_7 : decode cX7_init 7 = .ok (.newarray .int, 2) := by decide +kernel
theorem dX7_init_9 : decode cX7_init 9 = .ok (.putfield 9, 3) := by decide +kernel
theorem dX7_init_12 : decode cX7_init 12 = .ok (.aload_n 0, 1) := by decide +kernel
theorem dX7_init_13 : decode cX7_init 13 = .ok (.bipush 8, 2) := by decide +kernel
theorem dX7_init_15 : decode cX7_init 15 = .ok (.newarray .int, 2) := by decide +kernel
theorem dX7_init_17 : decode cX7_init 17 = .ok (.putfield 15, 3) := by decide +kernel
theorem dX7_init_20 : decode cX7_init 20 = .ok (.aload_n 0, 1) := by decide +kernel
theorem dX7_init_21 : decode cX7_init 21 = .ok (.bipush 8, 2) := by decide +kernel
theorem dX7_init_23 : decode cX7_init 23 = .ok (.newarray .int, 2) := by decide +kernel
theorem dX7_init_25 : decode cX7_init 25 = .ok (.putfield 18, 3) := by decide +kernel
theorem dX7_init_28 : decode cX7_init 28 = .ok (.aload_n 0, 1) := by decide +kernel
theorem dX7_init_29 : decode cX7_init 29 = .ok (.bipush 8, 2) := by decide +kernel
theorem dX7_init_31 : decode cX7_init 31 = .ok (.newarray .int, 2) := by decide +kernel
theorem dX7_init_33 : decode cX7_init 33 = .ok (.putfield 21, 3) := by decide +kernel
theorem dX7_init_36 : decode cX7_init 36 = .ok (.aload_n 0, 1) := by decide +kernel
theorem dX7_init_37 : decode cX7_init 37 = .ok (.bipush 8, 2) := by decide +kernel
theorem dX7_init_39 : decode cX7_init 39 = .ok (.newarray .int, 2) := by decide +kernel
theorem dX7_init_41 : decode cX7_init 41 = .ok (.putfield 24, 3) := by decide +kernel
theorem dX7_init_44 : decode cX7_init 44 = .ok (.aload_n 0, 1) := by decide +kernel
theorem dX7_init_45 : decode cX7_init 45 = .ok (.iconst 1, 1) := by decide +kernel
theorem dX7_init_46 : decode cX7_init 46 = .ok (.putfield 27, 3) := by decide +kernel
theorem dX7_init_49 : decode cX7_init 49 = .ok (.return_, 1) := by decide +kernel
def cw_X7 (G : uG) (u : Nat → Nat) : va_W := [(u 0, .inr (6, [.ref (u 1), .ref (u 2), .ref (u 3), .ref (u 4), .ref (u 5), .int 1, .int 0, .int 0, .int 0, .int 0, .int 0, .int 0])), (u 1, .inl (G.2.1 0, 16, .inl (fun _ => 0))), (u 2, .inl (G.2.1 0, 8, .inl (fun _ => 0))), (u 3, .inl (G.2.1 0, 8, .inl (fun _ => 0))), (u 4, .inl (G.2.1 0, 8, .inl (fun _ => 0))), (u 5, .inl (G.2.1 0, 8, .inl (fun _ => 0)))]
set_option maxRecDepth 100000 in
set_option maxHeartbeats 4000000 in
theorem c_X7_init (l : Launch) (G : uG) : k_M l G yX7_init cX7_init 1 2 5 48 6 [.null, .null, .null, .null, .null, .int 0, .int 0, .int 0, .int 0, .int 0, .int 0, .int 0] (cw_X7 G) := by
  refine k_M_of RX7 (by decide) rfl rfl (by decide) ?_
  intro p e s m args below meth c ls h0 A hAe cx hw hl
  have hx := cx.1.1
  have hb := cx.1.2.1
  refine lv_aload_n hx hb dX7_init_0 rfl (lv_at hl 0 rfl) ?_
  refine k_obj cx.1 q_65 hl.1 (Nat.le_of_ble_eq_true rfl) (Nat.le_of_ble_eq_true rfl) (Nat.le_of_ble_eq_true rfl) dX7_init_1 ?_
  refine lv_aload_n hx hb dX7_init_4 rfl (lv_at hl 0 rfl) ?_
  refine lv_bipush (v := 16) hx hb dX7_init_5 (by decide) ?_
  refine k_arr cx.1 hw (t := 0) (ty := .int) (a0 := (16, .inl (fun _ => 0))) rfl (by intro C h; cases h) rfl q_44 (fun _ => rfl) (by decide) (by decide) (Nat.le_of_ble_eq_true rfl) (Nat.le_of_ble_eq_true rfl) (Nat.le_of_ble_eq_true rfl) dX7_init_7 (fun q1 H hw => ?_)
  have hw : k_W G A [(h0, .inr (6, [.null, .null, .null, .null, .null, .int 0, .int 0, .int 0, .int 0, .int 0, .int 0, .int 0])), (q1, .inl (G.2.1 0, 16, .inl (fun _ => 0)))] s _ _ := hw
  refine k_putF cx.1 cx.2.1 hw F_X7_9 tyX7_ok nmX7 q_66 0 rfl rfl rfl rfl rfl (Nat.le_of_ble_eq_true rfl) dX7_init_9 (fun H locs hw => ?_)
  have hw : k_W G A [(h0, .inr (6, [.ref q1, .null, .null, .null, .null, .int 0, .int 0, .int 0, .int 0, .int 0, .int 0, .int 0])), (q1, .inl (G.2.1 0, 16, .inl (fun _ => 0)))] s _ _ := hw
  refine lv_aload_n hx hb dX7_init_12 rfl (lv_at hl 0 rfl) ?_
  refine lv_bipush (v := 8) hx hb dX7_init_13 (by decide) ?_
  refine k_arr cx.1 hw (t := 0) (ty := .int) (a0 := (8, .inl (fun _ => 0))) rfl (by intro C h; cases h) rfl q_44 (fun _ => rfl) (by decide) (by decide) (Nat.le_of_ble_eq_true rfl) (Nat.le_of_ble_eq_true rfl) (Nat.le_of_ble_eq_true rfl) dX7_init_15 (fun q2 H hw => ?_)
  have hw : k_W G A [(h0, .inr (6, [.ref q1, .null, .null, .null, .null, .int 0, .int 0, .int 0, .int 0, .int 0, .int 0, .int 0])), (q1, .inl (G.2.1 0, 16, .inl (fun _ => 0))), (q2, .inl (G.2.1 0, 8, .inl (fun _ => 0)))] s _ _ := hw
  refine k_putF cx.1 cx.2.1 hw F_X7_15 tyX7_ok nmX7 q_68 0 rfl rfl rfl rfl rfl (Nat.le_of_ble_eq_true rfl) dX7_init_17 (fun H locs hw => ?_)
  have hw : k_W G A [(h0, .inr (6, [.ref q1, .ref q2, .null, .null, .null, .int 0, .int 0, .int 0, .int 0, .int 0, .int 0, .int 0])), (q1, .inl (G.2.1 0, 16, .inl (fun _ => 0))), (q2, .inl (G.2.1 0, 8, .inl (fun _ => 0)))] s _ _ := hw
  refine lv_aload_n hx hb dX7_init_20 rfl (lv_at hl 0 rfl) ?_
  refine lv_bipush (v := 8) hx hb dX7_init_21 (by decide) ?_
  refine k_arr cx.1 hw (t := 0) (ty := .int) (a0 := (8, .inl (fun _ => 0))) rfl (by intro C h; cases h) rfl q_44 (fun _ => rfl) (by decide) (by decide) (Nat.le_of_ble_eq_true rfl) (Nat.le_of_ble_eq_true rfl) (Nat.le_of_ble_eq_true rfl) dX7_init_23 (fun q3 H hw => ?_)
  have hw : k_W G A [(h0, .inr (6, [.ref q1, .ref q2, .null, .null, .null, .int 0, .int 0, .int 0, .int 0, .int 0, .int 0, .int 0])), (q1, .inl (G.2.1 0, 16, .inl (fun _ => 0))), (q2, .inl (G.2.1 0, 8, .inl (fun _ => 0))), (q3, .inl (G.2.1 0, 8, .inl (fun _ => 0)))] s _ _ := hw
  refine k_putF cx.1 cx.2.1 hw F_X7_18 tyX7_ok nmX7 q_71 0 rfl rfl rfl rfl rfl (Nat.le_of_ble_eq_true rfl) dX7_init_25 (fun H locs hw => ?_)
  have hw : k_W G A [(h0, .inr (6, [.ref q1, .ref q2, .ref q3, .null, .null, .int 0, .int 0, .int 0, .int 0, .int 0, .int 0, .int 0])), (q1, .inl (G.2.1 0, 16, .inl (fun _ => 0))), (q2, .inl (G.2.1 0, 8, .inl (fun _ => 0))), (q3, .inl (G.2.1 0, 8, .inl (fun _ => 0)))] s _ _ := hw
  refine lv_aload_n hx hb dX7_init_28 rfl (lv_at hl 0 rfl) ?_
  refine lv_bipush (v := 8) hx hb dX7_init_29 (by decide) ?_
  refine k_arr cx.1 hw (t := 0) (ty := .int) (a0 := (8, .inl (fun _ => 0))) rfl (by intro C h; cases h) rfl q_44 (fun _ => rfl) (by decide) (by decide) (Nat.le_of_ble_eq_true rfl) (Nat.le_of_ble_eq_true rfl) (Nat.le_of_ble_eq_true rfl) dX7_init_31 (fun q4 H hw => ?_)
  have hw : k_W G A [(h0, .inr (6, [.ref q1, .ref q2, .ref q3, .null, .null, .int 0, .int 0, .int 0, .int 0, .int 0, .int 0, .int 0])), (q1, .inl (G.2.1 0, 16, .inl (fun _ => 0))), (q2, .inl (G.2.1 0, 8, .inl (fun _ => 0))), (q3, .inl (G.2.1 0, 8, .inl (fun _ => 0))), (q4, .inl (G.2.1 0, 8, .inl (fun _ => 0)))] s _ _ := hw
  refine k_putF cx.1 cx.2.1 hw F_X7_21 tyX7_ok nmX7 q_72 0 rfl rfl rfl rfl rfl (Nat.le_of_ble_eq_true rfl) dX7_init_33 (fun H locs hw => ?_)
  have hw : k_W G A [(h0, .inr (6, [.ref q1, .ref q2, .ref q3, .ref q4, .null, .int 0, .int 0, .int 0, .int 0, .int 0, .int 0, .int 0])), (q1, .inl (G.2.1 0, 16, .inl (fun _ => 0))), (q2, .inl (G.2.1 0, 8, .inl (fun _ => 0))), (q3, .inl (G.2.1 0, 8, .inl (fun _ => 0))), (q4, .inl (G.2.1 0, 8, .inl (fun _ => 0)))] s _ _ := hw
  refine lv_aload_n hx hb dX7_init_36 rfl (lv_at hl 0 rfl) ?_
  refine lv_bipush (v := 8) hx hb dX7_init_37 (by decide) ?_
  refine k_arr cx.1 hw (t := 0) (ty := .int) (a0 := (8, .inl (fun _ => 0))) rfl (by intro C h; cases h) rfl q_44 (fun _ => rfl) (by decide) (by decide) (Nat.le_of_ble_eq_true rfl) (Nat.le_of_ble_eq_true rfl) (Nat.le_of_ble_eq_true rfl) dX7_init_39 (fun q5 H hw => ?_)
  have hw : k_W G A [(h0, .inr (6, [.ref q1, .ref q2, .ref q3, .ref q4, .null, .int 0, .int 0, .int 0, .int 0, .int 0, .int 0, .int 0])), (q1, .inl (G.2.1 0, 16, .inl (fun _ => 0))), (q2, .inl (G.2.1 0, 8, .inl (fun _ => 0))), (q3, .inl (G.2.1 0, 8, .inl (fun _ => 0))), (q4, .inl (G.2.1 0, 8, .inl (fun _ => 0))), (q5, .inl (G.2.1 0, 8, .inl (fun _ => 0)))] s _ _ := hw
  refine k_putF cx.1 cx.2.1 hw F_X7_24 tyX7_ok nmX7 q_75 0 rfl rfl rfl rfl rfl (Nat.le_of_ble_eq_true rfl) dX7_init_41 (fun H locs hw => ?_)
  have hw : k_W G A [(h0, .inr (6, [.ref q1, .ref q2, .ref q3, .ref q4, .ref q5, .int 0, .int 0, .int 0, .int 0, .int 0, .int 0, .int 0])), (q1, .inl (G.2.1 0, 16, .inl (fun _ => 0))), (q2, .inl (G.2.1 0, 8, .inl (fun _ => 0))), (q3, .inl (G.2.1 0, 8, .inl (fun _ => 0))), (q4, .inl (G.2.1 0, 8, .inl (fun _ => 0))), (q5, .inl (G.2.1 0, 8, .inl (fun _ => 0)))] s _ _ := hw
  refine lv_aload_n hx hb dX7_init_44 rfl (lv_at hl 0 rfl) ?_
  refine lv_iconst (v := 1) hx hb dX7_init_45 (by decide) ?_
  refine k_put cx.1 hw F_X7_27 tyX7_ok nmX7 q_78 0 rfl rfl rfl rfl (Nat.le_of_ble_eq_true rfl) dX7_init_46 (fun H locs hw => ?_)
  have hw : k_W G A [(h0, .inr (6, [.ref q1, .ref q2, .ref q3, .ref q4, .ref q5, .int 1, .int 0, .int 0, .int 0, .int 0, .int 0, .int 0])), (q1, .inl (G.2.1 0, 16, .inl (fun _ => 0))), (q2, .inl (G.2.1 0, 8, .inl (fun _ => 0))), (q3, .inl (G.2.1 0, 8, .inl (fun _ => 0))), (q4, .inl (G.2.1 0, 8, .inl (fun _ => 0))), (q5, .inl (G.2.1 0, 8, .inl (fun _ => 0)))] s _ _ := hw
  exact k_ret cx.1 hAe hw (fun i => if i = 0 then h0 else if i = 1 then q1 else if i = 2 then q2 else if i = 3 then q3 else if i = 4 then q4 else q5) rfl [0, 1, 2, 3, 4, 5] (by decide) rfl (Nat.le_of_ble_eq_true rfl) (Nat.le_of_ble_eq_true rfl) dX7_init_49
