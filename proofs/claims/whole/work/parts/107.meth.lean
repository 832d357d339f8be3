theorem dX7_arePeople_0 : decode cX7_arePeople 0 = .ok (.iload_n 1, 1) := by decide +kernel
theorem dX7_arePeople_1 : decode cX7_arePeople 1 = .ok (.aload_n 0, 1) := by decide +kernel
theorem dX7_arePeople_2 : decode cX7_arePeople 2 = .ok (.invokevirtual 78, 3) := by decide +kernel
theorem dX7_arePeople_5 : decode cX7_arePeople 5 = .ok (.iconst (-1), 1) := by decide +kernel
theorem dX7_arePeople_6 : decode cX7_arePeople 6 = .ok (.ixor, 1) := by decide +kernel
theorem dX7_arePeople_7 : decode cX7_arePeople 7 = .ok (.iand, 1) := by decide +kernel
theorem dX7_arePeople_8 : decode cX7_arePeople 8 = .ok (.ifCond .ne 7, 3) := by decide +kernel
theorem dX7_arePeople_11 : decode cX7_arePeople 11 = .ok (.iconst 1, 1) := by decide +kernel
theorem dX7_arePeople_12 : decode cX7_arePeople 12 = .ok (.goto 4, 3) := by decide +kernel
theorem dX7_arePeople_15 : decode cX7_arePeople 15 = .ok (.iconst 0, 1) := by decide +kernel
theorem dX7_arePeople_16 : decode cX7_arePeople 16 = .ok (.ireturn, 1) := by decide +kernel
def f_X7_arePeople (N : Nat) (σ : uS) (i0 : Nat) (p1 : Int32) : Option Int32 := (f_X7_everybody N σ i0).bind fun v1 =>
  if (p1 &&& (v1 ^^^ (-1))) = 0 then (some 1) else (some 0)
set_option maxRecDepth 100000 in
set_option maxHeartbeats 4000000 in
theorem c_X7_arePeople (l : Launch) (G : uG) (N : Nat) (σ : uS) (i0 : Nat) (oi0 : u_o ZC i0 6 12 (k_S i0)) (p1 : Int32) (z : Int32) (hz : f_X7_arePeople N σ i0 p1 = some z) : u_Mi l ZC G yX7_arePeople cX7_arePeople 2 .boolean 1 [.ref (G.2.2 i0), .int p1] σ z σ := by
  refine u_Mi_of RX7 (by decide) rfl (Nat.le_of_ble_eq_true rfl) ?_
  intro p e s m args below meth c ls cx hw hl
  have hx := cx.1
  have hb := cx.2.1
  have hl : lv_has ls 2 [(0, .ref (G.2.2 i0)), (1, .int p1)] := hl
  unfold f_X7_arePeople at hz
  refine lv_iload_n hx hb dX7_arePeople_0 rfl (lv_at hl 1 rfl) ?_
  refine lv_aload_n hx hb dX7_arePeople_1 rfl (lv_at hl 0 rfl) ?_
  obtain ⟨v1, hv1, hz⟩ := u_bind hz
  refine u_callVi (As := []) (rest := [.int p1]) cx hw LV_X7_78 (c_X7_everybody l G N σ i0 oi0 v1 hv1) oi0 rfl (by decide) hl.1 rfl (Nat.le_of_ble_eq_true rfl) dX7_arePeople_2 rfl (fun H locs hw => ?_)
  refine lv_iconst (v := (-1)) hx hb dX7_arePeople_5 (by decide) ?_
  refine lv_ixor hx hb dX7_arePeople_6 ?_
  refine lv_iand hx hb dX7_arePeople_7 ?_
  refine lv_if_ne (tgt := 15) hx hb dX7_arePeople_8 (by decide) (fun hc => ?_) (fun hc => ?_)
  · replace hz := u_iff hz hc
    refine lv_iconst (v := 0) hx hb dX7_arePeople_15 (by decide) ?_
    exact u_zret cx hw (Or.inl rfl) ⟨Option.some.inj hz, rfl⟩ dX7_arePeople_16
  · replace hz := u_ift hz hc
    refine lv_iconst (v := 1) hx hb dX7_arePeople_11 (by decide) ?_
    refine lv_goto (tgt := 16) hx hb dX7_arePeople_12 (by decide) ?_
    exact u_zret cx hw (Or.inr rfl) ⟨Option.some.inj hz, rfl⟩ dX7_arePeople_16
theorem dX7_howManyIn_0 : decode cX7_howManyIn 0 = .ok (.aload_n 0, 1) := by decide +kernel
theorem dX7_howManyIn_1 : decode cX7_howManyIn 1 = .ok (.invokevirtual 86, 3) := by decide +kernel
theorem dX7_howManyIn_4 : decode cX7_howManyIn 4 = .ok (.invokestatic 89, 3) := by decide +kernel
theorem dX7_howManyIn_7 : decode cX7_howManyIn 7 = .ok (.ireturn, 1) := by decide +kernel
def f_X7_howManyIn (N : Nat) (σ : uS) (i0 : Nat) : Option Int32 := (f_X7_inside N σ i0).bind fun v1 =>
  (f_J6_bitCount_0f7a4 N σ v1).bind fun v2 =>
  some v2
set_option maxRecDepth 100000 in
set_option maxHeartbeats 4000000 in
theorem c_X7_howManyIn (l : Launch) (G : uG) (N : Nat) (σ : uS) (i0 : Nat) (oi0 : u_o ZC i0 6 12 (k_S i0)) (z : Int32) (hz : f_X7_howManyIn N σ i0 = some z) : u_Mi l ZC G yX7_howManyIn cX7_howManyIn 1 .int 2 [.ref (G.2.2 i0)] σ z σ := by
  refine u_Mi_of RX7 (by decide) rfl (Nat.le_of_ble_eq_true rfl) ?_
  intro p e s m args below meth c ls cx hw hl
  have hx := cx.1
  have hb := cx.2.1
  have hl : lv_has ls 1 [(0, .ref (G.2.2 i0))] := hl
  unfold f_X7_howManyIn at hz
  refine lv_aload_n hx hb dX7_howManyIn_0 rfl (lv_at hl 0 rfl) ?_
  obtain ⟨v1, hv1, hz⟩ := u_bind hz
  refine u_callVi (As := []) (rest := []) cx hw LV_X7_86 (c_X7_inside l G N σ i0 oi0 v1 hv1) oi0 rfl (by decide) hl.1 rfl (Nat.le_of_ble_eq_true rfl) dX7_howManyIn_1 rfl (fun H locs hw => ?_)
  obtain ⟨v2, hv2, hz⟩ := u_bind hz
  refine u_callSi (As := [.int v1]) (rest := []) cx hw LS_X7_89 (c_J6_bitCount_0f7a4 l G ZC N σ v1 v2 hv2) (by decide) hl.1 rfl (Nat.le_of_ble_eq_true rfl) dX7_howManyIn_4 rfl (fun H locs hw => ?_)
  exact u_iret cx hw ⟨Option.some.inj hz, rfl⟩ dX7_howManyIn_7
theorem dX7_glances_0 : decode cX7_glances 0 = .ok (.iconst 0, 1) := by decide +kernel
theorem dX7_glances_1 : decode cX7_glances 1 = .ok (.istore_n 1, 1) := by decide +kernel
theorem dX7_glances_2 : decode cX7_glances 2 = .ok (.iconst 0, 1) := by decide +kernel
theorem dX7_glances_3 : decode cX7_glances 3 = .ok (.istore_n 2, 1) := by decide +kernel
theorem dX7_glances_4 : decode cX7_glances 4 = .ok (.iload_n 2, 1) := by decide +kernel
theorem dX7_glances_5 : decode cX7_glances 5 = .ok (.aload_n 0, 1) := by decide +kernel
theorem dX7_glances_6 : decode cX7_glances 6 = .ok (.getfield 43, 3) := by decide +kernel
theorem dX7_glances_9 : decode cX7_glances 9 = .ok (.if_icmp .ge 20, 3) := by decide +kernel
theorem dX7_glances_12 : decode cX7_glances 12 = .ok (.iload_n 1, 1) := by decide +kernel
theorem dX7_glances_13 : decode cX7_glances 13 = .ok (.aload_n 0, 1) := by decide +kernel
theorem dX7_glances_14 : decode cX7_glances 14 = .ok (.iload_n 2, 1) := by decide +kernel
theorem dX7_glances_15 : decode cX7_glances 15 = .ok (.invokevirtual 99, 3) := by decide +kernel
theorem dX7_glances_18 : decode cX7_glances 18 = .ok (.invokestatic 89, 3) := by decide +kernel
theorem dX7_glances_21 : decode cX7_glances 21 = .ok (.iadd, 1) := by decide +kernel
theorem dX7_glances_22 : decode cX7_glances 22 = .ok (.istore_n 1, 1) := by decide +kernel
theorem dX7_glances_23 : decode cX7_glances 23 = .ok (.iinc 2 1, 3) := by decide +kernel
theorem dX7_glances_26 : decode cX7_glances 26 = .ok (.goto (-22), 3) := by decide +kernel
theorem dX7_glances_29 : decode cX7_glances 29 = .ok (.iload_n 1, 1) := by decide +kernel
theorem dX7_glances_30 : decode cX7_glances 30 = .ok (.ireturn, 1) := by decide +kernel
def b_X7_glances_4 (N : Nat) (σ : uS) (i0 : Nat) (J29_2 : Int32 → Option Int32) (rec4_5 : Int32 → Int32 → Option Int32) (x3 : Int32) (x4 : Int32) : Option Int32 :=
  if (σ.1 i0 8) ≤ x4 then (J29_2 x3) else ((f_X7_seenBy N σ i0 x4).bind fun v6 =>
  (f_J6_bitCount_0f7a4 N σ v6).bind fun v7 =>
  u_jn ((x3 + v7) : Int32) fun x8 =>
  u_jn (x4 + 1 : Int32) fun x9 =>
  rec4_5 x8 x9)
def f_X7_glances (N : Nat) (σ : uS) (i0 : Nat) : Option Int32 := u_jn (fun (x1 : Int32) => (some x1 : Option Int32)) fun J29_2 =>
  u_lp2 (b_X7_glances_4 N σ i0 J29_2) N 0 0
set_option maxRecDepth 100000 in
set_option maxHeartbeats 4000000 in
theorem c_X7_glances (l : Launch) (G : uG) (N : Nat) (σ : uS) (i0 : Nat) (oi0 : u_o ZC i0 6 12 (k_S i0)) (z : Int32) (hz : f_X7_glances N σ i0 = some z) : u_Mi l ZC G yX7_glances cX7_glances 3 .int 2 [.ref (G.2.2 i0)] σ z σ := by
  refine u_Mi_of RX7 (by decide) rfl (Nat.le_of_ble_eq_true rfl) ?_
  intro p e s m args below meth c ls cx hw hl
  have hx := cx.1
  have hb := cx.2.1
  have hl : lv_has ls 3 [(0, .ref (G.2.2 i0))] := hl
  unfold f_X7_glances at hz
  refine lv_iconst (v := 0) hx hb dX7_glances_0 (by decide) ?_
  refine lv_istore_n (lv' := [(1, .int 0), (0, .ref (G.2.2 i0))]) hx hb dX7_glances_1 rfl hl (by decide) rfl (fun ls hl => ?_)
  refine lv_iconst (v := 0) hx hb dX7_glances_2 (by decide) ?_
  refine lv_istore_n (lv' := [(2, .int 0), (1, .int 0), (0, .ref (G.2.2 i0))]) hx hb dX7_glances_3 rfl hl (by decide) rfl (fun ls hl => ?_)
  obtain ⟨J29_2, eJ29_2, hz⟩ := u_let hz
  have WJ29_2 : ∀ (x1 : Int32) (H : Heap) (locs : List Loc) (ls : Array Slot), J29_2 x1 = some z → u_W ZC G σ s H locs → lv_has ls 3 [(1, .int x1)] → W p l e (u_rm 2) s m args below meth c H locs 0 0 (u_Qi below ZC G s args z σ) (F0 m 29 ls []) := by
    intro x1 H locs ls hz hw hl
    rw [eJ29_2] at hz
    refine lv_iload_n hx hb dX7_glances_29 rfl (lv_at hl 0 rfl) ?_
    exact u_iret cx hw ⟨Option.some.inj hz, rfl⟩ dX7_glances_30
  have WL4_9 : ∀ (k : Nat) (x3 : Int32) (x4 : Int32) (H : Heap) (locs : List Loc) (ls : Array Slot), u_lp2 (b_X7_glances_4 N σ i0 J29_2) k x3 x4 = some z → u_W ZC G σ s H locs → lv_has ls 3 [(0, .ref (G.2.2 i0)), (1, .int x3), (2, .int x4)] → W p l e (u_rm 2) s m args below meth c H locs 0 0 (u_Qi below ZC G s args z σ) (F0 m 4 ls []) := by
    intro k
    induction k with
    | zero =>
      intro x3 x4 H locs ls hz
      exact absurd hz (by intro h9; cases h9)
    | succ k ih4_5 =>
      intro x3 x4 H locs ls hz hw hl
      have hz : (b_X7_glances_4 N σ i0 J29_2) (u_lp2 (b_X7_glances_4 N σ i0 J29_2) k) x3 x4 = some z := hz
      unfold b_X7_glances_4 at hz
      refine lv_iload_n hx hb dX7_glances_4 rfl (lv_at hl 2 rfl) ?_
      refine lv_aload_n hx hb dX7_glances_5 rfl (lv_at hl 0 rfl) ?_
      refine u_geti cx hw F_X7_43 oi0 rfl dX7_glances_6 ?_
      refine lv_icmp_ge (tgt := 29) hx hb dX7_glances_9 (by decide) (fun hc => ?_) (fun hc => ?_)
      · replace hz := u_ift hz hc
        exact WJ29_2 x3 _ _ _ hz hw (lv_sub hl [1] rfl)
      · replace hz := u_iff hz hc
        refine lv_iload_n hx hb dX7_glances_12 rfl (lv_at hl 1 rfl) ?_
        refine lv_aload_n hx hb dX7_glances_13 rfl (lv_at hl 0 rfl) ?_
        refine lv_iload_n hx hb dX7_glances_14 rfl (lv_at hl 2 rfl) ?_
        obtain ⟨v6, hv6, hz⟩ := u_bind hz
        refine u_callVi (As := [.int x4]) (rest := [.int x3]) cx hw LV_X7_99 (c_X7_seenBy l G N σ i0 oi0 x4 v6 hv6) oi0 rfl (by decide) hl.1 rfl (Nat.le_of_ble_eq_true rfl) dX7_glances_15 rfl (fun H locs hw => ?_)
        obtain ⟨v7, hv7, hz⟩ := u_bind hz
        refine u_callSi (As := [.int v6]) (rest := [.int x3]) cx hw LS_X7_89 (c_J6_bitCount_0f7a4 l G ZC N σ v6 v7 hv7) (by decide) hl.1 rfl (Nat.le_of_ble_eq_true rfl) dX7_glances_18 rfl (fun H locs hw => ?_)
        refine lv_iadd hx hb dX7_glances_21 ?_
        obtain ⟨x8, ex8, hz⟩ := u_let hz
        refine u_topi ex8 ?_
        refine lv_istore_n (lv' := [(1, .int x8), (0, .ref (G.2.2 i0)), (2, .int x4)]) hx hb dX7_glances_22 rfl hl (by decide) rfl (fun ls hl => ?_)
        obtain ⟨x9, ex9, hz⟩ := u_let hz
        refine lv_iinc (v := x9) (lv' := [(2, .int x9), (1, .int x8), (0, .ref (G.2.2 i0))]) hx hb dX7_glances_23 hl (k := 2) rfl (by rw [ex9]; rfl) (by decide) rfl (fun ls hl => ?_)
        refine lv_goto (tgt := 4) hx hb dX7_glances_26 (by decide) ?_
        exact ih4_5 x8 x9 _ _ _ hz hw (lv_sub hl [2, 1, 0] rfl)
  exact WL4_9 N 0 0 _ _ _ hz hw (lv_sub hl [2, 1, 0] rfl)
theorem dX7_turnEyes_0 : decode cX7_turnEyes 0 = .ok (.aload_n 0, 1) := by decide +kernel
theorem dX7_turnEyes_1 : decode cX7_turnEyes 1 = .ok (.iload_n 1, 1) := by decide +kernel
theorem dX7_turnEyes_2 : decode cX7_turnEyes 2 = .ok (.invokevirtual 105, 3) := by decide +kernel
theorem dX7_turnEyes_5 : decode cX7_turnEyes 5 = .ok (.ifCond .eq 16, 3) := by decide +kernel
theorem dX7_turnEyes_8 : decode cX7_turnEyes 8 = .ok (.aload_n 0, 1) := by decide +kernel
theorem dX7_turnEyes_9 : decode cX7_turnEyes 9 = .ok (.iload_n 2, 1) := by decide +kernel
theorem dX7_turnEyes_10 : decode cX7_turnEyes 10 = .ok (.invokevirtual 105, 3) := by decide +kernel
theorem dX7_turnEyes_13 : decode cX7_turnEyes 13 = .ok (.ifCond .eq 8, 3) := by decide +kernel
theorem dX7_turnEyes_16 : decode cX7_turnEyes 16 = .ok (.iload_n 1, 1) := by decide +kernel
theorem dX7_turnEyes_17 : decode cX7_turnEyes 17 = .ok (.iload_n 2, 1) := by decide +kernel
theorem dX7_turnEyes_18 : decode cX7_turnEyes 18 = .ok (.if_icmp .ne 5, 3) := by decide +kernel
theorem dX7_turnEyes_21 : decode cX7_turnEyes 21 = .ok (.iconst (-1), 1) := by decide +kernel
theorem dX7_turnEyes_22 : decode cX7_turnEyes 22 = .ok (.ireturn, 1) := by decide +kernel
theorem dX7_turnEyes_23 : decode cX7_turnEyes 23 = .ok (.aload_n 0, 1) := by decide +kernel
theorem dX7_turnEyes_24 : decode cX7_turnEyes 24 = .ok (.getfield 24, 3) := by decide +kernel
theorem dX7_turnEyes_27 : decode cX7_turnEyes 27 = .ok (.iload_n 1, 1) := by decide +kernel
theorem dX7_turnEyes_28 : decode cX7_turnEyes 28 = .ok (.dup2, 1) := by decide +kernel
theorem dX7_turnEyes_29 : decode cX7_turnEyes 29 = .ok (.iaload, 1) := by decide +kernel
theorem dX7_turnEyes_30 : decode cX7_turnEyes 30 = .ok (.iconst 1, 1) := by decide +kernel
theorem dX7_turnEyes_31 : decode cX7_turnEyes 31 = .ok (.iload_n 2, 1) := by decide +kernel
theorem dX7_turnEyes_32 : decode cX7_turnEyes 32 = .ok (.ishl, 1) := by decide +kernel
theorem dX7_turnEyes_33 : decode cX7_turnEyes 33 = .ok (.ixor, 1) := by decide +kernel
theorem dX7_turnEyes_34 : decode cX7_turnEyes 34 = .ok (.iastore, 1) := by decide +kernel
theorem dX7_turnEyes_35 : decode cX7_turnEyes 35 = .ok (.aload_n 0, 1) := by decide +kernel
theorem dX7_turnEyes_36 : decode cX7_turnEyes 36 = .ok (.iload_n 1, 1) := by decide +kernel
theorem dX7_turnEyes_37 : decode cX7_turnEyes 37 = .ok (.invokevirtual 99, 3) := by decide +kernel
theorem dX7_turnEyes_40 : decode cX7_turnEyes 40 = .ok (.invokestatic 89, 3) := by decide +kernel
theorem dX7_turnEyes_43 : decode cX7_turnEyes 43 = .ok (.ireturn, 1) := by decide +kernel
def f_X7_turnEyes (N : Nat) (σ : uS) (i0 : Nat) (p1 : Int32) (p2 : Int32) : Option (Int32 × uS) := (f_X7_isPerson N σ i0 p1).bind fun v1 =>
  if v1 = 0 then (some ((-1), σ)) else ((f_X7_isPerson N σ i0 p2).bind fun v2 =>
  if v2 = 0 then (some ((-1), σ)) else (if p1 = p2 then (some ((-1), σ)) else ((u_rI ZC σ 0 (i0 + 5) p1).bind fun v3 =>
  (u_wI ZC σ 0 (i0 + 5) p1 (v3 ^^^ (1 <<< (p2 &&& 31)))).bind fun s4 =>
  (f_X7_seenBy N s4 i0 p1).bind fun v5 =>
  (f_J6_bitCount_0f7a4 N s4 v5).bind fun v6 =>
  some (v6, s4))))
set_option maxRecDepth 100000 in
set_option maxHeartbeats 4000000 in
theorem c_X7_turnEyes (l : Launch) (G : uG) (N : Nat) (σ : uS) (i0 : Nat) (oi0 : u_o ZC i0 6 12 (k_S i0)) (p1 : Int32) (p2 : Int32) (z : (Int32 × uS)) (hz : f_X7_turnEyes N σ i0 p1 p2 = some z) : u_Mi l ZC G yX7_turnEyes cX7_turnEyes 3 .int 2 [.ref (G.2.2 i0), .int p1, .int p2] σ z.1 z.2 := by
  refine u_Mi_of RX7 (by decide) rfl (Nat.le_of_ble_eq_true rfl) ?_
  intro p e s m args below meth c ls cx hw hl
  have hx := cx.1
  have hb := cx.2.1
  have hl : lv_has ls 3 [(0, .ref (G.2.2 i0)), (1, .int p1), (2, .int p2)] := hl
  unfold f_X7_turnEyes at hz
  refine lv_aload_n hx hb dX7_turnEyes_0 rfl (lv_at hl 0 rfl) ?_
  refine lv_iload_n hx hb dX7_turnEyes_1 rfl (lv_at hl 1 rfl) ?_
  obtain ⟨v1, hv1, hz⟩ := u_bind hz
  refine u_callVi (As := [.int p1]) (rest := []) cx hw LV_X7_105 (c_X7_isPerson l G N σ i0 oi0 p1 v1 hv1) oi0 rfl (by decide) hl.1 rfl (Nat.le_of_ble_eq_true rfl) dX7_turnEyes_2 rfl (fun H locs hw => ?_)
  refine lv_if_eq (tgt := 21) hx hb dX7_turnEyes_5 (by decide) (fun hc => ?_) (fun hc => ?_)
  · replace hz := u_ift hz hc
    refine lv_iconst (v := (-1)) hx hb dX7_turnEyes_21 (by decide) ?_
    exact u_iret cx hw (u_pair hz) dX7_turnEyes_22
  · replace hz := u_iff hz hc
    refine lv_aload_n hx hb dX7_turnEyes_8 rfl (lv_at hl 0 rfl) ?_
    refine lv_iload_n hx hb dX7_turnEyes_9 rfl (lv_at hl 2 rfl) ?_
    obtain ⟨v2, hv2, hz⟩ := u_bind hz
    refine u_callVi (As := [.int p2]) (rest := []) cx hw LV_X7_105 (c_X7_isPerson l G N σ i0 oi0 p2 v2 hv2) oi0 rfl (by decide) hl.1 rfl (Nat.le_of_ble_eq_true rfl) dX7_turnEyes_10 rfl (fun H locs hw => ?_)
    refine lv_if_eq (tgt := 21) hx hb dX7_turnEyes_13 (by decide) (fun hc => ?_) (fun hc => ?_)
    · replace hz := u_ift hz hc
      refine lv_iconst (v := (-1)) hx hb dX7_turnEyes_21 (by decide) ?_
      exact u_iret cx hw (u_pair hz) dX7_turnEyes_22
    · replace hz := u_iff hz hc
      refine lv_iload_n hx hb dX7_turnEyes_16 rfl (lv_at hl 1 rfl) ?_
      refine lv_iload_n hx hb dX7_turnEyes_17 rfl (lv_at hl 2 rfl) ?_
      refine lv_icmp_ne (tgt := 23) hx hb dX7_turnEyes_18 (by decide) (fun hc => ?_) (fun hc => ?_)
      · replace hz := u_iff hz hc
        refine lv_aload_n hx hb dX7_turnEyes_23 rfl (lv_at hl 0 rfl) ?_
        refine u_getp cx hw F_X7_24 oi0 rfl dX7_turnEyes_24 ?_
        refine lv_iload_n hx hb dX7_turnEyes_27 rfl (lv_at hl 1 rfl) ?_
        refine lv_dup2_11 hx hb dX7_turnEyes_28 rfl rfl ?_
        obtain ⟨v3, hv3, hz⟩ := u_bind hz
        refine u_iald cx hw hv3 dX7_turnEyes_29 ?_
        refine lv_iconst (v := 1) hx hb dX7_turnEyes_30 (by decide) ?_
        refine lv_iload_n hx hb dX7_turnEyes_31 rfl (lv_at hl 2 rfl) ?_
        refine lv_ishl hx hb dX7_turnEyes_32 ?_
        refine lv_ixor hx hb dX7_turnEyes_33 ?_
        obtain ⟨s4, hs4, hz⟩ := u_bind hz
        refine u_iast cx hw hs4 dX7_turnEyes_34 (fun H locs hw => ?_)
        refine lv_aload_n hx hb dX7_turnEyes_35 rfl (lv_at hl 0 rfl) ?_
        refine lv_iload_n hx hb dX7_turnEyes_36 rfl (lv_at hl 1 rfl) ?_
        obtain ⟨v5, hv5, hz⟩ := u_bind hz
        refine u_callVi (As := [.int p1]) (rest := []) cx hw LV_X7_99 (c_X7_seenBy l G N s4 i0 oi0 p1 v5 hv5) oi0 rfl (by decide) hl.1 rfl (Nat.le_of_ble_eq_true rfl) dX7_turnEyes_37 rfl (fun H locs hw => ?_)
        obtain ⟨v6, hv6, hz⟩ := u_bind hz
        refine u_callSi (As := [.int v5]) (rest := []) cx hw LS_X7_89 (c_J6_bitCount_0f7a4 l G ZC N s4 v5 v6 hv6) (by decide) hl.1 rfl (Nat.le_of_ble_eq_true rfl) dX7_turnEyes_40 rfl (fun H locs hw => ?_)
        exact u_iret cx hw (u_pair hz) dX7_turnEyes_43
      · replace hz := u_ift hz hc
        refine lv_iconst (v := (-1)) hx hb dX7_turnEyes_21 (by decide) ?_
        exact u_iret cx hw (u_pair hz) dX7_turnEyes_22
theorem dX9_takesKind_0 : decode cX9_takesKind 0 = .ok (.aload_n 0, 1) := by decide +kernel
theorem dX9_takesKind_1 : decode cX9_takesKind 1 = .ok (.iload_n 1, 1) := by decide +kernel
theorem dX9_takesKind_2 : decode cX9_takesKind 2 = .ok (.putfield 25, 3) := by decide +kernel
theorem dX9_takesKind_5 : decode cX9_takesKind 5 = .ok (.iload_n 1, 1) := by decide +kernel
theorem dX9_takesKind_6 : decode cX9_takesKind 6 = .ok (.bipush 43, 2) := by decide +kernel
theorem dX9_takesKind_8 : decode cX9_takesKind 8 = .ok (.if_icmp .eq 9, 3) := by decide +kernel
theorem dX9_takesKind_11 : decode cX9_takesKind 11 = .ok (.iload_n 1, 1) := by decide +kernel
theorem dX9_takesKind_12 : decode cX9_takesKind 12 = .ok (.bipush 45, 2) := by decide +kernel
theorem dX9_takesKind_14 : decode cX9_takesKind 14 = .ok (.if_icmp .ne 10, 3) := by decide +kernel
theorem dX9_takesKind_17 : decode cX9_takesKind 17 = .ok (.aload_n 0, 1) := by decide +kernel
theorem dX9_takesKind_18 : decode cX9_takesKind 18 = .ok (.iconst 0, 1) := by decide +kernel
theorem dX9_takesKind_19 : decode cX9_takesKind 19 = .ok (.iconst 0, 1) := by decide +kernel
theorem dX9_takesKind_20 : decode cX9_takesKind 20 = .ok (.invokevirtual 38, 3) := by decide +kernel
theorem dX9_takesKind_23 : decode cX9_takesKind 23 = .ok (.ireturn, 1) := by decide +kernel
theorem dX9_takesKind_24 : decode cX9_takesKind 24 = .ok (.iload_n 1, 1) := by decide +kernel
theorem dX9_takesKind_25 : decode cX9_takesKind 25 = .ok (.bipush 99, 2) := by decide +kernel
theorem dX9_takesKind_27 : decode cX9_takesKind 27 = .ok (.if_icmp .eq 15, 3) := by decide +kernel
theorem dX9_takesKind_30 : decode cX9_takesKind 30 = .ok (.iload_n 1, 1) := by decide +kernel
theorem dX9_takesKind_31 : decode cX9_takesKind 31 = .ok (.bipush 115, 2) := by decide +kernel
theorem dX9_takesKind_33 : decode cX9_takesKind 33 = .ok (.if_icmp .eq 9, 3) := by decide +kernel
theorem dX9_takesKind_36 : decode cX9_takesKind 36 = .ok (.iload_n 1, 1) := by decide +kernel
theorem dX9_takesKind_37 : decode cX9_takesKind 37 = .ok (.bipush 103, 2) := by decide +kernel
theorem dX9_takesKind_39 : decode cX9_takesKind 39 = .ok (.if_icmp .ne 7, 3) := by decide +kernel
theorem dX9_takesKind_42 : decode cX9_takesKind 42 = .ok (.iconst 1, 1) := by decide +kernel
theorem dX9_takesKind_43 : decode cX9_takesKind 43 = .ok (.goto 4, 3) := by decide +kernel
theorem dX9_takesKind_46 : decode cX9_takesKind 46 = .ok (.iconst 0, 1) := by decide +kernel
theorem dX9_takesKind_47 : decode cX9_takesKind 47 = .ok (.ireturn, 1) := by decide +kernel
def f_X9_takesKind (N : Nat) (σ : uS) (p1 : Int32) : Option (Int32 × uS) := u_jn (u_pI σ 15 4 p1) fun s1 =>
  u_jn (((f_X9_takesAct N s1 0 0).bind fun v3 =>
  u_ck (v3.1 = 0 ∨ v3.1 = 1) (some (v3.1, v3.2)) : Option (Int32 × uS))) fun J17_2 =>
  if p1 = 43 then (J17_2) else (if p1 = 45 then (J17_2) else (u_jn ((some (1, s1) : Option (Int32 × uS))) fun J42_4 =>
  if p1 = 99 then (J42_4) else (if p1 = 115 then (J42_4) else (if p1 = 103 then (J42_4) else (some (0, s1))))))
set_option maxRecDepth 100000 in
set_option maxHeartbeats 4000000 in
theorem c_X9_takesKind (l : Launch) (G : uG) (N : Nat) (σ : uS) (p1 : Int32) (z : (Int32 × uS)) (hz : f_X9_takesKind N σ p1 = some z) : u_Mi l ZC G yX9_takesKind cX9_takesKind 2 .boolean 1 [.ref (G.2.2 15), .int p1] σ z.1 z.2 := by
  refine u_Mi_of RX9 (by decide) rfl (Nat.le_of_ble_eq_true rfl) ?_
  intro p e s m args below meth c ls cx hw hl
  have hx := cx.1
  have hb := cx.2.1
  have hl : lv_has ls 2 [(0, .ref (G.2.2 15)), (1, .int p1)] := hl
  unfold f_X9_takesKind at hz
  refine lv_aload_n hx hb dX9_takesKind_0 rfl (lv_at hl 0 rfl) ?_
  refine lv_iload_n hx hb dX9_takesKind_1 rfl (lv_at hl 1 rfl) ?_
  obtain ⟨s1, es1, hz⟩ := u_let hz
  refine u_puti2 cx hw P_X9_25 o_X9 rfl es1 dX9_takesKind_2 (fun H locs hw => ?_)
  refine lv_iload_n hx hb dX9_takesKind_5 rfl (lv_at hl 1 rfl) ?_
  refine lv_bipush (v := 43) hx hb dX9_takesKind_6 (by decide) ?_
  obtain ⟨J17_2, eJ17_2, hz⟩ := u_let hz
  have WJ17_2 : ∀ (H : Heap) (locs : List Loc) (ls : Array Slot), J17_2 = some z → u_W ZC G s1 s H locs → lv_has ls 2 [(0, .ref (G.2.2 15))] → W p l e (u_rm 1) s m args below meth c H locs 0 0 (u_Qi below ZC G s args z.1 z.2) (F0 m 17 ls []) := by
    intro H locs ls hz hw hl
    rw [eJ17_2] at hz
    refine lv_aload_n hx hb dX9_takesKind_17 rfl (lv_at hl 0 rfl) ?_
    refine lv_iconst (v := 0) hx hb dX9_takesKind_18 (by decide) ?_
    refine lv_iconst (v := 0) hx hb dX9_takesKind_19 (by decide) ?_
    obtain ⟨v3, hv3, hz⟩ := u_bind hz
    refine u_callVi (As := [.int 0, .int 0]) (rest := []) cx hw LV_X9_38 (c_X9_takesAct l G N s1 0 0 v3 hv3) o_X9 rfl (by decide) hl.1 rfl (Nat.le_of_ble_eq_true rfl) dX9_takesKind_20 rfl (fun H locs hw => ?_)
    obtain ⟨h01, hz⟩ := u_ck_some hz
    exact u_zret cx hw h01 (u_pair hz) dX9_takesKind_23
  refine lv_icmp_eq (tgt := 17) hx hb dX9_takesKind_8 (by decide) (fun hc => ?_) (fun hc => ?_)
  · replace hz := u_ift hz hc
    exact WJ17_2 _ _ _ hz hw (lv_sub hl [0] rfl)
  · replace hz := u_iff hz hc
    refine lv_iload_n hx hb dX9_takesKind_11 rfl (lv_at hl 1 rfl) ?_
    refine lv_bipush (v := 45) hx hb dX9_takesKind_12 (by decide) ?_
    refine lv_icmp_ne (tgt := 24) hx hb dX9_takesKind_14 (by decide) (fun hc => ?_) (fun hc => ?_)
    · replace hz := u_iff hz hc
      refine lv_iload_n hx hb dX9_takesKind_24 rfl (lv_at hl 1 rfl) ?_
      refine lv_bipush (v := 99) hx hb dX9_takesKind_25 (by decide) ?_
      obtain ⟨J42_4, eJ42_4, hz⟩ := u_let hz
      have WJ42_4 : ∀ (H : Heap) (locs : List Loc) (ls : Array Slot), J42_4 = some z → u_W ZC G s1 s H locs → lv_has ls 2 [] → W p l e (u_rm 1) s m args below meth c H locs 0 0 (u_Qi below ZC G s args z.1 z.2) (F0 m 42 ls []) := by
        intro H locs ls hz hw hl
        rw [eJ42_4] at hz
        refine lv_iconst (v := 1) hx hb dX9_takesKind_42 (by decide) ?_
        refine lv_goto (tgt := 47) hx hb dX9_takesKind_43 (by decide) ?_
        exact u_zret cx hw (Or.inr rfl) (u_pair hz) dX9_takesKind_47
      refine lv_icmp_eq (tgt := 42) hx hb dX9_takesKind_27 (by decide) (fun hc => ?_) (fun hc => ?_)
      · replace hz := u_ift hz hc
        exact WJ42_4 _ _ _ hz hw (lv_sub hl [] rfl)
      · replace hz := u_iff hz hc
        refine lv_iload_n hx hb dX9_takesKind_30 rfl (lv_at hl 1 rfl) ?_
        refine lv_bipush (v := 115) hx hb dX9_takesKind_31 (by decide) ?_
        refine lv_icmp_eq (tgt := 42) hx hb dX9_takesKind_33 (by decide) (fun hc => ?_) (fun hc => ?_)
        · replace hz := u_ift hz hc
          exact WJ42_4 _ _ _ hz hw (lv_sub hl [] rfl)
        · replace hz := u_iff hz hc
          refine lv_iload_n hx hb dX9_takesKind_36 rfl (lv_at hl 1 rfl) ?_
          refine lv_bipush (v := 103) hx hb dX9_takesKind_37 (by decide) ?_
          refine lv_icmp_ne (tgt := 46) hx hb dX9_takesKind_39 (by decide) (fun hc => ?_) (fun hc => ?_)
          · replace hz := u_iff hz hc
            refine lv_iconst (v := 0) hx hb dX9_takesKind_46 (by decide) ?_
            exact u_zret cx hw (Or.inl rfl) (u_pair hz) dX9_takesKind_47
          · replace hz := u_ift hz hc
            exact WJ42_4 _ _ _ hz hw (lv_sub hl [] rfl)
    · replace hz := u_ift hz hc
      exact WJ17_2 _ _ _ hz hw (lv_sub hl [0] rfl)
theorem dX9_takesGlance_0 : decode cX9_takesGlance 0 = .ok (.aload_n 0, 1) := by decide +kernel
theorem dX9_takesGlance_1 : decode cX9_takesGlance 1 = .ok (.getfield 28, 3) := by decide +kernel
theorem dX9_takesGlance_4 : decode cX9_takesGlance 4 = .ok (.ifCond .lt 13, 3) := by decide +kernel
theorem dX9_takesGlance_7 : decode cX9_takesGlance 7 = .ok (.aload_n 0, 1) := by decide +kernel
theorem dX9_takesGlance_8 : decode cX9_takesGlance 8 = .ok (.aload_n 0, 1) := by decide +kernel
theorem dX9_takesGlance_9 : decode cX9_takesGlance 9 = .ok (.getfield 28, 3) := by decide +kernel
theorem dX9_takesGlance_12 : decode cX9_takesGlance 12 = .ok (.iload_n 1, 1) := by decide +kernel
theorem dX9_takesGlance_13 : decode cX9_takesGlance 13 = .ok (.invokevirtual 38, 3) := by decide +kernel
theorem dX9_takesGlance_16 : decode cX9_takesGlance 16 = .ok (.ireturn, 1) := by decide +kernel
theorem dX9_takesGlance_17 : decode cX9_takesGlance 17 = .ok (.aload_n 0, 1) := by decide +kernel
theorem dX9_takesGlance_18 : decode cX9_takesGlance 18 = .ok (.iload_n 1, 1) := by decide +kernel
theorem dX9_takesGlance_19 : decode cX9_takesGlance 19 = .ok (.putfield 28, 3) := by decide +kernel
theorem dX9_takesGlance_22 : decode cX9_takesGlance 22 = .ok (.iconst 1, 1) := by decide +kernel
theorem dX9_takesGlance_23 : decode cX9_takesGlance 23 = .ok (.ireturn, 1) := by decide +kernel
def f_X9_takesGlance (N : Nat) (σ : uS) (p1 : Int32) : Option (Int32 × uS) := if (σ.1 15 5) < 0 then (u_jn (u_pI σ 15 5 p1) fun s1 =>
  some (1, s1)) else ((f_X9_takesAct N σ (σ.1 15 5) p1).bind fun v2 =>
  u_ck (v2.1 = 0 ∨ v2.1 = 1) (some (v2.1, v2.2)))
set_option maxRecDepth 100000 in
set_option maxHeartbeats 4000000 in
theorem c_X9_takesGlance (l : Launch) (G : uG) (N : Nat) (σ : uS) (p1 : Int32) (z : (Int32 × uS)) (hz : f_X9_takesGlance N σ p1 = some z) : u_Mi l ZC G yX9_takesGlance cX9_takesGlance 2 .boolean 1 [.ref (G.2.2 15), .int p1] σ z.1 z.2 := by
  refine u_Mi_of RX9 (by decide) rfl (Nat.le_of_ble_eq_true rfl) ?_
  intro p e s m args below meth c ls cx hw hl
  have hx := cx.1
  have hb := cx.2.1
  have hl : lv_has ls 2 [(0, .ref (G.2.2 15)), (1, .int p1)] := hl
  unfold f_X9_takesGlance at hz
  refine lv_aload_n hx hb dX9_takesGlance_0 rfl (lv_at hl 0 rfl) ?_
  refine u_geti cx hw F_X9_28 o_X9 rfl dX9_takesGlance_1 ?_
  refine lv_if_lt (tgt := 17) hx hb dX9_takesGlance_4 (by decide) (fun hc => ?_) (fun hc => ?_)
  · replace hz := u_ift hz hc
    refine lv_aload_n hx hb dX9_takesGlance_17 rfl (lv_at hl 0 rfl) ?_
    refine lv_iload_n hx hb dX9_takesGlance_18 rfl (lv_at hl 1 rfl) ?_
    obtain ⟨s1, es1, hz⟩ := u_let hz
    refine u_puti2 cx hw P_X9_28 o_X9 rfl es1 dX9_takesGlance_19 (fun H locs hw => ?_)
    refine lv_iconst (v := 1) hx hb dX9_takesGlance_22 (by decide) ?_
    exact u_zret cx hw (Or.inr rfl) (u_pair hz) dX9_takesGlance_23
  · replace hz := u_iff hz hc
    refine lv_aload_n hx hb dX9_takesGlance_7 rfl (lv_at hl 0 rfl) ?_
    refine lv_aload_n hx hb dX9_takesGlance_8 rfl (lv_at hl 0 rfl) ?_
    refine u_geti cx hw F_X9_28 o_X9 rfl dX9_takesGlance_9 ?_
    refine lv_iload_n hx hb dX9_takesGlance_12 rfl (lv_at hl 1 rfl) ?_
    obtain ⟨v2, hv2, hz⟩ := u_bind hz
    refine u_callVi (As := [.int (σ.1 15 5), .int p1]) (rest := []) cx hw LV_X9_38 (c_X9_takesAct l G N σ (σ.1 15 5) p1 v2 hv2) o_X9 rfl (by decide) hl.1 rfl (Nat.le_of_ble_eq_true rfl) dX9_takesGlance_13 rfl (fun H locs hw => ?_)
    obtain ⟨h01, hz⟩ := u_ck_some hz
    exact u_zret cx hw h01 (u_pair hz) dX9_takesGlance_16
theorem dX11_sheet_0 : decode cX11_sheet 0 = .ok (.iload_n 1, 1) := by decide +kernel
theorem dX11_sheet_1 : decode cX11_sheet 1 = .ok (.ifCond .lt 14, 3) := by decide +kernel
theorem dX11_sheet_4 : decode cX11_sheet 4 = .ok (.iload_n 1, 1) := by decide +kernel
theorem dX11_sheet_5 : decode cX11_sheet 5 = .ok (.iconst 3, 1) := by decide +kernel
theorem dX11_sheet_6 : decode cX11_sheet 6 = .ok (.if_icmp .gt 9, 3) := by decide +kernel
theorem dX11_sheet_9 : decode cX11_sheet 9 = .ok (.iload_n 2, 1) := by decide +kernel
theorem dX11_sheet_10 : decode cX11_sheet 10 = .ok (.bipush 8, 2) := by decide +kernel
theorem dX11_sheet_12 : decode cX11_sheet 12 = .ok (.if_icmp .le 5, 3) := by decide +kernel
theorem dX11_sheet_15 : decode cX11_sheet 15 = .ok (.iconst (-1), 1) := by decide +kernel
theorem dX11_sheet_16 : decode cX11_sheet 16 = .ok (.ireturn, 1) := by decide +kernel
theorem dX11_sheet_17 : decode cX11_sheet 17 = .ok (.iload_n 1, 1) := by decide +kernel
theorem dX11_sheet_18 : decode cX11_sheet 18 = .ok (.iconst 3, 1) := by decide +kernel
theorem dX11_sheet_19 : decode cX11_sheet 19 = .ok (.if_icmp .ne 7, 3) := by decide +kernel
theorem dX11_sheet_22 : decode cX11_sheet 22 = .ok (.iconst 1, 1) := by decide +kernel
theorem dX11_sheet_23 : decode cX11_sheet 23 = .ok (.goto 4, 3) := by decide +kernel
theorem dX11_sheet_26 : decode cX11_sheet 26 = .ok (.iconst 0, 1) := by decide +kernel
theorem dX11_sheet_27 : decode cX11_sheet 27 = .ok (.istore 5, 2) := by decide +kernel
theorem dX11_sheet_29 : decode cX11_sheet 29 = .ok (.iload 5, 2) := by decide +kernel
theorem dX11_sheet_31 : decode cX11_sheet 31 = .ok (.ifCond .ne 10, 3) := by decide +kernel
theorem dX11_sheet_34 : decode cX11_sheet 34 = .ok (.iload_n 2, 1) := by decide +kernel
theorem dX11_sheet_35 : decode cX11_sheet 35 = .ok (.ifCond .ge 6, 3) := by decide +kernel
theorem dX11_sheet_38 : decode cX11_sheet 38 = .ok (.bipush (-2), 2) := by decide +kernel
theorem dX11_sheet_40 : decode cX11_sheet 40 = .ok (.ireturn, 1) := by decide +kernel
theorem dX11_sheet_41 : decode cX11_sheet 41 = .ok (.iload 5, 2) := by decide +kernel
theorem dX11_sheet_43 : decode cX11_sheet 43 = .ok (.ifCond .eq 7, 3) := by decide +kernel
theorem dX11_sheet_46 : decode cX11_sheet 46 = .ok (.iconst 0, 1) := by decide +kernel
theorem dX11_sheet_47 : decode cX11_sheet 47 = .ok (.goto 4, 3) := by decide +kernel
theorem dX11_sheet_50 : decode cX11_sheet 50 = .ok (.iload_n 2, 1) := by decide +kernel
theorem dX11_sheet_51 : decode cX11_sheet 51 = .ok (.istore 6, 2) := by decide +kernel
theorem dX11_sheet_53 : decode cX11_sheet 53 = .ok (.iconst 0, 1) := by decide +kernel
theorem dX11_sheet_54 : decode cX11_sheet 54 = .ok (.istore 7, 2) := by decide +kernel
theorem dX11_sheet_56 : decode cX11_sheet 56 = .ok (.iload 7, 2) := by decide +kernel
theorem dX11_sheet_58 : decode cX11_sheet 58 = .ok (.aload_n 0, 1) := by decide +kernel
theorem dX11_sheet_59 : decode cX11_sheet 59 = .ok (.getfield 26, 3) := by decide +kernel
theorem dX11_sheet_62 : decode cX11_sheet 62 = .ok (.getfield 122, 3) := by decide +kernel
theorem dX11_sheet_65 : decode cX11_sheet 65 = .ok (.if_icmp .ge 44, 3) := by decide +kernel
theorem dX11_sheet_68 : decode cX11_sheet 68 = .ok (.aload_n 0, 1) := by decide +kernel
theorem dX11_sheet_69 : decode cX11_sheet 69 = .ok (.getfield 26, 3) := by decide +kernel
theorem dX11_sheet_72 : decode cX11_sheet 72 = .ok (.getfield 161, 3) := by decide +kernel
theorem dX11_sheet_75 : decode cX11_sheet 75 = .ok (.iload 7, 2) := by decide +kernel
theorem dX11_sheet_77 : decode cX11_sheet 77 = .ok (.iload 7, 2) := by decide +kernel
theorem dX11_sheet_79 : decode cX11_sheet 79 = .ok (.iload 6, 2) := by decide +kernel
theorem dX11_sheet_81 : decode cX11_sheet 81 = .ok (.if_icmp .ge 20, 3) := by decide +kernel
theorem dX11_sheet_84 : decode cX11_sheet 84 = .ok (.iload_n 1, 1) := by decide +kernel
theorem dX11_sheet_85 : decode cX11_sheet 85 = .ok (.iload_n 3, 1) := by decide +kernel
theorem dX11_sheet_86 : decode cX11_sheet 86 = .ok (.iload 7, 2) := by decide +kernel
theorem dX11_sheet_88 : decode cX11_sheet 88 = .ok (.iload 4, 2) := by decide +kernel
theorem dX11_sheet_90 : decode cX11_sheet 90 = .ok (.imul, 1) := by decide +kernel
theorem dX11_sheet_91 : decode cX11_sheet 91 = .ok (.iadd, 1) := by decide +kernel
theorem dX11_sheet_92 : decode cX11_sheet 92 = .ok (.invokestatic 186, 3) := by decide +kernel
theorem dX11_sheet_95 : decode cX11_sheet 95 = .ok (.invokestatic 190, 3) := by decide +kernel
theorem dX11_sheet_98 : decode cX11_sheet 98 = .ok (.goto 4, 3) := by decide +kernel
theorem dX11_sheet_101 : decode cX11_sheet 101 = .ok (.iconst 0, 1) := by decide +kernel
theorem dX11_sheet_102 : decode cX11_sheet 102 = .ok (.iastore, 1) := by decide +kernel
theorem dX11_sheet_103 : decode cX11_sheet 103 = .ok (.iinc 7 1, 3) := by decide +kernel
theorem dX11_sheet_106 : decode cX11_sheet 106 = .ok (.goto (-50), 3) := by decide +kernel
theorem dX11_sheet_109 : decode cX11_sheet 109 = .ok (.iload 5, 2) := by decide +kernel
theorem dX11_sheet_111 : decode cX11_sheet 111 = .ok (.ifCond .eq 8, 3) := by decide +kernel
theorem dX11_sheet_114 : decode cX11_sheet 114 = .ok (.bipush (-3), 2) := by decide +kernel
theorem dX11_sheet_116 : decode cX11_sheet 116 = .ok (.goto 10, 3) := by decide +kernel
theorem dX11_sheet_119 : decode cX11_sheet 119 = .ok (.aload_n 0, 1) := by decide +kernel
theorem dX11_sheet_120 : decode cX11_sheet 120 = .ok (.getfield 26, 3) := by decide +kernel
theorem dX11_sheet_123 : decode cX11_sheet 123 = .ok (.invokevirtual 193, 3) := by decide +kernel
theorem dX11_sheet_126 : decode cX11_sheet 126 = .ok (.ireturn, 1) := by decide +kernel
def b_X11_sheet_56 (N : Nat) (p1 : Int32) (p3 : Int32) (p4 : Int32) (t4 : Int32) (J109_7 : uS → Option (Int32 × uS)) (rec56_11 : uS → Int32 → Option (Int32 × uS)) (s9 : uS) (x10 : Int32) : Option (Int32 × uS) :=
  if (s9.1 32 8) ≤ x10 then (J109_7 s9) else (u_jn (fun (t12 : Int32) => ((u_wI ZC s9 0 34 x10 t12).bind fun s14 =>
  u_jn (x10 + 1 : Int32) fun x15 =>
  rec56_11 s14 x15 : Option (Int32 × uS))) fun J102_13 =>
  if t4 ≤ x10 then (J102_13 0) else ((f_X11_sheetEntry N s9 p1 (p3 + (x10 * p4))).bind fun v16 =>
  (f_X11_digitOf N s9 v16).bind fun v17 =>
  J102_13 v17))
def f_X11_sheet (N : Nat) (σ : uS) (p1 : Int32) (p2 : Int32) (p3 : Int32) (p4 : Int32) : Option (Int32 × uS) := if p1 < 0 then (some ((-1), σ)) else (if 3 < p1 then (some ((-1), σ)) else (if p2 ≤ 8 then (u_jn (fun (t1 : Int32) => (u_jn ((u_jn (fun (t4 : Int32) => (u_jn (fun (s6 : uS) => (if t1 = 0 then ((f_X7_beliefOfAll N s6 32).bind fun v8 =>
  some (v8, s6)) else (some ((-3), s6)) : Option (Int32 × uS))) fun J109_7 =>
  u_lp2 (b_X11_sheet_56 N p1 p3 p4 t4 J109_7) N σ 0 : Option (Int32 × uS))) fun J51_5 =>
  if t1 = 0 then (J51_5 p2) else (J51_5 0) : Option (Int32 × uS))) fun J41_3 =>
  if t1 = 0 then (if 0 ≤ p2 then (J41_3) else (some ((-2), σ))) else (J41_3) : Option (Int32 × uS))) fun J27_2 =>
  if p1 = 3 then (J27_2 1) else (J27_2 0)) else (some ((-1), σ))))
set_option maxRecDepth 100000 in
set_option maxHeartbeats 4000000 in
theorem c_X11_sheet (l : Launch) (G : uG) (N : Nat) (σ : uS) (p1 : Int32) (p2 : Int32) (p3 : Int32) (p4 : Int32) (z : (Int32 × uS)) (hz : f_X11_sheet N σ p1 p2 p3 p4 = some z) : u_Mi l ZC G yX11_sheet cX11_sheet 8 .int 2 [.ref (G.2.2 0), .int p1, .int p2, .int p3, .int p4] σ z.1 z.2 := by
  refine u_Mi_of RX11 (by decide) rfl (Nat.le_of_ble_eq_true rfl) ?_
  intro p e s m args below meth c ls cx hw hl
  have hx := cx.1
  have hb := cx.2.1
  have hl : lv_has ls 8 [(0, .ref (G.2.2 0)), (1, .int p1), (2, .int p2), (3, .int p3), (4, .int p4)] := hl
  unfold f_X11_sheet at hz
  refine lv_iload_n hx hb dX11_sheet_0 rfl (lv_at hl 1 rfl) ?_
  refine lv_if_lt (tgt := 15) hx hb dX11_sheet_1 (by decide) (fun hc => ?_) (fun hc => ?_)
  · replace hz := u_ift hz hc
    refine lv_iconst (v := (-1)) hx hb dX11_sheet_15 (by decide) ?_
    exact u_iret cx hw (u_pair hz) dX11_sheet_16
  · replace hz := u_iff hz hc
    refine lv_iload_n hx hb dX11_sheet_4 rfl (lv_at hl 1 rfl) ?_
    refine lv_iconst (v := 3) hx hb dX11_sheet_5 (by decide) ?_
    refine lv_icmp_gt (tgt := 15) hx hb dX11_sheet_6 (by decide) (fun hc => ?_) (fun hc => ?_)
    · replace hz := u_ift hz hc
      refine lv_iconst (v := (-1)) hx hb dX11_sheet_15 (by decide) ?_
      exact u_iret cx hw (u_pair hz) dX11_sheet_16
    · replace hz := u_iff hz hc
      refine lv_iload_n hx hb dX11_sheet_9 rfl (lv_at hl 2 rfl) ?_
      refine lv_bipush (v := 8) hx hb dX11_sheet_10 (by decide) ?_
      refine lv_icmp_le (tgt := 17) hx hb dX11_sheet_12 (by decide) (fun hc => ?_) (fun hc => ?_)
      · replace hz := u_ift hz hc
        refine lv_iload_n hx hb dX11_sheet_17 rfl (lv_at hl 1 rfl) ?_
        refine lv_iconst (v := 3) hx hb dX11_sheet_18 (by decide) ?_
        obtain ⟨J27_2, eJ27_2, hz⟩ := u_let hz
        have WJ27_2 : ∀ (t1 : Int32) (H : Heap) (locs : List Loc) (ls : Array Slot), J27_2 t1 = some z → u_W ZC G σ s H locs → lv_has ls 8 [(0, .ref (G.2.2 0)), (1, .int p1), (2, .int p2), (3, .int p3), (4, .int p4)] → W p l e (u_rm 2) s m args below meth c H locs 0 0 (u_Qi below ZC G s args z.1 z.2) (F0 m 27 ls [.int t1]) := by
          intro t1 H locs ls hz hw hl
          rw [eJ27_2] at hz
          refine lv_istore (lv' := [(5, .int t1), (0, .ref (G.2.2 0)), (1, .int p1), (2, .int p2), (3, .int p3), (4, .int p4)]) hx hb dX11_sheet_27 hl (by decide) rfl (fun ls hl => ?_)
          refine lv_iload hx hb dX11_sheet_29 (lv_at hl 0 rfl) ?_
          obtain ⟨J41_3, eJ41_3, hz⟩ := u_let hz
          have WJ41_3 : ∀ (H : Heap) (locs : List Loc) (ls : Array Slot), J41_3 = some z → u_W ZC G σ s H locs → lv_has ls 8 [(0, .ref (G.2.2 0)), (1, .int p1), (2, .int p2), (3, .int p3), (4, .int p4), (5, .int t1)] → W p l e (u_rm 2) s m args below meth c H locs 0 0 (u_Qi below ZC G s args z.1 z.2) (F0 m 41 ls []) := by
            intro H locs ls hz hw hl
            rw [eJ41_3] at hz
            refine lv_iload hx hb dX11_sheet_41 (lv_at hl 5 rfl) ?_
            obtain ⟨J51_5, eJ51_5, hz⟩ := u_let hz
            have WJ51_5 : ∀ (t4 : Int32) (H : Heap) (locs : List Loc) (ls : Array Slot), J51_5 t4 = some z → u_W ZC G σ s H locs → lv_has ls 8 [(0, .ref (G.2.2 0)), (1, .int p1), (3, .int p3), (4, .int p4), (5, .int t1)] → W p l e (u_rm 2) s m args below meth c H locs 0 0 (u_Qi below ZC G s args z.1 z.2) (F0 m 51 ls [.int t4]) := by
              intro t4 H locs ls hz hw hl
              rw [eJ51_5] at hz
              refine lv_istore (lv' := [(6, .int t4), (0, .ref (G.2.2 0)), (1, .int p1), (3, .int p3), (4, .int p4), (5, .int t1)]) hx hb dX11_sheet_51 hl (by decide) rfl (fun ls hl => ?_)
              refine lv_iconst (v := 0) hx hb dX11_sheet_53 (by decide) ?_
              refine lv_istore (lv' := [(7, .int 0), (6, .int t4), (0, .ref (G.2.2 0)), (1, .int p1), (3, .int p3), (4, .int p4), (5, .int t1)]) hx hb dX11_sheet_54 hl (by decide) rfl (fun ls hl => ?_)
              obtain ⟨J109_7, eJ109_7, hz⟩ := u_let hz
              have WJ109_7 : ∀ (s6 : uS) (H : Heap) (locs : List Loc) (ls : Array Slot), J109_7 s6 = some z → u_W ZC G s6 s H locs → lv_has ls 8 [(0, .ref (G.2.2 0)), (5, .int t1)] → W p l e (u_rm 2) s m args below meth c H locs 0 0 (u_Qi below ZC G s args z.1 z.2) (F0 m 109 ls []) := by
                intro s6 H locs ls hz hw hl
                rw [eJ109_7] at hz
                refine lv_iload hx hb dX11_sheet_109 (lv_at hl 1 rfl) ?_
                refine lv_if_eq (tgt := 119) hx hb dX11_sheet_111 (by decide) (fun hc => ?_) (fun hc => ?_)
                · replace hz := u_ift hz hc
                  refine lv_aload_n hx hb dX11_sheet_119 rfl (lv_at hl 0 rfl) ?_
                  refine u_getp cx hw F_X11_26 o_X11 rfl dX11_sheet_120 ?_
                  obtain ⟨v8, hv8, hz⟩ := u_bind hz
                  refine u_callVi (As := []) (rest := []) cx hw LV_X11_193 (c_X7_beliefOfAll l G N s6 32 oS_32 v8 hv8) oS_32 rfl (by decide) hl.1 rfl (Nat.le_of_ble_eq_true rfl) dX11_sheet_123 rfl (fun H locs hw => ?_)
                  exact u_iret cx hw (u_pair hz) dX11_sheet_126
                · replace hz := u_iff hz hc
                  refine lv_bipush (v := (-3)) hx hb dX11_sheet_114 (by decide) ?_
                  refine lv_goto (tgt := 126) hx hb dX11_sheet_116 (by decide) ?_
                  exact u_iret cx hw (u_pair hz) dX11_sheet_126
              have WL56_17 : ∀ (k : Nat) (s9 : uS) (x10 : Int32) (H : Heap) (locs : List Loc) (ls : Array Slot), u_lp2 (b_X11_sheet_56 N p1 p3 p4 t4 J109_7) k s9 x10 = some z → u_W ZC G s9 s H locs → lv_has ls 8 [(0, .ref (G.2.2 0)), (1, .int p1), (3, .int p3), (4, .int p4), (5, .int t1), (6, .int t4), (7, .int x10)] → W p l e (u_rm 2) s m args below meth c H locs 0 0 (u_Qi below ZC G s args z.1 z.2) (F0 m 56 ls []) := by
                intro k
                induction k with
                | zero =>
                  intro s9 x10 H locs ls hz
                  exact absurd hz (by intro h9; cases h9)
                | succ k ih56_11 =>
                  intro s9 x10 H locs ls hz hw hl
                  have hz : (b_X11_sheet_56 N p1 p3 p4 t4 J109_7) (u_lp2 (b_X11_sheet_56 N p1 p3 p4 t4 J109_7) k) s9 x10 = some z := hz
                  unfold b_X11_sheet_56 at hz
                  refine lv_iload hx hb dX11_sheet_56 (lv_at hl 6 rfl) ?_
                  refine lv_aload_n hx hb dX11_sheet_58 rfl (lv_at hl 0 rfl) ?_
                  refine u_getp cx hw F_X11_26 o_X11 rfl dX11_sheet_59 ?_
                  refine u_geti cx hw F_X11_122 oS_32 rfl dX11_sheet_62 ?_
                  refine lv_icmp_ge (tgt := 109) hx hb dX11_sheet_65 (by decide) (fun hc => ?_) (fun hc => ?_)
                  · replace hz := u_ift hz hc
                    exact WJ109_7 s9 _ _ _ hz hw (lv_sub hl [0, 4] rfl)
                  · replace hz := u_iff hz hc
                    refine lv_aload_n hx hb dX11_sheet_68 rfl (lv_at hl 0 rfl) ?_
                    refine u_getp cx hw F_X11_26 o_X11 rfl dX11_sheet_69 ?_
                    refine u_getp cx hw F_X11_161 oS_32 rfl dX11_sheet_72 ?_
                    refine lv_iload hx hb dX11_sheet_75 (lv_at hl 6 rfl) ?_
                    refine lv_iload hx hb dX11_sheet_77 (lv_at hl 6 rfl) ?_
                    refine lv_iload hx hb dX11_sheet_79 (lv_at hl 5 rfl) ?_
                    obtain ⟨J102_13, eJ102_13, hz⟩ := u_let hz
                    have WJ102_13 : ∀ (t12 : Int32) (H : Heap) (locs : List Loc) (ls : Array Slot), J102_13 t12 = some z → u_W ZC G s9 s H locs → lv_has ls 8 [(0, .ref (G.2.2 0)), (1, .int p1), (3, .int p3), (4, .int p4), (5, .int t1), (6, .int t4), (7, .int x10)] → W p l e (u_rm 2) s m args below meth c H locs 0 0 (u_Qi below ZC G s args z.1 z.2) (F0 m 102 ls [.int t12, .int x10, .ref (G.2.2 34)]) := by
                      intro t12 H locs ls hz hw hl
                      rw [eJ102_13] at hz
                      obtain ⟨s14, hs14, hz⟩ := u_bind hz
                      refine u_iast cx hw hs14 dX11_sheet_102 (fun H locs hw => ?_)
                      obtain ⟨x15, ex15, hz⟩ := u_let hz
                      refine lv_iinc (v := x15) (lv' := [(7, .int x15), (0, .ref (G.2.2 0)), (1, .int p1), (3, .int p3), (4, .int p4), (5, .int t1), (6, .int t4)]) hx hb dX11_sheet_103 hl (k := 6) rfl (by rw [ex15]; rfl) (by decide) rfl (fun ls hl => ?_)
                      refine lv_goto (tgt := 56) hx hb dX11_sheet_106 (by decide) ?_
                      exact ih56_11 s14 x15 _ _ _ hz hw (lv_sub hl [1, 2, 3, 4, 5, 6, 0] rfl)
                    refine lv_icmp_ge (tgt := 101) hx hb dX11_sheet_81 (by decide) (fun hc => ?_) (fun hc => ?_)
                    · replace hz := u_ift hz hc
                      refine lv_iconst (v := 0) hx hb dX11_sheet_101 (by decide) ?_
                      exact WJ102_13 0 _ _ _ hz hw (lv_sub hl [0, 1, 2, 3, 4, 5, 6] rfl)
                    · replace hz := u_iff hz hc
                      refine lv_iload_n hx hb dX11_sheet_84 rfl (lv_at hl 1 rfl) ?_
                      refine lv_iload_n hx hb dX11_sheet_85 rfl (lv_at hl 2 rfl) ?_
                      refine lv_iload hx hb dX11_sheet_86 (lv_at hl 6 rfl) ?_
                      refine lv_iload hx hb dX11_sheet_88 (lv_at hl 3 rfl) ?_
                      refine lv_imul hx hb dX11_sheet_90 ?_
                      refine lv_iadd hx hb dX11_sheet_91 ?_
                      obtain ⟨v16, hv16, hz⟩ := u_bind hz
                      refine u_callSi (As := [.int p1, .int (p3 + (x10 * p4))]) (rest := [.int x10, .ref (G.2.2 34)]) cx hw LS_X11_186 (c_X11_sheetEntry l G N s9 p1 (p3 + (x10 * p4)) v16 hv16) (by decide) hl.1 rfl (Nat.le_of_ble_eq_true rfl) dX11_sheet_92 rfl (fun H locs hw => ?_)
                      obtain ⟨v17, hv17, hz⟩ := u_bind hz
                      refine u_callSi (As := [.int v16]) (rest := [.int x10, .ref (G.2.2 34)]) cx hw LS_X11_190 (c_X11_digitOf l G N s9 v16 v17 hv17) (by decide) hl.1 rfl (Nat.le_of_ble_eq_true rfl) dX11_sheet_95 rfl (fun H locs hw => ?_)
                      refine lv_goto (tgt := 102) hx hb dX11_sheet_98 (by decide) ?_
                      exact WJ102_13 v17 _ _ _ hz hw (lv_sub hl [0, 1, 2, 3, 4, 5, 6] rfl)
              exact WL56_17 N σ 0 _ _ _ hz hw (lv_sub hl [2, 3, 4, 5, 6, 1, 0] rfl)
            refine lv_if_eq (tgt := 50) hx hb dX11_sheet_43 (by decide) (fun hc => ?_) (fun hc => ?_)
            · replace hz := u_ift hz hc
              refine lv_iload_n hx hb dX11_sheet_50 rfl (lv_at hl 2 rfl) ?_
              exact WJ51_5 p2 _ _ _ hz hw (lv_sub hl [0, 1, 3, 4, 5] rfl)
            · replace hz := u_iff hz hc
              refine lv_iconst (v := 0) hx hb dX11_sheet_46 (by decide) ?_
              refine lv_goto (tgt := 51) hx hb dX11_sheet_47 (by decide) ?_
              exact WJ51_5 0 _ _ _ hz hw (lv_sub hl [0, 1, 3, 4, 5] rfl)
          refine lv_if_ne (tgt := 41) hx hb dX11_sheet_31 (by decide) (fun hc => ?_) (fun hc => ?_)
          · replace hz := u_iff hz hc
            exact WJ41_3 _ _ _ hz hw (lv_sub hl [1, 2, 3, 4, 5, 0] rfl)
          · replace hz := u_ift hz hc
            refine lv_iload_n hx hb dX11_sheet_34 rfl (lv_at hl 3 rfl) ?_
            refine lv_if_ge (tgt := 41) hx hb dX11_sheet_35 (by decide) (fun hc => ?_) (fun hc => ?_)
            · replace hz := u_ift hz hc
              exact WJ41_3 _ _ _ hz hw (lv_sub hl [1, 2, 3, 4, 5, 0] rfl)
            · replace hz := u_iff hz hc
              refine lv_bipush (v := (-2)) hx hb dX11_sheet_38 (by decide) ?_
              exact u_iret cx hw (u_pair hz) dX11_sheet_40
        refine lv_icmp_ne (tgt := 26) hx hb dX11_sheet_19 (by decide) (fun hc => ?_) (fun hc => ?_)
        · replace hz := u_iff hz hc
          refine lv_iconst (v := 0) hx hb dX11_sheet_26 (by decide) ?_
          exact WJ27_2 0 _ _ _ hz hw (lv_sub hl [0, 1, 2, 3, 4] rfl)
        · replace hz := u_ift hz hc
          refine lv_iconst (v := 1) hx hb dX11_sheet_22 (by decide) ?_
          refine lv_goto (tgt := 27) hx hb dX11_sheet_23 (by decide) ?_
          exact WJ27_2 1 _ _ _ hz hw (lv_sub hl [0, 1, 2, 3, 4] rfl)
      · replace hz := u_iff hz hc
        refine lv_iconst (v := (-1)) hx hb dX11_sheet_15 (by decide) ?_
        exact u_iret cx hw (u_pair hz) dX11_sheet_16
theorem dX11_undo_0 : decode cX11_undo 0 = .ok (.aload_n 0, 1) := by decide +kernel
theorem dX11_undo_1 : decode cX11_undo 1 = .ok (.getfield 39, 3) := by decide +kernel
theorem dX11_undo_4 : decode cX11_undo 4 = .ok (.aload_n 0, 1) := by decide +kernel
theorem dX11_undo_5 : decode cX11_undo 5 = .ok (.getfield 26, 3) := by decide +kernel
theorem dX11_undo_8 : decode cX11_undo 8 = .ok (.invokevirtual 250, 3) := by decide +kernel
theorem dX11_undo_11 : decode cX11_undo 11 = .ok (.ifCond .eq 13, 3) := by decide +kernel
theorem dX11_undo_14 : decode cX11_undo 14 = .ok (.aload_n 0, 1) := by decide +kernel
theorem dX11_undo_15 : decode cX11_undo 15 = .ok (.getfield 39, 3) := by decide +kernel
theorem dX11_undo_18 : decode cX11_undo 18 = .ok (.getfield 254, 3) := by decide +kernel
theorem dX11_undo_21 : decode cX11_undo 21 = .ok (.goto 4, 3) := by decide +kernel
theorem dX11_undo_24 : decode cX11_undo 24 = .ok (.iconst (-1), 1) := by decide +kernel
theorem dX11_undo_25 : decode cX11_undo 25 = .ok (.ireturn, 1) := by decide +kernel
def f_X11_undo (N : Nat) (σ : uS) : Option (Int32 × uS) := (f_X3_pop N σ 32).bind fun v1 =>
  if v1.1 = 0 then (some ((-1), v1.2)) else (some ((v1.2.1 5 2), v1.2))
set_option maxRecDepth 100000 in
set_option maxHeartbeats 4000000 in
theorem c_X11_undo (l : Launch) (G : uG) (N : Nat) (σ : uS) (z : (Int32 × uS)) (hz : f_X11_undo N σ = some z) : u_Mi l ZC G yX11_undo cX11_undo 1 .int 3 [.ref (G.2.2 0)] σ z.1 z.2 := by
  refine u_Mi_of RX11 (by decide) rfl (Nat.le_of_ble_eq_true rfl) ?_
  intro p e s m args below meth c ls cx hw hl
  have hx := cx.1
  have hb := cx.2.1
  have hl : lv_has ls 1 [(0, .ref (G.2.2 0))] := hl
  unfold f_X11_undo at hz
  refine lv_aload_n hx hb dX11_undo_0 rfl (lv_at hl 0 rfl) ?_
  refine u_getp cx hw F_X11_39 o_X11 rfl dX11_undo_1 ?_
  refine lv_aload_n hx hb dX11_undo_4 rfl (lv_at hl 0 rfl) ?_
  refine u_getp cx hw F_X11_26 o_X11 rfl dX11_undo_5 ?_
  obtain ⟨v1, hv1, hz⟩ := u_bind hz
  refine u_callVi (As := [.ref (G.2.2 32)]) (rest := []) cx hw LV_X11_250 (c_X3_pop l G N σ 32 oS_32 v1 hv1) o_X3 rfl (by decide) hl.1 rfl (Nat.le_of_ble_eq_true rfl) dX11_undo_8 rfl (fun H locs hw => ?_)
  refine lv_if_eq (tgt := 24) hx hb dX11_undo_11 (by decide) (fun hc => ?_) (fun hc => ?_)
  · replace hz := u_ift hz hc
    refine lv_iconst (v := (-1)) hx hb dX11_undo_24 (by decide) ?_
    exact u_iret cx hw (u_pair hz) dX11_undo_25
  · replace hz := u_iff hz hc
    refine lv_aload_n hx hb dX11_undo_14 rfl (lv_at hl 0 rfl) ?_
    refine u_getp cx hw F_X11_39 o_X11 rfl dX11_undo_15 ?_
    refine u_geti cx hw F_X11_254 o_X3 rfl dX11_undo_18 ?_
    refine lv_goto (tgt := 25) hx hb dX11_undo_21 (by decide) ?_
    exact u_iret cx hw (u_pair hz) dX11_undo_25
theorem dX11_acted_0 : decode cX11_acted 0 = .ok (.iload_n 1, 1) := by decide +kernel
theorem dX11_acted_1 : decode cX11_acted 1 = .ok (.ifCond .lt 14, 3) := by decide +kernel
theorem dX11_acted_4 : decode cX11_acted 4 = .ok (.aload_n 0, 1) := by decide +kernel
theorem dX11_acted_5 : decode cX11_acted 5 = .ok (.getfield 39, 3) := by decide +kernel
theorem dX11_acted_8 : decode cX11_acted 8 = .ok (.aload_n 0, 1) := by decide +kernel
theorem dX11_acted_9 : decode cX11_acted 9 = .ok (.getfield 33, 3) := by decide +kernel
theorem dX11_acted_12 : decode cX11_acted 12 = .ok (.invokevirtual 214, 3) := by decide +kernel
theorem dX11_acted_15 : decode cX11_acted 15 = .ok (.iload_n 1, 1) := by decide +kernel
theorem dX11_acted_16 : decode cX11_acted 16 = .ok (.ireturn, 1) := by decide +kernel
def f_X11_acted (N : Nat) (σ : uS) (p1 : Int32) : Option (Int32 × uS) := if p1 < 0 then (some (p1, σ)) else ((f_X3_push N σ 44).bind fun s1 =>
  some (p1, s1))
set_option maxRecDepth 100000 in
set_option maxHeartbeats 4000000 in
theorem c_X11_acted (l : Launch) (G : uG) (N : Nat) (σ : uS) (p1 : Int32) (z : (Int32 × uS)) (hz : f_X11_acted N σ p1 = some z) : u_Mi l ZC G yX11_acted cX11_acted 2 .int 3 [.ref (G.2.2 0), .int p1] σ z.1 z.2 := by
  refine u_Mi_of RX11 (by decide) rfl (Nat.le_of_ble_eq_true rfl) ?_
  intro p e s m args below meth c ls cx hw hl
  have hx := cx.1
  have hb := cx.2.1
  have hl : lv_has ls 2 [(0, .ref (G.2.2 0)), (1, .int p1)] := hl
  unfold f_X11_acted at hz
  refine lv_iload_n hx hb dX11_acted_0 rfl (lv_at hl 1 rfl) ?_
  refine lv_if_lt (tgt := 15) hx hb dX11_acted_1 (by decide) (fun hc => ?_) (fun hc => ?_)
  · replace hz := u_ift hz hc
    refine lv_iload_n hx hb dX11_acted_15 rfl (lv_at hl 1 rfl) ?_
    exact u_iret cx hw (u_pair hz) dX11_acted_16
  · replace hz := u_iff hz hc
    refine lv_aload_n hx hb dX11_acted_4 rfl (lv_at hl 0 rfl) ?_
    refine u_getp cx hw F_X11_39 o_X11 rfl dX11_acted_5 ?_
    refine lv_aload_n hx hb dX11_acted_8 rfl (lv_at hl 0 rfl) ?_
    refine u_getp cx hw F_X11_33 o_X11 rfl dX11_acted_9 ?_
    obtain ⟨s1, hs1, hz⟩ := u_bind hz
    refine u_callVv (As := [.ref (G.2.2 44)]) (rest := []) cx hw LV_X11_214 (c_X3_push l G N σ 44 oS_44 s1 hs1) o_X3 rfl (by decide) hl.1 rfl (Nat.le_of_ble_eq_true rfl) dX11_acted_12 rfl (fun H locs hw => ?_)
    refine lv_iload_n hx hb dX11_acted_15 rfl (lv_at hl 1 rfl) ?_
    exact u_iret cx hw (u_pair hz) dX11_acted_16
theorem dX11_tellFraction_0 : decode cX11_tellFraction 0 = .ok (.lload_n 1, 1) := by decide +kernel
theorem dX11_tellFraction_1 : decode cX11_tellFraction 1 = .ok (.lconst 0, 1) := by decide +kernel
theorem dX11_tellFraction_2 : decode cX11_tellFraction 2 = .ok (.lcmp, 1) := by decide +kernel
theorem dX11_tellFraction_3 : decode cX11_tellFraction 3 = .ok (.ifCond .le 9, 3) := by decide +kernel
theorem dX11_tellFraction_6 : decode cX11_tellFraction 6 = .ok (.lload_n 3, 1) := by decide +kernel
theorem dX11_tellFraction_7 : decode cX11_tellFraction 7 = .ok (.lconst 0, 1) := by decide +kernel
theorem dX11_tellFraction_8 : decode cX11_tellFraction 8 = .ok (.lcmp, 1) := by decide +kernel
theorem dX11_tellFraction_9 : decode cX11_tellFraction 9 = .ok (.ifCond .gt 13, 3) := by decide +kernel
theorem dX11_tellFraction_12 : decode cX11_tellFraction 12 = .ok (.aload_n 0, 1) := by decide +kernel
theorem dX11_tellFraction_13 : decode cX11_tellFraction 13 = .ok (.getfield 19, 3) := by decide +kernel
theorem dX11_tellFraction_16 : decode cX11_tellFraction 16 = .ok (.lconst 0, 1) := by decide +kernel
theorem dX11_tellFraction_17 : decode cX11_tellFraction 17 = .ok (.lconst 1, 1) := by decide +kernel
theorem dX11_tellFraction_18 : decode cX11_tellFraction 18 = .ok (.invokevirtual 220, 3) := by decide +kernel
theorem dX11_tellFraction_21 : decode cX11_tellFraction 21 = .ok (.return_, 1) := by decide +kernel
theorem dX11_tellFraction_22 : decode cX11_tellFraction 22 = .ok (.lload_n 1, 1) := by decide +kernel
theorem dX11_tellFraction_23 : decode cX11_tellFraction 23 = .ok (.lload_n 3, 1) := by decide +kernel
theorem dX11_tellFraction_24 : decode cX11_tellFraction 24 = .ok (.invokestatic 318, 3) := by decide +kernel
theorem dX11_tellFraction_27 : decode cX11_tellFraction 27 = .ok (.lstore 5, 2) := by decide +kernel
theorem dX11_tellFraction_29 : decode cX11_tellFraction 29 = .ok (.lload 5, 2) := by decide +kernel
theorem dX11_tellFraction_31 : decode cX11_tellFraction 31 = .ok (.lconst 0, 1) := by decide +kernel
theorem dX11_tellFraction_32 : decode cX11_tellFraction 32 = .ok (.lcmp, 1) := by decide +kernel
theorem dX11_tellFraction_33 : decode cX11_tellFraction 33 = .ok (.ifCond .le 18, 3) := by decide +kernel
theorem dX11_tellFraction_36 : decode cX11_tellFraction 36 = .ok (.aload_n 0, 1) := by decide +kernel
theorem dX11_tellFraction_37 : decode cX11_tellFraction 37 = .ok (.getfield 19, 3) := by decide +kernel
theorem dX11_tellFraction_40 : decode cX11_tellFraction 40 = .ok (.lload_n 1, 1) := by decide +kernel
theorem dX11_tellFraction_41 : decode cX11_tellFraction 41 = .ok (.lload 5, 2) := by decide +kernel
theorem dX11_tellFraction_43 : decode cX11_tellFraction 43 = .ok (.ldiv, 1) := by decide +kernel
theorem dX11_tellFraction_44 : decode cX11_tellFraction 44 = .ok (.lload_n 3, 1) := by decide +kernel
theorem dX11_tellFraction_45 : decode cX11_tellFraction 45 = .ok (.lload 5, 2) := by decide +kernel
theorem dX11_tellFraction_47 : decode cX11_tellFraction 47 = .ok (.ldiv, 1) := by decide +kernel
theorem dX11_tellFraction_48 : decode cX11_tellFraction 48 = .ok (.invokevirtual 220, 3) := by decide +kernel
theorem dX11_tellFraction_51 : decode cX11_tellFraction 51 = .ok (.return_, 1) := by decide +kernel
def f_X11_tellFraction (N : Nat) (σ : uS) (p1 : Int64) (p3 : Int64) : Option uS := u_jn (((f_X8_two N σ 0 1).bind fun s2 =>
  some s2 : Option uS)) fun J12_1 =>
  if (lg_cmp p1 0) ≤ 0 then (J12_1) else (if 0 < (lg_cmp p3 0) then ((f_X11_commonDivisor N σ p1 p3).bind fun v3 =>
  if (lg_cmp v3 0) ≤ 0 then (some σ) else (u_ck (¬ (v3 : Int64) = 0) <|
  u_ck (¬ (v3 : Int64) = 0) <|
  (f_X8_two N σ (p1 / v3) (p3 / v3)).bind fun s4 =>
  some s4)) else (J12_1))
set_option maxRecDepth 100000 in
set_option maxHeartbeats 4000000 in
theorem c_X11_tellFraction (l : Launch) (G : uG) (N : Nat) (σ : uS) (p1 : Int64) (p3 : Int64) (z : uS) (hz : f_X11_tellFraction N σ p1 p3 = some z) : u_Mv l ZC G yX11_tellFraction cX11_tellFraction 7 2 [.ref (G.2.2 0), .long p1, .long p3] σ z := by
  refine u_Mv_of RX11 (by decide) rfl (Nat.le_of_ble_eq_true rfl) ?_
  intro p e s m args below meth c ls cx hw hl
  have hx := cx.1
  have hb := cx.2.1
  have hl : lv_has ls 7 [(0, .ref (G.2.2 0)), (1, .long p1), (3, .long p3)] := hl
  unfold f_X11_tellFraction at hz
  refine lv_lload_n hx hb dX11_tellFraction_0 rfl (lv_at hl 1 rfl) ?_
  refine lv_lconst (v := 0) hx hb dX11_tellFraction_1 (by decide) ?_
  refine W.lcmp hx hb dX11_tellFraction_2 ?_
  obtain ⟨J12_1, eJ12_1, hz⟩ := u_let hz
  have WJ12_1 : ∀ (H : Heap) (locs : List Loc) (ls : Array Slot), J12_1 = some z → u_W ZC G σ s H locs → lv_has ls 7 [(0, .ref (G.2.2 0))] → W p l e (u_rm 2) s m args below meth c H locs 0 0 (u_Qv below ZC G s args z) (F0 m 12 ls []) := by
    intro H locs ls hz hw hl
    rw [eJ12_1] at hz
    refine lv_aload_n hx hb dX11_tellFraction_12 rfl (lv_at hl 0 rfl) ?_
    refine u_getp cx hw F_X11_19 o_X11 rfl dX11_tellFraction_13 ?_
    refine lv_lconst (v := 0) hx hb dX11_tellFraction_16 (by decide) ?_
    refine lv_lconst (v := 1) hx hb dX11_tellFraction_17 (by decide) ?_
    obtain ⟨s2, hs2, hz⟩ := u_bind hz
    refine u_callVv (As := [.long 0, .long 1]) (rest := []) cx hw LV_X11_220 (c_X8_two l G N σ 0 1 s2 hs2) o_X8 rfl (by decide) hl.1 rfl (Nat.le_of_ble_eq_true rfl) dX11_tellFraction_18 rfl (fun H locs hw => ?_)
    exact u_vret cx hw (Option.some.inj hz) dX11_tellFraction_21
  refine lv_if_le (tgt := 12) hx hb dX11_tellFraction_3 (by decide) (fun hc => ?_) (fun hc => ?_)
  · replace hz := u_ift hz hc
    exact WJ12_1 _ _ _ hz hw (lv_sub hl [0] rfl)
  · replace hz := u_iff hz hc
    refine lv_lload_n hx hb dX11_tellFraction_6 rfl (lv_at hl 2 rfl) ?_
    refine lv_lconst (v := 0) hx hb dX11_tellFraction_7 (by decide) ?_
    refine W.lcmp hx hb dX11_tellFraction_8 ?_
    refine lv_if_gt (tgt := 22) hx hb dX11_tellFraction_9 (by decide) (fun hc => ?_) (fun hc => ?_)
    · replace hz := u_ift hz hc
      refine lv_lload_n hx hb dX11_tellFraction_22 rfl (lv_at hl 1 rfl) ?_
      refine lv_lload_n hx hb dX11_tellFraction_23 rfl (lv_at hl 2 rfl) ?_
      obtain ⟨v3, hv3, hz⟩ := u_bind hz
      refine u_callSl (As := [.long p1, .long p3]) (rest := []) cx hw LS_X11_318 (c_X11_commonDivisor l G N σ p1 p3 v3 hv3) (by decide) hl.1 rfl (Nat.le_of_ble_eq_true rfl) dX11_tellFraction_24 rfl (fun H locs hw => ?_)
      refine lv_lstore (lv' := [(5, .long v3), (0, .ref (G.2.2 0)), (1, .long p1), (3, .long p3)]) hx hb dX11_tellFraction_27 hl (by decide) rfl (fun ls hl => ?_)
      refine lv_lload hx hb dX11_tellFraction_29 (lv_at hl 0 rfl) ?_
      refine lv_lconst (v := 0) hx hb dX11_tellFraction_31 (by decide) ?_
      refine W.lcmp hx hb dX11_tellFraction_32 ?_
      refine lv_if_le (tgt := 51) hx hb dX11_tellFraction_33 (by decide) (fun hc => ?_) (fun hc => ?_)
      · replace hz := u_ift hz hc
        exact u_vret cx hw (Option.some.inj hz) dX11_tellFraction_51
      · replace hz := u_iff hz hc
        refine lv_aload_n hx hb dX11_tellFraction_36 rfl (lv_at hl 1 rfl) ?_
        refine u_getp cx hw F_X11_19 o_X11 rfl dX11_tellFraction_37 ?_
        refine lv_lload_n hx hb dX11_tellFraction_40 rfl (lv_at hl 2 rfl) ?_
        refine lv_lload hx hb dX11_tellFraction_41 (lv_at hl 0 rfl) ?_
        obtain ⟨hne, hz⟩ := u_ck_some hz
        refine lv_ldiv hx hb dX11_tellFraction_43 hne ?_
        refine lv_lload_n hx hb dX11_tellFraction_44 rfl (lv_at hl 3 rfl) ?_
        refine lv_lload hx hb dX11_tellFraction_45 (lv_at hl 0 rfl) ?_
        obtain ⟨hne, hz⟩ := u_ck_some hz
        refine lv_ldiv hx hb dX11_tellFraction_47 hne ?_
        obtain ⟨s4, hs4, hz⟩ := u_bind hz
        refine u_callVv (As := [.long (p1 / v3), .long (p3 / v3)]) (rest := []) cx hw LV_X11_220 (c_X8_two l G N σ (p1 / v3) (p3 / v3) s4 hs4) o_X8 rfl (by decide) hl.1 rfl (Nat.le_of_ble_eq_true rfl) dX11_tellFraction_48 rfl (fun H locs hw => ?_)
        exact u_vret cx hw (Option.some.inj hz) dX11_tellFraction_51
    · replace hz := u_iff hz hc
      exact WJ12_1 _ _ _ hz hw (lv_sub hl [0] rfl)
theorem dX11_depends_0 : decode cX11_depends 0 = .ok (.aload_n 0, 1) := by decide +kernel
theorem dX11_depends_1 : decode cX11_depends 1 = .ok (.getfield 26, 3) := by decide +kernel
theorem dX11_depends_4 : decode cX11_depends 4 = .ok (.iload_n 1, 1) := by decide +kernel
theorem dX11_depends_5 : decode cX11_depends 5 = .ok (.invokevirtual 156, 3) := by decide +kernel
theorem dX11_depends_8 : decode cX11_depends 8 = .ok (.ifCond .ne 5, 3) := by decide +kernel
theorem dX11_depends_11 : decode cX11_depends 11 = .ok (.iconst (-1), 1) := by decide +kernel
theorem dX11_depends_12 : decode cX11_depends 12 = .ok (.ireturn, 1) := by decide +kernel
theorem dX11_depends_13 : decode cX11_depends 13 = .ok (.aload_n 0, 1) := by decide +kernel
theorem dX11_depends_14 : decode cX11_depends 14 = .ok (.iload_n 1, 1) := by decide +kernel
theorem dX11_depends_15 : decode cX11_depends 15 = .ok (.invokevirtual 322, 3) := by decide +kernel
theorem dX11_depends_18 : decode cX11_depends 18 = .ok (.istore_n 2, 1) := by decide +kernel
theorem dX11_depends_19 : decode cX11_depends 19 = .ok (.iconst 0, 1) := by decide +kernel
theorem dX11_depends_20 : decode cX11_depends 20 = .ok (.istore_n 3, 1) := by decide +kernel
theorem dX11_depends_21 : decode cX11_depends 21 = .ok (.iconst 0, 1) := by decide +kernel
theorem dX11_depends_22 : decode cX11_depends 22 = .ok (.istore 4, 2) := by decide +kernel
theorem dX11_depends_24 : decode cX11_depends 24 = .ok (.iload 4, 2) := by decide +kernel
theorem dX11_depends_26 : decode cX11_depends 26 = .ok (.aload_n 0, 1) := by decide +kernel
theorem dX11_depends_27 : decode cX11_depends 27 = .ok (.getfield 26, 3) := by decide +kernel
theorem dX11_depends_30 : decode cX11_depends 30 = .ok (.getfield 122, 3) := by decide +kernel
theorem dX11_depends_33 : decode cX11_depends 33 = .ok (.if_icmp .ge 22, 3) := by decide +kernel
theorem dX11_depends_36 : decode cX11_depends 36 = .ok (.iload_n 3, 1) := by decide +kernel
theorem dX11_depends_37 : decode cX11_depends 37 = .ok (.aload_n 0, 1) := by decide +kernel
theorem dX11_depends_38 : decode cX11_depends 38 = .ok (.iload 4, 2) := by decide +kernel
theorem dX11_depends_40 : decode cX11_depends 40 = .ok (.invokevirtual 322, 3) := by decide +kernel
theorem dX11_depends_43 : decode cX11_depends 43 = .ok (.iload_n 1, 1) := by decide +kernel
theorem dX11_depends_44 : decode cX11_depends 44 = .ok (.ishr, 1) := by decide +kernel
theorem dX11_depends_45 : decode cX11_depends 45 = .ok (.iconst 1, 1) := by decide +kernel
theorem dX11_depends_46 : decode cX11_depends 46 = .ok (.iand, 1) := by decide +kernel
theorem dX11_depends_47 : decode cX11_depends 47 = .ok (.iadd, 1) := by decide +kernel
theorem dX11_depends_48 : decode cX11_depends 48 = .ok (.istore_n 3, 1) := by decide +kernel
theorem dX11_depends_49 : decode cX11_depends 49 = .ok (.iinc 4 1, 3) := by decide +kernel
theorem dX11_depends_52 : decode cX11_depends 52 = .ok (.goto (-28), 3) := by decide +kernel
theorem dX11_depends_55 : decode cX11_depends 55 = .ok (.aload_n 0, 1) := by decide +kernel
theorem dX11_depends_56 : decode cX11_depends 56 = .ok (.getfield 19, 3) := by decide +kernel
theorem dX11_depends_59 : decode cX11_depends 59 = .ok (.iload_n 2, 1) := by decide +kernel
theorem dX11_depends_60 : decode cX11_depends 60 = .ok (.invokestatic 181, 3) := by decide +kernel
theorem dX11_depends_63 : decode cX11_depends 63 = .ok (.i2l, 1) := by decide +kernel
theorem dX11_depends_64 : decode cX11_depends 64 = .ok (.iload_n 3, 1) := by decide +kernel
theorem dX11_depends_65 : decode cX11_depends 65 = .ok (.i2l, 1) := by decide +kernel
theorem dX11_depends_66 : decode cX11_depends 66 = .ok (.invokevirtual 220, 3) := by decide +kernel
theorem dX11_depends_69 : decode cX11_depends 69 = .ok (.iload_n 2, 1) := by decide +kernel
theorem dX11_depends_70 : decode cX11_depends 70 = .ok (.ireturn, 1) := by decide +kernel
def b_X11_depends_24 (N : Nat) (σ : uS) (p1 : Int32) (J55_4 : Int32 → Option (Int32 × uS)) (rec24_9 : Int32 → Int32 → Option (Int32 × uS)) (x7 : Int32) (x8 : Int32) : Option (Int32 × uS) :=
  if (σ.1 32 8) ≤ x8 then (J55_4 x7) else ((f_X11_dependsOn N σ x8).bind fun v10 =>
  u_jn ((x7 + ((v10 >>> (p1 &&& 31)) &&& 1)) : Int32) fun x11 =>
  u_jn (x8 + 1 : Int32) fun x12 =>
  rec24_9 x11 x12)
def f_X11_depends (N : Nat) (σ : uS) (p1 : Int32) : Option (Int32 × uS) := (f_X7_isPerson N σ 32 p1).bind fun v1 =>
  if v1 = 0 then (some ((-1), σ)) else ((f_X11_dependsOn N σ p1).bind fun v2 =>
  u_jn (fun (x3 : Int32) => ((f_J6_bitCount_0f7a4 N σ v2).bind fun v5 =>
  (f_X8_two N σ (Int32.toInt64 v5) (Int32.toInt64 x3)).bind fun s6 =>
  some (v2, s6) : Option (Int32 × uS))) fun J55_4 =>
  u_lp2 (b_X11_depends_24 N σ p1 J55_4) N 0 0)
set_option maxRecDepth 100000 in
set_option maxHeartbeats 4000000 in
theorem c_X11_depends (l : Launch) (G : uG) (N : Nat) (σ : uS) (p1 : Int32) (z : (Int32 × uS)) (hz : f_X11_depends N σ p1 = some z) : u_Mi l ZC G yX11_depends cX11_depends 5 .int 3 [.ref (G.2.2 0), .int p1] σ z.1 z.2 := by
  refine u_Mi_of RX11 (by decide) rfl (Nat.le_of_ble_eq_true rfl) ?_
  intro p e s m args below meth c ls cx hw hl
  have hx := cx.1
  have hb := cx.2.1
  have hl : lv_has ls 5 [(0, .ref (G.2.2 0)), (1, .int p1)] := hl
  unfold f_X11_depends at hz
  refine lv_aload_n hx hb dX11_depends_0 rfl (lv_at hl 0 rfl) ?_
  refine u_getp cx hw F_X11_26 o_X11 rfl dX11_depends_1 ?_
  refine lv_iload_n hx hb dX11_depends_4 rfl (lv_at hl 1 rfl) ?_
  obtain ⟨v1, hv1, hz⟩ := u_bind hz
  refine u_callVi (As := [.int p1]) (rest := []) cx hw LV_X11_156 (c_X7_isPerson l G N σ 32 oS_32 p1 v1 hv1) oS_32 rfl (by decide) hl.1 rfl (Nat.le_of_ble_eq_true rfl) dX11_depends_5 rfl (fun H locs hw => ?_)
  refine lv_if_ne (tgt := 13) hx hb dX11_depends_8 (by decide) (fun hc => ?_) (fun hc => ?_)
  · replace hz := u_iff hz hc
    refine lv_aload_n hx hb dX11_depends_13 rfl (lv_at hl 0 rfl) ?_
    refine lv_iload_n hx hb dX11_depends_14 rfl (lv_at hl 1 rfl) ?_
    obtain ⟨v2, hv2, hz⟩ := u_bind hz
    refine u_callVi (As := [.int p1]) (rest := []) cx hw LV_X11_322 (c_X11_dependsOn l G N σ p1 v2 hv2) o_X11 rfl (by decide) hl.1 rfl (Nat.le_of_ble_eq_true rfl) dX11_depends_15 rfl (fun H locs hw => ?_)
    refine lv_istore_n (lv' := [(2, .int v2), (0, .ref (G.2.2 0)), (1, .int p1)]) hx hb dX11_depends_18 rfl hl (by decide) rfl (fun ls hl => ?_)
    refine lv_iconst (v := 0) hx hb dX11_depends_19 (by decide) ?_
    refine lv_istore_n (lv' := [(3, .int 0), (2, .int v2), (0, .ref (G.2.2 0)), (1, .int p1)]) hx hb dX11_depends_20 rfl hl (by decide) rfl (fun ls hl => ?_)
    refine lv_iconst (v := 0) hx hb dX11_depends_21 (by decide) ?_
    refine lv_istore (lv' := [(4, .int 0), (3, .int 0), (2, .int v2), (0, .ref (G.2.2 0)), (1, .int p1)]) hx hb dX11_depends_22 hl (by decide) rfl (fun ls hl => ?_)
    obtain ⟨J55_4, eJ55_4, hz⟩ := u_let hz
    have WJ55_4 : ∀ (x3 : Int32) (H : Heap) (locs : List Loc) (ls : Array Slot), J55_4 x3 = some z → u_W ZC G σ s H locs → lv_has ls 5 [(0, .ref (G.2.2 0)), (2, .int v2), (3, .int x3)] → W p l e (u_rm 3) s m args below meth c H locs 0 0 (u_Qi below ZC G s args z.1 z.2) (F0 m 55 ls []) := by
      intro x3 H locs ls hz hw hl
      rw [eJ55_4] at hz
      refine lv_aload_n hx hb dX11_depends_55 rfl (lv_at hl 0 rfl) ?_
      refine u_getp cx hw F_X11_19 o_X11 rfl dX11_depends_56 ?_
      refine lv_iload_n hx hb dX11_depends_59 rfl (lv_at hl 1 rfl) ?_
      obtain ⟨v5, hv5, hz⟩ := u_bind hz
      refine u_callSi (As := [.int v2]) (rest := [.ref (G.2.2 3)]) cx hw LS_X11_181 (c_J6_bitCount_0f7a4 l G ZC N σ v2 v5 hv5) (by decide) hl.1 rfl (Nat.le_of_ble_eq_true rfl) dX11_depends_60 rfl (fun H locs hw => ?_)
      refine lv_i2l (v := (Int32.toInt64 v5)) hx hb dX11_depends_63 rfl ?_
      refine lv_iload_n hx hb dX11_depends_64 rfl (lv_at hl 2 rfl) ?_
      refine lv_i2l (v := (Int32.toInt64 x3)) hx hb dX11_depends_65 rfl ?_
      obtain ⟨s6, hs6, hz⟩ := u_bind hz
      refine u_callVv (As := [.long (Int32.toInt64 v5), .long (Int32.toInt64 x3)]) (rest := []) cx hw LV_X11_220 (c_X8_two l G N σ (Int32.toInt64 v5) (Int32.toInt64 x3) s6 hs6) o_X8 rfl (by decide) hl.1 rfl (Nat.le_of_ble_eq_true rfl) dX11_depends_66 rfl (fun H locs hw => ?_)
      refine lv_iload_n hx hb dX11_depends_69 rfl (lv_at hl 1 rfl) ?_
      exact u_iret cx hw (u_pair hz) dX11_depends_70
    have WL24_12 : ∀ (k : Nat) (x7 : Int32) (x8 : Int32) (H : Heap) (locs : List Loc) (ls : Array Slot), u_lp2 (b_X11_depends_24 N σ p1 J55_4) k x7 x8 = some z → u_W ZC G σ s H locs → lv_has ls 5 [(0, .ref (G.2.2 0)), (1, .int p1), (2, .int v2), (3, .int x7), (4, .int x8)] → W p l e (u_rm 3) s m args below meth c H locs 0 0 (u_Qi below ZC G s args z.1 z.2) (F0 m 24 ls []) := by
      intro k
      induction k with
      | zero =>
        intro x7 x8 H locs ls hz
        exact absurd hz (by intro h9; cases h9)
      | succ k ih24_9 =>
        intro x7 x8 H locs ls hz hw hl
        have hz : (b_X11_depends_24 N σ p1 J55_4) (u_lp2 (b_X11_depends_24 N σ p1 J55_4) k) x7 x8 = some z := hz
        unfold b_X11_depends_24 at hz
        refine lv_iload hx hb dX11_depends_24 (lv_at hl 4 rfl) ?_
        refine lv_aload_n hx hb dX11_depends_26 rfl (lv_at hl 0 rfl) ?_
        refine u_getp cx hw F_X11_26 o_X11 rfl dX11_depends_27 ?_
        refine u_geti cx hw F_X11_122 oS_32 rfl dX11_depends_30 ?_
        refine lv_icmp_ge (tgt := 55) hx hb dX11_depends_33 (by decide) (fun hc => ?_) (fun hc => ?_)
        · replace hz := u_ift hz hc
          exact WJ55_4 x7 _ _ _ hz hw (lv_sub hl [0, 2, 3] rfl)
        · replace hz := u_iff hz hc
          refine lv_iload_n hx hb dX11_depends_36 rfl (lv_at hl 3 rfl) ?_
          refine lv_aload_n hx hb dX11_depends_37 rfl (lv_at hl 0 rfl) ?_
          refine lv_iload hx hb dX11_depends_38 (lv_at hl 4 rfl) ?_
          obtain ⟨v10, hv10, hz⟩ := u_bind hz
          refine u_callVi (As := [.int x8]) (rest := [.int x7]) cx hw LV_X11_322 (c_X11_dependsOn l G N σ x8 v10 hv10) o_X11 rfl (by decide) hl.1 rfl (Nat.le_of_ble_eq_true rfl) dX11_depends_40 rfl (fun H locs hw => ?_)
          refine lv_iload_n hx hb dX11_depends_43 rfl (lv_at hl 1 rfl) ?_
          refine lv_ishr hx hb dX11_depends_44 ?_
          refine lv_iconst (v := 1) hx hb dX11_depends_45 (by decide) ?_
          refine lv_iand hx hb dX11_depends_46 ?_
          refine lv_iadd hx hb dX11_depends_47 ?_
          obtain ⟨x11, ex11, hz⟩ := u_let hz
          refine u_topi ex11 ?_
          refine lv_istore_n (lv' := [(3, .int x11), (0, .ref (G.2.2 0)), (1, .int p1), (2, .int v2), (4, .int x8)]) hx hb dX11_depends_48 rfl hl (by decide) rfl (fun ls hl => ?_)
          obtain ⟨x12, ex12, hz⟩ := u_let hz
          refine lv_iinc (v := x12) (lv' := [(4, .int x12), (3, .int x11), (0, .ref (G.2.2 0)), (1, .int p1), (2, .int v2)]) hx hb dX11_depends_49 hl (k := 4) rfl (by rw [ex12]; rfl) (by decide) rfl (fun ls hl => ?_)
          refine lv_goto (tgt := 24) hx hb dX11_depends_52 (by decide) ?_
          exact ih24_9 x11 x12 _ _ _ hz hw (lv_sub hl [2, 3, 4, 1, 0] rfl)
    exact WL24_12 N 0 0 _ _ _ hz hw (lv_sub hl [3, 4, 2, 1, 0] rfl)
  · replace hz := u_ift hz hc
    refine lv_iconst (v := (-1)) hx hb dX11_depends_11 (by decide) ?_
    exact u_iret cx hw (u_pair hz) dX11_depends_12
theorem dX11_knows_0 : decode cX11_knows 0 = .ok (.iload_n 1, 1) := by decide +kernel
theorem dX11_knows_1 : decode cX11_knows 1 = .ok (.ifCond .lt 9, 3) := by decide +kernel
theorem dX11_knows_4 : decode cX11_knows 4 = .ok (.iload_n 1, 1) := by decide +kernel
theorem dX11_knows_5 : decode cX11_knows 5 = .ok (.bipush 9, 2) := by decide +kernel
theorem dX11_knows_7 : decode cX11_knows 7 = .ok (.if_icmp .le 5, 3) := by decide +kernel
theorem dX11_knows_10 : decode cX11_knows 10 = .ok (.iconst (-1), 1) := by decide +kernel
theorem dX11_knows_11 : decode cX11_knows 11 = .ok (.ireturn, 1) := by decide +kernel
theorem dX11_knows_12 : decode cX11_knows 12 = .ok (.aload_n 0, 1) := by decide +kernel
theorem dX11_knows_13 : decode cX11_knows 13 = .ok (.getfield 26, 3) := by decide +kernel
theorem dX11_knows_16 : decode cX11_knows 16 = .ok (.invokevirtual 335, 3) := by decide +kernel
theorem dX11_knows_19 : decode cX11_knows 19 = .ok (.istore_n 2, 1) := by decide +kernel
theorem dX11_knows_20 : decode cX11_knows 20 = .ok (.iload_n 2, 1) := by decide +kernel
theorem dX11_knows_21 : decode cX11_knows 21 = .ok (.istore_n 3, 1) := by decide +kernel
theorem dX11_knows_22 : decode cX11_knows 22 = .ok (.iconst 0, 1) := by decide +kernel
theorem dX11_knows_23 : decode cX11_knows 23 = .ok (.istore 4, 2) := by decide +kernel
theorem dX11_knows_25 : decode cX11_knows 25 = .ok (.iconst 1, 1) := by decide +kernel
theorem dX11_knows_26 : decode cX11_knows 26 = .ok (.istore 5, 2) := by decide +kernel
theorem dX11_knows_28 : decode cX11_knows 28 = .ok (.iload 5, 2) := by decide +kernel
theorem dX11_knows_30 : decode cX11_knows 30 = .ok (.bipush 9, 2) := by decide +kernel
theorem dX11_knows_32 : decode cX11_knows 32 = .ok (.if_icmp .gt 47, 3) := by decide +kernel
theorem dX11_knows_35 : decode cX11_knows 35 = .ok (.aload_n 0, 1) := by decide +kernel
theorem dX11_knows_36 : decode cX11_knows 36 = .ok (.iload_n 2, 1) := by decide +kernel
theorem dX11_knows_37 : decode cX11_knows 37 = .ok (.invokevirtual 338, 3) := by decide +kernel
theorem dX11_knows_40 : decode cX11_knows 40 = .ok (.istore 6, 2) := by decide +kernel
theorem dX11_knows_42 : decode cX11_knows 42 = .ok (.iload 6, 2) := by decide +kernel
theorem dX11_knows_44 : decode cX11_knows 44 = .ok (.iload_n 2, 1) := by decide +kernel
theorem dX11_knows_45 : decode cX11_knows 45 = .ok (.if_icmp .ne 8, 3) := by decide +kernel
theorem dX11_knows_48 : decode cX11_knows 48 = .ok (.iload 4, 2) := by decide +kernel
theorem dX11_knows_50 : decode cX11_knows 50 = .ok (.goto 5, 3) := by decide +kernel
theorem dX11_knows_53 : decode cX11_knows 53 = .ok (.iload 5, 2) := by decide +kernel
theorem dX11_knows_55 : decode cX11_knows 55 = .ok (.istore 4, 2) := by decide +kernel
theorem dX11_knows_57 : decode cX11_knows 57 = .ok (.iload 6, 2) := by decide +kernel
theorem dX11_knows_59 : decode cX11_knows 59 = .ok (.istore_n 2, 1) := by decide +kernel
theorem dX11_knows_60 : decode cX11_knows 60 = .ok (.iload 5, 2) := by decide +kernel
theorem dX11_knows_62 : decode cX11_knows 62 = .ok (.iload_n 1, 1) := by decide +kernel
theorem dX11_knows_63 : decode cX11_knows 63 = .ok (.if_icmp .ne 8, 3) := by decide +kernel
theorem dX11_knows_66 : decode cX11_knows 66 = .ok (.iload 6, 2) := by decide +kernel
theorem dX11_knows_68 : decode cX11_knows 68 = .ok (.goto 4, 3) := by decide +kernel
theorem dX11_knows_71 : decode cX11_knows 71 = .ok (.iload_n 3, 1) := by decide +kernel
theorem dX11_knows_72 : decode cX11_knows 72 = .ok (.istore_n 3, 1) := by decide +kernel
theorem dX11_knows_73 : decode cX11_knows 73 = .ok (.iinc 5 1, 3) := by decide +kernel
theorem dX11_knows_76 : decode cX11_knows 76 = .ok (.goto (-48), 3) := by decide +kernel
theorem dX11_knows_79 : decode cX11_knows 79 = .ok (.aload_n 0, 1) := by decide +kernel
theorem dX11_knows_80 : decode cX11_knows 80 = .ok (.getfield 19, 3) := by decide +kernel
theorem dX11_knows_83 : decode cX11_knows 83 = .ok (.iload_n 3, 1) := by decide +kernel
theorem dX11_knows_84 : decode cX11_knows 84 = .ok (.invokestatic 181, 3) := by decide +kernel
theorem dX11_knows_87 : decode cX11_knows 87 = .ok (.i2l, 1) := by decide +kernel
theorem dX11_knows_88 : decode cX11_knows 88 = .ok (.iload 4, 2) := by decide +kernel
theorem dX11_knows_90 : decode cX11_knows 90 = .ok (.i2l, 1) := by decide +kernel
theorem dX11_knows_91 : decode cX11_knows 91 = .ok (.invokevirtual 220, 3) := by decide +kernel
theorem dX11_knows_94 : decode cX11_knows 94 = .ok (.iload_n 3, 1) := by decide +kernel
theorem dX11_knows_95 : decode cX11_knows 95 = .ok (.ireturn, 1) := by decide +kernel
def b_X11_knows_28 (N : Nat) (σ : uS) (p1 : Int32) (J79_4 : Int32 → Int32 → Option (Int32 × uS)) (rec28_11 : Int32 → Int32 → Int32 → Int32 → Option (Int32 × uS)) (x7 : Int32) (x8 : Int32) (x9 : Int32) (x10 : Int32) : Option (Int32 × uS) :=
  if 9 < x10 then (J79_4 x8 x9) else ((f_X11_knowsDeeper N σ x7).bind fun v12 =>
  u_jn (fun (t13 : Int32) => (u_jn (fun (t15 : Int32) => (u_jn (x10 + 1 : Int32) fun x17 =>
  rec28_11 v12 t15 t13 x17 : Option (Int32 × uS))) fun J72_16 =>
  if x10 = p1 then (J72_16 v12) else (J72_16 x8) : Option (Int32 × uS))) fun J55_14 =>
  if v12 = x7 then (J55_14 x9) else (J55_14 x10))
def f_X11_knows (N : Nat) (σ : uS) (p1 : Int32) : Option (Int32 × uS) := if p1 < 0 then (some ((-1), σ)) else (if p1 ≤ 9 then ((f_X7_outside N σ 32).bind fun v1 =>
  u_jn (fun (x2 : Int32) (x3 : Int32) => ((f_J6_bitCount_0f7a4 N σ x2).bind fun v5 =>
  (f_X8_two N σ (Int32.toInt64 v5) (Int32.toInt64 x3)).bind fun s6 =>
  some (x2, s6) : Option (Int32 × uS))) fun J79_4 =>
  u_lp4 (b_X11_knows_28 N σ p1 J79_4) N v1 v1 0 1) else (some ((-1), σ)))
set_option maxRecDepth 100000 in
set_option maxHeartbeats 4000000 in
theorem c_X11_knows (l : Launch) (G : uG) (N : Nat) (σ : uS) (p1 : Int32) (z : (Int32 × uS)) (hz : f_X11_knows N σ p1 = some z) : u_Mi l ZC G yX11_knows cX11_knows 7 .int 3 [.ref (G.2.2 0), .int p1] σ z.1 z.2 := by
  refine u_Mi_of RX11 (by decide) rfl (Nat.le_of_ble_eq_true rfl) ?_
  intro p e s m args below meth c ls cx hw hl
  have hx := cx.1
  have hb := cx.2.1
  have hl : lv_has ls 7 [(0, .ref (G.2.2 0)), (1, .int p1)] := hl
  unfold f_X11_knows at hz
  refine lv_iload_n hx hb dX11_knows_0 rfl (lv_at hl 1 rfl) ?_
  refine lv_if_lt (tgt := 10) hx hb dX11_knows_1 (by decide) (fun hc => ?_) (fun hc => ?_)
  · replace hz := u_ift hz hc
    refine lv_iconst (v := (-1)) hx hb dX11_knows_10 (by decide) ?_
    exact u_iret cx hw (u_pair hz) dX11_knows_11
  · replace hz := u_iff hz hc
    refine lv_iload_n hx hb dX11_knows_4 rfl (lv_at hl 1 rfl) ?_
    refine lv_bipush (v := 9) hx hb dX11_knows_5 (by decide) ?_
    refine lv_icmp_le (tgt := 12) hx hb dX11_knows_7 (by decide) (fun hc => ?_) (fun hc => ?_)
    · replace hz := u_ift hz hc
      refine lv_aload_n hx hb dX11_knows_12 rfl (lv_at hl 0 rfl) ?_
      refine u_getp cx hw F_X11_26 o_X11 rfl dX11_knows_13 ?_
      obtain ⟨v1, hv1, hz⟩ := u_bind hz
      refine u_callVi (As := []) (rest := []) cx hw LV_X11_335 (c_X7_outside l G N σ 32 oS_32 v1 hv1) oS_32 rfl (by decide) hl.1 rfl (Nat.le_of_ble_eq_true rfl) dX11_knows_16 rfl (fun H locs hw => ?_)
      refine lv_istore_n (lv' := [(2, .int v1), (0, .ref (G.2.2 0)), (1, .int p1)]) hx hb dX11_knows_19 rfl hl (by decide) rfl (fun ls hl => ?_)
      refine lv_iload_n hx hb dX11_knows_20 rfl (lv_at hl 0 rfl) ?_
      refine lv_istore_n (lv' := [(3, .int v1), (2, .int v1), (0, .ref (G.2.2 0)), (1, .int p1)]) hx hb dX11_knows_21 rfl hl (by decide) rfl (fun ls hl => ?_)
      refine lv_iconst (v := 0) hx hb dX11_knows_22 (by decide) ?_
      refine lv_istore (lv' := [(4, .int 0), (3, .int v1), (2, .int v1), (0, .ref (G.2.2 0)), (1, .int p1)]) hx hb dX11_knows_23 hl (by decide) rfl (fun ls hl => ?_)
      refine lv_iconst (v := 1) hx hb dX11_knows_25 (by decide) ?_
      refine lv_istore (lv' := [(5, .int 1), (4, .int 0), (3, .int v1), (2, .int v1), (0, .ref (G.2.2 0)), (1, .int p1)]) hx hb dX11_knows_26 hl (by decide) rfl (fun ls hl => ?_)
      obtain ⟨J79_4, eJ79_4, hz⟩ := u_let hz
      have WJ79_4 : ∀ (x2 : Int32) (x3 : Int32) (H : Heap) (locs : List Loc) (ls : Array Slot), J79_4 x2 x3 = some z → u_W ZC G σ s H locs → lv_has ls 7 [(0, .ref (G.2.2 0)), (3, .int x2), (4, .int x3)] → W p l e (u_rm 3) s m args below meth c H locs 0 0 (u_Qi below ZC G s args z.1 z.2) (F0 m 79 ls []) := by
        intro x2 x3 H locs ls hz hw hl
        rw [eJ79_4] at hz
        refine lv_aload_n hx hb dX11_knows_79 rfl (lv_at hl 0 rfl) ?_
        refine u_getp cx hw F_X11_19 o_X11 rfl dX11_knows_80 ?_
        refine lv_iload_n hx hb dX11_knows_83 rfl (lv_at hl 1 rfl) ?_
        obtain ⟨v5, hv5, hz⟩ := u_bind hz
        refine u_callSi (As := [.int x2]) (rest := [.ref (G.2.2 3)]) cx hw LS_X11_181 (c_J6_bitCount_0f7a4 l G ZC N σ x2 v5 hv5) (by decide) hl.1 rfl (Nat.le_of_ble_eq_true rfl) dX11_knows_84 rfl (fun H locs hw => ?_)
        refine lv_i2l (v := (Int32.toInt64 v5)) hx hb dX11_knows_87 rfl ?_
        refine lv_iload hx hb dX11_knows_88 (lv_at hl 2 rfl) ?_
        refine lv_i2l (v := (Int32.toInt64 x3)) hx hb dX11_knows_90 rfl ?_
        obtain ⟨s6, hs6, hz⟩ := u_bind hz
        refine u_callVv (As := [.long (Int32.toInt64 v5), .long (Int32.toInt64 x3)]) (rest := []) cx hw LV_X11_220 (c_X8_two l G N σ (Int32.toInt64 v5) (Int32.toInt64 x3) s6 hs6) o_X8 rfl (by decide) hl.1 rfl (Nat.le_of_ble_eq_true rfl) dX11_knows_91 rfl (fun H locs hw => ?_)
        refine lv_iload_n hx hb dX11_knows_94 rfl (lv_at hl 1 rfl) ?_
        exact u_iret cx hw (u_pair hz) dX11_knows_95
      have WL28_17 : ∀ (k : Nat) (x7 : Int32) (x8 : Int32) (x9 : Int32) (x10 : Int32) (H : Heap) (locs : List Loc) (ls : Array Slot), u_lp4 (b_X11_knows_28 N σ p1 J79_4) k x7 x8 x9 x10 = some z → u_W ZC G σ s H locs → lv_has ls 7 [(0, .ref (G.2.2 0)), (1, .int p1), (2, .int x7), (3, .int x8), (4, .int x9), (5, .int x10)] → W p l e (u_rm 3) s m args below meth c H locs 0 0 (u_Qi below ZC G s args z.1 z.2) (F0 m 28 ls []) := by
        intro k
        induction k with
        | zero =>
          intro x7 x8 x9 x10 H locs ls hz
          exact absurd hz (by intro h9; cases h9)
        | succ k ih28_11 =>
          intro x7 x8 x9 x10 H locs ls hz hw hl
          have hz : (b_X11_knows_28 N σ p1 J79_4) (u_lp4 (b_X11_knows_28 N σ p1 J79_4) k) x7 x8 x9 x10 = some z := hz
          unfold b_X11_knows_28 at hz
          refine lv_iload hx hb dX11_knows_28 (lv_at hl 5 rfl) ?_
          refine lv_bipush (v := 9) hx hb dX11_knows_30 (by decide) ?_
          refine lv_icmp_gt (tgt := 79) hx hb dX11_knows_32 (by decide) (fun hc => ?_) (fun hc => ?_)
          · replace hz := u_ift hz hc
            exact WJ79_4 x8 x9 _ _ _ hz hw (lv_sub hl [0, 3, 4] rfl)
          · replace hz := u_iff hz hc
            refine lv_aload_n hx hb dX11_knows_35 rfl (lv_at hl 0 rfl) ?_
            refine lv_iload_n hx hb dX11_knows_36 rfl (lv_at hl 2 rfl) ?_
            obtain ⟨v12, hv12, hz⟩ := u_bind hz
            refine u_callVi (As := [.int x7]) (rest := []) cx hw LV_X11_338 (c_X11_knowsDeeper l G N σ x7 v12 hv12) o_X11 rfl (by decide) hl.1 rfl (Nat.le_of_ble_eq_true rfl) dX11_knows_37 rfl (fun H locs hw => ?_)
            refine lv_istore (lv' := [(6, .int v12), (0, .ref (G.2.2 0)), (1, .int p1), (2, .int x7), (3, .int x8), (4, .int x9), (5, .int x10)]) hx hb dX11_knows_40 hl (by decide) rfl (fun ls hl => ?_)
            refine lv_iload hx hb dX11_knows_42 (lv_at hl 0 rfl) ?_
            refine lv_iload_n hx hb dX11_knows_44 rfl (lv_at hl 3 rfl) ?_
            obtain ⟨J55_14, eJ55_14, hz⟩ := u_let hz
            have WJ55_14 : ∀ (t13 : Int32) (H : Heap) (locs : List Loc) (ls : Array Slot), J55_14 t13 = some z → u_W ZC G σ s H locs → lv_has ls 7 [(0, .ref (G.2.2 0)), (1, .int p1), (3, .int x8), (5, .int x10), (6, .int v12)] → W p l e (u_rm 3) s m args below meth c H locs 0 0 (u_Qi below ZC G s args z.1 z.2) (F0 m 55 ls [.int t13]) := by
              intro t13 H locs ls hz hw hl
              rw [eJ55_14] at hz
              refine lv_istore (lv' := [(4, .int t13), (0, .ref (G.2.2 0)), (1, .int p1), (3, .int x8), (5, .int x10), (6, .int v12)]) hx hb dX11_knows_55 hl (by decide) rfl (fun ls hl => ?_)
              refine lv_iload hx hb dX11_knows_57 (lv_at hl 5 rfl) ?_
              refine lv_istore_n (lv' := [(2, .int v12), (4, .int t13), (0, .ref (G.2.2 0)), (1, .int p1), (3, .int x8), (5, .int x10), (6, .int v12)]) hx hb dX11_knows_59 rfl hl (by decide) rfl (fun ls hl => ?_)
              refine lv_iload hx hb dX11_knows_60 (lv_at hl 5 rfl) ?_
              refine lv_iload_n hx hb dX11_knows_62 rfl (lv_at hl 3 rfl) ?_
              obtain ⟨J72_16, eJ72_16, hz⟩ := u_let hz
              have WJ72_16 : ∀ (t15 : Int32) (H : Heap) (locs : List Loc) (ls : Array Slot), J72_16 t15 = some z → u_W ZC G σ s H locs → lv_has ls 7 [(0, .ref (G.2.2 0)), (1, .int p1), (2, .int v12), (4, .int t13), (5, .int x10)] → W p l e (u_rm 3) s m args below meth c H locs 0 0 (u_Qi below ZC G s args z.1 z.2) (F0 m 72 ls [.int t15]) := by
                intro t15 H locs ls hz hw hl
                rw [eJ72_16] at hz
                refine lv_istore_n (lv' := [(3, .int t15), (0, .ref (G.2.2 0)), (1, .int p1), (2, .int v12), (4, .int t13), (5, .int x10)]) hx hb dX11_knows_72 rfl hl (by decide) rfl (fun ls hl => ?_)
                obtain ⟨x17, ex17, hz⟩ := u_let hz
                refine lv_iinc (v := x17) (lv' := [(5, .int x17), (3, .int t15), (0, .ref (G.2.2 0)), (1, .int p1), (2, .int v12), (4, .int t13)]) hx hb dX11_knows_73 hl (k := 5) rfl (by rw [ex17]; rfl) (by decide) rfl (fun ls hl => ?_)
                refine lv_goto (tgt := 28) hx hb dX11_knows_76 (by decide) ?_
                exact ih28_11 v12 t15 t13 x17 _ _ _ hz hw (lv_sub hl [2, 3, 4, 1, 5, 0] rfl)
              refine lv_icmp_ne (tgt := 71) hx hb dX11_knows_63 (by decide) (fun hc => ?_) (fun hc => ?_)
              · replace hz := u_iff hz hc
                refine lv_iload_n hx hb dX11_knows_71 rfl (lv_at hl 4 rfl) ?_
                exact WJ72_16 x8 _ _ _ hz hw (lv_sub hl [2, 3, 0, 1, 5] rfl)
              · replace hz := u_ift hz hc
                refine lv_iload hx hb dX11_knows_66 (lv_at hl 6 rfl) ?_
                refine lv_goto (tgt := 72) hx hb dX11_knows_68 (by decide) ?_
                exact WJ72_16 v12 _ _ _ hz hw (lv_sub hl [2, 3, 0, 1, 5] rfl)
            refine lv_icmp_ne (tgt := 53) hx hb dX11_knows_45 (by decide) (fun hc => ?_) (fun hc => ?_)
            · replace hz := u_iff hz hc
              refine lv_iload hx hb dX11_knows_53 (lv_at hl 6 rfl) ?_
              exact WJ55_14 x10 _ _ _ hz hw (lv_sub hl [1, 2, 4, 6, 0] rfl)
            · replace hz := u_ift hz hc
              refine lv_iload hx hb dX11_knows_48 (lv_at hl 5 rfl) ?_
              refine lv_goto (tgt := 55) hx hb dX11_knows_50 (by decide) ?_
              exact WJ55_14 x9 _ _ _ hz hw (lv_sub hl [1, 2, 4, 6, 0] rfl)
      exact WL28_17 N v1 v1 0 1 _ _ _ hz hw (lv_sub hl [4, 5, 3, 2, 1, 0] rfl)
    · replace hz := u_iff hz hc
      refine lv_iconst (v := (-1)) hx hb dX11_knows_10 (by decide) ?_
      exact u_iret cx hw (u_pair hz) dX11_knows_11
theorem dX11_circle_0 : decode cX11_circle 0 = .ok (.iconst 0, 1) := by decide +kernel
theorem dX11_circle_1 : decode cX11_circle 1 = .ok (.istore_n 1, 1) := by decide +kernel
theorem dX11_circle_2 : decode cX11_circle 2 = .ok (.iconst 0, 1) := by decide +kernel
theorem dX11_circle_3 : decode cX11_circle 3 = .ok (.istore_n 2, 1) := by decide +kernel
theorem dX11_circle_4 : decode cX11_circle 4 = .ok (.iconst 1, 1) := by decide +kernel
theorem dX11_circle_5 : decode cX11_circle 5 = .ok (.aload_n 0, 1) := by decide +kernel
theorem dX11_circle_6 : decode cX11_circle 6 = .ok (.getfield 26, 3) := by decide +kernel
theorem dX11_circle_9 : decode cX11_circle 9 = .ok (.getfield 122, 3) := by decide +kernel
theorem dX11_circle_12 : decode cX11_circle 12 = .ok (.ishl, 1) := by decide +kernel
theorem dX11_circle_13 : decode cX11_circle 13 = .ok (.istore_n 3, 1) := by decide +kernel
theorem dX11_circle_14 : decode cX11_circle 14 = .ok (.iconst 0, 1) := by decide +kernel
theorem dX11_circle_15 : decode cX11_circle 15 = .ok (.istore 4, 2) := by decide +kernel
theorem dX11_circle_17 : decode cX11_circle 17 = .ok (.iload 4, 2) := by decide +kernel
theorem dX11_circle_19 : decode cX11_circle 19 = .ok (.iload_n 3, 1) := by decide +kernel
theorem dX11_circle_20 : decode cX11_circle 20 = .ok (.if_icmp .ge 36, 3) := by decide +kernel
theorem dX11_circle_23 : decode cX11_circle 23 = .ok (.iload 4, 2) := by decide +kernel
theorem dX11_circle_25 : decode cX11_circle 25 = .ok (.invokestatic 181, 3) := by decide +kernel
theorem dX11_circle_28 : decode cX11_circle 28 = .ok (.iload_n 1, 1) := by decide +kernel
theorem dX11_circle_29 : decode cX11_circle 29 = .ok (.if_icmp .le 21, 3) := by decide +kernel
theorem dX11_circle_32 : decode cX11_circle 32 = .ok (.aload_n 0, 1) := by decide +kernel
theorem dX11_circle_33 : decode cX11_circle 33 = .ok (.iload 4, 2) := by decide +kernel
theorem dX11_circle_35 : decode cX11_circle 35 = .ok (.invokevirtual 341, 3) := by decide +kernel
theorem dX11_circle_38 : decode cX11_circle 38 = .ok (.ifCond .eq 12, 3) := by decide +kernel
theorem dX11_circle_41 : decode cX11_circle 41 = .ok (.iload 4, 2) := by decide +kernel
theorem dX11_circle_43 : decode cX11_circle 43 = .ok (.invokestatic 181, 3) := by decide +kernel
theorem dX11_circle_46 : decode cX11_circle 46 = .ok (.istore_n 1, 1) := by decide +kernel
theorem dX11_circle_47 : decode cX11_circle 47 = .ok (.iload 4, 2) := by decide +kernel
theorem dX11_circle_49 : decode cX11_circle 49 = .ok (.istore_n 2, 1) := by decide +kernel
theorem dX11_circle_50 : decode cX11_circle 50 = .ok (.iinc 4 1, 3) := by decide +kernel
theorem dX11_circle_53 : decode cX11_circle 53 = .ok (.goto (-36), 3) := by decide +kernel
theorem dX11_circle_56 : decode cX11_circle 56 = .ok (.aload_n 0, 1) := by decide +kernel
theorem dX11_circle_57 : decode cX11_circle 57 = .ok (.getfield 19, 3) := by decide +kernel
theorem dX11_circle_60 : decode cX11_circle 60 = .ok (.iload_n 2, 1) := by decide +kernel
theorem dX11_circle_61 : decode cX11_circle 61 = .ok (.i2l, 1) := by decide +kernel
theorem dX11_circle_62 : decode cX11_circle 62 = .ok (.invokevirtual 287, 3) := by decide +kernel
theorem dX11_circle_65 : decode cX11_circle 65 = .ok (.iload_n 1, 1) := by decide +kernel
theorem dX11_circle_66 : decode cX11_circle 66 = .ok (.ireturn, 1) := by decide +kernel
def b_X11_circle_17 (N : Nat) (σ : uS) (x1 : Int32) (J56_4 : Int32 → Int32 → Option (Int32 × uS)) (rec17_9 : Int32 → Int32 → Int32 → Option (Int32 × uS)) (x6 : Int32) (x7 : Int32) (x8 : Int32) : Option (Int32 × uS) :=
  if x1 ≤ x8 then (J56_4 x6 x7) else ((f_J6_bitCount_0f7a4 N σ x8).bind fun v10 =>
  u_jn (fun (x11 : Int32) (x12 : Int32) => (u_jn (x8 + 1 : Int32) fun x14 =>
  rec17_9 x11 x12 x14 : Option (Int32 × uS))) fun J50_13 =>
  if v10 ≤ x6 then (J50_13 x6 x7) else ((f_X11_allSeeEachOther N σ x8).bind fun v15 =>
  if v15 = 0 then (J50_13 x6 x7) else ((f_J6_bitCount_0f7a4 N σ x8).bind fun v16 =>
  J50_13 v16 x8)))
def f_X11_circle (N : Nat) (σ : uS) : Option (Int32 × uS) := u_jn ((1 <<< ((σ.1 32 8) &&& 31)) : Int32) fun x1 =>
  u_jn (fun (x2 : Int32) (x3 : Int32) => ((f_X8_one N σ (Int32.toInt64 x3)).bind fun s5 =>
  some (x2, s5) : Option (Int32 × uS))) fun J56_4 =>
  u_lp3 (b_X11_circle_17 N σ x1 J56_4) N 0 0 0
set_option maxRecDepth 100000 in
set_option maxHeartbeats 4000000 in
theorem c_X11_circle (l : Launch) (G : uG) (N : Nat) (σ : uS) (z : (Int32 × uS)) (hz : f_X11_circle N σ = some z) : u_Mi l ZC G yX11_circle cX11_circle 5 .int 3 [.ref (G.2.2 0)] σ z.1 z.2 := by
  refine u_Mi_of RX11 (by decide) rfl (Nat.le_of_ble_eq_true rfl) ?_
  intro p e s m args below meth c ls cx hw hl
  have hx := cx.1
  have hb := cx.2.1
  have hl : lv_has ls 5 [(0, .ref (G.2.2 0))] := hl
  unfold f_X11_circle at hz
  refine lv_iconst (v := 0) hx hb dX11_circle_0 (by decide) ?_
  refine lv_istore_n (lv' := [(1, .int 0), (0, .ref (G.2.2 0))]) hx hb dX11_circle_1 rfl hl (by decide) rfl (fun ls hl => ?_)
  refine lv_iconst (v := 0) hx hb dX11_circle_2 (by decide) ?_
  refine lv_istore_n (lv' := [(2, .int 0), (1, .int 0), (0, .ref (G.2.2 0))]) hx hb dX11_circle_3 rfl hl (by decide) rfl (fun ls hl => ?_)
  refine lv_iconst (v := 1) hx hb dX11_circle_4 (by decide) ?_
  refine lv_aload_n hx hb dX11_circle_5 rfl (lv_at hl 2 rfl) ?_
  refine u_getp cx hw F_X11_26 o_X11 rfl dX11_circle_6 ?_
  refine u_geti cx hw F_X11_122 oS_32 rfl dX11_circle_9 ?_
  refine lv_ishl hx hb dX11_circle_12 ?_
  obtain ⟨x1, ex1, hz⟩ := u_let hz
  refine u_topi ex1 ?_
  refine lv_istore_n (lv' := [(3, .int x1), (2, .int 0), (1, .int 0), (0, .ref (G.2.2 0))]) hx hb dX11_circle_13 rfl hl (by decide) rfl (fun ls hl => ?_)
  refine lv_iconst (v := 0) hx hb dX11_circle_14 (by decide) ?_
  refine lv_istore (lv' := [(4, .int 0), (3, .int x1), (2, .int 0), (1, .int 0), (0, .ref (G.2.2 0))]) hx hb dX11_circle_15 hl (by decide) rfl (fun ls hl => ?_)
  obtain ⟨J56_4, eJ56_4, hz⟩ := u_let hz
  have WJ56_4 : ∀ (x2 : Int32) (x3 : Int32) (H : Heap) (locs : List Loc) (ls : Array Slot), J56_4 x2 x3 = some z → u_W ZC G σ s H locs → lv_has ls 5 [(0, .ref (G.2.2 0)), (1, .int x2), (2, .int x3)] → W p l e (u_rm 3) s m args below meth c H locs 0 0 (u_Qi below ZC G s args z.1 z.2) (F0 m 56 ls []) := by
    intro x2 x3 H locs ls hz hw hl
    rw [eJ56_4] at hz
    refine lv_aload_n hx hb dX11_circle_56 rfl (lv_at hl 0 rfl) ?_
    refine u_getp cx hw F_X11_19 o_X11 rfl dX11_circle_57 ?_
    refine lv_iload_n hx hb dX11_circle_60 rfl (lv_at hl 2 rfl) ?_
    refine lv_i2l (v := (Int32.toInt64 x3)) hx hb dX11_circle_61 rfl ?_
    obtain ⟨s5, hs5, hz⟩ := u_bind hz
    refine u_callVv (As := [.long (Int32.toInt64 x3)]) (rest := []) cx hw LV_X11_287 (c_X8_one l G N σ (Int32.toInt64 x3) s5 hs5) o_X8 rfl (by decide) hl.1 rfl (Nat.le_of_ble_eq_true rfl) dX11_circle_62 rfl (fun H locs hw => ?_)
    refine lv_iload_n hx hb dX11_circle_65 rfl (lv_at hl 1 rfl) ?_
    exact u_iret cx hw (u_pair hz) dX11_circle_66
  have WL17_16 : ∀ (k : Nat) (x6 : Int32) (x7 : Int32) (x8 : Int32) (H : Heap) (locs : List Loc) (ls : Array Slot), u_lp3 (b_X11_circle_17 N σ x1 J56_4) k x6 x7 x8 = some z → u_W ZC G σ s H locs → lv_has ls 5 [(0, .ref (G.2.2 0)), (1, .int x6), (2, .int x7), (3, .int x1), (4, .int x8)] → W p l e (u_rm 3) s m args below meth c H locs 0 0 (u_Qi below ZC G s args z.1 z.2) (F0 m 17 ls []) := by
    intro k
    induction k with
    | zero =>
      intro x6 x7 x8 H locs ls hz
      exact absurd hz (by intro h9; cases h9)
    | succ k ih17_9 =>
      intro x6 x7 x8 H locs ls hz hw hl
      have hz : (b_X11_circle_17 N σ x1 J56_4) (u_lp3 (b_X11_circle_17 N σ x1 J56_4) k) x6 x7 x8 = some z := hz
      unfold b_X11_circle_17 at hz
      refine lv_iload hx hb dX11_circle_17 (lv_at hl 4 rfl) ?_
      refine lv_iload_n hx hb dX11_circle_19 rfl (lv_at hl 3 rfl) ?_
      refine lv_icmp_ge (tgt := 56) hx hb dX11_circle_20 (by decide) (fun hc => ?_) (fun hc => ?_)
      · replace hz := u_ift hz hc
        exact WJ56_4 x6 x7 _ _ _ hz hw (lv_sub hl [0, 1, 2] rfl)
      · replace hz := u_iff hz hc
        refine lv_iload hx hb dX11_circle_23 (lv_at hl 4 rfl) ?_
        obtain ⟨v10, hv10, hz⟩ := u_bind hz
        refine u_callSi (As := [.int x8]) (rest := []) cx hw LS_X11_181 (c_J6_bitCount_0f7a4 l G ZC N σ x8 v10 hv10) (by decide) hl.1 rfl (Nat.le_of_ble_eq_true rfl) dX11_circle_25 rfl (fun H locs hw => ?_)
        refine lv_iload_n hx hb dX11_circle_28 rfl (lv_at hl 1 rfl) ?_
        obtain ⟨J50_13, eJ50_13, hz⟩ := u_let hz
        have WJ50_13 : ∀ (x11 : Int32) (x12 : Int32) (H : Heap) (locs : List Loc) (ls : Array Slot), J50_13 x11 x12 = some z → u_W ZC G σ s H locs → lv_has ls 5 [(0, .ref (G.2.2 0)), (1, .int x11), (2, .int x12), (3, .int x1), (4, .int x8)] → W p l e (u_rm 3) s m args below meth c H locs 0 0 (u_Qi below ZC G s args z.1 z.2) (F0 m 50 ls []) := by
          intro x11 x12 H locs ls hz hw hl
          rw [eJ50_13] at hz
          obtain ⟨x14, ex14, hz⟩ := u_let hz
          refine lv_iinc (v := x14) (lv' := [(4, .int x14), (0, .ref (G.2.2 0)), (1, .int x11), (2, .int x12), (3, .int x1)]) hx hb dX11_circle_50 hl (k := 4) rfl (by rw [ex14]; rfl) (by decide) rfl (fun ls hl => ?_)
          refine lv_goto (tgt := 17) hx hb dX11_circle_53 (by decide) ?_
          exact ih17_9 x11 x12 x14 _ _ _ hz hw (lv_sub hl [1, 2, 3, 4, 0] rfl)
        refine lv_icmp_le (tgt := 50) hx hb dX11_circle_29 (by decide) (fun hc => ?_) (fun hc => ?_)
        · replace hz := u_ift hz hc
          exact WJ50_13 x6 x7 _ _ _ hz hw (lv_sub hl [0, 1, 2, 3, 4] rfl)
        · replace hz := u_iff hz hc
          refine lv_aload_n hx hb dX11_circle_32 rfl (lv_at hl 0 rfl) ?_
          refine lv_iload hx hb dX11_circle_33 (lv_at hl 4 rfl) ?_
          obtain ⟨v15, hv15, hz⟩ := u_bind hz
          refine u_callVi (As := [.int x8]) (rest := []) cx hw LV_X11_341 (c_X11_allSeeEachOther l G N σ x8 v15 hv15) o_X11 rfl (by decide) hl.1 rfl (Nat.le_of_ble_eq_true rfl) dX11_circle_35 rfl (fun H locs hw => ?_)
          refine lv_if_eq (tgt := 50) hx hb dX11_circle_38 (by decide) (fun hc => ?_) (fun hc => ?_)
          · replace hz := u_ift hz hc
            exact WJ50_13 x6 x7 _ _ _ hz hw (lv_sub hl [0, 1, 2, 3, 4] rfl)
          · replace hz := u_iff hz hc
            refine lv_iload hx hb dX11_circle_41 (lv_at hl 4 rfl) ?_
            obtain ⟨v16, hv16, hz⟩ := u_bind hz
            refine u_callSi (As := [.int x8]) (rest := []) cx hw LS_X11_181 (c_J6_bitCount_0f7a4 l G ZC N σ x8 v16 hv16) (by decide) hl.1 rfl (Nat.le_of_ble_eq_true rfl) dX11_circle_43 rfl (fun H locs hw => ?_)
            refine lv_istore_n (lv' := [(1, .int v16), (0, .ref (G.2.2 0)), (2, .int x7), (3, .int x1), (4, .int x8)]) hx hb dX11_circle_46 rfl hl (by decide) rfl (fun ls hl => ?_)
            refine lv_iload hx hb dX11_circle_47 (lv_at hl 4 rfl) ?_
            refine lv_istore_n (lv' := [(2, .int x8), (1, .int v16), (0, .ref (G.2.2 0)), (3, .int x1), (4, .int x8)]) hx hb dX11_circle_49 rfl hl (by decide) rfl (fun ls hl => ?_)
            exact WJ50_13 v16 x8 _ _ _ hz hw (lv_sub hl [2, 1, 0, 3, 4] rfl)
  exact WL17_16 N 0 0 0 _ _ _ hz hw (lv_sub hl [4, 3, 2, 1, 0] rfl)
theorem dX11_spreads_0 : decode cX11_spreads 0 = .ok (.aload_n 0, 1) := by decide +kernel
theorem dX11_spreads_1 : decode cX11_spreads 1 = .ok (.getfield 26, 3) := by decide +kernel
theorem dX11_spreads_4 : decode cX11_spreads 4 = .ok (.iload_n 1, 1) := by decide +kernel
theorem dX11_spreads_5 : decode cX11_spreads 5 = .ok (.invokevirtual 295, 3) := by decide +kernel
theorem dX11_spreads_8 : decode cX11_spreads 8 = .ok (.ifCond .ne 5, 3) := by decide +kernel
theorem dX11_spreads_11 : decode cX11_spreads 11 = .ok (.iconst (-1), 1) := by decide +kernel
theorem dX11_spreads_12 : decode cX11_spreads 12 = .ok (.ireturn, 1) := by decide +kernel
theorem dX11_spreads_13 : decode cX11_spreads 13 = .ok (.iload_n 1, 1) := by decide +kernel
theorem dX11_spreads_14 : decode cX11_spreads 14 = .ok (.istore_n 2, 1) := by decide +kernel
theorem dX11_spreads_15 : decode cX11_spreads 15 = .ok (.iload_n 1, 1) := by decide +kernel
theorem dX11_spreads_16 : decode cX11_spreads 16 = .ok (.istore_n 3, 1) := by decide +kernel
theorem dX11_spreads_17 : decode cX11_spreads 17 = .ok (.iconst 0, 1) := by decide +kernel
theorem dX11_spreads_18 : decode cX11_spreads 18 = .ok (.istore 4, 2) := by decide +kernel
theorem dX11_spreads_20 : decode cX11_spreads 20 = .ok (.iconst 0, 1) := by decide +kernel
theorem dX11_spreads_21 : decode cX11_spreads 21 = .ok (.istore 5, 2) := by decide +kernel
theorem dX11_spreads_23 : decode cX11_spreads 23 = .ok (.iload 5, 2) := by decide +kernel
theorem dX11_spreads_25 : decode cX11_spreads 25 = .ok (.bipush 8, 2) := by decide +kernel
theorem dX11_spreads_27 : decode cX11_spreads 27 = .ok (.if_icmp .gt 32, 3) := by decide +kernel
theorem dX11_spreads_30 : decode cX11_spreads 30 = .ok (.iload_n 3, 1) := by decide +kernel
theorem dX11_spreads_31 : decode cX11_spreads 31 = .ok (.aload_n 0, 1) := by decide +kernel
theorem dX11_spreads_32 : decode cX11_spreads 32 = .ok (.iload_n 3, 1) := by decide +kernel
theorem dX11_spreads_33 : decode cX11_spreads 33 = .ok (.invokevirtual 344, 3) := by decide +kernel
theorem dX11_spreads_36 : decode cX11_spreads 36 = .ok (.ior, 1) := by decide +kernel
theorem dX11_spreads_37 : decode cX11_spreads 37 = .ok (.istore 6, 2) := by decide +kernel
theorem dX11_spreads_39 : decode cX11_spreads 39 = .ok (.iload 6, 2) := by decide +kernel
theorem dX11_spreads_41 : decode cX11_spreads 41 = .ok (.iload_n 3, 1) := by decide +kernel
theorem dX11_spreads_42 : decode cX11_spreads 42 = .ok (.if_icmp .eq 11, 3) := by decide +kernel
theorem dX11_spreads_45 : decode cX11_spreads 45 = .ok (.iload_n 3, 1) := by decide +kernel
theorem dX11_spreads_46 : decode cX11_spreads 46 = .ok (.istore_n 2, 1) := by decide +kernel
theorem dX11_spreads_47 : decode cX11_spreads 47 = .ok (.iload 6, 2) := by decide +kernel
theorem dX11_spreads_49 : decode cX11_spreads 49 = .ok (.istore_n 3, 1) := by decide +kernel
theorem dX11_spreads_50 : decode cX11_spreads 50 = .ok (.iinc 4 1, 3) := by decide +kernel
theorem dX11_spreads_53 : decode cX11_spreads 53 = .ok (.iinc 5 1, 3) := by decide +kernel
theorem dX11_spreads_56 : decode cX11_spreads 56 = .ok (.goto (-33), 3) := by decide +kernel
theorem dX11_spreads_59 : decode cX11_spreads 59 = .ok (.aload_n 0, 1) := by decide +kernel
theorem dX11_spreads_60 : decode cX11_spreads 60 = .ok (.getfield 19, 3) := by decide +kernel
theorem dX11_spreads_63 : decode cX11_spreads 63 = .ok (.iload_n 3, 1) := by decide +kernel
theorem dX11_spreads_64 : decode cX11_spreads 64 = .ok (.i2l, 1) := by decide +kernel
theorem dX11_spreads_65 : decode cX11_spreads 65 = .ok (.iload_n 2, 1) := by decide +kernel
theorem dX11_spreads_66 : decode cX11_spreads 66 = .ok (.i2l, 1) := by decide +kernel
theorem dX11_spreads_67 : decode cX11_spreads 67 = .ok (.invokevirtual 220, 3) := by decide +kernel
theorem dX11_spreads_70 : decode cX11_spreads 70 = .ok (.iload 4, 2) := by decide +kernel
theorem dX11_spreads_72 : decode cX11_spreads 72 = .ok (.ireturn, 1) := by decide +kernel
def b_X11_spreads_23 (N : Nat) (σ : uS) (J59_5 : Int32 → Int32 → Int32 → Option (Int32 × uS)) (rec23_11 : Int32 → Int32 → Int32 → Int32 → Option (Int32 × uS)) (x7 : Int32) (x8 : Int32) (x9 : Int32) (x10 : Int32) : Option (Int32 × uS) :=
  if 8 < x10 then (J59_5 x7 x8 x9) else ((f_X11_whoSeeOneOf N σ x8).bind fun v12 =>
  u_jn ((x8 ||| v12) : Int32) fun x13 =>
  u_jn (fun (x14 : Int32) (x15 : Int32) (x16 : Int32) => (u_jn (x10 + 1 : Int32) fun x18 =>
  rec23_11 x14 x15 x16 x18 : Option (Int32 × uS))) fun J53_17 =>
  if x13 = x8 then (J53_17 x7 x8 x9) else (u_jn (x9 + 1 : Int32) fun x19 =>
  J53_17 x8 x13 x19))
def f_X11_spreads (N : Nat) (σ : uS) (p1 : Int32) : Option (Int32 × uS) := (f_X7_arePeople N σ 32 p1).bind fun v1 =>
  if v1 = 0 then (some ((-1), σ)) else (u_jn (fun (x2 : Int32) (x3 : Int32) (x4 : Int32) => ((f_X8_two N σ (Int32.toInt64 x3) (Int32.toInt64 x2)).bind fun s6 =>
  some (x4, s6) : Option (Int32 × uS))) fun J59_5 =>
  u_lp4 (b_X11_spreads_23 N σ J59_5) N p1 p1 0 0)
set_option maxRecDepth 100000 in
set_option maxHeartbeats 4000000 in
theorem c_X11_spreads (l : Launch) (G : uG) (N : Nat) (σ : uS) (p1 : Int32) (z : (Int32 × uS)) (hz : f_X11_spreads N σ p1 = some z) : u_Mi l ZC G yX11_spreads cX11_spreads 7 .int 3 [.ref (G.2.2 0), .int p1] σ z.1 z.2 := by
  refine u_Mi_of RX11 (by decide) rfl (Nat.le_of_ble_eq_true rfl) ?_
  intro p e s m args below meth c ls cx hw hl
  have hx := cx.1
  have hb := cx.2.1
  have hl : lv_has ls 7 [(0, .ref (G.2.2 0)), (1, .int p1)] := hl
  unfold f_X11_spreads at hz
  refine lv_aload_n hx hb dX11_spreads_0 rfl (lv_at hl 0 rfl) ?_
  refine u_getp cx hw F_X11_26 o_X11 rfl dX11_spreads_1 ?_
  refine lv_iload_n hx hb dX11_spreads_4 rfl (lv_at hl 1 rfl) ?_
  obtain ⟨v1, hv1, hz⟩ := u_bind hz
  refine u_callVi (As := [.int p1]) (rest := []) cx hw LV_X11_295 (c_X7_arePeople l G N σ 32 oS_32 p1 v1 hv1) oS_32 rfl (by decide) hl.1 rfl (Nat.le_of_ble_eq_true rfl) dX11_spreads_5 rfl (fun H locs hw => ?_)
  refine lv_if_ne (tgt := 13) hx hb dX11_spreads_8 (by decide) (fun hc => ?_) (fun hc => ?_)
  · replace hz := u_iff hz hc
    refine lv_iload_n hx hb dX11_spreads_13 rfl (lv_at hl 1 rfl) ?_
    refine lv_istore_n (lv' := [(2, .int p1), (0, .ref (G.2.2 0)), (1, .int p1)]) hx hb dX11_spreads_14 rfl hl (by decide) rfl (fun ls hl => ?_)
    refine lv_iload_n hx hb dX11_spreads_15 rfl (lv_at hl 2 rfl) ?_
    refine lv_istore_n (lv' := [(3, .int p1), (2, .int p1), (0, .ref (G.2.2 0)), (1, .int p1)]) hx hb dX11_spreads_16 rfl hl (by decide) rfl (fun ls hl => ?_)
    refine lv_iconst (v := 0) hx hb dX11_spreads_17 (by decide) ?_
    refine lv_istore (lv' := [(4, .int 0), (3, .int p1), (2, .int p1), (0, .ref (G.2.2 0)), (1, .int p1)]) hx hb dX11_spreads_18 hl (by decide) rfl (fun ls hl => ?_)
    refine lv_iconst (v := 0) hx hb dX11_spreads_20 (by decide) ?_
    refine lv_istore (lv' := [(5, .int 0), (4, .int 0), (3, .int p1), (2, .int p1), (0, .ref (G.2.2 0)), (1, .int p1)]) hx hb dX11_spreads_21 hl (by decide) rfl (fun ls hl => ?_)
    obtain ⟨J59_5, eJ59_5, hz⟩ := u_let hz
    have WJ59_5 : ∀ (x2 : Int32) (x3 : Int32) (x4 : Int32) (H : Heap) (locs : List Loc) (ls : Array Slot), J59_5 x2 x3 x4 = some z → u_W ZC G σ s H locs → lv_has ls 7 [(0, .ref (G.2.2 0)), (2, .int x2), (3, .int x3), (4, .int x4)] → W p l e (u_rm 3) s m args below meth c H locs 0 0 (u_Qi below ZC G s args z.1 z.2) (F0 m 59 ls []) := by
      intro x2 x3 x4 H locs ls hz hw hl
      rw [eJ59_5] at hz
      refine lv_aload_n hx hb dX11_spreads_59 rfl (lv_at hl 0 rfl) ?_
      refine u_getp cx hw F_X11_19 o_X11 rfl dX11_spreads_60 ?_
      refine lv_iload_n hx hb dX11_spreads_63 rfl (lv_at hl 2 rfl) ?_
      refine lv_i2l (v := (Int32.toInt64 x3)) hx hb dX11_spreads_64 rfl ?_
      refine lv_iload_n hx hb dX11_spreads_65 rfl (lv_at hl 1 rfl) ?_
      refine lv_i2l (v := (Int32.toInt64 x2)) hx hb dX11_spreads_66 rfl ?_
      obtain ⟨s6, hs6, hz⟩ := u_bind hz
      refine u_callVv (As := [.long (Int32.toInt64 x3), .long (Int32.toInt64 x2)]) (rest := []) cx hw LV_X11_220 (c_X8_two l G N σ (Int32.toInt64 x3) (Int32.toInt64 x2) s6 hs6) o_X8 rfl (by decide) hl.1 rfl (Nat.le_of_ble_eq_true rfl) dX11_spreads_67 rfl (fun H locs hw => ?_)
      refine lv_iload hx hb dX11_spreads_70 (lv_at hl 3 rfl) ?_
      exact u_iret cx hw (u_pair hz) dX11_spreads_72
    have WL23_19 : ∀ (k : Nat) (x7 : Int32) (x8 : Int32) (x9 : Int32) (x10 : Int32) (H : Heap) (locs : List Loc) (ls : Array Slot), u_lp4 (b_X11_spreads_23 N σ J59_5) k x7 x8 x9 x10 = some z → u_W ZC G σ s H locs → lv_has ls 7 [(0, .ref (G.2.2 0)), (2, .int x7), (3, .int x8), (4, .int x9), (5, .int x10)] → W p l e (u_rm 3) s m args below meth c H locs 0 0 (u_Qi below ZC G s args z.1 z.2) (F0 m 23 ls []) := by
      intro k
      induction k with
      | zero =>
        intro x7 x8 x9 x10 H locs ls hz
        exact absurd hz (by intro h9; cases h9)
      | succ k ih23_11 =>
        intro x7 x8 x9 x10 H locs ls hz hw hl
        have hz : (b_X11_spreads_23 N σ J59_5) (u_lp4 (b_X11_spreads_23 N σ J59_5) k) x7 x8 x9 x10 = some z := hz
        unfold b_X11_spreads_23 at hz
        refine lv_iload hx hb dX11_spreads_23 (lv_at hl 4 rfl) ?_
        refine lv_bipush (v := 8) hx hb dX11_spreads_25 (by decide) ?_
        refine lv_icmp_gt (tgt := 59) hx hb dX11_spreads_27 (by decide) (fun hc => ?_) (fun hc => ?_)
        · replace hz := u_ift hz hc
          exact WJ59_5 x7 x8 x9 _ _ _ hz hw (lv_sub hl [0, 1, 2, 3] rfl)
        · replace hz := u_iff hz hc
          refine lv_iload_n hx hb dX11_spreads_30 rfl (lv_at hl 2 rfl) ?_
          refine lv_aload_n hx hb dX11_spreads_31 rfl (lv_at hl 0 rfl) ?_
          refine lv_iload_n hx hb dX11_spreads_32 rfl (lv_at hl 2 rfl) ?_
          obtain ⟨v12, hv12, hz⟩ := u_bind hz
          refine u_callVi (As := [.int x8]) (rest := [.int x8]) cx hw LV_X11_344 (c_X11_whoSeeOneOf l G N σ x8 v12 hv12) o_X11 rfl (by decide) hl.1 rfl (Nat.le_of_ble_eq_true rfl) dX11_spreads_33 rfl (fun H locs hw => ?_)
          refine lv_ior hx hb dX11_spreads_36 ?_
          obtain ⟨x13, ex13, hz⟩ := u_let hz
          refine u_topi ex13 ?_
          refine lv_istore (lv' := [(6, .int x13), (0, .ref (G.2.2 0)), (2, .int x7), (3, .int x8), (4, .int x9), (5, .int x10)]) hx hb dX11_spreads_37 hl (by decide) rfl (fun ls hl => ?_)
          refine lv_iload hx hb dX11_spreads_39 (lv_at hl 0 rfl) ?_
          refine lv_iload_n hx hb dX11_spreads_41 rfl (lv_at hl 3 rfl) ?_
          obtain ⟨J53_17, eJ53_17, hz⟩ := u_let hz
          have WJ53_17 : ∀ (x14 : Int32) (x15 : Int32) (x16 : Int32) (H : Heap) (locs : List Loc) (ls : Array Slot), J53_17 x14 x15 x16 = some z → u_W ZC G σ s H locs → lv_has ls 7 [(0, .ref (G.2.2 0)), (2, .int x14), (3, .int x15), (4, .int x16), (5, .int x10)] → W p l e (u_rm 3) s m args below meth c H locs 0 0 (u_Qi below ZC G s args z.1 z.2) (F0 m 53 ls []) := by
            intro x14 x15 x16 H locs ls hz hw hl
            rw [eJ53_17] at hz
            obtain ⟨x18, ex18, hz⟩ := u_let hz
            refine lv_iinc (v := x18) (lv' := [(5, .int x18), (0, .ref (G.2.2 0)), (2, .int x14), (3, .int x15), (4, .int x16)]) hx hb dX11_spreads_53 hl (k := 4) rfl (by rw [ex18]; rfl) (by decide) rfl (fun ls hl => ?_)
            refine lv_goto (tgt := 23) hx hb dX11_spreads_56 (by decide) ?_
            exact ih23_11 x14 x15 x16 x18 _ _ _ hz hw (lv_sub hl [1, 2, 3, 4, 0] rfl)
          refine lv_icmp_eq (tgt := 53) hx hb dX11_spreads_42 (by decide) (fun hc => ?_) (fun hc => ?_)
          · replace hz := u_ift hz hc
            exact WJ53_17 x7 x8 x9 _ _ _ hz hw (lv_sub hl [1, 2, 3, 4, 5] rfl)
          · replace hz := u_iff hz hc
            refine lv_iload_n hx hb dX11_spreads_45 rfl (lv_at hl 3 rfl) ?_
            refine lv_istore_n (lv' := [(2, .int x8), (6, .int x13), (0, .ref (G.2.2 0)), (3, .int x8), (4, .int x9), (5, .int x10)]) hx hb dX11_spreads_46 rfl hl (by decide) rfl (fun ls hl => ?_)
            refine lv_iload hx hb dX11_spreads_47 (lv_at hl 1 rfl) ?_
            refine lv_istore_n (lv' := [(3, .int x13), (2, .int x8), (6, .int x13), (0, .ref (G.2.2 0)), (4, .int x9), (5, .int x10)]) hx hb dX11_spreads_49 rfl hl (by decide) rfl (fun ls hl => ?_)
            obtain ⟨x19, ex19, hz⟩ := u_let hz
            refine lv_iinc (v := x19) (lv' := [(4, .int x19), (3, .int x13), (2, .int x8), (6, .int x13), (0, .ref (G.2.2 0)), (5, .int x10)]) hx hb dX11_spreads_50 hl (k := 4) rfl (by rw [ex19]; rfl) (by decide) rfl (fun ls hl => ?_)
            exact WJ53_17 x8 x13 x19 _ _ _ hz hw (lv_sub hl [4, 2, 1, 0, 5] rfl)
    exact WL23_19 N p1 p1 0 0 _ _ _ hz hw (lv_sub hl [4, 3, 2, 1, 0] rfl)
  · replace hz := u_ift hz hc
    refine lv_iconst (v := (-1)) hx hb dX11_spreads_11 (by decide) ?_
    exact u_iret cx hw (u_pair hz) dX11_spreads_12
theorem dX11_glancesOut_0 : decode cX11_glancesOut 0 = .ok (.iconst 0, 1) := by decide +kernel
theorem dX11_glancesOut_1 : decode cX11_glancesOut 1 = .ok (.istore_n 2, 1) := by decide +kernel
theorem dX11_glancesOut_2 : decode cX11_glancesOut 2 = .ok (.iconst 0, 1) := by decide +kernel
theorem dX11_glancesOut_3 : decode cX11_glancesOut 3 = .ok (.istore_n 3, 1) := by decide +kernel
theorem dX11_glancesOut_4 : decode cX11_glancesOut 4 = .ok (.iload_n 3, 1) := by decide +kernel
theorem dX11_glancesOut_5 : decode cX11_glancesOut 5 = .ok (.aload_n 0, 1) := by decide +kernel
theorem dX11_glancesOut_6 : decode cX11_glancesOut 6 = .ok (.getfield 26, 3) := by decide +kernel
theorem dX11_glancesOut_9 : decode cX11_glancesOut 9 = .ok (.getfield 122, 3) := by decide +kernel
theorem dX11_glancesOut_12 : decode cX11_glancesOut 12 = .ok (.if_icmp .ge 40, 3) := by decide +kernel
theorem dX11_glancesOut_15 : decode cX11_glancesOut 15 = .ok (.iload_n 2, 1) := by decide +kernel
theorem dX11_glancesOut_16 : decode cX11_glancesOut 16 = .ok (.iload_n 1, 1) := by decide +kernel
theorem dX11_glancesOut_17 : decode cX11_glancesOut 17 = .ok (.iload_n 3, 1) := by decide +kernel
theorem dX11_glancesOut_18 : decode cX11_glancesOut 18 = .ok (.ishr, 1) := by decide +kernel
theorem dX11_glancesOut_19 : decode cX11_glancesOut 19 = .ok (.iconst 1, 1) := by decide +kernel
theorem dX11_glancesOut_20 : decode cX11_glancesOut 20 = .ok (.iand, 1) := by decide +kernel
theorem dX11_glancesOut_21 : decode cX11_glancesOut 21 = .ok (.iconst 1, 1) := by decide +kernel
theorem dX11_glancesOut_22 : decode cX11_glancesOut 22 = .ok (.if_icmp .ne 21, 3) := by decide +kernel
theorem dX11_glancesOut_25 : decode cX11_glancesOut 25 = .ok (.aload_n 0, 1) := by decide +kernel
theorem dX11_glancesOut_26 : decode cX11_glancesOut 26 = .ok (.getfield 26, 3) := by decide +kernel
theorem dX11_glancesOut_29 : decode cX11_glancesOut 29 = .ok (.iload_n 3, 1) := by decide +kernel
theorem dX11_glancesOut_30 : decode cX11_glancesOut 30 = .ok (.invokevirtual 167, 3) := by decide +kernel
theorem dX11_glancesOut_33 : decode cX11_glancesOut 33 = .ok (.iload_n 1, 1) := by decide +kernel
theorem dX11_glancesOut_34 : decode cX11_glancesOut 34 = .ok (.iconst (-1), 1) := by decide +kernel
theorem dX11_glancesOut_35 : decode cX11_glancesOut 35 = .ok (.ixor, 1) := by decide +kernel
theorem dX11_glancesOut_36 : decode cX11_glancesOut 36 = .ok (.iand, 1) := by decide +kernel
theorem dX11_glancesOut_37 : decode cX11_glancesOut 37 = .ok (.invokestatic 181, 3) := by decide +kernel
theorem dX11_glancesOut_40 : decode cX11_glancesOut 40 = .ok (.goto 4, 3) := by decide +kernel
theorem dX11_glancesOut_43 : decode cX11_glancesOut 43 = .ok (.iconst 0, 1) := by decide +kernel
theorem dX11_glancesOut_44 : decode cX11_glancesOut 44 = .ok (.iadd, 1) := by decide +kernel
theorem dX11_glancesOut_45 : decode cX11_glancesOut 45 = .ok (.istore_n 2, 1) := by decide +kernel
theorem dX11_glancesOut_46 : decode cX11_glancesOut 46 = .ok (.iinc 3 1, 3) := by decide +kernel
theorem dX11_glancesOut_49 : decode cX11_glancesOut 49 = .ok (.goto (-45), 3) := by decide +kernel
theorem dX11_glancesOut_52 : decode cX11_glancesOut 52 = .ok (.iload_n 2, 1) := by decide +kernel
theorem dX11_glancesOut_53 : decode cX11_glancesOut 53 = .ok (.ireturn, 1) := by decide +kernel
def b_X11_glancesOut_4 (N : Nat) (σ : uS) (p1 : Int32) (J52_2 : Int32 → Option Int32) (rec4_5 : Int32 → Int32 → Option Int32) (x3 : Int32) (x4 : Int32) : Option Int32 :=
  if (σ.1 32 8) ≤ x4 then (J52_2 x3) else (u_jn (fun (t6 : Int32) => (u_jn ((x3 + t6) : Int32) fun x8 =>
  u_jn (x4 + 1 : Int32) fun x9 =>
  rec4_5 x8 x9 : Option Int32)) fun J44_7 =>
  if ((p1 >>> (x4 &&& 31)) &&& 1) = 1 then ((f_X7_seenBy N σ 32 x4).bind fun v10 =>
  (f_J6_bitCount_0f7a4 N σ (v10 &&& (p1 ^^^ (-1)))).bind fun v11 =>
  J44_7 v11) else (J44_7 0))
def f_X11_glancesOut (N : Nat) (σ : uS) (p1 : Int32) : Option Int32 := u_jn (fun (x1 : Int32) => (some x1 : Option Int32)) fun J52_2 =>
  u_lp2 (b_X11_glancesOut_4 N σ p1 J52_2) N 0 0
set_option maxRecDepth 100000 in
set_option maxHeartbeats 4000000 in
theorem c_X11_glancesOut (l : Launch) (G : uG) (N : Nat) (σ : uS) (p1 : Int32) (z : Int32) (hz : f_X11_glancesOut N σ p1 = some z) : u_Mi l ZC G yX11_glancesOut cX11_glancesOut 4 .int 2 [.ref (G.2.2 0), .int p1] σ z σ := by
  refine u_Mi_of RX11 (by decide) rfl (Nat.le_of_ble_eq_true rfl) ?_
  intro p e s m args below meth c ls cx hw hl
  have hx := cx.1
  have hb := cx.2.1
  have hl : lv_has ls 4 [(0, .ref (G.2.2 0)), (1, .int p1)] := hl
  unfold f_X11_glancesOut at hz
  refine lv_iconst (v := 0) hx hb dX11_glancesOut_0 (by decide) ?_
  refine lv_istore_n (lv' := [(2, .int 0), (0, .ref (G.2.2 0)), (1, .int p1)]) hx hb dX11_glancesOut_1 rfl hl (by decide) rfl (fun ls hl => ?_)
  refine lv_iconst (v := 0) hx hb dX11_glancesOut_2 (by decide) ?_
  refine lv_istore_n (lv' := [(3, .int 0), (2, .int 0), (0, .ref (G.2.2 0)), (1, .int p1)]) hx hb dX11_glancesOut_3 rfl hl (by decide) rfl (fun ls hl => ?_)
  obtain ⟨J52_2, eJ52_2, hz⟩ := u_let hz
  have WJ52_2 : ∀ (x1 : Int32) (H : Heap) (locs : List Loc) (ls : Array Slot), J52_2 x1 = some z → u_W ZC G σ s H locs → lv_has ls 4 [(2, .int x1)] → W p l e (u_rm 2) s m args below meth c H locs 0 0 (u_Qi below ZC G s args z σ) (F0 m 52 ls []) := by
    intro x1 H locs ls hz hw hl
    rw [eJ52_2] at hz
    refine lv_iload_n hx hb dX11_glancesOut_52 rfl (lv_at hl 0 rfl) ?_
    exact u_iret cx hw ⟨Option.some.inj hz, rfl⟩ dX11_glancesOut_53
  have WL4_11 : ∀ (k : Nat) (x3 : Int32) (x4 : Int32) (H : Heap) (locs : List Loc) (ls : Array Slot), u_lp2 (b_X11_glancesOut_4 N σ p1 J52_2) k x3 x4 = some z → u_W ZC G σ s H locs → lv_has ls 4 [(0, .ref (G.2.2 0)), (1, .int p1), (2, .int x3), (3, .int x4)] → W p l e (u_rm 2) s m args below meth c H locs 0 0 (u_Qi below ZC G s args z σ) (F0 m 4 ls []) := by
    intro k
    induction k with
    | zero =>
      intro x3 x4 H locs ls hz
      exact absurd hz (by intro h9; cases h9)
    | succ k ih4_5 =>
      intro x3 x4 H locs ls hz hw hl
      have hz : (b_X11_glancesOut_4 N σ p1 J52_2) (u_lp2 (b_X11_glancesOut_4 N σ p1 J52_2) k) x3 x4 = some z := hz
      unfold b_X11_glancesOut_4 at hz
      refine lv_iload_n hx hb dX11_glancesOut_4 rfl (lv_at hl 3 rfl) ?_
      refine lv_aload_n hx hb dX11_glancesOut_5 rfl (lv_at hl 0 rfl) ?_
      refine u_getp cx hw F_X11_26 o_X11 rfl dX11_glancesOut_6 ?_
      refine u_geti cx hw F_X11_122 oS_32 rfl dX11_glancesOut_9 ?_
      refine lv_icmp_ge (tgt := 52) hx hb dX11_glancesOut_12 (by decide) (fun hc => ?_) (fun hc => ?_)
      · replace hz := u_ift hz hc
        exact WJ52_2 x3 _ _ _ hz hw (lv_sub hl [2] rfl)
      · replace hz := u_iff hz hc
        refine lv_iload_n hx hb dX11_glancesOut_15 rfl (lv_at hl 2 rfl) ?_
        refine lv_iload_n hx hb dX11_glancesOut_16 rfl (lv_at hl 1 rfl) ?_
        refine lv_iload_n hx hb dX11_glancesOut_17 rfl (lv_at hl 3 rfl) ?_
        refine lv_ishr hx hb dX11_glancesOut_18 ?_
        refine lv_iconst (v := 1) hx hb dX11_glancesOut_19 (by decide) ?_
        refine lv_iand hx hb dX11_glancesOut_20 ?_
        refine lv_iconst (v := 1) hx hb dX11_glancesOut_21 (by decide) ?_
        obtain ⟨J44_7, eJ44_7, hz⟩ := u_let hz
        have WJ44_7 : ∀ (t6 : Int32) (H : Heap) (locs : List Loc) (ls : Array Slot), J44_7 t6 = some z → u_W ZC G σ s H locs → lv_has ls 4 [(0, .ref (G.2.2 0)), (1, .int p1), (3, .int x4)] → W p l e (u_rm 2) s m args below meth c H locs 0 0 (u_Qi below ZC G s args z σ) (F0 m 44 ls [.int t6, .int x3]) := by
          intro t6 H locs ls hz hw hl
          rw [eJ44_7] at hz
          refine lv_iadd hx hb dX11_glancesOut_44 ?_
          obtain ⟨x8, ex8, hz⟩ := u_let hz
          refine u_topi ex8 ?_
          refine lv_istore_n (lv' := [(2, .int x8), (0, .ref (G.2.2 0)), (1, .int p1), (3, .int x4)]) hx hb dX11_glancesOut_45 rfl hl (by decide) rfl (fun ls hl => ?_)
          obtain ⟨x9, ex9, hz⟩ := u_let hz
          refine lv_iinc (v := x9) (lv' := [(3, .int x9), (2, .int x8), (0, .ref (G.2.2 0)), (1, .int p1)]) hx hb dX11_glancesOut_46 hl (k := 3) rfl (by rw [ex9]; rfl) (by decide) rfl (fun ls hl => ?_)
          refine lv_goto (tgt := 4) hx hb dX11_glancesOut_49 (by decide) ?_
          exact ih4_5 x8 x9 _ _ _ hz hw (lv_sub hl [2, 3, 1, 0] rfl)
        refine lv_icmp_ne (tgt := 43) hx hb dX11_glancesOut_22 (by decide) (fun hc => ?_) (fun hc => ?_)
        · replace hz := u_iff hz hc
          refine lv_iconst (v := 0) hx hb dX11_glancesOut_43 (by decide) ?_
          exact WJ44_7 0 _ _ _ hz hw (lv_sub hl [0, 1, 3] rfl)
        · replace hz := u_ift hz hc
          refine lv_aload_n hx hb dX11_glancesOut_25 rfl (lv_at hl 0 rfl) ?_
          refine u_getp cx hw F_X11_26 o_X11 rfl dX11_glancesOut_26 ?_
          refine lv_iload_n hx hb dX11_glancesOut_29 rfl (lv_at hl 3 rfl) ?_
          obtain ⟨v10, hv10, hz⟩ := u_bind hz
          refine u_callVi (As := [.int x4]) (rest := [.int x3]) cx hw LV_X11_167 (c_X7_seenBy l G N σ 32 oS_32 x4 v10 hv10) oS_32 rfl (by decide) hl.1 rfl (Nat.le_of_ble_eq_true rfl) dX11_glancesOut_30 rfl (fun H locs hw => ?_)
          refine lv_iload_n hx hb dX11_glancesOut_33 rfl (lv_at hl 1 rfl) ?_
          refine lv_iconst (v := (-1)) hx hb dX11_glancesOut_34 (by decide) ?_
          refine lv_ixor hx hb dX11_glancesOut_35 ?_
          refine lv_iand hx hb dX11_glancesOut_36 ?_
          obtain ⟨v11, hv11, hz⟩ := u_bind hz
          refine u_callSi (As := [.int (v10 &&& (p1 ^^^ (-1)))]) (rest := [.int x3]) cx hw LS_X11_181 (c_J6_bitCount_0f7a4 l G ZC N σ (v10 &&& (p1 ^^^ (-1))) v11 hv11) (by decide) hl.1 rfl (Nat.le_of_ble_eq_true rfl) dX11_glancesOut_37 rfl (fun H locs hw => ?_)
          refine lv_goto (tgt := 44) hx hb dX11_glancesOut_40 (by decide) ?_
          exact WJ44_7 v11 _ _ _ hz hw (lv_sub hl [0, 1, 3] rfl)
  exact WL4_11 N 0 0 _ _ _ hz hw (lv_sub hl [2, 3, 1, 0] rfl)
theorem dX11_duesRank_0 : decode cX11_duesRank 0 = .ok (.aload_n 0, 1) := by decide +kernel
theorem dX11_duesRank_1 : decode cX11_duesRank 1 = .ok (.iload_n 1, 1) := by decide +kernel
theorem dX11_duesRank_2 : decode cX11_duesRank 2 = .ok (.iload_n 2, 1) := by decide +kernel
theorem dX11_duesRank_3 : decode cX11_duesRank 3 = .ok (.iload_n 3, 1) := by decide +kernel
theorem dX11_duesRank_4 : decode cX11_duesRank 4 = .ok (.invokevirtual 380, 3) := by decide +kernel
theorem dX11_duesRank_7 : decode cX11_duesRank 7 = .ok (.istore 4, 2) := by decide +kernel
theorem dX11_duesRank_9 : decode cX11_duesRank 9 = .ok (.iconst 0, 1) := by decide +kernel
theorem dX11_duesRank_10 : decode cX11_duesRank 10 = .ok (.istore 5, 2) := by decide +kernel
theorem dX11_duesRank_12 : decode cX11_duesRank 12 = .ok (.aload_n 0, 1) := by decide +kernel
theorem dX11_duesRank_13 : decode cX11_duesRank 13 = .ok (.getfield 26, 3) := by decide +kernel
theorem dX11_duesRank_16 : decode cX11_duesRank 16 = .ok (.getfield 266, 3) := by decide +kernel
theorem dX11_duesRank_19 : decode cX11_duesRank 19 = .ok (.istore 6, 2) := by decide +kernel
theorem dX11_duesRank_21 : decode cX11_duesRank 21 = .ok (.iload 6, 2) := by decide +kernel
theorem dX11_duesRank_23 : decode cX11_duesRank 23 = .ok (.aload_n 0, 1) := by decide +kernel
theorem dX11_duesRank_24 : decode cX11_duesRank 24 = .ok (.getfield 26, 3) := by decide +kernel
theorem dX11_duesRank_27 : decode cX11_duesRank 27 = .ok (.getfield 269, 3) := by decide +kernel
theorem dX11_duesRank_30 : decode cX11_duesRank 30 = .ok (.if_icmp .gt 49, 3) := by decide +kernel
theorem dX11_duesRank_33 : decode cX11_duesRank 33 = .ok (.aload_n 0, 1) := by decide +kernel
theorem dX11_duesRank_34 : decode cX11_duesRank 34 = .ok (.iload_n 1, 1) := by decide +kernel
theorem dX11_duesRank_35 : decode cX11_duesRank 35 = .ok (.iload_n 2, 1) := by decide +kernel
theorem dX11_duesRank_36 : decode cX11_duesRank 36 = .ok (.iload 6, 2) := by decide +kernel
theorem dX11_duesRank_38 : decode cX11_duesRank 38 = .ok (.invokevirtual 380, 3) := by decide +kernel
theorem dX11_duesRank_41 : decode cX11_duesRank 41 = .ok (.istore 7, 2) := by decide +kernel
theorem dX11_duesRank_43 : decode cX11_duesRank 43 = .ok (.iload 5, 2) := by decide +kernel
theorem dX11_duesRank_45 : decode cX11_duesRank 45 = .ok (.iload 7, 2) := by decide +kernel
theorem dX11_duesRank_47 : decode cX11_duesRank 47 = .ok (.iload 4, 2) := by decide +kernel
theorem dX11_duesRank_49 : decode cX11_duesRank 49 = .ok (.if_icmp .gt 16, 3) := by decide +kernel
theorem dX11_duesRank_52 : decode cX11_duesRank 52 = .ok (.iload 7, 2) := by decide +kernel
theorem dX11_duesRank_54 : decode cX11_duesRank 54 = .ok (.iload 4, 2) := by decide +kernel
theorem dX11_duesRank_56 : decode cX11_duesRank 56 = .ok (.if_icmp .ne 13, 3) := by decide +kernel
theorem dX11_duesRank_59 : decode cX11_duesRank 59 = .ok (.iload 6, 2) := by decide +kernel
theorem dX11_duesRank_61 : decode cX11_duesRank 61 = .ok (.iload_n 3, 1) := by decide +kernel
theorem dX11_duesRank_62 : decode cX11_duesRank 62 = .ok (.if_icmp .ge 7, 3) := by decide +kernel
theorem dX11_duesRank_65 : decode cX11_duesRank 65 = .ok (.iconst 1, 1) := by decide +kernel
theorem dX11_duesRank_66 : decode cX11_duesRank 66 = .ok (.goto 4, 3) := by decide +kernel
theorem dX11_duesRank_69 : decode cX11_duesRank 69 = .ok (.iconst 0, 1) := by decide +kernel
theorem dX11_duesRank_70 : decode cX11_duesRank 70 = .ok (.iadd, 1) := by decide +kernel
theorem dX11_duesRank_71 : decode cX11_duesRank 71 = .ok (.istore 5, 2) := by decide +kernel
theorem dX11_duesRank_73 : decode cX11_duesRank 73 = .ok (.iinc 6 1, 3) := by decide +kernel
theorem dX11_duesRank_76 : decode cX11_duesRank 76 = .ok (.goto (-55), 3) := by decide +kernel
theorem dX11_duesRank_79 : decode cX11_duesRank 79 = .ok (.iload 5, 2) := by decide +kernel
theorem dX11_duesRank_81 : decode cX11_duesRank 81 = .ok (.ireturn, 1) := by decide +kernel
def b_X11_duesRank_21 (N : Nat) (σ : uS) (p1 : Int32) (p2 : Int32) (p3 : Int32) (v1 : Int32) (J79_4 : Int32 → Option Int32) (rec21_7 : Int32 → Int32 → Option Int32) (x5 : Int32) (x6 : Int32) : Option Int32 :=
  if (σ.1 32 7) < x6 then (J79_4 x5) else ((f_X11_duesRest N σ p1 p2 x6).bind fun v8 =>
  u_jn (fun (t9 : Int32) => (u_jn ((x5 + t9) : Int32) fun x11 =>
  u_jn (x6 + 1 : Int32) fun x12 =>
  rec21_7 x11 x12 : Option Int32)) fun J70_10 =>
  u_jn ((J70_10 1 : Option Int32)) fun J65_13 =>
  if v1 < v8 then (J65_13) else (u_jn ((J70_10 0 : Option Int32)) fun J69_14 =>
  if v8 = v1 then (if p3 ≤ x6 then (J69_14) else (J65_13)) else (J69_14)))
def f_X11_duesRank (N : Nat) (σ : uS) (p1 : Int32) (p2 : Int32) (p3 : Int32) : Option Int32 := (f_X11_duesRest N σ p1 p2 p3).bind fun v1 =>
  u_jn ((σ.1 32 6) : Int32) fun x2 =>
  u_jn (fun (x3 : Int32) => (some x3 : Option Int32)) fun J79_4 =>
  u_lp2 (b_X11_duesRank_21 N σ p1 p2 p3 v1 J79_4) N 0 x2
set_option maxRecDepth 100000 in
set_option maxHeartbeats 4000000 in
theorem c_X11_duesRank (l : Launch) (G : uG) (N : Nat) (σ : uS) (p1 : Int32) (p2 : Int32) (p3 : Int32) (z : Int32) (hz : f_X11_duesRank N σ p1 p2 p3 = some z) : u_Mi l ZC G yX11_duesRank cX11_duesRank 8 .int 1 [.ref (G.2.2 0), .int p1, .int p2, .int p3] σ z σ := by
  refine u_Mi_of RX11 (by decide) rfl (Nat.le_of_ble_eq_true rfl) ?_
  intro p e s m args below meth c ls cx hw hl
  have hx := cx.1
  have hb := cx.2.1
  have hl : lv_has ls 8 [(0, .ref (G.2.2 0)), (1, .int p1), (2, .int p2), (3, .int p3)] := hl
  unfold f_X11_duesRank at hz
  refine lv_aload_n hx hb dX11_duesRank_0 rfl (lv_at hl 0 rfl) ?_
  refine lv_iload_n hx hb dX11_duesRank_1 rfl (lv_at hl 1 rfl) ?_
  refine lv_iload_n hx hb dX11_duesRank_2 rfl (lv_at hl 2 rfl) ?_
  refine lv_iload_n hx hb dX11_duesRank_3 rfl (lv_at hl 3 rfl) ?_
  obtain ⟨v1, hv1, hz⟩ := u_bind hz
  refine u_callVi (As := [.int p1, .int p2, .int p3]) (rest := []) cx hw LV_X11_380 (c_X11_duesRest l G N σ p1 p2 p3 v1 hv1) o_X11 rfl (by decide) hl.1 rfl (Nat.le_of_ble_eq_true rfl) dX11_duesRank_4 rfl (fun H locs hw => ?_)
  refine lv_istore (lv' := [(4, .int v1), (0, .ref (G.2.2 0)), (1, .int p1), (2, .int p2), (3, .int p3)]) hx hb dX11_duesRank_7 hl (by decide) rfl (fun ls hl => ?_)
  refine lv_iconst (v := 0) hx hb dX11_duesRank_9 (by decide) ?_
  refine lv_istore (lv' := [(5, .int 0), (4, .int v1), (0, .ref (G.2.2 0)), (1, .int p1), (2, .int p2), (3, .int p3)]) hx hb dX11_duesRank_10 hl (by decide) rfl (fun ls hl => ?_)
  refine lv_aload_n hx hb dX11_duesRank_12 rfl (lv_at hl 2 rfl) ?_
  refine u_getp cx hw F_X11_26 o_X11 rfl dX11_duesRank_13 ?_
  refine u_geti cx hw F_X11_266 oS_32 rfl dX11_duesRank_16 ?_
  obtain ⟨x2, ex2, hz⟩ := u_let hz
  refine u_topi ex2 ?_
  refine lv_istore (lv' := [(6, .int x2), (5, .int 0), (4, .int v1), (0, .ref (G.2.2 0)), (1, .int p1), (2, .int p2), (3, .int p3)]) hx hb dX11_duesRank_19 hl (by decide) rfl (fun ls hl => ?_)
  obtain ⟨J79_4, eJ79_4, hz⟩ := u_let hz
  have WJ79_4 : ∀ (x3 : Int32) (H : Heap) (locs : List Loc) (ls : Array Slot), J79_4 x3 = some z → u_W ZC G σ s H locs → lv_has ls 8 [(5, .int x3)] → W p l e (u_rm 1) s m args below meth c H locs 0 0 (u_Qi below ZC G s args z σ) (F0 m 79 ls []) := by
    intro x3 H locs ls hz hw hl
    rw [eJ79_4] at hz
    refine lv_iload hx hb dX11_duesRank_79 (lv_at hl 0 rfl) ?_
    exact u_iret cx hw ⟨Option.some.inj hz, rfl⟩ dX11_duesRank_81
  have WL21_14 : ∀ (k : Nat) (x5 : Int32) (x6 : Int32) (H : Heap) (locs : List Loc) (ls : Array Slot), u_lp2 (b_X11_duesRank_21 N σ p1 p2 p3 v1 J79_4) k x5 x6 = some z → u_W ZC G σ s H locs → lv_has ls 8 [(0, .ref (G.2.2 0)), (1, .int p1), (2, .int p2), (3, .int p3), (4, .int v1), (5, .int x5), (6, .int x6)] → W p l e (u_rm 1) s m args below meth c H locs 0 0 (u_Qi below ZC G s args z σ) (F0 m 21 ls []) := by
    intro k
    induction k with
    | zero =>
      intro x5 x6 H locs ls hz
      exact absurd hz (by intro h9; cases h9)
    | succ k ih21_7 =>
      intro x5 x6 H locs ls hz hw hl
      have hz : (b_X11_duesRank_21 N σ p1 p2 p3 v1 J79_4) (u_lp2 (b_X11_duesRank_21 N σ p1 p2 p3 v1 J79_4) k) x5 x6 = some z := hz
      unfold b_X11_duesRank_21 at hz
      refine lv_iload hx hb dX11_duesRank_21 (lv_at hl 6 rfl) ?_
      refine lv_aload_n hx hb dX11_duesRank_23 rfl (lv_at hl 0 rfl) ?_
      refine u_getp cx hw F_X11_26 o_X11 rfl dX11_duesRank_24 ?_
      refine u_geti cx hw F_X11_269 oS_32 rfl dX11_duesRank_27 ?_
      refine lv_icmp_gt (tgt := 79) hx hb dX11_duesRank_30 (by decide) (fun hc => ?_) (fun hc => ?_)
      · replace hz := u_ift hz hc
        exact WJ79_4 x5 _ _ _ hz hw (lv_sub hl [5] rfl)
      · replace hz := u_iff hz hc
        refine lv_aload_n hx hb dX11_duesRank_33 rfl (lv_at hl 0 rfl) ?_
        refine lv_iload_n hx hb dX11_duesRank_34 rfl (lv_at hl 1 rfl) ?_
        refine lv_iload_n hx hb dX11_duesRank_35 rfl (lv_at hl 2 rfl) ?_
        refine lv_iload hx hb dX11_duesRank_36 (lv_at hl 6 rfl) ?_
        obtain ⟨v8, hv8, hz⟩ := u_bind hz
        refine u_callVi (As := [.int p1, .int p2, .int x6]) (rest := []) cx hw LV_X11_380 (c_X11_duesRest l G N σ p1 p2 x6 v8 hv8) o_X11 rfl (by decide) hl.1 rfl (Nat.le_of_ble_eq_true rfl) dX11_duesRank_38 rfl (fun H locs hw => ?_)
        refine lv_istore (lv' := [(7, .int v8), (0, .ref (G.2.2 0)), (1, .int p1), (2, .int p2), (3, .int p3), (4, .int v1), (5, .int x5), (6, .int x6)]) hx hb dX11_duesRank_41 hl (by decide) rfl (fun ls hl => ?_)
        refine lv_iload hx hb dX11_duesRank_43 (lv_at hl 6 rfl) ?_
        refine lv_iload hx hb dX11_duesRank_45 (lv_at hl 0 rfl) ?_
        refine lv_iload hx hb dX11_duesRank_47 (lv_at hl 5 rfl) ?_
        obtain ⟨J70_10, eJ70_10, hz⟩ := u_let hz
        have WJ70_10 : ∀ (t9 : Int32) (H : Heap) (locs : List Loc) (ls : Array Slot), J70_10 t9 = some z → u_W ZC G σ s H locs → lv_has ls 8 [(0, .ref (G.2.2 0)), (1, .int p1), (2, .int p2), (3, .int p3), (4, .int v1), (6, .int x6)] → W p l e (u_rm 1) s m args below meth c H locs 0 0 (u_Qi below ZC G s args z σ) (F0 m 70 ls [.int t9, .int x5]) := by
          intro t9 H locs ls hz hw hl
          rw [eJ70_10] at hz
          refine lv_iadd hx hb dX11_duesRank_70 ?_
          obtain ⟨x11, ex11, hz⟩ := u_let hz
          refine u_topi ex11 ?_
          refine lv_istore (lv' := [(5, .int x11), (0, .ref (G.2.2 0)), (1, .int p1), (2, .int p2), (3, .int p3), (4, .int v1), (6, .int x6)]) hx hb dX11_duesRank_71 hl (by decide) rfl (fun ls hl => ?_)
          obtain ⟨x12, ex12, hz⟩ := u_let hz
          refine lv_iinc (v := x12) (lv' := [(6, .int x12), (5, .int x11), (0, .ref (G.2.2 0)), (1, .int p1), (2, .int p2), (3, .int p3), (4, .int v1)]) hx hb dX11_duesRank_73 hl (k := 6) rfl (by rw [ex12]; rfl) (by decide) rfl (fun ls hl => ?_)
          refine lv_goto (tgt := 21) hx hb dX11_duesRank_76 (by decide) ?_
          exact ih21_7 x11 x12 _ _ _ hz hw (lv_sub hl [2, 3, 4, 5, 6, 1, 0] rfl)
        obtain ⟨J65_13, eJ65_13, hz⟩ := u_let hz
        have WJ65_13 : ∀ (H : Heap) (locs : List Loc) (ls : Array Slot), J65_13 = some z → u_W ZC G σ s H locs → lv_has ls 8 [(0, .ref (G.2.2 0)), (1, .int p1), (2, .int p2), (3, .int p3), (4, .int v1), (6, .int x6)] → W p l e (u_rm 1) s m args below meth c H locs 0 0 (u_Qi below ZC G s args z σ) (F0 m 65 ls [.int x5]) := by
          intro H locs ls hz hw hl
          rw [eJ65_13] at hz
          refine lv_iconst (v := 1) hx hb dX11_duesRank_65 (by decide) ?_
          refine lv_goto (tgt := 70) hx hb dX11_duesRank_66 (by decide) ?_
          exact WJ70_10 1 _ _ _ hz hw (lv_sub hl [0, 1, 2, 3, 4, 5] rfl)
        refine lv_icmp_gt (tgt := 65) hx hb dX11_duesRank_49 (by decide) (fun hc => ?_) (fun hc => ?_)
        · replace hz := u_ift hz hc
          exact WJ65_13 _ _ _ hz hw (lv_sub hl [1, 2, 3, 4, 5, 7] rfl)
        · replace hz := u_iff hz hc
          refine lv_iload hx hb dX11_duesRank_52 (lv_at hl 0 rfl) ?_
          refine lv_iload hx hb dX11_duesRank_54 (lv_at hl 5 rfl) ?_
          obtain ⟨J69_14, eJ69_14, hz⟩ := u_let hz
          have WJ69_14 : ∀ (H : Heap) (locs : List Loc) (ls : Array Slot), J69_14 = some z → u_W ZC G σ s H locs → lv_has ls 8 [(0, .ref (G.2.2 0)), (1, .int p1), (2, .int p2), (3, .int p3), (4, .int v1), (6, .int x6)] → W p l e (u_rm 1) s m args below meth c H locs 0 0 (u_Qi below ZC G s args z σ) (F0 m 69 ls [.int x5]) := by
            intro H locs ls hz hw hl
            rw [eJ69_14] at hz
            refine lv_iconst (v := 0) hx hb dX11_duesRank_69 (by decide) ?_
            exact WJ70_10 0 _ _ _ hz hw (lv_sub hl [0, 1, 2, 3, 4, 5] rfl)
          refine lv_icmp_ne (tgt := 69) hx hb dX11_duesRank_56 (by decide) (fun hc => ?_) (fun hc => ?_)
          · replace hz := u_iff hz hc
            exact WJ69_14 _ _ _ hz hw (lv_sub hl [1, 2, 3, 4, 5, 7] rfl)
          · replace hz := u_ift hz hc
            refine lv_iload hx hb dX11_duesRank_59 (lv_at hl 7 rfl) ?_
            refine lv_iload_n hx hb dX11_duesRank_61 rfl (lv_at hl 4 rfl) ?_
            refine lv_icmp_ge (tgt := 69) hx hb dX11_duesRank_62 (by decide) (fun hc => ?_) (fun hc => ?_)
            · replace hz := u_ift hz hc
              exact WJ69_14 _ _ _ hz hw (lv_sub hl [1, 2, 3, 4, 5, 7] rfl)
            · replace hz := u_iff hz hc
              exact WJ65_13 _ _ _ hz hw (lv_sub hl [1, 2, 3, 4, 5, 7] rfl)
  exact WL21_14 N 0 x2 _ _ _ hz hw (lv_sub hl [3, 4, 5, 6, 2, 1, 0] rfl)
theorem dX11_floods_0 : decode cX11_floods 0 = .ok (.iload_n 1, 1) := by decide +kernel
theorem dX11_floods_1 : decode cX11_floods 1 = .ok (.iload_n 3, 1) := by decide +kernel
theorem dX11_floods_2 : decode cX11_floods 2 = .ok (.invokestatic 383, 3) := by decide +kernel
theorem dX11_floods_5 : decode cX11_floods 5 = .ok (.ifCond .eq 13, 3) := by decide +kernel
theorem dX11_floods_8 : decode cX11_floods 8 = .ok (.iload_n 2, 1) := by decide +kernel
theorem dX11_floods_9 : decode cX11_floods 9 = .ok (.ifCond .lt 9, 3) := by decide +kernel
theorem dX11_floods_12 : decode cX11_floods 12 = .ok (.iload_n 2, 1) := by decide +kernel
theorem dX11_floods_13 : decode cX11_floods 13 = .ok (.bipush 12, 2) := by decide +kernel
theorem dX11_floods_15 : decode cX11_floods 15 = .ok (.if_icmp .le 5, 3) := by decide +kernel
theorem dX11_floods_18 : decode cX11_floods 18 = .ok (.iconst (-1), 1) := by decide +kernel
theorem dX11_floods_19 : decode cX11_floods 19 = .ok (.ireturn, 1) := by decide +kernel
theorem dX11_floods_20 : decode cX11_floods 20 = .ok (.aload_n 0, 1) := by decide +kernel
theorem dX11_floods_21 : decode cX11_floods 21 = .ok (.iload_n 1, 1) := by decide +kernel
theorem dX11_floods_22 : decode cX11_floods 22 = .ok (.iload_n 3, 1) := by decide +kernel
theorem dX11_floods_23 : decode cX11_floods 23 = .ok (.invokevirtual 386, 3) := by decide +kernel
theorem dX11_floods_26 : decode cX11_floods 26 = .ok (.lconst 0, 1) := by decide +kernel
theorem dX11_floods_27 : decode cX11_floods 27 = .ok (.lstore 4, 2) := by decide +kernel
theorem dX11_floods_29 : decode cX11_floods 29 = .ok (.lconst 0, 1) := by decide +kernel
theorem dX11_floods_30 : decode cX11_floods 30 = .ok (.lstore 6, 2) := by decide +kernel
theorem dX11_floods_32 : decode cX11_floods 32 = .ok (.iconst 0, 1) := by decide +kernel
theorem dX11_floods_33 : decode cX11_floods 33 = .ok (.istore 8, 2) := by decide +kernel
theorem dX11_floods_35 : decode cX11_floods 35 = .ok (.iload 8, 2) := by decide +kernel
theorem dX11_floods_37 : decode cX11_floods 37 = .ok (.iload_n 1, 1) := by decide +kernel
theorem dX11_floods_38 : decode cX11_floods 38 = .ok (.if_icmp .gt 43, 3) := by decide +kernel
theorem dX11_floods_41 : decode cX11_floods 41 = .ok (.lload 6, 2) := by decide +kernel
theorem dX11_floods_43 : decode cX11_floods 43 = .ok (.aload_n 0, 1) := by decide +kernel
theorem dX11_floods_44 : decode cX11_floods 44 = .ok (.getfield 75, 3) := by decide +kernel
theorem dX11_floods_47 : decode cX11_floods 47 = .ok (.iload 8, 2) := by decide +kernel
theorem dX11_floods_49 : decode cX11_floods 49 = .ok (.laload, 1) := by decide +kernel
theorem dX11_floods_50 : decode cX11_floods 50 = .ok (.ladd, 1) := by decide +kernel
theorem dX11_floods_51 : decode cX11_floods 51 = .ok (.lstore 6, 2) := by decide +kernel
theorem dX11_floods_53 : decode cX11_floods 53 = .ok (.lload 4, 2) := by decide +kernel
theorem dX11_floods_55 : decode cX11_floods 55 = .ok (.iload 8, 2) := by decide +kernel
theorem dX11_floods_57 : decode cX11_floods 57 = .ok (.iload_n 2, 1) := by decide +kernel
theorem dX11_floods_58 : decode cX11_floods 58 = .ok (.if_icmp .lt 13, 3) := by decide +kernel
theorem dX11_floods_61 : decode cX11_floods 61 = .ok (.aload_n 0, 1) := by decide +kernel
theorem dX11_floods_62 : decode cX11_floods 62 = .ok (.getfield 75, 3) := by decide +kernel
theorem dX11_floods_65 : decode cX11_floods 65 = .ok (.iload 8, 2) := by decide +kernel
theorem dX11_floods_67 : decode cX11_floods 67 = .ok (.laload, 1) := by decide +kernel
theorem dX11_floods_68 : decode cX11_floods 68 = .ok (.goto 4, 3) := by decide +kernel
theorem dX11_floods_71 : decode cX11_floods 71 = .ok (.lconst 0, 1) := by decide +kernel
theorem dX11_floods_72 : decode cX11_floods 72 = .ok (.ladd, 1) := by decide +kernel
theorem dX11_floods_73 : decode cX11_floods 73 = .ok (.lstore 4, 2) := by decide +kernel
theorem dX11_floods_75 : decode cX11_floods 75 = .ok (.iinc 8 1, 3) := by decide +kernel
theorem dX11_floods_78 : decode cX11_floods 78 = .ok (.goto (-43), 3) := by decide +kernel
theorem dX11_floods_81 : decode cX11_floods 81 = .ok (.aload_n 0, 1) := by decide +kernel
theorem dX11_floods_82 : decode cX11_floods 82 = .ok (.lload 4, 2) := by decide +kernel
theorem dX11_floods_84 : decode cX11_floods 84 = .ok (.lload 6, 2) := by decide +kernel
theorem dX11_floods_86 : decode cX11_floods 86 = .ok (.invokevirtual 312, 3) := by decide +kernel
theorem dX11_floods_89 : decode cX11_floods 89 = .ok (.iconst 0, 1) := by decide +kernel
theorem dX11_floods_90 : decode cX11_floods 90 = .ok (.ireturn, 1) := by decide +kernel
def b_X11_floods_35 (p1 : Int32) (p2 : Int32) (s2 : uS) (J81_5 : Int64 → Int64 → Option (Int32 × uS)) (rec35_10 : Int64 → Int64 → Int32 → Option (Int32 × uS)) (x7 : Int64) (x8 : Int64) (x9 : Int32) : Option (Int32 × uS) :=
  if p1 < x9 then (J81_5 x7 x8) else ((u_rL ZC s2 20 x9).bind fun v11 =>
  u_jn ((x8 + v11) : Int64) fun x12 =>
  u_jn (fun (t13 : Int64) => (u_jn ((x7 + t13) : Int64) fun x15 =>
  u_jn (x9 + 1 : Int32) fun x16 =>
  rec35_10 x15 x12 x16 : Option (Int32 × uS))) fun J72_14 =>
  if x9 < p2 then (J72_14 0) else ((u_rL ZC s2 20 x9).bind fun v17 =>
  J72_14 v17))
def f_X11_floods (N : Nat) (σ : uS) (p1 : Int32) (p2 : Int32) (p3 : Int32) : Option (Int32 × uS) := (f_X11_areFloods N σ p1 p3).bind fun v1 =>
  if v1 = 0 then (some ((-1), σ)) else (if p2 < 0 then (some ((-1), σ)) else (if p2 ≤ 12 then ((f_X11_fillChances N σ p1 p3).bind fun s2 =>
  u_jn (fun (x3 : Int64) (x4 : Int64) => ((f_X11_tellFraction N s2 x3 x4).bind fun s6 =>
  some (0, s6) : Option (Int32 × uS))) fun J81_5 =>
  u_lp3 (b_X11_floods_35 p1 p2 s2 J81_5) N 0 0 0) else (some ((-1), σ))))
set_option maxRecDepth 100000 in
set_option maxHeartbeats 4000000 in
theorem c_X11_floods (l : Launch) (G : uG) (N : Nat) (σ : uS) (p1 : Int32) (p2 : Int32) (p3 : Int32) (z : (Int32 × uS)) (hz : f_X11_floods N σ p1 p2 p3 = some z) : u_Mi l ZC G yX11_floods cX11_floods 9 .int 3 [.ref (G.2.2 0), .int p1, .int p2, .int p3] σ z.1 z.2 := by
  refine u_Mi_of RX11 (by decide) rfl (Nat.le_of_ble_eq_true rfl) ?_
  intro p e s m args below meth c ls cx hw hl
  have hx := cx.1
  have hb := cx.2.1
  have hl : lv_has ls 9 [(0, .ref (G.2.2 0)), (1, .int p1), (2, .int p2), (3, .int p3)] := hl
  unfold f_X11_floods at hz
  refine lv_iload_n hx hb dX11_floods_0 rfl (lv_at hl 1 rfl) ?_
  refine lv_iload_n hx hb dX11_floods_1 rfl (lv_at hl 3 rfl) ?_
  obtain ⟨v1, hv1, hz⟩ := u_bind hz
  refine u_callSi (As := [.int p1, .int p3]) (rest := []) cx hw LS_X11_383 (c_X11_areFloods l G N σ p1 p3 v1 hv1) (by decide) hl.1 rfl (Nat.le_of_ble_eq_true rfl) dX11_floods_2 rfl (fun H locs hw => ?_)
  refine lv_if_eq (tgt := 18) hx hb dX11_floods_5 (by decide) (fun hc => ?_) (fun hc => ?_)
  · replace hz := u_ift hz hc
    refine lv_iconst (v := (-1)) hx hb dX11_floods_18 (by decide) ?_
    exact u_iret cx hw (u_pair hz) dX11_floods_19
  · replace hz := u_iff hz hc
    refine lv_iload_n hx hb dX11_floods_8 rfl (lv_at hl 2 rfl) ?_
    refine lv_if_lt (tgt := 18) hx hb dX11_floods_9 (by decide) (fun hc => ?_) (fun hc => ?_)
    · replace hz := u_ift hz hc
      refine lv_iconst (v := (-1)) hx hb dX11_floods_18 (by decide) ?_
      exact u_iret cx hw (u_pair hz) dX11_floods_19
    · replace hz := u_iff hz hc
      refine lv_iload_n hx hb dX11_floods_12 rfl (lv_at hl 2 rfl) ?_
      refine lv_bipush (v := 12) hx hb dX11_floods_13 (by decide) ?_
      refine lv_icmp_le (tgt := 20) hx hb dX11_floods_15 (by decide) (fun hc => ?_) (fun hc => ?_)
      · replace hz := u_ift hz hc
        refine lv_aload_n hx hb dX11_floods_20 rfl (lv_at hl 0 rfl) ?_
        refine lv_iload_n hx hb dX11_floods_21 rfl (lv_at hl 1 rfl) ?_
        refine lv_iload_n hx hb dX11_floods_22 rfl (lv_at hl 3 rfl) ?_
        obtain ⟨s2, hs2, hz⟩ := u_bind hz
        refine u_callVv (As := [.int p1, .int p3]) (rest := []) cx hw LV_X11_386 (c_X11_fillChances l G N σ p1 p3 s2 hs2) o_X11 rfl (by decide) hl.1 rfl (Nat.le_of_ble_eq_true rfl) dX11_floods_23 rfl (fun H locs hw => ?_)
        refine lv_lconst (v := 0) hx hb dX11_floods_26 (by decide) ?_
        refine lv_lstore (lv' := [(4, .long 0), (0, .ref (G.2.2 0)), (1, .int p1), (2, .int p2), (3, .int p3)]) hx hb dX11_floods_27 hl (by decide) rfl (fun ls hl => ?_)
        refine lv_lconst (v := 0) hx hb dX11_floods_29 (by decide) ?_
        refine lv_lstore (lv' := [(6, .long 0), (4, .long 0), (0, .ref (G.2.2 0)), (1, .int p1), (2, .int p2), (3, .int p3)]) hx hb dX11_floods_30 hl (by decide) rfl (fun ls hl => ?_)
        refine lv_iconst (v := 0) hx hb dX11_floods_32 (by decide) ?_
        refine lv_istore (lv' := [(8, .int 0), (6, .long 0), (4, .long 0), (0, .ref (G.2.2 0)), (1, .int p1), (2, .int p2), (3, .int p3)]) hx hb dX11_floods_33 hl (by decide) rfl (fun ls hl => ?_)
        obtain ⟨J81_5, eJ81_5, hz⟩ := u_let hz
        have WJ81_5 : ∀ (x3 : Int64) (x4 : Int64) (H : Heap) (locs : List Loc) (ls : Array Slot), J81_5 x3 x4 = some z → u_W ZC G s2 s H locs → lv_has ls 9 [(0, .ref (G.2.2 0)), (4, .long x3), (6, .long x4)] → W p l e (u_rm 3) s m args below meth c H locs 0 0 (u_Qi below ZC G s args z.1 z.2) (F0 m 81 ls []) := by
          intro x3 x4 H locs ls hz hw hl
          rw [eJ81_5] at hz
          refine lv_aload_n hx hb dX11_floods_81 rfl (lv_at hl 0 rfl) ?_
          refine lv_lload hx hb dX11_floods_82 (lv_at hl 1 rfl) ?_
          refine lv_lload hx hb dX11_floods_84 (lv_at hl 2 rfl) ?_
          obtain ⟨s6, hs6, hz⟩ := u_bind hz
          refine u_callVv (As := [.long x3, .long x4]) (rest := []) cx hw LV_X11_312 (c_X11_tellFraction l G N s2 x3 x4 s6 hs6) o_X11 rfl (by decide) hl.1 rfl (Nat.le_of_ble_eq_true rfl) dX11_floods_86 rfl (fun H locs hw => ?_)
          refine lv_iconst (v := 0) hx hb dX11_floods_89 (by decide) ?_
          exact u_iret cx hw (u_pair hz) dX11_floods_90
        have WL35_17 : ∀ (k : Nat) (x7 : Int64) (x8 : Int64) (x9 : Int32) (H : Heap) (locs : List Loc) (ls : Array Slot), u_lp3 (b_X11_floods_35 p1 p2 s2 J81_5) k x7 x8 x9 = some z → u_W ZC G s2 s H locs → lv_has ls 9 [(0, .ref (G.2.2 0)), (1, .int p1), (2, .int p2), (4, .long x7), (6, .long x8), (8, .int x9)] → W p l e (u_rm 3) s m args below meth c H locs 0 0 (u_Qi below ZC G s args z.1 z.2) (F0 m 35 ls []) := by
          intro k
          induction k with
          | zero =>
            intro x7 x8 x9 H locs ls hz
            exact absurd hz (by intro h9; cases h9)
          | succ k ih35_10 =>
            intro x7 x8 x9 H locs ls hz hw hl
            have hz : (b_X11_floods_35 p1 p2 s2 J81_5) (u_lp3 (b_X11_floods_35 p1 p2 s2 J81_5) k) x7 x8 x9 = some z := hz
            unfold b_X11_floods_35 at hz
            refine lv_iload hx hb dX11_floods_35 (lv_at hl 5 rfl) ?_
            refine lv_iload_n hx hb dX11_floods_37 rfl (lv_at hl 1 rfl) ?_
            refine lv_icmp_gt (tgt := 81) hx hb dX11_floods_38 (by decide) (fun hc => ?_) (fun hc => ?_)
            · replace hz := u_ift hz hc
              exact WJ81_5 x7 x8 _ _ _ hz hw (lv_sub hl [0, 3, 4] rfl)
            · replace hz := u_iff hz hc
              refine lv_lload hx hb dX11_floods_41 (lv_at hl 4 rfl) ?_
              refine lv_aload_n hx hb dX11_floods_43 rfl (lv_at hl 0 rfl) ?_
              refine u_getp cx hw F_X11_75 o_X11 rfl dX11_floods_44 ?_
              refine lv_iload hx hb dX11_floods_47 (lv_at hl 5 rfl) ?_
              obtain ⟨v11, hv11, hz⟩ := u_bind hz
              refine u_lald cx hw hv11 dX11_floods_49 ?_
              refine lv_ladd hx hb dX11_floods_50 ?_
              obtain ⟨x12, ex12, hz⟩ := u_let hz
              refine u_topl ex12 ?_
              refine lv_lstore (lv' := [(6, .long x12), (0, .ref (G.2.2 0)), (1, .int p1), (2, .int p2), (4, .long x7), (8, .int x9)]) hx hb dX11_floods_51 hl (by decide) rfl (fun ls hl => ?_)
              refine lv_lload hx hb dX11_floods_53 (lv_at hl 4 rfl) ?_
              refine lv_iload hx hb dX11_floods_55 (lv_at hl 5 rfl) ?_
              refine lv_iload_n hx hb dX11_floods_57 rfl (lv_at hl 3 rfl) ?_
              obtain ⟨J72_14, eJ72_14, hz⟩ := u_let hz
              have WJ72_14 : ∀ (t13 : Int64) (H : Heap) (locs : List Loc) (ls : Array Slot), J72_14 t13 = some z → u_W ZC G s2 s H locs → lv_has ls 9 [(0, .ref (G.2.2 0)), (1, .int p1), (2, .int p2), (6, .long x12), (8, .int x9)] → W p l e (u_rm 3) s m args below meth c H locs 0 0 (u_Qi below ZC G s args z.1 z.2) (F0 m 72 ls [.long t13, .long x7]) := by
                intro t13 H locs ls hz hw hl
                rw [eJ72_14] at hz
                refine lv_ladd hx hb dX11_floods_72 ?_
                obtain ⟨x15, ex15, hz⟩ := u_let hz
                refine u_topl ex15 ?_
                refine lv_lstore (lv' := [(4, .long x15), (0, .ref (G.2.2 0)), (1, .int p1), (2, .int p2), (6, .long x12), (8, .int x9)]) hx hb dX11_floods_73 hl (by decide) rfl (fun ls hl => ?_)
                obtain ⟨x16, ex16, hz⟩ := u_let hz
                refine lv_iinc (v := x16) (lv' := [(8, .int x16), (4, .long x15), (0, .ref (G.2.2 0)), (1, .int p1), (2, .int p2), (6, .long x12)]) hx hb dX11_floods_75 hl (k := 5) rfl (by rw [ex16]; rfl) (by decide) rfl (fun ls hl => ?_)
                refine lv_goto (tgt := 35) hx hb dX11_floods_78 (by decide) ?_
                exact ih35_10 x15 x12 x16 _ _ _ hz hw (lv_sub hl [2, 3, 4, 1, 5, 0] rfl)
              refine lv_icmp_lt (tgt := 71) hx hb dX11_floods_58 (by decide) (fun hc => ?_) (fun hc => ?_)
              · replace hz := u_ift hz hc
                refine lv_lconst (v := 0) hx hb dX11_floods_71 (by decide) ?_
                exact WJ72_14 0 _ _ _ hz hw (lv_sub hl [1, 2, 3, 0, 5] rfl)
              · replace hz := u_iff hz hc
                refine lv_aload_n hx hb dX11_floods_61 rfl (lv_at hl 1 rfl) ?_
                refine u_getp cx hw F_X11_75 o_X11 rfl dX11_floods_62 ?_
                refine lv_iload hx hb dX11_floods_65 (lv_at hl 5 rfl) ?_
                obtain ⟨v17, hv17, hz⟩ := u_bind hz
                refine u_lald cx hw hv17 dX11_floods_67 ?_
                refine lv_goto (tgt := 72) hx hb dX11_floods_68 (by decide) ?_
                exact WJ72_14 v17 _ _ _ hz hw (lv_sub hl [1, 2, 3, 0, 5] rfl)
        exact WL35_17 N 0 0 0 _ _ _ hz hw (lv_sub hl [3, 4, 5, 2, 1, 0] rfl)
      · replace hz := u_iff hz hc
        refine lv_iconst (v := (-1)) hx hb dX11_floods_18 (by decide) ?_
        exact u_iret cx hw (u_pair hz) dX11_floods_19
theorem dX11_twice_0 : decode cX11_twice 0 = .ok (.iload_n 1, 1) := by decide +kernel
theorem dX11_twice_1 : decode cX11_twice 1 = .ok (.iload_n 2, 1) := by decide +kernel
theorem dX11_twice_2 : decode cX11_twice 2 = .ok (.invokestatic 383, 3) := by decide +kernel
theorem dX11_twice_5 : decode cX11_twice 5 = .ok (.ifCond .ne 5, 3) := by decide +kernel
theorem dX11_twice_8 : decode cX11_twice 8 = .ok (.iconst (-1), 1) := by decide +kernel
theorem dX11_twice_9 : decode cX11_twice 9 = .ok (.ireturn, 1) := by decide +kernel
theorem dX11_twice_10 : decode cX11_twice 10 = .ok (.lconst 1, 1) := by decide +kernel
theorem dX11_twice_11 : decode cX11_twice 11 = .ok (.lstore_n 3, 1) := by decide +kernel
theorem dX11_twice_12 : decode cX11_twice 12 = .ok (.lconst 0, 1) := by decide +kernel
theorem dX11_twice_13 : decode cX11_twice 13 = .ok (.lstore 5, 2) := by decide +kernel
theorem dX11_twice_15 : decode cX11_twice 15 = .ok (.lconst 0, 1) := by decide +kernel
theorem dX11_twice_16 : decode cX11_twice 16 = .ok (.lstore 7, 2) := by decide +kernel
theorem dX11_twice_18 : decode cX11_twice 18 = .ok (.iconst 0, 1) := by decide +kernel
theorem dX11_twice_19 : decode cX11_twice 19 = .ok (.istore 9, 2) := by decide +kernel
theorem dX11_twice_21 : decode cX11_twice 21 = .ok (.iload 9, 2) := by decide +kernel
theorem dX11_twice_23 : decode cX11_twice 23 = .ok (.iload_n 1, 1) := by decide +kernel
theorem dX11_twice_24 : decode cX11_twice 24 = .ok (.if_icmp .ge 44, 3) := by decide +kernel
theorem dX11_twice_27 : decode cX11_twice 27 = .ok (.lload 7, 2) := by decide +kernel
theorem dX11_twice_29 : decode cX11_twice 29 = .ok (.ldc2_w 390, 3) := by decide +kernel
theorem dX11_twice_32 : decode cX11_twice 32 = .ok (.lmul, 1) := by decide +kernel
theorem dX11_twice_33 : decode cX11_twice 33 = .ok (.lload 5, 2) := by decide +kernel
theorem dX11_twice_35 : decode cX11_twice 35 = .ok (.iload_n 2, 1) := by decide +kernel
theorem dX11_twice_36 : decode cX11_twice 36 = .ok (.i2l, 1) := by decide +kernel
theorem dX11_twice_37 : decode cX11_twice 37 = .ok (.lmul, 1) := by decide +kernel
theorem dX11_twice_38 : decode cX11_twice 38 = .ok (.ladd, 1) := by decide +kernel
theorem dX11_twice_39 : decode cX11_twice 39 = .ok (.lstore 7, 2) := by decide +kernel
theorem dX11_twice_41 : decode cX11_twice 41 = .ok (.lload_n 3, 1) := by decide +kernel
theorem dX11_twice_42 : decode cX11_twice 42 = .ok (.iload_n 2, 1) := by decide +kernel
theorem dX11_twice_43 : decode cX11_twice 43 = .ok (.i2l, 1) := by decide +kernel
theorem dX11_twice_44 : decode cX11_twice 44 = .ok (.lmul, 1) := by decide +kernel
theorem dX11_twice_45 : decode cX11_twice 45 = .ok (.lstore 10, 2) := by decide +kernel
theorem dX11_twice_47 : decode cX11_twice 47 = .ok (.lload_n 3, 1) := by decide +kernel
theorem dX11_twice_48 : decode cX11_twice 48 = .ok (.lload 5, 2) := by decide +kernel
theorem dX11_twice_50 : decode cX11_twice 50 = .ok (.ladd, 1) := by decide +kernel
theorem dX11_twice_51 : decode cX11_twice 51 = .ok (.bipush 10, 2) := by decide +kernel
theorem dX11_twice_53 : decode cX11_twice 53 = .ok (.iload_n 2, 1) := by decide +kernel
theorem dX11_twice_54 : decode cX11_twice 54 = .ok (.isub, 1) := by decide +kernel
theorem dX11_twice_55 : decode cX11_twice 55 = .ok (.i2l, 1) := by decide +kernel
theorem dX11_twice_56 : decode cX11_twice 56 = .ok (.lmul, 1) := by decide +kernel
theorem dX11_twice_57 : decode cX11_twice 57 = .ok (.lstore_n 3, 1) := by decide +kernel
theorem dX11_twice_58 : decode cX11_twice 58 = .ok (.lload 10, 2) := by decide +kernel
theorem dX11_twice_60 : decode cX11_twice 60 = .ok (.lstore 5, 2) := by decide +kernel
theorem dX11_twice_62 : decode cX11_twice 62 = .ok (.iinc 9 1, 3) := by decide +kernel
theorem dX11_twice_65 : decode cX11_twice 65 = .ok (.goto (-44), 3) := by decide +kernel
theorem dX11_twice_68 : decode cX11_twice 68 = .ok (.aload_n 0, 1) := by decide +kernel
theorem dX11_twice_69 : decode cX11_twice 69 = .ok (.lload 7, 2) := by decide +kernel
theorem dX11_twice_71 : decode cX11_twice 71 = .ok (.lload 7, 2) := by decide +kernel
theorem dX11_twice_73 : decode cX11_twice 73 = .ok (.lload_n 3, 1) := by decide +kernel
theorem dX11_twice_74 : decode cX11_twice 74 = .ok (.ladd, 1) := by decide +kernel
theorem dX11_twice_75 : decode cX11_twice 75 = .ok (.lload 5, 2) := by decide +kernel
theorem dX11_twice_77 : decode cX11_twice 77 = .ok (.ladd, 1) := by decide +kernel
theorem dX11_twice_78 : decode cX11_twice 78 = .ok (.invokevirtual 312, 3) := by decide +kernel
theorem dX11_twice_81 : decode cX11_twice 81 = .ok (.iconst 0, 1) := by decide +kernel
theorem dX11_twice_82 : decode cX11_twice 82 = .ok (.ireturn, 1) := by decide +kernel
def b_X11_twice_21 (p1 : Int32) (p2 : Int32) (J68_5 : Int64 → Int64 → Int64 → Option (Int32 × uS)) (rec21_11 : Int64 → Int64 → Int64 → Int32 → Option (Int32 × uS)) (x7 : Int64) (x8 : Int64) (x9 : Int64) (x10 : Int32) : Option (Int32 × uS) :=
  if p1 ≤ x10 then (J68_5 x7 x8 x9) else (u_jn (((x9 * 10) + (x8 * (Int32.toInt64 p2))) : Int64) fun x12 =>
  u_jn ((x7 * (Int32.toInt64 p2)) : Int64) fun x13 =>
  u_jn (((x7 + x8) * (Int32.toInt64 (10 - p2))) : Int64) fun x14 =>
  u_jn (x10 + 1 : Int32) fun x15 =>
  rec21_11 x14 x13 x12 x15)
def f_X11_twice (N : Nat) (σ : uS) (p1 : Int32) (p2 : Int32) : Option (Int32 × uS) := (f_X11_areFloods N σ p1 p2).bind fun v1 =>
  if v1 = 0 then (some ((-1), σ)) else (u_jn (fun (x2 : Int64) (x3 : Int64) (x4 : Int64) => ((f_X11_tellFraction N σ x4 ((x4 + x2) + x3)).bind fun s6 =>
  some (0, s6) : Option (Int32 × uS))) fun J68_5 =>
  u_lp4 (b_X11_twice_21 p1 p2 J68_5) N 1 0 0 0)
set_option maxRecDepth 100000 in
set_option maxHeartbeats 4000000 in
theorem c_X11_twice (l : Launch) (G : uG) (N : Nat) (σ : uS) (p1 : Int32) (p2 : Int32) (z : (Int32 × uS)) (hz : f_X11_twice N σ p1 p2 = some z) : u_Mi l ZC G yX11_twice cX11_twice 12 .int 3 [.ref (G.2.2 0), .int p1, .int p2] σ z.1 z.2 := by
  refine u_Mi_of RX11 (by decide) rfl (Nat.le_of_ble_eq_true rfl) ?_
  intro p e s m args below meth c ls cx hw hl
  have hx := cx.1
  have hb := cx.2.1
  have hl : lv_has ls 12 [(0, .ref (G.2.2 0)), (1, .int p1), (2, .int p2)] := hl
  unfold f_X11_twice at hz
  refine lv_iload_n hx hb dX11_twice_0 rfl (lv_at hl 1 rfl) ?_
  refine lv_iload_n hx hb dX11_twice_1 rfl (lv_at hl 2 rfl) ?_
  obtain ⟨v1, hv1, hz⟩ := u_bind hz
  refine u_callSi (As := [.int p1, .int p2]) (rest := []) cx hw LS_X11_383 (c_X11_areFloods l G N σ p1 p2 v1 hv1) (by decide) hl.1 rfl (Nat.le_of_ble_eq_true rfl) dX11_twice_2 rfl (fun H locs hw => ?_)
  refine lv_if_ne (tgt := 10) hx hb dX11_twice_5 (by decide) (fun hc => ?_) (fun hc => ?_)
  · replace hz := u_iff hz hc
    refine lv_lconst (v := 1) hx hb dX11_twice_10 (by decide) ?_
    refine lv_lstore_n (lv' := [(3, .long 1), (0, .ref (G.2.2 0)), (1, .int p1), (2, .int p2)]) hx hb dX11_twice_11 rfl hl (by decide) rfl (fun ls hl => ?_)
    refine lv_lconst (v := 0) hx hb dX11_twice_12 (by decide) ?_
    refine lv_lstore (lv' := [(5, .long 0), (3, .long 1), (0, .ref (G.2.2 0)), (1, .int p1), (2, .int p2)]) hx hb dX11_twice_13 hl (by decide) rfl (fun ls hl => ?_)
    refine lv_lconst (v := 0) hx hb dX11_twice_15 (by decide) ?_
    refine lv_lstore (lv' := [(7, .long 0), (5, .long 0), (3, .long 1), (0, .ref (G.2.2 0)), (1, .int p1), (2, .int p2)]) hx hb dX11_twice_16 hl (by decide) rfl (fun ls hl => ?_)
    refine lv_iconst (v := 0) hx hb dX11_twice_18 (by decide) ?_
    refine lv_istore (lv' := [(9, .int 0), (7, .long 0), (5, .long 0), (3, .long 1), (0, .ref (G.2.2 0)), (1, .int p1), (2, .int p2)]) hx hb dX11_twice_19 hl (by decide) rfl (fun ls hl => ?_)
    obtain ⟨J68_5, eJ68_5, hz⟩ := u_let hz
    have WJ68_5 : ∀ (x2 : Int64) (x3 : Int64) (x4 : Int64) (H : Heap) (locs : List Loc) (ls : Array Slot), J68_5 x2 x3 x4 = some z → u_W ZC G σ s H locs → lv_has ls 12 [(0, .ref (G.2.2 0)), (3, .long x2), (5, .long x3), (7, .long x4)] → W p l e (u_rm 3) s m args below meth c H locs 0 0 (u_Qi below ZC G s args z.1 z.2) (F0 m 68 ls []) := by
      intro x2 x3 x4 H locs ls hz hw hl
      rw [eJ68_5] at hz
      refine lv_aload_n hx hb dX11_twice_68 rfl (lv_at hl 0 rfl) ?_
      refine lv_lload hx hb dX11_twice_69 (lv_at hl 3 rfl) ?_
      refine lv_lload hx hb dX11_twice_71 (lv_at hl 3 rfl) ?_
      refine lv_lload_n hx hb dX11_twice_73 rfl (lv_at hl 1 rfl) ?_
      refine lv_ladd hx hb dX11_twice_74 ?_
      refine lv_lload hx hb dX11_twice_75 (lv_at hl 2 rfl) ?_
      refine lv_ladd hx hb dX11_twice_77 ?_
      obtain ⟨s6, hs6, hz⟩ := u_bind hz
      refine u_callVv (As := [.long x4, .long ((x4 + x2) + x3)]) (rest := []) cx hw LV_X11_312 (c_X11_tellFraction l G N σ x4 ((x4 + x2) + x3) s6 hs6) o_X11 rfl (by decide) hl.1 rfl (Nat.le_of_ble_eq_true rfl) dX11_twice_78 rfl (fun H locs hw => ?_)
      refine lv_iconst (v := 0) hx hb dX11_twice_81 (by decide) ?_
      exact u_iret cx hw (u_pair hz) dX11_twice_82
    have WL21_15 : ∀ (k : Nat) (x7 : Int64) (x8 : Int64) (x9 : Int64) (x10 : Int32) (H : Heap) (locs : List Loc) (ls : Array Slot), u_lp4 (b_X11_twice_21 p1 p2 J68_5) k x7 x8 x9 x10 = some z → u_W ZC G σ s H locs → lv_has ls 12 [(0, .ref (G.2.2 0)), (1, .int p1), (2, .int p2), (3, .long x7), (5, .long x8), (7, .long x9), (9, .int x10)] → W p l e (u_rm 3) s m args below meth c H locs 0 0 (u_Qi below ZC G s args z.1 z.2) (F0 m 21 ls []) := by
      intro k
      induction k with
      | zero =>
        intro x7 x8 x9 x10 H locs ls hz
        exact absurd hz (by intro h9; cases h9)
      | succ k ih21_11 =>
        intro x7 x8 x9 x10 H locs ls hz hw hl
        have hz : (b_X11_twice_21 p1 p2 J68_5) (u_lp4 (b_X11_twice_21 p1 p2 J68_5) k) x7 x8 x9 x10 = some z := hz
        unfold b_X11_twice_21 at hz
        refine lv_iload hx hb dX11_twice_21 (lv_at hl 6 rfl) ?_
        refine lv_iload_n hx hb dX11_twice_23 rfl (lv_at hl 1 rfl) ?_
        refine lv_icmp_ge (tgt := 68) hx hb dX11_twice_24 (by decide) (fun hc => ?_) (fun hc => ?_)
        · replace hz := u_ift hz hc
          exact WJ68_5 x7 x8 x9 _ _ _ hz hw (lv_sub hl [0, 3, 4, 5] rfl)
        · replace hz := u_iff hz hc
          refine lv_lload hx hb dX11_twice_27 (lv_at hl 5 rfl) ?_
          refine u_ldc2 cx q_938 dX11_twice_29 ?_
          refine lv_lmul hx hb dX11_twice_32 ?_
          refine lv_lload hx hb dX11_twice_33 (lv_at hl 4 rfl) ?_
          refine lv_iload_n hx hb dX11_twice_35 rfl (lv_at hl 2 rfl) ?_
          refine lv_i2l (v := (Int32.toInt64 p2)) hx hb dX11_twice_36 rfl ?_
          refine lv_lmul hx hb dX11_twice_37 ?_
          refine lv_ladd hx hb dX11_twice_38 ?_
          obtain ⟨x12, ex12, hz⟩ := u_let hz
          refine u_topl ex12 ?_
          refine lv_lstore (lv' := [(7, .long x12), (0, .ref (G.2.2 0)), (1, .int p1), (2, .int p2), (3, .long x7), (5, .long x8), (9, .int x10)]) hx hb dX11_twice_39 hl (by decide) rfl (fun ls hl => ?_)
          refine lv_lload_n hx hb dX11_twice_41 rfl (lv_at hl 4 rfl) ?_
          refine lv_iload_n hx hb dX11_twice_42 rfl (lv_at hl 3 rfl) ?_
          refine lv_i2l (v := (Int32.toInt64 p2)) hx hb dX11_twice_43 rfl ?_
          refine lv_lmul hx hb dX11_twice_44 ?_
          obtain ⟨x13, ex13, hz⟩ := u_let hz
          refine u_topl ex13 ?_
          refine lv_lstore (lv' := [(10, .long x13), (7, .long x12), (0, .ref (G.2.2 0)), (1, .int p1), (2, .int p2), (3, .long x7), (5, .long x8), (9, .int x10)]) hx hb dX11_twice_45 hl (by decide) rfl (fun ls hl => ?_)
          refine lv_lload_n hx hb dX11_twice_47 rfl (lv_at hl 5 rfl) ?_
          refine lv_lload hx hb dX11_twice_48 (lv_at hl 6 rfl) ?_
          refine lv_ladd hx hb dX11_twice_50 ?_
          refine lv_bipush (v := 10) hx hb dX11_twice_51 (by decide) ?_
          refine lv_iload_n hx hb dX11_twice_53 rfl (lv_at hl 4 rfl) ?_
          refine lv_isub hx hb dX11_twice_54 ?_
          refine lv_i2l (v := (Int32.toInt64 (10 - p2))) hx hb dX11_twice_55 rfl ?_
          refine lv_lmul hx hb dX11_twice_56 ?_
          obtain ⟨x14, ex14, hz⟩ := u_let hz
          refine u_topl ex14 ?_
          refine lv_lstore_n (lv' := [(3, .long x14), (10, .long x13), (7, .long x12), (0, .ref (G.2.2 0)), (1, .int p1), (2, .int p2), (5, .long x8), (9, .int x10)]) hx hb dX11_twice_57 rfl hl (by decide) rfl (fun ls hl => ?_)
          refine lv_lload hx hb dX11_twice_58 (lv_at hl 1 rfl) ?_
          refine lv_lstore (lv' := [(5, .long x13), (3, .long x14), (10, .long x13), (7, .long x12), (0, .ref (G.2.2 0)), (1, .int p1), (2, .int p2), (9, .int x10)]) hx hb dX11_twice_60 hl (by decide) rfl (fun ls hl => ?_)
          obtain ⟨x15, ex15, hz⟩ := u_let hz
          refine lv_iinc (v := x15) (lv' := [(9, .int x15), (5, .long x13), (3, .long x14), (10, .long x13), (7, .long x12), (0, .ref (G.2.2 0)), (1, .int p1), (2, .int p2)]) hx hb dX11_twice_62 hl (k := 7) rfl (by rw [ex15]; rfl) (by decide) rfl (fun ls hl => ?_)
          refine lv_goto (tgt := 21) hx hb dX11_twice_65 (by decide) ?_
          exact ih21_11 x14 x13 x12 x15 _ _ _ hz hw (lv_sub hl [5, 6, 7, 2, 1, 4, 0] rfl)
    exact WL21_15 N 1 0 0 0 _ _ _ hz hw (lv_sub hl [4, 5, 6, 3, 2, 1, 0] rfl)
  · replace hz := u_ift hz hc
    refine lv_iconst (v := (-1)) hx hb dX11_twice_8 (by decide) ?_
    exact u_iret cx hw (u_pair hz) dX11_twice_9
theorem dX11_isTreatyAtRest_0 : decode cX11_isTreatyAtRest 0 = .ok (.iconst 0, 1) := by decide +kernel
theorem dX11_isTreatyAtRest_1 : decode cX11_isTreatyAtRest 1 = .ok (.istore 4, 2) := by decide +kernel
theorem dX11_isTreatyAtRest_3 : decode cX11_isTreatyAtRest 3 = .ok (.iload 4, 2) := by decide +kernel
theorem dX11_isTreatyAtRest_5 : decode cX11_isTreatyAtRest 5 = .ok (.bipush 9, 2) := by decide +kernel
theorem dX11_isTreatyAtRest_7 : decode cX11_isTreatyAtRest 7 = .ok (.if_icmp .gt 43, 3) := by decide +kernel
theorem dX11_isTreatyAtRest_10 : decode cX11_isTreatyAtRest 10 = .ok (.iload 4, 2) := by decide +kernel
theorem dX11_isTreatyAtRest_12 : decode cX11_isTreatyAtRest 12 = .ok (.iload_n 1, 1) := by decide +kernel
theorem dX11_isTreatyAtRest_13 : decode cX11_isTreatyAtRest 13 = .ok (.iload_n 3, 1) := by decide +kernel
theorem dX11_isTreatyAtRest_14 : decode cX11_isTreatyAtRest 14 = .ok (.invokestatic 402, 3) := by decide +kernel
theorem dX11_isTreatyAtRest_17 : decode cX11_isTreatyAtRest 17 = .ok (.iload_n 0, 1) := by decide +kernel
theorem dX11_isTreatyAtRest_18 : decode cX11_isTreatyAtRest 18 = .ok (.iload_n 1, 1) := by decide +kernel
theorem dX11_isTreatyAtRest_19 : decode cX11_isTreatyAtRest 19 = .ok (.iload_n 3, 1) := by decide +kernel
theorem dX11_isTreatyAtRest_20 : decode cX11_isTreatyAtRest 20 = .ok (.invokestatic 402, 3) := by decide +kernel
theorem dX11_isTreatyAtRest_23 : decode cX11_isTreatyAtRest 23 = .ok (.if_icmp .gt 19, 3) := by decide +kernel
theorem dX11_isTreatyAtRest_26 : decode cX11_isTreatyAtRest 26 = .ok (.iload_n 0, 1) := by decide +kernel
theorem dX11_isTreatyAtRest_27 : decode cX11_isTreatyAtRest 27 = .ok (.iload 4, 2) := by decide +kernel
theorem dX11_isTreatyAtRest_29 : decode cX11_isTreatyAtRest 29 = .ok (.iload_n 2, 1) := by decide +kernel
theorem dX11_isTreatyAtRest_30 : decode cX11_isTreatyAtRest 30 = .ok (.invokestatic 405, 3) := by decide +kernel
theorem dX11_isTreatyAtRest_33 : decode cX11_isTreatyAtRest 33 = .ok (.iload_n 0, 1) := by decide +kernel
theorem dX11_isTreatyAtRest_34 : decode cX11_isTreatyAtRest 34 = .ok (.iload_n 1, 1) := by decide +kernel
theorem dX11_isTreatyAtRest_35 : decode cX11_isTreatyAtRest 35 = .ok (.iload_n 2, 1) := by decide +kernel
theorem dX11_isTreatyAtRest_36 : decode cX11_isTreatyAtRest 36 = .ok (.invokestatic 405, 3) := by decide +kernel
theorem dX11_isTreatyAtRest_39 : decode cX11_isTreatyAtRest 39 = .ok (.if_icmp .le 5, 3) := by decide +kernel
theorem dX11_isTreatyAtRest_42 : decode cX11_isTreatyAtRest 42 = .ok (.iconst 0, 1) := by decide +kernel
theorem dX11_isTreatyAtRest_43 : decode cX11_isTreatyAtRest 43 = .ok (.ireturn, 1) := by decide +kernel
theorem dX11_isTreatyAtRest_44 : decode cX11_isTreatyAtRest 44 = .ok (.iinc 4 1, 3) := by decide +kernel
theorem dX11_isTreatyAtRest_47 : decode cX11_isTreatyAtRest 47 = .ok (.goto (-44), 3) := by decide +kernel
theorem dX11_isTreatyAtRest_50 : decode cX11_isTreatyAtRest 50 = .ok (.iconst 1, 1) := by decide +kernel
theorem dX11_isTreatyAtRest_51 : decode cX11_isTreatyAtRest 51 = .ok (.ireturn, 1) := by decide +kernel
def b_X11_isTreatyAtRest_3 (N : Nat) (σ : uS) (p0 : Int32) (p1 : Int32) (p2 : Int32) (p3 : Int32) (J50_1 : Option Int32) (rec3_3 : Int32 → Option Int32) (x2 : Int32) : Option Int32 :=
  if 9 < x2 then (J50_1) else ((f_X11_farmerHas N σ x2 p1 p3).bind fun v4 =>
  (f_X11_farmerHas N σ p0 p1 p3).bind fun v5 =>
  if v5 < v4 then (some 0) else ((f_X11_regularsHave N σ p0 x2 p2).bind fun v6 =>
  (f_X11_regularsHave N σ p0 p1 p2).bind fun v7 =>
  if v6 ≤ v7 then (u_jn (x2 + 1 : Int32) fun x8 =>
  rec3_3 x8) else (some 0)))
def f_X11_isTreatyAtRest (N : Nat) (σ : uS) (p0 : Int32) (p1 : Int32) (p2 : Int32) (p3 : Int32) : Option Int32 := u_jn ((some 1 : Option Int32)) fun J50_1 =>
  u_lp1 (b_X11_isTreatyAtRest_3 N σ p0 p1 p2 p3 J50_1) N 0
set_option maxRecDepth 100000 in
set_option maxHeartbeats 4000000 in
theorem c_X11_isTreatyAtRest (l : Launch) (G : uG) (N : Nat) (σ : uS) (p0 : Int32) (p1 : Int32) (p2 : Int32) (p3 : Int32) (z : Int32) (hz : f_X11_isTreatyAtRest N σ p0 p1 p2 p3 = some z) : u_Mi l ZC G yX11_isTreatyAtRest cX11_isTreatyAtRest 5 .boolean 1 [.int p0, .int p1, .int p2, .int p3] σ z σ := by
  refine u_Mi_of RX11 (by decide) rfl (Nat.le_of_ble_eq_true rfl) ?_
  intro p e s m args below meth c ls cx hw hl
  have hx := cx.1
  have hb := cx.2.1
  have hl : lv_has ls 5 [(0, .int p0), (1, .int p1), (2, .int p2), (3, .int p3)] := hl
  unfold f_X11_isTreatyAtRest at hz
  refine lv_iconst (v := 0) hx hb dX11_isTreatyAtRest_0 (by decide) ?_
  refine lv_istore (lv' := [(4, .int 0), (0, .int p0), (1, .int p1), (2, .int p2), (3, .int p3)]) hx hb dX11_isTreatyAtRest_1 hl (by decide) rfl (fun ls hl => ?_)
  obtain ⟨J50_1, eJ50_1, hz⟩ := u_let hz
  have WJ50_1 : ∀ (H : Heap) (locs : List Loc) (ls : Array Slot), J50_1 = some z → u_W ZC G σ s H locs → lv_has ls 5 [] → W p l e (u_rm 1) s m args below meth c H locs 0 0 (u_Qi below ZC G s args z σ) (F0 m 50 ls []) := by
    intro H locs ls hz hw hl
    rw [eJ50_1] at hz
    refine lv_iconst (v := 1) hx hb dX11_isTreatyAtRest_50 (by decide) ?_
    exact u_zret cx hw (Or.inr rfl) ⟨Option.some.inj hz, rfl⟩ dX11_isTreatyAtRest_51
  have WL3_8 : ∀ (k : Nat) (x2 : Int32) (H : Heap) (locs : List Loc) (ls : Array Slot), u_lp1 (b_X11_isTreatyAtRest_3 N σ p0 p1 p2 p3 J50_1) k x2 = some z → u_W ZC G σ s H locs → lv_has ls 5 [(0, .int p0), (1, .int p1), (2, .int p2), (3, .int p3), (4, .int x2)] → W p l e (u_rm 1) s m args below meth c H locs 0 0 (u_Qi below ZC G s args z σ) (F0 m 3 ls []) := by
    intro k
    induction k with
    | zero =>
      intro x2 H locs ls hz
      exact absurd hz (by intro h9; cases h9)
    | succ k ih3_3 =>
      intro x2 H locs ls hz hw hl
      have hz : (b_X11_isTreatyAtRest_3 N σ p0 p1 p2 p3 J50_1) (u_lp1 (b_X11_isTreatyAtRest_3 N σ p0 p1 p2 p3 J50_1) k) x2 = some z := hz
      unfold b_X11_isTreatyAtRest_3 at hz
      refine lv_iload hx hb dX11_isTreatyAtRest_3 (lv_at hl 4 rfl) ?_
      refine lv_bipush (v := 9) hx hb dX11_isTreatyAtRest_5 (by decide) ?_
      refine lv_icmp_gt (tgt := 50) hx hb dX11_isTreatyAtRest_7 (by decide) (fun hc => ?_) (fun hc => ?_)
      · replace hz := u_ift hz hc
        exact WJ50_1 _ _ _ hz hw (lv_sub hl [] rfl)
      · replace hz := u_iff hz hc
        refine lv_iload hx hb dX11_isTreatyAtRest_10 (lv_at hl 4 rfl) ?_
        refine lv_iload_n hx hb dX11_isTreatyAtRest_12 rfl (lv_at hl 1 rfl) ?_
        refine lv_iload_n hx hb dX11_isTreatyAtRest_13 rfl (lv_at hl 3 rfl) ?_
        obtain ⟨v4, hv4, hz⟩ := u_bind hz
        refine u_callSi (As := [.int x2, .int p1, .int p3]) (rest := []) cx hw LS_X11_402 (c_X11_farmerHas l G N σ x2 p1 p3 v4 hv4) (by decide) hl.1 rfl (Nat.le_of_ble_eq_true rfl) dX11_isTreatyAtRest_14 rfl (fun H locs hw => ?_)
        refine lv_iload_n hx hb dX11_isTreatyAtRest_17 rfl (lv_at hl 0 rfl) ?_
        refine lv_iload_n hx hb dX11_isTreatyAtRest_18 rfl (lv_at hl 1 rfl) ?_
        refine lv_iload_n hx hb dX11_isTreatyAtRest_19 rfl (lv_at hl 3 rfl) ?_
        obtain ⟨v5, hv5, hz⟩ := u_bind hz
        refine u_callSi (As := [.int p0, .int p1, .int p3]) (rest := [.int v4]) cx hw LS_X11_402 (c_X11_farmerHas l G N σ p0 p1 p3 v5 hv5) (by decide) hl.1 rfl (Nat.le_of_ble_eq_true rfl) dX11_isTreatyAtRest_20 rfl (fun H locs hw => ?_)
        refine lv_icmp_gt (tgt := 42) hx hb dX11_isTreatyAtRest_23 (by decide) (fun hc => ?_) (fun hc => ?_)
        · replace hz := u_ift hz hc
          refine lv_iconst (v := 0) hx hb dX11_isTreatyAtRest_42 (by decide) ?_
          exact u_zret cx hw (Or.inl rfl) ⟨Option.some.inj hz, rfl⟩ dX11_isTreatyAtRest_43
        · replace hz := u_iff hz hc
          refine lv_iload_n hx hb dX11_isTreatyAtRest_26 rfl (lv_at hl 0 rfl) ?_
          refine lv_iload hx hb dX11_isTreatyAtRest_27 (lv_at hl 4 rfl) ?_
          refine lv_iload_n hx hb dX11_isTreatyAtRest_29 rfl (lv_at hl 2 rfl) ?_
          obtain ⟨v6, hv6, hz⟩ := u_bind hz
          refine u_callSi (As := [.int p0, .int x2, .int p2]) (rest := []) cx hw LS_X11_405 (c_X11_regularsHave l G N σ p0 x2 p2 v6 hv6) (by decide) hl.1 rfl (Nat.le_of_ble_eq_true rfl) dX11_isTreatyAtRest_30 rfl (fun H locs hw => ?_)
          refine lv_iload_n hx hb dX11_isTreatyAtRest_33 rfl (lv_at hl 0 rfl) ?_
          refine lv_iload_n hx hb dX11_isTreatyAtRest_34 rfl (lv_at hl 1 rfl) ?_
          refine lv_iload_n hx hb dX11_isTreatyAtRest_35 rfl (lv_at hl 2 rfl) ?_
          obtain ⟨v7, hv7, hz⟩ := u_bind hz
          refine u_callSi (As := [.int p0, .int p1, .int p2]) (rest := [.int v6]) cx hw LS_X11_405 (c_X11_regularsHave l G N σ p0 p1 p2 v7 hv7) (by decide) hl.1 rfl (Nat.le_of_ble_eq_true rfl) dX11_isTreatyAtRest_36 rfl (fun H locs hw => ?_)
          refine lv_icmp_le (tgt := 44) hx hb dX11_isTreatyAtRest_39 (by decide) (fun hc => ?_) (fun hc => ?_)
          · replace hz := u_ift hz hc
            obtain ⟨x8, ex8, hz⟩ := u_let hz
            refine lv_iinc (v := x8) (lv' := [(4, .int x8), (0, .int p0), (1, .int p1), (2, .int p2), (3, .int p3)]) hx hb dX11_isTreatyAtRest_44 hl (k := 4) rfl (by rw [ex8]; rfl) (by decide) rfl (fun ls hl => ?_)
            refine lv_goto (tgt := 3) hx hb dX11_isTreatyAtRest_47 (by decide) ?_
            exact ih3_3 x8 _ _ _ hz hw (lv_sub hl [1, 2, 3, 4, 0] rfl)
          · replace hz := u_iff hz hc
            refine lv_iconst (v := 0) hx hb dX11_isTreatyAtRest_42 (by decide) ?_
            exact u_zret cx hw (Or.inl rfl) ⟨Option.some.inj hz, rfl⟩ dX11_isTreatyAtRest_43
  exact WL3_8 N 0 _ _ _ hz hw (lv_sub hl [1, 2, 3, 4, 0] rfl)
