theorem dX7_isIn_0 : decode cX7_isIn 0 = .ok (.aload_n 0, 1) := by decide +kernel
theorem dX7_isIn_1 : decode cX7_isIn 1 = .ok (.getfield 15, 3) := by decide +kernel
theorem dX7_isIn_4 : decode cX7_isIn 4 = .ok (.iload_n 1, 1) := by decide +kernel
theorem dX7_isIn_5 : decode cX7_isIn 5 = .ok (.iaload, 1) := by decide +kernel
theorem dX7_isIn_6 : decode cX7_isIn 6 = .ok (.aload_n 0, 1) := by decide +kernel
theorem dX7_isIn_7 : decode cX7_isIn 7 = .ok (.getfield 21, 3) := by decide +kernel
theorem dX7_isIn_10 : decode cX7_isIn 10 = .ok (.iload_n 1, 1) := by decide +kernel
theorem dX7_isIn_11 : decode cX7_isIn 11 = .ok (.iaload, 1) := by decide +kernel
theorem dX7_isIn_12 : decode cX7_isIn 12 = .ok (.if_icmp .lt 7, 3) := by decide +kernel
theorem dX7_isIn_15 : decode cX7_isIn 15 = .ok (.iconst 1, 1) := by decide +kernel
theorem dX7_isIn_16 : decode cX7_isIn 16 = .ok (.goto 4, 3) := by decide +kernel
theorem dX7_isIn_19 : decode cX7_isIn 19 = .ok (.iconst 0, 1) := by decide +kernel
theorem dX7_isIn_20 : decode cX7_isIn 20 = .ok (.ireturn, 1) := by decide +kernel
def f_X7_isIn (N : Nat) (σ : uS) (i0 : Nat) (p1 : Int32) : Option Int32 := (u_rI ZC σ 0 (i0 + 2) p1).bind fun v1 =>
  (u_rI ZC σ 0 (i0 + 4) p1).bind fun v2 =>
  if v1 < v2 then (some 0) else (some 1)
set_option maxRecDepth 100000 in
set_option maxHeartbeats 4000000 in
theorem c_X7_isIn (l : Launch) (G : uG) (N : Nat) (σ : uS) (i0 : Nat) (oi0 : u_o ZC i0 6 12 (k_S i0)) (p1 : Int32) (z : Int32) (hz : f_X7_isIn N σ i0 p1 = some z) : u_Mi l ZC G yX7_isIn cX7_isIn 2 .boolean 0 [.ref (G.2.2 i0), .int p1] σ z σ := by
  refine u_Mi_of RX7 (by decide) rfl (Nat.le_of_ble_eq_true rfl) ?_
  intro p e s m args below meth c ls cx hw hl
  have hx := cx.1
  have hb := cx.2.1
  have hl : lv_has ls 2 [(0, .ref (G.2.2 i0)), (1, .int p1)] := hl
  unfold f_X7_isIn at hz
  refine lv_aload_n hx hb dX7_isIn_0 rfl (lv_at hl 0 rfl) ?_
  refine u_getp cx hw F_X7_15 oi0 rfl dX7_isIn_1 ?_
  refine lv_iload_n hx hb dX7_isIn_4 rfl (lv_at hl 1 rfl) ?_
  obtain ⟨v1, hv1, hz⟩ := u_bind hz
  refine u_iald cx hw hv1 dX7_isIn_5 ?_
  refine lv_aload_n hx hb dX7_isIn_6 rfl (lv_at hl 0 rfl) ?_
  refine u_getp cx hw F_X7_21 oi0 rfl dX7_isIn_7 ?_
  refine lv_iload_n hx hb dX7_isIn_10 rfl (lv_at hl 1 rfl) ?_
  obtain ⟨v2, hv2, hz⟩ := u_bind hz
  refine u_iald cx hw hv2 dX7_isIn_11 ?_
  refine lv_icmp_lt (tgt := 19) hx hb dX7_isIn_12 (by decide) (fun hc => ?_) (fun hc => ?_)
  · replace hz := u_ift hz hc
    refine lv_iconst (v := 0) hx hb dX7_isIn_19 (by decide) ?_
    exact u_zret cx hw (Or.inl rfl) ⟨Option.some.inj hz, rfl⟩ dX7_isIn_20
  · replace hz := u_iff hz hc
    refine lv_iconst (v := 1) hx hb dX7_isIn_15 (by decide) ?_
    refine lv_goto (tgt := 20) hx hb dX7_isIn_16 (by decide) ?_
    exact u_zret cx hw (Or.inr rfl) ⟨Option.some.inj hz, rfl⟩ dX7_isIn_20
theorem dX7_inside_0 : decode cX7_inside 0 = .ok (.iconst 0, 1) := by decide +kernel
theorem dX7_inside_1 : decode cX7_inside 1 = .ok (.istore_n 1, 1) := by decide +kernel
theorem dX7_inside_2 : decode cX7_inside 2 = .ok (.iconst 0, 1) := by decide +kernel
theorem dX7_inside_3 : decode cX7_inside 3 = .ok (.istore_n 2, 1) := by decide +kernel
theorem dX7_inside_4 : decode cX7_inside 4 = .ok (.iload_n 2, 1) := by decide +kernel
theorem dX7_inside_5 : decode cX7_inside 5 = .ok (.aload_n 0, 1) := by decide +kernel
theorem dX7_inside_6 : decode cX7_inside 6 = .ok (.getfield 43, 3) := by decide +kernel
theorem dX7_inside_9 : decode cX7_inside 9 = .ok (.if_icmp .ge 27, 3) := by decide +kernel
theorem dX7_inside_12 : decode cX7_inside 12 = .ok (.iload_n 1, 1) := by decide +kernel
theorem dX7_inside_13 : decode cX7_inside 13 = .ok (.aload_n 0, 1) := by decide +kernel
theorem dX7_inside_14 : decode cX7_inside 14 = .ok (.iload_n 2, 1) := by decide +kernel
theorem dX7_inside_15 : decode cX7_inside 15 = .ok (.invokevirtual 82, 3) := by decide +kernel
theorem dX7_inside_18 : decode cX7_inside 18 = .ok (.ifCond .eq 9, 3) := by decide +kernel
theorem dX7_inside_21 : decode cX7_inside 21 = .ok (.iconst 1, 1) := by decide +kernel
theorem dX7_inside_22 : decode cX7_inside 22 = .ok (.iload_n 2, 1) := by decide +kernel
theorem dX7_inside_23 : decode cX7_inside 23 = .ok (.ishl, 1) := by decide +kernel
theorem dX7_inside_24 : decode cX7_inside 24 = .ok (.goto 4, 3) := by decide +kernel
theorem dX7_inside_27 : decode cX7_inside 27 = .ok (.iconst 0, 1) := by decide +kernel
theorem dX7_inside_28 : decode cX7_inside 28 = .ok (.ior, 1) := by decide +kernel
theorem dX7_inside_29 : decode cX7_inside 29 = .ok (.istore_n 1, 1) := by decide +kernel
theorem dX7_inside_30 : decode cX7_inside 30 = .ok (.iinc 2 1, 3) := by decide +kernel
theorem dX7_inside_33 : decode cX7_inside 33 = .ok (.goto (-29), 3) := by decide +kernel
theorem dX7_inside_36 : decode cX7_inside 36 = .ok (.iload_n 1, 1) := by decide +kernel
theorem dX7_inside_37 : decode cX7_inside 37 = .ok (.ireturn, 1) := by decide +kernel
def b_X7_inside_4 (N : Nat) (σ : uS) (i0 : Nat) (J36_2 : Int32 → Option Int32) (rec4_5 : Int32 → Int32 → Option Int32) (x3 : Int32) (x4 : Int32) : Option Int32 :=
  if (σ.1 i0 8) ≤ x4 then (J36_2 x3) else ((f_X7_isIn N σ i0 x4).bind fun v6 =>
  u_jn (fun (t7 : Int32) => (u_jn ((x3 ||| t7) : Int32) fun x9 =>
  u_jn (x4 + 1 : Int32) fun x10 =>
  rec4_5 x9 x10 : Option Int32)) fun J28_8 =>
  if v6 = 0 then (J28_8 0) else (J28_8 (1 <<< (x4 &&& 31))))
def f_X7_inside (N : Nat) (σ : uS) (i0 : Nat) : Option Int32 := u_jn (fun (x1 : Int32) => (some x1 : Option Int32)) fun J36_2 =>
  u_lp2 (b_X7_inside_4 N σ i0 J36_2) N 0 0
set_option maxRecDepth 100000 in
set_option maxHeartbeats 4000000 in
theorem c_X7_inside (l : Launch) (G : uG) (N : Nat) (σ : uS) (i0 : Nat) (oi0 : u_o ZC i0 6 12 (k_S i0)) (z : Int32) (hz : f_X7_inside N σ i0 = some z) : u_Mi l ZC G yX7_inside cX7_inside 3 .int 1 [.ref (G.2.2 i0)] σ z σ := by
  refine u_Mi_of RX7 (by decide) rfl (Nat.le_of_ble_eq_true rfl) ?_
  intro p e s m args below meth c ls cx hw hl
  have hx := cx.1
  have hb := cx.2.1
  have hl : lv_has ls 3 [(0, .ref (G.2.2 i0))] := hl
  unfold f_X7_inside at hz
  refine lv_iconst (v := 0) hx hb dX7_inside_0 (by decide) ?_
  refine lv_istore_n (lv' := [(1, .int 0), (0, .ref (G.2.2 i0))]) hx hb dX7_inside_1 rfl hl (by decide) rfl (fun ls hl => ?_)
  refine lv_iconst (v := 0) hx hb dX7_inside_2 (by decide) ?_
  refine lv_istore_n (lv' := [(2, .int 0), (1, .int 0), (0, .ref (G.2.2 i0))]) hx hb dX7_inside_3 rfl hl (by decide) rfl (fun ls hl => ?_)
  obtain ⟨J36_2, eJ36_2, hz⟩ := u_let hz
  have WJ36_2 : ∀ (x1 : Int32) (H : Heap) (locs : List Loc) (ls : Array Slot), J36_2 x1 = some z → u_W ZC G σ s H locs → lv_has ls 3 [(1, .int x1)] → W p l e (u_rm 1) s m args below meth c H locs 0 0 (u_Qi below ZC G s args z σ) (F0 m 36 ls []) := by
    intro x1 H locs ls hz hw hl
    rw [eJ36_2] at hz
    refine lv_iload_n hx hb dX7_inside_36 rfl (lv_at hl 0 rfl) ?_
    exact u_iret cx hw ⟨Option.some.inj hz, rfl⟩ dX7_inside_37
  have WL4_10 : ∀ (k : Nat) (x3 : Int32) (x4 : Int32) (H : Heap) (locs : List Loc) (ls : Array Slot), u_lp2 (b_X7_inside_4 N σ i0 J36_2) k x3 x4 = some z → u_W ZC G σ s H locs → lv_has ls 3 [(0, .ref (G.2.2 i0)), (1, .int x3), (2, .int x4)] → W p l e (u_rm 1) s m args below meth c H locs 0 0 (u_Qi below ZC G s args z σ) (F0 m 4 ls []) := by
    intro k
    induction k with
    | zero =>
      intro x3 x4 H locs ls hz
      exact absurd hz (by intro h9; cases h9)
    | succ k ih4_5 =>
      intro x3 x4 H locs ls hz hw hl
      have hz : (b_X7_inside_4 N σ i0 J36_2) (u_lp2 (b_X7_inside_4 N σ i0 J36_2) k) x3 x4 = some z := hz
      unfold b_X7_inside_4 at hz
      refine lv_iload_n hx hb dX7_inside_4 rfl (lv_at hl 2 rfl) ?_
      refine lv_aload_n hx hb dX7_inside_5 rfl (lv_at hl 0 rfl) ?_
      refine u_geti cx hw F_X7_43 oi0 rfl dX7_inside_6 ?_
      refine lv_icmp_ge (tgt := 36) hx hb dX7_inside_9 (by decide) (fun hc => ?_) (fun hc => ?_)
      · replace hz := u_ift hz hc
        exact WJ36_2 x3 _ _ _ hz hw (lv_sub hl [1] rfl)
      · replace hz := u_iff hz hc
        refine lv_iload_n hx hb dX7_inside_12 rfl (lv_at hl 1 rfl) ?_
        refine lv_aload_n hx hb dX7_inside_13 rfl (lv_at hl 0 rfl) ?_
        refine lv_iload_n hx hb dX7_inside_14 rfl (lv_at hl 2 rfl) ?_
        obtain ⟨v6, hv6, hz⟩ := u_bind hz
        refine u_callVi (As := [.int x4]) (rest := [.int x3]) cx hw LV_X7_82 (c_X7_isIn l G N σ i0 oi0 x4 v6 hv6) oi0 rfl (by decide) hl.1 rfl (Nat.le_of_ble_eq_true rfl) dX7_inside_15 rfl (fun H locs hw => ?_)
        obtain ⟨J28_8, eJ28_8, hz⟩ := u_let hz
        have WJ28_8 : ∀ (t7 : Int32) (H : Heap) (locs : List Loc) (ls : Array Slot), J28_8 t7 = some z → u_W ZC G σ s H locs → lv_has ls 3 [(0, .ref (G.2.2 i0)), (2, .int x4)] → W p l e (u_rm 1) s m args below meth c H locs 0 0 (u_Qi below ZC G s args z σ) (F0 m 28 ls [.int t7, .int x3]) := by
          intro t7 H locs ls hz hw hl
          rw [eJ28_8] at hz
          refine lv_ior hx hb dX7_inside_28 ?_
          obtain ⟨x9, ex9, hz⟩ := u_let hz
          refine u_topi ex9 ?_
          refine lv_istore_n (lv' := [(1, .int x9), (0, .ref (G.2.2 i0)), (2, .int x4)]) hx hb dX7_inside_29 rfl hl (by decide) rfl (fun ls hl => ?_)
          obtain ⟨x10, ex10, hz⟩ := u_let hz
          refine lv_iinc (v := x10) (lv' := [(2, .int x10), (1, .int x9), (0, .ref (G.2.2 i0))]) hx hb dX7_inside_30 hl (k := 2) rfl (by rw [ex10]; rfl) (by decide) rfl (fun ls hl => ?_)
          refine lv_goto (tgt := 4) hx hb dX7_inside_33 (by decide) ?_
          exact ih4_5 x9 x10 _ _ _ hz hw (lv_sub hl [2, 1, 0] rfl)
        refine lv_if_eq (tgt := 27) hx hb dX7_inside_18 (by decide) (fun hc => ?_) (fun hc => ?_)
        · replace hz := u_ift hz hc
          refine lv_iconst (v := 0) hx hb dX7_inside_27 (by decide) ?_
          exact WJ28_8 0 _ _ _ hz hw (lv_sub hl [0, 2] rfl)
        · replace hz := u_iff hz hc
          refine lv_iconst (v := 1) hx hb dX7_inside_21 (by decide) ?_
          refine lv_iload_n hx hb dX7_inside_22 rfl (lv_at hl 2 rfl) ?_
          refine lv_ishl hx hb dX7_inside_23 ?_
          refine lv_goto (tgt := 28) hx hb dX7_inside_24 (by decide) ?_
          exact WJ28_8 (1 <<< (x4 &&& 31)) _ _ _ hz hw (lv_sub hl [0, 2] rfl)
  exact WL4_10 N 0 0 _ _ _ hz hw (lv_sub hl [2, 1, 0] rfl)
theorem dX12_in_0 : decode cX12_in 0 = .ok (.iload_n 0, 1) := by decide +kernel
theorem dX12_in_1 : decode cX12_in 1 = .ok (.iload_n 1, 1) := by decide +kernel
theorem dX12_in_2 : decode cX12_in 2 = .ok (.if_icmp .lt 12, 3) := by decide +kernel
theorem dX12_in_5 : decode cX12_in 5 = .ok (.iload_n 0, 1) := by decide +kernel
theorem dX12_in_6 : decode cX12_in 6 = .ok (.iload_n 2, 1) := by decide +kernel
theorem dX12_in_7 : decode cX12_in 7 = .ok (.if_icmp .gt 7, 3) := by decide +kernel
theorem dX12_in_10 : decode cX12_in 10 = .ok (.iconst 1, 1) := by decide +kernel
theorem dX12_in_11 : decode cX12_in 11 = .ok (.goto 4, 3) := by decide +kernel
theorem dX12_in_14 : decode cX12_in 14 = .ok (.iconst 0, 1) := by decide +kernel
theorem dX12_in_15 : decode cX12_in 15 = .ok (.ireturn, 1) := by decide +kernel
def f_X12_in (N : Nat) (σ : uS) (p0 : Int32) (p1 : Int32) (p2 : Int32) : Option Int32 := u_jn ((some 0 : Option Int32)) fun J14_1 =>
  if p0 < p1 then (J14_1) else (if p2 < p0 then (J14_1) else (some 1))
set_option maxRecDepth 100000 in
set_option maxHeartbeats 4000000 in
theorem c_X12_in (l : Launch) (G : uG) (N : Nat) (σ : uS) (p0 : Int32) (p1 : Int32) (p2 : Int32) (z : Int32) (hz : f_X12_in N σ p0 p1 p2 = some z) : u_Mi l ZM G yX12_in cX12_in 3 .boolean 0 [.int p0, .int p1, .int p2] σ z σ := by
  refine u_Mi_of RX12 (by decide) rfl (Nat.le_of_ble_eq_true rfl) ?_
  intro p e s m args below meth c ls cx hw hl
  have hx := cx.1
  have hb := cx.2.1
  have hl : lv_has ls 3 [(0, .int p0), (1, .int p1), (2, .int p2)] := hl
  unfold f_X12_in at hz
  refine lv_iload_n hx hb dX12_in_0 rfl (lv_at hl 0 rfl) ?_
  refine lv_iload_n hx hb dX12_in_1 rfl (lv_at hl 1 rfl) ?_
  obtain ⟨J14_1, eJ14_1, hz⟩ := u_let hz
  have WJ14_1 : ∀ (H : Heap) (locs : List Loc) (ls : Array Slot), J14_1 = some z → u_W ZM G σ s H locs → lv_has ls 3 [] → W p l e (u_rm 0) s m args below meth c H locs 0 0 (u_Qi below ZM G s args z σ) (F0 m 14 ls []) := by
    intro H locs ls hz hw hl
    rw [eJ14_1] at hz
    refine lv_iconst (v := 0) hx hb dX12_in_14 (by decide) ?_
    exact u_zret cx hw (Or.inl rfl) ⟨Option.some.inj hz, rfl⟩ dX12_in_15
  refine lv_icmp_lt (tgt := 14) hx hb dX12_in_2 (by decide) (fun hc => ?_) (fun hc => ?_)
  · replace hz := u_ift hz hc
    exact WJ14_1 _ _ _ hz hw (lv_sub hl [] rfl)
  · replace hz := u_iff hz hc
    refine lv_iload_n hx hb dX12_in_5 rfl (lv_at hl 0 rfl) ?_
    refine lv_iload_n hx hb dX12_in_6 rfl (lv_at hl 2 rfl) ?_
    refine lv_icmp_gt (tgt := 14) hx hb dX12_in_7 (by decide) (fun hc => ?_) (fun hc => ?_)
    · replace hz := u_ift hz hc
      exact WJ14_1 _ _ _ hz hw (lv_sub hl [] rfl)
    · replace hz := u_iff hz hc
      refine lv_iconst (v := 1) hx hb dX12_in_10 (by decide) ?_
      refine lv_goto (tgt := 15) hx hb dX12_in_11 (by decide) ?_
      exact u_zret cx hw (Or.inr rfl) ⟨Option.some.inj hz, rfl⟩ dX12_in_15
theorem dX12_has_0 : decode cX12_has 0 = .ok (.iload_n 0, 1) := by decide +kernel
theorem dX12_has_1 : decode cX12_has 1 = .ok (.iload_n 1, 1) := by decide +kernel
theorem dX12_has_2 : decode cX12_has 2 = .ok (.ishr, 1) := by decide +kernel
theorem dX12_has_3 : decode cX12_has 3 = .ok (.iconst 1, 1) := by decide +kernel
theorem dX12_has_4 : decode cX12_has 4 = .ok (.iand, 1) := by decide +kernel
theorem dX12_has_5 : decode cX12_has 5 = .ok (.iconst 1, 1) := by decide +kernel
theorem dX12_has_6 : decode cX12_has 6 = .ok (.if_icmp .ne 7, 3) := by decide +kernel
theorem dX12_has_9 : decode cX12_has 9 = .ok (.iconst 1, 1) := by decide +kernel
theorem dX12_has_10 : decode cX12_has 10 = .ok (.goto 4, 3) := by decide +kernel
theorem dX12_has_13 : decode cX12_has 13 = .ok (.iconst 0, 1) := by decide +kernel
theorem dX12_has_14 : decode cX12_has 14 = .ok (.ireturn, 1) := by decide +kernel
def f_X12_has (N : Nat) (σ : uS) (p0 : Int32) (p1 : Int32) : Option Int32 := if ((p0 >>> (p1 &&& 31)) &&& 1) = 1 then (some 1) else (some 0)
set_option maxRecDepth 100000 in
set_option maxHeartbeats 4000000 in
theorem c_X12_has (l : Launch) (G : uG) (N : Nat) (σ : uS) (p0 : Int32) (p1 : Int32) (z : Int32) (hz : f_X12_has N σ p0 p1 = some z) : u_Mi l ZM G yX12_has cX12_has 2 .boolean 0 [.int p0, .int p1] σ z σ := by
  refine u_Mi_of RX12 (by decide) rfl (Nat.le_of_ble_eq_true rfl) ?_
  intro p e s m args below meth c ls cx hw hl
  have hx := cx.1
  have hb := cx.2.1
  have hl : lv_has ls 2 [(0, .int p0), (1, .int p1)] := hl
  unfold f_X12_has at hz
  refine lv_iload_n hx hb dX12_has_0 rfl (lv_at hl 0 rfl) ?_
  refine lv_iload_n hx hb dX12_has_1 rfl (lv_at hl 1 rfl) ?_
  refine lv_ishr hx hb dX12_has_2 ?_
  refine lv_iconst (v := 1) hx hb dX12_has_3 (by decide) ?_
  refine lv_iand hx hb dX12_has_4 ?_
  refine lv_iconst (v := 1) hx hb dX12_has_5 (by decide) ?_
  refine lv_icmp_ne (tgt := 13) hx hb dX12_has_6 (by decide) (fun hc => ?_) (fun hc => ?_)
  · replace hz := u_iff hz hc
    refine lv_iconst (v := 0) hx hb dX12_has_13 (by decide) ?_
    exact u_zret cx hw (Or.inl rfl) ⟨Option.some.inj hz, rfl⟩ dX12_has_14
  · replace hz := u_ift hz hc
    refine lv_iconst (v := 1) hx hb dX12_has_9 (by decide) ?_
    refine lv_goto (tgt := 14) hx hb dX12_has_10 (by decide) ?_
    exact u_zret cx hw (Or.inr rfl) ⟨Option.some.inj hz, rfl⟩ dX12_has_14
theorem dX12_here_0 : decode cX12_here 0 = .ok (.aload_n 0, 1) := by decide +kernel
theorem dX12_here_1 : decode cX12_here 1 = .ok (.getfield 110, 3) := by decide +kernel
theorem dX12_here_4 : decode cX12_here 4 = .ok (.aload_n 0, 1) := by decide +kernel
theorem dX12_here_5 : decode cX12_here 5 = .ok (.getfield 104, 3) := by decide +kernel
theorem dX12_here_8 : decode cX12_here 8 = .ok (.if_icmp .ge 30, 3) := by decide +kernel
theorem dX12_here_11 : decode cX12_here 11 = .ok (.aload_n 0, 1) := by decide +kernel
theorem dX12_here_12 : decode cX12_here 12 = .ok (.getfield 110, 3) := by decide +kernel
theorem dX12_here_15 : decode cX12_here 15 = .ok (.aload_n 0, 1) := by decide +kernel
theorem dX12_here_16 : decode cX12_here 16 = .ok (.getfield 107, 3) := by decide +kernel
theorem dX12_here_19 : decode cX12_here 19 = .ok (.if_icmp .ge 19, 3) := by decide +kernel
theorem dX12_here_22 : decode cX12_here 22 = .ok (.aload_n 0, 1) := by decide +kernel
theorem dX12_here_23 : decode cX12_here 23 = .ok (.getfield 101, 3) := by decide +kernel
theorem dX12_here_26 : decode cX12_here 26 = .ok (.aload_n 0, 1) := by decide +kernel
theorem dX12_here_27 : decode cX12_here 27 = .ok (.getfield 110, 3) := by decide +kernel
theorem dX12_here_30 : decode cX12_here 30 = .ok (.baload, 1) := by decide +kernel
theorem dX12_here_31 : decode cX12_here 31 = .ok (.sipush 255, 3) := by decide +kernel
theorem dX12_here_34 : decode cX12_here 34 = .ok (.iand, 1) := by decide +kernel
theorem dX12_here_35 : decode cX12_here 35 = .ok (.goto 4, 3) := by decide +kernel
theorem dX12_here_38 : decode cX12_here 38 = .ok (.iconst (-1), 1) := by decide +kernel
theorem dX12_here_39 : decode cX12_here 39 = .ok (.ireturn, 1) := by decide +kernel
def f_X12_here (N : Nat) (σ : uS) : Option Int32 := u_jn ((some (-1) : Option Int32)) fun J38_1 =>
  if (σ.1 0 10) ≤ (σ.1 0 12) then (J38_1) else (if (σ.1 0 11) ≤ (σ.1 0 12) then (J38_1) else ((σ.2.2 0 9).bind fun v2 =>
  (u_rI ZM σ 2 v2 (σ.1 0 12)).bind fun v3 =>
  some (v3 &&& 255)))
set_option maxRecDepth 100000 in
set_option maxHeartbeats 4000000 in
theorem c_X12_here (l : Launch) (G : uG) (N : Nat) (σ : uS) (z : Int32) (hz : f_X12_here N σ = some z) : u_Mi l ZM G yX12_here cX12_here 1 .int 0 [.ref (G.2.2 0)] σ z σ := by
  refine u_Mi_of RX12 (by decide) rfl (Nat.le_of_ble_eq_true rfl) ?_
  intro p e s m args below meth c ls cx hw hl
  have hx := cx.1
  have hb := cx.2.1
  have hl : lv_has ls 1 [(0, .ref (G.2.2 0))] := hl
  unfold f_X12_here at hz
  refine lv_aload_n hx hb dX12_here_0 rfl (lv_at hl 0 rfl) ?_
  refine u_geti cx hw F_X12_110 o_X12 rfl dX12_here_1 ?_
  refine lv_aload_n hx hb dX12_here_4 rfl (lv_at hl 0 rfl) ?_
  refine u_geti cx hw F_X12_104 o_X12 rfl dX12_here_5 ?_
  obtain ⟨J38_1, eJ38_1, hz⟩ := u_let hz
  have WJ38_1 : ∀ (H : Heap) (locs : List Loc) (ls : Array Slot), J38_1 = some z → u_W ZM G σ s H locs → lv_has ls 1 [] → W p l e (u_rm 0) s m args below meth c H locs 0 0 (u_Qi below ZM G s args z σ) (F0 m 38 ls []) := by
    intro H locs ls hz hw hl
    rw [eJ38_1] at hz
    refine lv_iconst (v := (-1)) hx hb dX12_here_38 (by decide) ?_
    exact u_iret cx hw ⟨Option.some.inj hz, rfl⟩ dX12_here_39
  refine lv_icmp_ge (tgt := 38) hx hb dX12_here_8 (by decide) (fun hc => ?_) (fun hc => ?_)
  · replace hz := u_ift hz hc
    exact WJ38_1 _ _ _ hz hw (lv_sub hl [] rfl)
  · replace hz := u_iff hz hc
    refine lv_aload_n hx hb dX12_here_11 rfl (lv_at hl 0 rfl) ?_
    refine u_geti cx hw F_X12_110 o_X12 rfl dX12_here_12 ?_
    refine lv_aload_n hx hb dX12_here_15 rfl (lv_at hl 0 rfl) ?_
    refine u_geti cx hw F_X12_107 o_X12 rfl dX12_here_16 ?_
    refine lv_icmp_ge (tgt := 38) hx hb dX12_here_19 (by decide) (fun hc => ?_) (fun hc => ?_)
    · replace hz := u_ift hz hc
      exact WJ38_1 _ _ _ hz hw (lv_sub hl [] rfl)
    · replace hz := u_iff hz hc
      refine lv_aload_n hx hb dX12_here_22 rfl (lv_at hl 0 rfl) ?_
      obtain ⟨v2, hv2, hz⟩ := u_bind hz
      refine u_getr cx hw F_X12_101 o_X12 rfl hv2 dX12_here_23 ?_
      refine lv_aload_n hx hb dX12_here_26 rfl (lv_at hl 0 rfl) ?_
      refine u_geti cx hw F_X12_110 o_X12 rfl dX12_here_27 ?_
      obtain ⟨v3, hv3, hz⟩ := u_bind hz
      refine u_bald cx hw hv3 dX12_here_30 ?_
      refine lv_sipush (v := 255) hx hb dX12_here_31 (by decide) ?_
      refine lv_iand hx hb dX12_here_34 ?_
      refine lv_goto (tgt := 39) hx hb dX12_here_35 (by decide) ?_
      exact u_iret cx hw ⟨Option.some.inj hz, rfl⟩ dX12_here_39
theorem dX12_fine_0 : decode cX12_fine 0 = .ok (.aload_n 0, 1) := by decide +kernel
theorem dX12_fine_1 : decode cX12_fine 1 = .ok (.getfield 113, 3) := by decide +kernel
theorem dX12_fine_4 : decode cX12_fine 4 = .ok (.iconst (-1), 1) := by decide +kernel
theorem dX12_fine_5 : decode cX12_fine 5 = .ok (.if_icmp .ne 7, 3) := by decide +kernel
theorem dX12_fine_8 : decode cX12_fine 8 = .ok (.iconst 1, 1) := by decide +kernel
theorem dX12_fine_9 : decode cX12_fine 9 = .ok (.goto 4, 3) := by decide +kernel
theorem dX12_fine_12 : decode cX12_fine 12 = .ok (.iconst 0, 1) := by decide +kernel
theorem dX12_fine_13 : decode cX12_fine 13 = .ok (.ireturn, 1) := by decide +kernel
def f_X12_fine (N : Nat) (σ : uS) : Option Int32 := if (σ.1 0 13) = (-1) then (some 1) else (some 0)
set_option maxRecDepth 100000 in
set_option maxHeartbeats 4000000 in
theorem c_X12_fine (l : Launch) (G : uG) (N : Nat) (σ : uS) (z : Int32) (hz : f_X12_fine N σ = some z) : u_Mi l ZM G yX12_fine cX12_fine 1 .boolean 0 [.ref (G.2.2 0)] σ z σ := by
  refine u_Mi_of RX12 (by decide) rfl (Nat.le_of_ble_eq_true rfl) ?_
  intro p e s m args below meth c ls cx hw hl
  have hx := cx.1
  have hb := cx.2.1
  have hl : lv_has ls 1 [(0, .ref (G.2.2 0))] := hl
  unfold f_X12_fine at hz
  refine lv_aload_n hx hb dX12_fine_0 rfl (lv_at hl 0 rfl) ?_
  refine u_geti cx hw F_X12_113 o_X12 rfl dX12_fine_1 ?_
  refine lv_iconst (v := (-1)) hx hb dX12_fine_4 (by decide) ?_
  refine lv_icmp_ne (tgt := 12) hx hb dX12_fine_5 (by decide) (fun hc => ?_) (fun hc => ?_)
  · replace hz := u_iff hz hc
    refine lv_iconst (v := 0) hx hb dX12_fine_12 (by decide) ?_
    exact u_zret cx hw (Or.inl rfl) ⟨Option.some.inj hz, rfl⟩ dX12_fine_13
  · replace hz := u_ift hz hc
    refine lv_iconst (v := 1) hx hb dX12_fine_8 (by decide) ?_
    refine lv_goto (tgt := 13) hx hb dX12_fine_9 (by decide) ?_
    exact u_zret cx hw (Or.inr rfl) ⟨Option.some.inj hz, rfl⟩ dX12_fine_13
theorem dX12_passes_0 : decode cX12_passes 0 = .ok (.aload_n 0, 1) := by decide +kernel
theorem dX12_passes_1 : decode cX12_passes 1 = .ok (.invokevirtual 120, 3) := by decide +kernel
theorem dX12_passes_4 : decode cX12_passes 4 = .ok (.ifCond .eq 11, 3) := by decide +kernel
theorem dX12_passes_7 : decode cX12_passes 7 = .ok (.aload_n 0, 1) := by decide +kernel
theorem dX12_passes_8 : decode cX12_passes 8 = .ok (.invokevirtual 124, 3) := by decide +kernel
theorem dX12_passes_11 : decode cX12_passes 11 = .ok (.iload_n 1, 1) := by decide +kernel
theorem dX12_passes_12 : decode cX12_passes 12 = .ok (.if_icmp .eq 5, 3) := by decide +kernel
theorem dX12_passes_15 : decode cX12_passes 15 = .ok (.iconst 0, 1) := by decide +kernel
theorem dX12_passes_16 : decode cX12_passes 16 = .ok (.ireturn, 1) := by decide +kernel
theorem dX12_passes_17 : decode cX12_passes 17 = .ok (.aload_n 0, 1) := by decide +kernel
theorem dX12_passes_18 : decode cX12_passes 18 = .ok (.dup, 1) := by decide +kernel
theorem dX12_passes_19 : decode cX12_passes 19 = .ok (.getfield 110, 3) := by decide +kernel
theorem dX12_passes_22 : decode cX12_passes 22 = .ok (.iconst 1, 1) := by decide +kernel
theorem dX12_passes_23 : decode cX12_passes 23 = .ok (.iadd, 1) := by decide +kernel
theorem dX12_passes_24 : decode cX12_passes 24 = .ok (.putfield 110, 3) := by decide +kernel
theorem dX12_passes_27 : decode cX12_passes 27 = .ok (.iconst 1, 1) := by decide +kernel
theorem dX12_passes_28 : decode cX12_passes 28 = .ok (.ireturn, 1) := by decide +kernel
def f_X12_passes (N : Nat) (σ : uS) (p1 : Int32) : Option (Int32 × uS) := (f_X12_fine N σ).bind fun v1 =>
  if v1 = 0 then (some (0, σ)) else ((f_X12_here N σ).bind fun v2 =>
  if v2 = p1 then (u_jn (u_pI σ 0 12 ((σ.1 0 12) + 1)) fun s3 =>
  some (1, s3)) else (some (0, σ)))
set_option maxRecDepth 100000 in
set_option maxHeartbeats 4000000 in
theorem c_X12_passes (l : Launch) (G : uG) (N : Nat) (σ : uS) (p1 : Int32) (z : (Int32 × uS)) (hz : f_X12_passes N σ p1 = some z) : u_Mi l ZM G yX12_passes cX12_passes 2 .boolean 1 [.ref (G.2.2 0), .int p1] σ z.1 z.2 := by
  refine u_Mi_of RX12 (by decide) rfl (Nat.le_of_ble_eq_true rfl) ?_
  intro p e s m args below meth c ls cx hw hl
  have hx := cx.1
  have hb := cx.2.1
  have hl : lv_has ls 2 [(0, .ref (G.2.2 0)), (1, .int p1)] := hl
  unfold f_X12_passes at hz
  refine lv_aload_n hx hb dX12_passes_0 rfl (lv_at hl 0 rfl) ?_
  obtain ⟨v1, hv1, hz⟩ := u_bind hz
  refine u_callVi (As := []) (rest := []) cx hw LV_X12_120 (c_X12_fine l G N σ v1 hv1) o_X12 rfl (by decide) hl.1 rfl (Nat.le_of_ble_eq_true rfl) dX12_passes_1 rfl (fun H locs hw => ?_)
  refine lv_if_eq (tgt := 15) hx hb dX12_passes_4 (by decide) (fun hc => ?_) (fun hc => ?_)
  · replace hz := u_ift hz hc
    refine lv_iconst (v := 0) hx hb dX12_passes_15 (by decide) ?_
    exact u_zret cx hw (Or.inl rfl) (by cases hz; exact ⟨rfl, rfl⟩) dX12_passes_16
  · replace hz := u_iff hz hc
    refine lv_aload_n hx hb dX12_passes_7 rfl (lv_at hl 0 rfl) ?_
    obtain ⟨v2, hv2, hz⟩ := u_bind hz
    refine u_callVi (As := []) (rest := []) cx hw LV_X12_124 (c_X12_here l G N σ v2 hv2) o_X12 rfl (by decide) hl.1 rfl (Nat.le_of_ble_eq_true rfl) dX12_passes_8 rfl (fun H locs hw => ?_)
    refine lv_iload_n hx hb dX12_passes_11 rfl (lv_at hl 1 rfl) ?_
    refine lv_icmp_eq (tgt := 17) hx hb dX12_passes_12 (by decide) (fun hc => ?_) (fun hc => ?_)
    · replace hz := u_ift hz hc
      refine lv_aload_n hx hb dX12_passes_17 rfl (lv_at hl 0 rfl) ?_
      refine lv_dup hx hb dX12_passes_18 rfl ?_
      refine u_geti cx hw F_X12_110 o_X12 rfl dX12_passes_19 ?_
      refine lv_iconst (v := 1) hx hb dX12_passes_22 (by decide) ?_
      refine lv_iadd hx hb dX12_passes_23 ?_
      obtain ⟨s3, es3, hz⟩ := u_let hz
      refine u_puti2 cx hw P_X12_110 o_X12 rfl es3 dX12_passes_24 (fun H locs hw => ?_)
      refine lv_iconst (v := 1) hx hb dX12_passes_27 (by decide) ?_
      exact u_zret cx hw (Or.inr rfl) (by cases hz; exact ⟨rfl, rfl⟩) dX12_passes_28
    · replace hz := u_iff hz hc
      refine lv_iconst (v := 0) hx hb dX12_passes_15 (by decide) ?_
      exact u_zret cx hw (Or.inl rfl) (by cases hz; exact ⟨rfl, rfl⟩) dX12_passes_16
theorem dX12_isIn_0 : decode cX12_isIn 0 = .ok (.aload_n 1, 1) := by decide +kernel
theorem dX12_isIn_1 : decode cX12_isIn 1 = .ok (.iload_n 2, 1) := by decide +kernel
theorem dX12_isIn_2 : decode cX12_isIn 2 = .ok (.iaload, 1) := by decide +kernel
theorem dX12_isIn_3 : decode cX12_isIn 3 = .ok (.aload_n 0, 1) := by decide +kernel
theorem dX12_isIn_4 : decode cX12_isIn 4 = .ok (.getfield 17, 3) := by decide +kernel
theorem dX12_isIn_7 : decode cX12_isIn 7 = .ok (.iload_n 2, 1) := by decide +kernel
theorem dX12_isIn_8 : decode cX12_isIn 8 = .ok (.iaload, 1) := by decide +kernel
theorem dX12_isIn_9 : decode cX12_isIn 9 = .ok (.if_icmp .lt 7, 3) := by decide +kernel
theorem dX12_isIn_12 : decode cX12_isIn 12 = .ok (.iconst 1, 1) := by decide +kernel
theorem dX12_isIn_13 : decode cX12_isIn 13 = .ok (.goto 4, 3) := by decide +kernel
theorem dX12_isIn_16 : decode cX12_isIn 16 = .ok (.iconst 0, 1) := by decide +kernel
theorem dX12_isIn_17 : decode cX12_isIn 17 = .ok (.ireturn, 1) := by decide +kernel
def f_X12_isIn (N : Nat) (σ : uS) (a1 : Nat) (p2 : Int32) : Option Int32 := (u_rI ZM σ 0 a1 p2).bind fun v1 =>
  (u_rI ZM σ 0 2 p2).bind fun v2 =>
  if v1 < v2 then (some 0) else (some 1)
set_option maxRecDepth 100000 in
set_option maxHeartbeats 4000000 in
theorem c_X12_isIn (l : Launch) (G : uG) (N : Nat) (σ : uS) (a1 : Nat) (p2 : Int32) (z : Int32) (hz : f_X12_isIn N σ a1 p2 = some z) : u_Mi l ZM G yX12_isIn cX12_isIn 3 .boolean 0 [.ref (G.2.2 0), .ref (G.2.2 a1), .int p2] σ z σ := by
  refine u_Mi_of RX12 (by decide) rfl (Nat.le_of_ble_eq_true rfl) ?_
  intro p e s m args below meth c ls cx hw hl
  have hx := cx.1
  have hb := cx.2.1
  have hl : lv_has ls 3 [(0, .ref (G.2.2 0)), (1, .ref (G.2.2 a1)), (2, .int p2)] := hl
  unfold f_X12_isIn at hz
  refine lv_aload_n hx hb dX12_isIn_0 rfl (lv_at hl 1 rfl) ?_
  refine lv_iload_n hx hb dX12_isIn_1 rfl (lv_at hl 2 rfl) ?_
  obtain ⟨v1, hv1, hz⟩ := u_bind hz
  refine u_iald cx hw hv1 dX12_isIn_2 ?_
  refine lv_aload_n hx hb dX12_isIn_3 rfl (lv_at hl 0 rfl) ?_
  refine u_getp cx hw F_X12_17 o_X12 rfl dX12_isIn_4 ?_
  refine lv_iload_n hx hb dX12_isIn_7 rfl (lv_at hl 2 rfl) ?_
  obtain ⟨v2, hv2, hz⟩ := u_bind hz
  refine u_iald cx hw hv2 dX12_isIn_8 ?_
  refine lv_icmp_lt (tgt := 16) hx hb dX12_isIn_9 (by decide) (fun hc => ?_) (fun hc => ?_)
  · replace hz := u_ift hz hc
    refine lv_iconst (v := 0) hx hb dX12_isIn_16 (by decide) ?_
    exact u_zret cx hw (Or.inl rfl) ⟨Option.some.inj hz, rfl⟩ dX12_isIn_17
  · replace hz := u_iff hz hc
    refine lv_iconst (v := 1) hx hb dX12_isIn_12 (by decide) ?_
    refine lv_goto (tgt := 17) hx hb dX12_isIn_13 (by decide) ?_
    exact u_zret cx hw (Or.inr rfl) ⟨Option.some.inj hz, rfl⟩ dX12_isIn_17
theorem dX12_inBits_0 : decode cX12_inBits 0 = .ok (.iconst 0, 1) := by decide +kernel
theorem dX12_inBits_1 : decode cX12_inBits 1 = .ok (.istore_n 2, 1) := by decide +kernel
theorem dX12_inBits_2 : decode cX12_inBits 2 = .ok (.iconst 0, 1) := by decide +kernel
theorem dX12_inBits_3 : decode cX12_inBits 3 = .ok (.istore_n 3, 1) := by decide +kernel
theorem dX12_inBits_4 : decode cX12_inBits 4 = .ok (.iload_n 3, 1) := by decide +kernel
theorem dX12_inBits_5 : decode cX12_inBits 5 = .ok (.aload_n 0, 1) := by decide +kernel
theorem dX12_inBits_6 : decode cX12_inBits 6 = .ok (.getfield 83, 3) := by decide +kernel
theorem dX12_inBits_9 : decode cX12_inBits 9 = .ok (.if_icmp .ge 28, 3) := by decide +kernel
theorem dX12_inBits_12 : decode cX12_inBits 12 = .ok (.iload_n 2, 1) := by decide +kernel
theorem dX12_inBits_13 : decode cX12_inBits 13 = .ok (.aload_n 0, 1) := by decide +kernel
theorem dX12_inBits_14 : decode cX12_inBits 14 = .ok (.aload_n 1, 1) := by decide +kernel
theorem dX12_inBits_15 : decode cX12_inBits 15 = .ok (.iload_n 3, 1) := by decide +kernel
theorem dX12_inBits_16 : decode cX12_inBits 16 = .ok (.invokevirtual 194, 3) := by decide +kernel
theorem dX12_inBits_19 : decode cX12_inBits 19 = .ok (.ifCond .eq 9, 3) := by decide +kernel
theorem dX12_inBits_22 : decode cX12_inBits 22 = .ok (.iconst 1, 1) := by decide +kernel
theorem dX12_inBits_23 : decode cX12_inBits 23 = .ok (.iload_n 3, 1) := by decide +kernel
theorem dX12_inBits_24 : decode cX12_inBits 24 = .ok (.ishl, 1) := by decide +kernel
theorem dX12_inBits_25 : decode cX12_inBits 25 = .ok (.goto 4, 3) := by decide +kernel
theorem dX12_inBits_28 : decode cX12_inBits 28 = .ok (.iconst 0, 1) := by decide +kernel
theorem dX12_inBits_29 : decode cX12_inBits 29 = .ok (.ior, 1) := by decide +kernel
theorem dX12_inBits_30 : decode cX12_inBits 30 = .ok (.istore_n 2, 1) := by decide +kernel
theorem dX12_inBits_31 : decode cX12_inBits 31 = .ok (.iinc 3 1, 3) := by decide +kernel
theorem dX12_inBits_34 : decode cX12_inBits 34 = .ok (.goto (-30), 3) := by decide +kernel
theorem dX12_inBits_37 : decode cX12_inBits 37 = .ok (.iload_n 2, 1) := by decide +kernel
theorem dX12_inBits_38 : decode cX12_inBits 38 = .ok (.ireturn, 1) := by decide +kernel
def b_X12_inBits_4 (N : Nat) (σ : uS) (a1 : Nat) (J37_2 : Int32 → Option Int32) (rec4_5 : Int32 → Int32 → Option Int32) (x3 : Int32) (x4 : Int32) : Option Int32 :=
  if (σ.1 0 2) ≤ x4 then (J37_2 x3) else ((f_X12_isIn N σ a1 x4).bind fun v6 =>
  u_jn (fun (t7 : Int32) => (u_jn ((x3 ||| t7) : Int32) fun x9 =>
  u_jn (x4 + 1 : Int32) fun x10 =>
  rec4_5 x9 x10 : Option Int32)) fun J29_8 =>
  if v6 = 0 then (J29_8 0) else (J29_8 (1 <<< (x4 &&& 31))))
def f_X12_inBits (N : Nat) (σ : uS) (a1 : Nat) : Option Int32 := u_jn (fun (x1 : Int32) => (some x1 : Option Int32)) fun J37_2 =>
  u_lp2 (b_X12_inBits_4 N σ a1 J37_2) N 0 0
set_option maxRecDepth 100000 in
set_option maxHeartbeats 4000000 in
theorem c_X12_inBits (l : Launch) (G : uG) (N : Nat) (σ : uS) (a1 : Nat) (z : Int32) (hz : f_X12_inBits N σ a1 = some z) : u_Mi l ZM G yX12_inBits cX12_inBits 4 .int 1 [.ref (G.2.2 0), .ref (G.2.2 a1)] σ z σ := by
  refine u_Mi_of RX12 (by decide) rfl (Nat.le_of_ble_eq_true rfl) ?_
  intro p e s m args below meth c ls cx hw hl
  have hx := cx.1
  have hb := cx.2.1
  have hl : lv_has ls 4 [(0, .ref (G.2.2 0)), (1, .ref (G.2.2 a1))] := hl
  unfold f_X12_inBits at hz
  refine lv_iconst (v := 0) hx hb dX12_inBits_0 (by decide) ?_
  refine lv_istore_n (lv' := [(2, .int 0), (0, .ref (G.2.2 0)), (1, .ref (G.2.2 a1))]) hx hb dX12_inBits_1 rfl hl (by decide) rfl (fun ls hl => ?_)
  refine lv_iconst (v := 0) hx hb dX12_inBits_2 (by decide) ?_
  refine lv_istore_n (lv' := [(3, .int 0), (2, .int 0), (0, .ref (G.2.2 0)), (1, .ref (G.2.2 a1))]) hx hb dX12_inBits_3 rfl hl (by decide) rfl (fun ls hl => ?_)
  obtain ⟨J37_2, eJ37_2, hz⟩ := u_let hz
  have WJ37_2 : ∀ (x1 : Int32) (H : Heap) (locs : List Loc) (ls : Array Slot), J37_2 x1 = some z → u_W ZM G σ s H locs → lv_has ls 4 [(2, .int x1)] → W p l e (u_rm 1) s m args below meth c H locs 0 0 (u_Qi below ZM G s args z σ) (F0 m 37 ls []) := by
    intro x1 H locs ls hz hw hl
    rw [eJ37_2] at hz
    refine lv_iload_n hx hb dX12_inBits_37 rfl (lv_at hl 0 rfl) ?_
    exact u_iret cx hw ⟨Option.some.inj hz, rfl⟩ dX12_inBits_38
  have WL4_10 : ∀ (k : Nat) (x3 : Int32) (x4 : Int32) (H : Heap) (locs : List Loc) (ls : Array Slot), u_lp2 (b_X12_inBits_4 N σ a1 J37_2) k x3 x4 = some z → u_W ZM G σ s H locs → lv_has ls 4 [(0, .ref (G.2.2 0)), (1, .ref (G.2.2 a1)), (2, .int x3), (3, .int x4)] → W p l e (u_rm 1) s m args below meth c H locs 0 0 (u_Qi below ZM G s args z σ) (F0 m 4 ls []) := by
    intro k
    induction k with
    | zero =>
      intro x3 x4 H locs ls hz
      exact absurd hz (by intro h9; cases h9)
    | succ k ih4_5 =>
      intro x3 x4 H locs ls hz hw hl
      have hz : (b_X12_inBits_4 N σ a1 J37_2) (u_lp2 (b_X12_inBits_4 N σ a1 J37_2) k) x3 x4 = some z := hz
      unfold b_X12_inBits_4 at hz
      refine lv_iload_n hx hb dX12_inBits_4 rfl (lv_at hl 3 rfl) ?_
      refine lv_aload_n hx hb dX12_inBits_5 rfl (lv_at hl 0 rfl) ?_
      refine u_geti cx hw F_X12_83 o_X12 rfl dX12_inBits_6 ?_
      refine lv_icmp_ge (tgt := 37) hx hb dX12_inBits_9 (by decide) (fun hc => ?_) (fun hc => ?_)
      · replace hz := u_ift hz hc
        exact WJ37_2 x3 _ _ _ hz hw (lv_sub hl [2] rfl)
      · replace hz := u_iff hz hc
        refine lv_iload_n hx hb dX12_inBits_12 rfl (lv_at hl 2 rfl) ?_
        refine lv_aload_n hx hb dX12_inBits_13 rfl (lv_at hl 0 rfl) ?_
        refine lv_aload_n hx hb dX12_inBits_14 rfl (lv_at hl 1 rfl) ?_
        refine lv_iload_n hx hb dX12_inBits_15 rfl (lv_at hl 3 rfl) ?_
        obtain ⟨v6, hv6, hz⟩ := u_bind hz
        refine u_callVi (As := [.ref (G.2.2 a1), .int x4]) (rest := [.int x3]) cx hw LV_X12_194 (c_X12_isIn l G N σ a1 x4 v6 hv6) o_X12 rfl (by decide) hl.1 rfl (Nat.le_of_ble_eq_true rfl) dX12_inBits_16 rfl (fun H locs hw => ?_)
        obtain ⟨J29_8, eJ29_8, hz⟩ := u_let hz
        have WJ29_8 : ∀ (t7 : Int32) (H : Heap) (locs : List Loc) (ls : Array Slot), J29_8 t7 = some z → u_W ZM G σ s H locs → lv_has ls 4 [(0, .ref (G.2.2 0)), (1, .ref (G.2.2 a1)), (3, .int x4)] → W p l e (u_rm 1) s m args below meth c H locs 0 0 (u_Qi below ZM G s args z σ) (F0 m 29 ls [.int t7, .int x3]) := by
          intro t7 H locs ls hz hw hl
          rw [eJ29_8] at hz
          refine lv_ior hx hb dX12_inBits_29 ?_
          obtain ⟨x9, ex9, hz⟩ := u_let hz
          refine u_topi ex9 ?_
          refine lv_istore_n (lv' := [(2, .int x9), (0, .ref (G.2.2 0)), (1, .ref (G.2.2 a1)), (3, .int x4)]) hx hb dX12_inBits_30 rfl hl (by decide) rfl (fun ls hl => ?_)
          obtain ⟨x10, ex10, hz⟩ := u_let hz
          refine lv_iinc (v := x10) (lv' := [(3, .int x10), (2, .int x9), (0, .ref (G.2.2 0)), (1, .ref (G.2.2 a1))]) hx hb dX12_inBits_31 hl (k := 3) rfl (by rw [ex10]; rfl) (by decide) rfl (fun ls hl => ?_)
          refine lv_goto (tgt := 4) hx hb dX12_inBits_34 (by decide) ?_
          exact ih4_5 x9 x10 _ _ _ hz hw (lv_sub hl [2, 3, 1, 0] rfl)
        refine lv_if_eq (tgt := 28) hx hb dX12_inBits_19 (by decide) (fun hc => ?_) (fun hc => ?_)
        · replace hz := u_ift hz hc
          refine lv_iconst (v := 0) hx hb dX12_inBits_28 (by decide) ?_
          exact WJ29_8 0 _ _ _ hz hw (lv_sub hl [0, 1, 3] rfl)
        · replace hz := u_iff hz hc
          refine lv_iconst (v := 1) hx hb dX12_inBits_22 (by decide) ?_
          refine lv_iload_n hx hb dX12_inBits_23 rfl (lv_at hl 3 rfl) ?_
          refine lv_ishl hx hb dX12_inBits_24 ?_
          refine lv_goto (tgt := 29) hx hb dX12_inBits_25 (by decide) ?_
          exact WJ29_8 (1 <<< (x4 &&& 31)) _ _ _ hz hw (lv_sub hl [0, 1, 3] rfl)
  exact WL4_10 N 0 0 _ _ _ hz hw (lv_sub hl [2, 3, 1, 0] rfl)
