theorem dX0_clear_0 : decode cX0_clear 0 = .ok (.aload_n 0, 1) := by decide +kernel
theorem dX0_clear_1 : decode cX0_clear 1 = .ok (.iconst 0, 1) := by decide +kernel
theorem dX0_clear_2 : decode cX0_clear 2 = .ok (.putfield 7, 3) := by decide +kernel
theorem dX0_clear_5 : decode cX0_clear 5 = .ok (.aload_n 0, 1) := by decide +kernel
theorem dX0_clear_6 : decode cX0_clear 6 = .ok (.iconst 0, 1) := by decide +kernel
theorem dX0_clear_7 : decode cX0_clear 7 = .ok (.putfield 13, 3) := by decide +kernel
theorem dX0_clear_10 : decode cX0_clear 10 = .ok (.aload_n 0, 1) := by decide +kernel
theorem dX0_clear_11 : decode cX0_clear 11 = .ok (.iconst 0, 1) := by decide +kernel
theorem dX0_clear_12 : decode cX0_clear 12 = .ok (.putfield 16, 3) := by decide +kernel
theorem dX0_clear_15 : decode cX0_clear 15 = .ok (.return_, 1) := by decide +kernel
def f_X0_clear (N : Nat) (σ : uS) : Option uS := u_jn (u_pI σ 8 0 0) fun s1 =>
  u_jn (u_pI s1 8 1 0) fun s2 =>
  u_jn (u_pI s2 8 2 0) fun s3 =>
  some s3
set_option maxRecDepth 100000 in
set_option maxHeartbeats 4000000 in
theorem c_X0_clear (l : Launch) (G : uG) (N : Nat) (σ : uS) (z : uS) (hz : f_X0_clear N σ = some z) : u_Mv l ZC G yX0_clear cX0_clear 1 0 [.ref (G.2.2 8)] σ z := by
  refine u_Mv_of RX0 (by decide) rfl (Nat.le_of_ble_eq_true rfl) ?_
  intro p e s m args below meth c ls cx hw hl
  have hx := cx.1
  have hb := cx.2.1
  have hl : lv_has ls 1 [(0, .ref (G.2.2 8))] := hl
  unfold f_X0_clear at hz
  refine lv_aload_n hx hb dX0_clear_0 rfl (lv_at hl 0 rfl) ?_
  refine lv_iconst (v := 0) hx hb dX0_clear_1 (by decide) ?_
  obtain ⟨s1, es1, hz⟩ := u_let hz
  refine u_puti2 cx hw P_X0_7 o_X0 rfl es1 dX0_clear_2 (fun H locs hw => ?_)
  refine lv_aload_n hx hb dX0_clear_5 rfl (lv_at hl 0 rfl) ?_
  refine lv_iconst (v := 0) hx hb dX0_clear_6 (by decide) ?_
  obtain ⟨s2, es2, hz⟩ := u_let hz
  refine u_puti2 cx hw P_X0_13 o_X0 rfl es2 dX0_clear_7 (fun H locs hw => ?_)
  refine lv_aload_n hx hb dX0_clear_10 rfl (lv_at hl 0 rfl) ?_
  refine lv_iconst (v := 0) hx hb dX0_clear_11 (by decide) ?_
  obtain ⟨s3, es3, hz⟩ := u_let hz
  refine u_puti2 cx hw P_X0_16 o_X0 rfl es3 dX0_clear_12 (fun H locs hw => ?_)
  exact u_vret cx hw (Option.some.inj hz) dX0_clear_15
theorem dX0_add_0 : decode cX0_add 0 = .ok (.aload_n 0, 1) := by decide +kernel
theorem dX0_add_1 : decode cX0_add 1 = .ok (.dup, 1) := by decide +kernel
theorem dX0_add_2 : decode cX0_add 2 = .ok (.getfield 7, 3) := by decide +kernel
theorem dX0_add_5 : decode cX0_add 5 = .ok (.iconst 1, 1) := by decide +kernel
theorem dX0_add_6 : decode cX0_add 6 = .ok (.iadd, 1) := by decide +kernel
theorem dX0_add_7 : decode cX0_add 7 = .ok (.putfield 7, 3) := by decide +kernel
theorem dX0_add_10 : decode cX0_add 10 = .ok (.iload_n 2, 1) := by decide +kernel
theorem dX0_add_11 : decode cX0_add 11 = .ok (.ifCond .eq 18, 3) := by decide +kernel
theorem dX0_add_14 : decode cX0_add 14 = .ok (.aload_n 0, 1) := by decide +kernel
theorem dX0_add_15 : decode cX0_add 15 = .ok (.dup, 1) := by decide +kernel
theorem dX0_add_16 : decode cX0_add 16 = .ok (.getfield 13, 3) := by decide +kernel
theorem dX0_add_19 : decode cX0_add 19 = .ok (.iconst 1, 1) := by decide +kernel
theorem dX0_add_20 : decode cX0_add 20 = .ok (.iload_n 1, 1) := by decide +kernel
theorem dX0_add_21 : decode cX0_add 21 = .ok (.ishl, 1) := by decide +kernel
theorem dX0_add_22 : decode cX0_add 22 = .ok (.ior, 1) := by decide +kernel
theorem dX0_add_23 : decode cX0_add 23 = .ok (.putfield 13, 3) := by decide +kernel
theorem dX0_add_26 : decode cX0_add 26 = .ok (.goto 15, 3) := by decide +kernel
theorem dX0_add_29 : decode cX0_add 29 = .ok (.aload_n 0, 1) := by decide +kernel
theorem dX0_add_30 : decode cX0_add 30 = .ok (.dup, 1) := by decide +kernel
theorem dX0_add_31 : decode cX0_add 31 = .ok (.getfield 16, 3) := by decide +kernel
theorem dX0_add_34 : decode cX0_add 34 = .ok (.iconst 1, 1) := by decide +kernel
theorem dX0_add_35 : decode cX0_add 35 = .ok (.iload_n 1, 1) := by decide +kernel
theorem dX0_add_36 : decode cX0_add 36 = .ok (.ishl, 1) := by decide +kernel
theorem dX0_add_37 : decode cX0_add 37 = .ok (.ior, 1) := by decide +kernel
theorem dX0_add_38 : decode cX0_add 38 = .ok (.putfield 16, 3) := by decide +kernel
theorem dX0_add_41 : decode cX0_add 41 = .ok (.return_, 1) := by decide +kernel
def f_X0_add (N : Nat) (σ : uS) (p1 : Int32) (p2 : Int32) : Option uS := u_jn (u_pI σ 8 0 ((σ.1 8 0) + 1)) fun s1 =>
  if p2 = 0 then (u_jn (u_pI s1 8 2 ((s1.1 8 2) ||| (1 <<< (p1 &&& 31)))) fun s2 =>
  some s2) else (u_jn (u_pI s1 8 1 ((s1.1 8 1) ||| (1 <<< (p1 &&& 31)))) fun s3 =>
  some s3)
set_option maxRecDepth 100000 in
set_option maxHeartbeats 4000000 in
theorem c_X0_add (l : Launch) (G : uG) (N : Nat) (σ : uS) (p1 : Int32) (p2 : Int32) (z : uS) (hz : f_X0_add N σ p1 p2 = some z) : u_Mv l ZC G yX0_add cX0_add 3 0 [.ref (G.2.2 8), .int p1, .int p2] σ z := by
  refine u_Mv_of RX0 (by decide) rfl (Nat.le_of_ble_eq_true rfl) ?_
  intro p e s m args below meth c ls cx hw hl
  have hx := cx.1
  have hb := cx.2.1
  have hl : lv_has ls 3 [(0, .ref (G.2.2 8)), (1, .int p1), (2, .int p2)] := hl
  unfold f_X0_add at hz
  refine lv_aload_n hx hb dX0_add_0 rfl (lv_at hl 0 rfl) ?_
  refine lv_dup hx hb dX0_add_1 rfl ?_
  refine u_geti cx hw F_X0_7 o_X0 rfl dX0_add_2 ?_
  refine lv_iconst (v := 1) hx hb dX0_add_5 (by decide) ?_
  refine lv_iadd hx hb dX0_add_6 ?_
  obtain ⟨s1, es1, hz⟩ := u_let hz
  refine u_puti2 cx hw P_X0_7 o_X0 rfl es1 dX0_add_7 (fun H locs hw => ?_)
  refine lv_iload_n hx hb dX0_add_10 rfl (lv_at hl 2 rfl) ?_
  refine lv_if_eq (tgt := 29) hx hb dX0_add_11 (by decide) (fun hc => ?_) (fun hc => ?_)
  · replace hz := u_ift hz hc
    refine lv_aload_n hx hb dX0_add_29 rfl (lv_at hl 0 rfl) ?_
    refine lv_dup hx hb dX0_add_30 rfl ?_
    refine u_geti cx hw F_X0_16 o_X0 rfl dX0_add_31 ?_
    refine lv_iconst (v := 1) hx hb dX0_add_34 (by decide) ?_
    refine lv_iload_n hx hb dX0_add_35 rfl (lv_at hl 1 rfl) ?_
    refine lv_ishl hx hb dX0_add_36 ?_
    refine lv_ior hx hb dX0_add_37 ?_
    obtain ⟨s2, es2, hz⟩ := u_let hz
    refine u_puti2 cx hw P_X0_16 o_X0 rfl es2 dX0_add_38 (fun H locs hw => ?_)
    exact u_vret cx hw (Option.some.inj hz) dX0_add_41
  · replace hz := u_iff hz hc
    refine lv_aload_n hx hb dX0_add_14 rfl (lv_at hl 0 rfl) ?_
    refine lv_dup hx hb dX0_add_15 rfl ?_
    refine u_geti cx hw F_X0_13 o_X0 rfl dX0_add_16 ?_
    refine lv_iconst (v := 1) hx hb dX0_add_19 (by decide) ?_
    refine lv_iload_n hx hb dX0_add_20 rfl (lv_at hl 1 rfl) ?_
    refine lv_ishl hx hb dX0_add_21 ?_
    refine lv_ior hx hb dX0_add_22 ?_
    obtain ⟨s3, es3, hz⟩ := u_let hz
    refine u_puti2 cx hw P_X0_13 o_X0 rfl es3 dX0_add_23 (fun H locs hw => ?_)
    refine lv_goto (tgt := 41) hx hb dX0_add_26 (by decide) ?_
    exact u_vret cx hw (Option.some.inj hz) dX0_add_41
theorem dX0_fit_0 : decode cX0_fit 0 = .ok (.iconst 2, 1) := by decide +kernel
theorem dX0_fit_1 : decode cX0_fit 1 = .ok (.iload_n 2, 1) := by decide +kernel
theorem dX0_fit_2 : decode cX0_fit 2 = .ok (.ishl, 1) := by decide +kernel
theorem dX0_fit_3 : decode cX0_fit 3 = .ok (.iconst 1, 1) := by decide +kernel
theorem dX0_fit_4 : decode cX0_fit 4 = .ok (.iload_n 1, 1) := by decide +kernel
theorem dX0_fit_5 : decode cX0_fit 5 = .ok (.ishl, 1) := by decide +kernel
theorem dX0_fit_6 : decode cX0_fit 6 = .ok (.isub, 1) := by decide +kernel
theorem dX0_fit_7 : decode cX0_fit 7 = .ok (.istore_n 3, 1) := by decide +kernel
theorem dX0_fit_8 : decode cX0_fit 8 = .ok (.aload_n 0, 1) := by decide +kernel
theorem dX0_fit_9 : decode cX0_fit 9 = .ok (.getfield 13, 3) := by decide +kernel
theorem dX0_fit_12 : decode cX0_fit 12 = .ok (.iload_n 3, 1) := by decide +kernel
theorem dX0_fit_13 : decode cX0_fit 13 = .ok (.iconst (-1), 1) := by decide +kernel
theorem dX0_fit_14 : decode cX0_fit 14 = .ok (.ixor, 1) := by decide +kernel
theorem dX0_fit_15 : decode cX0_fit 15 = .ok (.iand, 1) := by decide +kernel
theorem dX0_fit_16 : decode cX0_fit 16 = .ok (.ifCond .ne 16, 3) := by decide +kernel
theorem dX0_fit_19 : decode cX0_fit 19 = .ok (.aload_n 0, 1) := by decide +kernel
theorem dX0_fit_20 : decode cX0_fit 20 = .ok (.getfield 16, 3) := by decide +kernel
theorem dX0_fit_23 : decode cX0_fit 23 = .ok (.iload_n 3, 1) := by decide +kernel
theorem dX0_fit_24 : decode cX0_fit 24 = .ok (.iand, 1) := by decide +kernel
theorem dX0_fit_25 : decode cX0_fit 25 = .ok (.ifCond .ne 7, 3) := by decide +kernel
theorem dX0_fit_28 : decode cX0_fit 28 = .ok (.iconst 1, 1) := by decide +kernel
theorem dX0_fit_29 : decode cX0_fit 29 = .ok (.goto 4, 3) := by decide +kernel
theorem dX0_fit_32 : decode cX0_fit 32 = .ok (.iconst 0, 1) := by decide +kernel
theorem dX0_fit_33 : decode cX0_fit 33 = .ok (.ireturn, 1) := by decide +kernel
def f_X0_fit (N : Nat) (σ : uS) (p1 : Int32) (p2 : Int32) : Option Int32 := u_jn (((2 <<< (p2 &&& 31)) - (1 <<< (p1 &&& 31))) : Int32) fun x1 =>
  u_jn ((some 0 : Option Int32)) fun J32_2 =>
  if ((σ.1 8 1) &&& (x1 ^^^ (-1))) = 0 then (if ((σ.1 8 2) &&& x1) = 0 then (some 1) else (J32_2)) else (J32_2)
set_option maxRecDepth 100000 in
set_option maxHeartbeats 4000000 in
theorem c_X0_fit (l : Launch) (G : uG) (N : Nat) (σ : uS) (p1 : Int32) (p2 : Int32) (z : Int32) (hz : f_X0_fit N σ p1 p2 = some z) : u_Mi l ZC G yX0_fit cX0_fit 4 .boolean 0 [.ref (G.2.2 8), .int p1, .int p2] σ z σ := by
  refine u_Mi_of RX0 (by decide) rfl (Nat.le_of_ble_eq_true rfl) ?_
  intro p e s m args below meth c ls cx hw hl
  have hx := cx.1
  have hb := cx.2.1
  have hl : lv_has ls 4 [(0, .ref (G.2.2 8)), (1, .int p1), (2, .int p2)] := hl
  unfold f_X0_fit at hz
  refine lv_iconst (v := 2) hx hb dX0_fit_0 (by decide) ?_
  refine lv_iload_n hx hb dX0_fit_1 rfl (lv_at hl 2 rfl) ?_
  refine lv_ishl hx hb dX0_fit_2 ?_
  refine lv_iconst (v := 1) hx hb dX0_fit_3 (by decide) ?_
  refine lv_iload_n hx hb dX0_fit_4 rfl (lv_at hl 1 rfl) ?_
  refine lv_ishl hx hb dX0_fit_5 ?_
  refine lv_isub hx hb dX0_fit_6 ?_
  obtain ⟨x1, ex1, hz⟩ := u_let hz
  refine u_topi ex1 ?_
  refine lv_istore_n (lv' := [(3, .int x1), (0, .ref (G.2.2 8)), (1, .int p1), (2, .int p2)]) hx hb dX0_fit_7 rfl hl (by decide) rfl (fun ls hl => ?_)
  refine lv_aload_n hx hb dX0_fit_8 rfl (lv_at hl 1 rfl) ?_
  refine u_geti cx hw F_X0_13 o_X0 rfl dX0_fit_9 ?_
  refine lv_iload_n hx hb dX0_fit_12 rfl (lv_at hl 0 rfl) ?_
  refine lv_iconst (v := (-1)) hx hb dX0_fit_13 (by decide) ?_
  refine lv_ixor hx hb dX0_fit_14 ?_
  refine lv_iand hx hb dX0_fit_15 ?_
  obtain ⟨J32_2, eJ32_2, hz⟩ := u_let hz
  have WJ32_2 : ∀ (H : Heap) (locs : List Loc) (ls : Array Slot), J32_2 = some z → u_W ZC G σ s H locs → lv_has ls 4 [] → W p l e (u_rm 0) s m args below meth c H locs 0 0 (u_Qi below ZC G s args z σ) (F0 m 32 ls []) := by
    intro H locs ls hz hw hl
    rw [eJ32_2] at hz
    refine lv_iconst (v := 0) hx hb dX0_fit_32 (by decide) ?_
    exact u_zret cx hw (Or.inl rfl) ⟨Option.some.inj hz, rfl⟩ dX0_fit_33
  refine lv_if_ne (tgt := 32) hx hb dX0_fit_16 (by decide) (fun hc => ?_) (fun hc => ?_)
  · replace hz := u_iff hz hc
    exact WJ32_2 _ _ _ hz hw (lv_sub hl [] rfl)
  · replace hz := u_ift hz hc
    refine lv_aload_n hx hb dX0_fit_19 rfl (lv_at hl 1 rfl) ?_
    refine u_geti cx hw F_X0_16 o_X0 rfl dX0_fit_20 ?_
    refine lv_iload_n hx hb dX0_fit_23 rfl (lv_at hl 0 rfl) ?_
    refine lv_iand hx hb dX0_fit_24 ?_
    refine lv_if_ne (tgt := 32) hx hb dX0_fit_25 (by decide) (fun hc => ?_) (fun hc => ?_)
    · replace hz := u_iff hz hc
      exact WJ32_2 _ _ _ hz hw (lv_sub hl [] rfl)
    · replace hz := u_ift hz hc
      refine lv_iconst (v := 1) hx hb dX0_fit_28 (by decide) ?_
      refine lv_goto (tgt := 33) hx hb dX0_fit_29 (by decide) ?_
      exact u_zret cx hw (Or.inr rfl) ⟨Option.some.inj hz, rfl⟩ dX0_fit_33
theorem dX0_coursesWith_0 : decode cX0_coursesWith 0 = .ok (.iconst 0, 1) := by decide +kernel
theorem dX0_coursesWith_1 : decode cX0_coursesWith 1 = .ok (.istore_n 3, 1) := by decide +kernel
theorem dX0_coursesWith_2 : decode cX0_coursesWith 2 = .ok (.iconst 0, 1) := by decide +kernel
theorem dX0_coursesWith_3 : decode cX0_coursesWith 3 = .ok (.istore 4, 2) := by decide +kernel
theorem dX0_coursesWith_5 : decode cX0_coursesWith 5 = .ok (.iload 4, 2) := by decide +kernel
theorem dX0_coursesWith_7 : decode cX0_coursesWith 7 = .ok (.iload_n 1, 1) := by decide +kernel
theorem dX0_coursesWith_8 : decode cX0_coursesWith 8 = .ok (.if_icmp .ge 73, 3) := by decide +kernel
theorem dX0_coursesWith_11 : decode cX0_coursesWith 11 = .ok (.iload 4, 2) := by decide +kernel
theorem dX0_coursesWith_13 : decode cX0_coursesWith 13 = .ok (.istore 5, 2) := by decide +kernel
theorem dX0_coursesWith_15 : decode cX0_coursesWith 15 = .ok (.iload 5, 2) := by decide +kernel
theorem dX0_coursesWith_17 : decode cX0_coursesWith 17 = .ok (.iload_n 1, 1) := by decide +kernel
theorem dX0_coursesWith_18 : decode cX0_coursesWith 18 = .ok (.if_icmp .ge 57, 3) := by decide +kernel
theorem dX0_coursesWith_21 : decode cX0_coursesWith 21 = .ok (.iload_n 2, 1) := by decide +kernel
theorem dX0_coursesWith_22 : decode cX0_coursesWith 22 = .ok (.iconst (-1), 1) := by decide +kernel
theorem dX0_coursesWith_23 : decode cX0_coursesWith 23 = .ok (.if_icmp .eq 15, 3) := by decide +kernel
theorem dX0_coursesWith_26 : decode cX0_coursesWith 26 = .ok (.iload_n 2, 1) := by decide +kernel
theorem dX0_coursesWith_27 : decode cX0_coursesWith 27 = .ok (.iload 4, 2) := by decide +kernel
theorem dX0_coursesWith_29 : decode cX0_coursesWith 29 = .ok (.if_icmp .lt 13, 3) := by decide +kernel
theorem dX0_coursesWith_32 : decode cX0_coursesWith 32 = .ok (.iload_n 2, 1) := by decide +kernel
theorem dX0_coursesWith_33 : decode cX0_coursesWith 33 = .ok (.iload 5, 2) := by decide +kernel
theorem dX0_coursesWith_35 : decode cX0_coursesWith 35 = .ok (.if_icmp .gt 7, 3) := by decide +kernel
theorem dX0_coursesWith_38 : decode cX0_coursesWith 38 = .ok (.iconst 1, 1) := by decide +kernel
theorem dX0_coursesWith_39 : decode cX0_coursesWith 39 = .ok (.goto 4, 3) := by decide +kernel
theorem dX0_coursesWith_42 : decode cX0_coursesWith 42 = .ok (.iconst 0, 1) := by decide +kernel
theorem dX0_coursesWith_43 : decode cX0_coursesWith 43 = .ok (.istore 6, 2) := by decide +kernel
theorem dX0_coursesWith_45 : decode cX0_coursesWith 45 = .ok (.iload_n 3, 1) := by decide +kernel
theorem dX0_coursesWith_46 : decode cX0_coursesWith 46 = .ok (.iload 6, 2) := by decide +kernel
theorem dX0_coursesWith_48 : decode cX0_coursesWith 48 = .ok (.ifCond .eq 18, 3) := by decide +kernel
theorem dX0_coursesWith_51 : decode cX0_coursesWith 51 = .ok (.aload_n 0, 1) := by decide +kernel
theorem dX0_coursesWith_52 : decode cX0_coursesWith 52 = .ok (.iload 4, 2) := by decide +kernel
theorem dX0_coursesWith_54 : decode cX0_coursesWith 54 = .ok (.iload 5, 2) := by decide +kernel
theorem dX0_coursesWith_56 : decode cX0_coursesWith 56 = .ok (.invokevirtual 19, 3) := by decide +kernel
theorem dX0_coursesWith_59 : decode cX0_coursesWith 59 = .ok (.ifCond .eq 7, 3) := by decide +kernel
theorem dX0_coursesWith_62 : decode cX0_coursesWith 62 = .ok (.iconst 1, 1) := by decide +kernel
theorem dX0_coursesWith_63 : decode cX0_coursesWith 63 = .ok (.goto 4, 3) := by decide +kernel
theorem dX0_coursesWith_66 : decode cX0_coursesWith 66 = .ok (.iconst 0, 1) := by decide +kernel
theorem dX0_coursesWith_67 : decode cX0_coursesWith 67 = .ok (.iadd, 1) := by decide +kernel
theorem dX0_coursesWith_68 : decode cX0_coursesWith 68 = .ok (.istore_n 3, 1) := by decide +kernel
theorem dX0_coursesWith_69 : decode cX0_coursesWith 69 = .ok (.iinc 5 1, 3) := by decide +kernel
theorem dX0_coursesWith_72 : decode cX0_coursesWith 72 = .ok (.goto (-57), 3) := by decide +kernel
theorem dX0_coursesWith_75 : decode cX0_coursesWith 75 = .ok (.iinc 4 1, 3) := by decide +kernel
theorem dX0_coursesWith_78 : decode cX0_coursesWith 78 = .ok (.goto (-73), 3) := by decide +kernel
theorem dX0_coursesWith_81 : decode cX0_coursesWith 81 = .ok (.iload_n 3, 1) := by decide +kernel
theorem dX0_coursesWith_82 : decode cX0_coursesWith 82 = .ok (.ireturn, 1) := by decide +kernel
def b_X0_coursesWith_15 (N : Nat) (σ : uS) (p1 : Int32) (p2 : Int32) (x4 : Int32) (J75_7 : Int32 → Option Int32) (rec15_11 : Int32 → Int32 → Option Int32) (x9 : Int32) (x10 : Int32) : Option Int32 :=
  if p1 ≤ x10 then (J75_7 x9) else (u_jn (fun (t12 : Int32) => (u_jn (fun (t14 : Int32) => (u_jn ((x9 + t14) : Int32) fun x16 =>
  u_jn (x10 + 1 : Int32) fun x17 =>
  rec15_11 x16 x17 : Option Int32)) fun J67_15 =>
  u_jn ((J67_15 0 : Option Int32)) fun J66_18 =>
  if t12 = 0 then (J66_18) else ((f_X0_fit N σ x4 x10).bind fun v19 =>
  if v19 = 0 then (J66_18) else (J67_15 1)) : Option Int32)) fun J43_13 =>
  u_jn ((J43_13 1 : Option Int32)) fun J38_20 =>
  if p2 = (-1) then (J38_20) else (u_jn ((J43_13 0 : Option Int32)) fun J42_21 =>
  if p2 < x4 then (J42_21) else (if x10 < p2 then (J42_21) else (J38_20))))
def b_X0_coursesWith_5 (N : Nat) (σ : uS) (p1 : Int32) (p2 : Int32) (J81_2 : Int32 → Option Int32) (rec5_5 : Int32 → Int32 → Option Int32) (x3 : Int32) (x4 : Int32) : Option Int32 :=
  if p1 ≤ x4 then (J81_2 x3) else (u_jn (fun (x6 : Int32) => (u_jn (x4 + 1 : Int32) fun x8 =>
  rec5_5 x6 x8 : Option Int32)) fun J75_7 =>
  u_lp2 (b_X0_coursesWith_15 N σ p1 p2 x4 J75_7) N x3 x4)
def f_X0_coursesWith (N : Nat) (σ : uS) (p1 : Int32) (p2 : Int32) : Option Int32 := u_jn (fun (x1 : Int32) => (some x1 : Option Int32)) fun J81_2 =>
  u_lp2 (b_X0_coursesWith_5 N σ p1 p2 J81_2) N 0 0
set_option maxRecDepth 100000 in
set_option maxHeartbeats 4000000 in
theorem c_X0_coursesWith (l : Launch) (G : uG) (N : Nat) (σ : uS) (p1 : Int32) (p2 : Int32) (z : Int32) (hz : f_X0_coursesWith N σ p1 p2 = some z) : u_Mi l ZC G yX0_coursesWith cX0_coursesWith 7 .int 1 [.ref (G.2.2 8), .int p1, .int p2] σ z σ := by
  refine u_Mi_of RX0 (by decide) rfl (Nat.le_of_ble_eq_true rfl) ?_
  intro p e s m args below meth c ls cx hw hl
  have hx := cx.1
  have hb := cx.2.1
  have hl : lv_has ls 7 [(0, .ref (G.2.2 8)), (1, .int p1), (2, .int p2)] := hl
  unfold f_X0_coursesWith at hz
  refine lv_iconst (v := 0) hx hb dX0_coursesWith_0 (by decide) ?_
  refine lv_istore_n (lv' := [(3, .int 0), (0, .ref (G.2.2 8)), (1, .int p1), (2, .int p2)]) hx hb dX0_coursesWith_1 rfl hl (by decide) rfl (fun ls hl => ?_)
  refine lv_iconst (v := 0) hx hb dX0_coursesWith_2 (by decide) ?_
  refine lv_istore (lv' := [(4, .int 0), (3, .int 0), (0, .ref (G.2.2 8)), (1, .int p1), (2, .int p2)]) hx hb dX0_coursesWith_3 hl (by decide) rfl (fun ls hl => ?_)
  obtain ⟨J81_2, eJ81_2, hz⟩ := u_let hz
  have WJ81_2 : ∀ (x1 : Int32) (H : Heap) (locs : List Loc) (ls : Array Slot), J81_2 x1 = some z → u_W ZC G σ s H locs → lv_has ls 7 [(3, .int x1)] → W p l e (u_rm 1) s m args below meth c H locs 0 0 (u_Qi below ZC G s args z σ) (F0 m 81 ls []) := by
    intro x1 H locs ls hz hw hl
    rw [eJ81_2] at hz
    refine lv_iload_n hx hb dX0_coursesWith_81 rfl (lv_at hl 0 rfl) ?_
    exact u_iret cx hw ⟨Option.some.inj hz, rfl⟩ dX0_coursesWith_82
  have WL5_21 : ∀ (k : Nat) (x3 : Int32) (x4 : Int32) (H : Heap) (locs : List Loc) (ls : Array Slot), u_lp2 (b_X0_coursesWith_5 N σ p1 p2 J81_2) k x3 x4 = some z → u_W ZC G σ s H locs → lv_has ls 7 [(0, .ref (G.2.2 8)), (1, .int p1), (2, .int p2), (3, .int x3), (4, .int x4)] → W p l e (u_rm 1) s m args below meth c H locs 0 0 (u_Qi below ZC G s args z σ) (F0 m 5 ls []) := by
    intro k
    induction k with
    | zero =>
      intro x3 x4 H locs ls hz
      exact absurd hz (by intro h9; cases h9)
    | succ k ih5_5 =>
      intro x3 x4 H locs ls hz hw hl
      have hz : (b_X0_coursesWith_5 N σ p1 p2 J81_2) (u_lp2 (b_X0_coursesWith_5 N σ p1 p2 J81_2) k) x3 x4 = some z := hz
      unfold b_X0_coursesWith_5 at hz
      refine lv_iload hx hb dX0_coursesWith_5 (lv_at hl 4 rfl) ?_
      refine lv_iload_n hx hb dX0_coursesWith_7 rfl (lv_at hl 1 rfl) ?_
      refine lv_icmp_ge (tgt := 81) hx hb dX0_coursesWith_8 (by decide) (fun hc => ?_) (fun hc => ?_)
      · replace hz := u_ift hz hc
        exact WJ81_2 x3 _ _ _ hz hw (lv_sub hl [3] rfl)
      · replace hz := u_iff hz hc
        refine lv_iload hx hb dX0_coursesWith_11 (lv_at hl 4 rfl) ?_
        refine lv_istore (lv' := [(5, .int x4), (0, .ref (G.2.2 8)), (1, .int p1), (2, .int p2), (3, .int x3), (4, .int x4)]) hx hb dX0_coursesWith_13 hl (by decide) rfl (fun ls hl => ?_)
        obtain ⟨J75_7, eJ75_7, hz⟩ := u_let hz
        have WJ75_7 : ∀ (x6 : Int32) (H : Heap) (locs : List Loc) (ls : Array Slot), J75_7 x6 = some z → u_W ZC G σ s H locs → lv_has ls 7 [(0, .ref (G.2.2 8)), (1, .int p1), (2, .int p2), (3, .int x6), (4, .int x4)] → W p l e (u_rm 1) s m args below meth c H locs 0 0 (u_Qi below ZC G s args z σ) (F0 m 75 ls []) := by
          intro x6 H locs ls hz hw hl
          rw [eJ75_7] at hz
          obtain ⟨x8, ex8, hz⟩ := u_let hz
          refine lv_iinc (v := x8) (lv' := [(4, .int x8), (0, .ref (G.2.2 8)), (1, .int p1), (2, .int p2), (3, .int x6)]) hx hb dX0_coursesWith_75 hl (k := 4) rfl (by rw [ex8]; rfl) (by decide) rfl (fun ls hl => ?_)
          refine lv_goto (tgt := 5) hx hb dX0_coursesWith_78 (by decide) ?_
          exact ih5_5 x6 x8 _ _ _ hz hw (lv_sub hl [1, 2, 3, 4, 0] rfl)
        have WL15_21 : ∀ (k : Nat) (x9 : Int32) (x10 : Int32) (H : Heap) (locs : List Loc) (ls : Array Slot), u_lp2 (b_X0_coursesWith_15 N σ p1 p2 x4 J75_7) k x9 x10 = some z → u_W ZC G σ s H locs → lv_has ls 7 [(0, .ref (G.2.2 8)), (1, .int p1), (2, .int p2), (3, .int x9), (4, .int x4), (5, .int x10)] → W p l e (u_rm 1) s m args below meth c H locs 0 0 (u_Qi below ZC G s args z σ) (F0 m 15 ls []) := by
          intro k
          induction k with
          | zero =>
            intro x9 x10 H locs ls hz
            exact absurd hz (by intro h9; cases h9)
          | succ k ih15_11 =>
            intro x9 x10 H locs ls hz hw hl
            have hz : (b_X0_coursesWith_15 N σ p1 p2 x4 J75_7) (u_lp2 (b_X0_coursesWith_15 N σ p1 p2 x4 J75_7) k) x9 x10 = some z := hz
            unfold b_X0_coursesWith_15 at hz
            refine lv_iload hx hb dX0_coursesWith_15 (lv_at hl 5 rfl) ?_
            refine lv_iload_n hx hb dX0_coursesWith_17 rfl (lv_at hl 1 rfl) ?_
            refine lv_icmp_ge (tgt := 75) hx hb dX0_coursesWith_18 (by decide) (fun hc => ?_) (fun hc => ?_)
            · replace hz := u_ift hz hc
              exact WJ75_7 x9 _ _ _ hz hw (lv_sub hl [0, 1, 2, 3, 4] rfl)
            · replace hz := u_iff hz hc
              refine lv_iload_n hx hb dX0_coursesWith_21 rfl (lv_at hl 2 rfl) ?_
              refine lv_iconst (v := (-1)) hx hb dX0_coursesWith_22 (by decide) ?_
              obtain ⟨J43_13, eJ43_13, hz⟩ := u_let hz
              have WJ43_13 : ∀ (t12 : Int32) (H : Heap) (locs : List Loc) (ls : Array Slot), J43_13 t12 = some z → u_W ZC G σ s H locs → lv_has ls 7 [(0, .ref (G.2.2 8)), (1, .int p1), (2, .int p2), (3, .int x9), (4, .int x4), (5, .int x10)] → W p l e (u_rm 1) s m args below meth c H locs 0 0 (u_Qi below ZC G s args z σ) (F0 m 43 ls [.int t12]) := by
                intro t12 H locs ls hz hw hl
                rw [eJ43_13] at hz
                refine lv_istore (lv' := [(6, .int t12), (0, .ref (G.2.2 8)), (1, .int p1), (2, .int p2), (3, .int x9), (4, .int x4), (5, .int x10)]) hx hb dX0_coursesWith_43 hl (by decide) rfl (fun ls hl => ?_)
                refine lv_iload_n hx hb dX0_coursesWith_45 rfl (lv_at hl 4 rfl) ?_
                refine lv_iload hx hb dX0_coursesWith_46 (lv_at hl 0 rfl) ?_
                obtain ⟨J67_15, eJ67_15, hz⟩ := u_let hz
                have WJ67_15 : ∀ (t14 : Int32) (H : Heap) (locs : List Loc) (ls : Array Slot), J67_15 t14 = some z → u_W ZC G σ s H locs → lv_has ls 7 [(0, .ref (G.2.2 8)), (1, .int p1), (2, .int p2), (4, .int x4), (5, .int x10)] → W p l e (u_rm 1) s m args below meth c H locs 0 0 (u_Qi below ZC G s args z σ) (F0 m 67 ls [.int t14, .int x9]) := by
                  intro t14 H locs ls hz hw hl
                  rw [eJ67_15] at hz
                  refine lv_iadd hx hb dX0_coursesWith_67 ?_
                  obtain ⟨x16, ex16, hz⟩ := u_let hz
                  refine u_topi ex16 ?_
                  refine lv_istore_n (lv' := [(3, .int x16), (0, .ref (G.2.2 8)), (1, .int p1), (2, .int p2), (4, .int x4), (5, .int x10)]) hx hb dX0_coursesWith_68 rfl hl (by decide) rfl (fun ls hl => ?_)
                  obtain ⟨x17, ex17, hz⟩ := u_let hz
                  refine lv_iinc (v := x17) (lv' := [(5, .int x17), (3, .int x16), (0, .ref (G.2.2 8)), (1, .int p1), (2, .int p2), (4, .int x4)]) hx hb dX0_coursesWith_69 hl (k := 5) rfl (by rw [ex17]; rfl) (by decide) rfl (fun ls hl => ?_)
                  refine lv_goto (tgt := 15) hx hb dX0_coursesWith_72 (by decide) ?_
                  exact ih15_11 x16 x17 _ _ _ hz hw (lv_sub hl [2, 3, 4, 1, 5, 0] rfl)
                obtain ⟨J66_18, eJ66_18, hz⟩ := u_let hz
                have WJ66_18 : ∀ (H : Heap) (locs : List Loc) (ls : Array Slot), J66_18 = some z → u_W ZC G σ s H locs → lv_has ls 7 [(0, .ref (G.2.2 8)), (1, .int p1), (2, .int p2), (4, .int x4), (5, .int x10)] → W p l e (u_rm 1) s m args below meth c H locs 0 0 (u_Qi below ZC G s args z σ) (F0 m 66 ls [.int x9]) := by
                  intro H locs ls hz hw hl
                  rw [eJ66_18] at hz
                  refine lv_iconst (v := 0) hx hb dX0_coursesWith_66 (by decide) ?_
                  exact WJ67_15 0 _ _ _ hz hw (lv_sub hl [0, 1, 2, 3, 4] rfl)
                refine lv_if_eq (tgt := 66) hx hb dX0_coursesWith_48 (by decide) (fun hc => ?_) (fun hc => ?_)
                · replace hz := u_ift hz hc
                  exact WJ66_18 _ _ _ hz hw (lv_sub hl [1, 2, 3, 5, 6] rfl)
                · replace hz := u_iff hz hc
                  refine lv_aload_n hx hb dX0_coursesWith_51 rfl (lv_at hl 1 rfl) ?_
                  refine lv_iload hx hb dX0_coursesWith_52 (lv_at hl 5 rfl) ?_
                  refine lv_iload hx hb dX0_coursesWith_54 (lv_at hl 6 rfl) ?_
                  obtain ⟨v19, hv19, hz⟩ := u_bind hz
                  refine u_callVi (As := [.int x4, .int x10]) (rest := [.int x9]) cx hw LV_X0_19 (c_X0_fit l G N σ x4 x10 v19 hv19) o_X0 rfl (by decide) hl.1 rfl (Nat.le_of_ble_eq_true rfl) dX0_coursesWith_56 rfl (fun H locs hw => ?_)
                  refine lv_if_eq (tgt := 66) hx hb dX0_coursesWith_59 (by decide) (fun hc => ?_) (fun hc => ?_)
                  · replace hz := u_ift hz hc
                    exact WJ66_18 _ _ _ hz hw (lv_sub hl [1, 2, 3, 5, 6] rfl)
                  · replace hz := u_iff hz hc
                    refine lv_iconst (v := 1) hx hb dX0_coursesWith_62 (by decide) ?_
                    refine lv_goto (tgt := 67) hx hb dX0_coursesWith_63 (by decide) ?_
                    exact WJ67_15 1 _ _ _ hz hw (lv_sub hl [1, 2, 3, 5, 6] rfl)
              obtain ⟨J38_20, eJ38_20, hz⟩ := u_let hz
              have WJ38_20 : ∀ (H : Heap) (locs : List Loc) (ls : Array Slot), J38_20 = some z → u_W ZC G σ s H locs → lv_has ls 7 [(0, .ref (G.2.2 8)), (1, .int p1), (2, .int p2), (3, .int x9), (4, .int x4), (5, .int x10)] → W p l e (u_rm 1) s m args below meth c H locs 0 0 (u_Qi below ZC G s args z σ) (F0 m 38 ls []) := by
                intro H locs ls hz hw hl
                rw [eJ38_20] at hz
                refine lv_iconst (v := 1) hx hb dX0_coursesWith_38 (by decide) ?_
                refine lv_goto (tgt := 43) hx hb dX0_coursesWith_39 (by decide) ?_
                exact WJ43_13 1 _ _ _ hz hw (lv_sub hl [0, 1, 2, 3, 4, 5] rfl)
              refine lv_icmp_eq (tgt := 38) hx hb dX0_coursesWith_23 (by decide) (fun hc => ?_) (fun hc => ?_)
              · replace hz := u_ift hz hc
                exact WJ38_20 _ _ _ hz hw (lv_sub hl [0, 1, 2, 3, 4, 5] rfl)
              · replace hz := u_iff hz hc
                refine lv_iload_n hx hb dX0_coursesWith_26 rfl (lv_at hl 2 rfl) ?_
                refine lv_iload hx hb dX0_coursesWith_27 (lv_at hl 4 rfl) ?_
                obtain ⟨J42_21, eJ42_21, hz⟩ := u_let hz
                have WJ42_21 : ∀ (H : Heap) (locs : List Loc) (ls : Array Slot), J42_21 = some z → u_W ZC G σ s H locs → lv_has ls 7 [(0, .ref (G.2.2 8)), (1, .int p1), (2, .int p2), (3, .int x9), (4, .int x4), (5, .int x10)] → W p l e (u_rm 1) s m args below meth c H locs 0 0 (u_Qi below ZC G s args z σ) (F0 m 42 ls []) := by
                  intro H locs ls hz hw hl
                  rw [eJ42_21] at hz
                  refine lv_iconst (v := 0) hx hb dX0_coursesWith_42 (by decide) ?_
                  exact WJ43_13 0 _ _ _ hz hw (lv_sub hl [0, 1, 2, 3, 4, 5] rfl)
                refine lv_icmp_lt (tgt := 42) hx hb dX0_coursesWith_29 (by decide) (fun hc => ?_) (fun hc => ?_)
                · replace hz := u_ift hz hc
                  exact WJ42_21 _ _ _ hz hw (lv_sub hl [0, 1, 2, 3, 4, 5] rfl)
                · replace hz := u_iff hz hc
                  refine lv_iload_n hx hb dX0_coursesWith_32 rfl (lv_at hl 2 rfl) ?_
                  refine lv_iload hx hb dX0_coursesWith_33 (lv_at hl 5 rfl) ?_
                  refine lv_icmp_gt (tgt := 42) hx hb dX0_coursesWith_35 (by decide) (fun hc => ?_) (fun hc => ?_)
                  · replace hz := u_ift hz hc
                    exact WJ42_21 _ _ _ hz hw (lv_sub hl [0, 1, 2, 3, 4, 5] rfl)
                  · replace hz := u_iff hz hc
                    exact WJ38_20 _ _ _ hz hw (lv_sub hl [0, 1, 2, 3, 4, 5] rfl)
        exact WL15_21 N x3 x4 _ _ _ hz hw (lv_sub hl [1, 2, 3, 4, 5, 0] rfl)
  exact WL5_21 N 0 0 _ _ _ hz hw (lv_sub hl [2, 3, 4, 1, 0] rfl)
theorem dX1_draw_0 : decode cX1_draw 0 = .ok (.aload_n 0, 1) := by decide +kernel
theorem dX1_draw_1 : decode cX1_draw 1 = .ok (.aload_n 0, 1) := by decide +kernel
theorem dX1_draw_2 : decode cX1_draw 2 = .ok (.getfield 7, 3) := by decide +kernel
theorem dX1_draw_5 : decode cX1_draw 5 = .ok (.ldc 13, 2) := by decide +kernel
theorem dX1_draw_7 : decode cX1_draw 7 = .ok (.imul, 1) := by decide +kernel
theorem dX1_draw_8 : decode cX1_draw 8 = .ok (.sipush 12345, 3) := by decide +kernel
theorem dX1_draw_11 : decode cX1_draw 11 = .ok (.iadd, 1) := by decide +kernel
theorem dX1_draw_12 : decode cX1_draw 12 = .ok (.putfield 7, 3) := by decide +kernel
theorem dX1_draw_15 : decode cX1_draw 15 = .ok (.iload_n 1, 1) := by decide +kernel
theorem dX1_draw_16 : decode cX1_draw 16 = .ok (.ifCond .le 15, 3) := by decide +kernel
theorem dX1_draw_19 : decode cX1_draw 19 = .ok (.aload_n 0, 1) := by decide +kernel
theorem dX1_draw_20 : decode cX1_draw 20 = .ok (.getfield 7, 3) := by decide +kernel
theorem dX1_draw_23 : decode cX1_draw 23 = .ok (.bipush 16, 2) := by decide +kernel
theorem dX1_draw_25 : decode cX1_draw 25 = .ok (.iushr, 1) := by decide +kernel
theorem dX1_draw_26 : decode cX1_draw 26 = .ok (.iload_n 1, 1) := by decide +kernel
theorem dX1_draw_27 : decode cX1_draw 27 = .ok (.irem, 1) := by decide +kernel
theorem dX1_draw_28 : decode cX1_draw 28 = .ok (.goto 4, 3) := by decide +kernel
theorem dX1_draw_31 : decode cX1_draw 31 = .ok (.iconst 0, 1) := by decide +kernel
theorem dX1_draw_32 : decode cX1_draw 32 = .ok (.ireturn, 1) := by decide +kernel
def f_X1_draw (N : Nat) (σ : uS) (p1 : Int32) : Option (Int32 × uS) := u_jn (u_pI σ 21 0 (((σ.1 21 0) * 1103515245) + 12345)) fun s1 =>
  if p1 ≤ 0 then (some (0, s1)) else (u_ck (¬ (p1 : Int32) = 0) <|
  some (((u_ushr (s1.1 21 0) 16) - (u_ushr (s1.1 21 0) 16) / p1 * p1), s1))
set_option maxRecDepth 100000 in
set_option maxHeartbeats 4000000 in
theorem c_X1_draw (l : Launch) (G : uG) (N : Nat) (σ : uS) (p1 : Int32) (z : (Int32 × uS)) (hz : f_X1_draw N σ p1 = some z) : u_Mi l ZC G yX1_draw cX1_draw 2 .int 0 [.ref (G.2.2 21), .int p1] σ z.1 z.2 := by
  refine u_Mi_of RX1 (by decide) rfl (Nat.le_of_ble_eq_true rfl) ?_
  intro p e s m args below meth c ls cx hw hl
  have hx := cx.1
  have hb := cx.2.1
  have hl : lv_has ls 2 [(0, .ref (G.2.2 21)), (1, .int p1)] := hl
  unfold f_X1_draw at hz
  refine lv_aload_n hx hb dX1_draw_0 rfl (lv_at hl 0 rfl) ?_
  refine lv_aload_n hx hb dX1_draw_1 rfl (lv_at hl 0 rfl) ?_
  refine u_geti cx hw F_X1_7 o_X1 rfl dX1_draw_2 ?_
  refine u_ldc cx q_968 dX1_draw_5 ?_
  refine lv_imul hx hb dX1_draw_7 ?_
  refine lv_sipush (v := 12345) hx hb dX1_draw_8 (by decide) ?_
  refine lv_iadd hx hb dX1_draw_11 ?_
  obtain ⟨s1, es1, hz⟩ := u_let hz
  refine u_puti2 cx hw P_X1_7 o_X1 rfl es1 dX1_draw_12 (fun H locs hw => ?_)
  refine lv_iload_n hx hb dX1_draw_15 rfl (lv_at hl 1 rfl) ?_
  refine lv_if_le (tgt := 31) hx hb dX1_draw_16 (by decide) (fun hc => ?_) (fun hc => ?_)
  · replace hz := u_ift hz hc
    refine lv_iconst (v := 0) hx hb dX1_draw_31 (by decide) ?_
    exact u_iret cx hw (u_pair hz) dX1_draw_32
  · replace hz := u_iff hz hc
    refine lv_aload_n hx hb dX1_draw_19 rfl (lv_at hl 0 rfl) ?_
    refine u_geti cx hw F_X1_7 o_X1 rfl dX1_draw_20 ?_
    refine lv_bipush (v := 16) hx hb dX1_draw_23 (by decide) ?_
    refine lv_iushr (v := (u_ushr (s1.1 21 0) 16)) hx hb dX1_draw_25 rfl ?_
    refine lv_iload_n hx hb dX1_draw_26 rfl (lv_at hl 1 rfl) ?_
    obtain ⟨hne, hz⟩ := u_ck_some hz
    refine lv_irem hx hb dX1_draw_27 hne ?_
    refine lv_goto (tgt := 32) hx hb dX1_draw_28 (by decide) ?_
    exact u_iret cx hw (u_pair hz) dX1_draw_32
theorem dX2_begin_0 : decode cX2_begin 0 = .ok (.aload_n 0, 1) := by decide +kernel
theorem dX2_begin_1 : decode cX2_begin 1 = .ok (.iconst 0, 1) := by decide +kernel
theorem dX2_begin_2 : decode cX2_begin 2 = .ok (.putfield 15, 3) := by decide +kernel
theorem dX2_begin_5 : decode cX2_begin 5 = .ok (.return_, 1) := by decide +kernel
def f_X2_begin (N : Nat) (σ : uS) : Option uS := u_jn (u_pI σ 9 1 0) fun s1 =>
  some s1
set_option maxRecDepth 100000 in
set_option maxHeartbeats 4000000 in
theorem c_X2_begin (l : Launch) (G : uG) (N : Nat) (σ : uS) (z : uS) (hz : f_X2_begin N σ = some z) : u_Mv l ZC G yX2_begin cX2_begin 1 0 [.ref (G.2.2 9)] σ z := by
  refine u_Mv_of RX2 (by decide) rfl (Nat.le_of_ble_eq_true rfl) ?_
  intro p e s m args below meth c ls cx hw hl
  have hx := cx.1
  have hb := cx.2.1
  have hl : lv_has ls 1 [(0, .ref (G.2.2 9))] := hl
  unfold f_X2_begin at hz
  refine lv_aload_n hx hb dX2_begin_0 rfl (lv_at hl 0 rfl) ?_
  refine lv_iconst (v := 0) hx hb dX2_begin_1 (by decide) ?_
  obtain ⟨s1, es1, hz⟩ := u_let hz
  refine u_puti2 cx hw P_X2_15 o_X2 rfl es1 dX2_begin_2 (fun H locs hw => ?_)
  exact u_vret cx hw (Option.some.inj hz) dX2_begin_5
theorem dX2_takesEnd_0 : decode cX2_takesEnd 0 = .ok (.aload_n 0, 1) := by decide +kernel
theorem dX2_takesEnd_1 : decode cX2_takesEnd 1 = .ok (.getfield 15, 3) := by decide +kernel
theorem dX2_takesEnd_4 : decode cX2_takesEnd 4 = .ok (.ifCond .le 7, 3) := by decide +kernel
theorem dX2_takesEnd_7 : decode cX2_takesEnd 7 = .ok (.iconst 1, 1) := by decide +kernel
theorem dX2_takesEnd_8 : decode cX2_takesEnd 8 = .ok (.goto 4, 3) := by decide +kernel
theorem dX2_takesEnd_11 : decode cX2_takesEnd 11 = .ok (.iconst 0, 1) := by decide +kernel
theorem dX2_takesEnd_12 : decode cX2_takesEnd 12 = .ok (.ireturn, 1) := by decide +kernel
def f_X2_takesEnd (N : Nat) (σ : uS) : Option Int32 := if (σ.1 9 1) ≤ 0 then (some 0) else (some 1)
set_option maxRecDepth 100000 in
set_option maxHeartbeats 4000000 in
theorem c_X2_takesEnd (l : Launch) (G : uG) (N : Nat) (σ : uS) (z : Int32) (hz : f_X2_takesEnd N σ = some z) : u_Mi l ZC G yX2_takesEnd cX2_takesEnd 1 .boolean 0 [.ref (G.2.2 9)] σ z σ := by
  refine u_Mi_of RX2 (by decide) rfl (Nat.le_of_ble_eq_true rfl) ?_
  intro p e s m args below meth c ls cx hw hl
  have hx := cx.1
  have hb := cx.2.1
  have hl : lv_has ls 1 [(0, .ref (G.2.2 9))] := hl
  unfold f_X2_takesEnd at hz
  refine lv_aload_n hx hb dX2_takesEnd_0 rfl (lv_at hl 0 rfl) ?_
  refine u_geti cx hw F_X2_15 o_X2 rfl dX2_takesEnd_1 ?_
  refine lv_if_le (tgt := 11) hx hb dX2_takesEnd_4 (by decide) (fun hc => ?_) (fun hc => ?_)
  · replace hz := u_ift hz hc
    refine lv_iconst (v := 0) hx hb dX2_takesEnd_11 (by decide) ?_
    exact u_zret cx hw (Or.inl rfl) ⟨Option.some.inj hz, rfl⟩ dX2_takesEnd_12
  · replace hz := u_iff hz hc
    refine lv_iconst (v := 1) hx hb dX2_takesEnd_7 (by decide) ?_
    refine lv_goto (tgt := 12) hx hb dX2_takesEnd_8 (by decide) ?_
    exact u_zret cx hw (Or.inr rfl) ⟨Option.some.inj hz, rfl⟩ dX2_takesEnd_12
theorem dX3_clear_0 : decode cX3_clear 0 = .ok (.aload_n 0, 1) := by decide +kernel
theorem dX3_clear_1 : decode cX3_clear 1 = .ok (.iconst 0, 1) := by decide +kernel
theorem dX3_clear_2 : decode cX3_clear 2 = .ok (.putfield 21, 3) := by decide +kernel
theorem dX3_clear_5 : decode cX3_clear 5 = .ok (.aload_n 0, 1) := by decide +kernel
theorem dX3_clear_6 : decode cX3_clear 6 = .ok (.iconst 0, 1) := by decide +kernel
theorem dX3_clear_7 : decode cX3_clear 7 = .ok (.putfield 25, 3) := by decide +kernel
theorem dX3_clear_10 : decode cX3_clear 10 = .ok (.return_, 1) := by decide +kernel
def f_X3_clear (N : Nat) (σ : uS) : Option uS := u_jn (u_pI σ 5 2 0) fun s1 =>
  u_jn (u_pI s1 5 3 0) fun s2 =>
  some s2
set_option maxRecDepth 100000 in
set_option maxHeartbeats 4000000 in
theorem c_X3_clear (l : Launch) (G : uG) (N : Nat) (σ : uS) (z : uS) (hz : f_X3_clear N σ = some z) : u_Mv l ZC G yX3_clear cX3_clear 1 0 [.ref (G.2.2 5)] σ z := by
  refine u_Mv_of RX3 (by decide) rfl (Nat.le_of_ble_eq_true rfl) ?_
  intro p e s m args below meth c ls cx hw hl
  have hx := cx.1
  have hb := cx.2.1
  have hl : lv_has ls 1 [(0, .ref (G.2.2 5))] := hl
  unfold f_X3_clear at hz
  refine lv_aload_n hx hb dX3_clear_0 rfl (lv_at hl 0 rfl) ?_
  refine lv_iconst (v := 0) hx hb dX3_clear_1 (by decide) ?_
  obtain ⟨s1, es1, hz⟩ := u_let hz
  refine u_puti2 cx hw P_X3_21 o_X3 rfl es1 dX3_clear_2 (fun H locs hw => ?_)
  refine lv_aload_n hx hb dX3_clear_5 rfl (lv_at hl 0 rfl) ?_
  refine lv_iconst (v := 0) hx hb dX3_clear_6 (by decide) ?_
  obtain ⟨s2, es2, hz⟩ := u_let hz
  refine u_puti2 cx hw P_X3_25 o_X3 rfl es2 dX3_clear_7 (fun H locs hw => ?_)
  exact u_vret cx hw (Option.some.inj hz) dX3_clear_10
theorem dX3_dropEldest_0 : decode cX3_dropEldest 0 = .ok (.aload_n 0, 1) := by decide +kernel
theorem dX3_dropEldest_1 : decode cX3_dropEldest 1 = .ok (.getfield 11, 3) := by decide +kernel
theorem dX3_dropEldest_4 : decode cX3_dropEldest 4 = .ok (.iconst 0, 1) := by decide +kernel
theorem dX3_dropEldest_5 : decode cX3_dropEldest 5 = .ok (.aaload, 1) := by decide +kernel
theorem dX3_dropEldest_6 : decode cX3_dropEldest 6 = .ok (.astore_n 1, 1) := by decide +kernel
theorem dX3_dropEldest_7 : decode cX3_dropEldest 7 = .ok (.iconst 1, 1) := by decide +kernel
theorem dX3_dropEldest_8 : decode cX3_dropEldest 8 = .ok (.istore_n 2, 1) := by decide +kernel
theorem dX3_dropEldest_9 : decode cX3_dropEldest 9 = .ok (.iload_n 2, 1) := by decide +kernel
theorem dX3_dropEldest_10 : decode cX3_dropEldest 10 = .ok (.aload_n 0, 1) := by decide +kernel
theorem dX3_dropEldest_11 : decode cX3_dropEldest 11 = .ok (.getfield 11, 3) := by decide +kernel
theorem dX3_dropEldest_14 : decode cX3_dropEldest 14 = .ok (.arraylength, 1) := by decide +kernel
theorem dX3_dropEldest_15 : decode cX3_dropEldest 15 = .ok (.if_icmp .ge 23, 3) := by decide +kernel
theorem dX3_dropEldest_18 : decode cX3_dropEldest 18 = .ok (.aload_n 0, 1) := by decide +kernel
theorem dX3_dropEldest_19 : decode cX3_dropEldest 19 = .ok (.getfield 11, 3) := by decide +kernel
theorem dX3_dropEldest_22 : decode cX3_dropEldest 22 = .ok (.iload_n 2, 1) := by decide +kernel
theorem dX3_dropEldest_23 : decode cX3_dropEldest 23 = .ok (.iconst 1, 1) := by decide +kernel
theorem dX3_dropEldest_24 : decode cX3_dropEldest 24 = .ok (.isub, 1) := by decide +kernel
theorem dX3_dropEldest_25 : decode cX3_dropEldest 25 = .ok (.aload_n 0, 1) := by decide +kernel
theorem dX3_dropEldest_26 : decode cX3_dropEldest 26 = .ok (.getfield 11, 3) := by decide +kernel
theorem dX3_dropEldest_29 : decode cX3_dropEldest 29 = .ok (.iload_n 2, 1) := by decide +kernel
theorem dX3_dropEldest_30 : decode cX3_dropEldest 30 = .ok (.aaload, 1) := by decide +kernel
theorem dX3_dropEldest_31 : decode cX3_dropEldest 31 = .ok (.aastore, 1) := by decide +kernel
theorem dX3_dropEldest_32 : decode cX3_dropEldest 32 = .ok (.iinc 2 1, 3) := by decide +kernel
theorem dX3_dropEldest_35 : decode cX3_dropEldest 35 = .ok (.goto (-26), 3) := by decide +kernel
theorem dX3_dropEldest_38 : decode cX3_dropEldest 38 = .ok (.aload_n 0, 1) := by decide +kernel
theorem dX3_dropEldest_39 : decode cX3_dropEldest 39 = .ok (.getfield 11, 3) := by decide +kernel
theorem dX3_dropEldest_42 : decode cX3_dropEldest 42 = .ok (.aload_n 0, 1) := by decide +kernel
theorem dX3_dropEldest_43 : decode cX3_dropEldest 43 = .ok (.getfield 11, 3) := by decide +kernel
theorem dX3_dropEldest_46 : decode cX3_dropEldest 46 = .ok (.arraylength, 1) := by decide +kernel
theorem dX3_dropEldest_47 : decode cX3_dropEldest 47 = .ok (.iconst 1, 1) := by decide +kernel
theorem dX3_dropEldest_48 : decode cX3_dropEldest 48 = .ok (.isub, 1) := by decide +kernel
theorem dX3_dropEldest_49 : decode cX3_dropEldest 49 = .ok (.aload_n 1, 1) := by decide +kernel
theorem dX3_dropEldest_50 : decode cX3_dropEldest 50 = .ok (.aastore, 1) := by decide +kernel
theorem dX3_dropEldest_51 : decode cX3_dropEldest 51 = .ok (.aload_n 0, 1) := by decide +kernel
theorem dX3_dropEldest_52 : decode cX3_dropEldest 52 = .ok (.aload_n 0, 1) := by decide +kernel
theorem dX3_dropEldest_53 : decode cX3_dropEldest 53 = .ok (.getfield 11, 3) := by decide +kernel
theorem dX3_dropEldest_56 : decode cX3_dropEldest 56 = .ok (.arraylength, 1) := by decide +kernel
theorem dX3_dropEldest_57 : decode cX3_dropEldest 57 = .ok (.iconst 1, 1) := by decide +kernel
theorem dX3_dropEldest_58 : decode cX3_dropEldest 58 = .ok (.isub, 1) := by decide +kernel
theorem dX3_dropEldest_59 : decode cX3_dropEldest 59 = .ok (.putfield 21, 3) := by decide +kernel
theorem dX3_dropEldest_62 : decode cX3_dropEldest 62 = .ok (.return_, 1) := by decide +kernel
def b_X3_dropEldest_9 (J38_3 : uS → Option uS) (rec9_10 : uS → Int32 → Option uS) (s8 : uS) (x9 : Int32) : Option uS :=
  (u_len ZC 6).bind fun v11 =>
  if v11 ≤ x9 then (J38_3 s8) else ((u_rR ZC s8 6 x9).bind fun v12 =>
  u_ck (isS v12) <|
  (u_wR ZC s8 6 (x9 - 1) v12).bind fun s13 =>
  u_jn (x9 + 1 : Int32) fun x14 =>
  rec9_10 s13 x14)
def f_X3_dropEldest (N : Nat) (σ : uS) : Option uS := (u_rR ZC σ 6 0).bind fun v1 =>
  u_ck (isS v1) <|
  u_jn (fun (s2 : uS) => ((u_len ZC 6).bind fun v4 =>
  (u_wR ZC s2 6 (v4 - 1) v1).bind fun s5 =>
  (u_len ZC 6).bind fun v6 =>
  u_jn (u_pI s5 5 2 (v6 - 1)) fun s7 =>
  some s7 : Option uS)) fun J38_3 =>
  u_lp2 (b_X3_dropEldest_9 J38_3) N σ 1
set_option maxRecDepth 100000 in
set_option maxHeartbeats 4000000 in
theorem c_X3_dropEldest (l : Launch) (G : uG) (N : Nat) (σ : uS) (z : uS) (hz : f_X3_dropEldest N σ = some z) : u_Mv l ZC G yX3_dropEldest cX3_dropEldest 3 0 [.ref (G.2.2 5)] σ z := by
  refine u_Mv_of RX3 (by decide) rfl (Nat.le_of_ble_eq_true rfl) ?_
  intro p e s m args below meth c ls cx hw hl
  have hx := cx.1
  have hb := cx.2.1
  have hl : lv_has ls 3 [(0, .ref (G.2.2 5))] := hl
  unfold f_X3_dropEldest at hz
  refine lv_aload_n hx hb dX3_dropEldest_0 rfl (lv_at hl 0 rfl) ?_
  refine u_getp cx hw F_X3_11 o_X3 rfl dX3_dropEldest_1 ?_
  refine lv_iconst (v := 0) hx hb dX3_dropEldest_4 (by decide) ?_
  obtain ⟨v1, hv1, hz⟩ := u_bind hz
  obtain ⟨qv1, hz⟩ := u_ck_some hz
  refine u_aald cx hw hv1 dX3_dropEldest_5 ?_
  refine lv_astore_n (lv' := [(1, .ref (G.2.2 v1)), (0, .ref (G.2.2 5))]) hx hb dX3_dropEldest_6 rfl hl (by decide) rfl (fun ls hl => ?_)
  refine lv_iconst (v := 1) hx hb dX3_dropEldest_7 (by decide) ?_
  refine lv_istore_n (lv' := [(2, .int 1), (1, .ref (G.2.2 v1)), (0, .ref (G.2.2 5))]) hx hb dX3_dropEldest_8 rfl hl (by decide) rfl (fun ls hl => ?_)
  obtain ⟨J38_3, eJ38_3, hz⟩ := u_let hz
  have WJ38_3 : ∀ (s2 : uS) (H : Heap) (locs : List Loc) (ls : Array Slot), J38_3 s2 = some z → u_W ZC G s2 s H locs → lv_has ls 3 [(0, .ref (G.2.2 5)), (1, .ref (G.2.2 v1))] → W p l e (u_rm 0) s m args below meth c H locs 0 0 (u_Qv below ZC G s args z) (F0 m 38 ls []) := by
    intro s2 H locs ls hz hw hl
    rw [eJ38_3] at hz
    refine lv_aload_n hx hb dX3_dropEldest_38 rfl (lv_at hl 0 rfl) ?_
    refine u_getp cx hw F_X3_11 o_X3 rfl dX3_dropEldest_39 ?_
    refine lv_aload_n hx hb dX3_dropEldest_42 rfl (lv_at hl 0 rfl) ?_
    refine u_getp cx hw F_X3_11 o_X3 rfl dX3_dropEldest_43 ?_
    obtain ⟨v4, hv4, hz⟩ := u_bind hz
    refine u_alen cx hw hv4 dX3_dropEldest_46 ?_
    refine lv_iconst (v := 1) hx hb dX3_dropEldest_47 (by decide) ?_
    refine lv_isub hx hb dX3_dropEldest_48 ?_
    refine lv_aload_n hx hb dX3_dropEldest_49 rfl (lv_at hl 1 rfl) ?_
    obtain ⟨s5, hs5, hz⟩ := u_bind hz
    refine u_aast cx hw hs5 (o_S qv1) dX3_dropEldest_50 (fun H locs hw => ?_)
    refine lv_aload_n hx hb dX3_dropEldest_51 rfl (lv_at hl 0 rfl) ?_
    refine lv_aload_n hx hb dX3_dropEldest_52 rfl (lv_at hl 0 rfl) ?_
    refine u_getp cx hw F_X3_11 o_X3 rfl dX3_dropEldest_53 ?_
    obtain ⟨v6, hv6, hz⟩ := u_bind hz
    refine u_alen cx hw hv6 dX3_dropEldest_56 ?_
    refine lv_iconst (v := 1) hx hb dX3_dropEldest_57 (by decide) ?_
    refine lv_isub hx hb dX3_dropEldest_58 ?_
    obtain ⟨s7, es7, hz⟩ := u_let hz
    refine u_puti2 cx hw P_X3_21 o_X3 rfl es7 dX3_dropEldest_59 (fun H locs hw => ?_)
    exact u_vret cx hw (Option.some.inj hz) dX3_dropEldest_62
  have WL9_14 : ∀ (k : Nat) (s8 : uS) (x9 : Int32) (H : Heap) (locs : List Loc) (ls : Array Slot), u_lp2 (b_X3_dropEldest_9 J38_3) k s8 x9 = some z → u_W ZC G s8 s H locs → lv_has ls 3 [(0, .ref (G.2.2 5)), (1, .ref (G.2.2 v1)), (2, .int x9)] → W p l e (u_rm 0) s m args below meth c H locs 0 0 (u_Qv below ZC G s args z) (F0 m 9 ls []) := by
    intro k
    induction k with
    | zero =>
      intro s8 x9 H locs ls hz
      exact absurd hz (by intro h9; cases h9)
    | succ k ih9_10 =>
      intro s8 x9 H locs ls hz hw hl
      have hz : (b_X3_dropEldest_9 J38_3) (u_lp2 (b_X3_dropEldest_9 J38_3) k) s8 x9 = some z := hz
      unfold b_X3_dropEldest_9 at hz
      refine lv_iload_n hx hb dX3_dropEldest_9 rfl (lv_at hl 2 rfl) ?_
      refine lv_aload_n hx hb dX3_dropEldest_10 rfl (lv_at hl 0 rfl) ?_
      refine u_getp cx hw F_X3_11 o_X3 rfl dX3_dropEldest_11 ?_
      obtain ⟨v11, hv11, hz⟩ := u_bind hz
      refine u_alen cx hw hv11 dX3_dropEldest_14 ?_
      refine lv_icmp_ge (tgt := 38) hx hb dX3_dropEldest_15 (by decide) (fun hc => ?_) (fun hc => ?_)
      · replace hz := u_ift hz hc
        exact WJ38_3 s8 _ _ _ hz hw (lv_sub hl [0, 1] rfl)
      · replace hz := u_iff hz hc
        refine lv_aload_n hx hb dX3_dropEldest_18 rfl (lv_at hl 0 rfl) ?_
        refine u_getp cx hw F_X3_11 o_X3 rfl dX3_dropEldest_19 ?_
        refine lv_iload_n hx hb dX3_dropEldest_22 rfl (lv_at hl 2 rfl) ?_
        refine lv_iconst (v := 1) hx hb dX3_dropEldest_23 (by decide) ?_
        refine lv_isub hx hb dX3_dropEldest_24 ?_
        refine lv_aload_n hx hb dX3_dropEldest_25 rfl (lv_at hl 0 rfl) ?_
        refine u_getp cx hw F_X3_11 o_X3 rfl dX3_dropEldest_26 ?_
        refine lv_iload_n hx hb dX3_dropEldest_29 rfl (lv_at hl 2 rfl) ?_
        obtain ⟨v12, hv12, hz⟩ := u_bind hz
        obtain ⟨qv12, hz⟩ := u_ck_some hz
        refine u_aald cx hw hv12 dX3_dropEldest_30 ?_
        obtain ⟨s13, hs13, hz⟩ := u_bind hz
        refine u_aast cx hw hs13 (o_S qv12) dX3_dropEldest_31 (fun H locs hw => ?_)
        obtain ⟨x14, ex14, hz⟩ := u_let hz
        refine lv_iinc (v := x14) (lv' := [(2, .int x14), (0, .ref (G.2.2 5)), (1, .ref (G.2.2 v1))]) hx hb dX3_dropEldest_32 hl (k := 2) rfl (by rw [ex14]; rfl) (by decide) rfl (fun ls hl => ?_)
        refine lv_goto (tgt := 9) hx hb dX3_dropEldest_35 (by decide) ?_
        exact ih9_10 s13 x14 _ _ _ hz hw (lv_sub hl [1, 2, 0] rfl)
  exact WL9_14 N σ 1 _ _ _ hz hw (lv_sub hl [2, 1, 0] rfl)
theorem dX4_begin_0 : decode cX4_begin 0 = .ok (.aload_n 0, 1) := by decide +kernel
theorem dX4_begin_1 : decode cX4_begin 1 = .ok (.iload_n 1, 1) := by decide +kernel
theorem dX4_begin_2 : decode cX4_begin 2 = .ok (.putfield 21, 3) := by decide +kernel
theorem dX4_begin_5 : decode cX4_begin 5 = .ok (.aload_n 0, 1) := by decide +kernel
theorem dX4_begin_6 : decode cX4_begin 6 = .ok (.iconst 0, 1) := by decide +kernel
theorem dX4_begin_7 : decode cX4_begin 7 = .ok (.putfield 25, 3) := by decide +kernel
theorem dX4_begin_10 : decode cX4_begin 10 = .ok (.aload_n 0, 1) := by decide +kernel
theorem dX4_begin_11 : decode cX4_begin 11 = .ok (.iconst 0, 1) := by decide +kernel
theorem dX4_begin_12 : decode cX4_begin 12 = .ok (.putfield 28, 3) := by decide +kernel
theorem dX4_begin_15 : decode cX4_begin 15 = .ok (.return_, 1) := by decide +kernel
def f_X4_begin (N : Nat) (σ : uS) (p1 : Int32) : Option uS := u_jn (u_pI σ 11 3 p1) fun s1 =>
  u_jn (u_pI s1 11 4 0) fun s2 =>
  u_jn (u_pI s2 11 5 0) fun s3 =>
  some s3
set_option maxRecDepth 100000 in
set_option maxHeartbeats 4000000 in
theorem c_X4_begin (l : Launch) (G : uG) (N : Nat) (σ : uS) (p1 : Int32) (z : uS) (hz : f_X4_begin N σ p1 = some z) : u_Mv l ZC G yX4_begin cX4_begin 2 0 [.ref (G.2.2 11), .int p1] σ z := by
  refine u_Mv_of RX4 (by decide) rfl (Nat.le_of_ble_eq_true rfl) ?_
  intro p e s m args below meth c ls cx hw hl
  have hx := cx.1
  have hb := cx.2.1
  have hl : lv_has ls 2 [(0, .ref (G.2.2 11)), (1, .int p1)] := hl
  unfold f_X4_begin at hz
  refine lv_aload_n hx hb dX4_begin_0 rfl (lv_at hl 0 rfl) ?_
  refine lv_iload_n hx hb dX4_begin_1 rfl (lv_at hl 1 rfl) ?_
  obtain ⟨s1, es1, hz⟩ := u_let hz
  refine u_puti2 cx hw P_X4_21 o_X4 rfl es1 dX4_begin_2 (fun H locs hw => ?_)
  refine lv_aload_n hx hb dX4_begin_5 rfl (lv_at hl 0 rfl) ?_
  refine lv_iconst (v := 0) hx hb dX4_begin_6 (by decide) ?_
  obtain ⟨s2, es2, hz⟩ := u_let hz
  refine u_puti2 cx hw P_X4_25 o_X4 rfl es2 dX4_begin_7 (fun H locs hw => ?_)
  refine lv_aload_n hx hb dX4_begin_10 rfl (lv_at hl 0 rfl) ?_
  refine lv_iconst (v := 0) hx hb dX4_begin_11 (by decide) ?_
  obtain ⟨s3, es3, hz⟩ := u_let hz
  refine u_puti2 cx hw P_X4_28 o_X4 rfl es3 dX4_begin_12 (fun H locs hw => ?_)
  exact u_vret cx hw (Option.some.inj hz) dX4_begin_15
theorem dX4_takesEnd_0 : decode cX4_takesEnd 0 = .ok (.aload_n 0, 1) := by decide +kernel
theorem dX4_takesEnd_1 : decode cX4_takesEnd 1 = .ok (.getfield 28, 3) := by decide +kernel
theorem dX4_takesEnd_4 : decode cX4_takesEnd 4 = .ok (.iconst 2, 1) := by decide +kernel
theorem dX4_takesEnd_5 : decode cX4_takesEnd 5 = .ok (.if_icmp .ne 7, 3) := by decide +kernel
theorem dX4_takesEnd_8 : decode cX4_takesEnd 8 = .ok (.iconst 1, 1) := by decide +kernel
theorem dX4_takesEnd_9 : decode cX4_takesEnd 9 = .ok (.goto 4, 3) := by decide +kernel
theorem dX4_takesEnd_12 : decode cX4_takesEnd 12 = .ok (.iconst 0, 1) := by decide +kernel
theorem dX4_takesEnd_13 : decode cX4_takesEnd 13 = .ok (.ireturn, 1) := by decide +kernel
def f_X4_takesEnd (N : Nat) (σ : uS) : Option Int32 := if (σ.1 11 5) = 2 then (some 1) else (some 0)
set_option maxRecDepth 100000 in
set_option maxHeartbeats 4000000 in
theorem c_X4_takesEnd (l : Launch) (G : uG) (N : Nat) (σ : uS) (z : Int32) (hz : f_X4_takesEnd N σ = some z) : u_Mi l ZC G yX4_takesEnd cX4_takesEnd 1 .boolean 0 [.ref (G.2.2 11)] σ z σ := by
  refine u_Mi_of RX4 (by decide) rfl (Nat.le_of_ble_eq_true rfl) ?_
  intro p e s m args below meth c ls cx hw hl
  have hx := cx.1
  have hb := cx.2.1
  have hl : lv_has ls 1 [(0, .ref (G.2.2 11))] := hl
  unfold f_X4_takesEnd at hz
  refine lv_aload_n hx hb dX4_takesEnd_0 rfl (lv_at hl 0 rfl) ?_
  refine u_geti cx hw F_X4_28 o_X4 rfl dX4_takesEnd_1 ?_
  refine lv_iconst (v := 2) hx hb dX4_takesEnd_4 (by decide) ?_
  refine lv_icmp_ne (tgt := 12) hx hb dX4_takesEnd_5 (by decide) (fun hc => ?_) (fun hc => ?_)
  · replace hz := u_iff hz hc
    refine lv_iconst (v := 0) hx hb dX4_takesEnd_12 (by decide) ?_
    exact u_zret cx hw (Or.inl rfl) ⟨Option.some.inj hz, rfl⟩ dX4_takesEnd_13
  · replace hz := u_ift hz hc
    refine lv_iconst (v := 1) hx hb dX4_takesEnd_8 (by decide) ?_
    refine lv_goto (tgt := 13) hx hb dX4_takesEnd_9 (by decide) ?_
    exact u_zret cx hw (Or.inr rfl) ⟨Option.some.inj hz, rfl⟩ dX4_takesEnd_13
theorem dX5_isDigit_0 : decode cX5_isDigit 0 = .ok (.iload_n 0, 1) := by decide +kernel
theorem dX5_isDigit_1 : decode cX5_isDigit 1 = .ok (.bipush 48, 2) := by decide +kernel
theorem dX5_isDigit_3 : decode cX5_isDigit 3 = .ok (.if_icmp .lt 13, 3) := by decide +kernel
theorem dX5_isDigit_6 : decode cX5_isDigit 6 = .ok (.iload_n 0, 1) := by decide +kernel
theorem dX5_isDigit_7 : decode cX5_isDigit 7 = .ok (.bipush 57, 2) := by decide +kernel
theorem dX5_isDigit_9 : decode cX5_isDigit 9 = .ok (.if_icmp .gt 7, 3) := by decide +kernel
theorem dX5_isDigit_12 : decode cX5_isDigit 12 = .ok (.iconst 1, 1) := by decide +kernel
theorem dX5_isDigit_13 : decode cX5_isDigit 13 = .ok (.goto 4, 3) := by decide +kernel
theorem dX5_isDigit_16 : decode cX5_isDigit 16 = .ok (.iconst 0, 1) := by decide +kernel
theorem dX5_isDigit_17 : decode cX5_isDigit 17 = .ok (.ireturn, 1) := by decide +kernel
def f_X5_isDigit (N : Nat) (σ : uS) (p0 : Int32) : Option Int32 := u_jn ((some 0 : Option Int32)) fun J16_1 =>
  if p0 < 48 then (J16_1) else (if 57 < p0 then (J16_1) else (some 1))
set_option maxRecDepth 100000 in
set_option maxHeartbeats 4000000 in
theorem c_X5_isDigit (l : Launch) (G : uG) (N : Nat) (σ : uS) (p0 : Int32) (z : Int32) (hz : f_X5_isDigit N σ p0 = some z) : u_Mi l ZC G yX5_isDigit cX5_isDigit 1 .boolean 0 [.int p0] σ z σ := by
  refine u_Mi_of RX5 (by decide) rfl (Nat.le_of_ble_eq_true rfl) ?_
  intro p e s m args below meth c ls cx hw hl
  have hx := cx.1
  have hb := cx.2.1
  have hl : lv_has ls 1 [(0, .int p0)] := hl
  unfold f_X5_isDigit at hz
  refine lv_iload_n hx hb dX5_isDigit_0 rfl (lv_at hl 0 rfl) ?_
  refine lv_bipush (v := 48) hx hb dX5_isDigit_1 (by decide) ?_
  obtain ⟨J16_1, eJ16_1, hz⟩ := u_let hz
  have WJ16_1 : ∀ (H : Heap) (locs : List Loc) (ls : Array Slot), J16_1 = some z → u_W ZC G σ s H locs → lv_has ls 1 [] → W p l e (u_rm 0) s m args below meth c H locs 0 0 (u_Qi below ZC G s args z σ) (F0 m 16 ls []) := by
    intro H locs ls hz hw hl
    rw [eJ16_1] at hz
    refine lv_iconst (v := 0) hx hb dX5_isDigit_16 (by decide) ?_
    exact u_zret cx hw (Or.inl rfl) ⟨Option.some.inj hz, rfl⟩ dX5_isDigit_17
  refine lv_icmp_lt (tgt := 16) hx hb dX5_isDigit_3 (by decide) (fun hc => ?_) (fun hc => ?_)
  · replace hz := u_ift hz hc
    exact WJ16_1 _ _ _ hz hw (lv_sub hl [] rfl)
  · replace hz := u_iff hz hc
    refine lv_iload_n hx hb dX5_isDigit_6 rfl (lv_at hl 0 rfl) ?_
    refine lv_bipush (v := 57) hx hb dX5_isDigit_7 (by decide) ?_
    refine lv_icmp_gt (tgt := 16) hx hb dX5_isDigit_9 (by decide) (fun hc => ?_) (fun hc => ?_)
    · replace hz := u_ift hz hc
      exact WJ16_1 _ _ _ hz hw (lv_sub hl [] rfl)
    · replace hz := u_iff hz hc
      refine lv_iconst (v := 1) hx hb dX5_isDigit_12 (by decide) ?_
      refine lv_goto (tgt := 17) hx hb dX5_isDigit_13 (by decide) ?_
      exact u_zret cx hw (Or.inr rfl) ⟨Option.some.inj hz, rfl⟩ dX5_isDigit_17
theorem dX5_isLetter_0 : decode cX5_isLetter 0 = .ok (.iload_n 0, 1) := by decide +kernel
theorem dX5_isLetter_1 : decode cX5_isLetter 1 = .ok (.bipush 97, 2) := by decide +kernel
theorem dX5_isLetter_3 : decode cX5_isLetter 3 = .ok (.if_icmp .lt 13, 3) := by decide +kernel
theorem dX5_isLetter_6 : decode cX5_isLetter 6 = .ok (.iload_n 0, 1) := by decide +kernel
theorem dX5_isLetter_7 : decode cX5_isLetter 7 = .ok (.bipush 105, 2) := by decide +kernel
theorem dX5_isLetter_9 : decode cX5_isLetter 9 = .ok (.if_icmp .ge 7, 3) := by decide +kernel
theorem dX5_isLetter_12 : decode cX5_isLetter 12 = .ok (.iconst 1, 1) := by decide +kernel
theorem dX5_isLetter_13 : decode cX5_isLetter 13 = .ok (.goto 4, 3) := by decide +kernel
theorem dX5_isLetter_16 : decode cX5_isLetter 16 = .ok (.iconst 0, 1) := by decide +kernel
theorem dX5_isLetter_17 : decode cX5_isLetter 17 = .ok (.ireturn, 1) := by decide +kernel
def f_X5_isLetter (N : Nat) (σ : uS) (p0 : Int32) : Option Int32 := u_jn ((some 0 : Option Int32)) fun J16_1 =>
  if p0 < 97 then (J16_1) else (if 105 ≤ p0 then (J16_1) else (some 1))
set_option maxRecDepth 100000 in
set_option maxHeartbeats 4000000 in
theorem c_X5_isLetter (l : Launch) (G : uG) (N : Nat) (σ : uS) (p0 : Int32) (z : Int32) (hz : f_X5_isLetter N σ p0 = some z) : u_Mi l ZC G yX5_isLetter cX5_isLetter 1 .boolean 0 [.int p0] σ z σ := by
  refine u_Mi_of RX5 (by decide) rfl (Nat.le_of_ble_eq_true rfl) ?_
  intro p e s m args below meth c ls cx hw hl
  have hx := cx.1
  have hb := cx.2.1
  have hl : lv_has ls 1 [(0, .int p0)] := hl
  unfold f_X5_isLetter at hz
  refine lv_iload_n hx hb dX5_isLetter_0 rfl (lv_at hl 0 rfl) ?_
  refine lv_bipush (v := 97) hx hb dX5_isLetter_1 (by decide) ?_
  obtain ⟨J16_1, eJ16_1, hz⟩ := u_let hz
  have WJ16_1 : ∀ (H : Heap) (locs : List Loc) (ls : Array Slot), J16_1 = some z → u_W ZC G σ s H locs → lv_has ls 1 [] → W p l e (u_rm 0) s m args below meth c H locs 0 0 (u_Qi below ZC G s args z σ) (F0 m 16 ls []) := by
    intro H locs ls hz hw hl
    rw [eJ16_1] at hz
    refine lv_iconst (v := 0) hx hb dX5_isLetter_16 (by decide) ?_
    exact u_zret cx hw (Or.inl rfl) ⟨Option.some.inj hz, rfl⟩ dX5_isLetter_17
  refine lv_icmp_lt (tgt := 16) hx hb dX5_isLetter_3 (by decide) (fun hc => ?_) (fun hc => ?_)
  · replace hz := u_ift hz hc
    exact WJ16_1 _ _ _ hz hw (lv_sub hl [] rfl)
  · replace hz := u_iff hz hc
    refine lv_iload_n hx hb dX5_isLetter_6 rfl (lv_at hl 0 rfl) ?_
    refine lv_bipush (v := 105) hx hb dX5_isLetter_7 (by decide) ?_
    refine lv_icmp_ge (tgt := 16) hx hb dX5_isLetter_9 (by decide) (fun hc => ?_) (fun hc => ?_)
    · replace hz := u_ift hz hc
      exact WJ16_1 _ _ _ hz hw (lv_sub hl [] rfl)
    · replace hz := u_iff hz hc
      refine lv_iconst (v := 1) hx hb dX5_isLetter_12 (by decide) ?_
      refine lv_goto (tgt := 17) hx hb dX5_isLetter_13 (by decide) ?_
      exact u_zret cx hw (Or.inr rfl) ⟨Option.some.inj hz, rfl⟩ dX5_isLetter_17
theorem dX6_begin_0 : decode cX6_begin 0 = .ok (.aload_n 0, 1) := by decide +kernel
theorem dX6_begin_1 : decode cX6_begin 1 = .ok (.iconst 0, 1) := by decide +kernel
theorem dX6_begin_2 : decode cX6_begin 2 = .ok (.putfield 24, 3) := by decide +kernel
theorem dX6_begin_5 : decode cX6_begin 5 = .ok (.aload_n 0, 1) := by decide +kernel
theorem dX6_begin_6 : decode cX6_begin 6 = .ok (.iconst 0, 1) := by decide +kernel
theorem dX6_begin_7 : decode cX6_begin 7 = .ok (.putfield 28, 3) := by decide +kernel
theorem dX6_begin_10 : decode cX6_begin 10 = .ok (.aload_n 0, 1) := by decide +kernel
theorem dX6_begin_11 : decode cX6_begin 11 = .ok (.iconst 0, 1) := by decide +kernel
theorem dX6_begin_12 : decode cX6_begin 12 = .ok (.putfield 31, 3) := by decide +kernel
theorem dX6_begin_15 : decode cX6_begin 15 = .ok (.aload_n 0, 1) := by decide +kernel
theorem dX6_begin_16 : decode cX6_begin 16 = .ok (.iconst 0, 1) := by decide +kernel
theorem dX6_begin_17 : decode cX6_begin 17 = .ok (.putfield 34, 3) := by decide +kernel
theorem dX6_begin_20 : decode cX6_begin 20 = .ok (.aload_n 0, 1) := by decide +kernel
theorem dX6_begin_21 : decode cX6_begin 21 = .ok (.iconst 0, 1) := by decide +kernel
theorem dX6_begin_22 : decode cX6_begin 22 = .ok (.putfield 37, 3) := by decide +kernel
theorem dX6_begin_25 : decode cX6_begin 25 = .ok (.aload_n 0, 1) := by decide +kernel
theorem dX6_begin_26 : decode cX6_begin 26 = .ok (.iconst 0, 1) := by decide +kernel
theorem dX6_begin_27 : decode cX6_begin 27 = .ok (.putfield 40, 3) := by decide +kernel
theorem dX6_begin_30 : decode cX6_begin 30 = .ok (.aload_n 0, 1) := by decide +kernel
theorem dX6_begin_31 : decode cX6_begin 31 = .ok (.iconst 0, 1) := by decide +kernel
theorem dX6_begin_32 : decode cX6_begin 32 = .ok (.putfield 44, 3) := by decide +kernel
theorem dX6_begin_35 : decode cX6_begin 35 = .ok (.return_, 1) := by decide +kernel
def f_X6_begin (N : Nat) (σ : uS) (i0 : Nat) : Option uS := u_jn (u_pI σ i0 4 0) fun s1 =>
  u_jn (u_pI s1 i0 5 0) fun s2 =>
  u_jn (u_pI s2 i0 6 0) fun s3 =>
  u_jn (u_pI s3 i0 7 0) fun s4 =>
  u_jn (u_pI s4 i0 8 0) fun s5 =>
  u_jn (u_pI s5 i0 9 0) fun s6 =>
  u_jn (u_pI s6 i0 10 0) fun s7 =>
  some s7
set_option maxRecDepth 100000 in
set_option maxHeartbeats 4000000 in
theorem c_X6_begin (l : Launch) (G : uG) (N : Nat) (σ : uS) (i0 : Nat) (oi0 : u_o ZC i0 5 11 (k_R i0)) (z : uS) (hz : f_X6_begin N σ i0 = some z) : u_Mv l ZC G yX6_begin cX6_begin 1 0 [.ref (G.2.2 i0)] σ z := by
  refine u_Mv_of RX6 (by decide) rfl (Nat.le_of_ble_eq_true rfl) ?_
  intro p e s m args below meth c ls cx hw hl
  have hx := cx.1
  have hb := cx.2.1
  have hl : lv_has ls 1 [(0, .ref (G.2.2 i0))] := hl
  unfold f_X6_begin at hz
  refine lv_aload_n hx hb dX6_begin_0 rfl (lv_at hl 0 rfl) ?_
  refine lv_iconst (v := 0) hx hb dX6_begin_1 (by decide) ?_
  obtain ⟨s1, es1, hz⟩ := u_let hz
  refine u_puti2 cx hw P_X6_24 oi0 rfl es1 dX6_begin_2 (fun H locs hw => ?_)
  refine lv_aload_n hx hb dX6_begin_5 rfl (lv_at hl 0 rfl) ?_
  refine lv_iconst (v := 0) hx hb dX6_begin_6 (by decide) ?_
  obtain ⟨s2, es2, hz⟩ := u_let hz
  refine u_puti2 cx hw P_X6_28 oi0 rfl es2 dX6_begin_7 (fun H locs hw => ?_)
  refine lv_aload_n hx hb dX6_begin_10 rfl (lv_at hl 0 rfl) ?_
  refine lv_iconst (v := 0) hx hb dX6_begin_11 (by decide) ?_
  obtain ⟨s3, es3, hz⟩ := u_let hz
  refine u_puti2 cx hw P_X6_31 oi0 rfl es3 dX6_begin_12 (fun H locs hw => ?_)
  refine lv_aload_n hx hb dX6_begin_15 rfl (lv_at hl 0 rfl) ?_
  refine lv_iconst (v := 0) hx hb dX6_begin_16 (by decide) ?_
  obtain ⟨s4, es4, hz⟩ := u_let hz
  refine u_puti2 cx hw P_X6_34 oi0 rfl es4 dX6_begin_17 (fun H locs hw => ?_)
  refine lv_aload_n hx hb dX6_begin_20 rfl (lv_at hl 0 rfl) ?_
  refine lv_iconst (v := 0) hx hb dX6_begin_21 (by decide) ?_
  obtain ⟨s5, es5, hz⟩ := u_let hz
  refine u_puti2 cx hw P_X6_37 oi0 rfl es5 dX6_begin_22 (fun H locs hw => ?_)
  refine lv_aload_n hx hb dX6_begin_25 rfl (lv_at hl 0 rfl) ?_
  refine lv_iconst (v := 0) hx hb dX6_begin_26 (by decide) ?_
  obtain ⟨s6, es6, hz⟩ := u_let hz
  refine u_putz2 cx hw P_X6_40 oi0 rfl (Or.inl rfl) es6 dX6_begin_27 (fun H locs hw => ?_)
  refine lv_aload_n hx hb dX6_begin_30 rfl (lv_at hl 0 rfl) ?_
  refine lv_iconst (v := 0) hx hb dX6_begin_31 (by decide) ?_
  obtain ⟨s7, es7, hz⟩ := u_let hz
  refine u_putz2 cx hw P_X6_44 oi0 rfl (Or.inl rfl) es7 dX6_begin_32 (fun H locs hw => ?_)
  exact u_vret cx hw (Option.some.inj hz) dX6_begin_35
theorem dX6_whichThing_0 : decode cX6_whichThing 0 = .ok (.iload_n 0, 1) := by decide +kernel
theorem dX6_whichThing_1 : decode cX6_whichThing 1 = .ok (.tableswitch 126 97 120 #[113, 111, 126, 121, 123, 126, 119, 126, 126, 126, 126, 126, 126, 115, 126, 126, 126, 126, 126, 126, 126, 126, 126, 117], 111) := by decide +kernel
theorem dX6_whichThing_112 : decode cX6_whichThing 112 = .ok (.iconst 0, 1) := by decide +kernel
theorem dX6_whichThing_113 : decode cX6_whichThing 113 = .ok (.ireturn, 1) := by decide +kernel
theorem dX6_whichThing_114 : decode cX6_whichThing 114 = .ok (.iconst 1, 1) := by decide +kernel
theorem dX6_whichThing_115 : decode cX6_whichThing 115 = .ok (.ireturn, 1) := by decide +kernel
theorem dX6_whichThing_116 : decode cX6_whichThing 116 = .ok (.iconst 2, 1) := by decide +kernel
theorem dX6_whichThing_117 : decode cX6_whichThing 117 = .ok (.ireturn, 1) := by decide +kernel
theorem dX6_whichThing_118 : decode cX6_whichThing 118 = .ok (.iconst 3, 1) := by decide +kernel
theorem dX6_whichThing_119 : decode cX6_whichThing 119 = .ok (.ireturn, 1) := by decide +kernel
theorem dX6_whichThing_120 : decode cX6_whichThing 120 = .ok (.iconst 4, 1) := by decide +kernel
theorem dX6_whichThing_121 : decode cX6_whichThing 121 = .ok (.ireturn, 1) := by decide +kernel
theorem dX6_whichThing_122 : decode cX6_whichThing 122 = .ok (.iconst 5, 1) := by decide +kernel
theorem dX6_whichThing_123 : decode cX6_whichThing 123 = .ok (.ireturn, 1) := by decide +kernel
theorem dX6_whichThing_124 : decode cX6_whichThing 124 = .ok (.bipush 6, 2) := by decide +kernel
theorem dX6_whichThing_126 : decode cX6_whichThing 126 = .ok (.ireturn, 1) := by decide +kernel
theorem dX6_whichThing_127 : decode cX6_whichThing 127 = .ok (.iconst (-1), 1) := by decide +kernel
theorem dX6_whichThing_128 : decode cX6_whichThing 128 = .ok (.ireturn, 1) := by decide +kernel
def f_X6_whichThing (N : Nat) (σ : uS) (p0 : Int32) : Option Int32 := if p0 = 97 then (some 1) else (if p0 = 98 then (some 0) else (if p0 = 100 then (some 5) else (if p0 = 101 then (some 6) else (if p0 = 103 then (some 4) else (if p0 = 110 then (some 2) else (if p0 = 120 then (some 3) else (some (-1))))))))
set_option maxRecDepth 100000 in
set_option maxHeartbeats 4000000 in
theorem c_X6_whichThing (l : Launch) (G : uG) (N : Nat) (σ : uS) (p0 : Int32) (z : Int32) (hz : f_X6_whichThing N σ p0 = some z) : u_Mi l ZC G yX6_whichThing cX6_whichThing 1 .int 0 [.int p0] σ z σ := by
  refine u_Mi_of RX6 (by decide) rfl (Nat.le_of_ble_eq_true rfl) ?_
  intro p e s m args below meth c ls cx hw hl
  have hx := cx.1
  have hb := cx.2.1
  have hl : lv_has ls 1 [(0, .int p0)] := hl
  unfold f_X6_whichThing at hz
  refine lv_iload_n hx hb dX6_whichThing_0 rfl (lv_at hl 0 rfl) ?_
  by_cases hk97 : p0 = 97
  · replace hz := u_ift hz hk97
    refine lv_tableIn (off := 113) (tgt := 114) hx hb dX6_whichThing_1 (by rw [hk97]; decide) (by rw [hk97]; decide) (by rw [hk97]; decide) (by decide) ?_
    refine lv_iconst (v := 1) hx hb dX6_whichThing_114 (by decide) ?_
    exact u_iret cx hw ⟨Option.some.inj hz, rfl⟩ dX6_whichThing_115
  replace hz := u_iff hz hk97
  by_cases hk98 : p0 = 98
  · replace hz := u_ift hz hk98
    refine lv_tableIn (off := 111) (tgt := 112) hx hb dX6_whichThing_1 (by rw [hk98]; decide) (by rw [hk98]; decide) (by rw [hk98]; decide) (by decide) ?_
    refine lv_iconst (v := 0) hx hb dX6_whichThing_112 (by decide) ?_
    exact u_iret cx hw ⟨Option.some.inj hz, rfl⟩ dX6_whichThing_113
  replace hz := u_iff hz hk98
  by_cases hk100 : p0 = 100
  · replace hz := u_ift hz hk100
    refine lv_tableIn (off := 121) (tgt := 122) hx hb dX6_whichThing_1 (by rw [hk100]; decide) (by rw [hk100]; decide) (by rw [hk100]; decide) (by decide) ?_
    refine lv_iconst (v := 5) hx hb dX6_whichThing_122 (by decide) ?_
    exact u_iret cx hw ⟨Option.some.inj hz, rfl⟩ dX6_whichThing_123
  replace hz := u_iff hz hk100
  by_cases hk101 : p0 = 101
  · replace hz := u_ift hz hk101
    refine lv_tableIn (off := 123) (tgt := 124) hx hb dX6_whichThing_1 (by rw [hk101]; decide) (by rw [hk101]; decide) (by rw [hk101]; decide) (by decide) ?_
    refine lv_bipush (v := 6) hx hb dX6_whichThing_124 (by decide) ?_
    exact u_iret cx hw ⟨Option.some.inj hz, rfl⟩ dX6_whichThing_126
  replace hz := u_iff hz hk101
  by_cases hk103 : p0 = 103
  · replace hz := u_ift hz hk103
    refine lv_tableIn (off := 119) (tgt := 120) hx hb dX6_whichThing_1 (by rw [hk103]; decide) (by rw [hk103]; decide) (by rw [hk103]; decide) (by decide) ?_
    refine lv_iconst (v := 4) hx hb dX6_whichThing_120 (by decide) ?_
    exact u_iret cx hw ⟨Option.some.inj hz, rfl⟩ dX6_whichThing_121
  replace hz := u_iff hz hk103
  by_cases hk110 : p0 = 110
  · replace hz := u_ift hz hk110
    refine lv_tableIn (off := 115) (tgt := 116) hx hb dX6_whichThing_1 (by rw [hk110]; decide) (by rw [hk110]; decide) (by rw [hk110]; decide) (by decide) ?_
    refine lv_iconst (v := 2) hx hb dX6_whichThing_116 (by decide) ?_
    exact u_iret cx hw ⟨Option.some.inj hz, rfl⟩ dX6_whichThing_117
  replace hz := u_iff hz hk110
  by_cases hk120 : p0 = 120
  · replace hz := u_ift hz hk120
    refine lv_tableIn (off := 117) (tgt := 118) hx hb dX6_whichThing_1 (by rw [hk120]; decide) (by rw [hk120]; decide) (by rw [hk120]; decide) (by decide) ?_
    refine lv_iconst (v := 3) hx hb dX6_whichThing_118 (by decide) ?_
    exact u_iret cx hw ⟨Option.some.inj hz, rfl⟩ dX6_whichThing_119
  replace hz := u_iff hz hk120
  have hall : Int32.toInt p0 < 97 ∨ 120 < Int32.toInt p0 ∨ Int32.toInt p0 = 99 ∨ Int32.toInt p0 = 102 ∨ Int32.toInt p0 = 104 ∨ Int32.toInt p0 = 105 ∨ Int32.toInt p0 = 106 ∨ Int32.toInt p0 = 107 ∨ Int32.toInt p0 = 108 ∨ Int32.toInt p0 = 109 ∨ Int32.toInt p0 = 111 ∨ Int32.toInt p0 = 112 ∨ Int32.toInt p0 = 113 ∨ Int32.toInt p0 = 114 ∨ Int32.toInt p0 = 115 ∨ Int32.toInt p0 = 116 ∨ Int32.toInt p0 = 117 ∨ Int32.toInt p0 = 118 ∨ Int32.toInt p0 = 119 := by
    have := lv_neT hk97 (a := 97) (by decide)
    have := lv_neT hk98 (a := 98) (by decide)
    have := lv_neT hk100 (a := 100) (by decide)
    have := lv_neT hk101 (a := 101) (by decide)
    have := lv_neT hk103 (a := 103) (by decide)
    have := lv_neT hk110 (a := 110) (by decide)
    have := lv_neT hk120 (a := 120) (by decide)
    omega
  refine u_tdflt (x := p0) (tgt := 127) hx hb dX6_whichThing_1 (by decide) ?_ ?_
  · rcases hall with h9 | h9 | h9 | h9 | h9 | h9 | h9 | h9 | h9 | h9 | h9 | h9 | h9 | h9 | h9 | h9 | h9 | h9 | h9
    · exact Or.inl h9
    · exact Or.inr (Or.inl h9)
    all_goals (refine Or.inr (Or.inr ?_); rw [h9]; decide)
  refine lv_iconst (v := (-1)) hx hb dX6_whichThing_127 (by decide) ?_
  exact u_iret cx hw ⟨Option.some.inj hz, rfl⟩ dX6_whichThing_128
theorem dX6_takesDigit_0 : decode cX6_takesDigit 0 = .ok (.aload_n 0, 1) := by decide +kernel
theorem dX6_takesDigit_1 : decode cX6_takesDigit 1 = .ok (.getfield 24, 3) := by decide +kernel
theorem dX6_takesDigit_4 : decode cX6_takesDigit 4 = .ok (.iconst 1, 1) := by decide +kernel
theorem dX6_takesDigit_5 : decode cX6_takesDigit 5 = .ok (.isub, 1) := by decide +kernel
theorem dX6_takesDigit_6 : decode cX6_takesDigit 6 = .ok (.istore_n 2, 1) := by decide +kernel
theorem dX6_takesDigit_7 : decode cX6_takesDigit 7 = .ok (.aload_n 0, 1) := by decide +kernel
theorem dX6_takesDigit_8 : decode cX6_takesDigit 8 = .ok (.getfield 31, 3) := by decide +kernel
theorem dX6_takesDigit_11 : decode cX6_takesDigit 11 = .ok (.iconst 1, 1) := by decide +kernel
theorem dX6_takesDigit_12 : decode cX6_takesDigit 12 = .ok (.if_icmp .lt 24, 3) := by decide +kernel
theorem dX6_takesDigit_15 : decode cX6_takesDigit 15 = .ok (.aload_n 0, 1) := by decide +kernel
theorem dX6_takesDigit_16 : decode cX6_takesDigit 16 = .ok (.getfield 31, 3) := by decide +kernel
theorem dX6_takesDigit_19 : decode cX6_takesDigit 19 = .ok (.iconst 2, 1) := by decide +kernel
theorem dX6_takesDigit_20 : decode cX6_takesDigit 20 = .ok (.if_icmp .gt 16, 3) := by decide +kernel
theorem dX6_takesDigit_23 : decode cX6_takesDigit 23 = .ok (.iload_n 2, 1) := by decide +kernel
theorem dX6_takesDigit_24 : decode cX6_takesDigit 24 = .ok (.ifCond .lt 12, 3) := by decide +kernel
theorem dX6_takesDigit_27 : decode cX6_takesDigit 27 = .ok (.iload_n 2, 1) := by decide +kernel
theorem dX6_takesDigit_28 : decode cX6_takesDigit 28 = .ok (.aload_n 0, 1) := by decide +kernel
theorem dX6_takesDigit_29 : decode cX6_takesDigit 29 = .ok (.getfield 9, 3) := by decide +kernel
theorem dX6_takesDigit_32 : decode cX6_takesDigit 32 = .ok (.arraylength, 1) := by decide +kernel
theorem dX6_takesDigit_33 : decode cX6_takesDigit 33 = .ok (.if_icmp .lt 5, 3) := by decide +kernel
theorem dX6_takesDigit_36 : decode cX6_takesDigit 36 = .ok (.iconst 0, 1) := by decide +kernel
theorem dX6_takesDigit_37 : decode cX6_takesDigit 37 = .ok (.ireturn, 1) := by decide +kernel
theorem dX6_takesDigit_38 : decode cX6_takesDigit 38 = .ok (.aload_n 0, 1) := by decide +kernel
theorem dX6_takesDigit_39 : decode cX6_takesDigit 39 = .ok (.getfield 9, 3) := by decide +kernel
theorem dX6_takesDigit_42 : decode cX6_takesDigit 42 = .ok (.iload_n 2, 1) := by decide +kernel
theorem dX6_takesDigit_43 : decode cX6_takesDigit 43 = .ok (.aload_n 0, 1) := by decide +kernel
theorem dX6_takesDigit_44 : decode cX6_takesDigit 44 = .ok (.getfield 9, 3) := by decide +kernel
theorem dX6_takesDigit_47 : decode cX6_takesDigit 47 = .ok (.iload_n 2, 1) := by decide +kernel
theorem dX6_takesDigit_48 : decode cX6_takesDigit 48 = .ok (.iaload, 1) := by decide +kernel
theorem dX6_takesDigit_49 : decode cX6_takesDigit 49 = .ok (.bipush 10, 2) := by decide +kernel
theorem dX6_takesDigit_51 : decode cX6_takesDigit 51 = .ok (.imul, 1) := by decide +kernel
theorem dX6_takesDigit_52 : decode cX6_takesDigit 52 = .ok (.iload_n 1, 1) := by decide +kernel
theorem dX6_takesDigit_53 : decode cX6_takesDigit 53 = .ok (.iadd, 1) := by decide +kernel
theorem dX6_takesDigit_54 : decode cX6_takesDigit 54 = .ok (.iastore, 1) := by decide +kernel
theorem dX6_takesDigit_55 : decode cX6_takesDigit 55 = .ok (.aload_n 0, 1) := by decide +kernel
theorem dX6_takesDigit_56 : decode cX6_takesDigit 56 = .ok (.dup, 1) := by decide +kernel
theorem dX6_takesDigit_57 : decode cX6_takesDigit 57 = .ok (.getfield 31, 3) := by decide +kernel
theorem dX6_takesDigit_60 : decode cX6_takesDigit 60 = .ok (.iconst 1, 1) := by decide +kernel
theorem dX6_takesDigit_61 : decode cX6_takesDigit 61 = .ok (.iadd, 1) := by decide +kernel
theorem dX6_takesDigit_62 : decode cX6_takesDigit 62 = .ok (.putfield 31, 3) := by decide +kernel
theorem dX6_takesDigit_65 : decode cX6_takesDigit 65 = .ok (.iconst 1, 1) := by decide +kernel
theorem dX6_takesDigit_66 : decode cX6_takesDigit 66 = .ok (.ireturn, 1) := by decide +kernel
def f_X6_takesDigit (N : Nat) (σ : uS) (i0 : Nat) (p1 : Int32) : Option (Int32 × uS) := u_jn (((σ.1 i0 4) - 1) : Int32) fun x1 =>
  if (σ.1 i0 6) < 1 then (some (0, σ)) else (if 2 < (σ.1 i0 6) then (some (0, σ)) else (if x1 < 0 then (some (0, σ)) else ((u_len ZC (i0 + 1)).bind fun v2 =>
  if x1 < v2 then ((u_rI ZC σ 0 (i0 + 1) x1).bind fun v3 =>
  (u_wI ZC σ 0 (i0 + 1) x1 ((v3 * 10) + p1)).bind fun s4 =>
  u_jn (u_pI s4 i0 6 ((s4.1 i0 6) + 1)) fun s5 =>
  some (1, s5)) else (some (0, σ)))))
set_option maxRecDepth 100000 in
set_option maxHeartbeats 4000000 in
theorem c_X6_takesDigit (l : Launch) (G : uG) (N : Nat) (σ : uS) (i0 : Nat) (oi0 : u_o ZC i0 5 11 (k_R i0)) (p1 : Int32) (z : (Int32 × uS)) (hz : f_X6_takesDigit N σ i0 p1 = some z) : u_Mi l ZC G yX6_takesDigit cX6_takesDigit 3 .boolean 0 [.ref (G.2.2 i0), .int p1] σ z.1 z.2 := by
  refine u_Mi_of RX6 (by decide) rfl (Nat.le_of_ble_eq_true rfl) ?_
  intro p e s m args below meth c ls cx hw hl
  have hx := cx.1
  have hb := cx.2.1
  have hl : lv_has ls 3 [(0, .ref (G.2.2 i0)), (1, .int p1)] := hl
  unfold f_X6_takesDigit at hz
  refine lv_aload_n hx hb dX6_takesDigit_0 rfl (lv_at hl 0 rfl) ?_
  refine u_geti cx hw F_X6_24 oi0 rfl dX6_takesDigit_1 ?_
  refine lv_iconst (v := 1) hx hb dX6_takesDigit_4 (by decide) ?_
  refine lv_isub hx hb dX6_takesDigit_5 ?_
  obtain ⟨x1, ex1, hz⟩ := u_let hz
  refine u_topi ex1 ?_
  refine lv_istore_n (lv' := [(2, .int x1), (0, .ref (G.2.2 i0)), (1, .int p1)]) hx hb dX6_takesDigit_6 rfl hl (by decide) rfl (fun ls hl => ?_)
  refine lv_aload_n hx hb dX6_takesDigit_7 rfl (lv_at hl 1 rfl) ?_
  refine u_geti cx hw F_X6_31 oi0 rfl dX6_takesDigit_8 ?_
  refine lv_iconst (v := 1) hx hb dX6_takesDigit_11 (by decide) ?_
  refine lv_icmp_lt (tgt := 36) hx hb dX6_takesDigit_12 (by decide) (fun hc => ?_) (fun hc => ?_)
  · replace hz := u_ift hz hc
    refine lv_iconst (v := 0) hx hb dX6_takesDigit_36 (by decide) ?_
    exact u_zret cx hw (Or.inl rfl) (u_pair hz) dX6_takesDigit_37
  · replace hz := u_iff hz hc
    refine lv_aload_n hx hb dX6_takesDigit_15 rfl (lv_at hl 1 rfl) ?_
    refine u_geti cx hw F_X6_31 oi0 rfl dX6_takesDigit_16 ?_
    refine lv_iconst (v := 2) hx hb dX6_takesDigit_19 (by decide) ?_
    refine lv_icmp_gt (tgt := 36) hx hb dX6_takesDigit_20 (by decide) (fun hc => ?_) (fun hc => ?_)
    · replace hz := u_ift hz hc
      refine lv_iconst (v := 0) hx hb dX6_takesDigit_36 (by decide) ?_
      exact u_zret cx hw (Or.inl rfl) (u_pair hz) dX6_takesDigit_37
    · replace hz := u_iff hz hc
      refine lv_iload_n hx hb dX6_takesDigit_23 rfl (lv_at hl 0 rfl) ?_
      refine lv_if_lt (tgt := 36) hx hb dX6_takesDigit_24 (by decide) (fun hc => ?_) (fun hc => ?_)
      · replace hz := u_ift hz hc
        refine lv_iconst (v := 0) hx hb dX6_takesDigit_36 (by decide) ?_
        exact u_zret cx hw (Or.inl rfl) (u_pair hz) dX6_takesDigit_37
      · replace hz := u_iff hz hc
        refine lv_iload_n hx hb dX6_takesDigit_27 rfl (lv_at hl 0 rfl) ?_
        refine lv_aload_n hx hb dX6_takesDigit_28 rfl (lv_at hl 1 rfl) ?_
        refine u_getp cx hw F_X6_9 oi0 rfl dX6_takesDigit_29 ?_
        obtain ⟨v2, hv2, hz⟩ := u_bind hz
        refine u_alen cx hw hv2 dX6_takesDigit_32 ?_
        refine lv_icmp_lt (tgt := 38) hx hb dX6_takesDigit_33 (by decide) (fun hc => ?_) (fun hc => ?_)
        · replace hz := u_ift hz hc
          refine lv_aload_n hx hb dX6_takesDigit_38 rfl (lv_at hl 1 rfl) ?_
          refine u_getp cx hw F_X6_9 oi0 rfl dX6_takesDigit_39 ?_
          refine lv_iload_n hx hb dX6_takesDigit_42 rfl (lv_at hl 0 rfl) ?_
          refine lv_aload_n hx hb dX6_takesDigit_43 rfl (lv_at hl 1 rfl) ?_
          refine u_getp cx hw F_X6_9 oi0 rfl dX6_takesDigit_44 ?_
          refine lv_iload_n hx hb dX6_takesDigit_47 rfl (lv_at hl 0 rfl) ?_
          obtain ⟨v3, hv3, hz⟩ := u_bind hz
          refine u_iald cx hw hv3 dX6_takesDigit_48 ?_
          refine lv_bipush (v := 10) hx hb dX6_takesDigit_49 (by decide) ?_
          refine lv_imul hx hb dX6_takesDigit_51 ?_
          refine lv_iload_n hx hb dX6_takesDigit_52 rfl (lv_at hl 2 rfl) ?_
          refine lv_iadd hx hb dX6_takesDigit_53 ?_
          obtain ⟨s4, hs4, hz⟩ := u_bind hz
          refine u_iast cx hw hs4 dX6_takesDigit_54 (fun H locs hw => ?_)
          refine lv_aload_n hx hb dX6_takesDigit_55 rfl (lv_at hl 1 rfl) ?_
          refine lv_dup hx hb dX6_takesDigit_56 rfl ?_
          refine u_geti cx hw F_X6_31 oi0 rfl dX6_takesDigit_57 ?_
          refine lv_iconst (v := 1) hx hb dX6_takesDigit_60 (by decide) ?_
          refine lv_iadd hx hb dX6_takesDigit_61 ?_
          obtain ⟨s5, es5, hz⟩ := u_let hz
          refine u_puti2 cx hw P_X6_31 oi0 rfl es5 dX6_takesDigit_62 (fun H locs hw => ?_)
          refine lv_iconst (v := 1) hx hb dX6_takesDigit_65 (by decide) ?_
          exact u_zret cx hw (Or.inr rfl) (u_pair hz) dX6_takesDigit_66
        · replace hz := u_iff hz hc
          refine lv_iconst (v := 0) hx hb dX6_takesDigit_36 (by decide) ?_
          exact u_zret cx hw (Or.inl rfl) (u_pair hz) dX6_takesDigit_37
theorem dX6_rankOf_0 : decode cX6_rankOf 0 = .ok (.iload_n 0, 1) := by decide +kernel
theorem dX6_rankOf_1 : decode cX6_rankOf 1 = .ok (.tableswitch 105 42 62 #[103, 101, 105, 101, 105, 103, 105, 105, 105, 105, 105, 105, 105, 105, 105, 105, 105, 105, 99, 99, 99], 99) := by decide +kernel
theorem dX6_rankOf_100 : decode cX6_rankOf 100 = .ok (.iconst 1, 1) := by decide +kernel
theorem dX6_rankOf_101 : decode cX6_rankOf 101 = .ok (.ireturn, 1) := by decide +kernel
theorem dX6_rankOf_102 : decode cX6_rankOf 102 = .ok (.iconst 2, 1) := by decide +kernel
theorem dX6_rankOf_103 : decode cX6_rankOf 103 = .ok (.ireturn, 1) := by decide +kernel
theorem dX6_rankOf_104 : decode cX6_rankOf 104 = .ok (.iconst 3, 1) := by decide +kernel
theorem dX6_rankOf_105 : decode cX6_rankOf 105 = .ok (.ireturn, 1) := by decide +kernel
theorem dX6_rankOf_106 : decode cX6_rankOf 106 = .ok (.iconst 0, 1) := by decide +kernel
theorem dX6_rankOf_107 : decode cX6_rankOf 107 = .ok (.ireturn, 1) := by decide +kernel
def f_X6_rankOf (N : Nat) (σ : uS) (p0 : Int32) : Option Int32 := if p0 = 42 then (some 3) else (if p0 = 43 then (some 2) else (if p0 = 45 then (some 2) else (if p0 = 47 then (some 3) else (if p0 = 60 then (some 1) else (if p0 = 61 then (some 1) else (if p0 = 62 then (some 1) else (some 0)))))))
set_option maxRecDepth 100000 in
set_option maxHeartbeats 4000000 in
theorem c_X6_rankOf (l : Launch) (G : uG) (N : Nat) (σ : uS) (p0 : Int32) (z : Int32) (hz : f_X6_rankOf N σ p0 = some z) : u_Mi l ZC G yX6_rankOf cX6_rankOf 1 .int 0 [.int p0] σ z σ := by
  refine u_Mi_of RX6 (by decide) rfl (Nat.le_of_ble_eq_true rfl) ?_
  intro p e s m args below meth c ls cx hw hl
  have hx := cx.1
  have hb := cx.2.1
  have hl : lv_has ls 1 [(0, .int p0)] := hl
  unfold f_X6_rankOf at hz
  refine lv_iload_n hx hb dX6_rankOf_0 rfl (lv_at hl 0 rfl) ?_
  by_cases hk42 : p0 = 42
  · replace hz := u_ift hz hk42
    refine lv_tableIn (off := 103) (tgt := 104) hx hb dX6_rankOf_1 (by rw [hk42]; decide) (by rw [hk42]; decide) (by rw [hk42]; decide) (by decide) ?_
    refine lv_iconst (v := 3) hx hb dX6_rankOf_104 (by decide) ?_
    exact u_iret cx hw ⟨Option.some.inj hz, rfl⟩ dX6_rankOf_105
  replace hz := u_iff hz hk42
  by_cases hk43 : p0 = 43
  · replace hz := u_ift hz hk43
    refine lv_tableIn (off := 101) (tgt := 102) hx hb dX6_rankOf_1 (by rw [hk43]; decide) (by rw [hk43]; decide) (by rw [hk43]; decide) (by decide) ?_
    refine lv_iconst (v := 2) hx hb dX6_rankOf_102 (by decide) ?_
    exact u_iret cx hw ⟨Option.some.inj hz, rfl⟩ dX6_rankOf_103
  replace hz := u_iff hz hk43
  by_cases hk45 : p0 = 45
  · replace hz := u_ift hz hk45
    refine lv_tableIn (off := 101) (tgt := 102) hx hb dX6_rankOf_1 (by rw [hk45]; decide) (by rw [hk45]; decide) (by rw [hk45]; decide) (by decide) ?_
    refine lv_iconst (v := 2) hx hb dX6_rankOf_102 (by decide) ?_
    exact u_iret cx hw ⟨Option.some.inj hz, rfl⟩ dX6_rankOf_103
  replace hz := u_iff hz hk45
  by_cases hk47 : p0 = 47
  · replace hz := u_ift hz hk47
    refine lv_tableIn (off := 103) (tgt := 104) hx hb dX6_rankOf_1 (by rw [hk47]; decide) (by rw [hk47]; decide) (by rw [hk47]; decide) (by decide) ?_
    refine lv_iconst (v := 3) hx hb dX6_rankOf_104 (by decide) ?_
    exact u_iret cx hw ⟨Option.some.inj hz, rfl⟩ dX6_rankOf_105
  replace hz := u_iff hz hk47
  by_cases hk60 : p0 = 60
  · replace hz := u_ift hz hk60
    refine lv_tableIn (off := 99) (tgt := 100) hx hb dX6_rankOf_1 (by rw [hk60]; decide) (by rw [hk60]; decide) (by rw [hk60]; decide) (by decide) ?_
    refine lv_iconst (v := 1) hx hb dX6_rankOf_100 (by decide) ?_
    exact u_iret cx hw ⟨Option.some.inj hz, rfl⟩ dX6_rankOf_101
  replace hz := u_iff hz hk60
  by_cases hk61 : p0 = 61
  · replace hz := u_ift hz hk61
    refine lv_tableIn (off := 99) (tgt := 100) hx hb dX6_rankOf_1 (by rw [hk61]; decide) (by rw [hk61]; decide) (by rw [hk61]; decide) (by decide) ?_
    refine lv_iconst (v := 1) hx hb dX6_rankOf_100 (by decide) ?_
    exact u_iret cx hw ⟨Option.some.inj hz, rfl⟩ dX6_rankOf_101
  replace hz := u_iff hz hk61
  by_cases hk62 : p0 = 62
  · replace hz := u_ift hz hk62
    refine lv_tableIn (off := 99) (tgt := 100) hx hb dX6_rankOf_1 (by rw [hk62]; decide) (by rw [hk62]; decide) (by rw [hk62]; decide) (by decide) ?_
    refine lv_iconst (v := 1) hx hb dX6_rankOf_100 (by decide) ?_
    exact u_iret cx hw ⟨Option.some.inj hz, rfl⟩ dX6_rankOf_101
  replace hz := u_iff hz hk62
  have hall : Int32.toInt p0 < 42 ∨ 62 < Int32.toInt p0 ∨ Int32.toInt p0 = 44 ∨ Int32.toInt p0 = 46 ∨ Int32.toInt p0 = 48 ∨ Int32.toInt p0 = 49 ∨ Int32.toInt p0 = 50 ∨ Int32.toInt p0 = 51 ∨ Int32.toInt p0 = 52 ∨ Int32.toInt p0 = 53 ∨ Int32.toInt p0 = 54 ∨ Int32.toInt p0 = 55 ∨ Int32.toInt p0 = 56 ∨ Int32.toInt p0 = 57 ∨ Int32.toInt p0 = 58 ∨ Int32.toInt p0 = 59 := by
    have := lv_neT hk42 (a := 42) (by decide)
    have := lv_neT hk43 (a := 43) (by decide)
    have := lv_neT hk45 (a := 45) (by decide)
    have := lv_neT hk47 (a := 47) (by decide)
    have := lv_neT hk60 (a := 60) (by decide)
    have := lv_neT hk61 (a := 61) (by decide)
    have := lv_neT hk62 (a := 62) (by decide)
    omega
  refine u_tdflt (x := p0) (tgt := 106) hx hb dX6_rankOf_1 (by decide) ?_ ?_
  · rcases hall with h9 | h9 | h9 | h9 | h9 | h9 | h9 | h9 | h9 | h9 | h9 | h9 | h9 | h9 | h9 | h9
    · exact Or.inl h9
    · exact Or.inr (Or.inl h9)
    all_goals (refine Or.inr (Or.inr ?_); rw [h9]; decide)
  refine lv_iconst (v := 0) hx hb dX6_rankOf_106 (by decide) ?_
  exact u_iret cx hw ⟨Option.some.inj hz, rfl⟩ dX6_rankOf_107
theorem dX6_await_0 : decode cX6_await 0 = .ok (.aload_n 0, 1) := by decide +kernel
theorem dX6_await_1 : decode cX6_await 1 = .ok (.getfield 28, 3) := by decide +kernel
theorem dX6_await_4 : decode cX6_await 4 = .ok (.ifCond .lt 15, 3) := by decide +kernel
theorem dX6_await_7 : decode cX6_await 7 = .ok (.aload_n 0, 1) := by decide +kernel
theorem dX6_await_8 : decode cX6_await 8 = .ok (.getfield 28, 3) := by decide +kernel
theorem dX6_await_11 : decode cX6_await 11 = .ok (.aload_n 0, 1) := by decide +kernel
theorem dX6_await_12 : decode cX6_await 12 = .ok (.getfield 15, 3) := by decide +kernel
theorem dX6_await_15 : decode cX6_await 15 = .ok (.arraylength, 1) := by decide +kernel
theorem dX6_await_16 : decode cX6_await 16 = .ok (.if_icmp .lt 5, 3) := by decide +kernel
theorem dX6_await_19 : decode cX6_await 19 = .ok (.iconst 0, 1) := by decide +kernel
theorem dX6_await_20 : decode cX6_await 20 = .ok (.ireturn, 1) := by decide +kernel
theorem dX6_await_21 : decode cX6_await 21 = .ok (.aload_n 0, 1) := by decide +kernel
theorem dX6_await_22 : decode cX6_await 22 = .ok (.getfield 15, 3) := by decide +kernel
theorem dX6_await_25 : decode cX6_await 25 = .ok (.aload_n 0, 1) := by decide +kernel
theorem dX6_await_26 : decode cX6_await 26 = .ok (.getfield 28, 3) := by decide +kernel
theorem dX6_await_29 : decode cX6_await 29 = .ok (.iload_n 1, 1) := by decide +kernel
theorem dX6_await_30 : decode cX6_await 30 = .ok (.iastore, 1) := by decide +kernel
theorem dX6_await_31 : decode cX6_await 31 = .ok (.aload_n 0, 1) := by decide +kernel
theorem dX6_await_32 : decode cX6_await 32 = .ok (.dup, 1) := by decide +kernel
theorem dX6_await_33 : decode cX6_await 33 = .ok (.getfield 28, 3) := by decide +kernel
theorem dX6_await_36 : decode cX6_await 36 = .ok (.iconst 1, 1) := by decide +kernel
theorem dX6_await_37 : decode cX6_await 37 = .ok (.iadd, 1) := by decide +kernel
theorem dX6_await_38 : decode cX6_await 38 = .ok (.putfield 28, 3) := by decide +kernel
theorem dX6_await_41 : decode cX6_await 41 = .ok (.iconst 1, 1) := by decide +kernel
theorem dX6_await_42 : decode cX6_await 42 = .ok (.ireturn, 1) := by decide +kernel
def f_X6_await (N : Nat) (σ : uS) (i0 : Nat) (p1 : Int32) : Option (Int32 × uS) := if (σ.1 i0 5) < 0 then (some (0, σ)) else ((u_len ZC (i0 + 2)).bind fun v1 =>
  if (σ.1 i0 5) < v1 then ((u_wI ZC σ 0 (i0 + 2) (σ.1 i0 5) p1).bind fun s2 =>
  u_jn (u_pI s2 i0 5 ((s2.1 i0 5) + 1)) fun s3 =>
  some (1, s3)) else (some (0, σ)))
set_option maxRecDepth 100000 in
set_option maxHeartbeats 4000000 in
theorem c_X6_await (l : Launch) (G : uG) (N : Nat) (σ : uS) (i0 : Nat) (oi0 : u_o ZC i0 5 11 (k_R i0)) (p1 : Int32) (z : (Int32 × uS)) (hz : f_X6_await N σ i0 p1 = some z) : u_Mi l ZC G yX6_await cX6_await 2 .boolean 0 [.ref (G.2.2 i0), .int p1] σ z.1 z.2 := by
  refine u_Mi_of RX6 (by decide) rfl (Nat.le_of_ble_eq_true rfl) ?_
  intro p e s m args below meth c ls cx hw hl
  have hx := cx.1
  have hb := cx.2.1
  have hl : lv_has ls 2 [(0, .ref (G.2.2 i0)), (1, .int p1)] := hl
  unfold f_X6_await at hz
  refine lv_aload_n hx hb dX6_await_0 rfl (lv_at hl 0 rfl) ?_
  refine u_geti cx hw F_X6_28 oi0 rfl dX6_await_1 ?_
  refine lv_if_lt (tgt := 19) hx hb dX6_await_4 (by decide) (fun hc => ?_) (fun hc => ?_)
  · replace hz := u_ift hz hc
    refine lv_iconst (v := 0) hx hb dX6_await_19 (by decide) ?_
    exact u_zret cx hw (Or.inl rfl) (u_pair hz) dX6_await_20
  · replace hz := u_iff hz hc
    refine lv_aload_n hx hb dX6_await_7 rfl (lv_at hl 0 rfl) ?_
    refine u_geti cx hw F_X6_28 oi0 rfl dX6_await_8 ?_
    refine lv_aload_n hx hb dX6_await_11 rfl (lv_at hl 0 rfl) ?_
    refine u_getp cx hw F_X6_15 oi0 rfl dX6_await_12 ?_
    obtain ⟨v1, hv1, hz⟩ := u_bind hz
    refine u_alen cx hw hv1 dX6_await_15 ?_
    refine lv_icmp_lt (tgt := 21) hx hb dX6_await_16 (by decide) (fun hc => ?_) (fun hc => ?_)
    · replace hz := u_ift hz hc
      refine lv_aload_n hx hb dX6_await_21 rfl (lv_at hl 0 rfl) ?_
      refine u_getp cx hw F_X6_15 oi0 rfl dX6_await_22 ?_
      refine lv_aload_n hx hb dX6_await_25 rfl (lv_at hl 0 rfl) ?_
      refine u_geti cx hw F_X6_28 oi0 rfl dX6_await_26 ?_
      refine lv_iload_n hx hb dX6_await_29 rfl (lv_at hl 1 rfl) ?_
      obtain ⟨s2, hs2, hz⟩ := u_bind hz
      refine u_iast cx hw hs2 dX6_await_30 (fun H locs hw => ?_)
      refine lv_aload_n hx hb dX6_await_31 rfl (lv_at hl 0 rfl) ?_
      refine lv_dup hx hb dX6_await_32 rfl ?_
      refine u_geti cx hw F_X6_28 oi0 rfl dX6_await_33 ?_
      refine lv_iconst (v := 1) hx hb dX6_await_36 (by decide) ?_
      refine lv_iadd hx hb dX6_await_37 ?_
      obtain ⟨s3, es3, hz⟩ := u_let hz
      refine u_puti2 cx hw P_X6_28 oi0 rfl es3 dX6_await_38 (fun H locs hw => ?_)
      refine lv_iconst (v := 1) hx hb dX6_await_41 (by decide) ?_
      exact u_zret cx hw (Or.inr rfl) (u_pair hz) dX6_await_42
    · replace hz := u_iff hz hc
      refine lv_iconst (v := 0) hx hb dX6_await_19 (by decide) ?_
      exact u_zret cx hw (Or.inl rfl) (u_pair hz) dX6_await_20
theorem dX6_put_0 : decode cX6_put 0 = .ok (.aload_n 0, 1) := by decide +kernel
theorem dX6_put_1 : decode cX6_put 1 = .ok (.getfield 24, 3) := by decide +kernel
theorem dX6_put_4 : decode cX6_put 4 = .ok (.ifCond .lt 15, 3) := by decide +kernel
theorem dX6_put_7 : decode cX6_put 7 = .ok (.aload_n 0, 1) := by decide +kernel
theorem dX6_put_8 : decode cX6_put 8 = .ok (.getfield 24, 3) := by decide +kernel
theorem dX6_put_11 : decode cX6_put 11 = .ok (.aload_n 0, 1) := by decide +kernel
theorem dX6_put_12 : decode cX6_put 12 = .ok (.getfield 9, 3) := by decide +kernel
theorem dX6_put_15 : decode cX6_put 15 = .ok (.arraylength, 1) := by decide +kernel
theorem dX6_put_16 : decode cX6_put 16 = .ok (.if_icmp .lt 5, 3) := by decide +kernel
theorem dX6_put_19 : decode cX6_put 19 = .ok (.iconst 0, 1) := by decide +kernel
theorem dX6_put_20 : decode cX6_put 20 = .ok (.ireturn, 1) := by decide +kernel
theorem dX6_put_21 : decode cX6_put 21 = .ok (.aload_n 0, 1) := by decide +kernel
theorem dX6_put_22 : decode cX6_put 22 = .ok (.getfield 9, 3) := by decide +kernel
theorem dX6_put_25 : decode cX6_put 25 = .ok (.aload_n 0, 1) := by decide +kernel
theorem dX6_put_26 : decode cX6_put 26 = .ok (.getfield 24, 3) := by decide +kernel
theorem dX6_put_29 : decode cX6_put 29 = .ok (.iload_n 1, 1) := by decide +kernel
theorem dX6_put_30 : decode cX6_put 30 = .ok (.iastore, 1) := by decide +kernel
theorem dX6_put_31 : decode cX6_put 31 = .ok (.aload_n 0, 1) := by decide +kernel
theorem dX6_put_32 : decode cX6_put 32 = .ok (.dup, 1) := by decide +kernel
theorem dX6_put_33 : decode cX6_put 33 = .ok (.getfield 24, 3) := by decide +kernel
theorem dX6_put_36 : decode cX6_put 36 = .ok (.iconst 1, 1) := by decide +kernel
theorem dX6_put_37 : decode cX6_put 37 = .ok (.iadd, 1) := by decide +kernel
theorem dX6_put_38 : decode cX6_put 38 = .ok (.putfield 24, 3) := by decide +kernel
theorem dX6_put_41 : decode cX6_put 41 = .ok (.iconst 1, 1) := by decide +kernel
theorem dX6_put_42 : decode cX6_put 42 = .ok (.ireturn, 1) := by decide +kernel
def f_X6_put (N : Nat) (σ : uS) (i0 : Nat) (p1 : Int32) : Option (Int32 × uS) := if (σ.1 i0 4) < 0 then (some (0, σ)) else ((u_len ZC (i0 + 1)).bind fun v1 =>
  if (σ.1 i0 4) < v1 then ((u_wI ZC σ 0 (i0 + 1) (σ.1 i0 4) p1).bind fun s2 =>
  u_jn (u_pI s2 i0 4 ((s2.1 i0 4) + 1)) fun s3 =>
  some (1, s3)) else (some (0, σ)))
set_option maxRecDepth 100000 in
set_option maxHeartbeats 4000000 in
theorem c_X6_put (l : Launch) (G : uG) (N : Nat) (σ : uS) (i0 : Nat) (oi0 : u_o ZC i0 5 11 (k_R i0)) (p1 : Int32) (z : (Int32 × uS)) (hz : f_X6_put N σ i0 p1 = some z) : u_Mi l ZC G yX6_put cX6_put 2 .boolean 0 [.ref (G.2.2 i0), .int p1] σ z.1 z.2 := by
  refine u_Mi_of RX6 (by decide) rfl (Nat.le_of_ble_eq_true rfl) ?_
  intro p e s m args below meth c ls cx hw hl
  have hx := cx.1
  have hb := cx.2.1
  have hl : lv_has ls 2 [(0, .ref (G.2.2 i0)), (1, .int p1)] := hl
  unfold f_X6_put at hz
  refine lv_aload_n hx hb dX6_put_0 rfl (lv_at hl 0 rfl) ?_
  refine u_geti cx hw F_X6_24 oi0 rfl dX6_put_1 ?_
  refine lv_if_lt (tgt := 19) hx hb dX6_put_4 (by decide) (fun hc => ?_) (fun hc => ?_)
  · replace hz := u_ift hz hc
    refine lv_iconst (v := 0) hx hb dX6_put_19 (by decide) ?_
    exact u_zret cx hw (Or.inl rfl) (u_pair hz) dX6_put_20
  · replace hz := u_iff hz hc
    refine lv_aload_n hx hb dX6_put_7 rfl (lv_at hl 0 rfl) ?_
    refine u_geti cx hw F_X6_24 oi0 rfl dX6_put_8 ?_
    refine lv_aload_n hx hb dX6_put_11 rfl (lv_at hl 0 rfl) ?_
    refine u_getp cx hw F_X6_9 oi0 rfl dX6_put_12 ?_
    obtain ⟨v1, hv1, hz⟩ := u_bind hz
    refine u_alen cx hw hv1 dX6_put_15 ?_
    refine lv_icmp_lt (tgt := 21) hx hb dX6_put_16 (by decide) (fun hc => ?_) (fun hc => ?_)
    · replace hz := u_ift hz hc
      refine lv_aload_n hx hb dX6_put_21 rfl (lv_at hl 0 rfl) ?_
      refine u_getp cx hw F_X6_9 oi0 rfl dX6_put_22 ?_
      refine lv_aload_n hx hb dX6_put_25 rfl (lv_at hl 0 rfl) ?_
      refine u_geti cx hw F_X6_24 oi0 rfl dX6_put_26 ?_
      refine lv_iload_n hx hb dX6_put_29 rfl (lv_at hl 1 rfl) ?_
      obtain ⟨s2, hs2, hz⟩ := u_bind hz
      refine u_iast cx hw hs2 dX6_put_30 (fun H locs hw => ?_)
      refine lv_aload_n hx hb dX6_put_31 rfl (lv_at hl 0 rfl) ?_
      refine lv_dup hx hb dX6_put_32 rfl ?_
      refine u_geti cx hw F_X6_24 oi0 rfl dX6_put_33 ?_
      refine lv_iconst (v := 1) hx hb dX6_put_36 (by decide) ?_
      refine lv_iadd hx hb dX6_put_37 ?_
      obtain ⟨s3, es3, hz⟩ := u_let hz
      refine u_puti2 cx hw P_X6_24 oi0 rfl es3 dX6_put_38 (fun H locs hw => ?_)
      refine lv_iconst (v := 1) hx hb dX6_put_41 (by decide) ?_
      exact u_zret cx hw (Or.inr rfl) (u_pair hz) dX6_put_42
    · replace hz := u_iff hz hc
      refine lv_iconst (v := 0) hx hb dX6_put_19 (by decide) ?_
      exact u_zret cx hw (Or.inl rfl) (u_pair hz) dX6_put_20
theorem dX6_lookAt_0 : decode cX6_lookAt 0 = .ok (.iconst 0, 1) := by decide +kernel
theorem dX6_lookAt_1 : decode cX6_lookAt 1 = .ok (.istore_n 3, 1) := by decide +kernel
theorem dX6_lookAt_2 : decode cX6_lookAt 2 = .ok (.iconst 0, 1) := by decide +kernel
theorem dX6_lookAt_3 : decode cX6_lookAt 3 = .ok (.istore 4, 2) := by decide +kernel
theorem dX6_lookAt_5 : decode cX6_lookAt 5 = .ok (.iconst 0, 1) := by decide +kernel
theorem dX6_lookAt_6 : decode cX6_lookAt 6 = .ok (.istore 5, 2) := by decide +kernel
theorem dX6_lookAt_8 : decode cX6_lookAt 8 = .ok (.iconst 0, 1) := by decide +kernel
theorem dX6_lookAt_9 : decode cX6_lookAt 9 = .ok (.istore 6, 2) := by decide +kernel
theorem dX6_lookAt_11 : decode cX6_lookAt 11 = .ok (.iload 6, 2) := by decide +kernel
theorem dX6_lookAt_13 : decode cX6_lookAt 13 = .ok (.aload_n 1, 1) := by decide +kernel
theorem dX6_lookAt_14 : decode cX6_lookAt 14 = .ok (.getfield 104, 3) := by decide +kernel
theorem dX6_lookAt_17 : decode cX6_lookAt 17 = .ok (.if_icmp .ge 64, 3) := by decide +kernel
theorem dX6_lookAt_20 : decode cX6_lookAt 20 = .ok (.aload_n 1, 1) := by decide +kernel
theorem dX6_lookAt_21 : decode cX6_lookAt 21 = .ok (.getfield 109, 3) := by decide +kernel
theorem dX6_lookAt_24 : decode cX6_lookAt 24 = .ok (.iload_n 2, 1) := by decide +kernel
theorem dX6_lookAt_25 : decode cX6_lookAt 25 = .ok (.iaload, 1) := by decide +kernel
theorem dX6_lookAt_26 : decode cX6_lookAt 26 = .ok (.iload 6, 2) := by decide +kernel
theorem dX6_lookAt_28 : decode cX6_lookAt 28 = .ok (.ishr, 1) := by decide +kernel
theorem dX6_lookAt_29 : decode cX6_lookAt 29 = .ok (.iconst 1, 1) := by decide +kernel
theorem dX6_lookAt_30 : decode cX6_lookAt 30 = .ok (.iand, 1) := by decide +kernel
theorem dX6_lookAt_31 : decode cX6_lookAt 31 = .ok (.iconst 1, 1) := by decide +kernel
theorem dX6_lookAt_32 : decode cX6_lookAt 32 = .ok (.if_icmp .ne 43, 3) := by decide +kernel
theorem dX6_lookAt_35 : decode cX6_lookAt 35 = .ok (.iload_n 3, 1) := by decide +kernel
theorem dX6_lookAt_36 : decode cX6_lookAt 36 = .ok (.aload_n 1, 1) := by decide +kernel
theorem dX6_lookAt_37 : decode cX6_lookAt 37 = .ok (.getfield 112, 3) := by decide +kernel
theorem dX6_lookAt_40 : decode cX6_lookAt 40 = .ok (.iload 6, 2) := by decide +kernel
theorem dX6_lookAt_42 : decode cX6_lookAt 42 = .ok (.iaload, 1) := by decide +kernel
theorem dX6_lookAt_43 : decode cX6_lookAt 43 = .ok (.iadd, 1) := by decide +kernel
theorem dX6_lookAt_44 : decode cX6_lookAt 44 = .ok (.istore_n 3, 1) := by decide +kernel
theorem dX6_lookAt_45 : decode cX6_lookAt 45 = .ok (.iinc 4 1, 3) := by decide +kernel
theorem dX6_lookAt_48 : decode cX6_lookAt 48 = .ok (.iload 5, 2) := by decide +kernel
theorem dX6_lookAt_50 : decode cX6_lookAt 50 = .ok (.aload_n 1, 1) := by decide +kernel
theorem dX6_lookAt_51 : decode cX6_lookAt 51 = .ok (.getfield 112, 3) := by decide +kernel
theorem dX6_lookAt_54 : decode cX6_lookAt 54 = .ok (.iload 6, 2) := by decide +kernel
theorem dX6_lookAt_56 : decode cX6_lookAt 56 = .ok (.iaload, 1) := by decide +kernel
theorem dX6_lookAt_57 : decode cX6_lookAt 57 = .ok (.aload_n 1, 1) := by decide +kernel
theorem dX6_lookAt_58 : decode cX6_lookAt 58 = .ok (.getfield 115, 3) := by decide +kernel
theorem dX6_lookAt_61 : decode cX6_lookAt 61 = .ok (.iload 6, 2) := by decide +kernel
theorem dX6_lookAt_63 : decode cX6_lookAt 63 = .ok (.iaload, 1) := by decide +kernel
theorem dX6_lookAt_64 : decode cX6_lookAt 64 = .ok (.if_icmp .ge 7, 3) := by decide +kernel
theorem dX6_lookAt_67 : decode cX6_lookAt 67 = .ok (.iconst 1, 1) := by decide +kernel
theorem dX6_lookAt_68 : decode cX6_lookAt 68 = .ok (.goto 4, 3) := by decide +kernel
theorem dX6_lookAt_71 : decode cX6_lookAt 71 = .ok (.iconst 0, 1) := by decide +kernel
theorem dX6_lookAt_72 : decode cX6_lookAt 72 = .ok (.iadd, 1) := by decide +kernel
theorem dX6_lookAt_73 : decode cX6_lookAt 73 = .ok (.istore 5, 2) := by decide +kernel
theorem dX6_lookAt_75 : decode cX6_lookAt 75 = .ok (.iinc 6 1, 3) := by decide +kernel
theorem dX6_lookAt_78 : decode cX6_lookAt 78 = .ok (.goto (-67), 3) := by decide +kernel
theorem dX6_lookAt_81 : decode cX6_lookAt 81 = .ok (.aload_n 0, 1) := by decide +kernel
theorem dX6_lookAt_82 : decode cX6_lookAt 82 = .ok (.getfield 21, 3) := by decide +kernel
theorem dX6_lookAt_85 : decode cX6_lookAt 85 = .ok (.iconst 0, 1) := by decide +kernel
theorem dX6_lookAt_86 : decode cX6_lookAt 86 = .ok (.aload_n 1, 1) := by decide +kernel
theorem dX6_lookAt_87 : decode cX6_lookAt 87 = .ok (.getfield 112, 3) := by decide +kernel
theorem dX6_lookAt_90 : decode cX6_lookAt 90 = .ok (.iload_n 2, 1) := by decide +kernel
theorem dX6_lookAt_91 : decode cX6_lookAt 91 = .ok (.iaload, 1) := by decide +kernel
theorem dX6_lookAt_92 : decode cX6_lookAt 92 = .ok (.iastore, 1) := by decide +kernel
theorem dX6_lookAt_93 : decode cX6_lookAt 93 = .ok (.aload_n 0, 1) := by decide +kernel
theorem dX6_lookAt_94 : decode cX6_lookAt 94 = .ok (.getfield 21, 3) := by decide +kernel
theorem dX6_lookAt_97 : decode cX6_lookAt 97 = .ok (.iconst 1, 1) := by decide +kernel
theorem dX6_lookAt_98 : decode cX6_lookAt 98 = .ok (.iload 4, 2) := by decide +kernel
theorem dX6_lookAt_100 : decode cX6_lookAt 100 = .ok (.ifCond .ne 12, 3) := by decide +kernel
theorem dX6_lookAt_103 : decode cX6_lookAt 103 = .ok (.aload_n 1, 1) := by decide +kernel
theorem dX6_lookAt_104 : decode cX6_lookAt 104 = .ok (.getfield 112, 3) := by decide +kernel
theorem dX6_lookAt_107 : decode cX6_lookAt 107 = .ok (.iload_n 2, 1) := by decide +kernel
theorem dX6_lookAt_108 : decode cX6_lookAt 108 = .ok (.iaload, 1) := by decide +kernel
theorem dX6_lookAt_109 : decode cX6_lookAt 109 = .ok (.goto 7, 3) := by decide +kernel
theorem dX6_lookAt_112 : decode cX6_lookAt 112 = .ok (.iload_n 3, 1) := by decide +kernel
theorem dX6_lookAt_113 : decode cX6_lookAt 113 = .ok (.iload 4, 2) := by decide +kernel
theorem dX6_lookAt_115 : decode cX6_lookAt 115 = .ok (.idiv, 1) := by decide +kernel
theorem dX6_lookAt_116 : decode cX6_lookAt 116 = .ok (.iastore, 1) := by decide +kernel
theorem dX6_lookAt_117 : decode cX6_lookAt 117 = .ok (.aload_n 0, 1) := by decide +kernel
theorem dX6_lookAt_118 : decode cX6_lookAt 118 = .ok (.getfield 21, 3) := by decide +kernel
theorem dX6_lookAt_121 : decode cX6_lookAt 121 = .ok (.iconst 2, 1) := by decide +kernel
theorem dX6_lookAt_122 : decode cX6_lookAt 122 = .ok (.iload 4, 2) := by decide +kernel
theorem dX6_lookAt_124 : decode cX6_lookAt 124 = .ok (.iastore, 1) := by decide +kernel
theorem dX6_lookAt_125 : decode cX6_lookAt 125 = .ok (.aload_n 0, 1) := by decide +kernel
theorem dX6_lookAt_126 : decode cX6_lookAt 126 = .ok (.getfield 21, 3) := by decide +kernel
theorem dX6_lookAt_129 : decode cX6_lookAt 129 = .ok (.iconst 3, 1) := by decide +kernel
theorem dX6_lookAt_130 : decode cX6_lookAt 130 = .ok (.iload 5, 2) := by decide +kernel
theorem dX6_lookAt_132 : decode cX6_lookAt 132 = .ok (.iastore, 1) := by decide +kernel
theorem dX6_lookAt_133 : decode cX6_lookAt 133 = .ok (.aload_n 0, 1) := by decide +kernel
theorem dX6_lookAt_134 : decode cX6_lookAt 134 = .ok (.getfield 21, 3) := by decide +kernel
theorem dX6_lookAt_137 : decode cX6_lookAt 137 = .ok (.iconst 4, 1) := by decide +kernel
theorem dX6_lookAt_138 : decode cX6_lookAt 138 = .ok (.aload_n 1, 1) := by decide +kernel
theorem dX6_lookAt_139 : decode cX6_lookAt 139 = .ok (.getfield 118, 3) := by decide +kernel
theorem dX6_lookAt_142 : decode cX6_lookAt 142 = .ok (.iload_n 2, 1) := by decide +kernel
theorem dX6_lookAt_143 : decode cX6_lookAt 143 = .ok (.ishr, 1) := by decide +kernel
theorem dX6_lookAt_144 : decode cX6_lookAt 144 = .ok (.iconst 1, 1) := by decide +kernel
theorem dX6_lookAt_145 : decode cX6_lookAt 145 = .ok (.iand, 1) := by decide +kernel
theorem dX6_lookAt_146 : decode cX6_lookAt 146 = .ok (.iastore, 1) := by decide +kernel
theorem dX6_lookAt_147 : decode cX6_lookAt 147 = .ok (.aload_n 0, 1) := by decide +kernel
theorem dX6_lookAt_148 : decode cX6_lookAt 148 = .ok (.getfield 21, 3) := by decide +kernel
theorem dX6_lookAt_151 : decode cX6_lookAt 151 = .ok (.iconst 5, 1) := by decide +kernel
theorem dX6_lookAt_152 : decode cX6_lookAt 152 = .ok (.aload_n 1, 1) := by decide +kernel
theorem dX6_lookAt_153 : decode cX6_lookAt 153 = .ok (.getfield 121, 3) := by decide +kernel
theorem dX6_lookAt_156 : decode cX6_lookAt 156 = .ok (.bipush 7, 2) := by decide +kernel
theorem dX6_lookAt_158 : decode cX6_lookAt 158 = .ok (.irem, 1) := by decide +kernel
theorem dX6_lookAt_159 : decode cX6_lookAt 159 = .ok (.iastore, 1) := by decide +kernel
theorem dX6_lookAt_160 : decode cX6_lookAt 160 = .ok (.aload_n 0, 1) := by decide +kernel
theorem dX6_lookAt_161 : decode cX6_lookAt 161 = .ok (.getfield 21, 3) := by decide +kernel
theorem dX6_lookAt_164 : decode cX6_lookAt 164 = .ok (.bipush 6, 2) := by decide +kernel
theorem dX6_lookAt_166 : decode cX6_lookAt 166 = .ok (.aload_n 1, 1) := by decide +kernel
theorem dX6_lookAt_167 : decode cX6_lookAt 167 = .ok (.getfield 115, 3) := by decide +kernel
theorem dX6_lookAt_170 : decode cX6_lookAt 170 = .ok (.iload_n 2, 1) := by decide +kernel
theorem dX6_lookAt_171 : decode cX6_lookAt 171 = .ok (.iaload, 1) := by decide +kernel
theorem dX6_lookAt_172 : decode cX6_lookAt 172 = .ok (.iastore, 1) := by decide +kernel
theorem dX6_lookAt_173 : decode cX6_lookAt 173 = .ok (.return_, 1) := by decide +kernel
def b_X6_lookAt_11 (σ : uS) (i1 : Nat) (p2 : Int32) (J81_4 : Int32 → Int32 → Int32 → Option uS) (rec11_21 : Int32 → Int32 → Int32 → Int32 → Option uS) (x17 : Int32) (x18 : Int32) (x19 : Int32) (x20 : Int32) : Option uS :=
  if (σ.1 i1 8) ≤ x20 then (J81_4 x17 x18 x19) else ((u_rI ZC σ 0 (i1 + 5) p2).bind fun v22 =>
  u_jn (fun (x23 : Int32) (x24 : Int32) (x25 : Int32) => (u_jn (x20 + 1 : Int32) fun x27 =>
  rec11_21 x23 x24 x25 x27 : Option uS)) fun J75_26 =>
  if ((v22 >>> (x20 &&& 31)) &&& 1) = 1 then ((u_rI ZC σ 0 (i1 + 2) x20).bind fun v28 =>
  u_jn ((x17 + v28) : Int32) fun x29 =>
  u_jn (x18 + 1 : Int32) fun x30 =>
  (u_rI ZC σ 0 (i1 + 2) x20).bind fun v31 =>
  (u_rI ZC σ 0 (i1 + 4) x20).bind fun v32 =>
  u_jn (fun (t33 : Int32) => (u_jn ((x19 + t33) : Int32) fun x35 =>
  J75_26 x29 x30 x35 : Option uS)) fun J72_34 =>
  if v32 ≤ v31 then (J72_34 0) else (J72_34 1)) else (J75_26 x17 x18 x19))
def f_X6_lookAt (N : Nat) (σ : uS) (i0 : Nat) (i1 : Nat) (p2 : Int32) : Option uS := u_jn (fun (x1 : Int32) (x2 : Int32) (x3 : Int32) => ((u_rI ZC σ 0 (i1 + 2) p2).bind fun v5 =>
  (u_wI ZC σ 0 (i0 + 4) 0 v5).bind fun s6 =>
  u_jn (fun (t7 : Int32) => ((u_wI ZC s6 0 (i0 + 4) 1 t7).bind fun s9 =>
  (u_wI ZC s9 0 (i0 + 4) 2 x2).bind fun s10 =>
  (u_wI ZC s10 0 (i0 + 4) 3 x3).bind fun s11 =>
  (u_wI ZC s11 0 (i0 + 4) 4 (((s11.1 i1 9) >>> (p2 &&& 31)) &&& 1)).bind fun s12 =>
  (u_wI ZC s12 0 (i0 + 4) 5 ((s12.1 i1 10) - (s12.1 i1 10) / 7 * 7)).bind fun s13 =>
  (u_rI ZC s13 0 (i1 + 4) p2).bind fun v14 =>
  (u_wI ZC s13 0 (i0 + 4) 6 v14).bind fun s15 =>
  some s15 : Option uS)) fun J116_8 =>
  if x2 = 0 then ((u_rI ZC s6 0 (i1 + 2) p2).bind fun v16 =>
  J116_8 v16) else (u_ck (¬ (x2 : Int32) = 0) <|
  J116_8 (x1 / x2)) : Option uS)) fun J81_4 =>
  u_lp4 (b_X6_lookAt_11 σ i1 p2 J81_4) N 0 0 0 0
set_option maxRecDepth 100000 in
set_option maxHeartbeats 4000000 in
theorem c_X6_lookAt (l : Launch) (G : uG) (N : Nat) (σ : uS) (i0 : Nat) (oi0 : u_o ZC i0 5 11 (k_R i0)) (i1 : Nat) (oi1 : u_o ZC i1 6 12 (k_S i1)) (p2 : Int32) (z : uS) (hz : f_X6_lookAt N σ i0 i1 p2 = some z) : u_Mv l ZC G yX6_lookAt cX6_lookAt 7 0 [.ref (G.2.2 i0), .ref (G.2.2 i1), .int p2] σ z := by
  refine u_Mv_of RX6 (by decide) rfl (Nat.le_of_ble_eq_true rfl) ?_
  intro p e s m args below meth c ls cx hw hl
  have hx := cx.1
  have hb := cx.2.1
  have hl : lv_has ls 7 [(0, .ref (G.2.2 i0)), (1, .ref (G.2.2 i1)), (2, .int p2)] := hl
  unfold f_X6_lookAt at hz
  refine lv_iconst (v := 0) hx hb dX6_lookAt_0 (by decide) ?_
  refine lv_istore_n (lv' := [(3, .int 0), (0, .ref (G.2.2 i0)), (1, .ref (G.2.2 i1)), (2, .int p2)]) hx hb dX6_lookAt_1 rfl hl (by decide) rfl (fun ls hl => ?_)
  refine lv_iconst (v := 0) hx hb dX6_lookAt_2 (by decide) ?_
  refine lv_istore (lv' := [(4, .int 0), (3, .int 0), (0, .ref (G.2.2 i0)), (1, .ref (G.2.2 i1)), (2, .int p2)]) hx hb dX6_lookAt_3 hl (by decide) rfl (fun ls hl => ?_)
  refine lv_iconst (v := 0) hx hb dX6_lookAt_5 (by decide) ?_
  refine lv_istore (lv' := [(5, .int 0), (4, .int 0), (3, .int 0), (0, .ref (G.2.2 i0)), (1, .ref (G.2.2 i1)), (2, .int p2)]) hx hb dX6_lookAt_6 hl (by decide) rfl (fun ls hl => ?_)
  refine lv_iconst (v := 0) hx hb dX6_lookAt_8 (by decide) ?_
  refine lv_istore (lv' := [(6, .int 0), (5, .int 0), (4, .int 0), (3, .int 0), (0, .ref (G.2.2 i0)), (1, .ref (G.2.2 i1)), (2, .int p2)]) hx hb dX6_lookAt_9 hl (by decide) rfl (fun ls hl => ?_)
  obtain ⟨J81_4, eJ81_4, hz⟩ := u_let hz
  have WJ81_4 : ∀ (x1 : Int32) (x2 : Int32) (x3 : Int32) (H : Heap) (locs : List Loc) (ls : Array Slot), J81_4 x1 x2 x3 = some z → u_W ZC G σ s H locs → lv_has ls 7 [(0, .ref (G.2.2 i0)), (1, .ref (G.2.2 i1)), (2, .int p2), (3, .int x1), (4, .int x2), (5, .int x3)] → W p l e (u_rm 0) s m args below meth c H locs 0 0 (u_Qv below ZC G s args z) (F0 m 81 ls []) := by
    intro x1 x2 x3 H locs ls hz hw hl
    rw [eJ81_4] at hz
    refine lv_aload_n hx hb dX6_lookAt_81 rfl (lv_at hl 0 rfl) ?_
    refine u_getp cx hw F_X6_21 oi0 rfl dX6_lookAt_82 ?_
    refine lv_iconst (v := 0) hx hb dX6_lookAt_85 (by decide) ?_
    refine lv_aload_n hx hb dX6_lookAt_86 rfl (lv_at hl 1 rfl) ?_
    refine u_getp cx hw F_X6_112 oi1 rfl dX6_lookAt_87 ?_
    refine lv_iload_n hx hb dX6_lookAt_90 rfl (lv_at hl 2 rfl) ?_
    obtain ⟨v5, hv5, hz⟩ := u_bind hz
    refine u_iald cx hw hv5 dX6_lookAt_91 ?_
    obtain ⟨s6, hs6, hz⟩ := u_bind hz
    refine u_iast cx hw hs6 dX6_lookAt_92 (fun H locs hw => ?_)
    refine lv_aload_n hx hb dX6_lookAt_93 rfl (lv_at hl 0 rfl) ?_
    refine u_getp cx hw F_X6_21 oi0 rfl dX6_lookAt_94 ?_
    refine lv_iconst (v := 1) hx hb dX6_lookAt_97 (by decide) ?_
    refine lv_iload hx hb dX6_lookAt_98 (lv_at hl 4 rfl) ?_
    obtain ⟨J116_8, eJ116_8, hz⟩ := u_let hz
    have WJ116_8 : ∀ (t7 : Int32) (H : Heap) (locs : List Loc) (ls : Array Slot), J116_8 t7 = some z → u_W ZC G s6 s H locs → lv_has ls 7 [(0, .ref (G.2.2 i0)), (1, .ref (G.2.2 i1)), (2, .int p2), (4, .int x2), (5, .int x3)] → W p l e (u_rm 0) s m args below meth c H locs 0 0 (u_Qv below ZC G s args z) (F0 m 116 ls [.int t7, .int 1, .ref (G.2.2 (i0 + 4))]) := by
      intro t7 H locs ls hz hw hl
      rw [eJ116_8] at hz
      obtain ⟨s9, hs9, hz⟩ := u_bind hz
      refine u_iast cx hw hs9 dX6_lookAt_116 (fun H locs hw => ?_)
      refine lv_aload_n hx hb dX6_lookAt_117 rfl (lv_at hl 0 rfl) ?_
      refine u_getp cx hw F_X6_21 oi0 rfl dX6_lookAt_118 ?_
      refine lv_iconst (v := 2) hx hb dX6_lookAt_121 (by decide) ?_
      refine lv_iload hx hb dX6_lookAt_122 (lv_at hl 3 rfl) ?_
      obtain ⟨s10, hs10, hz⟩ := u_bind hz
      refine u_iast cx hw hs10 dX6_lookAt_124 (fun H locs hw => ?_)
      refine lv_aload_n hx hb dX6_lookAt_125 rfl (lv_at hl 0 rfl) ?_
      refine u_getp cx hw F_X6_21 oi0 rfl dX6_lookAt_126 ?_
      refine lv_iconst (v := 3) hx hb dX6_lookAt_129 (by decide) ?_
      refine lv_iload hx hb dX6_lookAt_130 (lv_at hl 4 rfl) ?_
      obtain ⟨s11, hs11, hz⟩ := u_bind hz
      refine u_iast cx hw hs11 dX6_lookAt_132 (fun H locs hw => ?_)
      refine lv_aload_n hx hb dX6_lookAt_133 rfl (lv_at hl 0 rfl) ?_
      refine u_getp cx hw F_X6_21 oi0 rfl dX6_lookAt_134 ?_
      refine lv_iconst (v := 4) hx hb dX6_lookAt_137 (by decide) ?_
      refine lv_aload_n hx hb dX6_lookAt_138 rfl (lv_at hl 1 rfl) ?_
      refine u_geti cx hw F_X6_118 oi1 rfl dX6_lookAt_139 ?_
      refine lv_iload_n hx hb dX6_lookAt_142 rfl (lv_at hl 2 rfl) ?_
      refine lv_ishr hx hb dX6_lookAt_143 ?_
      refine lv_iconst (v := 1) hx hb dX6_lookAt_144 (by decide) ?_
      refine lv_iand hx hb dX6_lookAt_145 ?_
      obtain ⟨s12, hs12, hz⟩ := u_bind hz
      refine u_iast cx hw hs12 dX6_lookAt_146 (fun H locs hw => ?_)
      refine lv_aload_n hx hb dX6_lookAt_147 rfl (lv_at hl 0 rfl) ?_
      refine u_getp cx hw F_X6_21 oi0 rfl dX6_lookAt_148 ?_
      refine lv_iconst (v := 5) hx hb dX6_lookAt_151 (by decide) ?_
      refine lv_aload_n hx hb dX6_lookAt_152 rfl (lv_at hl 1 rfl) ?_
      refine u_geti cx hw F_X6_121 oi1 rfl dX6_lookAt_153 ?_
      refine lv_bipush (v := 7) hx hb dX6_lookAt_156 (by decide) ?_
      refine lv_irem hx hb dX6_lookAt_158 (by decide) ?_
      obtain ⟨s13, hs13, hz⟩ := u_bind hz
      refine u_iast cx hw hs13 dX6_lookAt_159 (fun H locs hw => ?_)
      refine lv_aload_n hx hb dX6_lookAt_160 rfl (lv_at hl 0 rfl) ?_
      refine u_getp cx hw F_X6_21 oi0 rfl dX6_lookAt_161 ?_
      refine lv_bipush (v := 6) hx hb dX6_lookAt_164 (by decide) ?_
      refine lv_aload_n hx hb dX6_lookAt_166 rfl (lv_at hl 1 rfl) ?_
      refine u_getp cx hw F_X6_115 oi1 rfl dX6_lookAt_167 ?_
      refine lv_iload_n hx hb dX6_lookAt_170 rfl (lv_at hl 2 rfl) ?_
      obtain ⟨v14, hv14, hz⟩ := u_bind hz
      refine u_iald cx hw hv14 dX6_lookAt_171 ?_
      obtain ⟨s15, hs15, hz⟩ := u_bind hz
      refine u_iast cx hw hs15 dX6_lookAt_172 (fun H locs hw => ?_)
      exact u_vret cx hw (Option.some.inj hz) dX6_lookAt_173
    refine lv_if_ne (tgt := 112) hx hb dX6_lookAt_100 (by decide) (fun hc => ?_) (fun hc => ?_)
    · replace hz := u_iff hz hc
      refine lv_iload_n hx hb dX6_lookAt_112 rfl (lv_at hl 3 rfl) ?_
      refine lv_iload hx hb dX6_lookAt_113 (lv_at hl 4 rfl) ?_
      obtain ⟨hne, hz⟩ := u_ck_some hz
      refine lv_idiv hx hb dX6_lookAt_115 hne ?_
      exact WJ116_8 (x1 / x2) _ _ _ hz hw (lv_sub hl [0, 1, 2, 4, 5] rfl)
    · replace hz := u_ift hz hc
      refine lv_aload_n hx hb dX6_lookAt_103 rfl (lv_at hl 1 rfl) ?_
      refine u_getp cx hw F_X6_112 oi1 rfl dX6_lookAt_104 ?_
      refine lv_iload_n hx hb dX6_lookAt_107 rfl (lv_at hl 2 rfl) ?_
      obtain ⟨v16, hv16, hz⟩ := u_bind hz
      refine u_iald cx hw hv16 dX6_lookAt_108 ?_
      refine lv_goto (tgt := 116) hx hb dX6_lookAt_109 (by decide) ?_
      exact WJ116_8 v16 _ _ _ hz hw (lv_sub hl [0, 1, 2, 4, 5] rfl)
  have WL11_35 : ∀ (k : Nat) (x17 : Int32) (x18 : Int32) (x19 : Int32) (x20 : Int32) (H : Heap) (locs : List Loc) (ls : Array Slot), u_lp4 (b_X6_lookAt_11 σ i1 p2 J81_4) k x17 x18 x19 x20 = some z → u_W ZC G σ s H locs → lv_has ls 7 [(0, .ref (G.2.2 i0)), (1, .ref (G.2.2 i1)), (2, .int p2), (3, .int x17), (4, .int x18), (5, .int x19), (6, .int x20)] → W p l e (u_rm 0) s m args below meth c H locs 0 0 (u_Qv below ZC G s args z) (F0 m 11 ls []) := by
    intro k
    induction k with
    | zero =>
      intro x17 x18 x19 x20 H locs ls hz
      exact absurd hz (by intro h9; cases h9)
    | succ k ih11_21 =>
      intro x17 x18 x19 x20 H locs ls hz hw hl
      have hz : (b_X6_lookAt_11 σ i1 p2 J81_4) (u_lp4 (b_X6_lookAt_11 σ i1 p2 J81_4) k) x17 x18 x19 x20 = some z := hz
      unfold b_X6_lookAt_11 at hz
      refine lv_iload hx hb dX6_lookAt_11 (lv_at hl 6 rfl) ?_
      refine lv_aload_n hx hb dX6_lookAt_13 rfl (lv_at hl 1 rfl) ?_
      refine u_geti cx hw F_X6_104 oi1 rfl dX6_lookAt_14 ?_
      refine lv_icmp_ge (tgt := 81) hx hb dX6_lookAt_17 (by decide) (fun hc => ?_) (fun hc => ?_)
      · replace hz := u_ift hz hc
        exact WJ81_4 x17 x18 x19 _ _ _ hz hw (lv_sub hl [0, 1, 2, 3, 4, 5] rfl)
      · replace hz := u_iff hz hc
        refine lv_aload_n hx hb dX6_lookAt_20 rfl (lv_at hl 1 rfl) ?_
        refine u_getp cx hw F_X6_109 oi1 rfl dX6_lookAt_21 ?_
        refine lv_iload_n hx hb dX6_lookAt_24 rfl (lv_at hl 2 rfl) ?_
        obtain ⟨v22, hv22, hz⟩ := u_bind hz
        refine u_iald cx hw hv22 dX6_lookAt_25 ?_
        refine lv_iload hx hb dX6_lookAt_26 (lv_at hl 6 rfl) ?_
        refine lv_ishr hx hb dX6_lookAt_28 ?_
        refine lv_iconst (v := 1) hx hb dX6_lookAt_29 (by decide) ?_
        refine lv_iand hx hb dX6_lookAt_30 ?_
        refine lv_iconst (v := 1) hx hb dX6_lookAt_31 (by decide) ?_
        obtain ⟨J75_26, eJ75_26, hz⟩ := u_let hz
        have WJ75_26 : ∀ (x23 : Int32) (x24 : Int32) (x25 : Int32) (H : Heap) (locs : List Loc) (ls : Array Slot), J75_26 x23 x24 x25 = some z → u_W ZC G σ s H locs → lv_has ls 7 [(0, .ref (G.2.2 i0)), (1, .ref (G.2.2 i1)), (2, .int p2), (3, .int x23), (4, .int x24), (5, .int x25), (6, .int x20)] → W p l e (u_rm 0) s m args below meth c H locs 0 0 (u_Qv below ZC G s args z) (F0 m 75 ls []) := by
          intro x23 x24 x25 H locs ls hz hw hl
          rw [eJ75_26] at hz
          obtain ⟨x27, ex27, hz⟩ := u_let hz
          refine lv_iinc (v := x27) (lv' := [(6, .int x27), (0, .ref (G.2.2 i0)), (1, .ref (G.2.2 i1)), (2, .int p2), (3, .int x23), (4, .int x24), (5, .int x25)]) hx hb dX6_lookAt_75 hl (k := 6) rfl (by rw [ex27]; rfl) (by decide) rfl (fun ls hl => ?_)
          refine lv_goto (tgt := 11) hx hb dX6_lookAt_78 (by decide) ?_
          exact ih11_21 x23 x24 x25 x27 _ _ _ hz hw (lv_sub hl [1, 2, 3, 4, 5, 6, 0] rfl)
        refine lv_icmp_ne (tgt := 75) hx hb dX6_lookAt_32 (by decide) (fun hc => ?_) (fun hc => ?_)
        · replace hz := u_iff hz hc
          exact WJ75_26 x17 x18 x19 _ _ _ hz hw (lv_sub hl [0, 1, 2, 3, 4, 5, 6] rfl)
        · replace hz := u_ift hz hc
          refine lv_iload_n hx hb dX6_lookAt_35 rfl (lv_at hl 3 rfl) ?_
          refine lv_aload_n hx hb dX6_lookAt_36 rfl (lv_at hl 1 rfl) ?_
          refine u_getp cx hw F_X6_112 oi1 rfl dX6_lookAt_37 ?_
          refine lv_iload hx hb dX6_lookAt_40 (lv_at hl 6 rfl) ?_
          obtain ⟨v28, hv28, hz⟩ := u_bind hz
          refine u_iald cx hw hv28 dX6_lookAt_42 ?_
          refine lv_iadd hx hb dX6_lookAt_43 ?_
          obtain ⟨x29, ex29, hz⟩ := u_let hz
          refine u_topi ex29 ?_
          refine lv_istore_n (lv' := [(3, .int x29), (0, .ref (G.2.2 i0)), (1, .ref (G.2.2 i1)), (2, .int p2), (4, .int x18), (5, .int x19), (6, .int x20)]) hx hb dX6_lookAt_44 rfl hl (by decide) rfl (fun ls hl => ?_)
          obtain ⟨x30, ex30, hz⟩ := u_let hz
          refine lv_iinc (v := x30) (lv' := [(4, .int x30), (3, .int x29), (0, .ref (G.2.2 i0)), (1, .ref (G.2.2 i1)), (2, .int p2), (5, .int x19), (6, .int x20)]) hx hb dX6_lookAt_45 hl (k := 4) rfl (by rw [ex30]; rfl) (by decide) rfl (fun ls hl => ?_)
          refine lv_iload hx hb dX6_lookAt_48 (lv_at hl 5 rfl) ?_
          refine lv_aload_n hx hb dX6_lookAt_50 rfl (lv_at hl 3 rfl) ?_
          refine u_getp cx hw F_X6_112 oi1 rfl dX6_lookAt_51 ?_
          refine lv_iload hx hb dX6_lookAt_54 (lv_at hl 6 rfl) ?_
          obtain ⟨v31, hv31, hz⟩ := u_bind hz
          refine u_iald cx hw hv31 dX6_lookAt_56 ?_
          refine lv_aload_n hx hb dX6_lookAt_57 rfl (lv_at hl 3 rfl) ?_
          refine u_getp cx hw F_X6_115 oi1 rfl dX6_lookAt_58 ?_
          refine lv_iload hx hb dX6_lookAt_61 (lv_at hl 6 rfl) ?_
          obtain ⟨v32, hv32, hz⟩ := u_bind hz
          refine u_iald cx hw hv32 dX6_lookAt_63 ?_
          obtain ⟨J72_34, eJ72_34, hz⟩ := u_let hz
          have WJ72_34 : ∀ (t33 : Int32) (H : Heap) (locs : List Loc) (ls : Array Slot), J72_34 t33 = some z → u_W ZC G σ s H locs → lv_has ls 7 [(0, .ref (G.2.2 i0)), (1, .ref (G.2.2 i1)), (2, .int p2), (3, .int x29), (4, .int x30), (6, .int x20)] → W p l e (u_rm 0) s m args below meth c H locs 0 0 (u_Qv below ZC G s args z) (F0 m 72 ls [.int t33, .int x19]) := by
            intro t33 H locs ls hz hw hl
            rw [eJ72_34] at hz
            refine lv_iadd hx hb dX6_lookAt_72 ?_
            obtain ⟨x35, ex35, hz⟩ := u_let hz
            refine u_topi ex35 ?_
            refine lv_istore (lv' := [(5, .int x35), (0, .ref (G.2.2 i0)), (1, .ref (G.2.2 i1)), (2, .int p2), (3, .int x29), (4, .int x30), (6, .int x20)]) hx hb dX6_lookAt_73 hl (by decide) rfl (fun ls hl => ?_)
            exact WJ75_26 x29 x30 x35 _ _ _ hz hw (lv_sub hl [1, 2, 3, 4, 5, 0, 6] rfl)
          refine lv_icmp_ge (tgt := 71) hx hb dX6_lookAt_64 (by decide) (fun hc => ?_) (fun hc => ?_)
          · replace hz := u_ift hz hc
            refine lv_iconst (v := 0) hx hb dX6_lookAt_71 (by decide) ?_
            exact WJ72_34 0 _ _ _ hz hw (lv_sub hl [2, 3, 4, 1, 0, 6] rfl)
          · replace hz := u_iff hz hc
            refine lv_iconst (v := 1) hx hb dX6_lookAt_67 (by decide) ?_
            refine lv_goto (tgt := 72) hx hb dX6_lookAt_68 (by decide) ?_
            exact WJ72_34 1 _ _ _ hz hw (lv_sub hl [2, 3, 4, 1, 0, 6] rfl)
  exact WL11_35 N 0 0 0 0 _ _ _ hz hw (lv_sub hl [4, 5, 6, 3, 2, 1, 0] rfl)
theorem dX6_thing_0 : decode cX6_thing 0 = .ok (.iload_n 1, 1) := by decide +kernel
theorem dX6_thing_1 : decode cX6_thing 1 = .ok (.ifCond .lt 21, 3) := by decide +kernel
theorem dX6_thing_4 : decode cX6_thing 4 = .ok (.iload_n 1, 1) := by decide +kernel
theorem dX6_thing_5 : decode cX6_thing 5 = .ok (.aload_n 0, 1) := by decide +kernel
theorem dX6_thing_6 : decode cX6_thing 6 = .ok (.getfield 21, 3) := by decide +kernel
theorem dX6_thing_9 : decode cX6_thing 9 = .ok (.arraylength, 1) := by decide +kernel
theorem dX6_thing_10 : decode cX6_thing 10 = .ok (.if_icmp .ge 12, 3) := by decide +kernel
theorem dX6_thing_13 : decode cX6_thing 13 = .ok (.aload_n 0, 1) := by decide +kernel
theorem dX6_thing_14 : decode cX6_thing 14 = .ok (.getfield 21, 3) := by decide +kernel
theorem dX6_thing_17 : decode cX6_thing 17 = .ok (.iload_n 1, 1) := by decide +kernel
theorem dX6_thing_18 : decode cX6_thing 18 = .ok (.iaload, 1) := by decide +kernel
theorem dX6_thing_19 : decode cX6_thing 19 = .ok (.goto 4, 3) := by decide +kernel
theorem dX6_thing_22 : decode cX6_thing 22 = .ok (.iconst 0, 1) := by decide +kernel
theorem dX6_thing_23 : decode cX6_thing 23 = .ok (.ireturn, 1) := by decide +kernel
def f_X6_thing (N : Nat) (σ : uS) (i0 : Nat) (p1 : Int32) : Option Int32 := u_jn ((some 0 : Option Int32)) fun J22_1 =>
  if p1 < 0 then (J22_1) else ((u_len ZC (i0 + 4)).bind fun v2 =>
  if v2 ≤ p1 then (J22_1) else ((u_rI ZC σ 0 (i0 + 4) p1).bind fun v3 =>
  some v3))
set_option maxRecDepth 100000 in
set_option maxHeartbeats 4000000 in
theorem c_X6_thing (l : Launch) (G : uG) (N : Nat) (σ : uS) (i0 : Nat) (oi0 : u_o ZC i0 5 11 (k_R i0)) (p1 : Int32) (z : Int32) (hz : f_X6_thing N σ i0 p1 = some z) : u_Mi l ZC G yX6_thing cX6_thing 2 .int 0 [.ref (G.2.2 i0), .int p1] σ z σ := by
  refine u_Mi_of RX6 (by decide) rfl (Nat.le_of_ble_eq_true rfl) ?_
  intro p e s m args below meth c ls cx hw hl
  have hx := cx.1
  have hb := cx.2.1
  have hl : lv_has ls 2 [(0, .ref (G.2.2 i0)), (1, .int p1)] := hl
  unfold f_X6_thing at hz
  refine lv_iload_n hx hb dX6_thing_0 rfl (lv_at hl 1 rfl) ?_
  obtain ⟨J22_1, eJ22_1, hz⟩ := u_let hz
  have WJ22_1 : ∀ (H : Heap) (locs : List Loc) (ls : Array Slot), J22_1 = some z → u_W ZC G σ s H locs → lv_has ls 2 [] → W p l e (u_rm 0) s m args below meth c H locs 0 0 (u_Qi below ZC G s args z σ) (F0 m 22 ls []) := by
    intro H locs ls hz hw hl
    rw [eJ22_1] at hz
    refine lv_iconst (v := 0) hx hb dX6_thing_22 (by decide) ?_
    exact u_iret cx hw ⟨Option.some.inj hz, rfl⟩ dX6_thing_23
  refine lv_if_lt (tgt := 22) hx hb dX6_thing_1 (by decide) (fun hc => ?_) (fun hc => ?_)
  · replace hz := u_ift hz hc
    exact WJ22_1 _ _ _ hz hw (lv_sub hl [] rfl)
  · replace hz := u_iff hz hc
    refine lv_iload_n hx hb dX6_thing_4 rfl (lv_at hl 1 rfl) ?_
    refine lv_aload_n hx hb dX6_thing_5 rfl (lv_at hl 0 rfl) ?_
    refine u_getp cx hw F_X6_21 oi0 rfl dX6_thing_6 ?_
    obtain ⟨v2, hv2, hz⟩ := u_bind hz
    refine u_alen cx hw hv2 dX6_thing_9 ?_
    refine lv_icmp_ge (tgt := 22) hx hb dX6_thing_10 (by decide) (fun hc => ?_) (fun hc => ?_)
    · replace hz := u_ift hz hc
      exact WJ22_1 _ _ _ hz hw (lv_sub hl [] rfl)
    · replace hz := u_iff hz hc
      refine lv_aload_n hx hb dX6_thing_13 rfl (lv_at hl 0 rfl) ?_
      refine u_getp cx hw F_X6_21 oi0 rfl dX6_thing_14 ?_
      refine lv_iload_n hx hb dX6_thing_17 rfl (lv_at hl 1 rfl) ?_
      obtain ⟨v3, hv3, hz⟩ := u_bind hz
      refine u_iald cx hw hv3 dX6_thing_18 ?_
      refine lv_goto (tgt := 23) hx hb dX6_thing_19 (by decide) ?_
      exact u_iret cx hw ⟨Option.some.inj hz, rfl⟩ dX6_thing_23
theorem dX6_joined_0 : decode cX6_joined 0 = .ok (.iload_n 1, 1) := by decide +kernel
theorem dX6_joined_1 : decode cX6_joined 1 = .ok (.lookupswitch 105 #[(42, 67), (43, 59), (45, 63), (47, 71), (60, 83), (62, 94)], 59) := by decide +kernel
theorem dX6_joined_60 : decode cX6_joined 60 = .ok (.iload_n 0, 1) := by decide +kernel
theorem dX6_joined_61 : decode cX6_joined 61 = .ok (.iload_n 2, 1) := by decide +kernel
theorem dX6_joined_62 : decode cX6_joined 62 = .ok (.iadd, 1) := by decide +kernel
theorem dX6_joined_63 : decode cX6_joined 63 = .ok (.ireturn, 1) := by decide +kernel
theorem dX6_joined_64 : decode cX6_joined 64 = .ok (.iload_n 0, 1) := by decide +kernel
theorem dX6_joined_65 : decode cX6_joined 65 = .ok (.iload_n 2, 1) := by decide +kernel
theorem dX6_joined_66 : decode cX6_joined 66 = .ok (.isub, 1) := by decide +kernel
theorem dX6_joined_67 : decode cX6_joined 67 = .ok (.ireturn, 1) := by decide +kernel
theorem dX6_joined_68 : decode cX6_joined 68 = .ok (.iload_n 0, 1) := by decide +kernel
theorem dX6_joined_69 : decode cX6_joined 69 = .ok (.iload_n 2, 1) := by decide +kernel
theorem dX6_joined_70 : decode cX6_joined 70 = .ok (.imul, 1) := by decide +kernel
theorem dX6_joined_71 : decode cX6_joined 71 = .ok (.ireturn, 1) := by decide +kernel
theorem dX6_joined_72 : decode cX6_joined 72 = .ok (.iload_n 2, 1) := by decide +kernel
theorem dX6_joined_73 : decode cX6_joined 73 = .ok (.ifCond .ne 7, 3) := by decide +kernel
theorem dX6_joined_76 : decode cX6_joined 76 = .ok (.iconst 0, 1) := by decide +kernel
theorem dX6_joined_77 : decode cX6_joined 77 = .ok (.goto 6, 3) := by decide +kernel
theorem dX6_joined_80 : decode cX6_joined 80 = .ok (.iload_n 0, 1) := by decide +kernel
theorem dX6_joined_81 : decode cX6_joined 81 = .ok (.iload_n 2, 1) := by decide +kernel
theorem dX6_joined_82 : decode cX6_joined 82 = .ok (.idiv, 1) := by decide +kernel
theorem dX6_joined_83 : decode cX6_joined 83 = .ok (.ireturn, 1) := by decide +kernel
theorem dX6_joined_84 : decode cX6_joined 84 = .ok (.iload_n 0, 1) := by decide +kernel
theorem dX6_joined_85 : decode cX6_joined 85 = .ok (.iload_n 2, 1) := by decide +kernel
theorem dX6_joined_86 : decode cX6_joined 86 = .ok (.if_icmp .ge 7, 3) := by decide +kernel
theorem dX6_joined_89 : decode cX6_joined 89 = .ok (.iconst 1, 1) := by decide +kernel
theorem dX6_joined_90 : decode cX6_joined 90 = .ok (.goto 4, 3) := by decide +kernel
theorem dX6_joined_93 : decode cX6_joined 93 = .ok (.iconst 0, 1) := by decide +kernel
theorem dX6_joined_94 : decode cX6_joined 94 = .ok (.ireturn, 1) := by decide +kernel
theorem dX6_joined_95 : decode cX6_joined 95 = .ok (.iload_n 0, 1) := by decide +kernel
theorem dX6_joined_96 : decode cX6_joined 96 = .ok (.iload_n 2, 1) := by decide +kernel
theorem dX6_joined_97 : decode cX6_joined 97 = .ok (.if_icmp .le 7, 3) := by decide +kernel
theorem dX6_joined_100 : decode cX6_joined 100 = .ok (.iconst 1, 1) := by decide +kernel
theorem dX6_joined_101 : decode cX6_joined 101 = .ok (.goto 4, 3) := by decide +kernel
theorem dX6_joined_104 : decode cX6_joined 104 = .ok (.iconst 0, 1) := by decide +kernel
theorem dX6_joined_105 : decode cX6_joined 105 = .ok (.ireturn, 1) := by decide +kernel
theorem dX6_joined_106 : decode cX6_joined 106 = .ok (.iload_n 0, 1) := by decide +kernel
theorem dX6_joined_107 : decode cX6_joined 107 = .ok (.iload_n 2, 1) := by decide +kernel
theorem dX6_joined_108 : decode cX6_joined 108 = .ok (.if_icmp .ne 7, 3) := by decide +kernel
theorem dX6_joined_111 : decode cX6_joined 111 = .ok (.iconst 1, 1) := by decide +kernel
theorem dX6_joined_112 : decode cX6_joined 112 = .ok (.goto 4, 3) := by decide +kernel
theorem dX6_joined_115 : decode cX6_joined 115 = .ok (.iconst 0, 1) := by decide +kernel
theorem dX6_joined_116 : decode cX6_joined 116 = .ok (.ireturn, 1) := by decide +kernel
def f_X6_joined (N : Nat) (σ : uS) (p0 : Int32) (p1 : Int32) (p2 : Int32) : Option Int32 := if p1 = 42 then (some (p0 * p2)) else (if p1 = 43 then (some (p0 + p2)) else (if p1 = 45 then (some (p0 - p2)) else (if p1 = 47 then (if p2 = 0 then (some 0) else (u_ck (¬ (p2 : Int32) = 0) <|
  some (p0 / p2))) else (if p1 = 60 then (if p2 ≤ p0 then (some 0) else (some 1)) else (if p1 = 62 then (if p0 ≤ p2 then (some 0) else (some 1)) else (if p0 = p2 then (some 1) else (some 0)))))))
set_option maxRecDepth 100000 in
set_option maxHeartbeats 4000000 in
theorem c_X6_joined (l : Launch) (G : uG) (N : Nat) (σ : uS) (p0 : Int32) (p1 : Int32) (p2 : Int32) (z : Int32) (hz : f_X6_joined N σ p0 p1 p2 = some z) : u_Mi l ZC G yX6_joined cX6_joined 3 .int 0 [.int p0, .int p1, .int p2] σ z σ := by
  refine u_Mi_of RX6 (by decide) rfl (Nat.le_of_ble_eq_true rfl) ?_
  intro p e s m args below meth c ls cx hw hl
  have hx := cx.1
  have hb := cx.2.1
  have hl : lv_has ls 3 [(0, .int p0), (1, .int p1), (2, .int p2)] := hl
  unfold f_X6_joined at hz
  refine lv_iload_n hx hb dX6_joined_0 rfl (lv_at hl 1 rfl) ?_
  by_cases hk42 : p1 = 42
  · replace hz := u_ift hz hk42
    refine lv_lookup (off := 67) (tgt := 68) hx hb dX6_joined_1 (by decide) (by rw [hk42]; decide) (by decide) ?_
    refine lv_iload_n hx hb dX6_joined_68 rfl (lv_at hl 0 rfl) ?_
    refine lv_iload_n hx hb dX6_joined_69 rfl (lv_at hl 2 rfl) ?_
    refine lv_imul hx hb dX6_joined_70 ?_
    exact u_iret cx hw ⟨Option.some.inj hz, rfl⟩ dX6_joined_71
  replace hz := u_iff hz hk42
  by_cases hk43 : p1 = 43
  · replace hz := u_ift hz hk43
    refine lv_lookup (off := 59) (tgt := 60) hx hb dX6_joined_1 (by decide) (by rw [hk43]; decide) (by decide) ?_
    refine lv_iload_n hx hb dX6_joined_60 rfl (lv_at hl 0 rfl) ?_
    refine lv_iload_n hx hb dX6_joined_61 rfl (lv_at hl 2 rfl) ?_
    refine lv_iadd hx hb dX6_joined_62 ?_
    exact u_iret cx hw ⟨Option.some.inj hz, rfl⟩ dX6_joined_63
  replace hz := u_iff hz hk43
  by_cases hk45 : p1 = 45
  · replace hz := u_ift hz hk45
    refine lv_lookup (off := 63) (tgt := 64) hx hb dX6_joined_1 (by decide) (by rw [hk45]; decide) (by decide) ?_
    refine lv_iload_n hx hb dX6_joined_64 rfl (lv_at hl 0 rfl) ?_
    refine lv_iload_n hx hb dX6_joined_65 rfl (lv_at hl 2 rfl) ?_
    refine lv_isub hx hb dX6_joined_66 ?_
    exact u_iret cx hw ⟨Option.some.inj hz, rfl⟩ dX6_joined_67
  replace hz := u_iff hz hk45
  by_cases hk47 : p1 = 47
  · replace hz := u_ift hz hk47
    refine lv_lookup (off := 71) (tgt := 72) hx hb dX6_joined_1 (by decide) (by rw [hk47]; decide) (by decide) ?_
    refine lv_iload_n hx hb dX6_joined_72 rfl (lv_at hl 2 rfl) ?_
    refine lv_if_ne (tgt := 80) hx hb dX6_joined_73 (by decide) (fun hc => ?_) (fun hc => ?_)
    · replace hz := u_iff hz hc
      refine lv_iload_n hx hb dX6_joined_80 rfl (lv_at hl 0 rfl) ?_
      refine lv_iload_n hx hb dX6_joined_81 rfl (lv_at hl 2 rfl) ?_
      obtain ⟨hne, hz⟩ := u_ck_some hz
      refine lv_idiv hx hb dX6_joined_82 hne ?_
      exact u_iret cx hw ⟨Option.some.inj hz, rfl⟩ dX6_joined_83
    · replace hz := u_ift hz hc
      refine lv_iconst (v := 0) hx hb dX6_joined_76 (by decide) ?_
      refine lv_goto (tgt := 83) hx hb dX6_joined_77 (by decide) ?_
      exact u_iret cx hw ⟨Option.some.inj hz, rfl⟩ dX6_joined_83
  replace hz := u_iff hz hk47
  by_cases hk60 : p1 = 60
  · replace hz := u_ift hz hk60
    refine lv_lookup (off := 83) (tgt := 84) hx hb dX6_joined_1 (by decide) (by rw [hk60]; decide) (by decide) ?_
    refine lv_iload_n hx hb dX6_joined_84 rfl (lv_at hl 0 rfl) ?_
    refine lv_iload_n hx hb dX6_joined_85 rfl (lv_at hl 2 rfl) ?_
    refine lv_icmp_ge (tgt := 93) hx hb dX6_joined_86 (by decide) (fun hc => ?_) (fun hc => ?_)
    · replace hz := u_ift hz hc
      refine lv_iconst (v := 0) hx hb dX6_joined_93 (by decide) ?_
      exact u_iret cx hw ⟨Option.some.inj hz, rfl⟩ dX6_joined_94
    · replace hz := u_iff hz hc
      refine lv_iconst (v := 1) hx hb dX6_joined_89 (by decide) ?_
      refine lv_goto (tgt := 94) hx hb dX6_joined_90 (by decide) ?_
      exact u_iret cx hw ⟨Option.some.inj hz, rfl⟩ dX6_joined_94
  replace hz := u_iff hz hk60
  by_cases hk62 : p1 = 62
  · replace hz := u_ift hz hk62
    refine lv_lookup (off := 94) (tgt := 95) hx hb dX6_joined_1 (by decide) (by rw [hk62]; decide) (by decide) ?_
    refine lv_iload_n hx hb dX6_joined_95 rfl (lv_at hl 0 rfl) ?_
    refine lv_iload_n hx hb dX6_joined_96 rfl (lv_at hl 2 rfl) ?_
    refine lv_icmp_le (tgt := 104) hx hb dX6_joined_97 (by decide) (fun hc => ?_) (fun hc => ?_)
    · replace hz := u_ift hz hc
      refine lv_iconst (v := 0) hx hb dX6_joined_104 (by decide) ?_
      exact u_iret cx hw ⟨Option.some.inj hz, rfl⟩ dX6_joined_105
    · replace hz := u_iff hz hc
      refine lv_iconst (v := 1) hx hb dX6_joined_100 (by decide) ?_
      refine lv_goto (tgt := 105) hx hb dX6_joined_101 (by decide) ?_
      exact u_iret cx hw ⟨Option.some.inj hz, rfl⟩ dX6_joined_105
  replace hz := u_iff hz hk62
  refine lv_lookup (off := 105) (tgt := 106) hx hb dX6_joined_1 (by decide) (by refine (lv_osw hk42 (by decide)).trans ?_; refine (lv_osw hk43 (by decide)).trans ?_; refine (lv_osw hk45 (by decide)).trans ?_; refine (lv_osw hk47 (by decide)).trans ?_; refine (lv_osw hk60 (by decide)).trans ?_; refine (lv_osw hk62 (by decide)).trans ?_; rfl) (by decide) ?_
  refine lv_iload_n hx hb dX6_joined_106 rfl (lv_at hl 0 rfl) ?_
  refine lv_iload_n hx hb dX6_joined_107 rfl (lv_at hl 2 rfl) ?_
  refine lv_icmp_ne (tgt := 115) hx hb dX6_joined_108 (by decide) (fun hc => ?_) (fun hc => ?_)
  · replace hz := u_iff hz hc
    refine lv_iconst (v := 0) hx hb dX6_joined_115 (by decide) ?_
    exact u_iret cx hw ⟨Option.some.inj hz, rfl⟩ dX6_joined_116
  · replace hz := u_ift hz hc
    refine lv_iconst (v := 1) hx hb dX6_joined_111 (by decide) ?_
    refine lv_goto (tgt := 116) hx hb dX6_joined_112 (by decide) ?_
    exact u_iret cx hw ⟨Option.some.inj hz, rfl⟩ dX6_joined_116
theorem dX7_copy_0 : decode cX7_copy 0 = .ok (.aload_n 1, 1) := by decide +kernel
theorem dX7_copy_1 : decode cX7_copy 1 = .ok (.getfield 9, 3) := by decide +kernel
theorem dX7_copy_4 : decode cX7_copy 4 = .ok (.iconst 0, 1) := by decide +kernel
theorem dX7_copy_5 : decode cX7_copy 5 = .ok (.aload_n 0, 1) := by decide +kernel
theorem dX7_copy_6 : decode cX7_copy 6 = .ok (.getfield 9, 3) := by decide +kernel
theorem dX7_copy_9 : decode cX7_copy 9 = .ok (.iconst 0, 1) := by decide +kernel
theorem dX7_copy_10 : decode cX7_copy 10 = .ok (.bipush 16, 2) := by decide +kernel
theorem dX7_copy_12 : decode cX7_copy 12 = .ok (.invokestatic 31, 3) := by decide +kernel
theorem dX7_copy_15 : decode cX7_copy 15 = .ok (.aload_n 1, 1) := by decide +kernel
theorem dX7_copy_16 : decode cX7_copy 16 = .ok (.getfield 15, 3) := by decide +kernel
theorem dX7_copy_19 : decode cX7_copy 19 = .ok (.iconst 0, 1) := by decide +kernel
theorem dX7_copy_20 : decode cX7_copy 20 = .ok (.aload_n 0, 1) := by decide +kernel
theorem dX7_copy_21 : decode cX7_copy 21 = .ok (.getfield 15, 3) := by decide +kernel
theorem dX7_copy_24 : decode cX7_copy 24 = .ok (.iconst 0, 1) := by decide +kernel
theorem dX7_copy_25 : decode cX7_copy 25 = .ok (.bipush 8, 2) := by decide +kernel
theorem dX7_copy_27 : decode cX7_copy 27 = .ok (.invokestatic 31, 3) := by decide +kernel
theorem dX7_copy_30 : decode cX7_copy 30 = .ok (.aload_n 1, 1) := by decide +kernel
theorem dX7_copy_31 : decode cX7_copy 31 = .ok (.getfield 21, 3) := by decide +kernel
theorem dX7_copy_34 : decode cX7_copy 34 = .ok (.iconst 0, 1) := by decide +kernel
theorem dX7_copy_35 : decode cX7_copy 35 = .ok (.aload_n 0, 1) := by decide +kernel
theorem dX7_copy_36 : decode cX7_copy 36 = .ok (.getfield 21, 3) := by decide +kernel
theorem dX7_copy_39 : decode cX7_copy 39 = .ok (.iconst 0, 1) := by decide +kernel
theorem dX7_copy_40 : decode cX7_copy 40 = .ok (.bipush 8, 2) := by decide +kernel
theorem dX7_copy_42 : decode cX7_copy 42 = .ok (.invokestatic 31, 3) := by decide +kernel
theorem dX7_copy_45 : decode cX7_copy 45 = .ok (.aload_n 1, 1) := by decide +kernel
theorem dX7_copy_46 : decode cX7_copy 46 = .ok (.getfield 24, 3) := by decide +kernel
theorem dX7_copy_49 : decode cX7_copy 49 = .ok (.iconst 0, 1) := by decide +kernel
theorem dX7_copy_50 : decode cX7_copy 50 = .ok (.aload_n 0, 1) := by decide +kernel
theorem dX7_copy_51 : decode cX7_copy 51 = .ok (.getfield 24, 3) := by decide +kernel
theorem dX7_copy_54 : decode cX7_copy 54 = .ok (.iconst 0, 1) := by decide +kernel
theorem dX7_copy_55 : decode cX7_copy 55 = .ok (.bipush 8, 2) := by decide +kernel
theorem dX7_copy_57 : decode cX7_copy 57 = .ok (.invokestatic 31, 3) := by decide +kernel
theorem dX7_copy_60 : decode cX7_copy 60 = .ok (.aload_n 0, 1) := by decide +kernel
theorem dX7_copy_61 : decode cX7_copy 61 = .ok (.aload_n 1, 1) := by decide +kernel
theorem dX7_copy_62 : decode cX7_copy 62 = .ok (.getfield 27, 3) := by decide +kernel
theorem dX7_copy_65 : decode cX7_copy 65 = .ok (.putfield 27, 3) := by decide +kernel
theorem dX7_copy_68 : decode cX7_copy 68 = .ok (.aload_n 0, 1) := by decide +kernel
theorem dX7_copy_69 : decode cX7_copy 69 = .ok (.aload_n 1, 1) := by decide +kernel
theorem dX7_copy_70 : decode cX7_copy 70 = .ok (.getfield 37, 3) := by decide +kernel
theorem dX7_copy_73 : decode cX7_copy 73 = .ok (.putfield 37, 3) := by decide +kernel
theorem dX7_copy_76 : decode cX7_copy 76 = .ok (.aload_n 0, 1) := by decide +kernel
theorem dX7_copy_77 : decode cX7_copy 77 = .ok (.aload_n 1, 1) := by decide +kernel
theorem dX7_copy_78 : decode cX7_copy 78 = .ok (.getfield 40, 3) := by decide +kernel
theorem dX7_copy_81 : decode cX7_copy 81 = .ok (.putfield 40, 3) := by decide +kernel
theorem dX7_copy_84 : decode cX7_copy 84 = .ok (.aload_n 0, 1) := by decide +kernel
theorem dX7_copy_85 : decode cX7_copy 85 = .ok (.aload_n 1, 1) := by decide +kernel
theorem dX7_copy_86 : decode cX7_copy 86 = .ok (.getfield 43, 3) := by decide +kernel
theorem dX7_copy_89 : decode cX7_copy 89 = .ok (.putfield 43, 3) := by decide +kernel
theorem dX7_copy_92 : decode cX7_copy 92 = .ok (.aload_n 0, 1) := by decide +kernel
theorem dX7_copy_93 : decode cX7_copy 93 = .ok (.aload_n 1, 1) := by decide +kernel
theorem dX7_copy_94 : decode cX7_copy 94 = .ok (.getfield 46, 3) := by decide +kernel
theorem dX7_copy_97 : decode cX7_copy 97 = .ok (.putfield 46, 3) := by decide +kernel
theorem dX7_copy_100 : decode cX7_copy 100 = .ok (.aload_n 0, 1) := by decide +kernel
theorem dX7_copy_101 : decode cX7_copy 101 = .ok (.aload_n 1, 1) := by decide +kernel
theorem dX7_copy_102 : decode cX7_copy 102 = .ok (.getfield 49, 3) := by decide +kernel
theorem dX7_copy_105 : decode cX7_copy 105 = .ok (.putfield 49, 3) := by decide +kernel
theorem dX7_copy_108 : decode cX7_copy 108 = .ok (.aload_n 0, 1) := by decide +kernel
theorem dX7_copy_109 : decode cX7_copy 109 = .ok (.aload_n 1, 1) := by decide +kernel
theorem dX7_copy_110 : decode cX7_copy 110 = .ok (.getfield 52, 3) := by decide +kernel
theorem dX7_copy_113 : decode cX7_copy 113 = .ok (.putfield 52, 3) := by decide +kernel
theorem dX7_copy_116 : decode cX7_copy 116 = .ok (.return_, 1) := by decide +kernel
def f_X7_copy (N : Nat) (σ : uS) (i0 : Nat) (i1 : Nat) : Option uS := (u_cpy ZC σ (i1 + 1) 0 (i0 + 1) 0 16).bind fun s1 =>
  (u_cpy ZC s1 (i1 + 2) 0 (i0 + 2) 0 8).bind fun s2 =>
  (u_cpy ZC s2 (i1 + 4) 0 (i0 + 4) 0 8).bind fun s3 =>
  (u_cpy ZC s3 (i1 + 5) 0 (i0 + 5) 0 8).bind fun s4 =>
  u_jn (u_pI s4 i0 5 (s4.1 i1 5)) fun s5 =>
  u_jn (u_pI s5 i0 6 (s5.1 i1 6)) fun s6 =>
  u_jn (u_pI s6 i0 7 (s6.1 i1 7)) fun s7 =>
  u_jn (u_pI s7 i0 8 (s7.1 i1 8)) fun s8 =>
  u_jn (u_pI s8 i0 9 (s8.1 i1 9)) fun s9 =>
  u_jn (u_pI s9 i0 10 (s9.1 i1 10)) fun s10 =>
  u_jn (u_pI s10 i0 11 (s10.1 i1 11)) fun s11 =>
  some s11
set_option maxRecDepth 100000 in
set_option maxHeartbeats 4000000 in
theorem c_X7_copy (l : Launch) (G : uG) (N : Nat) (σ : uS) (i0 : Nat) (oi0 : u_o ZC i0 6 12 (k_S i0)) (i1 : Nat) (oi1 : u_o ZC i1 6 12 (k_S i1)) (z : uS) (hz : f_X7_copy N σ i0 i1 = some z) : u_Mv l ZC G yX7_copy cX7_copy 2 1 [.ref (G.2.2 i0), .ref (G.2.2 i1)] σ z := by
  refine u_Mv_of RX7 (by decide) rfl (Nat.le_of_ble_eq_true rfl) ?_
  intro p e s m args below meth c ls cx hw hl
  have hx := cx.1
  have hb := cx.2.1
  have hl : lv_has ls 2 [(0, .ref (G.2.2 i0)), (1, .ref (G.2.2 i1))] := hl
  unfold f_X7_copy at hz
  refine lv_aload_n hx hb dX7_copy_0 rfl (lv_at hl 1 rfl) ?_
  refine u_getp cx hw F_X7_9 oi1 rfl dX7_copy_1 ?_
  refine lv_iconst (v := 0) hx hb dX7_copy_4 (by decide) ?_
  refine lv_aload_n hx hb dX7_copy_5 rfl (lv_at hl 0 rfl) ?_
  refine u_getp cx hw F_X7_9 oi0 rfl dX7_copy_6 ?_
  refine lv_iconst (v := 0) hx hb dX7_copy_9 (by decide) ?_
  refine lv_bipush (v := 16) hx hb dX7_copy_10 (by decide) ?_
  obtain ⟨s1, hs1, hz⟩ := u_bind hz
  refine u_copy cx hw LC_X7_31 hs1 (by decide) hl.1 (Nat.le_of_ble_eq_true rfl) dX7_copy_12 (fun H locs hw => ?_)
  refine lv_aload_n hx hb dX7_copy_15 rfl (lv_at hl 1 rfl) ?_
  refine u_getp cx hw F_X7_15 oi1 rfl dX7_copy_16 ?_
  refine lv_iconst (v := 0) hx hb dX7_copy_19 (by decide) ?_
  refine lv_aload_n hx hb dX7_copy_20 rfl (lv_at hl 0 rfl) ?_
  refine u_getp cx hw F_X7_15 oi0 rfl dX7_copy_21 ?_
  refine lv_iconst (v := 0) hx hb dX7_copy_24 (by decide) ?_
  refine lv_bipush (v := 8) hx hb dX7_copy_25 (by decide) ?_
  obtain ⟨s2, hs2, hz⟩ := u_bind hz
  refine u_copy cx hw LC_X7_31 hs2 (by decide) hl.1 (Nat.le_of_ble_eq_true rfl) dX7_copy_27 (fun H locs hw => ?_)
  refine lv_aload_n hx hb dX7_copy_30 rfl (lv_at hl 1 rfl) ?_
  refine u_getp cx hw F_X7_21 oi1 rfl dX7_copy_31 ?_
  refine lv_iconst (v := 0) hx hb dX7_copy_34 (by decide) ?_
  refine lv_aload_n hx hb dX7_copy_35 rfl (lv_at hl 0 rfl) ?_
  refine u_getp cx hw F_X7_21 oi0 rfl dX7_copy_36 ?_
  refine lv_iconst (v := 0) hx hb dX7_copy_39 (by decide) ?_
  refine lv_bipush (v := 8) hx hb dX7_copy_40 (by decide) ?_
  obtain ⟨s3, hs3, hz⟩ := u_bind hz
  refine u_copy cx hw LC_X7_31 hs3 (by decide) hl.1 (Nat.le_of_ble_eq_true rfl) dX7_copy_42 (fun H locs hw => ?_)
  refine lv_aload_n hx hb dX7_copy_45 rfl (lv_at hl 1 rfl) ?_
  refine u_getp cx hw F_X7_24 oi1 rfl dX7_copy_46 ?_
  refine lv_iconst (v := 0) hx hb dX7_copy_49 (by decide) ?_
  refine lv_aload_n hx hb dX7_copy_50 rfl (lv_at hl 0 rfl) ?_
  refine u_getp cx hw F_X7_24 oi0 rfl dX7_copy_51 ?_
  refine lv_iconst (v := 0) hx hb dX7_copy_54 (by decide) ?_
  refine lv_bipush (v := 8) hx hb dX7_copy_55 (by decide) ?_
  obtain ⟨s4, hs4, hz⟩ := u_bind hz
  refine u_copy cx hw LC_X7_31 hs4 (by decide) hl.1 (Nat.le_of_ble_eq_true rfl) dX7_copy_57 (fun H locs hw => ?_)
  refine lv_aload_n hx hb dX7_copy_60 rfl (lv_at hl 0 rfl) ?_
  refine lv_aload_n hx hb dX7_copy_61 rfl (lv_at hl 1 rfl) ?_
  refine u_geti cx hw F_X7_27 oi1 rfl dX7_copy_62 ?_
  obtain ⟨s5, es5, hz⟩ := u_let hz
  refine u_puti2 cx hw P_X7_27 oi0 rfl es5 dX7_copy_65 (fun H locs hw => ?_)
  refine lv_aload_n hx hb dX7_copy_68 rfl (lv_at hl 0 rfl) ?_
  refine lv_aload_n hx hb dX7_copy_69 rfl (lv_at hl 1 rfl) ?_
  refine u_geti cx hw F_X7_37 oi1 rfl dX7_copy_70 ?_
  obtain ⟨s6, es6, hz⟩ := u_let hz
  refine u_puti2 cx hw P_X7_37 oi0 rfl es6 dX7_copy_73 (fun H locs hw => ?_)
  refine lv_aload_n hx hb dX7_copy_76 rfl (lv_at hl 0 rfl) ?_
  refine lv_aload_n hx hb dX7_copy_77 rfl (lv_at hl 1 rfl) ?_
  refine u_geti cx hw F_X7_40 oi1 rfl dX7_copy_78 ?_
  obtain ⟨s7, es7, hz⟩ := u_let hz
  refine u_puti2 cx hw P_X7_40 oi0 rfl es7 dX7_copy_81 (fun H locs hw => ?_)
  refine lv_aload_n hx hb dX7_copy_84 rfl (lv_at hl 0 rfl) ?_
  refine lv_aload_n hx hb dX7_copy_85 rfl (lv_at hl 1 rfl) ?_
  refine u_geti cx hw F_X7_43 oi1 rfl dX7_copy_86 ?_
  obtain ⟨s8, es8, hz⟩ := u_let hz
  refine u_puti2 cx hw P_X7_43 oi0 rfl es8 dX7_copy_89 (fun H locs hw => ?_)
  refine lv_aload_n hx hb dX7_copy_92 rfl (lv_at hl 0 rfl) ?_
  refine lv_aload_n hx hb dX7_copy_93 rfl (lv_at hl 1 rfl) ?_
  refine u_geti cx hw F_X7_46 oi1 rfl dX7_copy_94 ?_
  obtain ⟨s9, es9, hz⟩ := u_let hz
  refine u_puti2 cx hw P_X7_46 oi0 rfl es9 dX7_copy_97 (fun H locs hw => ?_)
  refine lv_aload_n hx hb dX7_copy_100 rfl (lv_at hl 0 rfl) ?_
  refine lv_aload_n hx hb dX7_copy_101 rfl (lv_at hl 1 rfl) ?_
  refine u_geti cx hw F_X7_49 oi1 rfl dX7_copy_102 ?_
  obtain ⟨s10, es10, hz⟩ := u_let hz
  refine u_puti2 cx hw P_X7_49 oi0 rfl es10 dX7_copy_105 (fun H locs hw => ?_)
  refine lv_aload_n hx hb dX7_copy_108 rfl (lv_at hl 0 rfl) ?_
  refine lv_aload_n hx hb dX7_copy_109 rfl (lv_at hl 1 rfl) ?_
  refine u_geti cx hw F_X7_52 oi1 rfl dX7_copy_110 ?_
  obtain ⟨s11, es11, hz⟩ := u_let hz
  refine u_puti2 cx hw P_X7_52 oi0 rfl es11 dX7_copy_113 (fun H locs hw => ?_)
  exact u_vret cx hw (Option.some.inj hz) dX7_copy_116
theorem dX7_lay_0 : decode cX7_lay 0 = .ok (.aload_n 0, 1) := by decide +kernel
theorem dX7_lay_1 : decode cX7_lay 1 = .ok (.iconst 1, 1) := by decide +kernel
theorem dX7_lay_2 : decode cX7_lay 2 = .ok (.bipush 16, 2) := by decide +kernel
theorem dX7_lay_4 : decode cX7_lay 4 = .ok (.aload_n 1, 1) := by decide +kernel
theorem dX7_lay_5 : decode cX7_lay 5 = .ok (.getfield 55, 3) := by decide +kernel
theorem dX7_lay_8 : decode cX7_lay 8 = .ok (.invokestatic 60, 3) := by decide +kernel
theorem dX7_lay_11 : decode cX7_lay 11 = .ok (.invokestatic 66, 3) := by decide +kernel
theorem dX7_lay_14 : decode cX7_lay 14 = .ok (.putfield 27, 3) := by decide +kernel
theorem dX7_lay_17 : decode cX7_lay 17 = .ok (.iconst 0, 1) := by decide +kernel
theorem dX7_lay_18 : decode cX7_lay 18 = .ok (.istore_n 2, 1) := by decide +kernel
theorem dX7_lay_19 : decode cX7_lay 19 = .ok (.iload_n 2, 1) := by decide +kernel
theorem dX7_lay_20 : decode cX7_lay 20 = .ok (.aload_n 0, 1) := by decide +kernel
theorem dX7_lay_21 : decode cX7_lay 21 = .ok (.getfield 27, 3) := by decide +kernel
theorem dX7_lay_24 : decode cX7_lay 24 = .ok (.if_icmp .ge 21, 3) := by decide +kernel
theorem dX7_lay_27 : decode cX7_lay 27 = .ok (.aload_n 0, 1) := by decide +kernel
theorem dX7_lay_28 : decode cX7_lay 28 = .ok (.getfield 9, 3) := by decide +kernel
theorem dX7_lay_31 : decode cX7_lay 31 = .ok (.iload_n 2, 1) := by decide +kernel
theorem dX7_lay_32 : decode cX7_lay 32 = .ok (.aload_n 1, 1) := by decide +kernel
theorem dX7_lay_33 : decode cX7_lay 33 = .ok (.getfield 69, 3) := by decide +kernel
theorem dX7_lay_36 : decode cX7_lay 36 = .ok (.iload_n 2, 1) := by decide +kernel
theorem dX7_lay_37 : decode cX7_lay 37 = .ok (.iaload, 1) := by decide +kernel
theorem dX7_lay_38 : decode cX7_lay 38 = .ok (.iastore, 1) := by decide +kernel
theorem dX7_lay_39 : decode cX7_lay 39 = .ok (.iinc 2 1, 3) := by decide +kernel
theorem dX7_lay_42 : decode cX7_lay 42 = .ok (.goto (-23), 3) := by decide +kernel
theorem dX7_lay_45 : decode cX7_lay 45 = .ok (.aload_n 0, 1) := by decide +kernel
theorem dX7_lay_46 : decode cX7_lay 46 = .ok (.iconst 0, 1) := by decide +kernel
theorem dX7_lay_47 : decode cX7_lay 47 = .ok (.putfield 37, 3) := by decide +kernel
theorem dX7_lay_50 : decode cX7_lay 50 = .ok (.aload_n 0, 1) := by decide +kernel
theorem dX7_lay_51 : decode cX7_lay 51 = .ok (.aload_n 0, 1) := by decide +kernel
theorem dX7_lay_52 : decode cX7_lay 52 = .ok (.getfield 27, 3) := by decide +kernel
theorem dX7_lay_55 : decode cX7_lay 55 = .ok (.iconst 1, 1) := by decide +kernel
theorem dX7_lay_56 : decode cX7_lay 56 = .ok (.isub, 1) := by decide +kernel
theorem dX7_lay_57 : decode cX7_lay 57 = .ok (.putfield 40, 3) := by decide +kernel
theorem dX7_lay_60 : decode cX7_lay 60 = .ok (.return_, 1) := by decide +kernel
def b_X7_lay_19 (i0 : Nat) (J45_3 : uS → Option uS) (rec19_8 : uS → Int32 → Option uS) (s6 : uS) (x7 : Int32) : Option uS :=
  if (s6.1 i0 5) ≤ x7 then (J45_3 s6) else ((u_rI ZC s6 0 10 x7).bind fun v9 =>
  (u_wI ZC s6 0 (i0 + 1) x7 v9).bind fun s10 =>
  u_jn (x7 + 1 : Int32) fun x11 =>
  rec19_8 s10 x11)
def f_X7_lay (N : Nat) (σ : uS) (i0 : Nat) : Option uS := u_jn (u_pI σ i0 5 (if 1 < (if (σ.1 9 1) < 16 then (σ.1 9 1) else 16) then (if (σ.1 9 1) < 16 then (σ.1 9 1) else 16) else 1)) fun s1 =>
  u_jn (fun (s2 : uS) => (u_jn (u_pI s2 i0 6 0) fun s4 =>
  u_jn (u_pI s4 i0 7 ((s4.1 i0 5) - 1)) fun s5 =>
  some s5 : Option uS)) fun J45_3 =>
  u_lp2 (b_X7_lay_19 i0 J45_3) N s1 0
set_option maxRecDepth 100000 in
set_option maxHeartbeats 4000000 in
theorem c_X7_lay (l : Launch) (G : uG) (N : Nat) (σ : uS) (i0 : Nat) (oi0 : u_o ZC i0 6 12 (k_S i0)) (z : uS) (hz : f_X7_lay N σ i0 = some z) : u_Mv l ZC G yX7_lay cX7_lay 3 1 [.ref (G.2.2 i0), .ref (G.2.2 9)] σ z := by
  refine u_Mv_of RX7 (by decide) rfl (Nat.le_of_ble_eq_true rfl) ?_
  intro p e s m args below meth c ls cx hw hl
  have hx := cx.1
  have hb := cx.2.1
  have hl : lv_has ls 3 [(0, .ref (G.2.2 i0)), (1, .ref (G.2.2 9))] := hl
  unfold f_X7_lay at hz
  refine lv_aload_n hx hb dX7_lay_0 rfl (lv_at hl 0 rfl) ?_
  refine lv_iconst (v := 1) hx hb dX7_lay_1 (by decide) ?_
  refine lv_bipush (v := 16) hx hb dX7_lay_2 (by decide) ?_
  refine lv_aload_n hx hb dX7_lay_4 rfl (lv_at hl 1 rfl) ?_
  refine u_geti cx hw F_X7_55 o_X2 rfl dX7_lay_5 ?_
  refine u_mmin cx LM_X7_60 (by decide) hl.1 (Nat.le_of_ble_eq_true rfl) dX7_lay_8 ?_
  refine u_mmax cx LM_X7_66 (by decide) hl.1 (Nat.le_of_ble_eq_true rfl) dX7_lay_11 ?_
  obtain ⟨s1, es1, hz⟩ := u_let hz
  refine u_puti2 cx hw P_X7_27 oi0 rfl es1 dX7_lay_14 (fun H locs hw => ?_)
  refine lv_iconst (v := 0) hx hb dX7_lay_17 (by decide) ?_
  refine lv_istore_n (lv' := [(2, .int 0), (0, .ref (G.2.2 i0)), (1, .ref (G.2.2 9))]) hx hb dX7_lay_18 rfl hl (by decide) rfl (fun ls hl => ?_)
  obtain ⟨J45_3, eJ45_3, hz⟩ := u_let hz
  have WJ45_3 : ∀ (s2 : uS) (H : Heap) (locs : List Loc) (ls : Array Slot), J45_3 s2 = some z → u_W ZC G s2 s H locs → lv_has ls 3 [(0, .ref (G.2.2 i0))] → W p l e (u_rm 1) s m args below meth c H locs 0 0 (u_Qv below ZC G s args z) (F0 m 45 ls []) := by
    intro s2 H locs ls hz hw hl
    rw [eJ45_3] at hz
    refine lv_aload_n hx hb dX7_lay_45 rfl (lv_at hl 0 rfl) ?_
    refine lv_iconst (v := 0) hx hb dX7_lay_46 (by decide) ?_
    obtain ⟨s4, es4, hz⟩ := u_let hz
    refine u_puti2 cx hw P_X7_37 oi0 rfl es4 dX7_lay_47 (fun H locs hw => ?_)
    refine lv_aload_n hx hb dX7_lay_50 rfl (lv_at hl 0 rfl) ?_
    refine lv_aload_n hx hb dX7_lay_51 rfl (lv_at hl 0 rfl) ?_
    refine u_geti cx hw F_X7_27 oi0 rfl dX7_lay_52 ?_
    refine lv_iconst (v := 1) hx hb dX7_lay_55 (by decide) ?_
    refine lv_isub hx hb dX7_lay_56 ?_
    obtain ⟨s5, es5, hz⟩ := u_let hz
    refine u_puti2 cx hw P_X7_40 oi0 rfl es5 dX7_lay_57 (fun H locs hw => ?_)
    exact u_vret cx hw (Option.some.inj hz) dX7_lay_60
  have WL19_11 : ∀ (k : Nat) (s6 : uS) (x7 : Int32) (H : Heap) (locs : List Loc) (ls : Array Slot), u_lp2 (b_X7_lay_19 i0 J45_3) k s6 x7 = some z → u_W ZC G s6 s H locs → lv_has ls 3 [(0, .ref (G.2.2 i0)), (1, .ref (G.2.2 9)), (2, .int x7)] → W p l e (u_rm 1) s m args below meth c H locs 0 0 (u_Qv below ZC G s args z) (F0 m 19 ls []) := by
    intro k
    induction k with
    | zero =>
      intro s6 x7 H locs ls hz
      exact absurd hz (by intro h9; cases h9)
    | succ k ih19_8 =>
      intro s6 x7 H locs ls hz hw hl
      have hz : (b_X7_lay_19 i0 J45_3) (u_lp2 (b_X7_lay_19 i0 J45_3) k) s6 x7 = some z := hz
      unfold b_X7_lay_19 at hz
      refine lv_iload_n hx hb dX7_lay_19 rfl (lv_at hl 2 rfl) ?_
      refine lv_aload_n hx hb dX7_lay_20 rfl (lv_at hl 0 rfl) ?_
      refine u_geti cx hw F_X7_27 oi0 rfl dX7_lay_21 ?_
      refine lv_icmp_ge (tgt := 45) hx hb dX7_lay_24 (by decide) (fun hc => ?_) (fun hc => ?_)
      · replace hz := u_ift hz hc
        exact WJ45_3 s6 _ _ _ hz hw (lv_sub hl [0] rfl)
      · replace hz := u_iff hz hc
        refine lv_aload_n hx hb dX7_lay_27 rfl (lv_at hl 0 rfl) ?_
        refine u_getp cx hw F_X7_9 oi0 rfl dX7_lay_28 ?_
        refine lv_iload_n hx hb dX7_lay_31 rfl (lv_at hl 2 rfl) ?_
        refine lv_aload_n hx hb dX7_lay_32 rfl (lv_at hl 1 rfl) ?_
        refine u_getp cx hw F_X7_69 o_X2 rfl dX7_lay_33 ?_
        refine lv_iload_n hx hb dX7_lay_36 rfl (lv_at hl 2 rfl) ?_
        obtain ⟨v9, hv9, hz⟩ := u_bind hz
        refine u_iald cx hw hv9 dX7_lay_37 ?_
        obtain ⟨s10, hs10, hz⟩ := u_bind hz
        refine u_iast cx hw hs10 dX7_lay_38 (fun H locs hw => ?_)
        obtain ⟨x11, ex11, hz⟩ := u_let hz
        refine lv_iinc (v := x11) (lv' := [(2, .int x11), (0, .ref (G.2.2 i0)), (1, .ref (G.2.2 9))]) hx hb dX7_lay_39 hl (k := 2) rfl (by rw [ex11]; rfl) (by decide) rfl (fun ls hl => ?_)
        refine lv_goto (tgt := 19) hx hb dX7_lay_42 (by decide) ?_
        exact ih19_8 s10 x11 _ _ _ hz hw (lv_sub hl [1, 2, 0] rfl)
  exact WL19_11 N s1 0 _ _ _ hz hw (lv_sub hl [1, 2, 0] rfl)
