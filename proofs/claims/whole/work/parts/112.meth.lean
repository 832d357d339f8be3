theorem dX12_twice_0 : decode cX12_twice 0 = .ok (.aload_n 0, 1) := by decide +kernel
theorem dX12_twice_1 : decode cX12_twice 1 = .ok (.iconst 0, 1) := by decide +kernel
theorem dX12_twice_2 : decode cX12_twice 2 = .ok (.putfield 77, 3) := by decide +kernel
theorem dX12_twice_5 : decode cX12_twice 5 = .ok (.iload_n 1, 1) := by decide +kernel
theorem dX12_twice_6 : decode cX12_twice 6 = .ok (.iconst 1, 1) := by decide +kernel
theorem dX12_twice_7 : decode cX12_twice 7 = .ok (.bipush 12, 2) := by decide +kernel
theorem dX12_twice_9 : decode cX12_twice 9 = .ok (.invokestatic 86, 3) := by decide +kernel
theorem dX12_twice_12 : decode cX12_twice 12 = .ok (.ifCond .eq 13, 3) := by decide +kernel
theorem dX12_twice_15 : decode cX12_twice 15 = .ok (.iload_n 2, 1) := by decide +kernel
theorem dX12_twice_16 : decode cX12_twice 16 = .ok (.iconst 0, 1) := by decide +kernel
theorem dX12_twice_17 : decode cX12_twice 17 = .ok (.bipush 10, 2) := by decide +kernel
theorem dX12_twice_19 : decode cX12_twice 19 = .ok (.invokestatic 86, 3) := by decide +kernel
theorem dX12_twice_22 : decode cX12_twice 22 = .ok (.ifCond .ne 5, 3) := by decide +kernel
theorem dX12_twice_25 : decode cX12_twice 25 = .ok (.iconst (-1), 1) := by decide +kernel
theorem dX12_twice_26 : decode cX12_twice 26 = .ok (.ireturn, 1) := by decide +kernel
theorem dX12_twice_27 : decode cX12_twice 27 = .ok (.lconst 1, 1) := by decide +kernel
theorem dX12_twice_28 : decode cX12_twice 28 = .ok (.lstore_n 3, 1) := by decide +kernel
theorem dX12_twice_29 : decode cX12_twice 29 = .ok (.lconst 0, 1) := by decide +kernel
theorem dX12_twice_30 : decode cX12_twice 30 = .ok (.lstore 5, 2) := by decide +kernel
theorem dX12_twice_32 : decode cX12_twice 32 = .ok (.iconst 0, 1) := by decide +kernel
theorem dX12_twice_33 : decode cX12_twice 33 = .ok (.istore 7, 2) := by decide +kernel
theorem dX12_twice_35 : decode cX12_twice 35 = .ok (.iload 7, 2) := by decide +kernel
theorem dX12_twice_37 : decode cX12_twice 37 = .ok (.iload_n 1, 1) := by decide +kernel
theorem dX12_twice_38 : decode cX12_twice 38 = .ok (.if_icmp .ge 30, 3) := by decide +kernel
theorem dX12_twice_41 : decode cX12_twice 41 = .ok (.lload_n 3, 1) := by decide +kernel
theorem dX12_twice_42 : decode cX12_twice 42 = .ok (.lstore 8, 2) := by decide +kernel
theorem dX12_twice_44 : decode cX12_twice 44 = .ok (.lload_n 3, 1) := by decide +kernel
theorem dX12_twice_45 : decode cX12_twice 45 = .ok (.lload 5, 2) := by decide +kernel
theorem dX12_twice_47 : decode cX12_twice 47 = .ok (.ladd, 1) := by decide +kernel
theorem dX12_twice_48 : decode cX12_twice 48 = .ok (.bipush 10, 2) := by decide +kernel
theorem dX12_twice_50 : decode cX12_twice 50 = .ok (.iload_n 2, 1) := by decide +kernel
theorem dX12_twice_51 : decode cX12_twice 51 = .ok (.isub, 1) := by decide +kernel
theorem dX12_twice_52 : decode cX12_twice 52 = .ok (.i2l, 1) := by decide +kernel
theorem dX12_twice_53 : decode cX12_twice 53 = .ok (.lmul, 1) := by decide +kernel
theorem dX12_twice_54 : decode cX12_twice 54 = .ok (.lstore_n 3, 1) := by decide +kernel
theorem dX12_twice_55 : decode cX12_twice 55 = .ok (.lload 8, 2) := by decide +kernel
theorem dX12_twice_57 : decode cX12_twice 57 = .ok (.iload_n 2, 1) := by decide +kernel
theorem dX12_twice_58 : decode cX12_twice 58 = .ok (.i2l, 1) := by decide +kernel
theorem dX12_twice_59 : decode cX12_twice 59 = .ok (.lmul, 1) := by decide +kernel
theorem dX12_twice_60 : decode cX12_twice 60 = .ok (.lstore 5, 2) := by decide +kernel
theorem dX12_twice_62 : decode cX12_twice 62 = .ok (.iinc 7 1, 3) := by decide +kernel
theorem dX12_twice_65 : decode cX12_twice 65 = .ok (.goto (-30), 3) := by decide +kernel
theorem dX12_twice_68 : decode cX12_twice 68 = .ok (.ldc2_w 280, 3) := by decide +kernel
theorem dX12_twice_71 : decode cX12_twice 71 = .ok (.iload_n 1, 1) := by decide +kernel
theorem dX12_twice_72 : decode cX12_twice 72 = .ok (.invokestatic 329, 3) := by decide +kernel
theorem dX12_twice_75 : decode cX12_twice 75 = .ok (.lstore 7, 2) := by decide +kernel
theorem dX12_twice_77 : decode cX12_twice 77 = .ok (.aload_n 0, 1) := by decide +kernel
theorem dX12_twice_78 : decode cX12_twice 78 = .ok (.lload 7, 2) := by decide +kernel
theorem dX12_twice_80 : decode cX12_twice 80 = .ok (.lload_n 3, 1) := by decide +kernel
theorem dX12_twice_81 : decode cX12_twice 81 = .ok (.lsub, 1) := by decide +kernel
theorem dX12_twice_82 : decode cX12_twice 82 = .ok (.lload 5, 2) := by decide +kernel
theorem dX12_twice_84 : decode cX12_twice 84 = .ok (.lsub, 1) := by decide +kernel
theorem dX12_twice_85 : decode cX12_twice 85 = .ok (.lload 7, 2) := by decide +kernel
theorem dX12_twice_87 : decode cX12_twice 87 = .ok (.invokevirtual 306, 3) := by decide +kernel
theorem dX12_twice_90 : decode cX12_twice 90 = .ok (.iconst 0, 1) := by decide +kernel
theorem dX12_twice_91 : decode cX12_twice 91 = .ok (.ireturn, 1) := by decide +kernel
def b_X12_twice_35 (p1 : Int32) (p2 : Int32) (J68_6 : Int64 → Int64 → Option (Int32 × uS)) (rec35_12 : Int64 → Int64 → Int32 → Option (Int32 × uS)) (x9 : Int64) (x10 : Int64) (x11 : Int32) : Option (Int32 × uS) :=
  if p1 ≤ x11 then (J68_6 x9 x10) else (u_jn (((x9 + x10) * (Int32.toInt64 (10 - p2))) : Int64) fun x13 =>
  u_jn ((x9 * (Int32.toInt64 p2)) : Int64) fun x14 =>
  u_jn (x11 + 1 : Int32) fun x15 =>
  rec35_12 x13 x14 x15)
def f_X12_twice (N : Nat) (σ : uS) (p1 : Int32) (p2 : Int32) : Option (Int32 × uS) := u_jn (u_pI σ 0 8 0) fun s1 =>
  (f_X12_in N s1 p1 1 12).bind fun v2 =>
  if v2 = 0 then (some ((-1), s1)) else ((f_X12_in N s1 p2 0 10).bind fun v3 =>
  if v3 = 0 then (some ((-1), s1)) else (u_jn (fun (x4 : Int64) (x5 : Int64) => ((f_X12_power N s1 10 p1).bind fun v7 =>
  (f_X12_tellPart N s1 ((v7 - x4) - x5) v7).bind fun s8 =>
  some (0, s8) : Option (Int32 × uS))) fun J68_6 =>
  u_lp3 (b_X12_twice_35 p1 p2 J68_6) N 1 0 0))
set_option maxRecDepth 100000 in
set_option maxHeartbeats 4000000 in
theorem c_X12_twice (l : Launch) (G : uG) (N : Nat) (σ : uS) (p1 : Int32) (p2 : Int32) (z : (Int32 × uS)) (hz : f_X12_twice N σ p1 p2 = some z) : u_Mi l ZM G yX12_twice cX12_twice 10 .int 102 [.ref (G.2.2 0), .int p1, .int p2] σ z.1 z.2 := by
  refine u_Mi_of RX12 (by decide) rfl (Nat.le_of_ble_eq_true rfl) ?_
  intro p e s m args below meth c ls cx hw hl
  have hx := cx.1
  have hb := cx.2.1
  have hl : lv_has ls 10 [(0, .ref (G.2.2 0)), (1, .int p1), (2, .int p2)] := hl
  unfold f_X12_twice at hz
  refine lv_aload_n hx hb dX12_twice_0 rfl (lv_at hl 0 rfl) ?_
  refine lv_iconst (v := 0) hx hb dX12_twice_1 (by decide) ?_
  obtain ⟨s1, es1, hz⟩ := u_let hz
  refine u_puti2 cx hw P_X12_77 o_X12 rfl es1 dX12_twice_2 (fun H locs hw => ?_)
  refine lv_iload_n hx hb dX12_twice_5 rfl (lv_at hl 1 rfl) ?_
  refine lv_iconst (v := 1) hx hb dX12_twice_6 (by decide) ?_
  refine lv_bipush (v := 12) hx hb dX12_twice_7 (by decide) ?_
  obtain ⟨v2, hv2, hz⟩ := u_bind hz
  refine u_callSi (As := [.int p1, .int 1, .int 12]) (rest := []) cx hw LS_X12_86 (c_X12_in l G N s1 p1 1 12 v2 hv2) (by decide) hl.1 rfl (Nat.le_of_ble_eq_true rfl) dX12_twice_9 rfl (fun H locs hw => ?_)
  refine lv_if_eq (tgt := 25) hx hb dX12_twice_12 (by decide) (fun hc => ?_) (fun hc => ?_)
  · replace hz := u_ift hz hc
    refine lv_iconst (v := (-1)) hx hb dX12_twice_25 (by decide) ?_
    exact u_iret cx hw (u_pair hz) dX12_twice_26
  · replace hz := u_iff hz hc
    refine lv_iload_n hx hb dX12_twice_15 rfl (lv_at hl 2 rfl) ?_
    refine lv_iconst (v := 0) hx hb dX12_twice_16 (by decide) ?_
    refine lv_bipush (v := 10) hx hb dX12_twice_17 (by decide) ?_
    obtain ⟨v3, hv3, hz⟩ := u_bind hz
    refine u_callSi (As := [.int p2, .int 0, .int 10]) (rest := []) cx hw LS_X12_86 (c_X12_in l G N s1 p2 0 10 v3 hv3) (by decide) hl.1 rfl (Nat.le_of_ble_eq_true rfl) dX12_twice_19 rfl (fun H locs hw => ?_)
    refine lv_if_ne (tgt := 27) hx hb dX12_twice_22 (by decide) (fun hc => ?_) (fun hc => ?_)
    · replace hz := u_iff hz hc
      refine lv_lconst (v := 1) hx hb dX12_twice_27 (by decide) ?_
      refine lv_lstore_n (lv' := [(3, .long 1), (0, .ref (G.2.2 0)), (1, .int p1), (2, .int p2)]) hx hb dX12_twice_28 rfl hl (by decide) rfl (fun ls hl => ?_)
      refine lv_lconst (v := 0) hx hb dX12_twice_29 (by decide) ?_
      refine lv_lstore (lv' := [(5, .long 0), (3, .long 1), (0, .ref (G.2.2 0)), (1, .int p1), (2, .int p2)]) hx hb dX12_twice_30 hl (by decide) rfl (fun ls hl => ?_)
      refine lv_iconst (v := 0) hx hb dX12_twice_32 (by decide) ?_
      refine lv_istore (lv' := [(7, .int 0), (5, .long 0), (3, .long 1), (0, .ref (G.2.2 0)), (1, .int p1), (2, .int p2)]) hx hb dX12_twice_33 hl (by decide) rfl (fun ls hl => ?_)
      obtain ⟨J68_6, eJ68_6, hz⟩ := u_let hz
      have WJ68_6 : ∀ (x4 : Int64) (x5 : Int64) (H : Heap) (locs : List Loc) (ls : Array Slot), J68_6 x4 x5 = some z → u_W ZM G s1 s H locs → lv_has ls 10 [(0, .ref (G.2.2 0)), (1, .int p1), (3, .long x4), (5, .long x5)] → W p l e (u_rm 102) s m args below meth c H locs 0 0 (u_Qi below ZM G s args z.1 z.2) (F0 m 68 ls []) := by
        intro x4 x5 H locs ls hz hw hl
        rw [eJ68_6] at hz
        refine u_ldc2 cx q_1448 dX12_twice_68 ?_
        refine lv_iload_n hx hb dX12_twice_71 rfl (lv_at hl 1 rfl) ?_
        obtain ⟨v7, hv7, hz⟩ := u_bind hz
        refine u_callSl (As := [.long 10, .int p1]) (rest := []) cx hw LS_X12_329 (c_X12_power l G N s1 10 p1 v7 hv7) (by decide) hl.1 rfl (Nat.le_of_ble_eq_true rfl) dX12_twice_72 rfl (fun H locs hw => ?_)
        refine lv_lstore (lv' := [(7, .long v7), (0, .ref (G.2.2 0)), (1, .int p1), (3, .long x4), (5, .long x5)]) hx hb dX12_twice_75 hl (by decide) rfl (fun ls hl => ?_)
        refine lv_aload_n hx hb dX12_twice_77 rfl (lv_at hl 1 rfl) ?_
        refine lv_lload hx hb dX12_twice_78 (lv_at hl 0 rfl) ?_
        refine lv_lload_n hx hb dX12_twice_80 rfl (lv_at hl 3 rfl) ?_
        refine lv_lsub hx hb dX12_twice_81 ?_
        refine lv_lload hx hb dX12_twice_82 (lv_at hl 4 rfl) ?_
        refine lv_lsub hx hb dX12_twice_84 ?_
        refine lv_lload hx hb dX12_twice_85 (lv_at hl 0 rfl) ?_
        obtain ⟨s8, hs8, hz⟩ := u_bind hz
        refine u_callVv (As := [.long ((v7 - x4) - x5), .long v7]) (rest := []) cx hw LV_X12_306 (c_X12_tellPart l G N s1 ((v7 - x4) - x5) v7 s8 hs8) o_X12 rfl (by decide) hl.1 rfl (Nat.le_of_ble_eq_true rfl) dX12_twice_87 rfl (fun H locs hw => ?_)
        refine lv_iconst (v := 0) hx hb dX12_twice_90 (by decide) ?_
        exact u_iret cx hw (u_pair hz) dX12_twice_91
      have WL35_15 : ∀ (k : Nat) (x9 : Int64) (x10 : Int64) (x11 : Int32) (H : Heap) (locs : List Loc) (ls : Array Slot), u_lp3 (b_X12_twice_35 p1 p2 J68_6) k x9 x10 x11 = some z → u_W ZM G s1 s H locs → lv_has ls 10 [(0, .ref (G.2.2 0)), (1, .int p1), (2, .int p2), (3, .long x9), (5, .long x10), (7, .int x11)] → W p l e (u_rm 102) s m args below meth c H locs 0 0 (u_Qi below ZM G s args z.1 z.2) (F0 m 35 ls []) := by
        intro k
        induction k with
        | zero =>
          intro x9 x10 x11 H locs ls hz
          exact absurd hz (by intro h9; cases h9)
        | succ k ih35_12 =>
          intro x9 x10 x11 H locs ls hz hw hl
          have hz : (b_X12_twice_35 p1 p2 J68_6) (u_lp3 (b_X12_twice_35 p1 p2 J68_6) k) x9 x10 x11 = some z := hz
          unfold b_X12_twice_35 at hz
          refine lv_iload hx hb dX12_twice_35 (lv_at hl 5 rfl) ?_
          refine lv_iload_n hx hb dX12_twice_37 rfl (lv_at hl 1 rfl) ?_
          refine lv_icmp_ge (tgt := 68) hx hb dX12_twice_38 (by decide) (fun hc => ?_) (fun hc => ?_)
          · replace hz := u_ift hz hc
            exact WJ68_6 x9 x10 _ _ _ hz hw (lv_sub hl [0, 1, 3, 4] rfl)
          · replace hz := u_iff hz hc
            refine lv_lload_n hx hb dX12_twice_41 rfl (lv_at hl 3 rfl) ?_
            refine lv_lstore (lv' := [(8, .long x9), (0, .ref (G.2.2 0)), (1, .int p1), (2, .int p2), (3, .long x9), (5, .long x10), (7, .int x11)]) hx hb dX12_twice_42 hl (by decide) rfl (fun ls hl => ?_)
            refine lv_lload_n hx hb dX12_twice_44 rfl (lv_at hl 4 rfl) ?_
            refine lv_lload hx hb dX12_twice_45 (lv_at hl 5 rfl) ?_
            refine lv_ladd hx hb dX12_twice_47 ?_
            refine lv_bipush (v := 10) hx hb dX12_twice_48 (by decide) ?_
            refine lv_iload_n hx hb dX12_twice_50 rfl (lv_at hl 3 rfl) ?_
            refine lv_isub hx hb dX12_twice_51 ?_
            refine lv_i2l (v := (Int32.toInt64 (10 - p2))) hx hb dX12_twice_52 rfl ?_
            refine lv_lmul hx hb dX12_twice_53 ?_
            obtain ⟨x13, ex13, hz⟩ := u_let hz
            refine u_topl ex13 ?_
            refine lv_lstore_n (lv' := [(3, .long x13), (8, .long x9), (0, .ref (G.2.2 0)), (1, .int p1), (2, .int p2), (5, .long x10), (7, .int x11)]) hx hb dX12_twice_54 rfl hl (by decide) rfl (fun ls hl => ?_)
            refine lv_lload hx hb dX12_twice_55 (lv_at hl 1 rfl) ?_
            refine lv_iload_n hx hb dX12_twice_57 rfl (lv_at hl 4 rfl) ?_
            refine lv_i2l (v := (Int32.toInt64 p2)) hx hb dX12_twice_58 rfl ?_
            refine lv_lmul hx hb dX12_twice_59 ?_
            obtain ⟨x14, ex14, hz⟩ := u_let hz
            refine u_topl ex14 ?_
            refine lv_lstore (lv' := [(5, .long x14), (3, .long x13), (8, .long x9), (0, .ref (G.2.2 0)), (1, .int p1), (2, .int p2), (7, .int x11)]) hx hb dX12_twice_60 hl (by decide) rfl (fun ls hl => ?_)
            obtain ⟨x15, ex15, hz⟩ := u_let hz
            refine lv_iinc (v := x15) (lv' := [(7, .int x15), (5, .long x14), (3, .long x13), (8, .long x9), (0, .ref (G.2.2 0)), (1, .int p1), (2, .int p2)]) hx hb dX12_twice_62 hl (k := 6) rfl (by rw [ex15]; rfl) (by decide) rfl (fun ls hl => ?_)
            refine lv_goto (tgt := 35) hx hb dX12_twice_65 (by decide) ?_
            exact ih35_12 x13 x14 x15 _ _ _ hz hw (lv_sub hl [4, 5, 6, 2, 1, 0] rfl)
      exact WL35_15 N 1 0 0 _ _ _ hz hw (lv_sub hl [3, 4, 5, 2, 1, 0] rfl)
    · replace hz := u_ift hz hc
      refine lv_iconst (v := (-1)) hx hb dX12_twice_25 (by decide) ?_
      exact u_iret cx hw (u_pair hz) dX12_twice_26
theorem dX4_takes_0 : decode cX4_takes 0 = .ok (.aload_n 0, 1) := by decide +kernel
theorem dX4_takes_1 : decode cX4_takes 1 = .ok (.getfield 28, 3) := by decide +kernel
theorem dX4_takes_4 : decode cX4_takes 4 = .ok (.ifCond .ne 9, 3) := by decide +kernel
theorem dX4_takes_7 : decode cX4_takes 7 = .ok (.aload_n 0, 1) := by decide +kernel
theorem dX4_takes_8 : decode cX4_takes 8 = .ok (.iload_n 1, 1) := by decide +kernel
theorem dX4_takes_9 : decode cX4_takes 9 = .ok (.invokevirtual 31, 3) := by decide +kernel
theorem dX4_takes_12 : decode cX4_takes 12 = .ok (.ireturn, 1) := by decide +kernel
theorem dX4_takes_13 : decode cX4_takes 13 = .ok (.aload_n 0, 1) := by decide +kernel
theorem dX4_takes_14 : decode cX4_takes 14 = .ok (.getfield 25, 3) := by decide +kernel
theorem dX4_takes_17 : decode cX4_takes 17 = .ok (.iconst 1, 1) := by decide +kernel
theorem dX4_takes_18 : decode cX4_takes 18 = .ok (.isub, 1) := by decide +kernel
theorem dX4_takes_19 : decode cX4_takes 19 = .ok (.istore_n 2, 1) := by decide +kernel
theorem dX4_takes_20 : decode cX4_takes 20 = .ok (.iload_n 2, 1) := by decide +kernel
theorem dX4_takes_21 : decode cX4_takes 21 = .ok (.ifCond .lt 9, 3) := by decide +kernel
theorem dX4_takes_24 : decode cX4_takes 24 = .ok (.iload_n 2, 1) := by decide +kernel
theorem dX4_takes_25 : decode cX4_takes 25 = .ok (.bipush 8, 2) := by decide +kernel
theorem dX4_takes_27 : decode cX4_takes 27 = .ok (.if_icmp .lt 5, 3) := by decide +kernel
theorem dX4_takes_30 : decode cX4_takes 30 = .ok (.iconst 0, 1) := by decide +kernel
theorem dX4_takes_31 : decode cX4_takes 31 = .ok (.ireturn, 1) := by decide +kernel
theorem dX4_takes_32 : decode cX4_takes 32 = .ok (.aload_n 0, 1) := by decide +kernel
theorem dX4_takes_33 : decode cX4_takes 33 = .ok (.getfield 28, 3) := by decide +kernel
theorem dX4_takes_36 : decode cX4_takes 36 = .ok (.iconst 1, 1) := by decide +kernel
theorem dX4_takes_37 : decode cX4_takes 37 = .ok (.if_icmp .ne 10, 3) := by decide +kernel
theorem dX4_takes_40 : decode cX4_takes 40 = .ok (.aload_n 0, 1) := by decide +kernel
theorem dX4_takes_41 : decode cX4_takes 41 = .ok (.iload_n 1, 1) := by decide +kernel
theorem dX4_takes_42 : decode cX4_takes 42 = .ok (.iload_n 2, 1) := by decide +kernel
theorem dX4_takes_43 : decode cX4_takes 43 = .ok (.invokevirtual 35, 3) := by decide +kernel
theorem dX4_takes_46 : decode cX4_takes 46 = .ok (.ireturn, 1) := by decide +kernel
theorem dX4_takes_47 : decode cX4_takes 47 = .ok (.iload_n 1, 1) := by decide +kernel
theorem dX4_takes_48 : decode cX4_takes 48 = .ok (.bipush 59, 2) := by decide +kernel
theorem dX4_takes_50 : decode cX4_takes 50 = .ok (.if_icmp .ne 10, 3) := by decide +kernel
theorem dX4_takes_53 : decode cX4_takes 53 = .ok (.aload_n 0, 1) := by decide +kernel
theorem dX4_takes_54 : decode cX4_takes 54 = .ok (.iconst 0, 1) := by decide +kernel
theorem dX4_takes_55 : decode cX4_takes 55 = .ok (.putfield 28, 3) := by decide +kernel
theorem dX4_takes_58 : decode cX4_takes 58 = .ok (.iconst 1, 1) := by decide +kernel
theorem dX4_takes_59 : decode cX4_takes 59 = .ok (.ireturn, 1) := by decide +kernel
theorem dX4_takes_60 : decode cX4_takes 60 = .ok (.aload_n 0, 1) := by decide +kernel
theorem dX4_takes_61 : decode cX4_takes 61 = .ok (.iload_n 1, 1) := by decide +kernel
theorem dX4_takes_62 : decode cX4_takes 62 = .ok (.iload_n 2, 1) := by decide +kernel
theorem dX4_takes_63 : decode cX4_takes 63 = .ok (.invokevirtual 39, 3) := by decide +kernel
theorem dX4_takes_66 : decode cX4_takes 66 = .ok (.ireturn, 1) := by decide +kernel
def f_X4_takes (N : Nat) (σ : uS) (p1 : Int32) : Option (Int32 × uS) := if (σ.1 11 5) = 0 then ((f_X4_takesBelief N σ p1).bind fun v5 =>
  u_ck (v5.1 = 0 ∨ v5.1 = 1) (some (v5.1, v5.2))) else (u_jn (((σ.1 11 4) - 1) : Int32) fun x1 =>
  if x1 < 0 then (some (0, σ)) else (if x1 < 8 then (if (σ.1 11 5) = 1 then ((f_X4_takesEdge N σ p1 x1).bind fun v4 =>
  u_ck (v4.1 = 0 ∨ v4.1 = 1) (some (v4.1, v4.2))) else (if p1 = 59 then (u_jn (u_pI σ 11 5 0) fun s3 =>
  some (1, s3)) else ((f_X4_takesLetter N σ p1 x1).bind fun v2 =>
  u_ck (v2.1 = 0 ∨ v2.1 = 1) (some (v2.1, v2.2))))) else (some (0, σ))))
set_option maxRecDepth 100000 in
set_option maxHeartbeats 4000000 in
theorem c_X4_takes (l : Launch) (G : uG) (N : Nat) (σ : uS) (p1 : Int32) (z : (Int32 × uS)) (hz : f_X4_takes N σ p1 = some z) : u_Mi l ZC G yX4_takes cX4_takes 3 .boolean 2 [.ref (G.2.2 11), .int p1] σ z.1 z.2 := by
  refine u_Mi_of RX4 (by decide) rfl (Nat.le_of_ble_eq_true rfl) ?_
  intro p e s m args below meth c ls cx hw hl
  have hx := cx.1
  have hb := cx.2.1
  have hl : lv_has ls 3 [(0, .ref (G.2.2 11)), (1, .int p1)] := hl
  unfold f_X4_takes at hz
  refine lv_aload_n hx hb dX4_takes_0 rfl (lv_at hl 0 rfl) ?_
  refine u_geti cx hw F_X4_28 o_X4 rfl dX4_takes_1 ?_
  refine lv_if_ne (tgt := 13) hx hb dX4_takes_4 (by decide) (fun hc => ?_) (fun hc => ?_)
  · replace hz := u_iff hz hc
    refine lv_aload_n hx hb dX4_takes_13 rfl (lv_at hl 0 rfl) ?_
    refine u_geti cx hw F_X4_25 o_X4 rfl dX4_takes_14 ?_
    refine lv_iconst (v := 1) hx hb dX4_takes_17 (by decide) ?_
    refine lv_isub hx hb dX4_takes_18 ?_
    obtain ⟨x1, ex1, hz⟩ := u_let hz
    refine u_topi ex1 ?_
    refine lv_istore_n (lv' := [(2, .int x1), (0, .ref (G.2.2 11)), (1, .int p1)]) hx hb dX4_takes_19 rfl hl (by decide) rfl (fun ls hl => ?_)
    refine lv_iload_n hx hb dX4_takes_20 rfl (lv_at hl 0 rfl) ?_
    refine lv_if_lt (tgt := 30) hx hb dX4_takes_21 (by decide) (fun hc => ?_) (fun hc => ?_)
    · replace hz := u_ift hz hc
      refine lv_iconst (v := 0) hx hb dX4_takes_30 (by decide) ?_
      exact u_zret cx hw (Or.inl rfl) (u_pair hz) dX4_takes_31
    · replace hz := u_iff hz hc
      refine lv_iload_n hx hb dX4_takes_24 rfl (lv_at hl 0 rfl) ?_
      refine lv_bipush (v := 8) hx hb dX4_takes_25 (by decide) ?_
      refine lv_icmp_lt (tgt := 32) hx hb dX4_takes_27 (by decide) (fun hc => ?_) (fun hc => ?_)
      · replace hz := u_ift hz hc
        refine lv_aload_n hx hb dX4_takes_32 rfl (lv_at hl 1 rfl) ?_
        refine u_geti cx hw F_X4_28 o_X4 rfl dX4_takes_33 ?_
        refine lv_iconst (v := 1) hx hb dX4_takes_36 (by decide) ?_
        refine lv_icmp_ne (tgt := 47) hx hb dX4_takes_37 (by decide) (fun hc => ?_) (fun hc => ?_)
        · replace hz := u_iff hz hc
          refine lv_iload_n hx hb dX4_takes_47 rfl (lv_at hl 2 rfl) ?_
          refine lv_bipush (v := 59) hx hb dX4_takes_48 (by decide) ?_
          refine lv_icmp_ne (tgt := 60) hx hb dX4_takes_50 (by decide) (fun hc => ?_) (fun hc => ?_)
          · replace hz := u_iff hz hc
            refine lv_aload_n hx hb dX4_takes_60 rfl (lv_at hl 1 rfl) ?_
            refine lv_iload_n hx hb dX4_takes_61 rfl (lv_at hl 2 rfl) ?_
            refine lv_iload_n hx hb dX4_takes_62 rfl (lv_at hl 0 rfl) ?_
            obtain ⟨v2, hv2, hz⟩ := u_bind hz
            refine u_callVi (As := [.int p1, .int x1]) (rest := []) cx hw LV_X4_39 (c_X4_takesLetter l G N σ p1 x1 v2 hv2) o_X4 rfl (by decide) hl.1 rfl (Nat.le_of_ble_eq_true rfl) dX4_takes_63 rfl (fun H locs hw => ?_)
            obtain ⟨h01, hz⟩ := u_ck_some hz
            exact u_zret cx hw h01 (u_pair hz) dX4_takes_66
          · replace hz := u_ift hz hc
            refine lv_aload_n hx hb dX4_takes_53 rfl (lv_at hl 1 rfl) ?_
            refine lv_iconst (v := 0) hx hb dX4_takes_54 (by decide) ?_
            obtain ⟨s3, es3, hz⟩ := u_let hz
            refine u_puti2 cx hw P_X4_28 o_X4 rfl es3 dX4_takes_55 (fun H locs hw => ?_)
            refine lv_iconst (v := 1) hx hb dX4_takes_58 (by decide) ?_
            exact u_zret cx hw (Or.inr rfl) (u_pair hz) dX4_takes_59
        · replace hz := u_ift hz hc
          refine lv_aload_n hx hb dX4_takes_40 rfl (lv_at hl 1 rfl) ?_
          refine lv_iload_n hx hb dX4_takes_41 rfl (lv_at hl 2 rfl) ?_
          refine lv_iload_n hx hb dX4_takes_42 rfl (lv_at hl 0 rfl) ?_
          obtain ⟨v4, hv4, hz⟩ := u_bind hz
          refine u_callVi (As := [.int p1, .int x1]) (rest := []) cx hw LV_X4_35 (c_X4_takesEdge l G N σ p1 x1 v4 hv4) o_X4 rfl (by decide) hl.1 rfl (Nat.le_of_ble_eq_true rfl) dX4_takes_43 rfl (fun H locs hw => ?_)
          obtain ⟨h01, hz⟩ := u_ck_some hz
          exact u_zret cx hw h01 (u_pair hz) dX4_takes_46
      · replace hz := u_iff hz hc
        refine lv_iconst (v := 0) hx hb dX4_takes_30 (by decide) ?_
        exact u_zret cx hw (Or.inl rfl) (u_pair hz) dX4_takes_31
  · replace hz := u_ift hz hc
    refine lv_aload_n hx hb dX4_takes_7 rfl (lv_at hl 0 rfl) ?_
    refine lv_iload_n hx hb dX4_takes_8 rfl (lv_at hl 1 rfl) ?_
    obtain ⟨v5, hv5, hz⟩ := u_bind hz
    refine u_callVi (As := [.int p1]) (rest := []) cx hw LV_X4_31 (c_X4_takesBelief l G N σ p1 v5 hv5) o_X4 rfl (by decide) hl.1 rfl (Nat.le_of_ble_eq_true rfl) dX4_takes_9 rfl (fun H locs hw => ?_)
    obtain ⟨h01, hz⟩ := u_ck_some hz
    exact u_zret cx hw h01 (u_pair hz) dX4_takes_12
theorem dX11_rule_0 : decode cX11_rule 0 = .ok (.aload_n 0, 1) := by decide +kernel
theorem dX11_rule_1 : decode cX11_rule 1 = .ok (.invokevirtual 136, 3) := by decide +kernel
theorem dX11_rule_4 : decode cX11_rule 4 = .ok (.istore_n 1, 1) := by decide +kernel
theorem dX11_rule_5 : decode cX11_rule 5 = .ok (.iload_n 1, 1) := by decide +kernel
theorem dX11_rule_6 : decode cX11_rule 6 = .ok (.ifCond .lt 7, 3) := by decide +kernel
theorem dX11_rule_9 : decode cX11_rule 9 = .ok (.iconst (-1), 1) := by decide +kernel
theorem dX11_rule_10 : decode cX11_rule 10 = .ok (.iload_n 1, 1) := by decide +kernel
theorem dX11_rule_11 : decode cX11_rule 11 = .ok (.isub, 1) := by decide +kernel
theorem dX11_rule_12 : decode cX11_rule 12 = .ok (.ireturn, 1) := by decide +kernel
theorem dX11_rule_13 : decode cX11_rule 13 = .ok (.aload_n 0, 1) := by decide +kernel
theorem dX11_rule_14 : decode cX11_rule 14 = .ok (.getfield 89, 3) := by decide +kernel
theorem dX11_rule_17 : decode cX11_rule 17 = .ok (.astore_n 2, 1) := by decide +kernel
theorem dX11_rule_18 : decode cX11_rule 18 = .ok (.aload_n 0, 1) := by decide +kernel
theorem dX11_rule_19 : decode cX11_rule 19 = .ok (.aload_n 0, 1) := by decide +kernel
theorem dX11_rule_20 : decode cX11_rule 20 = .ok (.getfield 93, 3) := by decide +kernel
theorem dX11_rule_23 : decode cX11_rule 23 = .ok (.putfield 89, 3) := by decide +kernel
theorem dX11_rule_26 : decode cX11_rule 26 = .ok (.aload_n 0, 1) := by decide +kernel
theorem dX11_rule_27 : decode cX11_rule 27 = .ok (.aload_n 2, 1) := by decide +kernel
theorem dX11_rule_28 : decode cX11_rule 28 = .ok (.putfield 93, 3) := by decide +kernel
theorem dX11_rule_31 : decode cX11_rule 31 = .ok (.iconst 0, 1) := by decide +kernel
theorem dX11_rule_32 : decode cX11_rule 32 = .ok (.ireturn, 1) := by decide +kernel
def f_X11_rule (N : Nat) (σ : uS) : Option (Int32 × uS) := (f_X11_readAnotherRule N σ).bind fun v1 =>
  if v1.1 < 0 then ((v1.2.2.2 0 13).bind fun v2 =>
  u_ck (isR v2) <|
  (v1.2.2.2 0 14).bind fun v3 =>
  u_ck (isR v3) <|
  u_jn (u_pR v1.2 0 13 (some v3)) fun s4 =>
  u_jn (u_pR s4 0 14 (some v2)) fun s5 =>
  some (0, s5)) else (some (((-1) - v1.1), v1.2))
set_option maxRecDepth 100000 in
set_option maxHeartbeats 4000000 in
theorem c_X11_rule (l : Launch) (G : uG) (N : Nat) (σ : uS) (z : (Int32 × uS)) (hz : f_X11_rule N σ = some z) : u_Mi l ZC G yX11_rule cX11_rule 3 .int 7 [.ref (G.2.2 0)] σ z.1 z.2 := by
  refine u_Mi_of RX11 (by decide) rfl (Nat.le_of_ble_eq_true rfl) ?_
  intro p e s m args below meth c ls cx hw hl
  have hx := cx.1
  have hb := cx.2.1
  have hl : lv_has ls 3 [(0, .ref (G.2.2 0))] := hl
  unfold f_X11_rule at hz
  refine lv_aload_n hx hb dX11_rule_0 rfl (lv_at hl 0 rfl) ?_
  obtain ⟨v1, hv1, hz⟩ := u_bind hz
  refine u_callVi (As := []) (rest := []) cx hw LV_X11_136 (c_X11_readAnotherRule l G N σ v1 hv1) o_X11 rfl (by decide) hl.1 rfl (Nat.le_of_ble_eq_true rfl) dX11_rule_1 rfl (fun H locs hw => ?_)
  refine lv_istore_n (lv' := [(1, .int v1.1), (0, .ref (G.2.2 0))]) hx hb dX11_rule_4 rfl hl (by decide) rfl (fun ls hl => ?_)
  refine lv_iload_n hx hb dX11_rule_5 rfl (lv_at hl 0 rfl) ?_
  refine lv_if_lt (tgt := 13) hx hb dX11_rule_6 (by decide) (fun hc => ?_) (fun hc => ?_)
  · replace hz := u_ift hz hc
    refine lv_aload_n hx hb dX11_rule_13 rfl (lv_at hl 1 rfl) ?_
    obtain ⟨v2, hv2, hz⟩ := u_bind hz
    obtain ⟨qv2, hz⟩ := u_ck_some hz
    refine u_getr cx hw F_X11_89 o_X11 rfl hv2 dX11_rule_14 ?_
    refine lv_astore_n (lv' := [(2, .ref (G.2.2 v2)), (1, .int v1.1), (0, .ref (G.2.2 0))]) hx hb dX11_rule_17 rfl hl (by decide) rfl (fun ls hl => ?_)
    refine lv_aload_n hx hb dX11_rule_18 rfl (lv_at hl 2 rfl) ?_
    refine lv_aload_n hx hb dX11_rule_19 rfl (lv_at hl 2 rfl) ?_
    obtain ⟨v3, hv3, hz⟩ := u_bind hz
    obtain ⟨qv3, hz⟩ := u_ck_some hz
    refine u_getr cx hw F_X11_93 o_X11 rfl hv3 dX11_rule_20 ?_
    obtain ⟨s4, es4, hz⟩ := u_let hz
    refine u_putr2 cx hw P_X11_89 o_X11 rfl rfl rfl es4 dX11_rule_23 (fun H locs hw => ?_)
    refine lv_aload_n hx hb dX11_rule_26 rfl (lv_at hl 2 rfl) ?_
    refine lv_aload_n hx hb dX11_rule_27 rfl (lv_at hl 0 rfl) ?_
    obtain ⟨s5, es5, hz⟩ := u_let hz
    refine u_putr2 cx hw P_X11_93 o_X11 rfl rfl rfl es5 dX11_rule_28 (fun H locs hw => ?_)
    refine lv_iconst (v := 0) hx hb dX11_rule_31 (by decide) ?_
    exact u_iret cx hw (u_pair hz) dX11_rule_32
  · replace hz := u_iff hz hc
    refine lv_iconst (v := (-1)) hx hb dX11_rule_9 (by decide) ?_
    refine lv_iload_n hx hb dX11_rule_10 rfl (lv_at hl 0 rfl) ?_
    refine lv_isub hx hb dX11_rule_11 ?_
    exact u_iret cx hw (u_pair hz) dX11_rule_12
theorem dX12_mean_0 : decode cX12_mean 0 = .ok (.aload_n 0, 1) := by decide +kernel
theorem dX12_mean_1 : decode cX12_mean 1 = .ok (.iconst 0, 1) := by decide +kernel
theorem dX12_mean_2 : decode cX12_mean 2 = .ok (.putfield 77, 3) := by decide +kernel
theorem dX12_mean_5 : decode cX12_mean 5 = .ok (.aload_n 0, 1) := by decide +kernel
theorem dX12_mean_6 : decode cX12_mean 6 = .ok (.aload_n 0, 1) := by decide +kernel
theorem dX12_mean_7 : decode cX12_mean 7 = .ok (.getfield 9, 3) := by decide +kernel
theorem dX12_mean_10 : decode cX12_mean 10 = .ok (.invokevirtual 214, 3) := by decide +kernel
theorem dX12_mean_13 : decode cX12_mean 13 = .ok (.istore_n 1, 1) := by decide +kernel
theorem dX12_mean_14 : decode cX12_mean 14 = .ok (.iload_n 1, 1) := by decide +kernel
theorem dX12_mean_15 : decode cX12_mean 15 = .ok (.invokestatic 206, 3) := by decide +kernel
theorem dX12_mean_18 : decode cX12_mean 18 = .ok (.istore_n 2, 1) := by decide +kernel
theorem dX12_mean_19 : decode cX12_mean 19 = .ok (.aload_n 0, 1) := by decide +kernel
theorem dX12_mean_20 : decode cX12_mean 20 = .ok (.aload_n 0, 1) := by decide +kernel
theorem dX12_mean_21 : decode cX12_mean 21 = .ok (.aload_n 0, 1) := by decide +kernel
theorem dX12_mean_22 : decode cX12_mean 22 = .ok (.getfield 9, 3) := by decide +kernel
theorem dX12_mean_25 : decode cX12_mean 25 = .ok (.iload_n 1, 1) := by decide +kernel
theorem dX12_mean_26 : decode cX12_mean 26 = .ok (.invokevirtual 211, 3) := by decide +kernel
theorem dX12_mean_29 : decode cX12_mean 29 = .ok (.i2l, 1) := by decide +kernel
theorem dX12_mean_30 : decode cX12_mean 30 = .ok (.iconst 1, 1) := by decide +kernel
theorem dX12_mean_31 : decode cX12_mean 31 = .ok (.iload_n 2, 1) := by decide +kernel
theorem dX12_mean_32 : decode cX12_mean 32 = .ok (.invokestatic 224, 3) := by decide +kernel
theorem dX12_mean_35 : decode cX12_mean 35 = .ok (.i2l, 1) := by decide +kernel
theorem dX12_mean_36 : decode cX12_mean 36 = .ok (.invokevirtual 306, 3) := by decide +kernel
theorem dX12_mean_39 : decode cX12_mean 39 = .ok (.iload_n 2, 1) := by decide +kernel
theorem dX12_mean_40 : decode cX12_mean 40 = .ok (.ireturn, 1) := by decide +kernel
def f_X12_mean (N : Nat) (σ : uS) : Option (Int32 × uS) := u_jn (u_pI σ 0 8 0) fun s1 =>
  (f_X12_inBits N s1 1).bind fun v2 =>
  (f_J6_bitCount_0f7a4 N s1 v2).bind fun v3 =>
  (f_X12_beliefs N s1 1 v2).bind fun v4 =>
  (f_X12_tellPart N s1 (Int32.toInt64 v4) (Int32.toInt64 (if 1 < v3 then v3 else 1))).bind fun s5 =>
  some (v3, s5)
set_option maxRecDepth 100000 in
set_option maxHeartbeats 4000000 in
theorem c_X12_mean (l : Launch) (G : uG) (N : Nat) (σ : uS) (z : (Int32 × uS)) (hz : f_X12_mean N σ = some z) : u_Mi l ZM G yX12_mean cX12_mean 3 .int 102 [.ref (G.2.2 0)] σ z.1 z.2 := by
  refine u_Mi_of RX12 (by decide) rfl (Nat.le_of_ble_eq_true rfl) ?_
  intro p e s m args below meth c ls cx hw hl
  have hx := cx.1
  have hb := cx.2.1
  have hl : lv_has ls 3 [(0, .ref (G.2.2 0))] := hl
  unfold f_X12_mean at hz
  refine lv_aload_n hx hb dX12_mean_0 rfl (lv_at hl 0 rfl) ?_
  refine lv_iconst (v := 0) hx hb dX12_mean_1 (by decide) ?_
  obtain ⟨s1, es1, hz⟩ := u_let hz
  refine u_puti2 cx hw P_X12_77 o_X12 rfl es1 dX12_mean_2 (fun H locs hw => ?_)
  refine lv_aload_n hx hb dX12_mean_5 rfl (lv_at hl 0 rfl) ?_
  refine lv_aload_n hx hb dX12_mean_6 rfl (lv_at hl 0 rfl) ?_
  refine u_getp cx hw F_X12_9 o_X12 rfl dX12_mean_7 ?_
  obtain ⟨v2, hv2, hz⟩ := u_bind hz
  refine u_callVi (As := [.ref (G.2.2 1)]) (rest := []) cx hw LV_X12_214 (c_X12_inBits l G N s1 1 v2 hv2) o_X12 rfl (by decide) hl.1 rfl (Nat.le_of_ble_eq_true rfl) dX12_mean_10 rfl (fun H locs hw => ?_)
  refine lv_istore_n (lv' := [(1, .int v2), (0, .ref (G.2.2 0))]) hx hb dX12_mean_13 rfl hl (by decide) rfl (fun ls hl => ?_)
  refine lv_iload_n hx hb dX12_mean_14 rfl (lv_at hl 0 rfl) ?_
  obtain ⟨v3, hv3, hz⟩ := u_bind hz
  refine u_callSi (As := [.int v2]) (rest := []) cx hw LS_X12_206 (c_J6_bitCount_0f7a4 l G ZM N s1 v2 v3 hv3) (by decide) hl.1 rfl (Nat.le_of_ble_eq_true rfl) dX12_mean_15 rfl (fun H locs hw => ?_)
  refine lv_istore_n (lv' := [(2, .int v3), (1, .int v2), (0, .ref (G.2.2 0))]) hx hb dX12_mean_18 rfl hl (by decide) rfl (fun ls hl => ?_)
  refine lv_aload_n hx hb dX12_mean_19 rfl (lv_at hl 2 rfl) ?_
  refine lv_aload_n hx hb dX12_mean_20 rfl (lv_at hl 2 rfl) ?_
  refine lv_aload_n hx hb dX12_mean_21 rfl (lv_at hl 2 rfl) ?_
  refine u_getp cx hw F_X12_9 o_X12 rfl dX12_mean_22 ?_
  refine lv_iload_n hx hb dX12_mean_25 rfl (lv_at hl 1 rfl) ?_
  obtain ⟨v4, hv4, hz⟩ := u_bind hz
  refine u_callVi (As := [.ref (G.2.2 1), .int v2]) (rest := [.ref (G.2.2 0)]) cx hw LV_X12_211 (c_X12_beliefs l G N s1 1 v2 v4 hv4) o_X12 rfl (by decide) hl.1 rfl (Nat.le_of_ble_eq_true rfl) dX12_mean_26 rfl (fun H locs hw => ?_)
  refine lv_i2l (v := (Int32.toInt64 v4)) hx hb dX12_mean_29 rfl ?_
  refine lv_iconst (v := 1) hx hb dX12_mean_30 (by decide) ?_
  refine lv_iload_n hx hb dX12_mean_31 rfl (lv_at hl 0 rfl) ?_
  refine u_mmax cx LM_X12_224 (by decide) hl.1 (Nat.le_of_ble_eq_true rfl) dX12_mean_32 ?_
  refine lv_i2l (v := (Int32.toInt64 (if 1 < v3 then v3 else 1))) hx hb dX12_mean_35 rfl ?_
  obtain ⟨s5, hs5, hz⟩ := u_bind hz
  refine u_callVv (As := [.long (Int32.toInt64 v4), .long (Int32.toInt64 (if 1 < v3 then v3 else 1))]) (rest := []) cx hw LV_X12_306 (c_X12_tellPart l G N s1 (Int32.toInt64 v4) (Int32.toInt64 (if 1 < v3 then v3 else 1)) s5 hs5) o_X12 rfl (by decide) hl.1 rfl (Nat.le_of_ble_eq_true rfl) dX12_mean_36 rfl (fun H locs hw => ?_)
  refine lv_iload_n hx hb dX12_mean_39 rfl (lv_at hl 0 rfl) ?_
  exact u_iret cx hw (u_pair hz) dX12_mean_40
theorem dX11_law_0 : decode cX11_law 0 = .ok (.aload_n 0, 1) := by decide +kernel
theorem dX11_law_1 : decode cX11_law 1 = .ok (.invokevirtual 136, 3) := by decide +kernel
theorem dX11_law_4 : decode cX11_law 4 = .ok (.istore_n 1, 1) := by decide +kernel
theorem dX11_law_5 : decode cX11_law 5 = .ok (.iload_n 1, 1) := by decide +kernel
theorem dX11_law_6 : decode cX11_law 6 = .ok (.ifCond .lt 9, 3) := by decide +kernel
theorem dX11_law_9 : decode cX11_law 9 = .ok (.sipush (-10000), 3) := by decide +kernel
theorem dX11_law_12 : decode cX11_law 12 = .ok (.iload_n 1, 1) := by decide +kernel
theorem dX11_law_13 : decode cX11_law 13 = .ok (.isub, 1) := by decide +kernel
theorem dX11_law_14 : decode cX11_law 14 = .ok (.ireturn, 1) := by decide +kernel
theorem dX11_law_15 : decode cX11_law 15 = .ok (.aload_n 0, 1) := by decide +kernel
theorem dX11_law_16 : decode cX11_law 16 = .ok (.getfield 30, 3) := by decide +kernel
theorem dX11_law_19 : decode cX11_law 19 = .ok (.aload_n 0, 1) := by decide +kernel
theorem dX11_law_20 : decode cX11_law 20 = .ok (.getfield 26, 3) := by decide +kernel
theorem dX11_law_23 : decode cX11_law 23 = .ok (.iconst 0, 1) := by decide +kernel
theorem dX11_law_24 : decode cX11_law 24 = .ok (.aload_n 0, 1) := by decide +kernel
theorem dX11_law_25 : decode cX11_law 25 = .ok (.getfield 93, 3) := by decide +kernel
theorem dX11_law_28 : decode cX11_law 28 = .ok (.bipush 10, 2) := by decide +kernel
theorem dX11_law_30 : decode cX11_law 30 = .ok (.iconst 0, 1) := by decide +kernel
theorem dX11_law_31 : decode cX11_law 31 = .ok (.invokevirtual 308, 3) := by decide +kernel
theorem dX11_law_34 : decode cX11_law 34 = .ok (.aload_n 0, 1) := by decide +kernel
theorem dX11_law_35 : decode cX11_law 35 = .ok (.getfield 30, 3) := by decide +kernel
theorem dX11_law_38 : decode cX11_law 38 = .ok (.invokevirtual 224, 3) := by decide +kernel
theorem dX11_law_41 : decode cX11_law 41 = .ok (.istore_n 2, 1) := by decide +kernel
theorem dX11_law_42 : decode cX11_law 42 = .ok (.aload_n 0, 1) := by decide +kernel
theorem dX11_law_43 : decode cX11_law 43 = .ok (.getfield 30, 3) := by decide +kernel
theorem dX11_law_46 : decode cX11_law 46 = .ok (.aload_n 0, 1) := by decide +kernel
theorem dX11_law_47 : decode cX11_law 47 = .ok (.getfield 26, 3) := by decide +kernel
theorem dX11_law_50 : decode cX11_law 50 = .ok (.iconst 0, 1) := by decide +kernel
theorem dX11_law_51 : decode cX11_law 51 = .ok (.aload_n 0, 1) := by decide +kernel
theorem dX11_law_52 : decode cX11_law 52 = .ok (.getfield 89, 3) := by decide +kernel
theorem dX11_law_55 : decode cX11_law 55 = .ok (.bipush 10, 2) := by decide +kernel
theorem dX11_law_57 : decode cX11_law 57 = .ok (.iconst 0, 1) := by decide +kernel
theorem dX11_law_58 : decode cX11_law 58 = .ok (.invokevirtual 308, 3) := by decide +kernel
theorem dX11_law_61 : decode cX11_law 61 = .ok (.aload_n 0, 1) := by decide +kernel
theorem dX11_law_62 : decode cX11_law 62 = .ok (.getfield 30, 3) := by decide +kernel
theorem dX11_law_65 : decode cX11_law 65 = .ok (.invokevirtual 224, 3) := by decide +kernel
theorem dX11_law_68 : decode cX11_law 68 = .ok (.istore_n 3, 1) := by decide +kernel
theorem dX11_law_69 : decode cX11_law 69 = .ok (.aload_n 0, 1) := by decide +kernel
theorem dX11_law_70 : decode cX11_law 70 = .ok (.getfield 19, 3) := by decide +kernel
theorem dX11_law_73 : decode cX11_law 73 = .ok (.iload_n 2, 1) := by decide +kernel
theorem dX11_law_74 : decode cX11_law 74 = .ok (.i2l, 1) := by decide +kernel
theorem dX11_law_75 : decode cX11_law 75 = .ok (.iload_n 3, 1) := by decide +kernel
theorem dX11_law_76 : decode cX11_law 76 = .ok (.i2l, 1) := by decide +kernel
theorem dX11_law_77 : decode cX11_law 77 = .ok (.invokevirtual 220, 3) := by decide +kernel
theorem dX11_law_80 : decode cX11_law 80 = .ok (.iload_n 2, 1) := by decide +kernel
theorem dX11_law_81 : decode cX11_law 81 = .ok (.iload_n 3, 1) := by decide +kernel
theorem dX11_law_82 : decode cX11_law 82 = .ok (.isub, 1) := by decide +kernel
theorem dX11_law_83 : decode cX11_law 83 = .ok (.ireturn, 1) := by decide +kernel
def f_X11_law (N : Nat) (σ : uS) : Option (Int32 × uS) := (f_X11_readAnotherRule N σ).bind fun v1 =>
  if v1.1 < 0 then ((v1.2.2.2 0 14).bind fun v2 =>
  u_ck (isR v2) <|
  (f_X7_believeFrom N v1.2 38 32 0 v2 10 0).bind fun s3 =>
  (f_X7_howManyIn N s3 38).bind fun v4 =>
  (s3.2.2 0 13).bind fun v5 =>
  u_ck (isR v5) <|
  (f_X7_believeFrom N s3 38 32 0 v5 10 0).bind fun s6 =>
  (f_X7_howManyIn N s6 38).bind fun v7 =>
  (f_X8_two N s6 (Int32.toInt64 v4) (Int32.toInt64 v7)).bind fun s8 =>
  some ((v4 - v7), s8)) else (some (((-10000) - v1.1), v1.2))
set_option maxRecDepth 100000 in
set_option maxHeartbeats 4000000 in
theorem c_X11_law (l : Launch) (G : uG) (N : Nat) (σ : uS) (z : (Int32 × uS)) (hz : f_X11_law N σ = some z) : u_Mi l ZC G yX11_law cX11_law 4 .int 7 [.ref (G.2.2 0)] σ z.1 z.2 := by
  refine u_Mi_of RX11 (by decide) rfl (Nat.le_of_ble_eq_true rfl) ?_
  intro p e s m args below meth c ls cx hw hl
  have hx := cx.1
  have hb := cx.2.1
  have hl : lv_has ls 4 [(0, .ref (G.2.2 0))] := hl
  unfold f_X11_law at hz
  refine lv_aload_n hx hb dX11_law_0 rfl (lv_at hl 0 rfl) ?_
  obtain ⟨v1, hv1, hz⟩ := u_bind hz
  refine u_callVi (As := []) (rest := []) cx hw LV_X11_136 (c_X11_readAnotherRule l G N σ v1 hv1) o_X11 rfl (by decide) hl.1 rfl (Nat.le_of_ble_eq_true rfl) dX11_law_1 rfl (fun H locs hw => ?_)
  refine lv_istore_n (lv' := [(1, .int v1.1), (0, .ref (G.2.2 0))]) hx hb dX11_law_4 rfl hl (by decide) rfl (fun ls hl => ?_)
  refine lv_iload_n hx hb dX11_law_5 rfl (lv_at hl 0 rfl) ?_
  refine lv_if_lt (tgt := 15) hx hb dX11_law_6 (by decide) (fun hc => ?_) (fun hc => ?_)
  · replace hz := u_ift hz hc
    refine lv_aload_n hx hb dX11_law_15 rfl (lv_at hl 1 rfl) ?_
    refine u_getp cx hw F_X11_30 o_X11 rfl dX11_law_16 ?_
    refine lv_aload_n hx hb dX11_law_19 rfl (lv_at hl 1 rfl) ?_
    refine u_getp cx hw F_X11_26 o_X11 rfl dX11_law_20 ?_
    refine lv_iconst (v := 0) hx hb dX11_law_23 (by decide) ?_
    refine lv_aload_n hx hb dX11_law_24 rfl (lv_at hl 1 rfl) ?_
    obtain ⟨v2, hv2, hz⟩ := u_bind hz
    obtain ⟨qv2, hz⟩ := u_ck_some hz
    refine u_getr cx hw F_X11_93 o_X11 rfl hv2 dX11_law_25 ?_
    refine lv_bipush (v := 10) hx hb dX11_law_28 (by decide) ?_
    refine lv_iconst (v := 0) hx hb dX11_law_30 (by decide) ?_
    obtain ⟨s3, hs3, hz⟩ := u_bind hz
    refine u_callVv (As := [.ref (G.2.2 32), .int 0, .ref (G.2.2 v2), .int 10, .int 0]) (rest := []) cx hw LV_X11_308 (c_X7_believeFrom l G N v1.2 38 oS_38 32 oS_32 0 v2 (o_R qv2) 10 0 s3 hs3) oS_38 rfl (by decide) hl.1 rfl (Nat.le_of_ble_eq_true rfl) dX11_law_31 rfl (fun H locs hw => ?_)
    refine lv_aload_n hx hb dX11_law_34 rfl (lv_at hl 1 rfl) ?_
    refine u_getp cx hw F_X11_30 o_X11 rfl dX11_law_35 ?_
    obtain ⟨v4, hv4, hz⟩ := u_bind hz
    refine u_callVi (As := []) (rest := []) cx hw LV_X11_224 (c_X7_howManyIn l G N s3 38 oS_38 v4 hv4) oS_38 rfl (by decide) hl.1 rfl (Nat.le_of_ble_eq_true rfl) dX11_law_38 rfl (fun H locs hw => ?_)
    refine lv_istore_n (lv' := [(2, .int v4), (1, .int v1.1), (0, .ref (G.2.2 0))]) hx hb dX11_law_41 rfl hl (by decide) rfl (fun ls hl => ?_)
    refine lv_aload_n hx hb dX11_law_42 rfl (lv_at hl 2 rfl) ?_
    refine u_getp cx hw F_X11_30 o_X11 rfl dX11_law_43 ?_
    refine lv_aload_n hx hb dX11_law_46 rfl (lv_at hl 2 rfl) ?_
    refine u_getp cx hw F_X11_26 o_X11 rfl dX11_law_47 ?_
    refine lv_iconst (v := 0) hx hb dX11_law_50 (by decide) ?_
    refine lv_aload_n hx hb dX11_law_51 rfl (lv_at hl 2 rfl) ?_
    obtain ⟨v5, hv5, hz⟩ := u_bind hz
    obtain ⟨qv5, hz⟩ := u_ck_some hz
    refine u_getr cx hw F_X11_89 o_X11 rfl hv5 dX11_law_52 ?_
    refine lv_bipush (v := 10) hx hb dX11_law_55 (by decide) ?_
    refine lv_iconst (v := 0) hx hb dX11_law_57 (by decide) ?_
    obtain ⟨s6, hs6, hz⟩ := u_bind hz
    refine u_callVv (As := [.ref (G.2.2 32), .int 0, .ref (G.2.2 v5), .int 10, .int 0]) (rest := []) cx hw LV_X11_308 (c_X7_believeFrom l G N s3 38 oS_38 32 oS_32 0 v5 (o_R qv5) 10 0 s6 hs6) oS_38 rfl (by decide) hl.1 rfl (Nat.le_of_ble_eq_true rfl) dX11_law_58 rfl (fun H locs hw => ?_)
    refine lv_aload_n hx hb dX11_law_61 rfl (lv_at hl 2 rfl) ?_
    refine u_getp cx hw F_X11_30 o_X11 rfl dX11_law_62 ?_
    obtain ⟨v7, hv7, hz⟩ := u_bind hz
    refine u_callVi (As := []) (rest := []) cx hw LV_X11_224 (c_X7_howManyIn l G N s6 38 oS_38 v7 hv7) oS_38 rfl (by decide) hl.1 rfl (Nat.le_of_ble_eq_true rfl) dX11_law_65 rfl (fun H locs hw => ?_)
    refine lv_istore_n (lv' := [(3, .int v7), (2, .int v4), (1, .int v1.1), (0, .ref (G.2.2 0))]) hx hb dX11_law_68 rfl hl (by decide) rfl (fun ls hl => ?_)
    refine lv_aload_n hx hb dX11_law_69 rfl (lv_at hl 3 rfl) ?_
    refine u_getp cx hw F_X11_19 o_X11 rfl dX11_law_70 ?_
    refine lv_iload_n hx hb dX11_law_73 rfl (lv_at hl 1 rfl) ?_
    refine lv_i2l (v := (Int32.toInt64 v4)) hx hb dX11_law_74 rfl ?_
    refine lv_iload_n hx hb dX11_law_75 rfl (lv_at hl 0 rfl) ?_
    refine lv_i2l (v := (Int32.toInt64 v7)) hx hb dX11_law_76 rfl ?_
    obtain ⟨s8, hs8, hz⟩ := u_bind hz
    refine u_callVv (As := [.long (Int32.toInt64 v4), .long (Int32.toInt64 v7)]) (rest := []) cx hw LV_X11_220 (c_X8_two l G N s6 (Int32.toInt64 v4) (Int32.toInt64 v7) s8 hs8) o_X8 rfl (by decide) hl.1 rfl (Nat.le_of_ble_eq_true rfl) dX11_law_77 rfl (fun H locs hw => ?_)
    refine lv_iload_n hx hb dX11_law_80 rfl (lv_at hl 1 rfl) ?_
    refine lv_iload_n hx hb dX11_law_81 rfl (lv_at hl 0 rfl) ?_
    refine lv_isub hx hb dX11_law_82 ?_
    exact u_iret cx hw (u_pair hz) dX11_law_83
  · replace hz := u_iff hz hc
    refine lv_sipush (v := (-10000)) hx hb dX11_law_9 (by decide) ?_
    refine lv_iload_n hx hb dX11_law_12 rfl (lv_at hl 0 rfl) ?_
    refine lv_isub hx hb dX11_law_13 ?_
    exact u_iret cx hw (u_pair hz) dX11_law_14
theorem dX11_week_0 : decode cX11_week 0 = .ok (.aload_n 0, 1) := by decide +kernel
theorem dX11_week_1 : decode cX11_week 1 = .ok (.getfield 67, 3) := by decide +kernel
theorem dX11_week_4 : decode cX11_week 4 = .ok (.invokevirtual 242, 3) := by decide +kernel
theorem dX11_week_7 : decode cX11_week 7 = .ok (.aload_n 0, 1) := by decide +kernel
theorem dX11_week_8 : decode cX11_week 8 = .ok (.getfield 67, 3) := by decide +kernel
theorem dX11_week_11 : decode cX11_week 11 = .ok (.aload_n 0, 1) := by decide +kernel
theorem dX11_week_12 : decode cX11_week 12 = .ok (.getfield 10, 3) := by decide +kernel
theorem dX11_week_15 : decode cX11_week 15 = .ok (.bipush 60, 2) := by decide +kernel
theorem dX11_week_17 : decode cX11_week 17 = .ok (.invokevirtual 243, 3) := by decide +kernel
theorem dX11_week_20 : decode cX11_week 20 = .ok (.istore_n 1, 1) := by decide +kernel
theorem dX11_week_21 : decode cX11_week 21 = .ok (.iload_n 1, 1) := by decide +kernel
theorem dX11_week_22 : decode cX11_week 22 = .ok (.ifCond .lt 7, 3) := by decide +kernel
theorem dX11_week_25 : decode cX11_week 25 = .ok (.iconst (-1), 1) := by decide +kernel
theorem dX11_week_26 : decode cX11_week 26 = .ok (.iload_n 1, 1) := by decide +kernel
theorem dX11_week_27 : decode cX11_week 27 = .ok (.isub, 1) := by decide +kernel
theorem dX11_week_28 : decode cX11_week 28 = .ok (.ireturn, 1) := by decide +kernel
theorem dX11_week_29 : decode cX11_week 29 = .ok (.aload_n 0, 1) := by decide +kernel
theorem dX11_week_30 : decode cX11_week 30 = .ok (.getfield 33, 3) := by decide +kernel
theorem dX11_week_33 : decode cX11_week 33 = .ok (.aload_n 0, 1) := by decide +kernel
theorem dX11_week_34 : decode cX11_week 34 = .ok (.getfield 26, 3) := by decide +kernel
theorem dX11_week_37 : decode cX11_week 37 = .ok (.invokevirtual 206, 3) := by decide +kernel
theorem dX11_week_40 : decode cX11_week 40 = .ok (.iconst 0, 1) := by decide +kernel
theorem dX11_week_41 : decode cX11_week 41 = .ok (.istore_n 2, 1) := by decide +kernel
theorem dX11_week_42 : decode cX11_week 42 = .ok (.iconst 0, 1) := by decide +kernel
theorem dX11_week_43 : decode cX11_week 43 = .ok (.istore_n 3, 1) := by decide +kernel
theorem dX11_week_44 : decode cX11_week 44 = .ok (.iconst 0, 1) := by decide +kernel
theorem dX11_week_45 : decode cX11_week 45 = .ok (.istore 4, 2) := by decide +kernel
theorem dX11_week_47 : decode cX11_week 47 = .ok (.iload 4, 2) := by decide +kernel
theorem dX11_week_49 : decode cX11_week 49 = .ok (.aload_n 0, 1) := by decide +kernel
theorem dX11_week_50 : decode cX11_week 50 = .ok (.getfield 67, 3) := by decide +kernel
theorem dX11_week_53 : decode cX11_week 53 = .ok (.getfield 244, 3) := by decide +kernel
theorem dX11_week_56 : decode cX11_week 56 = .ok (.if_icmp .ge 40, 3) := by decide +kernel
theorem dX11_week_59 : decode cX11_week 59 = .ok (.iload_n 3, 1) := by decide +kernel
theorem dX11_week_60 : decode cX11_week 60 = .ok (.ifCond .ne 36, 3) := by decide +kernel
theorem dX11_week_63 : decode cX11_week 63 = .ok (.aload_n 0, 1) := by decide +kernel
theorem dX11_week_64 : decode cX11_week 64 = .ok (.iload 4, 2) := by decide +kernel
theorem dX11_week_66 : decode cX11_week 66 = .ok (.invokevirtual 247, 3) := by decide +kernel
theorem dX11_week_69 : decode cX11_week 69 = .ok (.ifCond .ge 7, 3) := by decide +kernel
theorem dX11_week_72 : decode cX11_week 72 = .ok (.iconst 1, 1) := by decide +kernel
theorem dX11_week_73 : decode cX11_week 73 = .ok (.goto 4, 3) := by decide +kernel
theorem dX11_week_76 : decode cX11_week 76 = .ok (.iconst 0, 1) := by decide +kernel
theorem dX11_week_77 : decode cX11_week 77 = .ok (.istore_n 3, 1) := by decide +kernel
theorem dX11_week_78 : decode cX11_week 78 = .ok (.iload_n 2, 1) := by decide +kernel
theorem dX11_week_79 : decode cX11_week 79 = .ok (.iload_n 3, 1) := by decide +kernel
theorem dX11_week_80 : decode cX11_week 80 = .ok (.ifCond .eq 7, 3) := by decide +kernel
theorem dX11_week_83 : decode cX11_week 83 = .ok (.iconst 0, 1) := by decide +kernel
theorem dX11_week_84 : decode cX11_week 84 = .ok (.goto 4, 3) := by decide +kernel
theorem dX11_week_87 : decode cX11_week 87 = .ok (.iconst 1, 1) := by decide +kernel
theorem dX11_week_88 : decode cX11_week 88 = .ok (.iadd, 1) := by decide +kernel
theorem dX11_week_89 : decode cX11_week 89 = .ok (.istore_n 2, 1) := by decide +kernel
theorem dX11_week_90 : decode cX11_week 90 = .ok (.iinc 4 1, 3) := by decide +kernel
theorem dX11_week_93 : decode cX11_week 93 = .ok (.goto (-46), 3) := by decide +kernel
theorem dX11_week_96 : decode cX11_week 96 = .ok (.iload_n 2, 1) := by decide +kernel
theorem dX11_week_97 : decode cX11_week 97 = .ok (.ifCond .le 14, 3) := by decide +kernel
theorem dX11_week_100 : decode cX11_week 100 = .ok (.aload_n 0, 1) := by decide +kernel
theorem dX11_week_101 : decode cX11_week 101 = .ok (.getfield 39, 3) := by decide +kernel
theorem dX11_week_104 : decode cX11_week 104 = .ok (.aload_n 0, 1) := by decide +kernel
theorem dX11_week_105 : decode cX11_week 105 = .ok (.getfield 33, 3) := by decide +kernel
theorem dX11_week_108 : decode cX11_week 108 = .ok (.invokevirtual 214, 3) := by decide +kernel
theorem dX11_week_111 : decode cX11_week 111 = .ok (.aload_n 0, 1) := by decide +kernel
theorem dX11_week_112 : decode cX11_week 112 = .ok (.getfield 19, 3) := by decide +kernel
theorem dX11_week_115 : decode cX11_week 115 = .ok (.iload_n 3, 1) := by decide +kernel
theorem dX11_week_116 : decode cX11_week 116 = .ok (.ifCond .eq 7, 3) := by decide +kernel
theorem dX11_week_119 : decode cX11_week 119 = .ok (.lconst 1, 1) := by decide +kernel
theorem dX11_week_120 : decode cX11_week 120 = .ok (.goto 4, 3) := by decide +kernel
theorem dX11_week_123 : decode cX11_week 123 = .ok (.lconst 0, 1) := by decide +kernel
theorem dX11_week_124 : decode cX11_week 124 = .ok (.aload_n 0, 1) := by decide +kernel
theorem dX11_week_125 : decode cX11_week 125 = .ok (.getfield 26, 3) := by decide +kernel
theorem dX11_week_128 : decode cX11_week 128 = .ok (.invokevirtual 224, 3) := by decide +kernel
theorem dX11_week_131 : decode cX11_week 131 = .ok (.i2l, 1) := by decide +kernel
theorem dX11_week_132 : decode cX11_week 132 = .ok (.invokevirtual 220, 3) := by decide +kernel
theorem dX11_week_135 : decode cX11_week 135 = .ok (.iload_n 2, 1) := by decide +kernel
theorem dX11_week_136 : decode cX11_week 136 = .ok (.ireturn, 1) := by decide +kernel
def b_X11_week_47 (N : Nat) (J96_7 : uS → Int32 → Int32 → Option (Int32 × uS)) (rec47_19 : uS → Int32 → Int32 → Int32 → Option (Int32 × uS)) (s15 : uS) (x16 : Int32) (x17 : Int32) (x18 : Int32) : Option (Int32 × uS) :=
  if (s15.1 15 3) ≤ x18 then (J96_7 s15 x16 x17) else (if x17 = 0 then ((f_X11_doAct N s15 x18).bind fun v20 =>
  u_jn (fun (t21 : Int32) => (u_jn (fun (t23 : Int32) => (u_jn ((x16 + t23) : Int32) fun x25 =>
  u_jn (x18 + 1 : Int32) fun x26 =>
  rec47_19 v20.2 x25 t21 x26 : Option (Int32 × uS))) fun J88_24 =>
  if t21 = 0 then (J88_24 1) else (J88_24 0) : Option (Int32 × uS))) fun J77_22 =>
  if 0 ≤ v20.1 then (J77_22 0) else (J77_22 1)) else (J96_7 s15 x16 x17))
def f_X11_week (N : Nat) (σ : uS) : Option (Int32 × uS) := (f_X9_begin N σ).bind fun s1 =>
  (f_X5_wrongAt_X9 N s1 60).bind fun v2 =>
  if v2.1 < 0 then ((f_X7_copy N v2.2 44 32).bind fun s3 =>
  u_jn (fun (s4 : uS) (x5 : Int32) (x6 : Int32) => (u_jn (fun (s8 : uS) => (u_jn (fun (t10 : Int64) => ((f_X7_howManyIn N s8 32).bind fun v12 =>
  (f_X8_two N s8 t10 (Int32.toInt64 v12)).bind fun s13 =>
  some (x5, s13) : Option (Int32 × uS))) fun J124_11 =>
  if x6 = 0 then (J124_11 0) else (J124_11 1) : Option (Int32 × uS))) fun J111_9 =>
  if x5 ≤ 0 then (J111_9 s4) else ((f_X3_push N s4 44).bind fun s14 =>
  J111_9 s14) : Option (Int32 × uS))) fun J96_7 =>
  u_lp4 (b_X11_week_47 N J96_7) N s3 0 0 0) else (some (((-1) - v2.1), v2.2))
set_option maxRecDepth 100000 in
set_option maxHeartbeats 4000000 in
theorem c_X11_week (l : Launch) (G : uG) (N : Nat) (σ : uS) (z : (Int32 × uS)) (hz : f_X11_week N σ = some z) : u_Mi l ZC G yX11_week cX11_week 5 .int 6 [.ref (G.2.2 0)] σ z.1 z.2 := by
  refine u_Mi_of RX11 (by decide) rfl (Nat.le_of_ble_eq_true rfl) ?_
  intro p e s m args below meth c ls cx hw hl
  have hx := cx.1
  have hb := cx.2.1
  have hl : lv_has ls 5 [(0, .ref (G.2.2 0))] := hl
  unfold f_X11_week at hz
  refine lv_aload_n hx hb dX11_week_0 rfl (lv_at hl 0 rfl) ?_
  refine u_getp cx hw F_X11_67 o_X11 rfl dX11_week_1 ?_
  obtain ⟨s1, hs1, hz⟩ := u_bind hz
  refine u_callVv (As := []) (rest := []) cx hw LV_X11_242 (c_X9_begin l G N σ s1 hs1) o_X9 rfl (by decide) hl.1 rfl (Nat.le_of_ble_eq_true rfl) dX11_week_4 rfl (fun H locs hw => ?_)
  refine lv_aload_n hx hb dX11_week_7 rfl (lv_at hl 0 rfl) ?_
  refine u_getp cx hw F_X11_67 o_X11 rfl dX11_week_8 ?_
  refine lv_aload_n hx hb dX11_week_11 rfl (lv_at hl 0 rfl) ?_
  refine u_getp cx hw F_X11_10 o_X11 rfl dX11_week_12 ?_
  refine lv_bipush (v := 60) hx hb dX11_week_15 (by decide) ?_
  obtain ⟨v2, hv2, hz⟩ := u_bind hz
  refine u_callUi (As := [.ref (G.2.2 1), .int 60]) (rest := []) cx hw LU_X11_243 (c_X5_wrongAt_X9 l G N s1 60 v2 hv2) o_X9 rfl (by decide) hl.1 rfl (Nat.le_of_ble_eq_true rfl) dX11_week_17 rfl (fun H locs hw => ?_)
  refine lv_istore_n (lv' := [(1, .int v2.1), (0, .ref (G.2.2 0))]) hx hb dX11_week_20 rfl hl (by decide) rfl (fun ls hl => ?_)
  refine lv_iload_n hx hb dX11_week_21 rfl (lv_at hl 0 rfl) ?_
  refine lv_if_lt (tgt := 29) hx hb dX11_week_22 (by decide) (fun hc => ?_) (fun hc => ?_)
  · replace hz := u_ift hz hc
    refine lv_aload_n hx hb dX11_week_29 rfl (lv_at hl 1 rfl) ?_
    refine u_getp cx hw F_X11_33 o_X11 rfl dX11_week_30 ?_
    refine lv_aload_n hx hb dX11_week_33 rfl (lv_at hl 1 rfl) ?_
    refine u_getp cx hw F_X11_26 o_X11 rfl dX11_week_34 ?_
    obtain ⟨s3, hs3, hz⟩ := u_bind hz
    refine u_callVv (As := [.ref (G.2.2 32)]) (rest := []) cx hw LV_X11_206 (c_X7_copy l G N v2.2 44 oS_44 32 oS_32 s3 hs3) oS_44 rfl (by decide) hl.1 rfl (Nat.le_of_ble_eq_true rfl) dX11_week_37 rfl (fun H locs hw => ?_)
    refine lv_iconst (v := 0) hx hb dX11_week_40 (by decide) ?_
    refine lv_istore_n (lv' := [(2, .int 0), (1, .int v2.1), (0, .ref (G.2.2 0))]) hx hb dX11_week_41 rfl hl (by decide) rfl (fun ls hl => ?_)
    refine lv_iconst (v := 0) hx hb dX11_week_42 (by decide) ?_
    refine lv_istore_n (lv' := [(3, .int 0), (2, .int 0), (1, .int v2.1), (0, .ref (G.2.2 0))]) hx hb dX11_week_43 rfl hl (by decide) rfl (fun ls hl => ?_)
    refine lv_iconst (v := 0) hx hb dX11_week_44 (by decide) ?_
    refine lv_istore (lv' := [(4, .int 0), (3, .int 0), (2, .int 0), (1, .int v2.1), (0, .ref (G.2.2 0))]) hx hb dX11_week_45 hl (by decide) rfl (fun ls hl => ?_)
    obtain ⟨J96_7, eJ96_7, hz⟩ := u_let hz
    have WJ96_7 : ∀ (s4 : uS) (x5 : Int32) (x6 : Int32) (H : Heap) (locs : List Loc) (ls : Array Slot), J96_7 s4 x5 x6 = some z → u_W ZC G s4 s H locs → lv_has ls 5 [(0, .ref (G.2.2 0)), (2, .int x5), (3, .int x6)] → W p l e (u_rm 6) s m args below meth c H locs 0 0 (u_Qi below ZC G s args z.1 z.2) (F0 m 96 ls []) := by
      intro s4 x5 x6 H locs ls hz hw hl
      rw [eJ96_7] at hz
      refine lv_iload_n hx hb dX11_week_96 rfl (lv_at hl 1 rfl) ?_
      obtain ⟨J111_9, eJ111_9, hz⟩ := u_let hz
      have WJ111_9 : ∀ (s8 : uS) (H : Heap) (locs : List Loc) (ls : Array Slot), J111_9 s8 = some z → u_W ZC G s8 s H locs → lv_has ls 5 [(0, .ref (G.2.2 0)), (2, .int x5), (3, .int x6)] → W p l e (u_rm 6) s m args below meth c H locs 0 0 (u_Qi below ZC G s args z.1 z.2) (F0 m 111 ls []) := by
        intro s8 H locs ls hz hw hl
        rw [eJ111_9] at hz
        refine lv_aload_n hx hb dX11_week_111 rfl (lv_at hl 0 rfl) ?_
        refine u_getp cx hw F_X11_19 o_X11 rfl dX11_week_112 ?_
        refine lv_iload_n hx hb dX11_week_115 rfl (lv_at hl 2 rfl) ?_
        obtain ⟨J124_11, eJ124_11, hz⟩ := u_let hz
        have WJ124_11 : ∀ (t10 : Int64) (H : Heap) (locs : List Loc) (ls : Array Slot), J124_11 t10 = some z → u_W ZC G s8 s H locs → lv_has ls 5 [(0, .ref (G.2.2 0)), (2, .int x5)] → W p l e (u_rm 6) s m args below meth c H locs 0 0 (u_Qi below ZC G s args z.1 z.2) (F0 m 124 ls [.long t10, .ref (G.2.2 3)]) := by
          intro t10 H locs ls hz hw hl
          rw [eJ124_11] at hz
          refine lv_aload_n hx hb dX11_week_124 rfl (lv_at hl 0 rfl) ?_
          refine u_getp cx hw F_X11_26 o_X11 rfl dX11_week_125 ?_
          obtain ⟨v12, hv12, hz⟩ := u_bind hz
          refine u_callVi (As := []) (rest := [.long t10, .ref (G.2.2 3)]) cx hw LV_X11_224 (c_X7_howManyIn l G N s8 32 oS_32 v12 hv12) oS_32 rfl (by decide) hl.1 rfl (Nat.le_of_ble_eq_true rfl) dX11_week_128 rfl (fun H locs hw => ?_)
          refine lv_i2l (v := (Int32.toInt64 v12)) hx hb dX11_week_131 rfl ?_
          obtain ⟨s13, hs13, hz⟩ := u_bind hz
          refine u_callVv (As := [.long t10, .long (Int32.toInt64 v12)]) (rest := []) cx hw LV_X11_220 (c_X8_two l G N s8 t10 (Int32.toInt64 v12) s13 hs13) o_X8 rfl (by decide) hl.1 rfl (Nat.le_of_ble_eq_true rfl) dX11_week_132 rfl (fun H locs hw => ?_)
          refine lv_iload_n hx hb dX11_week_135 rfl (lv_at hl 1 rfl) ?_
          exact u_iret cx hw (u_pair hz) dX11_week_136
        refine lv_if_eq (tgt := 123) hx hb dX11_week_116 (by decide) (fun hc => ?_) (fun hc => ?_)
        · replace hz := u_ift hz hc
          refine lv_lconst (v := 0) hx hb dX11_week_123 (by decide) ?_
          exact WJ124_11 0 _ _ _ hz hw (lv_sub hl [0, 1] rfl)
        · replace hz := u_iff hz hc
          refine lv_lconst (v := 1) hx hb dX11_week_119 (by decide) ?_
          refine lv_goto (tgt := 124) hx hb dX11_week_120 (by decide) ?_
          exact WJ124_11 1 _ _ _ hz hw (lv_sub hl [0, 1] rfl)
      refine lv_if_le (tgt := 111) hx hb dX11_week_97 (by decide) (fun hc => ?_) (fun hc => ?_)
      · replace hz := u_ift hz hc
        exact WJ111_9 s4 _ _ _ hz hw (lv_sub hl [0, 1, 2] rfl)
      · replace hz := u_iff hz hc
        refine lv_aload_n hx hb dX11_week_100 rfl (lv_at hl 0 rfl) ?_
        refine u_getp cx hw F_X11_39 o_X11 rfl dX11_week_101 ?_
        refine lv_aload_n hx hb dX11_week_104 rfl (lv_at hl 0 rfl) ?_
        refine u_getp cx hw F_X11_33 o_X11 rfl dX11_week_105 ?_
        obtain ⟨s14, hs14, hz⟩ := u_bind hz
        refine u_callVv (As := [.ref (G.2.2 44)]) (rest := []) cx hw LV_X11_214 (c_X3_push l G N s4 44 oS_44 s14 hs14) o_X3 rfl (by decide) hl.1 rfl (Nat.le_of_ble_eq_true rfl) dX11_week_108 rfl (fun H locs hw => ?_)
        exact WJ111_9 s14 _ _ _ hz hw (lv_sub hl [0, 1, 2] rfl)
    have WL47_26 : ∀ (k : Nat) (s15 : uS) (x16 : Int32) (x17 : Int32) (x18 : Int32) (H : Heap) (locs : List Loc) (ls : Array Slot), u_lp4 (b_X11_week_47 N J96_7) k s15 x16 x17 x18 = some z → u_W ZC G s15 s H locs → lv_has ls 5 [(0, .ref (G.2.2 0)), (2, .int x16), (3, .int x17), (4, .int x18)] → W p l e (u_rm 6) s m args below meth c H locs 0 0 (u_Qi below ZC G s args z.1 z.2) (F0 m 47 ls []) := by
      intro k
      induction k with
      | zero =>
        intro s15 x16 x17 x18 H locs ls hz
        exact absurd hz (by intro h9; cases h9)
      | succ k ih47_19 =>
        intro s15 x16 x17 x18 H locs ls hz hw hl
        have hz : (b_X11_week_47 N J96_7) (u_lp4 (b_X11_week_47 N J96_7) k) s15 x16 x17 x18 = some z := hz
        unfold b_X11_week_47 at hz
        refine lv_iload hx hb dX11_week_47 (lv_at hl 3 rfl) ?_
        refine lv_aload_n hx hb dX11_week_49 rfl (lv_at hl 0 rfl) ?_
        refine u_getp cx hw F_X11_67 o_X11 rfl dX11_week_50 ?_
        refine u_geti cx hw F_X11_244 o_X9 rfl dX11_week_53 ?_
        refine lv_icmp_ge (tgt := 96) hx hb dX11_week_56 (by decide) (fun hc => ?_) (fun hc => ?_)
        · replace hz := u_ift hz hc
          exact WJ96_7 s15 x16 x17 _ _ _ hz hw (lv_sub hl [0, 1, 2] rfl)
        · replace hz := u_iff hz hc
          refine lv_iload_n hx hb dX11_week_59 rfl (lv_at hl 2 rfl) ?_
          refine lv_if_ne (tgt := 96) hx hb dX11_week_60 (by decide) (fun hc => ?_) (fun hc => ?_)
          · replace hz := u_iff hz hc
            exact WJ96_7 s15 x16 x17 _ _ _ hz hw (lv_sub hl [0, 1, 2] rfl)
          · replace hz := u_ift hz hc
            refine lv_aload_n hx hb dX11_week_63 rfl (lv_at hl 0 rfl) ?_
            refine lv_iload hx hb dX11_week_64 (lv_at hl 3 rfl) ?_
            obtain ⟨v20, hv20, hz⟩ := u_bind hz
            refine u_callVi (As := [.int x18]) (rest := []) cx hw LV_X11_247 (c_X11_doAct l G N s15 x18 v20 hv20) o_X11 rfl (by decide) hl.1 rfl (Nat.le_of_ble_eq_true rfl) dX11_week_66 rfl (fun H locs hw => ?_)
            obtain ⟨J77_22, eJ77_22, hz⟩ := u_let hz
            have WJ77_22 : ∀ (t21 : Int32) (H : Heap) (locs : List Loc) (ls : Array Slot), J77_22 t21 = some z → u_W ZC G v20.2 s H locs → lv_has ls 5 [(0, .ref (G.2.2 0)), (2, .int x16), (4, .int x18)] → W p l e (u_rm 6) s m args below meth c H locs 0 0 (u_Qi below ZC G s args z.1 z.2) (F0 m 77 ls [.int t21]) := by
              intro t21 H locs ls hz hw hl
              rw [eJ77_22] at hz
              refine lv_istore_n (lv' := [(3, .int t21), (0, .ref (G.2.2 0)), (2, .int x16), (4, .int x18)]) hx hb dX11_week_77 rfl hl (by decide) rfl (fun ls hl => ?_)
              refine lv_iload_n hx hb dX11_week_78 rfl (lv_at hl 2 rfl) ?_
              refine lv_iload_n hx hb dX11_week_79 rfl (lv_at hl 0 rfl) ?_
              obtain ⟨J88_24, eJ88_24, hz⟩ := u_let hz
              have WJ88_24 : ∀ (t23 : Int32) (H : Heap) (locs : List Loc) (ls : Array Slot), J88_24 t23 = some z → u_W ZC G v20.2 s H locs → lv_has ls 5 [(0, .ref (G.2.2 0)), (3, .int t21), (4, .int x18)] → W p l e (u_rm 6) s m args below meth c H locs 0 0 (u_Qi below ZC G s args z.1 z.2) (F0 m 88 ls [.int t23, .int x16]) := by
                intro t23 H locs ls hz hw hl
                rw [eJ88_24] at hz
                refine lv_iadd hx hb dX11_week_88 ?_
                obtain ⟨x25, ex25, hz⟩ := u_let hz
                refine u_topi ex25 ?_
                refine lv_istore_n (lv' := [(2, .int x25), (0, .ref (G.2.2 0)), (3, .int t21), (4, .int x18)]) hx hb dX11_week_89 rfl hl (by decide) rfl (fun ls hl => ?_)
                obtain ⟨x26, ex26, hz⟩ := u_let hz
                refine lv_iinc (v := x26) (lv' := [(4, .int x26), (2, .int x25), (0, .ref (G.2.2 0)), (3, .int t21)]) hx hb dX11_week_90 hl (k := 3) rfl (by rw [ex26]; rfl) (by decide) rfl (fun ls hl => ?_)
                refine lv_goto (tgt := 47) hx hb dX11_week_93 (by decide) ?_
                exact ih47_19 v20.2 x25 t21 x26 _ _ _ hz hw (lv_sub hl [2, 1, 3, 0] rfl)
              refine lv_if_eq (tgt := 87) hx hb dX11_week_80 (by decide) (fun hc => ?_) (fun hc => ?_)
              · replace hz := u_ift hz hc
                refine lv_iconst (v := 1) hx hb dX11_week_87 (by decide) ?_
                exact WJ88_24 1 _ _ _ hz hw (lv_sub hl [1, 0, 3] rfl)
              · replace hz := u_iff hz hc
                refine lv_iconst (v := 0) hx hb dX11_week_83 (by decide) ?_
                refine lv_goto (tgt := 88) hx hb dX11_week_84 (by decide) ?_
                exact WJ88_24 0 _ _ _ hz hw (lv_sub hl [1, 0, 3] rfl)
            refine lv_if_ge (tgt := 76) hx hb dX11_week_69 (by decide) (fun hc => ?_) (fun hc => ?_)
            · replace hz := u_ift hz hc
              refine lv_iconst (v := 0) hx hb dX11_week_76 (by decide) ?_
              exact WJ77_22 0 _ _ _ hz hw (lv_sub hl [0, 1, 3] rfl)
            · replace hz := u_iff hz hc
              refine lv_iconst (v := 1) hx hb dX11_week_72 (by decide) ?_
              refine lv_goto (tgt := 77) hx hb dX11_week_73 (by decide) ?_
              exact WJ77_22 1 _ _ _ hz hw (lv_sub hl [0, 1, 3] rfl)
    exact WL47_26 N s3 0 0 0 _ _ _ hz hw (lv_sub hl [4, 2, 1, 0] rfl)
  · replace hz := u_iff hz hc
    refine lv_iconst (v := (-1)) hx hb dX11_week_25 (by decide) ?_
    refine lv_iload_n hx hb dX11_week_26 rfl (lv_at hl 0 rfl) ?_
    refine lv_isub hx hb dX11_week_27 ?_
    exact u_iret cx hw (u_pair hz) dX11_week_28
theorem dX12_readRule_0 : decode cX12_readRule 0 = .ok (.aload_n 0, 1) := by decide +kernel
theorem dX12_readRule_1 : decode cX12_readRule 1 = .ok (.bipush 40, 2) := by decide +kernel
theorem dX12_readRule_3 : decode cX12_readRule 3 = .ok (.invokevirtual 145, 3) := by decide +kernel
theorem dX12_readRule_6 : decode cX12_readRule 6 = .ok (.aload_n 0, 1) := by decide +kernel
theorem dX12_readRule_7 : decode cX12_readRule 7 = .ok (.iconst 0, 1) := by decide +kernel
theorem dX12_readRule_8 : decode cX12_readRule 8 = .ok (.putfield 184, 3) := by decide +kernel
theorem dX12_readRule_11 : decode cX12_readRule 11 = .ok (.aload_n 0, 1) := by decide +kernel
theorem dX12_readRule_12 : decode cX12_readRule 12 = .ok (.getfield 104, 3) := by decide +kernel
theorem dX12_readRule_15 : decode cX12_readRule 15 = .ok (.ifCond .le 9, 3) := by decide +kernel
theorem dX12_readRule_18 : decode cX12_readRule 18 = .ok (.aload_n 0, 1) := by decide +kernel
theorem dX12_readRule_19 : decode cX12_readRule 19 = .ok (.iconst 0, 1) := by decide +kernel
theorem dX12_readRule_20 : decode cX12_readRule 20 = .ok (.invokevirtual 171, 3) := by decide +kernel
theorem dX12_readRule_23 : decode cX12_readRule 23 = .ok (.pop, 1) := by decide +kernel
theorem dX12_readRule_24 : decode cX12_readRule 24 = .ok (.aload_n 0, 1) := by decide +kernel
theorem dX12_readRule_25 : decode cX12_readRule 25 = .ok (.invokevirtual 148, 3) := by decide +kernel
theorem dX12_readRule_28 : decode cX12_readRule 28 = .ok (.ireturn, 1) := by decide +kernel
def f_X12_readRule (N : Nat) (σ : uS) : Option (Int32 × uS) := (f_X12_beginText N σ 40).bind fun s1 =>
  u_jn (u_pI s1 0 18 0) fun s2 =>
  u_jn (fun (s3 : uS) => ((f_X12_wasRight N s3).bind fun v5 =>
  u_ck (v5.1 = 0 ∨ v5.1 = 1) (some (v5.1, v5.2)) : Option (Int32 × uS))) fun J24_4 =>
  if (s2.1 0 10) ≤ 0 then (J24_4 s2) else ((f_X12_held N s2 0).bind fun v6 =>
  J24_4 v6.2)
set_option maxRecDepth 100000 in
set_option maxHeartbeats 4000000 in
theorem c_X12_readRule (l : Launch) (G : uG) (N : Nat) (σ : uS) (z : (Int32 × uS)) (hz : f_X12_readRule N σ = some z) : u_Mi l ZM G yX12_readRule cX12_readRule 1 .boolean 105 [.ref (G.2.2 0)] σ z.1 z.2 := by
  refine u_Mi_of RX12 (by decide) rfl (Nat.le_of_ble_eq_true rfl) ?_
  intro p e s m args below meth c ls cx hw hl
  have hx := cx.1
  have hb := cx.2.1
  have hl : lv_has ls 1 [(0, .ref (G.2.2 0))] := hl
  unfold f_X12_readRule at hz
  refine lv_aload_n hx hb dX12_readRule_0 rfl (lv_at hl 0 rfl) ?_
  refine lv_bipush (v := 40) hx hb dX12_readRule_1 (by decide) ?_
  obtain ⟨s1, hs1, hz⟩ := u_bind hz
  refine u_callVv (As := [.int 40]) (rest := []) cx hw LV_X12_145 (c_X12_beginText l G N σ 40 s1 hs1) o_X12 rfl (by decide) hl.1 rfl (Nat.le_of_ble_eq_true rfl) dX12_readRule_3 rfl (fun H locs hw => ?_)
  refine lv_aload_n hx hb dX12_readRule_6 rfl (lv_at hl 0 rfl) ?_
  refine lv_iconst (v := 0) hx hb dX12_readRule_7 (by decide) ?_
  obtain ⟨s2, es2, hz⟩ := u_let hz
  refine u_putz2 cx hw P_X12_184 o_X12 rfl (Or.inl rfl) es2 dX12_readRule_8 (fun H locs hw => ?_)
  refine lv_aload_n hx hb dX12_readRule_11 rfl (lv_at hl 0 rfl) ?_
  refine u_geti cx hw F_X12_104 o_X12 rfl dX12_readRule_12 ?_
  obtain ⟨J24_4, eJ24_4, hz⟩ := u_let hz
  have WJ24_4 : ∀ (s3 : uS) (H : Heap) (locs : List Loc) (ls : Array Slot), J24_4 s3 = some z → u_W ZM G s3 s H locs → lv_has ls 1 [(0, .ref (G.2.2 0))] → W p l e (u_rm 105) s m args below meth c H locs 0 0 (u_Qi below ZM G s args z.1 z.2) (F0 m 24 ls []) := by
    intro s3 H locs ls hz hw hl
    rw [eJ24_4] at hz
    refine lv_aload_n hx hb dX12_readRule_24 rfl (lv_at hl 0 rfl) ?_
    obtain ⟨v5, hv5, hz⟩ := u_bind hz
    refine u_callVi (As := []) (rest := []) cx hw LV_X12_148 (c_X12_wasRight l G N s3 v5 hv5) o_X12 rfl (by decide) hl.1 rfl (Nat.le_of_ble_eq_true rfl) dX12_readRule_25 rfl (fun H locs hw => ?_)
    obtain ⟨h01, hz⟩ := u_ck_some hz
    exact u_zret cx hw h01 (u_pair hz) dX12_readRule_28
  refine lv_if_le (tgt := 24) hx hb dX12_readRule_15 (by decide) (fun hc => ?_) (fun hc => ?_)
  · replace hz := u_ift hz hc
    exact WJ24_4 s2 _ _ _ hz hw (lv_sub hl [0] rfl)
  · replace hz := u_iff hz hc
    refine lv_aload_n hx hb dX12_readRule_18 rfl (lv_at hl 0 rfl) ?_
    refine lv_iconst (v := 0) hx hb dX12_readRule_19 (by decide) ?_
    obtain ⟨v6, hv6, hz⟩ := u_bind hz
    refine u_callVi (As := [.int 0]) (rest := []) cx hw LV_X12_171 (c_X12_held l G N s2 0 v6 hv6) o_X12 rfl (by decide) hl.1 rfl (Nat.le_of_ble_eq_true rfl) dX12_readRule_20 rfl (fun H locs hw => ?_)
    refine lv_pop hx hb dX12_readRule_23 rfl ?_
    exact WJ24_4 v6.2 _ _ _ hz hw (lv_sub hl [0] rfl)
theorem dX12_rule_0 : decode cX12_rule 0 = .ok (.aload_n 0, 1) := by decide +kernel
theorem dX12_rule_1 : decode cX12_rule 1 = .ok (.iconst 0, 1) := by decide +kernel
theorem dX12_rule_2 : decode cX12_rule 2 = .ok (.putfield 77, 3) := by decide +kernel
theorem dX12_rule_5 : decode cX12_rule 5 = .ok (.aload_n 0, 1) := by decide +kernel
theorem dX12_rule_6 : decode cX12_rule 6 = .ok (.getfield 98, 3) := by decide +kernel
theorem dX12_rule_9 : decode cX12_rule 9 = .ok (.istore_n 1, 1) := by decide +kernel
theorem dX12_rule_10 : decode cX12_rule 10 = .ok (.aload_n 0, 1) := by decide +kernel
theorem dX12_rule_11 : decode cX12_rule 11 = .ok (.invokevirtual 188, 3) := by decide +kernel
theorem dX12_rule_14 : decode cX12_rule 14 = .ok (.ifCond .ne 10, 3) := by decide +kernel
theorem dX12_rule_17 : decode cX12_rule 17 = .ok (.iconst (-1), 1) := by decide +kernel
theorem dX12_rule_18 : decode cX12_rule 18 = .ok (.aload_n 0, 1) := by decide +kernel
theorem dX12_rule_19 : decode cX12_rule 19 = .ok (.getfield 113, 3) := by decide +kernel
theorem dX12_rule_22 : decode cX12_rule 22 = .ok (.isub, 1) := by decide +kernel
theorem dX12_rule_23 : decode cX12_rule 23 = .ok (.ireturn, 1) := by decide +kernel
theorem dX12_rule_24 : decode cX12_rule 24 = .ok (.iconst 0, 1) := by decide +kernel
theorem dX12_rule_25 : decode cX12_rule 25 = .ok (.istore_n 2, 1) := by decide +kernel
theorem dX12_rule_26 : decode cX12_rule 26 = .ok (.iload_n 2, 1) := by decide +kernel
theorem dX12_rule_27 : decode cX12_rule 27 = .ok (.iload_n 1, 1) := by decide +kernel
theorem dX12_rule_28 : decode cX12_rule 28 = .ok (.if_icmp .ge 21, 3) := by decide +kernel
theorem dX12_rule_31 : decode cX12_rule 31 = .ok (.aload_n 0, 1) := by decide +kernel
theorem dX12_rule_32 : decode cX12_rule 32 = .ok (.getfield 31, 3) := by decide +kernel
theorem dX12_rule_35 : decode cX12_rule 35 = .ok (.iload_n 2, 1) := by decide +kernel
theorem dX12_rule_36 : decode cX12_rule 36 = .ok (.aload_n 0, 1) := by decide +kernel
theorem dX12_rule_37 : decode cX12_rule 37 = .ok (.getfield 20, 3) := by decide +kernel
theorem dX12_rule_40 : decode cX12_rule 40 = .ok (.iload_n 2, 1) := by decide +kernel
theorem dX12_rule_41 : decode cX12_rule 41 = .ok (.baload, 1) := by decide +kernel
theorem dX12_rule_42 : decode cX12_rule 42 = .ok (.bastore, 1) := by decide +kernel
theorem dX12_rule_43 : decode cX12_rule 43 = .ok (.iinc 2 1, 3) := by decide +kernel
theorem dX12_rule_46 : decode cX12_rule 46 = .ok (.goto (-20), 3) := by decide +kernel
theorem dX12_rule_49 : decode cX12_rule 49 = .ok (.aload_n 0, 1) := by decide +kernel
theorem dX12_rule_50 : decode cX12_rule 50 = .ok (.iload_n 1, 1) := by decide +kernel
theorem dX12_rule_51 : decode cX12_rule 51 = .ok (.putfield 191, 3) := by decide +kernel
theorem dX12_rule_54 : decode cX12_rule 54 = .ok (.iconst 0, 1) := by decide +kernel
theorem dX12_rule_55 : decode cX12_rule 55 = .ok (.ireturn, 1) := by decide +kernel
def b_X12_rule_26 (x2 : Int32) (J49_5 : uS → Option (Int32 × uS)) (rec26_9 : uS → Int32 → Option (Int32 × uS)) (s7 : uS) (x8 : Int32) : Option (Int32 × uS) :=
  if x2 ≤ x8 then (J49_5 s7) else ((s7.2.2 0 15).bind fun v10 =>
  (u_rI ZM s7 2 3 x8).bind fun v11 =>
  (u_wI ZM s7 2 v10 x8 v11).bind fun s12 =>
  u_jn (x8 + 1 : Int32) fun x13 =>
  rec26_9 s12 x13)
def f_X12_rule (N : Nat) (σ : uS) : Option (Int32 × uS) := u_jn (u_pI σ 0 8 0) fun s1 =>
  u_jn ((s1.1 0 5) : Int32) fun x2 =>
  (f_X12_readRule N s1).bind fun v3 =>
  if v3.1 = 0 then (some (((-1) - (v3.2.1 0 13)), v3.2)) else (u_jn (fun (s4 : uS) => (u_jn (u_pI s4 0 17 x2) fun s6 =>
  some (0, s6) : Option (Int32 × uS))) fun J49_5 =>
  u_lp2 (b_X12_rule_26 x2 J49_5) N v3.2 0)
set_option maxRecDepth 100000 in
set_option maxHeartbeats 4000000 in
theorem c_X12_rule (l : Launch) (G : uG) (N : Nat) (σ : uS) (z : (Int32 × uS)) (hz : f_X12_rule N σ = some z) : u_Mi l ZM G yX12_rule cX12_rule 3 .int 106 [.ref (G.2.2 0)] σ z.1 z.2 := by
  refine u_Mi_of RX12 (by decide) rfl (Nat.le_of_ble_eq_true rfl) ?_
  intro p e s m args below meth c ls cx hw hl
  have hx := cx.1
  have hb := cx.2.1
  have hl : lv_has ls 3 [(0, .ref (G.2.2 0))] := hl
  unfold f_X12_rule at hz
  refine lv_aload_n hx hb dX12_rule_0 rfl (lv_at hl 0 rfl) ?_
  refine lv_iconst (v := 0) hx hb dX12_rule_1 (by decide) ?_
  obtain ⟨s1, es1, hz⟩ := u_let hz
  refine u_puti2 cx hw P_X12_77 o_X12 rfl es1 dX12_rule_2 (fun H locs hw => ?_)
  refine lv_aload_n hx hb dX12_rule_5 rfl (lv_at hl 0 rfl) ?_
  refine u_geti cx hw F_X12_98 o_X12 rfl dX12_rule_6 ?_
  obtain ⟨x2, ex2, hz⟩ := u_let hz
  refine u_topi ex2 ?_
  refine lv_istore_n (lv' := [(1, .int x2), (0, .ref (G.2.2 0))]) hx hb dX12_rule_9 rfl hl (by decide) rfl (fun ls hl => ?_)
  refine lv_aload_n hx hb dX12_rule_10 rfl (lv_at hl 1 rfl) ?_
  obtain ⟨v3, hv3, hz⟩ := u_bind hz
  refine u_callVi (As := []) (rest := []) cx hw LV_X12_188 (c_X12_readRule l G N s1 v3 hv3) o_X12 rfl (by decide) hl.1 rfl (Nat.le_of_ble_eq_true rfl) dX12_rule_11 rfl (fun H locs hw => ?_)
  refine lv_if_ne (tgt := 24) hx hb dX12_rule_14 (by decide) (fun hc => ?_) (fun hc => ?_)
  · replace hz := u_iff hz hc
    refine lv_iconst (v := 0) hx hb dX12_rule_24 (by decide) ?_
    refine lv_istore_n (lv' := [(2, .int 0), (1, .int x2), (0, .ref (G.2.2 0))]) hx hb dX12_rule_25 rfl hl (by decide) rfl (fun ls hl => ?_)
    obtain ⟨J49_5, eJ49_5, hz⟩ := u_let hz
    have WJ49_5 : ∀ (s4 : uS) (H : Heap) (locs : List Loc) (ls : Array Slot), J49_5 s4 = some z → u_W ZM G s4 s H locs → lv_has ls 3 [(0, .ref (G.2.2 0)), (1, .int x2)] → W p l e (u_rm 106) s m args below meth c H locs 0 0 (u_Qi below ZM G s args z.1 z.2) (F0 m 49 ls []) := by
      intro s4 H locs ls hz hw hl
      rw [eJ49_5] at hz
      refine lv_aload_n hx hb dX12_rule_49 rfl (lv_at hl 0 rfl) ?_
      refine lv_iload_n hx hb dX12_rule_50 rfl (lv_at hl 1 rfl) ?_
      obtain ⟨s6, es6, hz⟩ := u_let hz
      refine u_puti2 cx hw P_X12_191 o_X12 rfl es6 dX12_rule_51 (fun H locs hw => ?_)
      refine lv_iconst (v := 0) hx hb dX12_rule_54 (by decide) ?_
      exact u_iret cx hw (u_pair hz) dX12_rule_55
    have WL26_13 : ∀ (k : Nat) (s7 : uS) (x8 : Int32) (H : Heap) (locs : List Loc) (ls : Array Slot), u_lp2 (b_X12_rule_26 x2 J49_5) k s7 x8 = some z → u_W ZM G s7 s H locs → lv_has ls 3 [(0, .ref (G.2.2 0)), (1, .int x2), (2, .int x8)] → W p l e (u_rm 106) s m args below meth c H locs 0 0 (u_Qi below ZM G s args z.1 z.2) (F0 m 26 ls []) := by
      intro k
      induction k with
      | zero =>
        intro s7 x8 H locs ls hz
        exact absurd hz (by intro h9; cases h9)
      | succ k ih26_9 =>
        intro s7 x8 H locs ls hz hw hl
        have hz : (b_X12_rule_26 x2 J49_5) (u_lp2 (b_X12_rule_26 x2 J49_5) k) s7 x8 = some z := hz
        unfold b_X12_rule_26 at hz
        refine lv_iload_n hx hb dX12_rule_26 rfl (lv_at hl 2 rfl) ?_
        refine lv_iload_n hx hb dX12_rule_27 rfl (lv_at hl 1 rfl) ?_
        refine lv_icmp_ge (tgt := 49) hx hb dX12_rule_28 (by decide) (fun hc => ?_) (fun hc => ?_)
        · replace hz := u_ift hz hc
          exact WJ49_5 s7 _ _ _ hz hw (lv_sub hl [0, 1] rfl)
        · replace hz := u_iff hz hc
          refine lv_aload_n hx hb dX12_rule_31 rfl (lv_at hl 0 rfl) ?_
          obtain ⟨v10, hv10, hz⟩ := u_bind hz
          refine u_getr cx hw F_X12_31 o_X12 rfl hv10 dX12_rule_32 ?_
          refine lv_iload_n hx hb dX12_rule_35 rfl (lv_at hl 2 rfl) ?_
          refine lv_aload_n hx hb dX12_rule_36 rfl (lv_at hl 0 rfl) ?_
          refine u_getp cx hw F_X12_20 o_X12 rfl dX12_rule_37 ?_
          refine lv_iload_n hx hb dX12_rule_40 rfl (lv_at hl 2 rfl) ?_
          obtain ⟨v11, hv11, hz⟩ := u_bind hz
          refine u_bald cx hw hv11 dX12_rule_41 ?_
          obtain ⟨s12, hs12, hz⟩ := u_bind hz
          refine u_bast cx hw hs12 dX12_rule_42 (fun H locs hw => ?_)
          obtain ⟨x13, ex13, hz⟩ := u_let hz
          refine lv_iinc (v := x13) (lv' := [(2, .int x13), (0, .ref (G.2.2 0)), (1, .int x2)]) hx hb dX12_rule_43 hl (k := 2) rfl (by rw [ex13]; rfl) (by decide) rfl (fun ls hl => ?_)
          refine lv_goto (tgt := 26) hx hb dX12_rule_46 (by decide) ?_
          exact ih26_9 s12 x13 _ _ _ hz hw (lv_sub hl [1, 2, 0] rfl)
    exact WL26_13 N v3.2 0 _ _ _ hz hw (lv_sub hl [2, 1, 0] rfl)
  · replace hz := u_ift hz hc
    refine lv_iconst (v := (-1)) hx hb dX12_rule_17 (by decide) ?_
    refine lv_aload_n hx hb dX12_rule_18 rfl (lv_at hl 1 rfl) ?_
    refine u_geti cx hw F_X12_113 o_X12 rfl dX12_rule_19 ?_
    refine lv_isub hx hb dX12_rule_22 ?_
    exact u_iret cx hw (u_pair hz) dX12_rule_23
theorem dX12_then0_0 : decode cX12_then0 0 = .ok (.aload_n 0, 1) := by decide +kernel
theorem dX12_then0_1 : decode cX12_then0 1 = .ok (.aload_n 1, 1) := by decide +kernel
theorem dX12_then0_2 : decode cX12_then0 2 = .ok (.iload_n 2, 1) := by decide +kernel
theorem dX12_then0_3 : decode cX12_then0 3 = .ok (.invokevirtual 202, 3) := by decide +kernel
theorem dX12_then0_6 : decode cX12_then0 6 = .ok (.istore_n 3, 1) := by decide +kernel
theorem dX12_then0_7 : decode cX12_then0 7 = .ok (.iload_n 3, 1) := by decide +kernel
theorem dX12_then0_8 : decode cX12_then0 8 = .ok (.invokestatic 206, 3) := by decide +kernel
theorem dX12_then0_11 : decode cX12_then0 11 = .ok (.istore 4, 2) := by decide +kernel
theorem dX12_then0_13 : decode cX12_then0 13 = .ok (.iload 4, 2) := by decide +kernel
theorem dX12_then0_15 : decode cX12_then0 15 = .ok (.ifCond .ne 9, 3) := by decide +kernel
theorem dX12_then0_18 : decode cX12_then0 18 = .ok (.aload_n 1, 1) := by decide +kernel
theorem dX12_then0_19 : decode cX12_then0 19 = .ok (.iload_n 2, 1) := by decide +kernel
theorem dX12_then0_20 : decode cX12_then0 20 = .ok (.iaload, 1) := by decide +kernel
theorem dX12_then0_21 : decode cX12_then0 21 = .ok (.goto 12, 3) := by decide +kernel
theorem dX12_then0_24 : decode cX12_then0 24 = .ok (.aload_n 0, 1) := by decide +kernel
theorem dX12_then0_25 : decode cX12_then0 25 = .ok (.aload_n 1, 1) := by decide +kernel
theorem dX12_then0_26 : decode cX12_then0 26 = .ok (.iload_n 3, 1) := by decide +kernel
theorem dX12_then0_27 : decode cX12_then0 27 = .ok (.invokevirtual 211, 3) := by decide +kernel
theorem dX12_then0_30 : decode cX12_then0 30 = .ok (.iload 4, 2) := by decide +kernel
theorem dX12_then0_32 : decode cX12_then0 32 = .ok (.idiv, 1) := by decide +kernel
theorem dX12_then0_33 : decode cX12_then0 33 = .ok (.istore 5, 2) := by decide +kernel
theorem dX12_then0_35 : decode cX12_then0 35 = .ok (.aload_n 1, 1) := by decide +kernel
theorem dX12_then0_36 : decode cX12_then0 36 = .ok (.bipush 34, 2) := by decide +kernel
theorem dX12_then0_38 : decode cX12_then0 38 = .ok (.iaload, 1) := by decide +kernel
theorem dX12_then0_39 : decode cX12_then0 39 = .ok (.iload_n 2, 1) := by decide +kernel
theorem dX12_then0_40 : decode cX12_then0 40 = .ok (.ishr, 1) := by decide +kernel
theorem dX12_then0_41 : decode cX12_then0 41 = .ok (.iconst 1, 1) := by decide +kernel
theorem dX12_then0_42 : decode cX12_then0 42 = .ok (.iand, 1) := by decide +kernel
theorem dX12_then0_43 : decode cX12_then0 43 = .ok (.istore 6, 2) := by decide +kernel
theorem dX12_then0_45 : decode cX12_then0 45 = .ok (.aload_n 1, 1) := by decide +kernel
theorem dX12_then0_46 : decode cX12_then0 46 = .ok (.iload_n 2, 1) := by decide +kernel
theorem dX12_then0_47 : decode cX12_then0 47 = .ok (.iaload, 1) := by decide +kernel
theorem dX12_then0_48 : decode cX12_then0 48 = .ok (.iload 5, 2) := by decide +kernel
theorem dX12_then0_50 : decode cX12_then0 50 = .ok (.iadd, 1) := by decide +kernel
theorem dX12_then0_51 : decode cX12_then0 51 = .ok (.iconst 1, 1) := by decide +kernel
theorem dX12_then0_52 : decode cX12_then0 52 = .ok (.iadd, 1) := by decide +kernel
theorem dX12_then0_53 : decode cX12_then0 53 = .ok (.iconst 2, 1) := by decide +kernel
theorem dX12_then0_54 : decode cX12_then0 54 = .ok (.idiv, 1) := by decide +kernel
theorem dX12_then0_55 : decode cX12_then0 55 = .ok (.iconst 3, 1) := by decide +kernel
theorem dX12_then0_56 : decode cX12_then0 56 = .ok (.iload 6, 2) := by decide +kernel
theorem dX12_then0_58 : decode cX12_then0 58 = .ok (.imul, 1) := by decide +kernel
theorem dX12_then0_59 : decode cX12_then0 59 = .ok (.isub, 1) := by decide +kernel
theorem dX12_then0_60 : decode cX12_then0 60 = .ok (.istore 7, 2) := by decide +kernel
theorem dX12_then0_62 : decode cX12_then0 62 = .ok (.aload_n 0, 1) := by decide +kernel
theorem dX12_then0_63 : decode cX12_then0 63 = .ok (.getfield 191, 3) := by decide +kernel
theorem dX12_then0_66 : decode cX12_then0 66 = .ok (.ifCond .le 111, 3) := by decide +kernel
theorem dX12_then0_69 : decode cX12_then0 69 = .ok (.aload_n 0, 1) := by decide +kernel
theorem dX12_then0_70 : decode cX12_then0 70 = .ok (.getfield 37, 3) := by decide +kernel
theorem dX12_then0_73 : decode cX12_then0 73 = .ok (.iconst 0, 1) := by decide +kernel
theorem dX12_then0_74 : decode cX12_then0 74 = .ok (.aload_n 1, 1) := by decide +kernel
theorem dX12_then0_75 : decode cX12_then0 75 = .ok (.iload_n 2, 1) := by decide +kernel
theorem dX12_then0_76 : decode cX12_then0 76 = .ok (.iaload, 1) := by decide +kernel
theorem dX12_then0_77 : decode cX12_then0 77 = .ok (.iastore, 1) := by decide +kernel
theorem dX12_then0_78 : decode cX12_then0 78 = .ok (.aload_n 0, 1) := by decide +kernel
theorem dX12_then0_79 : decode cX12_then0 79 = .ok (.getfield 37, 3) := by decide +kernel
theorem dX12_then0_82 : decode cX12_then0 82 = .ok (.iconst 1, 1) := by decide +kernel
theorem dX12_then0_83 : decode cX12_then0 83 = .ok (.iload 5, 2) := by decide +kernel
theorem dX12_then0_85 : decode cX12_then0 85 = .ok (.iastore, 1) := by decide +kernel
theorem dX12_then0_86 : decode cX12_then0 86 = .ok (.aload_n 0, 1) := by decide +kernel
theorem dX12_then0_87 : decode cX12_then0 87 = .ok (.getfield 37, 3) := by decide +kernel
theorem dX12_then0_90 : decode cX12_then0 90 = .ok (.iconst 2, 1) := by decide +kernel
theorem dX12_then0_91 : decode cX12_then0 91 = .ok (.iload 4, 2) := by decide +kernel
theorem dX12_then0_93 : decode cX12_then0 93 = .ok (.iastore, 1) := by decide +kernel
theorem dX12_then0_94 : decode cX12_then0 94 = .ok (.aload_n 0, 1) := by decide +kernel
theorem dX12_then0_95 : decode cX12_then0 95 = .ok (.getfield 37, 3) := by decide +kernel
theorem dX12_then0_98 : decode cX12_then0 98 = .ok (.iconst 3, 1) := by decide +kernel
theorem dX12_then0_99 : decode cX12_then0 99 = .ok (.iload_n 3, 1) := by decide +kernel
theorem dX12_then0_100 : decode cX12_then0 100 = .ok (.aload_n 0, 1) := by decide +kernel
theorem dX12_then0_101 : decode cX12_then0 101 = .ok (.aload_n 1, 1) := by decide +kernel
theorem dX12_then0_102 : decode cX12_then0 102 = .ok (.invokevirtual 214, 3) := by decide +kernel
theorem dX12_then0_105 : decode cX12_then0 105 = .ok (.iconst (-1), 1) := by decide +kernel
theorem dX12_then0_106 : decode cX12_then0 106 = .ok (.ixor, 1) := by decide +kernel
theorem dX12_then0_107 : decode cX12_then0 107 = .ok (.iand, 1) := by decide +kernel
theorem dX12_then0_108 : decode cX12_then0 108 = .ok (.invokestatic 206, 3) := by decide +kernel
theorem dX12_then0_111 : decode cX12_then0 111 = .ok (.iastore, 1) := by decide +kernel
theorem dX12_then0_112 : decode cX12_then0 112 = .ok (.aload_n 0, 1) := by decide +kernel
theorem dX12_then0_113 : decode cX12_then0 113 = .ok (.getfield 37, 3) := by decide +kernel
theorem dX12_then0_116 : decode cX12_then0 116 = .ok (.iconst 4, 1) := by decide +kernel
theorem dX12_then0_117 : decode cX12_then0 117 = .ok (.iload 6, 2) := by decide +kernel
theorem dX12_then0_119 : decode cX12_then0 119 = .ok (.iastore, 1) := by decide +kernel
theorem dX12_then0_120 : decode cX12_then0 120 = .ok (.aload_n 0, 1) := by decide +kernel
theorem dX12_then0_121 : decode cX12_then0 121 = .ok (.getfield 37, 3) := by decide +kernel
theorem dX12_then0_124 : decode cX12_then0 124 = .ok (.iconst 5, 1) := by decide +kernel
theorem dX12_then0_125 : decode cX12_then0 125 = .ok (.aload_n 1, 1) := by decide +kernel
theorem dX12_then0_126 : decode cX12_then0 126 = .ok (.bipush 35, 2) := by decide +kernel
theorem dX12_then0_128 : decode cX12_then0 128 = .ok (.iaload, 1) := by decide +kernel
theorem dX12_then0_129 : decode cX12_then0 129 = .ok (.bipush 7, 2) := by decide +kernel
theorem dX12_then0_131 : decode cX12_then0 131 = .ok (.irem, 1) := by decide +kernel
theorem dX12_then0_132 : decode cX12_then0 132 = .ok (.iastore, 1) := by decide +kernel
theorem dX12_then0_133 : decode cX12_then0 133 = .ok (.aload_n 0, 1) := by decide +kernel
theorem dX12_then0_134 : decode cX12_then0 134 = .ok (.getfield 37, 3) := by decide +kernel
theorem dX12_then0_137 : decode cX12_then0 137 = .ok (.bipush 6, 2) := by decide +kernel
theorem dX12_then0_139 : decode cX12_then0 139 = .ok (.aload_n 0, 1) := by decide +kernel
theorem dX12_then0_140 : decode cX12_then0 140 = .ok (.getfield 17, 3) := by decide +kernel
theorem dX12_then0_143 : decode cX12_then0 143 = .ok (.iload_n 2, 1) := by decide +kernel
theorem dX12_then0_144 : decode cX12_then0 144 = .ok (.iaload, 1) := by decide +kernel
theorem dX12_then0_145 : decode cX12_then0 145 = .ok (.iastore, 1) := by decide +kernel
theorem dX12_then0_146 : decode cX12_then0 146 = .ok (.aload_n 0, 1) := by decide +kernel
theorem dX12_then0_147 : decode cX12_then0 147 = .ok (.aload_n 0, 1) := by decide +kernel
theorem dX12_then0_148 : decode cX12_then0 148 = .ok (.getfield 31, 3) := by decide +kernel
theorem dX12_then0_151 : decode cX12_then0 151 = .ok (.aload_n 0, 1) := by decide +kernel
theorem dX12_then0_152 : decode cX12_then0 152 = .ok (.getfield 191, 3) := by decide +kernel
theorem dX12_then0_155 : decode cX12_then0 155 = .ok (.bipush 40, 2) := by decide +kernel
theorem dX12_then0_157 : decode cX12_then0 157 = .ok (.invokevirtual 116, 3) := by decide +kernel
theorem dX12_then0_160 : decode cX12_then0 160 = .ok (.aload_n 0, 1) := by decide +kernel
theorem dX12_then0_161 : decode cX12_then0 161 = .ok (.iconst 1, 1) := by decide +kernel
theorem dX12_then0_162 : decode cX12_then0 162 = .ok (.putfield 184, 3) := by decide +kernel
theorem dX12_then0_165 : decode cX12_then0 165 = .ok (.aload_n 0, 1) := by decide +kernel
theorem dX12_then0_166 : decode cX12_then0 166 = .ok (.iconst 0, 1) := by decide +kernel
theorem dX12_then0_167 : decode cX12_then0 167 = .ok (.invokevirtual 171, 3) := by decide +kernel
theorem dX12_then0_170 : decode cX12_then0 170 = .ok (.istore 7, 2) := by decide +kernel
theorem dX12_then0_172 : decode cX12_then0 172 = .ok (.aload_n 0, 1) := by decide +kernel
theorem dX12_then0_173 : decode cX12_then0 173 = .ok (.iconst 0, 1) := by decide +kernel
theorem dX12_then0_174 : decode cX12_then0 174 = .ok (.putfield 184, 3) := by decide +kernel
theorem dX12_then0_177 : decode cX12_then0 177 = .ok (.iconst 0, 1) := by decide +kernel
theorem dX12_then0_178 : decode cX12_then0 178 = .ok (.bipush 9, 2) := by decide +kernel
theorem dX12_then0_180 : decode cX12_then0 180 = .ok (.iload 7, 2) := by decide +kernel
theorem dX12_then0_182 : decode cX12_then0 182 = .ok (.invokestatic 218, 3) := by decide +kernel
theorem dX12_then0_185 : decode cX12_then0 185 = .ok (.invokestatic 224, 3) := by decide +kernel
theorem dX12_then0_188 : decode cX12_then0 188 = .ok (.ireturn, 1) := by decide +kernel
def f_X12_then0 (N : Nat) (σ : uS) (a1 : Nat) (p2 : Int32) : Option (Int32 × uS) := (f_X12_sees N σ a1 p2).bind fun v1 =>
  (f_J6_bitCount_0f7a4 N σ v1).bind fun v2 =>
  u_jn (fun (t3 : Int32) => ((u_rI ZM σ 0 a1 34).bind fun v5 =>
  u_jn (((v5 >>> (p2 &&& 31)) &&& 1) : Int32) fun x6 =>
  (u_rI ZM σ 0 a1 p2).bind fun v7 =>
  u_jn (((((v7 + t3) + 1) / 2) - (3 * x6)) : Int32) fun x8 =>
  u_jn (fun (s9 : uS) (x10 : Int32) => (some ((if 0 < (if x10 < 9 then x10 else 9) then (if x10 < 9 then x10 else 9) else 0), s9) : Option (Int32 × uS))) fun J177_11 =>
  if (σ.1 0 17) ≤ 0 then (J177_11 σ x8) else ((u_rI ZM σ 0 a1 p2).bind fun v12 =>
  (u_wI ZM σ 0 8 0 v12).bind fun s13 =>
  (u_wI ZM s13 0 8 1 t3).bind fun s14 =>
  (u_wI ZM s14 0 8 2 v2).bind fun s15 =>
  (f_X12_inBits N s15 a1).bind fun v16 =>
  (f_J6_bitCount_0f7a4 N s15 (v1 &&& (v16 ^^^ (-1)))).bind fun v17 =>
  (u_wI ZM s15 0 8 3 v17).bind fun s18 =>
  (u_wI ZM s18 0 8 4 x6).bind fun s19 =>
  (u_rI ZM s19 0 a1 35).bind fun v20 =>
  (u_wI ZM s19 0 8 5 (v20 - v20 / 7 * 7)).bind fun s21 =>
  (u_rI ZM s21 0 2 p2).bind fun v22 =>
  (u_wI ZM s21 0 8 6 v22).bind fun s23 =>
  (s23.2.2 0 15).bind fun v24 =>
  (f_X12_begin N s23 v24 (s23.1 0 17) 40).bind fun s25 =>
  u_jn (u_pI s25 0 18 1) fun s26 =>
  (f_X12_held N s26 0).bind fun v27 =>
  u_jn (u_pI v27.2 0 18 0) fun s28 =>
  J177_11 s28 v27.1) : Option (Int32 × uS))) fun J33_4 =>
  if v2 = 0 then ((u_rI ZM σ 0 a1 p2).bind fun v30 =>
  J33_4 v30) else ((f_X12_beliefs N σ a1 v1).bind fun v29 =>
  u_ck (¬ (v2 : Int32) = 0) <|
  J33_4 (v29 / v2))
set_option maxRecDepth 100000 in
set_option maxHeartbeats 4000000 in
theorem c_X12_then0 (l : Launch) (G : uG) (N : Nat) (σ : uS) (a1 : Nat) (p2 : Int32) (z : (Int32 × uS)) (hz : f_X12_then0 N σ a1 p2 = some z) : u_Mi l ZM G yX12_then0 cX12_then0 8 .int 105 [.ref (G.2.2 0), .ref (G.2.2 a1), .int p2] σ z.1 z.2 := by
  refine u_Mi_of RX12 (by decide) rfl (Nat.le_of_ble_eq_true rfl) ?_
  intro p e s m args below meth c ls cx hw hl
  have hx := cx.1
  have hb := cx.2.1
  have hl : lv_has ls 8 [(0, .ref (G.2.2 0)), (1, .ref (G.2.2 a1)), (2, .int p2)] := hl
  unfold f_X12_then0 at hz
  refine lv_aload_n hx hb dX12_then0_0 rfl (lv_at hl 0 rfl) ?_
  refine lv_aload_n hx hb dX12_then0_1 rfl (lv_at hl 1 rfl) ?_
  refine lv_iload_n hx hb dX12_then0_2 rfl (lv_at hl 2 rfl) ?_
  obtain ⟨v1, hv1, hz⟩ := u_bind hz
  refine u_callVi (As := [.ref (G.2.2 a1), .int p2]) (rest := []) cx hw LV_X12_202 (c_X12_sees l G N σ a1 p2 v1 hv1) o_X12 rfl (by decide) hl.1 rfl (Nat.le_of_ble_eq_true rfl) dX12_then0_3 rfl (fun H locs hw => ?_)
  refine lv_istore_n (lv' := [(3, .int v1), (0, .ref (G.2.2 0)), (1, .ref (G.2.2 a1)), (2, .int p2)]) hx hb dX12_then0_6 rfl hl (by decide) rfl (fun ls hl => ?_)
  refine lv_iload_n hx hb dX12_then0_7 rfl (lv_at hl 0 rfl) ?_
  obtain ⟨v2, hv2, hz⟩ := u_bind hz
  refine u_callSi (As := [.int v1]) (rest := []) cx hw LS_X12_206 (c_J6_bitCount_0f7a4 l G ZM N σ v1 v2 hv2) (by decide) hl.1 rfl (Nat.le_of_ble_eq_true rfl) dX12_then0_8 rfl (fun H locs hw => ?_)
  refine lv_istore (lv' := [(4, .int v2), (3, .int v1), (0, .ref (G.2.2 0)), (1, .ref (G.2.2 a1)), (2, .int p2)]) hx hb dX12_then0_11 hl (by decide) rfl (fun ls hl => ?_)
  refine lv_iload hx hb dX12_then0_13 (lv_at hl 0 rfl) ?_
  obtain ⟨J33_4, eJ33_4, hz⟩ := u_let hz
  have WJ33_4 : ∀ (t3 : Int32) (H : Heap) (locs : List Loc) (ls : Array Slot), J33_4 t3 = some z → u_W ZM G σ s H locs → lv_has ls 8 [(0, .ref (G.2.2 0)), (1, .ref (G.2.2 a1)), (2, .int p2), (3, .int v1), (4, .int v2)] → W p l e (u_rm 105) s m args below meth c H locs 0 0 (u_Qi below ZM G s args z.1 z.2) (F0 m 33 ls [.int t3]) := by
    intro t3 H locs ls hz hw hl
    rw [eJ33_4] at hz
    refine lv_istore (lv' := [(5, .int t3), (0, .ref (G.2.2 0)), (1, .ref (G.2.2 a1)), (2, .int p2), (3, .int v1), (4, .int v2)]) hx hb dX12_then0_33 hl (by decide) rfl (fun ls hl => ?_)
    refine lv_aload_n hx hb dX12_then0_35 rfl (lv_at hl 2 rfl) ?_
    refine lv_bipush (v := 34) hx hb dX12_then0_36 (by decide) ?_
    obtain ⟨v5, hv5, hz⟩ := u_bind hz
    refine u_iald cx hw hv5 dX12_then0_38 ?_
    refine lv_iload_n hx hb dX12_then0_39 rfl (lv_at hl 3 rfl) ?_
    refine lv_ishr hx hb dX12_then0_40 ?_
    refine lv_iconst (v := 1) hx hb dX12_then0_41 (by decide) ?_
    refine lv_iand hx hb dX12_then0_42 ?_
    obtain ⟨x6, ex6, hz⟩ := u_let hz
    refine u_topi ex6 ?_
    refine lv_istore (lv' := [(6, .int x6), (5, .int t3), (0, .ref (G.2.2 0)), (1, .ref (G.2.2 a1)), (2, .int p2), (3, .int v1), (4, .int v2)]) hx hb dX12_then0_43 hl (by decide) rfl (fun ls hl => ?_)
    refine lv_aload_n hx hb dX12_then0_45 rfl (lv_at hl 3 rfl) ?_
    refine lv_iload_n hx hb dX12_then0_46 rfl (lv_at hl 4 rfl) ?_
    obtain ⟨v7, hv7, hz⟩ := u_bind hz
    refine u_iald cx hw hv7 dX12_then0_47 ?_
    refine lv_iload hx hb dX12_then0_48 (lv_at hl 1 rfl) ?_
    refine lv_iadd hx hb dX12_then0_50 ?_
    refine lv_iconst (v := 1) hx hb dX12_then0_51 (by decide) ?_
    refine lv_iadd hx hb dX12_then0_52 ?_
    refine lv_iconst (v := 2) hx hb dX12_then0_53 (by decide) ?_
    refine lv_idiv hx hb dX12_then0_54 (by decide) ?_
    refine lv_iconst (v := 3) hx hb dX12_then0_55 (by decide) ?_
    refine lv_iload hx hb dX12_then0_56 (lv_at hl 0 rfl) ?_
    refine lv_imul hx hb dX12_then0_58 ?_
    refine lv_isub hx hb dX12_then0_59 ?_
    obtain ⟨x8, ex8, hz⟩ := u_let hz
    refine u_topi ex8 ?_
    refine lv_istore (lv' := [(7, .int x8), (6, .int x6), (5, .int t3), (0, .ref (G.2.2 0)), (1, .ref (G.2.2 a1)), (2, .int p2), (3, .int v1), (4, .int v2)]) hx hb dX12_then0_60 hl (by decide) rfl (fun ls hl => ?_)
    refine lv_aload_n hx hb dX12_then0_62 rfl (lv_at hl 3 rfl) ?_
    refine u_geti cx hw F_X12_191 o_X12 rfl dX12_then0_63 ?_
    obtain ⟨J177_11, eJ177_11, hz⟩ := u_let hz
    have WJ177_11 : ∀ (s9 : uS) (x10 : Int32) (H : Heap) (locs : List Loc) (ls : Array Slot), J177_11 s9 x10 = some z → u_W ZM G s9 s H locs → lv_has ls 8 [(7, .int x10)] → W p l e (u_rm 105) s m args below meth c H locs 0 0 (u_Qi below ZM G s args z.1 z.2) (F0 m 177 ls []) := by
      intro s9 x10 H locs ls hz hw hl
      rw [eJ177_11] at hz
      refine lv_iconst (v := 0) hx hb dX12_then0_177 (by decide) ?_
      refine lv_bipush (v := 9) hx hb dX12_then0_178 (by decide) ?_
      refine lv_iload hx hb dX12_then0_180 (lv_at hl 0 rfl) ?_
      refine u_mmin cx LM_X12_218 (by decide) hl.1 (Nat.le_of_ble_eq_true rfl) dX12_then0_182 ?_
      refine u_mmax cx LM_X12_224 (by decide) hl.1 (Nat.le_of_ble_eq_true rfl) dX12_then0_185 ?_
      exact u_iret cx hw (u_pair hz) dX12_then0_188
    refine lv_if_le (tgt := 177) hx hb dX12_then0_66 (by decide) (fun hc => ?_) (fun hc => ?_)
    · replace hz := u_ift hz hc
      exact WJ177_11 σ x8 _ _ _ hz hw (lv_sub hl [0] rfl)
    · replace hz := u_iff hz hc
      refine lv_aload_n hx hb dX12_then0_69 rfl (lv_at hl 3 rfl) ?_
      refine u_getp cx hw F_X12_37 o_X12 rfl dX12_then0_70 ?_
      refine lv_iconst (v := 0) hx hb dX12_then0_73 (by decide) ?_
      refine lv_aload_n hx hb dX12_then0_74 rfl (lv_at hl 4 rfl) ?_
      refine lv_iload_n hx hb dX12_then0_75 rfl (lv_at hl 5 rfl) ?_
      obtain ⟨v12, hv12, hz⟩ := u_bind hz
      refine u_iald cx hw hv12 dX12_then0_76 ?_
      obtain ⟨s13, hs13, hz⟩ := u_bind hz
      refine u_iast cx hw hs13 dX12_then0_77 (fun H locs hw => ?_)
      refine lv_aload_n hx hb dX12_then0_78 rfl (lv_at hl 3 rfl) ?_
      refine u_getp cx hw F_X12_37 o_X12 rfl dX12_then0_79 ?_
      refine lv_iconst (v := 1) hx hb dX12_then0_82 (by decide) ?_
      refine lv_iload hx hb dX12_then0_83 (lv_at hl 2 rfl) ?_
      obtain ⟨s14, hs14, hz⟩ := u_bind hz
      refine u_iast cx hw hs14 dX12_then0_85 (fun H locs hw => ?_)
      refine lv_aload_n hx hb dX12_then0_86 rfl (lv_at hl 3 rfl) ?_
      refine u_getp cx hw F_X12_37 o_X12 rfl dX12_then0_87 ?_
      refine lv_iconst (v := 2) hx hb dX12_then0_90 (by decide) ?_
      refine lv_iload hx hb dX12_then0_91 (lv_at hl 7 rfl) ?_
      obtain ⟨s15, hs15, hz⟩ := u_bind hz
      refine u_iast cx hw hs15 dX12_then0_93 (fun H locs hw => ?_)
      refine lv_aload_n hx hb dX12_then0_94 rfl (lv_at hl 3 rfl) ?_
      refine u_getp cx hw F_X12_37 o_X12 rfl dX12_then0_95 ?_
      refine lv_iconst (v := 3) hx hb dX12_then0_98 (by decide) ?_
      refine lv_iload_n hx hb dX12_then0_99 rfl (lv_at hl 6 rfl) ?_
      refine lv_aload_n hx hb dX12_then0_100 rfl (lv_at hl 3 rfl) ?_
      refine lv_aload_n hx hb dX12_then0_101 rfl (lv_at hl 4 rfl) ?_
      obtain ⟨v16, hv16, hz⟩ := u_bind hz
      refine u_callVi (As := [.ref (G.2.2 a1)]) (rest := [.int v1, .int 3, .ref (G.2.2 8)]) cx hw LV_X12_214 (c_X12_inBits l G N s15 a1 v16 hv16) o_X12 rfl (by decide) hl.1 rfl (Nat.le_of_ble_eq_true rfl) dX12_then0_102 rfl (fun H locs hw => ?_)
      refine lv_iconst (v := (-1)) hx hb dX12_then0_105 (by decide) ?_
      refine lv_ixor hx hb dX12_then0_106 ?_
      refine lv_iand hx hb dX12_then0_107 ?_
      obtain ⟨v17, hv17, hz⟩ := u_bind hz
      refine u_callSi (As := [.int (v1 &&& (v16 ^^^ (-1)))]) (rest := [.int 3, .ref (G.2.2 8)]) cx hw LS_X12_206 (c_J6_bitCount_0f7a4 l G ZM N s15 (v1 &&& (v16 ^^^ (-1))) v17 hv17) (by decide) hl.1 rfl (Nat.le_of_ble_eq_true rfl) dX12_then0_108 rfl (fun H locs hw => ?_)
      obtain ⟨s18, hs18, hz⟩ := u_bind hz
      refine u_iast cx hw hs18 dX12_then0_111 (fun H locs hw => ?_)
      refine lv_aload_n hx hb dX12_then0_112 rfl (lv_at hl 3 rfl) ?_
      refine u_getp cx hw F_X12_37 o_X12 rfl dX12_then0_113 ?_
      refine lv_iconst (v := 4) hx hb dX12_then0_116 (by decide) ?_
      refine lv_iload hx hb dX12_then0_117 (lv_at hl 1 rfl) ?_
      obtain ⟨s19, hs19, hz⟩ := u_bind hz
      refine u_iast cx hw hs19 dX12_then0_119 (fun H locs hw => ?_)
      refine lv_aload_n hx hb dX12_then0_120 rfl (lv_at hl 3 rfl) ?_
      refine u_getp cx hw F_X12_37 o_X12 rfl dX12_then0_121 ?_
      refine lv_iconst (v := 5) hx hb dX12_then0_124 (by decide) ?_
      refine lv_aload_n hx hb dX12_then0_125 rfl (lv_at hl 4 rfl) ?_
      refine lv_bipush (v := 35) hx hb dX12_then0_126 (by decide) ?_
      obtain ⟨v20, hv20, hz⟩ := u_bind hz
      refine u_iald cx hw hv20 dX12_then0_128 ?_
      refine lv_bipush (v := 7) hx hb dX12_then0_129 (by decide) ?_
      refine lv_irem hx hb dX12_then0_131 (by decide) ?_
      obtain ⟨s21, hs21, hz⟩ := u_bind hz
      refine u_iast cx hw hs21 dX12_then0_132 (fun H locs hw => ?_)
      refine lv_aload_n hx hb dX12_then0_133 rfl (lv_at hl 3 rfl) ?_
      refine u_getp cx hw F_X12_37 o_X12 rfl dX12_then0_134 ?_
      refine lv_bipush (v := 6) hx hb dX12_then0_137 (by decide) ?_
      refine lv_aload_n hx hb dX12_then0_139 rfl (lv_at hl 3 rfl) ?_
      refine u_getp cx hw F_X12_17 o_X12 rfl dX12_then0_140 ?_
      refine lv_iload_n hx hb dX12_then0_143 rfl (lv_at hl 5 rfl) ?_
      obtain ⟨v22, hv22, hz⟩ := u_bind hz
      refine u_iald cx hw hv22 dX12_then0_144 ?_
      obtain ⟨s23, hs23, hz⟩ := u_bind hz
      refine u_iast cx hw hs23 dX12_then0_145 (fun H locs hw => ?_)
      refine lv_aload_n hx hb dX12_then0_146 rfl (lv_at hl 3 rfl) ?_
      refine lv_aload_n hx hb dX12_then0_147 rfl (lv_at hl 3 rfl) ?_
      obtain ⟨v24, hv24, hz⟩ := u_bind hz
      refine u_getr cx hw F_X12_31 o_X12 rfl hv24 dX12_then0_148 ?_
      refine lv_aload_n hx hb dX12_then0_151 rfl (lv_at hl 3 rfl) ?_
      refine u_geti cx hw F_X12_191 o_X12 rfl dX12_then0_152 ?_
      refine lv_bipush (v := 40) hx hb dX12_then0_155 (by decide) ?_
      obtain ⟨s25, hs25, hz⟩ := u_bind hz
      refine u_callVv (As := [.ref (G.2.2 v24), .int (s23.1 0 17), .int 40]) (rest := []) cx hw LV_X12_116 (c_X12_begin l G N s23 v24 (s23.1 0 17) 40 s25 hs25) o_X12 rfl (by decide) hl.1 rfl (Nat.le_of_ble_eq_true rfl) dX12_then0_157 rfl (fun H locs hw => ?_)
      refine lv_aload_n hx hb dX12_then0_160 rfl (lv_at hl 3 rfl) ?_
      refine lv_iconst (v := 1) hx hb dX12_then0_161 (by decide) ?_
      obtain ⟨s26, es26, hz⟩ := u_let hz
      refine u_putz2 cx hw P_X12_184 o_X12 rfl (Or.inr rfl) es26 dX12_then0_162 (fun H locs hw => ?_)
      refine lv_aload_n hx hb dX12_then0_165 rfl (lv_at hl 3 rfl) ?_
      refine lv_iconst (v := 0) hx hb dX12_then0_166 (by decide) ?_
      obtain ⟨v27, hv27, hz⟩ := u_bind hz
      refine u_callVi (As := [.int 0]) (rest := []) cx hw LV_X12_171 (c_X12_held l G N s26 0 v27 hv27) o_X12 rfl (by decide) hl.1 rfl (Nat.le_of_ble_eq_true rfl) dX12_then0_167 rfl (fun H locs hw => ?_)
      refine lv_istore (lv' := [(7, .int v27.1), (6, .int x6), (5, .int t3), (0, .ref (G.2.2 0)), (1, .ref (G.2.2 a1)), (2, .int p2), (3, .int v1), (4, .int v2)]) hx hb dX12_then0_170 hl (by decide) rfl (fun ls hl => ?_)
      refine lv_aload_n hx hb dX12_then0_172 rfl (lv_at hl 3 rfl) ?_
      refine lv_iconst (v := 0) hx hb dX12_then0_173 (by decide) ?_
      obtain ⟨s28, es28, hz⟩ := u_let hz
      refine u_putz2 cx hw P_X12_184 o_X12 rfl (Or.inl rfl) es28 dX12_then0_174 (fun H locs hw => ?_)
      exact WJ177_11 s28 v27.1 _ _ _ hz hw (lv_sub hl [0] rfl)
  refine lv_if_ne (tgt := 24) hx hb dX12_then0_15 (by decide) (fun hc => ?_) (fun hc => ?_)
  · replace hz := u_iff hz hc
    refine lv_aload_n hx hb dX12_then0_24 rfl (lv_at hl 2 rfl) ?_
    refine lv_aload_n hx hb dX12_then0_25 rfl (lv_at hl 3 rfl) ?_
    refine lv_iload_n hx hb dX12_then0_26 rfl (lv_at hl 1 rfl) ?_
    obtain ⟨v29, hv29, hz⟩ := u_bind hz
    refine u_callVi (As := [.ref (G.2.2 a1), .int v1]) (rest := []) cx hw LV_X12_211 (c_X12_beliefs l G N σ a1 v1 v29 hv29) o_X12 rfl (by decide) hl.1 rfl (Nat.le_of_ble_eq_true rfl) dX12_then0_27 rfl (fun H locs hw => ?_)
    refine lv_iload hx hb dX12_then0_30 (lv_at hl 0 rfl) ?_
    obtain ⟨hne, hz⟩ := u_ck_some hz
    refine lv_idiv hx hb dX12_then0_32 hne ?_
    exact WJ33_4 (v29 / v2) _ _ _ hz hw (lv_sub hl [2, 3, 4, 1, 0] rfl)
  · replace hz := u_ift hz hc
    refine lv_aload_n hx hb dX12_then0_18 rfl (lv_at hl 3 rfl) ?_
    refine lv_iload_n hx hb dX12_then0_19 rfl (lv_at hl 4 rfl) ?_
    obtain ⟨v30, hv30, hz⟩ := u_bind hz
    refine u_iald cx hw hv30 dX12_then0_20 ?_
    refine lv_goto (tgt := 33) hx hb dX12_then0_21 (by decide) ?_
    exact WJ33_4 v30 _ _ _ hz hw (lv_sub hl [2, 3, 4, 1, 0] rfl)
theorem dX12_person_0 : decode cX12_person 0 = .ok (.aload_n 0, 1) := by decide +kernel
theorem dX12_person_1 : decode cX12_person 1 = .ok (.iconst 0, 1) := by decide +kernel
theorem dX12_person_2 : decode cX12_person 2 = .ok (.putfield 77, 3) := by decide +kernel
theorem dX12_person_5 : decode cX12_person 5 = .ok (.aload_n 0, 1) := by decide +kernel
theorem dX12_person_6 : decode cX12_person 6 = .ok (.iload_n 1, 1) := by decide +kernel
theorem dX12_person_7 : decode cX12_person 7 = .ok (.invokevirtual 90, 3) := by decide +kernel
theorem dX12_person_10 : decode cX12_person 10 = .ok (.ifCond .eq 12, 3) := by decide +kernel
theorem dX12_person_13 : decode cX12_person 13 = .ok (.iload_n 2, 1) := by decide +kernel
theorem dX12_person_14 : decode cX12_person 14 = .ok (.iconst 0, 1) := by decide +kernel
theorem dX12_person_15 : decode cX12_person 15 = .ok (.iconst 5, 1) := by decide +kernel
theorem dX12_person_16 : decode cX12_person 16 = .ok (.invokestatic 86, 3) := by decide +kernel
theorem dX12_person_19 : decode cX12_person 19 = .ok (.ifCond .ne 8, 3) := by decide +kernel
theorem dX12_person_22 : decode cX12_person 22 = .ok (.aload_n 0, 1) := by decide +kernel
theorem dX12_person_23 : decode cX12_person 23 = .ok (.invokevirtual 230, 3) := by decide +kernel
theorem dX12_person_26 : decode cX12_person 26 = .ok (.ireturn, 1) := by decide +kernel
theorem dX12_person_27 : decode cX12_person 27 = .ok (.iload_n 2, 1) := by decide +kernel
theorem dX12_person_28 : decode cX12_person 28 = .ok (.tableswitch 88 0 4 #[36, 43, 50, 60, 78], 36) := by decide +kernel
theorem dX12_person_64 : decode cX12_person 64 = .ok (.aload_n 0, 1) := by decide +kernel
theorem dX12_person_65 : decode cX12_person 65 = .ok (.getfield 9, 3) := by decide +kernel
theorem dX12_person_68 : decode cX12_person 68 = .ok (.iload_n 1, 1) := by decide +kernel
theorem dX12_person_69 : decode cX12_person 69 = .ok (.iaload, 1) := by decide +kernel
theorem dX12_person_70 : decode cX12_person 70 = .ok (.ireturn, 1) := by decide +kernel
theorem dX12_person_71 : decode cX12_person 71 = .ok (.aload_n 0, 1) := by decide +kernel
theorem dX12_person_72 : decode cX12_person 72 = .ok (.getfield 17, 3) := by decide +kernel
theorem dX12_person_75 : decode cX12_person 75 = .ok (.iload_n 1, 1) := by decide +kernel
theorem dX12_person_76 : decode cX12_person 76 = .ok (.iaload, 1) := by decide +kernel
theorem dX12_person_77 : decode cX12_person 77 = .ok (.ireturn, 1) := by decide +kernel
theorem dX12_person_78 : decode cX12_person 78 = .ok (.aload_n 0, 1) := by decide +kernel
theorem dX12_person_79 : decode cX12_person 79 = .ok (.aload_n 0, 1) := by decide +kernel
theorem dX12_person_80 : decode cX12_person 80 = .ok (.getfield 9, 3) := by decide +kernel
theorem dX12_person_83 : decode cX12_person 83 = .ok (.iload_n 1, 1) := by decide +kernel
theorem dX12_person_84 : decode cX12_person 84 = .ok (.invokevirtual 202, 3) := by decide +kernel
theorem dX12_person_87 : decode cX12_person 87 = .ok (.ireturn, 1) := by decide +kernel
theorem dX12_person_88 : decode cX12_person 88 = .ok (.aload_n 0, 1) := by decide +kernel
theorem dX12_person_89 : decode cX12_person 89 = .ok (.aload_n 0, 1) := by decide +kernel
theorem dX12_person_90 : decode cX12_person 90 = .ok (.getfield 9, 3) := by decide +kernel
theorem dX12_person_93 : decode cX12_person 93 = .ok (.iload_n 1, 1) := by decide +kernel
theorem dX12_person_94 : decode cX12_person 94 = .ok (.invokevirtual 194, 3) := by decide +kernel
theorem dX12_person_97 : decode cX12_person 97 = .ok (.ifCond .eq 7, 3) := by decide +kernel
theorem dX12_person_100 : decode cX12_person 100 = .ok (.iconst 1, 1) := by decide +kernel
theorem dX12_person_101 : decode cX12_person 101 = .ok (.goto 4, 3) := by decide +kernel
theorem dX12_person_104 : decode cX12_person 104 = .ok (.iconst 0, 1) := by decide +kernel
theorem dX12_person_105 : decode cX12_person 105 = .ok (.ireturn, 1) := by decide +kernel
theorem dX12_person_106 : decode cX12_person 106 = .ok (.aload_n 0, 1) := by decide +kernel
theorem dX12_person_107 : decode cX12_person 107 = .ok (.aload_n 0, 1) := by decide +kernel
theorem dX12_person_108 : decode cX12_person 108 = .ok (.getfield 9, 3) := by decide +kernel
theorem dX12_person_111 : decode cX12_person 111 = .ok (.iload_n 1, 1) := by decide +kernel
theorem dX12_person_112 : decode cX12_person 112 = .ok (.invokevirtual 236, 3) := by decide +kernel
theorem dX12_person_115 : decode cX12_person 115 = .ok (.ireturn, 1) := by decide +kernel
theorem dX12_person_116 : decode cX12_person 116 = .ok (.aload_n 0, 1) := by decide +kernel
theorem dX12_person_117 : decode cX12_person 117 = .ok (.aload_n 0, 1) := by decide +kernel
theorem dX12_person_118 : decode cX12_person 118 = .ok (.getfield 9, 3) := by decide +kernel
theorem dX12_person_121 : decode cX12_person 121 = .ok (.iload_n 1, 1) := by decide +kernel
theorem dX12_person_122 : decode cX12_person 122 = .ok (.invokevirtual 239, 3) := by decide +kernel
theorem dX12_person_125 : decode cX12_person 125 = .ok (.ireturn, 1) := by decide +kernel
def f_X12_person (N : Nat) (σ : uS) (p1 : Int32) (p2 : Int32) : Option (Int32 × uS) := u_jn (u_pI σ 0 8 0) fun s1 =>
  (f_X12_isMan N s1 p1).bind fun v2 =>
  u_jn (((f_X12_lost N s1).bind fun v4 =>
  some (v4.1, v4.2) : Option (Int32 × uS))) fun J22_3 =>
  if v2 = 0 then (J22_3) else ((f_X12_in N s1 p2 0 5).bind fun v5 =>
  if v5 = 0 then (J22_3) else (if p2 = 0 then ((u_rI ZM s1 0 1 p1).bind fun v6 =>
  some (v6, s1)) else (if p2 = 1 then ((u_rI ZM s1 0 2 p1).bind fun v7 =>
  some (v7, s1)) else (if p2 = 2 then ((f_X12_sees N s1 1 p1).bind fun v8 =>
  some (v8, s1)) else (if p2 = 3 then ((f_X12_isIn N s1 1 p1).bind fun v9 =>
  if v9 = 0 then (some (0, s1)) else (some (1, s1))) else (if p2 = 4 then ((f_X12_then0 N s1 1 p1).bind fun v10 =>
  some (v10.1, v10.2)) else ((f_X12_seenBy N s1 1 p1).bind fun v11 =>
  some (v11, s1))))))))
set_option maxRecDepth 100000 in
set_option maxHeartbeats 4000000 in
theorem c_X12_person (l : Launch) (G : uG) (N : Nat) (σ : uS) (p1 : Int32) (p2 : Int32) (z : (Int32 × uS)) (hz : f_X12_person N σ p1 p2 = some z) : u_Mi l ZM G yX12_person cX12_person 3 .int 106 [.ref (G.2.2 0), .int p1, .int p2] σ z.1 z.2 := by
  refine u_Mi_of RX12 (by decide) rfl (Nat.le_of_ble_eq_true rfl) ?_
  intro p e s m args below meth c ls cx hw hl
  have hx := cx.1
  have hb := cx.2.1
  have hl : lv_has ls 3 [(0, .ref (G.2.2 0)), (1, .int p1), (2, .int p2)] := hl
  unfold f_X12_person at hz
  refine lv_aload_n hx hb dX12_person_0 rfl (lv_at hl 0 rfl) ?_
  refine lv_iconst (v := 0) hx hb dX12_person_1 (by decide) ?_
  obtain ⟨s1, es1, hz⟩ := u_let hz
  refine u_puti2 cx hw P_X12_77 o_X12 rfl es1 dX12_person_2 (fun H locs hw => ?_)
  refine lv_aload_n hx hb dX12_person_5 rfl (lv_at hl 0 rfl) ?_
  refine lv_iload_n hx hb dX12_person_6 rfl (lv_at hl 1 rfl) ?_
  obtain ⟨v2, hv2, hz⟩ := u_bind hz
  refine u_callVi (As := [.int p1]) (rest := []) cx hw LV_X12_90 (c_X12_isMan l G N s1 p1 v2 hv2) o_X12 rfl (by decide) hl.1 rfl (Nat.le_of_ble_eq_true rfl) dX12_person_7 rfl (fun H locs hw => ?_)
  obtain ⟨J22_3, eJ22_3, hz⟩ := u_let hz
  have WJ22_3 : ∀ (H : Heap) (locs : List Loc) (ls : Array Slot), J22_3 = some z → u_W ZM G s1 s H locs → lv_has ls 3 [(0, .ref (G.2.2 0))] → W p l e (u_rm 106) s m args below meth c H locs 0 0 (u_Qi below ZM G s args z.1 z.2) (F0 m 22 ls []) := by
    intro H locs ls hz hw hl
    rw [eJ22_3] at hz
    refine lv_aload_n hx hb dX12_person_22 rfl (lv_at hl 0 rfl) ?_
    obtain ⟨v4, hv4, hz⟩ := u_bind hz
    refine u_callVi (As := []) (rest := []) cx hw LV_X12_230 (c_X12_lost l G N s1 v4 hv4) o_X12 rfl (by decide) hl.1 rfl (Nat.le_of_ble_eq_true rfl) dX12_person_23 rfl (fun H locs hw => ?_)
    exact u_iret cx hw (u_pair hz) dX12_person_26
  refine lv_if_eq (tgt := 22) hx hb dX12_person_10 (by decide) (fun hc => ?_) (fun hc => ?_)
  · replace hz := u_ift hz hc
    exact WJ22_3 _ _ _ hz hw (lv_sub hl [0] rfl)
  · replace hz := u_iff hz hc
    refine lv_iload_n hx hb dX12_person_13 rfl (lv_at hl 2 rfl) ?_
    refine lv_iconst (v := 0) hx hb dX12_person_14 (by decide) ?_
    refine lv_iconst (v := 5) hx hb dX12_person_15 (by decide) ?_
    obtain ⟨v5, hv5, hz⟩ := u_bind hz
    refine u_callSi (As := [.int p2, .int 0, .int 5]) (rest := []) cx hw LS_X12_86 (c_X12_in l G N s1 p2 0 5 v5 hv5) (by decide) hl.1 rfl (Nat.le_of_ble_eq_true rfl) dX12_person_16 rfl (fun H locs hw => ?_)
    refine lv_if_ne (tgt := 27) hx hb dX12_person_19 (by decide) (fun hc => ?_) (fun hc => ?_)
    · replace hz := u_iff hz hc
      refine lv_iload_n hx hb dX12_person_27 rfl (lv_at hl 2 rfl) ?_
      by_cases hk0 : p2 = 0
      · replace hz := u_ift hz hk0
        refine lv_tableIn (off := 36) (tgt := 64) hx hb dX12_person_28 (by rw [hk0]; decide) (by rw [hk0]; decide) (by rw [hk0]; decide) (by decide) ?_
        refine lv_aload_n hx hb dX12_person_64 rfl (lv_at hl 0 rfl) ?_
        refine u_getp cx hw F_X12_9 o_X12 rfl dX12_person_65 ?_
        refine lv_iload_n hx hb dX12_person_68 rfl (lv_at hl 1 rfl) ?_
        obtain ⟨v6, hv6, hz⟩ := u_bind hz
        refine u_iald cx hw hv6 dX12_person_69 ?_
        exact u_iret cx hw (u_pair hz) dX12_person_70
      replace hz := u_iff hz hk0
      by_cases hk1 : p2 = 1
      · replace hz := u_ift hz hk1
        refine lv_tableIn (off := 43) (tgt := 71) hx hb dX12_person_28 (by rw [hk1]; decide) (by rw [hk1]; decide) (by rw [hk1]; decide) (by decide) ?_
        refine lv_aload_n hx hb dX12_person_71 rfl (lv_at hl 0 rfl) ?_
        refine u_getp cx hw F_X12_17 o_X12 rfl dX12_person_72 ?_
        refine lv_iload_n hx hb dX12_person_75 rfl (lv_at hl 1 rfl) ?_
        obtain ⟨v7, hv7, hz⟩ := u_bind hz
        refine u_iald cx hw hv7 dX12_person_76 ?_
        exact u_iret cx hw (u_pair hz) dX12_person_77
      replace hz := u_iff hz hk1
      by_cases hk2 : p2 = 2
      · replace hz := u_ift hz hk2
        refine lv_tableIn (off := 50) (tgt := 78) hx hb dX12_person_28 (by rw [hk2]; decide) (by rw [hk2]; decide) (by rw [hk2]; decide) (by decide) ?_
        refine lv_aload_n hx hb dX12_person_78 rfl (lv_at hl 0 rfl) ?_
        refine lv_aload_n hx hb dX12_person_79 rfl (lv_at hl 0 rfl) ?_
        refine u_getp cx hw F_X12_9 o_X12 rfl dX12_person_80 ?_
        refine lv_iload_n hx hb dX12_person_83 rfl (lv_at hl 1 rfl) ?_
        obtain ⟨v8, hv8, hz⟩ := u_bind hz
        refine u_callVi (As := [.ref (G.2.2 1), .int p1]) (rest := []) cx hw LV_X12_202 (c_X12_sees l G N s1 1 p1 v8 hv8) o_X12 rfl (by decide) hl.1 rfl (Nat.le_of_ble_eq_true rfl) dX12_person_84 rfl (fun H locs hw => ?_)
        exact u_iret cx hw (u_pair hz) dX12_person_87
      replace hz := u_iff hz hk2
      by_cases hk3 : p2 = 3
      · replace hz := u_ift hz hk3
        refine lv_tableIn (off := 60) (tgt := 88) hx hb dX12_person_28 (by rw [hk3]; decide) (by rw [hk3]; decide) (by rw [hk3]; decide) (by decide) ?_
        refine lv_aload_n hx hb dX12_person_88 rfl (lv_at hl 0 rfl) ?_
        refine lv_aload_n hx hb dX12_person_89 rfl (lv_at hl 0 rfl) ?_
        refine u_getp cx hw F_X12_9 o_X12 rfl dX12_person_90 ?_
        refine lv_iload_n hx hb dX12_person_93 rfl (lv_at hl 1 rfl) ?_
        obtain ⟨v9, hv9, hz⟩ := u_bind hz
        refine u_callVi (As := [.ref (G.2.2 1), .int p1]) (rest := []) cx hw LV_X12_194 (c_X12_isIn l G N s1 1 p1 v9 hv9) o_X12 rfl (by decide) hl.1 rfl (Nat.le_of_ble_eq_true rfl) dX12_person_94 rfl (fun H locs hw => ?_)
        refine lv_if_eq (tgt := 104) hx hb dX12_person_97 (by decide) (fun hc => ?_) (fun hc => ?_)
        · replace hz := u_ift hz hc
          refine lv_iconst (v := 0) hx hb dX12_person_104 (by decide) ?_
          exact u_iret cx hw (u_pair hz) dX12_person_105
        · replace hz := u_iff hz hc
          refine lv_iconst (v := 1) hx hb dX12_person_100 (by decide) ?_
          refine lv_goto (tgt := 105) hx hb dX12_person_101 (by decide) ?_
          exact u_iret cx hw (u_pair hz) dX12_person_105
      replace hz := u_iff hz hk3
      by_cases hk4 : p2 = 4
      · replace hz := u_ift hz hk4
        refine lv_tableIn (off := 78) (tgt := 106) hx hb dX12_person_28 (by rw [hk4]; decide) (by rw [hk4]; decide) (by rw [hk4]; decide) (by decide) ?_
        refine lv_aload_n hx hb dX12_person_106 rfl (lv_at hl 0 rfl) ?_
        refine lv_aload_n hx hb dX12_person_107 rfl (lv_at hl 0 rfl) ?_
        refine u_getp cx hw F_X12_9 o_X12 rfl dX12_person_108 ?_
        refine lv_iload_n hx hb dX12_person_111 rfl (lv_at hl 1 rfl) ?_
        obtain ⟨v10, hv10, hz⟩ := u_bind hz
        refine u_callVi (As := [.ref (G.2.2 1), .int p1]) (rest := []) cx hw LV_X12_236 (c_X12_then0 l G N s1 1 p1 v10 hv10) o_X12 rfl (by decide) hl.1 rfl (Nat.le_of_ble_eq_true rfl) dX12_person_112 rfl (fun H locs hw => ?_)
        exact u_iret cx hw (u_pair hz) dX12_person_115
      replace hz := u_iff hz hk4
      refine lv_tableOut (tgt := 116) hx hb dX12_person_28 (by have := lv_neT hk0 (a := 0) (by decide); have := lv_neT hk1 (a := 1) (by decide); have := lv_neT hk2 (a := 2) (by decide); have := lv_neT hk3 (a := 3) (by decide); have := lv_neT hk4 (a := 4) (by decide); omega) (by decide) ?_
      refine lv_aload_n hx hb dX12_person_116 rfl (lv_at hl 0 rfl) ?_
      refine lv_aload_n hx hb dX12_person_117 rfl (lv_at hl 0 rfl) ?_
      refine u_getp cx hw F_X12_9 o_X12 rfl dX12_person_118 ?_
      refine lv_iload_n hx hb dX12_person_121 rfl (lv_at hl 1 rfl) ?_
      obtain ⟨v11, hv11, hz⟩ := u_bind hz
      refine u_callVi (As := [.ref (G.2.2 1), .int p1]) (rest := []) cx hw LV_X12_239 (c_X12_seenBy l G N s1 1 p1 v11 hv11) o_X12 rfl (by decide) hl.1 rfl (Nat.le_of_ble_eq_true rfl) dX12_person_122 rfl (fun H locs hw => ?_)
      exact u_iret cx hw (u_pair hz) dX12_person_125
    · replace hz := u_ift hz hc
      exact WJ22_3 _ _ _ hz hw (lv_sub hl [0] rfl)
theorem dX12_goCrossing_0 : decode cX12_goCrossing 0 = .ok (.aload_n 0, 1) := by decide +kernel
theorem dX12_goCrossing_1 : decode cX12_goCrossing 1 = .ok (.aload_n 1, 1) := by decide +kernel
theorem dX12_goCrossing_2 : decode cX12_goCrossing 2 = .ok (.invokevirtual 214, 3) := by decide +kernel
theorem dX12_goCrossing_5 : decode cX12_goCrossing 5 = .ok (.istore_n 2, 1) := by decide +kernel
theorem dX12_goCrossing_6 : decode cX12_goCrossing 6 = .ok (.iload_n 2, 1) := by decide +kernel
theorem dX12_goCrossing_7 : decode cX12_goCrossing 7 = .ok (.ifCond .eq 23, 3) := by decide +kernel
theorem dX12_goCrossing_10 : decode cX12_goCrossing 10 = .ok (.aload_n 1, 1) := by decide +kernel
theorem dX12_goCrossing_11 : decode cX12_goCrossing 11 = .ok (.bipush 36, 2) := by decide +kernel
theorem dX12_goCrossing_13 : decode cX12_goCrossing 13 = .ok (.dup2, 1) := by decide +kernel
theorem dX12_goCrossing_14 : decode cX12_goCrossing 14 = .ok (.iaload, 1) := by decide +kernel
theorem dX12_goCrossing_15 : decode cX12_goCrossing 15 = .ok (.aload_n 0, 1) := by decide +kernel
theorem dX12_goCrossing_16 : decode cX12_goCrossing 16 = .ok (.aload_n 1, 1) := by decide +kernel
theorem dX12_goCrossing_17 : decode cX12_goCrossing 17 = .ok (.aload_n 1, 1) := by decide +kernel
theorem dX12_goCrossing_18 : decode cX12_goCrossing 18 = .ok (.bipush 32, 2) := by decide +kernel
theorem dX12_goCrossing_20 : decode cX12_goCrossing 20 = .ok (.iaload, 1) := by decide +kernel
theorem dX12_goCrossing_21 : decode cX12_goCrossing 21 = .ok (.aload_n 1, 1) := by decide +kernel
theorem dX12_goCrossing_22 : decode cX12_goCrossing 22 = .ok (.bipush 33, 2) := by decide +kernel
theorem dX12_goCrossing_24 : decode cX12_goCrossing 24 = .ok (.iaload, 1) := by decide +kernel
theorem dX12_goCrossing_25 : decode cX12_goCrossing 25 = .ok (.invokevirtual 246, 3) := by decide +kernel
theorem dX12_goCrossing_28 : decode cX12_goCrossing 28 = .ok (.iadd, 1) := by decide +kernel
theorem dX12_goCrossing_29 : decode cX12_goCrossing 29 = .ok (.iastore, 1) := by decide +kernel
theorem dX12_goCrossing_30 : decode cX12_goCrossing 30 = .ok (.iconst 0, 1) := by decide +kernel
theorem dX12_goCrossing_31 : decode cX12_goCrossing 31 = .ok (.istore_n 3, 1) := by decide +kernel
theorem dX12_goCrossing_32 : decode cX12_goCrossing 32 = .ok (.iload_n 3, 1) := by decide +kernel
theorem dX12_goCrossing_33 : decode cX12_goCrossing 33 = .ok (.aload_n 0, 1) := by decide +kernel
theorem dX12_goCrossing_34 : decode cX12_goCrossing 34 = .ok (.getfield 13, 3) := by decide +kernel
theorem dX12_goCrossing_37 : decode cX12_goCrossing 37 = .ok (.if_icmp .ge 61, 3) := by decide +kernel
theorem dX12_goCrossing_40 : decode cX12_goCrossing 40 = .ok (.aload_n 1, 1) := by decide +kernel
theorem dX12_goCrossing_41 : decode cX12_goCrossing 41 = .ok (.iload_n 3, 1) := by decide +kernel
theorem dX12_goCrossing_42 : decode cX12_goCrossing 42 = .ok (.invokestatic 233, 3) := by decide +kernel
theorem dX12_goCrossing_45 : decode cX12_goCrossing 45 = .ok (.ifCond .ne 25, 3) := by decide +kernel
theorem dX12_goCrossing_48 : decode cX12_goCrossing 48 = .ok (.aload_n 1, 1) := by decide +kernel
theorem dX12_goCrossing_49 : decode cX12_goCrossing 49 = .ok (.bipush 16, 2) := by decide +kernel
theorem dX12_goCrossing_51 : decode cX12_goCrossing 51 = .ok (.iload_n 3, 1) := by decide +kernel
theorem dX12_goCrossing_52 : decode cX12_goCrossing 52 = .ok (.iadd, 1) := by decide +kernel
theorem dX12_goCrossing_53 : decode cX12_goCrossing 53 = .ok (.bipush 9, 2) := by decide +kernel
theorem dX12_goCrossing_55 : decode cX12_goCrossing 55 = .ok (.aload_n 1, 1) := by decide +kernel
theorem dX12_goCrossing_56 : decode cX12_goCrossing 56 = .ok (.bipush 16, 2) := by decide +kernel
theorem dX12_goCrossing_58 : decode cX12_goCrossing 58 = .ok (.iload_n 3, 1) := by decide +kernel
theorem dX12_goCrossing_59 : decode cX12_goCrossing 59 = .ok (.iadd, 1) := by decide +kernel
theorem dX12_goCrossing_60 : decode cX12_goCrossing 60 = .ok (.iaload, 1) := by decide +kernel
theorem dX12_goCrossing_61 : decode cX12_goCrossing 61 = .ok (.iconst 1, 1) := by decide +kernel
theorem dX12_goCrossing_62 : decode cX12_goCrossing 62 = .ok (.iadd, 1) := by decide +kernel
theorem dX12_goCrossing_63 : decode cX12_goCrossing 63 = .ok (.invokestatic 218, 3) := by decide +kernel
theorem dX12_goCrossing_66 : decode cX12_goCrossing 66 = .ok (.iastore, 1) := by decide +kernel
theorem dX12_goCrossing_67 : decode cX12_goCrossing 67 = .ok (.goto 25, 3) := by decide +kernel
theorem dX12_goCrossing_70 : decode cX12_goCrossing 70 = .ok (.iload_n 2, 1) := by decide +kernel
theorem dX12_goCrossing_71 : decode cX12_goCrossing 71 = .ok (.ifCond .eq 21, 3) := by decide +kernel
theorem dX12_goCrossing_74 : decode cX12_goCrossing 74 = .ok (.aload_n 1, 1) := by decide +kernel
theorem dX12_goCrossing_75 : decode cX12_goCrossing 75 = .ok (.bipush 16, 2) := by decide +kernel
theorem dX12_goCrossing_77 : decode cX12_goCrossing 77 = .ok (.iload_n 3, 1) := by decide +kernel
theorem dX12_goCrossing_78 : decode cX12_goCrossing 78 = .ok (.iadd, 1) := by decide +kernel
theorem dX12_goCrossing_79 : decode cX12_goCrossing 79 = .ok (.iconst 0, 1) := by decide +kernel
theorem dX12_goCrossing_80 : decode cX12_goCrossing 80 = .ok (.aload_n 1, 1) := by decide +kernel
theorem dX12_goCrossing_81 : decode cX12_goCrossing 81 = .ok (.bipush 16, 2) := by decide +kernel
theorem dX12_goCrossing_83 : decode cX12_goCrossing 83 = .ok (.iload_n 3, 1) := by decide +kernel
theorem dX12_goCrossing_84 : decode cX12_goCrossing 84 = .ok (.iadd, 1) := by decide +kernel
theorem dX12_goCrossing_85 : decode cX12_goCrossing 85 = .ok (.iaload, 1) := by decide +kernel
theorem dX12_goCrossing_86 : decode cX12_goCrossing 86 = .ok (.iconst 1, 1) := by decide +kernel
theorem dX12_goCrossing_87 : decode cX12_goCrossing 87 = .ok (.isub, 1) := by decide +kernel
theorem dX12_goCrossing_88 : decode cX12_goCrossing 88 = .ok (.invokestatic 224, 3) := by decide +kernel
theorem dX12_goCrossing_91 : decode cX12_goCrossing 91 = .ok (.iastore, 1) := by decide +kernel
theorem dX12_goCrossing_92 : decode cX12_goCrossing 92 = .ok (.iinc 3 1, 3) := by decide +kernel
theorem dX12_goCrossing_95 : decode cX12_goCrossing 95 = .ok (.goto (-63), 3) := by decide +kernel
theorem dX12_goCrossing_98 : decode cX12_goCrossing 98 = .ok (.iconst 0, 1) := by decide +kernel
theorem dX12_goCrossing_99 : decode cX12_goCrossing 99 = .ok (.istore_n 3, 1) := by decide +kernel
theorem dX12_goCrossing_100 : decode cX12_goCrossing 100 = .ok (.iload_n 3, 1) := by decide +kernel
theorem dX12_goCrossing_101 : decode cX12_goCrossing 101 = .ok (.aload_n 0, 1) := by decide +kernel
theorem dX12_goCrossing_102 : decode cX12_goCrossing 102 = .ok (.getfield 83, 3) := by decide +kernel
theorem dX12_goCrossing_105 : decode cX12_goCrossing 105 = .ok (.if_icmp .ge 21, 3) := by decide +kernel
theorem dX12_goCrossing_108 : decode cX12_goCrossing 108 = .ok (.aload_n 0, 1) := by decide +kernel
theorem dX12_goCrossing_109 : decode cX12_goCrossing 109 = .ok (.getfield 52, 3) := by decide +kernel
theorem dX12_goCrossing_112 : decode cX12_goCrossing 112 = .ok (.iload_n 3, 1) := by decide +kernel
theorem dX12_goCrossing_113 : decode cX12_goCrossing 113 = .ok (.aload_n 0, 1) := by decide +kernel
theorem dX12_goCrossing_114 : decode cX12_goCrossing 114 = .ok (.aload_n 1, 1) := by decide +kernel
theorem dX12_goCrossing_115 : decode cX12_goCrossing 115 = .ok (.iload_n 3, 1) := by decide +kernel
theorem dX12_goCrossing_116 : decode cX12_goCrossing 116 = .ok (.invokevirtual 236, 3) := by decide +kernel
theorem dX12_goCrossing_119 : decode cX12_goCrossing 119 = .ok (.iastore, 1) := by decide +kernel
theorem dX12_goCrossing_120 : decode cX12_goCrossing 120 = .ok (.iinc 3 1, 3) := by decide +kernel
theorem dX12_goCrossing_123 : decode cX12_goCrossing 123 = .ok (.goto (-23), 3) := by decide +kernel
theorem dX12_goCrossing_126 : decode cX12_goCrossing 126 = .ok (.iconst 0, 1) := by decide +kernel
theorem dX12_goCrossing_127 : decode cX12_goCrossing 127 = .ok (.istore_n 3, 1) := by decide +kernel
theorem dX12_goCrossing_128 : decode cX12_goCrossing 128 = .ok (.iload_n 3, 1) := by decide +kernel
theorem dX12_goCrossing_129 : decode cX12_goCrossing 129 = .ok (.aload_n 0, 1) := by decide +kernel
theorem dX12_goCrossing_130 : decode cX12_goCrossing 130 = .ok (.getfield 83, 3) := by decide +kernel
theorem dX12_goCrossing_133 : decode cX12_goCrossing 133 = .ok (.if_icmp .ge 18, 3) := by decide +kernel
theorem dX12_goCrossing_136 : decode cX12_goCrossing 136 = .ok (.aload_n 1, 1) := by decide +kernel
theorem dX12_goCrossing_137 : decode cX12_goCrossing 137 = .ok (.iload_n 3, 1) := by decide +kernel
theorem dX12_goCrossing_138 : decode cX12_goCrossing 138 = .ok (.aload_n 0, 1) := by decide +kernel
theorem dX12_goCrossing_139 : decode cX12_goCrossing 139 = .ok (.getfield 52, 3) := by decide +kernel
theorem dX12_goCrossing_142 : decode cX12_goCrossing 142 = .ok (.iload_n 3, 1) := by decide +kernel
theorem dX12_goCrossing_143 : decode cX12_goCrossing 143 = .ok (.iaload, 1) := by decide +kernel
theorem dX12_goCrossing_144 : decode cX12_goCrossing 144 = .ok (.iastore, 1) := by decide +kernel
theorem dX12_goCrossing_145 : decode cX12_goCrossing 145 = .ok (.iinc 3 1, 3) := by decide +kernel
theorem dX12_goCrossing_148 : decode cX12_goCrossing 148 = .ok (.goto (-20), 3) := by decide +kernel
theorem dX12_goCrossing_151 : decode cX12_goCrossing 151 = .ok (.aload_n 1, 1) := by decide +kernel
theorem dX12_goCrossing_152 : decode cX12_goCrossing 152 = .ok (.bipush 34, 2) := by decide +kernel
theorem dX12_goCrossing_154 : decode cX12_goCrossing 154 = .ok (.iconst 0, 1) := by decide +kernel
theorem dX12_goCrossing_155 : decode cX12_goCrossing 155 = .ok (.iastore, 1) := by decide +kernel
theorem dX12_goCrossing_156 : decode cX12_goCrossing 156 = .ok (.aload_n 1, 1) := by decide +kernel
theorem dX12_goCrossing_157 : decode cX12_goCrossing 157 = .ok (.bipush 35, 2) := by decide +kernel
theorem dX12_goCrossing_159 : decode cX12_goCrossing 159 = .ok (.dup2, 1) := by decide +kernel
theorem dX12_goCrossing_160 : decode cX12_goCrossing 160 = .ok (.iaload, 1) := by decide +kernel
theorem dX12_goCrossing_161 : decode cX12_goCrossing 161 = .ok (.iconst 1, 1) := by decide +kernel
theorem dX12_goCrossing_162 : decode cX12_goCrossing 162 = .ok (.iadd, 1) := by decide +kernel
theorem dX12_goCrossing_163 : decode cX12_goCrossing 163 = .ok (.iastore, 1) := by decide +kernel
theorem dX12_goCrossing_164 : decode cX12_goCrossing 164 = .ok (.iload_n 2, 1) := by decide +kernel
theorem dX12_goCrossing_165 : decode cX12_goCrossing 165 = .ok (.aload_n 0, 1) := by decide +kernel
theorem dX12_goCrossing_166 : decode cX12_goCrossing 166 = .ok (.aload_n 1, 1) := by decide +kernel
theorem dX12_goCrossing_167 : decode cX12_goCrossing 167 = .ok (.invokevirtual 214, 3) := by decide +kernel
theorem dX12_goCrossing_170 : decode cX12_goCrossing 170 = .ok (.ixor, 1) := by decide +kernel
theorem dX12_goCrossing_171 : decode cX12_goCrossing 171 = .ok (.invokestatic 206, 3) := by decide +kernel
theorem dX12_goCrossing_174 : decode cX12_goCrossing 174 = .ok (.ireturn, 1) := by decide +kernel
def b_X12_goCrossing_128 (a1 : Nat) (J151_9 : uS → Option (Int32 × uS)) (rec128_17 : uS → Int32 → Option (Int32 × uS)) (s15 : uS) (x16 : Int32) : Option (Int32 × uS) :=
  if (s15.1 0 2) ≤ x16 then (J151_9 s15) else ((u_rI ZM s15 0 13 x16).bind fun v18 =>
  (u_wI ZM s15 0 a1 x16 v18).bind fun s19 =>
  u_jn (x16 + 1 : Int32) fun x20 =>
  rec128_17 s19 x20)
def b_X12_goCrossing_100 (N : Nat) (a1 : Nat) (J126_7 : uS → Option (Int32 × uS)) (rec100_23 : uS → Int32 → Option (Int32 × uS)) (s21 : uS) (x22 : Int32) : Option (Int32 × uS) :=
  if (s21.1 0 2) ≤ x22 then (J126_7 s21) else ((f_X12_then0 N s21 a1 x22).bind fun v24 =>
  (u_wI ZM v24.2 0 13 x22 v24.1).bind fun s25 =>
  u_jn (x22 + 1 : Int32) fun x26 =>
  rec100_23 s25 x26)
def b_X12_goCrossing_32 (N : Nat) (a1 : Nat) (v1 : Int32) (J98_5 : uS → Option (Int32 × uS)) (rec32_29 : uS → Int32 → Option (Int32 × uS)) (s27 : uS) (x28 : Int32) : Option (Int32 × uS) :=
  if (s27.1 0 1) ≤ x28 then (J98_5 s27) else ((f_X12_isRope N s27 a1 x28).bind fun v30 =>
  u_jn (fun (s31 : uS) => (u_jn (x28 + 1 : Int32) fun x33 =>
  rec32_29 s31 x33 : Option (Int32 × uS))) fun J92_32 =>
  if v30 = 0 then ((u_rI ZM s27 0 a1 (16 + x28)).bind fun v36 =>
  (u_wI ZM s27 0 a1 (16 + x28) (if (v36 + 1) < 9 then (v36 + 1) else 9)).bind fun s37 =>
  J92_32 s37) else (if v1 = 0 then (J92_32 s27) else ((u_rI ZM s27 0 a1 (16 + x28)).bind fun v34 =>
  (u_wI ZM s27 0 a1 (16 + x28) (if 0 < (v34 - 1) then (v34 - 1) else 0)).bind fun s35 =>
  J92_32 s35)))
def f_X12_goCrossing (N : Nat) (σ : uS) (a1 : Nat) : Option (Int32 × uS) := (f_X12_inBits N σ a1).bind fun v1 =>
  u_jn (fun (s2 : uS) => (u_jn (fun (s4 : uS) => (u_jn (fun (s6 : uS) => (u_jn (fun (s8 : uS) => ((u_wI ZM s8 0 a1 34 0).bind fun s10 =>
  (u_rI ZM s10 0 a1 35).bind fun v11 =>
  (u_wI ZM s10 0 a1 35 (v11 + 1)).bind fun s12 =>
  (f_X12_inBits N s12 a1).bind fun v13 =>
  (f_J6_bitCount_0f7a4 N s12 (v1 ^^^ v13)).bind fun v14 =>
  some (v14, s12) : Option (Int32 × uS))) fun J151_9 =>
  u_lp2 (b_X12_goCrossing_128 a1 J151_9) N s6 0 : Option (Int32 × uS))) fun J126_7 =>
  u_lp2 (b_X12_goCrossing_100 N a1 J126_7) N s4 0 : Option (Int32 × uS))) fun J98_5 =>
  u_lp2 (b_X12_goCrossing_32 N a1 v1 J98_5) N s2 0 : Option (Int32 × uS))) fun J30_3 =>
  if v1 = 0 then (J30_3 σ) else ((u_rI ZM σ 0 a1 36).bind fun v38 =>
  (u_rI ZM σ 0 a1 32).bind fun v39 =>
  (u_rI ZM σ 0 a1 33).bind fun v40 =>
  (f_X12_corn N σ a1 v39 v40).bind fun v41 =>
  (u_wI ZM σ 0 a1 36 (v38 + v41)).bind fun s42 =>
  J30_3 s42)
set_option maxRecDepth 100000 in
set_option maxHeartbeats 4000000 in
theorem c_X12_goCrossing (l : Launch) (G : uG) (N : Nat) (σ : uS) (a1 : Nat) (z : (Int32 × uS)) (hz : f_X12_goCrossing N σ a1 = some z) : u_Mi l ZM G yX12_goCrossing cX12_goCrossing 4 .int 106 [.ref (G.2.2 0), .ref (G.2.2 a1)] σ z.1 z.2 := by
  refine u_Mi_of RX12 (by decide) rfl (Nat.le_of_ble_eq_true rfl) ?_
  intro p e s m args below meth c ls cx hw hl
  have hx := cx.1
  have hb := cx.2.1
  have hl : lv_has ls 4 [(0, .ref (G.2.2 0)), (1, .ref (G.2.2 a1))] := hl
  unfold f_X12_goCrossing at hz
  refine lv_aload_n hx hb dX12_goCrossing_0 rfl (lv_at hl 0 rfl) ?_
  refine lv_aload_n hx hb dX12_goCrossing_1 rfl (lv_at hl 1 rfl) ?_
  obtain ⟨v1, hv1, hz⟩ := u_bind hz
  refine u_callVi (As := [.ref (G.2.2 a1)]) (rest := []) cx hw LV_X12_214 (c_X12_inBits l G N σ a1 v1 hv1) o_X12 rfl (by decide) hl.1 rfl (Nat.le_of_ble_eq_true rfl) dX12_goCrossing_2 rfl (fun H locs hw => ?_)
  refine lv_istore_n (lv' := [(2, .int v1), (0, .ref (G.2.2 0)), (1, .ref (G.2.2 a1))]) hx hb dX12_goCrossing_5 rfl hl (by decide) rfl (fun ls hl => ?_)
  refine lv_iload_n hx hb dX12_goCrossing_6 rfl (lv_at hl 0 rfl) ?_
  obtain ⟨J30_3, eJ30_3, hz⟩ := u_let hz
  have WJ30_3 : ∀ (s2 : uS) (H : Heap) (locs : List Loc) (ls : Array Slot), J30_3 s2 = some z → u_W ZM G s2 s H locs → lv_has ls 4 [(0, .ref (G.2.2 0)), (1, .ref (G.2.2 a1)), (2, .int v1)] → W p l e (u_rm 106) s m args below meth c H locs 0 0 (u_Qi below ZM G s args z.1 z.2) (F0 m 30 ls []) := by
    intro s2 H locs ls hz hw hl
    rw [eJ30_3] at hz
    refine lv_iconst (v := 0) hx hb dX12_goCrossing_30 (by decide) ?_
    refine lv_istore_n (lv' := [(3, .int 0), (0, .ref (G.2.2 0)), (1, .ref (G.2.2 a1)), (2, .int v1)]) hx hb dX12_goCrossing_31 rfl hl (by decide) rfl (fun ls hl => ?_)
    obtain ⟨J98_5, eJ98_5, hz⟩ := u_let hz
    have WJ98_5 : ∀ (s4 : uS) (H : Heap) (locs : List Loc) (ls : Array Slot), J98_5 s4 = some z → u_W ZM G s4 s H locs → lv_has ls 4 [(0, .ref (G.2.2 0)), (1, .ref (G.2.2 a1)), (2, .int v1)] → W p l e (u_rm 106) s m args below meth c H locs 0 0 (u_Qi below ZM G s args z.1 z.2) (F0 m 98 ls []) := by
      intro s4 H locs ls hz hw hl
      rw [eJ98_5] at hz
      refine lv_iconst (v := 0) hx hb dX12_goCrossing_98 (by decide) ?_
      refine lv_istore_n (lv' := [(3, .int 0), (0, .ref (G.2.2 0)), (1, .ref (G.2.2 a1)), (2, .int v1)]) hx hb dX12_goCrossing_99 rfl hl (by decide) rfl (fun ls hl => ?_)
      obtain ⟨J126_7, eJ126_7, hz⟩ := u_let hz
      have WJ126_7 : ∀ (s6 : uS) (H : Heap) (locs : List Loc) (ls : Array Slot), J126_7 s6 = some z → u_W ZM G s6 s H locs → lv_has ls 4 [(0, .ref (G.2.2 0)), (1, .ref (G.2.2 a1)), (2, .int v1)] → W p l e (u_rm 106) s m args below meth c H locs 0 0 (u_Qi below ZM G s args z.1 z.2) (F0 m 126 ls []) := by
        intro s6 H locs ls hz hw hl
        rw [eJ126_7] at hz
        refine lv_iconst (v := 0) hx hb dX12_goCrossing_126 (by decide) ?_
        refine lv_istore_n (lv' := [(3, .int 0), (0, .ref (G.2.2 0)), (1, .ref (G.2.2 a1)), (2, .int v1)]) hx hb dX12_goCrossing_127 rfl hl (by decide) rfl (fun ls hl => ?_)
        obtain ⟨J151_9, eJ151_9, hz⟩ := u_let hz
        have WJ151_9 : ∀ (s8 : uS) (H : Heap) (locs : List Loc) (ls : Array Slot), J151_9 s8 = some z → u_W ZM G s8 s H locs → lv_has ls 4 [(0, .ref (G.2.2 0)), (1, .ref (G.2.2 a1)), (2, .int v1)] → W p l e (u_rm 106) s m args below meth c H locs 0 0 (u_Qi below ZM G s args z.1 z.2) (F0 m 151 ls []) := by
          intro s8 H locs ls hz hw hl
          rw [eJ151_9] at hz
          refine lv_aload_n hx hb dX12_goCrossing_151 rfl (lv_at hl 1 rfl) ?_
          refine lv_bipush (v := 34) hx hb dX12_goCrossing_152 (by decide) ?_
          refine lv_iconst (v := 0) hx hb dX12_goCrossing_154 (by decide) ?_
          obtain ⟨s10, hs10, hz⟩ := u_bind hz
          refine u_iast cx hw hs10 dX12_goCrossing_155 (fun H locs hw => ?_)
          refine lv_aload_n hx hb dX12_goCrossing_156 rfl (lv_at hl 1 rfl) ?_
          refine lv_bipush (v := 35) hx hb dX12_goCrossing_157 (by decide) ?_
          refine lv_dup2_11 hx hb dX12_goCrossing_159 rfl rfl ?_
          obtain ⟨v11, hv11, hz⟩ := u_bind hz
          refine u_iald cx hw hv11 dX12_goCrossing_160 ?_
          refine lv_iconst (v := 1) hx hb dX12_goCrossing_161 (by decide) ?_
          refine lv_iadd hx hb dX12_goCrossing_162 ?_
          obtain ⟨s12, hs12, hz⟩ := u_bind hz
          refine u_iast cx hw hs12 dX12_goCrossing_163 (fun H locs hw => ?_)
          refine lv_iload_n hx hb dX12_goCrossing_164 rfl (lv_at hl 2 rfl) ?_
          refine lv_aload_n hx hb dX12_goCrossing_165 rfl (lv_at hl 0 rfl) ?_
          refine lv_aload_n hx hb dX12_goCrossing_166 rfl (lv_at hl 1 rfl) ?_
          obtain ⟨v13, hv13, hz⟩ := u_bind hz
          refine u_callVi (As := [.ref (G.2.2 a1)]) (rest := [.int v1]) cx hw LV_X12_214 (c_X12_inBits l G N s12 a1 v13 hv13) o_X12 rfl (by decide) hl.1 rfl (Nat.le_of_ble_eq_true rfl) dX12_goCrossing_167 rfl (fun H locs hw => ?_)
          refine lv_ixor hx hb dX12_goCrossing_170 ?_
          obtain ⟨v14, hv14, hz⟩ := u_bind hz
          refine u_callSi (As := [.int (v1 ^^^ v13)]) (rest := []) cx hw LS_X12_206 (c_J6_bitCount_0f7a4 l G ZM N s12 (v1 ^^^ v13) v14 hv14) (by decide) hl.1 rfl (Nat.le_of_ble_eq_true rfl) dX12_goCrossing_171 rfl (fun H locs hw => ?_)
          exact u_iret cx hw (u_pair hz) dX12_goCrossing_174
        have WL128_20 : ∀ (k : Nat) (s15 : uS) (x16 : Int32) (H : Heap) (locs : List Loc) (ls : Array Slot), u_lp2 (b_X12_goCrossing_128 a1 J151_9) k s15 x16 = some z → u_W ZM G s15 s H locs → lv_has ls 4 [(0, .ref (G.2.2 0)), (1, .ref (G.2.2 a1)), (2, .int v1), (3, .int x16)] → W p l e (u_rm 106) s m args below meth c H locs 0 0 (u_Qi below ZM G s args z.1 z.2) (F0 m 128 ls []) := by
          intro k
          induction k with
          | zero =>
            intro s15 x16 H locs ls hz
            exact absurd hz (by intro h9; cases h9)
          | succ k ih128_17 =>
            intro s15 x16 H locs ls hz hw hl
            have hz : (b_X12_goCrossing_128 a1 J151_9) (u_lp2 (b_X12_goCrossing_128 a1 J151_9) k) s15 x16 = some z := hz
            unfold b_X12_goCrossing_128 at hz
            refine lv_iload_n hx hb dX12_goCrossing_128 rfl (lv_at hl 3 rfl) ?_
            refine lv_aload_n hx hb dX12_goCrossing_129 rfl (lv_at hl 0 rfl) ?_
            refine u_geti cx hw F_X12_83 o_X12 rfl dX12_goCrossing_130 ?_
            refine lv_icmp_ge (tgt := 151) hx hb dX12_goCrossing_133 (by decide) (fun hc => ?_) (fun hc => ?_)
            · replace hz := u_ift hz hc
              exact WJ151_9 s15 _ _ _ hz hw (lv_sub hl [0, 1, 2] rfl)
            · replace hz := u_iff hz hc
              refine lv_aload_n hx hb dX12_goCrossing_136 rfl (lv_at hl 1 rfl) ?_
              refine lv_iload_n hx hb dX12_goCrossing_137 rfl (lv_at hl 3 rfl) ?_
              refine lv_aload_n hx hb dX12_goCrossing_138 rfl (lv_at hl 0 rfl) ?_
              refine u_getp cx hw F_X12_52 o_X12 rfl dX12_goCrossing_139 ?_
              refine lv_iload_n hx hb dX12_goCrossing_142 rfl (lv_at hl 3 rfl) ?_
              obtain ⟨v18, hv18, hz⟩ := u_bind hz
              refine u_iald cx hw hv18 dX12_goCrossing_143 ?_
              obtain ⟨s19, hs19, hz⟩ := u_bind hz
              refine u_iast cx hw hs19 dX12_goCrossing_144 (fun H locs hw => ?_)
              obtain ⟨x20, ex20, hz⟩ := u_let hz
              refine lv_iinc (v := x20) (lv' := [(3, .int x20), (0, .ref (G.2.2 0)), (1, .ref (G.2.2 a1)), (2, .int v1)]) hx hb dX12_goCrossing_145 hl (k := 3) rfl (by rw [ex20]; rfl) (by decide) rfl (fun ls hl => ?_)
              refine lv_goto (tgt := 128) hx hb dX12_goCrossing_148 (by decide) ?_
              exact ih128_17 s19 x20 _ _ _ hz hw (lv_sub hl [1, 2, 3, 0] rfl)
        exact WL128_20 N s6 0 _ _ _ hz hw (lv_sub hl [1, 2, 3, 0] rfl)
      have WL100_26 : ∀ (k : Nat) (s21 : uS) (x22 : Int32) (H : Heap) (locs : List Loc) (ls : Array Slot), u_lp2 (b_X12_goCrossing_100 N a1 J126_7) k s21 x22 = some z → u_W ZM G s21 s H locs → lv_has ls 4 [(0, .ref (G.2.2 0)), (1, .ref (G.2.2 a1)), (2, .int v1), (3, .int x22)] → W p l e (u_rm 106) s m args below meth c H locs 0 0 (u_Qi below ZM G s args z.1 z.2) (F0 m 100 ls []) := by
        intro k
        induction k with
        | zero =>
          intro s21 x22 H locs ls hz
          exact absurd hz (by intro h9; cases h9)
        | succ k ih100_23 =>
          intro s21 x22 H locs ls hz hw hl
          have hz : (b_X12_goCrossing_100 N a1 J126_7) (u_lp2 (b_X12_goCrossing_100 N a1 J126_7) k) s21 x22 = some z := hz
          unfold b_X12_goCrossing_100 at hz
          refine lv_iload_n hx hb dX12_goCrossing_100 rfl (lv_at hl 3 rfl) ?_
          refine lv_aload_n hx hb dX12_goCrossing_101 rfl (lv_at hl 0 rfl) ?_
          refine u_geti cx hw F_X12_83 o_X12 rfl dX12_goCrossing_102 ?_
          refine lv_icmp_ge (tgt := 126) hx hb dX12_goCrossing_105 (by decide) (fun hc => ?_) (fun hc => ?_)
          · replace hz := u_ift hz hc
            exact WJ126_7 s21 _ _ _ hz hw (lv_sub hl [0, 1, 2] rfl)
          · replace hz := u_iff hz hc
            refine lv_aload_n hx hb dX12_goCrossing_108 rfl (lv_at hl 0 rfl) ?_
            refine u_getp cx hw F_X12_52 o_X12 rfl dX12_goCrossing_109 ?_
            refine lv_iload_n hx hb dX12_goCrossing_112 rfl (lv_at hl 3 rfl) ?_
            refine lv_aload_n hx hb dX12_goCrossing_113 rfl (lv_at hl 0 rfl) ?_
            refine lv_aload_n hx hb dX12_goCrossing_114 rfl (lv_at hl 1 rfl) ?_
            refine lv_iload_n hx hb dX12_goCrossing_115 rfl (lv_at hl 3 rfl) ?_
            obtain ⟨v24, hv24, hz⟩ := u_bind hz
            refine u_callVi (As := [.ref (G.2.2 a1), .int x22]) (rest := [.int x22, .ref (G.2.2 13)]) cx hw LV_X12_236 (c_X12_then0 l G N s21 a1 x22 v24 hv24) o_X12 rfl (by decide) hl.1 rfl (Nat.le_of_ble_eq_true rfl) dX12_goCrossing_116 rfl (fun H locs hw => ?_)
            obtain ⟨s25, hs25, hz⟩ := u_bind hz
            refine u_iast cx hw hs25 dX12_goCrossing_119 (fun H locs hw => ?_)
            obtain ⟨x26, ex26, hz⟩ := u_let hz
            refine lv_iinc (v := x26) (lv' := [(3, .int x26), (0, .ref (G.2.2 0)), (1, .ref (G.2.2 a1)), (2, .int v1)]) hx hb dX12_goCrossing_120 hl (k := 3) rfl (by rw [ex26]; rfl) (by decide) rfl (fun ls hl => ?_)
            refine lv_goto (tgt := 100) hx hb dX12_goCrossing_123 (by decide) ?_
            exact ih100_23 s25 x26 _ _ _ hz hw (lv_sub hl [1, 2, 3, 0] rfl)
      exact WL100_26 N s4 0 _ _ _ hz hw (lv_sub hl [1, 2, 3, 0] rfl)
    have WL32_37 : ∀ (k : Nat) (s27 : uS) (x28 : Int32) (H : Heap) (locs : List Loc) (ls : Array Slot), u_lp2 (b_X12_goCrossing_32 N a1 v1 J98_5) k s27 x28 = some z → u_W ZM G s27 s H locs → lv_has ls 4 [(0, .ref (G.2.2 0)), (1, .ref (G.2.2 a1)), (2, .int v1), (3, .int x28)] → W p l e (u_rm 106) s m args below meth c H locs 0 0 (u_Qi below ZM G s args z.1 z.2) (F0 m 32 ls []) := by
      intro k
      induction k with
      | zero =>
        intro s27 x28 H locs ls hz
        exact absurd hz (by intro h9; cases h9)
      | succ k ih32_29 =>
        intro s27 x28 H locs ls hz hw hl
        have hz : (b_X12_goCrossing_32 N a1 v1 J98_5) (u_lp2 (b_X12_goCrossing_32 N a1 v1 J98_5) k) s27 x28 = some z := hz
        unfold b_X12_goCrossing_32 at hz
        refine lv_iload_n hx hb dX12_goCrossing_32 rfl (lv_at hl 3 rfl) ?_
        refine lv_aload_n hx hb dX12_goCrossing_33 rfl (lv_at hl 0 rfl) ?_
        refine u_geti cx hw F_X12_13 o_X12 rfl dX12_goCrossing_34 ?_
        refine lv_icmp_ge (tgt := 98) hx hb dX12_goCrossing_37 (by decide) (fun hc => ?_) (fun hc => ?_)
        · replace hz := u_ift hz hc
          exact WJ98_5 s27 _ _ _ hz hw (lv_sub hl [0, 1, 2] rfl)
        · replace hz := u_iff hz hc
          refine lv_aload_n hx hb dX12_goCrossing_40 rfl (lv_at hl 1 rfl) ?_
          refine lv_iload_n hx hb dX12_goCrossing_41 rfl (lv_at hl 3 rfl) ?_
          obtain ⟨v30, hv30, hz⟩ := u_bind hz
          refine u_callSi (As := [.ref (G.2.2 a1), .int x28]) (rest := []) cx hw LS_X12_233 (c_X12_isRope l G N s27 a1 x28 v30 hv30) (by decide) hl.1 rfl (Nat.le_of_ble_eq_true rfl) dX12_goCrossing_42 rfl (fun H locs hw => ?_)
          obtain ⟨J92_32, eJ92_32, hz⟩ := u_let hz
          have WJ92_32 : ∀ (s31 : uS) (H : Heap) (locs : List Loc) (ls : Array Slot), J92_32 s31 = some z → u_W ZM G s31 s H locs → lv_has ls 4 [(0, .ref (G.2.2 0)), (1, .ref (G.2.2 a1)), (2, .int v1), (3, .int x28)] → W p l e (u_rm 106) s m args below meth c H locs 0 0 (u_Qi below ZM G s args z.1 z.2) (F0 m 92 ls []) := by
            intro s31 H locs ls hz hw hl
            rw [eJ92_32] at hz
            obtain ⟨x33, ex33, hz⟩ := u_let hz
            refine lv_iinc (v := x33) (lv' := [(3, .int x33), (0, .ref (G.2.2 0)), (1, .ref (G.2.2 a1)), (2, .int v1)]) hx hb dX12_goCrossing_92 hl (k := 3) rfl (by rw [ex33]; rfl) (by decide) rfl (fun ls hl => ?_)
            refine lv_goto (tgt := 32) hx hb dX12_goCrossing_95 (by decide) ?_
            exact ih32_29 s31 x33 _ _ _ hz hw (lv_sub hl [1, 2, 3, 0] rfl)
          refine lv_if_ne (tgt := 70) hx hb dX12_goCrossing_45 (by decide) (fun hc => ?_) (fun hc => ?_)
          · replace hz := u_iff hz hc
            refine lv_iload_n hx hb dX12_goCrossing_70 rfl (lv_at hl 2 rfl) ?_
            refine lv_if_eq (tgt := 92) hx hb dX12_goCrossing_71 (by decide) (fun hc => ?_) (fun hc => ?_)
            · replace hz := u_ift hz hc
              exact WJ92_32 s27 _ _ _ hz hw (lv_sub hl [0, 1, 2, 3] rfl)
            · replace hz := u_iff hz hc
              refine lv_aload_n hx hb dX12_goCrossing_74 rfl (lv_at hl 1 rfl) ?_
              refine lv_bipush (v := 16) hx hb dX12_goCrossing_75 (by decide) ?_
              refine lv_iload_n hx hb dX12_goCrossing_77 rfl (lv_at hl 3 rfl) ?_
              refine lv_iadd hx hb dX12_goCrossing_78 ?_
              refine lv_iconst (v := 0) hx hb dX12_goCrossing_79 (by decide) ?_
              refine lv_aload_n hx hb dX12_goCrossing_80 rfl (lv_at hl 1 rfl) ?_
              refine lv_bipush (v := 16) hx hb dX12_goCrossing_81 (by decide) ?_
              refine lv_iload_n hx hb dX12_goCrossing_83 rfl (lv_at hl 3 rfl) ?_
              refine lv_iadd hx hb dX12_goCrossing_84 ?_
              obtain ⟨v34, hv34, hz⟩ := u_bind hz
              refine u_iald cx hw hv34 dX12_goCrossing_85 ?_
              refine lv_iconst (v := 1) hx hb dX12_goCrossing_86 (by decide) ?_
              refine lv_isub hx hb dX12_goCrossing_87 ?_
              refine u_mmax cx LM_X12_224 (by decide) hl.1 (Nat.le_of_ble_eq_true rfl) dX12_goCrossing_88 ?_
              obtain ⟨s35, hs35, hz⟩ := u_bind hz
              refine u_iast cx hw hs35 dX12_goCrossing_91 (fun H locs hw => ?_)
              exact WJ92_32 s35 _ _ _ hz hw (lv_sub hl [0, 1, 2, 3] rfl)
          · replace hz := u_ift hz hc
            refine lv_aload_n hx hb dX12_goCrossing_48 rfl (lv_at hl 1 rfl) ?_
            refine lv_bipush (v := 16) hx hb dX12_goCrossing_49 (by decide) ?_
            refine lv_iload_n hx hb dX12_goCrossing_51 rfl (lv_at hl 3 rfl) ?_
            refine lv_iadd hx hb dX12_goCrossing_52 ?_
            refine lv_bipush (v := 9) hx hb dX12_goCrossing_53 (by decide) ?_
            refine lv_aload_n hx hb dX12_goCrossing_55 rfl (lv_at hl 1 rfl) ?_
            refine lv_bipush (v := 16) hx hb dX12_goCrossing_56 (by decide) ?_
            refine lv_iload_n hx hb dX12_goCrossing_58 rfl (lv_at hl 3 rfl) ?_
            refine lv_iadd hx hb dX12_goCrossing_59 ?_
            obtain ⟨v36, hv36, hz⟩ := u_bind hz
            refine u_iald cx hw hv36 dX12_goCrossing_60 ?_
            refine lv_iconst (v := 1) hx hb dX12_goCrossing_61 (by decide) ?_
            refine lv_iadd hx hb dX12_goCrossing_62 ?_
            refine u_mmin cx LM_X12_218 (by decide) hl.1 (Nat.le_of_ble_eq_true rfl) dX12_goCrossing_63 ?_
            obtain ⟨s37, hs37, hz⟩ := u_bind hz
            refine u_iast cx hw hs37 dX12_goCrossing_66 (fun H locs hw => ?_)
            refine lv_goto (tgt := 92) hx hb dX12_goCrossing_67 (by decide) ?_
            exact WJ92_32 s37 _ _ _ hz hw (lv_sub hl [0, 1, 2, 3] rfl)
    exact WL32_37 N s2 0 _ _ _ hz hw (lv_sub hl [1, 2, 3, 0] rfl)
  refine lv_if_eq (tgt := 30) hx hb dX12_goCrossing_7 (by decide) (fun hc => ?_) (fun hc => ?_)
  · replace hz := u_ift hz hc
    exact WJ30_3 σ _ _ _ hz hw (lv_sub hl [1, 2, 0] rfl)
  · replace hz := u_iff hz hc
    refine lv_aload_n hx hb dX12_goCrossing_10 rfl (lv_at hl 2 rfl) ?_
    refine lv_bipush (v := 36) hx hb dX12_goCrossing_11 (by decide) ?_
    refine lv_dup2_11 hx hb dX12_goCrossing_13 rfl rfl ?_
    obtain ⟨v38, hv38, hz⟩ := u_bind hz
    refine u_iald cx hw hv38 dX12_goCrossing_14 ?_
    refine lv_aload_n hx hb dX12_goCrossing_15 rfl (lv_at hl 1 rfl) ?_
    refine lv_aload_n hx hb dX12_goCrossing_16 rfl (lv_at hl 2 rfl) ?_
    refine lv_aload_n hx hb dX12_goCrossing_17 rfl (lv_at hl 2 rfl) ?_
    refine lv_bipush (v := 32) hx hb dX12_goCrossing_18 (by decide) ?_
    obtain ⟨v39, hv39, hz⟩ := u_bind hz
    refine u_iald cx hw hv39 dX12_goCrossing_20 ?_
    refine lv_aload_n hx hb dX12_goCrossing_21 rfl (lv_at hl 2 rfl) ?_
    refine lv_bipush (v := 33) hx hb dX12_goCrossing_22 (by decide) ?_
    obtain ⟨v40, hv40, hz⟩ := u_bind hz
    refine u_iald cx hw hv40 dX12_goCrossing_24 ?_
    obtain ⟨v41, hv41, hz⟩ := u_bind hz
    refine u_callVi (As := [.ref (G.2.2 a1), .int v39, .int v40]) (rest := [.int v38, .int 36, .ref (G.2.2 a1)]) cx hw LV_X12_246 (c_X12_corn l G N σ a1 v39 v40 v41 hv41) o_X12 rfl (by decide) hl.1 rfl (Nat.le_of_ble_eq_true rfl) dX12_goCrossing_25 rfl (fun H locs hw => ?_)
    refine lv_iadd hx hb dX12_goCrossing_28 ?_
    obtain ⟨s42, hs42, hz⟩ := u_bind hz
    refine u_iast cx hw hs42 dX12_goCrossing_29 (fun H locs hw => ?_)
    exact WJ30_3 s42 _ _ _ hz hw (lv_sub hl [1, 2, 0] rfl)
theorem dX12_goCrossings_0 : decode cX12_goCrossings 0 = .ok (.iconst 0, 1) := by decide +kernel
theorem dX12_goCrossings_1 : decode cX12_goCrossings 1 = .ok (.istore_n 3, 1) := by decide +kernel
theorem dX12_goCrossings_2 : decode cX12_goCrossings 2 = .ok (.iconst 0, 1) := by decide +kernel
theorem dX12_goCrossings_3 : decode cX12_goCrossings 3 = .ok (.istore 4, 2) := by decide +kernel
theorem dX12_goCrossings_5 : decode cX12_goCrossings 5 = .ok (.iload 4, 2) := by decide +kernel
theorem dX12_goCrossings_7 : decode cX12_goCrossings 7 = .ok (.iload_n 2, 1) := by decide +kernel
theorem dX12_goCrossings_8 : decode cX12_goCrossings 8 = .ok (.if_icmp .ge 17, 3) := by decide +kernel
theorem dX12_goCrossings_11 : decode cX12_goCrossings 11 = .ok (.iload_n 3, 1) := by decide +kernel
theorem dX12_goCrossings_12 : decode cX12_goCrossings 12 = .ok (.aload_n 0, 1) := by decide +kernel
theorem dX12_goCrossings_13 : decode cX12_goCrossings 13 = .ok (.aload_n 1, 1) := by decide +kernel
theorem dX12_goCrossings_14 : decode cX12_goCrossings 14 = .ok (.invokevirtual 250, 3) := by decide +kernel
theorem dX12_goCrossings_17 : decode cX12_goCrossings 17 = .ok (.iadd, 1) := by decide +kernel
theorem dX12_goCrossings_18 : decode cX12_goCrossings 18 = .ok (.istore_n 3, 1) := by decide +kernel
theorem dX12_goCrossings_19 : decode cX12_goCrossings 19 = .ok (.iinc 4 1, 3) := by decide +kernel
theorem dX12_goCrossings_22 : decode cX12_goCrossings 22 = .ok (.goto (-17), 3) := by decide +kernel
theorem dX12_goCrossings_25 : decode cX12_goCrossings 25 = .ok (.iload_n 3, 1) := by decide +kernel
theorem dX12_goCrossings_26 : decode cX12_goCrossings 26 = .ok (.ireturn, 1) := by decide +kernel
def b_X12_goCrossings_5 (N : Nat) (a1 : Nat) (p2 : Int32) (J25_3 : uS → Int32 → Option (Int32 × uS)) (rec5_7 : uS → Int32 → Int32 → Option (Int32 × uS)) (s4 : uS) (x5 : Int32) (x6 : Int32) : Option (Int32 × uS) :=
  if p2 ≤ x6 then (J25_3 s4 x5) else ((f_X12_goCrossing N s4 a1).bind fun v8 =>
  u_jn ((x5 + v8.1) : Int32) fun x9 =>
  u_jn (x6 + 1 : Int32) fun x10 =>
  rec5_7 v8.2 x9 x10)
def f_X12_goCrossings (N : Nat) (σ : uS) (a1 : Nat) (p2 : Int32) : Option (Int32 × uS) := u_jn (fun (s1 : uS) (x2 : Int32) => (some (x2, s1) : Option (Int32 × uS))) fun J25_3 =>
  u_lp3 (b_X12_goCrossings_5 N a1 p2 J25_3) N σ 0 0
set_option maxRecDepth 100000 in
set_option maxHeartbeats 4000000 in
theorem c_X12_goCrossings (l : Launch) (G : uG) (N : Nat) (σ : uS) (a1 : Nat) (p2 : Int32) (z : (Int32 × uS)) (hz : f_X12_goCrossings N σ a1 p2 = some z) : u_Mi l ZM G yX12_goCrossings cX12_goCrossings 5 .int 107 [.ref (G.2.2 0), .ref (G.2.2 a1), .int p2] σ z.1 z.2 := by
  refine u_Mi_of RX12 (by decide) rfl (Nat.le_of_ble_eq_true rfl) ?_
  intro p e s m args below meth c ls cx hw hl
  have hx := cx.1
  have hb := cx.2.1
  have hl : lv_has ls 5 [(0, .ref (G.2.2 0)), (1, .ref (G.2.2 a1)), (2, .int p2)] := hl
  unfold f_X12_goCrossings at hz
  refine lv_iconst (v := 0) hx hb dX12_goCrossings_0 (by decide) ?_
  refine lv_istore_n (lv' := [(3, .int 0), (0, .ref (G.2.2 0)), (1, .ref (G.2.2 a1)), (2, .int p2)]) hx hb dX12_goCrossings_1 rfl hl (by decide) rfl (fun ls hl => ?_)
  refine lv_iconst (v := 0) hx hb dX12_goCrossings_2 (by decide) ?_
  refine lv_istore (lv' := [(4, .int 0), (3, .int 0), (0, .ref (G.2.2 0)), (1, .ref (G.2.2 a1)), (2, .int p2)]) hx hb dX12_goCrossings_3 hl (by decide) rfl (fun ls hl => ?_)
  obtain ⟨J25_3, eJ25_3, hz⟩ := u_let hz
  have WJ25_3 : ∀ (s1 : uS) (x2 : Int32) (H : Heap) (locs : List Loc) (ls : Array Slot), J25_3 s1 x2 = some z → u_W ZM G s1 s H locs → lv_has ls 5 [(3, .int x2)] → W p l e (u_rm 107) s m args below meth c H locs 0 0 (u_Qi below ZM G s args z.1 z.2) (F0 m 25 ls []) := by
    intro s1 x2 H locs ls hz hw hl
    rw [eJ25_3] at hz
    refine lv_iload_n hx hb dX12_goCrossings_25 rfl (lv_at hl 0 rfl) ?_
    exact u_iret cx hw (u_pair hz) dX12_goCrossings_26
  have WL5_10 : ∀ (k : Nat) (s4 : uS) (x5 : Int32) (x6 : Int32) (H : Heap) (locs : List Loc) (ls : Array Slot), u_lp3 (b_X12_goCrossings_5 N a1 p2 J25_3) k s4 x5 x6 = some z → u_W ZM G s4 s H locs → lv_has ls 5 [(0, .ref (G.2.2 0)), (1, .ref (G.2.2 a1)), (2, .int p2), (3, .int x5), (4, .int x6)] → W p l e (u_rm 107) s m args below meth c H locs 0 0 (u_Qi below ZM G s args z.1 z.2) (F0 m 5 ls []) := by
    intro k
    induction k with
    | zero =>
      intro s4 x5 x6 H locs ls hz
      exact absurd hz (by intro h9; cases h9)
    | succ k ih5_7 =>
      intro s4 x5 x6 H locs ls hz hw hl
      have hz : (b_X12_goCrossings_5 N a1 p2 J25_3) (u_lp3 (b_X12_goCrossings_5 N a1 p2 J25_3) k) s4 x5 x6 = some z := hz
      unfold b_X12_goCrossings_5 at hz
      refine lv_iload hx hb dX12_goCrossings_5 (lv_at hl 4 rfl) ?_
      refine lv_iload_n hx hb dX12_goCrossings_7 rfl (lv_at hl 2 rfl) ?_
      refine lv_icmp_ge (tgt := 25) hx hb dX12_goCrossings_8 (by decide) (fun hc => ?_) (fun hc => ?_)
      · replace hz := u_ift hz hc
        exact WJ25_3 s4 x5 _ _ _ hz hw (lv_sub hl [3] rfl)
      · replace hz := u_iff hz hc
        refine lv_iload_n hx hb dX12_goCrossings_11 rfl (lv_at hl 3 rfl) ?_
        refine lv_aload_n hx hb dX12_goCrossings_12 rfl (lv_at hl 0 rfl) ?_
        refine lv_aload_n hx hb dX12_goCrossings_13 rfl (lv_at hl 1 rfl) ?_
        obtain ⟨v8, hv8, hz⟩ := u_bind hz
        refine u_callVi (As := [.ref (G.2.2 a1)]) (rest := [.int x5]) cx hw LV_X12_250 (c_X12_goCrossing l G N s4 a1 v8 hv8) o_X12 rfl (by decide) hl.1 rfl (Nat.le_of_ble_eq_true rfl) dX12_goCrossings_14 rfl (fun H locs hw => ?_)
        refine lv_iadd hx hb dX12_goCrossings_17 ?_
        obtain ⟨x9, ex9, hz⟩ := u_let hz
        refine u_topi ex9 ?_
        refine lv_istore_n (lv' := [(3, .int x9), (0, .ref (G.2.2 0)), (1, .ref (G.2.2 a1)), (2, .int p2), (4, .int x6)]) hx hb dX12_goCrossings_18 rfl hl (by decide) rfl (fun ls hl => ?_)
        obtain ⟨x10, ex10, hz⟩ := u_let hz
        refine lv_iinc (v := x10) (lv' := [(4, .int x10), (3, .int x9), (0, .ref (G.2.2 0)), (1, .ref (G.2.2 a1)), (2, .int p2)]) hx hb dX12_goCrossings_19 hl (k := 4) rfl (by rw [ex10]; rfl) (by decide) rfl (fun ls hl => ?_)
        refine lv_goto (tgt := 5) hx hb dX12_goCrossings_22 (by decide) ?_
        exact ih5_7 v8.2 x9 x10 _ _ _ hz hw (lv_sub hl [2, 3, 4, 1, 0] rfl)
  exact WL5_10 N σ 0 0 _ _ _ hz hw (lv_sub hl [2, 3, 4, 1, 0] rfl)
theorem dX12_crossing_0 : decode cX12_crossing 0 = .ok (.aload_n 0, 1) := by decide +kernel
theorem dX12_crossing_1 : decode cX12_crossing 1 = .ok (.iconst 0, 1) := by decide +kernel
theorem dX12_crossing_2 : decode cX12_crossing 2 = .ok (.putfield 77, 3) := by decide +kernel
theorem dX12_crossing_5 : decode cX12_crossing 5 = .ok (.iload_n 1, 1) := by decide +kernel
theorem dX12_crossing_6 : decode cX12_crossing 6 = .ok (.iconst 0, 1) := by decide +kernel
theorem dX12_crossing_7 : decode cX12_crossing 7 = .ok (.bipush 60, 2) := by decide +kernel
theorem dX12_crossing_9 : decode cX12_crossing 9 = .ok (.invokestatic 86, 3) := by decide +kernel
theorem dX12_crossing_12 : decode cX12_crossing 12 = .ok (.ifCond .ne 5, 3) := by decide +kernel
theorem dX12_crossing_15 : decode cX12_crossing 15 = .ok (.iconst (-1), 1) := by decide +kernel
theorem dX12_crossing_16 : decode cX12_crossing 16 = .ok (.ireturn, 1) := by decide +kernel
theorem dX12_crossing_17 : decode cX12_crossing 17 = .ok (.iload_n 1, 1) := by decide +kernel
theorem dX12_crossing_18 : decode cX12_crossing 18 = .ok (.ifCond .le 11, 3) := by decide +kernel
theorem dX12_crossing_21 : decode cX12_crossing 21 = .ok (.aload_n 0, 1) := by decide +kernel
theorem dX12_crossing_22 : decode cX12_crossing 22 = .ok (.aload_n 0, 1) := by decide +kernel
theorem dX12_crossing_23 : decode cX12_crossing 23 = .ok (.getfield 9, 3) := by decide +kernel
theorem dX12_crossing_26 : decode cX12_crossing 26 = .ok (.invokevirtual 253, 3) := by decide +kernel
theorem dX12_crossing_29 : decode cX12_crossing 29 = .ok (.aload_n 0, 1) := by decide +kernel
theorem dX12_crossing_30 : decode cX12_crossing 30 = .ok (.getfield 9, 3) := by decide +kernel
theorem dX12_crossing_33 : decode cX12_crossing 33 = .ok (.bipush 36, 2) := by decide +kernel
theorem dX12_crossing_35 : decode cX12_crossing 35 = .ok (.iaload, 1) := by decide +kernel
theorem dX12_crossing_36 : decode cX12_crossing 36 = .ok (.istore_n 2, 1) := by decide +kernel
theorem dX12_crossing_37 : decode cX12_crossing 37 = .ok (.aload_n 0, 1) := by decide +kernel
theorem dX12_crossing_38 : decode cX12_crossing 38 = .ok (.aload_n 0, 1) := by decide +kernel
theorem dX12_crossing_39 : decode cX12_crossing 39 = .ok (.getfield 9, 3) := by decide +kernel
theorem dX12_crossing_42 : decode cX12_crossing 42 = .ok (.iload_n 1, 1) := by decide +kernel
theorem dX12_crossing_43 : decode cX12_crossing 43 = .ok (.invokevirtual 257, 3) := by decide +kernel
theorem dX12_crossing_46 : decode cX12_crossing 46 = .ok (.istore_n 3, 1) := by decide +kernel
theorem dX12_crossing_47 : decode cX12_crossing 47 = .ok (.aload_n 0, 1) := by decide +kernel
theorem dX12_crossing_48 : decode cX12_crossing 48 = .ok (.iconst 0, 1) := by decide +kernel
theorem dX12_crossing_49 : decode cX12_crossing 49 = .ok (.putfield 80, 3) := by decide +kernel
theorem dX12_crossing_52 : decode cX12_crossing 52 = .ok (.aload_n 0, 1) := by decide +kernel
theorem dX12_crossing_53 : decode cX12_crossing 53 = .ok (.aload_n 0, 1) := by decide +kernel
theorem dX12_crossing_54 : decode cX12_crossing 54 = .ok (.getfield 9, 3) := by decide +kernel
theorem dX12_crossing_57 : decode cX12_crossing 57 = .ok (.bipush 36, 2) := by decide +kernel
theorem dX12_crossing_59 : decode cX12_crossing 59 = .ok (.iaload, 1) := by decide +kernel
theorem dX12_crossing_60 : decode cX12_crossing 60 = .ok (.iload_n 2, 1) := by decide +kernel
theorem dX12_crossing_61 : decode cX12_crossing 61 = .ok (.isub, 1) := by decide +kernel
theorem dX12_crossing_62 : decode cX12_crossing 62 = .ok (.i2l, 1) := by decide +kernel
theorem dX12_crossing_63 : decode cX12_crossing 63 = .ok (.invokevirtual 260, 3) := by decide +kernel
theorem dX12_crossing_66 : decode cX12_crossing 66 = .ok (.aload_n 0, 1) := by decide +kernel
theorem dX12_crossing_67 : decode cX12_crossing 67 = .ok (.iload_n 3, 1) := by decide +kernel
theorem dX12_crossing_68 : decode cX12_crossing 68 = .ok (.i2l, 1) := by decide +kernel
theorem dX12_crossing_69 : decode cX12_crossing 69 = .ok (.invokevirtual 260, 3) := by decide +kernel
theorem dX12_crossing_72 : decode cX12_crossing 72 = .ok (.aload_n 0, 1) := by decide +kernel
theorem dX12_crossing_73 : decode cX12_crossing 73 = .ok (.aload_n 0, 1) := by decide +kernel
theorem dX12_crossing_74 : decode cX12_crossing 74 = .ok (.getfield 9, 3) := by decide +kernel
theorem dX12_crossing_77 : decode cX12_crossing 77 = .ok (.invokevirtual 214, 3) := by decide +kernel
theorem dX12_crossing_80 : decode cX12_crossing 80 = .ok (.invokestatic 206, 3) := by decide +kernel
theorem dX12_crossing_83 : decode cX12_crossing 83 = .ok (.ireturn, 1) := by decide +kernel
def f_X12_crossing (N : Nat) (σ : uS) (p1 : Int32) : Option (Int32 × uS) := u_jn (u_pI σ 0 8 0) fun s1 =>
  (f_X12_in N s1 p1 0 60).bind fun v2 =>
  if v2 = 0 then (some ((-1), s1)) else (u_jn (fun (s3 : uS) => ((u_rI ZM s3 0 1 36).bind fun v5 =>
  (f_X12_goCrossings N s3 1 p1).bind fun v6 =>
  u_jn (u_pI v6.2 0 7 0) fun s7 =>
  (u_rI ZM s7 0 1 36).bind fun v8 =>
  (f_X12_tell N s7 (Int32.toInt64 (v8 - v5))).bind fun s9 =>
  (f_X12_tell N s9 (Int32.toInt64 v6.1)).bind fun s10 =>
  (f_X12_inBits N s10 1).bind fun v11 =>
  (f_J6_bitCount_0f7a4 N s10 v11).bind fun v12 =>
  some (v12, s10) : Option (Int32 × uS))) fun J29_4 =>
  if p1 ≤ 0 then (J29_4 s1) else ((f_X12_remember N s1 1).bind fun s13 =>
  J29_4 s13))
set_option maxRecDepth 100000 in
set_option maxHeartbeats 4000000 in
theorem c_X12_crossing (l : Launch) (G : uG) (N : Nat) (σ : uS) (p1 : Int32) (z : (Int32 × uS)) (hz : f_X12_crossing N σ p1 = some z) : u_Mi l ZM G yX12_crossing cX12_crossing 4 .int 108 [.ref (G.2.2 0), .int p1] σ z.1 z.2 := by
  refine u_Mi_of RX12 (by decide) rfl (Nat.le_of_ble_eq_true rfl) ?_
  intro p e s m args below meth c ls cx hw hl
  have hx := cx.1
  have hb := cx.2.1
  have hl : lv_has ls 4 [(0, .ref (G.2.2 0)), (1, .int p1)] := hl
  unfold f_X12_crossing at hz
  refine lv_aload_n hx hb dX12_crossing_0 rfl (lv_at hl 0 rfl) ?_
  refine lv_iconst (v := 0) hx hb dX12_crossing_1 (by decide) ?_
  obtain ⟨s1, es1, hz⟩ := u_let hz
  refine u_puti2 cx hw P_X12_77 o_X12 rfl es1 dX12_crossing_2 (fun H locs hw => ?_)
  refine lv_iload_n hx hb dX12_crossing_5 rfl (lv_at hl 1 rfl) ?_
  refine lv_iconst (v := 0) hx hb dX12_crossing_6 (by decide) ?_
  refine lv_bipush (v := 60) hx hb dX12_crossing_7 (by decide) ?_
  obtain ⟨v2, hv2, hz⟩ := u_bind hz
  refine u_callSi (As := [.int p1, .int 0, .int 60]) (rest := []) cx hw LS_X12_86 (c_X12_in l G N s1 p1 0 60 v2 hv2) (by decide) hl.1 rfl (Nat.le_of_ble_eq_true rfl) dX12_crossing_9 rfl (fun H locs hw => ?_)
  refine lv_if_ne (tgt := 17) hx hb dX12_crossing_12 (by decide) (fun hc => ?_) (fun hc => ?_)
  · replace hz := u_iff hz hc
    refine lv_iload_n hx hb dX12_crossing_17 rfl (lv_at hl 1 rfl) ?_
    obtain ⟨J29_4, eJ29_4, hz⟩ := u_let hz
    have WJ29_4 : ∀ (s3 : uS) (H : Heap) (locs : List Loc) (ls : Array Slot), J29_4 s3 = some z → u_W ZM G s3 s H locs → lv_has ls 4 [(0, .ref (G.2.2 0)), (1, .int p1)] → W p l e (u_rm 108) s m args below meth c H locs 0 0 (u_Qi below ZM G s args z.1 z.2) (F0 m 29 ls []) := by
      intro s3 H locs ls hz hw hl
      rw [eJ29_4] at hz
      refine lv_aload_n hx hb dX12_crossing_29 rfl (lv_at hl 0 rfl) ?_
      refine u_getp cx hw F_X12_9 o_X12 rfl dX12_crossing_30 ?_
      refine lv_bipush (v := 36) hx hb dX12_crossing_33 (by decide) ?_
      obtain ⟨v5, hv5, hz⟩ := u_bind hz
      refine u_iald cx hw hv5 dX12_crossing_35 ?_
      refine lv_istore_n (lv' := [(2, .int v5), (0, .ref (G.2.2 0)), (1, .int p1)]) hx hb dX12_crossing_36 rfl hl (by decide) rfl (fun ls hl => ?_)
      refine lv_aload_n hx hb dX12_crossing_37 rfl (lv_at hl 1 rfl) ?_
      refine lv_aload_n hx hb dX12_crossing_38 rfl (lv_at hl 1 rfl) ?_
      refine u_getp cx hw F_X12_9 o_X12 rfl dX12_crossing_39 ?_
      refine lv_iload_n hx hb dX12_crossing_42 rfl (lv_at hl 2 rfl) ?_
      obtain ⟨v6, hv6, hz⟩ := u_bind hz
      refine u_callVi (As := [.ref (G.2.2 1), .int p1]) (rest := []) cx hw LV_X12_257 (c_X12_goCrossings l G N s3 1 p1 v6 hv6) o_X12 rfl (by decide) hl.1 rfl (Nat.le_of_ble_eq_true rfl) dX12_crossing_43 rfl (fun H locs hw => ?_)
      refine lv_istore_n (lv' := [(3, .int v6.1), (2, .int v5), (0, .ref (G.2.2 0)), (1, .int p1)]) hx hb dX12_crossing_46 rfl hl (by decide) rfl (fun ls hl => ?_)
      refine lv_aload_n hx hb dX12_crossing_47 rfl (lv_at hl 2 rfl) ?_
      refine lv_iconst (v := 0) hx hb dX12_crossing_48 (by decide) ?_
      obtain ⟨s7, es7, hz⟩ := u_let hz
      refine u_puti2 cx hw P_X12_80 o_X12 rfl es7 dX12_crossing_49 (fun H locs hw => ?_)
      refine lv_aload_n hx hb dX12_crossing_52 rfl (lv_at hl 2 rfl) ?_
      refine lv_aload_n hx hb dX12_crossing_53 rfl (lv_at hl 2 rfl) ?_
      refine u_getp cx hw F_X12_9 o_X12 rfl dX12_crossing_54 ?_
      refine lv_bipush (v := 36) hx hb dX12_crossing_57 (by decide) ?_
      obtain ⟨v8, hv8, hz⟩ := u_bind hz
      refine u_iald cx hw hv8 dX12_crossing_59 ?_
      refine lv_iload_n hx hb dX12_crossing_60 rfl (lv_at hl 1 rfl) ?_
      refine lv_isub hx hb dX12_crossing_61 ?_
      refine lv_i2l (v := (Int32.toInt64 (v8 - v5))) hx hb dX12_crossing_62 rfl ?_
      obtain ⟨s9, hs9, hz⟩ := u_bind hz
      refine u_callVv (As := [.long (Int32.toInt64 (v8 - v5))]) (rest := []) cx hw LV_X12_260 (c_X12_tell l G N s7 (Int32.toInt64 (v8 - v5)) s9 hs9) o_X12 rfl (by decide) hl.1 rfl (Nat.le_of_ble_eq_true rfl) dX12_crossing_63 rfl (fun H locs hw => ?_)
      refine lv_aload_n hx hb dX12_crossing_66 rfl (lv_at hl 2 rfl) ?_
      refine lv_iload_n hx hb dX12_crossing_67 rfl (lv_at hl 0 rfl) ?_
      refine lv_i2l (v := (Int32.toInt64 v6.1)) hx hb dX12_crossing_68 rfl ?_
      obtain ⟨s10, hs10, hz⟩ := u_bind hz
      refine u_callVv (As := [.long (Int32.toInt64 v6.1)]) (rest := []) cx hw LV_X12_260 (c_X12_tell l G N s9 (Int32.toInt64 v6.1) s10 hs10) o_X12 rfl (by decide) hl.1 rfl (Nat.le_of_ble_eq_true rfl) dX12_crossing_69 rfl (fun H locs hw => ?_)
      refine lv_aload_n hx hb dX12_crossing_72 rfl (lv_at hl 2 rfl) ?_
      refine lv_aload_n hx hb dX12_crossing_73 rfl (lv_at hl 2 rfl) ?_
      refine u_getp cx hw F_X12_9 o_X12 rfl dX12_crossing_74 ?_
      obtain ⟨v11, hv11, hz⟩ := u_bind hz
      refine u_callVi (As := [.ref (G.2.2 1)]) (rest := []) cx hw LV_X12_214 (c_X12_inBits l G N s10 1 v11 hv11) o_X12 rfl (by decide) hl.1 rfl (Nat.le_of_ble_eq_true rfl) dX12_crossing_77 rfl (fun H locs hw => ?_)
      obtain ⟨v12, hv12, hz⟩ := u_bind hz
      refine u_callSi (As := [.int v11]) (rest := []) cx hw LS_X12_206 (c_J6_bitCount_0f7a4 l G ZM N s10 v11 v12 hv12) (by decide) hl.1 rfl (Nat.le_of_ble_eq_true rfl) dX12_crossing_80 rfl (fun H locs hw => ?_)
      exact u_iret cx hw (u_pair hz) dX12_crossing_83
    refine lv_if_le (tgt := 29) hx hb dX12_crossing_18 (by decide) (fun hc => ?_) (fun hc => ?_)
    · replace hz := u_ift hz hc
      exact WJ29_4 s1 _ _ _ hz hw (lv_sub hl [0, 1] rfl)
    · replace hz := u_iff hz hc
      refine lv_aload_n hx hb dX12_crossing_21 rfl (lv_at hl 0 rfl) ?_
      refine lv_aload_n hx hb dX12_crossing_22 rfl (lv_at hl 0 rfl) ?_
      refine u_getp cx hw F_X12_9 o_X12 rfl dX12_crossing_23 ?_
      obtain ⟨s13, hs13, hz⟩ := u_bind hz
      refine u_callVv (As := [.ref (G.2.2 1)]) (rest := []) cx hw LV_X12_253 (c_X12_remember l G N s1 1 s13 hs13) o_X12 rfl (by decide) hl.1 rfl (Nat.le_of_ble_eq_true rfl) dX12_crossing_26 rfl (fun H locs hw => ?_)
      exact WJ29_4 s13 _ _ _ hz hw (lv_sub hl [0, 1] rfl)
  · replace hz := u_ift hz hc
    refine lv_iconst (v := (-1)) hx hb dX12_crossing_15 (by decide) ?_
    exact u_iret cx hw (u_pair hz) dX12_crossing_16
