theorem dX12_harvest_0 : decode cX12_harvest 0 = .ok (.aload_n 0, 1) := by decide +kernel
theorem dX12_harvest_1 : decode cX12_harvest 1 = .ok (.iconst 0, 1) := by decide +kernel
theorem dX12_harvest_2 : decode cX12_harvest 2 = .ok (.putfield 77, 3) := by decide +kernel
theorem dX12_harvest_5 : decode cX12_harvest 5 = .ok (.iload_n 1, 1) := by decide +kernel
theorem dX12_harvest_6 : decode cX12_harvest 6 = .ok (.iconst 0, 1) := by decide +kernel
theorem dX12_harvest_7 : decode cX12_harvest 7 = .ok (.bipush 60, 2) := by decide +kernel
theorem dX12_harvest_9 : decode cX12_harvest 9 = .ok (.invokestatic 86, 3) := by decide +kernel
theorem dX12_harvest_12 : decode cX12_harvest 12 = .ok (.ifCond .ne 5, 3) := by decide +kernel
theorem dX12_harvest_15 : decode cX12_harvest 15 = .ok (.iconst (-1), 1) := by decide +kernel
theorem dX12_harvest_16 : decode cX12_harvest 16 = .ok (.ireturn, 1) := by decide +kernel
theorem dX12_harvest_17 : decode cX12_harvest 17 = .ok (.aload_n 0, 1) := by decide +kernel
theorem dX12_harvest_18 : decode cX12_harvest 18 = .ok (.getfield 9, 3) := by decide +kernel
theorem dX12_harvest_21 : decode cX12_harvest 21 = .ok (.aload_n 0, 1) := by decide +kernel
theorem dX12_harvest_22 : decode cX12_harvest 22 = .ok (.getfield 46, 3) := by decide +kernel
theorem dX12_harvest_25 : decode cX12_harvest 25 = .ok (.iconst 0, 1) := by decide +kernel
theorem dX12_harvest_26 : decode cX12_harvest 26 = .ok (.invokestatic 242, 3) := by decide +kernel
theorem dX12_harvest_29 : decode cX12_harvest 29 = .ok (.iconst 0, 1) := by decide +kernel
theorem dX12_harvest_30 : decode cX12_harvest 30 = .ok (.istore_n 2, 1) := by decide +kernel
theorem dX12_harvest_31 : decode cX12_harvest 31 = .ok (.aload_n 0, 1) := by decide +kernel
theorem dX12_harvest_32 : decode cX12_harvest 32 = .ok (.aload_n 0, 1) := by decide +kernel
theorem dX12_harvest_33 : decode cX12_harvest 33 = .ok (.getfield 46, 3) := by decide +kernel
theorem dX12_harvest_36 : decode cX12_harvest 36 = .ok (.iconst 0, 1) := by decide +kernel
theorem dX12_harvest_37 : decode cX12_harvest 37 = .ok (.aload_n 0, 1) := by decide +kernel
theorem dX12_harvest_38 : decode cX12_harvest 38 = .ok (.getfield 13, 3) := by decide +kernel
theorem dX12_harvest_41 : decode cX12_harvest 41 = .ok (.iconst 1, 1) := by decide +kernel
theorem dX12_harvest_42 : decode cX12_harvest 42 = .ok (.isub, 1) := by decide +kernel
theorem dX12_harvest_43 : decode cX12_harvest 43 = .ok (.invokevirtual 246, 3) := by decide +kernel
theorem dX12_harvest_46 : decode cX12_harvest 46 = .ok (.istore_n 3, 1) := by decide +kernel
theorem dX12_harvest_47 : decode cX12_harvest 47 = .ok (.iconst 1, 1) := by decide +kernel
theorem dX12_harvest_48 : decode cX12_harvest 48 = .ok (.istore 4, 2) := by decide +kernel
theorem dX12_harvest_50 : decode cX12_harvest 50 = .ok (.iload 4, 2) := by decide +kernel
theorem dX12_harvest_52 : decode cX12_harvest 52 = .ok (.iload_n 1, 1) := by decide +kernel
theorem dX12_harvest_53 : decode cX12_harvest 53 = .ok (.if_icmp .gt 59, 3) := by decide +kernel
theorem dX12_harvest_56 : decode cX12_harvest 56 = .ok (.aload_n 0, 1) := by decide +kernel
theorem dX12_harvest_57 : decode cX12_harvest 57 = .ok (.aload_n 0, 1) := by decide +kernel
theorem dX12_harvest_58 : decode cX12_harvest 58 = .ok (.getfield 46, 3) := by decide +kernel
theorem dX12_harvest_61 : decode cX12_harvest 61 = .ok (.invokevirtual 250, 3) := by decide +kernel
theorem dX12_harvest_64 : decode cX12_harvest 64 = .ok (.pop, 1) := by decide +kernel
theorem dX12_harvest_65 : decode cX12_harvest 65 = .ok (.aload_n 0, 1) := by decide +kernel
theorem dX12_harvest_66 : decode cX12_harvest 66 = .ok (.aload_n 0, 1) := by decide +kernel
theorem dX12_harvest_67 : decode cX12_harvest 67 = .ok (.getfield 46, 3) := by decide +kernel
theorem dX12_harvest_70 : decode cX12_harvest 70 = .ok (.iconst 0, 1) := by decide +kernel
theorem dX12_harvest_71 : decode cX12_harvest 71 = .ok (.aload_n 0, 1) := by decide +kernel
theorem dX12_harvest_72 : decode cX12_harvest 72 = .ok (.getfield 13, 3) := by decide +kernel
theorem dX12_harvest_75 : decode cX12_harvest 75 = .ok (.iconst 1, 1) := by decide +kernel
theorem dX12_harvest_76 : decode cX12_harvest 76 = .ok (.isub, 1) := by decide +kernel
theorem dX12_harvest_77 : decode cX12_harvest 77 = .ok (.invokevirtual 246, 3) := by decide +kernel
theorem dX12_harvest_80 : decode cX12_harvest 80 = .ok (.iload_n 3, 1) := by decide +kernel
theorem dX12_harvest_81 : decode cX12_harvest 81 = .ok (.if_icmp .gt 6, 3) := by decide +kernel
theorem dX12_harvest_84 : decode cX12_harvest 84 = .ok (.goto 22, 3) := by decide +kernel
theorem dX12_harvest_87 : decode cX12_harvest 87 = .ok (.iload 4, 2) := by decide +kernel
theorem dX12_harvest_89 : decode cX12_harvest 89 = .ok (.istore_n 2, 1) := by decide +kernel
theorem dX12_harvest_90 : decode cX12_harvest 90 = .ok (.aload_n 0, 1) := by decide +kernel
theorem dX12_harvest_91 : decode cX12_harvest 91 = .ok (.aload_n 0, 1) := by decide +kernel
theorem dX12_harvest_92 : decode cX12_harvest 92 = .ok (.getfield 46, 3) := by decide +kernel
theorem dX12_harvest_95 : decode cX12_harvest 95 = .ok (.iconst 0, 1) := by decide +kernel
theorem dX12_harvest_96 : decode cX12_harvest 96 = .ok (.aload_n 0, 1) := by decide +kernel
theorem dX12_harvest_97 : decode cX12_harvest 97 = .ok (.getfield 13, 3) := by decide +kernel
theorem dX12_harvest_100 : decode cX12_harvest 100 = .ok (.iconst 1, 1) := by decide +kernel
theorem dX12_harvest_101 : decode cX12_harvest 101 = .ok (.isub, 1) := by decide +kernel
theorem dX12_harvest_102 : decode cX12_harvest 102 = .ok (.invokevirtual 246, 3) := by decide +kernel
theorem dX12_harvest_105 : decode cX12_harvest 105 = .ok (.istore_n 3, 1) := by decide +kernel
theorem dX12_harvest_106 : decode cX12_harvest 106 = .ok (.iinc 4 1, 3) := by decide +kernel
theorem dX12_harvest_109 : decode cX12_harvest 109 = .ok (.goto (-59), 3) := by decide +kernel
theorem dX12_harvest_112 : decode cX12_harvest 112 = .ok (.aload_n 0, 1) := by decide +kernel
theorem dX12_harvest_113 : decode cX12_harvest 113 = .ok (.iconst 0, 1) := by decide +kernel
theorem dX12_harvest_114 : decode cX12_harvest 114 = .ok (.putfield 80, 3) := by decide +kernel
theorem dX12_harvest_117 : decode cX12_harvest 117 = .ok (.aload_n 0, 1) := by decide +kernel
theorem dX12_harvest_118 : decode cX12_harvest 118 = .ok (.iload_n 3, 1) := by decide +kernel
theorem dX12_harvest_119 : decode cX12_harvest 119 = .ok (.i2l, 1) := by decide +kernel
theorem dX12_harvest_120 : decode cX12_harvest 120 = .ok (.invokevirtual 260, 3) := by decide +kernel
theorem dX12_harvest_123 : decode cX12_harvest 123 = .ok (.iload_n 2, 1) := by decide +kernel
theorem dX12_harvest_124 : decode cX12_harvest 124 = .ok (.ireturn, 1) := by decide +kernel
def b_X12_harvest_50 (N : Nat) (p1 : Int32) (J112_8 : uS → Int32 → Int32 → Option (Int32 × uS)) (rec50_15 : uS → Int32 → Int32 → Int32 → Option (Int32 × uS)) (s11 : uS) (x12 : Int32) (x13 : Int32) (x14 : Int32) : Option (Int32 × uS) :=
  if p1 < x14 then (J112_8 s11 x12 x13) else ((f_X12_goCrossing N s11 11).bind fun v16 =>
  (f_X12_corn N v16.2 11 0 ((v16.2.1 0 1) - 1)).bind fun v17 =>
  u_jn (fun (x18 : Int32) (x19 : Int32) => (u_jn (x14 + 1 : Int32) fun x21 =>
  rec50_15 v16.2 x18 x19 x21 : Option (Int32 × uS))) fun J106_20 =>
  if x13 < v17 then ((f_X12_corn N v16.2 11 0 ((v16.2.1 0 1) - 1)).bind fun v22 =>
  J106_20 x14 v22) else (J106_20 x12 x13))
def f_X12_harvest (N : Nat) (σ : uS) (p1 : Int32) : Option (Int32 × uS) := u_jn (u_pI σ 0 8 0) fun s1 =>
  (f_X12_in N s1 p1 0 60).bind fun v2 =>
  if v2 = 0 then (some ((-1), s1)) else ((f_X12_lay N s1 1 11 0).bind fun s3 =>
  (f_X12_corn N s3 11 0 ((s3.1 0 1) - 1)).bind fun v4 =>
  u_jn (fun (s5 : uS) (x6 : Int32) (x7 : Int32) => (u_jn (u_pI s5 0 7 0) fun s9 =>
  (f_X12_tell N s9 (Int32.toInt64 x7)).bind fun s10 =>
  some (x6, s10) : Option (Int32 × uS))) fun J112_8 =>
  u_lp4 (b_X12_harvest_50 N p1 J112_8) N s3 0 v4 1)
set_option maxRecDepth 100000 in
set_option maxHeartbeats 4000000 in
theorem c_X12_harvest (l : Launch) (G : uG) (N : Nat) (σ : uS) (p1 : Int32) (z : (Int32 × uS)) (hz : f_X12_harvest N σ p1 = some z) : u_Mi l ZM G yX12_harvest cX12_harvest 5 .int 107 [.ref (G.2.2 0), .int p1] σ z.1 z.2 := by
  refine u_Mi_of RX12 (by decide) rfl (Nat.le_of_ble_eq_true rfl) ?_
  intro p e s m args below meth c ls cx hw hl
  have hx := cx.1
  have hb := cx.2.1
  have hl : lv_has ls 5 [(0, .ref (G.2.2 0)), (1, .int p1)] := hl
  unfold f_X12_harvest at hz
  refine lv_aload_n hx hb dX12_harvest_0 rfl (lv_at hl 0 rfl) ?_
  refine lv_iconst (v := 0) hx hb dX12_harvest_1 (by decide) ?_
  obtain ⟨s1, es1, hz⟩ := u_let hz
  refine u_puti2 cx hw P_X12_77 o_X12 rfl es1 dX12_harvest_2 (fun H locs hw => ?_)
  refine lv_iload_n hx hb dX12_harvest_5 rfl (lv_at hl 1 rfl) ?_
  refine lv_iconst (v := 0) hx hb dX12_harvest_6 (by decide) ?_
  refine lv_bipush (v := 60) hx hb dX12_harvest_7 (by decide) ?_
  obtain ⟨v2, hv2, hz⟩ := u_bind hz
  refine u_callSi (As := [.int p1, .int 0, .int 60]) (rest := []) cx hw LS_X12_86 (c_X12_in l G N s1 p1 0 60 v2 hv2) (by decide) hl.1 rfl (Nat.le_of_ble_eq_true rfl) dX12_harvest_9 rfl (fun H locs hw => ?_)
  refine lv_if_ne (tgt := 17) hx hb dX12_harvest_12 (by decide) (fun hc => ?_) (fun hc => ?_)
  · replace hz := u_iff hz hc
    refine lv_aload_n hx hb dX12_harvest_17 rfl (lv_at hl 0 rfl) ?_
    refine u_getp cx hw F_X12_9 o_X12 rfl dX12_harvest_18 ?_
    refine lv_aload_n hx hb dX12_harvest_21 rfl (lv_at hl 0 rfl) ?_
    refine u_getp cx hw F_X12_46 o_X12 rfl dX12_harvest_22 ?_
    refine lv_iconst (v := 0) hx hb dX12_harvest_25 (by decide) ?_
    obtain ⟨s3, hs3, hz⟩ := u_bind hz
    refine u_callSv (As := [.ref (G.2.2 1), .ref (G.2.2 11), .int 0]) (rest := []) cx hw LS_X12_242 (c_X12_lay l G N s1 1 11 0 s3 hs3) (by decide) hl.1 rfl (Nat.le_of_ble_eq_true rfl) dX12_harvest_26 rfl (fun H locs hw => ?_)
    refine lv_iconst (v := 0) hx hb dX12_harvest_29 (by decide) ?_
    refine lv_istore_n (lv' := [(2, .int 0), (0, .ref (G.2.2 0)), (1, .int p1)]) hx hb dX12_harvest_30 rfl hl (by decide) rfl (fun ls hl => ?_)
    refine lv_aload_n hx hb dX12_harvest_31 rfl (lv_at hl 1 rfl) ?_
    refine lv_aload_n hx hb dX12_harvest_32 rfl (lv_at hl 1 rfl) ?_
    refine u_getp cx hw F_X12_46 o_X12 rfl dX12_harvest_33 ?_
    refine lv_iconst (v := 0) hx hb dX12_harvest_36 (by decide) ?_
    refine lv_aload_n hx hb dX12_harvest_37 rfl (lv_at hl 1 rfl) ?_
    refine u_geti cx hw F_X12_13 o_X12 rfl dX12_harvest_38 ?_
    refine lv_iconst (v := 1) hx hb dX12_harvest_41 (by decide) ?_
    refine lv_isub hx hb dX12_harvest_42 ?_
    obtain ⟨v4, hv4, hz⟩ := u_bind hz
    refine u_callVi (As := [.ref (G.2.2 11), .int 0, .int ((s3.1 0 1) - 1)]) (rest := []) cx hw LV_X12_246 (c_X12_corn l G N s3 11 0 ((s3.1 0 1) - 1) v4 hv4) o_X12 rfl (by decide) hl.1 rfl (Nat.le_of_ble_eq_true rfl) dX12_harvest_43 rfl (fun H locs hw => ?_)
    refine lv_istore_n (lv' := [(3, .int v4), (2, .int 0), (0, .ref (G.2.2 0)), (1, .int p1)]) hx hb dX12_harvest_46 rfl hl (by decide) rfl (fun ls hl => ?_)
    refine lv_iconst (v := 1) hx hb dX12_harvest_47 (by decide) ?_
    refine lv_istore (lv' := [(4, .int 1), (3, .int v4), (2, .int 0), (0, .ref (G.2.2 0)), (1, .int p1)]) hx hb dX12_harvest_48 hl (by decide) rfl (fun ls hl => ?_)
    obtain ⟨J112_8, eJ112_8, hz⟩ := u_let hz
    have WJ112_8 : ∀ (s5 : uS) (x6 : Int32) (x7 : Int32) (H : Heap) (locs : List Loc) (ls : Array Slot), J112_8 s5 x6 x7 = some z → u_W ZM G s5 s H locs → lv_has ls 5 [(0, .ref (G.2.2 0)), (2, .int x6), (3, .int x7)] → W p l e (u_rm 107) s m args below meth c H locs 0 0 (u_Qi below ZM G s args z.1 z.2) (F0 m 112 ls []) := by
      intro s5 x6 x7 H locs ls hz hw hl
      rw [eJ112_8] at hz
      refine lv_aload_n hx hb dX12_harvest_112 rfl (lv_at hl 0 rfl) ?_
      refine lv_iconst (v := 0) hx hb dX12_harvest_113 (by decide) ?_
      obtain ⟨s9, es9, hz⟩ := u_let hz
      refine u_puti2 cx hw P_X12_80 o_X12 rfl es9 dX12_harvest_114 (fun H locs hw => ?_)
      refine lv_aload_n hx hb dX12_harvest_117 rfl (lv_at hl 0 rfl) ?_
      refine lv_iload_n hx hb dX12_harvest_118 rfl (lv_at hl 2 rfl) ?_
      refine lv_i2l (v := (Int32.toInt64 x7)) hx hb dX12_harvest_119 rfl ?_
      obtain ⟨s10, hs10, hz⟩ := u_bind hz
      refine u_callVv (As := [.long (Int32.toInt64 x7)]) (rest := []) cx hw LV_X12_260 (c_X12_tell l G N s9 (Int32.toInt64 x7) s10 hs10) o_X12 rfl (by decide) hl.1 rfl (Nat.le_of_ble_eq_true rfl) dX12_harvest_120 rfl (fun H locs hw => ?_)
      refine lv_iload_n hx hb dX12_harvest_123 rfl (lv_at hl 1 rfl) ?_
      exact u_iret cx hw (u_pair hz) dX12_harvest_124
    have WL50_22 : ∀ (k : Nat) (s11 : uS) (x12 : Int32) (x13 : Int32) (x14 : Int32) (H : Heap) (locs : List Loc) (ls : Array Slot), u_lp4 (b_X12_harvest_50 N p1 J112_8) k s11 x12 x13 x14 = some z → u_W ZM G s11 s H locs → lv_has ls 5 [(0, .ref (G.2.2 0)), (1, .int p1), (2, .int x12), (3, .int x13), (4, .int x14)] → W p l e (u_rm 107) s m args below meth c H locs 0 0 (u_Qi below ZM G s args z.1 z.2) (F0 m 50 ls []) := by
      intro k
      induction k with
      | zero =>
        intro s11 x12 x13 x14 H locs ls hz
        exact absurd hz (by intro h9; cases h9)
      | succ k ih50_15 =>
        intro s11 x12 x13 x14 H locs ls hz hw hl
        have hz : (b_X12_harvest_50 N p1 J112_8) (u_lp4 (b_X12_harvest_50 N p1 J112_8) k) s11 x12 x13 x14 = some z := hz
        unfold b_X12_harvest_50 at hz
        refine lv_iload hx hb dX12_harvest_50 (lv_at hl 4 rfl) ?_
        refine lv_iload_n hx hb dX12_harvest_52 rfl (lv_at hl 1 rfl) ?_
        refine lv_icmp_gt (tgt := 112) hx hb dX12_harvest_53 (by decide) (fun hc => ?_) (fun hc => ?_)
        · replace hz := u_ift hz hc
          exact WJ112_8 s11 x12 x13 _ _ _ hz hw (lv_sub hl [0, 2, 3] rfl)
        · replace hz := u_iff hz hc
          refine lv_aload_n hx hb dX12_harvest_56 rfl (lv_at hl 0 rfl) ?_
          refine lv_aload_n hx hb dX12_harvest_57 rfl (lv_at hl 0 rfl) ?_
          refine u_getp cx hw F_X12_46 o_X12 rfl dX12_harvest_58 ?_
          obtain ⟨v16, hv16, hz⟩ := u_bind hz
          refine u_callVi (As := [.ref (G.2.2 11)]) (rest := []) cx hw LV_X12_250 (c_X12_goCrossing l G N s11 11 v16 hv16) o_X12 rfl (by decide) hl.1 rfl (Nat.le_of_ble_eq_true rfl) dX12_harvest_61 rfl (fun H locs hw => ?_)
          refine lv_pop hx hb dX12_harvest_64 rfl ?_
          refine lv_aload_n hx hb dX12_harvest_65 rfl (lv_at hl 0 rfl) ?_
          refine lv_aload_n hx hb dX12_harvest_66 rfl (lv_at hl 0 rfl) ?_
          refine u_getp cx hw F_X12_46 o_X12 rfl dX12_harvest_67 ?_
          refine lv_iconst (v := 0) hx hb dX12_harvest_70 (by decide) ?_
          refine lv_aload_n hx hb dX12_harvest_71 rfl (lv_at hl 0 rfl) ?_
          refine u_geti cx hw F_X12_13 o_X12 rfl dX12_harvest_72 ?_
          refine lv_iconst (v := 1) hx hb dX12_harvest_75 (by decide) ?_
          refine lv_isub hx hb dX12_harvest_76 ?_
          obtain ⟨v17, hv17, hz⟩ := u_bind hz
          refine u_callVi (As := [.ref (G.2.2 11), .int 0, .int ((v16.2.1 0 1) - 1)]) (rest := []) cx hw LV_X12_246 (c_X12_corn l G N v16.2 11 0 ((v16.2.1 0 1) - 1) v17 hv17) o_X12 rfl (by decide) hl.1 rfl (Nat.le_of_ble_eq_true rfl) dX12_harvest_77 rfl (fun H locs hw => ?_)
          refine lv_iload_n hx hb dX12_harvest_80 rfl (lv_at hl 3 rfl) ?_
          obtain ⟨J106_20, eJ106_20, hz⟩ := u_let hz
          have WJ106_20 : ∀ (x18 : Int32) (x19 : Int32) (H : Heap) (locs : List Loc) (ls : Array Slot), J106_20 x18 x19 = some z → u_W ZM G v16.2 s H locs → lv_has ls 5 [(0, .ref (G.2.2 0)), (1, .int p1), (2, .int x18), (3, .int x19), (4, .int x14)] → W p l e (u_rm 107) s m args below meth c H locs 0 0 (u_Qi below ZM G s args z.1 z.2) (F0 m 106 ls []) := by
            intro x18 x19 H locs ls hz hw hl
            rw [eJ106_20] at hz
            obtain ⟨x21, ex21, hz⟩ := u_let hz
            refine lv_iinc (v := x21) (lv' := [(4, .int x21), (0, .ref (G.2.2 0)), (1, .int p1), (2, .int x18), (3, .int x19)]) hx hb dX12_harvest_106 hl (k := 4) rfl (by rw [ex21]; rfl) (by decide) rfl (fun ls hl => ?_)
            refine lv_goto (tgt := 50) hx hb dX12_harvest_109 (by decide) ?_
            exact ih50_15 v16.2 x18 x19 x21 _ _ _ hz hw (lv_sub hl [1, 2, 3, 4, 0] rfl)
          refine lv_icmp_gt (tgt := 87) hx hb dX12_harvest_81 (by decide) (fun hc => ?_) (fun hc => ?_)
          · replace hz := u_ift hz hc
            refine lv_iload hx hb dX12_harvest_87 (lv_at hl 4 rfl) ?_
            refine lv_istore_n (lv' := [(2, .int x14), (0, .ref (G.2.2 0)), (1, .int p1), (3, .int x13), (4, .int x14)]) hx hb dX12_harvest_89 rfl hl (by decide) rfl (fun ls hl => ?_)
            refine lv_aload_n hx hb dX12_harvest_90 rfl (lv_at hl 1 rfl) ?_
            refine lv_aload_n hx hb dX12_harvest_91 rfl (lv_at hl 1 rfl) ?_
            refine u_getp cx hw F_X12_46 o_X12 rfl dX12_harvest_92 ?_
            refine lv_iconst (v := 0) hx hb dX12_harvest_95 (by decide) ?_
            refine lv_aload_n hx hb dX12_harvest_96 rfl (lv_at hl 1 rfl) ?_
            refine u_geti cx hw F_X12_13 o_X12 rfl dX12_harvest_97 ?_
            refine lv_iconst (v := 1) hx hb dX12_harvest_100 (by decide) ?_
            refine lv_isub hx hb dX12_harvest_101 ?_
            obtain ⟨v22, hv22, hz⟩ := u_bind hz
            refine u_callVi (As := [.ref (G.2.2 11), .int 0, .int ((v16.2.1 0 1) - 1)]) (rest := []) cx hw LV_X12_246 (c_X12_corn l G N v16.2 11 0 ((v16.2.1 0 1) - 1) v22 hv22) o_X12 rfl (by decide) hl.1 rfl (Nat.le_of_ble_eq_true rfl) dX12_harvest_102 rfl (fun H locs hw => ?_)
            refine lv_istore_n (lv' := [(3, .int v22), (2, .int x14), (0, .ref (G.2.2 0)), (1, .int p1), (4, .int x14)]) hx hb dX12_harvest_105 rfl hl (by decide) rfl (fun ls hl => ?_)
            exact WJ106_20 x14 v22 _ _ _ hz hw (lv_sub hl [2, 3, 1, 0, 4] rfl)
          · replace hz := u_iff hz hc
            refine lv_goto (tgt := 106) hx hb dX12_harvest_84 (by decide) ?_
            exact WJ106_20 x12 x13 _ _ _ hz hw (lv_sub hl [0, 1, 2, 3, 4] rfl)
    exact WL50_22 N s3 0 v4 1 _ _ _ hz hw (lv_sub hl [3, 4, 2, 1, 0] rfl)
  · replace hz := u_ift hz hc
    refine lv_iconst (v := (-1)) hx hb dX12_harvest_15 (by decide) ?_
    exact u_iret cx hw (u_pair hz) dX12_harvest_16
theorem dX12_owed_0 : decode cX12_owed 0 = .ok (.aload_n 0, 1) := by decide +kernel
theorem dX12_owed_1 : decode cX12_owed 1 = .ok (.iconst 0, 1) := by decide +kernel
theorem dX12_owed_2 : decode cX12_owed 2 = .ok (.putfield 77, 3) := by decide +kernel
theorem dX12_owed_5 : decode cX12_owed 5 = .ok (.aload_n 0, 1) := by decide +kernel
theorem dX12_owed_6 : decode cX12_owed 6 = .ok (.iload_n 1, 1) := by decide +kernel
theorem dX12_owed_7 : decode cX12_owed 7 = .ok (.invokevirtual 227, 3) := by decide +kernel
theorem dX12_owed_10 : decode cX12_owed 10 = .ok (.ifCond .eq 13, 3) := by decide +kernel
theorem dX12_owed_13 : decode cX12_owed 13 = .ok (.iload_n 2, 1) := by decide +kernel
theorem dX12_owed_14 : decode cX12_owed 14 = .ok (.iconst 0, 1) := by decide +kernel
theorem dX12_owed_15 : decode cX12_owed 15 = .ok (.bipush 60, 2) := by decide +kernel
theorem dX12_owed_17 : decode cX12_owed 17 = .ok (.invokestatic 86, 3) := by decide +kernel
theorem dX12_owed_20 : decode cX12_owed 20 = .ok (.ifCond .ne 5, 3) := by decide +kernel
theorem dX12_owed_23 : decode cX12_owed 23 = .ok (.iconst (-1), 1) := by decide +kernel
theorem dX12_owed_24 : decode cX12_owed 24 = .ok (.ireturn, 1) := by decide +kernel
theorem dX12_owed_25 : decode cX12_owed 25 = .ok (.aload_n 0, 1) := by decide +kernel
theorem dX12_owed_26 : decode cX12_owed 26 = .ok (.getfield 9, 3) := by decide +kernel
theorem dX12_owed_29 : decode cX12_owed 29 = .ok (.aload_n 0, 1) := by decide +kernel
theorem dX12_owed_30 : decode cX12_owed 30 = .ok (.getfield 46, 3) := by decide +kernel
theorem dX12_owed_33 : decode cX12_owed 33 = .ok (.iconst 0, 1) := by decide +kernel
theorem dX12_owed_34 : decode cX12_owed 34 = .ok (.invokestatic 242, 3) := by decide +kernel
theorem dX12_owed_37 : decode cX12_owed 37 = .ok (.iconst 0, 1) := by decide +kernel
theorem dX12_owed_38 : decode cX12_owed 38 = .ok (.istore_n 3, 1) := by decide +kernel
theorem dX12_owed_39 : decode cX12_owed 39 = .ok (.iconst 0, 1) := by decide +kernel
theorem dX12_owed_40 : decode cX12_owed 40 = .ok (.istore 4, 2) := by decide +kernel
theorem dX12_owed_42 : decode cX12_owed 42 = .ok (.iconst 0, 1) := by decide +kernel
theorem dX12_owed_43 : decode cX12_owed 43 = .ok (.istore 5, 2) := by decide +kernel
theorem dX12_owed_45 : decode cX12_owed 45 = .ok (.iload 5, 2) := by decide +kernel
theorem dX12_owed_47 : decode cX12_owed 47 = .ok (.iload_n 2, 1) := by decide +kernel
theorem dX12_owed_48 : decode cX12_owed 48 = .ok (.if_icmp .ge 75, 3) := by decide +kernel
theorem dX12_owed_51 : decode cX12_owed 51 = .ok (.aload_n 0, 1) := by decide +kernel
theorem dX12_owed_52 : decode cX12_owed 52 = .ok (.getfield 46, 3) := by decide +kernel
theorem dX12_owed_55 : decode cX12_owed 55 = .ok (.iload_n 1, 1) := by decide +kernel
theorem dX12_owed_56 : decode cX12_owed 56 = .ok (.invokestatic 233, 3) := by decide +kernel
theorem dX12_owed_59 : decode cX12_owed 59 = .ok (.ifCond .eq 26, 3) := by decide +kernel
theorem dX12_owed_62 : decode cX12_owed 62 = .ok (.aload_n 0, 1) := by decide +kernel
theorem dX12_owed_63 : decode cX12_owed 63 = .ok (.aload_n 0, 1) := by decide +kernel
theorem dX12_owed_64 : decode cX12_owed 64 = .ok (.getfield 46, 3) := by decide +kernel
theorem dX12_owed_67 : decode cX12_owed 67 = .ok (.invokevirtual 214, 3) := by decide +kernel
theorem dX12_owed_70 : decode cX12_owed 70 = .ok (.ifCond .eq 15, 3) := by decide +kernel
theorem dX12_owed_73 : decode cX12_owed 73 = .ok (.aload_n 0, 1) := by decide +kernel
theorem dX12_owed_74 : decode cX12_owed 74 = .ok (.getfield 46, 3) := by decide +kernel
theorem dX12_owed_77 : decode cX12_owed 77 = .ok (.bipush 16, 2) := by decide +kernel
theorem dX12_owed_79 : decode cX12_owed 79 = .ok (.iload_n 1, 1) := by decide +kernel
theorem dX12_owed_80 : decode cX12_owed 80 = .ok (.iadd, 1) := by decide +kernel
theorem dX12_owed_81 : decode cX12_owed 81 = .ok (.iaload, 1) := by decide +kernel
theorem dX12_owed_82 : decode cX12_owed 82 = .ok (.goto 4, 3) := by decide +kernel
theorem dX12_owed_85 : decode cX12_owed 85 = .ok (.iconst 0, 1) := by decide +kernel
theorem dX12_owed_86 : decode cX12_owed 86 = .ok (.istore 6, 2) := by decide +kernel
theorem dX12_owed_88 : decode cX12_owed 88 = .ok (.iload_n 3, 1) := by decide +kernel
theorem dX12_owed_89 : decode cX12_owed 89 = .ok (.iload 6, 2) := by decide +kernel
theorem dX12_owed_91 : decode cX12_owed 91 = .ok (.iadd, 1) := by decide +kernel
theorem dX12_owed_92 : decode cX12_owed 92 = .ok (.istore_n 3, 1) := by decide +kernel
theorem dX12_owed_93 : decode cX12_owed 93 = .ok (.iload 4, 2) := by decide +kernel
theorem dX12_owed_95 : decode cX12_owed 95 = .ok (.iload 6, 2) := by decide +kernel
theorem dX12_owed_97 : decode cX12_owed 97 = .ok (.ifCond .le 7, 3) := by decide +kernel
theorem dX12_owed_100 : decode cX12_owed 100 = .ok (.iconst 1, 1) := by decide +kernel
theorem dX12_owed_101 : decode cX12_owed 101 = .ok (.goto 4, 3) := by decide +kernel
theorem dX12_owed_104 : decode cX12_owed 104 = .ok (.iconst 0, 1) := by decide +kernel
theorem dX12_owed_105 : decode cX12_owed 105 = .ok (.iadd, 1) := by decide +kernel
theorem dX12_owed_106 : decode cX12_owed 106 = .ok (.istore 4, 2) := by decide +kernel
theorem dX12_owed_108 : decode cX12_owed 108 = .ok (.aload_n 0, 1) := by decide +kernel
theorem dX12_owed_109 : decode cX12_owed 109 = .ok (.aload_n 0, 1) := by decide +kernel
theorem dX12_owed_110 : decode cX12_owed 110 = .ok (.getfield 46, 3) := by decide +kernel
theorem dX12_owed_113 : decode cX12_owed 113 = .ok (.invokevirtual 250, 3) := by decide +kernel
theorem dX12_owed_116 : decode cX12_owed 116 = .ok (.pop, 1) := by decide +kernel
theorem dX12_owed_117 : decode cX12_owed 117 = .ok (.iinc 5 1, 3) := by decide +kernel
theorem dX12_owed_120 : decode cX12_owed 120 = .ok (.goto (-75), 3) := by decide +kernel
theorem dX12_owed_123 : decode cX12_owed 123 = .ok (.aload_n 0, 1) := by decide +kernel
theorem dX12_owed_124 : decode cX12_owed 124 = .ok (.iconst 0, 1) := by decide +kernel
theorem dX12_owed_125 : decode cX12_owed 125 = .ok (.putfield 80, 3) := by decide +kernel
theorem dX12_owed_128 : decode cX12_owed 128 = .ok (.aload_n 0, 1) := by decide +kernel
theorem dX12_owed_129 : decode cX12_owed 129 = .ok (.iload 4, 2) := by decide +kernel
theorem dX12_owed_131 : decode cX12_owed 131 = .ok (.i2l, 1) := by decide +kernel
theorem dX12_owed_132 : decode cX12_owed 132 = .ok (.invokevirtual 260, 3) := by decide +kernel
theorem dX12_owed_135 : decode cX12_owed 135 = .ok (.aload_n 0, 1) := by decide +kernel
theorem dX12_owed_136 : decode cX12_owed 136 = .ok (.aload_n 0, 1) := by decide +kernel
theorem dX12_owed_137 : decode cX12_owed 137 = .ok (.getfield 46, 3) := by decide +kernel
theorem dX12_owed_140 : decode cX12_owed 140 = .ok (.bipush 16, 2) := by decide +kernel
theorem dX12_owed_142 : decode cX12_owed 142 = .ok (.iload_n 1, 1) := by decide +kernel
theorem dX12_owed_143 : decode cX12_owed 143 = .ok (.iadd, 1) := by decide +kernel
theorem dX12_owed_144 : decode cX12_owed 144 = .ok (.iaload, 1) := by decide +kernel
theorem dX12_owed_145 : decode cX12_owed 145 = .ok (.i2l, 1) := by decide +kernel
theorem dX12_owed_146 : decode cX12_owed 146 = .ok (.invokevirtual 260, 3) := by decide +kernel
theorem dX12_owed_149 : decode cX12_owed 149 = .ok (.iload_n 3, 1) := by decide +kernel
theorem dX12_owed_150 : decode cX12_owed 150 = .ok (.ireturn, 1) := by decide +kernel
def b_X12_owed_45 (N : Nat) (p1 : Int32) (p2 : Int32) (J123_8 : uS → Int32 → Int32 → Option (Int32 × uS)) (rec45_17 : uS → Int32 → Int32 → Int32 → Option (Int32 × uS)) (s13 : uS) (x14 : Int32) (x15 : Int32) (x16 : Int32) : Option (Int32 × uS) :=
  if p2 ≤ x16 then (J123_8 s13 x14 x15) else ((f_X12_isRope N s13 11 p1).bind fun v18 =>
  u_jn (fun (t19 : Int32) => (u_jn ((x14 + t19) : Int32) fun x21 =>
  u_jn (fun (t22 : Int32) => (u_jn ((x15 + t22) : Int32) fun x24 =>
  (f_X12_goCrossing N s13 11).bind fun v25 =>
  u_jn (x16 + 1 : Int32) fun x26 =>
  rec45_17 v25.2 x21 x24 x26 : Option (Int32 × uS))) fun J105_23 =>
  if t19 ≤ 0 then (J105_23 0) else (J105_23 1) : Option (Int32 × uS))) fun J86_20 =>
  u_jn ((J86_20 0 : Option (Int32 × uS))) fun J85_27 =>
  if v18 = 0 then (J85_27) else ((f_X12_inBits N s13 11).bind fun v28 =>
  if v28 = 0 then (J85_27) else ((u_rI ZM s13 0 11 (16 + p1)).bind fun v29 =>
  J86_20 v29)))
def f_X12_owed (N : Nat) (σ : uS) (p1 : Int32) (p2 : Int32) : Option (Int32 × uS) := u_jn (u_pI σ 0 8 0) fun s1 =>
  (f_X12_isFurrow N s1 p1).bind fun v2 =>
  if v2 = 0 then (some ((-1), s1)) else ((f_X12_in N s1 p2 0 60).bind fun v3 =>
  if v3 = 0 then (some ((-1), s1)) else ((f_X12_lay N s1 1 11 0).bind fun s4 =>
  u_jn (fun (s5 : uS) (x6 : Int32) (x7 : Int32) => (u_jn (u_pI s5 0 7 0) fun s9 =>
  (f_X12_tell N s9 (Int32.toInt64 x7)).bind fun s10 =>
  (u_rI ZM s10 0 11 (16 + p1)).bind fun v11 =>
  (f_X12_tell N s10 (Int32.toInt64 v11)).bind fun s12 =>
  some (x6, s12) : Option (Int32 × uS))) fun J123_8 =>
  u_lp4 (b_X12_owed_45 N p1 p2 J123_8) N s4 0 0 0))
set_option maxRecDepth 100000 in
set_option maxHeartbeats 4000000 in
theorem c_X12_owed (l : Launch) (G : uG) (N : Nat) (σ : uS) (p1 : Int32) (p2 : Int32) (z : (Int32 × uS)) (hz : f_X12_owed N σ p1 p2 = some z) : u_Mi l ZM G yX12_owed cX12_owed 7 .int 107 [.ref (G.2.2 0), .int p1, .int p2] σ z.1 z.2 := by
  refine u_Mi_of RX12 (by decide) rfl (Nat.le_of_ble_eq_true rfl) ?_
  intro p e s m args below meth c ls cx hw hl
  have hx := cx.1
  have hb := cx.2.1
  have hl : lv_has ls 7 [(0, .ref (G.2.2 0)), (1, .int p1), (2, .int p2)] := hl
  unfold f_X12_owed at hz
  refine lv_aload_n hx hb dX12_owed_0 rfl (lv_at hl 0 rfl) ?_
  refine lv_iconst (v := 0) hx hb dX12_owed_1 (by decide) ?_
  obtain ⟨s1, es1, hz⟩ := u_let hz
  refine u_puti2 cx hw P_X12_77 o_X12 rfl es1 dX12_owed_2 (fun H locs hw => ?_)
  refine lv_aload_n hx hb dX12_owed_5 rfl (lv_at hl 0 rfl) ?_
  refine lv_iload_n hx hb dX12_owed_6 rfl (lv_at hl 1 rfl) ?_
  obtain ⟨v2, hv2, hz⟩ := u_bind hz
  refine u_callVi (As := [.int p1]) (rest := []) cx hw LV_X12_227 (c_X12_isFurrow l G N s1 p1 v2 hv2) o_X12 rfl (by decide) hl.1 rfl (Nat.le_of_ble_eq_true rfl) dX12_owed_7 rfl (fun H locs hw => ?_)
  refine lv_if_eq (tgt := 23) hx hb dX12_owed_10 (by decide) (fun hc => ?_) (fun hc => ?_)
  · replace hz := u_ift hz hc
    refine lv_iconst (v := (-1)) hx hb dX12_owed_23 (by decide) ?_
    exact u_iret cx hw (u_pair hz) dX12_owed_24
  · replace hz := u_iff hz hc
    refine lv_iload_n hx hb dX12_owed_13 rfl (lv_at hl 2 rfl) ?_
    refine lv_iconst (v := 0) hx hb dX12_owed_14 (by decide) ?_
    refine lv_bipush (v := 60) hx hb dX12_owed_15 (by decide) ?_
    obtain ⟨v3, hv3, hz⟩ := u_bind hz
    refine u_callSi (As := [.int p2, .int 0, .int 60]) (rest := []) cx hw LS_X12_86 (c_X12_in l G N s1 p2 0 60 v3 hv3) (by decide) hl.1 rfl (Nat.le_of_ble_eq_true rfl) dX12_owed_17 rfl (fun H locs hw => ?_)
    refine lv_if_ne (tgt := 25) hx hb dX12_owed_20 (by decide) (fun hc => ?_) (fun hc => ?_)
    · replace hz := u_iff hz hc
      refine lv_aload_n hx hb dX12_owed_25 rfl (lv_at hl 0 rfl) ?_
      refine u_getp cx hw F_X12_9 o_X12 rfl dX12_owed_26 ?_
      refine lv_aload_n hx hb dX12_owed_29 rfl (lv_at hl 0 rfl) ?_
      refine u_getp cx hw F_X12_46 o_X12 rfl dX12_owed_30 ?_
      refine lv_iconst (v := 0) hx hb dX12_owed_33 (by decide) ?_
      obtain ⟨s4, hs4, hz⟩ := u_bind hz
      refine u_callSv (As := [.ref (G.2.2 1), .ref (G.2.2 11), .int 0]) (rest := []) cx hw LS_X12_242 (c_X12_lay l G N s1 1 11 0 s4 hs4) (by decide) hl.1 rfl (Nat.le_of_ble_eq_true rfl) dX12_owed_34 rfl (fun H locs hw => ?_)
      refine lv_iconst (v := 0) hx hb dX12_owed_37 (by decide) ?_
      refine lv_istore_n (lv' := [(3, .int 0), (0, .ref (G.2.2 0)), (1, .int p1), (2, .int p2)]) hx hb dX12_owed_38 rfl hl (by decide) rfl (fun ls hl => ?_)
      refine lv_iconst (v := 0) hx hb dX12_owed_39 (by decide) ?_
      refine lv_istore (lv' := [(4, .int 0), (3, .int 0), (0, .ref (G.2.2 0)), (1, .int p1), (2, .int p2)]) hx hb dX12_owed_40 hl (by decide) rfl (fun ls hl => ?_)
      refine lv_iconst (v := 0) hx hb dX12_owed_42 (by decide) ?_
      refine lv_istore (lv' := [(5, .int 0), (4, .int 0), (3, .int 0), (0, .ref (G.2.2 0)), (1, .int p1), (2, .int p2)]) hx hb dX12_owed_43 hl (by decide) rfl (fun ls hl => ?_)
      obtain ⟨J123_8, eJ123_8, hz⟩ := u_let hz
      have WJ123_8 : ∀ (s5 : uS) (x6 : Int32) (x7 : Int32) (H : Heap) (locs : List Loc) (ls : Array Slot), J123_8 s5 x6 x7 = some z → u_W ZM G s5 s H locs → lv_has ls 7 [(0, .ref (G.2.2 0)), (1, .int p1), (3, .int x6), (4, .int x7)] → W p l e (u_rm 107) s m args below meth c H locs 0 0 (u_Qi below ZM G s args z.1 z.2) (F0 m 123 ls []) := by
        intro s5 x6 x7 H locs ls hz hw hl
        rw [eJ123_8] at hz
        refine lv_aload_n hx hb dX12_owed_123 rfl (lv_at hl 0 rfl) ?_
        refine lv_iconst (v := 0) hx hb dX12_owed_124 (by decide) ?_
        obtain ⟨s9, es9, hz⟩ := u_let hz
        refine u_puti2 cx hw P_X12_80 o_X12 rfl es9 dX12_owed_125 (fun H locs hw => ?_)
        refine lv_aload_n hx hb dX12_owed_128 rfl (lv_at hl 0 rfl) ?_
        refine lv_iload hx hb dX12_owed_129 (lv_at hl 3 rfl) ?_
        refine lv_i2l (v := (Int32.toInt64 x7)) hx hb dX12_owed_131 rfl ?_
        obtain ⟨s10, hs10, hz⟩ := u_bind hz
        refine u_callVv (As := [.long (Int32.toInt64 x7)]) (rest := []) cx hw LV_X12_260 (c_X12_tell l G N s9 (Int32.toInt64 x7) s10 hs10) o_X12 rfl (by decide) hl.1 rfl (Nat.le_of_ble_eq_true rfl) dX12_owed_132 rfl (fun H locs hw => ?_)
        refine lv_aload_n hx hb dX12_owed_135 rfl (lv_at hl 0 rfl) ?_
        refine lv_aload_n hx hb dX12_owed_136 rfl (lv_at hl 0 rfl) ?_
        refine u_getp cx hw F_X12_46 o_X12 rfl dX12_owed_137 ?_
        refine lv_bipush (v := 16) hx hb dX12_owed_140 (by decide) ?_
        refine lv_iload_n hx hb dX12_owed_142 rfl (lv_at hl 1 rfl) ?_
        refine lv_iadd hx hb dX12_owed_143 ?_
        obtain ⟨v11, hv11, hz⟩ := u_bind hz
        refine u_iald cx hw hv11 dX12_owed_144 ?_
        refine lv_i2l (v := (Int32.toInt64 v11)) hx hb dX12_owed_145 rfl ?_
        obtain ⟨s12, hs12, hz⟩ := u_bind hz
        refine u_callVv (As := [.long (Int32.toInt64 v11)]) (rest := []) cx hw LV_X12_260 (c_X12_tell l G N s10 (Int32.toInt64 v11) s12 hs12) o_X12 rfl (by decide) hl.1 rfl (Nat.le_of_ble_eq_true rfl) dX12_owed_146 rfl (fun H locs hw => ?_)
        refine lv_iload_n hx hb dX12_owed_149 rfl (lv_at hl 2 rfl) ?_
        exact u_iret cx hw (u_pair hz) dX12_owed_150
      have WL45_29 : ∀ (k : Nat) (s13 : uS) (x14 : Int32) (x15 : Int32) (x16 : Int32) (H : Heap) (locs : List Loc) (ls : Array Slot), u_lp4 (b_X12_owed_45 N p1 p2 J123_8) k s13 x14 x15 x16 = some z → u_W ZM G s13 s H locs → lv_has ls 7 [(0, .ref (G.2.2 0)), (1, .int p1), (2, .int p2), (3, .int x14), (4, .int x15), (5, .int x16)] → W p l e (u_rm 107) s m args below meth c H locs 0 0 (u_Qi below ZM G s args z.1 z.2) (F0 m 45 ls []) := by
        intro k
        induction k with
        | zero =>
          intro s13 x14 x15 x16 H locs ls hz
          exact absurd hz (by intro h9; cases h9)
        | succ k ih45_17 =>
          intro s13 x14 x15 x16 H locs ls hz hw hl
          have hz : (b_X12_owed_45 N p1 p2 J123_8) (u_lp4 (b_X12_owed_45 N p1 p2 J123_8) k) s13 x14 x15 x16 = some z := hz
          unfold b_X12_owed_45 at hz
          refine lv_iload hx hb dX12_owed_45 (lv_at hl 5 rfl) ?_
          refine lv_iload_n hx hb dX12_owed_47 rfl (lv_at hl 2 rfl) ?_
          refine lv_icmp_ge (tgt := 123) hx hb dX12_owed_48 (by decide) (fun hc => ?_) (fun hc => ?_)
          · replace hz := u_ift hz hc
            exact WJ123_8 s13 x14 x15 _ _ _ hz hw (lv_sub hl [0, 1, 3, 4] rfl)
          · replace hz := u_iff hz hc
            refine lv_aload_n hx hb dX12_owed_51 rfl (lv_at hl 0 rfl) ?_
            refine u_getp cx hw F_X12_46 o_X12 rfl dX12_owed_52 ?_
            refine lv_iload_n hx hb dX12_owed_55 rfl (lv_at hl 1 rfl) ?_
            obtain ⟨v18, hv18, hz⟩ := u_bind hz
            refine u_callSi (As := [.ref (G.2.2 11), .int p1]) (rest := []) cx hw LS_X12_233 (c_X12_isRope l G N s13 11 p1 v18 hv18) (by decide) hl.1 rfl (Nat.le_of_ble_eq_true rfl) dX12_owed_56 rfl (fun H locs hw => ?_)
            obtain ⟨J86_20, eJ86_20, hz⟩ := u_let hz
            have WJ86_20 : ∀ (t19 : Int32) (H : Heap) (locs : List Loc) (ls : Array Slot), J86_20 t19 = some z → u_W ZM G s13 s H locs → lv_has ls 7 [(0, .ref (G.2.2 0)), (1, .int p1), (2, .int p2), (3, .int x14), (4, .int x15), (5, .int x16)] → W p l e (u_rm 107) s m args below meth c H locs 0 0 (u_Qi below ZM G s args z.1 z.2) (F0 m 86 ls [.int t19]) := by
              intro t19 H locs ls hz hw hl
              rw [eJ86_20] at hz
              refine lv_istore (lv' := [(6, .int t19), (0, .ref (G.2.2 0)), (1, .int p1), (2, .int p2), (3, .int x14), (4, .int x15), (5, .int x16)]) hx hb dX12_owed_86 hl (by decide) rfl (fun ls hl => ?_)
              refine lv_iload_n hx hb dX12_owed_88 rfl (lv_at hl 4 rfl) ?_
              refine lv_iload hx hb dX12_owed_89 (lv_at hl 0 rfl) ?_
              refine lv_iadd hx hb dX12_owed_91 ?_
              obtain ⟨x21, ex21, hz⟩ := u_let hz
              refine u_topi ex21 ?_
              refine lv_istore_n (lv' := [(3, .int x21), (6, .int t19), (0, .ref (G.2.2 0)), (1, .int p1), (2, .int p2), (4, .int x15), (5, .int x16)]) hx hb dX12_owed_92 rfl hl (by decide) rfl (fun ls hl => ?_)
              refine lv_iload hx hb dX12_owed_93 (lv_at hl 5 rfl) ?_
              refine lv_iload hx hb dX12_owed_95 (lv_at hl 1 rfl) ?_
              obtain ⟨J105_23, eJ105_23, hz⟩ := u_let hz
              have WJ105_23 : ∀ (t22 : Int32) (H : Heap) (locs : List Loc) (ls : Array Slot), J105_23 t22 = some z → u_W ZM G s13 s H locs → lv_has ls 7 [(0, .ref (G.2.2 0)), (1, .int p1), (2, .int p2), (3, .int x21), (5, .int x16)] → W p l e (u_rm 107) s m args below meth c H locs 0 0 (u_Qi below ZM G s args z.1 z.2) (F0 m 105 ls [.int t22, .int x15]) := by
                intro t22 H locs ls hz hw hl
                rw [eJ105_23] at hz
                refine lv_iadd hx hb dX12_owed_105 ?_
                obtain ⟨x24, ex24, hz⟩ := u_let hz
                refine u_topi ex24 ?_
                refine lv_istore (lv' := [(4, .int x24), (0, .ref (G.2.2 0)), (1, .int p1), (2, .int p2), (3, .int x21), (5, .int x16)]) hx hb dX12_owed_106 hl (by decide) rfl (fun ls hl => ?_)
                refine lv_aload_n hx hb dX12_owed_108 rfl (lv_at hl 1 rfl) ?_
                refine lv_aload_n hx hb dX12_owed_109 rfl (lv_at hl 1 rfl) ?_
                refine u_getp cx hw F_X12_46 o_X12 rfl dX12_owed_110 ?_
                obtain ⟨v25, hv25, hz⟩ := u_bind hz
                refine u_callVi (As := [.ref (G.2.2 11)]) (rest := []) cx hw LV_X12_250 (c_X12_goCrossing l G N s13 11 v25 hv25) o_X12 rfl (by decide) hl.1 rfl (Nat.le_of_ble_eq_true rfl) dX12_owed_113 rfl (fun H locs hw => ?_)
                refine lv_pop hx hb dX12_owed_116 rfl ?_
                obtain ⟨x26, ex26, hz⟩ := u_let hz
                refine lv_iinc (v := x26) (lv' := [(5, .int x26), (4, .int x24), (0, .ref (G.2.2 0)), (1, .int p1), (2, .int p2), (3, .int x21)]) hx hb dX12_owed_117 hl (k := 5) rfl (by rw [ex26]; rfl) (by decide) rfl (fun ls hl => ?_)
                refine lv_goto (tgt := 45) hx hb dX12_owed_120 (by decide) ?_
                exact ih45_17 v25.2 x21 x24 x26 _ _ _ hz hw (lv_sub hl [2, 3, 4, 5, 1, 0] rfl)
              refine lv_if_le (tgt := 104) hx hb dX12_owed_97 (by decide) (fun hc => ?_) (fun hc => ?_)
              · replace hz := u_ift hz hc
                refine lv_iconst (v := 0) hx hb dX12_owed_104 (by decide) ?_
                exact WJ105_23 0 _ _ _ hz hw (lv_sub hl [2, 3, 4, 0, 6] rfl)
              · replace hz := u_iff hz hc
                refine lv_iconst (v := 1) hx hb dX12_owed_100 (by decide) ?_
                refine lv_goto (tgt := 105) hx hb dX12_owed_101 (by decide) ?_
                exact WJ105_23 1 _ _ _ hz hw (lv_sub hl [2, 3, 4, 0, 6] rfl)
            obtain ⟨J85_27, eJ85_27, hz⟩ := u_let hz
            have WJ85_27 : ∀ (H : Heap) (locs : List Loc) (ls : Array Slot), J85_27 = some z → u_W ZM G s13 s H locs → lv_has ls 7 [(0, .ref (G.2.2 0)), (1, .int p1), (2, .int p2), (3, .int x14), (4, .int x15), (5, .int x16)] → W p l e (u_rm 107) s m args below meth c H locs 0 0 (u_Qi below ZM G s args z.1 z.2) (F0 m 85 ls []) := by
              intro H locs ls hz hw hl
              rw [eJ85_27] at hz
              refine lv_iconst (v := 0) hx hb dX12_owed_85 (by decide) ?_
              exact WJ86_20 0 _ _ _ hz hw (lv_sub hl [0, 1, 2, 3, 4, 5] rfl)
            refine lv_if_eq (tgt := 85) hx hb dX12_owed_59 (by decide) (fun hc => ?_) (fun hc => ?_)
            · replace hz := u_ift hz hc
              exact WJ85_27 _ _ _ hz hw (lv_sub hl [0, 1, 2, 3, 4, 5] rfl)
            · replace hz := u_iff hz hc
              refine lv_aload_n hx hb dX12_owed_62 rfl (lv_at hl 0 rfl) ?_
              refine lv_aload_n hx hb dX12_owed_63 rfl (lv_at hl 0 rfl) ?_
              refine u_getp cx hw F_X12_46 o_X12 rfl dX12_owed_64 ?_
              obtain ⟨v28, hv28, hz⟩ := u_bind hz
              refine u_callVi (As := [.ref (G.2.2 11)]) (rest := []) cx hw LV_X12_214 (c_X12_inBits l G N s13 11 v28 hv28) o_X12 rfl (by decide) hl.1 rfl (Nat.le_of_ble_eq_true rfl) dX12_owed_67 rfl (fun H locs hw => ?_)
              refine lv_if_eq (tgt := 85) hx hb dX12_owed_70 (by decide) (fun hc => ?_) (fun hc => ?_)
              · replace hz := u_ift hz hc
                exact WJ85_27 _ _ _ hz hw (lv_sub hl [0, 1, 2, 3, 4, 5] rfl)
              · replace hz := u_iff hz hc
                refine lv_aload_n hx hb dX12_owed_73 rfl (lv_at hl 0 rfl) ?_
                refine u_getp cx hw F_X12_46 o_X12 rfl dX12_owed_74 ?_
                refine lv_bipush (v := 16) hx hb dX12_owed_77 (by decide) ?_
                refine lv_iload_n hx hb dX12_owed_79 rfl (lv_at hl 1 rfl) ?_
                refine lv_iadd hx hb dX12_owed_80 ?_
                obtain ⟨v29, hv29, hz⟩ := u_bind hz
                refine u_iald cx hw hv29 dX12_owed_81 ?_
                refine lv_goto (tgt := 86) hx hb dX12_owed_82 (by decide) ?_
                exact WJ86_20 v29 _ _ _ hz hw (lv_sub hl [0, 1, 2, 3, 4, 5] rfl)
      exact WL45_29 N s4 0 0 0 _ _ _ hz hw (lv_sub hl [3, 4, 5, 2, 1, 0] rfl)
    · replace hz := u_ift hz hc
      refine lv_iconst (v := (-1)) hx hb dX12_owed_23 (by decide) ?_
      exact u_iret cx hw (u_pair hz) dX12_owed_24
theorem dX12_inBy10_0 : decode cX12_inBy10 0 = .ok (.aload_n 0, 1) := by decide +kernel
theorem dX12_inBy10_1 : decode cX12_inBy10 1 = .ok (.iconst 0, 1) := by decide +kernel
theorem dX12_inBy10_2 : decode cX12_inBy10 2 = .ok (.bipush 10, 2) := by decide +kernel
theorem dX12_inBy10_4 : decode cX12_inBy10 4 = .ok (.invokevirtual 299, 3) := by decide +kernel
theorem dX12_inBy10_7 : decode cX12_inBy10 7 = .ok (.ireturn, 1) := by decide +kernel
def f_X12_inBy10 (N : Nat) (σ : uS) : Option (Int32 × uS) := (f_X12_leftBy N σ 0 10).bind fun v1 =>
  some (v1.1, v1.2)
set_option maxRecDepth 100000 in
set_option maxHeartbeats 4000000 in
theorem c_X12_inBy10 (l : Launch) (G : uG) (N : Nat) (σ : uS) (z : (Int32 × uS)) (hz : f_X12_inBy10 N σ = some z) : u_Mi l ZM G yX12_inBy10 cX12_inBy10 1 .int 109 [.ref (G.2.2 0)] σ z.1 z.2 := by
  refine u_Mi_of RX12 (by decide) rfl (Nat.le_of_ble_eq_true rfl) ?_
  intro p e s m args below meth c ls cx hw hl
  have hx := cx.1
  have hb := cx.2.1
  have hl : lv_has ls 1 [(0, .ref (G.2.2 0))] := hl
  unfold f_X12_inBy10 at hz
  refine lv_aload_n hx hb dX12_inBy10_0 rfl (lv_at hl 0 rfl) ?_
  refine lv_iconst (v := 0) hx hb dX12_inBy10_1 (by decide) ?_
  refine lv_bipush (v := 10) hx hb dX12_inBy10_2 (by decide) ?_
  obtain ⟨v1, hv1, hz⟩ := u_bind hz
  refine u_callVi (As := [.int 0, .int 10]) (rest := []) cx hw LV_X12_299 (c_X12_leftBy l G N σ 0 10 v1 hv1) o_X12 rfl (by decide) hl.1 rfl (Nat.le_of_ble_eq_true rfl) dX12_inBy10_4 rfl (fun H locs hw => ?_)
  exact u_iret cx hw (u_pair hz) dX12_inBy10_7
theorem dX12_law_0 : decode cX12_law 0 = .ok (.aload_n 0, 1) := by decide +kernel
theorem dX12_law_1 : decode cX12_law 1 = .ok (.iconst 0, 1) := by decide +kernel
theorem dX12_law_2 : decode cX12_law 2 = .ok (.putfield 77, 3) := by decide +kernel
theorem dX12_law_5 : decode cX12_law 5 = .ok (.aload_n 0, 1) := by decide +kernel
theorem dX12_law_6 : decode cX12_law 6 = .ok (.getfield 98, 3) := by decide +kernel
theorem dX12_law_9 : decode cX12_law 9 = .ok (.istore_n 1, 1) := by decide +kernel
theorem dX12_law_10 : decode cX12_law 10 = .ok (.aload_n 0, 1) := by decide +kernel
theorem dX12_law_11 : decode cX12_law 11 = .ok (.invokevirtual 188, 3) := by decide +kernel
theorem dX12_law_14 : decode cX12_law 14 = .ok (.ifCond .ne 12, 3) := by decide +kernel
theorem dX12_law_17 : decode cX12_law 17 = .ok (.sipush (-10000), 3) := by decide +kernel
theorem dX12_law_20 : decode cX12_law 20 = .ok (.aload_n 0, 1) := by decide +kernel
theorem dX12_law_21 : decode cX12_law 21 = .ok (.getfield 113, 3) := by decide +kernel
theorem dX12_law_24 : decode cX12_law 24 = .ok (.isub, 1) := by decide +kernel
theorem dX12_law_25 : decode cX12_law 25 = .ok (.ireturn, 1) := by decide +kernel
theorem dX12_law_26 : decode cX12_law 26 = .ok (.aload_n 0, 1) := by decide +kernel
theorem dX12_law_27 : decode cX12_law 27 = .ok (.invokevirtual 344, 3) := by decide +kernel
theorem dX12_law_30 : decode cX12_law 30 = .ok (.istore_n 2, 1) := by decide +kernel
theorem dX12_law_31 : decode cX12_law 31 = .ok (.aload_n 0, 1) := by decide +kernel
theorem dX12_law_32 : decode cX12_law 32 = .ok (.getfield 31, 3) := by decide +kernel
theorem dX12_law_35 : decode cX12_law 35 = .ok (.astore_n 3, 1) := by decide +kernel
theorem dX12_law_36 : decode cX12_law 36 = .ok (.aload_n 0, 1) := by decide +kernel
theorem dX12_law_37 : decode cX12_law 37 = .ok (.getfield 191, 3) := by decide +kernel
theorem dX12_law_40 : decode cX12_law 40 = .ok (.istore 4, 2) := by decide +kernel
theorem dX12_law_42 : decode cX12_law 42 = .ok (.aload_n 0, 1) := by decide +kernel
theorem dX12_law_43 : decode cX12_law 43 = .ok (.aload_n 0, 1) := by decide +kernel
theorem dX12_law_44 : decode cX12_law 44 = .ok (.getfield 34, 3) := by decide +kernel
theorem dX12_law_47 : decode cX12_law 47 = .ok (.putfield 31, 3) := by decide +kernel
theorem dX12_law_50 : decode cX12_law 50 = .ok (.aload_n 0, 1) := by decide +kernel
theorem dX12_law_51 : decode cX12_law 51 = .ok (.iload_n 1, 1) := by decide +kernel
theorem dX12_law_52 : decode cX12_law 52 = .ok (.putfield 191, 3) := by decide +kernel
theorem dX12_law_55 : decode cX12_law 55 = .ok (.iconst 0, 1) := by decide +kernel
theorem dX12_law_56 : decode cX12_law 56 = .ok (.istore 5, 2) := by decide +kernel
theorem dX12_law_58 : decode cX12_law 58 = .ok (.iload 5, 2) := by decide +kernel
theorem dX12_law_60 : decode cX12_law 60 = .ok (.iload_n 1, 1) := by decide +kernel
theorem dX12_law_61 : decode cX12_law 61 = .ok (.if_icmp .ge 23, 3) := by decide +kernel
theorem dX12_law_64 : decode cX12_law 64 = .ok (.aload_n 0, 1) := by decide +kernel
theorem dX12_law_65 : decode cX12_law 65 = .ok (.getfield 31, 3) := by decide +kernel
theorem dX12_law_68 : decode cX12_law 68 = .ok (.iload 5, 2) := by decide +kernel
theorem dX12_law_70 : decode cX12_law 70 = .ok (.aload_n 0, 1) := by decide +kernel
theorem dX12_law_71 : decode cX12_law 71 = .ok (.getfield 20, 3) := by decide +kernel
theorem dX12_law_74 : decode cX12_law 74 = .ok (.iload 5, 2) := by decide +kernel
theorem dX12_law_76 : decode cX12_law 76 = .ok (.baload, 1) := by decide +kernel
theorem dX12_law_77 : decode cX12_law 77 = .ok (.bastore, 1) := by decide +kernel
theorem dX12_law_78 : decode cX12_law 78 = .ok (.iinc 5 1, 3) := by decide +kernel
theorem dX12_law_81 : decode cX12_law 81 = .ok (.goto (-23), 3) := by decide +kernel
theorem dX12_law_84 : decode cX12_law 84 = .ok (.aload_n 0, 1) := by decide +kernel
theorem dX12_law_85 : decode cX12_law 85 = .ok (.invokevirtual 344, 3) := by decide +kernel
theorem dX12_law_88 : decode cX12_law 88 = .ok (.istore 5, 2) := by decide +kernel
theorem dX12_law_90 : decode cX12_law 90 = .ok (.aload_n 0, 1) := by decide +kernel
theorem dX12_law_91 : decode cX12_law 91 = .ok (.aload_n 3, 1) := by decide +kernel
theorem dX12_law_92 : decode cX12_law 92 = .ok (.putfield 31, 3) := by decide +kernel
theorem dX12_law_95 : decode cX12_law 95 = .ok (.aload_n 0, 1) := by decide +kernel
theorem dX12_law_96 : decode cX12_law 96 = .ok (.iload 4, 2) := by decide +kernel
theorem dX12_law_98 : decode cX12_law 98 = .ok (.putfield 191, 3) := by decide +kernel
theorem dX12_law_101 : decode cX12_law 101 = .ok (.aload_n 0, 1) := by decide +kernel
theorem dX12_law_102 : decode cX12_law 102 = .ok (.iconst 0, 1) := by decide +kernel
theorem dX12_law_103 : decode cX12_law 103 = .ok (.putfield 80, 3) := by decide +kernel
theorem dX12_law_106 : decode cX12_law 106 = .ok (.aload_n 0, 1) := by decide +kernel
theorem dX12_law_107 : decode cX12_law 107 = .ok (.iload 5, 2) := by decide +kernel
theorem dX12_law_109 : decode cX12_law 109 = .ok (.i2l, 1) := by decide +kernel
theorem dX12_law_110 : decode cX12_law 110 = .ok (.invokevirtual 260, 3) := by decide +kernel
theorem dX12_law_113 : decode cX12_law 113 = .ok (.aload_n 0, 1) := by decide +kernel
theorem dX12_law_114 : decode cX12_law 114 = .ok (.iload_n 2, 1) := by decide +kernel
theorem dX12_law_115 : decode cX12_law 115 = .ok (.i2l, 1) := by decide +kernel
theorem dX12_law_116 : decode cX12_law 116 = .ok (.invokevirtual 260, 3) := by decide +kernel
theorem dX12_law_119 : decode cX12_law 119 = .ok (.iload 5, 2) := by decide +kernel
theorem dX12_law_121 : decode cX12_law 121 = .ok (.iload_n 2, 1) := by decide +kernel
theorem dX12_law_122 : decode cX12_law 122 = .ok (.isub, 1) := by decide +kernel
theorem dX12_law_123 : decode cX12_law 123 = .ok (.ireturn, 1) := by decide +kernel
def b_X12_law_58 (x2 : Int32) (J84_11 : uS → Option (Int32 × uS)) (rec58_20 : uS → Int32 → Option (Int32 × uS)) (s18 : uS) (x19 : Int32) : Option (Int32 × uS) :=
  if x2 ≤ x19 then (J84_11 s18) else ((s18.2.2 0 15).bind fun v21 =>
  (u_rI ZM s18 2 3 x19).bind fun v22 =>
  (u_wI ZM s18 2 v21 x19 v22).bind fun s23 =>
  u_jn (x19 + 1 : Int32) fun x24 =>
  rec58_20 s23 x24)
def f_X12_law (N : Nat) (σ : uS) : Option (Int32 × uS) := u_jn (u_pI σ 0 8 0) fun s1 =>
  u_jn ((s1.1 0 5) : Int32) fun x2 =>
  (f_X12_readRule N s1).bind fun v3 =>
  if v3.1 = 0 then (some (((-10000) - (v3.2.1 0 13)), v3.2)) else ((f_X12_inBy10 N v3.2).bind fun v4 =>
  (v4.2.2.2 0 15).bind fun v5 =>
  u_jn ((v4.2.1 0 17) : Int32) fun x6 =>
  (v4.2.2.2 0 16).bind fun v7 =>
  u_jn (u_pR v4.2 0 15 (some v7)) fun s8 =>
  u_jn (u_pI s8 0 17 x2) fun s9 =>
  u_jn (fun (s10 : uS) => ((f_X12_inBy10 N s10).bind fun v12 =>
  u_jn (u_pR v12.2 0 15 (some v5)) fun s13 =>
  u_jn (u_pI s13 0 17 x6) fun s14 =>
  u_jn (u_pI s14 0 7 0) fun s15 =>
  (f_X12_tell N s15 (Int32.toInt64 v12.1)).bind fun s16 =>
  (f_X12_tell N s16 (Int32.toInt64 v4.1)).bind fun s17 =>
  some ((v12.1 - v4.1), s17) : Option (Int32 × uS))) fun J84_11 =>
  u_lp2 (b_X12_law_58 x2 J84_11) N s9 0)
set_option maxRecDepth 100000 in
set_option maxHeartbeats 4000000 in
theorem c_X12_law (l : Launch) (G : uG) (N : Nat) (σ : uS) (z : (Int32 × uS)) (hz : f_X12_law N σ = some z) : u_Mi l ZM G yX12_law cX12_law 6 .int 110 [.ref (G.2.2 0)] σ z.1 z.2 := by
  refine u_Mi_of RX12 (by decide) rfl (Nat.le_of_ble_eq_true rfl) ?_
  intro p e s m args below meth c ls cx hw hl
  have hx := cx.1
  have hb := cx.2.1
  have hl : lv_has ls 6 [(0, .ref (G.2.2 0))] := hl
  unfold f_X12_law at hz
  refine lv_aload_n hx hb dX12_law_0 rfl (lv_at hl 0 rfl) ?_
  refine lv_iconst (v := 0) hx hb dX12_law_1 (by decide) ?_
  obtain ⟨s1, es1, hz⟩ := u_let hz
  refine u_puti2 cx hw P_X12_77 o_X12 rfl es1 dX12_law_2 (fun H locs hw => ?_)
  refine lv_aload_n hx hb dX12_law_5 rfl (lv_at hl 0 rfl) ?_
  refine u_geti cx hw F_X12_98 o_X12 rfl dX12_law_6 ?_
  obtain ⟨x2, ex2, hz⟩ := u_let hz
  refine u_topi ex2 ?_
  refine lv_istore_n (lv' := [(1, .int x2), (0, .ref (G.2.2 0))]) hx hb dX12_law_9 rfl hl (by decide) rfl (fun ls hl => ?_)
  refine lv_aload_n hx hb dX12_law_10 rfl (lv_at hl 1 rfl) ?_
  obtain ⟨v3, hv3, hz⟩ := u_bind hz
  refine u_callVi (As := []) (rest := []) cx hw LV_X12_188 (c_X12_readRule l G N s1 v3 hv3) o_X12 rfl (by decide) hl.1 rfl (Nat.le_of_ble_eq_true rfl) dX12_law_11 rfl (fun H locs hw => ?_)
  refine lv_if_ne (tgt := 26) hx hb dX12_law_14 (by decide) (fun hc => ?_) (fun hc => ?_)
  · replace hz := u_iff hz hc
    refine lv_aload_n hx hb dX12_law_26 rfl (lv_at hl 1 rfl) ?_
    obtain ⟨v4, hv4, hz⟩ := u_bind hz
    refine u_callVi (As := []) (rest := []) cx hw LV_X12_344 (c_X12_inBy10 l G N v3.2 v4 hv4) o_X12 rfl (by decide) hl.1 rfl (Nat.le_of_ble_eq_true rfl) dX12_law_27 rfl (fun H locs hw => ?_)
    refine lv_istore_n (lv' := [(2, .int v4.1), (1, .int x2), (0, .ref (G.2.2 0))]) hx hb dX12_law_30 rfl hl (by decide) rfl (fun ls hl => ?_)
    refine lv_aload_n hx hb dX12_law_31 rfl (lv_at hl 2 rfl) ?_
    obtain ⟨v5, hv5, hz⟩ := u_bind hz
    refine u_getr cx hw F_X12_31 o_X12 rfl hv5 dX12_law_32 ?_
    refine lv_astore_n (lv' := [(3, .ref (G.2.2 v5)), (2, .int v4.1), (1, .int x2), (0, .ref (G.2.2 0))]) hx hb dX12_law_35 rfl hl (by decide) rfl (fun ls hl => ?_)
    refine lv_aload_n hx hb dX12_law_36 rfl (lv_at hl 3 rfl) ?_
    refine u_geti cx hw F_X12_191 o_X12 rfl dX12_law_37 ?_
    obtain ⟨x6, ex6, hz⟩ := u_let hz
    refine u_topi ex6 ?_
    refine lv_istore (lv' := [(4, .int x6), (3, .ref (G.2.2 v5)), (2, .int v4.1), (1, .int x2), (0, .ref (G.2.2 0))]) hx hb dX12_law_40 hl (by decide) rfl (fun ls hl => ?_)
    refine lv_aload_n hx hb dX12_law_42 rfl (lv_at hl 4 rfl) ?_
    refine lv_aload_n hx hb dX12_law_43 rfl (lv_at hl 4 rfl) ?_
    obtain ⟨v7, hv7, hz⟩ := u_bind hz
    refine u_getr cx hw F_X12_34 o_X12 rfl hv7 dX12_law_44 ?_
    obtain ⟨s8, es8, hz⟩ := u_let hz
    refine u_putr2 cx hw P_X12_31 o_X12 rfl rfl rfl es8 dX12_law_47 (fun H locs hw => ?_)
    refine lv_aload_n hx hb dX12_law_50 rfl (lv_at hl 4 rfl) ?_
    refine lv_iload_n hx hb dX12_law_51 rfl (lv_at hl 3 rfl) ?_
    obtain ⟨s9, es9, hz⟩ := u_let hz
    refine u_puti2 cx hw P_X12_191 o_X12 rfl es9 dX12_law_52 (fun H locs hw => ?_)
    refine lv_iconst (v := 0) hx hb dX12_law_55 (by decide) ?_
    refine lv_istore (lv' := [(5, .int 0), (4, .int x6), (3, .ref (G.2.2 v5)), (2, .int v4.1), (1, .int x2), (0, .ref (G.2.2 0))]) hx hb dX12_law_56 hl (by decide) rfl (fun ls hl => ?_)
    obtain ⟨J84_11, eJ84_11, hz⟩ := u_let hz
    have WJ84_11 : ∀ (s10 : uS) (H : Heap) (locs : List Loc) (ls : Array Slot), J84_11 s10 = some z → u_W ZM G s10 s H locs → lv_has ls 6 [(0, .ref (G.2.2 0)), (2, .int v4.1), (3, .ref (G.2.2 v5)), (4, .int x6)] → W p l e (u_rm 110) s m args below meth c H locs 0 0 (u_Qi below ZM G s args z.1 z.2) (F0 m 84 ls []) := by
      intro s10 H locs ls hz hw hl
      rw [eJ84_11] at hz
      refine lv_aload_n hx hb dX12_law_84 rfl (lv_at hl 0 rfl) ?_
      obtain ⟨v12, hv12, hz⟩ := u_bind hz
      refine u_callVi (As := []) (rest := []) cx hw LV_X12_344 (c_X12_inBy10 l G N s10 v12 hv12) o_X12 rfl (by decide) hl.1 rfl (Nat.le_of_ble_eq_true rfl) dX12_law_85 rfl (fun H locs hw => ?_)
      refine lv_istore (lv' := [(5, .int v12.1), (0, .ref (G.2.2 0)), (2, .int v4.1), (3, .ref (G.2.2 v5)), (4, .int x6)]) hx hb dX12_law_88 hl (by decide) rfl (fun ls hl => ?_)
      refine lv_aload_n hx hb dX12_law_90 rfl (lv_at hl 1 rfl) ?_
      refine lv_aload_n hx hb dX12_law_91 rfl (lv_at hl 3 rfl) ?_
      obtain ⟨s13, es13, hz⟩ := u_let hz
      refine u_putr2 cx hw P_X12_31 o_X12 rfl rfl rfl es13 dX12_law_92 (fun H locs hw => ?_)
      refine lv_aload_n hx hb dX12_law_95 rfl (lv_at hl 1 rfl) ?_
      refine lv_iload hx hb dX12_law_96 (lv_at hl 4 rfl) ?_
      obtain ⟨s14, es14, hz⟩ := u_let hz
      refine u_puti2 cx hw P_X12_191 o_X12 rfl es14 dX12_law_98 (fun H locs hw => ?_)
      refine lv_aload_n hx hb dX12_law_101 rfl (lv_at hl 1 rfl) ?_
      refine lv_iconst (v := 0) hx hb dX12_law_102 (by decide) ?_
      obtain ⟨s15, es15, hz⟩ := u_let hz
      refine u_puti2 cx hw P_X12_80 o_X12 rfl es15 dX12_law_103 (fun H locs hw => ?_)
      refine lv_aload_n hx hb dX12_law_106 rfl (lv_at hl 1 rfl) ?_
      refine lv_iload hx hb dX12_law_107 (lv_at hl 0 rfl) ?_
      refine lv_i2l (v := (Int32.toInt64 v12.1)) hx hb dX12_law_109 rfl ?_
      obtain ⟨s16, hs16, hz⟩ := u_bind hz
      refine u_callVv (As := [.long (Int32.toInt64 v12.1)]) (rest := []) cx hw LV_X12_260 (c_X12_tell l G N s15 (Int32.toInt64 v12.1) s16 hs16) o_X12 rfl (by decide) hl.1 rfl (Nat.le_of_ble_eq_true rfl) dX12_law_110 rfl (fun H locs hw => ?_)
      refine lv_aload_n hx hb dX12_law_113 rfl (lv_at hl 1 rfl) ?_
      refine lv_iload_n hx hb dX12_law_114 rfl (lv_at hl 2 rfl) ?_
      refine lv_i2l (v := (Int32.toInt64 v4.1)) hx hb dX12_law_115 rfl ?_
      obtain ⟨s17, hs17, hz⟩ := u_bind hz
      refine u_callVv (As := [.long (Int32.toInt64 v4.1)]) (rest := []) cx hw LV_X12_260 (c_X12_tell l G N s16 (Int32.toInt64 v4.1) s17 hs17) o_X12 rfl (by decide) hl.1 rfl (Nat.le_of_ble_eq_true rfl) dX12_law_116 rfl (fun H locs hw => ?_)
      refine lv_iload hx hb dX12_law_119 (lv_at hl 0 rfl) ?_
      refine lv_iload_n hx hb dX12_law_121 rfl (lv_at hl 2 rfl) ?_
      refine lv_isub hx hb dX12_law_122 ?_
      exact u_iret cx hw (u_pair hz) dX12_law_123
    have WL58_24 : ∀ (k : Nat) (s18 : uS) (x19 : Int32) (H : Heap) (locs : List Loc) (ls : Array Slot), u_lp2 (b_X12_law_58 x2 J84_11) k s18 x19 = some z → u_W ZM G s18 s H locs → lv_has ls 6 [(0, .ref (G.2.2 0)), (1, .int x2), (2, .int v4.1), (3, .ref (G.2.2 v5)), (4, .int x6), (5, .int x19)] → W p l e (u_rm 110) s m args below meth c H locs 0 0 (u_Qi below ZM G s args z.1 z.2) (F0 m 58 ls []) := by
      intro k
      induction k with
      | zero =>
        intro s18 x19 H locs ls hz
        exact absurd hz (by intro h9; cases h9)
      | succ k ih58_20 =>
        intro s18 x19 H locs ls hz hw hl
        have hz : (b_X12_law_58 x2 J84_11) (u_lp2 (b_X12_law_58 x2 J84_11) k) s18 x19 = some z := hz
        unfold b_X12_law_58 at hz
        refine lv_iload hx hb dX12_law_58 (lv_at hl 5 rfl) ?_
        refine lv_iload_n hx hb dX12_law_60 rfl (lv_at hl 1 rfl) ?_
        refine lv_icmp_ge (tgt := 84) hx hb dX12_law_61 (by decide) (fun hc => ?_) (fun hc => ?_)
        · replace hz := u_ift hz hc
          exact WJ84_11 s18 _ _ _ hz hw (lv_sub hl [0, 2, 3, 4] rfl)
        · replace hz := u_iff hz hc
          refine lv_aload_n hx hb dX12_law_64 rfl (lv_at hl 0 rfl) ?_
          obtain ⟨v21, hv21, hz⟩ := u_bind hz
          refine u_getr cx hw F_X12_31 o_X12 rfl hv21 dX12_law_65 ?_
          refine lv_iload hx hb dX12_law_68 (lv_at hl 5 rfl) ?_
          refine lv_aload_n hx hb dX12_law_70 rfl (lv_at hl 0 rfl) ?_
          refine u_getp cx hw F_X12_20 o_X12 rfl dX12_law_71 ?_
          refine lv_iload hx hb dX12_law_74 (lv_at hl 5 rfl) ?_
          obtain ⟨v22, hv22, hz⟩ := u_bind hz
          refine u_bald cx hw hv22 dX12_law_76 ?_
          obtain ⟨s23, hs23, hz⟩ := u_bind hz
          refine u_bast cx hw hs23 dX12_law_77 (fun H locs hw => ?_)
          obtain ⟨x24, ex24, hz⟩ := u_let hz
          refine lv_iinc (v := x24) (lv' := [(5, .int x24), (0, .ref (G.2.2 0)), (1, .int x2), (2, .int v4.1), (3, .ref (G.2.2 v5)), (4, .int x6)]) hx hb dX12_law_78 hl (k := 5) rfl (by rw [ex24]; rfl) (by decide) rfl (fun ls hl => ?_)
          refine lv_goto (tgt := 58) hx hb dX12_law_81 (by decide) ?_
          exact ih58_20 s23 x24 _ _ _ hz hw (lv_sub hl [1, 2, 3, 4, 5, 0] rfl)
    exact WL58_24 N s9 0 _ _ _ hz hw (lv_sub hl [5, 4, 3, 2, 1, 0] rfl)
  · replace hz := u_ift hz hc
    refine lv_sipush (v := (-10000)) hx hb dX12_law_17 (by decide) ?_
    refine lv_aload_n hx hb dX12_law_20 rfl (lv_at hl 1 rfl) ?_
    refine u_geti cx hw F_X12_113 o_X12 rfl dX12_law_21 ?_
    refine lv_isub hx hb dX12_law_24 ?_
    exact u_iret cx hw (u_pair hz) dX12_law_25
theorem dX12_years_0 : decode cX12_years 0 = .ok (.aload_n 0, 1) := by decide +kernel
theorem dX12_years_1 : decode cX12_years 1 = .ok (.iconst 0, 1) := by decide +kernel
theorem dX12_years_2 : decode cX12_years 2 = .ok (.putfield 77, 3) := by decide +kernel
theorem dX12_years_5 : decode cX12_years 5 = .ok (.iload_n 2, 1) := by decide +kernel
theorem dX12_years_6 : decode cX12_years 6 = .ok (.iconst 1, 1) := by decide +kernel
theorem dX12_years_7 : decode cX12_years 7 = .ok (.bipush 60, 2) := by decide +kernel
theorem dX12_years_9 : decode cX12_years 9 = .ok (.invokestatic 86, 3) := by decide +kernel
theorem dX12_years_12 : decode cX12_years 12 = .ok (.ifCond .ne 5, 3) := by decide +kernel
theorem dX12_years_15 : decode cX12_years 15 = .ok (.iconst (-1), 1) := by decide +kernel
theorem dX12_years_16 : decode cX12_years 16 = .ok (.ireturn, 1) := by decide +kernel
theorem dX12_years_17 : decode cX12_years 17 = .ok (.aload_n 0, 1) := by decide +kernel
theorem dX12_years_18 : decode cX12_years 18 = .ok (.iload_n 1, 1) := by decide +kernel
theorem dX12_years_19 : decode cX12_years 19 = .ok (.putfield 347, 3) := by decide +kernel
theorem dX12_years_22 : decode cX12_years 22 = .ok (.aload_n 0, 1) := by decide +kernel
theorem dX12_years_23 : decode cX12_years 23 = .ok (.getfield 9, 3) := by decide +kernel
theorem dX12_years_26 : decode cX12_years 26 = .ok (.aload_n 0, 1) := by decide +kernel
theorem dX12_years_27 : decode cX12_years 27 = .ok (.getfield 46, 3) := by decide +kernel
theorem dX12_years_30 : decode cX12_years 30 = .ok (.iconst 0, 1) := by decide +kernel
theorem dX12_years_31 : decode cX12_years 31 = .ok (.invokestatic 242, 3) := by decide +kernel
theorem dX12_years_34 : decode cX12_years 34 = .ok (.iconst 0, 1) := by decide +kernel
theorem dX12_years_35 : decode cX12_years 35 = .ok (.istore_n 3, 1) := by decide +kernel
theorem dX12_years_36 : decode cX12_years 36 = .ok (.iload_n 3, 1) := by decide +kernel
theorem dX12_years_37 : decode cX12_years 37 = .ok (.iload_n 2, 1) := by decide +kernel
theorem dX12_years_38 : decode cX12_years 38 = .ok (.if_icmp .ge 111, 3) := by decide +kernel
theorem dX12_years_41 : decode cX12_years 41 = .ok (.aload_n 0, 1) := by decide +kernel
theorem dX12_years_42 : decode cX12_years 42 = .ok (.iconst 4, 1) := by decide +kernel
theorem dX12_years_43 : decode cX12_years 43 = .ok (.invokevirtual 351, 3) := by decide +kernel
theorem dX12_years_46 : decode cX12_years 46 = .ok (.istore 4, 2) := by decide +kernel
theorem dX12_years_48 : decode cX12_years 48 = .ok (.iload 4, 2) := by decide +kernel
theorem dX12_years_50 : decode cX12_years 50 = .ok (.iconst 2, 1) := by decide +kernel
theorem dX12_years_51 : decode cX12_years 51 = .ok (.if_icmp .ge 12, 3) := by decide +kernel
theorem dX12_years_54 : decode cX12_years 54 = .ok (.aload_n 0, 1) := by decide +kernel
theorem dX12_years_55 : decode cX12_years 55 = .ok (.aload_n 0, 1) := by decide +kernel
theorem dX12_years_56 : decode cX12_years 56 = .ok (.getfield 46, 3) := by decide +kernel
theorem dX12_years_59 : decode cX12_years 59 = .ok (.invokevirtual 250, 3) := by decide +kernel
theorem dX12_years_62 : decode cX12_years 62 = .ok (.pop, 1) := by decide +kernel
theorem dX12_years_63 : decode cX12_years 63 = .ok (.iload 4, 2) := by decide +kernel
theorem dX12_years_65 : decode cX12_years 65 = .ok (.iconst 2, 1) := by decide +kernel
theorem dX12_years_66 : decode cX12_years 66 = .ok (.if_icmp .lt 77, 3) := by decide +kernel
theorem dX12_years_69 : decode cX12_years 69 = .ok (.aload_n 0, 1) := by decide +kernel
theorem dX12_years_70 : decode cX12_years 70 = .ok (.getfield 83, 3) := by decide +kernel
theorem dX12_years_73 : decode cX12_years 73 = .ok (.ifCond .ne 6, 3) := by decide +kernel
theorem dX12_years_76 : decode cX12_years 76 = .ok (.goto 67, 3) := by decide +kernel
theorem dX12_years_79 : decode cX12_years 79 = .ok (.aload_n 0, 1) := by decide +kernel
theorem dX12_years_80 : decode cX12_years 80 = .ok (.aload_n 0, 1) := by decide +kernel
theorem dX12_years_81 : decode cX12_years 81 = .ok (.getfield 83, 3) := by decide +kernel
theorem dX12_years_84 : decode cX12_years 84 = .ok (.invokevirtual 351, 3) := by decide +kernel
theorem dX12_years_87 : decode cX12_years 87 = .ok (.istore 5, 2) := by decide +kernel
theorem dX12_years_89 : decode cX12_years 89 = .ok (.iload 4, 2) := by decide +kernel
theorem dX12_years_91 : decode cX12_years 91 = .ok (.iconst 2, 1) := by decide +kernel
theorem dX12_years_92 : decode cX12_years 92 = .ok (.if_icmp .ne 17, 3) := by decide +kernel
theorem dX12_years_95 : decode cX12_years 95 = .ok (.aload_n 0, 1) := by decide +kernel
theorem dX12_years_96 : decode cX12_years 96 = .ok (.getfield 46, 3) := by decide +kernel
theorem dX12_years_99 : decode cX12_years 99 = .ok (.bipush 34, 2) := by decide +kernel
theorem dX12_years_101 : decode cX12_years 101 = .ok (.dup2, 1) := by decide +kernel
theorem dX12_years_102 : decode cX12_years 102 = .ok (.iaload, 1) := by decide +kernel
theorem dX12_years_103 : decode cX12_years 103 = .ok (.iconst 1, 1) := by decide +kernel
theorem dX12_years_104 : decode cX12_years 104 = .ok (.iload 5, 2) := by decide +kernel
theorem dX12_years_106 : decode cX12_years 106 = .ok (.ishl, 1) := by decide +kernel
theorem dX12_years_107 : decode cX12_years 107 = .ok (.ior, 1) := by decide +kernel
theorem dX12_years_108 : decode cX12_years 108 = .ok (.iastore, 1) := by decide +kernel
theorem dX12_years_109 : decode cX12_years 109 = .ok (.iload 4, 2) := by decide +kernel
theorem dX12_years_111 : decode cX12_years 111 = .ok (.iconst 3, 1) := by decide +kernel
theorem dX12_years_112 : decode cX12_years 112 = .ok (.if_icmp .ne 31, 3) := by decide +kernel
theorem dX12_years_115 : decode cX12_years 115 = .ok (.aload_n 0, 1) := by decide +kernel
theorem dX12_years_116 : decode cX12_years 116 = .ok (.aload_n 0, 1) := by decide +kernel
theorem dX12_years_117 : decode cX12_years 117 = .ok (.getfield 83, 3) := by decide +kernel
theorem dX12_years_120 : decode cX12_years 120 = .ok (.invokevirtual 351, 3) := by decide +kernel
theorem dX12_years_123 : decode cX12_years 123 = .ok (.istore 6, 2) := by decide +kernel
theorem dX12_years_125 : decode cX12_years 125 = .ok (.iload 6, 2) := by decide +kernel
theorem dX12_years_127 : decode cX12_years 127 = .ok (.iload 5, 2) := by decide +kernel
theorem dX12_years_129 : decode cX12_years 129 = .ok (.if_icmp .eq 14, 3) := by decide +kernel
theorem dX12_years_132 : decode cX12_years 132 = .ok (.aload_n 0, 1) := by decide +kernel
theorem dX12_years_133 : decode cX12_years 133 = .ok (.getfield 46, 3) := by decide +kernel
theorem dX12_years_136 : decode cX12_years 136 = .ok (.iload 5, 2) := by decide +kernel
theorem dX12_years_138 : decode cX12_years 138 = .ok (.iload 6, 2) := by decide +kernel
theorem dX12_years_140 : decode cX12_years 140 = .ok (.invokestatic 270, 3) := by decide +kernel
theorem dX12_years_143 : decode cX12_years 143 = .ok (.iinc 3 1, 3) := by decide +kernel
theorem dX12_years_146 : decode cX12_years 146 = .ok (.goto (-110), 3) := by decide +kernel
theorem dX12_years_149 : decode cX12_years 149 = .ok (.aload_n 0, 1) := by decide +kernel
theorem dX12_years_150 : decode cX12_years 150 = .ok (.iconst 0, 1) := by decide +kernel
theorem dX12_years_151 : decode cX12_years 151 = .ok (.putfield 80, 3) := by decide +kernel
theorem dX12_years_154 : decode cX12_years 154 = .ok (.aload_n 0, 1) := by decide +kernel
theorem dX12_years_155 : decode cX12_years 155 = .ok (.aload_n 0, 1) := by decide +kernel
theorem dX12_years_156 : decode cX12_years 156 = .ok (.aload_n 0, 1) := by decide +kernel
theorem dX12_years_157 : decode cX12_years 157 = .ok (.getfield 46, 3) := by decide +kernel
theorem dX12_years_160 : decode cX12_years 160 = .ok (.aload_n 0, 1) := by decide +kernel
theorem dX12_years_161 : decode cX12_years 161 = .ok (.invokevirtual 94, 3) := by decide +kernel
theorem dX12_years_164 : decode cX12_years 164 = .ok (.invokevirtual 211, 3) := by decide +kernel
theorem dX12_years_167 : decode cX12_years 167 = .ok (.i2l, 1) := by decide +kernel
theorem dX12_years_168 : decode cX12_years 168 = .ok (.invokevirtual 260, 3) := by decide +kernel
theorem dX12_years_171 : decode cX12_years 171 = .ok (.aload_n 0, 1) := by decide +kernel
theorem dX12_years_172 : decode cX12_years 172 = .ok (.aload_n 0, 1) := by decide +kernel
theorem dX12_years_173 : decode cX12_years 173 = .ok (.getfield 46, 3) := by decide +kernel
theorem dX12_years_176 : decode cX12_years 176 = .ok (.bipush 36, 2) := by decide +kernel
theorem dX12_years_178 : decode cX12_years 178 = .ok (.iaload, 1) := by decide +kernel
theorem dX12_years_179 : decode cX12_years 179 = .ok (.aload_n 0, 1) := by decide +kernel
theorem dX12_years_180 : decode cX12_years 180 = .ok (.getfield 9, 3) := by decide +kernel
theorem dX12_years_183 : decode cX12_years 183 = .ok (.bipush 36, 2) := by decide +kernel
theorem dX12_years_185 : decode cX12_years 185 = .ok (.iaload, 1) := by decide +kernel
theorem dX12_years_186 : decode cX12_years 186 = .ok (.isub, 1) := by decide +kernel
theorem dX12_years_187 : decode cX12_years 187 = .ok (.i2l, 1) := by decide +kernel
theorem dX12_years_188 : decode cX12_years 188 = .ok (.invokevirtual 260, 3) := by decide +kernel
theorem dX12_years_191 : decode cX12_years 191 = .ok (.aload_n 0, 1) := by decide +kernel
theorem dX12_years_192 : decode cX12_years 192 = .ok (.aload_n 0, 1) := by decide +kernel
theorem dX12_years_193 : decode cX12_years 193 = .ok (.getfield 46, 3) := by decide +kernel
theorem dX12_years_196 : decode cX12_years 196 = .ok (.invokevirtual 214, 3) := by decide +kernel
theorem dX12_years_199 : decode cX12_years 199 = .ok (.invokestatic 206, 3) := by decide +kernel
theorem dX12_years_202 : decode cX12_years 202 = .ok (.ireturn, 1) := by decide +kernel
def b_X12_years_36 (N : Nat) (p2 : Int32) (J149_6 : uS → Option (Int32 × uS)) (rec36_18 : uS → Int32 → Option (Int32 × uS)) (s16 : uS) (x17 : Int32) : Option (Int32 × uS) :=
  if p2 ≤ x17 then (J149_6 s16) else ((f_X12_draw N s16 4).bind fun v19 =>
  u_jn (fun (s20 : uS) => (u_jn (fun (s22 : uS) => (u_jn (x17 + 1 : Int32) fun x24 =>
  rec36_18 s22 x24 : Option (Int32 × uS))) fun J143_23 =>
  if v19.1 < 2 then (J143_23 s20) else (if (s20.1 0 2) = 0 then (J143_23 s20) else ((f_X12_draw N s20 (s20.1 0 2)).bind fun v25 =>
  u_jn (fun (s26 : uS) => (if v19.1 = 3 then ((f_X12_draw N s26 (s26.1 0 2)).bind fun v28 =>
  if v28.1 = v25.1 then (J143_23 v28.2) else ((f_X12_goGlance N v28.2 11 v25.1 v28.1).bind fun s29 =>
  J143_23 s29)) else (J143_23 s26) : Option (Int32 × uS))) fun J109_27 =>
  if v19.1 = 2 then ((u_rI ZM v25.2 0 11 34).bind fun v30 =>
  (u_wI ZM v25.2 0 11 34 (v30 ||| (1 <<< (v25.1 &&& 31)))).bind fun s31 =>
  J109_27 s31) else (J109_27 v25.2))) : Option (Int32 × uS))) fun J63_21 =>
  if 2 ≤ v19.1 then (J63_21 v19.2) else ((f_X12_goCrossing N v19.2 11).bind fun v32 =>
  J63_21 v32.2))
def f_X12_years (N : Nat) (σ : uS) (p1 : Int32) (p2 : Int32) : Option (Int32 × uS) := u_jn (u_pI σ 0 8 0) fun s1 =>
  (f_X12_in N s1 p2 1 60).bind fun v2 =>
  if v2 = 0 then (some ((-1), s1)) else (u_jn (u_pI s1 0 32 p1) fun s3 =>
  (f_X12_lay N s3 1 11 0).bind fun s4 =>
  u_jn (fun (s5 : uS) => (u_jn (u_pI s5 0 7 0) fun s7 =>
  (f_X12_all N s7).bind fun v8 =>
  (f_X12_beliefs N s7 11 v8).bind fun v9 =>
  (f_X12_tell N s7 (Int32.toInt64 v9)).bind fun s10 =>
  (u_rI ZM s10 0 11 36).bind fun v11 =>
  (u_rI ZM s10 0 1 36).bind fun v12 =>
  (f_X12_tell N s10 (Int32.toInt64 (v11 - v12))).bind fun s13 =>
  (f_X12_inBits N s13 11).bind fun v14 =>
  (f_J6_bitCount_0f7a4 N s13 v14).bind fun v15 =>
  some (v15, s13) : Option (Int32 × uS))) fun J149_6 =>
  u_lp2 (b_X12_years_36 N p2 J149_6) N s4 0)
set_option maxRecDepth 100000 in
set_option maxHeartbeats 4000000 in
theorem c_X12_years (l : Launch) (G : uG) (N : Nat) (σ : uS) (p1 : Int32) (p2 : Int32) (z : (Int32 × uS)) (hz : f_X12_years N σ p1 p2 = some z) : u_Mi l ZM G yX12_years cX12_years 7 .int 107 [.ref (G.2.2 0), .int p1, .int p2] σ z.1 z.2 := by
  refine u_Mi_of RX12 (by decide) rfl (Nat.le_of_ble_eq_true rfl) ?_
  intro p e s m args below meth c ls cx hw hl
  have hx := cx.1
  have hb := cx.2.1
  have hl : lv_has ls 7 [(0, .ref (G.2.2 0)), (1, .int p1), (2, .int p2)] := hl
  unfold f_X12_years at hz
  refine lv_aload_n hx hb dX12_years_0 rfl (lv_at hl 0 rfl) ?_
  refine lv_iconst (v := 0) hx hb dX12_years_1 (by decide) ?_
  obtain ⟨s1, es1, hz⟩ := u_let hz
  refine u_puti2 cx hw P_X12_77 o_X12 rfl es1 dX12_years_2 (fun H locs hw => ?_)
  refine lv_iload_n hx hb dX12_years_5 rfl (lv_at hl 2 rfl) ?_
  refine lv_iconst (v := 1) hx hb dX12_years_6 (by decide) ?_
  refine lv_bipush (v := 60) hx hb dX12_years_7 (by decide) ?_
  obtain ⟨v2, hv2, hz⟩ := u_bind hz
  refine u_callSi (As := [.int p2, .int 1, .int 60]) (rest := []) cx hw LS_X12_86 (c_X12_in l G N s1 p2 1 60 v2 hv2) (by decide) hl.1 rfl (Nat.le_of_ble_eq_true rfl) dX12_years_9 rfl (fun H locs hw => ?_)
  refine lv_if_ne (tgt := 17) hx hb dX12_years_12 (by decide) (fun hc => ?_) (fun hc => ?_)
  · replace hz := u_iff hz hc
    refine lv_aload_n hx hb dX12_years_17 rfl (lv_at hl 0 rfl) ?_
    refine lv_iload_n hx hb dX12_years_18 rfl (lv_at hl 1 rfl) ?_
    obtain ⟨s3, es3, hz⟩ := u_let hz
    refine u_puti2 cx hw P_X12_347 o_X12 rfl es3 dX12_years_19 (fun H locs hw => ?_)
    refine lv_aload_n hx hb dX12_years_22 rfl (lv_at hl 0 rfl) ?_
    refine u_getp cx hw F_X12_9 o_X12 rfl dX12_years_23 ?_
    refine lv_aload_n hx hb dX12_years_26 rfl (lv_at hl 0 rfl) ?_
    refine u_getp cx hw F_X12_46 o_X12 rfl dX12_years_27 ?_
    refine lv_iconst (v := 0) hx hb dX12_years_30 (by decide) ?_
    obtain ⟨s4, hs4, hz⟩ := u_bind hz
    refine u_callSv (As := [.ref (G.2.2 1), .ref (G.2.2 11), .int 0]) (rest := []) cx hw LS_X12_242 (c_X12_lay l G N s3 1 11 0 s4 hs4) (by decide) hl.1 rfl (Nat.le_of_ble_eq_true rfl) dX12_years_31 rfl (fun H locs hw => ?_)
    refine lv_iconst (v := 0) hx hb dX12_years_34 (by decide) ?_
    refine lv_istore_n (lv' := [(3, .int 0), (0, .ref (G.2.2 0)), (1, .int p1), (2, .int p2)]) hx hb dX12_years_35 rfl hl (by decide) rfl (fun ls hl => ?_)
    obtain ⟨J149_6, eJ149_6, hz⟩ := u_let hz
    have WJ149_6 : ∀ (s5 : uS) (H : Heap) (locs : List Loc) (ls : Array Slot), J149_6 s5 = some z → u_W ZM G s5 s H locs → lv_has ls 7 [(0, .ref (G.2.2 0))] → W p l e (u_rm 107) s m args below meth c H locs 0 0 (u_Qi below ZM G s args z.1 z.2) (F0 m 149 ls []) := by
      intro s5 H locs ls hz hw hl
      rw [eJ149_6] at hz
      refine lv_aload_n hx hb dX12_years_149 rfl (lv_at hl 0 rfl) ?_
      refine lv_iconst (v := 0) hx hb dX12_years_150 (by decide) ?_
      obtain ⟨s7, es7, hz⟩ := u_let hz
      refine u_puti2 cx hw P_X12_80 o_X12 rfl es7 dX12_years_151 (fun H locs hw => ?_)
      refine lv_aload_n hx hb dX12_years_154 rfl (lv_at hl 0 rfl) ?_
      refine lv_aload_n hx hb dX12_years_155 rfl (lv_at hl 0 rfl) ?_
      refine lv_aload_n hx hb dX12_years_156 rfl (lv_at hl 0 rfl) ?_
      refine u_getp cx hw F_X12_46 o_X12 rfl dX12_years_157 ?_
      refine lv_aload_n hx hb dX12_years_160 rfl (lv_at hl 0 rfl) ?_
      obtain ⟨v8, hv8, hz⟩ := u_bind hz
      refine u_callVi (As := []) (rest := [.ref (G.2.2 11), .ref (G.2.2 0), .ref (G.2.2 0)]) cx hw LV_X12_94 (c_X12_all l G N s7 v8 hv8) o_X12 rfl (by decide) hl.1 rfl (Nat.le_of_ble_eq_true rfl) dX12_years_161 rfl (fun H locs hw => ?_)
      obtain ⟨v9, hv9, hz⟩ := u_bind hz
      refine u_callVi (As := [.ref (G.2.2 11), .int v8]) (rest := [.ref (G.2.2 0)]) cx hw LV_X12_211 (c_X12_beliefs l G N s7 11 v8 v9 hv9) o_X12 rfl (by decide) hl.1 rfl (Nat.le_of_ble_eq_true rfl) dX12_years_164 rfl (fun H locs hw => ?_)
      refine lv_i2l (v := (Int32.toInt64 v9)) hx hb dX12_years_167 rfl ?_
      obtain ⟨s10, hs10, hz⟩ := u_bind hz
      refine u_callVv (As := [.long (Int32.toInt64 v9)]) (rest := []) cx hw LV_X12_260 (c_X12_tell l G N s7 (Int32.toInt64 v9) s10 hs10) o_X12 rfl (by decide) hl.1 rfl (Nat.le_of_ble_eq_true rfl) dX12_years_168 rfl (fun H locs hw => ?_)
      refine lv_aload_n hx hb dX12_years_171 rfl (lv_at hl 0 rfl) ?_
      refine lv_aload_n hx hb dX12_years_172 rfl (lv_at hl 0 rfl) ?_
      refine u_getp cx hw F_X12_46 o_X12 rfl dX12_years_173 ?_
      refine lv_bipush (v := 36) hx hb dX12_years_176 (by decide) ?_
      obtain ⟨v11, hv11, hz⟩ := u_bind hz
      refine u_iald cx hw hv11 dX12_years_178 ?_
      refine lv_aload_n hx hb dX12_years_179 rfl (lv_at hl 0 rfl) ?_
      refine u_getp cx hw F_X12_9 o_X12 rfl dX12_years_180 ?_
      refine lv_bipush (v := 36) hx hb dX12_years_183 (by decide) ?_
      obtain ⟨v12, hv12, hz⟩ := u_bind hz
      refine u_iald cx hw hv12 dX12_years_185 ?_
      refine lv_isub hx hb dX12_years_186 ?_
      refine lv_i2l (v := (Int32.toInt64 (v11 - v12))) hx hb dX12_years_187 rfl ?_
      obtain ⟨s13, hs13, hz⟩ := u_bind hz
      refine u_callVv (As := [.long (Int32.toInt64 (v11 - v12))]) (rest := []) cx hw LV_X12_260 (c_X12_tell l G N s10 (Int32.toInt64 (v11 - v12)) s13 hs13) o_X12 rfl (by decide) hl.1 rfl (Nat.le_of_ble_eq_true rfl) dX12_years_188 rfl (fun H locs hw => ?_)
      refine lv_aload_n hx hb dX12_years_191 rfl (lv_at hl 0 rfl) ?_
      refine lv_aload_n hx hb dX12_years_192 rfl (lv_at hl 0 rfl) ?_
      refine u_getp cx hw F_X12_46 o_X12 rfl dX12_years_193 ?_
      obtain ⟨v14, hv14, hz⟩ := u_bind hz
      refine u_callVi (As := [.ref (G.2.2 11)]) (rest := []) cx hw LV_X12_214 (c_X12_inBits l G N s13 11 v14 hv14) o_X12 rfl (by decide) hl.1 rfl (Nat.le_of_ble_eq_true rfl) dX12_years_196 rfl (fun H locs hw => ?_)
      obtain ⟨v15, hv15, hz⟩ := u_bind hz
      refine u_callSi (As := [.int v14]) (rest := []) cx hw LS_X12_206 (c_J6_bitCount_0f7a4 l G ZM N s13 v14 v15 hv15) (by decide) hl.1 rfl (Nat.le_of_ble_eq_true rfl) dX12_years_199 rfl (fun H locs hw => ?_)
      exact u_iret cx hw (u_pair hz) dX12_years_202
    have WL36_32 : ∀ (k : Nat) (s16 : uS) (x17 : Int32) (H : Heap) (locs : List Loc) (ls : Array Slot), u_lp2 (b_X12_years_36 N p2 J149_6) k s16 x17 = some z → u_W ZM G s16 s H locs → lv_has ls 7 [(0, .ref (G.2.2 0)), (2, .int p2), (3, .int x17)] → W p l e (u_rm 107) s m args below meth c H locs 0 0 (u_Qi below ZM G s args z.1 z.2) (F0 m 36 ls []) := by
      intro k
      induction k with
      | zero =>
        intro s16 x17 H locs ls hz
        exact absurd hz (by intro h9; cases h9)
      | succ k ih36_18 =>
        intro s16 x17 H locs ls hz hw hl
        have hz : (b_X12_years_36 N p2 J149_6) (u_lp2 (b_X12_years_36 N p2 J149_6) k) s16 x17 = some z := hz
        unfold b_X12_years_36 at hz
        refine lv_iload_n hx hb dX12_years_36 rfl (lv_at hl 2 rfl) ?_
        refine lv_iload_n hx hb dX12_years_37 rfl (lv_at hl 1 rfl) ?_
        refine lv_icmp_ge (tgt := 149) hx hb dX12_years_38 (by decide) (fun hc => ?_) (fun hc => ?_)
        · replace hz := u_ift hz hc
          exact WJ149_6 s16 _ _ _ hz hw (lv_sub hl [0] rfl)
        · replace hz := u_iff hz hc
          refine lv_aload_n hx hb dX12_years_41 rfl (lv_at hl 0 rfl) ?_
          refine lv_iconst (v := 4) hx hb dX12_years_42 (by decide) ?_
          obtain ⟨v19, hv19, hz⟩ := u_bind hz
          refine u_callVi (As := [.int 4]) (rest := []) cx hw LV_X12_351 (c_X12_draw l G N s16 4 v19 hv19) o_X12 rfl (by decide) hl.1 rfl (Nat.le_of_ble_eq_true rfl) dX12_years_43 rfl (fun H locs hw => ?_)
          refine lv_istore (lv' := [(4, .int v19.1), (0, .ref (G.2.2 0)), (2, .int p2), (3, .int x17)]) hx hb dX12_years_46 hl (by decide) rfl (fun ls hl => ?_)
          refine lv_iload hx hb dX12_years_48 (lv_at hl 0 rfl) ?_
          refine lv_iconst (v := 2) hx hb dX12_years_50 (by decide) ?_
          obtain ⟨J63_21, eJ63_21, hz⟩ := u_let hz
          have WJ63_21 : ∀ (s20 : uS) (H : Heap) (locs : List Loc) (ls : Array Slot), J63_21 s20 = some z → u_W ZM G s20 s H locs → lv_has ls 7 [(0, .ref (G.2.2 0)), (2, .int p2), (3, .int x17), (4, .int v19.1)] → W p l e (u_rm 107) s m args below meth c H locs 0 0 (u_Qi below ZM G s args z.1 z.2) (F0 m 63 ls []) := by
            intro s20 H locs ls hz hw hl
            rw [eJ63_21] at hz
            refine lv_iload hx hb dX12_years_63 (lv_at hl 3 rfl) ?_
            refine lv_iconst (v := 2) hx hb dX12_years_65 (by decide) ?_
            obtain ⟨J143_23, eJ143_23, hz⟩ := u_let hz
            have WJ143_23 : ∀ (s22 : uS) (H : Heap) (locs : List Loc) (ls : Array Slot), J143_23 s22 = some z → u_W ZM G s22 s H locs → lv_has ls 7 [(0, .ref (G.2.2 0)), (2, .int p2), (3, .int x17)] → W p l e (u_rm 107) s m args below meth c H locs 0 0 (u_Qi below ZM G s args z.1 z.2) (F0 m 143 ls []) := by
              intro s22 H locs ls hz hw hl
              rw [eJ143_23] at hz
              obtain ⟨x24, ex24, hz⟩ := u_let hz
              refine lv_iinc (v := x24) (lv' := [(3, .int x24), (0, .ref (G.2.2 0)), (2, .int p2)]) hx hb dX12_years_143 hl (k := 2) rfl (by rw [ex24]; rfl) (by decide) rfl (fun ls hl => ?_)
              refine lv_goto (tgt := 36) hx hb dX12_years_146 (by decide) ?_
              exact ih36_18 s22 x24 _ _ _ hz hw (lv_sub hl [1, 2, 0] rfl)
            refine lv_icmp_lt (tgt := 143) hx hb dX12_years_66 (by decide) (fun hc => ?_) (fun hc => ?_)
            · replace hz := u_ift hz hc
              exact WJ143_23 s20 _ _ _ hz hw (lv_sub hl [0, 1, 2] rfl)
            · replace hz := u_iff hz hc
              refine lv_aload_n hx hb dX12_years_69 rfl (lv_at hl 0 rfl) ?_
              refine u_geti cx hw F_X12_83 o_X12 rfl dX12_years_70 ?_
              refine lv_if_ne (tgt := 79) hx hb dX12_years_73 (by decide) (fun hc => ?_) (fun hc => ?_)
              · replace hz := u_iff hz hc
                refine lv_aload_n hx hb dX12_years_79 rfl (lv_at hl 0 rfl) ?_
                refine lv_aload_n hx hb dX12_years_80 rfl (lv_at hl 0 rfl) ?_
                refine u_geti cx hw F_X12_83 o_X12 rfl dX12_years_81 ?_
                obtain ⟨v25, hv25, hz⟩ := u_bind hz
                refine u_callVi (As := [.int (s20.1 0 2)]) (rest := []) cx hw LV_X12_351 (c_X12_draw l G N s20 (s20.1 0 2) v25 hv25) o_X12 rfl (by decide) hl.1 rfl (Nat.le_of_ble_eq_true rfl) dX12_years_84 rfl (fun H locs hw => ?_)
                refine lv_istore (lv' := [(5, .int v25.1), (0, .ref (G.2.2 0)), (2, .int p2), (3, .int x17), (4, .int v19.1)]) hx hb dX12_years_87 hl (by decide) rfl (fun ls hl => ?_)
                refine lv_iload hx hb dX12_years_89 (lv_at hl 4 rfl) ?_
                refine lv_iconst (v := 2) hx hb dX12_years_91 (by decide) ?_
                obtain ⟨J109_27, eJ109_27, hz⟩ := u_let hz
                have WJ109_27 : ∀ (s26 : uS) (H : Heap) (locs : List Loc) (ls : Array Slot), J109_27 s26 = some z → u_W ZM G s26 s H locs → lv_has ls 7 [(0, .ref (G.2.2 0)), (2, .int p2), (3, .int x17), (4, .int v19.1), (5, .int v25.1)] → W p l e (u_rm 107) s m args below meth c H locs 0 0 (u_Qi below ZM G s args z.1 z.2) (F0 m 109 ls []) := by
                  intro s26 H locs ls hz hw hl
                  rw [eJ109_27] at hz
                  refine lv_iload hx hb dX12_years_109 (lv_at hl 3 rfl) ?_
                  refine lv_iconst (v := 3) hx hb dX12_years_111 (by decide) ?_
                  refine lv_icmp_ne (tgt := 143) hx hb dX12_years_112 (by decide) (fun hc => ?_) (fun hc => ?_)
                  · replace hz := u_iff hz hc
                    exact WJ143_23 s26 _ _ _ hz hw (lv_sub hl [0, 1, 2] rfl)
                  · replace hz := u_ift hz hc
                    refine lv_aload_n hx hb dX12_years_115 rfl (lv_at hl 0 rfl) ?_
                    refine lv_aload_n hx hb dX12_years_116 rfl (lv_at hl 0 rfl) ?_
                    refine u_geti cx hw F_X12_83 o_X12 rfl dX12_years_117 ?_
                    obtain ⟨v28, hv28, hz⟩ := u_bind hz
                    refine u_callVi (As := [.int (s26.1 0 2)]) (rest := []) cx hw LV_X12_351 (c_X12_draw l G N s26 (s26.1 0 2) v28 hv28) o_X12 rfl (by decide) hl.1 rfl (Nat.le_of_ble_eq_true rfl) dX12_years_120 rfl (fun H locs hw => ?_)
                    refine lv_istore (lv' := [(6, .int v28.1), (0, .ref (G.2.2 0)), (2, .int p2), (3, .int x17), (4, .int v19.1), (5, .int v25.1)]) hx hb dX12_years_123 hl (by decide) rfl (fun ls hl => ?_)
                    refine lv_iload hx hb dX12_years_125 (lv_at hl 0 rfl) ?_
                    refine lv_iload hx hb dX12_years_127 (lv_at hl 5 rfl) ?_
                    refine lv_icmp_eq (tgt := 143) hx hb dX12_years_129 (by decide) (fun hc => ?_) (fun hc => ?_)
                    · replace hz := u_ift hz hc
                      exact WJ143_23 v28.2 _ _ _ hz hw (lv_sub hl [1, 2, 3] rfl)
                    · replace hz := u_iff hz hc
                      refine lv_aload_n hx hb dX12_years_132 rfl (lv_at hl 1 rfl) ?_
                      refine u_getp cx hw F_X12_46 o_X12 rfl dX12_years_133 ?_
                      refine lv_iload hx hb dX12_years_136 (lv_at hl 5 rfl) ?_
                      refine lv_iload hx hb dX12_years_138 (lv_at hl 0 rfl) ?_
                      obtain ⟨s29, hs29, hz⟩ := u_bind hz
                      refine u_callSv (As := [.ref (G.2.2 11), .int v25.1, .int v28.1]) (rest := []) cx hw LS_X12_270 (c_X12_goGlance l G N v28.2 11 v25.1 v28.1 s29 hs29) (by decide) hl.1 rfl (Nat.le_of_ble_eq_true rfl) dX12_years_140 rfl (fun H locs hw => ?_)
                      exact WJ143_23 s29 _ _ _ hz hw (lv_sub hl [1, 2, 3] rfl)
                refine lv_icmp_ne (tgt := 109) hx hb dX12_years_92 (by decide) (fun hc => ?_) (fun hc => ?_)
                · replace hz := u_iff hz hc
                  exact WJ109_27 v25.2 _ _ _ hz hw (lv_sub hl [1, 2, 3, 4, 0] rfl)
                · replace hz := u_ift hz hc
                  refine lv_aload_n hx hb dX12_years_95 rfl (lv_at hl 1 rfl) ?_
                  refine u_getp cx hw F_X12_46 o_X12 rfl dX12_years_96 ?_
                  refine lv_bipush (v := 34) hx hb dX12_years_99 (by decide) ?_
                  refine lv_dup2_11 hx hb dX12_years_101 rfl rfl ?_
                  obtain ⟨v30, hv30, hz⟩ := u_bind hz
                  refine u_iald cx hw hv30 dX12_years_102 ?_
                  refine lv_iconst (v := 1) hx hb dX12_years_103 (by decide) ?_
                  refine lv_iload hx hb dX12_years_104 (lv_at hl 0 rfl) ?_
                  refine lv_ishl hx hb dX12_years_106 ?_
                  refine lv_ior hx hb dX12_years_107 ?_
                  obtain ⟨s31, hs31, hz⟩ := u_bind hz
                  refine u_iast cx hw hs31 dX12_years_108 (fun H locs hw => ?_)
                  exact WJ109_27 s31 _ _ _ hz hw (lv_sub hl [1, 2, 3, 4, 0] rfl)
              · replace hz := u_ift hz hc
                refine lv_goto (tgt := 143) hx hb dX12_years_76 (by decide) ?_
                exact WJ143_23 s20 _ _ _ hz hw (lv_sub hl [0, 1, 2] rfl)
          refine lv_icmp_ge (tgt := 63) hx hb dX12_years_51 (by decide) (fun hc => ?_) (fun hc => ?_)
          · replace hz := u_ift hz hc
            exact WJ63_21 v19.2 _ _ _ hz hw (lv_sub hl [1, 2, 3, 0] rfl)
          · replace hz := u_iff hz hc
            refine lv_aload_n hx hb dX12_years_54 rfl (lv_at hl 1 rfl) ?_
            refine lv_aload_n hx hb dX12_years_55 rfl (lv_at hl 1 rfl) ?_
            refine u_getp cx hw F_X12_46 o_X12 rfl dX12_years_56 ?_
            obtain ⟨v32, hv32, hz⟩ := u_bind hz
            refine u_callVi (As := [.ref (G.2.2 11)]) (rest := []) cx hw LV_X12_250 (c_X12_goCrossing l G N v19.2 11 v32 hv32) o_X12 rfl (by decide) hl.1 rfl (Nat.le_of_ble_eq_true rfl) dX12_years_59 rfl (fun H locs hw => ?_)
            refine lv_pop hx hb dX12_years_62 rfl ?_
            exact WJ63_21 v32.2 _ _ _ hz hw (lv_sub hl [1, 2, 3, 0] rfl)
    exact WL36_32 N s4 0 _ _ _ hz hw (lv_sub hl [1, 3, 0] rfl)
  · replace hz := u_ift hz hc
    refine lv_iconst (v := (-1)) hx hb dX12_years_15 (by decide) ?_
    exact u_iret cx hw (u_pair hz) dX12_years_16
def b_X5_wrongAt_X2_13 (N : Nat) (p2 : Int32) (x1 : Int32) (J47_4 : uS → Option (Int32 × uS)) (rec13_8 : uS → Int32 → Option (Int32 × uS)) (s6 : uS) (x7 : Int32) : Option (Int32 × uS) :=
  if x1 ≤ x7 then (J47_4 s6) else (if p2 ≤ x7 then (some (x7, s6)) else ((f_X10_signAt N s6 x7).bind fun v9 =>
  (f_X2_takes N s6 v9).bind fun v10 =>
  if v10.1 = 0 then (some (x7, v10.2)) else (u_jn (x7 + 1 : Int32) fun x11 =>
  rec13_8 v10.2 x11)))
def f_X5_wrongAt_X2 (N : Nat) (σ : uS) (p2 : Int32) : Option (Int32 × uS) := u_jn ((σ.1 1 1) : Int32) fun x1 =>
  u_jn (u_pI σ 1 1 0) fun s2 =>
  u_jn (fun (s3 : uS) => ((f_X2_takesEnd N s3).bind fun v5 =>
  if v5 = 0 then (some (x1, s3)) else (some ((-1), s3)) : Option (Int32 × uS))) fun J47_4 =>
  u_lp2 (b_X5_wrongAt_X2_13 N p2 x1 J47_4) N s2 0
set_option maxRecDepth 100000 in
set_option maxHeartbeats 4000000 in
theorem c_X5_wrongAt_X2 (l : Launch) (G : uG) (N : Nat) (σ : uS) (p2 : Int32) (z : (Int32 × uS)) (hz : f_X5_wrongAt_X2 N σ p2 = some z) : u_Mi l ZC G yX5_wrongAt cX5_wrongAt 5 .int 2 [.ref (G.2.2 9), .ref (G.2.2 1), .int p2] σ z.1 z.2 := by
  refine u_Mi_of RX5 (by decide) rfl (Nat.le_of_ble_eq_true rfl) ?_
  intro p e s m args below meth c ls cx hw hl
  have hx := cx.1
  have hb := cx.2.1
  have hl : lv_has ls 5 [(0, .ref (G.2.2 9)), (1, .ref (G.2.2 1)), (2, .int p2)] := hl
  unfold f_X5_wrongAt_X2 at hz
  refine lv_aload_n hx hb dX5_wrongAt_0 rfl (lv_at hl 1 rfl) ?_
  refine u_geti cx hw F_X5_9 o_X10 rfl dX5_wrongAt_1 ?_
  obtain ⟨x1, ex1, hz⟩ := u_let hz
  refine u_topi ex1 ?_
  refine lv_istore_n (lv' := [(3, .int x1), (0, .ref (G.2.2 9)), (1, .ref (G.2.2 1)), (2, .int p2)]) hx hb dX5_wrongAt_4 rfl hl (by decide) rfl (fun ls hl => ?_)
  refine lv_aload_n hx hb dX5_wrongAt_5 rfl (lv_at hl 2 rfl) ?_
  refine lv_iconst (v := 0) hx hb dX5_wrongAt_6 (by decide) ?_
  obtain ⟨s2, es2, hz⟩ := u_let hz
  refine u_puti2 cx hw P_X5_9 o_X10 rfl es2 dX5_wrongAt_7 (fun H locs hw => ?_)
  refine lv_iconst (v := 0) hx hb dX5_wrongAt_10 (by decide) ?_
  refine lv_istore (lv' := [(4, .int 0), (3, .int x1), (0, .ref (G.2.2 9)), (1, .ref (G.2.2 1)), (2, .int p2)]) hx hb dX5_wrongAt_11 hl (by decide) rfl (fun ls hl => ?_)
  obtain ⟨J47_4, eJ47_4, hz⟩ := u_let hz
  have WJ47_4 : ∀ (s3 : uS) (H : Heap) (locs : List Loc) (ls : Array Slot), J47_4 s3 = some z → u_W ZC G s3 s H locs → lv_has ls 5 [(0, .ref (G.2.2 9)), (3, .int x1)] → W p l e (u_rm 2) s m args below meth c H locs 0 0 (u_Qi below ZC G s args z.1 z.2) (F0 m 47 ls []) := by
    intro s3 H locs ls hz hw hl
    rw [eJ47_4] at hz
    refine lv_aload_n hx hb dX5_wrongAt_47 rfl (lv_at hl 0 rfl) ?_
    obtain ⟨v5, hv5, hz⟩ := u_bind hz
    refine u_callUi (As := []) (rest := []) cx hw LU_X5_25_X2 (c_X2_takesEnd l G N s3 v5 hv5) o_X2 rfl (by decide) hl.1 rfl (Nat.le_of_ble_eq_true rfl) dX5_wrongAt_48 rfl (fun H locs hw => ?_)
    refine lv_if_eq (tgt := 58) hx hb dX5_wrongAt_51 (by decide) (fun hc => ?_) (fun hc => ?_)
    · replace hz := u_ift hz hc
      refine lv_iload_n hx hb dX5_wrongAt_58 rfl (lv_at hl 1 rfl) ?_
      exact u_iret cx hw (u_pair hz) dX5_wrongAt_59
    · replace hz := u_iff hz hc
      refine lv_iconst (v := (-1)) hx hb dX5_wrongAt_54 (by decide) ?_
      refine lv_goto (tgt := 59) hx hb dX5_wrongAt_55 (by decide) ?_
      exact u_iret cx hw (u_pair hz) dX5_wrongAt_59
  have WL13_11 : ∀ (k : Nat) (s6 : uS) (x7 : Int32) (H : Heap) (locs : List Loc) (ls : Array Slot), u_lp2 (b_X5_wrongAt_X2_13 N p2 x1 J47_4) k s6 x7 = some z → u_W ZC G s6 s H locs → lv_has ls 5 [(0, .ref (G.2.2 9)), (1, .ref (G.2.2 1)), (2, .int p2), (3, .int x1), (4, .int x7)] → W p l e (u_rm 2) s m args below meth c H locs 0 0 (u_Qi below ZC G s args z.1 z.2) (F0 m 13 ls []) := by
    intro k
    induction k with
    | zero =>
      intro s6 x7 H locs ls hz
      exact absurd hz (by intro h9; cases h9)
    | succ k ih13_8 =>
      intro s6 x7 H locs ls hz hw hl
      have hz : (b_X5_wrongAt_X2_13 N p2 x1 J47_4) (u_lp2 (b_X5_wrongAt_X2_13 N p2 x1 J47_4) k) s6 x7 = some z := hz
      unfold b_X5_wrongAt_X2_13 at hz
      refine lv_iload hx hb dX5_wrongAt_13 (lv_at hl 4 rfl) ?_
      refine lv_iload_n hx hb dX5_wrongAt_15 rfl (lv_at hl 3 rfl) ?_
      refine lv_icmp_ge (tgt := 47) hx hb dX5_wrongAt_16 (by decide) (fun hc => ?_) (fun hc => ?_)
      · replace hz := u_ift hz hc
        exact WJ47_4 s6 _ _ _ hz hw (lv_sub hl [0, 3] rfl)
      · replace hz := u_iff hz hc
        refine lv_iload hx hb dX5_wrongAt_19 (lv_at hl 4 rfl) ?_
        refine lv_iload_n hx hb dX5_wrongAt_21 rfl (lv_at hl 2 rfl) ?_
        refine lv_icmp_ge (tgt := 38) hx hb dX5_wrongAt_22 (by decide) (fun hc => ?_) (fun hc => ?_)
        · replace hz := u_ift hz hc
          refine lv_iload hx hb dX5_wrongAt_38 (lv_at hl 4 rfl) ?_
          exact u_iret cx hw (u_pair hz) dX5_wrongAt_40
        · replace hz := u_iff hz hc
          refine lv_aload_n hx hb dX5_wrongAt_25 rfl (lv_at hl 0 rfl) ?_
          refine lv_aload_n hx hb dX5_wrongAt_26 rfl (lv_at hl 1 rfl) ?_
          refine lv_iload hx hb dX5_wrongAt_27 (lv_at hl 4 rfl) ?_
          obtain ⟨v9, hv9, hz⟩ := u_bind hz
          refine u_callVi (As := [.int x7]) (rest := [.ref (G.2.2 9)]) cx hw LV_X5_15 (c_X10_signAt l G N s6 x7 v9 hv9) o_X10 rfl (by decide) hl.1 rfl (Nat.le_of_ble_eq_true rfl) dX5_wrongAt_29 rfl (fun H locs hw => ?_)
          obtain ⟨v10, hv10, hz⟩ := u_bind hz
          refine u_callUi (As := [.int v9]) (rest := []) cx hw LU_X5_19_X2 (c_X2_takes l G N s6 v9 v10 hv10) o_X2 rfl (by decide) hl.1 rfl (Nat.le_of_ble_eq_true rfl) dX5_wrongAt_32 rfl (fun H locs hw => ?_)
          refine lv_if_ne (tgt := 41) hx hb dX5_wrongAt_35 (by decide) (fun hc => ?_) (fun hc => ?_)
          · replace hz := u_iff hz hc
            obtain ⟨x11, ex11, hz⟩ := u_let hz
            refine lv_iinc (v := x11) (lv' := [(4, .int x11), (0, .ref (G.2.2 9)), (1, .ref (G.2.2 1)), (2, .int p2), (3, .int x1)]) hx hb dX5_wrongAt_41 hl (k := 4) rfl (by rw [ex11]; rfl) (by decide) rfl (fun ls hl => ?_)
            refine lv_goto (tgt := 13) hx hb dX5_wrongAt_44 (by decide) ?_
            exact ih13_8 v10.2 x11 _ _ _ hz hw (lv_sub hl [1, 2, 3, 4, 0] rfl)
          · replace hz := u_ift hz hc
            refine lv_iload hx hb dX5_wrongAt_38 (lv_at hl 4 rfl) ?_
            exact u_iret cx hw (u_pair hz) dX5_wrongAt_40
  exact WL13_11 N s2 0 _ _ _ hz hw (lv_sub hl [2, 3, 4, 1, 0] rfl)
def b_X5_wrongAt_X4_13 (N : Nat) (p2 : Int32) (x1 : Int32) (J47_4 : uS → Option (Int32 × uS)) (rec13_8 : uS → Int32 → Option (Int32 × uS)) (s6 : uS) (x7 : Int32) : Option (Int32 × uS) :=
  if x1 ≤ x7 then (J47_4 s6) else (if p2 ≤ x7 then (some (x7, s6)) else ((f_X10_signAt N s6 x7).bind fun v9 =>
  (f_X4_takes N s6 v9).bind fun v10 =>
  if v10.1 = 0 then (some (x7, v10.2)) else (u_jn (x7 + 1 : Int32) fun x11 =>
  rec13_8 v10.2 x11)))
def f_X5_wrongAt_X4 (N : Nat) (σ : uS) (p2 : Int32) : Option (Int32 × uS) := u_jn ((σ.1 1 1) : Int32) fun x1 =>
  u_jn (u_pI σ 1 1 0) fun s2 =>
  u_jn (fun (s3 : uS) => ((f_X4_takesEnd N s3).bind fun v5 =>
  if v5 = 0 then (some (x1, s3)) else (some ((-1), s3)) : Option (Int32 × uS))) fun J47_4 =>
  u_lp2 (b_X5_wrongAt_X4_13 N p2 x1 J47_4) N s2 0
set_option maxRecDepth 100000 in
set_option maxHeartbeats 4000000 in
theorem c_X5_wrongAt_X4 (l : Launch) (G : uG) (N : Nat) (σ : uS) (p2 : Int32) (z : (Int32 × uS)) (hz : f_X5_wrongAt_X4 N σ p2 = some z) : u_Mi l ZC G yX5_wrongAt cX5_wrongAt 5 .int 3 [.ref (G.2.2 11), .ref (G.2.2 1), .int p2] σ z.1 z.2 := by
  refine u_Mi_of RX5 (by decide) rfl (Nat.le_of_ble_eq_true rfl) ?_
  intro p e s m args below meth c ls cx hw hl
  have hx := cx.1
  have hb := cx.2.1
  have hl : lv_has ls 5 [(0, .ref (G.2.2 11)), (1, .ref (G.2.2 1)), (2, .int p2)] := hl
  unfold f_X5_wrongAt_X4 at hz
  refine lv_aload_n hx hb dX5_wrongAt_0 rfl (lv_at hl 1 rfl) ?_
  refine u_geti cx hw F_X5_9 o_X10 rfl dX5_wrongAt_1 ?_
  obtain ⟨x1, ex1, hz⟩ := u_let hz
  refine u_topi ex1 ?_
  refine lv_istore_n (lv' := [(3, .int x1), (0, .ref (G.2.2 11)), (1, .ref (G.2.2 1)), (2, .int p2)]) hx hb dX5_wrongAt_4 rfl hl (by decide) rfl (fun ls hl => ?_)
  refine lv_aload_n hx hb dX5_wrongAt_5 rfl (lv_at hl 2 rfl) ?_
  refine lv_iconst (v := 0) hx hb dX5_wrongAt_6 (by decide) ?_
  obtain ⟨s2, es2, hz⟩ := u_let hz
  refine u_puti2 cx hw P_X5_9 o_X10 rfl es2 dX5_wrongAt_7 (fun H locs hw => ?_)
  refine lv_iconst (v := 0) hx hb dX5_wrongAt_10 (by decide) ?_
  refine lv_istore (lv' := [(4, .int 0), (3, .int x1), (0, .ref (G.2.2 11)), (1, .ref (G.2.2 1)), (2, .int p2)]) hx hb dX5_wrongAt_11 hl (by decide) rfl (fun ls hl => ?_)
  obtain ⟨J47_4, eJ47_4, hz⟩ := u_let hz
  have WJ47_4 : ∀ (s3 : uS) (H : Heap) (locs : List Loc) (ls : Array Slot), J47_4 s3 = some z → u_W ZC G s3 s H locs → lv_has ls 5 [(0, .ref (G.2.2 11)), (3, .int x1)] → W p l e (u_rm 3) s m args below meth c H locs 0 0 (u_Qi below ZC G s args z.1 z.2) (F0 m 47 ls []) := by
    intro s3 H locs ls hz hw hl
    rw [eJ47_4] at hz
    refine lv_aload_n hx hb dX5_wrongAt_47 rfl (lv_at hl 0 rfl) ?_
    obtain ⟨v5, hv5, hz⟩ := u_bind hz
    refine u_callUi (As := []) (rest := []) cx hw LU_X5_25_X4 (c_X4_takesEnd l G N s3 v5 hv5) o_X4 rfl (by decide) hl.1 rfl (Nat.le_of_ble_eq_true rfl) dX5_wrongAt_48 rfl (fun H locs hw => ?_)
    refine lv_if_eq (tgt := 58) hx hb dX5_wrongAt_51 (by decide) (fun hc => ?_) (fun hc => ?_)
    · replace hz := u_ift hz hc
      refine lv_iload_n hx hb dX5_wrongAt_58 rfl (lv_at hl 1 rfl) ?_
      exact u_iret cx hw (u_pair hz) dX5_wrongAt_59
    · replace hz := u_iff hz hc
      refine lv_iconst (v := (-1)) hx hb dX5_wrongAt_54 (by decide) ?_
      refine lv_goto (tgt := 59) hx hb dX5_wrongAt_55 (by decide) ?_
      exact u_iret cx hw (u_pair hz) dX5_wrongAt_59
  have WL13_11 : ∀ (k : Nat) (s6 : uS) (x7 : Int32) (H : Heap) (locs : List Loc) (ls : Array Slot), u_lp2 (b_X5_wrongAt_X4_13 N p2 x1 J47_4) k s6 x7 = some z → u_W ZC G s6 s H locs → lv_has ls 5 [(0, .ref (G.2.2 11)), (1, .ref (G.2.2 1)), (2, .int p2), (3, .int x1), (4, .int x7)] → W p l e (u_rm 3) s m args below meth c H locs 0 0 (u_Qi below ZC G s args z.1 z.2) (F0 m 13 ls []) := by
    intro k
    induction k with
    | zero =>
      intro s6 x7 H locs ls hz
      exact absurd hz (by intro h9; cases h9)
    | succ k ih13_8 =>
      intro s6 x7 H locs ls hz hw hl
      have hz : (b_X5_wrongAt_X4_13 N p2 x1 J47_4) (u_lp2 (b_X5_wrongAt_X4_13 N p2 x1 J47_4) k) s6 x7 = some z := hz
      unfold b_X5_wrongAt_X4_13 at hz
      refine lv_iload hx hb dX5_wrongAt_13 (lv_at hl 4 rfl) ?_
      refine lv_iload_n hx hb dX5_wrongAt_15 rfl (lv_at hl 3 rfl) ?_
      refine lv_icmp_ge (tgt := 47) hx hb dX5_wrongAt_16 (by decide) (fun hc => ?_) (fun hc => ?_)
      · replace hz := u_ift hz hc
        exact WJ47_4 s6 _ _ _ hz hw (lv_sub hl [0, 3] rfl)
      · replace hz := u_iff hz hc
        refine lv_iload hx hb dX5_wrongAt_19 (lv_at hl 4 rfl) ?_
        refine lv_iload_n hx hb dX5_wrongAt_21 rfl (lv_at hl 2 rfl) ?_
        refine lv_icmp_ge (tgt := 38) hx hb dX5_wrongAt_22 (by decide) (fun hc => ?_) (fun hc => ?_)
        · replace hz := u_ift hz hc
          refine lv_iload hx hb dX5_wrongAt_38 (lv_at hl 4 rfl) ?_
          exact u_iret cx hw (u_pair hz) dX5_wrongAt_40
        · replace hz := u_iff hz hc
          refine lv_aload_n hx hb dX5_wrongAt_25 rfl (lv_at hl 0 rfl) ?_
          refine lv_aload_n hx hb dX5_wrongAt_26 rfl (lv_at hl 1 rfl) ?_
          refine lv_iload hx hb dX5_wrongAt_27 (lv_at hl 4 rfl) ?_
          obtain ⟨v9, hv9, hz⟩ := u_bind hz
          refine u_callVi (As := [.int x7]) (rest := [.ref (G.2.2 11)]) cx hw LV_X5_15 (c_X10_signAt l G N s6 x7 v9 hv9) o_X10 rfl (by decide) hl.1 rfl (Nat.le_of_ble_eq_true rfl) dX5_wrongAt_29 rfl (fun H locs hw => ?_)
          obtain ⟨v10, hv10, hz⟩ := u_bind hz
          refine u_callUi (As := [.int v9]) (rest := []) cx hw LU_X5_19_X4 (c_X4_takes l G N s6 v9 v10 hv10) o_X4 rfl (by decide) hl.1 rfl (Nat.le_of_ble_eq_true rfl) dX5_wrongAt_32 rfl (fun H locs hw => ?_)
          refine lv_if_ne (tgt := 41) hx hb dX5_wrongAt_35 (by decide) (fun hc => ?_) (fun hc => ?_)
          · replace hz := u_iff hz hc
            obtain ⟨x11, ex11, hz⟩ := u_let hz
            refine lv_iinc (v := x11) (lv' := [(4, .int x11), (0, .ref (G.2.2 11)), (1, .ref (G.2.2 1)), (2, .int p2), (3, .int x1)]) hx hb dX5_wrongAt_41 hl (k := 4) rfl (by rw [ex11]; rfl) (by decide) rfl (fun ls hl => ?_)
            refine lv_goto (tgt := 13) hx hb dX5_wrongAt_44 (by decide) ?_
            exact ih13_8 v10.2 x11 _ _ _ hz hw (lv_sub hl [1, 2, 3, 4, 0] rfl)
          · replace hz := u_ift hz hc
            refine lv_iload hx hb dX5_wrongAt_38 (lv_at hl 4 rfl) ?_
            exact u_iret cx hw (u_pair hz) dX5_wrongAt_40
  exact WL13_11 N s2 0 _ _ _ hz hw (lv_sub hl [2, 3, 4, 1, 0] rfl)
theorem dX11_field_0 : decode cX11_field 0 = .ok (.aload_n 0, 1) := by decide +kernel
theorem dX11_field_1 : decode cX11_field 1 = .ok (.getfield 53, 3) := by decide +kernel
theorem dX11_field_4 : decode cX11_field 4 = .ok (.invokevirtual 104, 3) := by decide +kernel
theorem dX11_field_7 : decode cX11_field 7 = .ok (.aload_n 0, 1) := by decide +kernel
theorem dX11_field_8 : decode cX11_field 8 = .ok (.getfield 53, 3) := by decide +kernel
theorem dX11_field_11 : decode cX11_field 11 = .ok (.aload_n 0, 1) := by decide +kernel
theorem dX11_field_12 : decode cX11_field 12 = .ok (.getfield 10, 3) := by decide +kernel
theorem dX11_field_15 : decode cX11_field 15 = .ok (.bipush 16, 2) := by decide +kernel
theorem dX11_field_17 : decode cX11_field 17 = .ok (.invokevirtual 107, 3) := by decide +kernel
theorem dX11_field_20 : decode cX11_field 20 = .ok (.istore_n 1, 1) := by decide +kernel
theorem dX11_field_21 : decode cX11_field 21 = .ok (.iload_n 1, 1) := by decide +kernel
theorem dX11_field_22 : decode cX11_field 22 = .ok (.ifCond .lt 7, 3) := by decide +kernel
theorem dX11_field_25 : decode cX11_field 25 = .ok (.iconst (-1), 1) := by decide +kernel
theorem dX11_field_26 : decode cX11_field 26 = .ok (.iload_n 1, 1) := by decide +kernel
theorem dX11_field_27 : decode cX11_field 27 = .ok (.isub, 1) := by decide +kernel
theorem dX11_field_28 : decode cX11_field 28 = .ok (.ireturn, 1) := by decide +kernel
theorem dX11_field_29 : decode cX11_field 29 = .ok (.aload_n 0, 1) := by decide +kernel
theorem dX11_field_30 : decode cX11_field 30 = .ok (.getfield 26, 3) := by decide +kernel
theorem dX11_field_33 : decode cX11_field 33 = .ok (.aload_n 0, 1) := by decide +kernel
theorem dX11_field_34 : decode cX11_field 34 = .ok (.getfield 53, 3) := by decide +kernel
theorem dX11_field_37 : decode cX11_field 37 = .ok (.invokevirtual 111, 3) := by decide +kernel
theorem dX11_field_40 : decode cX11_field 40 = .ok (.aload_n 0, 1) := by decide +kernel
theorem dX11_field_41 : decode cX11_field 41 = .ok (.getfield 46, 3) := by decide +kernel
theorem dX11_field_44 : decode cX11_field 44 = .ok (.invokevirtual 115, 3) := by decide +kernel
theorem dX11_field_47 : decode cX11_field 47 = .ok (.aload_n 0, 1) := by decide +kernel
theorem dX11_field_48 : decode cX11_field 48 = .ok (.getfield 39, 3) := by decide +kernel
theorem dX11_field_51 : decode cX11_field 51 = .ok (.invokevirtual 118, 3) := by decide +kernel
theorem dX11_field_54 : decode cX11_field 54 = .ok (.aload_n 0, 1) := by decide +kernel
theorem dX11_field_55 : decode cX11_field 55 = .ok (.getfield 26, 3) := by decide +kernel
theorem dX11_field_58 : decode cX11_field 58 = .ok (.getfield 119, 3) := by decide +kernel
theorem dX11_field_61 : decode cX11_field 61 = .ok (.ireturn, 1) := by decide +kernel
def f_X11_field (N : Nat) (σ : uS) : Option (Int32 × uS) := (f_X2_begin N σ).bind fun s1 =>
  (f_X5_wrongAt_X2 N s1 16).bind fun v2 =>
  if v2.1 < 0 then ((f_X7_lay N v2.2 32).bind fun s3 =>
  (f_X0_clear N s3).bind fun s4 =>
  (f_X3_clear N s4).bind fun s5 =>
  some ((s5.1 32 5), s5)) else (some (((-1) - v2.1), v2.2))
set_option maxRecDepth 100000 in
set_option maxHeartbeats 4000000 in
theorem c_X11_field (l : Launch) (G : uG) (N : Nat) (σ : uS) (z : (Int32 × uS)) (hz : f_X11_field N σ = some z) : u_Mi l ZC G yX11_field cX11_field 2 .int 3 [.ref (G.2.2 0)] σ z.1 z.2 := by
  refine u_Mi_of RX11 (by decide) rfl (Nat.le_of_ble_eq_true rfl) ?_
  intro p e s m args below meth c ls cx hw hl
  have hx := cx.1
  have hb := cx.2.1
  have hl : lv_has ls 2 [(0, .ref (G.2.2 0))] := hl
  unfold f_X11_field at hz
  refine lv_aload_n hx hb dX11_field_0 rfl (lv_at hl 0 rfl) ?_
  refine u_getp cx hw F_X11_53 o_X11 rfl dX11_field_1 ?_
  obtain ⟨s1, hs1, hz⟩ := u_bind hz
  refine u_callVv (As := []) (rest := []) cx hw LV_X11_104 (c_X2_begin l G N σ s1 hs1) o_X2 rfl (by decide) hl.1 rfl (Nat.le_of_ble_eq_true rfl) dX11_field_4 rfl (fun H locs hw => ?_)
  refine lv_aload_n hx hb dX11_field_7 rfl (lv_at hl 0 rfl) ?_
  refine u_getp cx hw F_X11_53 o_X11 rfl dX11_field_8 ?_
  refine lv_aload_n hx hb dX11_field_11 rfl (lv_at hl 0 rfl) ?_
  refine u_getp cx hw F_X11_10 o_X11 rfl dX11_field_12 ?_
  refine lv_bipush (v := 16) hx hb dX11_field_15 (by decide) ?_
  obtain ⟨v2, hv2, hz⟩ := u_bind hz
  refine u_callUi (As := [.ref (G.2.2 1), .int 16]) (rest := []) cx hw LU_X11_107 (c_X5_wrongAt_X2 l G N s1 16 v2 hv2) o_X2 rfl (by decide) hl.1 rfl (Nat.le_of_ble_eq_true rfl) dX11_field_17 rfl (fun H locs hw => ?_)
  refine lv_istore_n (lv' := [(1, .int v2.1), (0, .ref (G.2.2 0))]) hx hb dX11_field_20 rfl hl (by decide) rfl (fun ls hl => ?_)
  refine lv_iload_n hx hb dX11_field_21 rfl (lv_at hl 0 rfl) ?_
  refine lv_if_lt (tgt := 29) hx hb dX11_field_22 (by decide) (fun hc => ?_) (fun hc => ?_)
  · replace hz := u_ift hz hc
    refine lv_aload_n hx hb dX11_field_29 rfl (lv_at hl 1 rfl) ?_
    refine u_getp cx hw F_X11_26 o_X11 rfl dX11_field_30 ?_
    refine lv_aload_n hx hb dX11_field_33 rfl (lv_at hl 1 rfl) ?_
    refine u_getp cx hw F_X11_53 o_X11 rfl dX11_field_34 ?_
    obtain ⟨s3, hs3, hz⟩ := u_bind hz
    refine u_callVv (As := [.ref (G.2.2 9)]) (rest := []) cx hw LV_X11_111 (c_X7_lay l G N v2.2 32 oS_32 s3 hs3) oS_32 rfl (by decide) hl.1 rfl (Nat.le_of_ble_eq_true rfl) dX11_field_37 rfl (fun H locs hw => ?_)
    refine lv_aload_n hx hb dX11_field_40 rfl (lv_at hl 1 rfl) ?_
    refine u_getp cx hw F_X11_46 o_X11 rfl dX11_field_41 ?_
    obtain ⟨s4, hs4, hz⟩ := u_bind hz
    refine u_callVv (As := []) (rest := []) cx hw LV_X11_115 (c_X0_clear l G N s3 s4 hs4) o_X0 rfl (by decide) hl.1 rfl (Nat.le_of_ble_eq_true rfl) dX11_field_44 rfl (fun H locs hw => ?_)
    refine lv_aload_n hx hb dX11_field_47 rfl (lv_at hl 1 rfl) ?_
    refine u_getp cx hw F_X11_39 o_X11 rfl dX11_field_48 ?_
    obtain ⟨s5, hs5, hz⟩ := u_bind hz
    refine u_callVv (As := []) (rest := []) cx hw LV_X11_118 (c_X3_clear l G N s4 s5 hs5) o_X3 rfl (by decide) hl.1 rfl (Nat.le_of_ble_eq_true rfl) dX11_field_51 rfl (fun H locs hw => ?_)
    refine lv_aload_n hx hb dX11_field_54 rfl (lv_at hl 1 rfl) ?_
    refine u_getp cx hw F_X11_26 o_X11 rfl dX11_field_55 ?_
    refine u_geti cx hw F_X11_119 oS_32 rfl dX11_field_58 ?_
    exact u_iret cx hw (u_pair hz) dX11_field_61
  · replace hz := u_iff hz hc
    refine lv_iconst (v := (-1)) hx hb dX11_field_25 (by decide) ?_
    refine lv_iload_n hx hb dX11_field_26 rfl (lv_at hl 0 rfl) ?_
    refine lv_isub hx hb dX11_field_27 ?_
    exact u_iret cx hw (u_pair hz) dX11_field_28
theorem dX11_people_0 : decode cX11_people 0 = .ok (.aload_n 0, 1) := by decide +kernel
theorem dX11_people_1 : decode cX11_people 1 = .ok (.getfield 10, 3) := by decide +kernel
theorem dX11_people_4 : decode cX11_people 4 = .ok (.getfield 100, 3) := by decide +kernel
theorem dX11_people_7 : decode cX11_people 7 = .ok (.ifCond .ne 5, 3) := by decide +kernel
theorem dX11_people_10 : decode cX11_people 10 = .ok (.iconst 0, 1) := by decide +kernel
theorem dX11_people_11 : decode cX11_people 11 = .ok (.ireturn, 1) := by decide +kernel
theorem dX11_people_12 : decode cX11_people 12 = .ok (.aload_n 0, 1) := by decide +kernel
theorem dX11_people_13 : decode cX11_people 13 = .ok (.getfield 60, 3) := by decide +kernel
theorem dX11_people_16 : decode cX11_people 16 = .ok (.aload_n 0, 1) := by decide +kernel
theorem dX11_people_17 : decode cX11_people 17 = .ok (.getfield 26, 3) := by decide +kernel
theorem dX11_people_20 : decode cX11_people 20 = .ok (.getfield 122, 3) := by decide +kernel
theorem dX11_people_23 : decode cX11_people 23 = .ok (.invokevirtual 125, 3) := by decide +kernel
theorem dX11_people_26 : decode cX11_people 26 = .ok (.aload_n 0, 1) := by decide +kernel
theorem dX11_people_27 : decode cX11_people 27 = .ok (.getfield 60, 3) := by decide +kernel
theorem dX11_people_30 : decode cX11_people 30 = .ok (.aload_n 0, 1) := by decide +kernel
theorem dX11_people_31 : decode cX11_people 31 = .ok (.getfield 10, 3) := by decide +kernel
theorem dX11_people_34 : decode cX11_people 34 = .ok (.bipush 76, 2) := by decide +kernel
theorem dX11_people_36 : decode cX11_people 36 = .ok (.invokevirtual 128, 3) := by decide +kernel
theorem dX11_people_39 : decode cX11_people 39 = .ok (.istore_n 1, 1) := by decide +kernel
theorem dX11_people_40 : decode cX11_people 40 = .ok (.iload_n 1, 1) := by decide +kernel
theorem dX11_people_41 : decode cX11_people 41 = .ok (.ifCond .lt 7, 3) := by decide +kernel
theorem dX11_people_44 : decode cX11_people 44 = .ok (.iconst (-1), 1) := by decide +kernel
theorem dX11_people_45 : decode cX11_people 45 = .ok (.iload_n 1, 1) := by decide +kernel
theorem dX11_people_46 : decode cX11_people 46 = .ok (.isub, 1) := by decide +kernel
theorem dX11_people_47 : decode cX11_people 47 = .ok (.ireturn, 1) := by decide +kernel
theorem dX11_people_48 : decode cX11_people 48 = .ok (.aload_n 0, 1) := by decide +kernel
theorem dX11_people_49 : decode cX11_people 49 = .ok (.getfield 26, 3) := by decide +kernel
theorem dX11_people_52 : decode cX11_people 52 = .ok (.aload_n 0, 1) := by decide +kernel
theorem dX11_people_53 : decode cX11_people 53 = .ok (.getfield 60, 3) := by decide +kernel
theorem dX11_people_56 : decode cX11_people 56 = .ok (.invokevirtual 129, 3) := by decide +kernel
theorem dX11_people_59 : decode cX11_people 59 = .ok (.aload_n 0, 1) := by decide +kernel
theorem dX11_people_60 : decode cX11_people 60 = .ok (.getfield 39, 3) := by decide +kernel
theorem dX11_people_63 : decode cX11_people 63 = .ok (.invokevirtual 118, 3) := by decide +kernel
theorem dX11_people_66 : decode cX11_people 66 = .ok (.aload_n 0, 1) := by decide +kernel
theorem dX11_people_67 : decode cX11_people 67 = .ok (.getfield 60, 3) := by decide +kernel
theorem dX11_people_70 : decode cX11_people 70 = .ok (.getfield 133, 3) := by decide +kernel
theorem dX11_people_73 : decode cX11_people 73 = .ok (.ireturn, 1) := by decide +kernel
def f_X11_people (N : Nat) (σ : uS) : Option (Int32 × uS) := if (σ.1 1 1) = 0 then (some (0, σ)) else ((f_X4_begin N σ (σ.1 32 8)).bind fun s1 =>
  (f_X5_wrongAt_X4 N s1 76).bind fun v2 =>
  if v2.1 < 0 then ((f_X7_join N v2.2 32).bind fun s3 =>
  (f_X3_clear N s3).bind fun s4 =>
  some ((s4.1 11 4), s4)) else (some (((-1) - v2.1), v2.2)))
set_option maxRecDepth 100000 in
set_option maxHeartbeats 4000000 in
theorem c_X11_people (l : Launch) (G : uG) (N : Nat) (σ : uS) (z : (Int32 × uS)) (hz : f_X11_people N σ = some z) : u_Mi l ZC G yX11_people cX11_people 2 .int 4 [.ref (G.2.2 0)] σ z.1 z.2 := by
  refine u_Mi_of RX11 (by decide) rfl (Nat.le_of_ble_eq_true rfl) ?_
  intro p e s m args below meth c ls cx hw hl
  have hx := cx.1
  have hb := cx.2.1
  have hl : lv_has ls 2 [(0, .ref (G.2.2 0))] := hl
  unfold f_X11_people at hz
  refine lv_aload_n hx hb dX11_people_0 rfl (lv_at hl 0 rfl) ?_
  refine u_getp cx hw F_X11_10 o_X11 rfl dX11_people_1 ?_
  refine u_geti cx hw F_X11_100 o_X10 rfl dX11_people_4 ?_
  refine lv_if_ne (tgt := 12) hx hb dX11_people_7 (by decide) (fun hc => ?_) (fun hc => ?_)
  · replace hz := u_iff hz hc
    refine lv_aload_n hx hb dX11_people_12 rfl (lv_at hl 0 rfl) ?_
    refine u_getp cx hw F_X11_60 o_X11 rfl dX11_people_13 ?_
    refine lv_aload_n hx hb dX11_people_16 rfl (lv_at hl 0 rfl) ?_
    refine u_getp cx hw F_X11_26 o_X11 rfl dX11_people_17 ?_
    refine u_geti cx hw F_X11_122 oS_32 rfl dX11_people_20 ?_
    obtain ⟨s1, hs1, hz⟩ := u_bind hz
    refine u_callVv (As := [.int (σ.1 32 8)]) (rest := []) cx hw LV_X11_125 (c_X4_begin l G N σ (σ.1 32 8) s1 hs1) o_X4 rfl (by decide) hl.1 rfl (Nat.le_of_ble_eq_true rfl) dX11_people_23 rfl (fun H locs hw => ?_)
    refine lv_aload_n hx hb dX11_people_26 rfl (lv_at hl 0 rfl) ?_
    refine u_getp cx hw F_X11_60 o_X11 rfl dX11_people_27 ?_
    refine lv_aload_n hx hb dX11_people_30 rfl (lv_at hl 0 rfl) ?_
    refine u_getp cx hw F_X11_10 o_X11 rfl dX11_people_31 ?_
    refine lv_bipush (v := 76) hx hb dX11_people_34 (by decide) ?_
    obtain ⟨v2, hv2, hz⟩ := u_bind hz
    refine u_callUi (As := [.ref (G.2.2 1), .int 76]) (rest := []) cx hw LU_X11_128 (c_X5_wrongAt_X4 l G N s1 76 v2 hv2) o_X4 rfl (by decide) hl.1 rfl (Nat.le_of_ble_eq_true rfl) dX11_people_36 rfl (fun H locs hw => ?_)
    refine lv_istore_n (lv' := [(1, .int v2.1), (0, .ref (G.2.2 0))]) hx hb dX11_people_39 rfl hl (by decide) rfl (fun ls hl => ?_)
    refine lv_iload_n hx hb dX11_people_40 rfl (lv_at hl 0 rfl) ?_
    refine lv_if_lt (tgt := 48) hx hb dX11_people_41 (by decide) (fun hc => ?_) (fun hc => ?_)
    · replace hz := u_ift hz hc
      refine lv_aload_n hx hb dX11_people_48 rfl (lv_at hl 1 rfl) ?_
      refine u_getp cx hw F_X11_26 o_X11 rfl dX11_people_49 ?_
      refine lv_aload_n hx hb dX11_people_52 rfl (lv_at hl 1 rfl) ?_
      refine u_getp cx hw F_X11_60 o_X11 rfl dX11_people_53 ?_
      obtain ⟨s3, hs3, hz⟩ := u_bind hz
      refine u_callVv (As := [.ref (G.2.2 11)]) (rest := []) cx hw LV_X11_129 (c_X7_join l G N v2.2 32 oS_32 s3 hs3) oS_32 rfl (by decide) hl.1 rfl (Nat.le_of_ble_eq_true rfl) dX11_people_56 rfl (fun H locs hw => ?_)
      refine lv_aload_n hx hb dX11_people_59 rfl (lv_at hl 1 rfl) ?_
      refine u_getp cx hw F_X11_39 o_X11 rfl dX11_people_60 ?_
      obtain ⟨s4, hs4, hz⟩ := u_bind hz
      refine u_callVv (As := []) (rest := []) cx hw LV_X11_118 (c_X3_clear l G N s3 s4 hs4) o_X3 rfl (by decide) hl.1 rfl (Nat.le_of_ble_eq_true rfl) dX11_people_63 rfl (fun H locs hw => ?_)
      refine lv_aload_n hx hb dX11_people_66 rfl (lv_at hl 1 rfl) ?_
      refine u_getp cx hw F_X11_60 o_X11 rfl dX11_people_67 ?_
      refine u_geti cx hw F_X11_133 o_X4 rfl dX11_people_70 ?_
      exact u_iret cx hw (u_pair hz) dX11_people_73
    · replace hz := u_iff hz hc
      refine lv_iconst (v := (-1)) hx hb dX11_people_44 (by decide) ?_
      refine lv_iload_n hx hb dX11_people_45 rfl (lv_at hl 0 rfl) ?_
      refine lv_isub hx hb dX11_people_46 ?_
      exact u_iret cx hw (u_pair hz) dX11_people_47
  · replace hz := u_ift hz hc
    refine lv_iconst (v := 0) hx hb dX11_people_10 (by decide) ?_
    exact u_iret cx hw (u_pair hz) dX11_people_11
theorem dX12_week_0 : decode cX12_week 0 = .ok (.aload_n 0, 1) := by decide +kernel
theorem dX12_week_1 : decode cX12_week 1 = .ok (.iconst 0, 1) := by decide +kernel
theorem dX12_week_2 : decode cX12_week 2 = .ok (.putfield 77, 3) := by decide +kernel
theorem dX12_week_5 : decode cX12_week 5 = .ok (.aload_n 0, 1) := by decide +kernel
theorem dX12_week_6 : decode cX12_week 6 = .ok (.bipush 60, 2) := by decide +kernel
theorem dX12_week_8 : decode cX12_week 8 = .ok (.invokevirtual 145, 3) := by decide +kernel
theorem dX12_week_11 : decode cX12_week 11 = .ok (.iconst 0, 1) := by decide +kernel
theorem dX12_week_12 : decode cX12_week 12 = .ok (.istore_n 1, 1) := by decide +kernel
theorem dX12_week_13 : decode cX12_week 13 = .ok (.aload_n 0, 1) := by decide +kernel
theorem dX12_week_14 : decode cX12_week 14 = .ok (.invokevirtual 120, 3) := by decide +kernel
theorem dX12_week_17 : decode cX12_week 17 = .ok (.ifCond .eq 27, 3) := by decide +kernel
theorem dX12_week_20 : decode cX12_week 20 = .ok (.aload_n 0, 1) := by decide +kernel
theorem dX12_week_21 : decode cX12_week 21 = .ok (.getfield 110, 3) := by decide +kernel
theorem dX12_week_24 : decode cX12_week 24 = .ok (.aload_n 0, 1) := by decide +kernel
theorem dX12_week_25 : decode cX12_week 25 = .ok (.getfield 104, 3) := by decide +kernel
theorem dX12_week_28 : decode cX12_week 28 = .ok (.if_icmp .ge 16, 3) := by decide +kernel
theorem dX12_week_31 : decode cX12_week 31 = .ok (.aload_n 0, 1) := by decide +kernel
theorem dX12_week_32 : decode cX12_week 32 = .ok (.iconst 3, 1) := by decide +kernel
theorem dX12_week_33 : decode cX12_week 33 = .ok (.iload_n 1, 1) := by decide +kernel
theorem dX12_week_34 : decode cX12_week 34 = .ok (.imul, 1) := by decide +kernel
theorem dX12_week_35 : decode cX12_week 35 = .ok (.invokevirtual 274, 3) := by decide +kernel
theorem dX12_week_38 : decode cX12_week 38 = .ok (.iinc 1 1, 3) := by decide +kernel
theorem dX12_week_41 : decode cX12_week 41 = .ok (.goto (-28), 3) := by decide +kernel
theorem dX12_week_44 : decode cX12_week 44 = .ok (.aload_n 0, 1) := by decide +kernel
theorem dX12_week_45 : decode cX12_week 45 = .ok (.invokevirtual 148, 3) := by decide +kernel
theorem dX12_week_48 : decode cX12_week 48 = .ok (.ifCond .ne 10, 3) := by decide +kernel
theorem dX12_week_51 : decode cX12_week 51 = .ok (.iconst (-1), 1) := by decide +kernel
theorem dX12_week_52 : decode cX12_week 52 = .ok (.aload_n 0, 1) := by decide +kernel
theorem dX12_week_53 : decode cX12_week 53 = .ok (.getfield 113, 3) := by decide +kernel
theorem dX12_week_56 : decode cX12_week 56 = .ok (.isub, 1) := by decide +kernel
theorem dX12_week_57 : decode cX12_week 57 = .ok (.ireturn, 1) := by decide +kernel
theorem dX12_week_58 : decode cX12_week 58 = .ok (.aload_n 0, 1) := by decide +kernel
theorem dX12_week_59 : decode cX12_week 59 = .ok (.getfield 9, 3) := by decide +kernel
theorem dX12_week_62 : decode cX12_week 62 = .ok (.aload_n 0, 1) := by decide +kernel
theorem dX12_week_63 : decode cX12_week 63 = .ok (.getfield 43, 3) := by decide +kernel
theorem dX12_week_66 : decode cX12_week 66 = .ok (.iconst 0, 1) := by decide +kernel
theorem dX12_week_67 : decode cX12_week 67 = .ok (.invokestatic 242, 3) := by decide +kernel
theorem dX12_week_70 : decode cX12_week 70 = .ok (.iconst 0, 1) := by decide +kernel
theorem dX12_week_71 : decode cX12_week 71 = .ok (.istore_n 2, 1) := by decide +kernel
theorem dX12_week_72 : decode cX12_week 72 = .ok (.iload_n 2, 1) := by decide +kernel
theorem dX12_week_73 : decode cX12_week 73 = .ok (.iload_n 1, 1) := by decide +kernel
theorem dX12_week_74 : decode cX12_week 74 = .ok (.if_icmp .ge 44, 3) := by decide +kernel
theorem dX12_week_77 : decode cX12_week 77 = .ok (.aload_n 0, 1) := by decide +kernel
theorem dX12_week_78 : decode cX12_week 78 = .ok (.aload_n 0, 1) := by decide +kernel
theorem dX12_week_79 : decode cX12_week 79 = .ok (.getfield 55, 3) := by decide +kernel
theorem dX12_week_82 : decode cX12_week 82 = .ok (.iconst 3, 1) := by decide +kernel
theorem dX12_week_83 : decode cX12_week 83 = .ok (.iload_n 2, 1) := by decide +kernel
theorem dX12_week_84 : decode cX12_week 84 = .ok (.imul, 1) := by decide +kernel
theorem dX12_week_85 : decode cX12_week 85 = .ok (.iaload, 1) := by decide +kernel
theorem dX12_week_86 : decode cX12_week 86 = .ok (.aload_n 0, 1) := by decide +kernel
theorem dX12_week_87 : decode cX12_week 87 = .ok (.getfield 55, 3) := by decide +kernel
theorem dX12_week_90 : decode cX12_week 90 = .ok (.iconst 3, 1) := by decide +kernel
theorem dX12_week_91 : decode cX12_week 91 = .ok (.iload_n 2, 1) := by decide +kernel
theorem dX12_week_92 : decode cX12_week 92 = .ok (.imul, 1) := by decide +kernel
theorem dX12_week_93 : decode cX12_week 93 = .ok (.iconst 1, 1) := by decide +kernel
theorem dX12_week_94 : decode cX12_week 94 = .ok (.iadd, 1) := by decide +kernel
theorem dX12_week_95 : decode cX12_week 95 = .ok (.iaload, 1) := by decide +kernel
theorem dX12_week_96 : decode cX12_week 96 = .ok (.aload_n 0, 1) := by decide +kernel
theorem dX12_week_97 : decode cX12_week 97 = .ok (.getfield 55, 3) := by decide +kernel
theorem dX12_week_100 : decode cX12_week 100 = .ok (.iconst 3, 1) := by decide +kernel
theorem dX12_week_101 : decode cX12_week 101 = .ok (.iload_n 2, 1) := by decide +kernel
theorem dX12_week_102 : decode cX12_week 102 = .ok (.imul, 1) := by decide +kernel
theorem dX12_week_103 : decode cX12_week 103 = .ok (.iconst 2, 1) := by decide +kernel
theorem dX12_week_104 : decode cX12_week 104 = .ok (.iadd, 1) := by decide +kernel
theorem dX12_week_105 : decode cX12_week 105 = .ok (.iaload, 1) := by decide +kernel
theorem dX12_week_106 : decode cX12_week 106 = .ok (.invokevirtual 277, 3) := by decide +kernel
theorem dX12_week_109 : decode cX12_week 109 = .ok (.ifCond .eq 9, 3) := by decide +kernel
theorem dX12_week_112 : decode cX12_week 112 = .ok (.iinc 2 1, 3) := by decide +kernel
theorem dX12_week_115 : decode cX12_week 115 = .ok (.goto (-43), 3) := by decide +kernel
theorem dX12_week_118 : decode cX12_week 118 = .ok (.iload_n 2, 1) := by decide +kernel
theorem dX12_week_119 : decode cX12_week 119 = .ok (.ifCond .le 11, 3) := by decide +kernel
theorem dX12_week_122 : decode cX12_week 122 = .ok (.aload_n 0, 1) := by decide +kernel
theorem dX12_week_123 : decode cX12_week 123 = .ok (.aload_n 0, 1) := by decide +kernel
theorem dX12_week_124 : decode cX12_week 124 = .ok (.getfield 43, 3) := by decide +kernel
theorem dX12_week_127 : decode cX12_week 127 = .ok (.invokevirtual 253, 3) := by decide +kernel
theorem dX12_week_130 : decode cX12_week 130 = .ok (.aload_n 0, 1) := by decide +kernel
theorem dX12_week_131 : decode cX12_week 131 = .ok (.iconst 0, 1) := by decide +kernel
theorem dX12_week_132 : decode cX12_week 132 = .ok (.putfield 80, 3) := by decide +kernel
theorem dX12_week_135 : decode cX12_week 135 = .ok (.aload_n 0, 1) := by decide +kernel
theorem dX12_week_136 : decode cX12_week 136 = .ok (.iload_n 2, 1) := by decide +kernel
theorem dX12_week_137 : decode cX12_week 137 = .ok (.iload_n 1, 1) := by decide +kernel
theorem dX12_week_138 : decode cX12_week 138 = .ok (.if_icmp .ge 7, 3) := by decide +kernel
theorem dX12_week_141 : decode cX12_week 141 = .ok (.lconst 1, 1) := by decide +kernel
theorem dX12_week_142 : decode cX12_week 142 = .ok (.goto 4, 3) := by decide +kernel
theorem dX12_week_145 : decode cX12_week 145 = .ok (.lconst 0, 1) := by decide +kernel
theorem dX12_week_146 : decode cX12_week 146 = .ok (.invokevirtual 260, 3) := by decide +kernel
theorem dX12_week_149 : decode cX12_week 149 = .ok (.aload_n 0, 1) := by decide +kernel
theorem dX12_week_150 : decode cX12_week 150 = .ok (.aload_n 0, 1) := by decide +kernel
theorem dX12_week_151 : decode cX12_week 151 = .ok (.aload_n 0, 1) := by decide +kernel
theorem dX12_week_152 : decode cX12_week 152 = .ok (.getfield 9, 3) := by decide +kernel
theorem dX12_week_155 : decode cX12_week 155 = .ok (.invokevirtual 214, 3) := by decide +kernel
theorem dX12_week_158 : decode cX12_week 158 = .ok (.invokestatic 206, 3) := by decide +kernel
theorem dX12_week_161 : decode cX12_week 161 = .ok (.i2l, 1) := by decide +kernel
theorem dX12_week_162 : decode cX12_week 162 = .ok (.invokevirtual 260, 3) := by decide +kernel
theorem dX12_week_165 : decode cX12_week 165 = .ok (.iload_n 2, 1) := by decide +kernel
theorem dX12_week_166 : decode cX12_week 166 = .ok (.ireturn, 1) := by decide +kernel
def b_X12_week_72 (N : Nat) (x4 : Int32) (J118_10 : uS → Int32 → Option (Int32 × uS)) (rec72_23 : uS → Int32 → Option (Int32 × uS)) (s21 : uS) (x22 : Int32) : Option (Int32 × uS) :=
  if x4 ≤ x22 then (J118_10 s21 x22) else ((u_rI ZM s21 0 14 (3 * x22)).bind fun v24 =>
  (u_rI ZM s21 0 14 ((3 * x22) + 1)).bind fun v25 =>
  (u_rI ZM s21 0 14 ((3 * x22) + 2)).bind fun v26 =>
  (f_X12_act N s21 v24 v25 v26).bind fun v27 =>
  if v27.1 = 0 then (J118_10 v27.2 x22) else (u_jn (x22 + 1 : Int32) fun x28 =>
  rec72_23 v27.2 x28))
def b_X12_week_13 (N : Nat) (J44_5 : uS → Int32 → Option (Int32 × uS)) (rec13_31 : uS → Int32 → Option (Int32 × uS)) (s29 : uS) (x30 : Int32) : Option (Int32 × uS) :=
  (f_X12_fine N s29).bind fun v32 =>
  if v32 = 0 then (J44_5 s29 x30) else (if (s29.1 0 10) ≤ (s29.1 0 12) then (J44_5 s29 x30) else ((f_X12_readAct N s29 (3 * x30)).bind fun s33 =>
  u_jn (x30 + 1 : Int32) fun x34 =>
  rec13_31 s33 x34))
def f_X12_week (N : Nat) (σ : uS) : Option (Int32 × uS) := u_jn (u_pI σ 0 8 0) fun s1 =>
  (f_X12_beginText N s1 60).bind fun s2 =>
  u_jn (fun (s3 : uS) (x4 : Int32) => ((f_X12_wasRight N s3).bind fun v6 =>
  if v6.1 = 0 then (some (((-1) - (v6.2.1 0 13)), v6.2)) else ((f_X12_lay N v6.2 1 10 0).bind fun s7 =>
  u_jn (fun (s8 : uS) (x9 : Int32) => (u_jn (fun (s11 : uS) => (u_jn (u_pI s11 0 7 0) fun s13 =>
  u_jn (fun (t14 : Int64) => ((f_X12_tell N s13 t14).bind fun s16 =>
  (f_X12_inBits N s16 1).bind fun v17 =>
  (f_J6_bitCount_0f7a4 N s16 v17).bind fun v18 =>
  (f_X12_tell N s16 (Int32.toInt64 v18)).bind fun s19 =>
  some (x9, s19) : Option (Int32 × uS))) fun J146_15 =>
  if x4 ≤ x9 then (J146_15 0) else (J146_15 1) : Option (Int32 × uS))) fun J130_12 =>
  if x9 ≤ 0 then (J130_12 s8) else ((f_X12_remember N s8 10).bind fun s20 =>
  J130_12 s20) : Option (Int32 × uS))) fun J118_10 =>
  u_lp2 (b_X12_week_72 N x4 J118_10) N s7 0) : Option (Int32 × uS))) fun J44_5 =>
  u_lp2 (b_X12_week_13 N J44_5) N s2 0
set_option maxRecDepth 100000 in
set_option maxHeartbeats 4000000 in
theorem c_X12_week (l : Launch) (G : uG) (N : Nat) (σ : uS) (z : (Int32 × uS)) (hz : f_X12_week N σ = some z) : u_Mi l ZM G yX12_week cX12_week 3 .int 109 [.ref (G.2.2 0)] σ z.1 z.2 := by
  refine u_Mi_of RX12 (by decide) rfl (Nat.le_of_ble_eq_true rfl) ?_
  intro p e s m args below meth c ls cx hw hl
  have hx := cx.1
  have hb := cx.2.1
  have hl : lv_has ls 3 [(0, .ref (G.2.2 0))] := hl
  unfold f_X12_week at hz
  refine lv_aload_n hx hb dX12_week_0 rfl (lv_at hl 0 rfl) ?_
  refine lv_iconst (v := 0) hx hb dX12_week_1 (by decide) ?_
  obtain ⟨s1, es1, hz⟩ := u_let hz
  refine u_puti2 cx hw P_X12_77 o_X12 rfl es1 dX12_week_2 (fun H locs hw => ?_)
  refine lv_aload_n hx hb dX12_week_5 rfl (lv_at hl 0 rfl) ?_
  refine lv_bipush (v := 60) hx hb dX12_week_6 (by decide) ?_
  obtain ⟨s2, hs2, hz⟩ := u_bind hz
  refine u_callVv (As := [.int 60]) (rest := []) cx hw LV_X12_145 (c_X12_beginText l G N s1 60 s2 hs2) o_X12 rfl (by decide) hl.1 rfl (Nat.le_of_ble_eq_true rfl) dX12_week_8 rfl (fun H locs hw => ?_)
  refine lv_iconst (v := 0) hx hb dX12_week_11 (by decide) ?_
  refine lv_istore_n (lv' := [(1, .int 0), (0, .ref (G.2.2 0))]) hx hb dX12_week_12 rfl hl (by decide) rfl (fun ls hl => ?_)
  obtain ⟨J44_5, eJ44_5, hz⟩ := u_let hz
  have WJ44_5 : ∀ (s3 : uS) (x4 : Int32) (H : Heap) (locs : List Loc) (ls : Array Slot), J44_5 s3 x4 = some z → u_W ZM G s3 s H locs → lv_has ls 3 [(0, .ref (G.2.2 0)), (1, .int x4)] → W p l e (u_rm 109) s m args below meth c H locs 0 0 (u_Qi below ZM G s args z.1 z.2) (F0 m 44 ls []) := by
    intro s3 x4 H locs ls hz hw hl
    rw [eJ44_5] at hz
    refine lv_aload_n hx hb dX12_week_44 rfl (lv_at hl 0 rfl) ?_
    obtain ⟨v6, hv6, hz⟩ := u_bind hz
    refine u_callVi (As := []) (rest := []) cx hw LV_X12_148 (c_X12_wasRight l G N s3 v6 hv6) o_X12 rfl (by decide) hl.1 rfl (Nat.le_of_ble_eq_true rfl) dX12_week_45 rfl (fun H locs hw => ?_)
    refine lv_if_ne (tgt := 58) hx hb dX12_week_48 (by decide) (fun hc => ?_) (fun hc => ?_)
    · replace hz := u_iff hz hc
      refine lv_aload_n hx hb dX12_week_58 rfl (lv_at hl 0 rfl) ?_
      refine u_getp cx hw F_X12_9 o_X12 rfl dX12_week_59 ?_
      refine lv_aload_n hx hb dX12_week_62 rfl (lv_at hl 0 rfl) ?_
      refine u_getp cx hw F_X12_43 o_X12 rfl dX12_week_63 ?_
      refine lv_iconst (v := 0) hx hb dX12_week_66 (by decide) ?_
      obtain ⟨s7, hs7, hz⟩ := u_bind hz
      refine u_callSv (As := [.ref (G.2.2 1), .ref (G.2.2 10), .int 0]) (rest := []) cx hw LS_X12_242 (c_X12_lay l G N v6.2 1 10 0 s7 hs7) (by decide) hl.1 rfl (Nat.le_of_ble_eq_true rfl) dX12_week_67 rfl (fun H locs hw => ?_)
      refine lv_iconst (v := 0) hx hb dX12_week_70 (by decide) ?_
      refine lv_istore_n (lv' := [(2, .int 0), (0, .ref (G.2.2 0)), (1, .int x4)]) hx hb dX12_week_71 rfl hl (by decide) rfl (fun ls hl => ?_)
      obtain ⟨J118_10, eJ118_10, hz⟩ := u_let hz
      have WJ118_10 : ∀ (s8 : uS) (x9 : Int32) (H : Heap) (locs : List Loc) (ls : Array Slot), J118_10 s8 x9 = some z → u_W ZM G s8 s H locs → lv_has ls 3 [(0, .ref (G.2.2 0)), (1, .int x4), (2, .int x9)] → W p l e (u_rm 109) s m args below meth c H locs 0 0 (u_Qi below ZM G s args z.1 z.2) (F0 m 118 ls []) := by
        intro s8 x9 H locs ls hz hw hl
        rw [eJ118_10] at hz
        refine lv_iload_n hx hb dX12_week_118 rfl (lv_at hl 2 rfl) ?_
        obtain ⟨J130_12, eJ130_12, hz⟩ := u_let hz
        have WJ130_12 : ∀ (s11 : uS) (H : Heap) (locs : List Loc) (ls : Array Slot), J130_12 s11 = some z → u_W ZM G s11 s H locs → lv_has ls 3 [(0, .ref (G.2.2 0)), (1, .int x4), (2, .int x9)] → W p l e (u_rm 109) s m args below meth c H locs 0 0 (u_Qi below ZM G s args z.1 z.2) (F0 m 130 ls []) := by
          intro s11 H locs ls hz hw hl
          rw [eJ130_12] at hz
          refine lv_aload_n hx hb dX12_week_130 rfl (lv_at hl 0 rfl) ?_
          refine lv_iconst (v := 0) hx hb dX12_week_131 (by decide) ?_
          obtain ⟨s13, es13, hz⟩ := u_let hz
          refine u_puti2 cx hw P_X12_80 o_X12 rfl es13 dX12_week_132 (fun H locs hw => ?_)
          refine lv_aload_n hx hb dX12_week_135 rfl (lv_at hl 0 rfl) ?_
          refine lv_iload_n hx hb dX12_week_136 rfl (lv_at hl 2 rfl) ?_
          refine lv_iload_n hx hb dX12_week_137 rfl (lv_at hl 1 rfl) ?_
          obtain ⟨J146_15, eJ146_15, hz⟩ := u_let hz
          have WJ146_15 : ∀ (t14 : Int64) (H : Heap) (locs : List Loc) (ls : Array Slot), J146_15 t14 = some z → u_W ZM G s13 s H locs → lv_has ls 3 [(0, .ref (G.2.2 0)), (2, .int x9)] → W p l e (u_rm 109) s m args below meth c H locs 0 0 (u_Qi below ZM G s args z.1 z.2) (F0 m 146 ls [.long t14, .ref (G.2.2 0)]) := by
            intro t14 H locs ls hz hw hl
            rw [eJ146_15] at hz
            obtain ⟨s16, hs16, hz⟩ := u_bind hz
            refine u_callVv (As := [.long t14]) (rest := []) cx hw LV_X12_260 (c_X12_tell l G N s13 t14 s16 hs16) o_X12 rfl (by decide) hl.1 rfl (Nat.le_of_ble_eq_true rfl) dX12_week_146 rfl (fun H locs hw => ?_)
            refine lv_aload_n hx hb dX12_week_149 rfl (lv_at hl 0 rfl) ?_
            refine lv_aload_n hx hb dX12_week_150 rfl (lv_at hl 0 rfl) ?_
            refine lv_aload_n hx hb dX12_week_151 rfl (lv_at hl 0 rfl) ?_
            refine u_getp cx hw F_X12_9 o_X12 rfl dX12_week_152 ?_
            obtain ⟨v17, hv17, hz⟩ := u_bind hz
            refine u_callVi (As := [.ref (G.2.2 1)]) (rest := [.ref (G.2.2 0)]) cx hw LV_X12_214 (c_X12_inBits l G N s16 1 v17 hv17) o_X12 rfl (by decide) hl.1 rfl (Nat.le_of_ble_eq_true rfl) dX12_week_155 rfl (fun H locs hw => ?_)
            obtain ⟨v18, hv18, hz⟩ := u_bind hz
            refine u_callSi (As := [.int v17]) (rest := [.ref (G.2.2 0)]) cx hw LS_X12_206 (c_J6_bitCount_0f7a4 l G ZM N s16 v17 v18 hv18) (by decide) hl.1 rfl (Nat.le_of_ble_eq_true rfl) dX12_week_158 rfl (fun H locs hw => ?_)
            refine lv_i2l (v := (Int32.toInt64 v18)) hx hb dX12_week_161 rfl ?_
            obtain ⟨s19, hs19, hz⟩ := u_bind hz
            refine u_callVv (As := [.long (Int32.toInt64 v18)]) (rest := []) cx hw LV_X12_260 (c_X12_tell l G N s16 (Int32.toInt64 v18) s19 hs19) o_X12 rfl (by decide) hl.1 rfl (Nat.le_of_ble_eq_true rfl) dX12_week_162 rfl (fun H locs hw => ?_)
            refine lv_iload_n hx hb dX12_week_165 rfl (lv_at hl 1 rfl) ?_
            exact u_iret cx hw (u_pair hz) dX12_week_166
          refine lv_icmp_ge (tgt := 145) hx hb dX12_week_138 (by decide) (fun hc => ?_) (fun hc => ?_)
          · replace hz := u_ift hz hc
            refine lv_lconst (v := 0) hx hb dX12_week_145 (by decide) ?_
            exact WJ146_15 0 _ _ _ hz hw (lv_sub hl [0, 2] rfl)
          · replace hz := u_iff hz hc
            refine lv_lconst (v := 1) hx hb dX12_week_141 (by decide) ?_
            refine lv_goto (tgt := 146) hx hb dX12_week_142 (by decide) ?_
            exact WJ146_15 1 _ _ _ hz hw (lv_sub hl [0, 2] rfl)
        refine lv_if_le (tgt := 130) hx hb dX12_week_119 (by decide) (fun hc => ?_) (fun hc => ?_)
        · replace hz := u_ift hz hc
          exact WJ130_12 s8 _ _ _ hz hw (lv_sub hl [0, 1, 2] rfl)
        · replace hz := u_iff hz hc
          refine lv_aload_n hx hb dX12_week_122 rfl (lv_at hl 0 rfl) ?_
          refine lv_aload_n hx hb dX12_week_123 rfl (lv_at hl 0 rfl) ?_
          refine u_getp cx hw F_X12_43 o_X12 rfl dX12_week_124 ?_
          obtain ⟨s20, hs20, hz⟩ := u_bind hz
          refine u_callVv (As := [.ref (G.2.2 10)]) (rest := []) cx hw LV_X12_253 (c_X12_remember l G N s8 10 s20 hs20) o_X12 rfl (by decide) hl.1 rfl (Nat.le_of_ble_eq_true rfl) dX12_week_127 rfl (fun H locs hw => ?_)
          exact WJ130_12 s20 _ _ _ hz hw (lv_sub hl [0, 1, 2] rfl)
      have WL72_28 : ∀ (k : Nat) (s21 : uS) (x22 : Int32) (H : Heap) (locs : List Loc) (ls : Array Slot), u_lp2 (b_X12_week_72 N x4 J118_10) k s21 x22 = some z → u_W ZM G s21 s H locs → lv_has ls 3 [(0, .ref (G.2.2 0)), (1, .int x4), (2, .int x22)] → W p l e (u_rm 109) s m args below meth c H locs 0 0 (u_Qi below ZM G s args z.1 z.2) (F0 m 72 ls []) := by
        intro k
        induction k with
        | zero =>
          intro s21 x22 H locs ls hz
          exact absurd hz (by intro h9; cases h9)
        | succ k ih72_23 =>
          intro s21 x22 H locs ls hz hw hl
          have hz : (b_X12_week_72 N x4 J118_10) (u_lp2 (b_X12_week_72 N x4 J118_10) k) s21 x22 = some z := hz
          unfold b_X12_week_72 at hz
          refine lv_iload_n hx hb dX12_week_72 rfl (lv_at hl 2 rfl) ?_
          refine lv_iload_n hx hb dX12_week_73 rfl (lv_at hl 1 rfl) ?_
          refine lv_icmp_ge (tgt := 118) hx hb dX12_week_74 (by decide) (fun hc => ?_) (fun hc => ?_)
          · replace hz := u_ift hz hc
            exact WJ118_10 s21 x22 _ _ _ hz hw (lv_sub hl [0, 1, 2] rfl)
          · replace hz := u_iff hz hc
            refine lv_aload_n hx hb dX12_week_77 rfl (lv_at hl 0 rfl) ?_
            refine lv_aload_n hx hb dX12_week_78 rfl (lv_at hl 0 rfl) ?_
            refine u_getp cx hw F_X12_55 o_X12 rfl dX12_week_79 ?_
            refine lv_iconst (v := 3) hx hb dX12_week_82 (by decide) ?_
            refine lv_iload_n hx hb dX12_week_83 rfl (lv_at hl 2 rfl) ?_
            refine lv_imul hx hb dX12_week_84 ?_
            obtain ⟨v24, hv24, hz⟩ := u_bind hz
            refine u_iald cx hw hv24 dX12_week_85 ?_
            refine lv_aload_n hx hb dX12_week_86 rfl (lv_at hl 0 rfl) ?_
            refine u_getp cx hw F_X12_55 o_X12 rfl dX12_week_87 ?_
            refine lv_iconst (v := 3) hx hb dX12_week_90 (by decide) ?_
            refine lv_iload_n hx hb dX12_week_91 rfl (lv_at hl 2 rfl) ?_
            refine lv_imul hx hb dX12_week_92 ?_
            refine lv_iconst (v := 1) hx hb dX12_week_93 (by decide) ?_
            refine lv_iadd hx hb dX12_week_94 ?_
            obtain ⟨v25, hv25, hz⟩ := u_bind hz
            refine u_iald cx hw hv25 dX12_week_95 ?_
            refine lv_aload_n hx hb dX12_week_96 rfl (lv_at hl 0 rfl) ?_
            refine u_getp cx hw F_X12_55 o_X12 rfl dX12_week_97 ?_
            refine lv_iconst (v := 3) hx hb dX12_week_100 (by decide) ?_
            refine lv_iload_n hx hb dX12_week_101 rfl (lv_at hl 2 rfl) ?_
            refine lv_imul hx hb dX12_week_102 ?_
            refine lv_iconst (v := 2) hx hb dX12_week_103 (by decide) ?_
            refine lv_iadd hx hb dX12_week_104 ?_
            obtain ⟨v26, hv26, hz⟩ := u_bind hz
            refine u_iald cx hw hv26 dX12_week_105 ?_
            obtain ⟨v27, hv27, hz⟩ := u_bind hz
            refine u_callVi (As := [.int v24, .int v25, .int v26]) (rest := []) cx hw LV_X12_277 (c_X12_act l G N s21 v24 v25 v26 v27 hv27) o_X12 rfl (by decide) hl.1 rfl (Nat.le_of_ble_eq_true rfl) dX12_week_106 rfl (fun H locs hw => ?_)
            refine lv_if_eq (tgt := 118) hx hb dX12_week_109 (by decide) (fun hc => ?_) (fun hc => ?_)
            · replace hz := u_ift hz hc
              exact WJ118_10 v27.2 x22 _ _ _ hz hw (lv_sub hl [0, 1, 2] rfl)
            · replace hz := u_iff hz hc
              obtain ⟨x28, ex28, hz⟩ := u_let hz
              refine lv_iinc (v := x28) (lv' := [(2, .int x28), (0, .ref (G.2.2 0)), (1, .int x4)]) hx hb dX12_week_112 hl (k := 2) rfl (by rw [ex28]; rfl) (by decide) rfl (fun ls hl => ?_)
              refine lv_goto (tgt := 72) hx hb dX12_week_115 (by decide) ?_
              exact ih72_23 v27.2 x28 _ _ _ hz hw (lv_sub hl [1, 2, 0] rfl)
      exact WL72_28 N s7 0 _ _ _ hz hw (lv_sub hl [1, 2, 0] rfl)
    · replace hz := u_ift hz hc
      refine lv_iconst (v := (-1)) hx hb dX12_week_51 (by decide) ?_
      refine lv_aload_n hx hb dX12_week_52 rfl (lv_at hl 0 rfl) ?_
      refine u_geti cx hw F_X12_113 o_X12 rfl dX12_week_53 ?_
      refine lv_isub hx hb dX12_week_56 ?_
      exact u_iret cx hw (u_pair hz) dX12_week_57
  have WL13_34 : ∀ (k : Nat) (s29 : uS) (x30 : Int32) (H : Heap) (locs : List Loc) (ls : Array Slot), u_lp2 (b_X12_week_13 N J44_5) k s29 x30 = some z → u_W ZM G s29 s H locs → lv_has ls 3 [(0, .ref (G.2.2 0)), (1, .int x30)] → W p l e (u_rm 109) s m args below meth c H locs 0 0 (u_Qi below ZM G s args z.1 z.2) (F0 m 13 ls []) := by
    intro k
    induction k with
    | zero =>
      intro s29 x30 H locs ls hz
      exact absurd hz (by intro h9; cases h9)
    | succ k ih13_31 =>
      intro s29 x30 H locs ls hz hw hl
      have hz : (b_X12_week_13 N J44_5) (u_lp2 (b_X12_week_13 N J44_5) k) s29 x30 = some z := hz
      unfold b_X12_week_13 at hz
      refine lv_aload_n hx hb dX12_week_13 rfl (lv_at hl 0 rfl) ?_
      obtain ⟨v32, hv32, hz⟩ := u_bind hz
      refine u_callVi (As := []) (rest := []) cx hw LV_X12_120 (c_X12_fine l G N s29 v32 hv32) o_X12 rfl (by decide) hl.1 rfl (Nat.le_of_ble_eq_true rfl) dX12_week_14 rfl (fun H locs hw => ?_)
      refine lv_if_eq (tgt := 44) hx hb dX12_week_17 (by decide) (fun hc => ?_) (fun hc => ?_)
      · replace hz := u_ift hz hc
        exact WJ44_5 s29 x30 _ _ _ hz hw (lv_sub hl [0, 1] rfl)
      · replace hz := u_iff hz hc
        refine lv_aload_n hx hb dX12_week_20 rfl (lv_at hl 0 rfl) ?_
        refine u_geti cx hw F_X12_110 o_X12 rfl dX12_week_21 ?_
        refine lv_aload_n hx hb dX12_week_24 rfl (lv_at hl 0 rfl) ?_
        refine u_geti cx hw F_X12_104 o_X12 rfl dX12_week_25 ?_
        refine lv_icmp_ge (tgt := 44) hx hb dX12_week_28 (by decide) (fun hc => ?_) (fun hc => ?_)
        · replace hz := u_ift hz hc
          exact WJ44_5 s29 x30 _ _ _ hz hw (lv_sub hl [0, 1] rfl)
        · replace hz := u_iff hz hc
          refine lv_aload_n hx hb dX12_week_31 rfl (lv_at hl 0 rfl) ?_
          refine lv_iconst (v := 3) hx hb dX12_week_32 (by decide) ?_
          refine lv_iload_n hx hb dX12_week_33 rfl (lv_at hl 1 rfl) ?_
          refine lv_imul hx hb dX12_week_34 ?_
          obtain ⟨s33, hs33, hz⟩ := u_bind hz
          refine u_callVv (As := [.int (3 * x30)]) (rest := []) cx hw LV_X12_274 (c_X12_readAct l G N s29 (3 * x30) s33 hs33) o_X12 rfl (by decide) hl.1 rfl (Nat.le_of_ble_eq_true rfl) dX12_week_35 rfl (fun H locs hw => ?_)
          obtain ⟨x34, ex34, hz⟩ := u_let hz
          refine lv_iinc (v := x34) (lv' := [(1, .int x34), (0, .ref (G.2.2 0))]) hx hb dX12_week_38 hl (k := 1) rfl (by rw [ex34]; rfl) (by decide) rfl (fun ls hl => ?_)
          refine lv_goto (tgt := 13) hx hb dX12_week_41 (by decide) ?_
          exact ih13_31 s33 x34 _ _ _ hz hw (lv_sub hl [1, 0] rfl)
  exact WL13_34 N s2 0 _ _ _ hz hw (lv_sub hl [1, 0] rfl)
