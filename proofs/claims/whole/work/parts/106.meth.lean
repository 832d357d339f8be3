theorem dX12_cheapest_0 : decode cX12_cheapest 0 = .ok (.aload_n 0, 1) := by decide +kernel
theorem dX12_cheapest_1 : decode cX12_cheapest 1 = .ok (.iconst 0, 1) := by decide +kernel
theorem dX12_cheapest_2 : decode cX12_cheapest 2 = .ok (.putfield 77, 3) := by decide +kernel
theorem dX12_cheapest_5 : decode cX12_cheapest 5 = .ok (.iload_n 1, 1) := by decide +kernel
theorem dX12_cheapest_6 : decode cX12_cheapest 6 = .ok (.iconst 1, 1) := by decide +kernel
theorem dX12_cheapest_7 : decode cX12_cheapest 7 = .ok (.if_icmp .ge 5, 3) := by decide +kernel
theorem dX12_cheapest_10 : decode cX12_cheapest 10 = .ok (.iconst (-1), 1) := by decide +kernel
theorem dX12_cheapest_11 : decode cX12_cheapest 11 = .ok (.ireturn, 1) := by decide +kernel
theorem dX12_cheapest_12 : decode cX12_cheapest 12 = .ok (.iload_n 1, 1) := by decide +kernel
theorem dX12_cheapest_13 : decode cX12_cheapest 13 = .ok (.aload_n 0, 1) := by decide +kernel
theorem dX12_cheapest_14 : decode cX12_cheapest 14 = .ok (.getfield 13, 3) := by decide +kernel
theorem dX12_cheapest_17 : decode cX12_cheapest 17 = .ok (.if_icmp .le 6, 3) := by decide +kernel
theorem dX12_cheapest_20 : decode cX12_cheapest 20 = .ok (.bipush (-2), 2) := by decide +kernel
theorem dX12_cheapest_22 : decode cX12_cheapest 22 = .ok (.ireturn, 1) := by decide +kernel
theorem dX12_cheapest_23 : decode cX12_cheapest 23 = .ok (.iconst 0, 1) := by decide +kernel
theorem dX12_cheapest_24 : decode cX12_cheapest 24 = .ok (.istore_n 2, 1) := by decide +kernel
theorem dX12_cheapest_25 : decode cX12_cheapest 25 = .ok (.iconst 1, 1) := by decide +kernel
theorem dX12_cheapest_26 : decode cX12_cheapest 26 = .ok (.istore_n 3, 1) := by decide +kernel
theorem dX12_cheapest_27 : decode cX12_cheapest 27 = .ok (.iload_n 3, 1) := by decide +kernel
theorem dX12_cheapest_28 : decode cX12_cheapest 28 = .ok (.iload_n 1, 1) := by decide +kernel
theorem dX12_cheapest_29 : decode cX12_cheapest 29 = .ok (.iadd, 1) := by decide +kernel
theorem dX12_cheapest_30 : decode cX12_cheapest 30 = .ok (.aload_n 0, 1) := by decide +kernel
theorem dX12_cheapest_31 : decode cX12_cheapest 31 = .ok (.getfield 13, 3) := by decide +kernel
theorem dX12_cheapest_34 : decode cX12_cheapest 34 = .ok (.if_icmp .gt 42, 3) := by decide +kernel
theorem dX12_cheapest_37 : decode cX12_cheapest 37 = .ok (.aload_n 0, 1) := by decide +kernel
theorem dX12_cheapest_38 : decode cX12_cheapest 38 = .ok (.aload_n 0, 1) := by decide +kernel
theorem dX12_cheapest_39 : decode cX12_cheapest 39 = .ok (.getfield 9, 3) := by decide +kernel
theorem dX12_cheapest_42 : decode cX12_cheapest 42 = .ok (.iload_n 3, 1) := by decide +kernel
theorem dX12_cheapest_43 : decode cX12_cheapest 43 = .ok (.iload_n 3, 1) := by decide +kernel
theorem dX12_cheapest_44 : decode cX12_cheapest 44 = .ok (.iload_n 1, 1) := by decide +kernel
theorem dX12_cheapest_45 : decode cX12_cheapest 45 = .ok (.iadd, 1) := by decide +kernel
theorem dX12_cheapest_46 : decode cX12_cheapest 46 = .ok (.iconst 1, 1) := by decide +kernel
theorem dX12_cheapest_47 : decode cX12_cheapest 47 = .ok (.isub, 1) := by decide +kernel
theorem dX12_cheapest_48 : decode cX12_cheapest 48 = .ok (.invokevirtual 246, 3) := by decide +kernel
theorem dX12_cheapest_51 : decode cX12_cheapest 51 = .ok (.aload_n 0, 1) := by decide +kernel
theorem dX12_cheapest_52 : decode cX12_cheapest 52 = .ok (.aload_n 0, 1) := by decide +kernel
theorem dX12_cheapest_53 : decode cX12_cheapest 53 = .ok (.getfield 9, 3) := by decide +kernel
theorem dX12_cheapest_56 : decode cX12_cheapest 56 = .ok (.iload_n 2, 1) := by decide +kernel
theorem dX12_cheapest_57 : decode cX12_cheapest 57 = .ok (.iload_n 2, 1) := by decide +kernel
theorem dX12_cheapest_58 : decode cX12_cheapest 58 = .ok (.iload_n 1, 1) := by decide +kernel
theorem dX12_cheapest_59 : decode cX12_cheapest 59 = .ok (.iadd, 1) := by decide +kernel
theorem dX12_cheapest_60 : decode cX12_cheapest 60 = .ok (.iconst 1, 1) := by decide +kernel
theorem dX12_cheapest_61 : decode cX12_cheapest 61 = .ok (.isub, 1) := by decide +kernel
theorem dX12_cheapest_62 : decode cX12_cheapest 62 = .ok (.invokevirtual 246, 3) := by decide +kernel
theorem dX12_cheapest_65 : decode cX12_cheapest 65 = .ok (.if_icmp .ge 5, 3) := by decide +kernel
theorem dX12_cheapest_68 : decode cX12_cheapest 68 = .ok (.iload_n 3, 1) := by decide +kernel
theorem dX12_cheapest_69 : decode cX12_cheapest 69 = .ok (.istore_n 2, 1) := by decide +kernel
theorem dX12_cheapest_70 : decode cX12_cheapest 70 = .ok (.iinc 3 1, 3) := by decide +kernel
theorem dX12_cheapest_73 : decode cX12_cheapest 73 = .ok (.goto (-46), 3) := by decide +kernel
theorem dX12_cheapest_76 : decode cX12_cheapest 76 = .ok (.aload_n 0, 1) := by decide +kernel
theorem dX12_cheapest_77 : decode cX12_cheapest 77 = .ok (.iconst 0, 1) := by decide +kernel
theorem dX12_cheapest_78 : decode cX12_cheapest 78 = .ok (.putfield 80, 3) := by decide +kernel
theorem dX12_cheapest_81 : decode cX12_cheapest 81 = .ok (.aload_n 0, 1) := by decide +kernel
theorem dX12_cheapest_82 : decode cX12_cheapest 82 = .ok (.iload_n 2, 1) := by decide +kernel
theorem dX12_cheapest_83 : decode cX12_cheapest 83 = .ok (.i2l, 1) := by decide +kernel
theorem dX12_cheapest_84 : decode cX12_cheapest 84 = .ok (.invokevirtual 260, 3) := by decide +kernel
theorem dX12_cheapest_87 : decode cX12_cheapest 87 = .ok (.aload_n 0, 1) := by decide +kernel
theorem dX12_cheapest_88 : decode cX12_cheapest 88 = .ok (.iload_n 2, 1) := by decide +kernel
theorem dX12_cheapest_89 : decode cX12_cheapest 89 = .ok (.iload_n 1, 1) := by decide +kernel
theorem dX12_cheapest_90 : decode cX12_cheapest 90 = .ok (.iadd, 1) := by decide +kernel
theorem dX12_cheapest_91 : decode cX12_cheapest 91 = .ok (.iconst 1, 1) := by decide +kernel
theorem dX12_cheapest_92 : decode cX12_cheapest 92 = .ok (.isub, 1) := by decide +kernel
theorem dX12_cheapest_93 : decode cX12_cheapest 93 = .ok (.i2l, 1) := by decide +kernel
theorem dX12_cheapest_94 : decode cX12_cheapest 94 = .ok (.invokevirtual 260, 3) := by decide +kernel
theorem dX12_cheapest_97 : decode cX12_cheapest 97 = .ok (.aload_n 0, 1) := by decide +kernel
theorem dX12_cheapest_98 : decode cX12_cheapest 98 = .ok (.aload_n 0, 1) := by decide +kernel
theorem dX12_cheapest_99 : decode cX12_cheapest 99 = .ok (.getfield 9, 3) := by decide +kernel
theorem dX12_cheapest_102 : decode cX12_cheapest 102 = .ok (.iload_n 2, 1) := by decide +kernel
theorem dX12_cheapest_103 : decode cX12_cheapest 103 = .ok (.iload_n 2, 1) := by decide +kernel
theorem dX12_cheapest_104 : decode cX12_cheapest 104 = .ok (.iload_n 1, 1) := by decide +kernel
theorem dX12_cheapest_105 : decode cX12_cheapest 105 = .ok (.iadd, 1) := by decide +kernel
theorem dX12_cheapest_106 : decode cX12_cheapest 106 = .ok (.iconst 1, 1) := by decide +kernel
theorem dX12_cheapest_107 : decode cX12_cheapest 107 = .ok (.isub, 1) := by decide +kernel
theorem dX12_cheapest_108 : decode cX12_cheapest 108 = .ok (.invokevirtual 246, 3) := by decide +kernel
theorem dX12_cheapest_111 : decode cX12_cheapest 111 = .ok (.ireturn, 1) := by decide +kernel
def b_X12_cheapest_27 (N : Nat) (p1 : Int32) (s1 : uS) (J76_3 : Int32 → Option (Int32 × uS)) (rec27_10 : Int32 → Int32 → Option (Int32 × uS)) (x8 : Int32) (x9 : Int32) : Option (Int32 × uS) :=
  if (s1.1 0 1) < (x9 + p1) then (J76_3 x8) else ((f_X12_corn N s1 1 x9 ((x9 + p1) - 1)).bind fun v11 =>
  (f_X12_corn N s1 1 x8 ((x8 + p1) - 1)).bind fun v12 =>
  u_jn (fun (x13 : Int32) => (u_jn (x9 + 1 : Int32) fun x15 =>
  rec27_10 x13 x15 : Option (Int32 × uS))) fun J70_14 =>
  if v12 ≤ v11 then (J70_14 x8) else (J70_14 x9))
def f_X12_cheapest (N : Nat) (σ : uS) (p1 : Int32) : Option (Int32 × uS) := u_jn (u_pI σ 0 8 0) fun s1 =>
  if 1 ≤ p1 then (if p1 ≤ (s1.1 0 1) then (u_jn (fun (x2 : Int32) => (u_jn (u_pI s1 0 7 0) fun s4 =>
  (f_X12_tell N s4 (Int32.toInt64 x2)).bind fun s5 =>
  (f_X12_tell N s5 (Int32.toInt64 ((x2 + p1) - 1))).bind fun s6 =>
  (f_X12_corn N s6 1 x2 ((x2 + p1) - 1)).bind fun v7 =>
  some (v7, s6) : Option (Int32 × uS))) fun J76_3 =>
  u_lp2 (b_X12_cheapest_27 N p1 s1 J76_3) N 0 1) else (some ((-2), s1))) else (some ((-1), s1))
set_option maxRecDepth 100000 in
set_option maxHeartbeats 4000000 in
theorem c_X12_cheapest (l : Launch) (G : uG) (N : Nat) (σ : uS) (p1 : Int32) (z : (Int32 × uS)) (hz : f_X12_cheapest N σ p1 = some z) : u_Mi l ZM G yX12_cheapest cX12_cheapest 4 .int 1 [.ref (G.2.2 0), .int p1] σ z.1 z.2 := by
  refine u_Mi_of RX12 (by decide) rfl (Nat.le_of_ble_eq_true rfl) ?_
  intro p e s m args below meth c ls cx hw hl
  have hx := cx.1
  have hb := cx.2.1
  have hl : lv_has ls 4 [(0, .ref (G.2.2 0)), (1, .int p1)] := hl
  unfold f_X12_cheapest at hz
  refine lv_aload_n hx hb dX12_cheapest_0 rfl (lv_at hl 0 rfl) ?_
  refine lv_iconst (v := 0) hx hb dX12_cheapest_1 (by decide) ?_
  obtain ⟨s1, es1, hz⟩ := u_let hz
  refine u_puti2 cx hw P_X12_77 o_X12 rfl es1 dX12_cheapest_2 (fun H locs hw => ?_)
  refine lv_iload_n hx hb dX12_cheapest_5 rfl (lv_at hl 1 rfl) ?_
  refine lv_iconst (v := 1) hx hb dX12_cheapest_6 (by decide) ?_
  refine lv_icmp_ge (tgt := 12) hx hb dX12_cheapest_7 (by decide) (fun hc => ?_) (fun hc => ?_)
  · replace hz := u_ift hz hc
    refine lv_iload_n hx hb dX12_cheapest_12 rfl (lv_at hl 1 rfl) ?_
    refine lv_aload_n hx hb dX12_cheapest_13 rfl (lv_at hl 0 rfl) ?_
    refine u_geti cx hw F_X12_13 o_X12 rfl dX12_cheapest_14 ?_
    refine lv_icmp_le (tgt := 23) hx hb dX12_cheapest_17 (by decide) (fun hc => ?_) (fun hc => ?_)
    · replace hz := u_ift hz hc
      refine lv_iconst (v := 0) hx hb dX12_cheapest_23 (by decide) ?_
      refine lv_istore_n (lv' := [(2, .int 0), (0, .ref (G.2.2 0)), (1, .int p1)]) hx hb dX12_cheapest_24 rfl hl (by decide) rfl (fun ls hl => ?_)
      refine lv_iconst (v := 1) hx hb dX12_cheapest_25 (by decide) ?_
      refine lv_istore_n (lv' := [(3, .int 1), (2, .int 0), (0, .ref (G.2.2 0)), (1, .int p1)]) hx hb dX12_cheapest_26 rfl hl (by decide) rfl (fun ls hl => ?_)
      obtain ⟨J76_3, eJ76_3, hz⟩ := u_let hz
      have WJ76_3 : ∀ (x2 : Int32) (H : Heap) (locs : List Loc) (ls : Array Slot), J76_3 x2 = some z → u_W ZM G s1 s H locs → lv_has ls 4 [(0, .ref (G.2.2 0)), (1, .int p1), (2, .int x2)] → W p l e (u_rm 1) s m args below meth c H locs 0 0 (u_Qi below ZM G s args z.1 z.2) (F0 m 76 ls []) := by
        intro x2 H locs ls hz hw hl
        rw [eJ76_3] at hz
        refine lv_aload_n hx hb dX12_cheapest_76 rfl (lv_at hl 0 rfl) ?_
        refine lv_iconst (v := 0) hx hb dX12_cheapest_77 (by decide) ?_
        obtain ⟨s4, es4, hz⟩ := u_let hz
        refine u_puti2 cx hw P_X12_80 o_X12 rfl es4 dX12_cheapest_78 (fun H locs hw => ?_)
        refine lv_aload_n hx hb dX12_cheapest_81 rfl (lv_at hl 0 rfl) ?_
        refine lv_iload_n hx hb dX12_cheapest_82 rfl (lv_at hl 2 rfl) ?_
        refine lv_i2l (v := (Int32.toInt64 x2)) hx hb dX12_cheapest_83 rfl ?_
        obtain ⟨s5, hs5, hz⟩ := u_bind hz
        refine u_callVv (As := [.long (Int32.toInt64 x2)]) (rest := []) cx hw LV_X12_260 (c_X12_tell l G N s4 (Int32.toInt64 x2) s5 hs5) o_X12 rfl (by decide) hl.1 rfl (Nat.le_of_ble_eq_true rfl) dX12_cheapest_84 rfl (fun H locs hw => ?_)
        refine lv_aload_n hx hb dX12_cheapest_87 rfl (lv_at hl 0 rfl) ?_
        refine lv_iload_n hx hb dX12_cheapest_88 rfl (lv_at hl 2 rfl) ?_
        refine lv_iload_n hx hb dX12_cheapest_89 rfl (lv_at hl 1 rfl) ?_
        refine lv_iadd hx hb dX12_cheapest_90 ?_
        refine lv_iconst (v := 1) hx hb dX12_cheapest_91 (by decide) ?_
        refine lv_isub hx hb dX12_cheapest_92 ?_
        refine lv_i2l (v := (Int32.toInt64 ((x2 + p1) - 1))) hx hb dX12_cheapest_93 rfl ?_
        obtain ⟨s6, hs6, hz⟩ := u_bind hz
        refine u_callVv (As := [.long (Int32.toInt64 ((x2 + p1) - 1))]) (rest := []) cx hw LV_X12_260 (c_X12_tell l G N s5 (Int32.toInt64 ((x2 + p1) - 1)) s6 hs6) o_X12 rfl (by decide) hl.1 rfl (Nat.le_of_ble_eq_true rfl) dX12_cheapest_94 rfl (fun H locs hw => ?_)
        refine lv_aload_n hx hb dX12_cheapest_97 rfl (lv_at hl 0 rfl) ?_
        refine lv_aload_n hx hb dX12_cheapest_98 rfl (lv_at hl 0 rfl) ?_
        refine u_getp cx hw F_X12_9 o_X12 rfl dX12_cheapest_99 ?_
        refine lv_iload_n hx hb dX12_cheapest_102 rfl (lv_at hl 2 rfl) ?_
        refine lv_iload_n hx hb dX12_cheapest_103 rfl (lv_at hl 2 rfl) ?_
        refine lv_iload_n hx hb dX12_cheapest_104 rfl (lv_at hl 1 rfl) ?_
        refine lv_iadd hx hb dX12_cheapest_105 ?_
        refine lv_iconst (v := 1) hx hb dX12_cheapest_106 (by decide) ?_
        refine lv_isub hx hb dX12_cheapest_107 ?_
        obtain ⟨v7, hv7, hz⟩ := u_bind hz
        refine u_callVi (As := [.ref (G.2.2 1), .int x2, .int ((x2 + p1) - 1)]) (rest := []) cx hw LV_X12_246 (c_X12_corn l G N s6 1 x2 ((x2 + p1) - 1) v7 hv7) o_X12 rfl (by decide) hl.1 rfl (Nat.le_of_ble_eq_true rfl) dX12_cheapest_108 rfl (fun H locs hw => ?_)
        exact u_iret cx hw (u_pair hz) dX12_cheapest_111
      have WL27_15 : ∀ (k : Nat) (x8 : Int32) (x9 : Int32) (H : Heap) (locs : List Loc) (ls : Array Slot), u_lp2 (b_X12_cheapest_27 N p1 s1 J76_3) k x8 x9 = some z → u_W ZM G s1 s H locs → lv_has ls 4 [(0, .ref (G.2.2 0)), (1, .int p1), (2, .int x8), (3, .int x9)] → W p l e (u_rm 1) s m args below meth c H locs 0 0 (u_Qi below ZM G s args z.1 z.2) (F0 m 27 ls []) := by
        intro k
        induction k with
        | zero =>
          intro x8 x9 H locs ls hz
          exact absurd hz (by intro h9; cases h9)
        | succ k ih27_10 =>
          intro x8 x9 H locs ls hz hw hl
          have hz : (b_X12_cheapest_27 N p1 s1 J76_3) (u_lp2 (b_X12_cheapest_27 N p1 s1 J76_3) k) x8 x9 = some z := hz
          unfold b_X12_cheapest_27 at hz
          refine lv_iload_n hx hb dX12_cheapest_27 rfl (lv_at hl 3 rfl) ?_
          refine lv_iload_n hx hb dX12_cheapest_28 rfl (lv_at hl 1 rfl) ?_
          refine lv_iadd hx hb dX12_cheapest_29 ?_
          refine lv_aload_n hx hb dX12_cheapest_30 rfl (lv_at hl 0 rfl) ?_
          refine u_geti cx hw F_X12_13 o_X12 rfl dX12_cheapest_31 ?_
          refine lv_icmp_gt (tgt := 76) hx hb dX12_cheapest_34 (by decide) (fun hc => ?_) (fun hc => ?_)
          · replace hz := u_ift hz hc
            exact WJ76_3 x8 _ _ _ hz hw (lv_sub hl [0, 1, 2] rfl)
          · replace hz := u_iff hz hc
            refine lv_aload_n hx hb dX12_cheapest_37 rfl (lv_at hl 0 rfl) ?_
            refine lv_aload_n hx hb dX12_cheapest_38 rfl (lv_at hl 0 rfl) ?_
            refine u_getp cx hw F_X12_9 o_X12 rfl dX12_cheapest_39 ?_
            refine lv_iload_n hx hb dX12_cheapest_42 rfl (lv_at hl 3 rfl) ?_
            refine lv_iload_n hx hb dX12_cheapest_43 rfl (lv_at hl 3 rfl) ?_
            refine lv_iload_n hx hb dX12_cheapest_44 rfl (lv_at hl 1 rfl) ?_
            refine lv_iadd hx hb dX12_cheapest_45 ?_
            refine lv_iconst (v := 1) hx hb dX12_cheapest_46 (by decide) ?_
            refine lv_isub hx hb dX12_cheapest_47 ?_
            obtain ⟨v11, hv11, hz⟩ := u_bind hz
            refine u_callVi (As := [.ref (G.2.2 1), .int x9, .int ((x9 + p1) - 1)]) (rest := []) cx hw LV_X12_246 (c_X12_corn l G N s1 1 x9 ((x9 + p1) - 1) v11 hv11) o_X12 rfl (by decide) hl.1 rfl (Nat.le_of_ble_eq_true rfl) dX12_cheapest_48 rfl (fun H locs hw => ?_)
            refine lv_aload_n hx hb dX12_cheapest_51 rfl (lv_at hl 0 rfl) ?_
            refine lv_aload_n hx hb dX12_cheapest_52 rfl (lv_at hl 0 rfl) ?_
            refine u_getp cx hw F_X12_9 o_X12 rfl dX12_cheapest_53 ?_
            refine lv_iload_n hx hb dX12_cheapest_56 rfl (lv_at hl 2 rfl) ?_
            refine lv_iload_n hx hb dX12_cheapest_57 rfl (lv_at hl 2 rfl) ?_
            refine lv_iload_n hx hb dX12_cheapest_58 rfl (lv_at hl 1 rfl) ?_
            refine lv_iadd hx hb dX12_cheapest_59 ?_
            refine lv_iconst (v := 1) hx hb dX12_cheapest_60 (by decide) ?_
            refine lv_isub hx hb dX12_cheapest_61 ?_
            obtain ⟨v12, hv12, hz⟩ := u_bind hz
            refine u_callVi (As := [.ref (G.2.2 1), .int x8, .int ((x8 + p1) - 1)]) (rest := [.int v11]) cx hw LV_X12_246 (c_X12_corn l G N s1 1 x8 ((x8 + p1) - 1) v12 hv12) o_X12 rfl (by decide) hl.1 rfl (Nat.le_of_ble_eq_true rfl) dX12_cheapest_62 rfl (fun H locs hw => ?_)
            obtain ⟨J70_14, eJ70_14, hz⟩ := u_let hz
            have WJ70_14 : ∀ (x13 : Int32) (H : Heap) (locs : List Loc) (ls : Array Slot), J70_14 x13 = some z → u_W ZM G s1 s H locs → lv_has ls 4 [(0, .ref (G.2.2 0)), (1, .int p1), (2, .int x13), (3, .int x9)] → W p l e (u_rm 1) s m args below meth c H locs 0 0 (u_Qi below ZM G s args z.1 z.2) (F0 m 70 ls []) := by
              intro x13 H locs ls hz hw hl
              rw [eJ70_14] at hz
              obtain ⟨x15, ex15, hz⟩ := u_let hz
              refine lv_iinc (v := x15) (lv' := [(3, .int x15), (0, .ref (G.2.2 0)), (1, .int p1), (2, .int x13)]) hx hb dX12_cheapest_70 hl (k := 3) rfl (by rw [ex15]; rfl) (by decide) rfl (fun ls hl => ?_)
              refine lv_goto (tgt := 27) hx hb dX12_cheapest_73 (by decide) ?_
              exact ih27_10 x13 x15 _ _ _ hz hw (lv_sub hl [1, 2, 3, 0] rfl)
            refine lv_icmp_ge (tgt := 70) hx hb dX12_cheapest_65 (by decide) (fun hc => ?_) (fun hc => ?_)
            · replace hz := u_ift hz hc
              exact WJ70_14 x8 _ _ _ hz hw (lv_sub hl [0, 1, 2, 3] rfl)
            · replace hz := u_iff hz hc
              refine lv_iload_n hx hb dX12_cheapest_68 rfl (lv_at hl 3 rfl) ?_
              refine lv_istore_n (lv' := [(2, .int x9), (0, .ref (G.2.2 0)), (1, .int p1), (3, .int x9)]) hx hb dX12_cheapest_69 rfl hl (by decide) rfl (fun ls hl => ?_)
              exact WJ70_14 x9 _ _ _ hz hw (lv_sub hl [1, 2, 0, 3] rfl)
      exact WL27_15 N 0 1 _ _ _ hz hw (lv_sub hl [2, 3, 1, 0] rfl)
    · replace hz := u_iff hz hc
      refine lv_bipush (v := (-2)) hx hb dX12_cheapest_20 (by decide) ?_
      exact u_iret cx hw (u_pair hz) dX12_cheapest_22
  · replace hz := u_iff hz hc
    refine lv_iconst (v := (-1)) hx hb dX12_cheapest_10 (by decide) ?_
    exact u_iret cx hw (u_pair hz) dX12_cheapest_11
theorem dX12_power_0 : decode cX12_power 0 = .ok (.lconst 1, 1) := by decide +kernel
theorem dX12_power_1 : decode cX12_power 1 = .ok (.lstore_n 3, 1) := by decide +kernel
theorem dX12_power_2 : decode cX12_power 2 = .ok (.iconst 0, 1) := by decide +kernel
theorem dX12_power_3 : decode cX12_power 3 = .ok (.istore 5, 2) := by decide +kernel
theorem dX12_power_5 : decode cX12_power 5 = .ok (.iload 5, 2) := by decide +kernel
theorem dX12_power_7 : decode cX12_power 7 = .ok (.iload_n 2, 1) := by decide +kernel
theorem dX12_power_8 : decode cX12_power 8 = .ok (.if_icmp .ge 13, 3) := by decide +kernel
theorem dX12_power_11 : decode cX12_power 11 = .ok (.lload_n 3, 1) := by decide +kernel
theorem dX12_power_12 : decode cX12_power 12 = .ok (.lload_n 0, 1) := by decide +kernel
theorem dX12_power_13 : decode cX12_power 13 = .ok (.lmul, 1) := by decide +kernel
theorem dX12_power_14 : decode cX12_power 14 = .ok (.lstore_n 3, 1) := by decide +kernel
theorem dX12_power_15 : decode cX12_power 15 = .ok (.iinc 5 1, 3) := by decide +kernel
theorem dX12_power_18 : decode cX12_power 18 = .ok (.goto (-13), 3) := by decide +kernel
theorem dX12_power_21 : decode cX12_power 21 = .ok (.lload_n 3, 1) := by decide +kernel
theorem dX12_power_22 : decode cX12_power 22 = .ok (.lreturn, 1) := by decide +kernel
def b_X12_power_5 (p0 : Int64) (p2 : Int32) (J21_2 : Int64 → Option Int64) (rec5_5 : Int64 → Int32 → Option Int64) (x3 : Int64) (x4 : Int32) : Option Int64 :=
  if p2 ≤ x4 then (J21_2 x3) else (u_jn ((x3 * p0) : Int64) fun x6 =>
  u_jn (x4 + 1 : Int32) fun x7 =>
  rec5_5 x6 x7)
def f_X12_power (N : Nat) (σ : uS) (p0 : Int64) (p2 : Int32) : Option Int64 := u_jn (fun (x1 : Int64) => (some x1 : Option Int64)) fun J21_2 =>
  u_lp2 (b_X12_power_5 p0 p2 J21_2) N 1 0
set_option maxRecDepth 100000 in
set_option maxHeartbeats 4000000 in
theorem c_X12_power (l : Launch) (G : uG) (N : Nat) (σ : uS) (p0 : Int64) (p2 : Int32) (z : Int64) (hz : f_X12_power N σ p0 p2 = some z) : u_Ml l ZM G yX12_power cX12_power 6 0 [.long p0, .int p2] σ z σ := by
  refine u_Ml_of RX12 (by decide) rfl (Nat.le_of_ble_eq_true rfl) ?_
  intro p e s m args below meth c ls cx hw hl
  have hx := cx.1
  have hb := cx.2.1
  have hl : lv_has ls 6 [(0, .long p0), (2, .int p2)] := hl
  unfold f_X12_power at hz
  refine lv_lconst (v := 1) hx hb dX12_power_0 (by decide) ?_
  refine lv_lstore_n (lv' := [(3, .long 1), (0, .long p0), (2, .int p2)]) hx hb dX12_power_1 rfl hl (by decide) rfl (fun ls hl => ?_)
  refine lv_iconst (v := 0) hx hb dX12_power_2 (by decide) ?_
  refine lv_istore (lv' := [(5, .int 0), (3, .long 1), (0, .long p0), (2, .int p2)]) hx hb dX12_power_3 hl (by decide) rfl (fun ls hl => ?_)
  obtain ⟨J21_2, eJ21_2, hz⟩ := u_let hz
  have WJ21_2 : ∀ (x1 : Int64) (H : Heap) (locs : List Loc) (ls : Array Slot), J21_2 x1 = some z → u_W ZM G σ s H locs → lv_has ls 6 [(3, .long x1)] → W p l e (u_rm 0) s m args below meth c H locs 0 0 (u_Ql below ZM G s args z σ) (F0 m 21 ls []) := by
    intro x1 H locs ls hz hw hl
    rw [eJ21_2] at hz
    refine lv_lload_n hx hb dX12_power_21 rfl (lv_at hl 0 rfl) ?_
    exact u_lret cx hw ⟨Option.some.inj hz, rfl⟩ dX12_power_22
  have WL5_7 : ∀ (k : Nat) (x3 : Int64) (x4 : Int32) (H : Heap) (locs : List Loc) (ls : Array Slot), u_lp2 (b_X12_power_5 p0 p2 J21_2) k x3 x4 = some z → u_W ZM G σ s H locs → lv_has ls 6 [(0, .long p0), (2, .int p2), (3, .long x3), (5, .int x4)] → W p l e (u_rm 0) s m args below meth c H locs 0 0 (u_Ql below ZM G s args z σ) (F0 m 5 ls []) := by
    intro k
    induction k with
    | zero =>
      intro x3 x4 H locs ls hz
      exact absurd hz (by intro h9; cases h9)
    | succ k ih5_5 =>
      intro x3 x4 H locs ls hz hw hl
      have hz : (b_X12_power_5 p0 p2 J21_2) (u_lp2 (b_X12_power_5 p0 p2 J21_2) k) x3 x4 = some z := hz
      unfold b_X12_power_5 at hz
      refine lv_iload hx hb dX12_power_5 (lv_at hl 3 rfl) ?_
      refine lv_iload_n hx hb dX12_power_7 rfl (lv_at hl 1 rfl) ?_
      refine lv_icmp_ge (tgt := 21) hx hb dX12_power_8 (by decide) (fun hc => ?_) (fun hc => ?_)
      · replace hz := u_ift hz hc
        exact WJ21_2 x3 _ _ _ hz hw (lv_sub hl [2] rfl)
      · replace hz := u_iff hz hc
        refine lv_lload_n hx hb dX12_power_11 rfl (lv_at hl 2 rfl) ?_
        refine lv_lload_n hx hb dX12_power_12 rfl (lv_at hl 0 rfl) ?_
        refine lv_lmul hx hb dX12_power_13 ?_
        obtain ⟨x6, ex6, hz⟩ := u_let hz
        refine u_topl ex6 ?_
        refine lv_lstore_n (lv' := [(3, .long x6), (0, .long p0), (2, .int p2), (5, .int x4)]) hx hb dX12_power_14 rfl hl (by decide) rfl (fun ls hl => ?_)
        obtain ⟨x7, ex7, hz⟩ := u_let hz
        refine lv_iinc (v := x7) (lv' := [(5, .int x7), (3, .long x6), (0, .long p0), (2, .int p2)]) hx hb dX12_power_15 hl (k := 3) rfl (by rw [ex7]; rfl) (by decide) rfl (fun ls hl => ?_)
        refine lv_goto (tgt := 5) hx hb dX12_power_18 (by decide) ?_
        exact ih5_5 x6 x7 _ _ _ hz hw (lv_sub hl [2, 3, 1, 0] rfl)
  exact WL5_7 N 1 0 _ _ _ hz hw (lv_sub hl [2, 3, 1, 0] rfl)
theorem dX12_farmerGets_0 : decode cX12_farmerGets 0 = .ok (.iload_n 1, 1) := by decide +kernel
theorem dX12_farmerGets_1 : decode cX12_farmerGets 1 = .ok (.iload_n 0, 1) := by decide +kernel
theorem dX12_farmerGets_2 : decode cX12_farmerGets 2 = .ok (.if_icmp .lt 7, 3) := by decide +kernel
theorem dX12_farmerGets_5 : decode cX12_farmerGets 5 = .ok (.iload_n 0, 1) := by decide +kernel
theorem dX12_farmerGets_6 : decode cX12_farmerGets 6 = .ok (.goto 4, 3) := by decide +kernel
theorem dX12_farmerGets_9 : decode cX12_farmerGets 9 = .ok (.iload_n 2, 1) := by decide +kernel
theorem dX12_farmerGets_10 : decode cX12_farmerGets 10 = .ok (.ireturn, 1) := by decide +kernel
def f_X12_farmerGets (N : Nat) (σ : uS) (p0 : Int32) (p1 : Int32) (p2 : Int32) : Option Int32 := if p1 < p0 then (some p2) else (some p0)
set_option maxRecDepth 100000 in
set_option maxHeartbeats 4000000 in
theorem c_X12_farmerGets (l : Launch) (G : uG) (N : Nat) (σ : uS) (p0 : Int32) (p1 : Int32) (p2 : Int32) (z : Int32) (hz : f_X12_farmerGets N σ p0 p1 p2 = some z) : u_Mi l ZM G yX12_farmerGets cX12_farmerGets 3 .int 0 [.int p0, .int p1, .int p2] σ z σ := by
  refine u_Mi_of RX12 (by decide) rfl (Nat.le_of_ble_eq_true rfl) ?_
  intro p e s m args below meth c ls cx hw hl
  have hx := cx.1
  have hb := cx.2.1
  have hl : lv_has ls 3 [(0, .int p0), (1, .int p1), (2, .int p2)] := hl
  unfold f_X12_farmerGets at hz
  refine lv_iload_n hx hb dX12_farmerGets_0 rfl (lv_at hl 1 rfl) ?_
  refine lv_iload_n hx hb dX12_farmerGets_1 rfl (lv_at hl 0 rfl) ?_
  refine lv_icmp_lt (tgt := 9) hx hb dX12_farmerGets_2 (by decide) (fun hc => ?_) (fun hc => ?_)
  · replace hz := u_ift hz hc
    refine lv_iload_n hx hb dX12_farmerGets_9 rfl (lv_at hl 2 rfl) ?_
    exact u_iret cx hw ⟨Option.some.inj hz, rfl⟩ dX12_farmerGets_10
  · replace hz := u_iff hz hc
    refine lv_iload_n hx hb dX12_farmerGets_5 rfl (lv_at hl 0 rfl) ?_
    refine lv_goto (tgt := 10) hx hb dX12_farmerGets_6 (by decide) ?_
    exact u_iret cx hw ⟨Option.some.inj hz, rfl⟩ dX12_farmerGets_10
theorem dX12_othersGet_0 : decode cX12_othersGet 0 = .ok (.iload_n 1, 1) := by decide +kernel
theorem dX12_othersGet_1 : decode cX12_othersGet 1 = .ok (.iload_n 0, 1) := by decide +kernel
theorem dX12_othersGet_2 : decode cX12_othersGet 2 = .ok (.if_icmp .lt 9, 3) := by decide +kernel
theorem dX12_othersGet_5 : decode cX12_othersGet 5 = .ok (.iload_n 2, 1) := by decide +kernel
theorem dX12_othersGet_6 : decode cX12_othersGet 6 = .ok (.iload_n 0, 1) := by decide +kernel
theorem dX12_othersGet_7 : decode cX12_othersGet 7 = .ok (.isub, 1) := by decide +kernel
theorem dX12_othersGet_8 : decode cX12_othersGet 8 = .ok (.goto 4, 3) := by decide +kernel
theorem dX12_othersGet_11 : decode cX12_othersGet 11 = .ok (.iconst 0, 1) := by decide +kernel
theorem dX12_othersGet_12 : decode cX12_othersGet 12 = .ok (.ireturn, 1) := by decide +kernel
def f_X12_othersGet (N : Nat) (σ : uS) (p0 : Int32) (p1 : Int32) (p2 : Int32) : Option Int32 := if p1 < p0 then (some 0) else (some (p2 - p0))
set_option maxRecDepth 100000 in
set_option maxHeartbeats 4000000 in
theorem c_X12_othersGet (l : Launch) (G : uG) (N : Nat) (σ : uS) (p0 : Int32) (p1 : Int32) (p2 : Int32) (z : Int32) (hz : f_X12_othersGet N σ p0 p1 p2 = some z) : u_Mi l ZM G yX12_othersGet cX12_othersGet 3 .int 0 [.int p0, .int p1, .int p2] σ z σ := by
  refine u_Mi_of RX12 (by decide) rfl (Nat.le_of_ble_eq_true rfl) ?_
  intro p e s m args below meth c ls cx hw hl
  have hx := cx.1
  have hb := cx.2.1
  have hl : lv_has ls 3 [(0, .int p0), (1, .int p1), (2, .int p2)] := hl
  unfold f_X12_othersGet at hz
  refine lv_iload_n hx hb dX12_othersGet_0 rfl (lv_at hl 1 rfl) ?_
  refine lv_iload_n hx hb dX12_othersGet_1 rfl (lv_at hl 0 rfl) ?_
  refine lv_icmp_lt (tgt := 11) hx hb dX12_othersGet_2 (by decide) (fun hc => ?_) (fun hc => ?_)
  · replace hz := u_ift hz hc
    refine lv_iconst (v := 0) hx hb dX12_othersGet_11 (by decide) ?_
    exact u_iret cx hw ⟨Option.some.inj hz, rfl⟩ dX12_othersGet_12
  · replace hz := u_iff hz hc
    refine lv_iload_n hx hb dX12_othersGet_5 rfl (lv_at hl 2 rfl) ?_
    refine lv_iload_n hx hb dX12_othersGet_6 rfl (lv_at hl 0 rfl) ?_
    refine lv_isub hx hb dX12_othersGet_7 ?_
    refine lv_goto (tgt := 12) hx hb dX12_othersGet_8 (by decide) ?_
    exact u_iret cx hw ⟨Option.some.inj hz, rfl⟩ dX12_othersGet_12
theorem dX12_isRest_0 : decode cX12_isRest 0 = .ok (.iconst 0, 1) := by decide +kernel
theorem dX12_isRest_1 : decode cX12_isRest 1 = .ok (.istore 4, 2) := by decide +kernel
theorem dX12_isRest_3 : decode cX12_isRest 3 = .ok (.iload 4, 2) := by decide +kernel
theorem dX12_isRest_5 : decode cX12_isRest 5 = .ok (.bipush 9, 2) := by decide +kernel
theorem dX12_isRest_7 : decode cX12_isRest 7 = .ok (.if_icmp .gt 43, 3) := by decide +kernel
theorem dX12_isRest_10 : decode cX12_isRest 10 = .ok (.iload 4, 2) := by decide +kernel
theorem dX12_isRest_12 : decode cX12_isRest 12 = .ok (.iload_n 1, 1) := by decide +kernel
theorem dX12_isRest_13 : decode cX12_isRest 13 = .ok (.iload_n 3, 1) := by decide +kernel
theorem dX12_isRest_14 : decode cX12_isRest 14 = .ok (.invokestatic 333, 3) := by decide +kernel
theorem dX12_isRest_17 : decode cX12_isRest 17 = .ok (.iload_n 0, 1) := by decide +kernel
theorem dX12_isRest_18 : decode cX12_isRest 18 = .ok (.iload_n 1, 1) := by decide +kernel
theorem dX12_isRest_19 : decode cX12_isRest 19 = .ok (.iload_n 3, 1) := by decide +kernel
theorem dX12_isRest_20 : decode cX12_isRest 20 = .ok (.invokestatic 333, 3) := by decide +kernel
theorem dX12_isRest_23 : decode cX12_isRest 23 = .ok (.if_icmp .gt 19, 3) := by decide +kernel
theorem dX12_isRest_26 : decode cX12_isRest 26 = .ok (.iload_n 0, 1) := by decide +kernel
theorem dX12_isRest_27 : decode cX12_isRest 27 = .ok (.iload 4, 2) := by decide +kernel
theorem dX12_isRest_29 : decode cX12_isRest 29 = .ok (.iload_n 2, 1) := by decide +kernel
theorem dX12_isRest_30 : decode cX12_isRest 30 = .ok (.invokestatic 337, 3) := by decide +kernel
theorem dX12_isRest_33 : decode cX12_isRest 33 = .ok (.iload_n 0, 1) := by decide +kernel
theorem dX12_isRest_34 : decode cX12_isRest 34 = .ok (.iload_n 1, 1) := by decide +kernel
theorem dX12_isRest_35 : decode cX12_isRest 35 = .ok (.iload_n 2, 1) := by decide +kernel
theorem dX12_isRest_36 : decode cX12_isRest 36 = .ok (.invokestatic 337, 3) := by decide +kernel
theorem dX12_isRest_39 : decode cX12_isRest 39 = .ok (.if_icmp .le 5, 3) := by decide +kernel
theorem dX12_isRest_42 : decode cX12_isRest 42 = .ok (.iconst 0, 1) := by decide +kernel
theorem dX12_isRest_43 : decode cX12_isRest 43 = .ok (.ireturn, 1) := by decide +kernel
theorem dX12_isRest_44 : decode cX12_isRest 44 = .ok (.iinc 4 1, 3) := by decide +kernel
theorem dX12_isRest_47 : decode cX12_isRest 47 = .ok (.goto (-44), 3) := by decide +kernel
theorem dX12_isRest_50 : decode cX12_isRest 50 = .ok (.iconst 1, 1) := by decide +kernel
theorem dX12_isRest_51 : decode cX12_isRest 51 = .ok (.ireturn, 1) := by decide +kernel
def b_X12_isRest_3 (N : Nat) (σ : uS) (p0 : Int32) (p1 : Int32) (p2 : Int32) (p3 : Int32) (J50_1 : Option Int32) (rec3_3 : Int32 → Option Int32) (x2 : Int32) : Option Int32 :=
  if 9 < x2 then (J50_1) else ((f_X12_farmerGets N σ x2 p1 p3).bind fun v4 =>
  (f_X12_farmerGets N σ p0 p1 p3).bind fun v5 =>
  if v5 < v4 then (some 0) else ((f_X12_othersGet N σ p0 x2 p2).bind fun v6 =>
  (f_X12_othersGet N σ p0 p1 p2).bind fun v7 =>
  if v6 ≤ v7 then (u_jn (x2 + 1 : Int32) fun x8 =>
  rec3_3 x8) else (some 0)))
def f_X12_isRest (N : Nat) (σ : uS) (p0 : Int32) (p1 : Int32) (p2 : Int32) (p3 : Int32) : Option Int32 := u_jn ((some 1 : Option Int32)) fun J50_1 =>
  u_lp1 (b_X12_isRest_3 N σ p0 p1 p2 p3 J50_1) N 0
set_option maxRecDepth 100000 in
set_option maxHeartbeats 4000000 in
theorem c_X12_isRest (l : Launch) (G : uG) (N : Nat) (σ : uS) (p0 : Int32) (p1 : Int32) (p2 : Int32) (p3 : Int32) (z : Int32) (hz : f_X12_isRest N σ p0 p1 p2 p3 = some z) : u_Mi l ZM G yX12_isRest cX12_isRest 5 .boolean 1 [.int p0, .int p1, .int p2, .int p3] σ z σ := by
  refine u_Mi_of RX12 (by decide) rfl (Nat.le_of_ble_eq_true rfl) ?_
  intro p e s m args below meth c ls cx hw hl
  have hx := cx.1
  have hb := cx.2.1
  have hl : lv_has ls 5 [(0, .int p0), (1, .int p1), (2, .int p2), (3, .int p3)] := hl
  unfold f_X12_isRest at hz
  refine lv_iconst (v := 0) hx hb dX12_isRest_0 (by decide) ?_
  refine lv_istore (lv' := [(4, .int 0), (0, .int p0), (1, .int p1), (2, .int p2), (3, .int p3)]) hx hb dX12_isRest_1 hl (by decide) rfl (fun ls hl => ?_)
  obtain ⟨J50_1, eJ50_1, hz⟩ := u_let hz
  have WJ50_1 : ∀ (H : Heap) (locs : List Loc) (ls : Array Slot), J50_1 = some z → u_W ZM G σ s H locs → lv_has ls 5 [] → W p l e (u_rm 1) s m args below meth c H locs 0 0 (u_Qi below ZM G s args z σ) (F0 m 50 ls []) := by
    intro H locs ls hz hw hl
    rw [eJ50_1] at hz
    refine lv_iconst (v := 1) hx hb dX12_isRest_50 (by decide) ?_
    exact u_zret cx hw (Or.inr rfl) ⟨Option.some.inj hz, rfl⟩ dX12_isRest_51
  have WL3_8 : ∀ (k : Nat) (x2 : Int32) (H : Heap) (locs : List Loc) (ls : Array Slot), u_lp1 (b_X12_isRest_3 N σ p0 p1 p2 p3 J50_1) k x2 = some z → u_W ZM G σ s H locs → lv_has ls 5 [(0, .int p0), (1, .int p1), (2, .int p2), (3, .int p3), (4, .int x2)] → W p l e (u_rm 1) s m args below meth c H locs 0 0 (u_Qi below ZM G s args z σ) (F0 m 3 ls []) := by
    intro k
    induction k with
    | zero =>
      intro x2 H locs ls hz
      exact absurd hz (by intro h9; cases h9)
    | succ k ih3_3 =>
      intro x2 H locs ls hz hw hl
      have hz : (b_X12_isRest_3 N σ p0 p1 p2 p3 J50_1) (u_lp1 (b_X12_isRest_3 N σ p0 p1 p2 p3 J50_1) k) x2 = some z := hz
      unfold b_X12_isRest_3 at hz
      refine lv_iload hx hb dX12_isRest_3 (lv_at hl 4 rfl) ?_
      refine lv_bipush (v := 9) hx hb dX12_isRest_5 (by decide) ?_
      refine lv_icmp_gt (tgt := 50) hx hb dX12_isRest_7 (by decide) (fun hc => ?_) (fun hc => ?_)
      · replace hz := u_ift hz hc
        exact WJ50_1 _ _ _ hz hw (lv_sub hl [] rfl)
      · replace hz := u_iff hz hc
        refine lv_iload hx hb dX12_isRest_10 (lv_at hl 4 rfl) ?_
        refine lv_iload_n hx hb dX12_isRest_12 rfl (lv_at hl 1 rfl) ?_
        refine lv_iload_n hx hb dX12_isRest_13 rfl (lv_at hl 3 rfl) ?_
        obtain ⟨v4, hv4, hz⟩ := u_bind hz
        refine u_callSi (As := [.int x2, .int p1, .int p3]) (rest := []) cx hw LS_X12_333 (c_X12_farmerGets l G N σ x2 p1 p3 v4 hv4) (by decide) hl.1 rfl (Nat.le_of_ble_eq_true rfl) dX12_isRest_14 rfl (fun H locs hw => ?_)
        refine lv_iload_n hx hb dX12_isRest_17 rfl (lv_at hl 0 rfl) ?_
        refine lv_iload_n hx hb dX12_isRest_18 rfl (lv_at hl 1 rfl) ?_
        refine lv_iload_n hx hb dX12_isRest_19 rfl (lv_at hl 3 rfl) ?_
        obtain ⟨v5, hv5, hz⟩ := u_bind hz
        refine u_callSi (As := [.int p0, .int p1, .int p3]) (rest := [.int v4]) cx hw LS_X12_333 (c_X12_farmerGets l G N σ p0 p1 p3 v5 hv5) (by decide) hl.1 rfl (Nat.le_of_ble_eq_true rfl) dX12_isRest_20 rfl (fun H locs hw => ?_)
        refine lv_icmp_gt (tgt := 42) hx hb dX12_isRest_23 (by decide) (fun hc => ?_) (fun hc => ?_)
        · replace hz := u_ift hz hc
          refine lv_iconst (v := 0) hx hb dX12_isRest_42 (by decide) ?_
          exact u_zret cx hw (Or.inl rfl) ⟨Option.some.inj hz, rfl⟩ dX12_isRest_43
        · replace hz := u_iff hz hc
          refine lv_iload_n hx hb dX12_isRest_26 rfl (lv_at hl 0 rfl) ?_
          refine lv_iload hx hb dX12_isRest_27 (lv_at hl 4 rfl) ?_
          refine lv_iload_n hx hb dX12_isRest_29 rfl (lv_at hl 2 rfl) ?_
          obtain ⟨v6, hv6, hz⟩ := u_bind hz
          refine u_callSi (As := [.int p0, .int x2, .int p2]) (rest := []) cx hw LS_X12_337 (c_X12_othersGet l G N σ p0 x2 p2 v6 hv6) (by decide) hl.1 rfl (Nat.le_of_ble_eq_true rfl) dX12_isRest_30 rfl (fun H locs hw => ?_)
          refine lv_iload_n hx hb dX12_isRest_33 rfl (lv_at hl 0 rfl) ?_
          refine lv_iload_n hx hb dX12_isRest_34 rfl (lv_at hl 1 rfl) ?_
          refine lv_iload_n hx hb dX12_isRest_35 rfl (lv_at hl 2 rfl) ?_
          obtain ⟨v7, hv7, hz⟩ := u_bind hz
          refine u_callSi (As := [.int p0, .int p1, .int p2]) (rest := [.int v6]) cx hw LS_X12_337 (c_X12_othersGet l G N σ p0 p1 p2 v7 hv7) (by decide) hl.1 rfl (Nat.le_of_ble_eq_true rfl) dX12_isRest_36 rfl (fun H locs hw => ?_)
          refine lv_icmp_le (tgt := 44) hx hb dX12_isRest_39 (by decide) (fun hc => ?_) (fun hc => ?_)
          · replace hz := u_ift hz hc
            obtain ⟨x8, ex8, hz⟩ := u_let hz
            refine lv_iinc (v := x8) (lv' := [(4, .int x8), (0, .int p0), (1, .int p1), (2, .int p2), (3, .int p3)]) hx hb dX12_isRest_44 hl (k := 4) rfl (by rw [ex8]; rfl) (by decide) rfl (fun ls hl => ?_)
            refine lv_goto (tgt := 3) hx hb dX12_isRest_47 (by decide) ?_
            exact ih3_3 x8 _ _ _ hz hw (lv_sub hl [1, 2, 3, 4, 0] rfl)
          · replace hz := u_iff hz hc
            refine lv_iconst (v := 0) hx hb dX12_isRest_42 (by decide) ?_
            exact u_zret cx hw (Or.inl rfl) ⟨Option.some.inj hz, rfl⟩ dX12_isRest_43
  exact WL3_8 N 0 _ _ _ hz hw (lv_sub hl [1, 2, 3, 4, 0] rfl)
theorem dX12_rests_0 : decode cX12_rests 0 = .ok (.aload_n 0, 1) := by decide +kernel
theorem dX12_rests_1 : decode cX12_rests 1 = .ok (.iconst 0, 1) := by decide +kernel
theorem dX12_rests_2 : decode cX12_rests 2 = .ok (.putfield 77, 3) := by decide +kernel
theorem dX12_rests_5 : decode cX12_rests 5 = .ok (.iload_n 1, 1) := by decide +kernel
theorem dX12_rests_6 : decode cX12_rests 6 = .ok (.iconst 0, 1) := by decide +kernel
theorem dX12_rests_7 : decode cX12_rests 7 = .ok (.bipush 20, 2) := by decide +kernel
theorem dX12_rests_9 : decode cX12_rests 9 = .ok (.invokestatic 86, 3) := by decide +kernel
theorem dX12_rests_12 : decode cX12_rests 12 = .ok (.ifCond .eq 13, 3) := by decide +kernel
theorem dX12_rests_15 : decode cX12_rests 15 = .ok (.iload_n 2, 1) := by decide +kernel
theorem dX12_rests_16 : decode cX12_rests 16 = .ok (.iconst 0, 1) := by decide +kernel
theorem dX12_rests_17 : decode cX12_rests 17 = .ok (.bipush 9, 2) := by decide +kernel
theorem dX12_rests_19 : decode cX12_rests 19 = .ok (.invokestatic 86, 3) := by decide +kernel
theorem dX12_rests_22 : decode cX12_rests 22 = .ok (.ifCond .ne 5, 3) := by decide +kernel
theorem dX12_rests_25 : decode cX12_rests 25 = .ok (.iconst (-1), 1) := by decide +kernel
theorem dX12_rests_26 : decode cX12_rests 26 = .ok (.ireturn, 1) := by decide +kernel
theorem dX12_rests_27 : decode cX12_rests 27 = .ok (.iconst 0, 1) := by decide +kernel
theorem dX12_rests_28 : decode cX12_rests 28 = .ok (.istore_n 3, 1) := by decide +kernel
theorem dX12_rests_29 : decode cX12_rests 29 = .ok (.aload_n 0, 1) := by decide +kernel
theorem dX12_rests_30 : decode cX12_rests 30 = .ok (.iconst 0, 1) := by decide +kernel
theorem dX12_rests_31 : decode cX12_rests 31 = .ok (.putfield 80, 3) := by decide +kernel
theorem dX12_rests_34 : decode cX12_rests 34 = .ok (.iconst 0, 1) := by decide +kernel
theorem dX12_rests_35 : decode cX12_rests 35 = .ok (.istore 4, 2) := by decide +kernel
theorem dX12_rests_37 : decode cX12_rests 37 = .ok (.iload 4, 2) := by decide +kernel
theorem dX12_rests_39 : decode cX12_rests 39 = .ok (.bipush 9, 2) := by decide +kernel
theorem dX12_rests_41 : decode cX12_rests 41 = .ok (.if_icmp .gt 61, 3) := by decide +kernel
theorem dX12_rests_44 : decode cX12_rests 44 = .ok (.iconst 0, 1) := by decide +kernel
theorem dX12_rests_45 : decode cX12_rests 45 = .ok (.istore 5, 2) := by decide +kernel
theorem dX12_rests_47 : decode cX12_rests 47 = .ok (.iload 5, 2) := by decide +kernel
theorem dX12_rests_49 : decode cX12_rests 49 = .ok (.bipush 9, 2) := by decide +kernel
theorem dX12_rests_51 : decode cX12_rests 51 = .ok (.if_icmp .gt 45, 3) := by decide +kernel
theorem dX12_rests_54 : decode cX12_rests 54 = .ok (.iload 4, 2) := by decide +kernel
theorem dX12_rests_56 : decode cX12_rests 56 = .ok (.iload 5, 2) := by decide +kernel
theorem dX12_rests_58 : decode cX12_rests 58 = .ok (.iload_n 1, 1) := by decide +kernel
theorem dX12_rests_59 : decode cX12_rests 59 = .ok (.iload_n 2, 1) := by decide +kernel
theorem dX12_rests_60 : decode cX12_rests 60 = .ok (.invokestatic 340, 3) := by decide +kernel
theorem dX12_rests_63 : decode cX12_rests 63 = .ok (.ifCond .ne 6, 3) := by decide +kernel
theorem dX12_rests_66 : decode cX12_rests 66 = .ok (.goto 24, 3) := by decide +kernel
theorem dX12_rests_69 : decode cX12_rests 69 = .ok (.iload_n 3, 1) := by decide +kernel
theorem dX12_rests_70 : decode cX12_rests 70 = .ok (.ifCond .ne 17, 3) := by decide +kernel
theorem dX12_rests_73 : decode cX12_rests 73 = .ok (.aload_n 0, 1) := by decide +kernel
theorem dX12_rests_74 : decode cX12_rests 74 = .ok (.iload 4, 2) := by decide +kernel
theorem dX12_rests_76 : decode cX12_rests 76 = .ok (.i2l, 1) := by decide +kernel
theorem dX12_rests_77 : decode cX12_rests 77 = .ok (.invokevirtual 260, 3) := by decide +kernel
theorem dX12_rests_80 : decode cX12_rests 80 = .ok (.aload_n 0, 1) := by decide +kernel
theorem dX12_rests_81 : decode cX12_rests 81 = .ok (.iload 5, 2) := by decide +kernel
theorem dX12_rests_83 : decode cX12_rests 83 = .ok (.i2l, 1) := by decide +kernel
theorem dX12_rests_84 : decode cX12_rests 84 = .ok (.invokevirtual 260, 3) := by decide +kernel
theorem dX12_rests_87 : decode cX12_rests 87 = .ok (.iinc 3 1, 3) := by decide +kernel
theorem dX12_rests_90 : decode cX12_rests 90 = .ok (.iinc 5 1, 3) := by decide +kernel
theorem dX12_rests_93 : decode cX12_rests 93 = .ok (.goto (-46), 3) := by decide +kernel
theorem dX12_rests_96 : decode cX12_rests 96 = .ok (.iinc 4 1, 3) := by decide +kernel
theorem dX12_rests_99 : decode cX12_rests 99 = .ok (.goto (-62), 3) := by decide +kernel
theorem dX12_rests_102 : decode cX12_rests 102 = .ok (.iload_n 3, 1) := by decide +kernel
theorem dX12_rests_103 : decode cX12_rests 103 = .ok (.ireturn, 1) := by decide +kernel
def b_X12_rests_47 (N : Nat) (p1 : Int32) (p2 : Int32) (x10 : Int32) (J96_14 : uS → Int32 → Option (Int32 × uS)) (rec47_19 : uS → Int32 → Int32 → Option (Int32 × uS)) (s16 : uS) (x17 : Int32) (x18 : Int32) : Option (Int32 × uS) :=
  if 9 < x18 then (J96_14 s16 x17) else ((f_X12_isRest N s16 x10 x18 p1 p2).bind fun v20 =>
  u_jn (fun (s21 : uS) (x22 : Int32) => (u_jn (x18 + 1 : Int32) fun x24 =>
  rec47_19 s21 x22 x24 : Option (Int32 × uS))) fun J90_23 =>
  if v20 = 0 then (J90_23 s16 x17) else (u_jn (fun (s25 : uS) => (u_jn (x17 + 1 : Int32) fun x27 =>
  J90_23 s25 x27 : Option (Int32 × uS))) fun J87_26 =>
  if x17 = 0 then ((f_X12_tell N s16 (Int32.toInt64 x10)).bind fun s28 =>
  (f_X12_tell N s28 (Int32.toInt64 x18)).bind fun s29 =>
  J87_26 s29) else (J87_26 s16)))
def b_X12_rests_37 (N : Nat) (p1 : Int32) (p2 : Int32) (J102_7 : uS → Int32 → Option (Int32 × uS)) (rec37_11 : uS → Int32 → Int32 → Option (Int32 × uS)) (s8 : uS) (x9 : Int32) (x10 : Int32) : Option (Int32 × uS) :=
  if 9 < x10 then (J102_7 s8 x9) else (u_jn (fun (s12 : uS) (x13 : Int32) => (u_jn (x10 + 1 : Int32) fun x15 =>
  rec37_11 s12 x13 x15 : Option (Int32 × uS))) fun J96_14 =>
  u_lp3 (b_X12_rests_47 N p1 p2 x10 J96_14) N s8 x9 0)
def f_X12_rests (N : Nat) (σ : uS) (p1 : Int32) (p2 : Int32) : Option (Int32 × uS) := u_jn (u_pI σ 0 8 0) fun s1 =>
  (f_X12_in N s1 p1 0 20).bind fun v2 =>
  if v2 = 0 then (some ((-1), s1)) else ((f_X12_in N s1 p2 0 9).bind fun v3 =>
  if v3 = 0 then (some ((-1), s1)) else (u_jn (u_pI s1 0 7 0) fun s4 =>
  u_jn (fun (s5 : uS) (x6 : Int32) => (some (x6, s5) : Option (Int32 × uS))) fun J102_7 =>
  u_lp3 (b_X12_rests_37 N p1 p2 J102_7) N s4 0 0))
set_option maxRecDepth 100000 in
set_option maxHeartbeats 4000000 in
theorem c_X12_rests (l : Launch) (G : uG) (N : Nat) (σ : uS) (p1 : Int32) (p2 : Int32) (z : (Int32 × uS)) (hz : f_X12_rests N σ p1 p2 = some z) : u_Mi l ZM G yX12_rests cX12_rests 6 .int 2 [.ref (G.2.2 0), .int p1, .int p2] σ z.1 z.2 := by
  refine u_Mi_of RX12 (by decide) rfl (Nat.le_of_ble_eq_true rfl) ?_
  intro p e s m args below meth c ls cx hw hl
  have hx := cx.1
  have hb := cx.2.1
  have hl : lv_has ls 6 [(0, .ref (G.2.2 0)), (1, .int p1), (2, .int p2)] := hl
  unfold f_X12_rests at hz
  refine lv_aload_n hx hb dX12_rests_0 rfl (lv_at hl 0 rfl) ?_
  refine lv_iconst (v := 0) hx hb dX12_rests_1 (by decide) ?_
  obtain ⟨s1, es1, hz⟩ := u_let hz
  refine u_puti2 cx hw P_X12_77 o_X12 rfl es1 dX12_rests_2 (fun H locs hw => ?_)
  refine lv_iload_n hx hb dX12_rests_5 rfl (lv_at hl 1 rfl) ?_
  refine lv_iconst (v := 0) hx hb dX12_rests_6 (by decide) ?_
  refine lv_bipush (v := 20) hx hb dX12_rests_7 (by decide) ?_
  obtain ⟨v2, hv2, hz⟩ := u_bind hz
  refine u_callSi (As := [.int p1, .int 0, .int 20]) (rest := []) cx hw LS_X12_86 (c_X12_in l G N s1 p1 0 20 v2 hv2) (by decide) hl.1 rfl (Nat.le_of_ble_eq_true rfl) dX12_rests_9 rfl (fun H locs hw => ?_)
  refine lv_if_eq (tgt := 25) hx hb dX12_rests_12 (by decide) (fun hc => ?_) (fun hc => ?_)
  · replace hz := u_ift hz hc
    refine lv_iconst (v := (-1)) hx hb dX12_rests_25 (by decide) ?_
    exact u_iret cx hw (u_pair hz) dX12_rests_26
  · replace hz := u_iff hz hc
    refine lv_iload_n hx hb dX12_rests_15 rfl (lv_at hl 2 rfl) ?_
    refine lv_iconst (v := 0) hx hb dX12_rests_16 (by decide) ?_
    refine lv_bipush (v := 9) hx hb dX12_rests_17 (by decide) ?_
    obtain ⟨v3, hv3, hz⟩ := u_bind hz
    refine u_callSi (As := [.int p2, .int 0, .int 9]) (rest := []) cx hw LS_X12_86 (c_X12_in l G N s1 p2 0 9 v3 hv3) (by decide) hl.1 rfl (Nat.le_of_ble_eq_true rfl) dX12_rests_19 rfl (fun H locs hw => ?_)
    refine lv_if_ne (tgt := 27) hx hb dX12_rests_22 (by decide) (fun hc => ?_) (fun hc => ?_)
    · replace hz := u_iff hz hc
      refine lv_iconst (v := 0) hx hb dX12_rests_27 (by decide) ?_
      refine lv_istore_n (lv' := [(3, .int 0), (0, .ref (G.2.2 0)), (1, .int p1), (2, .int p2)]) hx hb dX12_rests_28 rfl hl (by decide) rfl (fun ls hl => ?_)
      refine lv_aload_n hx hb dX12_rests_29 rfl (lv_at hl 1 rfl) ?_
      refine lv_iconst (v := 0) hx hb dX12_rests_30 (by decide) ?_
      obtain ⟨s4, es4, hz⟩ := u_let hz
      refine u_puti2 cx hw P_X12_80 o_X12 rfl es4 dX12_rests_31 (fun H locs hw => ?_)
      refine lv_iconst (v := 0) hx hb dX12_rests_34 (by decide) ?_
      refine lv_istore (lv' := [(4, .int 0), (3, .int 0), (0, .ref (G.2.2 0)), (1, .int p1), (2, .int p2)]) hx hb dX12_rests_35 hl (by decide) rfl (fun ls hl => ?_)
      obtain ⟨J102_7, eJ102_7, hz⟩ := u_let hz
      have WJ102_7 : ∀ (s5 : uS) (x6 : Int32) (H : Heap) (locs : List Loc) (ls : Array Slot), J102_7 s5 x6 = some z → u_W ZM G s5 s H locs → lv_has ls 6 [(3, .int x6)] → W p l e (u_rm 2) s m args below meth c H locs 0 0 (u_Qi below ZM G s args z.1 z.2) (F0 m 102 ls []) := by
        intro s5 x6 H locs ls hz hw hl
        rw [eJ102_7] at hz
        refine lv_iload_n hx hb dX12_rests_102 rfl (lv_at hl 0 rfl) ?_
        exact u_iret cx hw (u_pair hz) dX12_rests_103
      have WL37_29 : ∀ (k : Nat) (s8 : uS) (x9 : Int32) (x10 : Int32) (H : Heap) (locs : List Loc) (ls : Array Slot), u_lp3 (b_X12_rests_37 N p1 p2 J102_7) k s8 x9 x10 = some z → u_W ZM G s8 s H locs → lv_has ls 6 [(0, .ref (G.2.2 0)), (1, .int p1), (2, .int p2), (3, .int x9), (4, .int x10)] → W p l e (u_rm 2) s m args below meth c H locs 0 0 (u_Qi below ZM G s args z.1 z.2) (F0 m 37 ls []) := by
        intro k
        induction k with
        | zero =>
          intro s8 x9 x10 H locs ls hz
          exact absurd hz (by intro h9; cases h9)
        | succ k ih37_11 =>
          intro s8 x9 x10 H locs ls hz hw hl
          have hz : (b_X12_rests_37 N p1 p2 J102_7) (u_lp3 (b_X12_rests_37 N p1 p2 J102_7) k) s8 x9 x10 = some z := hz
          unfold b_X12_rests_37 at hz
          refine lv_iload hx hb dX12_rests_37 (lv_at hl 4 rfl) ?_
          refine lv_bipush (v := 9) hx hb dX12_rests_39 (by decide) ?_
          refine lv_icmp_gt (tgt := 102) hx hb dX12_rests_41 (by decide) (fun hc => ?_) (fun hc => ?_)
          · replace hz := u_ift hz hc
            exact WJ102_7 s8 x9 _ _ _ hz hw (lv_sub hl [3] rfl)
          · replace hz := u_iff hz hc
            refine lv_iconst (v := 0) hx hb dX12_rests_44 (by decide) ?_
            refine lv_istore (lv' := [(5, .int 0), (0, .ref (G.2.2 0)), (1, .int p1), (2, .int p2), (3, .int x9), (4, .int x10)]) hx hb dX12_rests_45 hl (by decide) rfl (fun ls hl => ?_)
            obtain ⟨J96_14, eJ96_14, hz⟩ := u_let hz
            have WJ96_14 : ∀ (s12 : uS) (x13 : Int32) (H : Heap) (locs : List Loc) (ls : Array Slot), J96_14 s12 x13 = some z → u_W ZM G s12 s H locs → lv_has ls 6 [(0, .ref (G.2.2 0)), (1, .int p1), (2, .int p2), (3, .int x13), (4, .int x10)] → W p l e (u_rm 2) s m args below meth c H locs 0 0 (u_Qi below ZM G s args z.1 z.2) (F0 m 96 ls []) := by
              intro s12 x13 H locs ls hz hw hl
              rw [eJ96_14] at hz
              obtain ⟨x15, ex15, hz⟩ := u_let hz
              refine lv_iinc (v := x15) (lv' := [(4, .int x15), (0, .ref (G.2.2 0)), (1, .int p1), (2, .int p2), (3, .int x13)]) hx hb dX12_rests_96 hl (k := 4) rfl (by rw [ex15]; rfl) (by decide) rfl (fun ls hl => ?_)
              refine lv_goto (tgt := 37) hx hb dX12_rests_99 (by decide) ?_
              exact ih37_11 s12 x13 x15 _ _ _ hz hw (lv_sub hl [1, 2, 3, 4, 0] rfl)
            have WL47_29 : ∀ (k : Nat) (s16 : uS) (x17 : Int32) (x18 : Int32) (H : Heap) (locs : List Loc) (ls : Array Slot), u_lp3 (b_X12_rests_47 N p1 p2 x10 J96_14) k s16 x17 x18 = some z → u_W ZM G s16 s H locs → lv_has ls 6 [(0, .ref (G.2.2 0)), (1, .int p1), (2, .int p2), (3, .int x17), (4, .int x10), (5, .int x18)] → W p l e (u_rm 2) s m args below meth c H locs 0 0 (u_Qi below ZM G s args z.1 z.2) (F0 m 47 ls []) := by
              intro k
              induction k with
              | zero =>
                intro s16 x17 x18 H locs ls hz
                exact absurd hz (by intro h9; cases h9)
              | succ k ih47_19 =>
                intro s16 x17 x18 H locs ls hz hw hl
                have hz : (b_X12_rests_47 N p1 p2 x10 J96_14) (u_lp3 (b_X12_rests_47 N p1 p2 x10 J96_14) k) s16 x17 x18 = some z := hz
                unfold b_X12_rests_47 at hz
                refine lv_iload hx hb dX12_rests_47 (lv_at hl 5 rfl) ?_
                refine lv_bipush (v := 9) hx hb dX12_rests_49 (by decide) ?_
                refine lv_icmp_gt (tgt := 96) hx hb dX12_rests_51 (by decide) (fun hc => ?_) (fun hc => ?_)
                · replace hz := u_ift hz hc
                  exact WJ96_14 s16 x17 _ _ _ hz hw (lv_sub hl [0, 1, 2, 3, 4] rfl)
                · replace hz := u_iff hz hc
                  refine lv_iload hx hb dX12_rests_54 (lv_at hl 4 rfl) ?_
                  refine lv_iload hx hb dX12_rests_56 (lv_at hl 5 rfl) ?_
                  refine lv_iload_n hx hb dX12_rests_58 rfl (lv_at hl 1 rfl) ?_
                  refine lv_iload_n hx hb dX12_rests_59 rfl (lv_at hl 2 rfl) ?_
                  obtain ⟨v20, hv20, hz⟩ := u_bind hz
                  refine u_callSi (As := [.int x10, .int x18, .int p1, .int p2]) (rest := []) cx hw LS_X12_340 (c_X12_isRest l G N s16 x10 x18 p1 p2 v20 hv20) (by decide) hl.1 rfl (Nat.le_of_ble_eq_true rfl) dX12_rests_60 rfl (fun H locs hw => ?_)
                  obtain ⟨J90_23, eJ90_23, hz⟩ := u_let hz
                  have WJ90_23 : ∀ (s21 : uS) (x22 : Int32) (H : Heap) (locs : List Loc) (ls : Array Slot), J90_23 s21 x22 = some z → u_W ZM G s21 s H locs → lv_has ls 6 [(0, .ref (G.2.2 0)), (1, .int p1), (2, .int p2), (3, .int x22), (4, .int x10), (5, .int x18)] → W p l e (u_rm 2) s m args below meth c H locs 0 0 (u_Qi below ZM G s args z.1 z.2) (F0 m 90 ls []) := by
                    intro s21 x22 H locs ls hz hw hl
                    rw [eJ90_23] at hz
                    obtain ⟨x24, ex24, hz⟩ := u_let hz
                    refine lv_iinc (v := x24) (lv' := [(5, .int x24), (0, .ref (G.2.2 0)), (1, .int p1), (2, .int p2), (3, .int x22), (4, .int x10)]) hx hb dX12_rests_90 hl (k := 5) rfl (by rw [ex24]; rfl) (by decide) rfl (fun ls hl => ?_)
                    refine lv_goto (tgt := 47) hx hb dX12_rests_93 (by decide) ?_
                    exact ih47_19 s21 x22 x24 _ _ _ hz hw (lv_sub hl [1, 2, 3, 4, 5, 0] rfl)
                  refine lv_if_ne (tgt := 69) hx hb dX12_rests_63 (by decide) (fun hc => ?_) (fun hc => ?_)
                  · replace hz := u_iff hz hc
                    refine lv_iload_n hx hb dX12_rests_69 rfl (lv_at hl 3 rfl) ?_
                    obtain ⟨J87_26, eJ87_26, hz⟩ := u_let hz
                    have WJ87_26 : ∀ (s25 : uS) (H : Heap) (locs : List Loc) (ls : Array Slot), J87_26 s25 = some z → u_W ZM G s25 s H locs → lv_has ls 6 [(0, .ref (G.2.2 0)), (1, .int p1), (2, .int p2), (3, .int x17), (4, .int x10), (5, .int x18)] → W p l e (u_rm 2) s m args below meth c H locs 0 0 (u_Qi below ZM G s args z.1 z.2) (F0 m 87 ls []) := by
                      intro s25 H locs ls hz hw hl
                      rw [eJ87_26] at hz
                      obtain ⟨x27, ex27, hz⟩ := u_let hz
                      refine lv_iinc (v := x27) (lv' := [(3, .int x27), (0, .ref (G.2.2 0)), (1, .int p1), (2, .int p2), (4, .int x10), (5, .int x18)]) hx hb dX12_rests_87 hl (k := 3) rfl (by rw [ex27]; rfl) (by decide) rfl (fun ls hl => ?_)
                      exact WJ90_23 s25 x27 _ _ _ hz hw (lv_sub hl [1, 2, 3, 0, 4, 5] rfl)
                    refine lv_if_ne (tgt := 87) hx hb dX12_rests_70 (by decide) (fun hc => ?_) (fun hc => ?_)
                    · replace hz := u_iff hz hc
                      exact WJ87_26 s16 _ _ _ hz hw (lv_sub hl [0, 1, 2, 3, 4, 5] rfl)
                    · replace hz := u_ift hz hc
                      refine lv_aload_n hx hb dX12_rests_73 rfl (lv_at hl 0 rfl) ?_
                      refine lv_iload hx hb dX12_rests_74 (lv_at hl 4 rfl) ?_
                      refine lv_i2l (v := (Int32.toInt64 x10)) hx hb dX12_rests_76 rfl ?_
                      obtain ⟨s28, hs28, hz⟩ := u_bind hz
                      refine u_callVv (As := [.long (Int32.toInt64 x10)]) (rest := []) cx hw LV_X12_260 (c_X12_tell l G N s16 (Int32.toInt64 x10) s28 hs28) o_X12 rfl (by decide) hl.1 rfl (Nat.le_of_ble_eq_true rfl) dX12_rests_77 rfl (fun H locs hw => ?_)
                      refine lv_aload_n hx hb dX12_rests_80 rfl (lv_at hl 0 rfl) ?_
                      refine lv_iload hx hb dX12_rests_81 (lv_at hl 5 rfl) ?_
                      refine lv_i2l (v := (Int32.toInt64 x18)) hx hb dX12_rests_83 rfl ?_
                      obtain ⟨s29, hs29, hz⟩ := u_bind hz
                      refine u_callVv (As := [.long (Int32.toInt64 x18)]) (rest := []) cx hw LV_X12_260 (c_X12_tell l G N s28 (Int32.toInt64 x18) s29 hs29) o_X12 rfl (by decide) hl.1 rfl (Nat.le_of_ble_eq_true rfl) dX12_rests_84 rfl (fun H locs hw => ?_)
                      exact WJ87_26 s29 _ _ _ hz hw (lv_sub hl [0, 1, 2, 3, 4, 5] rfl)
                  · replace hz := u_ift hz hc
                    refine lv_goto (tgt := 90) hx hb dX12_rests_66 (by decide) ?_
                    exact WJ90_23 s16 x17 _ _ _ hz hw (lv_sub hl [0, 1, 2, 3, 4, 5] rfl)
            exact WL47_29 N s8 x9 0 _ _ _ hz hw (lv_sub hl [1, 2, 3, 4, 5, 0] rfl)
      exact WL37_29 N s4 0 0 _ _ _ hz hw (lv_sub hl [2, 3, 4, 1, 0] rfl)
    · replace hz := u_ift hz hc
      refine lv_iconst (v := (-1)) hx hb dX12_rests_25 (by decide) ?_
      exact u_iret cx hw (u_pair hz) dX12_rests_26
theorem dX12_draw_0 : decode cX12_draw 0 = .ok (.aload_n 0, 1) := by decide +kernel
theorem dX12_draw_1 : decode cX12_draw 1 = .ok (.aload_n 0, 1) := by decide +kernel
theorem dX12_draw_2 : decode cX12_draw 2 = .ok (.getfield 347, 3) := by decide +kernel
theorem dX12_draw_5 : decode cX12_draw 5 = .ok (.ldc_w 350, 3) := by decide +kernel
theorem dX12_draw_8 : decode cX12_draw 8 = .ok (.imul, 1) := by decide +kernel
theorem dX12_draw_9 : decode cX12_draw 9 = .ok (.sipush 12345, 3) := by decide +kernel
theorem dX12_draw_12 : decode cX12_draw 12 = .ok (.iadd, 1) := by decide +kernel
theorem dX12_draw_13 : decode cX12_draw 13 = .ok (.putfield 347, 3) := by decide +kernel
theorem dX12_draw_16 : decode cX12_draw 16 = .ok (.aload_n 0, 1) := by decide +kernel
theorem dX12_draw_17 : decode cX12_draw 17 = .ok (.getfield 347, 3) := by decide +kernel
theorem dX12_draw_20 : decode cX12_draw 20 = .ok (.bipush 16, 2) := by decide +kernel
theorem dX12_draw_22 : decode cX12_draw 22 = .ok (.iushr, 1) := by decide +kernel
theorem dX12_draw_23 : decode cX12_draw 23 = .ok (.iload_n 1, 1) := by decide +kernel
theorem dX12_draw_24 : decode cX12_draw 24 = .ok (.irem, 1) := by decide +kernel
theorem dX12_draw_25 : decode cX12_draw 25 = .ok (.ireturn, 1) := by decide +kernel
def f_X12_draw (N : Nat) (σ : uS) (p1 : Int32) : Option (Int32 × uS) := u_jn (u_pI σ 0 32 (((σ.1 0 32) * 1103515245) + 12345)) fun s1 =>
  u_ck (¬ (p1 : Int32) = 0) <|
  some (((u_ushr (s1.1 0 32) 16) - (u_ushr (s1.1 0 32) 16) / p1 * p1), s1)
set_option maxRecDepth 100000 in
set_option maxHeartbeats 4000000 in
theorem c_X12_draw (l : Launch) (G : uG) (N : Nat) (σ : uS) (p1 : Int32) (z : (Int32 × uS)) (hz : f_X12_draw N σ p1 = some z) : u_Mi l ZM G yX12_draw cX12_draw 2 .int 0 [.ref (G.2.2 0), .int p1] σ z.1 z.2 := by
  refine u_Mi_of RX12 (by decide) rfl (Nat.le_of_ble_eq_true rfl) ?_
  intro p e s m args below meth c ls cx hw hl
  have hx := cx.1
  have hb := cx.2.1
  have hl : lv_has ls 2 [(0, .ref (G.2.2 0)), (1, .int p1)] := hl
  unfold f_X12_draw at hz
  refine lv_aload_n hx hb dX12_draw_0 rfl (lv_at hl 0 rfl) ?_
  refine lv_aload_n hx hb dX12_draw_1 rfl (lv_at hl 0 rfl) ?_
  refine u_geti cx hw F_X12_347 o_X12 rfl dX12_draw_2 ?_
  refine u_ldcw cx q_1624 dX12_draw_5 ?_
  refine lv_imul hx hb dX12_draw_8 ?_
  refine lv_sipush (v := 12345) hx hb dX12_draw_9 (by decide) ?_
  refine lv_iadd hx hb dX12_draw_12 ?_
  obtain ⟨s1, es1, hz⟩ := u_let hz
  refine u_puti2 cx hw P_X12_347 o_X12 rfl es1 dX12_draw_13 (fun H locs hw => ?_)
  refine lv_aload_n hx hb dX12_draw_16 rfl (lv_at hl 0 rfl) ?_
  refine u_geti cx hw F_X12_347 o_X12 rfl dX12_draw_17 ?_
  refine lv_bipush (v := 16) hx hb dX12_draw_20 (by decide) ?_
  refine lv_iushr (v := (u_ushr (s1.1 0 32) 16)) hx hb dX12_draw_22 rfl ?_
  refine lv_iload_n hx hb dX12_draw_23 rfl (lv_at hl 1 rfl) ?_
  obtain ⟨hne, hz⟩ := u_ck_some hz
  refine lv_irem hx hb dX12_draw_24 hne ?_
  exact u_iret cx hw (u_pair hz) dX12_draw_25
theorem dX12_keep_0 : decode cX12_keep 0 = .ok (.aload_n 0, 1) := by decide +kernel
theorem dX12_keep_1 : decode cX12_keep 1 = .ok (.iconst 0, 1) := by decide +kernel
theorem dX12_keep_2 : decode cX12_keep 2 = .ok (.putfield 77, 3) := by decide +kernel
theorem dX12_keep_5 : decode cX12_keep 5 = .ok (.iload_n 1, 1) := by decide +kernel
theorem dX12_keep_6 : decode cX12_keep 6 = .ok (.iconst 0, 1) := by decide +kernel
theorem dX12_keep_7 : decode cX12_keep 7 = .ok (.iconst 1, 1) := by decide +kernel
theorem dX12_keep_8 : decode cX12_keep 8 = .ok (.invokestatic 86, 3) := by decide +kernel
theorem dX12_keep_11 : decode cX12_keep 11 = .ok (.ifCond .ne 5, 3) := by decide +kernel
theorem dX12_keep_14 : decode cX12_keep 14 = .ok (.iconst 0, 1) := by decide +kernel
theorem dX12_keep_15 : decode cX12_keep 15 = .ok (.ireturn, 1) := by decide +kernel
theorem dX12_keep_16 : decode cX12_keep 16 = .ok (.aload_n 0, 1) := by decide +kernel
theorem dX12_keep_17 : decode cX12_keep 17 = .ok (.getfield 70, 3) := by decide +kernel
theorem dX12_keep_20 : decode cX12_keep 20 = .ok (.iload_n 1, 1) := by decide +kernel
theorem dX12_keep_21 : decode cX12_keep 21 = .ok (.iconst 1, 1) := by decide +kernel
theorem dX12_keep_22 : decode cX12_keep 22 = .ok (.bastore, 1) := by decide +kernel
theorem dX12_keep_23 : decode cX12_keep 23 = .ok (.aload_n 0, 1) := by decide +kernel
theorem dX12_keep_24 : decode cX12_keep 24 = .ok (.getfield 74, 3) := by decide +kernel
theorem dX12_keep_27 : decode cX12_keep 27 = .ok (.iload_n 1, 1) := by decide +kernel
theorem dX12_keep_28 : decode cX12_keep 28 = .ok (.aload_n 0, 1) := by decide +kernel
theorem dX12_keep_29 : decode cX12_keep 29 = .ok (.getfield 142, 3) := by decide +kernel
theorem dX12_keep_32 : decode cX12_keep 32 = .ok (.iastore, 1) := by decide +kernel
theorem dX12_keep_33 : decode cX12_keep 33 = .ok (.aload_n 0, 1) := by decide +kernel
theorem dX12_keep_34 : decode cX12_keep 34 = .ok (.getfield 9, 3) := by decide +kernel
theorem dX12_keep_37 : decode cX12_keep 37 = .ok (.aload_n 0, 1) := by decide +kernel
theorem dX12_keep_38 : decode cX12_keep 38 = .ok (.getfield 67, 3) := by decide +kernel
theorem dX12_keep_41 : decode cX12_keep 41 = .ok (.bipush 37, 2) := by decide +kernel
theorem dX12_keep_43 : decode cX12_keep 43 = .ok (.iload_n 1, 1) := by decide +kernel
theorem dX12_keep_44 : decode cX12_keep 44 = .ok (.imul, 1) := by decide +kernel
theorem dX12_keep_45 : decode cX12_keep 45 = .ok (.invokestatic 242, 3) := by decide +kernel
theorem dX12_keep_48 : decode cX12_keep 48 = .ok (.iconst 1, 1) := by decide +kernel
theorem dX12_keep_49 : decode cX12_keep 49 = .ok (.ireturn, 1) := by decide +kernel
def f_X12_keep (N : Nat) (σ : uS) (p1 : Int32) : Option (Int32 × uS) := u_jn (u_pI σ 0 8 0) fun s1 =>
  (f_X12_in N s1 p1 0 1).bind fun v2 =>
  if v2 = 0 then (some (0, s1)) else ((u_wI ZM s1 3 19 p1 1).bind fun s3 =>
  (u_wI ZM s3 0 20 p1 (s3.1 0 33)).bind fun s4 =>
  (f_X12_lay N s4 1 18 (37 * p1)).bind fun s5 =>
  some (1, s5))
set_option maxRecDepth 100000 in
set_option maxHeartbeats 4000000 in
theorem c_X12_keep (l : Launch) (G : uG) (N : Nat) (σ : uS) (p1 : Int32) (z : (Int32 × uS)) (hz : f_X12_keep N σ p1 = some z) : u_Mi l ZM G yX12_keep cX12_keep 2 .boolean 1 [.ref (G.2.2 0), .int p1] σ z.1 z.2 := by
  refine u_Mi_of RX12 (by decide) rfl (Nat.le_of_ble_eq_true rfl) ?_
  intro p e s m args below meth c ls cx hw hl
  have hx := cx.1
  have hb := cx.2.1
  have hl : lv_has ls 2 [(0, .ref (G.2.2 0)), (1, .int p1)] := hl
  unfold f_X12_keep at hz
  refine lv_aload_n hx hb dX12_keep_0 rfl (lv_at hl 0 rfl) ?_
  refine lv_iconst (v := 0) hx hb dX12_keep_1 (by decide) ?_
  obtain ⟨s1, es1, hz⟩ := u_let hz
  refine u_puti2 cx hw P_X12_77 o_X12 rfl es1 dX12_keep_2 (fun H locs hw => ?_)
  refine lv_iload_n hx hb dX12_keep_5 rfl (lv_at hl 1 rfl) ?_
  refine lv_iconst (v := 0) hx hb dX12_keep_6 (by decide) ?_
  refine lv_iconst (v := 1) hx hb dX12_keep_7 (by decide) ?_
  obtain ⟨v2, hv2, hz⟩ := u_bind hz
  refine u_callSi (As := [.int p1, .int 0, .int 1]) (rest := []) cx hw LS_X12_86 (c_X12_in l G N s1 p1 0 1 v2 hv2) (by decide) hl.1 rfl (Nat.le_of_ble_eq_true rfl) dX12_keep_8 rfl (fun H locs hw => ?_)
  refine lv_if_ne (tgt := 16) hx hb dX12_keep_11 (by decide) (fun hc => ?_) (fun hc => ?_)
  · replace hz := u_iff hz hc
    refine lv_aload_n hx hb dX12_keep_16 rfl (lv_at hl 0 rfl) ?_
    refine u_getp cx hw F_X12_70 o_X12 rfl dX12_keep_17 ?_
    refine lv_iload_n hx hb dX12_keep_20 rfl (lv_at hl 1 rfl) ?_
    refine lv_iconst (v := 1) hx hb dX12_keep_21 (by decide) ?_
    obtain ⟨s3, hs3, hz⟩ := u_bind hz
    refine u_zast cx hw hs3 dX12_keep_22 (fun H locs hw => ?_)
    refine lv_aload_n hx hb dX12_keep_23 rfl (lv_at hl 0 rfl) ?_
    refine u_getp cx hw F_X12_74 o_X12 rfl dX12_keep_24 ?_
    refine lv_iload_n hx hb dX12_keep_27 rfl (lv_at hl 1 rfl) ?_
    refine lv_aload_n hx hb dX12_keep_28 rfl (lv_at hl 0 rfl) ?_
    refine u_geti cx hw F_X12_142 o_X12 rfl dX12_keep_29 ?_
    obtain ⟨s4, hs4, hz⟩ := u_bind hz
    refine u_iast cx hw hs4 dX12_keep_32 (fun H locs hw => ?_)
    refine lv_aload_n hx hb dX12_keep_33 rfl (lv_at hl 0 rfl) ?_
    refine u_getp cx hw F_X12_9 o_X12 rfl dX12_keep_34 ?_
    refine lv_aload_n hx hb dX12_keep_37 rfl (lv_at hl 0 rfl) ?_
    refine u_getp cx hw F_X12_67 o_X12 rfl dX12_keep_38 ?_
    refine lv_bipush (v := 37) hx hb dX12_keep_41 (by decide) ?_
    refine lv_iload_n hx hb dX12_keep_43 rfl (lv_at hl 1 rfl) ?_
    refine lv_imul hx hb dX12_keep_44 ?_
    obtain ⟨s5, hs5, hz⟩ := u_bind hz
    refine u_callSv (As := [.ref (G.2.2 1), .ref (G.2.2 18), .int (37 * p1)]) (rest := []) cx hw LS_X12_242 (c_X12_lay l G N s4 1 18 (37 * p1) s5 hs5) (by decide) hl.1 rfl (Nat.le_of_ble_eq_true rfl) dX12_keep_45 rfl (fun H locs hw => ?_)
    refine lv_iconst (v := 1) hx hb dX12_keep_48 (by decide) ?_
    exact u_zret cx hw (Or.inr rfl) (u_pair hz) dX12_keep_49
  · replace hz := u_ift hz hc
    refine lv_iconst (v := 0) hx hb dX12_keep_14 (by decide) ?_
    exact u_zret cx hw (Or.inl rfl) (u_pair hz) dX12_keep_15
theorem dX12_again_0 : decode cX12_again 0 = .ok (.aload_n 0, 1) := by decide +kernel
theorem dX12_again_1 : decode cX12_again 1 = .ok (.iconst 0, 1) := by decide +kernel
theorem dX12_again_2 : decode cX12_again 2 = .ok (.putfield 77, 3) := by decide +kernel
theorem dX12_again_5 : decode cX12_again 5 = .ok (.iload_n 1, 1) := by decide +kernel
theorem dX12_again_6 : decode cX12_again 6 = .ok (.iconst 0, 1) := by decide +kernel
theorem dX12_again_7 : decode cX12_again 7 = .ok (.iconst 1, 1) := by decide +kernel
theorem dX12_again_8 : decode cX12_again 8 = .ok (.invokestatic 86, 3) := by decide +kernel
theorem dX12_again_11 : decode cX12_again 11 = .ok (.ifCond .eq 25, 3) := by decide +kernel
theorem dX12_again_14 : decode cX12_again 14 = .ok (.aload_n 0, 1) := by decide +kernel
theorem dX12_again_15 : decode cX12_again 15 = .ok (.getfield 70, 3) := by decide +kernel
theorem dX12_again_18 : decode cX12_again 18 = .ok (.iload_n 1, 1) := by decide +kernel
theorem dX12_again_19 : decode cX12_again 19 = .ok (.baload, 1) := by decide +kernel
theorem dX12_again_20 : decode cX12_again 20 = .ok (.ifCond .eq 16, 3) := by decide +kernel
theorem dX12_again_23 : decode cX12_again 23 = .ok (.aload_n 0, 1) := by decide +kernel
theorem dX12_again_24 : decode cX12_again 24 = .ok (.getfield 74, 3) := by decide +kernel
theorem dX12_again_27 : decode cX12_again 27 = .ok (.iload_n 1, 1) := by decide +kernel
theorem dX12_again_28 : decode cX12_again 28 = .ok (.iaload, 1) := by decide +kernel
theorem dX12_again_29 : decode cX12_again 29 = .ok (.aload_n 0, 1) := by decide +kernel
theorem dX12_again_30 : decode cX12_again 30 = .ok (.getfield 142, 3) := by decide +kernel
theorem dX12_again_33 : decode cX12_again 33 = .ok (.if_icmp .eq 5, 3) := by decide +kernel
theorem dX12_again_36 : decode cX12_again 36 = .ok (.iconst 0, 1) := by decide +kernel
theorem dX12_again_37 : decode cX12_again 37 = .ok (.ireturn, 1) := by decide +kernel
theorem dX12_again_38 : decode cX12_again 38 = .ok (.iconst 0, 1) := by decide +kernel
theorem dX12_again_39 : decode cX12_again 39 = .ok (.istore_n 2, 1) := by decide +kernel
theorem dX12_again_40 : decode cX12_again 40 = .ok (.iload_n 2, 1) := by decide +kernel
theorem dX12_again_41 : decode cX12_again 41 = .ok (.bipush 37, 2) := by decide +kernel
theorem dX12_again_43 : decode cX12_again 43 = .ok (.if_icmp .ge 26, 3) := by decide +kernel
theorem dX12_again_46 : decode cX12_again 46 = .ok (.aload_n 0, 1) := by decide +kernel
theorem dX12_again_47 : decode cX12_again 47 = .ok (.getfield 9, 3) := by decide +kernel
theorem dX12_again_50 : decode cX12_again 50 = .ok (.iload_n 2, 1) := by decide +kernel
theorem dX12_again_51 : decode cX12_again 51 = .ok (.aload_n 0, 1) := by decide +kernel
theorem dX12_again_52 : decode cX12_again 52 = .ok (.getfield 67, 3) := by decide +kernel
theorem dX12_again_55 : decode cX12_again 55 = .ok (.bipush 37, 2) := by decide +kernel
theorem dX12_again_57 : decode cX12_again 57 = .ok (.iload_n 1, 1) := by decide +kernel
theorem dX12_again_58 : decode cX12_again 58 = .ok (.imul, 1) := by decide +kernel
theorem dX12_again_59 : decode cX12_again 59 = .ok (.iload_n 2, 1) := by decide +kernel
theorem dX12_again_60 : decode cX12_again 60 = .ok (.iadd, 1) := by decide +kernel
theorem dX12_again_61 : decode cX12_again 61 = .ok (.iaload, 1) := by decide +kernel
theorem dX12_again_62 : decode cX12_again 62 = .ok (.iastore, 1) := by decide +kernel
theorem dX12_again_63 : decode cX12_again 63 = .ok (.iinc 2 1, 3) := by decide +kernel
theorem dX12_again_66 : decode cX12_again 66 = .ok (.goto (-26), 3) := by decide +kernel
theorem dX12_again_69 : decode cX12_again 69 = .ok (.aload_n 0, 1) := by decide +kernel
theorem dX12_again_70 : decode cX12_again 70 = .ok (.iconst 0, 1) := by decide +kernel
theorem dX12_again_71 : decode cX12_again 71 = .ok (.putfield 139, 3) := by decide +kernel
theorem dX12_again_74 : decode cX12_again 74 = .ok (.iconst 1, 1) := by decide +kernel
theorem dX12_again_75 : decode cX12_again 75 = .ok (.ireturn, 1) := by decide +kernel
def b_X12_again_40 (p1 : Int32) (J69_6 : uS → Option (Int32 × uS)) (rec40_10 : uS → Int32 → Option (Int32 × uS)) (s8 : uS) (x9 : Int32) : Option (Int32 × uS) :=
  if 37 ≤ x9 then (J69_6 s8) else ((u_rI ZM s8 0 18 ((37 * p1) + x9)).bind fun v11 =>
  (u_wI ZM s8 0 1 x9 v11).bind fun s12 =>
  u_jn (x9 + 1 : Int32) fun x13 =>
  rec40_10 s12 x13)
def f_X12_again (N : Nat) (σ : uS) (p1 : Int32) : Option (Int32 × uS) := u_jn (u_pI σ 0 8 0) fun s1 =>
  (f_X12_in N s1 p1 0 1).bind fun v2 =>
  if v2 = 0 then (some (0, s1)) else ((u_rI ZM s1 3 19 p1).bind fun v3 =>
  if v3 = 0 then (some (0, s1)) else ((u_rI ZM s1 0 20 p1).bind fun v4 =>
  if v4 = (s1.1 0 33) then (u_jn (fun (s5 : uS) => (u_jn (u_pI s5 0 21 0) fun s7 =>
  some (1, s7) : Option (Int32 × uS))) fun J69_6 =>
  u_lp2 (b_X12_again_40 p1 J69_6) N s1 0) else (some (0, s1))))
set_option maxRecDepth 100000 in
set_option maxHeartbeats 4000000 in
theorem c_X12_again (l : Launch) (G : uG) (N : Nat) (σ : uS) (p1 : Int32) (z : (Int32 × uS)) (hz : f_X12_again N σ p1 = some z) : u_Mi l ZM G yX12_again cX12_again 3 .boolean 1 [.ref (G.2.2 0), .int p1] σ z.1 z.2 := by
  refine u_Mi_of RX12 (by decide) rfl (Nat.le_of_ble_eq_true rfl) ?_
  intro p e s m args below meth c ls cx hw hl
  have hx := cx.1
  have hb := cx.2.1
  have hl : lv_has ls 3 [(0, .ref (G.2.2 0)), (1, .int p1)] := hl
  unfold f_X12_again at hz
  refine lv_aload_n hx hb dX12_again_0 rfl (lv_at hl 0 rfl) ?_
  refine lv_iconst (v := 0) hx hb dX12_again_1 (by decide) ?_
  obtain ⟨s1, es1, hz⟩ := u_let hz
  refine u_puti2 cx hw P_X12_77 o_X12 rfl es1 dX12_again_2 (fun H locs hw => ?_)
  refine lv_iload_n hx hb dX12_again_5 rfl (lv_at hl 1 rfl) ?_
  refine lv_iconst (v := 0) hx hb dX12_again_6 (by decide) ?_
  refine lv_iconst (v := 1) hx hb dX12_again_7 (by decide) ?_
  obtain ⟨v2, hv2, hz⟩ := u_bind hz
  refine u_callSi (As := [.int p1, .int 0, .int 1]) (rest := []) cx hw LS_X12_86 (c_X12_in l G N s1 p1 0 1 v2 hv2) (by decide) hl.1 rfl (Nat.le_of_ble_eq_true rfl) dX12_again_8 rfl (fun H locs hw => ?_)
  refine lv_if_eq (tgt := 36) hx hb dX12_again_11 (by decide) (fun hc => ?_) (fun hc => ?_)
  · replace hz := u_ift hz hc
    refine lv_iconst (v := 0) hx hb dX12_again_36 (by decide) ?_
    exact u_zret cx hw (Or.inl rfl) (u_pair hz) dX12_again_37
  · replace hz := u_iff hz hc
    refine lv_aload_n hx hb dX12_again_14 rfl (lv_at hl 0 rfl) ?_
    refine u_getp cx hw F_X12_70 o_X12 rfl dX12_again_15 ?_
    refine lv_iload_n hx hb dX12_again_18 rfl (lv_at hl 1 rfl) ?_
    obtain ⟨v3, hv3, hz⟩ := u_bind hz
    refine u_zald cx hw hv3 dX12_again_19 ?_
    refine lv_if_eq (tgt := 36) hx hb dX12_again_20 (by decide) (fun hc => ?_) (fun hc => ?_)
    · replace hz := u_ift hz hc
      refine lv_iconst (v := 0) hx hb dX12_again_36 (by decide) ?_
      exact u_zret cx hw (Or.inl rfl) (u_pair hz) dX12_again_37
    · replace hz := u_iff hz hc
      refine lv_aload_n hx hb dX12_again_23 rfl (lv_at hl 0 rfl) ?_
      refine u_getp cx hw F_X12_74 o_X12 rfl dX12_again_24 ?_
      refine lv_iload_n hx hb dX12_again_27 rfl (lv_at hl 1 rfl) ?_
      obtain ⟨v4, hv4, hz⟩ := u_bind hz
      refine u_iald cx hw hv4 dX12_again_28 ?_
      refine lv_aload_n hx hb dX12_again_29 rfl (lv_at hl 0 rfl) ?_
      refine u_geti cx hw F_X12_142 o_X12 rfl dX12_again_30 ?_
      refine lv_icmp_eq (tgt := 38) hx hb dX12_again_33 (by decide) (fun hc => ?_) (fun hc => ?_)
      · replace hz := u_ift hz hc
        refine lv_iconst (v := 0) hx hb dX12_again_38 (by decide) ?_
        refine lv_istore_n (lv' := [(2, .int 0), (0, .ref (G.2.2 0)), (1, .int p1)]) hx hb dX12_again_39 rfl hl (by decide) rfl (fun ls hl => ?_)
        obtain ⟨J69_6, eJ69_6, hz⟩ := u_let hz
        have WJ69_6 : ∀ (s5 : uS) (H : Heap) (locs : List Loc) (ls : Array Slot), J69_6 s5 = some z → u_W ZM G s5 s H locs → lv_has ls 3 [(0, .ref (G.2.2 0))] → W p l e (u_rm 1) s m args below meth c H locs 0 0 (u_Qi below ZM G s args z.1 z.2) (F0 m 69 ls []) := by
          intro s5 H locs ls hz hw hl
          rw [eJ69_6] at hz
          refine lv_aload_n hx hb dX12_again_69 rfl (lv_at hl 0 rfl) ?_
          refine lv_iconst (v := 0) hx hb dX12_again_70 (by decide) ?_
          obtain ⟨s7, es7, hz⟩ := u_let hz
          refine u_puti2 cx hw P_X12_139 o_X12 rfl es7 dX12_again_71 (fun H locs hw => ?_)
          refine lv_iconst (v := 1) hx hb dX12_again_74 (by decide) ?_
          exact u_zret cx hw (Or.inr rfl) (u_pair hz) dX12_again_75
        have WL40_13 : ∀ (k : Nat) (s8 : uS) (x9 : Int32) (H : Heap) (locs : List Loc) (ls : Array Slot), u_lp2 (b_X12_again_40 p1 J69_6) k s8 x9 = some z → u_W ZM G s8 s H locs → lv_has ls 3 [(0, .ref (G.2.2 0)), (1, .int p1), (2, .int x9)] → W p l e (u_rm 1) s m args below meth c H locs 0 0 (u_Qi below ZM G s args z.1 z.2) (F0 m 40 ls []) := by
          intro k
          induction k with
          | zero =>
            intro s8 x9 H locs ls hz
            exact absurd hz (by intro h9; cases h9)
          | succ k ih40_10 =>
            intro s8 x9 H locs ls hz hw hl
            have hz : (b_X12_again_40 p1 J69_6) (u_lp2 (b_X12_again_40 p1 J69_6) k) s8 x9 = some z := hz
            unfold b_X12_again_40 at hz
            refine lv_iload_n hx hb dX12_again_40 rfl (lv_at hl 2 rfl) ?_
            refine lv_bipush (v := 37) hx hb dX12_again_41 (by decide) ?_
            refine lv_icmp_ge (tgt := 69) hx hb dX12_again_43 (by decide) (fun hc => ?_) (fun hc => ?_)
            · replace hz := u_ift hz hc
              exact WJ69_6 s8 _ _ _ hz hw (lv_sub hl [0] rfl)
            · replace hz := u_iff hz hc
              refine lv_aload_n hx hb dX12_again_46 rfl (lv_at hl 0 rfl) ?_
              refine u_getp cx hw F_X12_9 o_X12 rfl dX12_again_47 ?_
              refine lv_iload_n hx hb dX12_again_50 rfl (lv_at hl 2 rfl) ?_
              refine lv_aload_n hx hb dX12_again_51 rfl (lv_at hl 0 rfl) ?_
              refine u_getp cx hw F_X12_67 o_X12 rfl dX12_again_52 ?_
              refine lv_bipush (v := 37) hx hb dX12_again_55 (by decide) ?_
              refine lv_iload_n hx hb dX12_again_57 rfl (lv_at hl 1 rfl) ?_
              refine lv_imul hx hb dX12_again_58 ?_
              refine lv_iload_n hx hb dX12_again_59 rfl (lv_at hl 2 rfl) ?_
              refine lv_iadd hx hb dX12_again_60 ?_
              obtain ⟨v11, hv11, hz⟩ := u_bind hz
              refine u_iald cx hw hv11 dX12_again_61 ?_
              obtain ⟨s12, hs12, hz⟩ := u_bind hz
              refine u_iast cx hw hs12 dX12_again_62 (fun H locs hw => ?_)
              obtain ⟨x13, ex13, hz⟩ := u_let hz
              refine lv_iinc (v := x13) (lv' := [(2, .int x13), (0, .ref (G.2.2 0)), (1, .int p1)]) hx hb dX12_again_63 hl (k := 2) rfl (by rw [ex13]; rfl) (by decide) rfl (fun ls hl => ?_)
              refine lv_goto (tgt := 40) hx hb dX12_again_66 (by decide) ?_
              exact ih40_10 s12 x13 _ _ _ hz hw (lv_sub hl [1, 2, 0] rfl)
        exact WL40_13 N s1 0 _ _ _ hz hw (lv_sub hl [1, 2, 0] rfl)
      · replace hz := u_iff hz hc
        refine lv_iconst (v := 0) hx hb dX12_again_36 (by decide) ?_
        exact u_zret cx hw (Or.inl rfl) (u_pair hz) dX12_again_37
theorem dX12_row_0 : decode cX12_row 0 = .ok (.aload_n 0, 1) := by decide +kernel
theorem dX12_row_1 : decode cX12_row 1 = .ok (.iconst 0, 1) := by decide +kernel
theorem dX12_row_2 : decode cX12_row 2 = .ok (.putfield 77, 3) := by decide +kernel
theorem dX12_row_5 : decode cX12_row 5 = .ok (.iload_n 1, 1) := by decide +kernel
theorem dX12_row_6 : decode cX12_row 6 = .ok (.iconst 0, 1) := by decide +kernel
theorem dX12_row_7 : decode cX12_row 7 = .ok (.aload_n 0, 1) := by decide +kernel
theorem dX12_row_8 : decode cX12_row 8 = .ok (.getfield 80, 3) := by decide +kernel
theorem dX12_row_11 : decode cX12_row 11 = .ok (.iconst 1, 1) := by decide +kernel
theorem dX12_row_12 : decode cX12_row 12 = .ok (.isub, 1) := by decide +kernel
theorem dX12_row_13 : decode cX12_row 13 = .ok (.invokestatic 86, 3) := by decide +kernel
theorem dX12_row_16 : decode cX12_row 16 = .ok (.ifCond .eq 12, 3) := by decide +kernel
theorem dX12_row_19 : decode cX12_row 19 = .ok (.aload_n 0, 1) := by decide +kernel
theorem dX12_row_20 : decode cX12_row 20 = .ok (.getfield 24, 3) := by decide +kernel
theorem dX12_row_23 : decode cX12_row 23 = .ok (.iload_n 1, 1) := by decide +kernel
theorem dX12_row_24 : decode cX12_row 24 = .ok (.laload, 1) := by decide +kernel
theorem dX12_row_25 : decode cX12_row 25 = .ok (.goto 8, 3) := by decide +kernel
theorem dX12_row_28 : decode cX12_row 28 = .ok (.aload_n 0, 1) := by decide +kernel
theorem dX12_row_29 : decode cX12_row 29 = .ok (.invokevirtual 230, 3) := by decide +kernel
theorem dX12_row_32 : decode cX12_row 32 = .ok (.i2l, 1) := by decide +kernel
theorem dX12_row_33 : decode cX12_row 33 = .ok (.lreturn, 1) := by decide +kernel
def f_X12_row (N : Nat) (σ : uS) (p1 : Int32) : Option (Int64 × uS) := u_jn (u_pI σ 0 8 0) fun s1 =>
  (f_X12_in N s1 p1 0 ((s1.1 0 7) - 1)).bind fun v2 =>
  if v2 = 0 then ((f_X12_lost N s1).bind fun v3 =>
  some ((Int32.toInt64 v3.1), v3.2)) else ((u_rL ZM s1 4 p1).bind fun v4 =>
  some (v4, s1))
set_option maxRecDepth 100000 in
set_option maxHeartbeats 4000000 in
theorem c_X12_row (l : Launch) (G : uG) (N : Nat) (σ : uS) (p1 : Int32) (z : (Int64 × uS)) (hz : f_X12_row N σ p1 = some z) : u_Ml l ZM G yX12_row cX12_row 2 1 [.ref (G.2.2 0), .int p1] σ z.1 z.2 := by
  refine u_Ml_of RX12 (by decide) rfl (Nat.le_of_ble_eq_true rfl) ?_
  intro p e s m args below meth c ls cx hw hl
  have hx := cx.1
  have hb := cx.2.1
  have hl : lv_has ls 2 [(0, .ref (G.2.2 0)), (1, .int p1)] := hl
  unfold f_X12_row at hz
  refine lv_aload_n hx hb dX12_row_0 rfl (lv_at hl 0 rfl) ?_
  refine lv_iconst (v := 0) hx hb dX12_row_1 (by decide) ?_
  obtain ⟨s1, es1, hz⟩ := u_let hz
  refine u_puti2 cx hw P_X12_77 o_X12 rfl es1 dX12_row_2 (fun H locs hw => ?_)
  refine lv_iload_n hx hb dX12_row_5 rfl (lv_at hl 1 rfl) ?_
  refine lv_iconst (v := 0) hx hb dX12_row_6 (by decide) ?_
  refine lv_aload_n hx hb dX12_row_7 rfl (lv_at hl 0 rfl) ?_
  refine u_geti cx hw F_X12_80 o_X12 rfl dX12_row_8 ?_
  refine lv_iconst (v := 1) hx hb dX12_row_11 (by decide) ?_
  refine lv_isub hx hb dX12_row_12 ?_
  obtain ⟨v2, hv2, hz⟩ := u_bind hz
  refine u_callSi (As := [.int p1, .int 0, .int ((s1.1 0 7) - 1)]) (rest := []) cx hw LS_X12_86 (c_X12_in l G N s1 p1 0 ((s1.1 0 7) - 1) v2 hv2) (by decide) hl.1 rfl (Nat.le_of_ble_eq_true rfl) dX12_row_13 rfl (fun H locs hw => ?_)
  refine lv_if_eq (tgt := 28) hx hb dX12_row_16 (by decide) (fun hc => ?_) (fun hc => ?_)
  · replace hz := u_ift hz hc
    refine lv_aload_n hx hb dX12_row_28 rfl (lv_at hl 0 rfl) ?_
    obtain ⟨v3, hv3, hz⟩ := u_bind hz
    refine u_callVi (As := []) (rest := []) cx hw LV_X12_230 (c_X12_lost l G N s1 v3 hv3) o_X12 rfl (by decide) hl.1 rfl (Nat.le_of_ble_eq_true rfl) dX12_row_29 rfl (fun H locs hw => ?_)
    refine lv_i2l (v := (Int32.toInt64 v3.1)) hx hb dX12_row_32 rfl ?_
    exact u_lret cx hw (u_pair hz) dX12_row_33
  · replace hz := u_iff hz hc
    refine lv_aload_n hx hb dX12_row_19 rfl (lv_at hl 0 rfl) ?_
    refine u_getp cx hw F_X12_24 o_X12 rfl dX12_row_20 ?_
    refine lv_iload_n hx hb dX12_row_23 rfl (lv_at hl 1 rfl) ?_
    obtain ⟨v4, hv4, hz⟩ := u_bind hz
    refine u_lald cx hw hv4 dX12_row_24 ?_
    refine lv_goto (tgt := 33) hx hb dX12_row_25 (by decide) ?_
    exact u_lret cx hw (u_pair hz) dX12_row_33
theorem dJ6_bitCount_0f7a4_0 : decode cJ6_bitCount_0f7a4 0 = .ok (.iload_n 0, 1) := by decide +kernel
theorem dJ6_bitCount_0f7a4_1 : decode cJ6_bitCount_0f7a4 1 = .ok (.iload_n 0, 1) := by decide +kernel
theorem dJ6_bitCount_0f7a4_2 : decode cJ6_bitCount_0f7a4 2 = .ok (.iconst 1, 1) := by decide +kernel
theorem dJ6_bitCount_0f7a4_3 : decode cJ6_bitCount_0f7a4 3 = .ok (.iushr, 1) := by decide +kernel
theorem dJ6_bitCount_0f7a4_4 : decode cJ6_bitCount_0f7a4 4 = .ok (.ldc_w 265, 3) := by decide +kernel
theorem dJ6_bitCount_0f7a4_7 : decode cJ6_bitCount_0f7a4 7 = .ok (.iand, 1) := by decide +kernel
theorem dJ6_bitCount_0f7a4_8 : decode cJ6_bitCount_0f7a4 8 = .ok (.isub, 1) := by decide +kernel
theorem dJ6_bitCount_0f7a4_9 : decode cJ6_bitCount_0f7a4 9 = .ok (.istore_n 0, 1) := by decide +kernel
theorem dJ6_bitCount_0f7a4_10 : decode cJ6_bitCount_0f7a4 10 = .ok (.iload_n 0, 1) := by decide +kernel
theorem dJ6_bitCount_0f7a4_11 : decode cJ6_bitCount_0f7a4 11 = .ok (.ldc_w 266, 3) := by decide +kernel
theorem dJ6_bitCount_0f7a4_14 : decode cJ6_bitCount_0f7a4 14 = .ok (.iand, 1) := by decide +kernel
theorem dJ6_bitCount_0f7a4_15 : decode cJ6_bitCount_0f7a4 15 = .ok (.iload_n 0, 1) := by decide +kernel
theorem dJ6_bitCount_0f7a4_16 : decode cJ6_bitCount_0f7a4 16 = .ok (.iconst 2, 1) := by decide +kernel
theorem dJ6_bitCount_0f7a4_17 : decode cJ6_bitCount_0f7a4 17 = .ok (.iushr, 1) := by decide +kernel
theorem dJ6_bitCount_0f7a4_18 : decode cJ6_bitCount_0f7a4 18 = .ok (.ldc_w 266, 3) := by decide +kernel
theorem dJ6_bitCount_0f7a4_21 : decode cJ6_bitCount_0f7a4 21 = .ok (.iand, 1) := by decide +kernel
theorem dJ6_bitCount_0f7a4_22 : decode cJ6_bitCount_0f7a4 22 = .ok (.iadd, 1) := by decide +kernel
theorem dJ6_bitCount_0f7a4_23 : decode cJ6_bitCount_0f7a4 23 = .ok (.istore_n 0, 1) := by decide +kernel
theorem dJ6_bitCount_0f7a4_24 : decode cJ6_bitCount_0f7a4 24 = .ok (.iload_n 0, 1) := by decide +kernel
theorem dJ6_bitCount_0f7a4_25 : decode cJ6_bitCount_0f7a4 25 = .ok (.iload_n 0, 1) := by decide +kernel
theorem dJ6_bitCount_0f7a4_26 : decode cJ6_bitCount_0f7a4 26 = .ok (.iconst 4, 1) := by decide +kernel
theorem dJ6_bitCount_0f7a4_27 : decode cJ6_bitCount_0f7a4 27 = .ok (.iushr, 1) := by decide +kernel
theorem dJ6_bitCount_0f7a4_28 : decode cJ6_bitCount_0f7a4 28 = .ok (.iadd, 1) := by decide +kernel
theorem dJ6_bitCount_0f7a4_29 : decode cJ6_bitCount_0f7a4 29 = .ok (.ldc_w 267, 3) := by decide +kernel
theorem dJ6_bitCount_0f7a4_32 : decode cJ6_bitCount_0f7a4 32 = .ok (.iand, 1) := by decide +kernel
theorem dJ6_bitCount_0f7a4_33 : decode cJ6_bitCount_0f7a4 33 = .ok (.istore_n 0, 1) := by decide +kernel
theorem dJ6_bitCount_0f7a4_34 : decode cJ6_bitCount_0f7a4 34 = .ok (.iload_n 0, 1) := by decide +kernel
theorem dJ6_bitCount_0f7a4_35 : decode cJ6_bitCount_0f7a4 35 = .ok (.iload_n 0, 1) := by decide +kernel
theorem dJ6_bitCount_0f7a4_36 : decode cJ6_bitCount_0f7a4 36 = .ok (.bipush 8, 2) := by decide +kernel
theorem dJ6_bitCount_0f7a4_38 : decode cJ6_bitCount_0f7a4 38 = .ok (.iushr, 1) := by decide +kernel
theorem dJ6_bitCount_0f7a4_39 : decode cJ6_bitCount_0f7a4 39 = .ok (.iadd, 1) := by decide +kernel
theorem dJ6_bitCount_0f7a4_40 : decode cJ6_bitCount_0f7a4 40 = .ok (.istore_n 0, 1) := by decide +kernel
theorem dJ6_bitCount_0f7a4_41 : decode cJ6_bitCount_0f7a4 41 = .ok (.iload_n 0, 1) := by decide +kernel
theorem dJ6_bitCount_0f7a4_42 : decode cJ6_bitCount_0f7a4 42 = .ok (.iload_n 0, 1) := by decide +kernel
theorem dJ6_bitCount_0f7a4_43 : decode cJ6_bitCount_0f7a4 43 = .ok (.bipush 16, 2) := by decide +kernel
theorem dJ6_bitCount_0f7a4_45 : decode cJ6_bitCount_0f7a4 45 = .ok (.iushr, 1) := by decide +kernel
theorem dJ6_bitCount_0f7a4_46 : decode cJ6_bitCount_0f7a4 46 = .ok (.iadd, 1) := by decide +kernel
theorem dJ6_bitCount_0f7a4_47 : decode cJ6_bitCount_0f7a4 47 = .ok (.istore_n 0, 1) := by decide +kernel
theorem dJ6_bitCount_0f7a4_48 : decode cJ6_bitCount_0f7a4 48 = .ok (.iload_n 0, 1) := by decide +kernel
theorem dJ6_bitCount_0f7a4_49 : decode cJ6_bitCount_0f7a4 49 = .ok (.bipush 63, 2) := by decide +kernel
theorem dJ6_bitCount_0f7a4_51 : decode cJ6_bitCount_0f7a4 51 = .ok (.iand, 1) := by decide +kernel
theorem dJ6_bitCount_0f7a4_52 : decode cJ6_bitCount_0f7a4 52 = .ok (.ireturn, 1) := by decide +kernel
def f_J6_bitCount_0f7a4 (N : Nat) (σ : uS) (p0 : Int32) : Option Int32 := u_jn ((p0 - ((u_ushr p0 1) &&& 1431655765)) : Int32) fun x1 =>
  u_jn (((x1 &&& 858993459) + ((u_ushr x1 2) &&& 858993459)) : Int32) fun x2 =>
  u_jn (((x2 + (u_ushr x2 4)) &&& 252645135) : Int32) fun x3 =>
  u_jn ((x3 + (u_ushr x3 8)) : Int32) fun x4 =>
  u_jn ((x4 + (u_ushr x4 16)) : Int32) fun x5 =>
  some (x5 &&& 63)
set_option maxRecDepth 100000 in
set_option maxHeartbeats 4000000 in
theorem c_J6_bitCount_0f7a4 (l : Launch) (G : uG) (Z : uZ) (N : Nat) (σ : uS) (p0 : Int32) (z : Int32) (hz : f_J6_bitCount_0f7a4 N σ p0 = some z) : u_Mi l Z G yJ6_bitCount_0f7a4 cJ6_bitCount_0f7a4 1 .int 0 [.int p0] σ z σ := by
  refine u_Mi_of RJ6 (by decide) rfl (Nat.le_of_ble_eq_true rfl) ?_
  intro p e s m args below meth c ls cx hw hl
  have hx := cx.1
  have hb := cx.2.1
  have hl : lv_has ls 1 [(0, .int p0)] := hl
  unfold f_J6_bitCount_0f7a4 at hz
  refine lv_iload_n hx hb dJ6_bitCount_0f7a4_0 rfl (lv_at hl 0 rfl) ?_
  refine lv_iload_n hx hb dJ6_bitCount_0f7a4_1 rfl (lv_at hl 0 rfl) ?_
  refine lv_iconst (v := 1) hx hb dJ6_bitCount_0f7a4_2 (by decide) ?_
  refine lv_iushr (v := (u_ushr p0 1)) hx hb dJ6_bitCount_0f7a4_3 rfl ?_
  refine u_ldcw cx q_604 dJ6_bitCount_0f7a4_4 ?_
  refine lv_iand hx hb dJ6_bitCount_0f7a4_7 ?_
  refine lv_isub hx hb dJ6_bitCount_0f7a4_8 ?_
  obtain ⟨x1, ex1, hz⟩ := u_let hz
  refine u_topi ex1 ?_
  refine lv_istore_n (lv' := [(0, .int x1)]) hx hb dJ6_bitCount_0f7a4_9 rfl hl (by decide) rfl (fun ls hl => ?_)
  refine lv_iload_n hx hb dJ6_bitCount_0f7a4_10 rfl (lv_at hl 0 rfl) ?_
  refine u_ldcw cx q_605 dJ6_bitCount_0f7a4_11 ?_
  refine lv_iand hx hb dJ6_bitCount_0f7a4_14 ?_
  refine lv_iload_n hx hb dJ6_bitCount_0f7a4_15 rfl (lv_at hl 0 rfl) ?_
  refine lv_iconst (v := 2) hx hb dJ6_bitCount_0f7a4_16 (by decide) ?_
  refine lv_iushr (v := (u_ushr x1 2)) hx hb dJ6_bitCount_0f7a4_17 rfl ?_
  refine u_ldcw cx q_605 dJ6_bitCount_0f7a4_18 ?_
  refine lv_iand hx hb dJ6_bitCount_0f7a4_21 ?_
  refine lv_iadd hx hb dJ6_bitCount_0f7a4_22 ?_
  obtain ⟨x2, ex2, hz⟩ := u_let hz
  refine u_topi ex2 ?_
  refine lv_istore_n (lv' := [(0, .int x2)]) hx hb dJ6_bitCount_0f7a4_23 rfl hl (by decide) rfl (fun ls hl => ?_)
  refine lv_iload_n hx hb dJ6_bitCount_0f7a4_24 rfl (lv_at hl 0 rfl) ?_
  refine lv_iload_n hx hb dJ6_bitCount_0f7a4_25 rfl (lv_at hl 0 rfl) ?_
  refine lv_iconst (v := 4) hx hb dJ6_bitCount_0f7a4_26 (by decide) ?_
  refine lv_iushr (v := (u_ushr x2 4)) hx hb dJ6_bitCount_0f7a4_27 rfl ?_
  refine lv_iadd hx hb dJ6_bitCount_0f7a4_28 ?_
  refine u_ldcw cx q_606 dJ6_bitCount_0f7a4_29 ?_
  refine lv_iand hx hb dJ6_bitCount_0f7a4_32 ?_
  obtain ⟨x3, ex3, hz⟩ := u_let hz
  refine u_topi ex3 ?_
  refine lv_istore_n (lv' := [(0, .int x3)]) hx hb dJ6_bitCount_0f7a4_33 rfl hl (by decide) rfl (fun ls hl => ?_)
  refine lv_iload_n hx hb dJ6_bitCount_0f7a4_34 rfl (lv_at hl 0 rfl) ?_
  refine lv_iload_n hx hb dJ6_bitCount_0f7a4_35 rfl (lv_at hl 0 rfl) ?_
  refine lv_bipush (v := 8) hx hb dJ6_bitCount_0f7a4_36 (by decide) ?_
  refine lv_iushr (v := (u_ushr x3 8)) hx hb dJ6_bitCount_0f7a4_38 rfl ?_
  refine lv_iadd hx hb dJ6_bitCount_0f7a4_39 ?_
  obtain ⟨x4, ex4, hz⟩ := u_let hz
  refine u_topi ex4 ?_
  refine lv_istore_n (lv' := [(0, .int x4)]) hx hb dJ6_bitCount_0f7a4_40 rfl hl (by decide) rfl (fun ls hl => ?_)
  refine lv_iload_n hx hb dJ6_bitCount_0f7a4_41 rfl (lv_at hl 0 rfl) ?_
  refine lv_iload_n hx hb dJ6_bitCount_0f7a4_42 rfl (lv_at hl 0 rfl) ?_
  refine lv_bipush (v := 16) hx hb dJ6_bitCount_0f7a4_43 (by decide) ?_
  refine lv_iushr (v := (u_ushr x4 16)) hx hb dJ6_bitCount_0f7a4_45 rfl ?_
  refine lv_iadd hx hb dJ6_bitCount_0f7a4_46 ?_
  obtain ⟨x5, ex5, hz⟩ := u_let hz
  refine u_topi ex5 ?_
  refine lv_istore_n (lv' := [(0, .int x5)]) hx hb dJ6_bitCount_0f7a4_47 rfl hl (by decide) rfl (fun ls hl => ?_)
  refine lv_iload_n hx hb dJ6_bitCount_0f7a4_48 rfl (lv_at hl 0 rfl) ?_
  refine lv_bipush (v := 63) hx hb dJ6_bitCount_0f7a4_49 (by decide) ?_
  refine lv_iand hx hb dJ6_bitCount_0f7a4_51 ?_
  exact u_iret cx hw ⟨Option.some.inj hz, rfl⟩ dJ6_bitCount_0f7a4_52
theorem dX3_push_0 : decode cX3_push 0 = .ok (.aload_n 0, 1) := by decide +kernel
theorem dX3_push_1 : decode cX3_push 1 = .ok (.getfield 21, 3) := by decide +kernel
theorem dX3_push_4 : decode cX3_push 4 = .ok (.aload_n 0, 1) := by decide +kernel
theorem dX3_push_5 : decode cX3_push 5 = .ok (.getfield 11, 3) := by decide +kernel
theorem dX3_push_8 : decode cX3_push 8 = .ok (.arraylength, 1) := by decide +kernel
theorem dX3_push_9 : decode cX3_push 9 = .ok (.if_icmp .lt 7, 3) := by decide +kernel
theorem dX3_push_12 : decode cX3_push 12 = .ok (.aload_n 0, 1) := by decide +kernel
theorem dX3_push_13 : decode cX3_push 13 = .ok (.invokevirtual 28, 3) := by decide +kernel
theorem dX3_push_16 : decode cX3_push 16 = .ok (.aload_n 0, 1) := by decide +kernel
theorem dX3_push_17 : decode cX3_push 17 = .ok (.getfield 21, 3) := by decide +kernel
theorem dX3_push_20 : decode cX3_push 20 = .ok (.ifCond .lt 27, 3) := by decide +kernel
theorem dX3_push_23 : decode cX3_push 23 = .ok (.aload_n 0, 1) := by decide +kernel
theorem dX3_push_24 : decode cX3_push 24 = .ok (.getfield 21, 3) := by decide +kernel
theorem dX3_push_27 : decode cX3_push 27 = .ok (.aload_n 0, 1) := by decide +kernel
theorem dX3_push_28 : decode cX3_push 28 = .ok (.getfield 11, 3) := by decide +kernel
theorem dX3_push_31 : decode cX3_push 31 = .ok (.arraylength, 1) := by decide +kernel
theorem dX3_push_32 : decode cX3_push 32 = .ok (.if_icmp .ge 15, 3) := by decide +kernel
theorem dX3_push_35 : decode cX3_push 35 = .ok (.aload_n 0, 1) := by decide +kernel
theorem dX3_push_36 : decode cX3_push 36 = .ok (.getfield 11, 3) := by decide +kernel
theorem dX3_push_39 : decode cX3_push 39 = .ok (.aload_n 0, 1) := by decide +kernel
theorem dX3_push_40 : decode cX3_push 40 = .ok (.getfield 21, 3) := by decide +kernel
theorem dX3_push_43 : decode cX3_push 43 = .ok (.aaload, 1) := by decide +kernel
theorem dX3_push_44 : decode cX3_push 44 = .ok (.goto 4, 3) := by decide +kernel
theorem dX3_push_47 : decode cX3_push 47 = .ok (.aconst_null, 1) := by decide +kernel
theorem dX3_push_48 : decode cX3_push 48 = .ok (.astore_n 2, 1) := by decide +kernel
theorem dX3_push_49 : decode cX3_push 49 = .ok (.aload_n 2, 1) := by decide +kernel
theorem dX3_push_50 : decode cX3_push 50 = .ok (.ifnull 18, 3) := by decide +kernel
theorem dX3_push_53 : decode cX3_push 53 = .ok (.aload_n 2, 1) := by decide +kernel
theorem dX3_push_54 : decode cX3_push 54 = .ok (.aload_n 1, 1) := by decide +kernel
theorem dX3_push_55 : decode cX3_push 55 = .ok (.invokevirtual 31, 3) := by decide +kernel
theorem dX3_push_58 : decode cX3_push 58 = .ok (.aload_n 0, 1) := by decide +kernel
theorem dX3_push_59 : decode cX3_push 59 = .ok (.dup, 1) := by decide +kernel
theorem dX3_push_60 : decode cX3_push 60 = .ok (.getfield 21, 3) := by decide +kernel
theorem dX3_push_63 : decode cX3_push 63 = .ok (.iconst 1, 1) := by decide +kernel
theorem dX3_push_64 : decode cX3_push 64 = .ok (.iadd, 1) := by decide +kernel
theorem dX3_push_65 : decode cX3_push 65 = .ok (.putfield 21, 3) := by decide +kernel
theorem dX3_push_68 : decode cX3_push 68 = .ok (.return_, 1) := by decide +kernel
def f_X3_push (N : Nat) (σ : uS) (i1 : Nat) : Option uS := (u_len ZC 6).bind fun v1 =>
  u_jn (fun (s2 : uS) => (u_jn ((some s2 : Option uS)) fun J47_4 =>
  if (s2.1 5 2) < 0 then (J47_4) else ((u_len ZC 6).bind fun v5 =>
  if v5 ≤ (s2.1 5 2) then (J47_4) else ((u_rR ZC s2 6 (s2.1 5 2)).bind fun v6 =>
  u_ck (isS v6) <|
  (f_X7_copy N s2 v6 i1).bind fun s7 =>
  u_jn (u_pI s7 5 2 ((s7.1 5 2) + 1)) fun s8 =>
  some s8)) : Option uS)) fun J16_3 =>
  if (σ.1 5 2) < v1 then (J16_3 σ) else ((f_X3_dropEldest N σ).bind fun s9 =>
  J16_3 s9)
set_option maxRecDepth 100000 in
set_option maxHeartbeats 4000000 in
theorem c_X3_push (l : Launch) (G : uG) (N : Nat) (σ : uS) (i1 : Nat) (oi1 : u_o ZC i1 6 12 (k_S i1)) (z : uS) (hz : f_X3_push N σ i1 = some z) : u_Mv l ZC G yX3_push cX3_push 3 2 [.ref (G.2.2 5), .ref (G.2.2 i1)] σ z := by
  refine u_Mv_of RX3 (by decide) rfl (Nat.le_of_ble_eq_true rfl) ?_
  intro p e s m args below meth c ls cx hw hl
  have hx := cx.1
  have hb := cx.2.1
  have hl : lv_has ls 3 [(0, .ref (G.2.2 5)), (1, .ref (G.2.2 i1))] := hl
  unfold f_X3_push at hz
  refine lv_aload_n hx hb dX3_push_0 rfl (lv_at hl 0 rfl) ?_
  refine u_geti cx hw F_X3_21 o_X3 rfl dX3_push_1 ?_
  refine lv_aload_n hx hb dX3_push_4 rfl (lv_at hl 0 rfl) ?_
  refine u_getp cx hw F_X3_11 o_X3 rfl dX3_push_5 ?_
  obtain ⟨v1, hv1, hz⟩ := u_bind hz
  refine u_alen cx hw hv1 dX3_push_8 ?_
  obtain ⟨J16_3, eJ16_3, hz⟩ := u_let hz
  have WJ16_3 : ∀ (s2 : uS) (H : Heap) (locs : List Loc) (ls : Array Slot), J16_3 s2 = some z → u_W ZC G s2 s H locs → lv_has ls 3 [(0, .ref (G.2.2 5)), (1, .ref (G.2.2 i1))] → W p l e (u_rm 2) s m args below meth c H locs 0 0 (u_Qv below ZC G s args z) (F0 m 16 ls []) := by
    intro s2 H locs ls hz hw hl
    rw [eJ16_3] at hz
    refine lv_aload_n hx hb dX3_push_16 rfl (lv_at hl 0 rfl) ?_
    refine u_geti cx hw F_X3_21 o_X3 rfl dX3_push_17 ?_
    obtain ⟨J47_4, eJ47_4, hz⟩ := u_let hz
    have WJ47_4 : ∀ (H : Heap) (locs : List Loc) (ls : Array Slot), J47_4 = some z → u_W ZC G s2 s H locs → lv_has ls 3 [(0, .ref (G.2.2 5)), (1, .ref (G.2.2 i1))] → W p l e (u_rm 2) s m args below meth c H locs 0 0 (u_Qv below ZC G s args z) (F0 m 47 ls []) := by
      intro H locs ls hz hw hl
      rw [eJ47_4] at hz
      refine lv_null hx hb dX3_push_47 ?_
      refine lv_astore_nN (lv' := [(2, .null), (0, .ref (G.2.2 5)), (1, .ref (G.2.2 i1))]) hx hb dX3_push_48 rfl hl (by decide) rfl (fun ls hl => ?_)
      refine lv_aload_nN hx hb dX3_push_49 rfl (lv_at hl 0 rfl) ?_
      refine lv_ifnullN (tgt := 68) hx hb dX3_push_50 (by decide) ?_
      exact u_vret cx hw (Option.some.inj hz) dX3_push_68
    refine lv_if_lt (tgt := 47) hx hb dX3_push_20 (by decide) (fun hc => ?_) (fun hc => ?_)
    · replace hz := u_ift hz hc
      exact WJ47_4 _ _ _ hz hw (lv_sub hl [0, 1] rfl)
    · replace hz := u_iff hz hc
      refine lv_aload_n hx hb dX3_push_23 rfl (lv_at hl 0 rfl) ?_
      refine u_geti cx hw F_X3_21 o_X3 rfl dX3_push_24 ?_
      refine lv_aload_n hx hb dX3_push_27 rfl (lv_at hl 0 rfl) ?_
      refine u_getp cx hw F_X3_11 o_X3 rfl dX3_push_28 ?_
      obtain ⟨v5, hv5, hz⟩ := u_bind hz
      refine u_alen cx hw hv5 dX3_push_31 ?_
      refine lv_icmp_ge (tgt := 47) hx hb dX3_push_32 (by decide) (fun hc => ?_) (fun hc => ?_)
      · replace hz := u_ift hz hc
        exact WJ47_4 _ _ _ hz hw (lv_sub hl [0, 1] rfl)
      · replace hz := u_iff hz hc
        refine lv_aload_n hx hb dX3_push_35 rfl (lv_at hl 0 rfl) ?_
        refine u_getp cx hw F_X3_11 o_X3 rfl dX3_push_36 ?_
        refine lv_aload_n hx hb dX3_push_39 rfl (lv_at hl 0 rfl) ?_
        refine u_geti cx hw F_X3_21 o_X3 rfl dX3_push_40 ?_
        obtain ⟨v6, hv6, hz⟩ := u_bind hz
        obtain ⟨qv6, hz⟩ := u_ck_some hz
        refine u_aald cx hw hv6 dX3_push_43 ?_
        refine lv_goto (tgt := 48) hx hb dX3_push_44 (by decide) ?_
        refine lv_astore_n (lv' := [(2, .ref (G.2.2 v6)), (0, .ref (G.2.2 5)), (1, .ref (G.2.2 i1))]) hx hb dX3_push_48 rfl hl (by decide) rfl (fun ls hl => ?_)
        refine lv_aload_n hx hb dX3_push_49 rfl (lv_at hl 0 rfl) ?_
        refine lv_ifnull hx hb dX3_push_50 ?_
        refine lv_aload_n hx hb dX3_push_53 rfl (lv_at hl 0 rfl) ?_
        refine lv_aload_n hx hb dX3_push_54 rfl (lv_at hl 2 rfl) ?_
        obtain ⟨s7, hs7, hz⟩ := u_bind hz
        refine u_callVv (As := [.ref (G.2.2 i1)]) (rest := []) cx hw LV_X3_31 (c_X7_copy l G N s2 v6 (o_S qv6) i1 oi1 s7 hs7) (o_S qv6) rfl (by decide) hl.1 rfl (Nat.le_of_ble_eq_true rfl) dX3_push_55 rfl (fun H locs hw => ?_)
        refine lv_aload_n hx hb dX3_push_58 rfl (lv_at hl 1 rfl) ?_
        refine lv_dup hx hb dX3_push_59 rfl ?_
        refine u_geti cx hw F_X3_21 o_X3 rfl dX3_push_60 ?_
        refine lv_iconst (v := 1) hx hb dX3_push_63 (by decide) ?_
        refine lv_iadd hx hb dX3_push_64 ?_
        obtain ⟨s8, es8, hz⟩ := u_let hz
        refine u_puti2 cx hw P_X3_21 o_X3 rfl es8 dX3_push_65 (fun H locs hw => ?_)
        exact u_vret cx hw (Option.some.inj hz) dX3_push_68
  refine lv_icmp_lt (tgt := 16) hx hb dX3_push_9 (by decide) (fun hc => ?_) (fun hc => ?_)
  · replace hz := u_ift hz hc
    exact WJ16_3 σ _ _ _ hz hw (lv_sub hl [0, 1] rfl)
  · replace hz := u_iff hz hc
    refine lv_aload_n hx hb dX3_push_12 rfl (lv_at hl 0 rfl) ?_
    obtain ⟨s9, hs9, hz⟩ := u_bind hz
    refine u_callVv (As := []) (rest := []) cx hw LV_X3_28 (c_X3_dropEldest l G N σ s9 hs9) o_X3 rfl (by decide) hl.1 rfl (Nat.le_of_ble_eq_true rfl) dX3_push_13 rfl (fun H locs hw => ?_)
    exact WJ16_3 s9 _ _ _ hz hw (lv_sub hl [0, 1] rfl)
theorem dX3_pop_0 : decode cX3_pop 0 = .ok (.aload_n 0, 1) := by decide +kernel
theorem dX3_pop_1 : decode cX3_pop 1 = .ok (.getfield 21, 3) := by decide +kernel
theorem dX3_pop_4 : decode cX3_pop 4 = .ok (.iconst 1, 1) := by decide +kernel
theorem dX3_pop_5 : decode cX3_pop 5 = .ok (.isub, 1) := by decide +kernel
theorem dX3_pop_6 : decode cX3_pop 6 = .ok (.istore_n 2, 1) := by decide +kernel
theorem dX3_pop_7 : decode cX3_pop 7 = .ok (.iload_n 2, 1) := by decide +kernel
theorem dX3_pop_8 : decode cX3_pop 8 = .ok (.ifCond .lt 21, 3) := by decide +kernel
theorem dX3_pop_11 : decode cX3_pop 11 = .ok (.iload_n 2, 1) := by decide +kernel
theorem dX3_pop_12 : decode cX3_pop 12 = .ok (.aload_n 0, 1) := by decide +kernel
theorem dX3_pop_13 : decode cX3_pop 13 = .ok (.getfield 11, 3) := by decide +kernel
theorem dX3_pop_16 : decode cX3_pop 16 = .ok (.arraylength, 1) := by decide +kernel
theorem dX3_pop_17 : decode cX3_pop 17 = .ok (.if_icmp .ge 12, 3) := by decide +kernel
theorem dX3_pop_20 : decode cX3_pop 20 = .ok (.aload_n 0, 1) := by decide +kernel
theorem dX3_pop_21 : decode cX3_pop 21 = .ok (.getfield 11, 3) := by decide +kernel
theorem dX3_pop_24 : decode cX3_pop 24 = .ok (.iload_n 2, 1) := by decide +kernel
theorem dX3_pop_25 : decode cX3_pop 25 = .ok (.aaload, 1) := by decide +kernel
theorem dX3_pop_26 : decode cX3_pop 26 = .ok (.goto 4, 3) := by decide +kernel
theorem dX3_pop_29 : decode cX3_pop 29 = .ok (.aconst_null, 1) := by decide +kernel
theorem dX3_pop_30 : decode cX3_pop 30 = .ok (.astore_n 3, 1) := by decide +kernel
theorem dX3_pop_31 : decode cX3_pop 31 = .ok (.aload_n 3, 1) := by decide +kernel
theorem dX3_pop_32 : decode cX3_pop 32 = .ok (.ifnonnull 5, 3) := by decide +kernel
theorem dX3_pop_35 : decode cX3_pop 35 = .ok (.iconst 0, 1) := by decide +kernel
theorem dX3_pop_36 : decode cX3_pop 36 = .ok (.ireturn, 1) := by decide +kernel
theorem dX3_pop_37 : decode cX3_pop 37 = .ok (.aload_n 1, 1) := by decide +kernel
theorem dX3_pop_38 : decode cX3_pop 38 = .ok (.aload_n 3, 1) := by decide +kernel
theorem dX3_pop_39 : decode cX3_pop 39 = .ok (.invokevirtual 31, 3) := by decide +kernel
theorem dX3_pop_42 : decode cX3_pop 42 = .ok (.aload_n 0, 1) := by decide +kernel
theorem dX3_pop_43 : decode cX3_pop 43 = .ok (.iload_n 2, 1) := by decide +kernel
theorem dX3_pop_44 : decode cX3_pop 44 = .ok (.putfield 21, 3) := by decide +kernel
theorem dX3_pop_47 : decode cX3_pop 47 = .ok (.iconst 1, 1) := by decide +kernel
theorem dX3_pop_48 : decode cX3_pop 48 = .ok (.ireturn, 1) := by decide +kernel
def f_X3_pop (N : Nat) (σ : uS) (i1 : Nat) : Option (Int32 × uS) := u_jn (((σ.1 5 2) - 1) : Int32) fun x1 =>
  u_jn ((some (0, σ) : Option (Int32 × uS))) fun J29_2 =>
  if x1 < 0 then (J29_2) else ((u_len ZC 6).bind fun v3 =>
  if v3 ≤ x1 then (J29_2) else ((u_rR ZC σ 6 x1).bind fun v4 =>
  u_ck (isS v4) <|
  (f_X7_copy N σ i1 v4).bind fun s5 =>
  u_jn (u_pI s5 5 2 x1) fun s6 =>
  some (1, s6)))
set_option maxRecDepth 100000 in
set_option maxHeartbeats 4000000 in
theorem c_X3_pop (l : Launch) (G : uG) (N : Nat) (σ : uS) (i1 : Nat) (oi1 : u_o ZC i1 6 12 (k_S i1)) (z : (Int32 × uS)) (hz : f_X3_pop N σ i1 = some z) : u_Mi l ZC G yX3_pop cX3_pop 4 .boolean 2 [.ref (G.2.2 5), .ref (G.2.2 i1)] σ z.1 z.2 := by
  refine u_Mi_of RX3 (by decide) rfl (Nat.le_of_ble_eq_true rfl) ?_
  intro p e s m args below meth c ls cx hw hl
  have hx := cx.1
  have hb := cx.2.1
  have hl : lv_has ls 4 [(0, .ref (G.2.2 5)), (1, .ref (G.2.2 i1))] := hl
  unfold f_X3_pop at hz
  refine lv_aload_n hx hb dX3_pop_0 rfl (lv_at hl 0 rfl) ?_
  refine u_geti cx hw F_X3_21 o_X3 rfl dX3_pop_1 ?_
  refine lv_iconst (v := 1) hx hb dX3_pop_4 (by decide) ?_
  refine lv_isub hx hb dX3_pop_5 ?_
  obtain ⟨x1, ex1, hz⟩ := u_let hz
  refine u_topi ex1 ?_
  refine lv_istore_n (lv' := [(2, .int x1), (0, .ref (G.2.2 5)), (1, .ref (G.2.2 i1))]) hx hb dX3_pop_6 rfl hl (by decide) rfl (fun ls hl => ?_)
  refine lv_iload_n hx hb dX3_pop_7 rfl (lv_at hl 0 rfl) ?_
  obtain ⟨J29_2, eJ29_2, hz⟩ := u_let hz
  have WJ29_2 : ∀ (H : Heap) (locs : List Loc) (ls : Array Slot), J29_2 = some z → u_W ZC G σ s H locs → lv_has ls 4 [(0, .ref (G.2.2 5)), (1, .ref (G.2.2 i1)), (2, .int x1)] → W p l e (u_rm 2) s m args below meth c H locs 0 0 (u_Qi below ZC G s args z.1 z.2) (F0 m 29 ls []) := by
    intro H locs ls hz hw hl
    rw [eJ29_2] at hz
    refine lv_null hx hb dX3_pop_29 ?_
    refine lv_astore_nN (lv' := [(3, .null), (0, .ref (G.2.2 5)), (1, .ref (G.2.2 i1)), (2, .int x1)]) hx hb dX3_pop_30 rfl hl (by decide) rfl (fun ls hl => ?_)
    refine lv_aload_nN hx hb dX3_pop_31 rfl (lv_at hl 0 rfl) ?_
    refine lv_ifnonnullN hx hb dX3_pop_32 ?_
    refine lv_iconst (v := 0) hx hb dX3_pop_35 (by decide) ?_
    exact u_zret cx hw (Or.inl rfl) (u_pair hz) dX3_pop_36
  refine lv_if_lt (tgt := 29) hx hb dX3_pop_8 (by decide) (fun hc => ?_) (fun hc => ?_)
  · replace hz := u_ift hz hc
    exact WJ29_2 _ _ _ hz hw (lv_sub hl [1, 2, 0] rfl)
  · replace hz := u_iff hz hc
    refine lv_iload_n hx hb dX3_pop_11 rfl (lv_at hl 0 rfl) ?_
    refine lv_aload_n hx hb dX3_pop_12 rfl (lv_at hl 1 rfl) ?_
    refine u_getp cx hw F_X3_11 o_X3 rfl dX3_pop_13 ?_
    obtain ⟨v3, hv3, hz⟩ := u_bind hz
    refine u_alen cx hw hv3 dX3_pop_16 ?_
    refine lv_icmp_ge (tgt := 29) hx hb dX3_pop_17 (by decide) (fun hc => ?_) (fun hc => ?_)
    · replace hz := u_ift hz hc
      exact WJ29_2 _ _ _ hz hw (lv_sub hl [1, 2, 0] rfl)
    · replace hz := u_iff hz hc
      refine lv_aload_n hx hb dX3_pop_20 rfl (lv_at hl 1 rfl) ?_
      refine u_getp cx hw F_X3_11 o_X3 rfl dX3_pop_21 ?_
      refine lv_iload_n hx hb dX3_pop_24 rfl (lv_at hl 0 rfl) ?_
      obtain ⟨v4, hv4, hz⟩ := u_bind hz
      obtain ⟨qv4, hz⟩ := u_ck_some hz
      refine u_aald cx hw hv4 dX3_pop_25 ?_
      refine lv_goto (tgt := 30) hx hb dX3_pop_26 (by decide) ?_
      refine lv_astore_n (lv' := [(3, .ref (G.2.2 v4)), (2, .int x1), (0, .ref (G.2.2 5)), (1, .ref (G.2.2 i1))]) hx hb dX3_pop_30 rfl hl (by decide) rfl (fun ls hl => ?_)
      refine lv_aload_n hx hb dX3_pop_31 rfl (lv_at hl 0 rfl) ?_
      refine lv_ifnonnull (tgt := 37) hx hb dX3_pop_32 (by decide) ?_
      refine lv_aload_n hx hb dX3_pop_37 rfl (lv_at hl 3 rfl) ?_
      refine lv_aload_n hx hb dX3_pop_38 rfl (lv_at hl 0 rfl) ?_
      obtain ⟨s5, hs5, hz⟩ := u_bind hz
      refine u_callVv (As := [.ref (G.2.2 v4)]) (rest := []) cx hw LV_X3_31 (c_X7_copy l G N σ i1 oi1 v4 (o_S qv4) s5 hs5) oi1 rfl (by decide) hl.1 rfl (Nat.le_of_ble_eq_true rfl) dX3_pop_39 rfl (fun H locs hw => ?_)
      refine lv_aload_n hx hb dX3_pop_42 rfl (lv_at hl 2 rfl) ?_
      refine lv_iload_n hx hb dX3_pop_43 rfl (lv_at hl 1 rfl) ?_
      obtain ⟨s6, es6, hz⟩ := u_let hz
      refine u_puti2 cx hw P_X3_21 o_X3 rfl es6 dX3_pop_44 (fun H locs hw => ?_)
      refine lv_iconst (v := 1) hx hb dX3_pop_47 (by decide) ?_
      exact u_zret cx hw (Or.inr rfl) (u_pair hz) dX3_pop_48
theorem dX3_keepUnder_0 : decode cX3_keepUnder 0 = .ok (.iload_n 1, 1) := by decide +kernel
theorem dX3_keepUnder_1 : decode cX3_keepUnder 1 = .ok (.ifCond .lt 21, 3) := by decide +kernel
theorem dX3_keepUnder_4 : decode cX3_keepUnder 4 = .ok (.iload_n 1, 1) := by decide +kernel
theorem dX3_keepUnder_5 : decode cX3_keepUnder 5 = .ok (.aload_n 0, 1) := by decide +kernel
theorem dX3_keepUnder_6 : decode cX3_keepUnder 6 = .ok (.getfield 17, 3) := by decide +kernel
theorem dX3_keepUnder_9 : decode cX3_keepUnder 9 = .ok (.arraylength, 1) := by decide +kernel
theorem dX3_keepUnder_10 : decode cX3_keepUnder 10 = .ok (.if_icmp .ge 12, 3) := by decide +kernel
theorem dX3_keepUnder_13 : decode cX3_keepUnder 13 = .ok (.aload_n 0, 1) := by decide +kernel
theorem dX3_keepUnder_14 : decode cX3_keepUnder 14 = .ok (.getfield 17, 3) := by decide +kernel
theorem dX3_keepUnder_17 : decode cX3_keepUnder 17 = .ok (.iload_n 1, 1) := by decide +kernel
theorem dX3_keepUnder_18 : decode cX3_keepUnder 18 = .ok (.aaload, 1) := by decide +kernel
theorem dX3_keepUnder_19 : decode cX3_keepUnder 19 = .ok (.goto 4, 3) := by decide +kernel
theorem dX3_keepUnder_22 : decode cX3_keepUnder 22 = .ok (.aconst_null, 1) := by decide +kernel
theorem dX3_keepUnder_23 : decode cX3_keepUnder 23 = .ok (.astore_n 3, 1) := by decide +kernel
theorem dX3_keepUnder_24 : decode cX3_keepUnder 24 = .ok (.aload_n 3, 1) := by decide +kernel
theorem dX3_keepUnder_25 : decode cX3_keepUnder 25 = .ok (.ifnonnull 5, 3) := by decide +kernel
theorem dX3_keepUnder_28 : decode cX3_keepUnder 28 = .ok (.iconst 0, 1) := by decide +kernel
theorem dX3_keepUnder_29 : decode cX3_keepUnder 29 = .ok (.ireturn, 1) := by decide +kernel
theorem dX3_keepUnder_30 : decode cX3_keepUnder 30 = .ok (.aload_n 3, 1) := by decide +kernel
theorem dX3_keepUnder_31 : decode cX3_keepUnder 31 = .ok (.aload_n 2, 1) := by decide +kernel
theorem dX3_keepUnder_32 : decode cX3_keepUnder 32 = .ok (.invokevirtual 31, 3) := by decide +kernel
theorem dX3_keepUnder_35 : decode cX3_keepUnder 35 = .ok (.aload_n 0, 1) := by decide +kernel
theorem dX3_keepUnder_36 : decode cX3_keepUnder 36 = .ok (.dup, 1) := by decide +kernel
theorem dX3_keepUnder_37 : decode cX3_keepUnder 37 = .ok (.getfield 25, 3) := by decide +kernel
theorem dX3_keepUnder_40 : decode cX3_keepUnder 40 = .ok (.iconst 1, 1) := by decide +kernel
theorem dX3_keepUnder_41 : decode cX3_keepUnder 41 = .ok (.iload_n 1, 1) := by decide +kernel
theorem dX3_keepUnder_42 : decode cX3_keepUnder 42 = .ok (.ishl, 1) := by decide +kernel
theorem dX3_keepUnder_43 : decode cX3_keepUnder 43 = .ok (.ior, 1) := by decide +kernel
theorem dX3_keepUnder_44 : decode cX3_keepUnder 44 = .ok (.putfield 25, 3) := by decide +kernel
theorem dX3_keepUnder_47 : decode cX3_keepUnder 47 = .ok (.iconst 1, 1) := by decide +kernel
theorem dX3_keepUnder_48 : decode cX3_keepUnder 48 = .ok (.ireturn, 1) := by decide +kernel
def f_X3_keepUnder (N : Nat) (σ : uS) (p1 : Int32) (i2 : Nat) : Option (Int32 × uS) := u_jn ((some (0, σ) : Option (Int32 × uS))) fun J22_1 =>
  if p1 < 0 then (J22_1) else ((u_len ZC 7).bind fun v2 =>
  if v2 ≤ p1 then (J22_1) else ((u_rR ZC σ 7 p1).bind fun v3 =>
  u_ck (isS v3) <|
  (f_X7_copy N σ v3 i2).bind fun s4 =>
  u_jn (u_pI s4 5 3 ((s4.1 5 3) ||| (1 <<< (p1 &&& 31)))) fun s5 =>
  some (1, s5)))
set_option maxRecDepth 100000 in
set_option maxHeartbeats 4000000 in
theorem c_X3_keepUnder (l : Launch) (G : uG) (N : Nat) (σ : uS) (p1 : Int32) (i2 : Nat) (oi2 : u_o ZC i2 6 12 (k_S i2)) (z : (Int32 × uS)) (hz : f_X3_keepUnder N σ p1 i2 = some z) : u_Mi l ZC G yX3_keepUnder cX3_keepUnder 4 .boolean 2 [.ref (G.2.2 5), .int p1, .ref (G.2.2 i2)] σ z.1 z.2 := by
  refine u_Mi_of RX3 (by decide) rfl (Nat.le_of_ble_eq_true rfl) ?_
  intro p e s m args below meth c ls cx hw hl
  have hx := cx.1
  have hb := cx.2.1
  have hl : lv_has ls 4 [(0, .ref (G.2.2 5)), (1, .int p1), (2, .ref (G.2.2 i2))] := hl
  unfold f_X3_keepUnder at hz
  refine lv_iload_n hx hb dX3_keepUnder_0 rfl (lv_at hl 1 rfl) ?_
  obtain ⟨J22_1, eJ22_1, hz⟩ := u_let hz
  have WJ22_1 : ∀ (H : Heap) (locs : List Loc) (ls : Array Slot), J22_1 = some z → u_W ZC G σ s H locs → lv_has ls 4 [(0, .ref (G.2.2 5)), (1, .int p1), (2, .ref (G.2.2 i2))] → W p l e (u_rm 2) s m args below meth c H locs 0 0 (u_Qi below ZC G s args z.1 z.2) (F0 m 22 ls []) := by
    intro H locs ls hz hw hl
    rw [eJ22_1] at hz
    refine lv_null hx hb dX3_keepUnder_22 ?_
    refine lv_astore_nN (lv' := [(3, .null), (0, .ref (G.2.2 5)), (1, .int p1), (2, .ref (G.2.2 i2))]) hx hb dX3_keepUnder_23 rfl hl (by decide) rfl (fun ls hl => ?_)
    refine lv_aload_nN hx hb dX3_keepUnder_24 rfl (lv_at hl 0 rfl) ?_
    refine lv_ifnonnullN hx hb dX3_keepUnder_25 ?_
    refine lv_iconst (v := 0) hx hb dX3_keepUnder_28 (by decide) ?_
    exact u_zret cx hw (Or.inl rfl) (u_pair hz) dX3_keepUnder_29
  refine lv_if_lt (tgt := 22) hx hb dX3_keepUnder_1 (by decide) (fun hc => ?_) (fun hc => ?_)
  · replace hz := u_ift hz hc
    exact WJ22_1 _ _ _ hz hw (lv_sub hl [0, 1, 2] rfl)
  · replace hz := u_iff hz hc
    refine lv_iload_n hx hb dX3_keepUnder_4 rfl (lv_at hl 1 rfl) ?_
    refine lv_aload_n hx hb dX3_keepUnder_5 rfl (lv_at hl 0 rfl) ?_
    refine u_getp cx hw F_X3_17 o_X3 rfl dX3_keepUnder_6 ?_
    obtain ⟨v2, hv2, hz⟩ := u_bind hz
    refine u_alen cx hw hv2 dX3_keepUnder_9 ?_
    refine lv_icmp_ge (tgt := 22) hx hb dX3_keepUnder_10 (by decide) (fun hc => ?_) (fun hc => ?_)
    · replace hz := u_ift hz hc
      exact WJ22_1 _ _ _ hz hw (lv_sub hl [0, 1, 2] rfl)
    · replace hz := u_iff hz hc
      refine lv_aload_n hx hb dX3_keepUnder_13 rfl (lv_at hl 0 rfl) ?_
      refine u_getp cx hw F_X3_17 o_X3 rfl dX3_keepUnder_14 ?_
      refine lv_iload_n hx hb dX3_keepUnder_17 rfl (lv_at hl 1 rfl) ?_
      obtain ⟨v3, hv3, hz⟩ := u_bind hz
      obtain ⟨qv3, hz⟩ := u_ck_some hz
      refine u_aald cx hw hv3 dX3_keepUnder_18 ?_
      refine lv_goto (tgt := 23) hx hb dX3_keepUnder_19 (by decide) ?_
      refine lv_astore_n (lv' := [(3, .ref (G.2.2 v3)), (0, .ref (G.2.2 5)), (1, .int p1), (2, .ref (G.2.2 i2))]) hx hb dX3_keepUnder_23 rfl hl (by decide) rfl (fun ls hl => ?_)
      refine lv_aload_n hx hb dX3_keepUnder_24 rfl (lv_at hl 0 rfl) ?_
      refine lv_ifnonnull (tgt := 30) hx hb dX3_keepUnder_25 (by decide) ?_
      refine lv_aload_n hx hb dX3_keepUnder_30 rfl (lv_at hl 0 rfl) ?_
      refine lv_aload_n hx hb dX3_keepUnder_31 rfl (lv_at hl 3 rfl) ?_
      obtain ⟨s4, hs4, hz⟩ := u_bind hz
      refine u_callVv (As := [.ref (G.2.2 i2)]) (rest := []) cx hw LV_X3_31 (c_X7_copy l G N σ v3 (o_S qv3) i2 oi2 s4 hs4) (o_S qv3) rfl (by decide) hl.1 rfl (Nat.le_of_ble_eq_true rfl) dX3_keepUnder_32 rfl (fun H locs hw => ?_)
      refine lv_aload_n hx hb dX3_keepUnder_35 rfl (lv_at hl 1 rfl) ?_
      refine lv_dup hx hb dX3_keepUnder_36 rfl ?_
      refine u_geti cx hw F_X3_25 o_X3 rfl dX3_keepUnder_37 ?_
      refine lv_iconst (v := 1) hx hb dX3_keepUnder_40 (by decide) ?_
      refine lv_iload_n hx hb dX3_keepUnder_41 rfl (lv_at hl 2 rfl) ?_
      refine lv_ishl hx hb dX3_keepUnder_42 ?_
      refine lv_ior hx hb dX3_keepUnder_43 ?_
      obtain ⟨s5, es5, hz⟩ := u_let hz
      refine u_puti2 cx hw P_X3_25 o_X3 rfl es5 dX3_keepUnder_44 (fun H locs hw => ?_)
      refine lv_iconst (v := 1) hx hb dX3_keepUnder_47 (by decide) ?_
      exact u_zret cx hw (Or.inr rfl) (u_pair hz) dX3_keepUnder_48
theorem dX3_bringBack_0 : decode cX3_bringBack 0 = .ok (.iload_n 1, 1) := by decide +kernel
theorem dX3_bringBack_1 : decode cX3_bringBack 1 = .ok (.ifCond .lt 21, 3) := by decide +kernel
theorem dX3_bringBack_4 : decode cX3_bringBack 4 = .ok (.iload_n 1, 1) := by decide +kernel
theorem dX3_bringBack_5 : decode cX3_bringBack 5 = .ok (.aload_n 0, 1) := by decide +kernel
theorem dX3_bringBack_6 : decode cX3_bringBack 6 = .ok (.getfield 17, 3) := by decide +kernel
theorem dX3_bringBack_9 : decode cX3_bringBack 9 = .ok (.arraylength, 1) := by decide +kernel
theorem dX3_bringBack_10 : decode cX3_bringBack 10 = .ok (.if_icmp .ge 12, 3) := by decide +kernel
theorem dX3_bringBack_13 : decode cX3_bringBack 13 = .ok (.aload_n 0, 1) := by decide +kernel
theorem dX3_bringBack_14 : decode cX3_bringBack 14 = .ok (.getfield 17, 3) := by decide +kernel
theorem dX3_bringBack_17 : decode cX3_bringBack 17 = .ok (.iload_n 1, 1) := by decide +kernel
theorem dX3_bringBack_18 : decode cX3_bringBack 18 = .ok (.aaload, 1) := by decide +kernel
theorem dX3_bringBack_19 : decode cX3_bringBack 19 = .ok (.goto 4, 3) := by decide +kernel
theorem dX3_bringBack_22 : decode cX3_bringBack 22 = .ok (.aconst_null, 1) := by decide +kernel
theorem dX3_bringBack_23 : decode cX3_bringBack 23 = .ok (.astore_n 3, 1) := by decide +kernel
theorem dX3_bringBack_24 : decode cX3_bringBack 24 = .ok (.aload_n 3, 1) := by decide +kernel
theorem dX3_bringBack_25 : decode cX3_bringBack 25 = .ok (.ifnull 14, 3) := by decide +kernel
theorem dX3_bringBack_28 : decode cX3_bringBack 28 = .ok (.aload_n 0, 1) := by decide +kernel
theorem dX3_bringBack_29 : decode cX3_bringBack 29 = .ok (.getfield 25, 3) := by decide +kernel
theorem dX3_bringBack_32 : decode cX3_bringBack 32 = .ok (.iload_n 1, 1) := by decide +kernel
theorem dX3_bringBack_33 : decode cX3_bringBack 33 = .ok (.ishr, 1) := by decide +kernel
theorem dX3_bringBack_34 : decode cX3_bringBack 34 = .ok (.iconst 1, 1) := by decide +kernel
theorem dX3_bringBack_35 : decode cX3_bringBack 35 = .ok (.iand, 1) := by decide +kernel
theorem dX3_bringBack_36 : decode cX3_bringBack 36 = .ok (.ifCond .ne 5, 3) := by decide +kernel
theorem dX3_bringBack_39 : decode cX3_bringBack 39 = .ok (.iconst 0, 1) := by decide +kernel
theorem dX3_bringBack_40 : decode cX3_bringBack 40 = .ok (.ireturn, 1) := by decide +kernel
theorem dX3_bringBack_41 : decode cX3_bringBack 41 = .ok (.aload_n 2, 1) := by decide +kernel
theorem dX3_bringBack_42 : decode cX3_bringBack 42 = .ok (.aload_n 3, 1) := by decide +kernel
theorem dX3_bringBack_43 : decode cX3_bringBack 43 = .ok (.invokevirtual 31, 3) := by decide +kernel
theorem dX3_bringBack_46 : decode cX3_bringBack 46 = .ok (.aload_n 0, 1) := by decide +kernel
theorem dX3_bringBack_47 : decode cX3_bringBack 47 = .ok (.iconst 0, 1) := by decide +kernel
theorem dX3_bringBack_48 : decode cX3_bringBack 48 = .ok (.putfield 21, 3) := by decide +kernel
theorem dX3_bringBack_51 : decode cX3_bringBack 51 = .ok (.iconst 1, 1) := by decide +kernel
theorem dX3_bringBack_52 : decode cX3_bringBack 52 = .ok (.ireturn, 1) := by decide +kernel
def f_X3_bringBack (N : Nat) (σ : uS) (p1 : Int32) (i2 : Nat) : Option (Int32 × uS) := u_jn ((some (0, σ) : Option (Int32 × uS))) fun J22_1 =>
  if p1 < 0 then (J22_1) else ((u_len ZC 7).bind fun v2 =>
  if v2 ≤ p1 then (J22_1) else ((u_rR ZC σ 7 p1).bind fun v3 =>
  u_ck (isS v3) <|
  if (((σ.1 5 3) >>> (p1 &&& 31)) &&& 1) = 0 then (some (0, σ)) else ((f_X7_copy N σ i2 v3).bind fun s4 =>
  u_jn (u_pI s4 5 2 0) fun s5 =>
  some (1, s5))))
set_option maxRecDepth 100000 in
set_option maxHeartbeats 4000000 in
theorem c_X3_bringBack (l : Launch) (G : uG) (N : Nat) (σ : uS) (p1 : Int32) (i2 : Nat) (oi2 : u_o ZC i2 6 12 (k_S i2)) (z : (Int32 × uS)) (hz : f_X3_bringBack N σ p1 i2 = some z) : u_Mi l ZC G yX3_bringBack cX3_bringBack 4 .boolean 2 [.ref (G.2.2 5), .int p1, .ref (G.2.2 i2)] σ z.1 z.2 := by
  refine u_Mi_of RX3 (by decide) rfl (Nat.le_of_ble_eq_true rfl) ?_
  intro p e s m args below meth c ls cx hw hl
  have hx := cx.1
  have hb := cx.2.1
  have hl : lv_has ls 4 [(0, .ref (G.2.2 5)), (1, .int p1), (2, .ref (G.2.2 i2))] := hl
  unfold f_X3_bringBack at hz
  refine lv_iload_n hx hb dX3_bringBack_0 rfl (lv_at hl 1 rfl) ?_
  obtain ⟨J22_1, eJ22_1, hz⟩ := u_let hz
  have WJ22_1 : ∀ (H : Heap) (locs : List Loc) (ls : Array Slot), J22_1 = some z → u_W ZC G σ s H locs → lv_has ls 4 [(0, .ref (G.2.2 5)), (1, .int p1), (2, .ref (G.2.2 i2))] → W p l e (u_rm 2) s m args below meth c H locs 0 0 (u_Qi below ZC G s args z.1 z.2) (F0 m 22 ls []) := by
    intro H locs ls hz hw hl
    rw [eJ22_1] at hz
    refine lv_null hx hb dX3_bringBack_22 ?_
    refine lv_astore_nN (lv' := [(3, .null), (0, .ref (G.2.2 5)), (1, .int p1), (2, .ref (G.2.2 i2))]) hx hb dX3_bringBack_23 rfl hl (by decide) rfl (fun ls hl => ?_)
    refine lv_aload_nN hx hb dX3_bringBack_24 rfl (lv_at hl 0 rfl) ?_
    refine lv_ifnullN (tgt := 39) hx hb dX3_bringBack_25 (by decide) ?_
    refine lv_iconst (v := 0) hx hb dX3_bringBack_39 (by decide) ?_
    exact u_zret cx hw (Or.inl rfl) (u_pair hz) dX3_bringBack_40
  refine lv_if_lt (tgt := 22) hx hb dX3_bringBack_1 (by decide) (fun hc => ?_) (fun hc => ?_)
  · replace hz := u_ift hz hc
    exact WJ22_1 _ _ _ hz hw (lv_sub hl [0, 1, 2] rfl)
  · replace hz := u_iff hz hc
    refine lv_iload_n hx hb dX3_bringBack_4 rfl (lv_at hl 1 rfl) ?_
    refine lv_aload_n hx hb dX3_bringBack_5 rfl (lv_at hl 0 rfl) ?_
    refine u_getp cx hw F_X3_17 o_X3 rfl dX3_bringBack_6 ?_
    obtain ⟨v2, hv2, hz⟩ := u_bind hz
    refine u_alen cx hw hv2 dX3_bringBack_9 ?_
    refine lv_icmp_ge (tgt := 22) hx hb dX3_bringBack_10 (by decide) (fun hc => ?_) (fun hc => ?_)
    · replace hz := u_ift hz hc
      exact WJ22_1 _ _ _ hz hw (lv_sub hl [0, 1, 2] rfl)
    · replace hz := u_iff hz hc
      refine lv_aload_n hx hb dX3_bringBack_13 rfl (lv_at hl 0 rfl) ?_
      refine u_getp cx hw F_X3_17 o_X3 rfl dX3_bringBack_14 ?_
      refine lv_iload_n hx hb dX3_bringBack_17 rfl (lv_at hl 1 rfl) ?_
      obtain ⟨v3, hv3, hz⟩ := u_bind hz
      obtain ⟨qv3, hz⟩ := u_ck_some hz
      refine u_aald cx hw hv3 dX3_bringBack_18 ?_
      refine lv_goto (tgt := 23) hx hb dX3_bringBack_19 (by decide) ?_
      refine lv_astore_n (lv' := [(3, .ref (G.2.2 v3)), (0, .ref (G.2.2 5)), (1, .int p1), (2, .ref (G.2.2 i2))]) hx hb dX3_bringBack_23 rfl hl (by decide) rfl (fun ls hl => ?_)
      refine lv_aload_n hx hb dX3_bringBack_24 rfl (lv_at hl 0 rfl) ?_
      refine lv_ifnull hx hb dX3_bringBack_25 ?_
      refine lv_aload_n hx hb dX3_bringBack_28 rfl (lv_at hl 1 rfl) ?_
      refine u_geti cx hw F_X3_25 o_X3 rfl dX3_bringBack_29 ?_
      refine lv_iload_n hx hb dX3_bringBack_32 rfl (lv_at hl 2 rfl) ?_
      refine lv_ishr hx hb dX3_bringBack_33 ?_
      refine lv_iconst (v := 1) hx hb dX3_bringBack_34 (by decide) ?_
      refine lv_iand hx hb dX3_bringBack_35 ?_
      refine lv_if_ne (tgt := 41) hx hb dX3_bringBack_36 (by decide) (fun hc => ?_) (fun hc => ?_)
      · replace hz := u_iff hz hc
        refine lv_aload_n hx hb dX3_bringBack_41 rfl (lv_at hl 3 rfl) ?_
        refine lv_aload_n hx hb dX3_bringBack_42 rfl (lv_at hl 0 rfl) ?_
        obtain ⟨s4, hs4, hz⟩ := u_bind hz
        refine u_callVv (As := [.ref (G.2.2 v3)]) (rest := []) cx hw LV_X3_31 (c_X7_copy l G N σ i2 oi2 v3 (o_S qv3) s4 hs4) oi2 rfl (by decide) hl.1 rfl (Nat.le_of_ble_eq_true rfl) dX3_bringBack_43 rfl (fun H locs hw => ?_)
        refine lv_aload_n hx hb dX3_bringBack_46 rfl (lv_at hl 1 rfl) ?_
        refine lv_iconst (v := 0) hx hb dX3_bringBack_47 (by decide) ?_
        obtain ⟨s5, es5, hz⟩ := u_let hz
        refine u_puti2 cx hw P_X3_21 o_X3 rfl es5 dX3_bringBack_48 (fun H locs hw => ?_)
        refine lv_iconst (v := 1) hx hb dX3_bringBack_51 (by decide) ?_
        exact u_zret cx hw (Or.inr rfl) (u_pair hz) dX3_bringBack_52
      · replace hz := u_ift hz hc
        refine lv_iconst (v := 0) hx hb dX3_bringBack_39 (by decide) ?_
        exact u_zret cx hw (Or.inl rfl) (u_pair hz) dX3_bringBack_40
theorem dX6_putThing_0 : decode cX6_putThing 0 = .ok (.aload_n 0, 1) := by decide +kernel
theorem dX6_putThing_1 : decode cX6_putThing 1 = .ok (.iconst 1, 1) := by decide +kernel
theorem dX6_putThing_2 : decode cX6_putThing 2 = .ok (.putfield 40, 3) := by decide +kernel
theorem dX6_putThing_5 : decode cX6_putThing 5 = .ok (.aload_n 0, 1) := by decide +kernel
theorem dX6_putThing_6 : decode cX6_putThing 6 = .ok (.iload_n 1, 1) := by decide +kernel
theorem dX6_putThing_7 : decode cX6_putThing 7 = .ok (.invokevirtual 71, 3) := by decide +kernel
theorem dX6_putThing_10 : decode cX6_putThing 10 = .ok (.ireturn, 1) := by decide +kernel
def f_X6_putThing (N : Nat) (σ : uS) (i0 : Nat) (p1 : Int32) : Option (Int32 × uS) := u_jn (u_pI σ i0 9 1) fun s1 =>
  (f_X6_put N s1 i0 p1).bind fun v2 =>
  u_ck (v2.1 = 0 ∨ v2.1 = 1) (some (v2.1, v2.2))
set_option maxRecDepth 100000 in
set_option maxHeartbeats 4000000 in
theorem c_X6_putThing (l : Launch) (G : uG) (N : Nat) (σ : uS) (i0 : Nat) (oi0 : u_o ZC i0 5 11 (k_R i0)) (p1 : Int32) (z : (Int32 × uS)) (hz : f_X6_putThing N σ i0 p1 = some z) : u_Mi l ZC G yX6_putThing cX6_putThing 2 .boolean 1 [.ref (G.2.2 i0), .int p1] σ z.1 z.2 := by
  refine u_Mi_of RX6 (by decide) rfl (Nat.le_of_ble_eq_true rfl) ?_
  intro p e s m args below meth c ls cx hw hl
  have hx := cx.1
  have hb := cx.2.1
  have hl : lv_has ls 2 [(0, .ref (G.2.2 i0)), (1, .int p1)] := hl
  unfold f_X6_putThing at hz
  refine lv_aload_n hx hb dX6_putThing_0 rfl (lv_at hl 0 rfl) ?_
  refine lv_iconst (v := 1) hx hb dX6_putThing_1 (by decide) ?_
  obtain ⟨s1, es1, hz⟩ := u_let hz
  refine u_putz2 cx hw P_X6_40 oi0 rfl (Or.inr rfl) es1 dX6_putThing_2 (fun H locs hw => ?_)
  refine lv_aload_n hx hb dX6_putThing_5 rfl (lv_at hl 0 rfl) ?_
  refine lv_iload_n hx hb dX6_putThing_6 rfl (lv_at hl 1 rfl) ?_
  obtain ⟨v2, hv2, hz⟩ := u_bind hz
  refine u_callVi (As := [.int p1]) (rest := []) cx hw LV_X6_71 (c_X6_put l G N s1 i0 oi0 p1 v2 hv2) oi0 rfl (by decide) hl.1 rfl (Nat.le_of_ble_eq_true rfl) dX6_putThing_7 rfl (fun H locs hw => ?_)
  obtain ⟨h01, hz⟩ := u_ck_some hz
  exact u_zret cx hw h01 (u_pair hz) dX6_putThing_10
theorem dX6_opens_0 : decode cX6_opens 0 = .ok (.aload_n 0, 1) := by decide +kernel
theorem dX6_opens_1 : decode cX6_opens 1 = .ok (.getfield 34, 3) := by decide +kernel
theorem dX6_opens_4 : decode cX6_opens 4 = .ok (.iconst 4, 1) := by decide +kernel
theorem dX6_opens_5 : decode cX6_opens 5 = .ok (.if_icmp .lt 5, 3) := by decide +kernel
theorem dX6_opens_8 : decode cX6_opens 8 = .ok (.iconst 0, 1) := by decide +kernel
theorem dX6_opens_9 : decode cX6_opens 9 = .ok (.ireturn, 1) := by decide +kernel
theorem dX6_opens_10 : decode cX6_opens 10 = .ok (.aload_n 0, 1) := by decide +kernel
theorem dX6_opens_11 : decode cX6_opens 11 = .ok (.dup, 1) := by decide +kernel
theorem dX6_opens_12 : decode cX6_opens 12 = .ok (.getfield 34, 3) := by decide +kernel
theorem dX6_opens_15 : decode cX6_opens 15 = .ok (.iconst 1, 1) := by decide +kernel
theorem dX6_opens_16 : decode cX6_opens 16 = .ok (.iadd, 1) := by decide +kernel
theorem dX6_opens_17 : decode cX6_opens 17 = .ok (.putfield 34, 3) := by decide +kernel
theorem dX6_opens_20 : decode cX6_opens 20 = .ok (.aload_n 0, 1) := by decide +kernel
theorem dX6_opens_21 : decode cX6_opens 21 = .ok (.dup, 1) := by decide +kernel
theorem dX6_opens_22 : decode cX6_opens 22 = .ok (.getfield 37, 3) := by decide +kernel
theorem dX6_opens_25 : decode cX6_opens 25 = .ok (.iconst 1, 1) := by decide +kernel
theorem dX6_opens_26 : decode cX6_opens 26 = .ok (.aload_n 0, 1) := by decide +kernel
theorem dX6_opens_27 : decode cX6_opens 27 = .ok (.getfield 34, 3) := by decide +kernel
theorem dX6_opens_30 : decode cX6_opens 30 = .ok (.ishl, 1) := by decide +kernel
theorem dX6_opens_31 : decode cX6_opens 31 = .ok (.iconst (-1), 1) := by decide +kernel
theorem dX6_opens_32 : decode cX6_opens 32 = .ok (.ixor, 1) := by decide +kernel
theorem dX6_opens_33 : decode cX6_opens 33 = .ok (.iand, 1) := by decide +kernel
theorem dX6_opens_34 : decode cX6_opens 34 = .ok (.putfield 37, 3) := by decide +kernel
theorem dX6_opens_37 : decode cX6_opens 37 = .ok (.aload_n 0, 1) := by decide +kernel
theorem dX6_opens_38 : decode cX6_opens 38 = .ok (.bipush 40, 2) := by decide +kernel
theorem dX6_opens_40 : decode cX6_opens 40 = .ok (.invokevirtual 54, 3) := by decide +kernel
theorem dX6_opens_43 : decode cX6_opens 43 = .ok (.ireturn, 1) := by decide +kernel
def f_X6_opens (N : Nat) (σ : uS) (i0 : Nat) : Option (Int32 × uS) := if (σ.1 i0 7) < 4 then (u_jn (u_pI σ i0 7 ((σ.1 i0 7) + 1)) fun s1 =>
  u_jn (u_pI s1 i0 8 ((s1.1 i0 8) &&& ((1 <<< ((s1.1 i0 7) &&& 31)) ^^^ (-1)))) fun s2 =>
  (f_X6_await N s2 i0 40).bind fun v3 =>
  u_ck (v3.1 = 0 ∨ v3.1 = 1) (some (v3.1, v3.2))) else (some (0, σ))
set_option maxRecDepth 100000 in
set_option maxHeartbeats 4000000 in
theorem c_X6_opens (l : Launch) (G : uG) (N : Nat) (σ : uS) (i0 : Nat) (oi0 : u_o ZC i0 5 11 (k_R i0)) (z : (Int32 × uS)) (hz : f_X6_opens N σ i0 = some z) : u_Mi l ZC G yX6_opens cX6_opens 1 .boolean 1 [.ref (G.2.2 i0)] σ z.1 z.2 := by
  refine u_Mi_of RX6 (by decide) rfl (Nat.le_of_ble_eq_true rfl) ?_
  intro p e s m args below meth c ls cx hw hl
  have hx := cx.1
  have hb := cx.2.1
  have hl : lv_has ls 1 [(0, .ref (G.2.2 i0))] := hl
  unfold f_X6_opens at hz
  refine lv_aload_n hx hb dX6_opens_0 rfl (lv_at hl 0 rfl) ?_
  refine u_geti cx hw F_X6_34 oi0 rfl dX6_opens_1 ?_
  refine lv_iconst (v := 4) hx hb dX6_opens_4 (by decide) ?_
  refine lv_icmp_lt (tgt := 10) hx hb dX6_opens_5 (by decide) (fun hc => ?_) (fun hc => ?_)
  · replace hz := u_ift hz hc
    refine lv_aload_n hx hb dX6_opens_10 rfl (lv_at hl 0 rfl) ?_
    refine lv_dup hx hb dX6_opens_11 rfl ?_
    refine u_geti cx hw F_X6_34 oi0 rfl dX6_opens_12 ?_
    refine lv_iconst (v := 1) hx hb dX6_opens_15 (by decide) ?_
    refine lv_iadd hx hb dX6_opens_16 ?_
    obtain ⟨s1, es1, hz⟩ := u_let hz
    refine u_puti2 cx hw P_X6_34 oi0 rfl es1 dX6_opens_17 (fun H locs hw => ?_)
    refine lv_aload_n hx hb dX6_opens_20 rfl (lv_at hl 0 rfl) ?_
    refine lv_dup hx hb dX6_opens_21 rfl ?_
    refine u_geti cx hw F_X6_37 oi0 rfl dX6_opens_22 ?_
    refine lv_iconst (v := 1) hx hb dX6_opens_25 (by decide) ?_
    refine lv_aload_n hx hb dX6_opens_26 rfl (lv_at hl 0 rfl) ?_
    refine u_geti cx hw F_X6_34 oi0 rfl dX6_opens_27 ?_
    refine lv_ishl hx hb dX6_opens_30 ?_
    refine lv_iconst (v := (-1)) hx hb dX6_opens_31 (by decide) ?_
    refine lv_ixor hx hb dX6_opens_32 ?_
    refine lv_iand hx hb dX6_opens_33 ?_
    obtain ⟨s2, es2, hz⟩ := u_let hz
    refine u_puti2 cx hw P_X6_37 oi0 rfl es2 dX6_opens_34 (fun H locs hw => ?_)
    refine lv_aload_n hx hb dX6_opens_37 rfl (lv_at hl 0 rfl) ?_
    refine lv_bipush (v := 40) hx hb dX6_opens_38 (by decide) ?_
    obtain ⟨v3, hv3, hz⟩ := u_bind hz
    refine u_callVi (As := [.int 40]) (rest := []) cx hw LV_X6_54 (c_X6_await l G N s2 i0 oi0 40 v3 hv3) oi0 rfl (by decide) hl.1 rfl (Nat.le_of_ble_eq_true rfl) dX6_opens_40 rfl (fun H locs hw => ?_)
    obtain ⟨h01, hz⟩ := u_ck_some hz
    exact u_zret cx hw h01 (u_pair hz) dX6_opens_43
  · replace hz := u_iff hz hc
    refine lv_iconst (v := 0) hx hb dX6_opens_8 (by decide) ?_
    exact u_zret cx hw (Or.inl rfl) (u_pair hz) dX6_opens_9
theorem dX6_unwind_0 : decode cX6_unwind 0 = .ok (.aload_n 0, 1) := by decide +kernel
theorem dX6_unwind_1 : decode cX6_unwind 1 = .ok (.getfield 28, 3) := by decide +kernel
theorem dX6_unwind_4 : decode cX6_unwind 4 = .ok (.iconst 1, 1) := by decide +kernel
theorem dX6_unwind_5 : decode cX6_unwind 5 = .ok (.isub, 1) := by decide +kernel
theorem dX6_unwind_6 : decode cX6_unwind 6 = .ok (.istore_n 2, 1) := by decide +kernel
theorem dX6_unwind_7 : decode cX6_unwind 7 = .ok (.iload_n 2, 1) := by decide +kernel
theorem dX6_unwind_8 : decode cX6_unwind 8 = .ok (.ifCond .lt 52, 3) := by decide +kernel
theorem dX6_unwind_11 : decode cX6_unwind 11 = .ok (.iload_n 2, 1) := by decide +kernel
theorem dX6_unwind_12 : decode cX6_unwind 12 = .ok (.aload_n 0, 1) := by decide +kernel
theorem dX6_unwind_13 : decode cX6_unwind 13 = .ok (.getfield 15, 3) := by decide +kernel
theorem dX6_unwind_16 : decode cX6_unwind 16 = .ok (.arraylength, 1) := by decide +kernel
theorem dX6_unwind_17 : decode cX6_unwind 17 = .ok (.if_icmp .ge 43, 3) := by decide +kernel
theorem dX6_unwind_20 : decode cX6_unwind 20 = .ok (.aload_n 0, 1) := by decide +kernel
theorem dX6_unwind_21 : decode cX6_unwind 21 = .ok (.getfield 15, 3) := by decide +kernel
theorem dX6_unwind_24 : decode cX6_unwind 24 = .ok (.iload_n 2, 1) := by decide +kernel
theorem dX6_unwind_25 : decode cX6_unwind 25 = .ok (.iaload, 1) := by decide +kernel
theorem dX6_unwind_26 : decode cX6_unwind 26 = .ok (.istore_n 3, 1) := by decide +kernel
theorem dX6_unwind_27 : decode cX6_unwind 27 = .ok (.iload_n 3, 1) := by decide +kernel
theorem dX6_unwind_28 : decode cX6_unwind 28 = .ok (.bipush 126, 2) := by decide +kernel
theorem dX6_unwind_30 : decode cX6_unwind 30 = .ok (.if_icmp .eq 12, 3) := by decide +kernel
theorem dX6_unwind_33 : decode cX6_unwind 33 = .ok (.iload_n 3, 1) := by decide +kernel
theorem dX6_unwind_34 : decode cX6_unwind 34 = .ok (.invokestatic 80, 3) := by decide +kernel
theorem dX6_unwind_37 : decode cX6_unwind 37 = .ok (.iload_n 1, 1) := by decide +kernel
theorem dX6_unwind_38 : decode cX6_unwind 38 = .ok (.if_icmp .ge 4, 3) := by decide +kernel
theorem dX6_unwind_41 : decode cX6_unwind 41 = .ok (.return_, 1) := by decide +kernel
theorem dX6_unwind_42 : decode cX6_unwind 42 = .ok (.aload_n 0, 1) := by decide +kernel
theorem dX6_unwind_43 : decode cX6_unwind 43 = .ok (.iload_n 3, 1) := by decide +kernel
theorem dX6_unwind_44 : decode cX6_unwind 44 = .ok (.ineg, 1) := by decide +kernel
theorem dX6_unwind_45 : decode cX6_unwind 45 = .ok (.invokevirtual 71, 3) := by decide +kernel
theorem dX6_unwind_48 : decode cX6_unwind 48 = .ok (.pop, 1) := by decide +kernel
theorem dX6_unwind_49 : decode cX6_unwind 49 = .ok (.aload_n 0, 1) := by decide +kernel
theorem dX6_unwind_50 : decode cX6_unwind 50 = .ok (.iload_n 2, 1) := by decide +kernel
theorem dX6_unwind_51 : decode cX6_unwind 51 = .ok (.putfield 28, 3) := by decide +kernel
theorem dX6_unwind_54 : decode cX6_unwind 54 = .ok (.iinc 2 (-1), 3) := by decide +kernel
theorem dX6_unwind_57 : decode cX6_unwind 57 = .ok (.goto (-50), 3) := by decide +kernel
theorem dX6_unwind_60 : decode cX6_unwind 60 = .ok (.return_, 1) := by decide +kernel
def b_X6_unwind_7 (N : Nat) (i0 : Nat) (p1 : Int32) (J60_3 : uS → Option uS) (rec7_6 : uS → Int32 → Option uS) (s4 : uS) (x5 : Int32) : Option uS :=
  if x5 < 0 then (J60_3 s4) else ((u_len ZC (i0 + 2)).bind fun v7 =>
  if v7 ≤ x5 then (J60_3 s4) else ((u_rI ZC s4 0 (i0 + 2) x5).bind fun v8 =>
  u_jn (((f_X6_put N s4 i0 (-v8)).bind fun v10 =>
  u_jn (u_pI v10.2 i0 5 x5) fun s11 =>
  u_jn (x5 + (-1) : Int32) fun x12 =>
  rec7_6 s11 x12 : Option uS)) fun J42_9 =>
  if v8 = 126 then (J42_9) else ((f_X6_rankOf N s4 v8).bind fun v13 =>
  if p1 ≤ v13 then (J42_9) else (some s4))))
def f_X6_unwind (N : Nat) (σ : uS) (i0 : Nat) (p1 : Int32) : Option uS := u_jn (((σ.1 i0 5) - 1) : Int32) fun x1 =>
  u_jn (fun (s2 : uS) => (some s2 : Option uS)) fun J60_3 =>
  u_lp2 (b_X6_unwind_7 N i0 p1 J60_3) N σ x1
set_option maxRecDepth 100000 in
set_option maxHeartbeats 4000000 in
theorem c_X6_unwind (l : Launch) (G : uG) (N : Nat) (σ : uS) (i0 : Nat) (oi0 : u_o ZC i0 5 11 (k_R i0)) (p1 : Int32) (z : uS) (hz : f_X6_unwind N σ i0 p1 = some z) : u_Mv l ZC G yX6_unwind cX6_unwind 4 1 [.ref (G.2.2 i0), .int p1] σ z := by
  refine u_Mv_of RX6 (by decide) rfl (Nat.le_of_ble_eq_true rfl) ?_
  intro p e s m args below meth c ls cx hw hl
  have hx := cx.1
  have hb := cx.2.1
  have hl : lv_has ls 4 [(0, .ref (G.2.2 i0)), (1, .int p1)] := hl
  unfold f_X6_unwind at hz
  refine lv_aload_n hx hb dX6_unwind_0 rfl (lv_at hl 0 rfl) ?_
  refine u_geti cx hw F_X6_28 oi0 rfl dX6_unwind_1 ?_
  refine lv_iconst (v := 1) hx hb dX6_unwind_4 (by decide) ?_
  refine lv_isub hx hb dX6_unwind_5 ?_
  obtain ⟨x1, ex1, hz⟩ := u_let hz
  refine u_topi ex1 ?_
  refine lv_istore_n (lv' := [(2, .int x1), (0, .ref (G.2.2 i0)), (1, .int p1)]) hx hb dX6_unwind_6 rfl hl (by decide) rfl (fun ls hl => ?_)
  obtain ⟨J60_3, eJ60_3, hz⟩ := u_let hz
  have WJ60_3 : ∀ (s2 : uS) (H : Heap) (locs : List Loc) (ls : Array Slot), J60_3 s2 = some z → u_W ZC G s2 s H locs → lv_has ls 4 [] → W p l e (u_rm 1) s m args below meth c H locs 0 0 (u_Qv below ZC G s args z) (F0 m 60 ls []) := by
    intro s2 H locs ls hz hw hl
    rw [eJ60_3] at hz
    exact u_vret cx hw (Option.some.inj hz) dX6_unwind_60
  have WL7_13 : ∀ (k : Nat) (s4 : uS) (x5 : Int32) (H : Heap) (locs : List Loc) (ls : Array Slot), u_lp2 (b_X6_unwind_7 N i0 p1 J60_3) k s4 x5 = some z → u_W ZC G s4 s H locs → lv_has ls 4 [(0, .ref (G.2.2 i0)), (1, .int p1), (2, .int x5)] → W p l e (u_rm 1) s m args below meth c H locs 0 0 (u_Qv below ZC G s args z) (F0 m 7 ls []) := by
    intro k
    induction k with
    | zero =>
      intro s4 x5 H locs ls hz
      exact absurd hz (by intro h9; cases h9)
    | succ k ih7_6 =>
      intro s4 x5 H locs ls hz hw hl
      have hz : (b_X6_unwind_7 N i0 p1 J60_3) (u_lp2 (b_X6_unwind_7 N i0 p1 J60_3) k) s4 x5 = some z := hz
      unfold b_X6_unwind_7 at hz
      refine lv_iload_n hx hb dX6_unwind_7 rfl (lv_at hl 2 rfl) ?_
      refine lv_if_lt (tgt := 60) hx hb dX6_unwind_8 (by decide) (fun hc => ?_) (fun hc => ?_)
      · replace hz := u_ift hz hc
        exact WJ60_3 s4 _ _ _ hz hw (lv_sub hl [] rfl)
      · replace hz := u_iff hz hc
        refine lv_iload_n hx hb dX6_unwind_11 rfl (lv_at hl 2 rfl) ?_
        refine lv_aload_n hx hb dX6_unwind_12 rfl (lv_at hl 0 rfl) ?_
        refine u_getp cx hw F_X6_15 oi0 rfl dX6_unwind_13 ?_
        obtain ⟨v7, hv7, hz⟩ := u_bind hz
        refine u_alen cx hw hv7 dX6_unwind_16 ?_
        refine lv_icmp_ge (tgt := 60) hx hb dX6_unwind_17 (by decide) (fun hc => ?_) (fun hc => ?_)
        · replace hz := u_ift hz hc
          exact WJ60_3 s4 _ _ _ hz hw (lv_sub hl [] rfl)
        · replace hz := u_iff hz hc
          refine lv_aload_n hx hb dX6_unwind_20 rfl (lv_at hl 0 rfl) ?_
          refine u_getp cx hw F_X6_15 oi0 rfl dX6_unwind_21 ?_
          refine lv_iload_n hx hb dX6_unwind_24 rfl (lv_at hl 2 rfl) ?_
          obtain ⟨v8, hv8, hz⟩ := u_bind hz
          refine u_iald cx hw hv8 dX6_unwind_25 ?_
          refine lv_istore_n (lv' := [(3, .int v8), (0, .ref (G.2.2 i0)), (1, .int p1), (2, .int x5)]) hx hb dX6_unwind_26 rfl hl (by decide) rfl (fun ls hl => ?_)
          refine lv_iload_n hx hb dX6_unwind_27 rfl (lv_at hl 0 rfl) ?_
          refine lv_bipush (v := 126) hx hb dX6_unwind_28 (by decide) ?_
          obtain ⟨J42_9, eJ42_9, hz⟩ := u_let hz
          have WJ42_9 : ∀ (H : Heap) (locs : List Loc) (ls : Array Slot), J42_9 = some z → u_W ZC G s4 s H locs → lv_has ls 4 [(0, .ref (G.2.2 i0)), (1, .int p1), (2, .int x5), (3, .int v8)] → W p l e (u_rm 1) s m args below meth c H locs 0 0 (u_Qv below ZC G s args z) (F0 m 42 ls []) := by
            intro H locs ls hz hw hl
            rw [eJ42_9] at hz
            refine lv_aload_n hx hb dX6_unwind_42 rfl (lv_at hl 0 rfl) ?_
            refine lv_iload_n hx hb dX6_unwind_43 rfl (lv_at hl 3 rfl) ?_
            refine lv_ineg hx hb dX6_unwind_44 ?_
            obtain ⟨v10, hv10, hz⟩ := u_bind hz
            refine u_callVi (As := [.int (-v8)]) (rest := []) cx hw LV_X6_71 (c_X6_put l G N s4 i0 oi0 (-v8) v10 hv10) oi0 rfl (by decide) hl.1 rfl (Nat.le_of_ble_eq_true rfl) dX6_unwind_45 rfl (fun H locs hw => ?_)
            refine lv_pop hx hb dX6_unwind_48 rfl ?_
            refine lv_aload_n hx hb dX6_unwind_49 rfl (lv_at hl 0 rfl) ?_
            refine lv_iload_n hx hb dX6_unwind_50 rfl (lv_at hl 2 rfl) ?_
            obtain ⟨s11, es11, hz⟩ := u_let hz
            refine u_puti2 cx hw P_X6_28 oi0 rfl es11 dX6_unwind_51 (fun H locs hw => ?_)
            obtain ⟨x12, ex12, hz⟩ := u_let hz
            refine lv_iinc (v := x12) (lv' := [(2, .int x12), (0, .ref (G.2.2 i0)), (1, .int p1), (3, .int v8)]) hx hb dX6_unwind_54 hl (k := 2) rfl (by rw [ex12]; rfl) (by decide) rfl (fun ls hl => ?_)
            refine lv_goto (tgt := 7) hx hb dX6_unwind_57 (by decide) ?_
            exact ih7_6 s11 x12 _ _ _ hz hw (lv_sub hl [1, 2, 0] rfl)
          refine lv_icmp_eq (tgt := 42) hx hb dX6_unwind_30 (by decide) (fun hc => ?_) (fun hc => ?_)
          · replace hz := u_ift hz hc
            exact WJ42_9 _ _ _ hz hw (lv_sub hl [1, 2, 3, 0] rfl)
          · replace hz := u_iff hz hc
            refine lv_iload_n hx hb dX6_unwind_33 rfl (lv_at hl 0 rfl) ?_
            obtain ⟨v13, hv13, hz⟩ := u_bind hz
            refine u_callSi (As := [.int v8]) (rest := []) cx hw LS_X6_80 (c_X6_rankOf l G N s4 v8 v13 hv13) (by decide) hl.1 rfl (Nat.le_of_ble_eq_true rfl) dX6_unwind_34 rfl (fun H locs hw => ?_)
            refine lv_iload_n hx hb dX6_unwind_37 rfl (lv_at hl 2 rfl) ?_
            refine lv_icmp_ge (tgt := 42) hx hb dX6_unwind_38 (by decide) (fun hc => ?_) (fun hc => ?_)
            · replace hz := u_ift hz hc
              exact WJ42_9 _ _ _ hz hw (lv_sub hl [1, 2, 3, 0] rfl)
            · replace hz := u_iff hz hc
              exact u_vret cx hw (Option.some.inj hz) dX6_unwind_41
  exact WL7_13 N σ x1 _ _ _ hz hw (lv_sub hl [1, 2, 0] rfl)
theorem dX6_worked_0 : decode cX6_worked 0 = .ok (.iconst 0, 1) := by decide +kernel
theorem dX6_worked_1 : decode cX6_worked 1 = .ok (.istore_n 1, 1) := by decide +kernel
theorem dX6_worked_2 : decode cX6_worked 2 = .ok (.iconst 0, 1) := by decide +kernel
theorem dX6_worked_3 : decode cX6_worked 3 = .ok (.istore_n 2, 1) := by decide +kernel
theorem dX6_worked_4 : decode cX6_worked 4 = .ok (.iload_n 2, 1) := by decide +kernel
theorem dX6_worked_5 : decode cX6_worked 5 = .ok (.aload_n 0, 1) := by decide +kernel
theorem dX6_worked_6 : decode cX6_worked 6 = .ok (.getfield 24, 3) := by decide +kernel
theorem dX6_worked_9 : decode cX6_worked 9 = .ok (.if_icmp .ge 135, 3) := by decide +kernel
theorem dX6_worked_12 : decode cX6_worked 12 = .ok (.iload_n 2, 1) := by decide +kernel
theorem dX6_worked_13 : decode cX6_worked 13 = .ok (.aload_n 0, 1) := by decide +kernel
theorem dX6_worked_14 : decode cX6_worked 14 = .ok (.getfield 9, 3) := by decide +kernel
theorem dX6_worked_17 : decode cX6_worked 17 = .ok (.arraylength, 1) := by decide +kernel
theorem dX6_worked_18 : decode cX6_worked 18 = .ok (.if_icmp .ge 126, 3) := by decide +kernel
theorem dX6_worked_21 : decode cX6_worked 21 = .ok (.iload_n 1, 1) := by decide +kernel
theorem dX6_worked_22 : decode cX6_worked 22 = .ok (.aload_n 0, 1) := by decide +kernel
theorem dX6_worked_23 : decode cX6_worked 23 = .ok (.getfield 18, 3) := by decide +kernel
theorem dX6_worked_26 : decode cX6_worked 26 = .ok (.arraylength, 1) := by decide +kernel
theorem dX6_worked_27 : decode cX6_worked 27 = .ok (.if_icmp .ge 117, 3) := by decide +kernel
theorem dX6_worked_30 : decode cX6_worked 30 = .ok (.aload_n 0, 1) := by decide +kernel
theorem dX6_worked_31 : decode cX6_worked 31 = .ok (.getfield 9, 3) := by decide +kernel
theorem dX6_worked_34 : decode cX6_worked 34 = .ok (.iload_n 2, 1) := by decide +kernel
theorem dX6_worked_35 : decode cX6_worked 35 = .ok (.iaload, 1) := by decide +kernel
theorem dX6_worked_36 : decode cX6_worked 36 = .ok (.istore_n 3, 1) := by decide +kernel
theorem dX6_worked_37 : decode cX6_worked 37 = .ok (.iload_n 3, 1) := by decide +kernel
theorem dX6_worked_38 : decode cX6_worked 38 = .ok (.ifCond .lt 35, 3) := by decide +kernel
theorem dX6_worked_41 : decode cX6_worked 41 = .ok (.aload_n 0, 1) := by decide +kernel
theorem dX6_worked_42 : decode cX6_worked 42 = .ok (.getfield 18, 3) := by decide +kernel
theorem dX6_worked_45 : decode cX6_worked 45 = .ok (.iload_n 1, 1) := by decide +kernel
theorem dX6_worked_46 : decode cX6_worked 46 = .ok (.iload_n 3, 1) := by decide +kernel
theorem dX6_worked_47 : decode cX6_worked 47 = .ok (.sipush 1000, 3) := by decide +kernel
theorem dX6_worked_50 : decode cX6_worked 50 = .ok (.if_icmp .ge 7, 3) := by decide +kernel
theorem dX6_worked_53 : decode cX6_worked 53 = .ok (.iload_n 3, 1) := by decide +kernel
theorem dX6_worked_54 : decode cX6_worked 54 = .ok (.goto 12, 3) := by decide +kernel
theorem dX6_worked_57 : decode cX6_worked 57 = .ok (.aload_n 0, 1) := by decide +kernel
theorem dX6_worked_58 : decode cX6_worked 58 = .ok (.iload_n 3, 1) := by decide +kernel
theorem dX6_worked_59 : decode cX6_worked 59 = .ok (.sipush 1000, 3) := by decide +kernel
theorem dX6_worked_62 : decode cX6_worked 62 = .ok (.isub, 1) := by decide +kernel
theorem dX6_worked_63 : decode cX6_worked 63 = .ok (.invokevirtual 124, 3) := by decide +kernel
theorem dX6_worked_66 : decode cX6_worked 66 = .ok (.iastore, 1) := by decide +kernel
theorem dX6_worked_67 : decode cX6_worked 67 = .ok (.iinc 1 1, 3) := by decide +kernel
theorem dX6_worked_70 : decode cX6_worked 70 = .ok (.goto 68, 3) := by decide +kernel
theorem dX6_worked_73 : decode cX6_worked 73 = .ok (.iload_n 3, 1) := by decide +kernel
theorem dX6_worked_74 : decode cX6_worked 74 = .ok (.bipush (-126), 2) := by decide +kernel
theorem dX6_worked_76 : decode cX6_worked 76 = .ok (.if_icmp .ne 27, 3) := by decide +kernel
theorem dX6_worked_79 : decode cX6_worked 79 = .ok (.iload_n 1, 1) := by decide +kernel
theorem dX6_worked_80 : decode cX6_worked 80 = .ok (.ifCond .le 23, 3) := by decide +kernel
theorem dX6_worked_83 : decode cX6_worked 83 = .ok (.aload_n 0, 1) := by decide +kernel
theorem dX6_worked_84 : decode cX6_worked 84 = .ok (.getfield 18, 3) := by decide +kernel
theorem dX6_worked_87 : decode cX6_worked 87 = .ok (.iload_n 1, 1) := by decide +kernel
theorem dX6_worked_88 : decode cX6_worked 88 = .ok (.iconst 1, 1) := by decide +kernel
theorem dX6_worked_89 : decode cX6_worked 89 = .ok (.isub, 1) := by decide +kernel
theorem dX6_worked_90 : decode cX6_worked 90 = .ok (.aload_n 0, 1) := by decide +kernel
theorem dX6_worked_91 : decode cX6_worked 91 = .ok (.getfield 18, 3) := by decide +kernel
theorem dX6_worked_94 : decode cX6_worked 94 = .ok (.iload_n 1, 1) := by decide +kernel
theorem dX6_worked_95 : decode cX6_worked 95 = .ok (.iconst 1, 1) := by decide +kernel
theorem dX6_worked_96 : decode cX6_worked 96 = .ok (.isub, 1) := by decide +kernel
theorem dX6_worked_97 : decode cX6_worked 97 = .ok (.iaload, 1) := by decide +kernel
theorem dX6_worked_98 : decode cX6_worked 98 = .ok (.ineg, 1) := by decide +kernel
theorem dX6_worked_99 : decode cX6_worked 99 = .ok (.iastore, 1) := by decide +kernel
theorem dX6_worked_100 : decode cX6_worked 100 = .ok (.goto 38, 3) := by decide +kernel
theorem dX6_worked_103 : decode cX6_worked 103 = .ok (.iload_n 1, 1) := by decide +kernel
theorem dX6_worked_104 : decode cX6_worked 104 = .ok (.iconst 1, 1) := by decide +kernel
theorem dX6_worked_105 : decode cX6_worked 105 = .ok (.if_icmp .le 33, 3) := by decide +kernel
theorem dX6_worked_108 : decode cX6_worked 108 = .ok (.iinc 1 (-1), 3) := by decide +kernel
theorem dX6_worked_111 : decode cX6_worked 111 = .ok (.aload_n 0, 1) := by decide +kernel
theorem dX6_worked_112 : decode cX6_worked 112 = .ok (.getfield 18, 3) := by decide +kernel
theorem dX6_worked_115 : decode cX6_worked 115 = .ok (.iload_n 1, 1) := by decide +kernel
theorem dX6_worked_116 : decode cX6_worked 116 = .ok (.iconst 1, 1) := by decide +kernel
theorem dX6_worked_117 : decode cX6_worked 117 = .ok (.isub, 1) := by decide +kernel
theorem dX6_worked_118 : decode cX6_worked 118 = .ok (.aload_n 0, 1) := by decide +kernel
theorem dX6_worked_119 : decode cX6_worked 119 = .ok (.getfield 18, 3) := by decide +kernel
theorem dX6_worked_122 : decode cX6_worked 122 = .ok (.iload_n 1, 1) := by decide +kernel
theorem dX6_worked_123 : decode cX6_worked 123 = .ok (.iconst 1, 1) := by decide +kernel
theorem dX6_worked_124 : decode cX6_worked 124 = .ok (.isub, 1) := by decide +kernel
theorem dX6_worked_125 : decode cX6_worked 125 = .ok (.iaload, 1) := by decide +kernel
theorem dX6_worked_126 : decode cX6_worked 126 = .ok (.iload_n 3, 1) := by decide +kernel
theorem dX6_worked_127 : decode cX6_worked 127 = .ok (.ineg, 1) := by decide +kernel
theorem dX6_worked_128 : decode cX6_worked 128 = .ok (.aload_n 0, 1) := by decide +kernel
theorem dX6_worked_129 : decode cX6_worked 129 = .ok (.getfield 18, 3) := by decide +kernel
theorem dX6_worked_132 : decode cX6_worked 132 = .ok (.iload_n 1, 1) := by decide +kernel
theorem dX6_worked_133 : decode cX6_worked 133 = .ok (.iaload, 1) := by decide +kernel
theorem dX6_worked_134 : decode cX6_worked 134 = .ok (.invokestatic 127, 3) := by decide +kernel
theorem dX6_worked_137 : decode cX6_worked 137 = .ok (.iastore, 1) := by decide +kernel
theorem dX6_worked_138 : decode cX6_worked 138 = .ok (.iinc 2 1, 3) := by decide +kernel
theorem dX6_worked_141 : decode cX6_worked 141 = .ok (.goto (-137), 3) := by decide +kernel
theorem dX6_worked_144 : decode cX6_worked 144 = .ok (.aload_n 0, 1) := by decide +kernel
theorem dX6_worked_145 : decode cX6_worked 145 = .ok (.getfield 18, 3) := by decide +kernel
theorem dX6_worked_148 : decode cX6_worked 148 = .ok (.iconst 0, 1) := by decide +kernel
theorem dX6_worked_149 : decode cX6_worked 149 = .ok (.iaload, 1) := by decide +kernel
theorem dX6_worked_150 : decode cX6_worked 150 = .ok (.ireturn, 1) := by decide +kernel
def b_X6_worked_4 (N : Nat) (i0 : Nat) (J144_2 : uS → Option (Int32 × uS)) (rec4_7 : uS → Int32 → Int32 → Option (Int32 × uS)) (s4 : uS) (x5 : Int32) (x6 : Int32) : Option (Int32 × uS) :=
  if (s4.1 i0 4) ≤ x6 then (J144_2 s4) else ((u_len ZC (i0 + 1)).bind fun v8 =>
  if v8 ≤ x6 then (J144_2 s4) else ((u_len ZC (i0 + 3)).bind fun v9 =>
  if v9 ≤ x5 then (J144_2 s4) else ((u_rI ZC s4 0 (i0 + 1) x6).bind fun v10 =>
  u_jn (fun (s11 : uS) (x12 : Int32) => (u_jn (x6 + 1 : Int32) fun x14 =>
  rec4_7 s11 x12 x14 : Option (Int32 × uS))) fun J138_13 =>
  if v10 < 0 then (u_jn ((if x5 ≤ 1 then (J138_13 s4 x5) else (u_jn (x5 + (-1) : Int32) fun x16 =>
  (u_rI ZC s4 0 (i0 + 3) (x16 - 1)).bind fun v17 =>
  (u_rI ZC s4 0 (i0 + 3) x16).bind fun v18 =>
  (f_X6_joined N s4 v17 (-v10) v18).bind fun v19 =>
  (u_wI ZC s4 0 (i0 + 3) (x16 - 1) v19).bind fun s20 =>
  J138_13 s20 x16) : Option (Int32 × uS))) fun J103_15 =>
  if v10 = (-126) then (if x5 ≤ 0 then (J103_15) else ((u_rI ZC s4 0 (i0 + 3) (x5 - 1)).bind fun v21 =>
  (u_wI ZC s4 0 (i0 + 3) (x5 - 1) (-v21)).bind fun s22 =>
  J138_13 s22 x5)) else (J103_15)) else (u_jn (fun (t23 : Int32) => ((u_wI ZC s4 0 (i0 + 3) x5 t23).bind fun s25 =>
  u_jn (x5 + 1 : Int32) fun x26 =>
  J138_13 s25 x26 : Option (Int32 × uS))) fun J66_24 =>
  if 1000 ≤ v10 then ((f_X6_thing N s4 i0 (v10 - 1000)).bind fun v27 =>
  J66_24 v27) else (J66_24 v10)))))
def f_X6_worked (N : Nat) (σ : uS) (i0 : Nat) : Option (Int32 × uS) := u_jn (fun (s1 : uS) => ((u_rI ZC s1 0 (i0 + 3) 0).bind fun v3 =>
  some (v3, s1) : Option (Int32 × uS))) fun J144_2 =>
  u_lp3 (b_X6_worked_4 N i0 J144_2) N σ 0 0
set_option maxRecDepth 100000 in
set_option maxHeartbeats 4000000 in
theorem c_X6_worked (l : Launch) (G : uG) (N : Nat) (σ : uS) (i0 : Nat) (oi0 : u_o ZC i0 5 11 (k_R i0)) (z : (Int32 × uS)) (hz : f_X6_worked N σ i0 = some z) : u_Mi l ZC G yX6_worked cX6_worked 4 .int 1 [.ref (G.2.2 i0)] σ z.1 z.2 := by
  refine u_Mi_of RX6 (by decide) rfl (Nat.le_of_ble_eq_true rfl) ?_
  intro p e s m args below meth c ls cx hw hl
  have hx := cx.1
  have hb := cx.2.1
  have hl : lv_has ls 4 [(0, .ref (G.2.2 i0))] := hl
  unfold f_X6_worked at hz
  refine lv_iconst (v := 0) hx hb dX6_worked_0 (by decide) ?_
  refine lv_istore_n (lv' := [(1, .int 0), (0, .ref (G.2.2 i0))]) hx hb dX6_worked_1 rfl hl (by decide) rfl (fun ls hl => ?_)
  refine lv_iconst (v := 0) hx hb dX6_worked_2 (by decide) ?_
  refine lv_istore_n (lv' := [(2, .int 0), (1, .int 0), (0, .ref (G.2.2 i0))]) hx hb dX6_worked_3 rfl hl (by decide) rfl (fun ls hl => ?_)
  obtain ⟨J144_2, eJ144_2, hz⟩ := u_let hz
  have WJ144_2 : ∀ (s1 : uS) (H : Heap) (locs : List Loc) (ls : Array Slot), J144_2 s1 = some z → u_W ZC G s1 s H locs → lv_has ls 4 [(0, .ref (G.2.2 i0))] → W p l e (u_rm 1) s m args below meth c H locs 0 0 (u_Qi below ZC G s args z.1 z.2) (F0 m 144 ls []) := by
    intro s1 H locs ls hz hw hl
    rw [eJ144_2] at hz
    refine lv_aload_n hx hb dX6_worked_144 rfl (lv_at hl 0 rfl) ?_
    refine u_getp cx hw F_X6_18 oi0 rfl dX6_worked_145 ?_
    refine lv_iconst (v := 0) hx hb dX6_worked_148 (by decide) ?_
    obtain ⟨v3, hv3, hz⟩ := u_bind hz
    refine u_iald cx hw hv3 dX6_worked_149 ?_
    exact u_iret cx hw (u_pair hz) dX6_worked_150
  have WL4_27 : ∀ (k : Nat) (s4 : uS) (x5 : Int32) (x6 : Int32) (H : Heap) (locs : List Loc) (ls : Array Slot), u_lp3 (b_X6_worked_4 N i0 J144_2) k s4 x5 x6 = some z → u_W ZC G s4 s H locs → lv_has ls 4 [(0, .ref (G.2.2 i0)), (1, .int x5), (2, .int x6)] → W p l e (u_rm 1) s m args below meth c H locs 0 0 (u_Qi below ZC G s args z.1 z.2) (F0 m 4 ls []) := by
    intro k
    induction k with
    | zero =>
      intro s4 x5 x6 H locs ls hz
      exact absurd hz (by intro h9; cases h9)
    | succ k ih4_7 =>
      intro s4 x5 x6 H locs ls hz hw hl
      have hz : (b_X6_worked_4 N i0 J144_2) (u_lp3 (b_X6_worked_4 N i0 J144_2) k) s4 x5 x6 = some z := hz
      unfold b_X6_worked_4 at hz
      refine lv_iload_n hx hb dX6_worked_4 rfl (lv_at hl 2 rfl) ?_
      refine lv_aload_n hx hb dX6_worked_5 rfl (lv_at hl 0 rfl) ?_
      refine u_geti cx hw F_X6_24 oi0 rfl dX6_worked_6 ?_
      refine lv_icmp_ge (tgt := 144) hx hb dX6_worked_9 (by decide) (fun hc => ?_) (fun hc => ?_)
      · replace hz := u_ift hz hc
        exact WJ144_2 s4 _ _ _ hz hw (lv_sub hl [0] rfl)
      · replace hz := u_iff hz hc
        refine lv_iload_n hx hb dX6_worked_12 rfl (lv_at hl 2 rfl) ?_
        refine lv_aload_n hx hb dX6_worked_13 rfl (lv_at hl 0 rfl) ?_
        refine u_getp cx hw F_X6_9 oi0 rfl dX6_worked_14 ?_
        obtain ⟨v8, hv8, hz⟩ := u_bind hz
        refine u_alen cx hw hv8 dX6_worked_17 ?_
        refine lv_icmp_ge (tgt := 144) hx hb dX6_worked_18 (by decide) (fun hc => ?_) (fun hc => ?_)
        · replace hz := u_ift hz hc
          exact WJ144_2 s4 _ _ _ hz hw (lv_sub hl [0] rfl)
        · replace hz := u_iff hz hc
          refine lv_iload_n hx hb dX6_worked_21 rfl (lv_at hl 1 rfl) ?_
          refine lv_aload_n hx hb dX6_worked_22 rfl (lv_at hl 0 rfl) ?_
          refine u_getp cx hw F_X6_18 oi0 rfl dX6_worked_23 ?_
          obtain ⟨v9, hv9, hz⟩ := u_bind hz
          refine u_alen cx hw hv9 dX6_worked_26 ?_
          refine lv_icmp_ge (tgt := 144) hx hb dX6_worked_27 (by decide) (fun hc => ?_) (fun hc => ?_)
          · replace hz := u_ift hz hc
            exact WJ144_2 s4 _ _ _ hz hw (lv_sub hl [0] rfl)
          · replace hz := u_iff hz hc
            refine lv_aload_n hx hb dX6_worked_30 rfl (lv_at hl 0 rfl) ?_
            refine u_getp cx hw F_X6_9 oi0 rfl dX6_worked_31 ?_
            refine lv_iload_n hx hb dX6_worked_34 rfl (lv_at hl 2 rfl) ?_
            obtain ⟨v10, hv10, hz⟩ := u_bind hz
            refine u_iald cx hw hv10 dX6_worked_35 ?_
            refine lv_istore_n (lv' := [(3, .int v10), (0, .ref (G.2.2 i0)), (1, .int x5), (2, .int x6)]) hx hb dX6_worked_36 rfl hl (by decide) rfl (fun ls hl => ?_)
            refine lv_iload_n hx hb dX6_worked_37 rfl (lv_at hl 0 rfl) ?_
            obtain ⟨J138_13, eJ138_13, hz⟩ := u_let hz
            have WJ138_13 : ∀ (s11 : uS) (x12 : Int32) (H : Heap) (locs : List Loc) (ls : Array Slot), J138_13 s11 x12 = some z → u_W ZC G s11 s H locs → lv_has ls 4 [(0, .ref (G.2.2 i0)), (1, .int x12), (2, .int x6)] → W p l e (u_rm 1) s m args below meth c H locs 0 0 (u_Qi below ZC G s args z.1 z.2) (F0 m 138 ls []) := by
              intro s11 x12 H locs ls hz hw hl
              rw [eJ138_13] at hz
              obtain ⟨x14, ex14, hz⟩ := u_let hz
              refine lv_iinc (v := x14) (lv' := [(2, .int x14), (0, .ref (G.2.2 i0)), (1, .int x12)]) hx hb dX6_worked_138 hl (k := 2) rfl (by rw [ex14]; rfl) (by decide) rfl (fun ls hl => ?_)
              refine lv_goto (tgt := 4) hx hb dX6_worked_141 (by decide) ?_
              exact ih4_7 s11 x12 x14 _ _ _ hz hw (lv_sub hl [1, 2, 0] rfl)
            refine lv_if_lt (tgt := 73) hx hb dX6_worked_38 (by decide) (fun hc => ?_) (fun hc => ?_)
            · replace hz := u_ift hz hc
              refine lv_iload_n hx hb dX6_worked_73 rfl (lv_at hl 0 rfl) ?_
              refine lv_bipush (v := (-126)) hx hb dX6_worked_74 (by decide) ?_
              obtain ⟨J103_15, eJ103_15, hz⟩ := u_let hz
              have WJ103_15 : ∀ (H : Heap) (locs : List Loc) (ls : Array Slot), J103_15 = some z → u_W ZC G s4 s H locs → lv_has ls 4 [(0, .ref (G.2.2 i0)), (1, .int x5), (2, .int x6), (3, .int v10)] → W p l e (u_rm 1) s m args below meth c H locs 0 0 (u_Qi below ZC G s args z.1 z.2) (F0 m 103 ls []) := by
                intro H locs ls hz hw hl
                rw [eJ103_15] at hz
                refine lv_iload_n hx hb dX6_worked_103 rfl (lv_at hl 1 rfl) ?_
                refine lv_iconst (v := 1) hx hb dX6_worked_104 (by decide) ?_
                refine lv_icmp_le (tgt := 138) hx hb dX6_worked_105 (by decide) (fun hc => ?_) (fun hc => ?_)
                · replace hz := u_ift hz hc
                  exact WJ138_13 s4 x5 _ _ _ hz hw (lv_sub hl [0, 1, 2] rfl)
                · replace hz := u_iff hz hc
                  obtain ⟨x16, ex16, hz⟩ := u_let hz
                  refine lv_iinc (v := x16) (lv' := [(1, .int x16), (0, .ref (G.2.2 i0)), (2, .int x6), (3, .int v10)]) hx hb dX6_worked_108 hl (k := 1) rfl (by rw [ex16]; rfl) (by decide) rfl (fun ls hl => ?_)
                  refine lv_aload_n hx hb dX6_worked_111 rfl (lv_at hl 1 rfl) ?_
                  refine u_getp cx hw F_X6_18 oi0 rfl dX6_worked_112 ?_
                  refine lv_iload_n hx hb dX6_worked_115 rfl (lv_at hl 0 rfl) ?_
                  refine lv_iconst (v := 1) hx hb dX6_worked_116 (by decide) ?_
                  refine lv_isub hx hb dX6_worked_117 ?_
                  refine lv_aload_n hx hb dX6_worked_118 rfl (lv_at hl 1 rfl) ?_
                  refine u_getp cx hw F_X6_18 oi0 rfl dX6_worked_119 ?_
                  refine lv_iload_n hx hb dX6_worked_122 rfl (lv_at hl 0 rfl) ?_
                  refine lv_iconst (v := 1) hx hb dX6_worked_123 (by decide) ?_
                  refine lv_isub hx hb dX6_worked_124 ?_
                  obtain ⟨v17, hv17, hz⟩ := u_bind hz
                  refine u_iald cx hw hv17 dX6_worked_125 ?_
                  refine lv_iload_n hx hb dX6_worked_126 rfl (lv_at hl 3 rfl) ?_
                  refine lv_ineg hx hb dX6_worked_127 ?_
                  refine lv_aload_n hx hb dX6_worked_128 rfl (lv_at hl 1 rfl) ?_
                  refine u_getp cx hw F_X6_18 oi0 rfl dX6_worked_129 ?_
                  refine lv_iload_n hx hb dX6_worked_132 rfl (lv_at hl 0 rfl) ?_
                  obtain ⟨v18, hv18, hz⟩ := u_bind hz
                  refine u_iald cx hw hv18 dX6_worked_133 ?_
                  obtain ⟨v19, hv19, hz⟩ := u_bind hz
                  refine u_callSi (As := [.int v17, .int (-v10), .int v18]) (rest := [.int (x16 - 1), .ref (G.2.2 (i0 + 3))]) cx hw LS_X6_127 (c_X6_joined l G N s4 v17 (-v10) v18 v19 hv19) (by decide) hl.1 rfl (Nat.le_of_ble_eq_true rfl) dX6_worked_134 rfl (fun H locs hw => ?_)
                  obtain ⟨s20, hs20, hz⟩ := u_bind hz
                  refine u_iast cx hw hs20 dX6_worked_137 (fun H locs hw => ?_)
                  exact WJ138_13 s20 x16 _ _ _ hz hw (lv_sub hl [1, 0, 2] rfl)
              refine lv_icmp_ne (tgt := 103) hx hb dX6_worked_76 (by decide) (fun hc => ?_) (fun hc => ?_)
              · replace hz := u_iff hz hc
                exact WJ103_15 _ _ _ hz hw (lv_sub hl [1, 2, 3, 0] rfl)
              · replace hz := u_ift hz hc
                refine lv_iload_n hx hb dX6_worked_79 rfl (lv_at hl 2 rfl) ?_
                refine lv_if_le (tgt := 103) hx hb dX6_worked_80 (by decide) (fun hc => ?_) (fun hc => ?_)
                · replace hz := u_ift hz hc
                  exact WJ103_15 _ _ _ hz hw (lv_sub hl [1, 2, 3, 0] rfl)
                · replace hz := u_iff hz hc
                  refine lv_aload_n hx hb dX6_worked_83 rfl (lv_at hl 1 rfl) ?_
                  refine u_getp cx hw F_X6_18 oi0 rfl dX6_worked_84 ?_
                  refine lv_iload_n hx hb dX6_worked_87 rfl (lv_at hl 2 rfl) ?_
                  refine lv_iconst (v := 1) hx hb dX6_worked_88 (by decide) ?_
                  refine lv_isub hx hb dX6_worked_89 ?_
                  refine lv_aload_n hx hb dX6_worked_90 rfl (lv_at hl 1 rfl) ?_
                  refine u_getp cx hw F_X6_18 oi0 rfl dX6_worked_91 ?_
                  refine lv_iload_n hx hb dX6_worked_94 rfl (lv_at hl 2 rfl) ?_
                  refine lv_iconst (v := 1) hx hb dX6_worked_95 (by decide) ?_
                  refine lv_isub hx hb dX6_worked_96 ?_
                  obtain ⟨v21, hv21, hz⟩ := u_bind hz
                  refine u_iald cx hw hv21 dX6_worked_97 ?_
                  refine lv_ineg hx hb dX6_worked_98 ?_
                  obtain ⟨s22, hs22, hz⟩ := u_bind hz
                  refine u_iast cx hw hs22 dX6_worked_99 (fun H locs hw => ?_)
                  refine lv_goto (tgt := 138) hx hb dX6_worked_100 (by decide) ?_
                  exact WJ138_13 s22 x5 _ _ _ hz hw (lv_sub hl [1, 2, 3] rfl)
            · replace hz := u_iff hz hc
              refine lv_aload_n hx hb dX6_worked_41 rfl (lv_at hl 1 rfl) ?_
              refine u_getp cx hw F_X6_18 oi0 rfl dX6_worked_42 ?_
              refine lv_iload_n hx hb dX6_worked_45 rfl (lv_at hl 2 rfl) ?_
              refine lv_iload_n hx hb dX6_worked_46 rfl (lv_at hl 0 rfl) ?_
              refine lv_sipush (v := 1000) hx hb dX6_worked_47 (by decide) ?_
              obtain ⟨J66_24, eJ66_24, hz⟩ := u_let hz
              have WJ66_24 : ∀ (t23 : Int32) (H : Heap) (locs : List Loc) (ls : Array Slot), J66_24 t23 = some z → u_W ZC G s4 s H locs → lv_has ls 4 [(0, .ref (G.2.2 i0)), (1, .int x5), (2, .int x6)] → W p l e (u_rm 1) s m args below meth c H locs 0 0 (u_Qi below ZC G s args z.1 z.2) (F0 m 66 ls [.int t23, .int x5, .ref (G.2.2 (i0 + 3))]) := by
                intro t23 H locs ls hz hw hl
                rw [eJ66_24] at hz
                obtain ⟨s25, hs25, hz⟩ := u_bind hz
                refine u_iast cx hw hs25 dX6_worked_66 (fun H locs hw => ?_)
                obtain ⟨x26, ex26, hz⟩ := u_let hz
                refine lv_iinc (v := x26) (lv' := [(1, .int x26), (0, .ref (G.2.2 i0)), (2, .int x6)]) hx hb dX6_worked_67 hl (k := 1) rfl (by rw [ex26]; rfl) (by decide) rfl (fun ls hl => ?_)
                refine lv_goto (tgt := 138) hx hb dX6_worked_70 (by decide) ?_
                exact WJ138_13 s25 x26 _ _ _ hz hw (lv_sub hl [1, 0, 2] rfl)
              refine lv_icmp_ge (tgt := 57) hx hb dX6_worked_50 (by decide) (fun hc => ?_) (fun hc => ?_)
              · replace hz := u_ift hz hc
                refine lv_aload_n hx hb dX6_worked_57 rfl (lv_at hl 1 rfl) ?_
                refine lv_iload_n hx hb dX6_worked_58 rfl (lv_at hl 0 rfl) ?_
                refine lv_sipush (v := 1000) hx hb dX6_worked_59 (by decide) ?_
                refine lv_isub hx hb dX6_worked_62 ?_
                obtain ⟨v27, hv27, hz⟩ := u_bind hz
                refine u_callVi (As := [.int (v10 - 1000)]) (rest := [.int x5, .ref (G.2.2 (i0 + 3))]) cx hw LV_X6_124 (c_X6_thing l G N s4 i0 oi0 (v10 - 1000) v27 hv27) oi0 rfl (by decide) hl.1 rfl (Nat.le_of_ble_eq_true rfl) dX6_worked_63 rfl (fun H locs hw => ?_)
                exact WJ66_24 v27 _ _ _ hz hw (lv_sub hl [1, 2, 3] rfl)
              · replace hz := u_iff hz hc
                refine lv_iload_n hx hb dX6_worked_53 rfl (lv_at hl 0 rfl) ?_
                refine lv_goto (tgt := 66) hx hb dX6_worked_54 (by decide) ?_
                exact WJ66_24 v10 _ _ _ hz hw (lv_sub hl [1, 2, 3] rfl)
  exact WL4_27 N σ 0 0 _ _ _ hz hw (lv_sub hl [2, 1, 0] rfl)
