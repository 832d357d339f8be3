theorem dX11_fillChances_0 : decode cX11_fillChances 0 = .ok (.iconst 0, 1) := by decide +kernel
theorem dX11_fillChances_1 : decode cX11_fillChances 1 = .ok (.istore_n 3, 1) := by decide +kernel
theorem dX11_fillChances_2 : decode cX11_fillChances 2 = .ok (.iload_n 3, 1) := by decide +kernel
theorem dX11_fillChances_3 : decode cX11_fillChances 3 = .ok (.aload_n 0, 1) := by decide +kernel
theorem dX11_fillChances_4 : decode cX11_fillChances 4 = .ok (.getfield 75, 3) := by decide +kernel
theorem dX11_fillChances_7 : decode cX11_fillChances 7 = .ok (.arraylength, 1) := by decide +kernel
theorem dX11_fillChances_8 : decode cX11_fillChances 8 = .ok (.if_icmp .ge 24, 3) := by decide +kernel
theorem dX11_fillChances_11 : decode cX11_fillChances 11 = .ok (.aload_n 0, 1) := by decide +kernel
theorem dX11_fillChances_12 : decode cX11_fillChances 12 = .ok (.getfield 75, 3) := by decide +kernel
theorem dX11_fillChances_15 : decode cX11_fillChances 15 = .ok (.iload_n 3, 1) := by decide +kernel
theorem dX11_fillChances_16 : decode cX11_fillChances 16 = .ok (.iload_n 3, 1) := by decide +kernel
theorem dX11_fillChances_17 : decode cX11_fillChances 17 = .ok (.ifCond .ne 7, 3) := by decide +kernel
theorem dX11_fillChances_20 : decode cX11_fillChances 20 = .ok (.lconst 1, 1) := by decide +kernel
theorem dX11_fillChances_21 : decode cX11_fillChances 21 = .ok (.goto 4, 3) := by decide +kernel
theorem dX11_fillChances_24 : decode cX11_fillChances 24 = .ok (.lconst 0, 1) := by decide +kernel
theorem dX11_fillChances_25 : decode cX11_fillChances 25 = .ok (.lastore, 1) := by decide +kernel
theorem dX11_fillChances_26 : decode cX11_fillChances 26 = .ok (.iinc 3 1, 3) := by decide +kernel
theorem dX11_fillChances_29 : decode cX11_fillChances 29 = .ok (.goto (-27), 3) := by decide +kernel
theorem dX11_fillChances_32 : decode cX11_fillChances 32 = .ok (.iconst 1, 1) := by decide +kernel
theorem dX11_fillChances_33 : decode cX11_fillChances 33 = .ok (.istore_n 3, 1) := by decide +kernel
theorem dX11_fillChances_34 : decode cX11_fillChances 34 = .ok (.iload_n 3, 1) := by decide +kernel
theorem dX11_fillChances_35 : decode cX11_fillChances 35 = .ok (.iload_n 1, 1) := by decide +kernel
theorem dX11_fillChances_36 : decode cX11_fillChances 36 = .ok (.if_icmp .gt 76, 3) := by decide +kernel
theorem dX11_fillChances_39 : decode cX11_fillChances 39 = .ok (.aload_n 0, 1) := by decide +kernel
theorem dX11_fillChances_40 : decode cX11_fillChances 40 = .ok (.getfield 75, 3) := by decide +kernel
theorem dX11_fillChances_43 : decode cX11_fillChances 43 = .ok (.arraylength, 1) := by decide +kernel
theorem dX11_fillChances_44 : decode cX11_fillChances 44 = .ok (.iconst 1, 1) := by decide +kernel
theorem dX11_fillChances_45 : decode cX11_fillChances 45 = .ok (.isub, 1) := by decide +kernel
theorem dX11_fillChances_46 : decode cX11_fillChances 46 = .ok (.istore 4, 2) := by decide +kernel
theorem dX11_fillChances_48 : decode cX11_fillChances 48 = .ok (.iload 4, 2) := by decide +kernel
theorem dX11_fillChances_50 : decode cX11_fillChances 50 = .ok (.ifCond .le 42, 3) := by decide +kernel
theorem dX11_fillChances_53 : decode cX11_fillChances 53 = .ok (.aload_n 0, 1) := by decide +kernel
theorem dX11_fillChances_54 : decode cX11_fillChances 54 = .ok (.getfield 75, 3) := by decide +kernel
theorem dX11_fillChances_57 : decode cX11_fillChances 57 = .ok (.iload 4, 2) := by decide +kernel
theorem dX11_fillChances_59 : decode cX11_fillChances 59 = .ok (.aload_n 0, 1) := by decide +kernel
theorem dX11_fillChances_60 : decode cX11_fillChances 60 = .ok (.getfield 75, 3) := by decide +kernel
theorem dX11_fillChances_63 : decode cX11_fillChances 63 = .ok (.iload 4, 2) := by decide +kernel
theorem dX11_fillChances_65 : decode cX11_fillChances 65 = .ok (.laload, 1) := by decide +kernel
theorem dX11_fillChances_66 : decode cX11_fillChances 66 = .ok (.bipush 10, 2) := by decide +kernel
theorem dX11_fillChances_68 : decode cX11_fillChances 68 = .ok (.iload_n 2, 1) := by decide +kernel
theorem dX11_fillChances_69 : decode cX11_fillChances 69 = .ok (.isub, 1) := by decide +kernel
theorem dX11_fillChances_70 : decode cX11_fillChances 70 = .ok (.i2l, 1) := by decide +kernel
theorem dX11_fillChances_71 : decode cX11_fillChances 71 = .ok (.lmul, 1) := by decide +kernel
theorem dX11_fillChances_72 : decode cX11_fillChances 72 = .ok (.aload_n 0, 1) := by decide +kernel
theorem dX11_fillChances_73 : decode cX11_fillChances 73 = .ok (.getfield 75, 3) := by decide +kernel
theorem dX11_fillChances_76 : decode cX11_fillChances 76 = .ok (.iload 4, 2) := by decide +kernel
theorem dX11_fillChances_78 : decode cX11_fillChances 78 = .ok (.iconst 1, 1) := by decide +kernel
theorem dX11_fillChances_79 : decode cX11_fillChances 79 = .ok (.isub, 1) := by decide +kernel
theorem dX11_fillChances_80 : decode cX11_fillChances 80 = .ok (.laload, 1) := by decide +kernel
theorem dX11_fillChances_81 : decode cX11_fillChances 81 = .ok (.iload_n 2, 1) := by decide +kernel
theorem dX11_fillChances_82 : decode cX11_fillChances 82 = .ok (.i2l, 1) := by decide +kernel
theorem dX11_fillChances_83 : decode cX11_fillChances 83 = .ok (.lmul, 1) := by decide +kernel
theorem dX11_fillChances_84 : decode cX11_fillChances 84 = .ok (.ladd, 1) := by decide +kernel
theorem dX11_fillChances_85 : decode cX11_fillChances 85 = .ok (.lastore, 1) := by decide +kernel
theorem dX11_fillChances_86 : decode cX11_fillChances 86 = .ok (.iinc 4 (-1), 3) := by decide +kernel
theorem dX11_fillChances_89 : decode cX11_fillChances 89 = .ok (.goto (-41), 3) := by decide +kernel
theorem dX11_fillChances_92 : decode cX11_fillChances 92 = .ok (.aload_n 0, 1) := by decide +kernel
theorem dX11_fillChances_93 : decode cX11_fillChances 93 = .ok (.getfield 75, 3) := by decide +kernel
theorem dX11_fillChances_96 : decode cX11_fillChances 96 = .ok (.iconst 0, 1) := by decide +kernel
theorem dX11_fillChances_97 : decode cX11_fillChances 97 = .ok (.dup2, 1) := by decide +kernel
theorem dX11_fillChances_98 : decode cX11_fillChances 98 = .ok (.laload, 1) := by decide +kernel
theorem dX11_fillChances_99 : decode cX11_fillChances 99 = .ok (.bipush 10, 2) := by decide +kernel
theorem dX11_fillChances_101 : decode cX11_fillChances 101 = .ok (.iload_n 2, 1) := by decide +kernel
theorem dX11_fillChances_102 : decode cX11_fillChances 102 = .ok (.isub, 1) := by decide +kernel
theorem dX11_fillChances_103 : decode cX11_fillChances 103 = .ok (.i2l, 1) := by decide +kernel
theorem dX11_fillChances_104 : decode cX11_fillChances 104 = .ok (.lmul, 1) := by decide +kernel
theorem dX11_fillChances_105 : decode cX11_fillChances 105 = .ok (.lastore, 1) := by decide +kernel
theorem dX11_fillChances_106 : decode cX11_fillChances 106 = .ok (.iinc 3 1, 3) := by decide +kernel
theorem dX11_fillChances_109 : decode cX11_fillChances 109 = .ok (.goto (-75), 3) := by decide +kernel
theorem dX11_fillChances_112 : decode cX11_fillChances 112 = .ok (.return_, 1) := by decide +kernel
def b_X11_fillChances_48 (p2 : Int32) (J92_11 : uS → Option uS) (rec48_17 : uS → Int32 → Option uS) (s15 : uS) (x16 : Int32) : Option uS :=
  if x16 ≤ 0 then (J92_11 s15) else ((u_rL ZC s15 20 x16).bind fun v18 =>
  (u_rL ZC s15 20 (x16 - 1)).bind fun v19 =>
  (u_wL ZC s15 20 x16 ((v18 * (Int32.toInt64 (10 - p2))) + (v19 * (Int32.toInt64 p2)))).bind fun s20 =>
  u_jn (x16 + (-1) : Int32) fun x21 =>
  rec48_17 s20 x21)
def b_X11_fillChances_34 (N : Nat) (p1 : Int32) (p2 : Int32) (J112_4 : uS → Option uS) (rec34_7 : uS → Int32 → Option uS) (s5 : uS) (x6 : Int32) : Option uS :=
  if p1 < x6 then (J112_4 s5) else ((u_len ZC 20).bind fun v8 =>
  u_jn ((v8 - 1) : Int32) fun x9 =>
  u_jn (fun (s10 : uS) => ((u_rL ZC s10 20 0).bind fun v12 =>
  (u_wL ZC s10 20 0 (v12 * (Int32.toInt64 (10 - p2)))).bind fun s13 =>
  u_jn (x6 + 1 : Int32) fun x14 =>
  rec34_7 s13 x14 : Option uS)) fun J92_11 =>
  u_lp2 (b_X11_fillChances_48 p2 J92_11) N s5 x9)
def b_X11_fillChances_2 (J32_2 : uS → Option uS) (rec2_24 : uS → Int32 → Option uS) (s22 : uS) (x23 : Int32) : Option uS :=
  (u_len ZC 20).bind fun v25 =>
  if v25 ≤ x23 then (J32_2 s22) else (u_jn (fun (t26 : Int64) => ((u_wL ZC s22 20 x23 t26).bind fun s28 =>
  u_jn (x23 + 1 : Int32) fun x29 =>
  rec2_24 s28 x29 : Option uS)) fun J25_27 =>
  if x23 = 0 then (J25_27 1) else (J25_27 0))
def f_X11_fillChances (N : Nat) (σ : uS) (p1 : Int32) (p2 : Int32) : Option uS := u_jn (fun (s1 : uS) => (u_jn (fun (s3 : uS) => (some s3 : Option uS)) fun J112_4 =>
  u_lp2 (b_X11_fillChances_34 N p1 p2 J112_4) N s1 1 : Option uS)) fun J32_2 =>
  u_lp2 (b_X11_fillChances_2 J32_2) N σ 0
set_option maxRecDepth 100000 in
set_option maxHeartbeats 4000000 in
theorem c_X11_fillChances (l : Launch) (G : uG) (N : Nat) (σ : uS) (p1 : Int32) (p2 : Int32) (z : uS) (hz : f_X11_fillChances N σ p1 p2 = some z) : u_Mv l ZC G yX11_fillChances cX11_fillChances 5 0 [.ref (G.2.2 0), .int p1, .int p2] σ z := by
  refine u_Mv_of RX11 (by decide) rfl (Nat.le_of_ble_eq_true rfl) ?_
  intro p e s m args below meth c ls cx hw hl
  have hx := cx.1
  have hb := cx.2.1
  have hl : lv_has ls 5 [(0, .ref (G.2.2 0)), (1, .int p1), (2, .int p2)] := hl
  unfold f_X11_fillChances at hz
  refine lv_iconst (v := 0) hx hb dX11_fillChances_0 (by decide) ?_
  refine lv_istore_n (lv' := [(3, .int 0), (0, .ref (G.2.2 0)), (1, .int p1), (2, .int p2)]) hx hb dX11_fillChances_1 rfl hl (by decide) rfl (fun ls hl => ?_)
  obtain ⟨J32_2, eJ32_2, hz⟩ := u_let hz
  have WJ32_2 : ∀ (s1 : uS) (H : Heap) (locs : List Loc) (ls : Array Slot), J32_2 s1 = some z → u_W ZC G s1 s H locs → lv_has ls 5 [(0, .ref (G.2.2 0)), (1, .int p1), (2, .int p2)] → W p l e (u_rm 0) s m args below meth c H locs 0 0 (u_Qv below ZC G s args z) (F0 m 32 ls []) := by
    intro s1 H locs ls hz hw hl
    rw [eJ32_2] at hz
    refine lv_iconst (v := 1) hx hb dX11_fillChances_32 (by decide) ?_
    refine lv_istore_n (lv' := [(3, .int 1), (0, .ref (G.2.2 0)), (1, .int p1), (2, .int p2)]) hx hb dX11_fillChances_33 rfl hl (by decide) rfl (fun ls hl => ?_)
    obtain ⟨J112_4, eJ112_4, hz⟩ := u_let hz
    have WJ112_4 : ∀ (s3 : uS) (H : Heap) (locs : List Loc) (ls : Array Slot), J112_4 s3 = some z → u_W ZC G s3 s H locs → lv_has ls 5 [] → W p l e (u_rm 0) s m args below meth c H locs 0 0 (u_Qv below ZC G s args z) (F0 m 112 ls []) := by
      intro s3 H locs ls hz hw hl
      rw [eJ112_4] at hz
      exact u_vret cx hw (Option.some.inj hz) dX11_fillChances_112
    have WL34_21 : ∀ (k : Nat) (s5 : uS) (x6 : Int32) (H : Heap) (locs : List Loc) (ls : Array Slot), u_lp2 (b_X11_fillChances_34 N p1 p2 J112_4) k s5 x6 = some z → u_W ZC G s5 s H locs → lv_has ls 5 [(0, .ref (G.2.2 0)), (1, .int p1), (2, .int p2), (3, .int x6)] → W p l e (u_rm 0) s m args below meth c H locs 0 0 (u_Qv below ZC G s args z) (F0 m 34 ls []) := by
      intro k
      induction k with
      | zero =>
        intro s5 x6 H locs ls hz
        exact absurd hz (by intro h9; cases h9)
      | succ k ih34_7 =>
        intro s5 x6 H locs ls hz hw hl
        have hz : (b_X11_fillChances_34 N p1 p2 J112_4) (u_lp2 (b_X11_fillChances_34 N p1 p2 J112_4) k) s5 x6 = some z := hz
        unfold b_X11_fillChances_34 at hz
        refine lv_iload_n hx hb dX11_fillChances_34 rfl (lv_at hl 3 rfl) ?_
        refine lv_iload_n hx hb dX11_fillChances_35 rfl (lv_at hl 1 rfl) ?_
        refine lv_icmp_gt (tgt := 112) hx hb dX11_fillChances_36 (by decide) (fun hc => ?_) (fun hc => ?_)
        · replace hz := u_ift hz hc
          exact WJ112_4 s5 _ _ _ hz hw (lv_sub hl [] rfl)
        · replace hz := u_iff hz hc
          refine lv_aload_n hx hb dX11_fillChances_39 rfl (lv_at hl 0 rfl) ?_
          refine u_getp cx hw F_X11_75 o_X11 rfl dX11_fillChances_40 ?_
          obtain ⟨v8, hv8, hz⟩ := u_bind hz
          refine u_alen cx hw hv8 dX11_fillChances_43 ?_
          refine lv_iconst (v := 1) hx hb dX11_fillChances_44 (by decide) ?_
          refine lv_isub hx hb dX11_fillChances_45 ?_
          obtain ⟨x9, ex9, hz⟩ := u_let hz
          refine u_topi ex9 ?_
          refine lv_istore (lv' := [(4, .int x9), (0, .ref (G.2.2 0)), (1, .int p1), (2, .int p2), (3, .int x6)]) hx hb dX11_fillChances_46 hl (by decide) rfl (fun ls hl => ?_)
          obtain ⟨J92_11, eJ92_11, hz⟩ := u_let hz
          have WJ92_11 : ∀ (s10 : uS) (H : Heap) (locs : List Loc) (ls : Array Slot), J92_11 s10 = some z → u_W ZC G s10 s H locs → lv_has ls 5 [(0, .ref (G.2.2 0)), (1, .int p1), (2, .int p2), (3, .int x6)] → W p l e (u_rm 0) s m args below meth c H locs 0 0 (u_Qv below ZC G s args z) (F0 m 92 ls []) := by
            intro s10 H locs ls hz hw hl
            rw [eJ92_11] at hz
            refine lv_aload_n hx hb dX11_fillChances_92 rfl (lv_at hl 0 rfl) ?_
            refine u_getp cx hw F_X11_75 o_X11 rfl dX11_fillChances_93 ?_
            refine lv_iconst (v := 0) hx hb dX11_fillChances_96 (by decide) ?_
            refine lv_dup2_11 hx hb dX11_fillChances_97 rfl rfl ?_
            obtain ⟨v12, hv12, hz⟩ := u_bind hz
            refine u_lald cx hw hv12 dX11_fillChances_98 ?_
            refine lv_bipush (v := 10) hx hb dX11_fillChances_99 (by decide) ?_
            refine lv_iload_n hx hb dX11_fillChances_101 rfl (lv_at hl 2 rfl) ?_
            refine lv_isub hx hb dX11_fillChances_102 ?_
            refine lv_i2l (v := (Int32.toInt64 (10 - p2))) hx hb dX11_fillChances_103 rfl ?_
            refine lv_lmul hx hb dX11_fillChances_104 ?_
            obtain ⟨s13, hs13, hz⟩ := u_bind hz
            refine u_last cx hw hs13 dX11_fillChances_105 (fun H locs hw => ?_)
            obtain ⟨x14, ex14, hz⟩ := u_let hz
            refine lv_iinc (v := x14) (lv' := [(3, .int x14), (0, .ref (G.2.2 0)), (1, .int p1), (2, .int p2)]) hx hb dX11_fillChances_106 hl (k := 3) rfl (by rw [ex14]; rfl) (by decide) rfl (fun ls hl => ?_)
            refine lv_goto (tgt := 34) hx hb dX11_fillChances_109 (by decide) ?_
            exact ih34_7 s13 x14 _ _ _ hz hw (lv_sub hl [1, 2, 3, 0] rfl)
          have WL48_21 : ∀ (k : Nat) (s15 : uS) (x16 : Int32) (H : Heap) (locs : List Loc) (ls : Array Slot), u_lp2 (b_X11_fillChances_48 p2 J92_11) k s15 x16 = some z → u_W ZC G s15 s H locs → lv_has ls 5 [(0, .ref (G.2.2 0)), (1, .int p1), (2, .int p2), (3, .int x6), (4, .int x16)] → W p l e (u_rm 0) s m args below meth c H locs 0 0 (u_Qv below ZC G s args z) (F0 m 48 ls []) := by
            intro k
            induction k with
            | zero =>
              intro s15 x16 H locs ls hz
              exact absurd hz (by intro h9; cases h9)
            | succ k ih48_17 =>
              intro s15 x16 H locs ls hz hw hl
              have hz : (b_X11_fillChances_48 p2 J92_11) (u_lp2 (b_X11_fillChances_48 p2 J92_11) k) s15 x16 = some z := hz
              unfold b_X11_fillChances_48 at hz
              refine lv_iload hx hb dX11_fillChances_48 (lv_at hl 4 rfl) ?_
              refine lv_if_le (tgt := 92) hx hb dX11_fillChances_50 (by decide) (fun hc => ?_) (fun hc => ?_)
              · replace hz := u_ift hz hc
                exact WJ92_11 s15 _ _ _ hz hw (lv_sub hl [0, 1, 2, 3] rfl)
              · replace hz := u_iff hz hc
                refine lv_aload_n hx hb dX11_fillChances_53 rfl (lv_at hl 0 rfl) ?_
                refine u_getp cx hw F_X11_75 o_X11 rfl dX11_fillChances_54 ?_
                refine lv_iload hx hb dX11_fillChances_57 (lv_at hl 4 rfl) ?_
                refine lv_aload_n hx hb dX11_fillChances_59 rfl (lv_at hl 0 rfl) ?_
                refine u_getp cx hw F_X11_75 o_X11 rfl dX11_fillChances_60 ?_
                refine lv_iload hx hb dX11_fillChances_63 (lv_at hl 4 rfl) ?_
                obtain ⟨v18, hv18, hz⟩ := u_bind hz
                refine u_lald cx hw hv18 dX11_fillChances_65 ?_
                refine lv_bipush (v := 10) hx hb dX11_fillChances_66 (by decide) ?_
                refine lv_iload_n hx hb dX11_fillChances_68 rfl (lv_at hl 2 rfl) ?_
                refine lv_isub hx hb dX11_fillChances_69 ?_
                refine lv_i2l (v := (Int32.toInt64 (10 - p2))) hx hb dX11_fillChances_70 rfl ?_
                refine lv_lmul hx hb dX11_fillChances_71 ?_
                refine lv_aload_n hx hb dX11_fillChances_72 rfl (lv_at hl 0 rfl) ?_
                refine u_getp cx hw F_X11_75 o_X11 rfl dX11_fillChances_73 ?_
                refine lv_iload hx hb dX11_fillChances_76 (lv_at hl 4 rfl) ?_
                refine lv_iconst (v := 1) hx hb dX11_fillChances_78 (by decide) ?_
                refine lv_isub hx hb dX11_fillChances_79 ?_
                obtain ⟨v19, hv19, hz⟩ := u_bind hz
                refine u_lald cx hw hv19 dX11_fillChances_80 ?_
                refine lv_iload_n hx hb dX11_fillChances_81 rfl (lv_at hl 2 rfl) ?_
                refine lv_i2l (v := (Int32.toInt64 p2)) hx hb dX11_fillChances_82 rfl ?_
                refine lv_lmul hx hb dX11_fillChances_83 ?_
                refine lv_ladd hx hb dX11_fillChances_84 ?_
                obtain ⟨s20, hs20, hz⟩ := u_bind hz
                refine u_last cx hw hs20 dX11_fillChances_85 (fun H locs hw => ?_)
                obtain ⟨x21, ex21, hz⟩ := u_let hz
                refine lv_iinc (v := x21) (lv' := [(4, .int x21), (0, .ref (G.2.2 0)), (1, .int p1), (2, .int p2), (3, .int x6)]) hx hb dX11_fillChances_86 hl (k := 4) rfl (by rw [ex21]; rfl) (by decide) rfl (fun ls hl => ?_)
                refine lv_goto (tgt := 48) hx hb dX11_fillChances_89 (by decide) ?_
                exact ih48_17 s20 x21 _ _ _ hz hw (lv_sub hl [1, 2, 3, 4, 0] rfl)
          exact WL48_21 N s5 x9 _ _ _ hz hw (lv_sub hl [1, 2, 3, 4, 0] rfl)
    exact WL34_21 N s1 1 _ _ _ hz hw (lv_sub hl [1, 2, 3, 0] rfl)
  have WL2_29 : ∀ (k : Nat) (s22 : uS) (x23 : Int32) (H : Heap) (locs : List Loc) (ls : Array Slot), u_lp2 (b_X11_fillChances_2 J32_2) k s22 x23 = some z → u_W ZC G s22 s H locs → lv_has ls 5 [(0, .ref (G.2.2 0)), (1, .int p1), (2, .int p2), (3, .int x23)] → W p l e (u_rm 0) s m args below meth c H locs 0 0 (u_Qv below ZC G s args z) (F0 m 2 ls []) := by
    intro k
    induction k with
    | zero =>
      intro s22 x23 H locs ls hz
      exact absurd hz (by intro h9; cases h9)
    | succ k ih2_24 =>
      intro s22 x23 H locs ls hz hw hl
      have hz : (b_X11_fillChances_2 J32_2) (u_lp2 (b_X11_fillChances_2 J32_2) k) s22 x23 = some z := hz
      unfold b_X11_fillChances_2 at hz
      refine lv_iload_n hx hb dX11_fillChances_2 rfl (lv_at hl 3 rfl) ?_
      refine lv_aload_n hx hb dX11_fillChances_3 rfl (lv_at hl 0 rfl) ?_
      refine u_getp cx hw F_X11_75 o_X11 rfl dX11_fillChances_4 ?_
      obtain ⟨v25, hv25, hz⟩ := u_bind hz
      refine u_alen cx hw hv25 dX11_fillChances_7 ?_
      refine lv_icmp_ge (tgt := 32) hx hb dX11_fillChances_8 (by decide) (fun hc => ?_) (fun hc => ?_)
      · replace hz := u_ift hz hc
        exact WJ32_2 s22 _ _ _ hz hw (lv_sub hl [0, 1, 2] rfl)
      · replace hz := u_iff hz hc
        refine lv_aload_n hx hb dX11_fillChances_11 rfl (lv_at hl 0 rfl) ?_
        refine u_getp cx hw F_X11_75 o_X11 rfl dX11_fillChances_12 ?_
        refine lv_iload_n hx hb dX11_fillChances_15 rfl (lv_at hl 3 rfl) ?_
        refine lv_iload_n hx hb dX11_fillChances_16 rfl (lv_at hl 3 rfl) ?_
        obtain ⟨J25_27, eJ25_27, hz⟩ := u_let hz
        have WJ25_27 : ∀ (t26 : Int64) (H : Heap) (locs : List Loc) (ls : Array Slot), J25_27 t26 = some z → u_W ZC G s22 s H locs → lv_has ls 5 [(0, .ref (G.2.2 0)), (1, .int p1), (2, .int p2), (3, .int x23)] → W p l e (u_rm 0) s m args below meth c H locs 0 0 (u_Qv below ZC G s args z) (F0 m 25 ls [.long t26, .int x23, .ref (G.2.2 20)]) := by
          intro t26 H locs ls hz hw hl
          rw [eJ25_27] at hz
          obtain ⟨s28, hs28, hz⟩ := u_bind hz
          refine u_last cx hw hs28 dX11_fillChances_25 (fun H locs hw => ?_)
          obtain ⟨x29, ex29, hz⟩ := u_let hz
          refine lv_iinc (v := x29) (lv' := [(3, .int x29), (0, .ref (G.2.2 0)), (1, .int p1), (2, .int p2)]) hx hb dX11_fillChances_26 hl (k := 3) rfl (by rw [ex29]; rfl) (by decide) rfl (fun ls hl => ?_)
          refine lv_goto (tgt := 2) hx hb dX11_fillChances_29 (by decide) ?_
          exact ih2_24 s28 x29 _ _ _ hz hw (lv_sub hl [1, 2, 3, 0] rfl)
        refine lv_if_ne (tgt := 24) hx hb dX11_fillChances_17 (by decide) (fun hc => ?_) (fun hc => ?_)
        · replace hz := u_iff hz hc
          refine lv_lconst (v := 0) hx hb dX11_fillChances_24 (by decide) ?_
          exact WJ25_27 0 _ _ _ hz hw (lv_sub hl [0, 1, 2, 3] rfl)
        · replace hz := u_ift hz hc
          refine lv_lconst (v := 1) hx hb dX11_fillChances_20 (by decide) ?_
          refine lv_goto (tgt := 25) hx hb dX11_fillChances_21 (by decide) ?_
          exact WJ25_27 1 _ _ _ hz hw (lv_sub hl [0, 1, 2, 3] rfl)
  exact WL2_29 N σ 0 _ _ _ hz hw (lv_sub hl [1, 2, 3, 0] rfl)
theorem dX11_farmerHas_0 : decode cX11_farmerHas 0 = .ok (.iload_n 1, 1) := by decide +kernel
theorem dX11_farmerHas_1 : decode cX11_farmerHas 1 = .ok (.iload_n 0, 1) := by decide +kernel
theorem dX11_farmerHas_2 : decode cX11_farmerHas 2 = .ok (.if_icmp .lt 7, 3) := by decide +kernel
theorem dX11_farmerHas_5 : decode cX11_farmerHas 5 = .ok (.iload_n 0, 1) := by decide +kernel
theorem dX11_farmerHas_6 : decode cX11_farmerHas 6 = .ok (.goto 4, 3) := by decide +kernel
theorem dX11_farmerHas_9 : decode cX11_farmerHas 9 = .ok (.iload_n 2, 1) := by decide +kernel
theorem dX11_farmerHas_10 : decode cX11_farmerHas 10 = .ok (.ireturn, 1) := by decide +kernel
def f_X11_farmerHas (N : Nat) (σ : uS) (p0 : Int32) (p1 : Int32) (p2 : Int32) : Option Int32 := if p1 < p0 then (some p2) else (some p0)
set_option maxRecDepth 100000 in
set_option maxHeartbeats 4000000 in
theorem c_X11_farmerHas (l : Launch) (G : uG) (N : Nat) (σ : uS) (p0 : Int32) (p1 : Int32) (p2 : Int32) (z : Int32) (hz : f_X11_farmerHas N σ p0 p1 p2 = some z) : u_Mi l ZC G yX11_farmerHas cX11_farmerHas 3 .int 0 [.int p0, .int p1, .int p2] σ z σ := by
  refine u_Mi_of RX11 (by decide) rfl (Nat.le_of_ble_eq_true rfl) ?_
  intro p e s m args below meth c ls cx hw hl
  have hx := cx.1
  have hb := cx.2.1
  have hl : lv_has ls 3 [(0, .int p0), (1, .int p1), (2, .int p2)] := hl
  unfold f_X11_farmerHas at hz
  refine lv_iload_n hx hb dX11_farmerHas_0 rfl (lv_at hl 1 rfl) ?_
  refine lv_iload_n hx hb dX11_farmerHas_1 rfl (lv_at hl 0 rfl) ?_
  refine lv_icmp_lt (tgt := 9) hx hb dX11_farmerHas_2 (by decide) (fun hc => ?_) (fun hc => ?_)
  · replace hz := u_ift hz hc
    refine lv_iload_n hx hb dX11_farmerHas_9 rfl (lv_at hl 2 rfl) ?_
    exact u_iret cx hw ⟨Option.some.inj hz, rfl⟩ dX11_farmerHas_10
  · replace hz := u_iff hz hc
    refine lv_iload_n hx hb dX11_farmerHas_5 rfl (lv_at hl 0 rfl) ?_
    refine lv_goto (tgt := 10) hx hb dX11_farmerHas_6 (by decide) ?_
    exact u_iret cx hw ⟨Option.some.inj hz, rfl⟩ dX11_farmerHas_10
theorem dX11_regularsHave_0 : decode cX11_regularsHave 0 = .ok (.iload_n 1, 1) := by decide +kernel
theorem dX11_regularsHave_1 : decode cX11_regularsHave 1 = .ok (.iload_n 0, 1) := by decide +kernel
theorem dX11_regularsHave_2 : decode cX11_regularsHave 2 = .ok (.if_icmp .lt 9, 3) := by decide +kernel
theorem dX11_regularsHave_5 : decode cX11_regularsHave 5 = .ok (.iload_n 2, 1) := by decide +kernel
theorem dX11_regularsHave_6 : decode cX11_regularsHave 6 = .ok (.iload_n 0, 1) := by decide +kernel
theorem dX11_regularsHave_7 : decode cX11_regularsHave 7 = .ok (.isub, 1) := by decide +kernel
theorem dX11_regularsHave_8 : decode cX11_regularsHave 8 = .ok (.goto 4, 3) := by decide +kernel
theorem dX11_regularsHave_11 : decode cX11_regularsHave 11 = .ok (.iconst 0, 1) := by decide +kernel
theorem dX11_regularsHave_12 : decode cX11_regularsHave 12 = .ok (.ireturn, 1) := by decide +kernel
def f_X11_regularsHave (N : Nat) (σ : uS) (p0 : Int32) (p1 : Int32) (p2 : Int32) : Option Int32 := if p1 < p0 then (some 0) else (some (p2 - p0))
set_option maxRecDepth 100000 in
set_option maxHeartbeats 4000000 in
theorem c_X11_regularsHave (l : Launch) (G : uG) (N : Nat) (σ : uS) (p0 : Int32) (p1 : Int32) (p2 : Int32) (z : Int32) (hz : f_X11_regularsHave N σ p0 p1 p2 = some z) : u_Mi l ZC G yX11_regularsHave cX11_regularsHave 3 .int 0 [.int p0, .int p1, .int p2] σ z σ := by
  refine u_Mi_of RX11 (by decide) rfl (Nat.le_of_ble_eq_true rfl) ?_
  intro p e s m args below meth c ls cx hw hl
  have hx := cx.1
  have hb := cx.2.1
  have hl : lv_has ls 3 [(0, .int p0), (1, .int p1), (2, .int p2)] := hl
  unfold f_X11_regularsHave at hz
  refine lv_iload_n hx hb dX11_regularsHave_0 rfl (lv_at hl 1 rfl) ?_
  refine lv_iload_n hx hb dX11_regularsHave_1 rfl (lv_at hl 0 rfl) ?_
  refine lv_icmp_lt (tgt := 11) hx hb dX11_regularsHave_2 (by decide) (fun hc => ?_) (fun hc => ?_)
  · replace hz := u_ift hz hc
    refine lv_iconst (v := 0) hx hb dX11_regularsHave_11 (by decide) ?_
    exact u_iret cx hw ⟨Option.some.inj hz, rfl⟩ dX11_regularsHave_12
  · replace hz := u_iff hz hc
    refine lv_iload_n hx hb dX11_regularsHave_5 rfl (lv_at hl 2 rfl) ?_
    refine lv_iload_n hx hb dX11_regularsHave_6 rfl (lv_at hl 0 rfl) ?_
    refine lv_isub hx hb dX11_regularsHave_7 ?_
    refine lv_goto (tgt := 12) hx hb dX11_regularsHave_8 (by decide) ?_
    exact u_iret cx hw ⟨Option.some.inj hz, rfl⟩ dX11_regularsHave_12
theorem dX12_thrown_0 : decode cX12_thrown 0 = .ok (.aload_n 0, 1) := by decide +kernel
theorem dX12_thrown_1 : decode cX12_thrown 1 = .ok (.getfield 77, 3) := by decide +kernel
theorem dX12_thrown_4 : decode cX12_thrown 4 = .ok (.ireturn, 1) := by decide +kernel
def f_X12_thrown (N : Nat) (σ : uS) : Option Int32 := some (σ.1 0 8)
set_option maxRecDepth 100000 in
set_option maxHeartbeats 4000000 in
theorem c_X12_thrown (l : Launch) (G : uG) (N : Nat) (σ : uS) (z : Int32) (hz : f_X12_thrown N σ = some z) : u_Mi l ZM G yX12_thrown cX12_thrown 1 .int 0 [.ref (G.2.2 0)] σ z σ := by
  refine u_Mi_of RX12 (by decide) rfl (Nat.le_of_ble_eq_true rfl) ?_
  intro p e s m args below meth c ls cx hw hl
  have hx := cx.1
  have hb := cx.2.1
  have hl : lv_has ls 1 [(0, .ref (G.2.2 0))] := hl
  unfold f_X12_thrown at hz
  refine lv_aload_n hx hb dX12_thrown_0 rfl (lv_at hl 0 rfl) ?_
  refine u_geti cx hw F_X12_77 o_X12 rfl dX12_thrown_1 ?_
  exact u_iret cx hw ⟨Option.some.inj hz, rfl⟩ dX12_thrown_4
theorem dX12_in_0 : decode cX12_in 0 = .ok (.iload_n 0, 1) := by decide +kernel
theorem dX12_in_1 : decode cX12_in 1 = .ok (.iload_n 1, 1) := by decide +kernel
theorem dX12_in_2 : decode cX12_in 2 = .ok (.if_icmp .lt 12, 3) := by decide +kernel
theorem dX12_in_5 : decode cX12_in 5 = .ok (.iload_n 0, 1) := by decide +kernel
theorem dX12_in_6 : decode cX12_in 6 = .ok (.iload_n 2, 1) := by decide +kernel
theorem dX12_in_7 : decode cX12_in 7 = .ok (.if_icmp .gt 7, 3) := by decide +kernel
theorem dX12_in_10 : decode cX12_in 10 = .ok (.iconst 1, 1) := by decide +kernel
theorem dX12_in_11 : decode cX12_in 11 = .ok (.goto 4, 3) := by decide +kernel
theorem dX12_in_14 : decode cX12_in 14 = .ok (.iconst 0, 1) := by decide +kernel
theorem dX12_in_15 : decode cX12_in 15 = .ok (.ireturn, 1) := by decide +kernel
def f_X12_in (N : Nat) (σ : uS) (p0 : Int32) (p1 : Int32) (p2 : Int32) : Option Int32 := u_jn ((some 0 : Option Int32)) fun J14_1 =>
  if p0 < p1 then (J14_1) else (if p2 < p0 then (J14_1) else (some 1))
set_option maxRecDepth 100000 in
set_option maxHeartbeats 4000000 in
theorem c_X12_in (l : Launch) (G : uG) (N : Nat) (σ : uS) (p0 : Int32) (p1 : Int32) (p2 : Int32) (z : Int32) (hz : f_X12_in N σ p0 p1 p2 = some z) : u_Mi l ZM G yX12_in cX12_in 3 .boolean 0 [.int p0, .int p1, .int p2] σ z σ := by
  refine u_Mi_of RX12 (by decide) rfl (Nat.le_of_ble_eq_true rfl) ?_
  intro p e s m args below meth c ls cx hw hl
  have hx := cx.1
  have hb := cx.2.1
  have hl : lv_has ls 3 [(0, .int p0), (1, .int p1), (2, .int p2)] := hl
  unfold f_X12_in at hz
  refine lv_iload_n hx hb dX12_in_0 rfl (lv_at hl 0 rfl) ?_
  refine lv_iload_n hx hb dX12_in_1 rfl (lv_at hl 1 rfl) ?_
  obtain ⟨J14_1, eJ14_1, hz⟩ := u_let hz
  have WJ14_1 : ∀ (H : Heap) (locs : List Loc) (ls : Array Slot), J14_1 = some z → u_W ZM G σ s H locs → lv_has ls 3 [] → W p l e (u_rm 0) s m args below meth c H locs 0 0 (u_Qi below ZM G s args z σ) (F0 m 14 ls []) := by
    intro H locs ls hz hw hl
    rw [eJ14_1] at hz
    refine lv_iconst (v := 0) hx hb dX12_in_14 (by decide) ?_
    exact u_zret cx hw (Or.inl rfl) ⟨Option.some.inj hz, rfl⟩ dX12_in_15
  refine lv_icmp_lt (tgt := 14) hx hb dX12_in_2 (by decide) (fun hc => ?_) (fun hc => ?_)
  · replace hz := u_ift hz hc
    exact WJ14_1 _ _ _ hz hw (lv_sub hl [] rfl)
  · replace hz := u_iff hz hc
    refine lv_iload_n hx hb dX12_in_5 rfl (lv_at hl 0 rfl) ?_
    refine lv_iload_n hx hb dX12_in_6 rfl (lv_at hl 2 rfl) ?_
    refine lv_icmp_gt (tgt := 14) hx hb dX12_in_7 (by decide) (fun hc => ?_) (fun hc => ?_)
    · replace hz := u_ift hz hc
      exact WJ14_1 _ _ _ hz hw (lv_sub hl [] rfl)
    · replace hz := u_iff hz hc
      refine lv_iconst (v := 1) hx hb dX12_in_10 (by decide) ?_
      refine lv_goto (tgt := 15) hx hb dX12_in_11 (by decide) ?_
      exact u_zret cx hw (Or.inr rfl) ⟨Option.some.inj hz, rfl⟩ dX12_in_15
theorem dX12_has_0 : decode cX12_has 0 = .ok (.iload_n 0, 1) := by decide +kernel
theorem dX12_has_1 : decode cX12_has 1 = .ok (.iload_n 1, 1) := by decide +kernel
theorem dX12_has_2 : decode cX12_has 2 = .ok (.ishr, 1) := by decide +kernel
theorem dX12_has_3 : decode cX12_has 3 = .ok (.iconst 1, 1) := by decide +kernel
theorem dX12_has_4 : decode cX12_has 4 = .ok (.iand, 1) := by decide +kernel
theorem dX12_has_5 : decode cX12_has 5 = .ok (.iconst 1, 1) := by decide +kernel
theorem dX12_has_6 : decode cX12_has 6 = .ok (.if_icmp .ne 7, 3) := by decide +kernel
theorem dX12_has_9 : decode cX12_has 9 = .ok (.iconst 1, 1) := by decide +kernel
theorem dX12_has_10 : decode cX12_has 10 = .ok (.goto 4, 3) := by decide +kernel
theorem dX12_has_13 : decode cX12_has 13 = .ok (.iconst 0, 1) := by decide +kernel
theorem dX12_has_14 : decode cX12_has 14 = .ok (.ireturn, 1) := by decide +kernel
def f_X12_has (N : Nat) (σ : uS) (p0 : Int32) (p1 : Int32) : Option Int32 := if ((p0 >>> (p1 &&& 31)) &&& 1) = 1 then (some 1) else (some 0)
set_option maxRecDepth 100000 in
set_option maxHeartbeats 4000000 in
theorem c_X12_has (l : Launch) (G : uG) (N : Nat) (σ : uS) (p0 : Int32) (p1 : Int32) (z : Int32) (hz : f_X12_has N σ p0 p1 = some z) : u_Mi l ZM G yX12_has cX12_has 2 .boolean 0 [.int p0, .int p1] σ z σ := by
  refine u_Mi_of RX12 (by decide) rfl (Nat.le_of_ble_eq_true rfl) ?_
  intro p e s m args below meth c ls cx hw hl
  have hx := cx.1
  have hb := cx.2.1
  have hl : lv_has ls 2 [(0, .int p0), (1, .int p1)] := hl
  unfold f_X12_has at hz
  refine lv_iload_n hx hb dX12_has_0 rfl (lv_at hl 0 rfl) ?_
  refine lv_iload_n hx hb dX12_has_1 rfl (lv_at hl 1 rfl) ?_
  refine lv_ishr hx hb dX12_has_2 ?_
  refine lv_iconst (v := 1) hx hb dX12_has_3 (by decide) ?_
  refine lv_iand hx hb dX12_has_4 ?_
  refine lv_iconst (v := 1) hx hb dX12_has_5 (by decide) ?_
  refine lv_icmp_ne (tgt := 13) hx hb dX12_has_6 (by decide) (fun hc => ?_) (fun hc => ?_)
  · replace hz := u_iff hz hc
    refine lv_iconst (v := 0) hx hb dX12_has_13 (by decide) ?_
    exact u_zret cx hw (Or.inl rfl) ⟨Option.some.inj hz, rfl⟩ dX12_has_14
  · replace hz := u_ift hz hc
    refine lv_iconst (v := 1) hx hb dX12_has_9 (by decide) ?_
    refine lv_goto (tgt := 14) hx hb dX12_has_10 (by decide) ?_
    exact u_zret cx hw (Or.inr rfl) ⟨Option.some.inj hz, rfl⟩ dX12_has_14
theorem dX12_lost_0 : decode cX12_lost 0 = .ok (.aload_n 0, 1) := by decide +kernel
theorem dX12_lost_1 : decode cX12_lost 1 = .ok (.iconst 1, 1) := by decide +kernel
theorem dX12_lost_2 : decode cX12_lost 2 = .ok (.putfield 77, 3) := by decide +kernel
theorem dX12_lost_5 : decode cX12_lost 5 = .ok (.iconst 0, 1) := by decide +kernel
theorem dX12_lost_6 : decode cX12_lost 6 = .ok (.ireturn, 1) := by decide +kernel
def f_X12_lost (N : Nat) (σ : uS) : Option (Int32 × uS) := u_jn (u_pI σ 0 8 1) fun s1 =>
  some (0, s1)
set_option maxRecDepth 100000 in
set_option maxHeartbeats 4000000 in
theorem c_X12_lost (l : Launch) (G : uG) (N : Nat) (σ : uS) (z : (Int32 × uS)) (hz : f_X12_lost N σ = some z) : u_Mi l ZM G yX12_lost cX12_lost 1 .int 0 [.ref (G.2.2 0)] σ z.1 z.2 := by
  refine u_Mi_of RX12 (by decide) rfl (Nat.le_of_ble_eq_true rfl) ?_
  intro p e s m args below meth c ls cx hw hl
  have hx := cx.1
  have hb := cx.2.1
  have hl : lv_has ls 1 [(0, .ref (G.2.2 0))] := hl
  unfold f_X12_lost at hz
  refine lv_aload_n hx hb dX12_lost_0 rfl (lv_at hl 0 rfl) ?_
  refine lv_iconst (v := 1) hx hb dX12_lost_1 (by decide) ?_
  obtain ⟨s1, es1, hz⟩ := u_let hz
  refine u_puti2 cx hw P_X12_77 o_X12 rfl es1 dX12_lost_2 (fun H locs hw => ?_)
  refine lv_iconst (v := 0) hx hb dX12_lost_5 (by decide) ?_
  exact u_iret cx hw (u_pair hz) dX12_lost_6
theorem dX12_tell_0 : decode cX12_tell 0 = .ok (.aload_n 0, 1) := by decide +kernel
theorem dX12_tell_1 : decode cX12_tell 1 = .ok (.getfield 24, 3) := by decide +kernel
theorem dX12_tell_4 : decode cX12_tell 4 = .ok (.aload_n 0, 1) := by decide +kernel
theorem dX12_tell_5 : decode cX12_tell 5 = .ok (.getfield 80, 3) := by decide +kernel
theorem dX12_tell_8 : decode cX12_tell 8 = .ok (.lload_n 1, 1) := by decide +kernel
theorem dX12_tell_9 : decode cX12_tell 9 = .ok (.lastore, 1) := by decide +kernel
theorem dX12_tell_10 : decode cX12_tell 10 = .ok (.aload_n 0, 1) := by decide +kernel
theorem dX12_tell_11 : decode cX12_tell 11 = .ok (.dup, 1) := by decide +kernel
theorem dX12_tell_12 : decode cX12_tell 12 = .ok (.getfield 80, 3) := by decide +kernel
theorem dX12_tell_15 : decode cX12_tell 15 = .ok (.iconst 1, 1) := by decide +kernel
theorem dX12_tell_16 : decode cX12_tell 16 = .ok (.iadd, 1) := by decide +kernel
theorem dX12_tell_17 : decode cX12_tell 17 = .ok (.putfield 80, 3) := by decide +kernel
theorem dX12_tell_20 : decode cX12_tell 20 = .ok (.return_, 1) := by decide +kernel
def f_X12_tell (N : Nat) (σ : uS) (p1 : Int64) : Option uS := (u_wL ZM σ 4 (σ.1 0 7) p1).bind fun s1 =>
  u_jn (u_pI s1 0 7 ((s1.1 0 7) + 1)) fun s2 =>
  some s2
set_option maxRecDepth 100000 in
set_option maxHeartbeats 4000000 in
theorem c_X12_tell (l : Launch) (G : uG) (N : Nat) (σ : uS) (p1 : Int64) (z : uS) (hz : f_X12_tell N σ p1 = some z) : u_Mv l ZM G yX12_tell cX12_tell 3 0 [.ref (G.2.2 0), .long p1] σ z := by
  refine u_Mv_of RX12 (by decide) rfl (Nat.le_of_ble_eq_true rfl) ?_
  intro p e s m args below meth c ls cx hw hl
  have hx := cx.1
  have hb := cx.2.1
  have hl : lv_has ls 3 [(0, .ref (G.2.2 0)), (1, .long p1)] := hl
  unfold f_X12_tell at hz
  refine lv_aload_n hx hb dX12_tell_0 rfl (lv_at hl 0 rfl) ?_
  refine u_getp cx hw F_X12_24 o_X12 rfl dX12_tell_1 ?_
  refine lv_aload_n hx hb dX12_tell_4 rfl (lv_at hl 0 rfl) ?_
  refine u_geti cx hw F_X12_80 o_X12 rfl dX12_tell_5 ?_
  refine lv_lload_n hx hb dX12_tell_8 rfl (lv_at hl 1 rfl) ?_
  obtain ⟨s1, hs1, hz⟩ := u_bind hz
  refine u_last cx hw hs1 dX12_tell_9 (fun H locs hw => ?_)
  refine lv_aload_n hx hb dX12_tell_10 rfl (lv_at hl 0 rfl) ?_
  refine lv_dup hx hb dX12_tell_11 rfl ?_
  refine u_geti cx hw F_X12_80 o_X12 rfl dX12_tell_12 ?_
  refine lv_iconst (v := 1) hx hb dX12_tell_15 (by decide) ?_
  refine lv_iadd hx hb dX12_tell_16 ?_
  obtain ⟨s2, es2, hz⟩ := u_let hz
  refine u_puti2 cx hw P_X12_80 o_X12 rfl es2 dX12_tell_17 (fun H locs hw => ?_)
  exact u_vret cx hw (Option.some.inj hz) dX12_tell_20
theorem dX12_isMan_0 : decode cX12_isMan 0 = .ok (.iload_n 1, 1) := by decide +kernel
theorem dX12_isMan_1 : decode cX12_isMan 1 = .ok (.iconst 0, 1) := by decide +kernel
theorem dX12_isMan_2 : decode cX12_isMan 2 = .ok (.aload_n 0, 1) := by decide +kernel
theorem dX12_isMan_3 : decode cX12_isMan 3 = .ok (.getfield 83, 3) := by decide +kernel
theorem dX12_isMan_6 : decode cX12_isMan 6 = .ok (.iconst 1, 1) := by decide +kernel
theorem dX12_isMan_7 : decode cX12_isMan 7 = .ok (.isub, 1) := by decide +kernel
theorem dX12_isMan_8 : decode cX12_isMan 8 = .ok (.invokestatic 86, 3) := by decide +kernel
theorem dX12_isMan_11 : decode cX12_isMan 11 = .ok (.ireturn, 1) := by decide +kernel
def f_X12_isMan (N : Nat) (σ : uS) (p1 : Int32) : Option Int32 := (f_X12_in N σ p1 0 ((σ.1 0 2) - 1)).bind fun v1 =>
  u_ck (v1 = 0 ∨ v1 = 1) (some v1)
set_option maxRecDepth 100000 in
set_option maxHeartbeats 4000000 in
theorem c_X12_isMan (l : Launch) (G : uG) (N : Nat) (σ : uS) (p1 : Int32) (z : Int32) (hz : f_X12_isMan N σ p1 = some z) : u_Mi l ZM G yX12_isMan cX12_isMan 2 .boolean 1 [.ref (G.2.2 0), .int p1] σ z σ := by
  refine u_Mi_of RX12 (by decide) rfl (Nat.le_of_ble_eq_true rfl) ?_
  intro p e s m args below meth c ls cx hw hl
  have hx := cx.1
  have hb := cx.2.1
  have hl : lv_has ls 2 [(0, .ref (G.2.2 0)), (1, .int p1)] := hl
  unfold f_X12_isMan at hz
  refine lv_iload_n hx hb dX12_isMan_0 rfl (lv_at hl 1 rfl) ?_
  refine lv_iconst (v := 0) hx hb dX12_isMan_1 (by decide) ?_
  refine lv_aload_n hx hb dX12_isMan_2 rfl (lv_at hl 0 rfl) ?_
  refine u_geti cx hw F_X12_83 o_X12 rfl dX12_isMan_3 ?_
  refine lv_iconst (v := 1) hx hb dX12_isMan_6 (by decide) ?_
  refine lv_isub hx hb dX12_isMan_7 ?_
  obtain ⟨v1, hv1, hz⟩ := u_bind hz
  refine u_callSi (As := [.int p1, .int 0, .int ((σ.1 0 2) - 1)]) (rest := []) cx hw LS_X12_86 (c_X12_in l G N σ p1 0 ((σ.1 0 2) - 1) v1 hv1) (by decide) hl.1 rfl (Nat.le_of_ble_eq_true rfl) dX12_isMan_8 rfl (fun H locs hw => ?_)
  obtain ⟨h01, hz⟩ := u_ck_some hz
  exact u_zret cx hw h01 ⟨Option.some.inj hz, rfl⟩ dX12_isMan_11
theorem dX12_areTwo_0 : decode cX12_areTwo 0 = .ok (.aload_n 0, 1) := by decide +kernel
theorem dX12_areTwo_1 : decode cX12_areTwo 1 = .ok (.iload_n 1, 1) := by decide +kernel
theorem dX12_areTwo_2 : decode cX12_areTwo 2 = .ok (.invokevirtual 90, 3) := by decide +kernel
theorem dX12_areTwo_5 : decode cX12_areTwo 5 = .ok (.ifCond .eq 20, 3) := by decide +kernel
theorem dX12_areTwo_8 : decode cX12_areTwo 8 = .ok (.aload_n 0, 1) := by decide +kernel
theorem dX12_areTwo_9 : decode cX12_areTwo 9 = .ok (.iload_n 2, 1) := by decide +kernel
theorem dX12_areTwo_10 : decode cX12_areTwo 10 = .ok (.invokevirtual 90, 3) := by decide +kernel
theorem dX12_areTwo_13 : decode cX12_areTwo 13 = .ok (.ifCond .eq 12, 3) := by decide +kernel
theorem dX12_areTwo_16 : decode cX12_areTwo 16 = .ok (.iload_n 1, 1) := by decide +kernel
theorem dX12_areTwo_17 : decode cX12_areTwo 17 = .ok (.iload_n 2, 1) := by decide +kernel
theorem dX12_areTwo_18 : decode cX12_areTwo 18 = .ok (.if_icmp .eq 7, 3) := by decide +kernel
theorem dX12_areTwo_21 : decode cX12_areTwo 21 = .ok (.iconst 1, 1) := by decide +kernel
theorem dX12_areTwo_22 : decode cX12_areTwo 22 = .ok (.goto 4, 3) := by decide +kernel
theorem dX12_areTwo_25 : decode cX12_areTwo 25 = .ok (.iconst 0, 1) := by decide +kernel
theorem dX12_areTwo_26 : decode cX12_areTwo 26 = .ok (.ireturn, 1) := by decide +kernel
def f_X12_areTwo (N : Nat) (σ : uS) (p1 : Int32) (p2 : Int32) : Option Int32 := (f_X12_isMan N σ p1).bind fun v1 =>
  u_jn ((some 0 : Option Int32)) fun J25_2 =>
  if v1 = 0 then (J25_2) else ((f_X12_isMan N σ p2).bind fun v3 =>
  if v3 = 0 then (J25_2) else (if p1 = p2 then (J25_2) else (some 1)))
set_option maxRecDepth 100000 in
set_option maxHeartbeats 4000000 in
theorem c_X12_areTwo (l : Launch) (G : uG) (N : Nat) (σ : uS) (p1 : Int32) (p2 : Int32) (z : Int32) (hz : f_X12_areTwo N σ p1 p2 = some z) : u_Mi l ZM G yX12_areTwo cX12_areTwo 3 .boolean 2 [.ref (G.2.2 0), .int p1, .int p2] σ z σ := by
  refine u_Mi_of RX12 (by decide) rfl (Nat.le_of_ble_eq_true rfl) ?_
  intro p e s m args below meth c ls cx hw hl
  have hx := cx.1
  have hb := cx.2.1
  have hl : lv_has ls 3 [(0, .ref (G.2.2 0)), (1, .int p1), (2, .int p2)] := hl
  unfold f_X12_areTwo at hz
  refine lv_aload_n hx hb dX12_areTwo_0 rfl (lv_at hl 0 rfl) ?_
  refine lv_iload_n hx hb dX12_areTwo_1 rfl (lv_at hl 1 rfl) ?_
  obtain ⟨v1, hv1, hz⟩ := u_bind hz
  refine u_callVi (As := [.int p1]) (rest := []) cx hw LV_X12_90 (c_X12_isMan l G N σ p1 v1 hv1) o_X12 rfl (by decide) hl.1 rfl (Nat.le_of_ble_eq_true rfl) dX12_areTwo_2 rfl (fun H locs hw => ?_)
  obtain ⟨J25_2, eJ25_2, hz⟩ := u_let hz
  have WJ25_2 : ∀ (H : Heap) (locs : List Loc) (ls : Array Slot), J25_2 = some z → u_W ZM G σ s H locs → lv_has ls 3 [] → W p l e (u_rm 2) s m args below meth c H locs 0 0 (u_Qi below ZM G s args z σ) (F0 m 25 ls []) := by
    intro H locs ls hz hw hl
    rw [eJ25_2] at hz
    refine lv_iconst (v := 0) hx hb dX12_areTwo_25 (by decide) ?_
    exact u_zret cx hw (Or.inl rfl) ⟨Option.some.inj hz, rfl⟩ dX12_areTwo_26
  refine lv_if_eq (tgt := 25) hx hb dX12_areTwo_5 (by decide) (fun hc => ?_) (fun hc => ?_)
  · replace hz := u_ift hz hc
    exact WJ25_2 _ _ _ hz hw (lv_sub hl [] rfl)
  · replace hz := u_iff hz hc
    refine lv_aload_n hx hb dX12_areTwo_8 rfl (lv_at hl 0 rfl) ?_
    refine lv_iload_n hx hb dX12_areTwo_9 rfl (lv_at hl 2 rfl) ?_
    obtain ⟨v3, hv3, hz⟩ := u_bind hz
    refine u_callVi (As := [.int p2]) (rest := []) cx hw LV_X12_90 (c_X12_isMan l G N σ p2 v3 hv3) o_X12 rfl (by decide) hl.1 rfl (Nat.le_of_ble_eq_true rfl) dX12_areTwo_10 rfl (fun H locs hw => ?_)
    refine lv_if_eq (tgt := 25) hx hb dX12_areTwo_13 (by decide) (fun hc => ?_) (fun hc => ?_)
    · replace hz := u_ift hz hc
      exact WJ25_2 _ _ _ hz hw (lv_sub hl [] rfl)
    · replace hz := u_iff hz hc
      refine lv_iload_n hx hb dX12_areTwo_16 rfl (lv_at hl 1 rfl) ?_
      refine lv_iload_n hx hb dX12_areTwo_17 rfl (lv_at hl 2 rfl) ?_
      refine lv_icmp_eq (tgt := 25) hx hb dX12_areTwo_18 (by decide) (fun hc => ?_) (fun hc => ?_)
      · replace hz := u_ift hz hc
        exact WJ25_2 _ _ _ hz hw (lv_sub hl [] rfl)
      · replace hz := u_iff hz hc
        refine lv_iconst (v := 1) hx hb dX12_areTwo_21 (by decide) ?_
        refine lv_goto (tgt := 26) hx hb dX12_areTwo_22 (by decide) ?_
        exact u_zret cx hw (Or.inr rfl) ⟨Option.some.inj hz, rfl⟩ dX12_areTwo_26
theorem dX12_isFurrow_0 : decode cX12_isFurrow 0 = .ok (.iload_n 1, 1) := by decide +kernel
theorem dX12_isFurrow_1 : decode cX12_isFurrow 1 = .ok (.iconst 0, 1) := by decide +kernel
theorem dX12_isFurrow_2 : decode cX12_isFurrow 2 = .ok (.aload_n 0, 1) := by decide +kernel
theorem dX12_isFurrow_3 : decode cX12_isFurrow 3 = .ok (.getfield 13, 3) := by decide +kernel
theorem dX12_isFurrow_6 : decode cX12_isFurrow 6 = .ok (.iconst 1, 1) := by decide +kernel
theorem dX12_isFurrow_7 : decode cX12_isFurrow 7 = .ok (.isub, 1) := by decide +kernel
theorem dX12_isFurrow_8 : decode cX12_isFurrow 8 = .ok (.invokestatic 86, 3) := by decide +kernel
theorem dX12_isFurrow_11 : decode cX12_isFurrow 11 = .ok (.ireturn, 1) := by decide +kernel
def f_X12_isFurrow (N : Nat) (σ : uS) (p1 : Int32) : Option Int32 := (f_X12_in N σ p1 0 ((σ.1 0 1) - 1)).bind fun v1 =>
  u_ck (v1 = 0 ∨ v1 = 1) (some v1)
set_option maxRecDepth 100000 in
set_option maxHeartbeats 4000000 in
theorem c_X12_isFurrow (l : Launch) (G : uG) (N : Nat) (σ : uS) (p1 : Int32) (z : Int32) (hz : f_X12_isFurrow N σ p1 = some z) : u_Mi l ZM G yX12_isFurrow cX12_isFurrow 2 .boolean 1 [.ref (G.2.2 0), .int p1] σ z σ := by
  refine u_Mi_of RX12 (by decide) rfl (Nat.le_of_ble_eq_true rfl) ?_
  intro p e s m args below meth c ls cx hw hl
  have hx := cx.1
  have hb := cx.2.1
  have hl : lv_has ls 2 [(0, .ref (G.2.2 0)), (1, .int p1)] := hl
  unfold f_X12_isFurrow at hz
  refine lv_iload_n hx hb dX12_isFurrow_0 rfl (lv_at hl 1 rfl) ?_
  refine lv_iconst (v := 0) hx hb dX12_isFurrow_1 (by decide) ?_
  refine lv_aload_n hx hb dX12_isFurrow_2 rfl (lv_at hl 0 rfl) ?_
  refine u_geti cx hw F_X12_13 o_X12 rfl dX12_isFurrow_3 ?_
  refine lv_iconst (v := 1) hx hb dX12_isFurrow_6 (by decide) ?_
  refine lv_isub hx hb dX12_isFurrow_7 ?_
  obtain ⟨v1, hv1, hz⟩ := u_bind hz
  refine u_callSi (As := [.int p1, .int 0, .int ((σ.1 0 1) - 1)]) (rest := []) cx hw LS_X12_86 (c_X12_in l G N σ p1 0 ((σ.1 0 1) - 1) v1 hv1) (by decide) hl.1 rfl (Nat.le_of_ble_eq_true rfl) dX12_isFurrow_8 rfl (fun H locs hw => ?_)
  obtain ⟨h01, hz⟩ := u_ck_some hz
  exact u_zret cx hw h01 ⟨Option.some.inj hz, rfl⟩ dX12_isFurrow_11
theorem dX12_all_0 : decode cX12_all 0 = .ok (.iconst 1, 1) := by decide +kernel
theorem dX12_all_1 : decode cX12_all 1 = .ok (.aload_n 0, 1) := by decide +kernel
theorem dX12_all_2 : decode cX12_all 2 = .ok (.getfield 83, 3) := by decide +kernel
theorem dX12_all_5 : decode cX12_all 5 = .ok (.ishl, 1) := by decide +kernel
theorem dX12_all_6 : decode cX12_all 6 = .ok (.iconst 1, 1) := by decide +kernel
theorem dX12_all_7 : decode cX12_all 7 = .ok (.isub, 1) := by decide +kernel
theorem dX12_all_8 : decode cX12_all 8 = .ok (.ireturn, 1) := by decide +kernel
def f_X12_all (N : Nat) (σ : uS) : Option Int32 := some ((1 <<< ((σ.1 0 2) &&& 31)) - 1)
set_option maxRecDepth 100000 in
set_option maxHeartbeats 4000000 in
theorem c_X12_all (l : Launch) (G : uG) (N : Nat) (σ : uS) (z : Int32) (hz : f_X12_all N σ = some z) : u_Mi l ZM G yX12_all cX12_all 1 .int 0 [.ref (G.2.2 0)] σ z σ := by
  refine u_Mi_of RX12 (by decide) rfl (Nat.le_of_ble_eq_true rfl) ?_
  intro p e s m args below meth c ls cx hw hl
  have hx := cx.1
  have hb := cx.2.1
  have hl : lv_has ls 1 [(0, .ref (G.2.2 0))] := hl
  unfold f_X12_all at hz
  refine lv_iconst (v := 1) hx hb dX12_all_0 (by decide) ?_
  refine lv_aload_n hx hb dX12_all_1 rfl (lv_at hl 0 rfl) ?_
  refine u_geti cx hw F_X12_83 o_X12 rfl dX12_all_2 ?_
  refine lv_ishl hx hb dX12_all_5 ?_
  refine lv_iconst (v := 1) hx hb dX12_all_6 (by decide) ?_
  refine lv_isub hx hb dX12_all_7 ?_
  exact u_iret cx hw ⟨Option.some.inj hz, rfl⟩ dX12_all_8
theorem dX12_areMen_0 : decode cX12_areMen 0 = .ok (.iload_n 1, 1) := by decide +kernel
theorem dX12_areMen_1 : decode cX12_areMen 1 = .ok (.iconst 0, 1) := by decide +kernel
theorem dX12_areMen_2 : decode cX12_areMen 2 = .ok (.aload_n 0, 1) := by decide +kernel
theorem dX12_areMen_3 : decode cX12_areMen 3 = .ok (.invokevirtual 94, 3) := by decide +kernel
theorem dX12_areMen_6 : decode cX12_areMen 6 = .ok (.invokestatic 86, 3) := by decide +kernel
theorem dX12_areMen_9 : decode cX12_areMen 9 = .ok (.ireturn, 1) := by decide +kernel
def f_X12_areMen (N : Nat) (σ : uS) (p1 : Int32) : Option Int32 := (f_X12_all N σ).bind fun v1 =>
  (f_X12_in N σ p1 0 v1).bind fun v2 =>
  u_ck (v2 = 0 ∨ v2 = 1) (some v2)
set_option maxRecDepth 100000 in
set_option maxHeartbeats 4000000 in
theorem c_X12_areMen (l : Launch) (G : uG) (N : Nat) (σ : uS) (p1 : Int32) (z : Int32) (hz : f_X12_areMen N σ p1 = some z) : u_Mi l ZM G yX12_areMen cX12_areMen 2 .boolean 1 [.ref (G.2.2 0), .int p1] σ z σ := by
  refine u_Mi_of RX12 (by decide) rfl (Nat.le_of_ble_eq_true rfl) ?_
  intro p e s m args below meth c ls cx hw hl
  have hx := cx.1
  have hb := cx.2.1
  have hl : lv_has ls 2 [(0, .ref (G.2.2 0)), (1, .int p1)] := hl
  unfold f_X12_areMen at hz
  refine lv_iload_n hx hb dX12_areMen_0 rfl (lv_at hl 1 rfl) ?_
  refine lv_iconst (v := 0) hx hb dX12_areMen_1 (by decide) ?_
  refine lv_aload_n hx hb dX12_areMen_2 rfl (lv_at hl 0 rfl) ?_
  obtain ⟨v1, hv1, hz⟩ := u_bind hz
  refine u_callVi (As := []) (rest := [.int 0, .int p1]) cx hw LV_X12_94 (c_X12_all l G N σ v1 hv1) o_X12 rfl (by decide) hl.1 rfl (Nat.le_of_ble_eq_true rfl) dX12_areMen_3 rfl (fun H locs hw => ?_)
  obtain ⟨v2, hv2, hz⟩ := u_bind hz
  refine u_callSi (As := [.int p1, .int 0, .int v1]) (rest := []) cx hw LS_X12_86 (c_X12_in l G N σ p1 0 v1 v2 hv2) (by decide) hl.1 rfl (Nat.le_of_ble_eq_true rfl) dX12_areMen_6 rfl (fun H locs hw => ?_)
  obtain ⟨h01, hz⟩ := u_ck_some hz
  exact u_zret cx hw h01 ⟨Option.some.inj hz, rfl⟩ dX12_areMen_9
theorem dX12_sign_0 : decode cX12_sign 0 = .ok (.aload_n 0, 1) := by decide +kernel
theorem dX12_sign_1 : decode cX12_sign 1 = .ok (.iconst 0, 1) := by decide +kernel
theorem dX12_sign_2 : decode cX12_sign 2 = .ok (.putfield 77, 3) := by decide +kernel
theorem dX12_sign_5 : decode cX12_sign 5 = .ok (.aload_n 0, 1) := by decide +kernel
theorem dX12_sign_6 : decode cX12_sign 6 = .ok (.getfield 98, 3) := by decide +kernel
theorem dX12_sign_9 : decode cX12_sign 9 = .ok (.iconst 4, 1) := by decide +kernel
theorem dX12_sign_10 : decode cX12_sign 10 = .ok (.iadd, 1) := by decide +kernel
theorem dX12_sign_11 : decode cX12_sign 11 = .ok (.bipush 80, 2) := by decide +kernel
theorem dX12_sign_13 : decode cX12_sign 13 = .ok (.if_icmp .le 5, 3) := by decide +kernel
theorem dX12_sign_16 : decode cX12_sign 16 = .ok (.iconst (-1), 1) := by decide +kernel
theorem dX12_sign_17 : decode cX12_sign 17 = .ok (.ireturn, 1) := by decide +kernel
theorem dX12_sign_18 : decode cX12_sign 18 = .ok (.iconst 3, 1) := by decide +kernel
theorem dX12_sign_19 : decode cX12_sign 19 = .ok (.istore_n 2, 1) := by decide +kernel
theorem dX12_sign_20 : decode cX12_sign 20 = .ok (.iload_n 2, 1) := by decide +kernel
theorem dX12_sign_21 : decode cX12_sign 21 = .ok (.ifCond .lt 32, 3) := by decide +kernel
theorem dX12_sign_24 : decode cX12_sign 24 = .ok (.aload_n 0, 1) := by decide +kernel
theorem dX12_sign_25 : decode cX12_sign 25 = .ok (.getfield 20, 3) := by decide +kernel
theorem dX12_sign_28 : decode cX12_sign 28 = .ok (.aload_n 0, 1) := by decide +kernel
theorem dX12_sign_29 : decode cX12_sign 29 = .ok (.dup, 1) := by decide +kernel
theorem dX12_sign_30 : decode cX12_sign 30 = .ok (.getfield 98, 3) := by decide +kernel
theorem dX12_sign_33 : decode cX12_sign 33 = .ok (.dup_x1, 1) := by decide +kernel
theorem dX12_sign_34 : decode cX12_sign 34 = .ok (.iconst 1, 1) := by decide +kernel
theorem dX12_sign_35 : decode cX12_sign 35 = .ok (.iadd, 1) := by decide +kernel
theorem dX12_sign_36 : decode cX12_sign 36 = .ok (.putfield 98, 3) := by decide +kernel
theorem dX12_sign_39 : decode cX12_sign 39 = .ok (.iload_n 1, 1) := by decide +kernel
theorem dX12_sign_40 : decode cX12_sign 40 = .ok (.bipush 8, 2) := by decide +kernel
theorem dX12_sign_42 : decode cX12_sign 42 = .ok (.iload_n 2, 1) := by decide +kernel
theorem dX12_sign_43 : decode cX12_sign 43 = .ok (.imul, 1) := by decide +kernel
theorem dX12_sign_44 : decode cX12_sign 44 = .ok (.ishr, 1) := by decide +kernel
theorem dX12_sign_45 : decode cX12_sign 45 = .ok (.i2b, 1) := by decide +kernel
theorem dX12_sign_46 : decode cX12_sign 46 = .ok (.bastore, 1) := by decide +kernel
theorem dX12_sign_47 : decode cX12_sign 47 = .ok (.iinc 2 (-1), 3) := by decide +kernel
theorem dX12_sign_50 : decode cX12_sign 50 = .ok (.goto (-30), 3) := by decide +kernel
theorem dX12_sign_53 : decode cX12_sign 53 = .ok (.aload_n 0, 1) := by decide +kernel
theorem dX12_sign_54 : decode cX12_sign 54 = .ok (.getfield 98, 3) := by decide +kernel
theorem dX12_sign_57 : decode cX12_sign 57 = .ok (.ireturn, 1) := by decide +kernel
def b_X12_sign_20 (p1 : Int32) (J53_3 : uS → Option (Int32 × uS)) (rec20_6 : uS → Int32 → Option (Int32 × uS)) (s4 : uS) (x5 : Int32) : Option (Int32 × uS) :=
  if x5 < 0 then (J53_3 s4) else (u_jn (u_pI s4 0 5 ((s4.1 0 5) + 1)) fun s7 =>
  (u_wI ZM s7 2 3 (s4.1 0 5) (Int8.toInt32 (Int32.toInt8 (p1 >>> ((8 * x5) &&& 31))))).bind fun s8 =>
  u_jn (x5 + (-1) : Int32) fun x9 =>
  rec20_6 s8 x9)
def f_X12_sign (N : Nat) (σ : uS) (p1 : Int32) : Option (Int32 × uS) := u_jn (u_pI σ 0 8 0) fun s1 =>
  if ((s1.1 0 5) + 4) ≤ 80 then (u_jn (fun (s2 : uS) => (some ((s2.1 0 5), s2) : Option (Int32 × uS))) fun J53_3 =>
  u_lp2 (b_X12_sign_20 p1 J53_3) N s1 3) else (some ((-1), s1))
set_option maxRecDepth 100000 in
set_option maxHeartbeats 4000000 in
theorem c_X12_sign (l : Launch) (G : uG) (N : Nat) (σ : uS) (p1 : Int32) (z : (Int32 × uS)) (hz : f_X12_sign N σ p1 = some z) : u_Mi l ZM G yX12_sign cX12_sign 3 .int 0 [.ref (G.2.2 0), .int p1] σ z.1 z.2 := by
  refine u_Mi_of RX12 (by decide) rfl (Nat.le_of_ble_eq_true rfl) ?_
  intro p e s m args below meth c ls cx hw hl
  have hx := cx.1
  have hb := cx.2.1
  have hl : lv_has ls 3 [(0, .ref (G.2.2 0)), (1, .int p1)] := hl
  unfold f_X12_sign at hz
  refine lv_aload_n hx hb dX12_sign_0 rfl (lv_at hl 0 rfl) ?_
  refine lv_iconst (v := 0) hx hb dX12_sign_1 (by decide) ?_
  obtain ⟨s1, es1, hz⟩ := u_let hz
  refine u_puti2 cx hw P_X12_77 o_X12 rfl es1 dX12_sign_2 (fun H locs hw => ?_)
  refine lv_aload_n hx hb dX12_sign_5 rfl (lv_at hl 0 rfl) ?_
  refine u_geti cx hw F_X12_98 o_X12 rfl dX12_sign_6 ?_
  refine lv_iconst (v := 4) hx hb dX12_sign_9 (by decide) ?_
  refine lv_iadd hx hb dX12_sign_10 ?_
  refine lv_bipush (v := 80) hx hb dX12_sign_11 (by decide) ?_
  refine lv_icmp_le (tgt := 18) hx hb dX12_sign_13 (by decide) (fun hc => ?_) (fun hc => ?_)
  · replace hz := u_ift hz hc
    refine lv_iconst (v := 3) hx hb dX12_sign_18 (by decide) ?_
    refine lv_istore_n (lv' := [(2, .int 3), (0, .ref (G.2.2 0)), (1, .int p1)]) hx hb dX12_sign_19 rfl hl (by decide) rfl (fun ls hl => ?_)
    obtain ⟨J53_3, eJ53_3, hz⟩ := u_let hz
    have WJ53_3 : ∀ (s2 : uS) (H : Heap) (locs : List Loc) (ls : Array Slot), J53_3 s2 = some z → u_W ZM G s2 s H locs → lv_has ls 3 [(0, .ref (G.2.2 0))] → W p l e (u_rm 0) s m args below meth c H locs 0 0 (u_Qi below ZM G s args z.1 z.2) (F0 m 53 ls []) := by
      intro s2 H locs ls hz hw hl
      rw [eJ53_3] at hz
      refine lv_aload_n hx hb dX12_sign_53 rfl (lv_at hl 0 rfl) ?_
      refine u_geti cx hw F_X12_98 o_X12 rfl dX12_sign_54 ?_
      exact u_iret cx hw (u_pair hz) dX12_sign_57
    have WL20_9 : ∀ (k : Nat) (s4 : uS) (x5 : Int32) (H : Heap) (locs : List Loc) (ls : Array Slot), u_lp2 (b_X12_sign_20 p1 J53_3) k s4 x5 = some z → u_W ZM G s4 s H locs → lv_has ls 3 [(0, .ref (G.2.2 0)), (1, .int p1), (2, .int x5)] → W p l e (u_rm 0) s m args below meth c H locs 0 0 (u_Qi below ZM G s args z.1 z.2) (F0 m 20 ls []) := by
      intro k
      induction k with
      | zero =>
        intro s4 x5 H locs ls hz
        exact absurd hz (by intro h9; cases h9)
      | succ k ih20_6 =>
        intro s4 x5 H locs ls hz hw hl
        have hz : (b_X12_sign_20 p1 J53_3) (u_lp2 (b_X12_sign_20 p1 J53_3) k) s4 x5 = some z := hz
        unfold b_X12_sign_20 at hz
        refine lv_iload_n hx hb dX12_sign_20 rfl (lv_at hl 2 rfl) ?_
        refine lv_if_lt (tgt := 53) hx hb dX12_sign_21 (by decide) (fun hc => ?_) (fun hc => ?_)
        · replace hz := u_ift hz hc
          exact WJ53_3 s4 _ _ _ hz hw (lv_sub hl [0] rfl)
        · replace hz := u_iff hz hc
          refine lv_aload_n hx hb dX12_sign_24 rfl (lv_at hl 0 rfl) ?_
          refine u_getp cx hw F_X12_20 o_X12 rfl dX12_sign_25 ?_
          refine lv_aload_n hx hb dX12_sign_28 rfl (lv_at hl 0 rfl) ?_
          refine lv_dup hx hb dX12_sign_29 rfl ?_
          refine u_geti cx hw F_X12_98 o_X12 rfl dX12_sign_30 ?_
          refine lv_dup_x1 hx hb dX12_sign_33 rfl rfl ?_
          refine lv_iconst (v := 1) hx hb dX12_sign_34 (by decide) ?_
          refine lv_iadd hx hb dX12_sign_35 ?_
          obtain ⟨s7, es7, hz⟩ := u_let hz
          refine u_puti2 cx hw P_X12_98 o_X12 rfl es7 dX12_sign_36 (fun H locs hw => ?_)
          refine lv_iload_n hx hb dX12_sign_39 rfl (lv_at hl 1 rfl) ?_
          refine lv_bipush (v := 8) hx hb dX12_sign_40 (by decide) ?_
          refine lv_iload_n hx hb dX12_sign_42 rfl (lv_at hl 2 rfl) ?_
          refine lv_imul hx hb dX12_sign_43 ?_
          refine lv_ishr hx hb dX12_sign_44 ?_
          refine lv_i2b (v := (Int8.toInt32 (Int32.toInt8 (p1 >>> ((8 * x5) &&& 31))))) hx hb dX12_sign_45 rfl ?_
          obtain ⟨s8, hs8, hz⟩ := u_bind hz
          refine u_bast cx hw hs8 dX12_sign_46 (fun H locs hw => ?_)
          obtain ⟨x9, ex9, hz⟩ := u_let hz
          refine lv_iinc (v := x9) (lv' := [(2, .int x9), (0, .ref (G.2.2 0)), (1, .int p1)]) hx hb dX12_sign_47 hl (k := 2) rfl (by rw [ex9]; rfl) (by decide) rfl (fun ls hl => ?_)
          refine lv_goto (tgt := 20) hx hb dX12_sign_50 (by decide) ?_
          exact ih20_6 s8 x9 _ _ _ hz hw (lv_sub hl [1, 2, 0] rfl)
    exact WL20_9 N s1 3 _ _ _ hz hw (lv_sub hl [1, 2, 0] rfl)
  · replace hz := u_iff hz hc
    refine lv_iconst (v := (-1)) hx hb dX12_sign_16 (by decide) ?_
    exact u_iret cx hw (u_pair hz) dX12_sign_17
theorem dX12_end_0 : decode cX12_end 0 = .ok (.aload_n 0, 1) := by decide +kernel
theorem dX12_end_1 : decode cX12_end 1 = .ok (.iconst 0, 1) := by decide +kernel
theorem dX12_end_2 : decode cX12_end 2 = .ok (.putfield 77, 3) := by decide +kernel
theorem dX12_end_5 : decode cX12_end 5 = .ok (.iload_n 1, 1) := by decide +kernel
theorem dX12_end_6 : decode cX12_end 6 = .ok (.iconst 0, 1) := by decide +kernel
theorem dX12_end_7 : decode cX12_end 7 = .ok (.aload_n 0, 1) := by decide +kernel
theorem dX12_end_8 : decode cX12_end 8 = .ok (.getfield 98, 3) := by decide +kernel
theorem dX12_end_11 : decode cX12_end 11 = .ok (.invokestatic 86, 3) := by decide +kernel
theorem dX12_end_14 : decode cX12_end 14 = .ok (.ifCond .ne 5, 3) := by decide +kernel
theorem dX12_end_17 : decode cX12_end 17 = .ok (.iconst 0, 1) := by decide +kernel
theorem dX12_end_18 : decode cX12_end 18 = .ok (.ireturn, 1) := by decide +kernel
theorem dX12_end_19 : decode cX12_end 19 = .ok (.aload_n 0, 1) := by decide +kernel
theorem dX12_end_20 : decode cX12_end 20 = .ok (.iload_n 1, 1) := by decide +kernel
theorem dX12_end_21 : decode cX12_end 21 = .ok (.putfield 98, 3) := by decide +kernel
theorem dX12_end_24 : decode cX12_end 24 = .ok (.iconst 1, 1) := by decide +kernel
theorem dX12_end_25 : decode cX12_end 25 = .ok (.ireturn, 1) := by decide +kernel
def f_X12_end (N : Nat) (σ : uS) (p1 : Int32) : Option (Int32 × uS) := u_jn (u_pI σ 0 8 0) fun s1 =>
  (f_X12_in N s1 p1 0 (s1.1 0 5)).bind fun v2 =>
  if v2 = 0 then (some (0, s1)) else (u_jn (u_pI s1 0 5 p1) fun s3 =>
  some (1, s3))
set_option maxRecDepth 100000 in
set_option maxHeartbeats 4000000 in
theorem c_X12_end (l : Launch) (G : uG) (N : Nat) (σ : uS) (p1 : Int32) (z : (Int32 × uS)) (hz : f_X12_end N σ p1 = some z) : u_Mi l ZM G yX12_end cX12_end 2 .boolean 1 [.ref (G.2.2 0), .int p1] σ z.1 z.2 := by
  refine u_Mi_of RX12 (by decide) rfl (Nat.le_of_ble_eq_true rfl) ?_
  intro p e s m args below meth c ls cx hw hl
  have hx := cx.1
  have hb := cx.2.1
  have hl : lv_has ls 2 [(0, .ref (G.2.2 0)), (1, .int p1)] := hl
  unfold f_X12_end at hz
  refine lv_aload_n hx hb dX12_end_0 rfl (lv_at hl 0 rfl) ?_
  refine lv_iconst (v := 0) hx hb dX12_end_1 (by decide) ?_
  obtain ⟨s1, es1, hz⟩ := u_let hz
  refine u_puti2 cx hw P_X12_77 o_X12 rfl es1 dX12_end_2 (fun H locs hw => ?_)
  refine lv_iload_n hx hb dX12_end_5 rfl (lv_at hl 1 rfl) ?_
  refine lv_iconst (v := 0) hx hb dX12_end_6 (by decide) ?_
  refine lv_aload_n hx hb dX12_end_7 rfl (lv_at hl 0 rfl) ?_
  refine u_geti cx hw F_X12_98 o_X12 rfl dX12_end_8 ?_
  obtain ⟨v2, hv2, hz⟩ := u_bind hz
  refine u_callSi (As := [.int p1, .int 0, .int (s1.1 0 5)]) (rest := []) cx hw LS_X12_86 (c_X12_in l G N s1 p1 0 (s1.1 0 5) v2 hv2) (by decide) hl.1 rfl (Nat.le_of_ble_eq_true rfl) dX12_end_11 rfl (fun H locs hw => ?_)
  refine lv_if_ne (tgt := 19) hx hb dX12_end_14 (by decide) (fun hc => ?_) (fun hc => ?_)
  · replace hz := u_iff hz hc
    refine lv_aload_n hx hb dX12_end_19 rfl (lv_at hl 0 rfl) ?_
    refine lv_iload_n hx hb dX12_end_20 rfl (lv_at hl 1 rfl) ?_
    obtain ⟨s3, es3, hz⟩ := u_let hz
    refine u_puti2 cx hw P_X12_98 o_X12 rfl es3 dX12_end_21 (fun H locs hw => ?_)
    refine lv_iconst (v := 1) hx hb dX12_end_24 (by decide) ?_
    exact u_zret cx hw (Or.inr rfl) (u_pair hz) dX12_end_25
  · replace hz := u_ift hz hc
    refine lv_iconst (v := 0) hx hb dX12_end_17 (by decide) ?_
    exact u_zret cx hw (Or.inl rfl) (u_pair hz) dX12_end_18
theorem dX12_begin_0 : decode cX12_begin 0 = .ok (.aload_n 0, 1) := by decide +kernel
theorem dX12_begin_1 : decode cX12_begin 1 = .ok (.aload_n 1, 1) := by decide +kernel
theorem dX12_begin_2 : decode cX12_begin 2 = .ok (.putfield 101, 3) := by decide +kernel
theorem dX12_begin_5 : decode cX12_begin 5 = .ok (.aload_n 0, 1) := by decide +kernel
theorem dX12_begin_6 : decode cX12_begin 6 = .ok (.iload_n 2, 1) := by decide +kernel
theorem dX12_begin_7 : decode cX12_begin 7 = .ok (.putfield 104, 3) := by decide +kernel
theorem dX12_begin_10 : decode cX12_begin 10 = .ok (.aload_n 0, 1) := by decide +kernel
theorem dX12_begin_11 : decode cX12_begin 11 = .ok (.iload_n 3, 1) := by decide +kernel
theorem dX12_begin_12 : decode cX12_begin 12 = .ok (.putfield 107, 3) := by decide +kernel
theorem dX12_begin_15 : decode cX12_begin 15 = .ok (.aload_n 0, 1) := by decide +kernel
theorem dX12_begin_16 : decode cX12_begin 16 = .ok (.iconst 0, 1) := by decide +kernel
theorem dX12_begin_17 : decode cX12_begin 17 = .ok (.putfield 110, 3) := by decide +kernel
theorem dX12_begin_20 : decode cX12_begin 20 = .ok (.aload_n 0, 1) := by decide +kernel
theorem dX12_begin_21 : decode cX12_begin 21 = .ok (.iconst (-1), 1) := by decide +kernel
theorem dX12_begin_22 : decode cX12_begin 22 = .ok (.putfield 113, 3) := by decide +kernel
theorem dX12_begin_25 : decode cX12_begin 25 = .ok (.return_, 1) := by decide +kernel
def f_X12_begin (N : Nat) (σ : uS) (a1 : Nat) (p2 : Int32) (p3 : Int32) : Option uS := u_jn (u_pR σ 0 9 (some a1)) fun s1 =>
  u_jn (u_pI s1 0 10 p2) fun s2 =>
  u_jn (u_pI s2 0 11 p3) fun s3 =>
  u_jn (u_pI s3 0 12 0) fun s4 =>
  u_jn (u_pI s4 0 13 (-1)) fun s5 =>
  some s5
set_option maxRecDepth 100000 in
set_option maxHeartbeats 4000000 in
theorem c_X12_begin (l : Launch) (G : uG) (N : Nat) (σ : uS) (a1 : Nat) (p2 : Int32) (p3 : Int32) (z : uS) (hz : f_X12_begin N σ a1 p2 p3 = some z) : u_Mv l ZM G yX12_begin cX12_begin 4 0 [.ref (G.2.2 0), .ref (G.2.2 a1), .int p2, .int p3] σ z := by
  refine u_Mv_of RX12 (by decide) rfl (Nat.le_of_ble_eq_true rfl) ?_
  intro p e s m args below meth c ls cx hw hl
  have hx := cx.1
  have hb := cx.2.1
  have hl : lv_has ls 4 [(0, .ref (G.2.2 0)), (1, .ref (G.2.2 a1)), (2, .int p2), (3, .int p3)] := hl
  unfold f_X12_begin at hz
  refine lv_aload_n hx hb dX12_begin_0 rfl (lv_at hl 0 rfl) ?_
  refine lv_aload_n hx hb dX12_begin_1 rfl (lv_at hl 1 rfl) ?_
  obtain ⟨s1, es1, hz⟩ := u_let hz
  refine u_putr2 cx hw P_X12_101 o_X12 rfl rfl rfl es1 dX12_begin_2 (fun H locs hw => ?_)
  refine lv_aload_n hx hb dX12_begin_5 rfl (lv_at hl 0 rfl) ?_
  refine lv_iload_n hx hb dX12_begin_6 rfl (lv_at hl 2 rfl) ?_
  obtain ⟨s2, es2, hz⟩ := u_let hz
  refine u_puti2 cx hw P_X12_104 o_X12 rfl es2 dX12_begin_7 (fun H locs hw => ?_)
  refine lv_aload_n hx hb dX12_begin_10 rfl (lv_at hl 0 rfl) ?_
  refine lv_iload_n hx hb dX12_begin_11 rfl (lv_at hl 3 rfl) ?_
  obtain ⟨s3, es3, hz⟩ := u_let hz
  refine u_puti2 cx hw P_X12_107 o_X12 rfl es3 dX12_begin_12 (fun H locs hw => ?_)
  refine lv_aload_n hx hb dX12_begin_15 rfl (lv_at hl 0 rfl) ?_
  refine lv_iconst (v := 0) hx hb dX12_begin_16 (by decide) ?_
  obtain ⟨s4, es4, hz⟩ := u_let hz
  refine u_puti2 cx hw P_X12_110 o_X12 rfl es4 dX12_begin_17 (fun H locs hw => ?_)
  refine lv_aload_n hx hb dX12_begin_20 rfl (lv_at hl 0 rfl) ?_
  refine lv_iconst (v := (-1)) hx hb dX12_begin_21 (by decide) ?_
  obtain ⟨s5, es5, hz⟩ := u_let hz
  refine u_puti2 cx hw P_X12_113 o_X12 rfl es5 dX12_begin_22 (fun H locs hw => ?_)
  exact u_vret cx hw (Option.some.inj hz) dX12_begin_25
theorem dX12_beginText_0 : decode cX12_beginText 0 = .ok (.aload_n 0, 1) := by decide +kernel
theorem dX12_beginText_1 : decode cX12_beginText 1 = .ok (.aload_n 0, 1) := by decide +kernel
theorem dX12_beginText_2 : decode cX12_beginText 2 = .ok (.getfield 20, 3) := by decide +kernel
theorem dX12_beginText_5 : decode cX12_beginText 5 = .ok (.aload_n 0, 1) := by decide +kernel
theorem dX12_beginText_6 : decode cX12_beginText 6 = .ok (.getfield 98, 3) := by decide +kernel
theorem dX12_beginText_9 : decode cX12_beginText 9 = .ok (.iload_n 1, 1) := by decide +kernel
theorem dX12_beginText_10 : decode cX12_beginText 10 = .ok (.invokevirtual 116, 3) := by decide +kernel
theorem dX12_beginText_13 : decode cX12_beginText 13 = .ok (.aload_n 0, 1) := by decide +kernel
theorem dX12_beginText_14 : decode cX12_beginText 14 = .ok (.iconst 0, 1) := by decide +kernel
theorem dX12_beginText_15 : decode cX12_beginText 15 = .ok (.putfield 98, 3) := by decide +kernel
theorem dX12_beginText_18 : decode cX12_beginText 18 = .ok (.return_, 1) := by decide +kernel
def f_X12_beginText (N : Nat) (σ : uS) (p1 : Int32) : Option uS := (f_X12_begin N σ 3 (σ.1 0 5) p1).bind fun s1 =>
  u_jn (u_pI s1 0 5 0) fun s2 =>
  some s2
set_option maxRecDepth 100000 in
set_option maxHeartbeats 4000000 in
theorem c_X12_beginText (l : Launch) (G : uG) (N : Nat) (σ : uS) (p1 : Int32) (z : uS) (hz : f_X12_beginText N σ p1 = some z) : u_Mv l ZM G yX12_beginText cX12_beginText 2 1 [.ref (G.2.2 0), .int p1] σ z := by
  refine u_Mv_of RX12 (by decide) rfl (Nat.le_of_ble_eq_true rfl) ?_
  intro p e s m args below meth c ls cx hw hl
  have hx := cx.1
  have hb := cx.2.1
  have hl : lv_has ls 2 [(0, .ref (G.2.2 0)), (1, .int p1)] := hl
  unfold f_X12_beginText at hz
  refine lv_aload_n hx hb dX12_beginText_0 rfl (lv_at hl 0 rfl) ?_
  refine lv_aload_n hx hb dX12_beginText_1 rfl (lv_at hl 0 rfl) ?_
  refine u_getp cx hw F_X12_20 o_X12 rfl dX12_beginText_2 ?_
  refine lv_aload_n hx hb dX12_beginText_5 rfl (lv_at hl 0 rfl) ?_
  refine u_geti cx hw F_X12_98 o_X12 rfl dX12_beginText_6 ?_
  refine lv_iload_n hx hb dX12_beginText_9 rfl (lv_at hl 1 rfl) ?_
  obtain ⟨s1, hs1, hz⟩ := u_bind hz
  refine u_callVv (As := [.ref (G.2.2 3), .int (σ.1 0 5), .int p1]) (rest := []) cx hw LV_X12_116 (c_X12_begin l G N σ 3 (σ.1 0 5) p1 s1 hs1) o_X12 rfl (by decide) hl.1 rfl (Nat.le_of_ble_eq_true rfl) dX12_beginText_10 rfl (fun H locs hw => ?_)
  refine lv_aload_n hx hb dX12_beginText_13 rfl (lv_at hl 0 rfl) ?_
  refine lv_iconst (v := 0) hx hb dX12_beginText_14 (by decide) ?_
  obtain ⟨s2, es2, hz⟩ := u_let hz
  refine u_puti2 cx hw P_X12_98 o_X12 rfl es2 dX12_beginText_15 (fun H locs hw => ?_)
  exact u_vret cx hw (Option.some.inj hz) dX12_beginText_18
theorem dX12_here_0 : decode cX12_here 0 = .ok (.aload_n 0, 1) := by decide +kernel
theorem dX12_here_1 : decode cX12_here 1 = .ok (.getfield 110, 3) := by decide +kernel
theorem dX12_here_4 : decode cX12_here 4 = .ok (.aload_n 0, 1) := by decide +kernel
theorem dX12_here_5 : decode cX12_here 5 = .ok (.getfield 104, 3) := by decide +kernel
theorem dX12_here_8 : decode cX12_here 8 = .ok (.if_icmp .ge 30, 3) := by decide +kernel
theorem dX12_here_11 : decode cX12_here 11 = .ok (.aload_n 0, 1) := by decide +kernel
theorem dX12_here_12 : decode cX12_here 12 = .ok (.getfield 110, 3) := by decide +kernel
theorem dX12_here_15 : decode cX12_here 15 = .ok (.aload_n 0, 1) := by decide +kernel
theorem dX12_here_16 : decode cX12_here 16 = .ok (.getfield 107, 3) := by decide +kernel
theorem dX12_here_19 : decode cX12_here 19 = .ok (.if_icmp .ge 19, 3) := by decide +kernel
theorem dX12_here_22 : decode cX12_here 22 = .ok (.aload_n 0, 1) := by decide +kernel
theorem dX12_here_23 : decode cX12_here 23 = .ok (.getfield 101, 3) := by decide +kernel
theorem dX12_here_26 : decode cX12_here 26 = .ok (.aload_n 0, 1) := by decide +kernel
theorem dX12_here_27 : decode cX12_here 27 = .ok (.getfield 110, 3) := by decide +kernel
theorem dX12_here_30 : decode cX12_here 30 = .ok (.baload, 1) := by decide +kernel
theorem dX12_here_31 : decode cX12_here 31 = .ok (.sipush 255, 3) := by decide +kernel
theorem dX12_here_34 : decode cX12_here 34 = .ok (.iand, 1) := by decide +kernel
theorem dX12_here_35 : decode cX12_here 35 = .ok (.goto 4, 3) := by decide +kernel
theorem dX12_here_38 : decode cX12_here 38 = .ok (.iconst (-1), 1) := by decide +kernel
theorem dX12_here_39 : decode cX12_here 39 = .ok (.ireturn, 1) := by decide +kernel
def f_X12_here (N : Nat) (σ : uS) : Option Int32 := u_jn ((some (-1) : Option Int32)) fun J38_1 =>
  if (σ.1 0 10) ≤ (σ.1 0 12) then (J38_1) else (if (σ.1 0 11) ≤ (σ.1 0 12) then (J38_1) else ((σ.2.2 0 9).bind fun v2 =>
  (u_rI ZM σ 2 v2 (σ.1 0 12)).bind fun v3 =>
  some (v3 &&& 255)))
set_option maxRecDepth 100000 in
set_option maxHeartbeats 4000000 in
theorem c_X12_here (l : Launch) (G : uG) (N : Nat) (σ : uS) (z : Int32) (hz : f_X12_here N σ = some z) : u_Mi l ZM G yX12_here cX12_here 1 .int 0 [.ref (G.2.2 0)] σ z σ := by
  refine u_Mi_of RX12 (by decide) rfl (Nat.le_of_ble_eq_true rfl) ?_
  intro p e s m args below meth c ls cx hw hl
  have hx := cx.1
  have hb := cx.2.1
  have hl : lv_has ls 1 [(0, .ref (G.2.2 0))] := hl
  unfold f_X12_here at hz
  refine lv_aload_n hx hb dX12_here_0 rfl (lv_at hl 0 rfl) ?_
  refine u_geti cx hw F_X12_110 o_X12 rfl dX12_here_1 ?_
  refine lv_aload_n hx hb dX12_here_4 rfl (lv_at hl 0 rfl) ?_
  refine u_geti cx hw F_X12_104 o_X12 rfl dX12_here_5 ?_
  obtain ⟨J38_1, eJ38_1, hz⟩ := u_let hz
  have WJ38_1 : ∀ (H : Heap) (locs : List Loc) (ls : Array Slot), J38_1 = some z → u_W ZM G σ s H locs → lv_has ls 1 [] → W p l e (u_rm 0) s m args below meth c H locs 0 0 (u_Qi below ZM G s args z σ) (F0 m 38 ls []) := by
    intro H locs ls hz hw hl
    rw [eJ38_1] at hz
    refine lv_iconst (v := (-1)) hx hb dX12_here_38 (by decide) ?_
    exact u_iret cx hw ⟨Option.some.inj hz, rfl⟩ dX12_here_39
  refine lv_icmp_ge (tgt := 38) hx hb dX12_here_8 (by decide) (fun hc => ?_) (fun hc => ?_)
  · replace hz := u_ift hz hc
    exact WJ38_1 _ _ _ hz hw (lv_sub hl [] rfl)
  · replace hz := u_iff hz hc
    refine lv_aload_n hx hb dX12_here_11 rfl (lv_at hl 0 rfl) ?_
    refine u_geti cx hw F_X12_110 o_X12 rfl dX12_here_12 ?_
    refine lv_aload_n hx hb dX12_here_15 rfl (lv_at hl 0 rfl) ?_
    refine u_geti cx hw F_X12_107 o_X12 rfl dX12_here_16 ?_
    refine lv_icmp_ge (tgt := 38) hx hb dX12_here_19 (by decide) (fun hc => ?_) (fun hc => ?_)
    · replace hz := u_ift hz hc
      exact WJ38_1 _ _ _ hz hw (lv_sub hl [] rfl)
    · replace hz := u_iff hz hc
      refine lv_aload_n hx hb dX12_here_22 rfl (lv_at hl 0 rfl) ?_
      obtain ⟨v2, hv2, hz⟩ := u_bind hz
      refine u_getr cx hw F_X12_101 o_X12 rfl hv2 dX12_here_23 ?_
      refine lv_aload_n hx hb dX12_here_26 rfl (lv_at hl 0 rfl) ?_
      refine u_geti cx hw F_X12_110 o_X12 rfl dX12_here_27 ?_
      obtain ⟨v3, hv3, hz⟩ := u_bind hz
      refine u_bald cx hw hv3 dX12_here_30 ?_
      refine lv_sipush (v := 255) hx hb dX12_here_31 (by decide) ?_
      refine lv_iand hx hb dX12_here_34 ?_
      refine lv_goto (tgt := 39) hx hb dX12_here_35 (by decide) ?_
      exact u_iret cx hw ⟨Option.some.inj hz, rfl⟩ dX12_here_39
theorem dX12_fine_0 : decode cX12_fine 0 = .ok (.aload_n 0, 1) := by decide +kernel
theorem dX12_fine_1 : decode cX12_fine 1 = .ok (.getfield 113, 3) := by decide +kernel
theorem dX12_fine_4 : decode cX12_fine 4 = .ok (.iconst (-1), 1) := by decide +kernel
theorem dX12_fine_5 : decode cX12_fine 5 = .ok (.if_icmp .ne 7, 3) := by decide +kernel
theorem dX12_fine_8 : decode cX12_fine 8 = .ok (.iconst 1, 1) := by decide +kernel
theorem dX12_fine_9 : decode cX12_fine 9 = .ok (.goto 4, 3) := by decide +kernel
theorem dX12_fine_12 : decode cX12_fine 12 = .ok (.iconst 0, 1) := by decide +kernel
theorem dX12_fine_13 : decode cX12_fine 13 = .ok (.ireturn, 1) := by decide +kernel
def f_X12_fine (N : Nat) (σ : uS) : Option Int32 := if (σ.1 0 13) = (-1) then (some 1) else (some 0)
set_option maxRecDepth 100000 in
set_option maxHeartbeats 4000000 in
theorem c_X12_fine (l : Launch) (G : uG) (N : Nat) (σ : uS) (z : Int32) (hz : f_X12_fine N σ = some z) : u_Mi l ZM G yX12_fine cX12_fine 1 .boolean 0 [.ref (G.2.2 0)] σ z σ := by
  refine u_Mi_of RX12 (by decide) rfl (Nat.le_of_ble_eq_true rfl) ?_
  intro p e s m args below meth c ls cx hw hl
  have hx := cx.1
  have hb := cx.2.1
  have hl : lv_has ls 1 [(0, .ref (G.2.2 0))] := hl
  unfold f_X12_fine at hz
  refine lv_aload_n hx hb dX12_fine_0 rfl (lv_at hl 0 rfl) ?_
  refine u_geti cx hw F_X12_113 o_X12 rfl dX12_fine_1 ?_
  refine lv_iconst (v := (-1)) hx hb dX12_fine_4 (by decide) ?_
  refine lv_icmp_ne (tgt := 12) hx hb dX12_fine_5 (by decide) (fun hc => ?_) (fun hc => ?_)
  · replace hz := u_iff hz hc
    refine lv_iconst (v := 0) hx hb dX12_fine_12 (by decide) ?_
    exact u_zret cx hw (Or.inl rfl) ⟨Option.some.inj hz, rfl⟩ dX12_fine_13
  · replace hz := u_ift hz hc
    refine lv_iconst (v := 1) hx hb dX12_fine_8 (by decide) ?_
    refine lv_goto (tgt := 13) hx hb dX12_fine_9 (by decide) ?_
    exact u_zret cx hw (Or.inr rfl) ⟨Option.some.inj hz, rfl⟩ dX12_fine_13
theorem dX12_fault_0 : decode cX12_fault 0 = .ok (.aload_n 0, 1) := by decide +kernel
theorem dX12_fault_1 : decode cX12_fault 1 = .ok (.invokevirtual 120, 3) := by decide +kernel
theorem dX12_fault_4 : decode cX12_fault 4 = .ok (.ifCond .eq 8, 3) := by decide +kernel
theorem dX12_fault_7 : decode cX12_fault 7 = .ok (.aload_n 0, 1) := by decide +kernel
theorem dX12_fault_8 : decode cX12_fault 8 = .ok (.iload_n 1, 1) := by decide +kernel
theorem dX12_fault_9 : decode cX12_fault 9 = .ok (.putfield 113, 3) := by decide +kernel
theorem dX12_fault_12 : decode cX12_fault 12 = .ok (.return_, 1) := by decide +kernel
def f_X12_fault (N : Nat) (σ : uS) (p1 : Int32) : Option uS := (f_X12_fine N σ).bind fun v1 =>
  if v1 = 0 then (some σ) else (u_jn (u_pI σ 0 13 p1) fun s2 =>
  some s2)
set_option maxRecDepth 100000 in
set_option maxHeartbeats 4000000 in
theorem c_X12_fault (l : Launch) (G : uG) (N : Nat) (σ : uS) (p1 : Int32) (z : uS) (hz : f_X12_fault N σ p1 = some z) : u_Mv l ZM G yX12_fault cX12_fault 2 1 [.ref (G.2.2 0), .int p1] σ z := by
  refine u_Mv_of RX12 (by decide) rfl (Nat.le_of_ble_eq_true rfl) ?_
  intro p e s m args below meth c ls cx hw hl
  have hx := cx.1
  have hb := cx.2.1
  have hl : lv_has ls 2 [(0, .ref (G.2.2 0)), (1, .int p1)] := hl
  unfold f_X12_fault at hz
  refine lv_aload_n hx hb dX12_fault_0 rfl (lv_at hl 0 rfl) ?_
  obtain ⟨v1, hv1, hz⟩ := u_bind hz
  refine u_callVi (As := []) (rest := []) cx hw LV_X12_120 (c_X12_fine l G N σ v1 hv1) o_X12 rfl (by decide) hl.1 rfl (Nat.le_of_ble_eq_true rfl) dX12_fault_1 rfl (fun H locs hw => ?_)
  refine lv_if_eq (tgt := 12) hx hb dX12_fault_4 (by decide) (fun hc => ?_) (fun hc => ?_)
  · replace hz := u_ift hz hc
    exact u_vret cx hw (Option.some.inj hz) dX12_fault_12
  · replace hz := u_iff hz hc
    refine lv_aload_n hx hb dX12_fault_7 rfl (lv_at hl 0 rfl) ?_
    refine lv_iload_n hx hb dX12_fault_8 rfl (lv_at hl 1 rfl) ?_
    obtain ⟨s2, es2, hz⟩ := u_let hz
    refine u_puti2 cx hw P_X12_113 o_X12 rfl es2 dX12_fault_9 (fun H locs hw => ?_)
    exact u_vret cx hw (Option.some.inj hz) dX12_fault_12
theorem dX12_passes_0 : decode cX12_passes 0 = .ok (.aload_n 0, 1) := by decide +kernel
theorem dX12_passes_1 : decode cX12_passes 1 = .ok (.invokevirtual 120, 3) := by decide +kernel
theorem dX12_passes_4 : decode cX12_passes 4 = .ok (.ifCond .eq 11, 3) := by decide +kernel
theorem dX12_passes_7 : decode cX12_passes 7 = .ok (.aload_n 0, 1) := by decide +kernel
theorem dX12_passes_8 : decode cX12_passes 8 = .ok (.invokevirtual 124, 3) := by decide +kernel
theorem dX12_passes_11 : decode cX12_passes 11 = .ok (.iload_n 1, 1) := by decide +kernel
theorem dX12_passes_12 : decode cX12_passes 12 = .ok (.if_icmp .eq 5, 3) := by decide +kernel
theorem dX12_passes_15 : decode cX12_passes 15 = .ok (.iconst 0, 1) := by decide +kernel
theorem dX12_passes_16 : decode cX12_passes 16 = .ok (.ireturn, 1) := by decide +kernel
theorem dX12_passes_17 : decode cX12_passes 17 = .ok (.aload_n 0, 1) := by decide +kernel
theorem dX12_passes_18 : decode cX12_passes 18 = .ok (.dup, 1) := by decide +kernel
theorem dX12_passes_19 : decode cX12_passes 19 = .ok (.getfield 110, 3) := by decide +kernel
theorem dX12_passes_22 : decode cX12_passes 22 = .ok (.iconst 1, 1) := by decide +kernel
theorem dX12_passes_23 : decode cX12_passes 23 = .ok (.iadd, 1) := by decide +kernel
theorem dX12_passes_24 : decode cX12_passes 24 = .ok (.putfield 110, 3) := by decide +kernel
theorem dX12_passes_27 : decode cX12_passes 27 = .ok (.iconst 1, 1) := by decide +kernel
theorem dX12_passes_28 : decode cX12_passes 28 = .ok (.ireturn, 1) := by decide +kernel
def f_X12_passes (N : Nat) (σ : uS) (p1 : Int32) : Option (Int32 × uS) := (f_X12_fine N σ).bind fun v1 =>
  if v1 = 0 then (some (0, σ)) else ((f_X12_here N σ).bind fun v2 =>
  if v2 = p1 then (u_jn (u_pI σ 0 12 ((σ.1 0 12) + 1)) fun s3 =>
  some (1, s3)) else (some (0, σ)))
set_option maxRecDepth 100000 in
set_option maxHeartbeats 4000000 in
theorem c_X12_passes (l : Launch) (G : uG) (N : Nat) (σ : uS) (p1 : Int32) (z : (Int32 × uS)) (hz : f_X12_passes N σ p1 = some z) : u_Mi l ZM G yX12_passes cX12_passes 2 .boolean 1 [.ref (G.2.2 0), .int p1] σ z.1 z.2 := by
  refine u_Mi_of RX12 (by decide) rfl (Nat.le_of_ble_eq_true rfl) ?_
  intro p e s m args below meth c ls cx hw hl
  have hx := cx.1
  have hb := cx.2.1
  have hl : lv_has ls 2 [(0, .ref (G.2.2 0)), (1, .int p1)] := hl
  unfold f_X12_passes at hz
  refine lv_aload_n hx hb dX12_passes_0 rfl (lv_at hl 0 rfl) ?_
  obtain ⟨v1, hv1, hz⟩ := u_bind hz
  refine u_callVi (As := []) (rest := []) cx hw LV_X12_120 (c_X12_fine l G N σ v1 hv1) o_X12 rfl (by decide) hl.1 rfl (Nat.le_of_ble_eq_true rfl) dX12_passes_1 rfl (fun H locs hw => ?_)
  refine lv_if_eq (tgt := 15) hx hb dX12_passes_4 (by decide) (fun hc => ?_) (fun hc => ?_)
  · replace hz := u_ift hz hc
    refine lv_iconst (v := 0) hx hb dX12_passes_15 (by decide) ?_
    exact u_zret cx hw (Or.inl rfl) (u_pair hz) dX12_passes_16
  · replace hz := u_iff hz hc
    refine lv_aload_n hx hb dX12_passes_7 rfl (lv_at hl 0 rfl) ?_
    obtain ⟨v2, hv2, hz⟩ := u_bind hz
    refine u_callVi (As := []) (rest := []) cx hw LV_X12_124 (c_X12_here l G N σ v2 hv2) o_X12 rfl (by decide) hl.1 rfl (Nat.le_of_ble_eq_true rfl) dX12_passes_8 rfl (fun H locs hw => ?_)
    refine lv_iload_n hx hb dX12_passes_11 rfl (lv_at hl 1 rfl) ?_
    refine lv_icmp_eq (tgt := 17) hx hb dX12_passes_12 (by decide) (fun hc => ?_) (fun hc => ?_)
    · replace hz := u_ift hz hc
      refine lv_aload_n hx hb dX12_passes_17 rfl (lv_at hl 0 rfl) ?_
      refine lv_dup hx hb dX12_passes_18 rfl ?_
      refine u_geti cx hw F_X12_110 o_X12 rfl dX12_passes_19 ?_
      refine lv_iconst (v := 1) hx hb dX12_passes_22 (by decide) ?_
      refine lv_iadd hx hb dX12_passes_23 ?_
      obtain ⟨s3, es3, hz⟩ := u_let hz
      refine u_puti2 cx hw P_X12_110 o_X12 rfl es3 dX12_passes_24 (fun H locs hw => ?_)
      refine lv_iconst (v := 1) hx hb dX12_passes_27 (by decide) ?_
      exact u_zret cx hw (Or.inr rfl) (u_pair hz) dX12_passes_28
    · replace hz := u_iff hz hc
      refine lv_iconst (v := 0) hx hb dX12_passes_15 (by decide) ?_
      exact u_zret cx hw (Or.inl rfl) (u_pair hz) dX12_passes_16
theorem dX12_need_0 : decode cX12_need 0 = .ok (.aload_n 0, 1) := by decide +kernel
theorem dX12_need_1 : decode cX12_need 1 = .ok (.iload_n 1, 1) := by decide +kernel
theorem dX12_need_2 : decode cX12_need 2 = .ok (.invokevirtual 127, 3) := by decide +kernel
theorem dX12_need_5 : decode cX12_need 5 = .ok (.ifCond .ne 11, 3) := by decide +kernel
theorem dX12_need_8 : decode cX12_need 8 = .ok (.aload_n 0, 1) := by decide +kernel
theorem dX12_need_9 : decode cX12_need 9 = .ok (.aload_n 0, 1) := by decide +kernel
theorem dX12_need_10 : decode cX12_need 10 = .ok (.getfield 110, 3) := by decide +kernel
theorem dX12_need_13 : decode cX12_need 13 = .ok (.invokevirtual 131, 3) := by decide +kernel
theorem dX12_need_16 : decode cX12_need 16 = .ok (.return_, 1) := by decide +kernel
def f_X12_need (N : Nat) (σ : uS) (p1 : Int32) : Option uS := (f_X12_passes N σ p1).bind fun v1 =>
  if v1.1 = 0 then ((f_X12_fault N v1.2 (v1.2.1 0 12)).bind fun s2 =>
  some s2) else (some v1.2)
set_option maxRecDepth 100000 in
set_option maxHeartbeats 4000000 in
theorem c_X12_need (l : Launch) (G : uG) (N : Nat) (σ : uS) (p1 : Int32) (z : uS) (hz : f_X12_need N σ p1 = some z) : u_Mv l ZM G yX12_need cX12_need 2 2 [.ref (G.2.2 0), .int p1] σ z := by
  refine u_Mv_of RX12 (by decide) rfl (Nat.le_of_ble_eq_true rfl) ?_
  intro p e s m args below meth c ls cx hw hl
  have hx := cx.1
  have hb := cx.2.1
  have hl : lv_has ls 2 [(0, .ref (G.2.2 0)), (1, .int p1)] := hl
  unfold f_X12_need at hz
  refine lv_aload_n hx hb dX12_need_0 rfl (lv_at hl 0 rfl) ?_
  refine lv_iload_n hx hb dX12_need_1 rfl (lv_at hl 1 rfl) ?_
  obtain ⟨v1, hv1, hz⟩ := u_bind hz
  refine u_callVi (As := [.int p1]) (rest := []) cx hw LV_X12_127 (c_X12_passes l G N σ p1 v1 hv1) o_X12 rfl (by decide) hl.1 rfl (Nat.le_of_ble_eq_true rfl) dX12_need_2 rfl (fun H locs hw => ?_)
  refine lv_if_ne (tgt := 16) hx hb dX12_need_5 (by decide) (fun hc => ?_) (fun hc => ?_)
  · replace hz := u_iff hz hc
    exact u_vret cx hw (Option.some.inj hz) dX12_need_16
  · replace hz := u_ift hz hc
    refine lv_aload_n hx hb dX12_need_8 rfl (lv_at hl 0 rfl) ?_
    refine lv_aload_n hx hb dX12_need_9 rfl (lv_at hl 0 rfl) ?_
    refine u_geti cx hw F_X12_110 o_X12 rfl dX12_need_10 ?_
    obtain ⟨s2, hs2, hz⟩ := u_bind hz
    refine u_callVv (As := [.int (v1.2.1 0 12)]) (rest := []) cx hw LV_X12_131 (c_X12_fault l G N v1.2 (v1.2.1 0 12) s2 hs2) o_X12 rfl (by decide) hl.1 rfl (Nat.le_of_ble_eq_true rfl) dX12_need_13 rfl (fun H locs hw => ?_)
    exact u_vret cx hw (Option.some.inj hz) dX12_need_16
theorem dX12_oneOf_0 : decode cX12_oneOf 0 = .ok (.aload_n 0, 1) := by decide +kernel
theorem dX12_oneOf_1 : decode cX12_oneOf 1 = .ok (.invokevirtual 120, 3) := by decide +kernel
theorem dX12_oneOf_4 : decode cX12_oneOf 4 = .ok (.ifCond .ne 5, 3) := by decide +kernel
theorem dX12_oneOf_7 : decode cX12_oneOf 7 = .ok (.iconst 0, 1) := by decide +kernel
theorem dX12_oneOf_8 : decode cX12_oneOf 8 = .ok (.ireturn, 1) := by decide +kernel
theorem dX12_oneOf_9 : decode cX12_oneOf 9 = .ok (.aload_n 0, 1) := by decide +kernel
theorem dX12_oneOf_10 : decode cX12_oneOf 10 = .ok (.invokevirtual 124, 3) := by decide +kernel
theorem dX12_oneOf_13 : decode cX12_oneOf 13 = .ok (.iload_n 1, 1) := by decide +kernel
theorem dX12_oneOf_14 : decode cX12_oneOf 14 = .ok (.iload_n 1, 1) := by decide +kernel
theorem dX12_oneOf_15 : decode cX12_oneOf 15 = .ok (.iload_n 2, 1) := by decide +kernel
theorem dX12_oneOf_16 : decode cX12_oneOf 16 = .ok (.iadd, 1) := by decide +kernel
theorem dX12_oneOf_17 : decode cX12_oneOf 17 = .ok (.iconst 1, 1) := by decide +kernel
theorem dX12_oneOf_18 : decode cX12_oneOf 18 = .ok (.isub, 1) := by decide +kernel
theorem dX12_oneOf_19 : decode cX12_oneOf 19 = .ok (.invokestatic 86, 3) := by decide +kernel
theorem dX12_oneOf_22 : decode cX12_oneOf 22 = .ok (.ifCond .ne 13, 3) := by decide +kernel
theorem dX12_oneOf_25 : decode cX12_oneOf 25 = .ok (.aload_n 0, 1) := by decide +kernel
theorem dX12_oneOf_26 : decode cX12_oneOf 26 = .ok (.aload_n 0, 1) := by decide +kernel
theorem dX12_oneOf_27 : decode cX12_oneOf 27 = .ok (.getfield 110, 3) := by decide +kernel
theorem dX12_oneOf_30 : decode cX12_oneOf 30 = .ok (.invokevirtual 131, 3) := by decide +kernel
theorem dX12_oneOf_33 : decode cX12_oneOf 33 = .ok (.iconst 0, 1) := by decide +kernel
theorem dX12_oneOf_34 : decode cX12_oneOf 34 = .ok (.ireturn, 1) := by decide +kernel
theorem dX12_oneOf_35 : decode cX12_oneOf 35 = .ok (.aload_n 0, 1) := by decide +kernel
theorem dX12_oneOf_36 : decode cX12_oneOf 36 = .ok (.dup, 1) := by decide +kernel
theorem dX12_oneOf_37 : decode cX12_oneOf 37 = .ok (.getfield 110, 3) := by decide +kernel
theorem dX12_oneOf_40 : decode cX12_oneOf 40 = .ok (.iconst 1, 1) := by decide +kernel
theorem dX12_oneOf_41 : decode cX12_oneOf 41 = .ok (.iadd, 1) := by decide +kernel
theorem dX12_oneOf_42 : decode cX12_oneOf 42 = .ok (.putfield 110, 3) := by decide +kernel
theorem dX12_oneOf_45 : decode cX12_oneOf 45 = .ok (.aload_n 0, 1) := by decide +kernel
theorem dX12_oneOf_46 : decode cX12_oneOf 46 = .ok (.getfield 101, 3) := by decide +kernel
theorem dX12_oneOf_49 : decode cX12_oneOf 49 = .ok (.aload_n 0, 1) := by decide +kernel
theorem dX12_oneOf_50 : decode cX12_oneOf 50 = .ok (.getfield 110, 3) := by decide +kernel
theorem dX12_oneOf_53 : decode cX12_oneOf 53 = .ok (.iconst 1, 1) := by decide +kernel
theorem dX12_oneOf_54 : decode cX12_oneOf 54 = .ok (.isub, 1) := by decide +kernel
theorem dX12_oneOf_55 : decode cX12_oneOf 55 = .ok (.baload, 1) := by decide +kernel
theorem dX12_oneOf_56 : decode cX12_oneOf 56 = .ok (.iload_n 1, 1) := by decide +kernel
theorem dX12_oneOf_57 : decode cX12_oneOf 57 = .ok (.isub, 1) := by decide +kernel
theorem dX12_oneOf_58 : decode cX12_oneOf 58 = .ok (.ireturn, 1) := by decide +kernel
def f_X12_oneOf (N : Nat) (σ : uS) (p1 : Int32) (p2 : Int32) : Option (Int32 × uS) := (f_X12_fine N σ).bind fun v1 =>
  if v1 = 0 then (some (0, σ)) else ((f_X12_here N σ).bind fun v2 =>
  (f_X12_in N σ v2 p1 ((p1 + p2) - 1)).bind fun v3 =>
  if v3 = 0 then ((f_X12_fault N σ (σ.1 0 12)).bind fun s7 =>
  some (0, s7)) else (u_jn (u_pI σ 0 12 ((σ.1 0 12) + 1)) fun s4 =>
  (s4.2.2 0 9).bind fun v5 =>
  (u_rI ZM s4 2 v5 ((s4.1 0 12) - 1)).bind fun v6 =>
  some ((v6 - p1), s4)))
set_option maxRecDepth 100000 in
set_option maxHeartbeats 4000000 in
theorem c_X12_oneOf (l : Launch) (G : uG) (N : Nat) (σ : uS) (p1 : Int32) (p2 : Int32) (z : (Int32 × uS)) (hz : f_X12_oneOf N σ p1 p2 = some z) : u_Mi l ZM G yX12_oneOf cX12_oneOf 3 .int 2 [.ref (G.2.2 0), .int p1, .int p2] σ z.1 z.2 := by
  refine u_Mi_of RX12 (by decide) rfl (Nat.le_of_ble_eq_true rfl) ?_
  intro p e s m args below meth c ls cx hw hl
  have hx := cx.1
  have hb := cx.2.1
  have hl : lv_has ls 3 [(0, .ref (G.2.2 0)), (1, .int p1), (2, .int p2)] := hl
  unfold f_X12_oneOf at hz
  refine lv_aload_n hx hb dX12_oneOf_0 rfl (lv_at hl 0 rfl) ?_
  obtain ⟨v1, hv1, hz⟩ := u_bind hz
  refine u_callVi (As := []) (rest := []) cx hw LV_X12_120 (c_X12_fine l G N σ v1 hv1) o_X12 rfl (by decide) hl.1 rfl (Nat.le_of_ble_eq_true rfl) dX12_oneOf_1 rfl (fun H locs hw => ?_)
  refine lv_if_ne (tgt := 9) hx hb dX12_oneOf_4 (by decide) (fun hc => ?_) (fun hc => ?_)
  · replace hz := u_iff hz hc
    refine lv_aload_n hx hb dX12_oneOf_9 rfl (lv_at hl 0 rfl) ?_
    obtain ⟨v2, hv2, hz⟩ := u_bind hz
    refine u_callVi (As := []) (rest := []) cx hw LV_X12_124 (c_X12_here l G N σ v2 hv2) o_X12 rfl (by decide) hl.1 rfl (Nat.le_of_ble_eq_true rfl) dX12_oneOf_10 rfl (fun H locs hw => ?_)
    refine lv_iload_n hx hb dX12_oneOf_13 rfl (lv_at hl 1 rfl) ?_
    refine lv_iload_n hx hb dX12_oneOf_14 rfl (lv_at hl 1 rfl) ?_
    refine lv_iload_n hx hb dX12_oneOf_15 rfl (lv_at hl 2 rfl) ?_
    refine lv_iadd hx hb dX12_oneOf_16 ?_
    refine lv_iconst (v := 1) hx hb dX12_oneOf_17 (by decide) ?_
    refine lv_isub hx hb dX12_oneOf_18 ?_
    obtain ⟨v3, hv3, hz⟩ := u_bind hz
    refine u_callSi (As := [.int v2, .int p1, .int ((p1 + p2) - 1)]) (rest := []) cx hw LS_X12_86 (c_X12_in l G N σ v2 p1 ((p1 + p2) - 1) v3 hv3) (by decide) hl.1 rfl (Nat.le_of_ble_eq_true rfl) dX12_oneOf_19 rfl (fun H locs hw => ?_)
    refine lv_if_ne (tgt := 35) hx hb dX12_oneOf_22 (by decide) (fun hc => ?_) (fun hc => ?_)
    · replace hz := u_iff hz hc
      refine lv_aload_n hx hb dX12_oneOf_35 rfl (lv_at hl 0 rfl) ?_
      refine lv_dup hx hb dX12_oneOf_36 rfl ?_
      refine u_geti cx hw F_X12_110 o_X12 rfl dX12_oneOf_37 ?_
      refine lv_iconst (v := 1) hx hb dX12_oneOf_40 (by decide) ?_
      refine lv_iadd hx hb dX12_oneOf_41 ?_
      obtain ⟨s4, es4, hz⟩ := u_let hz
      refine u_puti2 cx hw P_X12_110 o_X12 rfl es4 dX12_oneOf_42 (fun H locs hw => ?_)
      refine lv_aload_n hx hb dX12_oneOf_45 rfl (lv_at hl 0 rfl) ?_
      obtain ⟨v5, hv5, hz⟩ := u_bind hz
      refine u_getr cx hw F_X12_101 o_X12 rfl hv5 dX12_oneOf_46 ?_
      refine lv_aload_n hx hb dX12_oneOf_49 rfl (lv_at hl 0 rfl) ?_
      refine u_geti cx hw F_X12_110 o_X12 rfl dX12_oneOf_50 ?_
      refine lv_iconst (v := 1) hx hb dX12_oneOf_53 (by decide) ?_
      refine lv_isub hx hb dX12_oneOf_54 ?_
      obtain ⟨v6, hv6, hz⟩ := u_bind hz
      refine u_bald cx hw hv6 dX12_oneOf_55 ?_
      refine lv_iload_n hx hb dX12_oneOf_56 rfl (lv_at hl 1 rfl) ?_
      refine lv_isub hx hb dX12_oneOf_57 ?_
      exact u_iret cx hw (u_pair hz) dX12_oneOf_58
    · replace hz := u_ift hz hc
      refine lv_aload_n hx hb dX12_oneOf_25 rfl (lv_at hl 0 rfl) ?_
      refine lv_aload_n hx hb dX12_oneOf_26 rfl (lv_at hl 0 rfl) ?_
      refine u_geti cx hw F_X12_110 o_X12 rfl dX12_oneOf_27 ?_
      obtain ⟨s7, hs7, hz⟩ := u_bind hz
      refine u_callVv (As := [.int (σ.1 0 12)]) (rest := []) cx hw LV_X12_131 (c_X12_fault l G N σ (σ.1 0 12) s7 hs7) o_X12 rfl (by decide) hl.1 rfl (Nat.le_of_ble_eq_true rfl) dX12_oneOf_30 rfl (fun H locs hw => ?_)
      refine lv_iconst (v := 0) hx hb dX12_oneOf_33 (by decide) ?_
      exact u_iret cx hw (u_pair hz) dX12_oneOf_34
  · replace hz := u_ift hz hc
    refine lv_iconst (v := 0) hx hb dX12_oneOf_7 (by decide) ?_
    exact u_iret cx hw (u_pair hz) dX12_oneOf_8
theorem dX12_number_0 : decode cX12_number 0 = .ok (.aload_n 0, 1) := by decide +kernel
theorem dX12_number_1 : decode cX12_number 1 = .ok (.bipush 48, 2) := by decide +kernel
theorem dX12_number_3 : decode cX12_number 3 = .ok (.bipush 10, 2) := by decide +kernel
theorem dX12_number_5 : decode cX12_number 5 = .ok (.invokevirtual 135, 3) := by decide +kernel
theorem dX12_number_8 : decode cX12_number 8 = .ok (.istore_n 2, 1) := by decide +kernel
theorem dX12_number_9 : decode cX12_number 9 = .ok (.iconst 1, 1) := by decide +kernel
theorem dX12_number_10 : decode cX12_number 10 = .ok (.istore_n 3, 1) := by decide +kernel
theorem dX12_number_11 : decode cX12_number 11 = .ok (.iload_n 3, 1) := by decide +kernel
theorem dX12_number_12 : decode cX12_number 12 = .ok (.iload_n 1, 1) := by decide +kernel
theorem dX12_number_13 : decode cX12_number 13 = .ok (.if_icmp .ge 44, 3) := by decide +kernel
theorem dX12_number_16 : decode cX12_number 16 = .ok (.aload_n 0, 1) := by decide +kernel
theorem dX12_number_17 : decode cX12_number 17 = .ok (.invokevirtual 120, 3) := by decide +kernel
theorem dX12_number_20 : decode cX12_number 20 = .ok (.ifCond .eq 37, 3) := by decide +kernel
theorem dX12_number_23 : decode cX12_number 23 = .ok (.aload_n 0, 1) := by decide +kernel
theorem dX12_number_24 : decode cX12_number 24 = .ok (.invokevirtual 124, 3) := by decide +kernel
theorem dX12_number_27 : decode cX12_number 27 = .ok (.bipush 48, 2) := by decide +kernel
theorem dX12_number_29 : decode cX12_number 29 = .ok (.bipush 57, 2) := by decide +kernel
theorem dX12_number_31 : decode cX12_number 31 = .ok (.invokestatic 86, 3) := by decide +kernel
theorem dX12_number_34 : decode cX12_number 34 = .ok (.ifCond .eq 23, 3) := by decide +kernel
theorem dX12_number_37 : decode cX12_number 37 = .ok (.bipush 10, 2) := by decide +kernel
theorem dX12_number_39 : decode cX12_number 39 = .ok (.iload_n 2, 1) := by decide +kernel
theorem dX12_number_40 : decode cX12_number 40 = .ok (.imul, 1) := by decide +kernel
theorem dX12_number_41 : decode cX12_number 41 = .ok (.aload_n 0, 1) := by decide +kernel
theorem dX12_number_42 : decode cX12_number 42 = .ok (.bipush 48, 2) := by decide +kernel
theorem dX12_number_44 : decode cX12_number 44 = .ok (.bipush 10, 2) := by decide +kernel
theorem dX12_number_46 : decode cX12_number 46 = .ok (.invokevirtual 135, 3) := by decide +kernel
theorem dX12_number_49 : decode cX12_number 49 = .ok (.iadd, 1) := by decide +kernel
theorem dX12_number_50 : decode cX12_number 50 = .ok (.istore_n 2, 1) := by decide +kernel
theorem dX12_number_51 : decode cX12_number 51 = .ok (.iinc 3 1, 3) := by decide +kernel
theorem dX12_number_54 : decode cX12_number 54 = .ok (.goto (-43), 3) := by decide +kernel
theorem dX12_number_57 : decode cX12_number 57 = .ok (.iload_n 2, 1) := by decide +kernel
theorem dX12_number_58 : decode cX12_number 58 = .ok (.ireturn, 1) := by decide +kernel
def b_X12_number_11 (N : Nat) (p1 : Int32) (J57_4 : uS → Int32 → Option (Int32 × uS)) (rec11_8 : uS → Int32 → Int32 → Option (Int32 × uS)) (s5 : uS) (x6 : Int32) (x7 : Int32) : Option (Int32 × uS) :=
  if p1 ≤ x7 then (J57_4 s5 x6) else ((f_X12_fine N s5).bind fun v9 =>
  if v9 = 0 then (J57_4 s5 x6) else ((f_X12_here N s5).bind fun v10 =>
  (f_X12_in N s5 v10 48 57).bind fun v11 =>
  if v11 = 0 then (J57_4 s5 x6) else ((f_X12_oneOf N s5 48 10).bind fun v12 =>
  u_jn (((10 * x6) + v12.1) : Int32) fun x13 =>
  u_jn (x7 + 1 : Int32) fun x14 =>
  rec11_8 v12.2 x13 x14)))
def f_X12_number (N : Nat) (σ : uS) (p1 : Int32) : Option (Int32 × uS) := (f_X12_oneOf N σ 48 10).bind fun v1 =>
  u_jn (fun (s2 : uS) (x3 : Int32) => (some (x3, s2) : Option (Int32 × uS))) fun J57_4 =>
  u_lp3 (b_X12_number_11 N p1 J57_4) N v1.2 v1.1 1
set_option maxRecDepth 100000 in
set_option maxHeartbeats 4000000 in
theorem c_X12_number (l : Launch) (G : uG) (N : Nat) (σ : uS) (p1 : Int32) (z : (Int32 × uS)) (hz : f_X12_number N σ p1 = some z) : u_Mi l ZM G yX12_number cX12_number 4 .int 3 [.ref (G.2.2 0), .int p1] σ z.1 z.2 := by
  refine u_Mi_of RX12 (by decide) rfl (Nat.le_of_ble_eq_true rfl) ?_
  intro p e s m args below meth c ls cx hw hl
  have hx := cx.1
  have hb := cx.2.1
  have hl : lv_has ls 4 [(0, .ref (G.2.2 0)), (1, .int p1)] := hl
  unfold f_X12_number at hz
  refine lv_aload_n hx hb dX12_number_0 rfl (lv_at hl 0 rfl) ?_
  refine lv_bipush (v := 48) hx hb dX12_number_1 (by decide) ?_
  refine lv_bipush (v := 10) hx hb dX12_number_3 (by decide) ?_
  obtain ⟨v1, hv1, hz⟩ := u_bind hz
  refine u_callVi (As := [.int 48, .int 10]) (rest := []) cx hw LV_X12_135 (c_X12_oneOf l G N σ 48 10 v1 hv1) o_X12 rfl (by decide) hl.1 rfl (Nat.le_of_ble_eq_true rfl) dX12_number_5 rfl (fun H locs hw => ?_)
  refine lv_istore_n (lv' := [(2, .int v1.1), (0, .ref (G.2.2 0)), (1, .int p1)]) hx hb dX12_number_8 rfl hl (by decide) rfl (fun ls hl => ?_)
  refine lv_iconst (v := 1) hx hb dX12_number_9 (by decide) ?_
  refine lv_istore_n (lv' := [(3, .int 1), (2, .int v1.1), (0, .ref (G.2.2 0)), (1, .int p1)]) hx hb dX12_number_10 rfl hl (by decide) rfl (fun ls hl => ?_)
  obtain ⟨J57_4, eJ57_4, hz⟩ := u_let hz
  have WJ57_4 : ∀ (s2 : uS) (x3 : Int32) (H : Heap) (locs : List Loc) (ls : Array Slot), J57_4 s2 x3 = some z → u_W ZM G s2 s H locs → lv_has ls 4 [(2, .int x3)] → W p l e (u_rm 3) s m args below meth c H locs 0 0 (u_Qi below ZM G s args z.1 z.2) (F0 m 57 ls []) := by
    intro s2 x3 H locs ls hz hw hl
    rw [eJ57_4] at hz
    refine lv_iload_n hx hb dX12_number_57 rfl (lv_at hl 0 rfl) ?_
    exact u_iret cx hw (u_pair hz) dX12_number_58
  have WL11_14 : ∀ (k : Nat) (s5 : uS) (x6 : Int32) (x7 : Int32) (H : Heap) (locs : List Loc) (ls : Array Slot), u_lp3 (b_X12_number_11 N p1 J57_4) k s5 x6 x7 = some z → u_W ZM G s5 s H locs → lv_has ls 4 [(0, .ref (G.2.2 0)), (1, .int p1), (2, .int x6), (3, .int x7)] → W p l e (u_rm 3) s m args below meth c H locs 0 0 (u_Qi below ZM G s args z.1 z.2) (F0 m 11 ls []) := by
    intro k
    induction k with
    | zero =>
      intro s5 x6 x7 H locs ls hz
      exact absurd hz (by intro h9; cases h9)
    | succ k ih11_8 =>
      intro s5 x6 x7 H locs ls hz hw hl
      have hz : (b_X12_number_11 N p1 J57_4) (u_lp3 (b_X12_number_11 N p1 J57_4) k) s5 x6 x7 = some z := hz
      unfold b_X12_number_11 at hz
      refine lv_iload_n hx hb dX12_number_11 rfl (lv_at hl 3 rfl) ?_
      refine lv_iload_n hx hb dX12_number_12 rfl (lv_at hl 1 rfl) ?_
      refine lv_icmp_ge (tgt := 57) hx hb dX12_number_13 (by decide) (fun hc => ?_) (fun hc => ?_)
      · replace hz := u_ift hz hc
        exact WJ57_4 s5 x6 _ _ _ hz hw (lv_sub hl [2] rfl)
      · replace hz := u_iff hz hc
        refine lv_aload_n hx hb dX12_number_16 rfl (lv_at hl 0 rfl) ?_
        obtain ⟨v9, hv9, hz⟩ := u_bind hz
        refine u_callVi (As := []) (rest := []) cx hw LV_X12_120 (c_X12_fine l G N s5 v9 hv9) o_X12 rfl (by decide) hl.1 rfl (Nat.le_of_ble_eq_true rfl) dX12_number_17 rfl (fun H locs hw => ?_)
        refine lv_if_eq (tgt := 57) hx hb dX12_number_20 (by decide) (fun hc => ?_) (fun hc => ?_)
        · replace hz := u_ift hz hc
          exact WJ57_4 s5 x6 _ _ _ hz hw (lv_sub hl [2] rfl)
        · replace hz := u_iff hz hc
          refine lv_aload_n hx hb dX12_number_23 rfl (lv_at hl 0 rfl) ?_
          obtain ⟨v10, hv10, hz⟩ := u_bind hz
          refine u_callVi (As := []) (rest := []) cx hw LV_X12_124 (c_X12_here l G N s5 v10 hv10) o_X12 rfl (by decide) hl.1 rfl (Nat.le_of_ble_eq_true rfl) dX12_number_24 rfl (fun H locs hw => ?_)
          refine lv_bipush (v := 48) hx hb dX12_number_27 (by decide) ?_
          refine lv_bipush (v := 57) hx hb dX12_number_29 (by decide) ?_
          obtain ⟨v11, hv11, hz⟩ := u_bind hz
          refine u_callSi (As := [.int v10, .int 48, .int 57]) (rest := []) cx hw LS_X12_86 (c_X12_in l G N s5 v10 48 57 v11 hv11) (by decide) hl.1 rfl (Nat.le_of_ble_eq_true rfl) dX12_number_31 rfl (fun H locs hw => ?_)
          refine lv_if_eq (tgt := 57) hx hb dX12_number_34 (by decide) (fun hc => ?_) (fun hc => ?_)
          · replace hz := u_ift hz hc
            exact WJ57_4 s5 x6 _ _ _ hz hw (lv_sub hl [2] rfl)
          · replace hz := u_iff hz hc
            refine lv_bipush (v := 10) hx hb dX12_number_37 (by decide) ?_
            refine lv_iload_n hx hb dX12_number_39 rfl (lv_at hl 2 rfl) ?_
            refine lv_imul hx hb dX12_number_40 ?_
            refine lv_aload_n hx hb dX12_number_41 rfl (lv_at hl 0 rfl) ?_
            refine lv_bipush (v := 48) hx hb dX12_number_42 (by decide) ?_
            refine lv_bipush (v := 10) hx hb dX12_number_44 (by decide) ?_
            obtain ⟨v12, hv12, hz⟩ := u_bind hz
            refine u_callVi (As := [.int 48, .int 10]) (rest := [.int (10 * x6)]) cx hw LV_X12_135 (c_X12_oneOf l G N s5 48 10 v12 hv12) o_X12 rfl (by decide) hl.1 rfl (Nat.le_of_ble_eq_true rfl) dX12_number_46 rfl (fun H locs hw => ?_)
            refine lv_iadd hx hb dX12_number_49 ?_
            obtain ⟨x13, ex13, hz⟩ := u_let hz
            refine u_topi ex13 ?_
            refine lv_istore_n (lv' := [(2, .int x13), (0, .ref (G.2.2 0)), (1, .int p1), (3, .int x7)]) hx hb dX12_number_50 rfl hl (by decide) rfl (fun ls hl => ?_)
            obtain ⟨x14, ex14, hz⟩ := u_let hz
            refine lv_iinc (v := x14) (lv' := [(3, .int x14), (2, .int x13), (0, .ref (G.2.2 0)), (1, .int p1)]) hx hb dX12_number_51 hl (k := 3) rfl (by rw [ex14]; rfl) (by decide) rfl (fun ls hl => ?_)
            refine lv_goto (tgt := 11) hx hb dX12_number_54 (by decide) ?_
            exact ih11_8 v12.2 x13 x14 _ _ _ hz hw (lv_sub hl [2, 3, 1, 0] rfl)
  exact WL11_14 N v1.2 v1.1 1 _ _ _ hz hw (lv_sub hl [2, 3, 1, 0] rfl)
theorem dX12_wasRight_0 : decode cX12_wasRight 0 = .ok (.aload_n 0, 1) := by decide +kernel
theorem dX12_wasRight_1 : decode cX12_wasRight 1 = .ok (.getfield 110, 3) := by decide +kernel
theorem dX12_wasRight_4 : decode cX12_wasRight 4 = .ok (.aload_n 0, 1) := by decide +kernel
theorem dX12_wasRight_5 : decode cX12_wasRight 5 = .ok (.getfield 104, 3) := by decide +kernel
theorem dX12_wasRight_8 : decode cX12_wasRight 8 = .ok (.if_icmp .ge 11, 3) := by decide +kernel
theorem dX12_wasRight_11 : decode cX12_wasRight 11 = .ok (.aload_n 0, 1) := by decide +kernel
theorem dX12_wasRight_12 : decode cX12_wasRight 12 = .ok (.aload_n 0, 1) := by decide +kernel
theorem dX12_wasRight_13 : decode cX12_wasRight 13 = .ok (.getfield 110, 3) := by decide +kernel
theorem dX12_wasRight_16 : decode cX12_wasRight 16 = .ok (.invokevirtual 131, 3) := by decide +kernel
theorem dX12_wasRight_19 : decode cX12_wasRight 19 = .ok (.aload_n 0, 1) := by decide +kernel
theorem dX12_wasRight_20 : decode cX12_wasRight 20 = .ok (.invokevirtual 120, 3) := by decide +kernel
theorem dX12_wasRight_23 : decode cX12_wasRight 23 = .ok (.ireturn, 1) := by decide +kernel
def f_X12_wasRight (N : Nat) (σ : uS) : Option (Int32 × uS) := u_jn (fun (s1 : uS) => ((f_X12_fine N s1).bind fun v3 =>
  u_ck (v3 = 0 ∨ v3 = 1) (some (v3, s1)) : Option (Int32 × uS))) fun J19_2 =>
  if (σ.1 0 10) ≤ (σ.1 0 12) then (J19_2 σ) else ((f_X12_fault N σ (σ.1 0 12)).bind fun s4 =>
  J19_2 s4)
set_option maxRecDepth 100000 in
set_option maxHeartbeats 4000000 in
theorem c_X12_wasRight (l : Launch) (G : uG) (N : Nat) (σ : uS) (z : (Int32 × uS)) (hz : f_X12_wasRight N σ = some z) : u_Mi l ZM G yX12_wasRight cX12_wasRight 1 .boolean 2 [.ref (G.2.2 0)] σ z.1 z.2 := by
  refine u_Mi_of RX12 (by decide) rfl (Nat.le_of_ble_eq_true rfl) ?_
  intro p e s m args below meth c ls cx hw hl
  have hx := cx.1
  have hb := cx.2.1
  have hl : lv_has ls 1 [(0, .ref (G.2.2 0))] := hl
  unfold f_X12_wasRight at hz
  refine lv_aload_n hx hb dX12_wasRight_0 rfl (lv_at hl 0 rfl) ?_
  refine u_geti cx hw F_X12_110 o_X12 rfl dX12_wasRight_1 ?_
  refine lv_aload_n hx hb dX12_wasRight_4 rfl (lv_at hl 0 rfl) ?_
  refine u_geti cx hw F_X12_104 o_X12 rfl dX12_wasRight_5 ?_
  obtain ⟨J19_2, eJ19_2, hz⟩ := u_let hz
  have WJ19_2 : ∀ (s1 : uS) (H : Heap) (locs : List Loc) (ls : Array Slot), J19_2 s1 = some z → u_W ZM G s1 s H locs → lv_has ls 1 [(0, .ref (G.2.2 0))] → W p l e (u_rm 2) s m args below meth c H locs 0 0 (u_Qi below ZM G s args z.1 z.2) (F0 m 19 ls []) := by
    intro s1 H locs ls hz hw hl
    rw [eJ19_2] at hz
    refine lv_aload_n hx hb dX12_wasRight_19 rfl (lv_at hl 0 rfl) ?_
    obtain ⟨v3, hv3, hz⟩ := u_bind hz
    refine u_callVi (As := []) (rest := []) cx hw LV_X12_120 (c_X12_fine l G N s1 v3 hv3) o_X12 rfl (by decide) hl.1 rfl (Nat.le_of_ble_eq_true rfl) dX12_wasRight_20 rfl (fun H locs hw => ?_)
    obtain ⟨h01, hz⟩ := u_ck_some hz
    exact u_zret cx hw h01 (u_pair hz) dX12_wasRight_23
  refine lv_icmp_ge (tgt := 19) hx hb dX12_wasRight_8 (by decide) (fun hc => ?_) (fun hc => ?_)
  · replace hz := u_ift hz hc
    exact WJ19_2 σ _ _ _ hz hw (lv_sub hl [0] rfl)
  · replace hz := u_iff hz hc
    refine lv_aload_n hx hb dX12_wasRight_11 rfl (lv_at hl 0 rfl) ?_
    refine lv_aload_n hx hb dX12_wasRight_12 rfl (lv_at hl 0 rfl) ?_
    refine u_geti cx hw F_X12_110 o_X12 rfl dX12_wasRight_13 ?_
    obtain ⟨s4, hs4, hz⟩ := u_bind hz
    refine u_callVv (As := [.int (σ.1 0 12)]) (rest := []) cx hw LV_X12_131 (c_X12_fault l G N σ (σ.1 0 12) s4 hs4) o_X12 rfl (by decide) hl.1 rfl (Nat.le_of_ble_eq_true rfl) dX12_wasRight_16 rfl (fun H locs hw => ?_)
    exact WJ19_2 s4 _ _ _ hz hw (lv_sub hl [0] rfl)
theorem dX12_told_0 : decode cX12_told 0 = .ok (.aload_n 0, 1) := by decide +kernel
theorem dX12_told_1 : decode cX12_told 1 = .ok (.iconst 0, 1) := by decide +kernel
theorem dX12_told_2 : decode cX12_told 2 = .ok (.putfield 139, 3) := by decide +kernel
theorem dX12_told_5 : decode cX12_told 5 = .ok (.aload_n 0, 1) := by decide +kernel
theorem dX12_told_6 : decode cX12_told 6 = .ok (.dup, 1) := by decide +kernel
theorem dX12_told_7 : decode cX12_told 7 = .ok (.getfield 142, 3) := by decide +kernel
theorem dX12_told_10 : decode cX12_told 10 = .ok (.iconst 1, 1) := by decide +kernel
theorem dX12_told_11 : decode cX12_told 11 = .ok (.iadd, 1) := by decide +kernel
theorem dX12_told_12 : decode cX12_told 12 = .ok (.putfield 142, 3) := by decide +kernel
theorem dX12_told_15 : decode cX12_told 15 = .ok (.return_, 1) := by decide +kernel
def f_X12_told (N : Nat) (σ : uS) : Option uS := u_jn (u_pI σ 0 21 0) fun s1 =>
  u_jn (u_pI s1 0 33 ((s1.1 0 33) + 1)) fun s2 =>
  some s2
set_option maxRecDepth 100000 in
set_option maxHeartbeats 4000000 in
theorem c_X12_told (l : Launch) (G : uG) (N : Nat) (σ : uS) (z : uS) (hz : f_X12_told N σ = some z) : u_Mv l ZM G yX12_told cX12_told 1 0 [.ref (G.2.2 0)] σ z := by
  refine u_Mv_of RX12 (by decide) rfl (Nat.le_of_ble_eq_true rfl) ?_
  intro p e s m args below meth c ls cx hw hl
  have hx := cx.1
  have hb := cx.2.1
  have hl : lv_has ls 1 [(0, .ref (G.2.2 0))] := hl
  unfold f_X12_told at hz
  refine lv_aload_n hx hb dX12_told_0 rfl (lv_at hl 0 rfl) ?_
  refine lv_iconst (v := 0) hx hb dX12_told_1 (by decide) ?_
  obtain ⟨s1, es1, hz⟩ := u_let hz
  refine u_puti2 cx hw P_X12_139 o_X12 rfl es1 dX12_told_2 (fun H locs hw => ?_)
  refine lv_aload_n hx hb dX12_told_5 rfl (lv_at hl 0 rfl) ?_
  refine lv_dup hx hb dX12_told_6 rfl ?_
  refine u_geti cx hw F_X12_142 o_X12 rfl dX12_told_7 ?_
  refine lv_iconst (v := 1) hx hb dX12_told_10 (by decide) ?_
  refine lv_iadd hx hb dX12_told_11 ?_
  obtain ⟨s2, es2, hz⟩ := u_let hz
  refine u_puti2 cx hw P_X12_142 o_X12 rfl es2 dX12_told_12 (fun H locs hw => ?_)
  exact u_vret cx hw (Option.some.inj hz) dX12_told_15
theorem dX12_field_0 : decode cX12_field 0 = .ok (.aload_n 0, 1) := by decide +kernel
theorem dX12_field_1 : decode cX12_field 1 = .ok (.iconst 0, 1) := by decide +kernel
theorem dX12_field_2 : decode cX12_field 2 = .ok (.putfield 77, 3) := by decide +kernel
theorem dX12_field_5 : decode cX12_field 5 = .ok (.aload_n 0, 1) := by decide +kernel
theorem dX12_field_6 : decode cX12_field 6 = .ok (.bipush 16, 2) := by decide +kernel
theorem dX12_field_8 : decode cX12_field 8 = .ok (.invokevirtual 145, 3) := by decide +kernel
theorem dX12_field_11 : decode cX12_field 11 = .ok (.iconst 0, 1) := by decide +kernel
theorem dX12_field_12 : decode cX12_field 12 = .ok (.istore_n 1, 1) := by decide +kernel
theorem dX12_field_13 : decode cX12_field 13 = .ok (.aload_n 0, 1) := by decide +kernel
theorem dX12_field_14 : decode cX12_field 14 = .ok (.invokevirtual 120, 3) := by decide +kernel
theorem dX12_field_17 : decode cX12_field 17 = .ok (.ifCond .eq 35, 3) := by decide +kernel
theorem dX12_field_20 : decode cX12_field 20 = .ok (.iload_n 1, 1) := by decide +kernel
theorem dX12_field_21 : decode cX12_field 21 = .ok (.ifCond .eq 11, 3) := by decide +kernel
theorem dX12_field_24 : decode cX12_field 24 = .ok (.aload_n 0, 1) := by decide +kernel
theorem dX12_field_25 : decode cX12_field 25 = .ok (.invokevirtual 124, 3) := by decide +kernel
theorem dX12_field_28 : decode cX12_field 28 = .ok (.iconst (-1), 1) := by decide +kernel
theorem dX12_field_29 : decode cX12_field 29 = .ok (.if_icmp .eq 23, 3) := by decide +kernel
theorem dX12_field_32 : decode cX12_field 32 = .ok (.aload_n 0, 1) := by decide +kernel
theorem dX12_field_33 : decode cX12_field 33 = .ok (.getfield 28, 3) := by decide +kernel
theorem dX12_field_36 : decode cX12_field 36 = .ok (.iload_n 1, 1) := by decide +kernel
theorem dX12_field_37 : decode cX12_field 37 = .ok (.aload_n 0, 1) := by decide +kernel
theorem dX12_field_38 : decode cX12_field 38 = .ok (.bipush 48, 2) := by decide +kernel
theorem dX12_field_40 : decode cX12_field 40 = .ok (.bipush 10, 2) := by decide +kernel
theorem dX12_field_42 : decode cX12_field 42 = .ok (.invokevirtual 135, 3) := by decide +kernel
theorem dX12_field_45 : decode cX12_field 45 = .ok (.iastore, 1) := by decide +kernel
theorem dX12_field_46 : decode cX12_field 46 = .ok (.iinc 1 1, 3) := by decide +kernel
theorem dX12_field_49 : decode cX12_field 49 = .ok (.goto (-36), 3) := by decide +kernel
theorem dX12_field_52 : decode cX12_field 52 = .ok (.aload_n 0, 1) := by decide +kernel
theorem dX12_field_53 : decode cX12_field 53 = .ok (.invokevirtual 148, 3) := by decide +kernel
theorem dX12_field_56 : decode cX12_field 56 = .ok (.ifCond .ne 10, 3) := by decide +kernel
theorem dX12_field_59 : decode cX12_field 59 = .ok (.iconst (-1), 1) := by decide +kernel
theorem dX12_field_60 : decode cX12_field 60 = .ok (.aload_n 0, 1) := by decide +kernel
theorem dX12_field_61 : decode cX12_field 61 = .ok (.getfield 113, 3) := by decide +kernel
theorem dX12_field_64 : decode cX12_field 64 = .ok (.isub, 1) := by decide +kernel
theorem dX12_field_65 : decode cX12_field 65 = .ok (.ireturn, 1) := by decide +kernel
theorem dX12_field_66 : decode cX12_field 66 = .ok (.aload_n 0, 1) := by decide +kernel
theorem dX12_field_67 : decode cX12_field 67 = .ok (.iload_n 1, 1) := by decide +kernel
theorem dX12_field_68 : decode cX12_field 68 = .ok (.putfield 13, 3) := by decide +kernel
theorem dX12_field_71 : decode cX12_field 71 = .ok (.iconst 0, 1) := by decide +kernel
theorem dX12_field_72 : decode cX12_field 72 = .ok (.istore_n 2, 1) := by decide +kernel
theorem dX12_field_73 : decode cX12_field 73 = .ok (.iload_n 2, 1) := by decide +kernel
theorem dX12_field_74 : decode cX12_field 74 = .ok (.bipush 16, 2) := by decide +kernel
theorem dX12_field_76 : decode cX12_field 76 = .ok (.if_icmp .ge 33, 3) := by decide +kernel
theorem dX12_field_79 : decode cX12_field 79 = .ok (.aload_n 0, 1) := by decide +kernel
theorem dX12_field_80 : decode cX12_field 80 = .ok (.getfield 9, 3) := by decide +kernel
theorem dX12_field_83 : decode cX12_field 83 = .ok (.bipush 16, 2) := by decide +kernel
theorem dX12_field_85 : decode cX12_field 85 = .ok (.iload_n 2, 1) := by decide +kernel
theorem dX12_field_86 : decode cX12_field 86 = .ok (.iadd, 1) := by decide +kernel
theorem dX12_field_87 : decode cX12_field 87 = .ok (.iload_n 2, 1) := by decide +kernel
theorem dX12_field_88 : decode cX12_field 88 = .ok (.iload_n 1, 1) := by decide +kernel
theorem dX12_field_89 : decode cX12_field 89 = .ok (.if_icmp .ge 12, 3) := by decide +kernel
theorem dX12_field_92 : decode cX12_field 92 = .ok (.aload_n 0, 1) := by decide +kernel
theorem dX12_field_93 : decode cX12_field 93 = .ok (.getfield 28, 3) := by decide +kernel
theorem dX12_field_96 : decode cX12_field 96 = .ok (.iload_n 2, 1) := by decide +kernel
theorem dX12_field_97 : decode cX12_field 97 = .ok (.iaload, 1) := by decide +kernel
theorem dX12_field_98 : decode cX12_field 98 = .ok (.goto 4, 3) := by decide +kernel
theorem dX12_field_101 : decode cX12_field 101 = .ok (.iconst 0, 1) := by decide +kernel
theorem dX12_field_102 : decode cX12_field 102 = .ok (.iastore, 1) := by decide +kernel
theorem dX12_field_103 : decode cX12_field 103 = .ok (.iinc 2 1, 3) := by decide +kernel
theorem dX12_field_106 : decode cX12_field 106 = .ok (.goto (-33), 3) := by decide +kernel
theorem dX12_field_109 : decode cX12_field 109 = .ok (.aload_n 0, 1) := by decide +kernel
theorem dX12_field_110 : decode cX12_field 110 = .ok (.getfield 9, 3) := by decide +kernel
theorem dX12_field_113 : decode cX12_field 113 = .ok (.bipush 32, 2) := by decide +kernel
theorem dX12_field_115 : decode cX12_field 115 = .ok (.iconst 0, 1) := by decide +kernel
theorem dX12_field_116 : decode cX12_field 116 = .ok (.iastore, 1) := by decide +kernel
theorem dX12_field_117 : decode cX12_field 117 = .ok (.aload_n 0, 1) := by decide +kernel
theorem dX12_field_118 : decode cX12_field 118 = .ok (.getfield 9, 3) := by decide +kernel
theorem dX12_field_121 : decode cX12_field 121 = .ok (.bipush 33, 2) := by decide +kernel
theorem dX12_field_123 : decode cX12_field 123 = .ok (.iload_n 1, 1) := by decide +kernel
theorem dX12_field_124 : decode cX12_field 124 = .ok (.iconst 1, 1) := by decide +kernel
theorem dX12_field_125 : decode cX12_field 125 = .ok (.isub, 1) := by decide +kernel
theorem dX12_field_126 : decode cX12_field 126 = .ok (.iastore, 1) := by decide +kernel
theorem dX12_field_127 : decode cX12_field 127 = .ok (.aload_n 0, 1) := by decide +kernel
theorem dX12_field_128 : decode cX12_field 128 = .ok (.iconst 0, 1) := by decide +kernel
theorem dX12_field_129 : decode cX12_field 129 = .ok (.putfield 151, 3) := by decide +kernel
theorem dX12_field_132 : decode cX12_field 132 = .ok (.aload_n 0, 1) := by decide +kernel
theorem dX12_field_133 : decode cX12_field 133 = .ok (.invokevirtual 154, 3) := by decide +kernel
theorem dX12_field_136 : decode cX12_field 136 = .ok (.iload_n 1, 1) := by decide +kernel
theorem dX12_field_137 : decode cX12_field 137 = .ok (.ireturn, 1) := by decide +kernel
def b_X12_field_73 (x4 : Int32) (J109_9 : uS → Option (Int32 × uS)) (rec73_16 : uS → Int32 → Option (Int32 × uS)) (s14 : uS) (x15 : Int32) : Option (Int32 × uS) :=
  if 16 ≤ x15 then (J109_9 s14) else (u_jn (fun (t17 : Int32) => ((u_wI ZM s14 0 1 (16 + x15) t17).bind fun s19 =>
  u_jn (x15 + 1 : Int32) fun x20 =>
  rec73_16 s19 x20 : Option (Int32 × uS))) fun J102_18 =>
  if x4 ≤ x15 then (J102_18 0) else ((u_rI ZM s14 0 5 x15).bind fun v21 =>
  J102_18 v21))
def b_X12_field_13 (N : Nat) (J52_5 : uS → Int32 → Option (Int32 × uS)) (rec13_24 : uS → Int32 → Option (Int32 × uS)) (s22 : uS) (x23 : Int32) : Option (Int32 × uS) :=
  (f_X12_fine N s22).bind fun v25 =>
  if v25 = 0 then (J52_5 s22 x23) else (u_jn (((f_X12_oneOf N s22 48 10).bind fun v27 =>
  (u_wI ZM v27.2 0 5 x23 v27.1).bind fun s28 =>
  u_jn (x23 + 1 : Int32) fun x29 =>
  rec13_24 s28 x29 : Option (Int32 × uS))) fun J32_26 =>
  if x23 = 0 then (J32_26) else ((f_X12_here N s22).bind fun v30 =>
  if v30 = (-1) then (J52_5 s22 x23) else (J32_26)))
def f_X12_field (N : Nat) (σ : uS) : Option (Int32 × uS) := u_jn (u_pI σ 0 8 0) fun s1 =>
  (f_X12_beginText N s1 16).bind fun s2 =>
  u_jn (fun (s3 : uS) (x4 : Int32) => ((f_X12_wasRight N s3).bind fun v6 =>
  if v6.1 = 0 then (some (((-1) - (v6.2.1 0 13)), v6.2)) else (u_jn (u_pI v6.2 0 1 x4) fun s7 =>
  u_jn (fun (s8 : uS) => ((u_wI ZM s8 0 1 32 0).bind fun s10 =>
  (u_wI ZM s10 0 1 33 (x4 - 1)).bind fun s11 =>
  u_jn (u_pI s11 0 30 0) fun s12 =>
  (f_X12_told N s12).bind fun s13 =>
  some (x4, s13) : Option (Int32 × uS))) fun J109_9 =>
  u_lp2 (b_X12_field_73 x4 J109_9) N s7 0) : Option (Int32 × uS))) fun J52_5 =>
  u_lp2 (b_X12_field_13 N J52_5) N s2 0
set_option maxRecDepth 100000 in
set_option maxHeartbeats 4000000 in
theorem c_X12_field (l : Launch) (G : uG) (N : Nat) (σ : uS) (z : (Int32 × uS)) (hz : f_X12_field N σ = some z) : u_Mi l ZM G yX12_field cX12_field 3 .int 3 [.ref (G.2.2 0)] σ z.1 z.2 := by
  refine u_Mi_of RX12 (by decide) rfl (Nat.le_of_ble_eq_true rfl) ?_
  intro p e s m args below meth c ls cx hw hl
  have hx := cx.1
  have hb := cx.2.1
  have hl : lv_has ls 3 [(0, .ref (G.2.2 0))] := hl
  unfold f_X12_field at hz
  refine lv_aload_n hx hb dX12_field_0 rfl (lv_at hl 0 rfl) ?_
  refine lv_iconst (v := 0) hx hb dX12_field_1 (by decide) ?_
  obtain ⟨s1, es1, hz⟩ := u_let hz
  refine u_puti2 cx hw P_X12_77 o_X12 rfl es1 dX12_field_2 (fun H locs hw => ?_)
  refine lv_aload_n hx hb dX12_field_5 rfl (lv_at hl 0 rfl) ?_
  refine lv_bipush (v := 16) hx hb dX12_field_6 (by decide) ?_
  obtain ⟨s2, hs2, hz⟩ := u_bind hz
  refine u_callVv (As := [.int 16]) (rest := []) cx hw LV_X12_145 (c_X12_beginText l G N s1 16 s2 hs2) o_X12 rfl (by decide) hl.1 rfl (Nat.le_of_ble_eq_true rfl) dX12_field_8 rfl (fun H locs hw => ?_)
  refine lv_iconst (v := 0) hx hb dX12_field_11 (by decide) ?_
  refine lv_istore_n (lv' := [(1, .int 0), (0, .ref (G.2.2 0))]) hx hb dX12_field_12 rfl hl (by decide) rfl (fun ls hl => ?_)
  obtain ⟨J52_5, eJ52_5, hz⟩ := u_let hz
  have WJ52_5 : ∀ (s3 : uS) (x4 : Int32) (H : Heap) (locs : List Loc) (ls : Array Slot), J52_5 s3 x4 = some z → u_W ZM G s3 s H locs → lv_has ls 3 [(0, .ref (G.2.2 0)), (1, .int x4)] → W p l e (u_rm 3) s m args below meth c H locs 0 0 (u_Qi below ZM G s args z.1 z.2) (F0 m 52 ls []) := by
    intro s3 x4 H locs ls hz hw hl
    rw [eJ52_5] at hz
    refine lv_aload_n hx hb dX12_field_52 rfl (lv_at hl 0 rfl) ?_
    obtain ⟨v6, hv6, hz⟩ := u_bind hz
    refine u_callVi (As := []) (rest := []) cx hw LV_X12_148 (c_X12_wasRight l G N s3 v6 hv6) o_X12 rfl (by decide) hl.1 rfl (Nat.le_of_ble_eq_true rfl) dX12_field_53 rfl (fun H locs hw => ?_)
    refine lv_if_ne (tgt := 66) hx hb dX12_field_56 (by decide) (fun hc => ?_) (fun hc => ?_)
    · replace hz := u_iff hz hc
      refine lv_aload_n hx hb dX12_field_66 rfl (lv_at hl 0 rfl) ?_
      refine lv_iload_n hx hb dX12_field_67 rfl (lv_at hl 1 rfl) ?_
      obtain ⟨s7, es7, hz⟩ := u_let hz
      refine u_puti2 cx hw P_X12_13 o_X12 rfl es7 dX12_field_68 (fun H locs hw => ?_)
      refine lv_iconst (v := 0) hx hb dX12_field_71 (by decide) ?_
      refine lv_istore_n (lv' := [(2, .int 0), (0, .ref (G.2.2 0)), (1, .int x4)]) hx hb dX12_field_72 rfl hl (by decide) rfl (fun ls hl => ?_)
      obtain ⟨J109_9, eJ109_9, hz⟩ := u_let hz
      have WJ109_9 : ∀ (s8 : uS) (H : Heap) (locs : List Loc) (ls : Array Slot), J109_9 s8 = some z → u_W ZM G s8 s H locs → lv_has ls 3 [(0, .ref (G.2.2 0)), (1, .int x4)] → W p l e (u_rm 3) s m args below meth c H locs 0 0 (u_Qi below ZM G s args z.1 z.2) (F0 m 109 ls []) := by
        intro s8 H locs ls hz hw hl
        rw [eJ109_9] at hz
        refine lv_aload_n hx hb dX12_field_109 rfl (lv_at hl 0 rfl) ?_
        refine u_getp cx hw F_X12_9 o_X12 rfl dX12_field_110 ?_
        refine lv_bipush (v := 32) hx hb dX12_field_113 (by decide) ?_
        refine lv_iconst (v := 0) hx hb dX12_field_115 (by decide) ?_
        obtain ⟨s10, hs10, hz⟩ := u_bind hz
        refine u_iast cx hw hs10 dX12_field_116 (fun H locs hw => ?_)
        refine lv_aload_n hx hb dX12_field_117 rfl (lv_at hl 0 rfl) ?_
        refine u_getp cx hw F_X12_9 o_X12 rfl dX12_field_118 ?_
        refine lv_bipush (v := 33) hx hb dX12_field_121 (by decide) ?_
        refine lv_iload_n hx hb dX12_field_123 rfl (lv_at hl 1 rfl) ?_
        refine lv_iconst (v := 1) hx hb dX12_field_124 (by decide) ?_
        refine lv_isub hx hb dX12_field_125 ?_
        obtain ⟨s11, hs11, hz⟩ := u_bind hz
        refine u_iast cx hw hs11 dX12_field_126 (fun H locs hw => ?_)
        refine lv_aload_n hx hb dX12_field_127 rfl (lv_at hl 0 rfl) ?_
        refine lv_iconst (v := 0) hx hb dX12_field_128 (by decide) ?_
        obtain ⟨s12, es12, hz⟩ := u_let hz
        refine u_puti2 cx hw P_X12_151 o_X12 rfl es12 dX12_field_129 (fun H locs hw => ?_)
        refine lv_aload_n hx hb dX12_field_132 rfl (lv_at hl 0 rfl) ?_
        obtain ⟨s13, hs13, hz⟩ := u_bind hz
        refine u_callVv (As := []) (rest := []) cx hw LV_X12_154 (c_X12_told l G N s12 s13 hs13) o_X12 rfl (by decide) hl.1 rfl (Nat.le_of_ble_eq_true rfl) dX12_field_133 rfl (fun H locs hw => ?_)
        refine lv_iload_n hx hb dX12_field_136 rfl (lv_at hl 1 rfl) ?_
        exact u_iret cx hw (u_pair hz) dX12_field_137
      have WL73_21 : ∀ (k : Nat) (s14 : uS) (x15 : Int32) (H : Heap) (locs : List Loc) (ls : Array Slot), u_lp2 (b_X12_field_73 x4 J109_9) k s14 x15 = some z → u_W ZM G s14 s H locs → lv_has ls 3 [(0, .ref (G.2.2 0)), (1, .int x4), (2, .int x15)] → W p l e (u_rm 3) s m args below meth c H locs 0 0 (u_Qi below ZM G s args z.1 z.2) (F0 m 73 ls []) := by
        intro k
        induction k with
        | zero =>
          intro s14 x15 H locs ls hz
          exact absurd hz (by intro h9; cases h9)
        | succ k ih73_16 =>
          intro s14 x15 H locs ls hz hw hl
          have hz : (b_X12_field_73 x4 J109_9) (u_lp2 (b_X12_field_73 x4 J109_9) k) s14 x15 = some z := hz
          unfold b_X12_field_73 at hz
          refine lv_iload_n hx hb dX12_field_73 rfl (lv_at hl 2 rfl) ?_
          refine lv_bipush (v := 16) hx hb dX12_field_74 (by decide) ?_
          refine lv_icmp_ge (tgt := 109) hx hb dX12_field_76 (by decide) (fun hc => ?_) (fun hc => ?_)
          · replace hz := u_ift hz hc
            exact WJ109_9 s14 _ _ _ hz hw (lv_sub hl [0, 1] rfl)
          · replace hz := u_iff hz hc
            refine lv_aload_n hx hb dX12_field_79 rfl (lv_at hl 0 rfl) ?_
            refine u_getp cx hw F_X12_9 o_X12 rfl dX12_field_80 ?_
            refine lv_bipush (v := 16) hx hb dX12_field_83 (by decide) ?_
            refine lv_iload_n hx hb dX12_field_85 rfl (lv_at hl 2 rfl) ?_
            refine lv_iadd hx hb dX12_field_86 ?_
            refine lv_iload_n hx hb dX12_field_87 rfl (lv_at hl 2 rfl) ?_
            refine lv_iload_n hx hb dX12_field_88 rfl (lv_at hl 1 rfl) ?_
            obtain ⟨J102_18, eJ102_18, hz⟩ := u_let hz
            have WJ102_18 : ∀ (t17 : Int32) (H : Heap) (locs : List Loc) (ls : Array Slot), J102_18 t17 = some z → u_W ZM G s14 s H locs → lv_has ls 3 [(0, .ref (G.2.2 0)), (1, .int x4), (2, .int x15)] → W p l e (u_rm 3) s m args below meth c H locs 0 0 (u_Qi below ZM G s args z.1 z.2) (F0 m 102 ls [.int t17, .int (16 + x15), .ref (G.2.2 1)]) := by
              intro t17 H locs ls hz hw hl
              rw [eJ102_18] at hz
              obtain ⟨s19, hs19, hz⟩ := u_bind hz
              refine u_iast cx hw hs19 dX12_field_102 (fun H locs hw => ?_)
              obtain ⟨x20, ex20, hz⟩ := u_let hz
              refine lv_iinc (v := x20) (lv' := [(2, .int x20), (0, .ref (G.2.2 0)), (1, .int x4)]) hx hb dX12_field_103 hl (k := 2) rfl (by rw [ex20]; rfl) (by decide) rfl (fun ls hl => ?_)
              refine lv_goto (tgt := 73) hx hb dX12_field_106 (by decide) ?_
              exact ih73_16 s19 x20 _ _ _ hz hw (lv_sub hl [1, 2, 0] rfl)
            refine lv_icmp_ge (tgt := 101) hx hb dX12_field_89 (by decide) (fun hc => ?_) (fun hc => ?_)
            · replace hz := u_ift hz hc
              refine lv_iconst (v := 0) hx hb dX12_field_101 (by decide) ?_
              exact WJ102_18 0 _ _ _ hz hw (lv_sub hl [0, 1, 2] rfl)
            · replace hz := u_iff hz hc
              refine lv_aload_n hx hb dX12_field_92 rfl (lv_at hl 0 rfl) ?_
              refine u_getp cx hw F_X12_28 o_X12 rfl dX12_field_93 ?_
              refine lv_iload_n hx hb dX12_field_96 rfl (lv_at hl 2 rfl) ?_
              obtain ⟨v21, hv21, hz⟩ := u_bind hz
              refine u_iald cx hw hv21 dX12_field_97 ?_
              refine lv_goto (tgt := 102) hx hb dX12_field_98 (by decide) ?_
              exact WJ102_18 v21 _ _ _ hz hw (lv_sub hl [0, 1, 2] rfl)
      exact WL73_21 N s7 0 _ _ _ hz hw (lv_sub hl [1, 2, 0] rfl)
    · replace hz := u_ift hz hc
      refine lv_iconst (v := (-1)) hx hb dX12_field_59 (by decide) ?_
      refine lv_aload_n hx hb dX12_field_60 rfl (lv_at hl 0 rfl) ?_
      refine u_geti cx hw F_X12_113 o_X12 rfl dX12_field_61 ?_
      refine lv_isub hx hb dX12_field_64 ?_
      exact u_iret cx hw (u_pair hz) dX12_field_65
  have WL13_30 : ∀ (k : Nat) (s22 : uS) (x23 : Int32) (H : Heap) (locs : List Loc) (ls : Array Slot), u_lp2 (b_X12_field_13 N J52_5) k s22 x23 = some z → u_W ZM G s22 s H locs → lv_has ls 3 [(0, .ref (G.2.2 0)), (1, .int x23)] → W p l e (u_rm 3) s m args below meth c H locs 0 0 (u_Qi below ZM G s args z.1 z.2) (F0 m 13 ls []) := by
    intro k
    induction k with
    | zero =>
      intro s22 x23 H locs ls hz
      exact absurd hz (by intro h9; cases h9)
    | succ k ih13_24 =>
      intro s22 x23 H locs ls hz hw hl
      have hz : (b_X12_field_13 N J52_5) (u_lp2 (b_X12_field_13 N J52_5) k) s22 x23 = some z := hz
      unfold b_X12_field_13 at hz
      refine lv_aload_n hx hb dX12_field_13 rfl (lv_at hl 0 rfl) ?_
      obtain ⟨v25, hv25, hz⟩ := u_bind hz
      refine u_callVi (As := []) (rest := []) cx hw LV_X12_120 (c_X12_fine l G N s22 v25 hv25) o_X12 rfl (by decide) hl.1 rfl (Nat.le_of_ble_eq_true rfl) dX12_field_14 rfl (fun H locs hw => ?_)
      refine lv_if_eq (tgt := 52) hx hb dX12_field_17 (by decide) (fun hc => ?_) (fun hc => ?_)
      · replace hz := u_ift hz hc
        exact WJ52_5 s22 x23 _ _ _ hz hw (lv_sub hl [0, 1] rfl)
      · replace hz := u_iff hz hc
        refine lv_iload_n hx hb dX12_field_20 rfl (lv_at hl 1 rfl) ?_
        obtain ⟨J32_26, eJ32_26, hz⟩ := u_let hz
        have WJ32_26 : ∀ (H : Heap) (locs : List Loc) (ls : Array Slot), J32_26 = some z → u_W ZM G s22 s H locs → lv_has ls 3 [(0, .ref (G.2.2 0)), (1, .int x23)] → W p l e (u_rm 3) s m args below meth c H locs 0 0 (u_Qi below ZM G s args z.1 z.2) (F0 m 32 ls []) := by
          intro H locs ls hz hw hl
          rw [eJ32_26] at hz
          refine lv_aload_n hx hb dX12_field_32 rfl (lv_at hl 0 rfl) ?_
          refine u_getp cx hw F_X12_28 o_X12 rfl dX12_field_33 ?_
          refine lv_iload_n hx hb dX12_field_36 rfl (lv_at hl 1 rfl) ?_
          refine lv_aload_n hx hb dX12_field_37 rfl (lv_at hl 0 rfl) ?_
          refine lv_bipush (v := 48) hx hb dX12_field_38 (by decide) ?_
          refine lv_bipush (v := 10) hx hb dX12_field_40 (by decide) ?_
          obtain ⟨v27, hv27, hz⟩ := u_bind hz
          refine u_callVi (As := [.int 48, .int 10]) (rest := [.int x23, .ref (G.2.2 5)]) cx hw LV_X12_135 (c_X12_oneOf l G N s22 48 10 v27 hv27) o_X12 rfl (by decide) hl.1 rfl (Nat.le_of_ble_eq_true rfl) dX12_field_42 rfl (fun H locs hw => ?_)
          obtain ⟨s28, hs28, hz⟩ := u_bind hz
          refine u_iast cx hw hs28 dX12_field_45 (fun H locs hw => ?_)
          obtain ⟨x29, ex29, hz⟩ := u_let hz
          refine lv_iinc (v := x29) (lv' := [(1, .int x29), (0, .ref (G.2.2 0))]) hx hb dX12_field_46 hl (k := 1) rfl (by rw [ex29]; rfl) (by decide) rfl (fun ls hl => ?_)
          refine lv_goto (tgt := 13) hx hb dX12_field_49 (by decide) ?_
          exact ih13_24 s28 x29 _ _ _ hz hw (lv_sub hl [1, 0] rfl)
        refine lv_if_eq (tgt := 32) hx hb dX12_field_21 (by decide) (fun hc => ?_) (fun hc => ?_)
        · replace hz := u_ift hz hc
          exact WJ32_26 _ _ _ hz hw (lv_sub hl [0, 1] rfl)
        · replace hz := u_iff hz hc
          refine lv_aload_n hx hb dX12_field_24 rfl (lv_at hl 0 rfl) ?_
          obtain ⟨v30, hv30, hz⟩ := u_bind hz
          refine u_callVi (As := []) (rest := []) cx hw LV_X12_124 (c_X12_here l G N s22 v30 hv30) o_X12 rfl (by decide) hl.1 rfl (Nat.le_of_ble_eq_true rfl) dX12_field_25 rfl (fun H locs hw => ?_)
          refine lv_iconst (v := (-1)) hx hb dX12_field_28 (by decide) ?_
          refine lv_icmp_eq (tgt := 52) hx hb dX12_field_29 (by decide) (fun hc => ?_) (fun hc => ?_)
          · replace hz := u_ift hz hc
            exact WJ52_5 s22 x23 _ _ _ hz hw (lv_sub hl [0, 1] rfl)
          · replace hz := u_iff hz hc
            exact WJ32_26 _ _ _ hz hw (lv_sub hl [0, 1] rfl)
  exact WL13_30 N s2 0 _ _ _ hz hw (lv_sub hl [1, 0] rfl)
theorem dX12_readMan_0 : decode cX12_readMan 0 = .ok (.aload_n 0, 1) := by decide +kernel
theorem dX12_readMan_1 : decode cX12_readMan 1 = .ok (.getfield 28, 3) := by decide +kernel
theorem dX12_readMan_4 : decode cX12_readMan 4 = .ok (.iload_n 1, 1) := by decide +kernel
theorem dX12_readMan_5 : decode cX12_readMan 5 = .ok (.aload_n 0, 1) := by decide +kernel
theorem dX12_readMan_6 : decode cX12_readMan 6 = .ok (.bipush 48, 2) := by decide +kernel
theorem dX12_readMan_8 : decode cX12_readMan 8 = .ok (.bipush 10, 2) := by decide +kernel
theorem dX12_readMan_10 : decode cX12_readMan 10 = .ok (.invokevirtual 135, 3) := by decide +kernel
theorem dX12_readMan_13 : decode cX12_readMan 13 = .ok (.iastore, 1) := by decide +kernel
theorem dX12_readMan_14 : decode cX12_readMan 14 = .ok (.aload_n 0, 1) := by decide +kernel
theorem dX12_readMan_15 : decode cX12_readMan 15 = .ok (.getfield 28, 3) := by decide +kernel
theorem dX12_readMan_18 : decode cX12_readMan 18 = .ok (.iload_n 1, 1) := by decide +kernel
theorem dX12_readMan_19 : decode cX12_readMan 19 = .ok (.iconst 1, 1) := by decide +kernel
theorem dX12_readMan_20 : decode cX12_readMan 20 = .ok (.iadd, 1) := by decide +kernel
theorem dX12_readMan_21 : decode cX12_readMan 21 = .ok (.aload_n 0, 1) := by decide +kernel
theorem dX12_readMan_22 : decode cX12_readMan 22 = .ok (.bipush 48, 2) := by decide +kernel
theorem dX12_readMan_24 : decode cX12_readMan 24 = .ok (.bipush 10, 2) := by decide +kernel
theorem dX12_readMan_26 : decode cX12_readMan 26 = .ok (.invokevirtual 135, 3) := by decide +kernel
theorem dX12_readMan_29 : decode cX12_readMan 29 = .ok (.iastore, 1) := by decide +kernel
theorem dX12_readMan_30 : decode cX12_readMan 30 = .ok (.aload_n 0, 1) := by decide +kernel
theorem dX12_readMan_31 : decode cX12_readMan 31 = .ok (.getfield 28, 3) := by decide +kernel
theorem dX12_readMan_34 : decode cX12_readMan 34 = .ok (.iload_n 1, 1) := by decide +kernel
theorem dX12_readMan_35 : decode cX12_readMan 35 = .ok (.iconst 2, 1) := by decide +kernel
theorem dX12_readMan_36 : decode cX12_readMan 36 = .ok (.iadd, 1) := by decide +kernel
theorem dX12_readMan_37 : decode cX12_readMan 37 = .ok (.iconst 0, 1) := by decide +kernel
theorem dX12_readMan_38 : decode cX12_readMan 38 = .ok (.iastore, 1) := by decide +kernel
theorem dX12_readMan_39 : decode cX12_readMan 39 = .ok (.iconst (-1), 1) := by decide +kernel
theorem dX12_readMan_40 : decode cX12_readMan 40 = .ok (.istore_n 3, 1) := by decide +kernel
theorem dX12_readMan_41 : decode cX12_readMan 41 = .ok (.aload_n 0, 1) := by decide +kernel
theorem dX12_readMan_42 : decode cX12_readMan 42 = .ok (.invokevirtual 120, 3) := by decide +kernel
theorem dX12_readMan_45 : decode cX12_readMan 45 = .ok (.ifCond .eq 80, 3) := by decide +kernel
theorem dX12_readMan_48 : decode cX12_readMan 48 = .ok (.aload_n 0, 1) := by decide +kernel
theorem dX12_readMan_49 : decode cX12_readMan 49 = .ok (.invokevirtual 124, 3) := by decide +kernel
theorem dX12_readMan_52 : decode cX12_readMan 52 = .ok (.bipush 97, 2) := by decide +kernel
theorem dX12_readMan_54 : decode cX12_readMan 54 = .ok (.bipush 104, 2) := by decide +kernel
theorem dX12_readMan_56 : decode cX12_readMan 56 = .ok (.invokestatic 86, 3) := by decide +kernel
theorem dX12_readMan_59 : decode cX12_readMan 59 = .ok (.ifCond .eq 66, 3) := by decide +kernel
theorem dX12_readMan_62 : decode cX12_readMan 62 = .ok (.aload_n 0, 1) := by decide +kernel
theorem dX12_readMan_63 : decode cX12_readMan 63 = .ok (.invokevirtual 124, 3) := by decide +kernel
theorem dX12_readMan_66 : decode cX12_readMan 66 = .ok (.bipush 97, 2) := by decide +kernel
theorem dX12_readMan_68 : decode cX12_readMan 68 = .ok (.isub, 1) := by decide +kernel
theorem dX12_readMan_69 : decode cX12_readMan 69 = .ok (.istore 4, 2) := by decide +kernel
theorem dX12_readMan_71 : decode cX12_readMan 71 = .ok (.iload 4, 2) := by decide +kernel
theorem dX12_readMan_73 : decode cX12_readMan 73 = .ok (.iload_n 3, 1) := by decide +kernel
theorem dX12_readMan_74 : decode cX12_readMan 74 = .ok (.if_icmp .le 9, 3) := by decide +kernel
theorem dX12_readMan_77 : decode cX12_readMan 77 = .ok (.iload 4, 2) := by decide +kernel
theorem dX12_readMan_79 : decode cX12_readMan 79 = .ok (.iload_n 2, 1) := by decide +kernel
theorem dX12_readMan_80 : decode cX12_readMan 80 = .ok (.if_icmp .ne 14, 3) := by decide +kernel
theorem dX12_readMan_83 : decode cX12_readMan 83 = .ok (.aload_n 0, 1) := by decide +kernel
theorem dX12_readMan_84 : decode cX12_readMan 84 = .ok (.aload_n 0, 1) := by decide +kernel
theorem dX12_readMan_85 : decode cX12_readMan 85 = .ok (.getfield 110, 3) := by decide +kernel
theorem dX12_readMan_88 : decode cX12_readMan 88 = .ok (.invokevirtual 131, 3) := by decide +kernel
theorem dX12_readMan_91 : decode cX12_readMan 91 = .ok (.goto 31, 3) := by decide +kernel
theorem dX12_readMan_94 : decode cX12_readMan 94 = .ok (.aload_n 0, 1) := by decide +kernel
theorem dX12_readMan_95 : decode cX12_readMan 95 = .ok (.dup, 1) := by decide +kernel
theorem dX12_readMan_96 : decode cX12_readMan 96 = .ok (.getfield 110, 3) := by decide +kernel
theorem dX12_readMan_99 : decode cX12_readMan 99 = .ok (.iconst 1, 1) := by decide +kernel
theorem dX12_readMan_100 : decode cX12_readMan 100 = .ok (.iadd, 1) := by decide +kernel
theorem dX12_readMan_101 : decode cX12_readMan 101 = .ok (.putfield 110, 3) := by decide +kernel
theorem dX12_readMan_104 : decode cX12_readMan 104 = .ok (.aload_n 0, 1) := by decide +kernel
theorem dX12_readMan_105 : decode cX12_readMan 105 = .ok (.getfield 28, 3) := by decide +kernel
theorem dX12_readMan_108 : decode cX12_readMan 108 = .ok (.iload_n 1, 1) := by decide +kernel
theorem dX12_readMan_109 : decode cX12_readMan 109 = .ok (.iconst 2, 1) := by decide +kernel
theorem dX12_readMan_110 : decode cX12_readMan 110 = .ok (.iadd, 1) := by decide +kernel
theorem dX12_readMan_111 : decode cX12_readMan 111 = .ok (.dup2, 1) := by decide +kernel
theorem dX12_readMan_112 : decode cX12_readMan 112 = .ok (.iaload, 1) := by decide +kernel
theorem dX12_readMan_113 : decode cX12_readMan 113 = .ok (.iconst 1, 1) := by decide +kernel
theorem dX12_readMan_114 : decode cX12_readMan 114 = .ok (.iload 4, 2) := by decide +kernel
theorem dX12_readMan_116 : decode cX12_readMan 116 = .ok (.ishl, 1) := by decide +kernel
theorem dX12_readMan_117 : decode cX12_readMan 117 = .ok (.ior, 1) := by decide +kernel
theorem dX12_readMan_118 : decode cX12_readMan 118 = .ok (.iastore, 1) := by decide +kernel
theorem dX12_readMan_119 : decode cX12_readMan 119 = .ok (.iload 4, 2) := by decide +kernel
theorem dX12_readMan_121 : decode cX12_readMan 121 = .ok (.istore_n 3, 1) := by decide +kernel
theorem dX12_readMan_122 : decode cX12_readMan 122 = .ok (.goto (-81), 3) := by decide +kernel
theorem dX12_readMan_125 : decode cX12_readMan 125 = .ok (.return_, 1) := by decide +kernel
def b_X12_readMan_41 (N : Nat) (p1 : Int32) (p2 : Int32) (J125_7 : uS → Option uS) (rec41_10 : uS → Int32 → Option uS) (s8 : uS) (x9 : Int32) : Option uS :=
  (f_X12_fine N s8).bind fun v11 =>
  if v11 = 0 then (J125_7 s8) else ((f_X12_here N s8).bind fun v12 =>
  (f_X12_in N s8 v12 97 104).bind fun v13 =>
  if v13 = 0 then (J125_7 s8) else ((f_X12_here N s8).bind fun v14 =>
  u_jn ((v14 - 97) : Int32) fun x15 =>
  u_jn (fun (s16 : uS) (x17 : Int32) => (rec41_10 s16 x17 : Option uS)) fun J122_18 =>
  u_jn (((f_X12_fault N s8 (s8.1 0 12)).bind fun s20 =>
  J122_18 s20 x9 : Option uS)) fun J83_19 =>
  if x15 ≤ x9 then (J83_19) else (if x15 = p2 then (J83_19) else (u_jn (u_pI s8 0 12 ((s8.1 0 12) + 1)) fun s21 =>
  (u_rI ZM s21 0 5 (p1 + 2)).bind fun v22 =>
  (u_wI ZM s21 0 5 (p1 + 2) (v22 ||| (1 <<< (x15 &&& 31)))).bind fun s23 =>
  J122_18 s23 x15))))
def f_X12_readMan (N : Nat) (σ : uS) (p1 : Int32) (p2 : Int32) : Option uS := (f_X12_oneOf N σ 48 10).bind fun v1 =>
  (u_wI ZM v1.2 0 5 p1 v1.1).bind fun s2 =>
  (f_X12_oneOf N s2 48 10).bind fun v3 =>
  (u_wI ZM v3.2 0 5 (p1 + 1) v3.1).bind fun s4 =>
  (u_wI ZM s4 0 5 (p1 + 2) 0).bind fun s5 =>
  u_jn (fun (s6 : uS) => (some s6 : Option uS)) fun J125_7 =>
  u_lp2 (b_X12_readMan_41 N p1 p2 J125_7) N s5 (-1)
set_option maxRecDepth 100000 in
set_option maxHeartbeats 4000000 in
theorem c_X12_readMan (l : Launch) (G : uG) (N : Nat) (σ : uS) (p1 : Int32) (p2 : Int32) (z : uS) (hz : f_X12_readMan N σ p1 p2 = some z) : u_Mv l ZM G yX12_readMan cX12_readMan 5 3 [.ref (G.2.2 0), .int p1, .int p2] σ z := by
  refine u_Mv_of RX12 (by decide) rfl (Nat.le_of_ble_eq_true rfl) ?_
  intro p e s m args below meth c ls cx hw hl
  have hx := cx.1
  have hb := cx.2.1
  have hl : lv_has ls 5 [(0, .ref (G.2.2 0)), (1, .int p1), (2, .int p2)] := hl
  unfold f_X12_readMan at hz
  refine lv_aload_n hx hb dX12_readMan_0 rfl (lv_at hl 0 rfl) ?_
  refine u_getp cx hw F_X12_28 o_X12 rfl dX12_readMan_1 ?_
  refine lv_iload_n hx hb dX12_readMan_4 rfl (lv_at hl 1 rfl) ?_
  refine lv_aload_n hx hb dX12_readMan_5 rfl (lv_at hl 0 rfl) ?_
  refine lv_bipush (v := 48) hx hb dX12_readMan_6 (by decide) ?_
  refine lv_bipush (v := 10) hx hb dX12_readMan_8 (by decide) ?_
  obtain ⟨v1, hv1, hz⟩ := u_bind hz
  refine u_callVi (As := [.int 48, .int 10]) (rest := [.int p1, .ref (G.2.2 5)]) cx hw LV_X12_135 (c_X12_oneOf l G N σ 48 10 v1 hv1) o_X12 rfl (by decide) hl.1 rfl (Nat.le_of_ble_eq_true rfl) dX12_readMan_10 rfl (fun H locs hw => ?_)
  obtain ⟨s2, hs2, hz⟩ := u_bind hz
  refine u_iast cx hw hs2 dX12_readMan_13 (fun H locs hw => ?_)
  refine lv_aload_n hx hb dX12_readMan_14 rfl (lv_at hl 0 rfl) ?_
  refine u_getp cx hw F_X12_28 o_X12 rfl dX12_readMan_15 ?_
  refine lv_iload_n hx hb dX12_readMan_18 rfl (lv_at hl 1 rfl) ?_
  refine lv_iconst (v := 1) hx hb dX12_readMan_19 (by decide) ?_
  refine lv_iadd hx hb dX12_readMan_20 ?_
  refine lv_aload_n hx hb dX12_readMan_21 rfl (lv_at hl 0 rfl) ?_
  refine lv_bipush (v := 48) hx hb dX12_readMan_22 (by decide) ?_
  refine lv_bipush (v := 10) hx hb dX12_readMan_24 (by decide) ?_
  obtain ⟨v3, hv3, hz⟩ := u_bind hz
  refine u_callVi (As := [.int 48, .int 10]) (rest := [.int (p1 + 1), .ref (G.2.2 5)]) cx hw LV_X12_135 (c_X12_oneOf l G N s2 48 10 v3 hv3) o_X12 rfl (by decide) hl.1 rfl (Nat.le_of_ble_eq_true rfl) dX12_readMan_26 rfl (fun H locs hw => ?_)
  obtain ⟨s4, hs4, hz⟩ := u_bind hz
  refine u_iast cx hw hs4 dX12_readMan_29 (fun H locs hw => ?_)
  refine lv_aload_n hx hb dX12_readMan_30 rfl (lv_at hl 0 rfl) ?_
  refine u_getp cx hw F_X12_28 o_X12 rfl dX12_readMan_31 ?_
  refine lv_iload_n hx hb dX12_readMan_34 rfl (lv_at hl 1 rfl) ?_
  refine lv_iconst (v := 2) hx hb dX12_readMan_35 (by decide) ?_
  refine lv_iadd hx hb dX12_readMan_36 ?_
  refine lv_iconst (v := 0) hx hb dX12_readMan_37 (by decide) ?_
  obtain ⟨s5, hs5, hz⟩ := u_bind hz
  refine u_iast cx hw hs5 dX12_readMan_38 (fun H locs hw => ?_)
  refine lv_iconst (v := (-1)) hx hb dX12_readMan_39 (by decide) ?_
  refine lv_istore_n (lv' := [(3, .int (-1)), (0, .ref (G.2.2 0)), (1, .int p1), (2, .int p2)]) hx hb dX12_readMan_40 rfl hl (by decide) rfl (fun ls hl => ?_)
  obtain ⟨J125_7, eJ125_7, hz⟩ := u_let hz
  have WJ125_7 : ∀ (s6 : uS) (H : Heap) (locs : List Loc) (ls : Array Slot), J125_7 s6 = some z → u_W ZM G s6 s H locs → lv_has ls 5 [] → W p l e (u_rm 3) s m args below meth c H locs 0 0 (u_Qv below ZM G s args z) (F0 m 125 ls []) := by
    intro s6 H locs ls hz hw hl
    rw [eJ125_7] at hz
    exact u_vret cx hw (Option.some.inj hz) dX12_readMan_125
  have WL41_23 : ∀ (k : Nat) (s8 : uS) (x9 : Int32) (H : Heap) (locs : List Loc) (ls : Array Slot), u_lp2 (b_X12_readMan_41 N p1 p2 J125_7) k s8 x9 = some z → u_W ZM G s8 s H locs → lv_has ls 5 [(0, .ref (G.2.2 0)), (1, .int p1), (2, .int p2), (3, .int x9)] → W p l e (u_rm 3) s m args below meth c H locs 0 0 (u_Qv below ZM G s args z) (F0 m 41 ls []) := by
    intro k
    induction k with
    | zero =>
      intro s8 x9 H locs ls hz
      exact absurd hz (by intro h9; cases h9)
    | succ k ih41_10 =>
      intro s8 x9 H locs ls hz hw hl
      have hz : (b_X12_readMan_41 N p1 p2 J125_7) (u_lp2 (b_X12_readMan_41 N p1 p2 J125_7) k) s8 x9 = some z := hz
      unfold b_X12_readMan_41 at hz
      refine lv_aload_n hx hb dX12_readMan_41 rfl (lv_at hl 0 rfl) ?_
      obtain ⟨v11, hv11, hz⟩ := u_bind hz
      refine u_callVi (As := []) (rest := []) cx hw LV_X12_120 (c_X12_fine l G N s8 v11 hv11) o_X12 rfl (by decide) hl.1 rfl (Nat.le_of_ble_eq_true rfl) dX12_readMan_42 rfl (fun H locs hw => ?_)
      refine lv_if_eq (tgt := 125) hx hb dX12_readMan_45 (by decide) (fun hc => ?_) (fun hc => ?_)
      · replace hz := u_ift hz hc
        exact WJ125_7 s8 _ _ _ hz hw (lv_sub hl [] rfl)
      · replace hz := u_iff hz hc
        refine lv_aload_n hx hb dX12_readMan_48 rfl (lv_at hl 0 rfl) ?_
        obtain ⟨v12, hv12, hz⟩ := u_bind hz
        refine u_callVi (As := []) (rest := []) cx hw LV_X12_124 (c_X12_here l G N s8 v12 hv12) o_X12 rfl (by decide) hl.1 rfl (Nat.le_of_ble_eq_true rfl) dX12_readMan_49 rfl (fun H locs hw => ?_)
        refine lv_bipush (v := 97) hx hb dX12_readMan_52 (by decide) ?_
        refine lv_bipush (v := 104) hx hb dX12_readMan_54 (by decide) ?_
        obtain ⟨v13, hv13, hz⟩ := u_bind hz
        refine u_callSi (As := [.int v12, .int 97, .int 104]) (rest := []) cx hw LS_X12_86 (c_X12_in l G N s8 v12 97 104 v13 hv13) (by decide) hl.1 rfl (Nat.le_of_ble_eq_true rfl) dX12_readMan_56 rfl (fun H locs hw => ?_)
        refine lv_if_eq (tgt := 125) hx hb dX12_readMan_59 (by decide) (fun hc => ?_) (fun hc => ?_)
        · replace hz := u_ift hz hc
          exact WJ125_7 s8 _ _ _ hz hw (lv_sub hl [] rfl)
        · replace hz := u_iff hz hc
          refine lv_aload_n hx hb dX12_readMan_62 rfl (lv_at hl 0 rfl) ?_
          obtain ⟨v14, hv14, hz⟩ := u_bind hz
          refine u_callVi (As := []) (rest := []) cx hw LV_X12_124 (c_X12_here l G N s8 v14 hv14) o_X12 rfl (by decide) hl.1 rfl (Nat.le_of_ble_eq_true rfl) dX12_readMan_63 rfl (fun H locs hw => ?_)
          refine lv_bipush (v := 97) hx hb dX12_readMan_66 (by decide) ?_
          refine lv_isub hx hb dX12_readMan_68 ?_
          obtain ⟨x15, ex15, hz⟩ := u_let hz
          refine u_topi ex15 ?_
          refine lv_istore (lv' := [(4, .int x15), (0, .ref (G.2.2 0)), (1, .int p1), (2, .int p2), (3, .int x9)]) hx hb dX12_readMan_69 hl (by decide) rfl (fun ls hl => ?_)
          refine lv_iload hx hb dX12_readMan_71 (lv_at hl 0 rfl) ?_
          refine lv_iload_n hx hb dX12_readMan_73 rfl (lv_at hl 4 rfl) ?_
          obtain ⟨J122_18, eJ122_18, hz⟩ := u_let hz
          have WJ122_18 : ∀ (s16 : uS) (x17 : Int32) (H : Heap) (locs : List Loc) (ls : Array Slot), J122_18 s16 x17 = some z → u_W ZM G s16 s H locs → lv_has ls 5 [(0, .ref (G.2.2 0)), (1, .int p1), (2, .int p2), (3, .int x17)] → W p l e (u_rm 3) s m args below meth c H locs 0 0 (u_Qv below ZM G s args z) (F0 m 122 ls []) := by
            intro s16 x17 H locs ls hz hw hl
            rw [eJ122_18] at hz
            refine lv_goto (tgt := 41) hx hb dX12_readMan_122 (by decide) ?_
            exact ih41_10 s16 x17 _ _ _ hz hw (lv_sub hl [0, 1, 2, 3] rfl)
          obtain ⟨J83_19, eJ83_19, hz⟩ := u_let hz
          have WJ83_19 : ∀ (H : Heap) (locs : List Loc) (ls : Array Slot), J83_19 = some z → u_W ZM G s8 s H locs → lv_has ls 5 [(0, .ref (G.2.2 0)), (1, .int p1), (2, .int p2), (3, .int x9)] → W p l e (u_rm 3) s m args below meth c H locs 0 0 (u_Qv below ZM G s args z) (F0 m 83 ls []) := by
            intro H locs ls hz hw hl
            rw [eJ83_19] at hz
            refine lv_aload_n hx hb dX12_readMan_83 rfl (lv_at hl 0 rfl) ?_
            refine lv_aload_n hx hb dX12_readMan_84 rfl (lv_at hl 0 rfl) ?_
            refine u_geti cx hw F_X12_110 o_X12 rfl dX12_readMan_85 ?_
            obtain ⟨s20, hs20, hz⟩ := u_bind hz
            refine u_callVv (As := [.int (s8.1 0 12)]) (rest := []) cx hw LV_X12_131 (c_X12_fault l G N s8 (s8.1 0 12) s20 hs20) o_X12 rfl (by decide) hl.1 rfl (Nat.le_of_ble_eq_true rfl) dX12_readMan_88 rfl (fun H locs hw => ?_)
            refine lv_goto (tgt := 122) hx hb dX12_readMan_91 (by decide) ?_
            exact WJ122_18 s20 x9 _ _ _ hz hw (lv_sub hl [0, 1, 2, 3] rfl)
          refine lv_icmp_le (tgt := 83) hx hb dX12_readMan_74 (by decide) (fun hc => ?_) (fun hc => ?_)
          · replace hz := u_ift hz hc
            exact WJ83_19 _ _ _ hz hw (lv_sub hl [1, 2, 3, 4] rfl)
          · replace hz := u_iff hz hc
            refine lv_iload hx hb dX12_readMan_77 (lv_at hl 0 rfl) ?_
            refine lv_iload_n hx hb dX12_readMan_79 rfl (lv_at hl 3 rfl) ?_
            refine lv_icmp_ne (tgt := 94) hx hb dX12_readMan_80 (by decide) (fun hc => ?_) (fun hc => ?_)
            · replace hz := u_iff hz hc
              refine lv_aload_n hx hb dX12_readMan_94 rfl (lv_at hl 1 rfl) ?_
              refine lv_dup hx hb dX12_readMan_95 rfl ?_
              refine u_geti cx hw F_X12_110 o_X12 rfl dX12_readMan_96 ?_
              refine lv_iconst (v := 1) hx hb dX12_readMan_99 (by decide) ?_
              refine lv_iadd hx hb dX12_readMan_100 ?_
              obtain ⟨s21, es21, hz⟩ := u_let hz
              refine u_puti2 cx hw P_X12_110 o_X12 rfl es21 dX12_readMan_101 (fun H locs hw => ?_)
              refine lv_aload_n hx hb dX12_readMan_104 rfl (lv_at hl 1 rfl) ?_
              refine u_getp cx hw F_X12_28 o_X12 rfl dX12_readMan_105 ?_
              refine lv_iload_n hx hb dX12_readMan_108 rfl (lv_at hl 2 rfl) ?_
              refine lv_iconst (v := 2) hx hb dX12_readMan_109 (by decide) ?_
              refine lv_iadd hx hb dX12_readMan_110 ?_
              refine lv_dup2_11 hx hb dX12_readMan_111 rfl rfl ?_
              obtain ⟨v22, hv22, hz⟩ := u_bind hz
              refine u_iald cx hw hv22 dX12_readMan_112 ?_
              refine lv_iconst (v := 1) hx hb dX12_readMan_113 (by decide) ?_
              refine lv_iload hx hb dX12_readMan_114 (lv_at hl 0 rfl) ?_
              refine lv_ishl hx hb dX12_readMan_116 ?_
              refine lv_ior hx hb dX12_readMan_117 ?_
              obtain ⟨s23, hs23, hz⟩ := u_bind hz
              refine u_iast cx hw hs23 dX12_readMan_118 (fun H locs hw => ?_)
              refine lv_iload hx hb dX12_readMan_119 (lv_at hl 0 rfl) ?_
              refine lv_istore_n (lv' := [(3, .int x15), (4, .int x15), (0, .ref (G.2.2 0)), (1, .int p1), (2, .int p2)]) hx hb dX12_readMan_121 rfl hl (by decide) rfl (fun ls hl => ?_)
              exact WJ122_18 s23 x15 _ _ _ hz hw (lv_sub hl [2, 3, 4, 0] rfl)
            · replace hz := u_ift hz hc
              exact WJ83_19 _ _ _ hz hw (lv_sub hl [1, 2, 3, 4] rfl)
  exact WL41_23 N s5 (-1) _ _ _ hz hw (lv_sub hl [1, 2, 3, 0] rfl)
theorem dX12_people_0 : decode cX12_people 0 = .ok (.aload_n 0, 1) := by decide +kernel
theorem dX12_people_1 : decode cX12_people 1 = .ok (.iconst 0, 1) := by decide +kernel
theorem dX12_people_2 : decode cX12_people 2 = .ok (.putfield 77, 3) := by decide +kernel
theorem dX12_people_5 : decode cX12_people 5 = .ok (.aload_n 0, 1) := by decide +kernel
theorem dX12_people_6 : decode cX12_people 6 = .ok (.bipush 76, 2) := by decide +kernel
theorem dX12_people_8 : decode cX12_people 8 = .ok (.invokevirtual 145, 3) := by decide +kernel
theorem dX12_people_11 : decode cX12_people 11 = .ok (.aload_n 0, 1) := by decide +kernel
theorem dX12_people_12 : decode cX12_people 12 = .ok (.getfield 104, 3) := by decide +kernel
theorem dX12_people_15 : decode cX12_people 15 = .ok (.ifCond .ne 5, 3) := by decide +kernel
theorem dX12_people_18 : decode cX12_people 18 = .ok (.iconst 0, 1) := by decide +kernel
theorem dX12_people_19 : decode cX12_people 19 = .ok (.ireturn, 1) := by decide +kernel
theorem dX12_people_20 : decode cX12_people 20 = .ok (.iconst 0, 1) := by decide +kernel
theorem dX12_people_21 : decode cX12_people 21 = .ok (.istore_n 1, 1) := by decide +kernel
theorem dX12_people_22 : decode cX12_people 22 = .ok (.iconst 1, 1) := by decide +kernel
theorem dX12_people_23 : decode cX12_people 23 = .ok (.istore_n 2, 1) := by decide +kernel
theorem dX12_people_24 : decode cX12_people 24 = .ok (.iload_n 2, 1) := by decide +kernel
theorem dX12_people_25 : decode cX12_people 25 = .ok (.ifCond .eq 58, 3) := by decide +kernel
theorem dX12_people_28 : decode cX12_people 28 = .ok (.aload_n 0, 1) := by decide +kernel
theorem dX12_people_29 : decode cX12_people 29 = .ok (.invokevirtual 120, 3) := by decide +kernel
theorem dX12_people_32 : decode cX12_people 32 = .ok (.ifCond .eq 51, 3) := by decide +kernel
theorem dX12_people_35 : decode cX12_people 35 = .ok (.aload_n 0, 1) := by decide +kernel
theorem dX12_people_36 : decode cX12_people 36 = .ok (.getfield 83, 3) := by decide +kernel
theorem dX12_people_39 : decode cX12_people 39 = .ok (.iload_n 1, 1) := by decide +kernel
theorem dX12_people_40 : decode cX12_people 40 = .ok (.iadd, 1) := by decide +kernel
theorem dX12_people_41 : decode cX12_people 41 = .ok (.bipush 8, 2) := by decide +kernel
theorem dX12_people_43 : decode cX12_people 43 = .ok (.if_icmp .ne 14, 3) := by decide +kernel
theorem dX12_people_46 : decode cX12_people 46 = .ok (.aload_n 0, 1) := by decide +kernel
theorem dX12_people_47 : decode cX12_people 47 = .ok (.aload_n 0, 1) := by decide +kernel
theorem dX12_people_48 : decode cX12_people 48 = .ok (.getfield 110, 3) := by decide +kernel
theorem dX12_people_51 : decode cX12_people 51 = .ok (.invokevirtual 131, 3) := by decide +kernel
theorem dX12_people_54 : decode cX12_people 54 = .ok (.goto 16, 3) := by decide +kernel
theorem dX12_people_57 : decode cX12_people 57 = .ok (.aload_n 0, 1) := by decide +kernel
theorem dX12_people_58 : decode cX12_people 58 = .ok (.iconst 3, 1) := by decide +kernel
theorem dX12_people_59 : decode cX12_people 59 = .ok (.iload_n 1, 1) := by decide +kernel
theorem dX12_people_60 : decode cX12_people 60 = .ok (.imul, 1) := by decide +kernel
theorem dX12_people_61 : decode cX12_people 61 = .ok (.aload_n 0, 1) := by decide +kernel
theorem dX12_people_62 : decode cX12_people 62 = .ok (.getfield 83, 3) := by decide +kernel
theorem dX12_people_65 : decode cX12_people 65 = .ok (.iload_n 1, 1) := by decide +kernel
theorem dX12_people_66 : decode cX12_people 66 = .ok (.iadd, 1) := by decide +kernel
theorem dX12_people_67 : decode cX12_people 67 = .ok (.invokevirtual 157, 3) := by decide +kernel
theorem dX12_people_70 : decode cX12_people 70 = .ok (.iinc 1 1, 3) := by decide +kernel
theorem dX12_people_73 : decode cX12_people 73 = .ok (.aload_n 0, 1) := by decide +kernel
theorem dX12_people_74 : decode cX12_people 74 = .ok (.bipush 59, 2) := by decide +kernel
theorem dX12_people_76 : decode cX12_people 76 = .ok (.invokevirtual 127, 3) := by decide +kernel
theorem dX12_people_79 : decode cX12_people 79 = .ok (.istore_n 2, 1) := by decide +kernel
theorem dX12_people_80 : decode cX12_people 80 = .ok (.goto (-56), 3) := by decide +kernel
theorem dX12_people_83 : decode cX12_people 83 = .ok (.aload_n 0, 1) := by decide +kernel
theorem dX12_people_84 : decode cX12_people 84 = .ok (.invokevirtual 148, 3) := by decide +kernel
theorem dX12_people_87 : decode cX12_people 87 = .ok (.ifCond .ne 10, 3) := by decide +kernel
theorem dX12_people_90 : decode cX12_people 90 = .ok (.iconst (-1), 1) := by decide +kernel
theorem dX12_people_91 : decode cX12_people 91 = .ok (.aload_n 0, 1) := by decide +kernel
theorem dX12_people_92 : decode cX12_people 92 = .ok (.getfield 113, 3) := by decide +kernel
theorem dX12_people_95 : decode cX12_people 95 = .ok (.isub, 1) := by decide +kernel
theorem dX12_people_96 : decode cX12_people 96 = .ok (.ireturn, 1) := by decide +kernel
theorem dX12_people_97 : decode cX12_people 97 = .ok (.iconst 0, 1) := by decide +kernel
theorem dX12_people_98 : decode cX12_people 98 = .ok (.istore_n 3, 1) := by decide +kernel
theorem dX12_people_99 : decode cX12_people 99 = .ok (.iload_n 3, 1) := by decide +kernel
theorem dX12_people_100 : decode cX12_people 100 = .ok (.iload_n 1, 1) := by decide +kernel
theorem dX12_people_101 : decode cX12_people 101 = .ok (.if_icmp .ge 77, 3) := by decide +kernel
theorem dX12_people_104 : decode cX12_people 104 = .ok (.aload_n 0, 1) := by decide +kernel
theorem dX12_people_105 : decode cX12_people 105 = .ok (.getfield 9, 3) := by decide +kernel
theorem dX12_people_108 : decode cX12_people 108 = .ok (.aload_n 0, 1) := by decide +kernel
theorem dX12_people_109 : decode cX12_people 109 = .ok (.getfield 83, 3) := by decide +kernel
theorem dX12_people_112 : decode cX12_people 112 = .ok (.aload_n 0, 1) := by decide +kernel
theorem dX12_people_113 : decode cX12_people 113 = .ok (.getfield 28, 3) := by decide +kernel
theorem dX12_people_116 : decode cX12_people 116 = .ok (.iconst 3, 1) := by decide +kernel
theorem dX12_people_117 : decode cX12_people 117 = .ok (.iload_n 3, 1) := by decide +kernel
theorem dX12_people_118 : decode cX12_people 118 = .ok (.imul, 1) := by decide +kernel
theorem dX12_people_119 : decode cX12_people 119 = .ok (.iaload, 1) := by decide +kernel
theorem dX12_people_120 : decode cX12_people 120 = .ok (.iastore, 1) := by decide +kernel
theorem dX12_people_121 : decode cX12_people 121 = .ok (.aload_n 0, 1) := by decide +kernel
theorem dX12_people_122 : decode cX12_people 122 = .ok (.getfield 17, 3) := by decide +kernel
theorem dX12_people_125 : decode cX12_people 125 = .ok (.aload_n 0, 1) := by decide +kernel
theorem dX12_people_126 : decode cX12_people 126 = .ok (.getfield 83, 3) := by decide +kernel
theorem dX12_people_129 : decode cX12_people 129 = .ok (.aload_n 0, 1) := by decide +kernel
theorem dX12_people_130 : decode cX12_people 130 = .ok (.getfield 28, 3) := by decide +kernel
theorem dX12_people_133 : decode cX12_people 133 = .ok (.iconst 3, 1) := by decide +kernel
theorem dX12_people_134 : decode cX12_people 134 = .ok (.iload_n 3, 1) := by decide +kernel
theorem dX12_people_135 : decode cX12_people 135 = .ok (.imul, 1) := by decide +kernel
theorem dX12_people_136 : decode cX12_people 136 = .ok (.iconst 1, 1) := by decide +kernel
theorem dX12_people_137 : decode cX12_people 137 = .ok (.iadd, 1) := by decide +kernel
theorem dX12_people_138 : decode cX12_people 138 = .ok (.iaload, 1) := by decide +kernel
theorem dX12_people_139 : decode cX12_people 139 = .ok (.iastore, 1) := by decide +kernel
theorem dX12_people_140 : decode cX12_people 140 = .ok (.aload_n 0, 1) := by decide +kernel
theorem dX12_people_141 : decode cX12_people 141 = .ok (.getfield 9, 3) := by decide +kernel
theorem dX12_people_144 : decode cX12_people 144 = .ok (.bipush 8, 2) := by decide +kernel
theorem dX12_people_146 : decode cX12_people 146 = .ok (.aload_n 0, 1) := by decide +kernel
theorem dX12_people_147 : decode cX12_people 147 = .ok (.getfield 83, 3) := by decide +kernel
theorem dX12_people_150 : decode cX12_people 150 = .ok (.iadd, 1) := by decide +kernel
theorem dX12_people_151 : decode cX12_people 151 = .ok (.aload_n 0, 1) := by decide +kernel
theorem dX12_people_152 : decode cX12_people 152 = .ok (.getfield 28, 3) := by decide +kernel
theorem dX12_people_155 : decode cX12_people 155 = .ok (.iconst 3, 1) := by decide +kernel
theorem dX12_people_156 : decode cX12_people 156 = .ok (.iload_n 3, 1) := by decide +kernel
theorem dX12_people_157 : decode cX12_people 157 = .ok (.imul, 1) := by decide +kernel
theorem dX12_people_158 : decode cX12_people 158 = .ok (.iconst 2, 1) := by decide +kernel
theorem dX12_people_159 : decode cX12_people 159 = .ok (.iadd, 1) := by decide +kernel
theorem dX12_people_160 : decode cX12_people 160 = .ok (.iaload, 1) := by decide +kernel
theorem dX12_people_161 : decode cX12_people 161 = .ok (.iastore, 1) := by decide +kernel
theorem dX12_people_162 : decode cX12_people 162 = .ok (.aload_n 0, 1) := by decide +kernel
theorem dX12_people_163 : decode cX12_people 163 = .ok (.dup, 1) := by decide +kernel
theorem dX12_people_164 : decode cX12_people 164 = .ok (.getfield 83, 3) := by decide +kernel
theorem dX12_people_167 : decode cX12_people 167 = .ok (.iconst 1, 1) := by decide +kernel
theorem dX12_people_168 : decode cX12_people 168 = .ok (.iadd, 1) := by decide +kernel
theorem dX12_people_169 : decode cX12_people 169 = .ok (.putfield 83, 3) := by decide +kernel
theorem dX12_people_172 : decode cX12_people 172 = .ok (.iinc 3 1, 3) := by decide +kernel
theorem dX12_people_175 : decode cX12_people 175 = .ok (.goto (-76), 3) := by decide +kernel
theorem dX12_people_178 : decode cX12_people 178 = .ok (.aload_n 0, 1) := by decide +kernel
theorem dX12_people_179 : decode cX12_people 179 = .ok (.invokevirtual 154, 3) := by decide +kernel
theorem dX12_people_182 : decode cX12_people 182 = .ok (.iload_n 1, 1) := by decide +kernel
theorem dX12_people_183 : decode cX12_people 183 = .ok (.ireturn, 1) := by decide +kernel
def b_X12_people_99 (x4 : Int32) (J178_8 : uS → Option (Int32 × uS)) (rec99_12 : uS → Int32 → Option (Int32 × uS)) (s10 : uS) (x11 : Int32) : Option (Int32 × uS) :=
  if x4 ≤ x11 then (J178_8 s10) else ((u_rI ZM s10 0 5 (3 * x11)).bind fun v13 =>
  (u_wI ZM s10 0 1 (s10.1 0 2) v13).bind fun s14 =>
  (u_rI ZM s14 0 5 ((3 * x11) + 1)).bind fun v15 =>
  (u_wI ZM s14 0 2 (s14.1 0 2) v15).bind fun s16 =>
  (u_rI ZM s16 0 5 ((3 * x11) + 2)).bind fun v17 =>
  (u_wI ZM s16 0 1 (8 + (s16.1 0 2)) v17).bind fun s18 =>
  u_jn (u_pI s18 0 2 ((s18.1 0 2) + 1)) fun s19 =>
  u_jn (x11 + 1 : Int32) fun x20 =>
  rec99_12 s19 x20)
def b_X12_people_24 (N : Nat) (J83_5 : uS → Int32 → Option (Int32 × uS)) (rec24_24 : uS → Int32 → Int32 → Option (Int32 × uS)) (s21 : uS) (x22 : Int32) (x23 : Int32) : Option (Int32 × uS) :=
  if x23 = 0 then (J83_5 s21 x22) else ((f_X12_fine N s21).bind fun v25 =>
  if v25 = 0 then (J83_5 s21 x22) else (u_jn (fun (s26 : uS) => (u_jn (x22 + 1 : Int32) fun x28 =>
  (f_X12_passes N s26 59).bind fun v29 =>
  rec24_24 v29.2 x28 v29.1 : Option (Int32 × uS))) fun J70_27 =>
  if ((s21.1 0 2) + x22) = 8 then ((f_X12_fault N s21 (s21.1 0 12)).bind fun s31 =>
  J70_27 s31) else ((f_X12_readMan N s21 (3 * x22) ((s21.1 0 2) + x22)).bind fun s30 =>
  J70_27 s30)))
def f_X12_people (N : Nat) (σ : uS) : Option (Int32 × uS) := u_jn (u_pI σ 0 8 0) fun s1 =>
  (f_X12_beginText N s1 76).bind fun s2 =>
  if (s2.1 0 10) = 0 then (some (0, s2)) else (u_jn (fun (s3 : uS) (x4 : Int32) => ((f_X12_wasRight N s3).bind fun v6 =>
  if v6.1 = 0 then (some (((-1) - (v6.2.1 0 13)), v6.2)) else (u_jn (fun (s7 : uS) => ((f_X12_told N s7).bind fun s9 =>
  some (x4, s9) : Option (Int32 × uS))) fun J178_8 =>
  u_lp2 (b_X12_people_99 x4 J178_8) N v6.2 0) : Option (Int32 × uS))) fun J83_5 =>
  u_lp3 (b_X12_people_24 N J83_5) N s2 0 1)
set_option maxRecDepth 100000 in
set_option maxHeartbeats 4000000 in
theorem c_X12_people (l : Launch) (G : uG) (N : Nat) (σ : uS) (z : (Int32 × uS)) (hz : f_X12_people N σ = some z) : u_Mi l ZM G yX12_people cX12_people 4 .int 4 [.ref (G.2.2 0)] σ z.1 z.2 := by
  refine u_Mi_of RX12 (by decide) rfl (Nat.le_of_ble_eq_true rfl) ?_
  intro p e s m args below meth c ls cx hw hl
  have hx := cx.1
  have hb := cx.2.1
  have hl : lv_has ls 4 [(0, .ref (G.2.2 0))] := hl
  unfold f_X12_people at hz
  refine lv_aload_n hx hb dX12_people_0 rfl (lv_at hl 0 rfl) ?_
  refine lv_iconst (v := 0) hx hb dX12_people_1 (by decide) ?_
  obtain ⟨s1, es1, hz⟩ := u_let hz
  refine u_puti2 cx hw P_X12_77 o_X12 rfl es1 dX12_people_2 (fun H locs hw => ?_)
  refine lv_aload_n hx hb dX12_people_5 rfl (lv_at hl 0 rfl) ?_
  refine lv_bipush (v := 76) hx hb dX12_people_6 (by decide) ?_
  obtain ⟨s2, hs2, hz⟩ := u_bind hz
  refine u_callVv (As := [.int 76]) (rest := []) cx hw LV_X12_145 (c_X12_beginText l G N s1 76 s2 hs2) o_X12 rfl (by decide) hl.1 rfl (Nat.le_of_ble_eq_true rfl) dX12_people_8 rfl (fun H locs hw => ?_)
  refine lv_aload_n hx hb dX12_people_11 rfl (lv_at hl 0 rfl) ?_
  refine u_geti cx hw F_X12_104 o_X12 rfl dX12_people_12 ?_
  refine lv_if_ne (tgt := 20) hx hb dX12_people_15 (by decide) (fun hc => ?_) (fun hc => ?_)
  · replace hz := u_iff hz hc
    refine lv_iconst (v := 0) hx hb dX12_people_20 (by decide) ?_
    refine lv_istore_n (lv' := [(1, .int 0), (0, .ref (G.2.2 0))]) hx hb dX12_people_21 rfl hl (by decide) rfl (fun ls hl => ?_)
    refine lv_iconst (v := 1) hx hb dX12_people_22 (by decide) ?_
    refine lv_istore_n (lv' := [(2, .int 1), (1, .int 0), (0, .ref (G.2.2 0))]) hx hb dX12_people_23 rfl hl (by decide) rfl (fun ls hl => ?_)
    obtain ⟨J83_5, eJ83_5, hz⟩ := u_let hz
    have WJ83_5 : ∀ (s3 : uS) (x4 : Int32) (H : Heap) (locs : List Loc) (ls : Array Slot), J83_5 s3 x4 = some z → u_W ZM G s3 s H locs → lv_has ls 4 [(0, .ref (G.2.2 0)), (1, .int x4)] → W p l e (u_rm 4) s m args below meth c H locs 0 0 (u_Qi below ZM G s args z.1 z.2) (F0 m 83 ls []) := by
      intro s3 x4 H locs ls hz hw hl
      rw [eJ83_5] at hz
      refine lv_aload_n hx hb dX12_people_83 rfl (lv_at hl 0 rfl) ?_
      obtain ⟨v6, hv6, hz⟩ := u_bind hz
      refine u_callVi (As := []) (rest := []) cx hw LV_X12_148 (c_X12_wasRight l G N s3 v6 hv6) o_X12 rfl (by decide) hl.1 rfl (Nat.le_of_ble_eq_true rfl) dX12_people_84 rfl (fun H locs hw => ?_)
      refine lv_if_ne (tgt := 97) hx hb dX12_people_87 (by decide) (fun hc => ?_) (fun hc => ?_)
      · replace hz := u_iff hz hc
        refine lv_iconst (v := 0) hx hb dX12_people_97 (by decide) ?_
        refine lv_istore_n (lv' := [(3, .int 0), (0, .ref (G.2.2 0)), (1, .int x4)]) hx hb dX12_people_98 rfl hl (by decide) rfl (fun ls hl => ?_)
        obtain ⟨J178_8, eJ178_8, hz⟩ := u_let hz
        have WJ178_8 : ∀ (s7 : uS) (H : Heap) (locs : List Loc) (ls : Array Slot), J178_8 s7 = some z → u_W ZM G s7 s H locs → lv_has ls 4 [(0, .ref (G.2.2 0)), (1, .int x4)] → W p l e (u_rm 4) s m args below meth c H locs 0 0 (u_Qi below ZM G s args z.1 z.2) (F0 m 178 ls []) := by
          intro s7 H locs ls hz hw hl
          rw [eJ178_8] at hz
          refine lv_aload_n hx hb dX12_people_178 rfl (lv_at hl 0 rfl) ?_
          obtain ⟨s9, hs9, hz⟩ := u_bind hz
          refine u_callVv (As := []) (rest := []) cx hw LV_X12_154 (c_X12_told l G N s7 s9 hs9) o_X12 rfl (by decide) hl.1 rfl (Nat.le_of_ble_eq_true rfl) dX12_people_179 rfl (fun H locs hw => ?_)
          refine lv_iload_n hx hb dX12_people_182 rfl (lv_at hl 1 rfl) ?_
          exact u_iret cx hw (u_pair hz) dX12_people_183
        have WL99_20 : ∀ (k : Nat) (s10 : uS) (x11 : Int32) (H : Heap) (locs : List Loc) (ls : Array Slot), u_lp2 (b_X12_people_99 x4 J178_8) k s10 x11 = some z → u_W ZM G s10 s H locs → lv_has ls 4 [(0, .ref (G.2.2 0)), (1, .int x4), (3, .int x11)] → W p l e (u_rm 4) s m args below meth c H locs 0 0 (u_Qi below ZM G s args z.1 z.2) (F0 m 99 ls []) := by
          intro k
          induction k with
          | zero =>
            intro s10 x11 H locs ls hz
            exact absurd hz (by intro h9; cases h9)
          | succ k ih99_12 =>
            intro s10 x11 H locs ls hz hw hl
            have hz : (b_X12_people_99 x4 J178_8) (u_lp2 (b_X12_people_99 x4 J178_8) k) s10 x11 = some z := hz
            unfold b_X12_people_99 at hz
            refine lv_iload_n hx hb dX12_people_99 rfl (lv_at hl 2 rfl) ?_
            refine lv_iload_n hx hb dX12_people_100 rfl (lv_at hl 1 rfl) ?_
            refine lv_icmp_ge (tgt := 178) hx hb dX12_people_101 (by decide) (fun hc => ?_) (fun hc => ?_)
            · replace hz := u_ift hz hc
              exact WJ178_8 s10 _ _ _ hz hw (lv_sub hl [0, 1] rfl)
            · replace hz := u_iff hz hc
              refine lv_aload_n hx hb dX12_people_104 rfl (lv_at hl 0 rfl) ?_
              refine u_getp cx hw F_X12_9 o_X12 rfl dX12_people_105 ?_
              refine lv_aload_n hx hb dX12_people_108 rfl (lv_at hl 0 rfl) ?_
              refine u_geti cx hw F_X12_83 o_X12 rfl dX12_people_109 ?_
              refine lv_aload_n hx hb dX12_people_112 rfl (lv_at hl 0 rfl) ?_
              refine u_getp cx hw F_X12_28 o_X12 rfl dX12_people_113 ?_
              refine lv_iconst (v := 3) hx hb dX12_people_116 (by decide) ?_
              refine lv_iload_n hx hb dX12_people_117 rfl (lv_at hl 2 rfl) ?_
              refine lv_imul hx hb dX12_people_118 ?_
              obtain ⟨v13, hv13, hz⟩ := u_bind hz
              refine u_iald cx hw hv13 dX12_people_119 ?_
              obtain ⟨s14, hs14, hz⟩ := u_bind hz
              refine u_iast cx hw hs14 dX12_people_120 (fun H locs hw => ?_)
              refine lv_aload_n hx hb dX12_people_121 rfl (lv_at hl 0 rfl) ?_
              refine u_getp cx hw F_X12_17 o_X12 rfl dX12_people_122 ?_
              refine lv_aload_n hx hb dX12_people_125 rfl (lv_at hl 0 rfl) ?_
              refine u_geti cx hw F_X12_83 o_X12 rfl dX12_people_126 ?_
              refine lv_aload_n hx hb dX12_people_129 rfl (lv_at hl 0 rfl) ?_
              refine u_getp cx hw F_X12_28 o_X12 rfl dX12_people_130 ?_
              refine lv_iconst (v := 3) hx hb dX12_people_133 (by decide) ?_
              refine lv_iload_n hx hb dX12_people_134 rfl (lv_at hl 2 rfl) ?_
              refine lv_imul hx hb dX12_people_135 ?_
              refine lv_iconst (v := 1) hx hb dX12_people_136 (by decide) ?_
              refine lv_iadd hx hb dX12_people_137 ?_
              obtain ⟨v15, hv15, hz⟩ := u_bind hz
              refine u_iald cx hw hv15 dX12_people_138 ?_
              obtain ⟨s16, hs16, hz⟩ := u_bind hz
              refine u_iast cx hw hs16 dX12_people_139 (fun H locs hw => ?_)
              refine lv_aload_n hx hb dX12_people_140 rfl (lv_at hl 0 rfl) ?_
              refine u_getp cx hw F_X12_9 o_X12 rfl dX12_people_141 ?_
              refine lv_bipush (v := 8) hx hb dX12_people_144 (by decide) ?_
              refine lv_aload_n hx hb dX12_people_146 rfl (lv_at hl 0 rfl) ?_
              refine u_geti cx hw F_X12_83 o_X12 rfl dX12_people_147 ?_
              refine lv_iadd hx hb dX12_people_150 ?_
              refine lv_aload_n hx hb dX12_people_151 rfl (lv_at hl 0 rfl) ?_
              refine u_getp cx hw F_X12_28 o_X12 rfl dX12_people_152 ?_
              refine lv_iconst (v := 3) hx hb dX12_people_155 (by decide) ?_
              refine lv_iload_n hx hb dX12_people_156 rfl (lv_at hl 2 rfl) ?_
              refine lv_imul hx hb dX12_people_157 ?_
              refine lv_iconst (v := 2) hx hb dX12_people_158 (by decide) ?_
              refine lv_iadd hx hb dX12_people_159 ?_
              obtain ⟨v17, hv17, hz⟩ := u_bind hz
              refine u_iald cx hw hv17 dX12_people_160 ?_
              obtain ⟨s18, hs18, hz⟩ := u_bind hz
              refine u_iast cx hw hs18 dX12_people_161 (fun H locs hw => ?_)
              refine lv_aload_n hx hb dX12_people_162 rfl (lv_at hl 0 rfl) ?_
              refine lv_dup hx hb dX12_people_163 rfl ?_
              refine u_geti cx hw F_X12_83 o_X12 rfl dX12_people_164 ?_
              refine lv_iconst (v := 1) hx hb dX12_people_167 (by decide) ?_
              refine lv_iadd hx hb dX12_people_168 ?_
              obtain ⟨s19, es19, hz⟩ := u_let hz
              refine u_puti2 cx hw P_X12_83 o_X12 rfl es19 dX12_people_169 (fun H locs hw => ?_)
              obtain ⟨x20, ex20, hz⟩ := u_let hz
              refine lv_iinc (v := x20) (lv' := [(3, .int x20), (0, .ref (G.2.2 0)), (1, .int x4)]) hx hb dX12_people_172 hl (k := 2) rfl (by rw [ex20]; rfl) (by decide) rfl (fun ls hl => ?_)
              refine lv_goto (tgt := 99) hx hb dX12_people_175 (by decide) ?_
              exact ih99_12 s19 x20 _ _ _ hz hw (lv_sub hl [1, 2, 0] rfl)
        exact WL99_20 N v6.2 0 _ _ _ hz hw (lv_sub hl [1, 2, 0] rfl)
      · replace hz := u_ift hz hc
        refine lv_iconst (v := (-1)) hx hb dX12_people_90 (by decide) ?_
        refine lv_aload_n hx hb dX12_people_91 rfl (lv_at hl 0 rfl) ?_
        refine u_geti cx hw F_X12_113 o_X12 rfl dX12_people_92 ?_
        refine lv_isub hx hb dX12_people_95 ?_
        exact u_iret cx hw (u_pair hz) dX12_people_96
    have WL24_31 : ∀ (k : Nat) (s21 : uS) (x22 : Int32) (x23 : Int32) (H : Heap) (locs : List Loc) (ls : Array Slot), u_lp3 (b_X12_people_24 N J83_5) k s21 x22 x23 = some z → u_W ZM G s21 s H locs → lv_has ls 4 [(0, .ref (G.2.2 0)), (1, .int x22), (2, .int x23)] → W p l e (u_rm 4) s m args below meth c H locs 0 0 (u_Qi below ZM G s args z.1 z.2) (F0 m 24 ls []) := by
      intro k
      induction k with
      | zero =>
        intro s21 x22 x23 H locs ls hz
        exact absurd hz (by intro h9; cases h9)
      | succ k ih24_24 =>
        intro s21 x22 x23 H locs ls hz hw hl
        have hz : (b_X12_people_24 N J83_5) (u_lp3 (b_X12_people_24 N J83_5) k) s21 x22 x23 = some z := hz
        unfold b_X12_people_24 at hz
        refine lv_iload_n hx hb dX12_people_24 rfl (lv_at hl 2 rfl) ?_
        refine lv_if_eq (tgt := 83) hx hb dX12_people_25 (by decide) (fun hc => ?_) (fun hc => ?_)
        · replace hz := u_ift hz hc
          exact WJ83_5 s21 x22 _ _ _ hz hw (lv_sub hl [0, 1] rfl)
        · replace hz := u_iff hz hc
          refine lv_aload_n hx hb dX12_people_28 rfl (lv_at hl 0 rfl) ?_
          obtain ⟨v25, hv25, hz⟩ := u_bind hz
          refine u_callVi (As := []) (rest := []) cx hw LV_X12_120 (c_X12_fine l G N s21 v25 hv25) o_X12 rfl (by decide) hl.1 rfl (Nat.le_of_ble_eq_true rfl) dX12_people_29 rfl (fun H locs hw => ?_)
          refine lv_if_eq (tgt := 83) hx hb dX12_people_32 (by decide) (fun hc => ?_) (fun hc => ?_)
          · replace hz := u_ift hz hc
            exact WJ83_5 s21 x22 _ _ _ hz hw (lv_sub hl [0, 1] rfl)
          · replace hz := u_iff hz hc
            refine lv_aload_n hx hb dX12_people_35 rfl (lv_at hl 0 rfl) ?_
            refine u_geti cx hw F_X12_83 o_X12 rfl dX12_people_36 ?_
            refine lv_iload_n hx hb dX12_people_39 rfl (lv_at hl 1 rfl) ?_
            refine lv_iadd hx hb dX12_people_40 ?_
            refine lv_bipush (v := 8) hx hb dX12_people_41 (by decide) ?_
            obtain ⟨J70_27, eJ70_27, hz⟩ := u_let hz
            have WJ70_27 : ∀ (s26 : uS) (H : Heap) (locs : List Loc) (ls : Array Slot), J70_27 s26 = some z → u_W ZM G s26 s H locs → lv_has ls 4 [(0, .ref (G.2.2 0)), (1, .int x22)] → W p l e (u_rm 4) s m args below meth c H locs 0 0 (u_Qi below ZM G s args z.1 z.2) (F0 m 70 ls []) := by
              intro s26 H locs ls hz hw hl
              rw [eJ70_27] at hz
              obtain ⟨x28, ex28, hz⟩ := u_let hz
              refine lv_iinc (v := x28) (lv' := [(1, .int x28), (0, .ref (G.2.2 0))]) hx hb dX12_people_70 hl (k := 1) rfl (by rw [ex28]; rfl) (by decide) rfl (fun ls hl => ?_)
              refine lv_aload_n hx hb dX12_people_73 rfl (lv_at hl 1 rfl) ?_
              refine lv_bipush (v := 59) hx hb dX12_people_74 (by decide) ?_
              obtain ⟨v29, hv29, hz⟩ := u_bind hz
              refine u_callVi (As := [.int 59]) (rest := []) cx hw LV_X12_127 (c_X12_passes l G N s26 59 v29 hv29) o_X12 rfl (by decide) hl.1 rfl (Nat.le_of_ble_eq_true rfl) dX12_people_76 rfl (fun H locs hw => ?_)
              refine lv_istore_n (lv' := [(2, .int v29.1), (1, .int x28), (0, .ref (G.2.2 0))]) hx hb dX12_people_79 rfl hl (by decide) rfl (fun ls hl => ?_)
              refine lv_goto (tgt := 24) hx hb dX12_people_80 (by decide) ?_
              exact ih24_24 v29.2 x28 v29.1 _ _ _ hz hw (lv_sub hl [2, 1, 0] rfl)
            refine lv_icmp_ne (tgt := 57) hx hb dX12_people_43 (by decide) (fun hc => ?_) (fun hc => ?_)
            · replace hz := u_iff hz hc
              refine lv_aload_n hx hb dX12_people_57 rfl (lv_at hl 0 rfl) ?_
              refine lv_iconst (v := 3) hx hb dX12_people_58 (by decide) ?_
              refine lv_iload_n hx hb dX12_people_59 rfl (lv_at hl 1 rfl) ?_
              refine lv_imul hx hb dX12_people_60 ?_
              refine lv_aload_n hx hb dX12_people_61 rfl (lv_at hl 0 rfl) ?_
              refine u_geti cx hw F_X12_83 o_X12 rfl dX12_people_62 ?_
              refine lv_iload_n hx hb dX12_people_65 rfl (lv_at hl 1 rfl) ?_
              refine lv_iadd hx hb dX12_people_66 ?_
              obtain ⟨s30, hs30, hz⟩ := u_bind hz
              refine u_callVv (As := [.int (3 * x22), .int ((s21.1 0 2) + x22)]) (rest := []) cx hw LV_X12_157 (c_X12_readMan l G N s21 (3 * x22) ((s21.1 0 2) + x22) s30 hs30) o_X12 rfl (by decide) hl.1 rfl (Nat.le_of_ble_eq_true rfl) dX12_people_67 rfl (fun H locs hw => ?_)
              exact WJ70_27 s30 _ _ _ hz hw (lv_sub hl [0, 1] rfl)
            · replace hz := u_ift hz hc
              refine lv_aload_n hx hb dX12_people_46 rfl (lv_at hl 0 rfl) ?_
              refine lv_aload_n hx hb dX12_people_47 rfl (lv_at hl 0 rfl) ?_
              refine u_geti cx hw F_X12_110 o_X12 rfl dX12_people_48 ?_
              obtain ⟨s31, hs31, hz⟩ := u_bind hz
              refine u_callVv (As := [.int (s21.1 0 12)]) (rest := []) cx hw LV_X12_131 (c_X12_fault l G N s21 (s21.1 0 12) s31 hs31) o_X12 rfl (by decide) hl.1 rfl (Nat.le_of_ble_eq_true rfl) dX12_people_51 rfl (fun H locs hw => ?_)
              refine lv_goto (tgt := 70) hx hb dX12_people_54 (by decide) ?_
              exact WJ70_27 s31 _ _ _ hz hw (lv_sub hl [0, 1] rfl)
    exact WL24_31 N s2 0 1 _ _ _ hz hw (lv_sub hl [2, 1, 0] rfl)
  · replace hz := u_ift hz hc
    refine lv_iconst (v := 0) hx hb dX12_people_18 (by decide) ?_
    exact u_iret cx hw (u_pair hz) dX12_people_19
