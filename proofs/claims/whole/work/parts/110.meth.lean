theorem dX11_rests_0 : decode cX11_rests 0 = .ok (.iload_n 1, 1) := by decide +kernel
theorem dX11_rests_1 : decode cX11_rests 1 = .ok (.ifCond .lt 19, 3) := by decide +kernel
theorem dX11_rests_4 : decode cX11_rests 4 = .ok (.iload_n 1, 1) := by decide +kernel
theorem dX11_rests_5 : decode cX11_rests 5 = .ok (.bipush 20, 2) := by decide +kernel
theorem dX11_rests_7 : decode cX11_rests 7 = .ok (.if_icmp .gt 13, 3) := by decide +kernel
theorem dX11_rests_10 : decode cX11_rests 10 = .ok (.iload_n 2, 1) := by decide +kernel
theorem dX11_rests_11 : decode cX11_rests 11 = .ok (.ifCond .lt 9, 3) := by decide +kernel
theorem dX11_rests_14 : decode cX11_rests 14 = .ok (.iload_n 2, 1) := by decide +kernel
theorem dX11_rests_15 : decode cX11_rests 15 = .ok (.bipush 9, 2) := by decide +kernel
theorem dX11_rests_17 : decode cX11_rests 17 = .ok (.if_icmp .le 5, 3) := by decide +kernel
theorem dX11_rests_20 : decode cX11_rests 20 = .ok (.iconst (-1), 1) := by decide +kernel
theorem dX11_rests_21 : decode cX11_rests 21 = .ok (.ireturn, 1) := by decide +kernel
theorem dX11_rests_22 : decode cX11_rests 22 = .ok (.aload_n 0, 1) := by decide +kernel
theorem dX11_rests_23 : decode cX11_rests 23 = .ok (.getfield 19, 3) := by decide +kernel
theorem dX11_rests_26 : decode cX11_rests 26 = .ok (.invokevirtual 347, 3) := by decide +kernel
theorem dX11_rests_29 : decode cX11_rests 29 = .ok (.iconst 0, 1) := by decide +kernel
theorem dX11_rests_30 : decode cX11_rests 30 = .ok (.istore_n 3, 1) := by decide +kernel
theorem dX11_rests_31 : decode cX11_rests 31 = .ok (.iconst 0, 1) := by decide +kernel
theorem dX11_rests_32 : decode cX11_rests 32 = .ok (.istore 4, 2) := by decide +kernel
theorem dX11_rests_34 : decode cX11_rests 34 = .ok (.iload 4, 2) := by decide +kernel
theorem dX11_rests_36 : decode cX11_rests 36 = .ok (.bipush 9, 2) := by decide +kernel
theorem dX11_rests_38 : decode cX11_rests 38 = .ok (.if_icmp .gt 58, 3) := by decide +kernel
theorem dX11_rests_41 : decode cX11_rests 41 = .ok (.iconst 0, 1) := by decide +kernel
theorem dX11_rests_42 : decode cX11_rests 42 = .ok (.istore 5, 2) := by decide +kernel
theorem dX11_rests_44 : decode cX11_rests 44 = .ok (.iload 5, 2) := by decide +kernel
theorem dX11_rests_46 : decode cX11_rests 46 = .ok (.bipush 9, 2) := by decide +kernel
theorem dX11_rests_48 : decode cX11_rests 48 = .ok (.if_icmp .gt 42, 3) := by decide +kernel
theorem dX11_rests_51 : decode cX11_rests 51 = .ok (.iload 4, 2) := by decide +kernel
theorem dX11_rests_53 : decode cX11_rests 53 = .ok (.iload 5, 2) := by decide +kernel
theorem dX11_rests_55 : decode cX11_rests 55 = .ok (.iload_n 1, 1) := by decide +kernel
theorem dX11_rests_56 : decode cX11_rests 56 = .ok (.iload_n 2, 1) := by decide +kernel
theorem dX11_rests_57 : decode cX11_rests 57 = .ok (.invokestatic 392, 3) := by decide +kernel
theorem dX11_rests_60 : decode cX11_rests 60 = .ok (.ifCond .eq 24, 3) := by decide +kernel
theorem dX11_rests_63 : decode cX11_rests 63 = .ok (.iinc 3 1, 3) := by decide +kernel
theorem dX11_rests_66 : decode cX11_rests 66 = .ok (.iload_n 3, 1) := by decide +kernel
theorem dX11_rests_67 : decode cX11_rests 67 = .ok (.iconst 1, 1) := by decide +kernel
theorem dX11_rests_68 : decode cX11_rests 68 = .ok (.if_icmp .ne 16, 3) := by decide +kernel
theorem dX11_rests_71 : decode cX11_rests 71 = .ok (.aload_n 0, 1) := by decide +kernel
theorem dX11_rests_72 : decode cX11_rests 72 = .ok (.getfield 19, 3) := by decide +kernel
theorem dX11_rests_75 : decode cX11_rests 75 = .ok (.iload 4, 2) := by decide +kernel
theorem dX11_rests_77 : decode cX11_rests 77 = .ok (.i2l, 1) := by decide +kernel
theorem dX11_rests_78 : decode cX11_rests 78 = .ok (.iload 5, 2) := by decide +kernel
theorem dX11_rests_80 : decode cX11_rests 80 = .ok (.i2l, 1) := by decide +kernel
theorem dX11_rests_81 : decode cX11_rests 81 = .ok (.invokevirtual 220, 3) := by decide +kernel
theorem dX11_rests_84 : decode cX11_rests 84 = .ok (.iinc 5 1, 3) := by decide +kernel
theorem dX11_rests_87 : decode cX11_rests 87 = .ok (.goto (-43), 3) := by decide +kernel
theorem dX11_rests_90 : decode cX11_rests 90 = .ok (.iinc 4 1, 3) := by decide +kernel
theorem dX11_rests_93 : decode cX11_rests 93 = .ok (.goto (-59), 3) := by decide +kernel
theorem dX11_rests_96 : decode cX11_rests 96 = .ok (.iload_n 3, 1) := by decide +kernel
theorem dX11_rests_97 : decode cX11_rests 97 = .ok (.ireturn, 1) := by decide +kernel
def b_X11_rests_44 (N : Nat) (p1 : Int32) (p2 : Int32) (x7 : Int32) (J90_11 : uS → Int32 → Option (Int32 × uS)) (rec44_16 : uS → Int32 → Int32 → Option (Int32 × uS)) (s13 : uS) (x14 : Int32) (x15 : Int32) : Option (Int32 × uS) :=
  if 9 < x15 then (J90_11 s13 x14) else ((f_X11_isTreatyAtRest N s13 x7 x15 p1 p2).bind fun v17 =>
  u_jn (fun (s18 : uS) (x19 : Int32) => (u_jn (x15 + 1 : Int32) fun x21 =>
  rec44_16 s18 x19 x21 : Option (Int32 × uS))) fun J84_20 =>
  if v17 = 0 then (J84_20 s13 x14) else (u_jn (x14 + 1 : Int32) fun x22 =>
  if x22 = 1 then ((f_X8_two N s13 (Int32.toInt64 x7) (Int32.toInt64 x15)).bind fun s23 =>
  J84_20 s23 x22) else (J84_20 s13 x22)))
def b_X11_rests_34 (N : Nat) (p1 : Int32) (p2 : Int32) (J96_4 : uS → Int32 → Option (Int32 × uS)) (rec34_8 : uS → Int32 → Int32 → Option (Int32 × uS)) (s5 : uS) (x6 : Int32) (x7 : Int32) : Option (Int32 × uS) :=
  if 9 < x7 then (J96_4 s5 x6) else (u_jn (fun (s9 : uS) (x10 : Int32) => (u_jn (x7 + 1 : Int32) fun x12 =>
  rec34_8 s9 x10 x12 : Option (Int32 × uS))) fun J90_11 =>
  u_lp3 (b_X11_rests_44 N p1 p2 x7 J90_11) N s5 x6 0)
def f_X11_rests (N : Nat) (σ : uS) (p1 : Int32) (p2 : Int32) : Option (Int32 × uS) := if p1 < 0 then (some ((-1), σ)) else (if 20 < p1 then (some ((-1), σ)) else (if p2 < 0 then (some ((-1), σ)) else (if p2 ≤ 9 then ((f_X8_clear N σ).bind fun s1 =>
  u_jn (fun (s2 : uS) (x3 : Int32) => (some (x3, s2) : Option (Int32 × uS))) fun J96_4 =>
  u_lp3 (b_X11_rests_34 N p1 p2 J96_4) N s1 0 0) else (some ((-1), σ)))))
set_option maxRecDepth 100000 in
set_option maxHeartbeats 4000000 in
theorem c_X11_rests (l : Launch) (G : uG) (N : Nat) (σ : uS) (p1 : Int32) (p2 : Int32) (z : (Int32 × uS)) (hz : f_X11_rests N σ p1 p2 = some z) : u_Mi l ZC G yX11_rests cX11_rests 6 .int 2 [.ref (G.2.2 0), .int p1, .int p2] σ z.1 z.2 := by
  refine u_Mi_of RX11 (by decide) rfl (Nat.le_of_ble_eq_true rfl) ?_
  intro p e s m args below meth c ls cx hw hl
  have hx := cx.1
  have hb := cx.2.1
  have hl : lv_has ls 6 [(0, .ref (G.2.2 0)), (1, .int p1), (2, .int p2)] := hl
  unfold f_X11_rests at hz
  refine lv_iload_n hx hb dX11_rests_0 rfl (lv_at hl 1 rfl) ?_
  refine lv_if_lt (tgt := 20) hx hb dX11_rests_1 (by decide) (fun hc => ?_) (fun hc => ?_)
  · replace hz := u_ift hz hc
    refine lv_iconst (v := (-1)) hx hb dX11_rests_20 (by decide) ?_
    exact u_iret cx hw (u_pair hz) dX11_rests_21
  · replace hz := u_iff hz hc
    refine lv_iload_n hx hb dX11_rests_4 rfl (lv_at hl 1 rfl) ?_
    refine lv_bipush (v := 20) hx hb dX11_rests_5 (by decide) ?_
    refine lv_icmp_gt (tgt := 20) hx hb dX11_rests_7 (by decide) (fun hc => ?_) (fun hc => ?_)
    · replace hz := u_ift hz hc
      refine lv_iconst (v := (-1)) hx hb dX11_rests_20 (by decide) ?_
      exact u_iret cx hw (u_pair hz) dX11_rests_21
    · replace hz := u_iff hz hc
      refine lv_iload_n hx hb dX11_rests_10 rfl (lv_at hl 2 rfl) ?_
      refine lv_if_lt (tgt := 20) hx hb dX11_rests_11 (by decide) (fun hc => ?_) (fun hc => ?_)
      · replace hz := u_ift hz hc
        refine lv_iconst (v := (-1)) hx hb dX11_rests_20 (by decide) ?_
        exact u_iret cx hw (u_pair hz) dX11_rests_21
      · replace hz := u_iff hz hc
        refine lv_iload_n hx hb dX11_rests_14 rfl (lv_at hl 2 rfl) ?_
        refine lv_bipush (v := 9) hx hb dX11_rests_15 (by decide) ?_
        refine lv_icmp_le (tgt := 22) hx hb dX11_rests_17 (by decide) (fun hc => ?_) (fun hc => ?_)
        · replace hz := u_ift hz hc
          refine lv_aload_n hx hb dX11_rests_22 rfl (lv_at hl 0 rfl) ?_
          refine u_getp cx hw F_X11_19 o_X11 rfl dX11_rests_23 ?_
          obtain ⟨s1, hs1, hz⟩ := u_bind hz
          refine u_callVv (As := []) (rest := []) cx hw LV_X11_347 (c_X8_clear l G N σ s1 hs1) o_X8 rfl (by decide) hl.1 rfl (Nat.le_of_ble_eq_true rfl) dX11_rests_26 rfl (fun H locs hw => ?_)
          refine lv_iconst (v := 0) hx hb dX11_rests_29 (by decide) ?_
          refine lv_istore_n (lv' := [(3, .int 0), (0, .ref (G.2.2 0)), (1, .int p1), (2, .int p2)]) hx hb dX11_rests_30 rfl hl (by decide) rfl (fun ls hl => ?_)
          refine lv_iconst (v := 0) hx hb dX11_rests_31 (by decide) ?_
          refine lv_istore (lv' := [(4, .int 0), (3, .int 0), (0, .ref (G.2.2 0)), (1, .int p1), (2, .int p2)]) hx hb dX11_rests_32 hl (by decide) rfl (fun ls hl => ?_)
          obtain ⟨J96_4, eJ96_4, hz⟩ := u_let hz
          have WJ96_4 : ∀ (s2 : uS) (x3 : Int32) (H : Heap) (locs : List Loc) (ls : Array Slot), J96_4 s2 x3 = some z → u_W ZC G s2 s H locs → lv_has ls 6 [(3, .int x3)] → W p l e (u_rm 2) s m args below meth c H locs 0 0 (u_Qi below ZC G s args z.1 z.2) (F0 m 96 ls []) := by
            intro s2 x3 H locs ls hz hw hl
            rw [eJ96_4] at hz
            refine lv_iload_n hx hb dX11_rests_96 rfl (lv_at hl 0 rfl) ?_
            exact u_iret cx hw (u_pair hz) dX11_rests_97
          have WL34_23 : ∀ (k : Nat) (s5 : uS) (x6 : Int32) (x7 : Int32) (H : Heap) (locs : List Loc) (ls : Array Slot), u_lp3 (b_X11_rests_34 N p1 p2 J96_4) k s5 x6 x7 = some z → u_W ZC G s5 s H locs → lv_has ls 6 [(0, .ref (G.2.2 0)), (1, .int p1), (2, .int p2), (3, .int x6), (4, .int x7)] → W p l e (u_rm 2) s m args below meth c H locs 0 0 (u_Qi below ZC G s args z.1 z.2) (F0 m 34 ls []) := by
            intro k
            induction k with
            | zero =>
              intro s5 x6 x7 H locs ls hz
              exact absurd hz (by intro h9; cases h9)
            | succ k ih34_8 =>
              intro s5 x6 x7 H locs ls hz hw hl
              have hz : (b_X11_rests_34 N p1 p2 J96_4) (u_lp3 (b_X11_rests_34 N p1 p2 J96_4) k) s5 x6 x7 = some z := hz
              unfold b_X11_rests_34 at hz
              refine lv_iload hx hb dX11_rests_34 (lv_at hl 4 rfl) ?_
              refine lv_bipush (v := 9) hx hb dX11_rests_36 (by decide) ?_
              refine lv_icmp_gt (tgt := 96) hx hb dX11_rests_38 (by decide) (fun hc => ?_) (fun hc => ?_)
              · replace hz := u_ift hz hc
                exact WJ96_4 s5 x6 _ _ _ hz hw (lv_sub hl [3] rfl)
              · replace hz := u_iff hz hc
                refine lv_iconst (v := 0) hx hb dX11_rests_41 (by decide) ?_
                refine lv_istore (lv' := [(5, .int 0), (0, .ref (G.2.2 0)), (1, .int p1), (2, .int p2), (3, .int x6), (4, .int x7)]) hx hb dX11_rests_42 hl (by decide) rfl (fun ls hl => ?_)
                obtain ⟨J90_11, eJ90_11, hz⟩ := u_let hz
                have WJ90_11 : ∀ (s9 : uS) (x10 : Int32) (H : Heap) (locs : List Loc) (ls : Array Slot), J90_11 s9 x10 = some z → u_W ZC G s9 s H locs → lv_has ls 6 [(0, .ref (G.2.2 0)), (1, .int p1), (2, .int p2), (3, .int x10), (4, .int x7)] → W p l e (u_rm 2) s m args below meth c H locs 0 0 (u_Qi below ZC G s args z.1 z.2) (F0 m 90 ls []) := by
                  intro s9 x10 H locs ls hz hw hl
                  rw [eJ90_11] at hz
                  obtain ⟨x12, ex12, hz⟩ := u_let hz
                  refine lv_iinc (v := x12) (lv' := [(4, .int x12), (0, .ref (G.2.2 0)), (1, .int p1), (2, .int p2), (3, .int x10)]) hx hb dX11_rests_90 hl (k := 4) rfl (by rw [ex12]; rfl) (by decide) rfl (fun ls hl => ?_)
                  refine lv_goto (tgt := 34) hx hb dX11_rests_93 (by decide) ?_
                  exact ih34_8 s9 x10 x12 _ _ _ hz hw (lv_sub hl [1, 2, 3, 4, 0] rfl)
                have WL44_23 : ∀ (k : Nat) (s13 : uS) (x14 : Int32) (x15 : Int32) (H : Heap) (locs : List Loc) (ls : Array Slot), u_lp3 (b_X11_rests_44 N p1 p2 x7 J90_11) k s13 x14 x15 = some z → u_W ZC G s13 s H locs → lv_has ls 6 [(0, .ref (G.2.2 0)), (1, .int p1), (2, .int p2), (3, .int x14), (4, .int x7), (5, .int x15)] → W p l e (u_rm 2) s m args below meth c H locs 0 0 (u_Qi below ZC G s args z.1 z.2) (F0 m 44 ls []) := by
                  intro k
                  induction k with
                  | zero =>
                    intro s13 x14 x15 H locs ls hz
                    exact absurd hz (by intro h9; cases h9)
                  | succ k ih44_16 =>
                    intro s13 x14 x15 H locs ls hz hw hl
                    have hz : (b_X11_rests_44 N p1 p2 x7 J90_11) (u_lp3 (b_X11_rests_44 N p1 p2 x7 J90_11) k) s13 x14 x15 = some z := hz
                    unfold b_X11_rests_44 at hz
                    refine lv_iload hx hb dX11_rests_44 (lv_at hl 5 rfl) ?_
                    refine lv_bipush (v := 9) hx hb dX11_rests_46 (by decide) ?_
                    refine lv_icmp_gt (tgt := 90) hx hb dX11_rests_48 (by decide) (fun hc => ?_) (fun hc => ?_)
                    · replace hz := u_ift hz hc
                      exact WJ90_11 s13 x14 _ _ _ hz hw (lv_sub hl [0, 1, 2, 3, 4] rfl)
                    · replace hz := u_iff hz hc
                      refine lv_iload hx hb dX11_rests_51 (lv_at hl 4 rfl) ?_
                      refine lv_iload hx hb dX11_rests_53 (lv_at hl 5 rfl) ?_
                      refine lv_iload_n hx hb dX11_rests_55 rfl (lv_at hl 1 rfl) ?_
                      refine lv_iload_n hx hb dX11_rests_56 rfl (lv_at hl 2 rfl) ?_
                      obtain ⟨v17, hv17, hz⟩ := u_bind hz
                      refine u_callSi (As := [.int x7, .int x15, .int p1, .int p2]) (rest := []) cx hw LS_X11_392 (c_X11_isTreatyAtRest l G N s13 x7 x15 p1 p2 v17 hv17) (by decide) hl.1 rfl (Nat.le_of_ble_eq_true rfl) dX11_rests_57 rfl (fun H locs hw => ?_)
                      obtain ⟨J84_20, eJ84_20, hz⟩ := u_let hz
                      have WJ84_20 : ∀ (s18 : uS) (x19 : Int32) (H : Heap) (locs : List Loc) (ls : Array Slot), J84_20 s18 x19 = some z → u_W ZC G s18 s H locs → lv_has ls 6 [(0, .ref (G.2.2 0)), (1, .int p1), (2, .int p2), (3, .int x19), (4, .int x7), (5, .int x15)] → W p l e (u_rm 2) s m args below meth c H locs 0 0 (u_Qi below ZC G s args z.1 z.2) (F0 m 84 ls []) := by
                        intro s18 x19 H locs ls hz hw hl
                        rw [eJ84_20] at hz
                        obtain ⟨x21, ex21, hz⟩ := u_let hz
                        refine lv_iinc (v := x21) (lv' := [(5, .int x21), (0, .ref (G.2.2 0)), (1, .int p1), (2, .int p2), (3, .int x19), (4, .int x7)]) hx hb dX11_rests_84 hl (k := 5) rfl (by rw [ex21]; rfl) (by decide) rfl (fun ls hl => ?_)
                        refine lv_goto (tgt := 44) hx hb dX11_rests_87 (by decide) ?_
                        exact ih44_16 s18 x19 x21 _ _ _ hz hw (lv_sub hl [1, 2, 3, 4, 5, 0] rfl)
                      refine lv_if_eq (tgt := 84) hx hb dX11_rests_60 (by decide) (fun hc => ?_) (fun hc => ?_)
                      · replace hz := u_ift hz hc
                        exact WJ84_20 s13 x14 _ _ _ hz hw (lv_sub hl [0, 1, 2, 3, 4, 5] rfl)
                      · replace hz := u_iff hz hc
                        obtain ⟨x22, ex22, hz⟩ := u_let hz
                        refine lv_iinc (v := x22) (lv' := [(3, .int x22), (0, .ref (G.2.2 0)), (1, .int p1), (2, .int p2), (4, .int x7), (5, .int x15)]) hx hb dX11_rests_63 hl (k := 3) rfl (by rw [ex22]; rfl) (by decide) rfl (fun ls hl => ?_)
                        refine lv_iload_n hx hb dX11_rests_66 rfl (lv_at hl 0 rfl) ?_
                        refine lv_iconst (v := 1) hx hb dX11_rests_67 (by decide) ?_
                        refine lv_icmp_ne (tgt := 84) hx hb dX11_rests_68 (by decide) (fun hc => ?_) (fun hc => ?_)
                        · replace hz := u_iff hz hc
                          exact WJ84_20 s13 x22 _ _ _ hz hw (lv_sub hl [1, 2, 3, 0, 4, 5] rfl)
                        · replace hz := u_ift hz hc
                          refine lv_aload_n hx hb dX11_rests_71 rfl (lv_at hl 1 rfl) ?_
                          refine u_getp cx hw F_X11_19 o_X11 rfl dX11_rests_72 ?_
                          refine lv_iload hx hb dX11_rests_75 (lv_at hl 4 rfl) ?_
                          refine lv_i2l (v := (Int32.toInt64 x7)) hx hb dX11_rests_77 rfl ?_
                          refine lv_iload hx hb dX11_rests_78 (lv_at hl 5 rfl) ?_
                          refine lv_i2l (v := (Int32.toInt64 x15)) hx hb dX11_rests_80 rfl ?_
                          obtain ⟨s23, hs23, hz⟩ := u_bind hz
                          refine u_callVv (As := [.long (Int32.toInt64 x7), .long (Int32.toInt64 x15)]) (rest := []) cx hw LV_X11_220 (c_X8_two l G N s13 (Int32.toInt64 x7) (Int32.toInt64 x15) s23 hs23) o_X8 rfl (by decide) hl.1 rfl (Nat.le_of_ble_eq_true rfl) dX11_rests_81 rfl (fun H locs hw => ?_)
                          exact WJ84_20 s23 x22 _ _ _ hz hw (lv_sub hl [1, 2, 3, 0, 4, 5] rfl)
                exact WL44_23 N s5 x6 0 _ _ _ hz hw (lv_sub hl [1, 2, 3, 4, 5, 0] rfl)
          exact WL34_23 N s1 0 0 _ _ _ hz hw (lv_sub hl [2, 3, 4, 1, 0] rfl)
        · replace hz := u_iff hz hc
          refine lv_iconst (v := (-1)) hx hb dX11_rests_20 (by decide) ?_
          exact u_iret cx hw (u_pair hz) dX11_rests_21
theorem dX6_takesBehindThing_0 : decode cX6_takesBehindThing 0 = .ok (.iload_n 1, 1) := by decide +kernel
theorem dX6_takesBehindThing_1 : decode cX6_takesBehindThing 1 = .ok (.invokestatic 61, 3) := by decide +kernel
theorem dX6_takesBehindThing_4 : decode cX6_takesBehindThing 4 = .ok (.ifCond .eq 12, 3) := by decide +kernel
theorem dX6_takesBehindThing_7 : decode cX6_takesBehindThing 7 = .ok (.aload_n 0, 1) := by decide +kernel
theorem dX6_takesBehindThing_8 : decode cX6_takesBehindThing 8 = .ok (.iload_n 1, 1) := by decide +kernel
theorem dX6_takesBehindThing_9 : decode cX6_takesBehindThing 9 = .ok (.bipush 48, 2) := by decide +kernel
theorem dX6_takesBehindThing_11 : decode cX6_takesBehindThing 11 = .ok (.isub, 1) := by decide +kernel
theorem dX6_takesBehindThing_12 : decode cX6_takesBehindThing 12 = .ok (.invokevirtual 74, 3) := by decide +kernel
theorem dX6_takesBehindThing_15 : decode cX6_takesBehindThing 15 = .ok (.ireturn, 1) := by decide +kernel
theorem dX6_takesBehindThing_16 : decode cX6_takesBehindThing 16 = .ok (.aload_n 0, 1) := by decide +kernel
theorem dX6_takesBehindThing_17 : decode cX6_takesBehindThing 17 = .ok (.iconst 0, 1) := by decide +kernel
theorem dX6_takesBehindThing_18 : decode cX6_takesBehindThing 18 = .ok (.putfield 31, 3) := by decide +kernel
theorem dX6_takesBehindThing_21 : decode cX6_takesBehindThing 21 = .ok (.iload_n 1, 1) := by decide +kernel
theorem dX6_takesBehindThing_22 : decode cX6_takesBehindThing 22 = .ok (.bipush 41, 2) := by decide +kernel
theorem dX6_takesBehindThing_24 : decode cX6_takesBehindThing 24 = .ok (.if_icmp .ne 8, 3) := by decide +kernel
theorem dX6_takesBehindThing_27 : decode cX6_takesBehindThing 27 = .ok (.aload_n 0, 1) := by decide +kernel
theorem dX6_takesBehindThing_28 : decode cX6_takesBehindThing 28 = .ok (.invokevirtual 77, 3) := by decide +kernel
theorem dX6_takesBehindThing_31 : decode cX6_takesBehindThing 31 = .ok (.ireturn, 1) := by decide +kernel
theorem dX6_takesBehindThing_32 : decode cX6_takesBehindThing 32 = .ok (.iload_n 1, 1) := by decide +kernel
theorem dX6_takesBehindThing_33 : decode cX6_takesBehindThing 33 = .ok (.invokestatic 80, 3) := by decide +kernel
theorem dX6_takesBehindThing_36 : decode cX6_takesBehindThing 36 = .ok (.istore_n 2, 1) := by decide +kernel
theorem dX6_takesBehindThing_37 : decode cX6_takesBehindThing 37 = .ok (.iload_n 2, 1) := by decide +kernel
theorem dX6_takesBehindThing_38 : decode cX6_takesBehindThing 38 = .ok (.ifCond .eq 23, 3) := by decide +kernel
theorem dX6_takesBehindThing_41 : decode cX6_takesBehindThing 41 = .ok (.iload_n 2, 1) := by decide +kernel
theorem dX6_takesBehindThing_42 : decode cX6_takesBehindThing 42 = .ok (.iconst 1, 1) := by decide +kernel
theorem dX6_takesBehindThing_43 : decode cX6_takesBehindThing 43 = .ok (.if_icmp .ne 20, 3) := by decide +kernel
theorem dX6_takesBehindThing_46 : decode cX6_takesBehindThing 46 = .ok (.aload_n 0, 1) := by decide +kernel
theorem dX6_takesBehindThing_47 : decode cX6_takesBehindThing 47 = .ok (.getfield 37, 3) := by decide +kernel
theorem dX6_takesBehindThing_50 : decode cX6_takesBehindThing 50 = .ok (.aload_n 0, 1) := by decide +kernel
theorem dX6_takesBehindThing_51 : decode cX6_takesBehindThing 51 = .ok (.getfield 34, 3) := by decide +kernel
theorem dX6_takesBehindThing_54 : decode cX6_takesBehindThing 54 = .ok (.ishr, 1) := by decide +kernel
theorem dX6_takesBehindThing_55 : decode cX6_takesBehindThing 55 = .ok (.iconst 1, 1) := by decide +kernel
theorem dX6_takesBehindThing_56 : decode cX6_takesBehindThing 56 = .ok (.iand, 1) := by decide +kernel
theorem dX6_takesBehindThing_57 : decode cX6_takesBehindThing 57 = .ok (.iconst 1, 1) := by decide +kernel
theorem dX6_takesBehindThing_58 : decode cX6_takesBehindThing 58 = .ok (.if_icmp .ne 5, 3) := by decide +kernel
theorem dX6_takesBehindThing_61 : decode cX6_takesBehindThing 61 = .ok (.iconst 0, 1) := by decide +kernel
theorem dX6_takesBehindThing_62 : decode cX6_takesBehindThing 62 = .ok (.ireturn, 1) := by decide +kernel
theorem dX6_takesBehindThing_63 : decode cX6_takesBehindThing 63 = .ok (.aload_n 0, 1) := by decide +kernel
theorem dX6_takesBehindThing_64 : decode cX6_takesBehindThing 64 = .ok (.dup, 1) := by decide +kernel
theorem dX6_takesBehindThing_65 : decode cX6_takesBehindThing 65 = .ok (.getfield 37, 3) := by decide +kernel
theorem dX6_takesBehindThing_68 : decode cX6_takesBehindThing 68 = .ok (.iload_n 2, 1) := by decide +kernel
theorem dX6_takesBehindThing_69 : decode cX6_takesBehindThing 69 = .ok (.iconst 1, 1) := by decide +kernel
theorem dX6_takesBehindThing_70 : decode cX6_takesBehindThing 70 = .ok (.if_icmp .ne 12, 3) := by decide +kernel
theorem dX6_takesBehindThing_73 : decode cX6_takesBehindThing 73 = .ok (.iconst 1, 1) := by decide +kernel
theorem dX6_takesBehindThing_74 : decode cX6_takesBehindThing 74 = .ok (.aload_n 0, 1) := by decide +kernel
theorem dX6_takesBehindThing_75 : decode cX6_takesBehindThing 75 = .ok (.getfield 34, 3) := by decide +kernel
theorem dX6_takesBehindThing_78 : decode cX6_takesBehindThing 78 = .ok (.ishl, 1) := by decide +kernel
theorem dX6_takesBehindThing_79 : decode cX6_takesBehindThing 79 = .ok (.goto 4, 3) := by decide +kernel
theorem dX6_takesBehindThing_82 : decode cX6_takesBehindThing 82 = .ok (.iconst 0, 1) := by decide +kernel
theorem dX6_takesBehindThing_83 : decode cX6_takesBehindThing 83 = .ok (.ior, 1) := by decide +kernel
theorem dX6_takesBehindThing_84 : decode cX6_takesBehindThing 84 = .ok (.putfield 37, 3) := by decide +kernel
theorem dX6_takesBehindThing_87 : decode cX6_takesBehindThing 87 = .ok (.aload_n 0, 1) := by decide +kernel
theorem dX6_takesBehindThing_88 : decode cX6_takesBehindThing 88 = .ok (.iload_n 2, 1) := by decide +kernel
theorem dX6_takesBehindThing_89 : decode cX6_takesBehindThing 89 = .ok (.invokevirtual 83, 3) := by decide +kernel
theorem dX6_takesBehindThing_92 : decode cX6_takesBehindThing 92 = .ok (.aload_n 0, 1) := by decide +kernel
theorem dX6_takesBehindThing_93 : decode cX6_takesBehindThing 93 = .ok (.iconst 0, 1) := by decide +kernel
theorem dX6_takesBehindThing_94 : decode cX6_takesBehindThing 94 = .ok (.putfield 40, 3) := by decide +kernel
theorem dX6_takesBehindThing_97 : decode cX6_takesBehindThing 97 = .ok (.aload_n 0, 1) := by decide +kernel
theorem dX6_takesBehindThing_98 : decode cX6_takesBehindThing 98 = .ok (.iload_n 1, 1) := by decide +kernel
theorem dX6_takesBehindThing_99 : decode cX6_takesBehindThing 99 = .ok (.invokevirtual 54, 3) := by decide +kernel
theorem dX6_takesBehindThing_102 : decode cX6_takesBehindThing 102 = .ok (.ireturn, 1) := by decide +kernel
def f_X6_takesBehindThing (N : Nat) (σ : uS) (i0 : Nat) (p1 : Int32) : Option (Int32 × uS) := (f_X5_isDigit N σ p1).bind fun v1 =>
  if v1 = 0 then (u_jn (u_pI σ i0 6 0) fun s2 =>
  if p1 = 41 then ((f_X6_closes N s2 i0).bind fun v11 =>
  u_ck (v11.1 = 0 ∨ v11.1 = 1) (some (v11.1, v11.2))) else ((f_X6_rankOf N s2 p1).bind fun v3 =>
  if v3 = 0 then (some (0, s2)) else (u_jn ((u_jn (fun (t5 : Int32) => (u_jn (u_pI s2 i0 8 ((s2.1 i0 8) ||| t5)) fun s7 =>
  (f_X6_unwind N s7 i0 v3).bind fun s8 =>
  u_jn (u_pI s8 i0 9 0) fun s9 =>
  (f_X6_await N s9 i0 p1).bind fun v10 =>
  u_ck (v10.1 = 0 ∨ v10.1 = 1) (some (v10.1, v10.2)) : Option (Int32 × uS))) fun J83_6 =>
  if v3 = 1 then (J83_6 (1 <<< ((s2.1 i0 7) &&& 31))) else (J83_6 0) : Option (Int32 × uS))) fun J63_4 =>
  if v3 = 1 then (if (((s2.1 i0 8) >>> ((s2.1 i0 7) &&& 31)) &&& 1) = 1 then (some (0, s2)) else (J63_4)) else (J63_4)))) else ((f_X6_takesDigit N σ i0 (p1 - 48)).bind fun v12 =>
  u_ck (v12.1 = 0 ∨ v12.1 = 1) (some (v12.1, v12.2)))
set_option maxRecDepth 100000 in
set_option maxHeartbeats 4000000 in
theorem c_X6_takesBehindThing (l : Launch) (G : uG) (N : Nat) (σ : uS) (i0 : Nat) (oi0 : u_o ZC i0 5 11 (k_R i0)) (p1 : Int32) (z : (Int32 × uS)) (hz : f_X6_takesBehindThing N σ i0 p1 = some z) : u_Mi l ZC G yX6_takesBehindThing cX6_takesBehindThing 3 .boolean 3 [.ref (G.2.2 i0), .int p1] σ z.1 z.2 := by
  refine u_Mi_of RX6 (by decide) rfl (Nat.le_of_ble_eq_true rfl) ?_
  intro p e s m args below meth c ls cx hw hl
  have hx := cx.1
  have hb := cx.2.1
  have hl : lv_has ls 3 [(0, .ref (G.2.2 i0)), (1, .int p1)] := hl
  unfold f_X6_takesBehindThing at hz
  refine lv_iload_n hx hb dX6_takesBehindThing_0 rfl (lv_at hl 1 rfl) ?_
  obtain ⟨v1, hv1, hz⟩ := u_bind hz
  refine u_callTi (As := [.int p1]) (rest := []) cx hw LT_X6_61 (c_X5_isDigit l G N σ p1 v1 hv1) (by decide) hl.1 rfl (Nat.le_of_ble_eq_true rfl) dX6_takesBehindThing_1 rfl (fun H locs hw => ?_)
  refine lv_if_eq (tgt := 16) hx hb dX6_takesBehindThing_4 (by decide) (fun hc => ?_) (fun hc => ?_)
  · replace hz := u_ift hz hc
    refine lv_aload_n hx hb dX6_takesBehindThing_16 rfl (lv_at hl 0 rfl) ?_
    refine lv_iconst (v := 0) hx hb dX6_takesBehindThing_17 (by decide) ?_
    obtain ⟨s2, es2, hz⟩ := u_let hz
    refine u_puti2 cx hw P_X6_31 oi0 rfl es2 dX6_takesBehindThing_18 (fun H locs hw => ?_)
    refine lv_iload_n hx hb dX6_takesBehindThing_21 rfl (lv_at hl 1 rfl) ?_
    refine lv_bipush (v := 41) hx hb dX6_takesBehindThing_22 (by decide) ?_
    refine lv_icmp_ne (tgt := 32) hx hb dX6_takesBehindThing_24 (by decide) (fun hc => ?_) (fun hc => ?_)
    · replace hz := u_iff hz hc
      refine lv_iload_n hx hb dX6_takesBehindThing_32 rfl (lv_at hl 1 rfl) ?_
      obtain ⟨v3, hv3, hz⟩ := u_bind hz
      refine u_callSi (As := [.int p1]) (rest := []) cx hw LS_X6_80 (c_X6_rankOf l G N s2 p1 v3 hv3) (by decide) hl.1 rfl (Nat.le_of_ble_eq_true rfl) dX6_takesBehindThing_33 rfl (fun H locs hw => ?_)
      refine lv_istore_n (lv' := [(2, .int v3), (0, .ref (G.2.2 i0)), (1, .int p1)]) hx hb dX6_takesBehindThing_36 rfl hl (by decide) rfl (fun ls hl => ?_)
      refine lv_iload_n hx hb dX6_takesBehindThing_37 rfl (lv_at hl 0 rfl) ?_
      refine lv_if_eq (tgt := 61) hx hb dX6_takesBehindThing_38 (by decide) (fun hc => ?_) (fun hc => ?_)
      · replace hz := u_ift hz hc
        refine lv_iconst (v := 0) hx hb dX6_takesBehindThing_61 (by decide) ?_
        exact u_zret cx hw (Or.inl rfl) (u_pair hz) dX6_takesBehindThing_62
      · replace hz := u_iff hz hc
        refine lv_iload_n hx hb dX6_takesBehindThing_41 rfl (lv_at hl 0 rfl) ?_
        refine lv_iconst (v := 1) hx hb dX6_takesBehindThing_42 (by decide) ?_
        obtain ⟨J63_4, eJ63_4, hz⟩ := u_let hz
        have WJ63_4 : ∀ (H : Heap) (locs : List Loc) (ls : Array Slot), J63_4 = some z → u_W ZC G s2 s H locs → lv_has ls 3 [(0, .ref (G.2.2 i0)), (1, .int p1), (2, .int v3)] → W p l e (u_rm 3) s m args below meth c H locs 0 0 (u_Qi below ZC G s args z.1 z.2) (F0 m 63 ls []) := by
          intro H locs ls hz hw hl
          rw [eJ63_4] at hz
          refine lv_aload_n hx hb dX6_takesBehindThing_63 rfl (lv_at hl 0 rfl) ?_
          refine lv_dup hx hb dX6_takesBehindThing_64 rfl ?_
          refine u_geti cx hw F_X6_37 oi0 rfl dX6_takesBehindThing_65 ?_
          refine lv_iload_n hx hb dX6_takesBehindThing_68 rfl (lv_at hl 2 rfl) ?_
          refine lv_iconst (v := 1) hx hb dX6_takesBehindThing_69 (by decide) ?_
          obtain ⟨J83_6, eJ83_6, hz⟩ := u_let hz
          have WJ83_6 : ∀ (t5 : Int32) (H : Heap) (locs : List Loc) (ls : Array Slot), J83_6 t5 = some z → u_W ZC G s2 s H locs → lv_has ls 3 [(0, .ref (G.2.2 i0)), (1, .int p1), (2, .int v3)] → W p l e (u_rm 3) s m args below meth c H locs 0 0 (u_Qi below ZC G s args z.1 z.2) (F0 m 83 ls [.int t5, .int (s2.1 i0 8), .ref (G.2.2 i0)]) := by
            intro t5 H locs ls hz hw hl
            rw [eJ83_6] at hz
            refine lv_ior hx hb dX6_takesBehindThing_83 ?_
            obtain ⟨s7, es7, hz⟩ := u_let hz
            refine u_puti2 cx hw P_X6_37 oi0 rfl es7 dX6_takesBehindThing_84 (fun H locs hw => ?_)
            refine lv_aload_n hx hb dX6_takesBehindThing_87 rfl (lv_at hl 0 rfl) ?_
            refine lv_iload_n hx hb dX6_takesBehindThing_88 rfl (lv_at hl 2 rfl) ?_
            obtain ⟨s8, hs8, hz⟩ := u_bind hz
            refine u_callVv (As := [.int v3]) (rest := []) cx hw LV_X6_83 (c_X6_unwind l G N s7 i0 oi0 v3 s8 hs8) oi0 rfl (by decide) hl.1 rfl (Nat.le_of_ble_eq_true rfl) dX6_takesBehindThing_89 rfl (fun H locs hw => ?_)
            refine lv_aload_n hx hb dX6_takesBehindThing_92 rfl (lv_at hl 0 rfl) ?_
            refine lv_iconst (v := 0) hx hb dX6_takesBehindThing_93 (by decide) ?_
            obtain ⟨s9, es9, hz⟩ := u_let hz
            refine u_putz2 cx hw P_X6_40 oi0 rfl (Or.inl rfl) es9 dX6_takesBehindThing_94 (fun H locs hw => ?_)
            refine lv_aload_n hx hb dX6_takesBehindThing_97 rfl (lv_at hl 0 rfl) ?_
            refine lv_iload_n hx hb dX6_takesBehindThing_98 rfl (lv_at hl 1 rfl) ?_
            obtain ⟨v10, hv10, hz⟩ := u_bind hz
            refine u_callVi (As := [.int p1]) (rest := []) cx hw LV_X6_54 (c_X6_await l G N s9 i0 oi0 p1 v10 hv10) oi0 rfl (by decide) hl.1 rfl (Nat.le_of_ble_eq_true rfl) dX6_takesBehindThing_99 rfl (fun H locs hw => ?_)
            obtain ⟨h01, hz⟩ := u_ck_some hz
            exact u_zret cx hw h01 (u_pair hz) dX6_takesBehindThing_102
          refine lv_icmp_ne (tgt := 82) hx hb dX6_takesBehindThing_70 (by decide) (fun hc => ?_) (fun hc => ?_)
          · replace hz := u_iff hz hc
            refine lv_iconst (v := 0) hx hb dX6_takesBehindThing_82 (by decide) ?_
            exact WJ83_6 0 _ _ _ hz hw (lv_sub hl [0, 1, 2] rfl)
          · replace hz := u_ift hz hc
            refine lv_iconst (v := 1) hx hb dX6_takesBehindThing_73 (by decide) ?_
            refine lv_aload_n hx hb dX6_takesBehindThing_74 rfl (lv_at hl 0 rfl) ?_
            refine u_geti cx hw F_X6_34 oi0 rfl dX6_takesBehindThing_75 ?_
            refine lv_ishl hx hb dX6_takesBehindThing_78 ?_
            refine lv_goto (tgt := 83) hx hb dX6_takesBehindThing_79 (by decide) ?_
            exact WJ83_6 (1 <<< ((s2.1 i0 7) &&& 31)) _ _ _ hz hw (lv_sub hl [0, 1, 2] rfl)
        refine lv_icmp_ne (tgt := 63) hx hb dX6_takesBehindThing_43 (by decide) (fun hc => ?_) (fun hc => ?_)
        · replace hz := u_iff hz hc
          exact WJ63_4 _ _ _ hz hw (lv_sub hl [1, 2, 0] rfl)
        · replace hz := u_ift hz hc
          refine lv_aload_n hx hb dX6_takesBehindThing_46 rfl (lv_at hl 1 rfl) ?_
          refine u_geti cx hw F_X6_37 oi0 rfl dX6_takesBehindThing_47 ?_
          refine lv_aload_n hx hb dX6_takesBehindThing_50 rfl (lv_at hl 1 rfl) ?_
          refine u_geti cx hw F_X6_34 oi0 rfl dX6_takesBehindThing_51 ?_
          refine lv_ishr hx hb dX6_takesBehindThing_54 ?_
          refine lv_iconst (v := 1) hx hb dX6_takesBehindThing_55 (by decide) ?_
          refine lv_iand hx hb dX6_takesBehindThing_56 ?_
          refine lv_iconst (v := 1) hx hb dX6_takesBehindThing_57 (by decide) ?_
          refine lv_icmp_ne (tgt := 63) hx hb dX6_takesBehindThing_58 (by decide) (fun hc => ?_) (fun hc => ?_)
          · replace hz := u_iff hz hc
            exact WJ63_4 _ _ _ hz hw (lv_sub hl [1, 2, 0] rfl)
          · replace hz := u_ift hz hc
            refine lv_iconst (v := 0) hx hb dX6_takesBehindThing_61 (by decide) ?_
            exact u_zret cx hw (Or.inl rfl) (u_pair hz) dX6_takesBehindThing_62
    · replace hz := u_ift hz hc
      refine lv_aload_n hx hb dX6_takesBehindThing_27 rfl (lv_at hl 0 rfl) ?_
      obtain ⟨v11, hv11, hz⟩ := u_bind hz
      refine u_callVi (As := []) (rest := []) cx hw LV_X6_77 (c_X6_closes l G N s2 i0 oi0 v11 hv11) oi0 rfl (by decide) hl.1 rfl (Nat.le_of_ble_eq_true rfl) dX6_takesBehindThing_28 rfl (fun H locs hw => ?_)
      obtain ⟨h01, hz⟩ := u_ck_some hz
      exact u_zret cx hw h01 (u_pair hz) dX6_takesBehindThing_31
  · replace hz := u_iff hz hc
    refine lv_aload_n hx hb dX6_takesBehindThing_7 rfl (lv_at hl 0 rfl) ?_
    refine lv_iload_n hx hb dX6_takesBehindThing_8 rfl (lv_at hl 1 rfl) ?_
    refine lv_bipush (v := 48) hx hb dX6_takesBehindThing_9 (by decide) ?_
    refine lv_isub hx hb dX6_takesBehindThing_11 ?_
    obtain ⟨v12, hv12, hz⟩ := u_bind hz
    refine u_callVi (As := [.int (p1 - 48)]) (rest := []) cx hw LV_X6_74 (c_X6_takesDigit l G N σ i0 oi0 (p1 - 48) v12 hv12) oi0 rfl (by decide) hl.1 rfl (Nat.le_of_ble_eq_true rfl) dX6_takesBehindThing_12 rfl (fun H locs hw => ?_)
    obtain ⟨h01, hz⟩ := u_ck_some hz
    exact u_zret cx hw h01 (u_pair hz) dX6_takesBehindThing_15
theorem dX7_cross_0 : decode cX7_cross 0 = .ok (.iconst 0, 1) := by decide +kernel
theorem dX7_cross_1 : decode cX7_cross 1 = .ok (.istore_n 3, 1) := by decide +kernel
theorem dX7_cross_2 : decode cX7_cross 2 = .ok (.iconst 0, 1) := by decide +kernel
theorem dX7_cross_3 : decode cX7_cross 3 = .ok (.istore 4, 2) := by decide +kernel
theorem dX7_cross_5 : decode cX7_cross 5 = .ok (.iload 4, 2) := by decide +kernel
theorem dX7_cross_7 : decode cX7_cross 7 = .ok (.iload_n 1, 1) := by decide +kernel
theorem dX7_cross_8 : decode cX7_cross 8 = .ok (.if_icmp .ge 78, 3) := by decide +kernel
theorem dX7_cross_11 : decode cX7_cross 11 = .ok (.aload_n 0, 1) := by decide +kernel
theorem dX7_cross_12 : decode cX7_cross 12 = .ok (.invokevirtual 86, 3) := by decide +kernel
theorem dX7_cross_15 : decode cX7_cross 15 = .ok (.istore 5, 2) := by decide +kernel
theorem dX7_cross_17 : decode cX7_cross 17 = .ok (.aload_n 0, 1) := by decide +kernel
theorem dX7_cross_18 : decode cX7_cross 18 = .ok (.dup, 1) := by decide +kernel
theorem dX7_cross_19 : decode cX7_cross 19 = .ok (.getfield 52, 3) := by decide +kernel
theorem dX7_cross_22 : decode cX7_cross 22 = .ok (.iload 5, 2) := by decide +kernel
theorem dX7_cross_24 : decode cX7_cross 24 = .ok (.ifCond .eq 18, 3) := by decide +kernel
theorem dX7_cross_27 : decode cX7_cross 27 = .ok (.aload_n 0, 1) := by decide +kernel
theorem dX7_cross_28 : decode cX7_cross 28 = .ok (.aload_n 0, 1) := by decide +kernel
theorem dX7_cross_29 : decode cX7_cross 29 = .ok (.getfield 37, 3) := by decide +kernel
theorem dX7_cross_32 : decode cX7_cross 32 = .ok (.aload_n 0, 1) := by decide +kernel
theorem dX7_cross_33 : decode cX7_cross 33 = .ok (.getfield 40, 3) := by decide +kernel
theorem dX7_cross_36 : decode cX7_cross 36 = .ok (.invokevirtual 102, 3) := by decide +kernel
theorem dX7_cross_39 : decode cX7_cross 39 = .ok (.goto 4, 3) := by decide +kernel
theorem dX7_cross_42 : decode cX7_cross 42 = .ok (.iconst 0, 1) := by decide +kernel
theorem dX7_cross_43 : decode cX7_cross 43 = .ok (.iadd, 1) := by decide +kernel
theorem dX7_cross_44 : decode cX7_cross 44 = .ok (.putfield 52, 3) := by decide +kernel
theorem dX7_cross_47 : decode cX7_cross 47 = .ok (.aload_n 0, 1) := by decide +kernel
theorem dX7_cross_48 : decode cX7_cross 48 = .ok (.iload 5, 2) := by decide +kernel
theorem dX7_cross_50 : decode cX7_cross 50 = .ok (.ifCond .eq 7, 3) := by decide +kernel
theorem dX7_cross_53 : decode cX7_cross 53 = .ok (.iconst 1, 1) := by decide +kernel
theorem dX7_cross_54 : decode cX7_cross 54 = .ok (.goto 4, 3) := by decide +kernel
theorem dX7_cross_57 : decode cX7_cross 57 = .ok (.iconst 0, 1) := by decide +kernel
theorem dX7_cross_58 : decode cX7_cross 58 = .ok (.invokevirtual 111, 3) := by decide +kernel
theorem dX7_cross_61 : decode cX7_cross 61 = .ok (.aload_n 0, 1) := by decide +kernel
theorem dX7_cross_62 : decode cX7_cross 62 = .ok (.aload_n 2, 1) := by decide +kernel
theorem dX7_cross_63 : decode cX7_cross 63 = .ok (.invokevirtual 115, 3) := by decide +kernel
theorem dX7_cross_66 : decode cX7_cross 66 = .ok (.pop, 1) := by decide +kernel
theorem dX7_cross_67 : decode cX7_cross 67 = .ok (.iload_n 3, 1) := by decide +kernel
theorem dX7_cross_68 : decode cX7_cross 68 = .ok (.iload 5, 2) := by decide +kernel
theorem dX7_cross_70 : decode cX7_cross 70 = .ok (.aload_n 0, 1) := by decide +kernel
theorem dX7_cross_71 : decode cX7_cross 71 = .ok (.invokevirtual 86, 3) := by decide +kernel
theorem dX7_cross_74 : decode cX7_cross 74 = .ok (.ixor, 1) := by decide +kernel
theorem dX7_cross_75 : decode cX7_cross 75 = .ok (.invokestatic 89, 3) := by decide +kernel
theorem dX7_cross_78 : decode cX7_cross 78 = .ok (.iadd, 1) := by decide +kernel
theorem dX7_cross_79 : decode cX7_cross 79 = .ok (.istore_n 3, 1) := by decide +kernel
theorem dX7_cross_80 : decode cX7_cross 80 = .ok (.iinc 4 1, 3) := by decide +kernel
theorem dX7_cross_83 : decode cX7_cross 83 = .ok (.goto (-78), 3) := by decide +kernel
theorem dX7_cross_86 : decode cX7_cross 86 = .ok (.iload_n 3, 1) := by decide +kernel
theorem dX7_cross_87 : decode cX7_cross 87 = .ok (.ireturn, 1) := by decide +kernel
def b_X7_cross_5 (N : Nat) (i0 : Nat) (p1 : Int32) (i2 : Nat) (J86_3 : uS → Int32 → Option (Int32 × uS)) (rec5_7 : uS → Int32 → Int32 → Option (Int32 × uS)) (s4 : uS) (x5 : Int32) (x6 : Int32) : Option (Int32 × uS) :=
  if p1 ≤ x6 then (J86_3 s4 x5) else ((f_X7_inside N s4 i0).bind fun v8 =>
  u_jn (fun (t9 : Int32) => (u_jn (u_pI s4 i0 11 ((s4.1 i0 11) + t9)) fun s11 =>
  u_jn (fun (t12 : Int32) => ((f_X7_part N s11 i0 t12).bind fun s14 =>
  (f_X7_turn N s14 i0 i2).bind fun v15 =>
  (f_X7_inside N v15.2 i0).bind fun v16 =>
  (f_J6_bitCount_0f7a4 N v15.2 (v8 ^^^ v16)).bind fun v17 =>
  u_jn ((x5 + v17) : Int32) fun x18 =>
  u_jn (x6 + 1 : Int32) fun x19 =>
  rec5_7 v15.2 x18 x19 : Option (Int32 × uS))) fun J58_13 =>
  if v8 = 0 then (J58_13 0) else (J58_13 1) : Option (Int32 × uS))) fun J43_10 =>
  if v8 = 0 then (J43_10 0) else ((f_X7_cornOf N s4 i0 (s4.1 i0 6) (s4.1 i0 7)).bind fun v20 =>
  J43_10 v20))
def f_X7_cross (N : Nat) (σ : uS) (i0 : Nat) (p1 : Int32) (i2 : Nat) : Option (Int32 × uS) := u_jn (fun (s1 : uS) (x2 : Int32) => (some (x2, s1) : Option (Int32 × uS))) fun J86_3 =>
  u_lp3 (b_X7_cross_5 N i0 p1 i2 J86_3) N σ 0 0
set_option maxRecDepth 100000 in
set_option maxHeartbeats 4000000 in
theorem c_X7_cross (l : Launch) (G : uG) (N : Nat) (σ : uS) (i0 : Nat) (oi0 : u_o ZC i0 6 12 (k_S i0)) (p1 : Int32) (i2 : Nat) (oi2 : u_o ZC i2 5 11 (k_R i2)) (z : (Int32 × uS)) (hz : f_X7_cross N σ i0 p1 i2 = some z) : u_Mi l ZC G yX7_cross cX7_cross 6 .int 4 [.ref (G.2.2 i0), .int p1, .ref (G.2.2 i2)] σ z.1 z.2 := by
  refine u_Mi_of RX7 (by decide) rfl (Nat.le_of_ble_eq_true rfl) ?_
  intro p e s m args below meth c ls cx hw hl
  have hx := cx.1
  have hb := cx.2.1
  have hl : lv_has ls 6 [(0, .ref (G.2.2 i0)), (1, .int p1), (2, .ref (G.2.2 i2))] := hl
  unfold f_X7_cross at hz
  refine lv_iconst (v := 0) hx hb dX7_cross_0 (by decide) ?_
  refine lv_istore_n (lv' := [(3, .int 0), (0, .ref (G.2.2 i0)), (1, .int p1), (2, .ref (G.2.2 i2))]) hx hb dX7_cross_1 rfl hl (by decide) rfl (fun ls hl => ?_)
  refine lv_iconst (v := 0) hx hb dX7_cross_2 (by decide) ?_
  refine lv_istore (lv' := [(4, .int 0), (3, .int 0), (0, .ref (G.2.2 i0)), (1, .int p1), (2, .ref (G.2.2 i2))]) hx hb dX7_cross_3 hl (by decide) rfl (fun ls hl => ?_)
  obtain ⟨J86_3, eJ86_3, hz⟩ := u_let hz
  have WJ86_3 : ∀ (s1 : uS) (x2 : Int32) (H : Heap) (locs : List Loc) (ls : Array Slot), J86_3 s1 x2 = some z → u_W ZC G s1 s H locs → lv_has ls 6 [(3, .int x2)] → W p l e (u_rm 4) s m args below meth c H locs 0 0 (u_Qi below ZC G s args z.1 z.2) (F0 m 86 ls []) := by
    intro s1 x2 H locs ls hz hw hl
    rw [eJ86_3] at hz
    refine lv_iload_n hx hb dX7_cross_86 rfl (lv_at hl 0 rfl) ?_
    exact u_iret cx hw (u_pair hz) dX7_cross_87
  have WL5_20 : ∀ (k : Nat) (s4 : uS) (x5 : Int32) (x6 : Int32) (H : Heap) (locs : List Loc) (ls : Array Slot), u_lp3 (b_X7_cross_5 N i0 p1 i2 J86_3) k s4 x5 x6 = some z → u_W ZC G s4 s H locs → lv_has ls 6 [(0, .ref (G.2.2 i0)), (1, .int p1), (2, .ref (G.2.2 i2)), (3, .int x5), (4, .int x6)] → W p l e (u_rm 4) s m args below meth c H locs 0 0 (u_Qi below ZC G s args z.1 z.2) (F0 m 5 ls []) := by
    intro k
    induction k with
    | zero =>
      intro s4 x5 x6 H locs ls hz
      exact absurd hz (by intro h9; cases h9)
    | succ k ih5_7 =>
      intro s4 x5 x6 H locs ls hz hw hl
      have hz : (b_X7_cross_5 N i0 p1 i2 J86_3) (u_lp3 (b_X7_cross_5 N i0 p1 i2 J86_3) k) s4 x5 x6 = some z := hz
      unfold b_X7_cross_5 at hz
      refine lv_iload hx hb dX7_cross_5 (lv_at hl 4 rfl) ?_
      refine lv_iload_n hx hb dX7_cross_7 rfl (lv_at hl 1 rfl) ?_
      refine lv_icmp_ge (tgt := 86) hx hb dX7_cross_8 (by decide) (fun hc => ?_) (fun hc => ?_)
      · replace hz := u_ift hz hc
        exact WJ86_3 s4 x5 _ _ _ hz hw (lv_sub hl [3] rfl)
      · replace hz := u_iff hz hc
        refine lv_aload_n hx hb dX7_cross_11 rfl (lv_at hl 0 rfl) ?_
        obtain ⟨v8, hv8, hz⟩ := u_bind hz
        refine u_callVi (As := []) (rest := []) cx hw LV_X7_86 (c_X7_inside l G N s4 i0 oi0 v8 hv8) oi0 rfl (by decide) hl.1 rfl (Nat.le_of_ble_eq_true rfl) dX7_cross_12 rfl (fun H locs hw => ?_)
        refine lv_istore (lv' := [(5, .int v8), (0, .ref (G.2.2 i0)), (1, .int p1), (2, .ref (G.2.2 i2)), (3, .int x5), (4, .int x6)]) hx hb dX7_cross_15 hl (by decide) rfl (fun ls hl => ?_)
        refine lv_aload_n hx hb dX7_cross_17 rfl (lv_at hl 1 rfl) ?_
        refine lv_dup hx hb dX7_cross_18 rfl ?_
        refine u_geti cx hw F_X7_52 oi0 rfl dX7_cross_19 ?_
        refine lv_iload hx hb dX7_cross_22 (lv_at hl 0 rfl) ?_
        obtain ⟨J43_10, eJ43_10, hz⟩ := u_let hz
        have WJ43_10 : ∀ (t9 : Int32) (H : Heap) (locs : List Loc) (ls : Array Slot), J43_10 t9 = some z → u_W ZC G s4 s H locs → lv_has ls 6 [(0, .ref (G.2.2 i0)), (1, .int p1), (2, .ref (G.2.2 i2)), (3, .int x5), (4, .int x6), (5, .int v8)] → W p l e (u_rm 4) s m args below meth c H locs 0 0 (u_Qi below ZC G s args z.1 z.2) (F0 m 43 ls [.int t9, .int (s4.1 i0 11), .ref (G.2.2 i0)]) := by
          intro t9 H locs ls hz hw hl
          rw [eJ43_10] at hz
          refine lv_iadd hx hb dX7_cross_43 ?_
          obtain ⟨s11, es11, hz⟩ := u_let hz
          refine u_puti2 cx hw P_X7_52 oi0 rfl es11 dX7_cross_44 (fun H locs hw => ?_)
          refine lv_aload_n hx hb dX7_cross_47 rfl (lv_at hl 0 rfl) ?_
          refine lv_iload hx hb dX7_cross_48 (lv_at hl 5 rfl) ?_
          obtain ⟨J58_13, eJ58_13, hz⟩ := u_let hz
          have WJ58_13 : ∀ (t12 : Int32) (H : Heap) (locs : List Loc) (ls : Array Slot), J58_13 t12 = some z → u_W ZC G s11 s H locs → lv_has ls 6 [(0, .ref (G.2.2 i0)), (1, .int p1), (2, .ref (G.2.2 i2)), (3, .int x5), (4, .int x6), (5, .int v8)] → W p l e (u_rm 4) s m args below meth c H locs 0 0 (u_Qi below ZC G s args z.1 z.2) (F0 m 58 ls [.int t12, .ref (G.2.2 i0)]) := by
            intro t12 H locs ls hz hw hl
            rw [eJ58_13] at hz
            obtain ⟨s14, hs14, hz⟩ := u_bind hz
            refine u_callVv (As := [.int t12]) (rest := []) cx hw LV_X7_111 (c_X7_part l G N s11 i0 oi0 t12 s14 hs14) oi0 rfl (by decide) hl.1 rfl (Nat.le_of_ble_eq_true rfl) dX7_cross_58 rfl (fun H locs hw => ?_)
            refine lv_aload_n hx hb dX7_cross_61 rfl (lv_at hl 0 rfl) ?_
            refine lv_aload_n hx hb dX7_cross_62 rfl (lv_at hl 2 rfl) ?_
            obtain ⟨v15, hv15, hz⟩ := u_bind hz
            refine u_callVi (As := [.ref (G.2.2 i2)]) (rest := []) cx hw LV_X7_115 (c_X7_turn l G N s14 i0 oi0 i2 oi2 v15 hv15) oi0 rfl (by decide) hl.1 rfl (Nat.le_of_ble_eq_true rfl) dX7_cross_63 rfl (fun H locs hw => ?_)
            refine lv_pop hx hb dX7_cross_66 rfl ?_
            refine lv_iload_n hx hb dX7_cross_67 rfl (lv_at hl 3 rfl) ?_
            refine lv_iload hx hb dX7_cross_68 (lv_at hl 5 rfl) ?_
            refine lv_aload_n hx hb dX7_cross_70 rfl (lv_at hl 0 rfl) ?_
            obtain ⟨v16, hv16, hz⟩ := u_bind hz
            refine u_callVi (As := []) (rest := [.int v8, .int x5]) cx hw LV_X7_86 (c_X7_inside l G N v15.2 i0 oi0 v16 hv16) oi0 rfl (by decide) hl.1 rfl (Nat.le_of_ble_eq_true rfl) dX7_cross_71 rfl (fun H locs hw => ?_)
            refine lv_ixor hx hb dX7_cross_74 ?_
            obtain ⟨v17, hv17, hz⟩ := u_bind hz
            refine u_callSi (As := [.int (v8 ^^^ v16)]) (rest := [.int x5]) cx hw LS_X7_89 (c_J6_bitCount_0f7a4 l G ZC N v15.2 (v8 ^^^ v16) v17 hv17) (by decide) hl.1 rfl (Nat.le_of_ble_eq_true rfl) dX7_cross_75 rfl (fun H locs hw => ?_)
            refine lv_iadd hx hb dX7_cross_78 ?_
            obtain ⟨x18, ex18, hz⟩ := u_let hz
            refine u_topi ex18 ?_
            refine lv_istore_n (lv' := [(3, .int x18), (0, .ref (G.2.2 i0)), (1, .int p1), (2, .ref (G.2.2 i2)), (4, .int x6), (5, .int v8)]) hx hb dX7_cross_79 rfl hl (by decide) rfl (fun ls hl => ?_)
            obtain ⟨x19, ex19, hz⟩ := u_let hz
            refine lv_iinc (v := x19) (lv' := [(4, .int x19), (3, .int x18), (0, .ref (G.2.2 i0)), (1, .int p1), (2, .ref (G.2.2 i2)), (5, .int v8)]) hx hb dX7_cross_80 hl (k := 4) rfl (by rw [ex19]; rfl) (by decide) rfl (fun ls hl => ?_)
            refine lv_goto (tgt := 5) hx hb dX7_cross_83 (by decide) ?_
            exact ih5_7 v15.2 x18 x19 _ _ _ hz hw (lv_sub hl [2, 3, 4, 1, 0] rfl)
          refine lv_if_eq (tgt := 57) hx hb dX7_cross_50 (by decide) (fun hc => ?_) (fun hc => ?_)
          · replace hz := u_ift hz hc
            refine lv_iconst (v := 0) hx hb dX7_cross_57 (by decide) ?_
            exact WJ58_13 0 _ _ _ hz hw (lv_sub hl [0, 1, 2, 3, 4, 5] rfl)
          · replace hz := u_iff hz hc
            refine lv_iconst (v := 1) hx hb dX7_cross_53 (by decide) ?_
            refine lv_goto (tgt := 58) hx hb dX7_cross_54 (by decide) ?_
            exact WJ58_13 1 _ _ _ hz hw (lv_sub hl [0, 1, 2, 3, 4, 5] rfl)
        refine lv_if_eq (tgt := 42) hx hb dX7_cross_24 (by decide) (fun hc => ?_) (fun hc => ?_)
        · replace hz := u_ift hz hc
          refine lv_iconst (v := 0) hx hb dX7_cross_42 (by decide) ?_
          exact WJ43_10 0 _ _ _ hz hw (lv_sub hl [1, 2, 3, 4, 5, 0] rfl)
        · replace hz := u_iff hz hc
          refine lv_aload_n hx hb dX7_cross_27 rfl (lv_at hl 1 rfl) ?_
          refine lv_aload_n hx hb dX7_cross_28 rfl (lv_at hl 1 rfl) ?_
          refine u_geti cx hw F_X7_37 oi0 rfl dX7_cross_29 ?_
          refine lv_aload_n hx hb dX7_cross_32 rfl (lv_at hl 1 rfl) ?_
          refine u_geti cx hw F_X7_40 oi0 rfl dX7_cross_33 ?_
          obtain ⟨v20, hv20, hz⟩ := u_bind hz
          refine u_callVi (As := [.int (s4.1 i0 6), .int (s4.1 i0 7)]) (rest := [.int (s4.1 i0 11), .ref (G.2.2 i0)]) cx hw LV_X7_102 (c_X7_cornOf l G N s4 i0 oi0 (s4.1 i0 6) (s4.1 i0 7) v20 hv20) oi0 rfl (by decide) hl.1 rfl (Nat.le_of_ble_eq_true rfl) dX7_cross_36 rfl (fun H locs hw => ?_)
          refine lv_goto (tgt := 43) hx hb dX7_cross_39 (by decide) ?_
          exact WJ43_10 v20 _ _ _ hz hw (lv_sub hl [1, 2, 3, 4, 5, 0] rfl)
  exact WL5_20 N σ 0 0 _ _ _ hz hw (lv_sub hl [2, 3, 4, 1, 0] rfl)
theorem dX11_crossing_0 : decode cX11_crossing 0 = .ok (.iload_n 1, 1) := by decide +kernel
theorem dX11_crossing_1 : decode cX11_crossing 1 = .ok (.ifCond .lt 9, 3) := by decide +kernel
theorem dX11_crossing_4 : decode cX11_crossing 4 = .ok (.iload_n 1, 1) := by decide +kernel
theorem dX11_crossing_5 : decode cX11_crossing 5 = .ok (.bipush 60, 2) := by decide +kernel
theorem dX11_crossing_7 : decode cX11_crossing 7 = .ok (.if_icmp .le 5, 3) := by decide +kernel
theorem dX11_crossing_10 : decode cX11_crossing 10 = .ok (.iconst (-1), 1) := by decide +kernel
theorem dX11_crossing_11 : decode cX11_crossing 11 = .ok (.ireturn, 1) := by decide +kernel
theorem dX11_crossing_12 : decode cX11_crossing 12 = .ok (.aload_n 0, 1) := by decide +kernel
theorem dX11_crossing_13 : decode cX11_crossing 13 = .ok (.getfield 33, 3) := by decide +kernel
theorem dX11_crossing_16 : decode cX11_crossing 16 = .ok (.aload_n 0, 1) := by decide +kernel
theorem dX11_crossing_17 : decode cX11_crossing 17 = .ok (.getfield 26, 3) := by decide +kernel
theorem dX11_crossing_20 : decode cX11_crossing 20 = .ok (.invokevirtual 206, 3) := by decide +kernel
theorem dX11_crossing_23 : decode cX11_crossing 23 = .ok (.aload_n 0, 1) := by decide +kernel
theorem dX11_crossing_24 : decode cX11_crossing 24 = .ok (.getfield 26, 3) := by decide +kernel
theorem dX11_crossing_27 : decode cX11_crossing 27 = .ok (.iload_n 1, 1) := by decide +kernel
theorem dX11_crossing_28 : decode cX11_crossing 28 = .ok (.aload_n 0, 1) := by decide +kernel
theorem dX11_crossing_29 : decode cX11_crossing 29 = .ok (.getfield 89, 3) := by decide +kernel
theorem dX11_crossing_32 : decode cX11_crossing 32 = .ok (.invokevirtual 210, 3) := by decide +kernel
theorem dX11_crossing_35 : decode cX11_crossing 35 = .ok (.istore_n 2, 1) := by decide +kernel
theorem dX11_crossing_36 : decode cX11_crossing 36 = .ok (.iload_n 1, 1) := by decide +kernel
theorem dX11_crossing_37 : decode cX11_crossing 37 = .ok (.ifCond .le 14, 3) := by decide +kernel
theorem dX11_crossing_40 : decode cX11_crossing 40 = .ok (.aload_n 0, 1) := by decide +kernel
theorem dX11_crossing_41 : decode cX11_crossing 41 = .ok (.getfield 39, 3) := by decide +kernel
theorem dX11_crossing_44 : decode cX11_crossing 44 = .ok (.aload_n 0, 1) := by decide +kernel
theorem dX11_crossing_45 : decode cX11_crossing 45 = .ok (.getfield 33, 3) := by decide +kernel
theorem dX11_crossing_48 : decode cX11_crossing 48 = .ok (.invokevirtual 214, 3) := by decide +kernel
theorem dX11_crossing_51 : decode cX11_crossing 51 = .ok (.aload_n 0, 1) := by decide +kernel
theorem dX11_crossing_52 : decode cX11_crossing 52 = .ok (.getfield 19, 3) := by decide +kernel
theorem dX11_crossing_55 : decode cX11_crossing 55 = .ok (.aload_n 0, 1) := by decide +kernel
theorem dX11_crossing_56 : decode cX11_crossing 56 = .ok (.getfield 26, 3) := by decide +kernel
theorem dX11_crossing_59 : decode cX11_crossing 59 = .ok (.getfield 217, 3) := by decide +kernel
theorem dX11_crossing_62 : decode cX11_crossing 62 = .ok (.aload_n 0, 1) := by decide +kernel
theorem dX11_crossing_63 : decode cX11_crossing 63 = .ok (.getfield 33, 3) := by decide +kernel
theorem dX11_crossing_66 : decode cX11_crossing 66 = .ok (.getfield 217, 3) := by decide +kernel
theorem dX11_crossing_69 : decode cX11_crossing 69 = .ok (.isub, 1) := by decide +kernel
theorem dX11_crossing_70 : decode cX11_crossing 70 = .ok (.i2l, 1) := by decide +kernel
theorem dX11_crossing_71 : decode cX11_crossing 71 = .ok (.iload_n 2, 1) := by decide +kernel
theorem dX11_crossing_72 : decode cX11_crossing 72 = .ok (.i2l, 1) := by decide +kernel
theorem dX11_crossing_73 : decode cX11_crossing 73 = .ok (.invokevirtual 220, 3) := by decide +kernel
theorem dX11_crossing_76 : decode cX11_crossing 76 = .ok (.aload_n 0, 1) := by decide +kernel
theorem dX11_crossing_77 : decode cX11_crossing 77 = .ok (.getfield 26, 3) := by decide +kernel
theorem dX11_crossing_80 : decode cX11_crossing 80 = .ok (.invokevirtual 224, 3) := by decide +kernel
theorem dX11_crossing_83 : decode cX11_crossing 83 = .ok (.ireturn, 1) := by decide +kernel
def f_X11_crossing (N : Nat) (σ : uS) (p1 : Int32) : Option (Int32 × uS) := if p1 < 0 then (some ((-1), σ)) else (if p1 ≤ 60 then ((f_X7_copy N σ 44 32).bind fun s1 =>
  (s1.2.2 0 13).bind fun v2 =>
  u_ck (isR v2) <|
  (f_X7_cross N s1 32 p1 v2).bind fun v3 =>
  u_jn (fun (s4 : uS) => ((f_X8_two N s4 (Int32.toInt64 ((s4.1 32 11) - (s4.1 44 11))) (Int32.toInt64 v3.1)).bind fun s6 =>
  (f_X7_howManyIn N s6 32).bind fun v7 =>
  some (v7, s6) : Option (Int32 × uS))) fun J51_5 =>
  if p1 ≤ 0 then (J51_5 v3.2) else ((f_X3_push N v3.2 44).bind fun s8 =>
  J51_5 s8)) else (some ((-1), σ)))
set_option maxRecDepth 100000 in
set_option maxHeartbeats 4000000 in
theorem c_X11_crossing (l : Launch) (G : uG) (N : Nat) (σ : uS) (p1 : Int32) (z : (Int32 × uS)) (hz : f_X11_crossing N σ p1 = some z) : u_Mi l ZC G yX11_crossing cX11_crossing 3 .int 5 [.ref (G.2.2 0), .int p1] σ z.1 z.2 := by
  refine u_Mi_of RX11 (by decide) rfl (Nat.le_of_ble_eq_true rfl) ?_
  intro p e s m args below meth c ls cx hw hl
  have hx := cx.1
  have hb := cx.2.1
  have hl : lv_has ls 3 [(0, .ref (G.2.2 0)), (1, .int p1)] := hl
  unfold f_X11_crossing at hz
  refine lv_iload_n hx hb dX11_crossing_0 rfl (lv_at hl 1 rfl) ?_
  refine lv_if_lt (tgt := 10) hx hb dX11_crossing_1 (by decide) (fun hc => ?_) (fun hc => ?_)
  · replace hz := u_ift hz hc
    refine lv_iconst (v := (-1)) hx hb dX11_crossing_10 (by decide) ?_
    exact u_iret cx hw (u_pair hz) dX11_crossing_11
  · replace hz := u_iff hz hc
    refine lv_iload_n hx hb dX11_crossing_4 rfl (lv_at hl 1 rfl) ?_
    refine lv_bipush (v := 60) hx hb dX11_crossing_5 (by decide) ?_
    refine lv_icmp_le (tgt := 12) hx hb dX11_crossing_7 (by decide) (fun hc => ?_) (fun hc => ?_)
    · replace hz := u_ift hz hc
      refine lv_aload_n hx hb dX11_crossing_12 rfl (lv_at hl 0 rfl) ?_
      refine u_getp cx hw F_X11_33 o_X11 rfl dX11_crossing_13 ?_
      refine lv_aload_n hx hb dX11_crossing_16 rfl (lv_at hl 0 rfl) ?_
      refine u_getp cx hw F_X11_26 o_X11 rfl dX11_crossing_17 ?_
      obtain ⟨s1, hs1, hz⟩ := u_bind hz
      refine u_callVv (As := [.ref (G.2.2 32)]) (rest := []) cx hw LV_X11_206 (c_X7_copy l G N σ 44 oS_44 32 oS_32 s1 hs1) oS_44 rfl (by decide) hl.1 rfl (Nat.le_of_ble_eq_true rfl) dX11_crossing_20 rfl (fun H locs hw => ?_)
      refine lv_aload_n hx hb dX11_crossing_23 rfl (lv_at hl 0 rfl) ?_
      refine u_getp cx hw F_X11_26 o_X11 rfl dX11_crossing_24 ?_
      refine lv_iload_n hx hb dX11_crossing_27 rfl (lv_at hl 1 rfl) ?_
      refine lv_aload_n hx hb dX11_crossing_28 rfl (lv_at hl 0 rfl) ?_
      obtain ⟨v2, hv2, hz⟩ := u_bind hz
      obtain ⟨qv2, hz⟩ := u_ck_some hz
      refine u_getr cx hw F_X11_89 o_X11 rfl hv2 dX11_crossing_29 ?_
      obtain ⟨v3, hv3, hz⟩ := u_bind hz
      refine u_callVi (As := [.int p1, .ref (G.2.2 v2)]) (rest := []) cx hw LV_X11_210 (c_X7_cross l G N s1 32 oS_32 p1 v2 (o_R qv2) v3 hv3) oS_32 rfl (by decide) hl.1 rfl (Nat.le_of_ble_eq_true rfl) dX11_crossing_32 rfl (fun H locs hw => ?_)
      refine lv_istore_n (lv' := [(2, .int v3.1), (0, .ref (G.2.2 0)), (1, .int p1)]) hx hb dX11_crossing_35 rfl hl (by decide) rfl (fun ls hl => ?_)
      refine lv_iload_n hx hb dX11_crossing_36 rfl (lv_at hl 2 rfl) ?_
      obtain ⟨J51_5, eJ51_5, hz⟩ := u_let hz
      have WJ51_5 : ∀ (s4 : uS) (H : Heap) (locs : List Loc) (ls : Array Slot), J51_5 s4 = some z → u_W ZC G s4 s H locs → lv_has ls 3 [(0, .ref (G.2.2 0)), (2, .int v3.1)] → W p l e (u_rm 5) s m args below meth c H locs 0 0 (u_Qi below ZC G s args z.1 z.2) (F0 m 51 ls []) := by
        intro s4 H locs ls hz hw hl
        rw [eJ51_5] at hz
        refine lv_aload_n hx hb dX11_crossing_51 rfl (lv_at hl 0 rfl) ?_
        refine u_getp cx hw F_X11_19 o_X11 rfl dX11_crossing_52 ?_
        refine lv_aload_n hx hb dX11_crossing_55 rfl (lv_at hl 0 rfl) ?_
        refine u_getp cx hw F_X11_26 o_X11 rfl dX11_crossing_56 ?_
        refine u_geti cx hw F_X11_217 oS_32 rfl dX11_crossing_59 ?_
        refine lv_aload_n hx hb dX11_crossing_62 rfl (lv_at hl 0 rfl) ?_
        refine u_getp cx hw F_X11_33 o_X11 rfl dX11_crossing_63 ?_
        refine u_geti cx hw F_X11_217 oS_44 rfl dX11_crossing_66 ?_
        refine lv_isub hx hb dX11_crossing_69 ?_
        refine lv_i2l (v := (Int32.toInt64 ((s4.1 32 11) - (s4.1 44 11)))) hx hb dX11_crossing_70 rfl ?_
        refine lv_iload_n hx hb dX11_crossing_71 rfl (lv_at hl 1 rfl) ?_
        refine lv_i2l (v := (Int32.toInt64 v3.1)) hx hb dX11_crossing_72 rfl ?_
        obtain ⟨s6, hs6, hz⟩ := u_bind hz
        refine u_callVv (As := [.long (Int32.toInt64 ((s4.1 32 11) - (s4.1 44 11))), .long (Int32.toInt64 v3.1)]) (rest := []) cx hw LV_X11_220 (c_X8_two l G N s4 (Int32.toInt64 ((s4.1 32 11) - (s4.1 44 11))) (Int32.toInt64 v3.1) s6 hs6) o_X8 rfl (by decide) hl.1 rfl (Nat.le_of_ble_eq_true rfl) dX11_crossing_73 rfl (fun H locs hw => ?_)
        refine lv_aload_n hx hb dX11_crossing_76 rfl (lv_at hl 0 rfl) ?_
        refine u_getp cx hw F_X11_26 o_X11 rfl dX11_crossing_77 ?_
        obtain ⟨v7, hv7, hz⟩ := u_bind hz
        refine u_callVi (As := []) (rest := []) cx hw LV_X11_224 (c_X7_howManyIn l G N s6 32 oS_32 v7 hv7) oS_32 rfl (by decide) hl.1 rfl (Nat.le_of_ble_eq_true rfl) dX11_crossing_80 rfl (fun H locs hw => ?_)
        exact u_iret cx hw (u_pair hz) dX11_crossing_83
      refine lv_if_le (tgt := 51) hx hb dX11_crossing_37 (by decide) (fun hc => ?_) (fun hc => ?_)
      · replace hz := u_ift hz hc
        exact WJ51_5 v3.2 _ _ _ hz hw (lv_sub hl [1, 0] rfl)
      · replace hz := u_iff hz hc
        refine lv_aload_n hx hb dX11_crossing_40 rfl (lv_at hl 1 rfl) ?_
        refine u_getp cx hw F_X11_39 o_X11 rfl dX11_crossing_41 ?_
        refine lv_aload_n hx hb dX11_crossing_44 rfl (lv_at hl 1 rfl) ?_
        refine u_getp cx hw F_X11_33 o_X11 rfl dX11_crossing_45 ?_
        obtain ⟨s8, hs8, hz⟩ := u_bind hz
        refine u_callVv (As := [.ref (G.2.2 44)]) (rest := []) cx hw LV_X11_214 (c_X3_push l G N v3.2 44 oS_44 s8 hs8) o_X3 rfl (by decide) hl.1 rfl (Nat.le_of_ble_eq_true rfl) dX11_crossing_48 rfl (fun H locs hw => ?_)
        exact WJ51_5 s8 _ _ _ hz hw (lv_sub hl [1, 0] rfl)
    · replace hz := u_iff hz hc
      refine lv_iconst (v := (-1)) hx hb dX11_crossing_10 (by decide) ?_
      exact u_iret cx hw (u_pair hz) dX11_crossing_11
theorem dX11_doAct_0 : decode cX11_doAct 0 = .ok (.iload_n 1, 1) := by decide +kernel
theorem dX11_doAct_1 : decode cX11_doAct 1 = .ok (.ifCond .lt 9, 3) := by decide +kernel
theorem dX11_doAct_4 : decode cX11_doAct 4 = .ok (.iload_n 1, 1) := by decide +kernel
theorem dX11_doAct_5 : decode cX11_doAct 5 = .ok (.bipush 60, 2) := by decide +kernel
theorem dX11_doAct_7 : decode cX11_doAct 7 = .ok (.if_icmp .lt 5, 3) := by decide +kernel
theorem dX11_doAct_10 : decode cX11_doAct 10 = .ok (.iconst (-1), 1) := by decide +kernel
theorem dX11_doAct_11 : decode cX11_doAct 11 = .ok (.ireturn, 1) := by decide +kernel
theorem dX11_doAct_12 : decode cX11_doAct 12 = .ok (.aload_n 0, 1) := by decide +kernel
theorem dX11_doAct_13 : decode cX11_doAct 13 = .ok (.getfield 67, 3) := by decide +kernel
theorem dX11_doAct_16 : decode cX11_doAct 16 = .ok (.getfield 257, 3) := by decide +kernel
theorem dX11_doAct_19 : decode cX11_doAct 19 = .ok (.iload_n 1, 1) := by decide +kernel
theorem dX11_doAct_20 : decode cX11_doAct 20 = .ok (.iaload, 1) := by decide +kernel
theorem dX11_doAct_21 : decode cX11_doAct 21 = .ok (.lookupswitch 131 #[(43, 107), (99, 43), (103, 81), (115, 64)], 43) := by decide +kernel
theorem dX11_doAct_64 : decode cX11_doAct 64 = .ok (.aload_n 0, 1) := by decide +kernel
theorem dX11_doAct_65 : decode cX11_doAct 65 = .ok (.getfield 26, 3) := by decide +kernel
theorem dX11_doAct_68 : decode cX11_doAct 68 = .ok (.aload_n 0, 1) := by decide +kernel
theorem dX11_doAct_69 : decode cX11_doAct 69 = .ok (.getfield 67, 3) := by decide +kernel
theorem dX11_doAct_72 : decode cX11_doAct 72 = .ok (.getfield 260, 3) := by decide +kernel
theorem dX11_doAct_75 : decode cX11_doAct 75 = .ok (.iload_n 1, 1) := by decide +kernel
theorem dX11_doAct_76 : decode cX11_doAct 76 = .ok (.iaload, 1) := by decide +kernel
theorem dX11_doAct_77 : decode cX11_doAct 77 = .ok (.aload_n 0, 1) := by decide +kernel
theorem dX11_doAct_78 : decode cX11_doAct 78 = .ok (.getfield 89, 3) := by decide +kernel
theorem dX11_doAct_81 : decode cX11_doAct 81 = .ok (.invokevirtual 210, 3) := by decide +kernel
theorem dX11_doAct_84 : decode cX11_doAct 84 = .ok (.ireturn, 1) := by decide +kernel
theorem dX11_doAct_85 : decode cX11_doAct 85 = .ok (.aload_n 0, 1) := by decide +kernel
theorem dX11_doAct_86 : decode cX11_doAct 86 = .ok (.getfield 26, 3) := by decide +kernel
theorem dX11_doAct_89 : decode cX11_doAct 89 = .ok (.aload_n 0, 1) := by decide +kernel
theorem dX11_doAct_90 : decode cX11_doAct 90 = .ok (.getfield 67, 3) := by decide +kernel
theorem dX11_doAct_93 : decode cX11_doAct 93 = .ok (.getfield 260, 3) := by decide +kernel
theorem dX11_doAct_96 : decode cX11_doAct 96 = .ok (.iload_n 1, 1) := by decide +kernel
theorem dX11_doAct_97 : decode cX11_doAct 97 = .ok (.iaload, 1) := by decide +kernel
theorem dX11_doAct_98 : decode cX11_doAct 98 = .ok (.invokevirtual 227, 3) := by decide +kernel
theorem dX11_doAct_101 : decode cX11_doAct 101 = .ok (.ireturn, 1) := by decide +kernel
theorem dX11_doAct_102 : decode cX11_doAct 102 = .ok (.aload_n 0, 1) := by decide +kernel
theorem dX11_doAct_103 : decode cX11_doAct 103 = .ok (.getfield 26, 3) := by decide +kernel
theorem dX11_doAct_106 : decode cX11_doAct 106 = .ok (.aload_n 0, 1) := by decide +kernel
theorem dX11_doAct_107 : decode cX11_doAct 107 = .ok (.getfield 67, 3) := by decide +kernel
theorem dX11_doAct_110 : decode cX11_doAct 110 = .ok (.getfield 260, 3) := by decide +kernel
theorem dX11_doAct_113 : decode cX11_doAct 113 = .ok (.iload_n 1, 1) := by decide +kernel
theorem dX11_doAct_114 : decode cX11_doAct 114 = .ok (.iaload, 1) := by decide +kernel
theorem dX11_doAct_115 : decode cX11_doAct 115 = .ok (.aload_n 0, 1) := by decide +kernel
theorem dX11_doAct_116 : decode cX11_doAct 116 = .ok (.getfield 67, 3) := by decide +kernel
theorem dX11_doAct_119 : decode cX11_doAct 119 = .ok (.getfield 263, 3) := by decide +kernel
theorem dX11_doAct_122 : decode cX11_doAct 122 = .ok (.iload_n 1, 1) := by decide +kernel
theorem dX11_doAct_123 : decode cX11_doAct 123 = .ok (.iaload, 1) := by decide +kernel
theorem dX11_doAct_124 : decode cX11_doAct 124 = .ok (.invokevirtual 233, 3) := by decide +kernel
theorem dX11_doAct_127 : decode cX11_doAct 127 = .ok (.ireturn, 1) := by decide +kernel
theorem dX11_doAct_128 : decode cX11_doAct 128 = .ok (.aload_n 0, 1) := by decide +kernel
theorem dX11_doAct_129 : decode cX11_doAct 129 = .ok (.getfield 26, 3) := by decide +kernel
theorem dX11_doAct_132 : decode cX11_doAct 132 = .ok (.aload_n 0, 1) := by decide +kernel
theorem dX11_doAct_133 : decode cX11_doAct 133 = .ok (.getfield 26, 3) := by decide +kernel
theorem dX11_doAct_136 : decode cX11_doAct 136 = .ok (.getfield 266, 3) := by decide +kernel
theorem dX11_doAct_139 : decode cX11_doAct 139 = .ok (.aload_n 0, 1) := by decide +kernel
theorem dX11_doAct_140 : decode cX11_doAct 140 = .ok (.getfield 26, 3) := by decide +kernel
theorem dX11_doAct_143 : decode cX11_doAct 143 = .ok (.getfield 269, 3) := by decide +kernel
theorem dX11_doAct_146 : decode cX11_doAct 146 = .ok (.iconst 1, 1) := by decide +kernel
theorem dX11_doAct_147 : decode cX11_doAct 147 = .ok (.iadd, 1) := by decide +kernel
theorem dX11_doAct_148 : decode cX11_doAct 148 = .ok (.invokevirtual 236, 3) := by decide +kernel
theorem dX11_doAct_151 : decode cX11_doAct 151 = .ok (.ireturn, 1) := by decide +kernel
theorem dX11_doAct_152 : decode cX11_doAct 152 = .ok (.aload_n 0, 1) := by decide +kernel
theorem dX11_doAct_153 : decode cX11_doAct 153 = .ok (.getfield 26, 3) := by decide +kernel
theorem dX11_doAct_156 : decode cX11_doAct 156 = .ok (.aload_n 0, 1) := by decide +kernel
theorem dX11_doAct_157 : decode cX11_doAct 157 = .ok (.getfield 26, 3) := by decide +kernel
theorem dX11_doAct_160 : decode cX11_doAct 160 = .ok (.getfield 266, 3) := by decide +kernel
theorem dX11_doAct_163 : decode cX11_doAct 163 = .ok (.aload_n 0, 1) := by decide +kernel
theorem dX11_doAct_164 : decode cX11_doAct 164 = .ok (.getfield 26, 3) := by decide +kernel
theorem dX11_doAct_167 : decode cX11_doAct 167 = .ok (.getfield 269, 3) := by decide +kernel
theorem dX11_doAct_170 : decode cX11_doAct 170 = .ok (.iconst 1, 1) := by decide +kernel
theorem dX11_doAct_171 : decode cX11_doAct 171 = .ok (.isub, 1) := by decide +kernel
theorem dX11_doAct_172 : decode cX11_doAct 172 = .ok (.invokevirtual 236, 3) := by decide +kernel
theorem dX11_doAct_175 : decode cX11_doAct 175 = .ok (.ireturn, 1) := by decide +kernel
def f_X11_doAct (N : Nat) (σ : uS) (p1 : Int32) : Option (Int32 × uS) := if p1 < 0 then (some ((-1), σ)) else (if p1 < 60 then ((u_rI ZC σ 0 16 p1).bind fun v1 =>
  if v1 = 43 then ((f_X7_moveRope N σ 32 (σ.1 32 6) ((σ.1 32 7) + 1)).bind fun v2 =>
  some (v2.1, v2.2)) else (if v1 = 99 then ((u_rI ZC σ 0 17 p1).bind fun v3 =>
  (σ.2.2 0 13).bind fun v4 =>
  u_ck (isR v4) <|
  (f_X7_cross N σ 32 v3 v4).bind fun v5 =>
  some (v5.1, v5.2)) else (if v1 = 103 then ((u_rI ZC σ 0 17 p1).bind fun v6 =>
  (u_rI ZC σ 0 18 p1).bind fun v7 =>
  (f_X7_turnEyes N σ 32 v6 v7).bind fun v8 =>
  some (v8.1, v8.2)) else (if v1 = 115 then ((u_rI ZC σ 0 17 p1).bind fun v9 =>
  (f_X7_showTo N σ 32 v9).bind fun v10 =>
  some (v10.1, v10.2)) else ((f_X7_moveRope N σ 32 (σ.1 32 6) ((σ.1 32 7) - 1)).bind fun v11 =>
  some (v11.1, v11.2)))))) else (some ((-1), σ)))
set_option maxRecDepth 100000 in
set_option maxHeartbeats 4000000 in
theorem c_X11_doAct (l : Launch) (G : uG) (N : Nat) (σ : uS) (p1 : Int32) (z : (Int32 × uS)) (hz : f_X11_doAct N σ p1 = some z) : u_Mi l ZC G yX11_doAct cX11_doAct 2 .int 5 [.ref (G.2.2 0), .int p1] σ z.1 z.2 := by
  refine u_Mi_of RX11 (by decide) rfl (Nat.le_of_ble_eq_true rfl) ?_
  intro p e s m args below meth c ls cx hw hl
  have hx := cx.1
  have hb := cx.2.1
  have hl : lv_has ls 2 [(0, .ref (G.2.2 0)), (1, .int p1)] := hl
  unfold f_X11_doAct at hz
  refine lv_iload_n hx hb dX11_doAct_0 rfl (lv_at hl 1 rfl) ?_
  refine lv_if_lt (tgt := 10) hx hb dX11_doAct_1 (by decide) (fun hc => ?_) (fun hc => ?_)
  · replace hz := u_ift hz hc
    refine lv_iconst (v := (-1)) hx hb dX11_doAct_10 (by decide) ?_
    exact u_iret cx hw (u_pair hz) dX11_doAct_11
  · replace hz := u_iff hz hc
    refine lv_iload_n hx hb dX11_doAct_4 rfl (lv_at hl 1 rfl) ?_
    refine lv_bipush (v := 60) hx hb dX11_doAct_5 (by decide) ?_
    refine lv_icmp_lt (tgt := 12) hx hb dX11_doAct_7 (by decide) (fun hc => ?_) (fun hc => ?_)
    · replace hz := u_ift hz hc
      refine lv_aload_n hx hb dX11_doAct_12 rfl (lv_at hl 0 rfl) ?_
      refine u_getp cx hw F_X11_67 o_X11 rfl dX11_doAct_13 ?_
      refine u_getp cx hw F_X11_257 o_X9 rfl dX11_doAct_16 ?_
      refine lv_iload_n hx hb dX11_doAct_19 rfl (lv_at hl 1 rfl) ?_
      obtain ⟨v1, hv1, hz⟩ := u_bind hz
      refine u_iald cx hw hv1 dX11_doAct_20 ?_
      by_cases hk43 : v1 = 43
      · replace hz := u_ift hz hk43
        refine lv_lookup (off := 107) (tgt := 128) hx hb dX11_doAct_21 (by decide) (by rw [hk43]; decide) (by decide) ?_
        refine lv_aload_n hx hb dX11_doAct_128 rfl (lv_at hl 0 rfl) ?_
        refine u_getp cx hw F_X11_26 o_X11 rfl dX11_doAct_129 ?_
        refine lv_aload_n hx hb dX11_doAct_132 rfl (lv_at hl 0 rfl) ?_
        refine u_getp cx hw F_X11_26 o_X11 rfl dX11_doAct_133 ?_
        refine u_geti cx hw F_X11_266 oS_32 rfl dX11_doAct_136 ?_
        refine lv_aload_n hx hb dX11_doAct_139 rfl (lv_at hl 0 rfl) ?_
        refine u_getp cx hw F_X11_26 o_X11 rfl dX11_doAct_140 ?_
        refine u_geti cx hw F_X11_269 oS_32 rfl dX11_doAct_143 ?_
        refine lv_iconst (v := 1) hx hb dX11_doAct_146 (by decide) ?_
        refine lv_iadd hx hb dX11_doAct_147 ?_
        obtain ⟨v2, hv2, hz⟩ := u_bind hz
        refine u_callVi (As := [.int (σ.1 32 6), .int ((σ.1 32 7) + 1)]) (rest := []) cx hw LV_X11_236 (c_X7_moveRope l G N σ 32 oS_32 (σ.1 32 6) ((σ.1 32 7) + 1) v2 hv2) oS_32 rfl (by decide) hl.1 rfl (Nat.le_of_ble_eq_true rfl) dX11_doAct_148 rfl (fun H locs hw => ?_)
        exact u_iret cx hw (u_pair hz) dX11_doAct_151
      replace hz := u_iff hz hk43
      by_cases hk99 : v1 = 99
      · replace hz := u_ift hz hk99
        refine lv_lookup (off := 43) (tgt := 64) hx hb dX11_doAct_21 (by decide) (by rw [hk99]; decide) (by decide) ?_
        refine lv_aload_n hx hb dX11_doAct_64 rfl (lv_at hl 0 rfl) ?_
        refine u_getp cx hw F_X11_26 o_X11 rfl dX11_doAct_65 ?_
        refine lv_aload_n hx hb dX11_doAct_68 rfl (lv_at hl 0 rfl) ?_
        refine u_getp cx hw F_X11_67 o_X11 rfl dX11_doAct_69 ?_
        refine u_getp cx hw F_X11_260 o_X9 rfl dX11_doAct_72 ?_
        refine lv_iload_n hx hb dX11_doAct_75 rfl (lv_at hl 1 rfl) ?_
        obtain ⟨v3, hv3, hz⟩ := u_bind hz
        refine u_iald cx hw hv3 dX11_doAct_76 ?_
        refine lv_aload_n hx hb dX11_doAct_77 rfl (lv_at hl 0 rfl) ?_
        obtain ⟨v4, hv4, hz⟩ := u_bind hz
        obtain ⟨qv4, hz⟩ := u_ck_some hz
        refine u_getr cx hw F_X11_89 o_X11 rfl hv4 dX11_doAct_78 ?_
        obtain ⟨v5, hv5, hz⟩ := u_bind hz
        refine u_callVi (As := [.int v3, .ref (G.2.2 v4)]) (rest := []) cx hw LV_X11_210 (c_X7_cross l G N σ 32 oS_32 v3 v4 (o_R qv4) v5 hv5) oS_32 rfl (by decide) hl.1 rfl (Nat.le_of_ble_eq_true rfl) dX11_doAct_81 rfl (fun H locs hw => ?_)
        exact u_iret cx hw (u_pair hz) dX11_doAct_84
      replace hz := u_iff hz hk99
      by_cases hk103 : v1 = 103
      · replace hz := u_ift hz hk103
        refine lv_lookup (off := 81) (tgt := 102) hx hb dX11_doAct_21 (by decide) (by rw [hk103]; decide) (by decide) ?_
        refine lv_aload_n hx hb dX11_doAct_102 rfl (lv_at hl 0 rfl) ?_
        refine u_getp cx hw F_X11_26 o_X11 rfl dX11_doAct_103 ?_
        refine lv_aload_n hx hb dX11_doAct_106 rfl (lv_at hl 0 rfl) ?_
        refine u_getp cx hw F_X11_67 o_X11 rfl dX11_doAct_107 ?_
        refine u_getp cx hw F_X11_260 o_X9 rfl dX11_doAct_110 ?_
        refine lv_iload_n hx hb dX11_doAct_113 rfl (lv_at hl 1 rfl) ?_
        obtain ⟨v6, hv6, hz⟩ := u_bind hz
        refine u_iald cx hw hv6 dX11_doAct_114 ?_
        refine lv_aload_n hx hb dX11_doAct_115 rfl (lv_at hl 0 rfl) ?_
        refine u_getp cx hw F_X11_67 o_X11 rfl dX11_doAct_116 ?_
        refine u_getp cx hw F_X11_263 o_X9 rfl dX11_doAct_119 ?_
        refine lv_iload_n hx hb dX11_doAct_122 rfl (lv_at hl 1 rfl) ?_
        obtain ⟨v7, hv7, hz⟩ := u_bind hz
        refine u_iald cx hw hv7 dX11_doAct_123 ?_
        obtain ⟨v8, hv8, hz⟩ := u_bind hz
        refine u_callVi (As := [.int v6, .int v7]) (rest := []) cx hw LV_X11_233 (c_X7_turnEyes l G N σ 32 oS_32 v6 v7 v8 hv8) oS_32 rfl (by decide) hl.1 rfl (Nat.le_of_ble_eq_true rfl) dX11_doAct_124 rfl (fun H locs hw => ?_)
        exact u_iret cx hw (u_pair hz) dX11_doAct_127
      replace hz := u_iff hz hk103
      by_cases hk115 : v1 = 115
      · replace hz := u_ift hz hk115
        refine lv_lookup (off := 64) (tgt := 85) hx hb dX11_doAct_21 (by decide) (by rw [hk115]; decide) (by decide) ?_
        refine lv_aload_n hx hb dX11_doAct_85 rfl (lv_at hl 0 rfl) ?_
        refine u_getp cx hw F_X11_26 o_X11 rfl dX11_doAct_86 ?_
        refine lv_aload_n hx hb dX11_doAct_89 rfl (lv_at hl 0 rfl) ?_
        refine u_getp cx hw F_X11_67 o_X11 rfl dX11_doAct_90 ?_
        refine u_getp cx hw F_X11_260 o_X9 rfl dX11_doAct_93 ?_
        refine lv_iload_n hx hb dX11_doAct_96 rfl (lv_at hl 1 rfl) ?_
        obtain ⟨v9, hv9, hz⟩ := u_bind hz
        refine u_iald cx hw hv9 dX11_doAct_97 ?_
        obtain ⟨v10, hv10, hz⟩ := u_bind hz
        refine u_callVi (As := [.int v9]) (rest := []) cx hw LV_X11_227 (c_X7_showTo l G N σ 32 oS_32 v9 v10 hv10) oS_32 rfl (by decide) hl.1 rfl (Nat.le_of_ble_eq_true rfl) dX11_doAct_98 rfl (fun H locs hw => ?_)
        exact u_iret cx hw (u_pair hz) dX11_doAct_101
      replace hz := u_iff hz hk115
      refine lv_lookup (off := 131) (tgt := 152) hx hb dX11_doAct_21 (by decide) (by refine (lv_osw hk43 (by decide)).trans ?_; refine (lv_osw hk99 (by decide)).trans ?_; refine (lv_osw hk103 (by decide)).trans ?_; refine (lv_osw hk115 (by decide)).trans ?_; rfl) (by decide) ?_
      refine lv_aload_n hx hb dX11_doAct_152 rfl (lv_at hl 0 rfl) ?_
      refine u_getp cx hw F_X11_26 o_X11 rfl dX11_doAct_153 ?_
      refine lv_aload_n hx hb dX11_doAct_156 rfl (lv_at hl 0 rfl) ?_
      refine u_getp cx hw F_X11_26 o_X11 rfl dX11_doAct_157 ?_
      refine u_geti cx hw F_X11_266 oS_32 rfl dX11_doAct_160 ?_
      refine lv_aload_n hx hb dX11_doAct_163 rfl (lv_at hl 0 rfl) ?_
      refine u_getp cx hw F_X11_26 o_X11 rfl dX11_doAct_164 ?_
      refine u_geti cx hw F_X11_269 oS_32 rfl dX11_doAct_167 ?_
      refine lv_iconst (v := 1) hx hb dX11_doAct_170 (by decide) ?_
      refine lv_isub hx hb dX11_doAct_171 ?_
      obtain ⟨v11, hv11, hz⟩ := u_bind hz
      refine u_callVi (As := [.int (σ.1 32 6), .int ((σ.1 32 7) - 1)]) (rest := []) cx hw LV_X11_236 (c_X7_moveRope l G N σ 32 oS_32 (σ.1 32 6) ((σ.1 32 7) - 1) v11 hv11) oS_32 rfl (by decide) hl.1 rfl (Nat.le_of_ble_eq_true rfl) dX11_doAct_172 rfl (fun H locs hw => ?_)
      exact u_iret cx hw (u_pair hz) dX11_doAct_175
    · replace hz := u_iff hz hc
      refine lv_iconst (v := (-1)) hx hb dX11_doAct_10 (by decide) ?_
      exact u_iret cx hw (u_pair hz) dX11_doAct_11
theorem dX11_tryCrossings_0 : decode cX11_tryCrossings 0 = .ok (.aload_n 0, 1) := by decide +kernel
theorem dX11_tryCrossings_1 : decode cX11_tryCrossings 1 = .ok (.getfield 30, 3) := by decide +kernel
theorem dX11_tryCrossings_4 : decode cX11_tryCrossings 4 = .ok (.aload_n 0, 1) := by decide +kernel
theorem dX11_tryCrossings_5 : decode cX11_tryCrossings 5 = .ok (.getfield 26, 3) := by decide +kernel
theorem dX11_tryCrossings_8 : decode cX11_tryCrossings 8 = .ok (.invokevirtual 206, 3) := by decide +kernel
theorem dX11_tryCrossings_11 : decode cX11_tryCrossings 11 = .ok (.aload_n 0, 1) := by decide +kernel
theorem dX11_tryCrossings_12 : decode cX11_tryCrossings 12 = .ok (.getfield 30, 3) := by decide +kernel
theorem dX11_tryCrossings_15 : decode cX11_tryCrossings 15 = .ok (.iload_n 2, 1) := by decide +kernel
theorem dX11_tryCrossings_16 : decode cX11_tryCrossings 16 = .ok (.putfield 269, 3) := by decide +kernel
theorem dX11_tryCrossings_19 : decode cX11_tryCrossings 19 = .ok (.aload_n 0, 1) := by decide +kernel
theorem dX11_tryCrossings_20 : decode cX11_tryCrossings 20 = .ok (.getfield 30, 3) := by decide +kernel
theorem dX11_tryCrossings_23 : decode cX11_tryCrossings 23 = .ok (.iload_n 1, 1) := by decide +kernel
theorem dX11_tryCrossings_24 : decode cX11_tryCrossings 24 = .ok (.aload_n 0, 1) := by decide +kernel
theorem dX11_tryCrossings_25 : decode cX11_tryCrossings 25 = .ok (.getfield 89, 3) := by decide +kernel
theorem dX11_tryCrossings_28 : decode cX11_tryCrossings 28 = .ok (.invokevirtual 210, 3) := by decide +kernel
theorem dX11_tryCrossings_31 : decode cX11_tryCrossings 31 = .ok (.pop, 1) := by decide +kernel
theorem dX11_tryCrossings_32 : decode cX11_tryCrossings 32 = .ok (.aload_n 0, 1) := by decide +kernel
theorem dX11_tryCrossings_33 : decode cX11_tryCrossings 33 = .ok (.getfield 30, 3) := by decide +kernel
theorem dX11_tryCrossings_36 : decode cX11_tryCrossings 36 = .ok (.getfield 217, 3) := by decide +kernel
theorem dX11_tryCrossings_39 : decode cX11_tryCrossings 39 = .ok (.aload_n 0, 1) := by decide +kernel
theorem dX11_tryCrossings_40 : decode cX11_tryCrossings 40 = .ok (.getfield 26, 3) := by decide +kernel
theorem dX11_tryCrossings_43 : decode cX11_tryCrossings 43 = .ok (.getfield 217, 3) := by decide +kernel
theorem dX11_tryCrossings_46 : decode cX11_tryCrossings 46 = .ok (.isub, 1) := by decide +kernel
theorem dX11_tryCrossings_47 : decode cX11_tryCrossings 47 = .ok (.ireturn, 1) := by decide +kernel
def f_X11_tryCrossings (N : Nat) (σ : uS) (p1 : Int32) (p2 : Int32) : Option (Int32 × uS) := (f_X7_copy N σ 38 32).bind fun s1 =>
  u_jn (u_pI s1 38 7 p2) fun s2 =>
  (s2.2.2 0 13).bind fun v3 =>
  u_ck (isR v3) <|
  (f_X7_cross N s2 38 p1 v3).bind fun v4 =>
  some (((v4.2.1 38 11) - (v4.2.1 32 11)), v4.2)
set_option maxRecDepth 100000 in
set_option maxHeartbeats 4000000 in
theorem c_X11_tryCrossings (l : Launch) (G : uG) (N : Nat) (σ : uS) (p1 : Int32) (p2 : Int32) (z : (Int32 × uS)) (hz : f_X11_tryCrossings N σ p1 p2 = some z) : u_Mi l ZC G yX11_tryCrossings cX11_tryCrossings 3 .int 5 [.ref (G.2.2 0), .int p1, .int p2] σ z.1 z.2 := by
  refine u_Mi_of RX11 (by decide) rfl (Nat.le_of_ble_eq_true rfl) ?_
  intro p e s m args below meth c ls cx hw hl
  have hx := cx.1
  have hb := cx.2.1
  have hl : lv_has ls 3 [(0, .ref (G.2.2 0)), (1, .int p1), (2, .int p2)] := hl
  unfold f_X11_tryCrossings at hz
  refine lv_aload_n hx hb dX11_tryCrossings_0 rfl (lv_at hl 0 rfl) ?_
  refine u_getp cx hw F_X11_30 o_X11 rfl dX11_tryCrossings_1 ?_
  refine lv_aload_n hx hb dX11_tryCrossings_4 rfl (lv_at hl 0 rfl) ?_
  refine u_getp cx hw F_X11_26 o_X11 rfl dX11_tryCrossings_5 ?_
  obtain ⟨s1, hs1, hz⟩ := u_bind hz
  refine u_callVv (As := [.ref (G.2.2 32)]) (rest := []) cx hw LV_X11_206 (c_X7_copy l G N σ 38 oS_38 32 oS_32 s1 hs1) oS_38 rfl (by decide) hl.1 rfl (Nat.le_of_ble_eq_true rfl) dX11_tryCrossings_8 rfl (fun H locs hw => ?_)
  refine lv_aload_n hx hb dX11_tryCrossings_11 rfl (lv_at hl 0 rfl) ?_
  refine u_getp cx hw F_X11_30 o_X11 rfl dX11_tryCrossings_12 ?_
  refine lv_iload_n hx hb dX11_tryCrossings_15 rfl (lv_at hl 2 rfl) ?_
  obtain ⟨s2, es2, hz⟩ := u_let hz
  refine u_puti2 cx hw P_X11_269 oS_38 rfl es2 dX11_tryCrossings_16 (fun H locs hw => ?_)
  refine lv_aload_n hx hb dX11_tryCrossings_19 rfl (lv_at hl 0 rfl) ?_
  refine u_getp cx hw F_X11_30 o_X11 rfl dX11_tryCrossings_20 ?_
  refine lv_iload_n hx hb dX11_tryCrossings_23 rfl (lv_at hl 1 rfl) ?_
  refine lv_aload_n hx hb dX11_tryCrossings_24 rfl (lv_at hl 0 rfl) ?_
  obtain ⟨v3, hv3, hz⟩ := u_bind hz
  obtain ⟨qv3, hz⟩ := u_ck_some hz
  refine u_getr cx hw F_X11_89 o_X11 rfl hv3 dX11_tryCrossings_25 ?_
  obtain ⟨v4, hv4, hz⟩ := u_bind hz
  refine u_callVi (As := [.int p1, .ref (G.2.2 v3)]) (rest := []) cx hw LV_X11_210 (c_X7_cross l G N s2 38 oS_38 p1 v3 (o_R qv3) v4 hv4) oS_38 rfl (by decide) hl.1 rfl (Nat.le_of_ble_eq_true rfl) dX11_tryCrossings_28 rfl (fun H locs hw => ?_)
  refine lv_pop hx hb dX11_tryCrossings_31 rfl ?_
  refine lv_aload_n hx hb dX11_tryCrossings_32 rfl (lv_at hl 0 rfl) ?_
  refine u_getp cx hw F_X11_30 o_X11 rfl dX11_tryCrossings_33 ?_
  refine u_geti cx hw F_X11_217 oS_38 rfl dX11_tryCrossings_36 ?_
  refine lv_aload_n hx hb dX11_tryCrossings_39 rfl (lv_at hl 0 rfl) ?_
  refine u_getp cx hw F_X11_26 o_X11 rfl dX11_tryCrossings_40 ?_
  refine u_geti cx hw F_X11_217 oS_32 rfl dX11_tryCrossings_43 ?_
  refine lv_isub hx hb dX11_tryCrossings_46 ?_
  exact u_iret cx hw (u_pair hz) dX11_tryCrossings_47
theorem dX11_fewestSigns_0 : decode cX11_fewestSigns 0 = .ok (.aload_n 0, 1) := by decide +kernel
theorem dX11_fewestSigns_1 : decode cX11_fewestSigns 1 = .ok (.invokevirtual 315, 3) := by decide +kernel
theorem dX11_fewestSigns_4 : decode cX11_fewestSigns 4 = .ok (.istore 4, 2) := by decide +kernel
theorem dX11_fewestSigns_6 : decode cX11_fewestSigns 6 = .ok (.bipush 9, 2) := by decide +kernel
theorem dX11_fewestSigns_8 : decode cX11_fewestSigns 8 = .ok (.istore 5, 2) := by decide +kernel
theorem dX11_fewestSigns_10 : decode cX11_fewestSigns 10 = .ok (.iconst 0, 1) := by decide +kernel
theorem dX11_fewestSigns_11 : decode cX11_fewestSigns 11 = .ok (.istore 6, 2) := by decide +kernel
theorem dX11_fewestSigns_13 : decode cX11_fewestSigns 13 = .ok (.iconst 1, 1) := by decide +kernel
theorem dX11_fewestSigns_14 : decode cX11_fewestSigns 14 = .ok (.aload_n 0, 1) := by decide +kernel
theorem dX11_fewestSigns_15 : decode cX11_fewestSigns 15 = .ok (.getfield 26, 3) := by decide +kernel
theorem dX11_fewestSigns_18 : decode cX11_fewestSigns 18 = .ok (.getfield 122, 3) := by decide +kernel
theorem dX11_fewestSigns_21 : decode cX11_fewestSigns 21 = .ok (.ishl, 1) := by decide +kernel
theorem dX11_fewestSigns_22 : decode cX11_fewestSigns 22 = .ok (.istore 7, 2) := by decide +kernel
theorem dX11_fewestSigns_24 : decode cX11_fewestSigns 24 = .ok (.iconst 0, 1) := by decide +kernel
theorem dX11_fewestSigns_25 : decode cX11_fewestSigns 25 = .ok (.istore 8, 2) := by decide +kernel
theorem dX11_fewestSigns_27 : decode cX11_fewestSigns 27 = .ok (.iload 8, 2) := by decide +kernel
theorem dX11_fewestSigns_29 : decode cX11_fewestSigns 29 = .ok (.iload 7, 2) := by decide +kernel
theorem dX11_fewestSigns_31 : decode cX11_fewestSigns 31 = .ok (.if_icmp .ge 75, 3) := by decide +kernel
theorem dX11_fewestSigns_34 : decode cX11_fewestSigns 34 = .ok (.iload 8, 2) := by decide +kernel
theorem dX11_fewestSigns_36 : decode cX11_fewestSigns 36 = .ok (.invokestatic 181, 3) := by decide +kernel
theorem dX11_fewestSigns_39 : decode cX11_fewestSigns 39 = .ok (.istore 9, 2) := by decide +kernel
theorem dX11_fewestSigns_41 : decode cX11_fewestSigns 41 = .ok (.iload 8, 2) := by decide +kernel
theorem dX11_fewestSigns_43 : decode cX11_fewestSigns 43 = .ok (.iload 4, 2) := by decide +kernel
theorem dX11_fewestSigns_45 : decode cX11_fewestSigns 45 = .ok (.iconst (-1), 1) := by decide +kernel
theorem dX11_fewestSigns_46 : decode cX11_fewestSigns 46 = .ok (.ixor, 1) := by decide +kernel
theorem dX11_fewestSigns_47 : decode cX11_fewestSigns 47 = .ok (.iand, 1) := by decide +kernel
theorem dX11_fewestSigns_48 : decode cX11_fewestSigns 48 = .ok (.ifCond .ne 52, 3) := by decide +kernel
theorem dX11_fewestSigns_51 : decode cX11_fewestSigns 51 = .ok (.iload 9, 2) := by decide +kernel
theorem dX11_fewestSigns_53 : decode cX11_fewestSigns 53 = .ok (.iload 5, 2) := by decide +kernel
theorem dX11_fewestSigns_55 : decode cX11_fewestSigns 55 = .ok (.if_icmp .lt 6, 3) := by decide +kernel
theorem dX11_fewestSigns_58 : decode cX11_fewestSigns 58 = .ok (.goto 42, 3) := by decide +kernel
theorem dX11_fewestSigns_61 : decode cX11_fewestSigns 61 = .ok (.aload_n 0, 1) := by decide +kernel
theorem dX11_fewestSigns_62 : decode cX11_fewestSigns 62 = .ok (.getfield 30, 3) := by decide +kernel
theorem dX11_fewestSigns_65 : decode cX11_fewestSigns 65 = .ok (.aload_n 0, 1) := by decide +kernel
theorem dX11_fewestSigns_66 : decode cX11_fewestSigns 66 = .ok (.getfield 26, 3) := by decide +kernel
theorem dX11_fewestSigns_69 : decode cX11_fewestSigns 69 = .ok (.iload 8, 2) := by decide +kernel
theorem dX11_fewestSigns_71 : decode cX11_fewestSigns 71 = .ok (.aload_n 0, 1) := by decide +kernel
theorem dX11_fewestSigns_72 : decode cX11_fewestSigns 72 = .ok (.getfield 89, 3) := by decide +kernel
theorem dX11_fewestSigns_75 : decode cX11_fewestSigns 75 = .ok (.iload_n 2, 1) := by decide +kernel
theorem dX11_fewestSigns_76 : decode cX11_fewestSigns 76 = .ok (.iload_n 3, 1) := by decide +kernel
theorem dX11_fewestSigns_77 : decode cX11_fewestSigns 77 = .ok (.invokevirtual 308, 3) := by decide +kernel
theorem dX11_fewestSigns_80 : decode cX11_fewestSigns 80 = .ok (.aload_n 0, 1) := by decide +kernel
theorem dX11_fewestSigns_81 : decode cX11_fewestSigns 81 = .ok (.getfield 30, 3) := by decide +kernel
theorem dX11_fewestSigns_84 : decode cX11_fewestSigns 84 = .ok (.invokevirtual 275, 3) := by decide +kernel
theorem dX11_fewestSigns_87 : decode cX11_fewestSigns 87 = .ok (.iload_n 1, 1) := by decide +kernel
theorem dX11_fewestSigns_88 : decode cX11_fewestSigns 88 = .ok (.iand, 1) := by decide +kernel
theorem dX11_fewestSigns_89 : decode cX11_fewestSigns 89 = .ok (.ifCond .ne 11, 3) := by decide +kernel
theorem dX11_fewestSigns_92 : decode cX11_fewestSigns 92 = .ok (.iload 9, 2) := by decide +kernel
theorem dX11_fewestSigns_94 : decode cX11_fewestSigns 94 = .ok (.istore 5, 2) := by decide +kernel
theorem dX11_fewestSigns_96 : decode cX11_fewestSigns 96 = .ok (.iload 8, 2) := by decide +kernel
theorem dX11_fewestSigns_98 : decode cX11_fewestSigns 98 = .ok (.istore 6, 2) := by decide +kernel
theorem dX11_fewestSigns_100 : decode cX11_fewestSigns 100 = .ok (.iinc 8 1, 3) := by decide +kernel
theorem dX11_fewestSigns_103 : decode cX11_fewestSigns 103 = .ok (.goto (-76), 3) := by decide +kernel
theorem dX11_fewestSigns_106 : decode cX11_fewestSigns 106 = .ok (.iload 5, 2) := by decide +kernel
theorem dX11_fewestSigns_108 : decode cX11_fewestSigns 108 = .ok (.bipush 8, 2) := by decide +kernel
theorem dX11_fewestSigns_110 : decode cX11_fewestSigns 110 = .ok (.if_icmp .le 6, 3) := by decide +kernel
theorem dX11_fewestSigns_113 : decode cX11_fewestSigns 113 = .ok (.bipush (-2), 2) := by decide +kernel
theorem dX11_fewestSigns_115 : decode cX11_fewestSigns 115 = .ok (.ireturn, 1) := by decide +kernel
theorem dX11_fewestSigns_116 : decode cX11_fewestSigns 116 = .ok (.aload_n 0, 1) := by decide +kernel
theorem dX11_fewestSigns_117 : decode cX11_fewestSigns 117 = .ok (.getfield 19, 3) := by decide +kernel
theorem dX11_fewestSigns_120 : decode cX11_fewestSigns 120 = .ok (.iload 6, 2) := by decide +kernel
theorem dX11_fewestSigns_122 : decode cX11_fewestSigns 122 = .ok (.i2l, 1) := by decide +kernel
theorem dX11_fewestSigns_123 : decode cX11_fewestSigns 123 = .ok (.invokevirtual 287, 3) := by decide +kernel
theorem dX11_fewestSigns_126 : decode cX11_fewestSigns 126 = .ok (.iload 5, 2) := by decide +kernel
theorem dX11_fewestSigns_128 : decode cX11_fewestSigns 128 = .ok (.ireturn, 1) := by decide +kernel
def b_X11_fewestSigns_27 (N : Nat) (p1 : Int32) (p2 : Int32) (p3 : Int32) (v1 : (Int32 × uS)) (x2 : Int32) (J106_6 : uS → Int32 → Int32 → Option (Int32 × uS)) (rec27_12 : uS → Int32 → Int32 → Int32 → Option (Int32 × uS)) (s8 : uS) (x9 : Int32) (x10 : Int32) (x11 : Int32) : Option (Int32 × uS) :=
  if x2 ≤ x11 then (J106_6 s8 x9 x10) else ((f_J6_bitCount_0f7a4 N s8 x11).bind fun v13 =>
  u_jn (fun (s14 : uS) (x15 : Int32) (x16 : Int32) => (u_jn (x11 + 1 : Int32) fun x18 =>
  rec27_12 s14 x15 x16 x18 : Option (Int32 × uS))) fun J100_17 =>
  if (x11 &&& (v1.1 ^^^ (-1))) = 0 then (if v13 < x9 then ((s8.2.2 0 13).bind fun v19 =>
  u_ck (isR v19) <|
  (f_X7_believeFrom N s8 38 32 x11 v19 p2 p3).bind fun s20 =>
  (f_X7_inside N s20 38).bind fun v21 =>
  if (v21 &&& p1) = 0 then (J100_17 s20 v13 x11) else (J100_17 s20 x9 x10)) else (J100_17 s8 x9 x10)) else (J100_17 s8 x9 x10))
def f_X11_fewestSigns (N : Nat) (σ : uS) (p1 : Int32) (p2 : Int32) (p3 : Int32) : Option (Int32 × uS) := (f_X11_whomSignsMove N σ).bind fun v1 =>
  u_jn ((1 <<< ((v1.2.1 32 8) &&& 31)) : Int32) fun x2 =>
  u_jn (fun (s3 : uS) (x4 : Int32) (x5 : Int32) => (if x4 ≤ 8 then ((f_X8_one N s3 (Int32.toInt64 x5)).bind fun s7 =>
  some (x4, s7)) else (some ((-2), s3)) : Option (Int32 × uS))) fun J106_6 =>
  u_lp4 (b_X11_fewestSigns_27 N p1 p2 p3 v1 x2 J106_6) N v1.2 9 0 0
set_option maxRecDepth 100000 in
set_option maxHeartbeats 4000000 in
theorem c_X11_fewestSigns (l : Launch) (G : uG) (N : Nat) (σ : uS) (p1 : Int32) (p2 : Int32) (p3 : Int32) (z : (Int32 × uS)) (hz : f_X11_fewestSigns N σ p1 p2 p3 = some z) : u_Mi l ZC G yX11_fewestSigns cX11_fewestSigns 10 .int 5 [.ref (G.2.2 0), .int p1, .int p2, .int p3] σ z.1 z.2 := by
  refine u_Mi_of RX11 (by decide) rfl (Nat.le_of_ble_eq_true rfl) ?_
  intro p e s m args below meth c ls cx hw hl
  have hx := cx.1
  have hb := cx.2.1
  have hl : lv_has ls 10 [(0, .ref (G.2.2 0)), (1, .int p1), (2, .int p2), (3, .int p3)] := hl
  unfold f_X11_fewestSigns at hz
  refine lv_aload_n hx hb dX11_fewestSigns_0 rfl (lv_at hl 0 rfl) ?_
  obtain ⟨v1, hv1, hz⟩ := u_bind hz
  refine u_callVi (As := []) (rest := []) cx hw LV_X11_315 (c_X11_whomSignsMove l G N σ v1 hv1) o_X11 rfl (by decide) hl.1 rfl (Nat.le_of_ble_eq_true rfl) dX11_fewestSigns_1 rfl (fun H locs hw => ?_)
  refine lv_istore (lv' := [(4, .int v1.1), (0, .ref (G.2.2 0)), (1, .int p1), (2, .int p2), (3, .int p3)]) hx hb dX11_fewestSigns_4 hl (by decide) rfl (fun ls hl => ?_)
  refine lv_bipush (v := 9) hx hb dX11_fewestSigns_6 (by decide) ?_
  refine lv_istore (lv' := [(5, .int 9), (4, .int v1.1), (0, .ref (G.2.2 0)), (1, .int p1), (2, .int p2), (3, .int p3)]) hx hb dX11_fewestSigns_8 hl (by decide) rfl (fun ls hl => ?_)
  refine lv_iconst (v := 0) hx hb dX11_fewestSigns_10 (by decide) ?_
  refine lv_istore (lv' := [(6, .int 0), (5, .int 9), (4, .int v1.1), (0, .ref (G.2.2 0)), (1, .int p1), (2, .int p2), (3, .int p3)]) hx hb dX11_fewestSigns_11 hl (by decide) rfl (fun ls hl => ?_)
  refine lv_iconst (v := 1) hx hb dX11_fewestSigns_13 (by decide) ?_
  refine lv_aload_n hx hb dX11_fewestSigns_14 rfl (lv_at hl 3 rfl) ?_
  refine u_getp cx hw F_X11_26 o_X11 rfl dX11_fewestSigns_15 ?_
  refine u_geti cx hw F_X11_122 oS_32 rfl dX11_fewestSigns_18 ?_
  refine lv_ishl hx hb dX11_fewestSigns_21 ?_
  obtain ⟨x2, ex2, hz⟩ := u_let hz
  refine u_topi ex2 ?_
  refine lv_istore (lv' := [(7, .int x2), (6, .int 0), (5, .int 9), (4, .int v1.1), (0, .ref (G.2.2 0)), (1, .int p1), (2, .int p2), (3, .int p3)]) hx hb dX11_fewestSigns_22 hl (by decide) rfl (fun ls hl => ?_)
  refine lv_iconst (v := 0) hx hb dX11_fewestSigns_24 (by decide) ?_
  refine lv_istore (lv' := [(8, .int 0), (7, .int x2), (6, .int 0), (5, .int 9), (4, .int v1.1), (0, .ref (G.2.2 0)), (1, .int p1), (2, .int p2), (3, .int p3)]) hx hb dX11_fewestSigns_25 hl (by decide) rfl (fun ls hl => ?_)
  obtain ⟨J106_6, eJ106_6, hz⟩ := u_let hz
  have WJ106_6 : ∀ (s3 : uS) (x4 : Int32) (x5 : Int32) (H : Heap) (locs : List Loc) (ls : Array Slot), J106_6 s3 x4 x5 = some z → u_W ZC G s3 s H locs → lv_has ls 10 [(0, .ref (G.2.2 0)), (5, .int x4), (6, .int x5)] → W p l e (u_rm 5) s m args below meth c H locs 0 0 (u_Qi below ZC G s args z.1 z.2) (F0 m 106 ls []) := by
    intro s3 x4 x5 H locs ls hz hw hl
    rw [eJ106_6] at hz
    refine lv_iload hx hb dX11_fewestSigns_106 (lv_at hl 1 rfl) ?_
    refine lv_bipush (v := 8) hx hb dX11_fewestSigns_108 (by decide) ?_
    refine lv_icmp_le (tgt := 116) hx hb dX11_fewestSigns_110 (by decide) (fun hc => ?_) (fun hc => ?_)
    · replace hz := u_ift hz hc
      refine lv_aload_n hx hb dX11_fewestSigns_116 rfl (lv_at hl 0 rfl) ?_
      refine u_getp cx hw F_X11_19 o_X11 rfl dX11_fewestSigns_117 ?_
      refine lv_iload hx hb dX11_fewestSigns_120 (lv_at hl 2 rfl) ?_
      refine lv_i2l (v := (Int32.toInt64 x5)) hx hb dX11_fewestSigns_122 rfl ?_
      obtain ⟨s7, hs7, hz⟩ := u_bind hz
      refine u_callVv (As := [.long (Int32.toInt64 x5)]) (rest := []) cx hw LV_X11_287 (c_X8_one l G N s3 (Int32.toInt64 x5) s7 hs7) o_X8 rfl (by decide) hl.1 rfl (Nat.le_of_ble_eq_true rfl) dX11_fewestSigns_123 rfl (fun H locs hw => ?_)
      refine lv_iload hx hb dX11_fewestSigns_126 (lv_at hl 1 rfl) ?_
      exact u_iret cx hw (u_pair hz) dX11_fewestSigns_128
    · replace hz := u_iff hz hc
      refine lv_bipush (v := (-2)) hx hb dX11_fewestSigns_113 (by decide) ?_
      exact u_iret cx hw (u_pair hz) dX11_fewestSigns_115
  have WL27_21 : ∀ (k : Nat) (s8 : uS) (x9 : Int32) (x10 : Int32) (x11 : Int32) (H : Heap) (locs : List Loc) (ls : Array Slot), u_lp4 (b_X11_fewestSigns_27 N p1 p2 p3 v1 x2 J106_6) k s8 x9 x10 x11 = some z → u_W ZC G s8 s H locs → lv_has ls 10 [(0, .ref (G.2.2 0)), (1, .int p1), (2, .int p2), (3, .int p3), (4, .int v1.1), (5, .int x9), (6, .int x10), (7, .int x2), (8, .int x11)] → W p l e (u_rm 5) s m args below meth c H locs 0 0 (u_Qi below ZC G s args z.1 z.2) (F0 m 27 ls []) := by
    intro k
    induction k with
    | zero =>
      intro s8 x9 x10 x11 H locs ls hz
      exact absurd hz (by intro h9; cases h9)
    | succ k ih27_12 =>
      intro s8 x9 x10 x11 H locs ls hz hw hl
      have hz : (b_X11_fewestSigns_27 N p1 p2 p3 v1 x2 J106_6) (u_lp4 (b_X11_fewestSigns_27 N p1 p2 p3 v1 x2 J106_6) k) s8 x9 x10 x11 = some z := hz
      unfold b_X11_fewestSigns_27 at hz
      refine lv_iload hx hb dX11_fewestSigns_27 (lv_at hl 8 rfl) ?_
      refine lv_iload hx hb dX11_fewestSigns_29 (lv_at hl 7 rfl) ?_
      refine lv_icmp_ge (tgt := 106) hx hb dX11_fewestSigns_31 (by decide) (fun hc => ?_) (fun hc => ?_)
      · replace hz := u_ift hz hc
        exact WJ106_6 s8 x9 x10 _ _ _ hz hw (lv_sub hl [0, 5, 6] rfl)
      · replace hz := u_iff hz hc
        refine lv_iload hx hb dX11_fewestSigns_34 (lv_at hl 8 rfl) ?_
        obtain ⟨v13, hv13, hz⟩ := u_bind hz
        refine u_callSi (As := [.int x11]) (rest := []) cx hw LS_X11_181 (c_J6_bitCount_0f7a4 l G ZC N s8 x11 v13 hv13) (by decide) hl.1 rfl (Nat.le_of_ble_eq_true rfl) dX11_fewestSigns_36 rfl (fun H locs hw => ?_)
        refine lv_istore (lv' := [(9, .int v13), (0, .ref (G.2.2 0)), (1, .int p1), (2, .int p2), (3, .int p3), (4, .int v1.1), (5, .int x9), (6, .int x10), (7, .int x2), (8, .int x11)]) hx hb dX11_fewestSigns_39 hl (by decide) rfl (fun ls hl => ?_)
        refine lv_iload hx hb dX11_fewestSigns_41 (lv_at hl 9 rfl) ?_
        refine lv_iload hx hb dX11_fewestSigns_43 (lv_at hl 5 rfl) ?_
        refine lv_iconst (v := (-1)) hx hb dX11_fewestSigns_45 (by decide) ?_
        refine lv_ixor hx hb dX11_fewestSigns_46 ?_
        refine lv_iand hx hb dX11_fewestSigns_47 ?_
        obtain ⟨J100_17, eJ100_17, hz⟩ := u_let hz
        have WJ100_17 : ∀ (s14 : uS) (x15 : Int32) (x16 : Int32) (H : Heap) (locs : List Loc) (ls : Array Slot), J100_17 s14 x15 x16 = some z → u_W ZC G s14 s H locs → lv_has ls 10 [(0, .ref (G.2.2 0)), (1, .int p1), (2, .int p2), (3, .int p3), (4, .int v1.1), (5, .int x15), (6, .int x16), (7, .int x2), (8, .int x11)] → W p l e (u_rm 5) s m args below meth c H locs 0 0 (u_Qi below ZC G s args z.1 z.2) (F0 m 100 ls []) := by
          intro s14 x15 x16 H locs ls hz hw hl
          rw [eJ100_17] at hz
          obtain ⟨x18, ex18, hz⟩ := u_let hz
          refine lv_iinc (v := x18) (lv' := [(8, .int x18), (0, .ref (G.2.2 0)), (1, .int p1), (2, .int p2), (3, .int p3), (4, .int v1.1), (5, .int x15), (6, .int x16), (7, .int x2)]) hx hb dX11_fewestSigns_100 hl (k := 8) rfl (by rw [ex18]; rfl) (by decide) rfl (fun ls hl => ?_)
          refine lv_goto (tgt := 27) hx hb dX11_fewestSigns_103 (by decide) ?_
          exact ih27_12 s14 x15 x16 x18 _ _ _ hz hw (lv_sub hl [1, 2, 3, 4, 5, 6, 7, 8, 0] rfl)
        refine lv_if_ne (tgt := 100) hx hb dX11_fewestSigns_48 (by decide) (fun hc => ?_) (fun hc => ?_)
        · replace hz := u_iff hz hc
          exact WJ100_17 s8 x9 x10 _ _ _ hz hw (lv_sub hl [1, 2, 3, 4, 5, 6, 7, 8, 9] rfl)
        · replace hz := u_ift hz hc
          refine lv_iload hx hb dX11_fewestSigns_51 (lv_at hl 0 rfl) ?_
          refine lv_iload hx hb dX11_fewestSigns_53 (lv_at hl 6 rfl) ?_
          refine lv_icmp_lt (tgt := 61) hx hb dX11_fewestSigns_55 (by decide) (fun hc => ?_) (fun hc => ?_)
          · replace hz := u_ift hz hc
            refine lv_aload_n hx hb dX11_fewestSigns_61 rfl (lv_at hl 1 rfl) ?_
            refine u_getp cx hw F_X11_30 o_X11 rfl dX11_fewestSigns_62 ?_
            refine lv_aload_n hx hb dX11_fewestSigns_65 rfl (lv_at hl 1 rfl) ?_
            refine u_getp cx hw F_X11_26 o_X11 rfl dX11_fewestSigns_66 ?_
            refine lv_iload hx hb dX11_fewestSigns_69 (lv_at hl 9 rfl) ?_
            refine lv_aload_n hx hb dX11_fewestSigns_71 rfl (lv_at hl 1 rfl) ?_
            obtain ⟨v19, hv19, hz⟩ := u_bind hz
            obtain ⟨qv19, hz⟩ := u_ck_some hz
            refine u_getr cx hw F_X11_89 o_X11 rfl hv19 dX11_fewestSigns_72 ?_
            refine lv_iload_n hx hb dX11_fewestSigns_75 rfl (lv_at hl 3 rfl) ?_
            refine lv_iload_n hx hb dX11_fewestSigns_76 rfl (lv_at hl 4 rfl) ?_
            obtain ⟨s20, hs20, hz⟩ := u_bind hz
            refine u_callVv (As := [.ref (G.2.2 32), .int x11, .ref (G.2.2 v19), .int p2, .int p3]) (rest := []) cx hw LV_X11_308 (c_X7_believeFrom l G N s8 38 oS_38 32 oS_32 x11 v19 (o_R qv19) p2 p3 s20 hs20) oS_38 rfl (by decide) hl.1 rfl (Nat.le_of_ble_eq_true rfl) dX11_fewestSigns_77 rfl (fun H locs hw => ?_)
            refine lv_aload_n hx hb dX11_fewestSigns_80 rfl (lv_at hl 1 rfl) ?_
            refine u_getp cx hw F_X11_30 o_X11 rfl dX11_fewestSigns_81 ?_
            obtain ⟨v21, hv21, hz⟩ := u_bind hz
            refine u_callVi (As := []) (rest := []) cx hw LV_X11_275 (c_X7_inside l G N s20 38 oS_38 v21 hv21) oS_38 rfl (by decide) hl.1 rfl (Nat.le_of_ble_eq_true rfl) dX11_fewestSigns_84 rfl (fun H locs hw => ?_)
            refine lv_iload_n hx hb dX11_fewestSigns_87 rfl (lv_at hl 2 rfl) ?_
            refine lv_iand hx hb dX11_fewestSigns_88 ?_
            refine lv_if_ne (tgt := 100) hx hb dX11_fewestSigns_89 (by decide) (fun hc => ?_) (fun hc => ?_)
            · replace hz := u_iff hz hc
              exact WJ100_17 s20 x9 x10 _ _ _ hz hw (lv_sub hl [1, 2, 3, 4, 5, 6, 7, 8, 9] rfl)
            · replace hz := u_ift hz hc
              refine lv_iload hx hb dX11_fewestSigns_92 (lv_at hl 0 rfl) ?_
              refine lv_istore (lv' := [(5, .int v13), (9, .int v13), (0, .ref (G.2.2 0)), (1, .int p1), (2, .int p2), (3, .int p3), (4, .int v1.1), (6, .int x10), (7, .int x2), (8, .int x11)]) hx hb dX11_fewestSigns_94 hl (by decide) rfl (fun ls hl => ?_)
              refine lv_iload hx hb dX11_fewestSigns_96 (lv_at hl 9 rfl) ?_
              refine lv_istore (lv' := [(6, .int x11), (5, .int v13), (9, .int v13), (0, .ref (G.2.2 0)), (1, .int p1), (2, .int p2), (3, .int p3), (4, .int v1.1), (7, .int x2), (8, .int x11)]) hx hb dX11_fewestSigns_98 hl (by decide) rfl (fun ls hl => ?_)
              exact WJ100_17 s20 v13 x11 _ _ _ hz hw (lv_sub hl [3, 4, 5, 6, 7, 1, 0, 8, 9] rfl)
          · replace hz := u_iff hz hc
            refine lv_goto (tgt := 100) hx hb dX11_fewestSigns_58 (by decide) ?_
            exact WJ100_17 s8 x9 x10 _ _ _ hz hw (lv_sub hl [1, 2, 3, 4, 5, 6, 7, 8, 9] rfl)
  exact WL27_21 N v1.2 9 0 0 _ _ _ hz hw (lv_sub hl [5, 6, 7, 8, 4, 3, 2, 1, 0] rfl)
theorem dX11_howManyFaceToFace_0 : decode cX11_howManyFaceToFace 0 = .ok (.aload_n 0, 1) := by decide +kernel
theorem dX11_howManyFaceToFace_1 : decode cX11_howManyFaceToFace 1 = .ok (.getfield 30, 3) := by decide +kernel
theorem dX11_howManyFaceToFace_4 : decode cX11_howManyFaceToFace 4 = .ok (.aload_n 0, 1) := by decide +kernel
theorem dX11_howManyFaceToFace_5 : decode cX11_howManyFaceToFace 5 = .ok (.getfield 26, 3) := by decide +kernel
theorem dX11_howManyFaceToFace_8 : decode cX11_howManyFaceToFace 8 = .ok (.invokevirtual 206, 3) := by decide +kernel
theorem dX11_howManyFaceToFace_11 : decode cX11_howManyFaceToFace 11 = .ok (.aload_n 0, 1) := by decide +kernel
theorem dX11_howManyFaceToFace_12 : decode cX11_howManyFaceToFace 12 = .ok (.getfield 30, 3) := by decide +kernel
theorem dX11_howManyFaceToFace_15 : decode cX11_howManyFaceToFace 15 = .ok (.getfield 351, 3) := by decide +kernel
theorem dX11_howManyFaceToFace_18 : decode cX11_howManyFaceToFace 18 = .ok (.iload_n 1, 1) := by decide +kernel
theorem dX11_howManyFaceToFace_19 : decode cX11_howManyFaceToFace 19 = .ok (.dup2, 1) := by decide +kernel
theorem dX11_howManyFaceToFace_20 : decode cX11_howManyFaceToFace 20 = .ok (.iaload, 1) := by decide +kernel
theorem dX11_howManyFaceToFace_21 : decode cX11_howManyFaceToFace 21 = .ok (.iconst 1, 1) := by decide +kernel
theorem dX11_howManyFaceToFace_22 : decode cX11_howManyFaceToFace 22 = .ok (.iload_n 2, 1) := by decide +kernel
theorem dX11_howManyFaceToFace_23 : decode cX11_howManyFaceToFace 23 = .ok (.ishl, 1) := by decide +kernel
theorem dX11_howManyFaceToFace_24 : decode cX11_howManyFaceToFace 24 = .ok (.ior, 1) := by decide +kernel
theorem dX11_howManyFaceToFace_25 : decode cX11_howManyFaceToFace 25 = .ok (.iastore, 1) := by decide +kernel
theorem dX11_howManyFaceToFace_26 : decode cX11_howManyFaceToFace 26 = .ok (.aload_n 0, 1) := by decide +kernel
theorem dX11_howManyFaceToFace_27 : decode cX11_howManyFaceToFace 27 = .ok (.getfield 30, 3) := by decide +kernel
theorem dX11_howManyFaceToFace_30 : decode cX11_howManyFaceToFace 30 = .ok (.getfield 351, 3) := by decide +kernel
theorem dX11_howManyFaceToFace_33 : decode cX11_howManyFaceToFace 33 = .ok (.iload_n 2, 1) := by decide +kernel
theorem dX11_howManyFaceToFace_34 : decode cX11_howManyFaceToFace 34 = .ok (.dup2, 1) := by decide +kernel
theorem dX11_howManyFaceToFace_35 : decode cX11_howManyFaceToFace 35 = .ok (.iaload, 1) := by decide +kernel
theorem dX11_howManyFaceToFace_36 : decode cX11_howManyFaceToFace 36 = .ok (.iconst 1, 1) := by decide +kernel
theorem dX11_howManyFaceToFace_37 : decode cX11_howManyFaceToFace 37 = .ok (.iload_n 1, 1) := by decide +kernel
theorem dX11_howManyFaceToFace_38 : decode cX11_howManyFaceToFace 38 = .ok (.ishl, 1) := by decide +kernel
theorem dX11_howManyFaceToFace_39 : decode cX11_howManyFaceToFace 39 = .ok (.ior, 1) := by decide +kernel
theorem dX11_howManyFaceToFace_40 : decode cX11_howManyFaceToFace 40 = .ok (.iastore, 1) := by decide +kernel
theorem dX11_howManyFaceToFace_41 : decode cX11_howManyFaceToFace 41 = .ok (.aload_n 0, 1) := by decide +kernel
theorem dX11_howManyFaceToFace_42 : decode cX11_howManyFaceToFace 42 = .ok (.getfield 30, 3) := by decide +kernel
theorem dX11_howManyFaceToFace_45 : decode cX11_howManyFaceToFace 45 = .ok (.iconst 2, 1) := by decide +kernel
theorem dX11_howManyFaceToFace_46 : decode cX11_howManyFaceToFace 46 = .ok (.aload_n 0, 1) := by decide +kernel
theorem dX11_howManyFaceToFace_47 : decode cX11_howManyFaceToFace 47 = .ok (.getfield 89, 3) := by decide +kernel
theorem dX11_howManyFaceToFace_50 : decode cX11_howManyFaceToFace 50 = .ok (.invokevirtual 210, 3) := by decide +kernel
theorem dX11_howManyFaceToFace_53 : decode cX11_howManyFaceToFace 53 = .ok (.pop, 1) := by decide +kernel
theorem dX11_howManyFaceToFace_54 : decode cX11_howManyFaceToFace 54 = .ok (.aload_n 0, 1) := by decide +kernel
theorem dX11_howManyFaceToFace_55 : decode cX11_howManyFaceToFace 55 = .ok (.getfield 30, 3) := by decide +kernel
theorem dX11_howManyFaceToFace_58 : decode cX11_howManyFaceToFace 58 = .ok (.invokevirtual 224, 3) := by decide +kernel
theorem dX11_howManyFaceToFace_61 : decode cX11_howManyFaceToFace 61 = .ok (.ireturn, 1) := by decide +kernel
def f_X11_howManyFaceToFace (N : Nat) (σ : uS) (p1 : Int32) (p2 : Int32) : Option (Int32 × uS) := (f_X7_copy N σ 38 32).bind fun s1 =>
  (u_rI ZC s1 0 43 p1).bind fun v2 =>
  (u_wI ZC s1 0 43 p1 (v2 ||| (1 <<< (p2 &&& 31)))).bind fun s3 =>
  (u_rI ZC s3 0 43 p2).bind fun v4 =>
  (u_wI ZC s3 0 43 p2 (v4 ||| (1 <<< (p1 &&& 31)))).bind fun s5 =>
  (s5.2.2 0 13).bind fun v6 =>
  u_ck (isR v6) <|
  (f_X7_cross N s5 38 2 v6).bind fun v7 =>
  (f_X7_howManyIn N v7.2 38).bind fun v8 =>
  some (v8, v7.2)
set_option maxRecDepth 100000 in
set_option maxHeartbeats 4000000 in
theorem c_X11_howManyFaceToFace (l : Launch) (G : uG) (N : Nat) (σ : uS) (p1 : Int32) (p2 : Int32) (z : (Int32 × uS)) (hz : f_X11_howManyFaceToFace N σ p1 p2 = some z) : u_Mi l ZC G yX11_howManyFaceToFace cX11_howManyFaceToFace 3 .int 5 [.ref (G.2.2 0), .int p1, .int p2] σ z.1 z.2 := by
  refine u_Mi_of RX11 (by decide) rfl (Nat.le_of_ble_eq_true rfl) ?_
  intro p e s m args below meth c ls cx hw hl
  have hx := cx.1
  have hb := cx.2.1
  have hl : lv_has ls 3 [(0, .ref (G.2.2 0)), (1, .int p1), (2, .int p2)] := hl
  unfold f_X11_howManyFaceToFace at hz
  refine lv_aload_n hx hb dX11_howManyFaceToFace_0 rfl (lv_at hl 0 rfl) ?_
  refine u_getp cx hw F_X11_30 o_X11 rfl dX11_howManyFaceToFace_1 ?_
  refine lv_aload_n hx hb dX11_howManyFaceToFace_4 rfl (lv_at hl 0 rfl) ?_
  refine u_getp cx hw F_X11_26 o_X11 rfl dX11_howManyFaceToFace_5 ?_
  obtain ⟨s1, hs1, hz⟩ := u_bind hz
  refine u_callVv (As := [.ref (G.2.2 32)]) (rest := []) cx hw LV_X11_206 (c_X7_copy l G N σ 38 oS_38 32 oS_32 s1 hs1) oS_38 rfl (by decide) hl.1 rfl (Nat.le_of_ble_eq_true rfl) dX11_howManyFaceToFace_8 rfl (fun H locs hw => ?_)
  refine lv_aload_n hx hb dX11_howManyFaceToFace_11 rfl (lv_at hl 0 rfl) ?_
  refine u_getp cx hw F_X11_30 o_X11 rfl dX11_howManyFaceToFace_12 ?_
  refine u_getp cx hw F_X11_351 oS_38 rfl dX11_howManyFaceToFace_15 ?_
  refine lv_iload_n hx hb dX11_howManyFaceToFace_18 rfl (lv_at hl 1 rfl) ?_
  refine lv_dup2_11 hx hb dX11_howManyFaceToFace_19 rfl rfl ?_
  obtain ⟨v2, hv2, hz⟩ := u_bind hz
  refine u_iald cx hw hv2 dX11_howManyFaceToFace_20 ?_
  refine lv_iconst (v := 1) hx hb dX11_howManyFaceToFace_21 (by decide) ?_
  refine lv_iload_n hx hb dX11_howManyFaceToFace_22 rfl (lv_at hl 2 rfl) ?_
  refine lv_ishl hx hb dX11_howManyFaceToFace_23 ?_
  refine lv_ior hx hb dX11_howManyFaceToFace_24 ?_
  obtain ⟨s3, hs3, hz⟩ := u_bind hz
  refine u_iast cx hw hs3 dX11_howManyFaceToFace_25 (fun H locs hw => ?_)
  refine lv_aload_n hx hb dX11_howManyFaceToFace_26 rfl (lv_at hl 0 rfl) ?_
  refine u_getp cx hw F_X11_30 o_X11 rfl dX11_howManyFaceToFace_27 ?_
  refine u_getp cx hw F_X11_351 oS_38 rfl dX11_howManyFaceToFace_30 ?_
  refine lv_iload_n hx hb dX11_howManyFaceToFace_33 rfl (lv_at hl 2 rfl) ?_
  refine lv_dup2_11 hx hb dX11_howManyFaceToFace_34 rfl rfl ?_
  obtain ⟨v4, hv4, hz⟩ := u_bind hz
  refine u_iald cx hw hv4 dX11_howManyFaceToFace_35 ?_
  refine lv_iconst (v := 1) hx hb dX11_howManyFaceToFace_36 (by decide) ?_
  refine lv_iload_n hx hb dX11_howManyFaceToFace_37 rfl (lv_at hl 1 rfl) ?_
  refine lv_ishl hx hb dX11_howManyFaceToFace_38 ?_
  refine lv_ior hx hb dX11_howManyFaceToFace_39 ?_
  obtain ⟨s5, hs5, hz⟩ := u_bind hz
  refine u_iast cx hw hs5 dX11_howManyFaceToFace_40 (fun H locs hw => ?_)
  refine lv_aload_n hx hb dX11_howManyFaceToFace_41 rfl (lv_at hl 0 rfl) ?_
  refine u_getp cx hw F_X11_30 o_X11 rfl dX11_howManyFaceToFace_42 ?_
  refine lv_iconst (v := 2) hx hb dX11_howManyFaceToFace_45 (by decide) ?_
  refine lv_aload_n hx hb dX11_howManyFaceToFace_46 rfl (lv_at hl 0 rfl) ?_
  obtain ⟨v6, hv6, hz⟩ := u_bind hz
  obtain ⟨qv6, hz⟩ := u_ck_some hz
  refine u_getr cx hw F_X11_89 o_X11 rfl hv6 dX11_howManyFaceToFace_47 ?_
  obtain ⟨v7, hv7, hz⟩ := u_bind hz
  refine u_callVi (As := [.int 2, .ref (G.2.2 v6)]) (rest := []) cx hw LV_X11_210 (c_X7_cross l G N s5 38 oS_38 2 v6 (o_R qv6) v7 hv7) oS_38 rfl (by decide) hl.1 rfl (Nat.le_of_ble_eq_true rfl) dX11_howManyFaceToFace_50 rfl (fun H locs hw => ?_)
  refine lv_pop hx hb dX11_howManyFaceToFace_53 rfl ?_
  refine lv_aload_n hx hb dX11_howManyFaceToFace_54 rfl (lv_at hl 0 rfl) ?_
  refine u_getp cx hw F_X11_30 o_X11 rfl dX11_howManyFaceToFace_55 ?_
  obtain ⟨v8, hv8, hz⟩ := u_bind hz
  refine u_callVi (As := []) (rest := []) cx hw LV_X11_224 (c_X7_howManyIn l G N v7.2 38 oS_38 v8 hv8) oS_38 rfl (by decide) hl.1 rfl (Nat.le_of_ble_eq_true rfl) dX11_howManyFaceToFace_58 rfl (fun H locs hw => ?_)
  exact u_iret cx hw (u_pair hz) dX11_howManyFaceToFace_61
theorem dX11_yard_0 : decode cX11_yard 0 = .ok (.iload_n 1, 1) := by decide +kernel
theorem dX11_yard_1 : decode cX11_yard 1 = .ok (.ifCond .lt 9, 3) := by decide +kernel
theorem dX11_yard_4 : decode cX11_yard 4 = .ok (.iload_n 1, 1) := by decide +kernel
theorem dX11_yard_5 : decode cX11_yard 5 = .ok (.bipush 60, 2) := by decide +kernel
theorem dX11_yard_7 : decode cX11_yard 7 = .ok (.if_icmp .le 5, 3) := by decide +kernel
theorem dX11_yard_10 : decode cX11_yard 10 = .ok (.iconst (-1), 1) := by decide +kernel
theorem dX11_yard_11 : decode cX11_yard 11 = .ok (.ireturn, 1) := by decide +kernel
theorem dX11_yard_12 : decode cX11_yard 12 = .ok (.aload_n 0, 1) := by decide +kernel
theorem dX11_yard_13 : decode cX11_yard 13 = .ok (.getfield 26, 3) := by decide +kernel
theorem dX11_yard_16 : decode cX11_yard 16 = .ok (.getfield 266, 3) := by decide +kernel
theorem dX11_yard_19 : decode cX11_yard 19 = .ok (.aload_n 0, 1) := by decide +kernel
theorem dX11_yard_20 : decode cX11_yard 20 = .ok (.getfield 26, 3) := by decide +kernel
theorem dX11_yard_23 : decode cX11_yard 23 = .ok (.getfield 269, 3) := by decide +kernel
theorem dX11_yard_26 : decode cX11_yard 26 = .ok (.if_icmp .lt 6, 3) := by decide +kernel
theorem dX11_yard_29 : decode cX11_yard 29 = .ok (.bipush (-2), 2) := by decide +kernel
theorem dX11_yard_31 : decode cX11_yard 31 = .ok (.ireturn, 1) := by decide +kernel
theorem dX11_yard_32 : decode cX11_yard 32 = .ok (.aload_n 0, 1) := by decide +kernel
theorem dX11_yard_33 : decode cX11_yard 33 = .ok (.iload_n 1, 1) := by decide +kernel
theorem dX11_yard_34 : decode cX11_yard 34 = .ok (.aload_n 0, 1) := by decide +kernel
theorem dX11_yard_35 : decode cX11_yard 35 = .ok (.getfield 26, 3) := by decide +kernel
theorem dX11_yard_38 : decode cX11_yard 38 = .ok (.getfield 269, 3) := by decide +kernel
theorem dX11_yard_41 : decode cX11_yard 41 = .ok (.invokevirtual 272, 3) := by decide +kernel
theorem dX11_yard_44 : decode cX11_yard 44 = .ok (.istore_n 2, 1) := by decide +kernel
theorem dX11_yard_45 : decode cX11_yard 45 = .ok (.aload_n 0, 1) := by decide +kernel
theorem dX11_yard_46 : decode cX11_yard 46 = .ok (.iload_n 1, 1) := by decide +kernel
theorem dX11_yard_47 : decode cX11_yard 47 = .ok (.aload_n 0, 1) := by decide +kernel
theorem dX11_yard_48 : decode cX11_yard 48 = .ok (.getfield 26, 3) := by decide +kernel
theorem dX11_yard_51 : decode cX11_yard 51 = .ok (.getfield 269, 3) := by decide +kernel
theorem dX11_yard_54 : decode cX11_yard 54 = .ok (.iconst 1, 1) := by decide +kernel
theorem dX11_yard_55 : decode cX11_yard 55 = .ok (.isub, 1) := by decide +kernel
theorem dX11_yard_56 : decode cX11_yard 56 = .ok (.invokevirtual 272, 3) := by decide +kernel
theorem dX11_yard_59 : decode cX11_yard 59 = .ok (.istore_n 3, 1) := by decide +kernel
theorem dX11_yard_60 : decode cX11_yard 60 = .ok (.aload_n 0, 1) := by decide +kernel
theorem dX11_yard_61 : decode cX11_yard 61 = .ok (.getfield 19, 3) := by decide +kernel
theorem dX11_yard_64 : decode cX11_yard 64 = .ok (.iload_n 3, 1) := by decide +kernel
theorem dX11_yard_65 : decode cX11_yard 65 = .ok (.i2l, 1) := by decide +kernel
theorem dX11_yard_66 : decode cX11_yard 66 = .ok (.iload_n 2, 1) := by decide +kernel
theorem dX11_yard_67 : decode cX11_yard 67 = .ok (.i2l, 1) := by decide +kernel
theorem dX11_yard_68 : decode cX11_yard 68 = .ok (.invokevirtual 220, 3) := by decide +kernel
theorem dX11_yard_71 : decode cX11_yard 71 = .ok (.iload_n 2, 1) := by decide +kernel
theorem dX11_yard_72 : decode cX11_yard 72 = .ok (.iload_n 3, 1) := by decide +kernel
theorem dX11_yard_73 : decode cX11_yard 73 = .ok (.isub, 1) := by decide +kernel
theorem dX11_yard_74 : decode cX11_yard 74 = .ok (.ireturn, 1) := by decide +kernel
def f_X11_yard (N : Nat) (σ : uS) (p1 : Int32) : Option (Int32 × uS) := if p1 < 0 then (some ((-1), σ)) else (if p1 ≤ 60 then (if (σ.1 32 6) < (σ.1 32 7) then ((f_X11_tryCrossings N σ p1 (σ.1 32 7)).bind fun v1 =>
  (f_X11_tryCrossings N v1.2 p1 ((v1.2.1 32 7) - 1)).bind fun v2 =>
  (f_X8_two N v2.2 (Int32.toInt64 v2.1) (Int32.toInt64 v1.1)).bind fun s3 =>
  some ((v1.1 - v2.1), s3)) else (some ((-2), σ))) else (some ((-1), σ)))
set_option maxRecDepth 100000 in
set_option maxHeartbeats 4000000 in
theorem c_X11_yard (l : Launch) (G : uG) (N : Nat) (σ : uS) (p1 : Int32) (z : (Int32 × uS)) (hz : f_X11_yard N σ p1 = some z) : u_Mi l ZC G yX11_yard cX11_yard 4 .int 6 [.ref (G.2.2 0), .int p1] σ z.1 z.2 := by
  refine u_Mi_of RX11 (by decide) rfl (Nat.le_of_ble_eq_true rfl) ?_
  intro p e s m args below meth c ls cx hw hl
  have hx := cx.1
  have hb := cx.2.1
  have hl : lv_has ls 4 [(0, .ref (G.2.2 0)), (1, .int p1)] := hl
  unfold f_X11_yard at hz
  refine lv_iload_n hx hb dX11_yard_0 rfl (lv_at hl 1 rfl) ?_
  refine lv_if_lt (tgt := 10) hx hb dX11_yard_1 (by decide) (fun hc => ?_) (fun hc => ?_)
  · replace hz := u_ift hz hc
    refine lv_iconst (v := (-1)) hx hb dX11_yard_10 (by decide) ?_
    exact u_iret cx hw (u_pair hz) dX11_yard_11
  · replace hz := u_iff hz hc
    refine lv_iload_n hx hb dX11_yard_4 rfl (lv_at hl 1 rfl) ?_
    refine lv_bipush (v := 60) hx hb dX11_yard_5 (by decide) ?_
    refine lv_icmp_le (tgt := 12) hx hb dX11_yard_7 (by decide) (fun hc => ?_) (fun hc => ?_)
    · replace hz := u_ift hz hc
      refine lv_aload_n hx hb dX11_yard_12 rfl (lv_at hl 0 rfl) ?_
      refine u_getp cx hw F_X11_26 o_X11 rfl dX11_yard_13 ?_
      refine u_geti cx hw F_X11_266 oS_32 rfl dX11_yard_16 ?_
      refine lv_aload_n hx hb dX11_yard_19 rfl (lv_at hl 0 rfl) ?_
      refine u_getp cx hw F_X11_26 o_X11 rfl dX11_yard_20 ?_
      refine u_geti cx hw F_X11_269 oS_32 rfl dX11_yard_23 ?_
      refine lv_icmp_lt (tgt := 32) hx hb dX11_yard_26 (by decide) (fun hc => ?_) (fun hc => ?_)
      · replace hz := u_ift hz hc
        refine lv_aload_n hx hb dX11_yard_32 rfl (lv_at hl 0 rfl) ?_
        refine lv_iload_n hx hb dX11_yard_33 rfl (lv_at hl 1 rfl) ?_
        refine lv_aload_n hx hb dX11_yard_34 rfl (lv_at hl 0 rfl) ?_
        refine u_getp cx hw F_X11_26 o_X11 rfl dX11_yard_35 ?_
        refine u_geti cx hw F_X11_269 oS_32 rfl dX11_yard_38 ?_
        obtain ⟨v1, hv1, hz⟩ := u_bind hz
        refine u_callVi (As := [.int p1, .int (σ.1 32 7)]) (rest := []) cx hw LV_X11_272 (c_X11_tryCrossings l G N σ p1 (σ.1 32 7) v1 hv1) o_X11 rfl (by decide) hl.1 rfl (Nat.le_of_ble_eq_true rfl) dX11_yard_41 rfl (fun H locs hw => ?_)
        refine lv_istore_n (lv' := [(2, .int v1.1), (0, .ref (G.2.2 0)), (1, .int p1)]) hx hb dX11_yard_44 rfl hl (by decide) rfl (fun ls hl => ?_)
        refine lv_aload_n hx hb dX11_yard_45 rfl (lv_at hl 1 rfl) ?_
        refine lv_iload_n hx hb dX11_yard_46 rfl (lv_at hl 2 rfl) ?_
        refine lv_aload_n hx hb dX11_yard_47 rfl (lv_at hl 1 rfl) ?_
        refine u_getp cx hw F_X11_26 o_X11 rfl dX11_yard_48 ?_
        refine u_geti cx hw F_X11_269 oS_32 rfl dX11_yard_51 ?_
        refine lv_iconst (v := 1) hx hb dX11_yard_54 (by decide) ?_
        refine lv_isub hx hb dX11_yard_55 ?_
        obtain ⟨v2, hv2, hz⟩ := u_bind hz
        refine u_callVi (As := [.int p1, .int ((v1.2.1 32 7) - 1)]) (rest := []) cx hw LV_X11_272 (c_X11_tryCrossings l G N v1.2 p1 ((v1.2.1 32 7) - 1) v2 hv2) o_X11 rfl (by decide) hl.1 rfl (Nat.le_of_ble_eq_true rfl) dX11_yard_56 rfl (fun H locs hw => ?_)
        refine lv_istore_n (lv' := [(3, .int v2.1), (2, .int v1.1), (0, .ref (G.2.2 0)), (1, .int p1)]) hx hb dX11_yard_59 rfl hl (by decide) rfl (fun ls hl => ?_)
        refine lv_aload_n hx hb dX11_yard_60 rfl (lv_at hl 2 rfl) ?_
        refine u_getp cx hw F_X11_19 o_X11 rfl dX11_yard_61 ?_
        refine lv_iload_n hx hb dX11_yard_64 rfl (lv_at hl 0 rfl) ?_
        refine lv_i2l (v := (Int32.toInt64 v2.1)) hx hb dX11_yard_65 rfl ?_
        refine lv_iload_n hx hb dX11_yard_66 rfl (lv_at hl 1 rfl) ?_
        refine lv_i2l (v := (Int32.toInt64 v1.1)) hx hb dX11_yard_67 rfl ?_
        obtain ⟨s3, hs3, hz⟩ := u_bind hz
        refine u_callVv (As := [.long (Int32.toInt64 v2.1), .long (Int32.toInt64 v1.1)]) (rest := []) cx hw LV_X11_220 (c_X8_two l G N v2.2 (Int32.toInt64 v2.1) (Int32.toInt64 v1.1) s3 hs3) o_X8 rfl (by decide) hl.1 rfl (Nat.le_of_ble_eq_true rfl) dX11_yard_68 rfl (fun H locs hw => ?_)
        refine lv_iload_n hx hb dX11_yard_71 rfl (lv_at hl 1 rfl) ?_
        refine lv_iload_n hx hb dX11_yard_72 rfl (lv_at hl 0 rfl) ?_
        refine lv_isub hx hb dX11_yard_73 ?_
        exact u_iret cx hw (u_pair hz) dX11_yard_74
      · replace hz := u_iff hz hc
        refine lv_bipush (v := (-2)) hx hb dX11_yard_29 (by decide) ?_
        exact u_iret cx hw (u_pair hz) dX11_yard_31
    · replace hz := u_iff hz hc
      refine lv_iconst (v := (-1)) hx hb dX11_yard_10 (by decide) ?_
      exact u_iret cx hw (u_pair hz) dX11_yard_11
theorem dX11_harvest_0 : decode cX11_harvest 0 = .ok (.iload_n 1, 1) := by decide +kernel
theorem dX11_harvest_1 : decode cX11_harvest 1 = .ok (.ifCond .lt 9, 3) := by decide +kernel
theorem dX11_harvest_4 : decode cX11_harvest 4 = .ok (.iload_n 1, 1) := by decide +kernel
theorem dX11_harvest_5 : decode cX11_harvest 5 = .ok (.bipush 60, 2) := by decide +kernel
theorem dX11_harvest_7 : decode cX11_harvest 7 = .ok (.if_icmp .le 5, 3) := by decide +kernel
theorem dX11_harvest_10 : decode cX11_harvest 10 = .ok (.iconst (-1), 1) := by decide +kernel
theorem dX11_harvest_11 : decode cX11_harvest 11 = .ok (.ireturn, 1) := by decide +kernel
theorem dX11_harvest_12 : decode cX11_harvest 12 = .ok (.aload_n 0, 1) := by decide +kernel
theorem dX11_harvest_13 : decode cX11_harvest 13 = .ok (.getfield 30, 3) := by decide +kernel
theorem dX11_harvest_16 : decode cX11_harvest 16 = .ok (.aload_n 0, 1) := by decide +kernel
theorem dX11_harvest_17 : decode cX11_harvest 17 = .ok (.getfield 26, 3) := by decide +kernel
theorem dX11_harvest_20 : decode cX11_harvest 20 = .ok (.invokevirtual 206, 3) := by decide +kernel
theorem dX11_harvest_23 : decode cX11_harvest 23 = .ok (.iconst 0, 1) := by decide +kernel
theorem dX11_harvest_24 : decode cX11_harvest 24 = .ok (.istore_n 2, 1) := by decide +kernel
theorem dX11_harvest_25 : decode cX11_harvest 25 = .ok (.aload_n 0, 1) := by decide +kernel
theorem dX11_harvest_26 : decode cX11_harvest 26 = .ok (.getfield 30, 3) := by decide +kernel
theorem dX11_harvest_29 : decode cX11_harvest 29 = .ok (.invokevirtual 377, 3) := by decide +kernel
theorem dX11_harvest_32 : decode cX11_harvest 32 = .ok (.istore_n 3, 1) := by decide +kernel
theorem dX11_harvest_33 : decode cX11_harvest 33 = .ok (.iconst 1, 1) := by decide +kernel
theorem dX11_harvest_34 : decode cX11_harvest 34 = .ok (.istore 4, 2) := by decide +kernel
theorem dX11_harvest_36 : decode cX11_harvest 36 = .ok (.iload 4, 2) := by decide +kernel
theorem dX11_harvest_38 : decode cX11_harvest 38 = .ok (.iload_n 1, 1) := by decide +kernel
theorem dX11_harvest_39 : decode cX11_harvest 39 = .ok (.if_icmp .gt 44, 3) := by decide +kernel
theorem dX11_harvest_42 : decode cX11_harvest 42 = .ok (.aload_n 0, 1) := by decide +kernel
theorem dX11_harvest_43 : decode cX11_harvest 43 = .ok (.getfield 30, 3) := by decide +kernel
theorem dX11_harvest_46 : decode cX11_harvest 46 = .ok (.iconst 1, 1) := by decide +kernel
theorem dX11_harvest_47 : decode cX11_harvest 47 = .ok (.aload_n 0, 1) := by decide +kernel
theorem dX11_harvest_48 : decode cX11_harvest 48 = .ok (.getfield 89, 3) := by decide +kernel
theorem dX11_harvest_51 : decode cX11_harvest 51 = .ok (.invokevirtual 210, 3) := by decide +kernel
theorem dX11_harvest_54 : decode cX11_harvest 54 = .ok (.pop, 1) := by decide +kernel
theorem dX11_harvest_55 : decode cX11_harvest 55 = .ok (.aload_n 0, 1) := by decide +kernel
theorem dX11_harvest_56 : decode cX11_harvest 56 = .ok (.getfield 30, 3) := by decide +kernel
theorem dX11_harvest_59 : decode cX11_harvest 59 = .ok (.invokevirtual 377, 3) := by decide +kernel
theorem dX11_harvest_62 : decode cX11_harvest 62 = .ok (.iload_n 3, 1) := by decide +kernel
theorem dX11_harvest_63 : decode cX11_harvest 63 = .ok (.if_icmp .le 14, 3) := by decide +kernel
theorem dX11_harvest_66 : decode cX11_harvest 66 = .ok (.iload 4, 2) := by decide +kernel
theorem dX11_harvest_68 : decode cX11_harvest 68 = .ok (.istore_n 2, 1) := by decide +kernel
theorem dX11_harvest_69 : decode cX11_harvest 69 = .ok (.aload_n 0, 1) := by decide +kernel
theorem dX11_harvest_70 : decode cX11_harvest 70 = .ok (.getfield 30, 3) := by decide +kernel
theorem dX11_harvest_73 : decode cX11_harvest 73 = .ok (.invokevirtual 377, 3) := by decide +kernel
theorem dX11_harvest_76 : decode cX11_harvest 76 = .ok (.istore_n 3, 1) := by decide +kernel
theorem dX11_harvest_77 : decode cX11_harvest 77 = .ok (.iinc 4 1, 3) := by decide +kernel
theorem dX11_harvest_80 : decode cX11_harvest 80 = .ok (.goto (-44), 3) := by decide +kernel
theorem dX11_harvest_83 : decode cX11_harvest 83 = .ok (.aload_n 0, 1) := by decide +kernel
theorem dX11_harvest_84 : decode cX11_harvest 84 = .ok (.getfield 19, 3) := by decide +kernel
theorem dX11_harvest_87 : decode cX11_harvest 87 = .ok (.iload_n 3, 1) := by decide +kernel
theorem dX11_harvest_88 : decode cX11_harvest 88 = .ok (.i2l, 1) := by decide +kernel
theorem dX11_harvest_89 : decode cX11_harvest 89 = .ok (.invokevirtual 287, 3) := by decide +kernel
theorem dX11_harvest_92 : decode cX11_harvest 92 = .ok (.iload_n 2, 1) := by decide +kernel
theorem dX11_harvest_93 : decode cX11_harvest 93 = .ok (.ireturn, 1) := by decide +kernel
def b_X11_harvest_36 (N : Nat) (p1 : Int32) (J83_6 : uS → Int32 → Int32 → Option (Int32 × uS)) (rec36_12 : uS → Int32 → Int32 → Int32 → Option (Int32 × uS)) (s8 : uS) (x9 : Int32) (x10 : Int32) (x11 : Int32) : Option (Int32 × uS) :=
  if p1 < x11 then (J83_6 s8 x9 x10) else ((s8.2.2 0 13).bind fun v13 =>
  u_ck (isR v13) <|
  (f_X7_cross N s8 38 1 v13).bind fun v14 =>
  (f_X7_cornOfAll N v14.2 38).bind fun v15 =>
  u_jn (fun (x16 : Int32) (x17 : Int32) => (u_jn (x11 + 1 : Int32) fun x19 =>
  rec36_12 v14.2 x16 x17 x19 : Option (Int32 × uS))) fun J77_18 =>
  if v15 ≤ x10 then (J77_18 x9 x10) else ((f_X7_cornOfAll N v14.2 38).bind fun v20 =>
  J77_18 x11 v20))
def f_X11_harvest (N : Nat) (σ : uS) (p1 : Int32) : Option (Int32 × uS) := if p1 < 0 then (some ((-1), σ)) else (if p1 ≤ 60 then ((f_X7_copy N σ 38 32).bind fun s1 =>
  (f_X7_cornOfAll N s1 38).bind fun v2 =>
  u_jn (fun (s3 : uS) (x4 : Int32) (x5 : Int32) => ((f_X8_one N s3 (Int32.toInt64 x5)).bind fun s7 =>
  some (x4, s7) : Option (Int32 × uS))) fun J83_6 =>
  u_lp4 (b_X11_harvest_36 N p1 J83_6) N s1 0 v2 1) else (some ((-1), σ)))
set_option maxRecDepth 100000 in
set_option maxHeartbeats 4000000 in
theorem c_X11_harvest (l : Launch) (G : uG) (N : Nat) (σ : uS) (p1 : Int32) (z : (Int32 × uS)) (hz : f_X11_harvest N σ p1 = some z) : u_Mi l ZC G yX11_harvest cX11_harvest 5 .int 5 [.ref (G.2.2 0), .int p1] σ z.1 z.2 := by
  refine u_Mi_of RX11 (by decide) rfl (Nat.le_of_ble_eq_true rfl) ?_
  intro p e s m args below meth c ls cx hw hl
  have hx := cx.1
  have hb := cx.2.1
  have hl : lv_has ls 5 [(0, .ref (G.2.2 0)), (1, .int p1)] := hl
  unfold f_X11_harvest at hz
  refine lv_iload_n hx hb dX11_harvest_0 rfl (lv_at hl 1 rfl) ?_
  refine lv_if_lt (tgt := 10) hx hb dX11_harvest_1 (by decide) (fun hc => ?_) (fun hc => ?_)
  · replace hz := u_ift hz hc
    refine lv_iconst (v := (-1)) hx hb dX11_harvest_10 (by decide) ?_
    exact u_iret cx hw (u_pair hz) dX11_harvest_11
  · replace hz := u_iff hz hc
    refine lv_iload_n hx hb dX11_harvest_4 rfl (lv_at hl 1 rfl) ?_
    refine lv_bipush (v := 60) hx hb dX11_harvest_5 (by decide) ?_
    refine lv_icmp_le (tgt := 12) hx hb dX11_harvest_7 (by decide) (fun hc => ?_) (fun hc => ?_)
    · replace hz := u_ift hz hc
      refine lv_aload_n hx hb dX11_harvest_12 rfl (lv_at hl 0 rfl) ?_
      refine u_getp cx hw F_X11_30 o_X11 rfl dX11_harvest_13 ?_
      refine lv_aload_n hx hb dX11_harvest_16 rfl (lv_at hl 0 rfl) ?_
      refine u_getp cx hw F_X11_26 o_X11 rfl dX11_harvest_17 ?_
      obtain ⟨s1, hs1, hz⟩ := u_bind hz
      refine u_callVv (As := [.ref (G.2.2 32)]) (rest := []) cx hw LV_X11_206 (c_X7_copy l G N σ 38 oS_38 32 oS_32 s1 hs1) oS_38 rfl (by decide) hl.1 rfl (Nat.le_of_ble_eq_true rfl) dX11_harvest_20 rfl (fun H locs hw => ?_)
      refine lv_iconst (v := 0) hx hb dX11_harvest_23 (by decide) ?_
      refine lv_istore_n (lv' := [(2, .int 0), (0, .ref (G.2.2 0)), (1, .int p1)]) hx hb dX11_harvest_24 rfl hl (by decide) rfl (fun ls hl => ?_)
      refine lv_aload_n hx hb dX11_harvest_25 rfl (lv_at hl 1 rfl) ?_
      refine u_getp cx hw F_X11_30 o_X11 rfl dX11_harvest_26 ?_
      obtain ⟨v2, hv2, hz⟩ := u_bind hz
      refine u_callVi (As := []) (rest := []) cx hw LV_X11_377 (c_X7_cornOfAll l G N s1 38 oS_38 v2 hv2) oS_38 rfl (by decide) hl.1 rfl (Nat.le_of_ble_eq_true rfl) dX11_harvest_29 rfl (fun H locs hw => ?_)
      refine lv_istore_n (lv' := [(3, .int v2), (2, .int 0), (0, .ref (G.2.2 0)), (1, .int p1)]) hx hb dX11_harvest_32 rfl hl (by decide) rfl (fun ls hl => ?_)
      refine lv_iconst (v := 1) hx hb dX11_harvest_33 (by decide) ?_
      refine lv_istore (lv' := [(4, .int 1), (3, .int v2), (2, .int 0), (0, .ref (G.2.2 0)), (1, .int p1)]) hx hb dX11_harvest_34 hl (by decide) rfl (fun ls hl => ?_)
      obtain ⟨J83_6, eJ83_6, hz⟩ := u_let hz
      have WJ83_6 : ∀ (s3 : uS) (x4 : Int32) (x5 : Int32) (H : Heap) (locs : List Loc) (ls : Array Slot), J83_6 s3 x4 x5 = some z → u_W ZC G s3 s H locs → lv_has ls 5 [(0, .ref (G.2.2 0)), (2, .int x4), (3, .int x5)] → W p l e (u_rm 5) s m args below meth c H locs 0 0 (u_Qi below ZC G s args z.1 z.2) (F0 m 83 ls []) := by
        intro s3 x4 x5 H locs ls hz hw hl
        rw [eJ83_6] at hz
        refine lv_aload_n hx hb dX11_harvest_83 rfl (lv_at hl 0 rfl) ?_
        refine u_getp cx hw F_X11_19 o_X11 rfl dX11_harvest_84 ?_
        refine lv_iload_n hx hb dX11_harvest_87 rfl (lv_at hl 2 rfl) ?_
        refine lv_i2l (v := (Int32.toInt64 x5)) hx hb dX11_harvest_88 rfl ?_
        obtain ⟨s7, hs7, hz⟩ := u_bind hz
        refine u_callVv (As := [.long (Int32.toInt64 x5)]) (rest := []) cx hw LV_X11_287 (c_X8_one l G N s3 (Int32.toInt64 x5) s7 hs7) o_X8 rfl (by decide) hl.1 rfl (Nat.le_of_ble_eq_true rfl) dX11_harvest_89 rfl (fun H locs hw => ?_)
        refine lv_iload_n hx hb dX11_harvest_92 rfl (lv_at hl 1 rfl) ?_
        exact u_iret cx hw (u_pair hz) dX11_harvest_93
      have WL36_20 : ∀ (k : Nat) (s8 : uS) (x9 : Int32) (x10 : Int32) (x11 : Int32) (H : Heap) (locs : List Loc) (ls : Array Slot), u_lp4 (b_X11_harvest_36 N p1 J83_6) k s8 x9 x10 x11 = some z → u_W ZC G s8 s H locs → lv_has ls 5 [(0, .ref (G.2.2 0)), (1, .int p1), (2, .int x9), (3, .int x10), (4, .int x11)] → W p l e (u_rm 5) s m args below meth c H locs 0 0 (u_Qi below ZC G s args z.1 z.2) (F0 m 36 ls []) := by
        intro k
        induction k with
        | zero =>
          intro s8 x9 x10 x11 H locs ls hz
          exact absurd hz (by intro h9; cases h9)
        | succ k ih36_12 =>
          intro s8 x9 x10 x11 H locs ls hz hw hl
          have hz : (b_X11_harvest_36 N p1 J83_6) (u_lp4 (b_X11_harvest_36 N p1 J83_6) k) s8 x9 x10 x11 = some z := hz
          unfold b_X11_harvest_36 at hz
          refine lv_iload hx hb dX11_harvest_36 (lv_at hl 4 rfl) ?_
          refine lv_iload_n hx hb dX11_harvest_38 rfl (lv_at hl 1 rfl) ?_
          refine lv_icmp_gt (tgt := 83) hx hb dX11_harvest_39 (by decide) (fun hc => ?_) (fun hc => ?_)
          · replace hz := u_ift hz hc
            exact WJ83_6 s8 x9 x10 _ _ _ hz hw (lv_sub hl [0, 2, 3] rfl)
          · replace hz := u_iff hz hc
            refine lv_aload_n hx hb dX11_harvest_42 rfl (lv_at hl 0 rfl) ?_
            refine u_getp cx hw F_X11_30 o_X11 rfl dX11_harvest_43 ?_
            refine lv_iconst (v := 1) hx hb dX11_harvest_46 (by decide) ?_
            refine lv_aload_n hx hb dX11_harvest_47 rfl (lv_at hl 0 rfl) ?_
            obtain ⟨v13, hv13, hz⟩ := u_bind hz
            obtain ⟨qv13, hz⟩ := u_ck_some hz
            refine u_getr cx hw F_X11_89 o_X11 rfl hv13 dX11_harvest_48 ?_
            obtain ⟨v14, hv14, hz⟩ := u_bind hz
            refine u_callVi (As := [.int 1, .ref (G.2.2 v13)]) (rest := []) cx hw LV_X11_210 (c_X7_cross l G N s8 38 oS_38 1 v13 (o_R qv13) v14 hv14) oS_38 rfl (by decide) hl.1 rfl (Nat.le_of_ble_eq_true rfl) dX11_harvest_51 rfl (fun H locs hw => ?_)
            refine lv_pop hx hb dX11_harvest_54 rfl ?_
            refine lv_aload_n hx hb dX11_harvest_55 rfl (lv_at hl 0 rfl) ?_
            refine u_getp cx hw F_X11_30 o_X11 rfl dX11_harvest_56 ?_
            obtain ⟨v15, hv15, hz⟩ := u_bind hz
            refine u_callVi (As := []) (rest := []) cx hw LV_X11_377 (c_X7_cornOfAll l G N v14.2 38 oS_38 v15 hv15) oS_38 rfl (by decide) hl.1 rfl (Nat.le_of_ble_eq_true rfl) dX11_harvest_59 rfl (fun H locs hw => ?_)
            refine lv_iload_n hx hb dX11_harvest_62 rfl (lv_at hl 3 rfl) ?_
            obtain ⟨J77_18, eJ77_18, hz⟩ := u_let hz
            have WJ77_18 : ∀ (x16 : Int32) (x17 : Int32) (H : Heap) (locs : List Loc) (ls : Array Slot), J77_18 x16 x17 = some z → u_W ZC G v14.2 s H locs → lv_has ls 5 [(0, .ref (G.2.2 0)), (1, .int p1), (2, .int x16), (3, .int x17), (4, .int x11)] → W p l e (u_rm 5) s m args below meth c H locs 0 0 (u_Qi below ZC G s args z.1 z.2) (F0 m 77 ls []) := by
              intro x16 x17 H locs ls hz hw hl
              rw [eJ77_18] at hz
              obtain ⟨x19, ex19, hz⟩ := u_let hz
              refine lv_iinc (v := x19) (lv' := [(4, .int x19), (0, .ref (G.2.2 0)), (1, .int p1), (2, .int x16), (3, .int x17)]) hx hb dX11_harvest_77 hl (k := 4) rfl (by rw [ex19]; rfl) (by decide) rfl (fun ls hl => ?_)
              refine lv_goto (tgt := 36) hx hb dX11_harvest_80 (by decide) ?_
              exact ih36_12 v14.2 x16 x17 x19 _ _ _ hz hw (lv_sub hl [1, 2, 3, 4, 0] rfl)
            refine lv_icmp_le (tgt := 77) hx hb dX11_harvest_63 (by decide) (fun hc => ?_) (fun hc => ?_)
            · replace hz := u_ift hz hc
              exact WJ77_18 x9 x10 _ _ _ hz hw (lv_sub hl [0, 1, 2, 3, 4] rfl)
            · replace hz := u_iff hz hc
              refine lv_iload hx hb dX11_harvest_66 (lv_at hl 4 rfl) ?_
              refine lv_istore_n (lv' := [(2, .int x11), (0, .ref (G.2.2 0)), (1, .int p1), (3, .int x10), (4, .int x11)]) hx hb dX11_harvest_68 rfl hl (by decide) rfl (fun ls hl => ?_)
              refine lv_aload_n hx hb dX11_harvest_69 rfl (lv_at hl 1 rfl) ?_
              refine u_getp cx hw F_X11_30 o_X11 rfl dX11_harvest_70 ?_
              obtain ⟨v20, hv20, hz⟩ := u_bind hz
              refine u_callVi (As := []) (rest := []) cx hw LV_X11_377 (c_X7_cornOfAll l G N v14.2 38 oS_38 v20 hv20) oS_38 rfl (by decide) hl.1 rfl (Nat.le_of_ble_eq_true rfl) dX11_harvest_73 rfl (fun H locs hw => ?_)
              refine lv_istore_n (lv' := [(3, .int v20), (2, .int x11), (0, .ref (G.2.2 0)), (1, .int p1), (4, .int x11)]) hx hb dX11_harvest_76 rfl hl (by decide) rfl (fun ls hl => ?_)
              exact WJ77_18 x11 v20 _ _ _ hz hw (lv_sub hl [2, 3, 1, 0, 4] rfl)
      exact WL36_20 N s1 0 v2 1 _ _ _ hz hw (lv_sub hl [3, 4, 2, 1, 0] rfl)
    · replace hz := u_iff hz hc
      refine lv_iconst (v := (-1)) hx hb dX11_harvest_10 (by decide) ?_
      exact u_iret cx hw (u_pair hz) dX11_harvest_11
theorem dX11_owed_0 : decode cX11_owed 0 = .ok (.aload_n 0, 1) := by decide +kernel
theorem dX11_owed_1 : decode cX11_owed 1 = .ok (.getfield 26, 3) := by decide +kernel
theorem dX11_owed_4 : decode cX11_owed 4 = .ok (.iload_n 1, 1) := by decide +kernel
theorem dX11_owed_5 : decode cX11_owed 5 = .ok (.invokevirtual 140, 3) := by decide +kernel
theorem dX11_owed_8 : decode cX11_owed 8 = .ok (.ifCond .eq 13, 3) := by decide +kernel
theorem dX11_owed_11 : decode cX11_owed 11 = .ok (.iload_n 2, 1) := by decide +kernel
theorem dX11_owed_12 : decode cX11_owed 12 = .ok (.ifCond .lt 9, 3) := by decide +kernel
theorem dX11_owed_15 : decode cX11_owed 15 = .ok (.iload_n 2, 1) := by decide +kernel
theorem dX11_owed_16 : decode cX11_owed 16 = .ok (.bipush 60, 2) := by decide +kernel
theorem dX11_owed_18 : decode cX11_owed 18 = .ok (.if_icmp .le 5, 3) := by decide +kernel
theorem dX11_owed_21 : decode cX11_owed 21 = .ok (.iconst (-1), 1) := by decide +kernel
theorem dX11_owed_22 : decode cX11_owed 22 = .ok (.ireturn, 1) := by decide +kernel
theorem dX11_owed_23 : decode cX11_owed 23 = .ok (.aload_n 0, 1) := by decide +kernel
theorem dX11_owed_24 : decode cX11_owed 24 = .ok (.getfield 30, 3) := by decide +kernel
theorem dX11_owed_27 : decode cX11_owed 27 = .ok (.aload_n 0, 1) := by decide +kernel
theorem dX11_owed_28 : decode cX11_owed 28 = .ok (.getfield 26, 3) := by decide +kernel
theorem dX11_owed_31 : decode cX11_owed 31 = .ok (.invokevirtual 206, 3) := by decide +kernel
theorem dX11_owed_34 : decode cX11_owed 34 = .ok (.iconst 0, 1) := by decide +kernel
theorem dX11_owed_35 : decode cX11_owed 35 = .ok (.istore_n 3, 1) := by decide +kernel
theorem dX11_owed_36 : decode cX11_owed 36 = .ok (.iconst 0, 1) := by decide +kernel
theorem dX11_owed_37 : decode cX11_owed 37 = .ok (.istore 4, 2) := by decide +kernel
theorem dX11_owed_39 : decode cX11_owed 39 = .ok (.iconst 0, 1) := by decide +kernel
theorem dX11_owed_40 : decode cX11_owed 40 = .ok (.istore 5, 2) := by decide +kernel
theorem dX11_owed_42 : decode cX11_owed 42 = .ok (.iload 5, 2) := by decide +kernel
theorem dX11_owed_44 : decode cX11_owed 44 = .ok (.iload_n 2, 1) := by decide +kernel
theorem dX11_owed_45 : decode cX11_owed 45 = .ok (.if_icmp .ge 78, 3) := by decide +kernel
theorem dX11_owed_48 : decode cX11_owed 48 = .ok (.aload_n 0, 1) := by decide +kernel
theorem dX11_owed_49 : decode cX11_owed 49 = .ok (.getfield 30, 3) := by decide +kernel
theorem dX11_owed_52 : decode cX11_owed 52 = .ok (.iload_n 1, 1) := by decide +kernel
theorem dX11_owed_53 : decode cX11_owed 53 = .ok (.invokevirtual 153, 3) := by decide +kernel
theorem dX11_owed_56 : decode cX11_owed 56 = .ok (.ifCond .eq 25, 3) := by decide +kernel
theorem dX11_owed_59 : decode cX11_owed 59 = .ok (.aload_n 0, 1) := by decide +kernel
theorem dX11_owed_60 : decode cX11_owed 60 = .ok (.getfield 30, 3) := by decide +kernel
theorem dX11_owed_63 : decode cX11_owed 63 = .ok (.invokevirtual 275, 3) := by decide +kernel
theorem dX11_owed_66 : decode cX11_owed 66 = .ok (.ifCond .eq 15, 3) := by decide +kernel
theorem dX11_owed_69 : decode cX11_owed 69 = .ok (.aload_n 0, 1) := by decide +kernel
theorem dX11_owed_70 : decode cX11_owed 70 = .ok (.getfield 30, 3) := by decide +kernel
theorem dX11_owed_73 : decode cX11_owed 73 = .ok (.getfield 150, 3) := by decide +kernel
theorem dX11_owed_76 : decode cX11_owed 76 = .ok (.iload_n 1, 1) := by decide +kernel
theorem dX11_owed_77 : decode cX11_owed 77 = .ok (.iaload, 1) := by decide +kernel
theorem dX11_owed_78 : decode cX11_owed 78 = .ok (.goto 4, 3) := by decide +kernel
theorem dX11_owed_81 : decode cX11_owed 81 = .ok (.iconst 0, 1) := by decide +kernel
theorem dX11_owed_82 : decode cX11_owed 82 = .ok (.istore 6, 2) := by decide +kernel
theorem dX11_owed_84 : decode cX11_owed 84 = .ok (.iload_n 3, 1) := by decide +kernel
theorem dX11_owed_85 : decode cX11_owed 85 = .ok (.iload 6, 2) := by decide +kernel
theorem dX11_owed_87 : decode cX11_owed 87 = .ok (.iadd, 1) := by decide +kernel
theorem dX11_owed_88 : decode cX11_owed 88 = .ok (.istore_n 3, 1) := by decide +kernel
theorem dX11_owed_89 : decode cX11_owed 89 = .ok (.iload 4, 2) := by decide +kernel
theorem dX11_owed_91 : decode cX11_owed 91 = .ok (.iload 6, 2) := by decide +kernel
theorem dX11_owed_93 : decode cX11_owed 93 = .ok (.ifCond .le 7, 3) := by decide +kernel
theorem dX11_owed_96 : decode cX11_owed 96 = .ok (.iconst 1, 1) := by decide +kernel
theorem dX11_owed_97 : decode cX11_owed 97 = .ok (.goto 4, 3) := by decide +kernel
theorem dX11_owed_100 : decode cX11_owed 100 = .ok (.iconst 0, 1) := by decide +kernel
theorem dX11_owed_101 : decode cX11_owed 101 = .ok (.iadd, 1) := by decide +kernel
theorem dX11_owed_102 : decode cX11_owed 102 = .ok (.istore 4, 2) := by decide +kernel
theorem dX11_owed_104 : decode cX11_owed 104 = .ok (.aload_n 0, 1) := by decide +kernel
theorem dX11_owed_105 : decode cX11_owed 105 = .ok (.getfield 30, 3) := by decide +kernel
theorem dX11_owed_108 : decode cX11_owed 108 = .ok (.iconst 1, 1) := by decide +kernel
theorem dX11_owed_109 : decode cX11_owed 109 = .ok (.aload_n 0, 1) := by decide +kernel
theorem dX11_owed_110 : decode cX11_owed 110 = .ok (.getfield 89, 3) := by decide +kernel
theorem dX11_owed_113 : decode cX11_owed 113 = .ok (.invokevirtual 210, 3) := by decide +kernel
theorem dX11_owed_116 : decode cX11_owed 116 = .ok (.pop, 1) := by decide +kernel
theorem dX11_owed_117 : decode cX11_owed 117 = .ok (.iinc 5 1, 3) := by decide +kernel
theorem dX11_owed_120 : decode cX11_owed 120 = .ok (.goto (-78), 3) := by decide +kernel
theorem dX11_owed_123 : decode cX11_owed 123 = .ok (.aload_n 0, 1) := by decide +kernel
theorem dX11_owed_124 : decode cX11_owed 124 = .ok (.getfield 19, 3) := by decide +kernel
theorem dX11_owed_127 : decode cX11_owed 127 = .ok (.iload 4, 2) := by decide +kernel
theorem dX11_owed_129 : decode cX11_owed 129 = .ok (.i2l, 1) := by decide +kernel
theorem dX11_owed_130 : decode cX11_owed 130 = .ok (.aload_n 0, 1) := by decide +kernel
theorem dX11_owed_131 : decode cX11_owed 131 = .ok (.getfield 30, 3) := by decide +kernel
theorem dX11_owed_134 : decode cX11_owed 134 = .ok (.getfield 150, 3) := by decide +kernel
theorem dX11_owed_137 : decode cX11_owed 137 = .ok (.iload_n 1, 1) := by decide +kernel
theorem dX11_owed_138 : decode cX11_owed 138 = .ok (.iaload, 1) := by decide +kernel
theorem dX11_owed_139 : decode cX11_owed 139 = .ok (.i2l, 1) := by decide +kernel
theorem dX11_owed_140 : decode cX11_owed 140 = .ok (.invokevirtual 220, 3) := by decide +kernel
theorem dX11_owed_143 : decode cX11_owed 143 = .ok (.iload_n 3, 1) := by decide +kernel
theorem dX11_owed_144 : decode cX11_owed 144 = .ok (.ireturn, 1) := by decide +kernel
def b_X11_owed_42 (N : Nat) (p1 : Int32) (p2 : Int32) (J123_6 : uS → Int32 → Int32 → Option (Int32 × uS)) (rec42_13 : uS → Int32 → Int32 → Int32 → Option (Int32 × uS)) (s9 : uS) (x10 : Int32) (x11 : Int32) (x12 : Int32) : Option (Int32 × uS) :=
  if p2 ≤ x12 then (J123_6 s9 x10 x11) else ((f_X7_isOfRope N s9 38 p1).bind fun v14 =>
  u_jn (fun (t15 : Int32) => (u_jn ((x10 + t15) : Int32) fun x17 =>
  u_jn (fun (t18 : Int32) => (u_jn ((x11 + t18) : Int32) fun x20 =>
  (s9.2.2 0 13).bind fun v21 =>
  u_ck (isR v21) <|
  (f_X7_cross N s9 38 1 v21).bind fun v22 =>
  u_jn (x12 + 1 : Int32) fun x23 =>
  rec42_13 v22.2 x17 x20 x23 : Option (Int32 × uS))) fun J101_19 =>
  if t15 ≤ 0 then (J101_19 0) else (J101_19 1) : Option (Int32 × uS))) fun J82_16 =>
  u_jn ((J82_16 0 : Option (Int32 × uS))) fun J81_24 =>
  if v14 = 0 then (J81_24) else ((f_X7_inside N s9 38).bind fun v25 =>
  if v25 = 0 then (J81_24) else ((u_rI ZC s9 0 39 p1).bind fun v26 =>
  J82_16 v26)))
def f_X11_owed (N : Nat) (σ : uS) (p1 : Int32) (p2 : Int32) : Option (Int32 × uS) := (f_X7_isFurrow N σ 32 p1).bind fun v1 =>
  if v1 = 0 then (some ((-1), σ)) else (if p2 < 0 then (some ((-1), σ)) else (if p2 ≤ 60 then ((f_X7_copy N σ 38 32).bind fun s2 =>
  u_jn (fun (s3 : uS) (x4 : Int32) (x5 : Int32) => ((u_rI ZC s3 0 39 p1).bind fun v7 =>
  (f_X8_two N s3 (Int32.toInt64 x5) (Int32.toInt64 v7)).bind fun s8 =>
  some (x4, s8) : Option (Int32 × uS))) fun J123_6 =>
  u_lp4 (b_X11_owed_42 N p1 p2 J123_6) N s2 0 0 0) else (some ((-1), σ))))
set_option maxRecDepth 100000 in
set_option maxHeartbeats 4000000 in
theorem c_X11_owed (l : Launch) (G : uG) (N : Nat) (σ : uS) (p1 : Int32) (p2 : Int32) (z : (Int32 × uS)) (hz : f_X11_owed N σ p1 p2 = some z) : u_Mi l ZC G yX11_owed cX11_owed 7 .int 5 [.ref (G.2.2 0), .int p1, .int p2] σ z.1 z.2 := by
  refine u_Mi_of RX11 (by decide) rfl (Nat.le_of_ble_eq_true rfl) ?_
  intro p e s m args below meth c ls cx hw hl
  have hx := cx.1
  have hb := cx.2.1
  have hl : lv_has ls 7 [(0, .ref (G.2.2 0)), (1, .int p1), (2, .int p2)] := hl
  unfold f_X11_owed at hz
  refine lv_aload_n hx hb dX11_owed_0 rfl (lv_at hl 0 rfl) ?_
  refine u_getp cx hw F_X11_26 o_X11 rfl dX11_owed_1 ?_
  refine lv_iload_n hx hb dX11_owed_4 rfl (lv_at hl 1 rfl) ?_
  obtain ⟨v1, hv1, hz⟩ := u_bind hz
  refine u_callVi (As := [.int p1]) (rest := []) cx hw LV_X11_140 (c_X7_isFurrow l G N σ 32 oS_32 p1 v1 hv1) oS_32 rfl (by decide) hl.1 rfl (Nat.le_of_ble_eq_true rfl) dX11_owed_5 rfl (fun H locs hw => ?_)
  refine lv_if_eq (tgt := 21) hx hb dX11_owed_8 (by decide) (fun hc => ?_) (fun hc => ?_)
  · replace hz := u_ift hz hc
    refine lv_iconst (v := (-1)) hx hb dX11_owed_21 (by decide) ?_
    exact u_iret cx hw (u_pair hz) dX11_owed_22
  · replace hz := u_iff hz hc
    refine lv_iload_n hx hb dX11_owed_11 rfl (lv_at hl 2 rfl) ?_
    refine lv_if_lt (tgt := 21) hx hb dX11_owed_12 (by decide) (fun hc => ?_) (fun hc => ?_)
    · replace hz := u_ift hz hc
      refine lv_iconst (v := (-1)) hx hb dX11_owed_21 (by decide) ?_
      exact u_iret cx hw (u_pair hz) dX11_owed_22
    · replace hz := u_iff hz hc
      refine lv_iload_n hx hb dX11_owed_15 rfl (lv_at hl 2 rfl) ?_
      refine lv_bipush (v := 60) hx hb dX11_owed_16 (by decide) ?_
      refine lv_icmp_le (tgt := 23) hx hb dX11_owed_18 (by decide) (fun hc => ?_) (fun hc => ?_)
      · replace hz := u_ift hz hc
        refine lv_aload_n hx hb dX11_owed_23 rfl (lv_at hl 0 rfl) ?_
        refine u_getp cx hw F_X11_30 o_X11 rfl dX11_owed_24 ?_
        refine lv_aload_n hx hb dX11_owed_27 rfl (lv_at hl 0 rfl) ?_
        refine u_getp cx hw F_X11_26 o_X11 rfl dX11_owed_28 ?_
        obtain ⟨s2, hs2, hz⟩ := u_bind hz
        refine u_callVv (As := [.ref (G.2.2 32)]) (rest := []) cx hw LV_X11_206 (c_X7_copy l G N σ 38 oS_38 32 oS_32 s2 hs2) oS_38 rfl (by decide) hl.1 rfl (Nat.le_of_ble_eq_true rfl) dX11_owed_31 rfl (fun H locs hw => ?_)
        refine lv_iconst (v := 0) hx hb dX11_owed_34 (by decide) ?_
        refine lv_istore_n (lv' := [(3, .int 0), (0, .ref (G.2.2 0)), (1, .int p1), (2, .int p2)]) hx hb dX11_owed_35 rfl hl (by decide) rfl (fun ls hl => ?_)
        refine lv_iconst (v := 0) hx hb dX11_owed_36 (by decide) ?_
        refine lv_istore (lv' := [(4, .int 0), (3, .int 0), (0, .ref (G.2.2 0)), (1, .int p1), (2, .int p2)]) hx hb dX11_owed_37 hl (by decide) rfl (fun ls hl => ?_)
        refine lv_iconst (v := 0) hx hb dX11_owed_39 (by decide) ?_
        refine lv_istore (lv' := [(5, .int 0), (4, .int 0), (3, .int 0), (0, .ref (G.2.2 0)), (1, .int p1), (2, .int p2)]) hx hb dX11_owed_40 hl (by decide) rfl (fun ls hl => ?_)
        obtain ⟨J123_6, eJ123_6, hz⟩ := u_let hz
        have WJ123_6 : ∀ (s3 : uS) (x4 : Int32) (x5 : Int32) (H : Heap) (locs : List Loc) (ls : Array Slot), J123_6 s3 x4 x5 = some z → u_W ZC G s3 s H locs → lv_has ls 7 [(0, .ref (G.2.2 0)), (1, .int p1), (3, .int x4), (4, .int x5)] → W p l e (u_rm 5) s m args below meth c H locs 0 0 (u_Qi below ZC G s args z.1 z.2) (F0 m 123 ls []) := by
          intro s3 x4 x5 H locs ls hz hw hl
          rw [eJ123_6] at hz
          refine lv_aload_n hx hb dX11_owed_123 rfl (lv_at hl 0 rfl) ?_
          refine u_getp cx hw F_X11_19 o_X11 rfl dX11_owed_124 ?_
          refine lv_iload hx hb dX11_owed_127 (lv_at hl 3 rfl) ?_
          refine lv_i2l (v := (Int32.toInt64 x5)) hx hb dX11_owed_129 rfl ?_
          refine lv_aload_n hx hb dX11_owed_130 rfl (lv_at hl 0 rfl) ?_
          refine u_getp cx hw F_X11_30 o_X11 rfl dX11_owed_131 ?_
          refine u_getp cx hw F_X11_150 oS_38 rfl dX11_owed_134 ?_
          refine lv_iload_n hx hb dX11_owed_137 rfl (lv_at hl 1 rfl) ?_
          obtain ⟨v7, hv7, hz⟩ := u_bind hz
          refine u_iald cx hw hv7 dX11_owed_138 ?_
          refine lv_i2l (v := (Int32.toInt64 v7)) hx hb dX11_owed_139 rfl ?_
          obtain ⟨s8, hs8, hz⟩ := u_bind hz
          refine u_callVv (As := [.long (Int32.toInt64 x5), .long (Int32.toInt64 v7)]) (rest := []) cx hw LV_X11_220 (c_X8_two l G N s3 (Int32.toInt64 x5) (Int32.toInt64 v7) s8 hs8) o_X8 rfl (by decide) hl.1 rfl (Nat.le_of_ble_eq_true rfl) dX11_owed_140 rfl (fun H locs hw => ?_)
          refine lv_iload_n hx hb dX11_owed_143 rfl (lv_at hl 2 rfl) ?_
          exact u_iret cx hw (u_pair hz) dX11_owed_144
        have WL42_26 : ∀ (k : Nat) (s9 : uS) (x10 : Int32) (x11 : Int32) (x12 : Int32) (H : Heap) (locs : List Loc) (ls : Array Slot), u_lp4 (b_X11_owed_42 N p1 p2 J123_6) k s9 x10 x11 x12 = some z → u_W ZC G s9 s H locs → lv_has ls 7 [(0, .ref (G.2.2 0)), (1, .int p1), (2, .int p2), (3, .int x10), (4, .int x11), (5, .int x12)] → W p l e (u_rm 5) s m args below meth c H locs 0 0 (u_Qi below ZC G s args z.1 z.2) (F0 m 42 ls []) := by
          intro k
          induction k with
          | zero =>
            intro s9 x10 x11 x12 H locs ls hz
            exact absurd hz (by intro h9; cases h9)
          | succ k ih42_13 =>
            intro s9 x10 x11 x12 H locs ls hz hw hl
            have hz : (b_X11_owed_42 N p1 p2 J123_6) (u_lp4 (b_X11_owed_42 N p1 p2 J123_6) k) s9 x10 x11 x12 = some z := hz
            unfold b_X11_owed_42 at hz
            refine lv_iload hx hb dX11_owed_42 (lv_at hl 5 rfl) ?_
            refine lv_iload_n hx hb dX11_owed_44 rfl (lv_at hl 2 rfl) ?_
            refine lv_icmp_ge (tgt := 123) hx hb dX11_owed_45 (by decide) (fun hc => ?_) (fun hc => ?_)
            · replace hz := u_ift hz hc
              exact WJ123_6 s9 x10 x11 _ _ _ hz hw (lv_sub hl [0, 1, 3, 4] rfl)
            · replace hz := u_iff hz hc
              refine lv_aload_n hx hb dX11_owed_48 rfl (lv_at hl 0 rfl) ?_
              refine u_getp cx hw F_X11_30 o_X11 rfl dX11_owed_49 ?_
              refine lv_iload_n hx hb dX11_owed_52 rfl (lv_at hl 1 rfl) ?_
              obtain ⟨v14, hv14, hz⟩ := u_bind hz
              refine u_callVi (As := [.int p1]) (rest := []) cx hw LV_X11_153 (c_X7_isOfRope l G N s9 38 oS_38 p1 v14 hv14) oS_38 rfl (by decide) hl.1 rfl (Nat.le_of_ble_eq_true rfl) dX11_owed_53 rfl (fun H locs hw => ?_)
              obtain ⟨J82_16, eJ82_16, hz⟩ := u_let hz
              have WJ82_16 : ∀ (t15 : Int32) (H : Heap) (locs : List Loc) (ls : Array Slot), J82_16 t15 = some z → u_W ZC G s9 s H locs → lv_has ls 7 [(0, .ref (G.2.2 0)), (1, .int p1), (2, .int p2), (3, .int x10), (4, .int x11), (5, .int x12)] → W p l e (u_rm 5) s m args below meth c H locs 0 0 (u_Qi below ZC G s args z.1 z.2) (F0 m 82 ls [.int t15]) := by
                intro t15 H locs ls hz hw hl
                rw [eJ82_16] at hz
                refine lv_istore (lv' := [(6, .int t15), (0, .ref (G.2.2 0)), (1, .int p1), (2, .int p2), (3, .int x10), (4, .int x11), (5, .int x12)]) hx hb dX11_owed_82 hl (by decide) rfl (fun ls hl => ?_)
                refine lv_iload_n hx hb dX11_owed_84 rfl (lv_at hl 4 rfl) ?_
                refine lv_iload hx hb dX11_owed_85 (lv_at hl 0 rfl) ?_
                refine lv_iadd hx hb dX11_owed_87 ?_
                obtain ⟨x17, ex17, hz⟩ := u_let hz
                refine u_topi ex17 ?_
                refine lv_istore_n (lv' := [(3, .int x17), (6, .int t15), (0, .ref (G.2.2 0)), (1, .int p1), (2, .int p2), (4, .int x11), (5, .int x12)]) hx hb dX11_owed_88 rfl hl (by decide) rfl (fun ls hl => ?_)
                refine lv_iload hx hb dX11_owed_89 (lv_at hl 5 rfl) ?_
                refine lv_iload hx hb dX11_owed_91 (lv_at hl 1 rfl) ?_
                obtain ⟨J101_19, eJ101_19, hz⟩ := u_let hz
                have WJ101_19 : ∀ (t18 : Int32) (H : Heap) (locs : List Loc) (ls : Array Slot), J101_19 t18 = some z → u_W ZC G s9 s H locs → lv_has ls 7 [(0, .ref (G.2.2 0)), (1, .int p1), (2, .int p2), (3, .int x17), (5, .int x12)] → W p l e (u_rm 5) s m args below meth c H locs 0 0 (u_Qi below ZC G s args z.1 z.2) (F0 m 101 ls [.int t18, .int x11]) := by
                  intro t18 H locs ls hz hw hl
                  rw [eJ101_19] at hz
                  refine lv_iadd hx hb dX11_owed_101 ?_
                  obtain ⟨x20, ex20, hz⟩ := u_let hz
                  refine u_topi ex20 ?_
                  refine lv_istore (lv' := [(4, .int x20), (0, .ref (G.2.2 0)), (1, .int p1), (2, .int p2), (3, .int x17), (5, .int x12)]) hx hb dX11_owed_102 hl (by decide) rfl (fun ls hl => ?_)
                  refine lv_aload_n hx hb dX11_owed_104 rfl (lv_at hl 1 rfl) ?_
                  refine u_getp cx hw F_X11_30 o_X11 rfl dX11_owed_105 ?_
                  refine lv_iconst (v := 1) hx hb dX11_owed_108 (by decide) ?_
                  refine lv_aload_n hx hb dX11_owed_109 rfl (lv_at hl 1 rfl) ?_
                  obtain ⟨v21, hv21, hz⟩ := u_bind hz
                  obtain ⟨qv21, hz⟩ := u_ck_some hz
                  refine u_getr cx hw F_X11_89 o_X11 rfl hv21 dX11_owed_110 ?_
                  obtain ⟨v22, hv22, hz⟩ := u_bind hz
                  refine u_callVi (As := [.int 1, .ref (G.2.2 v21)]) (rest := []) cx hw LV_X11_210 (c_X7_cross l G N s9 38 oS_38 1 v21 (o_R qv21) v22 hv22) oS_38 rfl (by decide) hl.1 rfl (Nat.le_of_ble_eq_true rfl) dX11_owed_113 rfl (fun H locs hw => ?_)
                  refine lv_pop hx hb dX11_owed_116 rfl ?_
                  obtain ⟨x23, ex23, hz⟩ := u_let hz
                  refine lv_iinc (v := x23) (lv' := [(5, .int x23), (4, .int x20), (0, .ref (G.2.2 0)), (1, .int p1), (2, .int p2), (3, .int x17)]) hx hb dX11_owed_117 hl (k := 5) rfl (by rw [ex23]; rfl) (by decide) rfl (fun ls hl => ?_)
                  refine lv_goto (tgt := 42) hx hb dX11_owed_120 (by decide) ?_
                  exact ih42_13 v22.2 x17 x20 x23 _ _ _ hz hw (lv_sub hl [2, 3, 4, 5, 1, 0] rfl)
                refine lv_if_le (tgt := 100) hx hb dX11_owed_93 (by decide) (fun hc => ?_) (fun hc => ?_)
                · replace hz := u_ift hz hc
                  refine lv_iconst (v := 0) hx hb dX11_owed_100 (by decide) ?_
                  exact WJ101_19 0 _ _ _ hz hw (lv_sub hl [2, 3, 4, 0, 6] rfl)
                · replace hz := u_iff hz hc
                  refine lv_iconst (v := 1) hx hb dX11_owed_96 (by decide) ?_
                  refine lv_goto (tgt := 101) hx hb dX11_owed_97 (by decide) ?_
                  exact WJ101_19 1 _ _ _ hz hw (lv_sub hl [2, 3, 4, 0, 6] rfl)
              obtain ⟨J81_24, eJ81_24, hz⟩ := u_let hz
              have WJ81_24 : ∀ (H : Heap) (locs : List Loc) (ls : Array Slot), J81_24 = some z → u_W ZC G s9 s H locs → lv_has ls 7 [(0, .ref (G.2.2 0)), (1, .int p1), (2, .int p2), (3, .int x10), (4, .int x11), (5, .int x12)] → W p l e (u_rm 5) s m args below meth c H locs 0 0 (u_Qi below ZC G s args z.1 z.2) (F0 m 81 ls []) := by
                intro H locs ls hz hw hl
                rw [eJ81_24] at hz
                refine lv_iconst (v := 0) hx hb dX11_owed_81 (by decide) ?_
                exact WJ82_16 0 _ _ _ hz hw (lv_sub hl [0, 1, 2, 3, 4, 5] rfl)
              refine lv_if_eq (tgt := 81) hx hb dX11_owed_56 (by decide) (fun hc => ?_) (fun hc => ?_)
              · replace hz := u_ift hz hc
                exact WJ81_24 _ _ _ hz hw (lv_sub hl [0, 1, 2, 3, 4, 5] rfl)
              · replace hz := u_iff hz hc
                refine lv_aload_n hx hb dX11_owed_59 rfl (lv_at hl 0 rfl) ?_
                refine u_getp cx hw F_X11_30 o_X11 rfl dX11_owed_60 ?_
                obtain ⟨v25, hv25, hz⟩ := u_bind hz
                refine u_callVi (As := []) (rest := []) cx hw LV_X11_275 (c_X7_inside l G N s9 38 oS_38 v25 hv25) oS_38 rfl (by decide) hl.1 rfl (Nat.le_of_ble_eq_true rfl) dX11_owed_63 rfl (fun H locs hw => ?_)
                refine lv_if_eq (tgt := 81) hx hb dX11_owed_66 (by decide) (fun hc => ?_) (fun hc => ?_)
                · replace hz := u_ift hz hc
                  exact WJ81_24 _ _ _ hz hw (lv_sub hl [0, 1, 2, 3, 4, 5] rfl)
                · replace hz := u_iff hz hc
                  refine lv_aload_n hx hb dX11_owed_69 rfl (lv_at hl 0 rfl) ?_
                  refine u_getp cx hw F_X11_30 o_X11 rfl dX11_owed_70 ?_
                  refine u_getp cx hw F_X11_150 oS_38 rfl dX11_owed_73 ?_
                  refine lv_iload_n hx hb dX11_owed_76 rfl (lv_at hl 1 rfl) ?_
                  obtain ⟨v26, hv26, hz⟩ := u_bind hz
                  refine u_iald cx hw hv26 dX11_owed_77 ?_
                  refine lv_goto (tgt := 82) hx hb dX11_owed_78 (by decide) ?_
                  exact WJ82_16 v26 _ _ _ hz hw (lv_sub hl [0, 1, 2, 3, 4, 5] rfl)
        exact WL42_26 N s2 0 0 0 _ _ _ hz hw (lv_sub hl [3, 4, 5, 2, 1, 0] rfl)
      · replace hz := u_iff hz hc
        refine lv_iconst (v := (-1)) hx hb dX11_owed_21 (by decide) ?_
        exact u_iret cx hw (u_pair hz) dX11_owed_22
theorem dX11_passYear_0 : decode cX11_passYear 0 = .ok (.aload_n 0, 1) := by decide +kernel
theorem dX11_passYear_1 : decode cX11_passYear 1 = .ok (.getfield 82, 3) := by decide +kernel
theorem dX11_passYear_4 : decode cX11_passYear 4 = .ok (.iconst 4, 1) := by decide +kernel
theorem dX11_passYear_5 : decode cX11_passYear 5 = .ok (.invokevirtual 408, 3) := by decide +kernel
theorem dX11_passYear_8 : decode cX11_passYear 8 = .ok (.istore_n 1, 1) := by decide +kernel
theorem dX11_passYear_9 : decode cX11_passYear 9 = .ok (.iload_n 1, 1) := by decide +kernel
theorem dX11_passYear_10 : decode cX11_passYear 10 = .ok (.iconst 2, 1) := by decide +kernel
theorem dX11_passYear_11 : decode cX11_passYear 11 = .ok (.if_icmp .ge 19, 3) := by decide +kernel
theorem dX11_passYear_14 : decode cX11_passYear 14 = .ok (.aload_n 0, 1) := by decide +kernel
theorem dX11_passYear_15 : decode cX11_passYear 15 = .ok (.getfield 30, 3) := by decide +kernel
theorem dX11_passYear_18 : decode cX11_passYear 18 = .ok (.iconst 1, 1) := by decide +kernel
theorem dX11_passYear_19 : decode cX11_passYear 19 = .ok (.aload_n 0, 1) := by decide +kernel
theorem dX11_passYear_20 : decode cX11_passYear 20 = .ok (.getfield 89, 3) := by decide +kernel
theorem dX11_passYear_23 : decode cX11_passYear 23 = .ok (.invokevirtual 210, 3) := by decide +kernel
theorem dX11_passYear_26 : decode cX11_passYear 26 = .ok (.pop, 1) := by decide +kernel
theorem dX11_passYear_27 : decode cX11_passYear 27 = .ok (.goto 74, 3) := by decide +kernel
theorem dX11_passYear_30 : decode cX11_passYear 30 = .ok (.aload_n 0, 1) := by decide +kernel
theorem dX11_passYear_31 : decode cX11_passYear 31 = .ok (.getfield 30, 3) := by decide +kernel
theorem dX11_passYear_34 : decode cX11_passYear 34 = .ok (.getfield 122, 3) := by decide +kernel
theorem dX11_passYear_37 : decode cX11_passYear 37 = .ok (.ifCond .le 64, 3) := by decide +kernel
theorem dX11_passYear_40 : decode cX11_passYear 40 = .ok (.aload_n 0, 1) := by decide +kernel
theorem dX11_passYear_41 : decode cX11_passYear 41 = .ok (.getfield 82, 3) := by decide +kernel
theorem dX11_passYear_44 : decode cX11_passYear 44 = .ok (.aload_n 0, 1) := by decide +kernel
theorem dX11_passYear_45 : decode cX11_passYear 45 = .ok (.getfield 30, 3) := by decide +kernel
theorem dX11_passYear_48 : decode cX11_passYear 48 = .ok (.getfield 122, 3) := by decide +kernel
theorem dX11_passYear_51 : decode cX11_passYear 51 = .ok (.invokevirtual 408, 3) := by decide +kernel
theorem dX11_passYear_54 : decode cX11_passYear 54 = .ok (.istore_n 2, 1) := by decide +kernel
theorem dX11_passYear_55 : decode cX11_passYear 55 = .ok (.iload_n 1, 1) := by decide +kernel
theorem dX11_passYear_56 : decode cX11_passYear 56 = .ok (.iconst 2, 1) := by decide +kernel
theorem dX11_passYear_57 : decode cX11_passYear 57 = .ok (.if_icmp .ne 21, 3) := by decide +kernel
theorem dX11_passYear_60 : decode cX11_passYear 60 = .ok (.aload_n 0, 1) := by decide +kernel
theorem dX11_passYear_61 : decode cX11_passYear 61 = .ok (.getfield 30, 3) := by decide +kernel
theorem dX11_passYear_64 : decode cX11_passYear 64 = .ok (.dup, 1) := by decide +kernel
theorem dX11_passYear_65 : decode cX11_passYear 65 = .ok (.getfield 278, 3) := by decide +kernel
theorem dX11_passYear_68 : decode cX11_passYear 68 = .ok (.iconst 1, 1) := by decide +kernel
theorem dX11_passYear_69 : decode cX11_passYear 69 = .ok (.iload_n 2, 1) := by decide +kernel
theorem dX11_passYear_70 : decode cX11_passYear 70 = .ok (.ishl, 1) := by decide +kernel
theorem dX11_passYear_71 : decode cX11_passYear 71 = .ok (.ior, 1) := by decide +kernel
theorem dX11_passYear_72 : decode cX11_passYear 72 = .ok (.putfield 278, 3) := by decide +kernel
theorem dX11_passYear_75 : decode cX11_passYear 75 = .ok (.goto 26, 3) := by decide +kernel
theorem dX11_passYear_78 : decode cX11_passYear 78 = .ok (.aload_n 0, 1) := by decide +kernel
theorem dX11_passYear_79 : decode cX11_passYear 79 = .ok (.getfield 30, 3) := by decide +kernel
theorem dX11_passYear_82 : decode cX11_passYear 82 = .ok (.iload_n 2, 1) := by decide +kernel
theorem dX11_passYear_83 : decode cX11_passYear 83 = .ok (.aload_n 0, 1) := by decide +kernel
theorem dX11_passYear_84 : decode cX11_passYear 84 = .ok (.getfield 82, 3) := by decide +kernel
theorem dX11_passYear_87 : decode cX11_passYear 87 = .ok (.aload_n 0, 1) := by decide +kernel
theorem dX11_passYear_88 : decode cX11_passYear 88 = .ok (.getfield 30, 3) := by decide +kernel
theorem dX11_passYear_91 : decode cX11_passYear 91 = .ok (.getfield 122, 3) := by decide +kernel
theorem dX11_passYear_94 : decode cX11_passYear 94 = .ok (.invokevirtual 408, 3) := by decide +kernel
theorem dX11_passYear_97 : decode cX11_passYear 97 = .ok (.invokevirtual 233, 3) := by decide +kernel
theorem dX11_passYear_100 : decode cX11_passYear 100 = .ok (.pop, 1) := by decide +kernel
theorem dX11_passYear_101 : decode cX11_passYear 101 = .ok (.return_, 1) := by decide +kernel
def f_X11_passYear (N : Nat) (σ : uS) : Option uS := (f_X1_draw N σ 4).bind fun v1 =>
  if 2 ≤ v1.1 then (if (v1.2.1 38 8) ≤ 0 then (some v1.2) else ((f_X1_draw N v1.2 (v1.2.1 38 8)).bind fun v2 =>
  if v1.1 = 2 then (u_jn (u_pI v2.2 38 9 ((v2.2.1 38 9) ||| (1 <<< (v2.1 &&& 31)))) fun s5 =>
  some s5) else ((f_X1_draw N v2.2 (v2.2.1 38 8)).bind fun v3 =>
  (f_X7_turnEyes N v3.2 38 v2.1 v3.1).bind fun v4 =>
  some v4.2))) else ((v1.2.2.2 0 13).bind fun v6 =>
  u_ck (isR v6) <|
  (f_X7_cross N v1.2 38 1 v6).bind fun v7 =>
  some v7.2)
set_option maxRecDepth 100000 in
set_option maxHeartbeats 4000000 in
theorem c_X11_passYear (l : Launch) (G : uG) (N : Nat) (σ : uS) (z : uS) (hz : f_X11_passYear N σ = some z) : u_Mv l ZC G yX11_passYear cX11_passYear 3 5 [.ref (G.2.2 0)] σ z := by
  refine u_Mv_of RX11 (by decide) rfl (Nat.le_of_ble_eq_true rfl) ?_
  intro p e s m args below meth c ls cx hw hl
  have hx := cx.1
  have hb := cx.2.1
  have hl : lv_has ls 3 [(0, .ref (G.2.2 0))] := hl
  unfold f_X11_passYear at hz
  refine lv_aload_n hx hb dX11_passYear_0 rfl (lv_at hl 0 rfl) ?_
  refine u_getp cx hw F_X11_82 o_X11 rfl dX11_passYear_1 ?_
  refine lv_iconst (v := 4) hx hb dX11_passYear_4 (by decide) ?_
  obtain ⟨v1, hv1, hz⟩ := u_bind hz
  refine u_callVi (As := [.int 4]) (rest := []) cx hw LV_X11_408 (c_X1_draw l G N σ 4 v1 hv1) o_X1 rfl (by decide) hl.1 rfl (Nat.le_of_ble_eq_true rfl) dX11_passYear_5 rfl (fun H locs hw => ?_)
  refine lv_istore_n (lv' := [(1, .int v1.1), (0, .ref (G.2.2 0))]) hx hb dX11_passYear_8 rfl hl (by decide) rfl (fun ls hl => ?_)
  refine lv_iload_n hx hb dX11_passYear_9 rfl (lv_at hl 0 rfl) ?_
  refine lv_iconst (v := 2) hx hb dX11_passYear_10 (by decide) ?_
  refine lv_icmp_ge (tgt := 30) hx hb dX11_passYear_11 (by decide) (fun hc => ?_) (fun hc => ?_)
  · replace hz := u_ift hz hc
    refine lv_aload_n hx hb dX11_passYear_30 rfl (lv_at hl 1 rfl) ?_
    refine u_getp cx hw F_X11_30 o_X11 rfl dX11_passYear_31 ?_
    refine u_geti cx hw F_X11_122 oS_38 rfl dX11_passYear_34 ?_
    refine lv_if_le (tgt := 101) hx hb dX11_passYear_37 (by decide) (fun hc => ?_) (fun hc => ?_)
    · replace hz := u_ift hz hc
      exact u_vret cx hw (Option.some.inj hz) dX11_passYear_101
    · replace hz := u_iff hz hc
      refine lv_aload_n hx hb dX11_passYear_40 rfl (lv_at hl 1 rfl) ?_
      refine u_getp cx hw F_X11_82 o_X11 rfl dX11_passYear_41 ?_
      refine lv_aload_n hx hb dX11_passYear_44 rfl (lv_at hl 1 rfl) ?_
      refine u_getp cx hw F_X11_30 o_X11 rfl dX11_passYear_45 ?_
      refine u_geti cx hw F_X11_122 oS_38 rfl dX11_passYear_48 ?_
      obtain ⟨v2, hv2, hz⟩ := u_bind hz
      refine u_callVi (As := [.int (v1.2.1 38 8)]) (rest := []) cx hw LV_X11_408 (c_X1_draw l G N v1.2 (v1.2.1 38 8) v2 hv2) o_X1 rfl (by decide) hl.1 rfl (Nat.le_of_ble_eq_true rfl) dX11_passYear_51 rfl (fun H locs hw => ?_)
      refine lv_istore_n (lv' := [(2, .int v2.1), (1, .int v1.1), (0, .ref (G.2.2 0))]) hx hb dX11_passYear_54 rfl hl (by decide) rfl (fun ls hl => ?_)
      refine lv_iload_n hx hb dX11_passYear_55 rfl (lv_at hl 1 rfl) ?_
      refine lv_iconst (v := 2) hx hb dX11_passYear_56 (by decide) ?_
      refine lv_icmp_ne (tgt := 78) hx hb dX11_passYear_57 (by decide) (fun hc => ?_) (fun hc => ?_)
      · replace hz := u_iff hz hc
        refine lv_aload_n hx hb dX11_passYear_78 rfl (lv_at hl 2 rfl) ?_
        refine u_getp cx hw F_X11_30 o_X11 rfl dX11_passYear_79 ?_
        refine lv_iload_n hx hb dX11_passYear_82 rfl (lv_at hl 0 rfl) ?_
        refine lv_aload_n hx hb dX11_passYear_83 rfl (lv_at hl 2 rfl) ?_
        refine u_getp cx hw F_X11_82 o_X11 rfl dX11_passYear_84 ?_
        refine lv_aload_n hx hb dX11_passYear_87 rfl (lv_at hl 2 rfl) ?_
        refine u_getp cx hw F_X11_30 o_X11 rfl dX11_passYear_88 ?_
        refine u_geti cx hw F_X11_122 oS_38 rfl dX11_passYear_91 ?_
        obtain ⟨v3, hv3, hz⟩ := u_bind hz
        refine u_callVi (As := [.int (v2.2.1 38 8)]) (rest := [.int v2.1, .ref (G.2.2 38)]) cx hw LV_X11_408 (c_X1_draw l G N v2.2 (v2.2.1 38 8) v3 hv3) o_X1 rfl (by decide) hl.1 rfl (Nat.le_of_ble_eq_true rfl) dX11_passYear_94 rfl (fun H locs hw => ?_)
        obtain ⟨v4, hv4, hz⟩ := u_bind hz
        refine u_callVi (As := [.int v2.1, .int v3.1]) (rest := []) cx hw LV_X11_233 (c_X7_turnEyes l G N v3.2 38 oS_38 v2.1 v3.1 v4 hv4) oS_38 rfl (by decide) hl.1 rfl (Nat.le_of_ble_eq_true rfl) dX11_passYear_97 rfl (fun H locs hw => ?_)
        refine lv_pop hx hb dX11_passYear_100 rfl ?_
        exact u_vret cx hw (Option.some.inj hz) dX11_passYear_101
      · replace hz := u_ift hz hc
        refine lv_aload_n hx hb dX11_passYear_60 rfl (lv_at hl 2 rfl) ?_
        refine u_getp cx hw F_X11_30 o_X11 rfl dX11_passYear_61 ?_
        refine lv_dup hx hb dX11_passYear_64 rfl ?_
        refine u_geti cx hw F_X11_278 oS_38 rfl dX11_passYear_65 ?_
        refine lv_iconst (v := 1) hx hb dX11_passYear_68 (by decide) ?_
        refine lv_iload_n hx hb dX11_passYear_69 rfl (lv_at hl 0 rfl) ?_
        refine lv_ishl hx hb dX11_passYear_70 ?_
        refine lv_ior hx hb dX11_passYear_71 ?_
        obtain ⟨s5, es5, hz⟩ := u_let hz
        refine u_puti2 cx hw P_X11_278 oS_38 rfl es5 dX11_passYear_72 (fun H locs hw => ?_)
        refine lv_goto (tgt := 101) hx hb dX11_passYear_75 (by decide) ?_
        exact u_vret cx hw (Option.some.inj hz) dX11_passYear_101
  · replace hz := u_iff hz hc
    refine lv_aload_n hx hb dX11_passYear_14 rfl (lv_at hl 1 rfl) ?_
    refine u_getp cx hw F_X11_30 o_X11 rfl dX11_passYear_15 ?_
    refine lv_iconst (v := 1) hx hb dX11_passYear_18 (by decide) ?_
    refine lv_aload_n hx hb dX11_passYear_19 rfl (lv_at hl 1 rfl) ?_
    obtain ⟨v6, hv6, hz⟩ := u_bind hz
    obtain ⟨qv6, hz⟩ := u_ck_some hz
    refine u_getr cx hw F_X11_89 o_X11 rfl hv6 dX11_passYear_20 ?_
    obtain ⟨v7, hv7, hz⟩ := u_bind hz
    refine u_callVi (As := [.int 1, .ref (G.2.2 v6)]) (rest := []) cx hw LV_X11_210 (c_X7_cross l G N v1.2 38 oS_38 1 v6 (o_R qv6) v7 hv7) oS_38 rfl (by decide) hl.1 rfl (Nat.le_of_ble_eq_true rfl) dX11_passYear_23 rfl (fun H locs hw => ?_)
    refine lv_pop hx hb dX11_passYear_26 rfl ?_
    refine lv_goto (tgt := 101) hx hb dX11_passYear_27 (by decide) ?_
    exact u_vret cx hw (Option.some.inj hz) dX11_passYear_101
theorem dX6_takes_0 : decode cX6_takes 0 = .ok (.aload_n 0, 1) := by decide +kernel
theorem dX6_takes_1 : decode cX6_takes 1 = .ok (.getfield 40, 3) := by decide +kernel
theorem dX6_takes_4 : decode cX6_takes 4 = .ok (.ifCond .eq 11, 3) := by decide +kernel
theorem dX6_takes_7 : decode cX6_takes 7 = .ok (.aload_n 0, 1) := by decide +kernel
theorem dX6_takes_8 : decode cX6_takes 8 = .ok (.iload_n 1, 1) := by decide +kernel
theorem dX6_takes_9 : decode cX6_takes 9 = .ok (.invokevirtual 47, 3) := by decide +kernel
theorem dX6_takes_12 : decode cX6_takes 12 = .ok (.goto 8, 3) := by decide +kernel
theorem dX6_takes_15 : decode cX6_takes 15 = .ok (.aload_n 0, 1) := by decide +kernel
theorem dX6_takes_16 : decode cX6_takes 16 = .ok (.iload_n 1, 1) := by decide +kernel
theorem dX6_takes_17 : decode cX6_takes 17 = .ok (.invokevirtual 51, 3) := by decide +kernel
theorem dX6_takes_20 : decode cX6_takes 20 = .ok (.ireturn, 1) := by decide +kernel
def f_X6_takes (N : Nat) (σ : uS) (i0 : Nat) (p1 : Int32) : Option (Int32 × uS) := if (σ.1 i0 9) = 0 then ((f_X6_takesThing N σ i0 p1).bind fun v1 =>
  u_ck (v1.1 = 0 ∨ v1.1 = 1) (some (v1.1, v1.2))) else ((f_X6_takesBehindThing N σ i0 p1).bind fun v2 =>
  u_ck (v2.1 = 0 ∨ v2.1 = 1) (some (v2.1, v2.2)))
set_option maxRecDepth 100000 in
set_option maxHeartbeats 4000000 in
theorem c_X6_takes (l : Launch) (G : uG) (N : Nat) (σ : uS) (i0 : Nat) (oi0 : u_o ZC i0 5 11 (k_R i0)) (p1 : Int32) (z : (Int32 × uS)) (hz : f_X6_takes N σ i0 p1 = some z) : u_Mi l ZC G yX6_takes cX6_takes 2 .boolean 4 [.ref (G.2.2 i0), .int p1] σ z.1 z.2 := by
  refine u_Mi_of RX6 (by decide) rfl (Nat.le_of_ble_eq_true rfl) ?_
  intro p e s m args below meth c ls cx hw hl
  have hx := cx.1
  have hb := cx.2.1
  have hl : lv_has ls 2 [(0, .ref (G.2.2 i0)), (1, .int p1)] := hl
  unfold f_X6_takes at hz
  refine lv_aload_n hx hb dX6_takes_0 rfl (lv_at hl 0 rfl) ?_
  refine u_geti cx hw F_X6_40 oi0 rfl dX6_takes_1 ?_
  refine lv_if_eq (tgt := 15) hx hb dX6_takes_4 (by decide) (fun hc => ?_) (fun hc => ?_)
  · replace hz := u_ift hz hc
    refine lv_aload_n hx hb dX6_takes_15 rfl (lv_at hl 0 rfl) ?_
    refine lv_iload_n hx hb dX6_takes_16 rfl (lv_at hl 1 rfl) ?_
    obtain ⟨v1, hv1, hz⟩ := u_bind hz
    refine u_callVi (As := [.int p1]) (rest := []) cx hw LV_X6_51 (c_X6_takesThing l G N σ i0 oi0 p1 v1 hv1) oi0 rfl (by decide) hl.1 rfl (Nat.le_of_ble_eq_true rfl) dX6_takes_17 rfl (fun H locs hw => ?_)
    obtain ⟨h01, hz⟩ := u_ck_some hz
    exact u_zret cx hw h01 (u_pair hz) dX6_takes_20
  · replace hz := u_iff hz hc
    refine lv_aload_n hx hb dX6_takes_7 rfl (lv_at hl 0 rfl) ?_
    refine lv_iload_n hx hb dX6_takes_8 rfl (lv_at hl 1 rfl) ?_
    obtain ⟨v2, hv2, hz⟩ := u_bind hz
    refine u_callVi (As := [.int p1]) (rest := []) cx hw LV_X6_47 (c_X6_takesBehindThing l G N σ i0 oi0 p1 v2 hv2) oi0 rfl (by decide) hl.1 rfl (Nat.le_of_ble_eq_true rfl) dX6_takes_9 rfl (fun H locs hw => ?_)
    refine lv_goto (tgt := 20) hx hb dX6_takes_12 (by decide) ?_
    obtain ⟨h01, hz⟩ := u_ck_some hz
    exact u_zret cx hw h01 (u_pair hz) dX6_takes_20
theorem dX11_later_0 : decode cX11_later 0 = .ok (.iload_n 1, 1) := by decide +kernel
theorem dX11_later_1 : decode cX11_later 1 = .ok (.ifCond .lt 9, 3) := by decide +kernel
theorem dX11_later_4 : decode cX11_later 4 = .ok (.iload_n 1, 1) := by decide +kernel
theorem dX11_later_5 : decode cX11_later 5 = .ok (.bipush 99, 2) := by decide +kernel
theorem dX11_later_7 : decode cX11_later 7 = .ok (.if_icmp .le 5, 3) := by decide +kernel
theorem dX11_later_10 : decode cX11_later 10 = .ok (.iconst (-1), 1) := by decide +kernel
theorem dX11_later_11 : decode cX11_later 11 = .ok (.ireturn, 1) := by decide +kernel
theorem dX11_later_12 : decode cX11_later 12 = .ok (.aload_n 0, 1) := by decide +kernel
theorem dX11_later_13 : decode cX11_later 13 = .ok (.iload_n 1, 1) := by decide +kernel
theorem dX11_later_14 : decode cX11_later 14 = .ok (.aload_n 0, 1) := by decide +kernel
theorem dX11_later_15 : decode cX11_later 15 = .ok (.getfield 26, 3) := by decide +kernel
theorem dX11_later_18 : decode cX11_later 18 = .ok (.getfield 269, 3) := by decide +kernel
theorem dX11_later_21 : decode cX11_later 21 = .ok (.invokevirtual 272, 3) := by decide +kernel
theorem dX11_later_24 : decode cX11_later 24 = .ok (.istore_n 2, 1) := by decide +kernel
theorem dX11_later_25 : decode cX11_later 25 = .ok (.aload_n 0, 1) := by decide +kernel
theorem dX11_later_26 : decode cX11_later 26 = .ok (.getfield 19, 3) := by decide +kernel
theorem dX11_later_29 : decode cX11_later 29 = .ok (.aload_n 0, 1) := by decide +kernel
theorem dX11_later_30 : decode cX11_later 30 = .ok (.getfield 30, 3) := by decide +kernel
theorem dX11_later_33 : decode cX11_later 33 = .ok (.invokevirtual 193, 3) := by decide +kernel
theorem dX11_later_36 : decode cX11_later 36 = .ok (.i2l, 1) := by decide +kernel
theorem dX11_later_37 : decode cX11_later 37 = .ok (.iload_n 2, 1) := by decide +kernel
theorem dX11_later_38 : decode cX11_later 38 = .ok (.i2l, 1) := by decide +kernel
theorem dX11_later_39 : decode cX11_later 39 = .ok (.invokevirtual 220, 3) := by decide +kernel
theorem dX11_later_42 : decode cX11_later 42 = .ok (.aload_n 0, 1) := by decide +kernel
theorem dX11_later_43 : decode cX11_later 43 = .ok (.getfield 30, 3) := by decide +kernel
theorem dX11_later_46 : decode cX11_later 46 = .ok (.invokevirtual 275, 3) := by decide +kernel
theorem dX11_later_49 : decode cX11_later 49 = .ok (.ireturn, 1) := by decide +kernel
def f_X11_later (N : Nat) (σ : uS) (p1 : Int32) : Option (Int32 × uS) := if p1 < 0 then (some ((-1), σ)) else (if p1 ≤ 99 then ((f_X11_tryCrossings N σ p1 (σ.1 32 7)).bind fun v1 =>
  (f_X7_beliefOfAll N v1.2 38).bind fun v2 =>
  (f_X8_two N v1.2 (Int32.toInt64 v2) (Int32.toInt64 v1.1)).bind fun s3 =>
  (f_X7_inside N s3 38).bind fun v4 =>
  some (v4, s3)) else (some ((-1), σ)))
set_option maxRecDepth 100000 in
set_option maxHeartbeats 4000000 in
theorem c_X11_later (l : Launch) (G : uG) (N : Nat) (σ : uS) (p1 : Int32) (z : (Int32 × uS)) (hz : f_X11_later N σ p1 = some z) : u_Mi l ZC G yX11_later cX11_later 3 .int 6 [.ref (G.2.2 0), .int p1] σ z.1 z.2 := by
  refine u_Mi_of RX11 (by decide) rfl (Nat.le_of_ble_eq_true rfl) ?_
  intro p e s m args below meth c ls cx hw hl
  have hx := cx.1
  have hb := cx.2.1
  have hl : lv_has ls 3 [(0, .ref (G.2.2 0)), (1, .int p1)] := hl
  unfold f_X11_later at hz
  refine lv_iload_n hx hb dX11_later_0 rfl (lv_at hl 1 rfl) ?_
  refine lv_if_lt (tgt := 10) hx hb dX11_later_1 (by decide) (fun hc => ?_) (fun hc => ?_)
  · replace hz := u_ift hz hc
    refine lv_iconst (v := (-1)) hx hb dX11_later_10 (by decide) ?_
    exact u_iret cx hw (u_pair hz) dX11_later_11
  · replace hz := u_iff hz hc
    refine lv_iload_n hx hb dX11_later_4 rfl (lv_at hl 1 rfl) ?_
    refine lv_bipush (v := 99) hx hb dX11_later_5 (by decide) ?_
    refine lv_icmp_le (tgt := 12) hx hb dX11_later_7 (by decide) (fun hc => ?_) (fun hc => ?_)
    · replace hz := u_ift hz hc
      refine lv_aload_n hx hb dX11_later_12 rfl (lv_at hl 0 rfl) ?_
      refine lv_iload_n hx hb dX11_later_13 rfl (lv_at hl 1 rfl) ?_
      refine lv_aload_n hx hb dX11_later_14 rfl (lv_at hl 0 rfl) ?_
      refine u_getp cx hw F_X11_26 o_X11 rfl dX11_later_15 ?_
      refine u_geti cx hw F_X11_269 oS_32 rfl dX11_later_18 ?_
      obtain ⟨v1, hv1, hz⟩ := u_bind hz
      refine u_callVi (As := [.int p1, .int (σ.1 32 7)]) (rest := []) cx hw LV_X11_272 (c_X11_tryCrossings l G N σ p1 (σ.1 32 7) v1 hv1) o_X11 rfl (by decide) hl.1 rfl (Nat.le_of_ble_eq_true rfl) dX11_later_21 rfl (fun H locs hw => ?_)
      refine lv_istore_n (lv' := [(2, .int v1.1), (0, .ref (G.2.2 0)), (1, .int p1)]) hx hb dX11_later_24 rfl hl (by decide) rfl (fun ls hl => ?_)
      refine lv_aload_n hx hb dX11_later_25 rfl (lv_at hl 1 rfl) ?_
      refine u_getp cx hw F_X11_19 o_X11 rfl dX11_later_26 ?_
      refine lv_aload_n hx hb dX11_later_29 rfl (lv_at hl 1 rfl) ?_
      refine u_getp cx hw F_X11_30 o_X11 rfl dX11_later_30 ?_
      obtain ⟨v2, hv2, hz⟩ := u_bind hz
      refine u_callVi (As := []) (rest := [.ref (G.2.2 3)]) cx hw LV_X11_193 (c_X7_beliefOfAll l G N v1.2 38 oS_38 v2 hv2) oS_38 rfl (by decide) hl.1 rfl (Nat.le_of_ble_eq_true rfl) dX11_later_33 rfl (fun H locs hw => ?_)
      refine lv_i2l (v := (Int32.toInt64 v2)) hx hb dX11_later_36 rfl ?_
      refine lv_iload_n hx hb dX11_later_37 rfl (lv_at hl 0 rfl) ?_
      refine lv_i2l (v := (Int32.toInt64 v1.1)) hx hb dX11_later_38 rfl ?_
      obtain ⟨s3, hs3, hz⟩ := u_bind hz
      refine u_callVv (As := [.long (Int32.toInt64 v2), .long (Int32.toInt64 v1.1)]) (rest := []) cx hw LV_X11_220 (c_X8_two l G N v1.2 (Int32.toInt64 v2) (Int32.toInt64 v1.1) s3 hs3) o_X8 rfl (by decide) hl.1 rfl (Nat.le_of_ble_eq_true rfl) dX11_later_39 rfl (fun H locs hw => ?_)
      refine lv_aload_n hx hb dX11_later_42 rfl (lv_at hl 1 rfl) ?_
      refine u_getp cx hw F_X11_30 o_X11 rfl dX11_later_43 ?_
      obtain ⟨v4, hv4, hz⟩ := u_bind hz
      refine u_callVi (As := []) (rest := []) cx hw LV_X11_275 (c_X7_inside l G N s3 38 oS_38 v4 hv4) oS_38 rfl (by decide) hl.1 rfl (Nat.le_of_ble_eq_true rfl) dX11_later_46 rfl (fun H locs hw => ?_)
      exact u_iret cx hw (u_pair hz) dX11_later_49
    · replace hz := u_iff hz hc
      refine lv_iconst (v := (-1)) hx hb dX11_later_10 (by decide) ?_
      exact u_iret cx hw (u_pair hz) dX11_later_11
