theorem dX7_turn_0 : decode cX7_turn 0 = .ok (.iconst 0, 1) := by decide +kernel
theorem dX7_turn_1 : decode cX7_turn 1 = .ok (.istore_n 2, 1) := by decide +kernel
theorem dX7_turn_2 : decode cX7_turn 2 = .ok (.iconst 0, 1) := by decide +kernel
theorem dX7_turn_3 : decode cX7_turn 3 = .ok (.istore_n 3, 1) := by decide +kernel
theorem dX7_turn_4 : decode cX7_turn 4 = .ok (.iload_n 3, 1) := by decide +kernel
theorem dX7_turn_5 : decode cX7_turn 5 = .ok (.aload_n 0, 1) := by decide +kernel
theorem dX7_turn_6 : decode cX7_turn 6 = .ok (.getfield 43, 3) := by decide +kernel
theorem dX7_turn_9 : decode cX7_turn 9 = .ok (.if_icmp .ge 44, 3) := by decide +kernel
theorem dX7_turn_12 : decode cX7_turn 12 = .ok (.aload_n 0, 1) := by decide +kernel
theorem dX7_turn_13 : decode cX7_turn 13 = .ok (.getfield 18, 3) := by decide +kernel
theorem dX7_turn_16 : decode cX7_turn 16 = .ok (.iload_n 3, 1) := by decide +kernel
theorem dX7_turn_17 : decode cX7_turn 17 = .ok (.aload_n 1, 1) := by decide +kernel
theorem dX7_turn_18 : decode cX7_turn 18 = .ok (.aload_n 0, 1) := by decide +kernel
theorem dX7_turn_19 : decode cX7_turn 19 = .ok (.iload_n 3, 1) := by decide +kernel
theorem dX7_turn_20 : decode cX7_turn 20 = .ok (.invokevirtual 122, 3) := by decide +kernel
theorem dX7_turn_23 : decode cX7_turn 23 = .ok (.iastore, 1) := by decide +kernel
theorem dX7_turn_24 : decode cX7_turn 24 = .ok (.iload_n 2, 1) := by decide +kernel
theorem dX7_turn_25 : decode cX7_turn 25 = .ok (.aload_n 0, 1) := by decide +kernel
theorem dX7_turn_26 : decode cX7_turn 26 = .ok (.getfield 18, 3) := by decide +kernel
theorem dX7_turn_29 : decode cX7_turn 29 = .ok (.iload_n 3, 1) := by decide +kernel
theorem dX7_turn_30 : decode cX7_turn 30 = .ok (.iaload, 1) := by decide +kernel
theorem dX7_turn_31 : decode cX7_turn 31 = .ok (.aload_n 0, 1) := by decide +kernel
theorem dX7_turn_32 : decode cX7_turn 32 = .ok (.getfield 15, 3) := by decide +kernel
theorem dX7_turn_35 : decode cX7_turn 35 = .ok (.iload_n 3, 1) := by decide +kernel
theorem dX7_turn_36 : decode cX7_turn 36 = .ok (.iaload, 1) := by decide +kernel
theorem dX7_turn_37 : decode cX7_turn 37 = .ok (.if_icmp .eq 7, 3) := by decide +kernel
theorem dX7_turn_40 : decode cX7_turn 40 = .ok (.iconst 1, 1) := by decide +kernel
theorem dX7_turn_41 : decode cX7_turn 41 = .ok (.goto 4, 3) := by decide +kernel
theorem dX7_turn_44 : decode cX7_turn 44 = .ok (.iconst 0, 1) := by decide +kernel
theorem dX7_turn_45 : decode cX7_turn 45 = .ok (.ior, 1) := by decide +kernel
theorem dX7_turn_46 : decode cX7_turn 46 = .ok (.istore_n 2, 1) := by decide +kernel
theorem dX7_turn_47 : decode cX7_turn 47 = .ok (.iinc 3 1, 3) := by decide +kernel
theorem dX7_turn_50 : decode cX7_turn 50 = .ok (.goto (-46), 3) := by decide +kernel
theorem dX7_turn_53 : decode cX7_turn 53 = .ok (.aload_n 0, 1) := by decide +kernel
theorem dX7_turn_54 : decode cX7_turn 54 = .ok (.getfield 18, 3) := by decide +kernel
theorem dX7_turn_57 : decode cX7_turn 57 = .ok (.iconst 0, 1) := by decide +kernel
theorem dX7_turn_58 : decode cX7_turn 58 = .ok (.aload_n 0, 1) := by decide +kernel
theorem dX7_turn_59 : decode cX7_turn 59 = .ok (.getfield 15, 3) := by decide +kernel
theorem dX7_turn_62 : decode cX7_turn 62 = .ok (.iconst 0, 1) := by decide +kernel
theorem dX7_turn_63 : decode cX7_turn 63 = .ok (.aload_n 0, 1) := by decide +kernel
theorem dX7_turn_64 : decode cX7_turn 64 = .ok (.getfield 43, 3) := by decide +kernel
theorem dX7_turn_67 : decode cX7_turn 67 = .ok (.invokestatic 31, 3) := by decide +kernel
theorem dX7_turn_70 : decode cX7_turn 70 = .ok (.aload_n 0, 1) := by decide +kernel
theorem dX7_turn_71 : decode cX7_turn 71 = .ok (.iconst 0, 1) := by decide +kernel
theorem dX7_turn_72 : decode cX7_turn 72 = .ok (.putfield 46, 3) := by decide +kernel
theorem dX7_turn_75 : decode cX7_turn 75 = .ok (.aload_n 0, 1) := by decide +kernel
theorem dX7_turn_76 : decode cX7_turn 76 = .ok (.dup, 1) := by decide +kernel
theorem dX7_turn_77 : decode cX7_turn 77 = .ok (.getfield 49, 3) := by decide +kernel
theorem dX7_turn_80 : decode cX7_turn 80 = .ok (.iconst 1, 1) := by decide +kernel
theorem dX7_turn_81 : decode cX7_turn 81 = .ok (.iadd, 1) := by decide +kernel
theorem dX7_turn_82 : decode cX7_turn 82 = .ok (.putfield 49, 3) := by decide +kernel
theorem dX7_turn_85 : decode cX7_turn 85 = .ok (.iload_n 2, 1) := by decide +kernel
theorem dX7_turn_86 : decode cX7_turn 86 = .ok (.ireturn, 1) := by decide +kernel
def b_X7_turn_4 (N : Nat) (i0 : Nat) (i1 : Nat) (J53_3 : uS → Int32 → Option (Int32 × uS)) (rec4_10 : uS → Int32 → Int32 → Option (Int32 × uS)) (s7 : uS) (x8 : Int32) (x9 : Int32) : Option (Int32 × uS) :=
  if (s7.1 i0 8) ≤ x9 then (J53_3 s7 x8) else ((f_X6_behind N s7 i1 i0 x9).bind fun v11 =>
  (u_wI ZC v11.2 0 (i0 + 3) x9 v11.1).bind fun s12 =>
  (u_rI ZC s12 0 (i0 + 3) x9).bind fun v13 =>
  (u_rI ZC s12 0 (i0 + 2) x9).bind fun v14 =>
  u_jn (fun (t15 : Int32) => (u_jn ((x8 ||| t15) : Int32) fun x17 =>
  u_jn (x9 + 1 : Int32) fun x18 =>
  rec4_10 s12 x17 x18 : Option (Int32 × uS))) fun J45_16 =>
  if v13 = v14 then (J45_16 0) else (J45_16 1))
def f_X7_turn (N : Nat) (σ : uS) (i0 : Nat) (i1 : Nat) : Option (Int32 × uS) := u_jn (fun (s1 : uS) (x2 : Int32) => ((u_cpy ZC s1 (i0 + 3) 0 (i0 + 2) 0 (s1.1 i0 8)).bind fun s4 =>
  u_jn (u_pI s4 i0 9 0) fun s5 =>
  u_jn (u_pI s5 i0 10 ((s5.1 i0 10) + 1)) fun s6 =>
  u_ck (x2 = 0 ∨ x2 = 1) (some (x2, s6)) : Option (Int32 × uS))) fun J53_3 =>
  u_lp3 (b_X7_turn_4 N i0 i1 J53_3) N σ 0 0
set_option maxRecDepth 100000 in
set_option maxHeartbeats 4000000 in
theorem c_X7_turn (l : Launch) (G : uG) (N : Nat) (σ : uS) (i0 : Nat) (oi0 : u_o ZC i0 6 12 (k_S i0)) (i1 : Nat) (oi1 : u_o ZC i1 5 11 (k_R i1)) (z : (Int32 × uS)) (hz : f_X7_turn N σ i0 i1 = some z) : u_Mi l ZC G yX7_turn cX7_turn 4 .boolean 3 [.ref (G.2.2 i0), .ref (G.2.2 i1)] σ z.1 z.2 := by
  refine u_Mi_of RX7 (by decide) rfl (Nat.le_of_ble_eq_true rfl) ?_
  intro p e s m args below meth c ls cx hw hl
  have hx := cx.1
  have hb := cx.2.1
  have hl : lv_has ls 4 [(0, .ref (G.2.2 i0)), (1, .ref (G.2.2 i1))] := hl
  unfold f_X7_turn at hz
  refine lv_iconst (v := 0) hx hb dX7_turn_0 (by decide) ?_
  refine lv_istore_n (lv' := [(2, .int 0), (0, .ref (G.2.2 i0)), (1, .ref (G.2.2 i1))]) hx hb dX7_turn_1 rfl hl (by decide) rfl (fun ls hl => ?_)
  refine lv_iconst (v := 0) hx hb dX7_turn_2 (by decide) ?_
  refine lv_istore_n (lv' := [(3, .int 0), (2, .int 0), (0, .ref (G.2.2 i0)), (1, .ref (G.2.2 i1))]) hx hb dX7_turn_3 rfl hl (by decide) rfl (fun ls hl => ?_)
  obtain ⟨J53_3, eJ53_3, hz⟩ := u_let hz
  have WJ53_3 : ∀ (s1 : uS) (x2 : Int32) (H : Heap) (locs : List Loc) (ls : Array Slot), J53_3 s1 x2 = some z → u_W ZC G s1 s H locs → lv_has ls 4 [(0, .ref (G.2.2 i0)), (2, .int x2)] → W p l e (u_rm 3) s m args below meth c H locs 0 0 (u_Qi below ZC G s args z.1 z.2) (F0 m 53 ls []) := by
    intro s1 x2 H locs ls hz hw hl
    rw [eJ53_3] at hz
    refine lv_aload_n hx hb dX7_turn_53 rfl (lv_at hl 0 rfl) ?_
    refine u_getp cx hw F_X7_18 oi0 rfl dX7_turn_54 ?_
    refine lv_iconst (v := 0) hx hb dX7_turn_57 (by decide) ?_
    refine lv_aload_n hx hb dX7_turn_58 rfl (lv_at hl 0 rfl) ?_
    refine u_getp cx hw F_X7_15 oi0 rfl dX7_turn_59 ?_
    refine lv_iconst (v := 0) hx hb dX7_turn_62 (by decide) ?_
    refine lv_aload_n hx hb dX7_turn_63 rfl (lv_at hl 0 rfl) ?_
    refine u_geti cx hw F_X7_43 oi0 rfl dX7_turn_64 ?_
    obtain ⟨s4, hs4, hz⟩ := u_bind hz
    refine u_copy cx hw LC_X7_31 hs4 (by decide) hl.1 (Nat.le_of_ble_eq_true rfl) dX7_turn_67 (fun H locs hw => ?_)
    refine lv_aload_n hx hb dX7_turn_70 rfl (lv_at hl 0 rfl) ?_
    refine lv_iconst (v := 0) hx hb dX7_turn_71 (by decide) ?_
    obtain ⟨s5, es5, hz⟩ := u_let hz
    refine u_puti2 cx hw P_X7_46 oi0 rfl es5 dX7_turn_72 (fun H locs hw => ?_)
    refine lv_aload_n hx hb dX7_turn_75 rfl (lv_at hl 0 rfl) ?_
    refine lv_dup hx hb dX7_turn_76 rfl ?_
    refine u_geti cx hw F_X7_49 oi0 rfl dX7_turn_77 ?_
    refine lv_iconst (v := 1) hx hb dX7_turn_80 (by decide) ?_
    refine lv_iadd hx hb dX7_turn_81 ?_
    obtain ⟨s6, es6, hz⟩ := u_let hz
    refine u_puti2 cx hw P_X7_49 oi0 rfl es6 dX7_turn_82 (fun H locs hw => ?_)
    refine lv_iload_n hx hb dX7_turn_85 rfl (lv_at hl 1 rfl) ?_
    obtain ⟨h01, hz⟩ := u_ck_some hz
    exact u_zret cx hw h01 (u_pair hz) dX7_turn_86
  have WL4_18 : ∀ (k : Nat) (s7 : uS) (x8 : Int32) (x9 : Int32) (H : Heap) (locs : List Loc) (ls : Array Slot), u_lp3 (b_X7_turn_4 N i0 i1 J53_3) k s7 x8 x9 = some z → u_W ZC G s7 s H locs → lv_has ls 4 [(0, .ref (G.2.2 i0)), (1, .ref (G.2.2 i1)), (2, .int x8), (3, .int x9)] → W p l e (u_rm 3) s m args below meth c H locs 0 0 (u_Qi below ZC G s args z.1 z.2) (F0 m 4 ls []) := by
    intro k
    induction k with
    | zero =>
      intro s7 x8 x9 H locs ls hz
      exact absurd hz (by intro h9; cases h9)
    | succ k ih4_10 =>
      intro s7 x8 x9 H locs ls hz hw hl
      have hz : (b_X7_turn_4 N i0 i1 J53_3) (u_lp3 (b_X7_turn_4 N i0 i1 J53_3) k) s7 x8 x9 = some z := hz
      unfold b_X7_turn_4 at hz
      refine lv_iload_n hx hb dX7_turn_4 rfl (lv_at hl 3 rfl) ?_
      refine lv_aload_n hx hb dX7_turn_5 rfl (lv_at hl 0 rfl) ?_
      refine u_geti cx hw F_X7_43 oi0 rfl dX7_turn_6 ?_
      refine lv_icmp_ge (tgt := 53) hx hb dX7_turn_9 (by decide) (fun hc => ?_) (fun hc => ?_)
      · replace hz := u_ift hz hc
        exact WJ53_3 s7 x8 _ _ _ hz hw (lv_sub hl [0, 2] rfl)
      · replace hz := u_iff hz hc
        refine lv_aload_n hx hb dX7_turn_12 rfl (lv_at hl 0 rfl) ?_
        refine u_getp cx hw F_X7_18 oi0 rfl dX7_turn_13 ?_
        refine lv_iload_n hx hb dX7_turn_16 rfl (lv_at hl 3 rfl) ?_
        refine lv_aload_n hx hb dX7_turn_17 rfl (lv_at hl 1 rfl) ?_
        refine lv_aload_n hx hb dX7_turn_18 rfl (lv_at hl 0 rfl) ?_
        refine lv_iload_n hx hb dX7_turn_19 rfl (lv_at hl 3 rfl) ?_
        obtain ⟨v11, hv11, hz⟩ := u_bind hz
        refine u_callVi (As := [.ref (G.2.2 i0), .int x9]) (rest := [.int x9, .ref (G.2.2 (i0 + 3))]) cx hw LV_X7_122 (c_X6_behind l G N s7 i1 oi1 i0 oi0 x9 v11 hv11) oi1 rfl (by decide) hl.1 rfl (Nat.le_of_ble_eq_true rfl) dX7_turn_20 rfl (fun H locs hw => ?_)
        obtain ⟨s12, hs12, hz⟩ := u_bind hz
        refine u_iast cx hw hs12 dX7_turn_23 (fun H locs hw => ?_)
        refine lv_iload_n hx hb dX7_turn_24 rfl (lv_at hl 2 rfl) ?_
        refine lv_aload_n hx hb dX7_turn_25 rfl (lv_at hl 0 rfl) ?_
        refine u_getp cx hw F_X7_18 oi0 rfl dX7_turn_26 ?_
        refine lv_iload_n hx hb dX7_turn_29 rfl (lv_at hl 3 rfl) ?_
        obtain ⟨v13, hv13, hz⟩ := u_bind hz
        refine u_iald cx hw hv13 dX7_turn_30 ?_
        refine lv_aload_n hx hb dX7_turn_31 rfl (lv_at hl 0 rfl) ?_
        refine u_getp cx hw F_X7_15 oi0 rfl dX7_turn_32 ?_
        refine lv_iload_n hx hb dX7_turn_35 rfl (lv_at hl 3 rfl) ?_
        obtain ⟨v14, hv14, hz⟩ := u_bind hz
        refine u_iald cx hw hv14 dX7_turn_36 ?_
        obtain ⟨J45_16, eJ45_16, hz⟩ := u_let hz
        have WJ45_16 : ∀ (t15 : Int32) (H : Heap) (locs : List Loc) (ls : Array Slot), J45_16 t15 = some z → u_W ZC G s12 s H locs → lv_has ls 4 [(0, .ref (G.2.2 i0)), (1, .ref (G.2.2 i1)), (3, .int x9)] → W p l e (u_rm 3) s m args below meth c H locs 0 0 (u_Qi below ZC G s args z.1 z.2) (F0 m 45 ls [.int t15, .int x8]) := by
          intro t15 H locs ls hz hw hl
          rw [eJ45_16] at hz
          refine lv_ior hx hb dX7_turn_45 ?_
          obtain ⟨x17, ex17, hz⟩ := u_let hz
          refine u_topi ex17 ?_
          refine lv_istore_n (lv' := [(2, .int x17), (0, .ref (G.2.2 i0)), (1, .ref (G.2.2 i1)), (3, .int x9)]) hx hb dX7_turn_46 rfl hl (by decide) rfl (fun ls hl => ?_)
          obtain ⟨x18, ex18, hz⟩ := u_let hz
          refine lv_iinc (v := x18) (lv' := [(3, .int x18), (2, .int x17), (0, .ref (G.2.2 i0)), (1, .ref (G.2.2 i1))]) hx hb dX7_turn_47 hl (k := 3) rfl (by rw [ex18]; rfl) (by decide) rfl (fun ls hl => ?_)
          refine lv_goto (tgt := 4) hx hb dX7_turn_50 (by decide) ?_
          exact ih4_10 s12 x17 x18 _ _ _ hz hw (lv_sub hl [2, 3, 1, 0] rfl)
        refine lv_icmp_eq (tgt := 44) hx hb dX7_turn_37 (by decide) (fun hc => ?_) (fun hc => ?_)
        · replace hz := u_ift hz hc
          refine lv_iconst (v := 0) hx hb dX7_turn_44 (by decide) ?_
          exact WJ45_16 0 _ _ _ hz hw (lv_sub hl [0, 1, 3] rfl)
        · replace hz := u_iff hz hc
          refine lv_iconst (v := 1) hx hb dX7_turn_40 (by decide) ?_
          refine lv_goto (tgt := 45) hx hb dX7_turn_41 (by decide) ?_
          exact WJ45_16 1 _ _ _ hz hw (lv_sub hl [0, 1, 3] rfl)
  exact WL4_18 N σ 0 0 _ _ _ hz hw (lv_sub hl [2, 3, 1, 0] rfl)
theorem dX7_believeFrom_0 : decode cX7_believeFrom 0 = .ok (.aload_n 0, 1) := by decide +kernel
theorem dX7_believeFrom_1 : decode cX7_believeFrom 1 = .ok (.aload_n 1, 1) := by decide +kernel
theorem dX7_believeFrom_2 : decode cX7_believeFrom 2 = .ok (.invokevirtual 128, 3) := by decide +kernel
theorem dX7_believeFrom_5 : decode cX7_believeFrom 5 = .ok (.aload_n 0, 1) := by decide +kernel
theorem dX7_believeFrom_6 : decode cX7_believeFrom 6 = .ok (.dup, 1) := by decide +kernel
theorem dX7_believeFrom_7 : decode cX7_believeFrom 7 = .ok (.getfield 46, 3) := by decide +kernel
theorem dX7_believeFrom_10 : decode cX7_believeFrom 10 = .ok (.iload_n 2, 1) := by decide +kernel
theorem dX7_believeFrom_11 : decode cX7_believeFrom 11 = .ok (.ior, 1) := by decide +kernel
theorem dX7_believeFrom_12 : decode cX7_believeFrom 12 = .ok (.putfield 46, 3) := by decide +kernel
theorem dX7_believeFrom_15 : decode cX7_believeFrom 15 = .ok (.iconst 0, 1) := by decide +kernel
theorem dX7_believeFrom_16 : decode cX7_believeFrom 16 = .ok (.istore 6, 2) := by decide +kernel
theorem dX7_believeFrom_18 : decode cX7_believeFrom 18 = .ok (.iload 6, 2) := by decide +kernel
theorem dX7_believeFrom_20 : decode cX7_believeFrom 20 = .ok (.iload 4, 2) := by decide +kernel
theorem dX7_believeFrom_22 : decode cX7_believeFrom 22 = .ok (.if_icmp .ge 60, 3) := by decide +kernel
theorem dX7_believeFrom_25 : decode cX7_believeFrom 25 = .ok (.aload_n 0, 1) := by decide +kernel
theorem dX7_believeFrom_26 : decode cX7_believeFrom 26 = .ok (.getfield 46, 3) := by decide +kernel
theorem dX7_believeFrom_29 : decode cX7_believeFrom 29 = .ok (.ifCond .ne 14, 3) := by decide +kernel
theorem dX7_believeFrom_32 : decode cX7_believeFrom 32 = .ok (.aload_n 3, 1) := by decide +kernel
theorem dX7_believeFrom_33 : decode cX7_believeFrom 33 = .ok (.getfield 132, 3) := by decide +kernel
theorem dX7_believeFrom_36 : decode cX7_believeFrom 36 = .ok (.ifCond .ne 7, 3) := by decide +kernel
theorem dX7_believeFrom_39 : decode cX7_believeFrom 39 = .ok (.iconst 1, 1) := by decide +kernel
theorem dX7_believeFrom_40 : decode cX7_believeFrom 40 = .ok (.goto 4, 3) := by decide +kernel
theorem dX7_believeFrom_43 : decode cX7_believeFrom 43 = .ok (.iconst 0, 1) := by decide +kernel
theorem dX7_believeFrom_44 : decode cX7_believeFrom 44 = .ok (.istore 7, 2) := by decide +kernel
theorem dX7_believeFrom_46 : decode cX7_believeFrom 46 = .ok (.aload_n 0, 1) := by decide +kernel
theorem dX7_believeFrom_47 : decode cX7_believeFrom 47 = .ok (.aload_n 3, 1) := by decide +kernel
theorem dX7_believeFrom_48 : decode cX7_believeFrom 48 = .ok (.invokevirtual 115, 3) := by decide +kernel
theorem dX7_believeFrom_51 : decode cX7_believeFrom 51 = .ok (.istore 8, 2) := by decide +kernel
theorem dX7_believeFrom_53 : decode cX7_believeFrom 53 = .ok (.iload 7, 2) := by decide +kernel
theorem dX7_believeFrom_55 : decode cX7_believeFrom 55 = .ok (.ifCond .eq 8, 3) := by decide +kernel
theorem dX7_believeFrom_58 : decode cX7_believeFrom 58 = .ok (.iload 8, 2) := by decide +kernel
theorem dX7_believeFrom_60 : decode cX7_believeFrom 60 = .ok (.ifCond .eq 15, 3) := by decide +kernel
theorem dX7_believeFrom_63 : decode cX7_believeFrom 63 = .ok (.iload 5, 2) := by decide +kernel
theorem dX7_believeFrom_65 : decode cX7_believeFrom 65 = .ok (.ifCond .eq 11, 3) := by decide +kernel
theorem dX7_believeFrom_68 : decode cX7_believeFrom 68 = .ok (.aload_n 0, 1) := by decide +kernel
theorem dX7_believeFrom_69 : decode cX7_believeFrom 69 = .ok (.invokevirtual 86, 3) := by decide +kernel
theorem dX7_believeFrom_72 : decode cX7_believeFrom 72 = .ok (.ifCond .ne 4, 3) := by decide +kernel
theorem dX7_believeFrom_75 : decode cX7_believeFrom 75 = .ok (.return_, 1) := by decide +kernel
theorem dX7_believeFrom_76 : decode cX7_believeFrom 76 = .ok (.iinc 6 1, 3) := by decide +kernel
theorem dX7_believeFrom_79 : decode cX7_believeFrom 79 = .ok (.goto (-61), 3) := by decide +kernel
theorem dX7_believeFrom_82 : decode cX7_believeFrom 82 = .ok (.return_, 1) := by decide +kernel
def b_X7_believeFrom_18 (N : Nat) (i0 : Nat) (i3 : Nat) (p4 : Int32) (p5 : Int32) (J82_4 : uS → Option uS) (rec18_7 : uS → Int32 → Option uS) (s5 : uS) (x6 : Int32) : Option uS :=
  if p4 ≤ x6 then (J82_4 s5) else (u_jn (fun (t8 : Int32) => ((f_X7_turn N s5 i0 i3).bind fun v10 =>
  u_jn ((u_jn ((u_jn (x6 + 1 : Int32) fun x13 =>
  rec18_7 v10.2 x13 : Option uS)) fun J76_12 =>
  if p5 = 0 then (J76_12) else ((f_X7_inside N v10.2 i0).bind fun v14 =>
  if v14 = 0 then (some v10.2) else (J76_12)) : Option uS)) fun J63_11 =>
  if t8 = 0 then (J63_11) else (if v10.1 = 0 then (some v10.2) else (J63_11)) : Option uS)) fun J44_9 =>
  u_jn ((J44_9 0 : Option uS)) fun J43_15 =>
  if (s5.1 i0 9) = 0 then (if (s5.1 i3 10) = 0 then (J44_9 1) else (J43_15)) else (J43_15))
def f_X7_believeFrom (N : Nat) (σ : uS) (i0 : Nat) (i1 : Nat) (p2 : Int32) (i3 : Nat) (p4 : Int32) (p5 : Int32) : Option uS := (f_X7_copy N σ i0 i1).bind fun s1 =>
  u_jn (u_pI s1 i0 9 ((s1.1 i0 9) ||| p2)) fun s2 =>
  u_jn (fun (s3 : uS) => (some s3 : Option uS)) fun J82_4 =>
  u_lp2 (b_X7_believeFrom_18 N i0 i3 p4 p5 J82_4) N s2 0
set_option maxRecDepth 100000 in
set_option maxHeartbeats 4000000 in
theorem c_X7_believeFrom (l : Launch) (G : uG) (N : Nat) (σ : uS) (i0 : Nat) (oi0 : u_o ZC i0 6 12 (k_S i0)) (i1 : Nat) (oi1 : u_o ZC i1 6 12 (k_S i1)) (p2 : Int32) (i3 : Nat) (oi3 : u_o ZC i3 5 11 (k_R i3)) (p4 : Int32) (p5 : Int32) (z : uS) (hz : f_X7_believeFrom N σ i0 i1 p2 i3 p4 p5 = some z) : u_Mv l ZC G yX7_believeFrom cX7_believeFrom 9 4 [.ref (G.2.2 i0), .ref (G.2.2 i1), .int p2, .ref (G.2.2 i3), .int p4, .int p5] σ z := by
  refine u_Mv_of RX7 (by decide) rfl (Nat.le_of_ble_eq_true rfl) ?_
  intro p e s m args below meth c ls cx hw hl
  have hx := cx.1
  have hb := cx.2.1
  have hl : lv_has ls 9 [(0, .ref (G.2.2 i0)), (1, .ref (G.2.2 i1)), (2, .int p2), (3, .ref (G.2.2 i3)), (4, .int p4), (5, .int p5)] := hl
  unfold f_X7_believeFrom at hz
  refine lv_aload_n hx hb dX7_believeFrom_0 rfl (lv_at hl 0 rfl) ?_
  refine lv_aload_n hx hb dX7_believeFrom_1 rfl (lv_at hl 1 rfl) ?_
  obtain ⟨s1, hs1, hz⟩ := u_bind hz
  refine u_callVv (As := [.ref (G.2.2 i1)]) (rest := []) cx hw LV_X7_128 (c_X7_copy l G N σ i0 oi0 i1 oi1 s1 hs1) oi0 rfl (by decide) hl.1 rfl (Nat.le_of_ble_eq_true rfl) dX7_believeFrom_2 rfl (fun H locs hw => ?_)
  refine lv_aload_n hx hb dX7_believeFrom_5 rfl (lv_at hl 0 rfl) ?_
  refine lv_dup hx hb dX7_believeFrom_6 rfl ?_
  refine u_geti cx hw F_X7_46 oi0 rfl dX7_believeFrom_7 ?_
  refine lv_iload_n hx hb dX7_believeFrom_10 rfl (lv_at hl 2 rfl) ?_
  refine lv_ior hx hb dX7_believeFrom_11 ?_
  obtain ⟨s2, es2, hz⟩ := u_let hz
  refine u_puti2 cx hw P_X7_46 oi0 rfl es2 dX7_believeFrom_12 (fun H locs hw => ?_)
  refine lv_iconst (v := 0) hx hb dX7_believeFrom_15 (by decide) ?_
  refine lv_istore (lv' := [(6, .int 0), (0, .ref (G.2.2 i0)), (1, .ref (G.2.2 i1)), (2, .int p2), (3, .ref (G.2.2 i3)), (4, .int p4), (5, .int p5)]) hx hb dX7_believeFrom_16 hl (by decide) rfl (fun ls hl => ?_)
  obtain ⟨J82_4, eJ82_4, hz⟩ := u_let hz
  have WJ82_4 : ∀ (s3 : uS) (H : Heap) (locs : List Loc) (ls : Array Slot), J82_4 s3 = some z → u_W ZC G s3 s H locs → lv_has ls 9 [] → W p l e (u_rm 4) s m args below meth c H locs 0 0 (u_Qv below ZC G s args z) (F0 m 82 ls []) := by
    intro s3 H locs ls hz hw hl
    rw [eJ82_4] at hz
    exact u_vret cx hw (Option.some.inj hz) dX7_believeFrom_82
  have WL18_15 : ∀ (k : Nat) (s5 : uS) (x6 : Int32) (H : Heap) (locs : List Loc) (ls : Array Slot), u_lp2 (b_X7_believeFrom_18 N i0 i3 p4 p5 J82_4) k s5 x6 = some z → u_W ZC G s5 s H locs → lv_has ls 9 [(0, .ref (G.2.2 i0)), (3, .ref (G.2.2 i3)), (4, .int p4), (5, .int p5), (6, .int x6)] → W p l e (u_rm 4) s m args below meth c H locs 0 0 (u_Qv below ZC G s args z) (F0 m 18 ls []) := by
    intro k
    induction k with
    | zero =>
      intro s5 x6 H locs ls hz
      exact absurd hz (by intro h9; cases h9)
    | succ k ih18_7 =>
      intro s5 x6 H locs ls hz hw hl
      have hz : (b_X7_believeFrom_18 N i0 i3 p4 p5 J82_4) (u_lp2 (b_X7_believeFrom_18 N i0 i3 p4 p5 J82_4) k) s5 x6 = some z := hz
      unfold b_X7_believeFrom_18 at hz
      refine lv_iload hx hb dX7_believeFrom_18 (lv_at hl 4 rfl) ?_
      refine lv_iload hx hb dX7_believeFrom_20 (lv_at hl 2 rfl) ?_
      refine lv_icmp_ge (tgt := 82) hx hb dX7_believeFrom_22 (by decide) (fun hc => ?_) (fun hc => ?_)
      · replace hz := u_ift hz hc
        exact WJ82_4 s5 _ _ _ hz hw (lv_sub hl [] rfl)
      · replace hz := u_iff hz hc
        refine lv_aload_n hx hb dX7_believeFrom_25 rfl (lv_at hl 0 rfl) ?_
        refine u_geti cx hw F_X7_46 oi0 rfl dX7_believeFrom_26 ?_
        obtain ⟨J44_9, eJ44_9, hz⟩ := u_let hz
        have WJ44_9 : ∀ (t8 : Int32) (H : Heap) (locs : List Loc) (ls : Array Slot), J44_9 t8 = some z → u_W ZC G s5 s H locs → lv_has ls 9 [(0, .ref (G.2.2 i0)), (3, .ref (G.2.2 i3)), (4, .int p4), (5, .int p5), (6, .int x6)] → W p l e (u_rm 4) s m args below meth c H locs 0 0 (u_Qv below ZC G s args z) (F0 m 44 ls [.int t8]) := by
          intro t8 H locs ls hz hw hl
          rw [eJ44_9] at hz
          refine lv_istore (lv' := [(7, .int t8), (0, .ref (G.2.2 i0)), (3, .ref (G.2.2 i3)), (4, .int p4), (5, .int p5), (6, .int x6)]) hx hb dX7_believeFrom_44 hl (by decide) rfl (fun ls hl => ?_)
          refine lv_aload_n hx hb dX7_believeFrom_46 rfl (lv_at hl 1 rfl) ?_
          refine lv_aload_n hx hb dX7_believeFrom_47 rfl (lv_at hl 2 rfl) ?_
          obtain ⟨v10, hv10, hz⟩ := u_bind hz
          refine u_callVi (As := [.ref (G.2.2 i3)]) (rest := []) cx hw LV_X7_115 (c_X7_turn l G N s5 i0 oi0 i3 oi3 v10 hv10) oi0 rfl (by decide) hl.1 rfl (Nat.le_of_ble_eq_true rfl) dX7_believeFrom_48 rfl (fun H locs hw => ?_)
          refine lv_istore (lv' := [(8, .int v10.1), (7, .int t8), (0, .ref (G.2.2 i0)), (3, .ref (G.2.2 i3)), (4, .int p4), (5, .int p5), (6, .int x6)]) hx hb dX7_believeFrom_51 hl (by decide) rfl (fun ls hl => ?_)
          refine lv_iload hx hb dX7_believeFrom_53 (lv_at hl 1 rfl) ?_
          obtain ⟨J63_11, eJ63_11, hz⟩ := u_let hz
          have WJ63_11 : ∀ (H : Heap) (locs : List Loc) (ls : Array Slot), J63_11 = some z → u_W ZC G v10.2 s H locs → lv_has ls 9 [(0, .ref (G.2.2 i0)), (3, .ref (G.2.2 i3)), (4, .int p4), (5, .int p5), (6, .int x6)] → W p l e (u_rm 4) s m args below meth c H locs 0 0 (u_Qv below ZC G s args z) (F0 m 63 ls []) := by
            intro H locs ls hz hw hl
            rw [eJ63_11] at hz
            refine lv_iload hx hb dX7_believeFrom_63 (lv_at hl 3 rfl) ?_
            obtain ⟨J76_12, eJ76_12, hz⟩ := u_let hz
            have WJ76_12 : ∀ (H : Heap) (locs : List Loc) (ls : Array Slot), J76_12 = some z → u_W ZC G v10.2 s H locs → lv_has ls 9 [(0, .ref (G.2.2 i0)), (3, .ref (G.2.2 i3)), (4, .int p4), (5, .int p5), (6, .int x6)] → W p l e (u_rm 4) s m args below meth c H locs 0 0 (u_Qv below ZC G s args z) (F0 m 76 ls []) := by
              intro H locs ls hz hw hl
              rw [eJ76_12] at hz
              obtain ⟨x13, ex13, hz⟩ := u_let hz
              refine lv_iinc (v := x13) (lv' := [(6, .int x13), (0, .ref (G.2.2 i0)), (3, .ref (G.2.2 i3)), (4, .int p4), (5, .int p5)]) hx hb dX7_believeFrom_76 hl (k := 4) rfl (by rw [ex13]; rfl) (by decide) rfl (fun ls hl => ?_)
              refine lv_goto (tgt := 18) hx hb dX7_believeFrom_79 (by decide) ?_
              exact ih18_7 v10.2 x13 _ _ _ hz hw (lv_sub hl [1, 2, 3, 4, 0] rfl)
            refine lv_if_eq (tgt := 76) hx hb dX7_believeFrom_65 (by decide) (fun hc => ?_) (fun hc => ?_)
            · replace hz := u_ift hz hc
              exact WJ76_12 _ _ _ hz hw (lv_sub hl [0, 1, 2, 3, 4] rfl)
            · replace hz := u_iff hz hc
              refine lv_aload_n hx hb dX7_believeFrom_68 rfl (lv_at hl 0 rfl) ?_
              obtain ⟨v14, hv14, hz⟩ := u_bind hz
              refine u_callVi (As := []) (rest := []) cx hw LV_X7_86 (c_X7_inside l G N v10.2 i0 oi0 v14 hv14) oi0 rfl (by decide) hl.1 rfl (Nat.le_of_ble_eq_true rfl) dX7_believeFrom_69 rfl (fun H locs hw => ?_)
              refine lv_if_ne (tgt := 76) hx hb dX7_believeFrom_72 (by decide) (fun hc => ?_) (fun hc => ?_)
              · replace hz := u_iff hz hc
                exact WJ76_12 _ _ _ hz hw (lv_sub hl [0, 1, 2, 3, 4] rfl)
              · replace hz := u_ift hz hc
                exact u_vret cx hw (Option.some.inj hz) dX7_believeFrom_75
          refine lv_if_eq (tgt := 63) hx hb dX7_believeFrom_55 (by decide) (fun hc => ?_) (fun hc => ?_)
          · replace hz := u_ift hz hc
            exact WJ63_11 _ _ _ hz hw (lv_sub hl [2, 3, 4, 5, 6] rfl)
          · replace hz := u_iff hz hc
            refine lv_iload hx hb dX7_believeFrom_58 (lv_at hl 0 rfl) ?_
            refine lv_if_eq (tgt := 75) hx hb dX7_believeFrom_60 (by decide) (fun hc => ?_) (fun hc => ?_)
            · replace hz := u_ift hz hc
              exact u_vret cx hw (Option.some.inj hz) dX7_believeFrom_75
            · replace hz := u_iff hz hc
              exact WJ63_11 _ _ _ hz hw (lv_sub hl [2, 3, 4, 5, 6] rfl)
        obtain ⟨J43_15, eJ43_15, hz⟩ := u_let hz
        have WJ43_15 : ∀ (H : Heap) (locs : List Loc) (ls : Array Slot), J43_15 = some z → u_W ZC G s5 s H locs → lv_has ls 9 [(0, .ref (G.2.2 i0)), (3, .ref (G.2.2 i3)), (4, .int p4), (5, .int p5), (6, .int x6)] → W p l e (u_rm 4) s m args below meth c H locs 0 0 (u_Qv below ZC G s args z) (F0 m 43 ls []) := by
          intro H locs ls hz hw hl
          rw [eJ43_15] at hz
          refine lv_iconst (v := 0) hx hb dX7_believeFrom_43 (by decide) ?_
          exact WJ44_9 0 _ _ _ hz hw (lv_sub hl [0, 1, 2, 3, 4] rfl)
        refine lv_if_ne (tgt := 43) hx hb dX7_believeFrom_29 (by decide) (fun hc => ?_) (fun hc => ?_)
        · replace hz := u_iff hz hc
          exact WJ43_15 _ _ _ hz hw (lv_sub hl [0, 1, 2, 3, 4] rfl)
        · replace hz := u_ift hz hc
          refine lv_aload_n hx hb dX7_believeFrom_32 rfl (lv_at hl 1 rfl) ?_
          refine u_geti cx hw F_X7_132 oi3 rfl dX7_believeFrom_33 ?_
          refine lv_if_ne (tgt := 43) hx hb dX7_believeFrom_36 (by decide) (fun hc => ?_) (fun hc => ?_)
          · replace hz := u_iff hz hc
            exact WJ43_15 _ _ _ hz hw (lv_sub hl [0, 1, 2, 3, 4] rfl)
          · replace hz := u_ift hz hc
            refine lv_iconst (v := 1) hx hb dX7_believeFrom_39 (by decide) ?_
            refine lv_goto (tgt := 44) hx hb dX7_believeFrom_40 (by decide) ?_
            exact WJ44_9 1 _ _ _ hz hw (lv_sub hl [0, 1, 2, 3, 4] rfl)
  exact WL18_15 N s2 0 _ _ _ hz hw (lv_sub hl [1, 4, 5, 6, 0] rfl)
theorem dX9_takes_0 : decode cX9_takes 0 = .ok (.aload_n 0, 1) := by decide +kernel
theorem dX9_takes_1 : decode cX9_takes 1 = .ok (.getfield 25, 3) := by decide +kernel
theorem dX9_takes_4 : decode cX9_takes 4 = .ok (.lookupswitch 92 #[(0, 36), (99, 42), (115, 67)], 36) := by decide +kernel
theorem dX9_takes_40 : decode cX9_takes 40 = .ok (.aload_n 0, 1) := by decide +kernel
theorem dX9_takes_41 : decode cX9_takes 41 = .ok (.iload_n 1, 1) := by decide +kernel
theorem dX9_takes_42 : decode cX9_takes 42 = .ok (.invokevirtual 31, 3) := by decide +kernel
theorem dX9_takes_45 : decode cX9_takes 45 = .ok (.ireturn, 1) := by decide +kernel
theorem dX9_takes_46 : decode cX9_takes 46 = .ok (.iload_n 1, 1) := by decide +kernel
theorem dX9_takes_47 : decode cX9_takes 47 = .ok (.invokestatic 35, 3) := by decide +kernel
theorem dX9_takes_50 : decode cX9_takes 50 = .ok (.ifCond .eq 19, 3) := by decide +kernel
theorem dX9_takes_53 : decode cX9_takes 53 = .ok (.aload_n 0, 1) := by decide +kernel
theorem dX9_takes_54 : decode cX9_takes 54 = .ok (.iload_n 1, 1) := by decide +kernel
theorem dX9_takes_55 : decode cX9_takes 55 = .ok (.bipush 48, 2) := by decide +kernel
theorem dX9_takes_57 : decode cX9_takes 57 = .ok (.isub, 1) := by decide +kernel
theorem dX9_takes_58 : decode cX9_takes 58 = .ok (.iconst 0, 1) := by decide +kernel
theorem dX9_takes_59 : decode cX9_takes 59 = .ok (.invokevirtual 38, 3) := by decide +kernel
theorem dX9_takes_62 : decode cX9_takes 62 = .ok (.ifCond .eq 7, 3) := by decide +kernel
theorem dX9_takes_65 : decode cX9_takes 65 = .ok (.iconst 1, 1) := by decide +kernel
theorem dX9_takes_66 : decode cX9_takes 66 = .ok (.goto 4, 3) := by decide +kernel
theorem dX9_takes_69 : decode cX9_takes 69 = .ok (.iconst 0, 1) := by decide +kernel
theorem dX9_takes_70 : decode cX9_takes 70 = .ok (.ireturn, 1) := by decide +kernel
theorem dX9_takes_71 : decode cX9_takes 71 = .ok (.iload_n 1, 1) := by decide +kernel
theorem dX9_takes_72 : decode cX9_takes 72 = .ok (.invokestatic 42, 3) := by decide +kernel
theorem dX9_takes_75 : decode cX9_takes 75 = .ok (.ifCond .eq 19, 3) := by decide +kernel
theorem dX9_takes_78 : decode cX9_takes 78 = .ok (.aload_n 0, 1) := by decide +kernel
theorem dX9_takes_79 : decode cX9_takes 79 = .ok (.iload_n 1, 1) := by decide +kernel
theorem dX9_takes_80 : decode cX9_takes 80 = .ok (.bipush 97, 2) := by decide +kernel
theorem dX9_takes_82 : decode cX9_takes 82 = .ok (.isub, 1) := by decide +kernel
theorem dX9_takes_83 : decode cX9_takes 83 = .ok (.iconst 0, 1) := by decide +kernel
theorem dX9_takes_84 : decode cX9_takes 84 = .ok (.invokevirtual 38, 3) := by decide +kernel
theorem dX9_takes_87 : decode cX9_takes 87 = .ok (.ifCond .eq 7, 3) := by decide +kernel
theorem dX9_takes_90 : decode cX9_takes 90 = .ok (.iconst 1, 1) := by decide +kernel
theorem dX9_takes_91 : decode cX9_takes 91 = .ok (.goto 4, 3) := by decide +kernel
theorem dX9_takes_94 : decode cX9_takes 94 = .ok (.iconst 0, 1) := by decide +kernel
theorem dX9_takes_95 : decode cX9_takes 95 = .ok (.ireturn, 1) := by decide +kernel
theorem dX9_takes_96 : decode cX9_takes 96 = .ok (.iload_n 1, 1) := by decide +kernel
theorem dX9_takes_97 : decode cX9_takes 97 = .ok (.invokestatic 42, 3) := by decide +kernel
theorem dX9_takes_100 : decode cX9_takes 100 = .ok (.ifCond .eq 18, 3) := by decide +kernel
theorem dX9_takes_103 : decode cX9_takes 103 = .ok (.aload_n 0, 1) := by decide +kernel
theorem dX9_takes_104 : decode cX9_takes 104 = .ok (.iload_n 1, 1) := by decide +kernel
theorem dX9_takes_105 : decode cX9_takes 105 = .ok (.bipush 97, 2) := by decide +kernel
theorem dX9_takes_107 : decode cX9_takes 107 = .ok (.isub, 1) := by decide +kernel
theorem dX9_takes_108 : decode cX9_takes 108 = .ok (.invokevirtual 45, 3) := by decide +kernel
theorem dX9_takes_111 : decode cX9_takes 111 = .ok (.ifCond .eq 7, 3) := by decide +kernel
theorem dX9_takes_114 : decode cX9_takes 114 = .ok (.iconst 1, 1) := by decide +kernel
theorem dX9_takes_115 : decode cX9_takes 115 = .ok (.goto 4, 3) := by decide +kernel
theorem dX9_takes_118 : decode cX9_takes 118 = .ok (.iconst 0, 1) := by decide +kernel
theorem dX9_takes_119 : decode cX9_takes 119 = .ok (.ireturn, 1) := by decide +kernel
def f_X9_takes (N : Nat) (σ : uS) (p1 : Int32) : Option (Int32 × uS) := if (σ.1 15 4) = 0 then ((f_X9_takesKind N σ p1).bind fun v1 =>
  u_ck (v1.1 = 0 ∨ v1.1 = 1) (some (v1.1, v1.2))) else (if (σ.1 15 4) = 99 then ((f_X5_isDigit N σ p1).bind fun v2 =>
  u_jn (fun (s3 : uS) => (some (0, s3) : Option (Int32 × uS))) fun J69_4 =>
  if v2 = 0 then (J69_4 σ) else ((f_X9_takesAct N σ (p1 - 48) 0).bind fun v5 =>
  if v5.1 = 0 then (J69_4 v5.2) else (some (1, v5.2)))) else (if (σ.1 15 4) = 115 then ((f_X5_isLetter N σ p1).bind fun v6 =>
  u_jn (fun (s7 : uS) => (some (0, s7) : Option (Int32 × uS))) fun J94_8 =>
  if v6 = 0 then (J94_8 σ) else ((f_X9_takesAct N σ (p1 - 97) 0).bind fun v9 =>
  if v9.1 = 0 then (J94_8 v9.2) else (some (1, v9.2)))) else ((f_X5_isLetter N σ p1).bind fun v10 =>
  u_jn (fun (s11 : uS) => (some (0, s11) : Option (Int32 × uS))) fun J118_12 =>
  if v10 = 0 then (J118_12 σ) else ((f_X9_takesGlance N σ (p1 - 97)).bind fun v13 =>
  if v13.1 = 0 then (J118_12 v13.2) else (some (1, v13.2))))))
set_option maxRecDepth 100000 in
set_option maxHeartbeats 4000000 in
theorem c_X9_takes (l : Launch) (G : uG) (N : Nat) (σ : uS) (p1 : Int32) (z : (Int32 × uS)) (hz : f_X9_takes N σ p1 = some z) : u_Mi l ZC G yX9_takes cX9_takes 2 .boolean 2 [.ref (G.2.2 15), .int p1] σ z.1 z.2 := by
  refine u_Mi_of RX9 (by decide) rfl (Nat.le_of_ble_eq_true rfl) ?_
  intro p e s m args below meth c ls cx hw hl
  have hx := cx.1
  have hb := cx.2.1
  have hl : lv_has ls 2 [(0, .ref (G.2.2 15)), (1, .int p1)] := hl
  unfold f_X9_takes at hz
  refine lv_aload_n hx hb dX9_takes_0 rfl (lv_at hl 0 rfl) ?_
  refine u_geti cx hw F_X9_25 o_X9 rfl dX9_takes_1 ?_
  by_cases hk0 : (σ.1 15 4) = 0
  · replace hz := u_ift hz hk0
    refine lv_lookup (off := 36) (tgt := 40) hx hb dX9_takes_4 (by decide) (by rw [hk0]; decide) (by decide) ?_
    refine lv_aload_n hx hb dX9_takes_40 rfl (lv_at hl 0 rfl) ?_
    refine lv_iload_n hx hb dX9_takes_41 rfl (lv_at hl 1 rfl) ?_
    obtain ⟨v1, hv1, hz⟩ := u_bind hz
    refine u_callVi (As := [.int p1]) (rest := []) cx hw LV_X9_31 (c_X9_takesKind l G N σ p1 v1 hv1) o_X9 rfl (by decide) hl.1 rfl (Nat.le_of_ble_eq_true rfl) dX9_takes_42 rfl (fun H locs hw => ?_)
    obtain ⟨h01, hz⟩ := u_ck_some hz
    exact u_zret cx hw h01 (u_pair hz) dX9_takes_45
  replace hz := u_iff hz hk0
  by_cases hk99 : (σ.1 15 4) = 99
  · replace hz := u_ift hz hk99
    refine lv_lookup (off := 42) (tgt := 46) hx hb dX9_takes_4 (by decide) (by rw [hk99]; decide) (by decide) ?_
    refine lv_iload_n hx hb dX9_takes_46 rfl (lv_at hl 1 rfl) ?_
    obtain ⟨v2, hv2, hz⟩ := u_bind hz
    refine u_callTi (As := [.int p1]) (rest := []) cx hw LT_X9_35 (c_X5_isDigit l G N σ p1 v2 hv2) (by decide) hl.1 rfl (Nat.le_of_ble_eq_true rfl) dX9_takes_47 rfl (fun H locs hw => ?_)
    obtain ⟨J69_4, eJ69_4, hz⟩ := u_let hz
    have WJ69_4 : ∀ (s3 : uS) (H : Heap) (locs : List Loc) (ls : Array Slot), J69_4 s3 = some z → u_W ZC G s3 s H locs → lv_has ls 2 [] → W p l e (u_rm 2) s m args below meth c H locs 0 0 (u_Qi below ZC G s args z.1 z.2) (F0 m 69 ls []) := by
      intro s3 H locs ls hz hw hl
      rw [eJ69_4] at hz
      refine lv_iconst (v := 0) hx hb dX9_takes_69 (by decide) ?_
      exact u_zret cx hw (Or.inl rfl) (u_pair hz) dX9_takes_70
    refine lv_if_eq (tgt := 69) hx hb dX9_takes_50 (by decide) (fun hc => ?_) (fun hc => ?_)
    · replace hz := u_ift hz hc
      exact WJ69_4 σ _ _ _ hz hw (lv_sub hl [] rfl)
    · replace hz := u_iff hz hc
      refine lv_aload_n hx hb dX9_takes_53 rfl (lv_at hl 0 rfl) ?_
      refine lv_iload_n hx hb dX9_takes_54 rfl (lv_at hl 1 rfl) ?_
      refine lv_bipush (v := 48) hx hb dX9_takes_55 (by decide) ?_
      refine lv_isub hx hb dX9_takes_57 ?_
      refine lv_iconst (v := 0) hx hb dX9_takes_58 (by decide) ?_
      obtain ⟨v5, hv5, hz⟩ := u_bind hz
      refine u_callVi (As := [.int (p1 - 48), .int 0]) (rest := []) cx hw LV_X9_38 (c_X9_takesAct l G N σ (p1 - 48) 0 v5 hv5) o_X9 rfl (by decide) hl.1 rfl (Nat.le_of_ble_eq_true rfl) dX9_takes_59 rfl (fun H locs hw => ?_)
      refine lv_if_eq (tgt := 69) hx hb dX9_takes_62 (by decide) (fun hc => ?_) (fun hc => ?_)
      · replace hz := u_ift hz hc
        exact WJ69_4 v5.2 _ _ _ hz hw (lv_sub hl [] rfl)
      · replace hz := u_iff hz hc
        refine lv_iconst (v := 1) hx hb dX9_takes_65 (by decide) ?_
        refine lv_goto (tgt := 70) hx hb dX9_takes_66 (by decide) ?_
        exact u_zret cx hw (Or.inr rfl) (u_pair hz) dX9_takes_70
  replace hz := u_iff hz hk99
  by_cases hk115 : (σ.1 15 4) = 115
  · replace hz := u_ift hz hk115
    refine lv_lookup (off := 67) (tgt := 71) hx hb dX9_takes_4 (by decide) (by rw [hk115]; decide) (by decide) ?_
    refine lv_iload_n hx hb dX9_takes_71 rfl (lv_at hl 1 rfl) ?_
    obtain ⟨v6, hv6, hz⟩ := u_bind hz
    refine u_callTi (As := [.int p1]) (rest := []) cx hw LT_X9_42 (c_X5_isLetter l G N σ p1 v6 hv6) (by decide) hl.1 rfl (Nat.le_of_ble_eq_true rfl) dX9_takes_72 rfl (fun H locs hw => ?_)
    obtain ⟨J94_8, eJ94_8, hz⟩ := u_let hz
    have WJ94_8 : ∀ (s7 : uS) (H : Heap) (locs : List Loc) (ls : Array Slot), J94_8 s7 = some z → u_W ZC G s7 s H locs → lv_has ls 2 [] → W p l e (u_rm 2) s m args below meth c H locs 0 0 (u_Qi below ZC G s args z.1 z.2) (F0 m 94 ls []) := by
      intro s7 H locs ls hz hw hl
      rw [eJ94_8] at hz
      refine lv_iconst (v := 0) hx hb dX9_takes_94 (by decide) ?_
      exact u_zret cx hw (Or.inl rfl) (u_pair hz) dX9_takes_95
    refine lv_if_eq (tgt := 94) hx hb dX9_takes_75 (by decide) (fun hc => ?_) (fun hc => ?_)
    · replace hz := u_ift hz hc
      exact WJ94_8 σ _ _ _ hz hw (lv_sub hl [] rfl)
    · replace hz := u_iff hz hc
      refine lv_aload_n hx hb dX9_takes_78 rfl (lv_at hl 0 rfl) ?_
      refine lv_iload_n hx hb dX9_takes_79 rfl (lv_at hl 1 rfl) ?_
      refine lv_bipush (v := 97) hx hb dX9_takes_80 (by decide) ?_
      refine lv_isub hx hb dX9_takes_82 ?_
      refine lv_iconst (v := 0) hx hb dX9_takes_83 (by decide) ?_
      obtain ⟨v9, hv9, hz⟩ := u_bind hz
      refine u_callVi (As := [.int (p1 - 97), .int 0]) (rest := []) cx hw LV_X9_38 (c_X9_takesAct l G N σ (p1 - 97) 0 v9 hv9) o_X9 rfl (by decide) hl.1 rfl (Nat.le_of_ble_eq_true rfl) dX9_takes_84 rfl (fun H locs hw => ?_)
      refine lv_if_eq (tgt := 94) hx hb dX9_takes_87 (by decide) (fun hc => ?_) (fun hc => ?_)
      · replace hz := u_ift hz hc
        exact WJ94_8 v9.2 _ _ _ hz hw (lv_sub hl [] rfl)
      · replace hz := u_iff hz hc
        refine lv_iconst (v := 1) hx hb dX9_takes_90 (by decide) ?_
        refine lv_goto (tgt := 95) hx hb dX9_takes_91 (by decide) ?_
        exact u_zret cx hw (Or.inr rfl) (u_pair hz) dX9_takes_95
  replace hz := u_iff hz hk115
  refine lv_lookup (off := 92) (tgt := 96) hx hb dX9_takes_4 (by decide) (by refine (lv_osw hk0 (by decide)).trans ?_; refine (lv_osw hk99 (by decide)).trans ?_; refine (lv_osw hk115 (by decide)).trans ?_; rfl) (by decide) ?_
  refine lv_iload_n hx hb dX9_takes_96 rfl (lv_at hl 1 rfl) ?_
  obtain ⟨v10, hv10, hz⟩ := u_bind hz
  refine u_callTi (As := [.int p1]) (rest := []) cx hw LT_X9_42 (c_X5_isLetter l G N σ p1 v10 hv10) (by decide) hl.1 rfl (Nat.le_of_ble_eq_true rfl) dX9_takes_97 rfl (fun H locs hw => ?_)
  obtain ⟨J118_12, eJ118_12, hz⟩ := u_let hz
  have WJ118_12 : ∀ (s11 : uS) (H : Heap) (locs : List Loc) (ls : Array Slot), J118_12 s11 = some z → u_W ZC G s11 s H locs → lv_has ls 2 [] → W p l e (u_rm 2) s m args below meth c H locs 0 0 (u_Qi below ZC G s args z.1 z.2) (F0 m 118 ls []) := by
    intro s11 H locs ls hz hw hl
    rw [eJ118_12] at hz
    refine lv_iconst (v := 0) hx hb dX9_takes_118 (by decide) ?_
    exact u_zret cx hw (Or.inl rfl) (u_pair hz) dX9_takes_119
  refine lv_if_eq (tgt := 118) hx hb dX9_takes_100 (by decide) (fun hc => ?_) (fun hc => ?_)
  · replace hz := u_ift hz hc
    exact WJ118_12 σ _ _ _ hz hw (lv_sub hl [] rfl)
  · replace hz := u_iff hz hc
    refine lv_aload_n hx hb dX9_takes_103 rfl (lv_at hl 0 rfl) ?_
    refine lv_iload_n hx hb dX9_takes_104 rfl (lv_at hl 1 rfl) ?_
    refine lv_bipush (v := 97) hx hb dX9_takes_105 (by decide) ?_
    refine lv_isub hx hb dX9_takes_107 ?_
    obtain ⟨v13, hv13, hz⟩ := u_bind hz
    refine u_callVi (As := [.int (p1 - 97)]) (rest := []) cx hw LV_X9_45 (c_X9_takesGlance l G N σ (p1 - 97) v13 hv13) o_X9 rfl (by decide) hl.1 rfl (Nat.le_of_ble_eq_true rfl) dX9_takes_108 rfl (fun H locs hw => ?_)
    refine lv_if_eq (tgt := 118) hx hb dX9_takes_111 (by decide) (fun hc => ?_) (fun hc => ?_)
    · replace hz := u_ift hz hc
      exact WJ118_12 v13.2 _ _ _ hz hw (lv_sub hl [] rfl)
    · replace hz := u_iff hz hc
      refine lv_iconst (v := 1) hx hb dX9_takes_114 (by decide) ?_
      refine lv_goto (tgt := 119) hx hb dX9_takes_115 (by decide) ?_
      exact u_zret cx hw (Or.inr rfl) (u_pair hz) dX9_takes_119
theorem dX11_show_0 : decode cX11_show 0 = .ok (.aload_n 0, 1) := by decide +kernel
theorem dX11_show_1 : decode cX11_show 1 = .ok (.getfield 33, 3) := by decide +kernel
theorem dX11_show_4 : decode cX11_show 4 = .ok (.aload_n 0, 1) := by decide +kernel
theorem dX11_show_5 : decode cX11_show 5 = .ok (.getfield 26, 3) := by decide +kernel
theorem dX11_show_8 : decode cX11_show 8 = .ok (.invokevirtual 206, 3) := by decide +kernel
theorem dX11_show_11 : decode cX11_show 11 = .ok (.aload_n 0, 1) := by decide +kernel
theorem dX11_show_12 : decode cX11_show 12 = .ok (.aload_n 0, 1) := by decide +kernel
theorem dX11_show_13 : decode cX11_show 13 = .ok (.getfield 26, 3) := by decide +kernel
theorem dX11_show_16 : decode cX11_show 16 = .ok (.iload_n 1, 1) := by decide +kernel
theorem dX11_show_17 : decode cX11_show 17 = .ok (.invokevirtual 227, 3) := by decide +kernel
theorem dX11_show_20 : decode cX11_show 20 = .ok (.invokevirtual 230, 3) := by decide +kernel
theorem dX11_show_23 : decode cX11_show 23 = .ok (.ireturn, 1) := by decide +kernel
def f_X11_show (N : Nat) (σ : uS) (p1 : Int32) : Option (Int32 × uS) := (f_X7_copy N σ 44 32).bind fun s1 =>
  (f_X7_showTo N s1 32 p1).bind fun v2 =>
  (f_X11_acted N v2.2 v2.1).bind fun v3 =>
  some (v3.1, v3.2)
set_option maxRecDepth 100000 in
set_option maxHeartbeats 4000000 in
theorem c_X11_show (l : Launch) (G : uG) (N : Nat) (σ : uS) (p1 : Int32) (z : (Int32 × uS)) (hz : f_X11_show N σ p1 = some z) : u_Mi l ZC G yX11_show cX11_show 2 .int 4 [.ref (G.2.2 0), .int p1] σ z.1 z.2 := by
  refine u_Mi_of RX11 (by decide) rfl (Nat.le_of_ble_eq_true rfl) ?_
  intro p e s m args below meth c ls cx hw hl
  have hx := cx.1
  have hb := cx.2.1
  have hl : lv_has ls 2 [(0, .ref (G.2.2 0)), (1, .int p1)] := hl
  unfold f_X11_show at hz
  refine lv_aload_n hx hb dX11_show_0 rfl (lv_at hl 0 rfl) ?_
  refine u_getp cx hw F_X11_33 o_X11 rfl dX11_show_1 ?_
  refine lv_aload_n hx hb dX11_show_4 rfl (lv_at hl 0 rfl) ?_
  refine u_getp cx hw F_X11_26 o_X11 rfl dX11_show_5 ?_
  obtain ⟨s1, hs1, hz⟩ := u_bind hz
  refine u_callVv (As := [.ref (G.2.2 32)]) (rest := []) cx hw LV_X11_206 (c_X7_copy l G N σ 44 oS_44 32 oS_32 s1 hs1) oS_44 rfl (by decide) hl.1 rfl (Nat.le_of_ble_eq_true rfl) dX11_show_8 rfl (fun H locs hw => ?_)
  refine lv_aload_n hx hb dX11_show_11 rfl (lv_at hl 0 rfl) ?_
  refine lv_aload_n hx hb dX11_show_12 rfl (lv_at hl 0 rfl) ?_
  refine u_getp cx hw F_X11_26 o_X11 rfl dX11_show_13 ?_
  refine lv_iload_n hx hb dX11_show_16 rfl (lv_at hl 1 rfl) ?_
  obtain ⟨v2, hv2, hz⟩ := u_bind hz
  refine u_callVi (As := [.int p1]) (rest := [.ref (G.2.2 0)]) cx hw LV_X11_227 (c_X7_showTo l G N s1 32 oS_32 p1 v2 hv2) oS_32 rfl (by decide) hl.1 rfl (Nat.le_of_ble_eq_true rfl) dX11_show_17 rfl (fun H locs hw => ?_)
  obtain ⟨v3, hv3, hz⟩ := u_bind hz
  refine u_callVi (As := [.int v2.1]) (rest := []) cx hw LV_X11_230 (c_X11_acted l G N v2.2 v2.1 v3 hv3) o_X11 rfl (by decide) hl.1 rfl (Nat.le_of_ble_eq_true rfl) dX11_show_20 rfl (fun H locs hw => ?_)
  exact u_iret cx hw (u_pair hz) dX11_show_23
theorem dX11_glance_0 : decode cX11_glance 0 = .ok (.aload_n 0, 1) := by decide +kernel
theorem dX11_glance_1 : decode cX11_glance 1 = .ok (.getfield 33, 3) := by decide +kernel
theorem dX11_glance_4 : decode cX11_glance 4 = .ok (.aload_n 0, 1) := by decide +kernel
theorem dX11_glance_5 : decode cX11_glance 5 = .ok (.getfield 26, 3) := by decide +kernel
theorem dX11_glance_8 : decode cX11_glance 8 = .ok (.invokevirtual 206, 3) := by decide +kernel
theorem dX11_glance_11 : decode cX11_glance 11 = .ok (.aload_n 0, 1) := by decide +kernel
theorem dX11_glance_12 : decode cX11_glance 12 = .ok (.aload_n 0, 1) := by decide +kernel
theorem dX11_glance_13 : decode cX11_glance 13 = .ok (.getfield 26, 3) := by decide +kernel
theorem dX11_glance_16 : decode cX11_glance 16 = .ok (.iload_n 1, 1) := by decide +kernel
theorem dX11_glance_17 : decode cX11_glance 17 = .ok (.iload_n 2, 1) := by decide +kernel
theorem dX11_glance_18 : decode cX11_glance 18 = .ok (.invokevirtual 233, 3) := by decide +kernel
theorem dX11_glance_21 : decode cX11_glance 21 = .ok (.invokevirtual 230, 3) := by decide +kernel
theorem dX11_glance_24 : decode cX11_glance 24 = .ok (.ireturn, 1) := by decide +kernel
def f_X11_glance (N : Nat) (σ : uS) (p1 : Int32) (p2 : Int32) : Option (Int32 × uS) := (f_X7_copy N σ 44 32).bind fun s1 =>
  (f_X7_turnEyes N s1 32 p1 p2).bind fun v2 =>
  (f_X11_acted N v2.2 v2.1).bind fun v3 =>
  some (v3.1, v3.2)
set_option maxRecDepth 100000 in
set_option maxHeartbeats 4000000 in
theorem c_X11_glance (l : Launch) (G : uG) (N : Nat) (σ : uS) (p1 : Int32) (p2 : Int32) (z : (Int32 × uS)) (hz : f_X11_glance N σ p1 p2 = some z) : u_Mi l ZC G yX11_glance cX11_glance 3 .int 4 [.ref (G.2.2 0), .int p1, .int p2] σ z.1 z.2 := by
  refine u_Mi_of RX11 (by decide) rfl (Nat.le_of_ble_eq_true rfl) ?_
  intro p e s m args below meth c ls cx hw hl
  have hx := cx.1
  have hb := cx.2.1
  have hl : lv_has ls 3 [(0, .ref (G.2.2 0)), (1, .int p1), (2, .int p2)] := hl
  unfold f_X11_glance at hz
  refine lv_aload_n hx hb dX11_glance_0 rfl (lv_at hl 0 rfl) ?_
  refine u_getp cx hw F_X11_33 o_X11 rfl dX11_glance_1 ?_
  refine lv_aload_n hx hb dX11_glance_4 rfl (lv_at hl 0 rfl) ?_
  refine u_getp cx hw F_X11_26 o_X11 rfl dX11_glance_5 ?_
  obtain ⟨s1, hs1, hz⟩ := u_bind hz
  refine u_callVv (As := [.ref (G.2.2 32)]) (rest := []) cx hw LV_X11_206 (c_X7_copy l G N σ 44 oS_44 32 oS_32 s1 hs1) oS_44 rfl (by decide) hl.1 rfl (Nat.le_of_ble_eq_true rfl) dX11_glance_8 rfl (fun H locs hw => ?_)
  refine lv_aload_n hx hb dX11_glance_11 rfl (lv_at hl 0 rfl) ?_
  refine lv_aload_n hx hb dX11_glance_12 rfl (lv_at hl 0 rfl) ?_
  refine u_getp cx hw F_X11_26 o_X11 rfl dX11_glance_13 ?_
  refine lv_iload_n hx hb dX11_glance_16 rfl (lv_at hl 1 rfl) ?_
  refine lv_iload_n hx hb dX11_glance_17 rfl (lv_at hl 2 rfl) ?_
  obtain ⟨v2, hv2, hz⟩ := u_bind hz
  refine u_callVi (As := [.int p1, .int p2]) (rest := [.ref (G.2.2 0)]) cx hw LV_X11_233 (c_X7_turnEyes l G N s1 32 oS_32 p1 p2 v2 hv2) oS_32 rfl (by decide) hl.1 rfl (Nat.le_of_ble_eq_true rfl) dX11_glance_18 rfl (fun H locs hw => ?_)
  obtain ⟨v3, hv3, hz⟩ := u_bind hz
  refine u_callVi (As := [.int v2.1]) (rest := []) cx hw LV_X11_230 (c_X11_acted l G N v2.2 v2.1 v3 hv3) o_X11 rfl (by decide) hl.1 rfl (Nat.le_of_ble_eq_true rfl) dX11_glance_21 rfl (fun H locs hw => ?_)
  exact u_iret cx hw (u_pair hz) dX11_glance_24
theorem dX11_rope_0 : decode cX11_rope 0 = .ok (.aload_n 0, 1) := by decide +kernel
theorem dX11_rope_1 : decode cX11_rope 1 = .ok (.getfield 33, 3) := by decide +kernel
theorem dX11_rope_4 : decode cX11_rope 4 = .ok (.aload_n 0, 1) := by decide +kernel
theorem dX11_rope_5 : decode cX11_rope 5 = .ok (.getfield 26, 3) := by decide +kernel
theorem dX11_rope_8 : decode cX11_rope 8 = .ok (.invokevirtual 206, 3) := by decide +kernel
theorem dX11_rope_11 : decode cX11_rope 11 = .ok (.aload_n 0, 1) := by decide +kernel
theorem dX11_rope_12 : decode cX11_rope 12 = .ok (.aload_n 0, 1) := by decide +kernel
theorem dX11_rope_13 : decode cX11_rope 13 = .ok (.getfield 26, 3) := by decide +kernel
theorem dX11_rope_16 : decode cX11_rope 16 = .ok (.iload_n 1, 1) := by decide +kernel
theorem dX11_rope_17 : decode cX11_rope 17 = .ok (.iload_n 2, 1) := by decide +kernel
theorem dX11_rope_18 : decode cX11_rope 18 = .ok (.invokevirtual 236, 3) := by decide +kernel
theorem dX11_rope_21 : decode cX11_rope 21 = .ok (.invokevirtual 230, 3) := by decide +kernel
theorem dX11_rope_24 : decode cX11_rope 24 = .ok (.ireturn, 1) := by decide +kernel
def f_X11_rope (N : Nat) (σ : uS) (p1 : Int32) (p2 : Int32) : Option (Int32 × uS) := (f_X7_copy N σ 44 32).bind fun s1 =>
  (f_X7_moveRope N s1 32 p1 p2).bind fun v2 =>
  (f_X11_acted N v2.2 v2.1).bind fun v3 =>
  some (v3.1, v3.2)
set_option maxRecDepth 100000 in
set_option maxHeartbeats 4000000 in
theorem c_X11_rope (l : Launch) (G : uG) (N : Nat) (σ : uS) (p1 : Int32) (p2 : Int32) (z : (Int32 × uS)) (hz : f_X11_rope N σ p1 p2 = some z) : u_Mi l ZC G yX11_rope cX11_rope 3 .int 4 [.ref (G.2.2 0), .int p1, .int p2] σ z.1 z.2 := by
  refine u_Mi_of RX11 (by decide) rfl (Nat.le_of_ble_eq_true rfl) ?_
  intro p e s m args below meth c ls cx hw hl
  have hx := cx.1
  have hb := cx.2.1
  have hl : lv_has ls 3 [(0, .ref (G.2.2 0)), (1, .int p1), (2, .int p2)] := hl
  unfold f_X11_rope at hz
  refine lv_aload_n hx hb dX11_rope_0 rfl (lv_at hl 0 rfl) ?_
  refine u_getp cx hw F_X11_33 o_X11 rfl dX11_rope_1 ?_
  refine lv_aload_n hx hb dX11_rope_4 rfl (lv_at hl 0 rfl) ?_
  refine u_getp cx hw F_X11_26 o_X11 rfl dX11_rope_5 ?_
  obtain ⟨s1, hs1, hz⟩ := u_bind hz
  refine u_callVv (As := [.ref (G.2.2 32)]) (rest := []) cx hw LV_X11_206 (c_X7_copy l G N σ 44 oS_44 32 oS_32 s1 hs1) oS_44 rfl (by decide) hl.1 rfl (Nat.le_of_ble_eq_true rfl) dX11_rope_8 rfl (fun H locs hw => ?_)
  refine lv_aload_n hx hb dX11_rope_11 rfl (lv_at hl 0 rfl) ?_
  refine lv_aload_n hx hb dX11_rope_12 rfl (lv_at hl 0 rfl) ?_
  refine u_getp cx hw F_X11_26 o_X11 rfl dX11_rope_13 ?_
  refine lv_iload_n hx hb dX11_rope_16 rfl (lv_at hl 1 rfl) ?_
  refine lv_iload_n hx hb dX11_rope_17 rfl (lv_at hl 2 rfl) ?_
  obtain ⟨v2, hv2, hz⟩ := u_bind hz
  refine u_callVi (As := [.int p1, .int p2]) (rest := [.ref (G.2.2 0)]) cx hw LV_X11_236 (c_X7_moveRope l G N s1 32 oS_32 p1 p2 v2 hv2) oS_32 rfl (by decide) hl.1 rfl (Nat.le_of_ble_eq_true rfl) dX11_rope_18 rfl (fun H locs hw => ?_)
  obtain ⟨v3, hv3, hz⟩ := u_bind hz
  refine u_callVi (As := [.int v2.1]) (rest := []) cx hw LV_X11_230 (c_X11_acted l G N v2.2 v2.1 v3 hv3) o_X11 rfl (by decide) hl.1 rfl (Nat.le_of_ble_eq_true rfl) dX11_rope_21 rfl (fun H locs hw => ?_)
  exact u_iret cx hw (u_pair hz) dX11_rope_24
theorem dX11_sow_0 : decode cX11_sow 0 = .ok (.aload_n 0, 1) := by decide +kernel
theorem dX11_sow_1 : decode cX11_sow 1 = .ok (.getfield 33, 3) := by decide +kernel
theorem dX11_sow_4 : decode cX11_sow 4 = .ok (.aload_n 0, 1) := by decide +kernel
theorem dX11_sow_5 : decode cX11_sow 5 = .ok (.getfield 26, 3) := by decide +kernel
theorem dX11_sow_8 : decode cX11_sow 8 = .ok (.invokevirtual 206, 3) := by decide +kernel
theorem dX11_sow_11 : decode cX11_sow 11 = .ok (.aload_n 0, 1) := by decide +kernel
theorem dX11_sow_12 : decode cX11_sow 12 = .ok (.aload_n 0, 1) := by decide +kernel
theorem dX11_sow_13 : decode cX11_sow 13 = .ok (.getfield 26, 3) := by decide +kernel
theorem dX11_sow_16 : decode cX11_sow 16 = .ok (.iload_n 1, 1) := by decide +kernel
theorem dX11_sow_17 : decode cX11_sow 17 = .ok (.iload_n 2, 1) := by decide +kernel
theorem dX11_sow_18 : decode cX11_sow 18 = .ok (.invokevirtual 239, 3) := by decide +kernel
theorem dX11_sow_21 : decode cX11_sow 21 = .ok (.invokevirtual 230, 3) := by decide +kernel
theorem dX11_sow_24 : decode cX11_sow 24 = .ok (.ireturn, 1) := by decide +kernel
def f_X11_sow (N : Nat) (σ : uS) (p1 : Int32) (p2 : Int32) : Option (Int32 × uS) := (f_X7_copy N σ 44 32).bind fun s1 =>
  (f_X7_sowCorn N s1 32 p1 p2).bind fun v2 =>
  (f_X11_acted N v2.2 v2.1).bind fun v3 =>
  some (v3.1, v3.2)
set_option maxRecDepth 100000 in
set_option maxHeartbeats 4000000 in
theorem c_X11_sow (l : Launch) (G : uG) (N : Nat) (σ : uS) (p1 : Int32) (p2 : Int32) (z : (Int32 × uS)) (hz : f_X11_sow N σ p1 p2 = some z) : u_Mi l ZC G yX11_sow cX11_sow 3 .int 4 [.ref (G.2.2 0), .int p1, .int p2] σ z.1 z.2 := by
  refine u_Mi_of RX11 (by decide) rfl (Nat.le_of_ble_eq_true rfl) ?_
  intro p e s m args below meth c ls cx hw hl
  have hx := cx.1
  have hb := cx.2.1
  have hl : lv_has ls 3 [(0, .ref (G.2.2 0)), (1, .int p1), (2, .int p2)] := hl
  unfold f_X11_sow at hz
  refine lv_aload_n hx hb dX11_sow_0 rfl (lv_at hl 0 rfl) ?_
  refine u_getp cx hw F_X11_33 o_X11 rfl dX11_sow_1 ?_
  refine lv_aload_n hx hb dX11_sow_4 rfl (lv_at hl 0 rfl) ?_
  refine u_getp cx hw F_X11_26 o_X11 rfl dX11_sow_5 ?_
  obtain ⟨s1, hs1, hz⟩ := u_bind hz
  refine u_callVv (As := [.ref (G.2.2 32)]) (rest := []) cx hw LV_X11_206 (c_X7_copy l G N σ 44 oS_44 32 oS_32 s1 hs1) oS_44 rfl (by decide) hl.1 rfl (Nat.le_of_ble_eq_true rfl) dX11_sow_8 rfl (fun H locs hw => ?_)
  refine lv_aload_n hx hb dX11_sow_11 rfl (lv_at hl 0 rfl) ?_
  refine lv_aload_n hx hb dX11_sow_12 rfl (lv_at hl 0 rfl) ?_
  refine u_getp cx hw F_X11_26 o_X11 rfl dX11_sow_13 ?_
  refine lv_iload_n hx hb dX11_sow_16 rfl (lv_at hl 1 rfl) ?_
  refine lv_iload_n hx hb dX11_sow_17 rfl (lv_at hl 2 rfl) ?_
  obtain ⟨v2, hv2, hz⟩ := u_bind hz
  refine u_callVi (As := [.int p1, .int p2]) (rest := [.ref (G.2.2 0)]) cx hw LV_X11_239 (c_X7_sowCorn l G N s1 32 oS_32 p1 p2 v2 hv2) oS_32 rfl (by decide) hl.1 rfl (Nat.le_of_ble_eq_true rfl) dX11_sow_18 rfl (fun H locs hw => ?_)
  obtain ⟨v3, hv3, hz⟩ := u_bind hz
  refine u_callVi (As := [.int v2.1]) (rest := []) cx hw LV_X11_230 (c_X11_acted l G N v2.2 v2.1 v3 hv3) o_X11 rfl (by decide) hl.1 rfl (Nat.le_of_ble_eq_true rfl) dX11_sow_21 rfl (fun H locs hw => ?_)
  exact u_iret cx hw (u_pair hz) dX11_sow_24
theorem dX11_settles_0 : decode cX11_settles 0 = .ok (.aload_n 0, 1) := by decide +kernel
theorem dX11_settles_1 : decode cX11_settles 1 = .ok (.getfield 30, 3) := by decide +kernel
theorem dX11_settles_4 : decode cX11_settles 4 = .ok (.aload_n 0, 1) := by decide +kernel
theorem dX11_settles_5 : decode cX11_settles 5 = .ok (.getfield 26, 3) := by decide +kernel
theorem dX11_settles_8 : decode cX11_settles 8 = .ok (.invokevirtual 206, 3) := by decide +kernel
theorem dX11_settles_11 : decode cX11_settles 11 = .ok (.aload_n 0, 1) := by decide +kernel
theorem dX11_settles_12 : decode cX11_settles 12 = .ok (.getfield 30, 3) := by decide +kernel
theorem dX11_settles_15 : decode cX11_settles 15 = .ok (.iconst 0, 1) := by decide +kernel
theorem dX11_settles_16 : decode cX11_settles 16 = .ok (.putfield 278, 3) := by decide +kernel
theorem dX11_settles_19 : decode cX11_settles 19 = .ok (.iconst 0, 1) := by decide +kernel
theorem dX11_settles_20 : decode cX11_settles 20 = .ok (.istore_n 1, 1) := by decide +kernel
theorem dX11_settles_21 : decode cX11_settles 21 = .ok (.iload_n 1, 1) := by decide +kernel
theorem dX11_settles_22 : decode cX11_settles 22 = .ok (.sipush 200, 3) := by decide +kernel
theorem dX11_settles_25 : decode cX11_settles 25 = .ok (.if_icmp .gt 58, 3) := by decide +kernel
theorem dX11_settles_28 : decode cX11_settles 28 = .ok (.aload_n 0, 1) := by decide +kernel
theorem dX11_settles_29 : decode cX11_settles 29 = .ok (.getfield 71, 3) := by decide +kernel
theorem dX11_settles_32 : decode cX11_settles 32 = .ok (.iload_n 1, 1) := by decide +kernel
theorem dX11_settles_33 : decode cX11_settles 33 = .ok (.aload_n 0, 1) := by decide +kernel
theorem dX11_settles_34 : decode cX11_settles 34 = .ok (.getfield 30, 3) := by decide +kernel
theorem dX11_settles_37 : decode cX11_settles 37 = .ok (.invokevirtual 281, 3) := by decide +kernel
theorem dX11_settles_40 : decode cX11_settles 40 = .ok (.iastore, 1) := by decide +kernel
theorem dX11_settles_41 : decode cX11_settles 41 = .ok (.aload_n 0, 1) := by decide +kernel
theorem dX11_settles_42 : decode cX11_settles 42 = .ok (.iload_n 1, 1) := by decide +kernel
theorem dX11_settles_43 : decode cX11_settles 43 = .ok (.invokevirtual 284, 3) := by decide +kernel
theorem dX11_settles_46 : decode cX11_settles 46 = .ok (.istore_n 2, 1) := by decide +kernel
theorem dX11_settles_47 : decode cX11_settles 47 = .ok (.iload_n 2, 1) := by decide +kernel
theorem dX11_settles_48 : decode cX11_settles 48 = .ok (.iload_n 1, 1) := by decide +kernel
theorem dX11_settles_49 : decode cX11_settles 49 = .ok (.if_icmp .ge 16, 3) := by decide +kernel
theorem dX11_settles_52 : decode cX11_settles 52 = .ok (.aload_n 0, 1) := by decide +kernel
theorem dX11_settles_53 : decode cX11_settles 53 = .ok (.getfield 19, 3) := by decide +kernel
theorem dX11_settles_56 : decode cX11_settles 56 = .ok (.iload_n 1, 1) := by decide +kernel
theorem dX11_settles_57 : decode cX11_settles 57 = .ok (.iload_n 2, 1) := by decide +kernel
theorem dX11_settles_58 : decode cX11_settles 58 = .ok (.isub, 1) := by decide +kernel
theorem dX11_settles_59 : decode cX11_settles 59 = .ok (.i2l, 1) := by decide +kernel
theorem dX11_settles_60 : decode cX11_settles 60 = .ok (.invokevirtual 287, 3) := by decide +kernel
theorem dX11_settles_63 : decode cX11_settles 63 = .ok (.iload_n 2, 1) := by decide +kernel
theorem dX11_settles_64 : decode cX11_settles 64 = .ok (.ireturn, 1) := by decide +kernel
theorem dX11_settles_65 : decode cX11_settles 65 = .ok (.aload_n 0, 1) := by decide +kernel
theorem dX11_settles_66 : decode cX11_settles 66 = .ok (.getfield 30, 3) := by decide +kernel
theorem dX11_settles_69 : decode cX11_settles 69 = .ok (.aload_n 0, 1) := by decide +kernel
theorem dX11_settles_70 : decode cX11_settles 70 = .ok (.getfield 89, 3) := by decide +kernel
theorem dX11_settles_73 : decode cX11_settles 73 = .ok (.invokevirtual 291, 3) := by decide +kernel
theorem dX11_settles_76 : decode cX11_settles 76 = .ok (.pop, 1) := by decide +kernel
theorem dX11_settles_77 : decode cX11_settles 77 = .ok (.iinc 1 1, 3) := by decide +kernel
theorem dX11_settles_80 : decode cX11_settles 80 = .ok (.goto (-59), 3) := by decide +kernel
theorem dX11_settles_83 : decode cX11_settles 83 = .ok (.bipush (-2), 2) := by decide +kernel
theorem dX11_settles_85 : decode cX11_settles 85 = .ok (.ireturn, 1) := by decide +kernel
def b_X11_settles_21 (N : Nat) (J83_4 : uS → Option (Int32 × uS)) (rec21_7 : uS → Int32 → Option (Int32 × uS)) (s5 : uS) (x6 : Int32) : Option (Int32 × uS) :=
  if 200 < x6 then (J83_4 s5) else ((f_X7_packedBelief N s5 38).bind fun v8 =>
  (u_wI ZC s5 0 19 x6 v8).bind fun s9 =>
  (f_X11_firstLike N s9 x6).bind fun v10 =>
  if x6 ≤ v10 then ((s9.2.2 0 13).bind fun v11 =>
  u_ck (isR v11) <|
  (f_X7_turn N s9 38 v11).bind fun v12 =>
  u_jn (x6 + 1 : Int32) fun x13 =>
  rec21_7 v12.2 x13) else ((f_X8_one N s9 (Int32.toInt64 (x6 - v10))).bind fun s14 =>
  some (v10, s14)))
def f_X11_settles (N : Nat) (σ : uS) : Option (Int32 × uS) := (f_X7_copy N σ 38 32).bind fun s1 =>
  u_jn (u_pI s1 38 9 0) fun s2 =>
  u_jn (fun (s3 : uS) => (some ((-2), s3) : Option (Int32 × uS))) fun J83_4 =>
  u_lp2 (b_X11_settles_21 N J83_4) N s2 0
set_option maxRecDepth 100000 in
set_option maxHeartbeats 4000000 in
theorem c_X11_settles (l : Launch) (G : uG) (N : Nat) (σ : uS) (z : (Int32 × uS)) (hz : f_X11_settles N σ = some z) : u_Mi l ZC G yX11_settles cX11_settles 3 .int 4 [.ref (G.2.2 0)] σ z.1 z.2 := by
  refine u_Mi_of RX11 (by decide) rfl (Nat.le_of_ble_eq_true rfl) ?_
  intro p e s m args below meth c ls cx hw hl
  have hx := cx.1
  have hb := cx.2.1
  have hl : lv_has ls 3 [(0, .ref (G.2.2 0))] := hl
  unfold f_X11_settles at hz
  refine lv_aload_n hx hb dX11_settles_0 rfl (lv_at hl 0 rfl) ?_
  refine u_getp cx hw F_X11_30 o_X11 rfl dX11_settles_1 ?_
  refine lv_aload_n hx hb dX11_settles_4 rfl (lv_at hl 0 rfl) ?_
  refine u_getp cx hw F_X11_26 o_X11 rfl dX11_settles_5 ?_
  obtain ⟨s1, hs1, hz⟩ := u_bind hz
  refine u_callVv (As := [.ref (G.2.2 32)]) (rest := []) cx hw LV_X11_206 (c_X7_copy l G N σ 38 oS_38 32 oS_32 s1 hs1) oS_38 rfl (by decide) hl.1 rfl (Nat.le_of_ble_eq_true rfl) dX11_settles_8 rfl (fun H locs hw => ?_)
  refine lv_aload_n hx hb dX11_settles_11 rfl (lv_at hl 0 rfl) ?_
  refine u_getp cx hw F_X11_30 o_X11 rfl dX11_settles_12 ?_
  refine lv_iconst (v := 0) hx hb dX11_settles_15 (by decide) ?_
  obtain ⟨s2, es2, hz⟩ := u_let hz
  refine u_puti2 cx hw P_X11_278 oS_38 rfl es2 dX11_settles_16 (fun H locs hw => ?_)
  refine lv_iconst (v := 0) hx hb dX11_settles_19 (by decide) ?_
  refine lv_istore_n (lv' := [(1, .int 0), (0, .ref (G.2.2 0))]) hx hb dX11_settles_20 rfl hl (by decide) rfl (fun ls hl => ?_)
  obtain ⟨J83_4, eJ83_4, hz⟩ := u_let hz
  have WJ83_4 : ∀ (s3 : uS) (H : Heap) (locs : List Loc) (ls : Array Slot), J83_4 s3 = some z → u_W ZC G s3 s H locs → lv_has ls 3 [] → W p l e (u_rm 4) s m args below meth c H locs 0 0 (u_Qi below ZC G s args z.1 z.2) (F0 m 83 ls []) := by
    intro s3 H locs ls hz hw hl
    rw [eJ83_4] at hz
    refine lv_bipush (v := (-2)) hx hb dX11_settles_83 (by decide) ?_
    exact u_iret cx hw (u_pair hz) dX11_settles_85
  have WL21_14 : ∀ (k : Nat) (s5 : uS) (x6 : Int32) (H : Heap) (locs : List Loc) (ls : Array Slot), u_lp2 (b_X11_settles_21 N J83_4) k s5 x6 = some z → u_W ZC G s5 s H locs → lv_has ls 3 [(0, .ref (G.2.2 0)), (1, .int x6)] → W p l e (u_rm 4) s m args below meth c H locs 0 0 (u_Qi below ZC G s args z.1 z.2) (F0 m 21 ls []) := by
    intro k
    induction k with
    | zero =>
      intro s5 x6 H locs ls hz
      exact absurd hz (by intro h9; cases h9)
    | succ k ih21_7 =>
      intro s5 x6 H locs ls hz hw hl
      have hz : (b_X11_settles_21 N J83_4) (u_lp2 (b_X11_settles_21 N J83_4) k) s5 x6 = some z := hz
      unfold b_X11_settles_21 at hz
      refine lv_iload_n hx hb dX11_settles_21 rfl (lv_at hl 1 rfl) ?_
      refine lv_sipush (v := 200) hx hb dX11_settles_22 (by decide) ?_
      refine lv_icmp_gt (tgt := 83) hx hb dX11_settles_25 (by decide) (fun hc => ?_) (fun hc => ?_)
      · replace hz := u_ift hz hc
        exact WJ83_4 s5 _ _ _ hz hw (lv_sub hl [] rfl)
      · replace hz := u_iff hz hc
        refine lv_aload_n hx hb dX11_settles_28 rfl (lv_at hl 0 rfl) ?_
        refine u_getp cx hw F_X11_71 o_X11 rfl dX11_settles_29 ?_
        refine lv_iload_n hx hb dX11_settles_32 rfl (lv_at hl 1 rfl) ?_
        refine lv_aload_n hx hb dX11_settles_33 rfl (lv_at hl 0 rfl) ?_
        refine u_getp cx hw F_X11_30 o_X11 rfl dX11_settles_34 ?_
        obtain ⟨v8, hv8, hz⟩ := u_bind hz
        refine u_callVi (As := []) (rest := [.int x6, .ref (G.2.2 19)]) cx hw LV_X11_281 (c_X7_packedBelief l G N s5 38 oS_38 v8 hv8) oS_38 rfl (by decide) hl.1 rfl (Nat.le_of_ble_eq_true rfl) dX11_settles_37 rfl (fun H locs hw => ?_)
        obtain ⟨s9, hs9, hz⟩ := u_bind hz
        refine u_iast cx hw hs9 dX11_settles_40 (fun H locs hw => ?_)
        refine lv_aload_n hx hb dX11_settles_41 rfl (lv_at hl 0 rfl) ?_
        refine lv_iload_n hx hb dX11_settles_42 rfl (lv_at hl 1 rfl) ?_
        obtain ⟨v10, hv10, hz⟩ := u_bind hz
        refine u_callVi (As := [.int x6]) (rest := []) cx hw LV_X11_284 (c_X11_firstLike l G N s9 x6 v10 hv10) o_X11 rfl (by decide) hl.1 rfl (Nat.le_of_ble_eq_true rfl) dX11_settles_43 rfl (fun H locs hw => ?_)
        refine lv_istore_n (lv' := [(2, .int v10), (0, .ref (G.2.2 0)), (1, .int x6)]) hx hb dX11_settles_46 rfl hl (by decide) rfl (fun ls hl => ?_)
        refine lv_iload_n hx hb dX11_settles_47 rfl (lv_at hl 0 rfl) ?_
        refine lv_iload_n hx hb dX11_settles_48 rfl (lv_at hl 2 rfl) ?_
        refine lv_icmp_ge (tgt := 65) hx hb dX11_settles_49 (by decide) (fun hc => ?_) (fun hc => ?_)
        · replace hz := u_ift hz hc
          refine lv_aload_n hx hb dX11_settles_65 rfl (lv_at hl 1 rfl) ?_
          refine u_getp cx hw F_X11_30 o_X11 rfl dX11_settles_66 ?_
          refine lv_aload_n hx hb dX11_settles_69 rfl (lv_at hl 1 rfl) ?_
          obtain ⟨v11, hv11, hz⟩ := u_bind hz
          obtain ⟨qv11, hz⟩ := u_ck_some hz
          refine u_getr cx hw F_X11_89 o_X11 rfl hv11 dX11_settles_70 ?_
          obtain ⟨v12, hv12, hz⟩ := u_bind hz
          refine u_callVi (As := [.ref (G.2.2 v11)]) (rest := []) cx hw LV_X11_291 (c_X7_turn l G N s9 38 oS_38 v11 (o_R qv11) v12 hv12) oS_38 rfl (by decide) hl.1 rfl (Nat.le_of_ble_eq_true rfl) dX11_settles_73 rfl (fun H locs hw => ?_)
          refine lv_pop hx hb dX11_settles_76 rfl ?_
          obtain ⟨x13, ex13, hz⟩ := u_let hz
          refine lv_iinc (v := x13) (lv' := [(1, .int x13), (2, .int v10), (0, .ref (G.2.2 0))]) hx hb dX11_settles_77 hl (k := 2) rfl (by rw [ex13]; rfl) (by decide) rfl (fun ls hl => ?_)
          refine lv_goto (tgt := 21) hx hb dX11_settles_80 (by decide) ?_
          exact ih21_7 v12.2 x13 _ _ _ hz hw (lv_sub hl [2, 0] rfl)
        · replace hz := u_iff hz hc
          refine lv_aload_n hx hb dX11_settles_52 rfl (lv_at hl 1 rfl) ?_
          refine u_getp cx hw F_X11_19 o_X11 rfl dX11_settles_53 ?_
          refine lv_iload_n hx hb dX11_settles_56 rfl (lv_at hl 2 rfl) ?_
          refine lv_iload_n hx hb dX11_settles_57 rfl (lv_at hl 0 rfl) ?_
          refine lv_isub hx hb dX11_settles_58 ?_
          refine lv_i2l (v := (Int32.toInt64 (x6 - v10))) hx hb dX11_settles_59 rfl ?_
          obtain ⟨s14, hs14, hz⟩ := u_bind hz
          refine u_callVv (As := [.long (Int32.toInt64 (x6 - v10))]) (rest := []) cx hw LV_X11_287 (c_X8_one l G N s9 (Int32.toInt64 (x6 - v10)) s14 hs14) o_X8 rfl (by decide) hl.1 rfl (Nat.le_of_ble_eq_true rfl) dX11_settles_60 rfl (fun H locs hw => ?_)
          refine lv_iload_n hx hb dX11_settles_63 rfl (lv_at hl 0 rfl) ?_
          exact u_iret cx hw (u_pair hz) dX11_settles_64
  exact WL21_14 N s2 0 _ _ _ hz hw (lv_sub hl [1, 0] rfl)
theorem dX11_leaves_0 : decode cX11_leaves 0 = .ok (.aload_n 0, 1) := by decide +kernel
theorem dX11_leaves_1 : decode cX11_leaves 1 = .ok (.getfield 26, 3) := by decide +kernel
theorem dX11_leaves_4 : decode cX11_leaves 4 = .ok (.iload_n 1, 1) := by decide +kernel
theorem dX11_leaves_5 : decode cX11_leaves 5 = .ok (.invokevirtual 156, 3) := by decide +kernel
theorem dX11_leaves_8 : decode cX11_leaves 8 = .ok (.ifCond .ne 5, 3) := by decide +kernel
theorem dX11_leaves_11 : decode cX11_leaves 11 = .ok (.iconst (-1), 1) := by decide +kernel
theorem dX11_leaves_12 : decode cX11_leaves 12 = .ok (.ireturn, 1) := by decide +kernel
theorem dX11_leaves_13 : decode cX11_leaves 13 = .ok (.aload_n 0, 1) := by decide +kernel
theorem dX11_leaves_14 : decode cX11_leaves 14 = .ok (.getfield 30, 3) := by decide +kernel
theorem dX11_leaves_17 : decode cX11_leaves 17 = .ok (.aload_n 0, 1) := by decide +kernel
theorem dX11_leaves_18 : decode cX11_leaves 18 = .ok (.getfield 26, 3) := by decide +kernel
theorem dX11_leaves_21 : decode cX11_leaves 21 = .ok (.invokevirtual 206, 3) := by decide +kernel
theorem dX11_leaves_24 : decode cX11_leaves 24 = .ok (.iconst 1, 1) := by decide +kernel
theorem dX11_leaves_25 : decode cX11_leaves 25 = .ok (.istore_n 2, 1) := by decide +kernel
theorem dX11_leaves_26 : decode cX11_leaves 26 = .ok (.iload_n 2, 1) := by decide +kernel
theorem dX11_leaves_27 : decode cX11_leaves 27 = .ok (.bipush 60, 2) := by decide +kernel
theorem dX11_leaves_29 : decode cX11_leaves 29 = .ok (.if_icmp .gt 59, 3) := by decide +kernel
theorem dX11_leaves_32 : decode cX11_leaves 32 = .ok (.aload_n 0, 1) := by decide +kernel
theorem dX11_leaves_33 : decode cX11_leaves 33 = .ok (.getfield 30, 3) := by decide +kernel
theorem dX11_leaves_36 : decode cX11_leaves 36 = .ok (.aload_n 0, 1) := by decide +kernel
theorem dX11_leaves_37 : decode cX11_leaves 37 = .ok (.getfield 89, 3) := by decide +kernel
theorem dX11_leaves_40 : decode cX11_leaves 40 = .ok (.invokevirtual 291, 3) := by decide +kernel
theorem dX11_leaves_43 : decode cX11_leaves 43 = .ok (.pop, 1) := by decide +kernel
theorem dX11_leaves_44 : decode cX11_leaves 44 = .ok (.aload_n 0, 1) := by decide +kernel
theorem dX11_leaves_45 : decode cX11_leaves 45 = .ok (.getfield 30, 3) := by decide +kernel
theorem dX11_leaves_48 : decode cX11_leaves 48 = .ok (.iload_n 1, 1) := by decide +kernel
theorem dX11_leaves_49 : decode cX11_leaves 49 = .ok (.invokevirtual 171, 3) := by decide +kernel
theorem dX11_leaves_52 : decode cX11_leaves 52 = .ok (.aload_n 0, 1) := by decide +kernel
theorem dX11_leaves_53 : decode cX11_leaves 53 = .ok (.getfield 26, 3) := by decide +kernel
theorem dX11_leaves_56 : decode cX11_leaves 56 = .ok (.iload_n 1, 1) := by decide +kernel
theorem dX11_leaves_57 : decode cX11_leaves 57 = .ok (.invokevirtual 171, 3) := by decide +kernel
theorem dX11_leaves_60 : decode cX11_leaves 60 = .ok (.if_icmp .eq 22, 3) := by decide +kernel
theorem dX11_leaves_63 : decode cX11_leaves 63 = .ok (.aload_n 0, 1) := by decide +kernel
theorem dX11_leaves_64 : decode cX11_leaves 64 = .ok (.getfield 19, 3) := by decide +kernel
theorem dX11_leaves_67 : decode cX11_leaves 67 = .ok (.aload_n 0, 1) := by decide +kernel
theorem dX11_leaves_68 : decode cX11_leaves 68 = .ok (.getfield 30, 3) := by decide +kernel
theorem dX11_leaves_71 : decode cX11_leaves 71 = .ok (.getfield 161, 3) := by decide +kernel
theorem dX11_leaves_74 : decode cX11_leaves 74 = .ok (.iload_n 1, 1) := by decide +kernel
theorem dX11_leaves_75 : decode cX11_leaves 75 = .ok (.iaload, 1) := by decide +kernel
theorem dX11_leaves_76 : decode cX11_leaves 76 = .ok (.i2l, 1) := by decide +kernel
theorem dX11_leaves_77 : decode cX11_leaves 77 = .ok (.invokevirtual 287, 3) := by decide +kernel
theorem dX11_leaves_80 : decode cX11_leaves 80 = .ok (.iload_n 2, 1) := by decide +kernel
theorem dX11_leaves_81 : decode cX11_leaves 81 = .ok (.ireturn, 1) := by decide +kernel
theorem dX11_leaves_82 : decode cX11_leaves 82 = .ok (.iinc 2 1, 3) := by decide +kernel
theorem dX11_leaves_85 : decode cX11_leaves 85 = .ok (.goto (-59), 3) := by decide +kernel
theorem dX11_leaves_88 : decode cX11_leaves 88 = .ok (.bipush (-2), 2) := by decide +kernel
theorem dX11_leaves_90 : decode cX11_leaves 90 = .ok (.ireturn, 1) := by decide +kernel
def b_X11_leaves_26 (N : Nat) (p1 : Int32) (J88_4 : uS → Option (Int32 × uS)) (rec26_7 : uS → Int32 → Option (Int32 × uS)) (s5 : uS) (x6 : Int32) : Option (Int32 × uS) :=
  if 60 < x6 then (J88_4 s5) else ((s5.2.2 0 13).bind fun v8 =>
  u_ck (isR v8) <|
  (f_X7_turn N s5 38 v8).bind fun v9 =>
  (f_X7_isIn N v9.2 38 p1).bind fun v10 =>
  (f_X7_isIn N v9.2 32 p1).bind fun v11 =>
  if v10 = v11 then (u_jn (x6 + 1 : Int32) fun x12 =>
  rec26_7 v9.2 x12) else ((u_rI ZC v9.2 0 40 p1).bind fun v13 =>
  (f_X8_one N v9.2 (Int32.toInt64 v13)).bind fun s14 =>
  some (x6, s14)))
def f_X11_leaves (N : Nat) (σ : uS) (p1 : Int32) : Option (Int32 × uS) := (f_X7_isPerson N σ 32 p1).bind fun v1 =>
  if v1 = 0 then (some ((-1), σ)) else ((f_X7_copy N σ 38 32).bind fun s2 =>
  u_jn (fun (s3 : uS) => (some ((-2), s3) : Option (Int32 × uS))) fun J88_4 =>
  u_lp2 (b_X11_leaves_26 N p1 J88_4) N s2 1)
set_option maxRecDepth 100000 in
set_option maxHeartbeats 4000000 in
theorem c_X11_leaves (l : Launch) (G : uG) (N : Nat) (σ : uS) (p1 : Int32) (z : (Int32 × uS)) (hz : f_X11_leaves N σ p1 = some z) : u_Mi l ZC G yX11_leaves cX11_leaves 3 .int 4 [.ref (G.2.2 0), .int p1] σ z.1 z.2 := by
  refine u_Mi_of RX11 (by decide) rfl (Nat.le_of_ble_eq_true rfl) ?_
  intro p e s m args below meth c ls cx hw hl
  have hx := cx.1
  have hb := cx.2.1
  have hl : lv_has ls 3 [(0, .ref (G.2.2 0)), (1, .int p1)] := hl
  unfold f_X11_leaves at hz
  refine lv_aload_n hx hb dX11_leaves_0 rfl (lv_at hl 0 rfl) ?_
  refine u_getp cx hw F_X11_26 o_X11 rfl dX11_leaves_1 ?_
  refine lv_iload_n hx hb dX11_leaves_4 rfl (lv_at hl 1 rfl) ?_
  obtain ⟨v1, hv1, hz⟩ := u_bind hz
  refine u_callVi (As := [.int p1]) (rest := []) cx hw LV_X11_156 (c_X7_isPerson l G N σ 32 oS_32 p1 v1 hv1) oS_32 rfl (by decide) hl.1 rfl (Nat.le_of_ble_eq_true rfl) dX11_leaves_5 rfl (fun H locs hw => ?_)
  refine lv_if_ne (tgt := 13) hx hb dX11_leaves_8 (by decide) (fun hc => ?_) (fun hc => ?_)
  · replace hz := u_iff hz hc
    refine lv_aload_n hx hb dX11_leaves_13 rfl (lv_at hl 0 rfl) ?_
    refine u_getp cx hw F_X11_30 o_X11 rfl dX11_leaves_14 ?_
    refine lv_aload_n hx hb dX11_leaves_17 rfl (lv_at hl 0 rfl) ?_
    refine u_getp cx hw F_X11_26 o_X11 rfl dX11_leaves_18 ?_
    obtain ⟨s2, hs2, hz⟩ := u_bind hz
    refine u_callVv (As := [.ref (G.2.2 32)]) (rest := []) cx hw LV_X11_206 (c_X7_copy l G N σ 38 oS_38 32 oS_32 s2 hs2) oS_38 rfl (by decide) hl.1 rfl (Nat.le_of_ble_eq_true rfl) dX11_leaves_21 rfl (fun H locs hw => ?_)
    refine lv_iconst (v := 1) hx hb dX11_leaves_24 (by decide) ?_
    refine lv_istore_n (lv' := [(2, .int 1), (0, .ref (G.2.2 0)), (1, .int p1)]) hx hb dX11_leaves_25 rfl hl (by decide) rfl (fun ls hl => ?_)
    obtain ⟨J88_4, eJ88_4, hz⟩ := u_let hz
    have WJ88_4 : ∀ (s3 : uS) (H : Heap) (locs : List Loc) (ls : Array Slot), J88_4 s3 = some z → u_W ZC G s3 s H locs → lv_has ls 3 [] → W p l e (u_rm 4) s m args below meth c H locs 0 0 (u_Qi below ZC G s args z.1 z.2) (F0 m 88 ls []) := by
      intro s3 H locs ls hz hw hl
      rw [eJ88_4] at hz
      refine lv_bipush (v := (-2)) hx hb dX11_leaves_88 (by decide) ?_
      exact u_iret cx hw (u_pair hz) dX11_leaves_90
    have WL26_14 : ∀ (k : Nat) (s5 : uS) (x6 : Int32) (H : Heap) (locs : List Loc) (ls : Array Slot), u_lp2 (b_X11_leaves_26 N p1 J88_4) k s5 x6 = some z → u_W ZC G s5 s H locs → lv_has ls 3 [(0, .ref (G.2.2 0)), (1, .int p1), (2, .int x6)] → W p l e (u_rm 4) s m args below meth c H locs 0 0 (u_Qi below ZC G s args z.1 z.2) (F0 m 26 ls []) := by
      intro k
      induction k with
      | zero =>
        intro s5 x6 H locs ls hz
        exact absurd hz (by intro h9; cases h9)
      | succ k ih26_7 =>
        intro s5 x6 H locs ls hz hw hl
        have hz : (b_X11_leaves_26 N p1 J88_4) (u_lp2 (b_X11_leaves_26 N p1 J88_4) k) s5 x6 = some z := hz
        unfold b_X11_leaves_26 at hz
        refine lv_iload_n hx hb dX11_leaves_26 rfl (lv_at hl 2 rfl) ?_
        refine lv_bipush (v := 60) hx hb dX11_leaves_27 (by decide) ?_
        refine lv_icmp_gt (tgt := 88) hx hb dX11_leaves_29 (by decide) (fun hc => ?_) (fun hc => ?_)
        · replace hz := u_ift hz hc
          exact WJ88_4 s5 _ _ _ hz hw (lv_sub hl [] rfl)
        · replace hz := u_iff hz hc
          refine lv_aload_n hx hb dX11_leaves_32 rfl (lv_at hl 0 rfl) ?_
          refine u_getp cx hw F_X11_30 o_X11 rfl dX11_leaves_33 ?_
          refine lv_aload_n hx hb dX11_leaves_36 rfl (lv_at hl 0 rfl) ?_
          obtain ⟨v8, hv8, hz⟩ := u_bind hz
          obtain ⟨qv8, hz⟩ := u_ck_some hz
          refine u_getr cx hw F_X11_89 o_X11 rfl hv8 dX11_leaves_37 ?_
          obtain ⟨v9, hv9, hz⟩ := u_bind hz
          refine u_callVi (As := [.ref (G.2.2 v8)]) (rest := []) cx hw LV_X11_291 (c_X7_turn l G N s5 38 oS_38 v8 (o_R qv8) v9 hv9) oS_38 rfl (by decide) hl.1 rfl (Nat.le_of_ble_eq_true rfl) dX11_leaves_40 rfl (fun H locs hw => ?_)
          refine lv_pop hx hb dX11_leaves_43 rfl ?_
          refine lv_aload_n hx hb dX11_leaves_44 rfl (lv_at hl 0 rfl) ?_
          refine u_getp cx hw F_X11_30 o_X11 rfl dX11_leaves_45 ?_
          refine lv_iload_n hx hb dX11_leaves_48 rfl (lv_at hl 1 rfl) ?_
          obtain ⟨v10, hv10, hz⟩ := u_bind hz
          refine u_callVi (As := [.int p1]) (rest := []) cx hw LV_X11_171 (c_X7_isIn l G N v9.2 38 oS_38 p1 v10 hv10) oS_38 rfl (by decide) hl.1 rfl (Nat.le_of_ble_eq_true rfl) dX11_leaves_49 rfl (fun H locs hw => ?_)
          refine lv_aload_n hx hb dX11_leaves_52 rfl (lv_at hl 0 rfl) ?_
          refine u_getp cx hw F_X11_26 o_X11 rfl dX11_leaves_53 ?_
          refine lv_iload_n hx hb dX11_leaves_56 rfl (lv_at hl 1 rfl) ?_
          obtain ⟨v11, hv11, hz⟩ := u_bind hz
          refine u_callVi (As := [.int p1]) (rest := [.int v10]) cx hw LV_X11_171 (c_X7_isIn l G N v9.2 32 oS_32 p1 v11 hv11) oS_32 rfl (by decide) hl.1 rfl (Nat.le_of_ble_eq_true rfl) dX11_leaves_57 rfl (fun H locs hw => ?_)
          refine lv_icmp_eq (tgt := 82) hx hb dX11_leaves_60 (by decide) (fun hc => ?_) (fun hc => ?_)
          · replace hz := u_ift hz hc
            obtain ⟨x12, ex12, hz⟩ := u_let hz
            refine lv_iinc (v := x12) (lv' := [(2, .int x12), (0, .ref (G.2.2 0)), (1, .int p1)]) hx hb dX11_leaves_82 hl (k := 2) rfl (by rw [ex12]; rfl) (by decide) rfl (fun ls hl => ?_)
            refine lv_goto (tgt := 26) hx hb dX11_leaves_85 (by decide) ?_
            exact ih26_7 v9.2 x12 _ _ _ hz hw (lv_sub hl [1, 2, 0] rfl)
          · replace hz := u_iff hz hc
            refine lv_aload_n hx hb dX11_leaves_63 rfl (lv_at hl 0 rfl) ?_
            refine u_getp cx hw F_X11_19 o_X11 rfl dX11_leaves_64 ?_
            refine lv_aload_n hx hb dX11_leaves_67 rfl (lv_at hl 0 rfl) ?_
            refine u_getp cx hw F_X11_30 o_X11 rfl dX11_leaves_68 ?_
            refine u_getp cx hw F_X11_161 oS_38 rfl dX11_leaves_71 ?_
            refine lv_iload_n hx hb dX11_leaves_74 rfl (lv_at hl 1 rfl) ?_
            obtain ⟨v13, hv13, hz⟩ := u_bind hz
            refine u_iald cx hw hv13 dX11_leaves_75 ?_
            refine lv_i2l (v := (Int32.toInt64 v13)) hx hb dX11_leaves_76 rfl ?_
            obtain ⟨s14, hs14, hz⟩ := u_bind hz
            refine u_callVv (As := [.long (Int32.toInt64 v13)]) (rest := []) cx hw LV_X11_287 (c_X8_one l G N v9.2 (Int32.toInt64 v13) s14 hs14) o_X8 rfl (by decide) hl.1 rfl (Nat.le_of_ble_eq_true rfl) dX11_leaves_77 rfl (fun H locs hw => ?_)
            refine lv_iload_n hx hb dX11_leaves_80 rfl (lv_at hl 2 rfl) ?_
            exact u_iret cx hw (u_pair hz) dX11_leaves_81
    exact WL26_14 N s2 1 _ _ _ hz hw (lv_sub hl [1, 2, 0] rfl)
  · replace hz := u_ift hz hc
    refine lv_iconst (v := (-1)) hx hb dX11_leaves_11 (by decide) ?_
    exact u_iret cx hw (u_pair hz) dX11_leaves_12
theorem dX11_weakest_0 : decode cX11_weakest 0 = .ok (.iload_n 1, 1) := by decide +kernel
theorem dX11_weakest_1 : decode cX11_weakest 1 = .ok (.invokestatic 298, 3) := by decide +kernel
theorem dX11_weakest_4 : decode cX11_weakest 4 = .ok (.ifCond .ne 5, 3) := by decide +kernel
theorem dX11_weakest_7 : decode cX11_weakest 7 = .ok (.iconst (-1), 1) := by decide +kernel
theorem dX11_weakest_8 : decode cX11_weakest 8 = .ok (.ireturn, 1) := by decide +kernel
theorem dX11_weakest_9 : decode cX11_weakest 9 = .ok (.bipush (-2), 2) := by decide +kernel
theorem dX11_weakest_11 : decode cX11_weakest 11 = .ok (.istore_n 2, 1) := by decide +kernel
theorem dX11_weakest_12 : decode cX11_weakest 12 = .ok (.bipush 9, 2) := by decide +kernel
theorem dX11_weakest_14 : decode cX11_weakest 14 = .ok (.istore_n 3, 1) := by decide +kernel
theorem dX11_weakest_15 : decode cX11_weakest 15 = .ok (.iconst 0, 1) := by decide +kernel
theorem dX11_weakest_16 : decode cX11_weakest 16 = .ok (.istore 4, 2) := by decide +kernel
theorem dX11_weakest_18 : decode cX11_weakest 18 = .ok (.iload 4, 2) := by decide +kernel
theorem dX11_weakest_20 : decode cX11_weakest 20 = .ok (.aload_n 0, 1) := by decide +kernel
theorem dX11_weakest_21 : decode cX11_weakest 21 = .ok (.getfield 26, 3) := by decide +kernel
theorem dX11_weakest_24 : decode cX11_weakest 24 = .ok (.getfield 122, 3) := by decide +kernel
theorem dX11_weakest_27 : decode cX11_weakest 27 = .ok (.if_icmp .ge 70, 3) := by decide +kernel
theorem dX11_weakest_30 : decode cX11_weakest 30 = .ok (.aload_n 0, 1) := by decide +kernel
theorem dX11_weakest_31 : decode cX11_weakest 31 = .ok (.getfield 26, 3) := by decide +kernel
theorem dX11_weakest_34 : decode cX11_weakest 34 = .ok (.getfield 278, 3) := by decide +kernel
theorem dX11_weakest_37 : decode cX11_weakest 37 = .ok (.iload 4, 2) := by decide +kernel
theorem dX11_weakest_39 : decode cX11_weakest 39 = .ok (.ishr, 1) := by decide +kernel
theorem dX11_weakest_40 : decode cX11_weakest 40 = .ok (.iconst 1, 1) := by decide +kernel
theorem dX11_weakest_41 : decode cX11_weakest 41 = .ok (.iand, 1) := by decide +kernel
theorem dX11_weakest_42 : decode cX11_weakest 42 = .ok (.iconst 1, 1) := by decide +kernel
theorem dX11_weakest_43 : decode cX11_weakest 43 = .ok (.if_icmp .ne 6, 3) := by decide +kernel
theorem dX11_weakest_46 : decode cX11_weakest 46 = .ok (.goto 45, 3) := by decide +kernel
theorem dX11_weakest_49 : decode cX11_weakest 49 = .ok (.aload_n 0, 1) := by decide +kernel
theorem dX11_weakest_50 : decode cX11_weakest 50 = .ok (.getfield 30, 3) := by decide +kernel
theorem dX11_weakest_53 : decode cX11_weakest 53 = .ok (.aload_n 0, 1) := by decide +kernel
theorem dX11_weakest_54 : decode cX11_weakest 54 = .ok (.getfield 26, 3) := by decide +kernel
theorem dX11_weakest_57 : decode cX11_weakest 57 = .ok (.iconst 1, 1) := by decide +kernel
theorem dX11_weakest_58 : decode cX11_weakest 58 = .ok (.iload 4, 2) := by decide +kernel
theorem dX11_weakest_60 : decode cX11_weakest 60 = .ok (.ishl, 1) := by decide +kernel
theorem dX11_weakest_61 : decode cX11_weakest 61 = .ok (.aload_n 0, 1) := by decide +kernel
theorem dX11_weakest_62 : decode cX11_weakest 62 = .ok (.getfield 89, 3) := by decide +kernel
theorem dX11_weakest_65 : decode cX11_weakest 65 = .ok (.iload_n 1, 1) := by decide +kernel
theorem dX11_weakest_66 : decode cX11_weakest 66 = .ok (.iconst 0, 1) := by decide +kernel
theorem dX11_weakest_67 : decode cX11_weakest 67 = .ok (.invokevirtual 308, 3) := by decide +kernel
theorem dX11_weakest_70 : decode cX11_weakest 70 = .ok (.aload_n 0, 1) := by decide +kernel
theorem dX11_weakest_71 : decode cX11_weakest 71 = .ok (.getfield 30, 3) := by decide +kernel
theorem dX11_weakest_74 : decode cX11_weakest 74 = .ok (.invokevirtual 224, 3) := by decide +kernel
theorem dX11_weakest_77 : decode cX11_weakest 77 = .ok (.istore 5, 2) := by decide +kernel
theorem dX11_weakest_79 : decode cX11_weakest 79 = .ok (.iload 5, 2) := by decide +kernel
theorem dX11_weakest_81 : decode cX11_weakest 81 = .ok (.iload_n 3, 1) := by decide +kernel
theorem dX11_weakest_82 : decode cX11_weakest 82 = .ok (.if_icmp .ge 9, 3) := by decide +kernel
theorem dX11_weakest_85 : decode cX11_weakest 85 = .ok (.iload 4, 2) := by decide +kernel
theorem dX11_weakest_87 : decode cX11_weakest 87 = .ok (.istore_n 2, 1) := by decide +kernel
theorem dX11_weakest_88 : decode cX11_weakest 88 = .ok (.iload 5, 2) := by decide +kernel
theorem dX11_weakest_90 : decode cX11_weakest 90 = .ok (.istore_n 3, 1) := by decide +kernel
theorem dX11_weakest_91 : decode cX11_weakest 91 = .ok (.iinc 4 1, 3) := by decide +kernel
theorem dX11_weakest_94 : decode cX11_weakest 94 = .ok (.goto (-76), 3) := by decide +kernel
theorem dX11_weakest_97 : decode cX11_weakest 97 = .ok (.iload_n 2, 1) := by decide +kernel
theorem dX11_weakest_98 : decode cX11_weakest 98 = .ok (.ifCond .lt 38, 3) := by decide +kernel
theorem dX11_weakest_101 : decode cX11_weakest 101 = .ok (.aload_n 0, 1) := by decide +kernel
theorem dX11_weakest_102 : decode cX11_weakest 102 = .ok (.getfield 30, 3) := by decide +kernel
theorem dX11_weakest_105 : decode cX11_weakest 105 = .ok (.aload_n 0, 1) := by decide +kernel
theorem dX11_weakest_106 : decode cX11_weakest 106 = .ok (.getfield 26, 3) := by decide +kernel
theorem dX11_weakest_109 : decode cX11_weakest 109 = .ok (.iconst 0, 1) := by decide +kernel
theorem dX11_weakest_110 : decode cX11_weakest 110 = .ok (.aload_n 0, 1) := by decide +kernel
theorem dX11_weakest_111 : decode cX11_weakest 111 = .ok (.getfield 89, 3) := by decide +kernel
theorem dX11_weakest_114 : decode cX11_weakest 114 = .ok (.iload_n 1, 1) := by decide +kernel
theorem dX11_weakest_115 : decode cX11_weakest 115 = .ok (.iconst 0, 1) := by decide +kernel
theorem dX11_weakest_116 : decode cX11_weakest 116 = .ok (.invokevirtual 308, 3) := by decide +kernel
theorem dX11_weakest_119 : decode cX11_weakest 119 = .ok (.aload_n 0, 1) := by decide +kernel
theorem dX11_weakest_120 : decode cX11_weakest 120 = .ok (.getfield 19, 3) := by decide +kernel
theorem dX11_weakest_123 : decode cX11_weakest 123 = .ok (.iload_n 3, 1) := by decide +kernel
theorem dX11_weakest_124 : decode cX11_weakest 124 = .ok (.i2l, 1) := by decide +kernel
theorem dX11_weakest_125 : decode cX11_weakest 125 = .ok (.aload_n 0, 1) := by decide +kernel
theorem dX11_weakest_126 : decode cX11_weakest 126 = .ok (.getfield 30, 3) := by decide +kernel
theorem dX11_weakest_129 : decode cX11_weakest 129 = .ok (.invokevirtual 224, 3) := by decide +kernel
theorem dX11_weakest_132 : decode cX11_weakest 132 = .ok (.i2l, 1) := by decide +kernel
theorem dX11_weakest_133 : decode cX11_weakest 133 = .ok (.invokevirtual 220, 3) := by decide +kernel
theorem dX11_weakest_136 : decode cX11_weakest 136 = .ok (.iload_n 2, 1) := by decide +kernel
theorem dX11_weakest_137 : decode cX11_weakest 137 = .ok (.ireturn, 1) := by decide +kernel
def b_X11_weakest_18 (N : Nat) (p1 : Int32) (J97_5 : uS → Int32 → Int32 → Option (Int32 × uS)) (rec18_14 : uS → Int32 → Int32 → Int32 → Option (Int32 × uS)) (s10 : uS) (x11 : Int32) (x12 : Int32) (x13 : Int32) : Option (Int32 × uS) :=
  if (s10.1 32 8) ≤ x13 then (J97_5 s10 x11 x12) else (u_jn (fun (s15 : uS) (x16 : Int32) (x17 : Int32) => (u_jn (x13 + 1 : Int32) fun x19 =>
  rec18_14 s15 x16 x17 x19 : Option (Int32 × uS))) fun J91_18 =>
  if (((s10.1 32 9) >>> (x13 &&& 31)) &&& 1) = 1 then (J91_18 s10 x11 x12) else ((s10.2.2 0 13).bind fun v20 =>
  u_ck (isR v20) <|
  (f_X7_believeFrom N s10 38 32 (1 <<< (x13 &&& 31)) v20 p1 0).bind fun s21 =>
  (f_X7_howManyIn N s21 38).bind fun v22 =>
  if x12 ≤ v22 then (J91_18 s21 x11 x12) else (J91_18 s21 x13 v22)))
def f_X11_weakest (N : Nat) (σ : uS) (p1 : Int32) : Option (Int32 × uS) := (f_X11_isSignsCrossings N σ p1).bind fun v1 =>
  if v1 = 0 then (some ((-1), σ)) else (u_jn (fun (s2 : uS) (x3 : Int32) (x4 : Int32) => (if x3 < 0 then (some (x3, s2)) else ((s2.2.2 0 13).bind fun v6 =>
  u_ck (isR v6) <|
  (f_X7_believeFrom N s2 38 32 0 v6 p1 0).bind fun s7 =>
  (f_X7_howManyIn N s7 38).bind fun v8 =>
  (f_X8_two N s7 (Int32.toInt64 x4) (Int32.toInt64 v8)).bind fun s9 =>
  some (x3, s9)) : Option (Int32 × uS))) fun J97_5 =>
  u_lp4 (b_X11_weakest_18 N p1 J97_5) N σ (-2) 9 0)
set_option maxRecDepth 100000 in
set_option maxHeartbeats 4000000 in
theorem c_X11_weakest (l : Launch) (G : uG) (N : Nat) (σ : uS) (p1 : Int32) (z : (Int32 × uS)) (hz : f_X11_weakest N σ p1 = some z) : u_Mi l ZC G yX11_weakest cX11_weakest 6 .int 5 [.ref (G.2.2 0), .int p1] σ z.1 z.2 := by
  refine u_Mi_of RX11 (by decide) rfl (Nat.le_of_ble_eq_true rfl) ?_
  intro p e s m args below meth c ls cx hw hl
  have hx := cx.1
  have hb := cx.2.1
  have hl : lv_has ls 6 [(0, .ref (G.2.2 0)), (1, .int p1)] := hl
  unfold f_X11_weakest at hz
  refine lv_iload_n hx hb dX11_weakest_0 rfl (lv_at hl 1 rfl) ?_
  obtain ⟨v1, hv1, hz⟩ := u_bind hz
  refine u_callSi (As := [.int p1]) (rest := []) cx hw LS_X11_298 (c_X11_isSignsCrossings l G N σ p1 v1 hv1) (by decide) hl.1 rfl (Nat.le_of_ble_eq_true rfl) dX11_weakest_1 rfl (fun H locs hw => ?_)
  refine lv_if_ne (tgt := 9) hx hb dX11_weakest_4 (by decide) (fun hc => ?_) (fun hc => ?_)
  · replace hz := u_iff hz hc
    refine lv_bipush (v := (-2)) hx hb dX11_weakest_9 (by decide) ?_
    refine lv_istore_n (lv' := [(2, .int (-2)), (0, .ref (G.2.2 0)), (1, .int p1)]) hx hb dX11_weakest_11 rfl hl (by decide) rfl (fun ls hl => ?_)
    refine lv_bipush (v := 9) hx hb dX11_weakest_12 (by decide) ?_
    refine lv_istore_n (lv' := [(3, .int 9), (2, .int (-2)), (0, .ref (G.2.2 0)), (1, .int p1)]) hx hb dX11_weakest_14 rfl hl (by decide) rfl (fun ls hl => ?_)
    refine lv_iconst (v := 0) hx hb dX11_weakest_15 (by decide) ?_
    refine lv_istore (lv' := [(4, .int 0), (3, .int 9), (2, .int (-2)), (0, .ref (G.2.2 0)), (1, .int p1)]) hx hb dX11_weakest_16 hl (by decide) rfl (fun ls hl => ?_)
    obtain ⟨J97_5, eJ97_5, hz⟩ := u_let hz
    have WJ97_5 : ∀ (s2 : uS) (x3 : Int32) (x4 : Int32) (H : Heap) (locs : List Loc) (ls : Array Slot), J97_5 s2 x3 x4 = some z → u_W ZC G s2 s H locs → lv_has ls 6 [(0, .ref (G.2.2 0)), (1, .int p1), (2, .int x3), (3, .int x4)] → W p l e (u_rm 5) s m args below meth c H locs 0 0 (u_Qi below ZC G s args z.1 z.2) (F0 m 97 ls []) := by
      intro s2 x3 x4 H locs ls hz hw hl
      rw [eJ97_5] at hz
      refine lv_iload_n hx hb dX11_weakest_97 rfl (lv_at hl 2 rfl) ?_
      refine lv_if_lt (tgt := 136) hx hb dX11_weakest_98 (by decide) (fun hc => ?_) (fun hc => ?_)
      · replace hz := u_ift hz hc
        refine lv_iload_n hx hb dX11_weakest_136 rfl (lv_at hl 2 rfl) ?_
        exact u_iret cx hw (u_pair hz) dX11_weakest_137
      · replace hz := u_iff hz hc
        refine lv_aload_n hx hb dX11_weakest_101 rfl (lv_at hl 0 rfl) ?_
        refine u_getp cx hw F_X11_30 o_X11 rfl dX11_weakest_102 ?_
        refine lv_aload_n hx hb dX11_weakest_105 rfl (lv_at hl 0 rfl) ?_
        refine u_getp cx hw F_X11_26 o_X11 rfl dX11_weakest_106 ?_
        refine lv_iconst (v := 0) hx hb dX11_weakest_109 (by decide) ?_
        refine lv_aload_n hx hb dX11_weakest_110 rfl (lv_at hl 0 rfl) ?_
        obtain ⟨v6, hv6, hz⟩ := u_bind hz
        obtain ⟨qv6, hz⟩ := u_ck_some hz
        refine u_getr cx hw F_X11_89 o_X11 rfl hv6 dX11_weakest_111 ?_
        refine lv_iload_n hx hb dX11_weakest_114 rfl (lv_at hl 1 rfl) ?_
        refine lv_iconst (v := 0) hx hb dX11_weakest_115 (by decide) ?_
        obtain ⟨s7, hs7, hz⟩ := u_bind hz
        refine u_callVv (As := [.ref (G.2.2 32), .int 0, .ref (G.2.2 v6), .int p1, .int 0]) (rest := []) cx hw LV_X11_308 (c_X7_believeFrom l G N s2 38 oS_38 32 oS_32 0 v6 (o_R qv6) p1 0 s7 hs7) oS_38 rfl (by decide) hl.1 rfl (Nat.le_of_ble_eq_true rfl) dX11_weakest_116 rfl (fun H locs hw => ?_)
        refine lv_aload_n hx hb dX11_weakest_119 rfl (lv_at hl 0 rfl) ?_
        refine u_getp cx hw F_X11_19 o_X11 rfl dX11_weakest_120 ?_
        refine lv_iload_n hx hb dX11_weakest_123 rfl (lv_at hl 3 rfl) ?_
        refine lv_i2l (v := (Int32.toInt64 x4)) hx hb dX11_weakest_124 rfl ?_
        refine lv_aload_n hx hb dX11_weakest_125 rfl (lv_at hl 0 rfl) ?_
        refine u_getp cx hw F_X11_30 o_X11 rfl dX11_weakest_126 ?_
        obtain ⟨v8, hv8, hz⟩ := u_bind hz
        refine u_callVi (As := []) (rest := [.long (Int32.toInt64 x4), .ref (G.2.2 3)]) cx hw LV_X11_224 (c_X7_howManyIn l G N s7 38 oS_38 v8 hv8) oS_38 rfl (by decide) hl.1 rfl (Nat.le_of_ble_eq_true rfl) dX11_weakest_129 rfl (fun H locs hw => ?_)
        refine lv_i2l (v := (Int32.toInt64 v8)) hx hb dX11_weakest_132 rfl ?_
        obtain ⟨s9, hs9, hz⟩ := u_bind hz
        refine u_callVv (As := [.long (Int32.toInt64 x4), .long (Int32.toInt64 v8)]) (rest := []) cx hw LV_X11_220 (c_X8_two l G N s7 (Int32.toInt64 x4) (Int32.toInt64 v8) s9 hs9) o_X8 rfl (by decide) hl.1 rfl (Nat.le_of_ble_eq_true rfl) dX11_weakest_133 rfl (fun H locs hw => ?_)
        refine lv_iload_n hx hb dX11_weakest_136 rfl (lv_at hl 2 rfl) ?_
        exact u_iret cx hw (u_pair hz) dX11_weakest_137
    have WL18_22 : ∀ (k : Nat) (s10 : uS) (x11 : Int32) (x12 : Int32) (x13 : Int32) (H : Heap) (locs : List Loc) (ls : Array Slot), u_lp4 (b_X11_weakest_18 N p1 J97_5) k s10 x11 x12 x13 = some z → u_W ZC G s10 s H locs → lv_has ls 6 [(0, .ref (G.2.2 0)), (1, .int p1), (2, .int x11), (3, .int x12), (4, .int x13)] → W p l e (u_rm 5) s m args below meth c H locs 0 0 (u_Qi below ZC G s args z.1 z.2) (F0 m 18 ls []) := by
      intro k
      induction k with
      | zero =>
        intro s10 x11 x12 x13 H locs ls hz
        exact absurd hz (by intro h9; cases h9)
      | succ k ih18_14 =>
        intro s10 x11 x12 x13 H locs ls hz hw hl
        have hz : (b_X11_weakest_18 N p1 J97_5) (u_lp4 (b_X11_weakest_18 N p1 J97_5) k) s10 x11 x12 x13 = some z := hz
        unfold b_X11_weakest_18 at hz
        refine lv_iload hx hb dX11_weakest_18 (lv_at hl 4 rfl) ?_
        refine lv_aload_n hx hb dX11_weakest_20 rfl (lv_at hl 0 rfl) ?_
        refine u_getp cx hw F_X11_26 o_X11 rfl dX11_weakest_21 ?_
        refine u_geti cx hw F_X11_122 oS_32 rfl dX11_weakest_24 ?_
        refine lv_icmp_ge (tgt := 97) hx hb dX11_weakest_27 (by decide) (fun hc => ?_) (fun hc => ?_)
        · replace hz := u_ift hz hc
          exact WJ97_5 s10 x11 x12 _ _ _ hz hw (lv_sub hl [0, 1, 2, 3] rfl)
        · replace hz := u_iff hz hc
          refine lv_aload_n hx hb dX11_weakest_30 rfl (lv_at hl 0 rfl) ?_
          refine u_getp cx hw F_X11_26 o_X11 rfl dX11_weakest_31 ?_
          refine u_geti cx hw F_X11_278 oS_32 rfl dX11_weakest_34 ?_
          refine lv_iload hx hb dX11_weakest_37 (lv_at hl 4 rfl) ?_
          refine lv_ishr hx hb dX11_weakest_39 ?_
          refine lv_iconst (v := 1) hx hb dX11_weakest_40 (by decide) ?_
          refine lv_iand hx hb dX11_weakest_41 ?_
          refine lv_iconst (v := 1) hx hb dX11_weakest_42 (by decide) ?_
          obtain ⟨J91_18, eJ91_18, hz⟩ := u_let hz
          have WJ91_18 : ∀ (s15 : uS) (x16 : Int32) (x17 : Int32) (H : Heap) (locs : List Loc) (ls : Array Slot), J91_18 s15 x16 x17 = some z → u_W ZC G s15 s H locs → lv_has ls 6 [(0, .ref (G.2.2 0)), (1, .int p1), (2, .int x16), (3, .int x17), (4, .int x13)] → W p l e (u_rm 5) s m args below meth c H locs 0 0 (u_Qi below ZC G s args z.1 z.2) (F0 m 91 ls []) := by
            intro s15 x16 x17 H locs ls hz hw hl
            rw [eJ91_18] at hz
            obtain ⟨x19, ex19, hz⟩ := u_let hz
            refine lv_iinc (v := x19) (lv' := [(4, .int x19), (0, .ref (G.2.2 0)), (1, .int p1), (2, .int x16), (3, .int x17)]) hx hb dX11_weakest_91 hl (k := 4) rfl (by rw [ex19]; rfl) (by decide) rfl (fun ls hl => ?_)
            refine lv_goto (tgt := 18) hx hb dX11_weakest_94 (by decide) ?_
            exact ih18_14 s15 x16 x17 x19 _ _ _ hz hw (lv_sub hl [1, 2, 3, 4, 0] rfl)
          refine lv_icmp_ne (tgt := 49) hx hb dX11_weakest_43 (by decide) (fun hc => ?_) (fun hc => ?_)
          · replace hz := u_iff hz hc
            refine lv_aload_n hx hb dX11_weakest_49 rfl (lv_at hl 0 rfl) ?_
            refine u_getp cx hw F_X11_30 o_X11 rfl dX11_weakest_50 ?_
            refine lv_aload_n hx hb dX11_weakest_53 rfl (lv_at hl 0 rfl) ?_
            refine u_getp cx hw F_X11_26 o_X11 rfl dX11_weakest_54 ?_
            refine lv_iconst (v := 1) hx hb dX11_weakest_57 (by decide) ?_
            refine lv_iload hx hb dX11_weakest_58 (lv_at hl 4 rfl) ?_
            refine lv_ishl hx hb dX11_weakest_60 ?_
            refine lv_aload_n hx hb dX11_weakest_61 rfl (lv_at hl 0 rfl) ?_
            obtain ⟨v20, hv20, hz⟩ := u_bind hz
            obtain ⟨qv20, hz⟩ := u_ck_some hz
            refine u_getr cx hw F_X11_89 o_X11 rfl hv20 dX11_weakest_62 ?_
            refine lv_iload_n hx hb dX11_weakest_65 rfl (lv_at hl 1 rfl) ?_
            refine lv_iconst (v := 0) hx hb dX11_weakest_66 (by decide) ?_
            obtain ⟨s21, hs21, hz⟩ := u_bind hz
            refine u_callVv (As := [.ref (G.2.2 32), .int (1 <<< (x13 &&& 31)), .ref (G.2.2 v20), .int p1, .int 0]) (rest := []) cx hw LV_X11_308 (c_X7_believeFrom l G N s10 38 oS_38 32 oS_32 (1 <<< (x13 &&& 31)) v20 (o_R qv20) p1 0 s21 hs21) oS_38 rfl (by decide) hl.1 rfl (Nat.le_of_ble_eq_true rfl) dX11_weakest_67 rfl (fun H locs hw => ?_)
            refine lv_aload_n hx hb dX11_weakest_70 rfl (lv_at hl 0 rfl) ?_
            refine u_getp cx hw F_X11_30 o_X11 rfl dX11_weakest_71 ?_
            obtain ⟨v22, hv22, hz⟩ := u_bind hz
            refine u_callVi (As := []) (rest := []) cx hw LV_X11_224 (c_X7_howManyIn l G N s21 38 oS_38 v22 hv22) oS_38 rfl (by decide) hl.1 rfl (Nat.le_of_ble_eq_true rfl) dX11_weakest_74 rfl (fun H locs hw => ?_)
            refine lv_istore (lv' := [(5, .int v22), (0, .ref (G.2.2 0)), (1, .int p1), (2, .int x11), (3, .int x12), (4, .int x13)]) hx hb dX11_weakest_77 hl (by decide) rfl (fun ls hl => ?_)
            refine lv_iload hx hb dX11_weakest_79 (lv_at hl 0 rfl) ?_
            refine lv_iload_n hx hb dX11_weakest_81 rfl (lv_at hl 4 rfl) ?_
            refine lv_icmp_ge (tgt := 91) hx hb dX11_weakest_82 (by decide) (fun hc => ?_) (fun hc => ?_)
            · replace hz := u_ift hz hc
              exact WJ91_18 s21 x11 x12 _ _ _ hz hw (lv_sub hl [1, 2, 3, 4, 5] rfl)
            · replace hz := u_iff hz hc
              refine lv_iload hx hb dX11_weakest_85 (lv_at hl 5 rfl) ?_
              refine lv_istore_n (lv' := [(2, .int x13), (5, .int v22), (0, .ref (G.2.2 0)), (1, .int p1), (3, .int x12), (4, .int x13)]) hx hb dX11_weakest_87 rfl hl (by decide) rfl (fun ls hl => ?_)
              refine lv_iload hx hb dX11_weakest_88 (lv_at hl 1 rfl) ?_
              refine lv_istore_n (lv' := [(3, .int v22), (2, .int x13), (5, .int v22), (0, .ref (G.2.2 0)), (1, .int p1), (4, .int x13)]) hx hb dX11_weakest_90 rfl hl (by decide) rfl (fun ls hl => ?_)
              exact WJ91_18 s21 x13 v22 _ _ _ hz hw (lv_sub hl [3, 4, 1, 0, 5] rfl)
          · replace hz := u_ift hz hc
            refine lv_goto (tgt := 91) hx hb dX11_weakest_46 (by decide) ?_
            exact WJ91_18 s10 x11 x12 _ _ _ hz hw (lv_sub hl [0, 1, 2, 3, 4] rfl)
    exact WL18_22 N σ (-2) 9 0 _ _ _ hz hw (lv_sub hl [3, 4, 2, 1, 0] rfl)
  · replace hz := u_ift hz hc
    refine lv_iconst (v := (-1)) hx hb dX11_weakest_7 (by decide) ?_
    exact u_iret cx hw (u_pair hz) dX11_weakest_8
theorem dX11_mean_0 : decode cX11_mean 0 = .ok (.aload_n 0, 1) := by decide +kernel
theorem dX11_mean_1 : decode cX11_mean 1 = .ok (.getfield 26, 3) := by decide +kernel
theorem dX11_mean_4 : decode cX11_mean 4 = .ok (.invokevirtual 224, 3) := by decide +kernel
theorem dX11_mean_7 : decode cX11_mean 7 = .ok (.istore_n 1, 1) := by decide +kernel
theorem dX11_mean_8 : decode cX11_mean 8 = .ok (.iconst 0, 1) := by decide +kernel
theorem dX11_mean_9 : decode cX11_mean 9 = .ok (.istore_n 2, 1) := by decide +kernel
theorem dX11_mean_10 : decode cX11_mean 10 = .ok (.iconst 0, 1) := by decide +kernel
theorem dX11_mean_11 : decode cX11_mean 11 = .ok (.istore_n 3, 1) := by decide +kernel
theorem dX11_mean_12 : decode cX11_mean 12 = .ok (.iload_n 3, 1) := by decide +kernel
theorem dX11_mean_13 : decode cX11_mean 13 = .ok (.aload_n 0, 1) := by decide +kernel
theorem dX11_mean_14 : decode cX11_mean 14 = .ok (.getfield 26, 3) := by decide +kernel
theorem dX11_mean_17 : decode cX11_mean 17 = .ok (.getfield 122, 3) := by decide +kernel
theorem dX11_mean_20 : decode cX11_mean 20 = .ok (.if_icmp .ge 36, 3) := by decide +kernel
theorem dX11_mean_23 : decode cX11_mean 23 = .ok (.iload_n 2, 1) := by decide +kernel
theorem dX11_mean_24 : decode cX11_mean 24 = .ok (.aload_n 0, 1) := by decide +kernel
theorem dX11_mean_25 : decode cX11_mean 25 = .ok (.getfield 26, 3) := by decide +kernel
theorem dX11_mean_28 : decode cX11_mean 28 = .ok (.iload_n 3, 1) := by decide +kernel
theorem dX11_mean_29 : decode cX11_mean 29 = .ok (.invokevirtual 171, 3) := by decide +kernel
theorem dX11_mean_32 : decode cX11_mean 32 = .ok (.ifCond .eq 15, 3) := by decide +kernel
theorem dX11_mean_35 : decode cX11_mean 35 = .ok (.aload_n 0, 1) := by decide +kernel
theorem dX11_mean_36 : decode cX11_mean 36 = .ok (.getfield 26, 3) := by decide +kernel
theorem dX11_mean_39 : decode cX11_mean 39 = .ok (.getfield 161, 3) := by decide +kernel
theorem dX11_mean_42 : decode cX11_mean 42 = .ok (.iload_n 3, 1) := by decide +kernel
theorem dX11_mean_43 : decode cX11_mean 43 = .ok (.iaload, 1) := by decide +kernel
theorem dX11_mean_44 : decode cX11_mean 44 = .ok (.goto 4, 3) := by decide +kernel
theorem dX11_mean_47 : decode cX11_mean 47 = .ok (.iconst 0, 1) := by decide +kernel
theorem dX11_mean_48 : decode cX11_mean 48 = .ok (.iadd, 1) := by decide +kernel
theorem dX11_mean_49 : decode cX11_mean 49 = .ok (.istore_n 2, 1) := by decide +kernel
theorem dX11_mean_50 : decode cX11_mean 50 = .ok (.iinc 3 1, 3) := by decide +kernel
theorem dX11_mean_53 : decode cX11_mean 53 = .ok (.goto (-41), 3) := by decide +kernel
theorem dX11_mean_56 : decode cX11_mean 56 = .ok (.aload_n 0, 1) := by decide +kernel
theorem dX11_mean_57 : decode cX11_mean 57 = .ok (.iload_n 2, 1) := by decide +kernel
theorem dX11_mean_58 : decode cX11_mean 58 = .ok (.i2l, 1) := by decide +kernel
theorem dX11_mean_59 : decode cX11_mean 59 = .ok (.iload_n 1, 1) := by decide +kernel
theorem dX11_mean_60 : decode cX11_mean 60 = .ok (.i2l, 1) := by decide +kernel
theorem dX11_mean_61 : decode cX11_mean 61 = .ok (.invokevirtual 312, 3) := by decide +kernel
theorem dX11_mean_64 : decode cX11_mean 64 = .ok (.iload_n 1, 1) := by decide +kernel
theorem dX11_mean_65 : decode cX11_mean 65 = .ok (.ireturn, 1) := by decide +kernel
def b_X11_mean_12 (N : Nat) (σ : uS) (J56_3 : Int32 → Option (Int32 × uS)) (rec12_7 : Int32 → Int32 → Option (Int32 × uS)) (x5 : Int32) (x6 : Int32) : Option (Int32 × uS) :=
  if (σ.1 32 8) ≤ x6 then (J56_3 x5) else ((f_X7_isIn N σ 32 x6).bind fun v8 =>
  u_jn (fun (t9 : Int32) => (u_jn ((x5 + t9) : Int32) fun x11 =>
  u_jn (x6 + 1 : Int32) fun x12 =>
  rec12_7 x11 x12 : Option (Int32 × uS))) fun J48_10 =>
  if v8 = 0 then (J48_10 0) else ((u_rI ZC σ 0 34 x6).bind fun v13 =>
  J48_10 v13))
def f_X11_mean (N : Nat) (σ : uS) : Option (Int32 × uS) := (f_X7_howManyIn N σ 32).bind fun v1 =>
  u_jn (fun (x2 : Int32) => ((f_X11_tellFraction N σ (Int32.toInt64 x2) (Int32.toInt64 v1)).bind fun s4 =>
  some (v1, s4) : Option (Int32 × uS))) fun J56_3 =>
  u_lp2 (b_X11_mean_12 N σ J56_3) N 0 0
set_option maxRecDepth 100000 in
set_option maxHeartbeats 4000000 in
theorem c_X11_mean (l : Launch) (G : uG) (N : Nat) (σ : uS) (z : (Int32 × uS)) (hz : f_X11_mean N σ = some z) : u_Mi l ZC G yX11_mean cX11_mean 4 .int 3 [.ref (G.2.2 0)] σ z.1 z.2 := by
  refine u_Mi_of RX11 (by decide) rfl (Nat.le_of_ble_eq_true rfl) ?_
  intro p e s m args below meth c ls cx hw hl
  have hx := cx.1
  have hb := cx.2.1
  have hl : lv_has ls 4 [(0, .ref (G.2.2 0))] := hl
  unfold f_X11_mean at hz
  refine lv_aload_n hx hb dX11_mean_0 rfl (lv_at hl 0 rfl) ?_
  refine u_getp cx hw F_X11_26 o_X11 rfl dX11_mean_1 ?_
  obtain ⟨v1, hv1, hz⟩ := u_bind hz
  refine u_callVi (As := []) (rest := []) cx hw LV_X11_224 (c_X7_howManyIn l G N σ 32 oS_32 v1 hv1) oS_32 rfl (by decide) hl.1 rfl (Nat.le_of_ble_eq_true rfl) dX11_mean_4 rfl (fun H locs hw => ?_)
  refine lv_istore_n (lv' := [(1, .int v1), (0, .ref (G.2.2 0))]) hx hb dX11_mean_7 rfl hl (by decide) rfl (fun ls hl => ?_)
  refine lv_iconst (v := 0) hx hb dX11_mean_8 (by decide) ?_
  refine lv_istore_n (lv' := [(2, .int 0), (1, .int v1), (0, .ref (G.2.2 0))]) hx hb dX11_mean_9 rfl hl (by decide) rfl (fun ls hl => ?_)
  refine lv_iconst (v := 0) hx hb dX11_mean_10 (by decide) ?_
  refine lv_istore_n (lv' := [(3, .int 0), (2, .int 0), (1, .int v1), (0, .ref (G.2.2 0))]) hx hb dX11_mean_11 rfl hl (by decide) rfl (fun ls hl => ?_)
  obtain ⟨J56_3, eJ56_3, hz⟩ := u_let hz
  have WJ56_3 : ∀ (x2 : Int32) (H : Heap) (locs : List Loc) (ls : Array Slot), J56_3 x2 = some z → u_W ZC G σ s H locs → lv_has ls 4 [(0, .ref (G.2.2 0)), (1, .int v1), (2, .int x2)] → W p l e (u_rm 3) s m args below meth c H locs 0 0 (u_Qi below ZC G s args z.1 z.2) (F0 m 56 ls []) := by
    intro x2 H locs ls hz hw hl
    rw [eJ56_3] at hz
    refine lv_aload_n hx hb dX11_mean_56 rfl (lv_at hl 0 rfl) ?_
    refine lv_iload_n hx hb dX11_mean_57 rfl (lv_at hl 2 rfl) ?_
    refine lv_i2l (v := (Int32.toInt64 x2)) hx hb dX11_mean_58 rfl ?_
    refine lv_iload_n hx hb dX11_mean_59 rfl (lv_at hl 1 rfl) ?_
    refine lv_i2l (v := (Int32.toInt64 v1)) hx hb dX11_mean_60 rfl ?_
    obtain ⟨s4, hs4, hz⟩ := u_bind hz
    refine u_callVv (As := [.long (Int32.toInt64 x2), .long (Int32.toInt64 v1)]) (rest := []) cx hw LV_X11_312 (c_X11_tellFraction l G N σ (Int32.toInt64 x2) (Int32.toInt64 v1) s4 hs4) o_X11 rfl (by decide) hl.1 rfl (Nat.le_of_ble_eq_true rfl) dX11_mean_61 rfl (fun H locs hw => ?_)
    refine lv_iload_n hx hb dX11_mean_64 rfl (lv_at hl 1 rfl) ?_
    exact u_iret cx hw (u_pair hz) dX11_mean_65
  have WL12_13 : ∀ (k : Nat) (x5 : Int32) (x6 : Int32) (H : Heap) (locs : List Loc) (ls : Array Slot), u_lp2 (b_X11_mean_12 N σ J56_3) k x5 x6 = some z → u_W ZC G σ s H locs → lv_has ls 4 [(0, .ref (G.2.2 0)), (1, .int v1), (2, .int x5), (3, .int x6)] → W p l e (u_rm 3) s m args below meth c H locs 0 0 (u_Qi below ZC G s args z.1 z.2) (F0 m 12 ls []) := by
    intro k
    induction k with
    | zero =>
      intro x5 x6 H locs ls hz
      exact absurd hz (by intro h9; cases h9)
    | succ k ih12_7 =>
      intro x5 x6 H locs ls hz hw hl
      have hz : (b_X11_mean_12 N σ J56_3) (u_lp2 (b_X11_mean_12 N σ J56_3) k) x5 x6 = some z := hz
      unfold b_X11_mean_12 at hz
      refine lv_iload_n hx hb dX11_mean_12 rfl (lv_at hl 3 rfl) ?_
      refine lv_aload_n hx hb dX11_mean_13 rfl (lv_at hl 0 rfl) ?_
      refine u_getp cx hw F_X11_26 o_X11 rfl dX11_mean_14 ?_
      refine u_geti cx hw F_X11_122 oS_32 rfl dX11_mean_17 ?_
      refine lv_icmp_ge (tgt := 56) hx hb dX11_mean_20 (by decide) (fun hc => ?_) (fun hc => ?_)
      · replace hz := u_ift hz hc
        exact WJ56_3 x5 _ _ _ hz hw (lv_sub hl [0, 1, 2] rfl)
      · replace hz := u_iff hz hc
        refine lv_iload_n hx hb dX11_mean_23 rfl (lv_at hl 2 rfl) ?_
        refine lv_aload_n hx hb dX11_mean_24 rfl (lv_at hl 0 rfl) ?_
        refine u_getp cx hw F_X11_26 o_X11 rfl dX11_mean_25 ?_
        refine lv_iload_n hx hb dX11_mean_28 rfl (lv_at hl 3 rfl) ?_
        obtain ⟨v8, hv8, hz⟩ := u_bind hz
        refine u_callVi (As := [.int x6]) (rest := [.int x5]) cx hw LV_X11_171 (c_X7_isIn l G N σ 32 oS_32 x6 v8 hv8) oS_32 rfl (by decide) hl.1 rfl (Nat.le_of_ble_eq_true rfl) dX11_mean_29 rfl (fun H locs hw => ?_)
        obtain ⟨J48_10, eJ48_10, hz⟩ := u_let hz
        have WJ48_10 : ∀ (t9 : Int32) (H : Heap) (locs : List Loc) (ls : Array Slot), J48_10 t9 = some z → u_W ZC G σ s H locs → lv_has ls 4 [(0, .ref (G.2.2 0)), (1, .int v1), (3, .int x6)] → W p l e (u_rm 3) s m args below meth c H locs 0 0 (u_Qi below ZC G s args z.1 z.2) (F0 m 48 ls [.int t9, .int x5]) := by
          intro t9 H locs ls hz hw hl
          rw [eJ48_10] at hz
          refine lv_iadd hx hb dX11_mean_48 ?_
          obtain ⟨x11, ex11, hz⟩ := u_let hz
          refine u_topi ex11 ?_
          refine lv_istore_n (lv' := [(2, .int x11), (0, .ref (G.2.2 0)), (1, .int v1), (3, .int x6)]) hx hb dX11_mean_49 rfl hl (by decide) rfl (fun ls hl => ?_)
          obtain ⟨x12, ex12, hz⟩ := u_let hz
          refine lv_iinc (v := x12) (lv' := [(3, .int x12), (2, .int x11), (0, .ref (G.2.2 0)), (1, .int v1)]) hx hb dX11_mean_50 hl (k := 3) rfl (by rw [ex12]; rfl) (by decide) rfl (fun ls hl => ?_)
          refine lv_goto (tgt := 12) hx hb dX11_mean_53 (by decide) ?_
          exact ih12_7 x11 x12 _ _ _ hz hw (lv_sub hl [2, 3, 1, 0] rfl)
        refine lv_if_eq (tgt := 47) hx hb dX11_mean_32 (by decide) (fun hc => ?_) (fun hc => ?_)
        · replace hz := u_ift hz hc
          refine lv_iconst (v := 0) hx hb dX11_mean_47 (by decide) ?_
          exact WJ48_10 0 _ _ _ hz hw (lv_sub hl [0, 1, 3] rfl)
        · replace hz := u_iff hz hc
          refine lv_aload_n hx hb dX11_mean_35 rfl (lv_at hl 0 rfl) ?_
          refine u_getp cx hw F_X11_26 o_X11 rfl dX11_mean_36 ?_
          refine u_getp cx hw F_X11_161 oS_32 rfl dX11_mean_39 ?_
          refine lv_iload_n hx hb dX11_mean_42 rfl (lv_at hl 3 rfl) ?_
          obtain ⟨v13, hv13, hz⟩ := u_bind hz
          refine u_iald cx hw hv13 dX11_mean_43 ?_
          refine lv_goto (tgt := 48) hx hb dX11_mean_44 (by decide) ?_
          exact WJ48_10 v13 _ _ _ hz hw (lv_sub hl [0, 1, 3] rfl)
  exact WL12_13 N 0 0 _ _ _ hz hw (lv_sub hl [3, 2, 1, 0] rfl)
theorem dX11_whomSignsMove_0 : decode cX11_whomSignsMove 0 = .ok (.aload_n 0, 1) := by decide +kernel
theorem dX11_whomSignsMove_1 : decode cX11_whomSignsMove 1 = .ok (.getfield 30, 3) := by decide +kernel
theorem dX11_whomSignsMove_4 : decode cX11_whomSignsMove 4 = .ok (.aload_n 0, 1) := by decide +kernel
theorem dX11_whomSignsMove_5 : decode cX11_whomSignsMove 5 = .ok (.getfield 26, 3) := by decide +kernel
theorem dX11_whomSignsMove_8 : decode cX11_whomSignsMove 8 = .ok (.invokevirtual 206, 3) := by decide +kernel
theorem dX11_whomSignsMove_11 : decode cX11_whomSignsMove 11 = .ok (.aload_n 0, 1) := by decide +kernel
theorem dX11_whomSignsMove_12 : decode cX11_whomSignsMove 12 = .ok (.getfield 30, 3) := by decide +kernel
theorem dX11_whomSignsMove_15 : decode cX11_whomSignsMove 15 = .ok (.aload_n 0, 1) := by decide +kernel
theorem dX11_whomSignsMove_16 : decode cX11_whomSignsMove 16 = .ok (.getfield 26, 3) := by decide +kernel
theorem dX11_whomSignsMove_19 : decode cX11_whomSignsMove 19 = .ok (.invokevirtual 305, 3) := by decide +kernel
theorem dX11_whomSignsMove_22 : decode cX11_whomSignsMove 22 = .ok (.putfield 278, 3) := by decide +kernel
theorem dX11_whomSignsMove_25 : decode cX11_whomSignsMove 25 = .ok (.iconst 0, 1) := by decide +kernel
theorem dX11_whomSignsMove_26 : decode cX11_whomSignsMove 26 = .ok (.istore_n 1, 1) := by decide +kernel
theorem dX11_whomSignsMove_27 : decode cX11_whomSignsMove 27 = .ok (.iconst 0, 1) := by decide +kernel
theorem dX11_whomSignsMove_28 : decode cX11_whomSignsMove 28 = .ok (.istore_n 2, 1) := by decide +kernel
theorem dX11_whomSignsMove_29 : decode cX11_whomSignsMove 29 = .ok (.iload_n 2, 1) := by decide +kernel
theorem dX11_whomSignsMove_30 : decode cX11_whomSignsMove 30 = .ok (.aload_n 0, 1) := by decide +kernel
theorem dX11_whomSignsMove_31 : decode cX11_whomSignsMove 31 = .ok (.getfield 26, 3) := by decide +kernel
theorem dX11_whomSignsMove_34 : decode cX11_whomSignsMove 34 = .ok (.getfield 122, 3) := by decide +kernel
theorem dX11_whomSignsMove_37 : decode cX11_whomSignsMove 37 = .ok (.if_icmp .ge 42, 3) := by decide +kernel
theorem dX11_whomSignsMove_40 : decode cX11_whomSignsMove 40 = .ok (.aload_n 0, 1) := by decide +kernel
theorem dX11_whomSignsMove_41 : decode cX11_whomSignsMove 41 = .ok (.getfield 89, 3) := by decide +kernel
theorem dX11_whomSignsMove_44 : decode cX11_whomSignsMove 44 = .ok (.aload_n 0, 1) := by decide +kernel
theorem dX11_whomSignsMove_45 : decode cX11_whomSignsMove 45 = .ok (.getfield 26, 3) := by decide +kernel
theorem dX11_whomSignsMove_48 : decode cX11_whomSignsMove 48 = .ok (.iload_n 2, 1) := by decide +kernel
theorem dX11_whomSignsMove_49 : decode cX11_whomSignsMove 49 = .ok (.invokevirtual 174, 3) := by decide +kernel
theorem dX11_whomSignsMove_52 : decode cX11_whomSignsMove 52 = .ok (.aload_n 0, 1) := by decide +kernel
theorem dX11_whomSignsMove_53 : decode cX11_whomSignsMove 53 = .ok (.getfield 89, 3) := by decide +kernel
theorem dX11_whomSignsMove_56 : decode cX11_whomSignsMove 56 = .ok (.aload_n 0, 1) := by decide +kernel
theorem dX11_whomSignsMove_57 : decode cX11_whomSignsMove 57 = .ok (.getfield 30, 3) := by decide +kernel
theorem dX11_whomSignsMove_60 : decode cX11_whomSignsMove 60 = .ok (.iload_n 2, 1) := by decide +kernel
theorem dX11_whomSignsMove_61 : decode cX11_whomSignsMove 61 = .ok (.invokevirtual 174, 3) := by decide +kernel
theorem dX11_whomSignsMove_64 : decode cX11_whomSignsMove 64 = .ok (.if_icmp .eq 9, 3) := by decide +kernel
theorem dX11_whomSignsMove_67 : decode cX11_whomSignsMove 67 = .ok (.iload_n 1, 1) := by decide +kernel
theorem dX11_whomSignsMove_68 : decode cX11_whomSignsMove 68 = .ok (.iconst 1, 1) := by decide +kernel
theorem dX11_whomSignsMove_69 : decode cX11_whomSignsMove 69 = .ok (.iload_n 2, 1) := by decide +kernel
theorem dX11_whomSignsMove_70 : decode cX11_whomSignsMove 70 = .ok (.ishl, 1) := by decide +kernel
theorem dX11_whomSignsMove_71 : decode cX11_whomSignsMove 71 = .ok (.ior, 1) := by decide +kernel
theorem dX11_whomSignsMove_72 : decode cX11_whomSignsMove 72 = .ok (.istore_n 1, 1) := by decide +kernel
theorem dX11_whomSignsMove_73 : decode cX11_whomSignsMove 73 = .ok (.iinc 2 1, 3) := by decide +kernel
theorem dX11_whomSignsMove_76 : decode cX11_whomSignsMove 76 = .ok (.goto (-47), 3) := by decide +kernel
theorem dX11_whomSignsMove_79 : decode cX11_whomSignsMove 79 = .ok (.iload_n 1, 1) := by decide +kernel
theorem dX11_whomSignsMove_80 : decode cX11_whomSignsMove 80 = .ok (.ireturn, 1) := by decide +kernel
def b_X11_whomSignsMove_29 (N : Nat) (J79_6 : uS → Int32 → Option (Int32 × uS)) (rec29_10 : uS → Int32 → Int32 → Option (Int32 × uS)) (s7 : uS) (x8 : Int32) (x9 : Int32) : Option (Int32 × uS) :=
  if (s7.1 32 8) ≤ x9 then (J79_6 s7 x8) else ((s7.2.2 0 13).bind fun v11 =>
  u_ck (isR v11) <|
  (f_X6_behind N s7 v11 32 x9).bind fun v12 =>
  (v12.2.2.2 0 13).bind fun v13 =>
  u_ck (isR v13) <|
  (f_X6_behind N v12.2 v13 38 x9).bind fun v14 =>
  u_jn (fun (x15 : Int32) => (u_jn (x9 + 1 : Int32) fun x17 =>
  rec29_10 v14.2 x15 x17 : Option (Int32 × uS))) fun J73_16 =>
  if v12.1 = v14.1 then (J73_16 x8) else (u_jn ((x8 ||| (1 <<< (x9 &&& 31))) : Int32) fun x18 =>
  J73_16 x18))
def f_X11_whomSignsMove (N : Nat) (σ : uS) : Option (Int32 × uS) := (f_X7_copy N σ 38 32).bind fun s1 =>
  (f_X7_everybody N s1 32).bind fun v2 =>
  u_jn (u_pI s1 38 9 v2) fun s3 =>
  u_jn (fun (s4 : uS) (x5 : Int32) => (some (x5, s4) : Option (Int32 × uS))) fun J79_6 =>
  u_lp3 (b_X11_whomSignsMove_29 N J79_6) N s3 0 0
set_option maxRecDepth 100000 in
set_option maxHeartbeats 4000000 in
theorem c_X11_whomSignsMove (l : Launch) (G : uG) (N : Nat) (σ : uS) (z : (Int32 × uS)) (hz : f_X11_whomSignsMove N σ = some z) : u_Mi l ZC G yX11_whomSignsMove cX11_whomSignsMove 3 .int 3 [.ref (G.2.2 0)] σ z.1 z.2 := by
  refine u_Mi_of RX11 (by decide) rfl (Nat.le_of_ble_eq_true rfl) ?_
  intro p e s m args below meth c ls cx hw hl
  have hx := cx.1
  have hb := cx.2.1
  have hl : lv_has ls 3 [(0, .ref (G.2.2 0))] := hl
  unfold f_X11_whomSignsMove at hz
  refine lv_aload_n hx hb dX11_whomSignsMove_0 rfl (lv_at hl 0 rfl) ?_
  refine u_getp cx hw F_X11_30 o_X11 rfl dX11_whomSignsMove_1 ?_
  refine lv_aload_n hx hb dX11_whomSignsMove_4 rfl (lv_at hl 0 rfl) ?_
  refine u_getp cx hw F_X11_26 o_X11 rfl dX11_whomSignsMove_5 ?_
  obtain ⟨s1, hs1, hz⟩ := u_bind hz
  refine u_callVv (As := [.ref (G.2.2 32)]) (rest := []) cx hw LV_X11_206 (c_X7_copy l G N σ 38 oS_38 32 oS_32 s1 hs1) oS_38 rfl (by decide) hl.1 rfl (Nat.le_of_ble_eq_true rfl) dX11_whomSignsMove_8 rfl (fun H locs hw => ?_)
  refine lv_aload_n hx hb dX11_whomSignsMove_11 rfl (lv_at hl 0 rfl) ?_
  refine u_getp cx hw F_X11_30 o_X11 rfl dX11_whomSignsMove_12 ?_
  refine lv_aload_n hx hb dX11_whomSignsMove_15 rfl (lv_at hl 0 rfl) ?_
  refine u_getp cx hw F_X11_26 o_X11 rfl dX11_whomSignsMove_16 ?_
  obtain ⟨v2, hv2, hz⟩ := u_bind hz
  refine u_callVi (As := []) (rest := [.ref (G.2.2 38)]) cx hw LV_X11_305 (c_X7_everybody l G N s1 32 oS_32 v2 hv2) oS_32 rfl (by decide) hl.1 rfl (Nat.le_of_ble_eq_true rfl) dX11_whomSignsMove_19 rfl (fun H locs hw => ?_)
  obtain ⟨s3, es3, hz⟩ := u_let hz
  refine u_puti2 cx hw P_X11_278 oS_38 rfl es3 dX11_whomSignsMove_22 (fun H locs hw => ?_)
  refine lv_iconst (v := 0) hx hb dX11_whomSignsMove_25 (by decide) ?_
  refine lv_istore_n (lv' := [(1, .int 0), (0, .ref (G.2.2 0))]) hx hb dX11_whomSignsMove_26 rfl hl (by decide) rfl (fun ls hl => ?_)
  refine lv_iconst (v := 0) hx hb dX11_whomSignsMove_27 (by decide) ?_
  refine lv_istore_n (lv' := [(2, .int 0), (1, .int 0), (0, .ref (G.2.2 0))]) hx hb dX11_whomSignsMove_28 rfl hl (by decide) rfl (fun ls hl => ?_)
  obtain ⟨J79_6, eJ79_6, hz⟩ := u_let hz
  have WJ79_6 : ∀ (s4 : uS) (x5 : Int32) (H : Heap) (locs : List Loc) (ls : Array Slot), J79_6 s4 x5 = some z → u_W ZC G s4 s H locs → lv_has ls 3 [(1, .int x5)] → W p l e (u_rm 3) s m args below meth c H locs 0 0 (u_Qi below ZC G s args z.1 z.2) (F0 m 79 ls []) := by
    intro s4 x5 H locs ls hz hw hl
    rw [eJ79_6] at hz
    refine lv_iload_n hx hb dX11_whomSignsMove_79 rfl (lv_at hl 0 rfl) ?_
    exact u_iret cx hw (u_pair hz) dX11_whomSignsMove_80
  have WL29_18 : ∀ (k : Nat) (s7 : uS) (x8 : Int32) (x9 : Int32) (H : Heap) (locs : List Loc) (ls : Array Slot), u_lp3 (b_X11_whomSignsMove_29 N J79_6) k s7 x8 x9 = some z → u_W ZC G s7 s H locs → lv_has ls 3 [(0, .ref (G.2.2 0)), (1, .int x8), (2, .int x9)] → W p l e (u_rm 3) s m args below meth c H locs 0 0 (u_Qi below ZC G s args z.1 z.2) (F0 m 29 ls []) := by
    intro k
    induction k with
    | zero =>
      intro s7 x8 x9 H locs ls hz
      exact absurd hz (by intro h9; cases h9)
    | succ k ih29_10 =>
      intro s7 x8 x9 H locs ls hz hw hl
      have hz : (b_X11_whomSignsMove_29 N J79_6) (u_lp3 (b_X11_whomSignsMove_29 N J79_6) k) s7 x8 x9 = some z := hz
      unfold b_X11_whomSignsMove_29 at hz
      refine lv_iload_n hx hb dX11_whomSignsMove_29 rfl (lv_at hl 2 rfl) ?_
      refine lv_aload_n hx hb dX11_whomSignsMove_30 rfl (lv_at hl 0 rfl) ?_
      refine u_getp cx hw F_X11_26 o_X11 rfl dX11_whomSignsMove_31 ?_
      refine u_geti cx hw F_X11_122 oS_32 rfl dX11_whomSignsMove_34 ?_
      refine lv_icmp_ge (tgt := 79) hx hb dX11_whomSignsMove_37 (by decide) (fun hc => ?_) (fun hc => ?_)
      · replace hz := u_ift hz hc
        exact WJ79_6 s7 x8 _ _ _ hz hw (lv_sub hl [1] rfl)
      · replace hz := u_iff hz hc
        refine lv_aload_n hx hb dX11_whomSignsMove_40 rfl (lv_at hl 0 rfl) ?_
        obtain ⟨v11, hv11, hz⟩ := u_bind hz
        obtain ⟨qv11, hz⟩ := u_ck_some hz
        refine u_getr cx hw F_X11_89 o_X11 rfl hv11 dX11_whomSignsMove_41 ?_
        refine lv_aload_n hx hb dX11_whomSignsMove_44 rfl (lv_at hl 0 rfl) ?_
        refine u_getp cx hw F_X11_26 o_X11 rfl dX11_whomSignsMove_45 ?_
        refine lv_iload_n hx hb dX11_whomSignsMove_48 rfl (lv_at hl 2 rfl) ?_
        obtain ⟨v12, hv12, hz⟩ := u_bind hz
        refine u_callVi (As := [.ref (G.2.2 32), .int x9]) (rest := []) cx hw LV_X11_174 (c_X6_behind l G N s7 v11 (o_R qv11) 32 oS_32 x9 v12 hv12) (o_R qv11) rfl (by decide) hl.1 rfl (Nat.le_of_ble_eq_true rfl) dX11_whomSignsMove_49 rfl (fun H locs hw => ?_)
        refine lv_aload_n hx hb dX11_whomSignsMove_52 rfl (lv_at hl 0 rfl) ?_
        obtain ⟨v13, hv13, hz⟩ := u_bind hz
        obtain ⟨qv13, hz⟩ := u_ck_some hz
        refine u_getr cx hw F_X11_89 o_X11 rfl hv13 dX11_whomSignsMove_53 ?_
        refine lv_aload_n hx hb dX11_whomSignsMove_56 rfl (lv_at hl 0 rfl) ?_
        refine u_getp cx hw F_X11_30 o_X11 rfl dX11_whomSignsMove_57 ?_
        refine lv_iload_n hx hb dX11_whomSignsMove_60 rfl (lv_at hl 2 rfl) ?_
        obtain ⟨v14, hv14, hz⟩ := u_bind hz
        refine u_callVi (As := [.ref (G.2.2 38), .int x9]) (rest := [.int v12.1]) cx hw LV_X11_174 (c_X6_behind l G N v12.2 v13 (o_R qv13) 38 oS_38 x9 v14 hv14) (o_R qv13) rfl (by decide) hl.1 rfl (Nat.le_of_ble_eq_true rfl) dX11_whomSignsMove_61 rfl (fun H locs hw => ?_)
        obtain ⟨J73_16, eJ73_16, hz⟩ := u_let hz
        have WJ73_16 : ∀ (x15 : Int32) (H : Heap) (locs : List Loc) (ls : Array Slot), J73_16 x15 = some z → u_W ZC G v14.2 s H locs → lv_has ls 3 [(0, .ref (G.2.2 0)), (1, .int x15), (2, .int x9)] → W p l e (u_rm 3) s m args below meth c H locs 0 0 (u_Qi below ZC G s args z.1 z.2) (F0 m 73 ls []) := by
          intro x15 H locs ls hz hw hl
          rw [eJ73_16] at hz
          obtain ⟨x17, ex17, hz⟩ := u_let hz
          refine lv_iinc (v := x17) (lv' := [(2, .int x17), (0, .ref (G.2.2 0)), (1, .int x15)]) hx hb dX11_whomSignsMove_73 hl (k := 2) rfl (by rw [ex17]; rfl) (by decide) rfl (fun ls hl => ?_)
          refine lv_goto (tgt := 29) hx hb dX11_whomSignsMove_76 (by decide) ?_
          exact ih29_10 v14.2 x15 x17 _ _ _ hz hw (lv_sub hl [1, 2, 0] rfl)
        refine lv_icmp_eq (tgt := 73) hx hb dX11_whomSignsMove_64 (by decide) (fun hc => ?_) (fun hc => ?_)
        · replace hz := u_ift hz hc
          exact WJ73_16 x8 _ _ _ hz hw (lv_sub hl [0, 1, 2] rfl)
        · replace hz := u_iff hz hc
          refine lv_iload_n hx hb dX11_whomSignsMove_67 rfl (lv_at hl 1 rfl) ?_
          refine lv_iconst (v := 1) hx hb dX11_whomSignsMove_68 (by decide) ?_
          refine lv_iload_n hx hb dX11_whomSignsMove_69 rfl (lv_at hl 2 rfl) ?_
          refine lv_ishl hx hb dX11_whomSignsMove_70 ?_
          refine lv_ior hx hb dX11_whomSignsMove_71 ?_
          obtain ⟨x18, ex18, hz⟩ := u_let hz
          refine u_topi ex18 ?_
          refine lv_istore_n (lv' := [(1, .int x18), (0, .ref (G.2.2 0)), (2, .int x9)]) hx hb dX11_whomSignsMove_72 rfl hl (by decide) rfl (fun ls hl => ?_)
          exact WJ73_16 x18 _ _ _ hz hw (lv_sub hl [1, 0, 2] rfl)
  exact WL29_18 N s3 0 0 _ _ _ hz hw (lv_sub hl [2, 1, 0] rfl)
theorem dX11_cut_0 : decode cX11_cut 0 = .ok (.aload_n 0, 1) := by decide +kernel
theorem dX11_cut_1 : decode cX11_cut 1 = .ok (.getfield 26, 3) := by decide +kernel
theorem dX11_cut_4 : decode cX11_cut 4 = .ok (.iload_n 1, 1) := by decide +kernel
theorem dX11_cut_5 : decode cX11_cut 5 = .ok (.invokevirtual 156, 3) := by decide +kernel
theorem dX11_cut_8 : decode cX11_cut 8 = .ok (.ifCond .eq 19, 3) := by decide +kernel
theorem dX11_cut_11 : decode cX11_cut 11 = .ok (.aload_n 0, 1) := by decide +kernel
theorem dX11_cut_12 : decode cX11_cut 12 = .ok (.getfield 26, 3) := by decide +kernel
theorem dX11_cut_15 : decode cX11_cut 15 = .ok (.iload_n 2, 1) := by decide +kernel
theorem dX11_cut_16 : decode cX11_cut 16 = .ok (.invokevirtual 156, 3) := by decide +kernel
theorem dX11_cut_19 : decode cX11_cut 19 = .ok (.ifCond .eq 8, 3) := by decide +kernel
theorem dX11_cut_22 : decode cX11_cut 22 = .ok (.iload_n 1, 1) := by decide +kernel
theorem dX11_cut_23 : decode cX11_cut 23 = .ok (.iload_n 2, 1) := by decide +kernel
theorem dX11_cut_24 : decode cX11_cut 24 = .ok (.if_icmp .ne 5, 3) := by decide +kernel
theorem dX11_cut_27 : decode cX11_cut 27 = .ok (.iconst (-1), 1) := by decide +kernel
theorem dX11_cut_28 : decode cX11_cut 28 = .ok (.ireturn, 1) := by decide +kernel
theorem dX11_cut_29 : decode cX11_cut 29 = .ok (.bipush 64, 2) := by decide +kernel
theorem dX11_cut_31 : decode cX11_cut 31 = .ok (.istore_n 3, 1) := by decide +kernel
theorem dX11_cut_32 : decode cX11_cut 32 = .ok (.iconst 0, 1) := by decide +kernel
theorem dX11_cut_33 : decode cX11_cut 33 = .ok (.istore 4, 2) := by decide +kernel
theorem dX11_cut_35 : decode cX11_cut 35 = .ok (.iconst 1, 1) := by decide +kernel
theorem dX11_cut_36 : decode cX11_cut 36 = .ok (.aload_n 0, 1) := by decide +kernel
theorem dX11_cut_37 : decode cX11_cut 37 = .ok (.getfield 26, 3) := by decide +kernel
theorem dX11_cut_40 : decode cX11_cut 40 = .ok (.getfield 122, 3) := by decide +kernel
theorem dX11_cut_43 : decode cX11_cut 43 = .ok (.ishl, 1) := by decide +kernel
theorem dX11_cut_44 : decode cX11_cut 44 = .ok (.istore 5, 2) := by decide +kernel
theorem dX11_cut_46 : decode cX11_cut 46 = .ok (.iconst 0, 1) := by decide +kernel
theorem dX11_cut_47 : decode cX11_cut 47 = .ok (.istore 6, 2) := by decide +kernel
theorem dX11_cut_49 : decode cX11_cut 49 = .ok (.iload 6, 2) := by decide +kernel
theorem dX11_cut_51 : decode cX11_cut 51 = .ok (.iload 5, 2) := by decide +kernel
theorem dX11_cut_53 : decode cX11_cut 53 = .ok (.if_icmp .ge 65, 3) := by decide +kernel
theorem dX11_cut_56 : decode cX11_cut 56 = .ok (.iload 6, 2) := by decide +kernel
theorem dX11_cut_58 : decode cX11_cut 58 = .ok (.iload_n 1, 1) := by decide +kernel
theorem dX11_cut_59 : decode cX11_cut 59 = .ok (.ishr, 1) := by decide +kernel
theorem dX11_cut_60 : decode cX11_cut 60 = .ok (.iconst 1, 1) := by decide +kernel
theorem dX11_cut_61 : decode cX11_cut 61 = .ok (.iand, 1) := by decide +kernel
theorem dX11_cut_62 : decode cX11_cut 62 = .ok (.iconst 1, 1) := by decide +kernel
theorem dX11_cut_63 : decode cX11_cut 63 = .ok (.if_icmp .ne 16, 3) := by decide +kernel
theorem dX11_cut_66 : decode cX11_cut 66 = .ok (.iload 6, 2) := by decide +kernel
theorem dX11_cut_68 : decode cX11_cut 68 = .ok (.iload_n 2, 1) := by decide +kernel
theorem dX11_cut_69 : decode cX11_cut 69 = .ok (.ishr, 1) := by decide +kernel
theorem dX11_cut_70 : decode cX11_cut 70 = .ok (.iconst 1, 1) := by decide +kernel
theorem dX11_cut_71 : decode cX11_cut 71 = .ok (.iand, 1) := by decide +kernel
theorem dX11_cut_72 : decode cX11_cut 72 = .ok (.ifCond .ne 7, 3) := by decide +kernel
theorem dX11_cut_75 : decode cX11_cut 75 = .ok (.iconst 1, 1) := by decide +kernel
theorem dX11_cut_76 : decode cX11_cut 76 = .ok (.goto 4, 3) := by decide +kernel
theorem dX11_cut_79 : decode cX11_cut 79 = .ok (.iconst 0, 1) := by decide +kernel
theorem dX11_cut_80 : decode cX11_cut 80 = .ok (.istore 7, 2) := by decide +kernel
theorem dX11_cut_82 : decode cX11_cut 82 = .ok (.iload 7, 2) := by decide +kernel
theorem dX11_cut_84 : decode cX11_cut 84 = .ok (.ifCond .eq 12, 3) := by decide +kernel
theorem dX11_cut_87 : decode cX11_cut 87 = .ok (.aload_n 0, 1) := by decide +kernel
theorem dX11_cut_88 : decode cX11_cut 88 = .ok (.iload 6, 2) := by decide +kernel
theorem dX11_cut_90 : decode cX11_cut 90 = .ok (.invokevirtual 325, 3) := by decide +kernel
theorem dX11_cut_93 : decode cX11_cut 93 = .ok (.goto 4, 3) := by decide +kernel
theorem dX11_cut_96 : decode cX11_cut 96 = .ok (.iload_n 3, 1) := by decide +kernel
theorem dX11_cut_97 : decode cX11_cut 97 = .ok (.istore 8, 2) := by decide +kernel
theorem dX11_cut_99 : decode cX11_cut 99 = .ok (.iload 8, 2) := by decide +kernel
theorem dX11_cut_101 : decode cX11_cut 101 = .ok (.iload_n 3, 1) := by decide +kernel
theorem dX11_cut_102 : decode cX11_cut 102 = .ok (.if_icmp .ge 10, 3) := by decide +kernel
theorem dX11_cut_105 : decode cX11_cut 105 = .ok (.iload 8, 2) := by decide +kernel
theorem dX11_cut_107 : decode cX11_cut 107 = .ok (.istore_n 3, 1) := by decide +kernel
theorem dX11_cut_108 : decode cX11_cut 108 = .ok (.iload 6, 2) := by decide +kernel
theorem dX11_cut_110 : decode cX11_cut 110 = .ok (.istore 4, 2) := by decide +kernel
theorem dX11_cut_112 : decode cX11_cut 112 = .ok (.iinc 6 1, 3) := by decide +kernel
theorem dX11_cut_115 : decode cX11_cut 115 = .ok (.goto (-66), 3) := by decide +kernel
theorem dX11_cut_118 : decode cX11_cut 118 = .ok (.aload_n 0, 1) := by decide +kernel
theorem dX11_cut_119 : decode cX11_cut 119 = .ok (.getfield 19, 3) := by decide +kernel
theorem dX11_cut_122 : decode cX11_cut 122 = .ok (.iload 4, 2) := by decide +kernel
theorem dX11_cut_124 : decode cX11_cut 124 = .ok (.i2l, 1) := by decide +kernel
theorem dX11_cut_125 : decode cX11_cut 125 = .ok (.invokevirtual 287, 3) := by decide +kernel
theorem dX11_cut_128 : decode cX11_cut 128 = .ok (.iload_n 3, 1) := by decide +kernel
theorem dX11_cut_129 : decode cX11_cut 129 = .ok (.ireturn, 1) := by decide +kernel
def b_X11_cut_49 (N : Nat) (σ : uS) (p1 : Int32) (p2 : Int32) (x3 : Int32) (J118_6 : Int32 → Int32 → Option (Int32 × uS)) (rec49_11 : Int32 → Int32 → Int32 → Option (Int32 × uS)) (x8 : Int32) (x9 : Int32) (x10 : Int32) : Option (Int32 × uS) :=
  if x3 ≤ x10 then (J118_6 x8 x9) else (u_jn (fun (t12 : Int32) => (u_jn (fun (t14 : Int32) => (u_jn (fun (x16 : Int32) (x17 : Int32) => (u_jn (x10 + 1 : Int32) fun x19 =>
  rec49_11 x16 x17 x19 : Option (Int32 × uS))) fun J112_18 =>
  if x8 ≤ t14 then (J112_18 x8 x9) else (J112_18 t14 x10) : Option (Int32 × uS))) fun J97_15 =>
  if t12 = 0 then (J97_15 x8) else ((f_X11_glancesOut N σ x10).bind fun v20 =>
  J97_15 v20) : Option (Int32 × uS))) fun J80_13 =>
  u_jn ((J80_13 0 : Option (Int32 × uS))) fun J79_21 =>
  if ((x10 >>> (p1 &&& 31)) &&& 1) = 1 then (if ((x10 >>> (p2 &&& 31)) &&& 1) = 0 then (J80_13 1) else (J79_21)) else (J79_21))
def f_X11_cut (N : Nat) (σ : uS) (p1 : Int32) (p2 : Int32) : Option (Int32 × uS) := (f_X7_isPerson N σ 32 p1).bind fun v1 =>
  if v1 = 0 then (some ((-1), σ)) else ((f_X7_isPerson N σ 32 p2).bind fun v2 =>
  if v2 = 0 then (some ((-1), σ)) else (if p1 = p2 then (some ((-1), σ)) else (u_jn ((1 <<< ((σ.1 32 8) &&& 31)) : Int32) fun x3 =>
  u_jn (fun (x4 : Int32) (x5 : Int32) => ((f_X8_one N σ (Int32.toInt64 x5)).bind fun s7 =>
  some (x4, s7) : Option (Int32 × uS))) fun J118_6 =>
  u_lp3 (b_X11_cut_49 N σ p1 p2 x3 J118_6) N 64 0 0)))
set_option maxRecDepth 100000 in
set_option maxHeartbeats 4000000 in
theorem c_X11_cut (l : Launch) (G : uG) (N : Nat) (σ : uS) (p1 : Int32) (p2 : Int32) (z : (Int32 × uS)) (hz : f_X11_cut N σ p1 p2 = some z) : u_Mi l ZC G yX11_cut cX11_cut 9 .int 3 [.ref (G.2.2 0), .int p1, .int p2] σ z.1 z.2 := by
  refine u_Mi_of RX11 (by decide) rfl (Nat.le_of_ble_eq_true rfl) ?_
  intro p e s m args below meth c ls cx hw hl
  have hx := cx.1
  have hb := cx.2.1
  have hl : lv_has ls 9 [(0, .ref (G.2.2 0)), (1, .int p1), (2, .int p2)] := hl
  unfold f_X11_cut at hz
  refine lv_aload_n hx hb dX11_cut_0 rfl (lv_at hl 0 rfl) ?_
  refine u_getp cx hw F_X11_26 o_X11 rfl dX11_cut_1 ?_
  refine lv_iload_n hx hb dX11_cut_4 rfl (lv_at hl 1 rfl) ?_
  obtain ⟨v1, hv1, hz⟩ := u_bind hz
  refine u_callVi (As := [.int p1]) (rest := []) cx hw LV_X11_156 (c_X7_isPerson l G N σ 32 oS_32 p1 v1 hv1) oS_32 rfl (by decide) hl.1 rfl (Nat.le_of_ble_eq_true rfl) dX11_cut_5 rfl (fun H locs hw => ?_)
  refine lv_if_eq (tgt := 27) hx hb dX11_cut_8 (by decide) (fun hc => ?_) (fun hc => ?_)
  · replace hz := u_ift hz hc
    refine lv_iconst (v := (-1)) hx hb dX11_cut_27 (by decide) ?_
    exact u_iret cx hw (u_pair hz) dX11_cut_28
  · replace hz := u_iff hz hc
    refine lv_aload_n hx hb dX11_cut_11 rfl (lv_at hl 0 rfl) ?_
    refine u_getp cx hw F_X11_26 o_X11 rfl dX11_cut_12 ?_
    refine lv_iload_n hx hb dX11_cut_15 rfl (lv_at hl 2 rfl) ?_
    obtain ⟨v2, hv2, hz⟩ := u_bind hz
    refine u_callVi (As := [.int p2]) (rest := []) cx hw LV_X11_156 (c_X7_isPerson l G N σ 32 oS_32 p2 v2 hv2) oS_32 rfl (by decide) hl.1 rfl (Nat.le_of_ble_eq_true rfl) dX11_cut_16 rfl (fun H locs hw => ?_)
    refine lv_if_eq (tgt := 27) hx hb dX11_cut_19 (by decide) (fun hc => ?_) (fun hc => ?_)
    · replace hz := u_ift hz hc
      refine lv_iconst (v := (-1)) hx hb dX11_cut_27 (by decide) ?_
      exact u_iret cx hw (u_pair hz) dX11_cut_28
    · replace hz := u_iff hz hc
      refine lv_iload_n hx hb dX11_cut_22 rfl (lv_at hl 1 rfl) ?_
      refine lv_iload_n hx hb dX11_cut_23 rfl (lv_at hl 2 rfl) ?_
      refine lv_icmp_ne (tgt := 29) hx hb dX11_cut_24 (by decide) (fun hc => ?_) (fun hc => ?_)
      · replace hz := u_iff hz hc
        refine lv_bipush (v := 64) hx hb dX11_cut_29 (by decide) ?_
        refine lv_istore_n (lv' := [(3, .int 64), (0, .ref (G.2.2 0)), (1, .int p1), (2, .int p2)]) hx hb dX11_cut_31 rfl hl (by decide) rfl (fun ls hl => ?_)
        refine lv_iconst (v := 0) hx hb dX11_cut_32 (by decide) ?_
        refine lv_istore (lv' := [(4, .int 0), (3, .int 64), (0, .ref (G.2.2 0)), (1, .int p1), (2, .int p2)]) hx hb dX11_cut_33 hl (by decide) rfl (fun ls hl => ?_)
        refine lv_iconst (v := 1) hx hb dX11_cut_35 (by decide) ?_
        refine lv_aload_n hx hb dX11_cut_36 rfl (lv_at hl 2 rfl) ?_
        refine u_getp cx hw F_X11_26 o_X11 rfl dX11_cut_37 ?_
        refine u_geti cx hw F_X11_122 oS_32 rfl dX11_cut_40 ?_
        refine lv_ishl hx hb dX11_cut_43 ?_
        obtain ⟨x3, ex3, hz⟩ := u_let hz
        refine u_topi ex3 ?_
        refine lv_istore (lv' := [(5, .int x3), (4, .int 0), (3, .int 64), (0, .ref (G.2.2 0)), (1, .int p1), (2, .int p2)]) hx hb dX11_cut_44 hl (by decide) rfl (fun ls hl => ?_)
        refine lv_iconst (v := 0) hx hb dX11_cut_46 (by decide) ?_
        refine lv_istore (lv' := [(6, .int 0), (5, .int x3), (4, .int 0), (3, .int 64), (0, .ref (G.2.2 0)), (1, .int p1), (2, .int p2)]) hx hb dX11_cut_47 hl (by decide) rfl (fun ls hl => ?_)
        obtain ⟨J118_6, eJ118_6, hz⟩ := u_let hz
        have WJ118_6 : ∀ (x4 : Int32) (x5 : Int32) (H : Heap) (locs : List Loc) (ls : Array Slot), J118_6 x4 x5 = some z → u_W ZC G σ s H locs → lv_has ls 9 [(0, .ref (G.2.2 0)), (3, .int x4), (4, .int x5)] → W p l e (u_rm 3) s m args below meth c H locs 0 0 (u_Qi below ZC G s args z.1 z.2) (F0 m 118 ls []) := by
          intro x4 x5 H locs ls hz hw hl
          rw [eJ118_6] at hz
          refine lv_aload_n hx hb dX11_cut_118 rfl (lv_at hl 0 rfl) ?_
          refine u_getp cx hw F_X11_19 o_X11 rfl dX11_cut_119 ?_
          refine lv_iload hx hb dX11_cut_122 (lv_at hl 2 rfl) ?_
          refine lv_i2l (v := (Int32.toInt64 x5)) hx hb dX11_cut_124 rfl ?_
          obtain ⟨s7, hs7, hz⟩ := u_bind hz
          refine u_callVv (As := [.long (Int32.toInt64 x5)]) (rest := []) cx hw LV_X11_287 (c_X8_one l G N σ (Int32.toInt64 x5) s7 hs7) o_X8 rfl (by decide) hl.1 rfl (Nat.le_of_ble_eq_true rfl) dX11_cut_125 rfl (fun H locs hw => ?_)
          refine lv_iload_n hx hb dX11_cut_128 rfl (lv_at hl 1 rfl) ?_
          exact u_iret cx hw (u_pair hz) dX11_cut_129
        have WL49_21 : ∀ (k : Nat) (x8 : Int32) (x9 : Int32) (x10 : Int32) (H : Heap) (locs : List Loc) (ls : Array Slot), u_lp3 (b_X11_cut_49 N σ p1 p2 x3 J118_6) k x8 x9 x10 = some z → u_W ZC G σ s H locs → lv_has ls 9 [(0, .ref (G.2.2 0)), (1, .int p1), (2, .int p2), (3, .int x8), (4, .int x9), (5, .int x3), (6, .int x10)] → W p l e (u_rm 3) s m args below meth c H locs 0 0 (u_Qi below ZC G s args z.1 z.2) (F0 m 49 ls []) := by
          intro k
          induction k with
          | zero =>
            intro x8 x9 x10 H locs ls hz
            exact absurd hz (by intro h9; cases h9)
          | succ k ih49_11 =>
            intro x8 x9 x10 H locs ls hz hw hl
            have hz : (b_X11_cut_49 N σ p1 p2 x3 J118_6) (u_lp3 (b_X11_cut_49 N σ p1 p2 x3 J118_6) k) x8 x9 x10 = some z := hz
            unfold b_X11_cut_49 at hz
            refine lv_iload hx hb dX11_cut_49 (lv_at hl 6 rfl) ?_
            refine lv_iload hx hb dX11_cut_51 (lv_at hl 5 rfl) ?_
            refine lv_icmp_ge (tgt := 118) hx hb dX11_cut_53 (by decide) (fun hc => ?_) (fun hc => ?_)
            · replace hz := u_ift hz hc
              exact WJ118_6 x8 x9 _ _ _ hz hw (lv_sub hl [0, 3, 4] rfl)
            · replace hz := u_iff hz hc
              refine lv_iload hx hb dX11_cut_56 (lv_at hl 6 rfl) ?_
              refine lv_iload_n hx hb dX11_cut_58 rfl (lv_at hl 1 rfl) ?_
              refine lv_ishr hx hb dX11_cut_59 ?_
              refine lv_iconst (v := 1) hx hb dX11_cut_60 (by decide) ?_
              refine lv_iand hx hb dX11_cut_61 ?_
              refine lv_iconst (v := 1) hx hb dX11_cut_62 (by decide) ?_
              obtain ⟨J80_13, eJ80_13, hz⟩ := u_let hz
              have WJ80_13 : ∀ (t12 : Int32) (H : Heap) (locs : List Loc) (ls : Array Slot), J80_13 t12 = some z → u_W ZC G σ s H locs → lv_has ls 9 [(0, .ref (G.2.2 0)), (1, .int p1), (2, .int p2), (3, .int x8), (4, .int x9), (5, .int x3), (6, .int x10)] → W p l e (u_rm 3) s m args below meth c H locs 0 0 (u_Qi below ZC G s args z.1 z.2) (F0 m 80 ls [.int t12]) := by
                intro t12 H locs ls hz hw hl
                rw [eJ80_13] at hz
                refine lv_istore (lv' := [(7, .int t12), (0, .ref (G.2.2 0)), (1, .int p1), (2, .int p2), (3, .int x8), (4, .int x9), (5, .int x3), (6, .int x10)]) hx hb dX11_cut_80 hl (by decide) rfl (fun ls hl => ?_)
                refine lv_iload hx hb dX11_cut_82 (lv_at hl 0 rfl) ?_
                obtain ⟨J97_15, eJ97_15, hz⟩ := u_let hz
                have WJ97_15 : ∀ (t14 : Int32) (H : Heap) (locs : List Loc) (ls : Array Slot), J97_15 t14 = some z → u_W ZC G σ s H locs → lv_has ls 9 [(0, .ref (G.2.2 0)), (1, .int p1), (2, .int p2), (3, .int x8), (4, .int x9), (5, .int x3), (6, .int x10)] → W p l e (u_rm 3) s m args below meth c H locs 0 0 (u_Qi below ZC G s args z.1 z.2) (F0 m 97 ls [.int t14]) := by
                  intro t14 H locs ls hz hw hl
                  rw [eJ97_15] at hz
                  refine lv_istore (lv' := [(8, .int t14), (0, .ref (G.2.2 0)), (1, .int p1), (2, .int p2), (3, .int x8), (4, .int x9), (5, .int x3), (6, .int x10)]) hx hb dX11_cut_97 hl (by decide) rfl (fun ls hl => ?_)
                  refine lv_iload hx hb dX11_cut_99 (lv_at hl 0 rfl) ?_
                  refine lv_iload_n hx hb dX11_cut_101 rfl (lv_at hl 4 rfl) ?_
                  obtain ⟨J112_18, eJ112_18, hz⟩ := u_let hz
                  have WJ112_18 : ∀ (x16 : Int32) (x17 : Int32) (H : Heap) (locs : List Loc) (ls : Array Slot), J112_18 x16 x17 = some z → u_W ZC G σ s H locs → lv_has ls 9 [(0, .ref (G.2.2 0)), (1, .int p1), (2, .int p2), (3, .int x16), (4, .int x17), (5, .int x3), (6, .int x10)] → W p l e (u_rm 3) s m args below meth c H locs 0 0 (u_Qi below ZC G s args z.1 z.2) (F0 m 112 ls []) := by
                    intro x16 x17 H locs ls hz hw hl
                    rw [eJ112_18] at hz
                    obtain ⟨x19, ex19, hz⟩ := u_let hz
                    refine lv_iinc (v := x19) (lv' := [(6, .int x19), (0, .ref (G.2.2 0)), (1, .int p1), (2, .int p2), (3, .int x16), (4, .int x17), (5, .int x3)]) hx hb dX11_cut_112 hl (k := 6) rfl (by rw [ex19]; rfl) (by decide) rfl (fun ls hl => ?_)
                    refine lv_goto (tgt := 49) hx hb dX11_cut_115 (by decide) ?_
                    exact ih49_11 x16 x17 x19 _ _ _ hz hw (lv_sub hl [1, 2, 3, 4, 5, 6, 0] rfl)
                  refine lv_icmp_ge (tgt := 112) hx hb dX11_cut_102 (by decide) (fun hc => ?_) (fun hc => ?_)
                  · replace hz := u_ift hz hc
                    exact WJ112_18 x8 x9 _ _ _ hz hw (lv_sub hl [1, 2, 3, 4, 5, 6, 7] rfl)
                  · replace hz := u_iff hz hc
                    refine lv_iload hx hb dX11_cut_105 (lv_at hl 0 rfl) ?_
                    refine lv_istore_n (lv' := [(3, .int t14), (8, .int t14), (0, .ref (G.2.2 0)), (1, .int p1), (2, .int p2), (4, .int x9), (5, .int x3), (6, .int x10)]) hx hb dX11_cut_107 rfl hl (by decide) rfl (fun ls hl => ?_)
                    refine lv_iload hx hb dX11_cut_108 (lv_at hl 7 rfl) ?_
                    refine lv_istore (lv' := [(4, .int x10), (3, .int t14), (8, .int t14), (0, .ref (G.2.2 0)), (1, .int p1), (2, .int p2), (5, .int x3), (6, .int x10)]) hx hb dX11_cut_110 hl (by decide) rfl (fun ls hl => ?_)
                    exact WJ112_18 t14 x10 _ _ _ hz hw (lv_sub hl [3, 4, 5, 1, 0, 6, 7] rfl)
                refine lv_if_eq (tgt := 96) hx hb dX11_cut_84 (by decide) (fun hc => ?_) (fun hc => ?_)
                · replace hz := u_ift hz hc
                  refine lv_iload_n hx hb dX11_cut_96 rfl (lv_at hl 4 rfl) ?_
                  exact WJ97_15 x8 _ _ _ hz hw (lv_sub hl [1, 2, 3, 4, 5, 6, 7] rfl)
                · replace hz := u_iff hz hc
                  refine lv_aload_n hx hb dX11_cut_87 rfl (lv_at hl 1 rfl) ?_
                  refine lv_iload hx hb dX11_cut_88 (lv_at hl 7 rfl) ?_
                  obtain ⟨v20, hv20, hz⟩ := u_bind hz
                  refine u_callVi (As := [.int x10]) (rest := []) cx hw LV_X11_325 (c_X11_glancesOut l G N σ x10 v20 hv20) o_X11 rfl (by decide) hl.1 rfl (Nat.le_of_ble_eq_true rfl) dX11_cut_90 rfl (fun H locs hw => ?_)
                  refine lv_goto (tgt := 97) hx hb dX11_cut_93 (by decide) ?_
                  exact WJ97_15 v20 _ _ _ hz hw (lv_sub hl [1, 2, 3, 4, 5, 6, 7] rfl)
              obtain ⟨J79_21, eJ79_21, hz⟩ := u_let hz
              have WJ79_21 : ∀ (H : Heap) (locs : List Loc) (ls : Array Slot), J79_21 = some z → u_W ZC G σ s H locs → lv_has ls 9 [(0, .ref (G.2.2 0)), (1, .int p1), (2, .int p2), (3, .int x8), (4, .int x9), (5, .int x3), (6, .int x10)] → W p l e (u_rm 3) s m args below meth c H locs 0 0 (u_Qi below ZC G s args z.1 z.2) (F0 m 79 ls []) := by
                intro H locs ls hz hw hl
                rw [eJ79_21] at hz
                refine lv_iconst (v := 0) hx hb dX11_cut_79 (by decide) ?_
                exact WJ80_13 0 _ _ _ hz hw (lv_sub hl [0, 1, 2, 3, 4, 5, 6] rfl)
              refine lv_icmp_ne (tgt := 79) hx hb dX11_cut_63 (by decide) (fun hc => ?_) (fun hc => ?_)
              · replace hz := u_iff hz hc
                exact WJ79_21 _ _ _ hz hw (lv_sub hl [0, 1, 2, 3, 4, 5, 6] rfl)
              · replace hz := u_ift hz hc
                refine lv_iload hx hb dX11_cut_66 (lv_at hl 6 rfl) ?_
                refine lv_iload_n hx hb dX11_cut_68 rfl (lv_at hl 2 rfl) ?_
                refine lv_ishr hx hb dX11_cut_69 ?_
                refine lv_iconst (v := 1) hx hb dX11_cut_70 (by decide) ?_
                refine lv_iand hx hb dX11_cut_71 ?_
                refine lv_if_ne (tgt := 79) hx hb dX11_cut_72 (by decide) (fun hc => ?_) (fun hc => ?_)
                · replace hz := u_iff hz hc
                  exact WJ79_21 _ _ _ hz hw (lv_sub hl [0, 1, 2, 3, 4, 5, 6] rfl)
                · replace hz := u_ift hz hc
                  refine lv_iconst (v := 1) hx hb dX11_cut_75 (by decide) ?_
                  refine lv_goto (tgt := 80) hx hb dX11_cut_76 (by decide) ?_
                  exact WJ80_13 1 _ _ _ hz hw (lv_sub hl [0, 1, 2, 3, 4, 5, 6] rfl)
        exact WL49_21 N 64 0 0 _ _ _ hz hw (lv_sub hl [4, 5, 6, 3, 2, 1, 0] rfl)
      · replace hz := u_ift hz hc
        refine lv_iconst (v := (-1)) hx hb dX11_cut_27 (by decide) ?_
        exact u_iret cx hw (u_pair hz) dX11_cut_28
theorem dX11_dues_0 : decode cX11_dues 0 = .ok (.iload_n 1, 1) := by decide +kernel
theorem dX11_dues_1 : decode cX11_dues 1 = .ok (.ifCond .lt 10, 3) := by decide +kernel
theorem dX11_dues_4 : decode cX11_dues 4 = .ok (.iload_n 1, 1) := by decide +kernel
theorem dX11_dues_5 : decode cX11_dues 5 = .ok (.sipush 999, 3) := by decide +kernel
theorem dX11_dues_8 : decode cX11_dues 8 = .ok (.if_icmp .le 5, 3) := by decide +kernel
theorem dX11_dues_11 : decode cX11_dues 11 = .ok (.iconst (-1), 1) := by decide +kernel
theorem dX11_dues_12 : decode cX11_dues 12 = .ok (.ireturn, 1) := by decide +kernel
theorem dX11_dues_13 : decode cX11_dues 13 = .ok (.aload_n 0, 1) := by decide +kernel
theorem dX11_dues_14 : decode cX11_dues 14 = .ok (.getfield 26, 3) := by decide +kernel
theorem dX11_dues_17 : decode cX11_dues 17 = .ok (.aload_n 0, 1) := by decide +kernel
theorem dX11_dues_18 : decode cX11_dues 18 = .ok (.getfield 26, 3) := by decide +kernel
theorem dX11_dues_21 : decode cX11_dues 21 = .ok (.getfield 266, 3) := by decide +kernel
theorem dX11_dues_24 : decode cX11_dues 24 = .ok (.aload_n 0, 1) := by decide +kernel
theorem dX11_dues_25 : decode cX11_dues 25 = .ok (.getfield 26, 3) := by decide +kernel
theorem dX11_dues_28 : decode cX11_dues 28 = .ok (.getfield 269, 3) := by decide +kernel
theorem dX11_dues_31 : decode cX11_dues 31 = .ok (.invokevirtual 364, 3) := by decide +kernel
theorem dX11_dues_34 : decode cX11_dues 34 = .ok (.istore_n 2, 1) := by decide +kernel
theorem dX11_dues_35 : decode cX11_dues 35 = .ok (.iload_n 2, 1) := by decide +kernel
theorem dX11_dues_36 : decode cX11_dues 36 = .ok (.ifCond .gt 6, 3) := by decide +kernel
theorem dX11_dues_39 : decode cX11_dues 39 = .ok (.bipush (-2), 2) := by decide +kernel
theorem dX11_dues_41 : decode cX11_dues 41 = .ok (.ireturn, 1) := by decide +kernel
theorem dX11_dues_42 : decode cX11_dues 42 = .ok (.iload_n 1, 1) := by decide +kernel
theorem dX11_dues_43 : decode cX11_dues 43 = .ok (.istore_n 3, 1) := by decide +kernel
theorem dX11_dues_44 : decode cX11_dues 44 = .ok (.aload_n 0, 1) := by decide +kernel
theorem dX11_dues_45 : decode cX11_dues 45 = .ok (.getfield 26, 3) := by decide +kernel
theorem dX11_dues_48 : decode cX11_dues 48 = .ok (.getfield 266, 3) := by decide +kernel
theorem dX11_dues_51 : decode cX11_dues 51 = .ok (.istore 4, 2) := by decide +kernel
theorem dX11_dues_53 : decode cX11_dues 53 = .ok (.iload 4, 2) := by decide +kernel
theorem dX11_dues_55 : decode cX11_dues 55 = .ok (.aload_n 0, 1) := by decide +kernel
theorem dX11_dues_56 : decode cX11_dues 56 = .ok (.getfield 26, 3) := by decide +kernel
theorem dX11_dues_59 : decode cX11_dues 59 = .ok (.getfield 269, 3) := by decide +kernel
theorem dX11_dues_62 : decode cX11_dues 62 = .ok (.if_icmp .gt 26, 3) := by decide +kernel
theorem dX11_dues_65 : decode cX11_dues 65 = .ok (.iload_n 3, 1) := by decide +kernel
theorem dX11_dues_66 : decode cX11_dues 66 = .ok (.iload_n 1, 1) := by decide +kernel
theorem dX11_dues_67 : decode cX11_dues 67 = .ok (.aload_n 0, 1) := by decide +kernel
theorem dX11_dues_68 : decode cX11_dues 68 = .ok (.getfield 26, 3) := by decide +kernel
theorem dX11_dues_71 : decode cX11_dues 71 = .ok (.getfield 150, 3) := by decide +kernel
theorem dX11_dues_74 : decode cX11_dues 74 = .ok (.iload 4, 2) := by decide +kernel
theorem dX11_dues_76 : decode cX11_dues 76 = .ok (.iaload, 1) := by decide +kernel
theorem dX11_dues_77 : decode cX11_dues 77 = .ok (.imul, 1) := by decide +kernel
theorem dX11_dues_78 : decode cX11_dues 78 = .ok (.iload_n 2, 1) := by decide +kernel
theorem dX11_dues_79 : decode cX11_dues 79 = .ok (.idiv, 1) := by decide +kernel
theorem dX11_dues_80 : decode cX11_dues 80 = .ok (.isub, 1) := by decide +kernel
theorem dX11_dues_81 : decode cX11_dues 81 = .ok (.istore_n 3, 1) := by decide +kernel
theorem dX11_dues_82 : decode cX11_dues 82 = .ok (.iinc 4 1, 3) := by decide +kernel
theorem dX11_dues_85 : decode cX11_dues 85 = .ok (.goto (-32), 3) := by decide +kernel
theorem dX11_dues_88 : decode cX11_dues 88 = .ok (.aload_n 0, 1) := by decide +kernel
theorem dX11_dues_89 : decode cX11_dues 89 = .ok (.getfield 19, 3) := by decide +kernel
theorem dX11_dues_92 : decode cX11_dues 92 = .ok (.invokevirtual 347, 3) := by decide +kernel
theorem dX11_dues_95 : decode cX11_dues 95 = .ok (.aload_n 0, 1) := by decide +kernel
theorem dX11_dues_96 : decode cX11_dues 96 = .ok (.getfield 26, 3) := by decide +kernel
theorem dX11_dues_99 : decode cX11_dues 99 = .ok (.getfield 266, 3) := by decide +kernel
theorem dX11_dues_102 : decode cX11_dues 102 = .ok (.istore 4, 2) := by decide +kernel
theorem dX11_dues_104 : decode cX11_dues 104 = .ok (.iload 4, 2) := by decide +kernel
theorem dX11_dues_106 : decode cX11_dues 106 = .ok (.aload_n 0, 1) := by decide +kernel
theorem dX11_dues_107 : decode cX11_dues 107 = .ok (.getfield 26, 3) := by decide +kernel
theorem dX11_dues_110 : decode cX11_dues 110 = .ok (.getfield 269, 3) := by decide +kernel
theorem dX11_dues_113 : decode cX11_dues 113 = .ok (.if_icmp .gt 53, 3) := by decide +kernel
theorem dX11_dues_116 : decode cX11_dues 116 = .ok (.aload_n 0, 1) := by decide +kernel
theorem dX11_dues_117 : decode cX11_dues 117 = .ok (.iload_n 1, 1) := by decide +kernel
theorem dX11_dues_118 : decode cX11_dues 118 = .ok (.iload_n 2, 1) := by decide +kernel
theorem dX11_dues_119 : decode cX11_dues 119 = .ok (.iload 4, 2) := by decide +kernel
theorem dX11_dues_121 : decode cX11_dues 121 = .ok (.invokevirtual 367, 3) := by decide +kernel
theorem dX11_dues_124 : decode cX11_dues 124 = .ok (.iload_n 3, 1) := by decide +kernel
theorem dX11_dues_125 : decode cX11_dues 125 = .ok (.if_icmp .ge 7, 3) := by decide +kernel
theorem dX11_dues_128 : decode cX11_dues 128 = .ok (.iconst 1, 1) := by decide +kernel
theorem dX11_dues_129 : decode cX11_dues 129 = .ok (.goto 4, 3) := by decide +kernel
theorem dX11_dues_132 : decode cX11_dues 132 = .ok (.iconst 0, 1) := by decide +kernel
theorem dX11_dues_133 : decode cX11_dues 133 = .ok (.istore 5, 2) := by decide +kernel
theorem dX11_dues_135 : decode cX11_dues 135 = .ok (.aload_n 0, 1) := by decide +kernel
theorem dX11_dues_136 : decode cX11_dues 136 = .ok (.getfield 19, 3) := by decide +kernel
theorem dX11_dues_139 : decode cX11_dues 139 = .ok (.iload_n 1, 1) := by decide +kernel
theorem dX11_dues_140 : decode cX11_dues 140 = .ok (.aload_n 0, 1) := by decide +kernel
theorem dX11_dues_141 : decode cX11_dues 141 = .ok (.getfield 26, 3) := by decide +kernel
theorem dX11_dues_144 : decode cX11_dues 144 = .ok (.getfield 150, 3) := by decide +kernel
theorem dX11_dues_147 : decode cX11_dues 147 = .ok (.iload 4, 2) := by decide +kernel
theorem dX11_dues_149 : decode cX11_dues 149 = .ok (.iaload, 1) := by decide +kernel
theorem dX11_dues_150 : decode cX11_dues 150 = .ok (.imul, 1) := by decide +kernel
theorem dX11_dues_151 : decode cX11_dues 151 = .ok (.iload_n 2, 1) := by decide +kernel
theorem dX11_dues_152 : decode cX11_dues 152 = .ok (.idiv, 1) := by decide +kernel
theorem dX11_dues_153 : decode cX11_dues 153 = .ok (.iload 5, 2) := by decide +kernel
theorem dX11_dues_155 : decode cX11_dues 155 = .ok (.iadd, 1) := by decide +kernel
theorem dX11_dues_156 : decode cX11_dues 156 = .ok (.i2l, 1) := by decide +kernel
theorem dX11_dues_157 : decode cX11_dues 157 = .ok (.invokevirtual 371, 3) := by decide +kernel
theorem dX11_dues_160 : decode cX11_dues 160 = .ok (.iinc 4 1, 3) := by decide +kernel
theorem dX11_dues_163 : decode cX11_dues 163 = .ok (.goto (-59), 3) := by decide +kernel
theorem dX11_dues_166 : decode cX11_dues 166 = .ok (.aload_n 0, 1) := by decide +kernel
theorem dX11_dues_167 : decode cX11_dues 167 = .ok (.getfield 19, 3) := by decide +kernel
theorem dX11_dues_170 : decode cX11_dues 170 = .ok (.iconst 0, 1) := by decide +kernel
theorem dX11_dues_171 : decode cX11_dues 171 = .ok (.invokevirtual 373, 3) := by decide +kernel
theorem dX11_dues_174 : decode cX11_dues 174 = .ok (.l2i, 1) := by decide +kernel
theorem dX11_dues_175 : decode cX11_dues 175 = .ok (.ireturn, 1) := by decide +kernel
def b_X11_dues_104 (N : Nat) (p1 : Int32) (v1 : Int32) (x3 : Int32) (J166_8 : uS → Option (Int32 × uS)) (rec104_12 : uS → Int32 → Option (Int32 × uS)) (s10 : uS) (x11 : Int32) : Option (Int32 × uS) :=
  if (s10.1 32 7) < x11 then (J166_8 s10) else ((f_X11_duesRank N s10 p1 v1 x11).bind fun v13 =>
  u_jn (fun (t14 : Int32) => ((u_rI ZC s10 0 33 x11).bind fun v16 =>
  u_ck (¬ (v1 : Int32) = 0) <|
  (f_X8_add N s10 (Int32.toInt64 (((p1 * v16) / v1) + t14))).bind fun s17 =>
  u_jn (x11 + 1 : Int32) fun x18 =>
  rec104_12 s17 x18 : Option (Int32 × uS))) fun J133_15 =>
  if x3 ≤ v13 then (J133_15 0) else (J133_15 1))
def b_X11_dues_53 (σ : uS) (p1 : Int32) (v1 : Int32) (J88_4 : Int32 → Option (Int32 × uS)) (rec53_21 : Int32 → Int32 → Option (Int32 × uS)) (x19 : Int32) (x20 : Int32) : Option (Int32 × uS) :=
  if (σ.1 32 7) < x20 then (J88_4 x19) else ((u_rI ZC σ 0 33 x20).bind fun v22 =>
  u_ck (¬ (v1 : Int32) = 0) <|
  u_jn ((x19 - ((p1 * v22) / v1)) : Int32) fun x23 =>
  u_jn (x20 + 1 : Int32) fun x24 =>
  rec53_21 x23 x24)
def f_X11_dues (N : Nat) (σ : uS) (p1 : Int32) : Option (Int32 × uS) := if p1 < 0 then (some ((-1), σ)) else (if p1 ≤ 999 then ((f_X7_cornOf N σ 32 (σ.1 32 6) (σ.1 32 7)).bind fun v1 =>
  if 0 < v1 then (u_jn ((σ.1 32 6) : Int32) fun x2 =>
  u_jn (fun (x3 : Int32) => ((f_X8_clear N σ).bind fun s5 =>
  u_jn ((s5.1 32 6) : Int32) fun x6 =>
  u_jn (fun (s7 : uS) => ((f_X8_number N s7 0).bind fun v9 =>
  some ((Int64.toInt32 v9), s7) : Option (Int32 × uS))) fun J166_8 =>
  u_lp2 (b_X11_dues_104 N p1 v1 x3 J166_8) N s5 x6 : Option (Int32 × uS))) fun J88_4 =>
  u_lp2 (b_X11_dues_53 σ p1 v1 J88_4) N p1 x2) else (some ((-2), σ))) else (some ((-1), σ)))
set_option maxRecDepth 100000 in
set_option maxHeartbeats 4000000 in
theorem c_X11_dues (l : Launch) (G : uG) (N : Nat) (σ : uS) (p1 : Int32) (z : (Int32 × uS)) (hz : f_X11_dues N σ p1 = some z) : u_Mi l ZC G yX11_dues cX11_dues 6 .int 2 [.ref (G.2.2 0), .int p1] σ z.1 z.2 := by
  refine u_Mi_of RX11 (by decide) rfl (Nat.le_of_ble_eq_true rfl) ?_
  intro p e s m args below meth c ls cx hw hl
  have hx := cx.1
  have hb := cx.2.1
  have hl : lv_has ls 6 [(0, .ref (G.2.2 0)), (1, .int p1)] := hl
  unfold f_X11_dues at hz
  refine lv_iload_n hx hb dX11_dues_0 rfl (lv_at hl 1 rfl) ?_
  refine lv_if_lt (tgt := 11) hx hb dX11_dues_1 (by decide) (fun hc => ?_) (fun hc => ?_)
  · replace hz := u_ift hz hc
    refine lv_iconst (v := (-1)) hx hb dX11_dues_11 (by decide) ?_
    exact u_iret cx hw (u_pair hz) dX11_dues_12
  · replace hz := u_iff hz hc
    refine lv_iload_n hx hb dX11_dues_4 rfl (lv_at hl 1 rfl) ?_
    refine lv_sipush (v := 999) hx hb dX11_dues_5 (by decide) ?_
    refine lv_icmp_le (tgt := 13) hx hb dX11_dues_8 (by decide) (fun hc => ?_) (fun hc => ?_)
    · replace hz := u_ift hz hc
      refine lv_aload_n hx hb dX11_dues_13 rfl (lv_at hl 0 rfl) ?_
      refine u_getp cx hw F_X11_26 o_X11 rfl dX11_dues_14 ?_
      refine lv_aload_n hx hb dX11_dues_17 rfl (lv_at hl 0 rfl) ?_
      refine u_getp cx hw F_X11_26 o_X11 rfl dX11_dues_18 ?_
      refine u_geti cx hw F_X11_266 oS_32 rfl dX11_dues_21 ?_
      refine lv_aload_n hx hb dX11_dues_24 rfl (lv_at hl 0 rfl) ?_
      refine u_getp cx hw F_X11_26 o_X11 rfl dX11_dues_25 ?_
      refine u_geti cx hw F_X11_269 oS_32 rfl dX11_dues_28 ?_
      obtain ⟨v1, hv1, hz⟩ := u_bind hz
      refine u_callVi (As := [.int (σ.1 32 6), .int (σ.1 32 7)]) (rest := []) cx hw LV_X11_364 (c_X7_cornOf l G N σ 32 oS_32 (σ.1 32 6) (σ.1 32 7) v1 hv1) oS_32 rfl (by decide) hl.1 rfl (Nat.le_of_ble_eq_true rfl) dX11_dues_31 rfl (fun H locs hw => ?_)
      refine lv_istore_n (lv' := [(2, .int v1), (0, .ref (G.2.2 0)), (1, .int p1)]) hx hb dX11_dues_34 rfl hl (by decide) rfl (fun ls hl => ?_)
      refine lv_iload_n hx hb dX11_dues_35 rfl (lv_at hl 0 rfl) ?_
      refine lv_if_gt (tgt := 42) hx hb dX11_dues_36 (by decide) (fun hc => ?_) (fun hc => ?_)
      · replace hz := u_ift hz hc
        refine lv_iload_n hx hb dX11_dues_42 rfl (lv_at hl 2 rfl) ?_
        refine lv_istore_n (lv' := [(3, .int p1), (2, .int v1), (0, .ref (G.2.2 0)), (1, .int p1)]) hx hb dX11_dues_43 rfl hl (by decide) rfl (fun ls hl => ?_)
        refine lv_aload_n hx hb dX11_dues_44 rfl (lv_at hl 2 rfl) ?_
        refine u_getp cx hw F_X11_26 o_X11 rfl dX11_dues_45 ?_
        refine u_geti cx hw F_X11_266 oS_32 rfl dX11_dues_48 ?_
        obtain ⟨x2, ex2, hz⟩ := u_let hz
        refine u_topi ex2 ?_
        refine lv_istore (lv' := [(4, .int x2), (3, .int p1), (2, .int v1), (0, .ref (G.2.2 0)), (1, .int p1)]) hx hb dX11_dues_51 hl (by decide) rfl (fun ls hl => ?_)
        obtain ⟨J88_4, eJ88_4, hz⟩ := u_let hz
        have WJ88_4 : ∀ (x3 : Int32) (H : Heap) (locs : List Loc) (ls : Array Slot), J88_4 x3 = some z → u_W ZC G σ s H locs → lv_has ls 6 [(0, .ref (G.2.2 0)), (1, .int p1), (2, .int v1), (3, .int x3)] → W p l e (u_rm 2) s m args below meth c H locs 0 0 (u_Qi below ZC G s args z.1 z.2) (F0 m 88 ls []) := by
          intro x3 H locs ls hz hw hl
          rw [eJ88_4] at hz
          refine lv_aload_n hx hb dX11_dues_88 rfl (lv_at hl 0 rfl) ?_
          refine u_getp cx hw F_X11_19 o_X11 rfl dX11_dues_89 ?_
          obtain ⟨s5, hs5, hz⟩ := u_bind hz
          refine u_callVv (As := []) (rest := []) cx hw LV_X11_347 (c_X8_clear l G N σ s5 hs5) o_X8 rfl (by decide) hl.1 rfl (Nat.le_of_ble_eq_true rfl) dX11_dues_92 rfl (fun H locs hw => ?_)
          refine lv_aload_n hx hb dX11_dues_95 rfl (lv_at hl 0 rfl) ?_
          refine u_getp cx hw F_X11_26 o_X11 rfl dX11_dues_96 ?_
          refine u_geti cx hw F_X11_266 oS_32 rfl dX11_dues_99 ?_
          obtain ⟨x6, ex6, hz⟩ := u_let hz
          refine u_topi ex6 ?_
          refine lv_istore (lv' := [(4, .int x6), (0, .ref (G.2.2 0)), (1, .int p1), (2, .int v1), (3, .int x3)]) hx hb dX11_dues_102 hl (by decide) rfl (fun ls hl => ?_)
          obtain ⟨J166_8, eJ166_8, hz⟩ := u_let hz
          have WJ166_8 : ∀ (s7 : uS) (H : Heap) (locs : List Loc) (ls : Array Slot), J166_8 s7 = some z → u_W ZC G s7 s H locs → lv_has ls 6 [(0, .ref (G.2.2 0))] → W p l e (u_rm 2) s m args below meth c H locs 0 0 (u_Qi below ZC G s args z.1 z.2) (F0 m 166 ls []) := by
            intro s7 H locs ls hz hw hl
            rw [eJ166_8] at hz
            refine lv_aload_n hx hb dX11_dues_166 rfl (lv_at hl 0 rfl) ?_
            refine u_getp cx hw F_X11_19 o_X11 rfl dX11_dues_167 ?_
            refine lv_iconst (v := 0) hx hb dX11_dues_170 (by decide) ?_
            obtain ⟨v9, hv9, hz⟩ := u_bind hz
            refine u_callVl (As := [.int 0]) (rest := []) cx hw LV_X11_373 (c_X8_number l G N s7 0 v9 hv9) o_X8 rfl (by decide) hl.1 rfl (Nat.le_of_ble_eq_true rfl) dX11_dues_171 rfl (fun H locs hw => ?_)
            refine lv_l2i (v := (Int64.toInt32 v9)) hx hb dX11_dues_174 rfl ?_
            exact u_iret cx hw (u_pair hz) dX11_dues_175
          have WL104_18 : ∀ (k : Nat) (s10 : uS) (x11 : Int32) (H : Heap) (locs : List Loc) (ls : Array Slot), u_lp2 (b_X11_dues_104 N p1 v1 x3 J166_8) k s10 x11 = some z → u_W ZC G s10 s H locs → lv_has ls 6 [(0, .ref (G.2.2 0)), (1, .int p1), (2, .int v1), (3, .int x3), (4, .int x11)] → W p l e (u_rm 2) s m args below meth c H locs 0 0 (u_Qi below ZC G s args z.1 z.2) (F0 m 104 ls []) := by
            intro k
            induction k with
            | zero =>
              intro s10 x11 H locs ls hz
              exact absurd hz (by intro h9; cases h9)
            | succ k ih104_12 =>
              intro s10 x11 H locs ls hz hw hl
              have hz : (b_X11_dues_104 N p1 v1 x3 J166_8) (u_lp2 (b_X11_dues_104 N p1 v1 x3 J166_8) k) s10 x11 = some z := hz
              unfold b_X11_dues_104 at hz
              refine lv_iload hx hb dX11_dues_104 (lv_at hl 4 rfl) ?_
              refine lv_aload_n hx hb dX11_dues_106 rfl (lv_at hl 0 rfl) ?_
              refine u_getp cx hw F_X11_26 o_X11 rfl dX11_dues_107 ?_
              refine u_geti cx hw F_X11_269 oS_32 rfl dX11_dues_110 ?_
              refine lv_icmp_gt (tgt := 166) hx hb dX11_dues_113 (by decide) (fun hc => ?_) (fun hc => ?_)
              · replace hz := u_ift hz hc
                exact WJ166_8 s10 _ _ _ hz hw (lv_sub hl [0] rfl)
              · replace hz := u_iff hz hc
                refine lv_aload_n hx hb dX11_dues_116 rfl (lv_at hl 0 rfl) ?_
                refine lv_iload_n hx hb dX11_dues_117 rfl (lv_at hl 1 rfl) ?_
                refine lv_iload_n hx hb dX11_dues_118 rfl (lv_at hl 2 rfl) ?_
                refine lv_iload hx hb dX11_dues_119 (lv_at hl 4 rfl) ?_
                obtain ⟨v13, hv13, hz⟩ := u_bind hz
                refine u_callVi (As := [.int p1, .int v1, .int x11]) (rest := []) cx hw LV_X11_367 (c_X11_duesRank l G N s10 p1 v1 x11 v13 hv13) o_X11 rfl (by decide) hl.1 rfl (Nat.le_of_ble_eq_true rfl) dX11_dues_121 rfl (fun H locs hw => ?_)
                refine lv_iload_n hx hb dX11_dues_124 rfl (lv_at hl 3 rfl) ?_
                obtain ⟨J133_15, eJ133_15, hz⟩ := u_let hz
                have WJ133_15 : ∀ (t14 : Int32) (H : Heap) (locs : List Loc) (ls : Array Slot), J133_15 t14 = some z → u_W ZC G s10 s H locs → lv_has ls 6 [(0, .ref (G.2.2 0)), (1, .int p1), (2, .int v1), (3, .int x3), (4, .int x11)] → W p l e (u_rm 2) s m args below meth c H locs 0 0 (u_Qi below ZC G s args z.1 z.2) (F0 m 133 ls [.int t14]) := by
                  intro t14 H locs ls hz hw hl
                  rw [eJ133_15] at hz
                  refine lv_istore (lv' := [(5, .int t14), (0, .ref (G.2.2 0)), (1, .int p1), (2, .int v1), (3, .int x3), (4, .int x11)]) hx hb dX11_dues_133 hl (by decide) rfl (fun ls hl => ?_)
                  refine lv_aload_n hx hb dX11_dues_135 rfl (lv_at hl 1 rfl) ?_
                  refine u_getp cx hw F_X11_19 o_X11 rfl dX11_dues_136 ?_
                  refine lv_iload_n hx hb dX11_dues_139 rfl (lv_at hl 2 rfl) ?_
                  refine lv_aload_n hx hb dX11_dues_140 rfl (lv_at hl 1 rfl) ?_
                  refine u_getp cx hw F_X11_26 o_X11 rfl dX11_dues_141 ?_
                  refine u_getp cx hw F_X11_150 oS_32 rfl dX11_dues_144 ?_
                  refine lv_iload hx hb dX11_dues_147 (lv_at hl 5 rfl) ?_
                  obtain ⟨v16, hv16, hz⟩ := u_bind hz
                  refine u_iald cx hw hv16 dX11_dues_149 ?_
                  refine lv_imul hx hb dX11_dues_150 ?_
                  refine lv_iload_n hx hb dX11_dues_151 rfl (lv_at hl 3 rfl) ?_
                  obtain ⟨hne, hz⟩ := u_ck_some hz
                  refine lv_idiv hx hb dX11_dues_152 hne ?_
                  refine lv_iload hx hb dX11_dues_153 (lv_at hl 0 rfl) ?_
                  refine lv_iadd hx hb dX11_dues_155 ?_
                  refine lv_i2l (v := (Int32.toInt64 (((p1 * v16) / v1) + t14))) hx hb dX11_dues_156 rfl ?_
                  obtain ⟨s17, hs17, hz⟩ := u_bind hz
                  refine u_callVv (As := [.long (Int32.toInt64 (((p1 * v16) / v1) + t14))]) (rest := []) cx hw LV_X11_371 (c_X8_add l G N s10 (Int32.toInt64 (((p1 * v16) / v1) + t14)) s17 hs17) o_X8 rfl (by decide) hl.1 rfl (Nat.le_of_ble_eq_true rfl) dX11_dues_157 rfl (fun H locs hw => ?_)
                  obtain ⟨x18, ex18, hz⟩ := u_let hz
                  refine lv_iinc (v := x18) (lv' := [(4, .int x18), (5, .int t14), (0, .ref (G.2.2 0)), (1, .int p1), (2, .int v1), (3, .int x3)]) hx hb dX11_dues_160 hl (k := 5) rfl (by rw [ex18]; rfl) (by decide) rfl (fun ls hl => ?_)
                  refine lv_goto (tgt := 104) hx hb dX11_dues_163 (by decide) ?_
                  exact ih104_12 s17 x18 _ _ _ hz hw (lv_sub hl [2, 3, 4, 5, 0] rfl)
                refine lv_icmp_ge (tgt := 132) hx hb dX11_dues_125 (by decide) (fun hc => ?_) (fun hc => ?_)
                · replace hz := u_ift hz hc
                  refine lv_iconst (v := 0) hx hb dX11_dues_132 (by decide) ?_
                  exact WJ133_15 0 _ _ _ hz hw (lv_sub hl [0, 1, 2, 3, 4] rfl)
                · replace hz := u_iff hz hc
                  refine lv_iconst (v := 1) hx hb dX11_dues_128 (by decide) ?_
                  refine lv_goto (tgt := 133) hx hb dX11_dues_129 (by decide) ?_
                  exact WJ133_15 1 _ _ _ hz hw (lv_sub hl [0, 1, 2, 3, 4] rfl)
          exact WL104_18 N s5 x6 _ _ _ hz hw (lv_sub hl [1, 2, 3, 4, 0] rfl)
        have WL53_24 : ∀ (k : Nat) (x19 : Int32) (x20 : Int32) (H : Heap) (locs : List Loc) (ls : Array Slot), u_lp2 (b_X11_dues_53 σ p1 v1 J88_4) k x19 x20 = some z → u_W ZC G σ s H locs → lv_has ls 6 [(0, .ref (G.2.2 0)), (1, .int p1), (2, .int v1), (3, .int x19), (4, .int x20)] → W p l e (u_rm 2) s m args below meth c H locs 0 0 (u_Qi below ZC G s args z.1 z.2) (F0 m 53 ls []) := by
          intro k
          induction k with
          | zero =>
            intro x19 x20 H locs ls hz
            exact absurd hz (by intro h9; cases h9)
          | succ k ih53_21 =>
            intro x19 x20 H locs ls hz hw hl
            have hz : (b_X11_dues_53 σ p1 v1 J88_4) (u_lp2 (b_X11_dues_53 σ p1 v1 J88_4) k) x19 x20 = some z := hz
            unfold b_X11_dues_53 at hz
            refine lv_iload hx hb dX11_dues_53 (lv_at hl 4 rfl) ?_
            refine lv_aload_n hx hb dX11_dues_55 rfl (lv_at hl 0 rfl) ?_
            refine u_getp cx hw F_X11_26 o_X11 rfl dX11_dues_56 ?_
            refine u_geti cx hw F_X11_269 oS_32 rfl dX11_dues_59 ?_
            refine lv_icmp_gt (tgt := 88) hx hb dX11_dues_62 (by decide) (fun hc => ?_) (fun hc => ?_)
            · replace hz := u_ift hz hc
              exact WJ88_4 x19 _ _ _ hz hw (lv_sub hl [0, 1, 2, 3] rfl)
            · replace hz := u_iff hz hc
              refine lv_iload_n hx hb dX11_dues_65 rfl (lv_at hl 3 rfl) ?_
              refine lv_iload_n hx hb dX11_dues_66 rfl (lv_at hl 1 rfl) ?_
              refine lv_aload_n hx hb dX11_dues_67 rfl (lv_at hl 0 rfl) ?_
              refine u_getp cx hw F_X11_26 o_X11 rfl dX11_dues_68 ?_
              refine u_getp cx hw F_X11_150 oS_32 rfl dX11_dues_71 ?_
              refine lv_iload hx hb dX11_dues_74 (lv_at hl 4 rfl) ?_
              obtain ⟨v22, hv22, hz⟩ := u_bind hz
              refine u_iald cx hw hv22 dX11_dues_76 ?_
              refine lv_imul hx hb dX11_dues_77 ?_
              refine lv_iload_n hx hb dX11_dues_78 rfl (lv_at hl 2 rfl) ?_
              obtain ⟨hne, hz⟩ := u_ck_some hz
              refine lv_idiv hx hb dX11_dues_79 hne ?_
              refine lv_isub hx hb dX11_dues_80 ?_
              obtain ⟨x23, ex23, hz⟩ := u_let hz
              refine u_topi ex23 ?_
              refine lv_istore_n (lv' := [(3, .int x23), (0, .ref (G.2.2 0)), (1, .int p1), (2, .int v1), (4, .int x20)]) hx hb dX11_dues_81 rfl hl (by decide) rfl (fun ls hl => ?_)
              obtain ⟨x24, ex24, hz⟩ := u_let hz
              refine lv_iinc (v := x24) (lv' := [(4, .int x24), (3, .int x23), (0, .ref (G.2.2 0)), (1, .int p1), (2, .int v1)]) hx hb dX11_dues_82 hl (k := 4) rfl (by rw [ex24]; rfl) (by decide) rfl (fun ls hl => ?_)
              refine lv_goto (tgt := 53) hx hb dX11_dues_85 (by decide) ?_
              exact ih53_21 x23 x24 _ _ _ hz hw (lv_sub hl [2, 3, 4, 1, 0] rfl)
        exact WL53_24 N p1 x2 _ _ _ hz hw (lv_sub hl [3, 4, 2, 1, 0] rfl)
      · replace hz := u_iff hz hc
        refine lv_bipush (v := (-2)) hx hb dX11_dues_39 (by decide) ?_
        exact u_iret cx hw (u_pair hz) dX11_dues_41
    · replace hz := u_iff hz hc
      refine lv_iconst (v := (-1)) hx hb dX11_dues_11 (by decide) ?_
      exact u_iret cx hw (u_pair hz) dX11_dues_12
