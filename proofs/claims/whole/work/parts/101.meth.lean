theorem dX7_join_0 : decode cX7_join 0 = .ok (.iconst 0, 1) := by decide +kernel
theorem dX7_join_1 : decode cX7_join 1 = .ok (.istore_n 2, 1) := by decide +kernel
theorem dX7_join_2 : decode cX7_join 2 = .ok (.iload_n 2, 1) := by decide +kernel
theorem dX7_join_3 : decode cX7_join 3 = .ok (.aload_n 1, 1) := by decide +kernel
theorem dX7_join_4 : decode cX7_join 4 = .ok (.getfield 70, 3) := by decide +kernel
theorem dX7_join_7 : decode cX7_join 7 = .ok (.if_icmp .ge 73, 3) := by decide +kernel
theorem dX7_join_10 : decode cX7_join 10 = .ok (.aload_n 0, 1) := by decide +kernel
theorem dX7_join_11 : decode cX7_join 11 = .ok (.getfield 43, 3) := by decide +kernel
theorem dX7_join_14 : decode cX7_join 14 = .ok (.bipush 8, 2) := by decide +kernel
theorem dX7_join_16 : decode cX7_join 16 = .ok (.if_icmp .ge 64, 3) := by decide +kernel
theorem dX7_join_19 : decode cX7_join 19 = .ok (.aload_n 0, 1) := by decide +kernel
theorem dX7_join_20 : decode cX7_join 20 = .ok (.getfield 15, 3) := by decide +kernel
theorem dX7_join_23 : decode cX7_join 23 = .ok (.aload_n 0, 1) := by decide +kernel
theorem dX7_join_24 : decode cX7_join 24 = .ok (.getfield 43, 3) := by decide +kernel
theorem dX7_join_27 : decode cX7_join 27 = .ok (.aload_n 1, 1) := by decide +kernel
theorem dX7_join_28 : decode cX7_join 28 = .ok (.getfield 75, 3) := by decide +kernel
theorem dX7_join_31 : decode cX7_join 31 = .ok (.iload_n 2, 1) := by decide +kernel
theorem dX7_join_32 : decode cX7_join 32 = .ok (.iaload, 1) := by decide +kernel
theorem dX7_join_33 : decode cX7_join 33 = .ok (.iastore, 1) := by decide +kernel
theorem dX7_join_34 : decode cX7_join 34 = .ok (.aload_n 0, 1) := by decide +kernel
theorem dX7_join_35 : decode cX7_join 35 = .ok (.getfield 21, 3) := by decide +kernel
theorem dX7_join_38 : decode cX7_join 38 = .ok (.aload_n 0, 1) := by decide +kernel
theorem dX7_join_39 : decode cX7_join 39 = .ok (.getfield 43, 3) := by decide +kernel
theorem dX7_join_42 : decode cX7_join 42 = .ok (.aload_n 1, 1) := by decide +kernel
theorem dX7_join_43 : decode cX7_join 43 = .ok (.getfield 76, 3) := by decide +kernel
theorem dX7_join_46 : decode cX7_join 46 = .ok (.iload_n 2, 1) := by decide +kernel
theorem dX7_join_47 : decode cX7_join 47 = .ok (.iaload, 1) := by decide +kernel
theorem dX7_join_48 : decode cX7_join 48 = .ok (.iastore, 1) := by decide +kernel
theorem dX7_join_49 : decode cX7_join 49 = .ok (.aload_n 0, 1) := by decide +kernel
theorem dX7_join_50 : decode cX7_join 50 = .ok (.getfield 24, 3) := by decide +kernel
theorem dX7_join_53 : decode cX7_join 53 = .ok (.aload_n 0, 1) := by decide +kernel
theorem dX7_join_54 : decode cX7_join 54 = .ok (.getfield 43, 3) := by decide +kernel
theorem dX7_join_57 : decode cX7_join 57 = .ok (.aload_n 1, 1) := by decide +kernel
theorem dX7_join_58 : decode cX7_join 58 = .ok (.getfield 77, 3) := by decide +kernel
theorem dX7_join_61 : decode cX7_join 61 = .ok (.iload_n 2, 1) := by decide +kernel
theorem dX7_join_62 : decode cX7_join 62 = .ok (.iaload, 1) := by decide +kernel
theorem dX7_join_63 : decode cX7_join 63 = .ok (.iastore, 1) := by decide +kernel
theorem dX7_join_64 : decode cX7_join 64 = .ok (.aload_n 0, 1) := by decide +kernel
theorem dX7_join_65 : decode cX7_join 65 = .ok (.dup, 1) := by decide +kernel
theorem dX7_join_66 : decode cX7_join 66 = .ok (.getfield 43, 3) := by decide +kernel
theorem dX7_join_69 : decode cX7_join 69 = .ok (.iconst 1, 1) := by decide +kernel
theorem dX7_join_70 : decode cX7_join 70 = .ok (.iadd, 1) := by decide +kernel
theorem dX7_join_71 : decode cX7_join 71 = .ok (.putfield 43, 3) := by decide +kernel
theorem dX7_join_74 : decode cX7_join 74 = .ok (.iinc 2 1, 3) := by decide +kernel
theorem dX7_join_77 : decode cX7_join 77 = .ok (.goto (-75), 3) := by decide +kernel
theorem dX7_join_80 : decode cX7_join 80 = .ok (.return_, 1) := by decide +kernel
def b_X7_join_2 (i0 : Nat) (J80_2 : uS → Option uS) (rec2_5 : uS → Int32 → Option uS) (s3 : uS) (x4 : Int32) : Option uS :=
  if (s3.1 11 4) ≤ x4 then (J80_2 s3) else (if 8 ≤ (s3.1 i0 8) then (J80_2 s3) else ((u_rI ZC s3 0 12 x4).bind fun v6 =>
  (u_wI ZC s3 0 (i0 + 2) (s3.1 i0 8) v6).bind fun s7 =>
  (u_rI ZC s7 0 13 x4).bind fun v8 =>
  (u_wI ZC s7 0 (i0 + 4) (s7.1 i0 8) v8).bind fun s9 =>
  (u_rI ZC s9 0 14 x4).bind fun v10 =>
  (u_wI ZC s9 0 (i0 + 5) (s9.1 i0 8) v10).bind fun s11 =>
  u_jn (u_pI s11 i0 8 ((s11.1 i0 8) + 1)) fun s12 =>
  u_jn (x4 + 1 : Int32) fun x13 =>
  rec2_5 s12 x13))
def f_X7_join (N : Nat) (σ : uS) (i0 : Nat) : Option uS := u_jn (fun (s1 : uS) => (some s1 : Option uS)) fun J80_2 =>
  u_lp2 (b_X7_join_2 i0 J80_2) N σ 0
set_option maxRecDepth 100000 in
set_option maxHeartbeats 4000000 in
theorem c_X7_join (l : Launch) (G : uG) (N : Nat) (σ : uS) (i0 : Nat) (oi0 : u_o ZC i0 6 12 (k_S i0)) (z : uS) (hz : f_X7_join N σ i0 = some z) : u_Mv l ZC G yX7_join cX7_join 3 0 [.ref (G.2.2 i0), .ref (G.2.2 11)] σ z := by
  refine u_Mv_of RX7 (by decide) rfl (Nat.le_of_ble_eq_true rfl) ?_
  intro p e s m args below meth c ls cx hw hl
  have hx := cx.1
  have hb := cx.2.1
  have hl : lv_has ls 3 [(0, .ref (G.2.2 i0)), (1, .ref (G.2.2 11))] := hl
  unfold f_X7_join at hz
  refine lv_iconst (v := 0) hx hb dX7_join_0 (by decide) ?_
  refine lv_istore_n (lv' := [(2, .int 0), (0, .ref (G.2.2 i0)), (1, .ref (G.2.2 11))]) hx hb dX7_join_1 rfl hl (by decide) rfl (fun ls hl => ?_)
  obtain ⟨J80_2, eJ80_2, hz⟩ := u_let hz
  have WJ80_2 : ∀ (s1 : uS) (H : Heap) (locs : List Loc) (ls : Array Slot), J80_2 s1 = some z → u_W ZC G s1 s H locs → lv_has ls 3 [] → W p l e (u_rm 0) s m args below meth c H locs 0 0 (u_Qv below ZC G s args z) (F0 m 80 ls []) := by
    intro s1 H locs ls hz hw hl
    rw [eJ80_2] at hz
    exact u_vret cx hw (Option.some.inj hz) dX7_join_80
  have WL2_13 : ∀ (k : Nat) (s3 : uS) (x4 : Int32) (H : Heap) (locs : List Loc) (ls : Array Slot), u_lp2 (b_X7_join_2 i0 J80_2) k s3 x4 = some z → u_W ZC G s3 s H locs → lv_has ls 3 [(0, .ref (G.2.2 i0)), (1, .ref (G.2.2 11)), (2, .int x4)] → W p l e (u_rm 0) s m args below meth c H locs 0 0 (u_Qv below ZC G s args z) (F0 m 2 ls []) := by
    intro k
    induction k with
    | zero =>
      intro s3 x4 H locs ls hz
      exact absurd hz (by intro h9; cases h9)
    | succ k ih2_5 =>
      intro s3 x4 H locs ls hz hw hl
      have hz : (b_X7_join_2 i0 J80_2) (u_lp2 (b_X7_join_2 i0 J80_2) k) s3 x4 = some z := hz
      unfold b_X7_join_2 at hz
      refine lv_iload_n hx hb dX7_join_2 rfl (lv_at hl 2 rfl) ?_
      refine lv_aload_n hx hb dX7_join_3 rfl (lv_at hl 1 rfl) ?_
      refine u_geti cx hw F_X7_70 o_X4 rfl dX7_join_4 ?_
      refine lv_icmp_ge (tgt := 80) hx hb dX7_join_7 (by decide) (fun hc => ?_) (fun hc => ?_)
      · replace hz := u_ift hz hc
        exact WJ80_2 s3 _ _ _ hz hw (lv_sub hl [] rfl)
      · replace hz := u_iff hz hc
        refine lv_aload_n hx hb dX7_join_10 rfl (lv_at hl 0 rfl) ?_
        refine u_geti cx hw F_X7_43 oi0 rfl dX7_join_11 ?_
        refine lv_bipush (v := 8) hx hb dX7_join_14 (by decide) ?_
        refine lv_icmp_ge (tgt := 80) hx hb dX7_join_16 (by decide) (fun hc => ?_) (fun hc => ?_)
        · replace hz := u_ift hz hc
          exact WJ80_2 s3 _ _ _ hz hw (lv_sub hl [] rfl)
        · replace hz := u_iff hz hc
          refine lv_aload_n hx hb dX7_join_19 rfl (lv_at hl 0 rfl) ?_
          refine u_getp cx hw F_X7_15 oi0 rfl dX7_join_20 ?_
          refine lv_aload_n hx hb dX7_join_23 rfl (lv_at hl 0 rfl) ?_
          refine u_geti cx hw F_X7_43 oi0 rfl dX7_join_24 ?_
          refine lv_aload_n hx hb dX7_join_27 rfl (lv_at hl 1 rfl) ?_
          refine u_getp cx hw F_X7_75 o_X4 rfl dX7_join_28 ?_
          refine lv_iload_n hx hb dX7_join_31 rfl (lv_at hl 2 rfl) ?_
          obtain ⟨v6, hv6, hz⟩ := u_bind hz
          refine u_iald cx hw hv6 dX7_join_32 ?_
          obtain ⟨s7, hs7, hz⟩ := u_bind hz
          refine u_iast cx hw hs7 dX7_join_33 (fun H locs hw => ?_)
          refine lv_aload_n hx hb dX7_join_34 rfl (lv_at hl 0 rfl) ?_
          refine u_getp cx hw F_X7_21 oi0 rfl dX7_join_35 ?_
          refine lv_aload_n hx hb dX7_join_38 rfl (lv_at hl 0 rfl) ?_
          refine u_geti cx hw F_X7_43 oi0 rfl dX7_join_39 ?_
          refine lv_aload_n hx hb dX7_join_42 rfl (lv_at hl 1 rfl) ?_
          refine u_getp cx hw F_X7_76 o_X4 rfl dX7_join_43 ?_
          refine lv_iload_n hx hb dX7_join_46 rfl (lv_at hl 2 rfl) ?_
          obtain ⟨v8, hv8, hz⟩ := u_bind hz
          refine u_iald cx hw hv8 dX7_join_47 ?_
          obtain ⟨s9, hs9, hz⟩ := u_bind hz
          refine u_iast cx hw hs9 dX7_join_48 (fun H locs hw => ?_)
          refine lv_aload_n hx hb dX7_join_49 rfl (lv_at hl 0 rfl) ?_
          refine u_getp cx hw F_X7_24 oi0 rfl dX7_join_50 ?_
          refine lv_aload_n hx hb dX7_join_53 rfl (lv_at hl 0 rfl) ?_
          refine u_geti cx hw F_X7_43 oi0 rfl dX7_join_54 ?_
          refine lv_aload_n hx hb dX7_join_57 rfl (lv_at hl 1 rfl) ?_
          refine u_getp cx hw F_X7_77 o_X4 rfl dX7_join_58 ?_
          refine lv_iload_n hx hb dX7_join_61 rfl (lv_at hl 2 rfl) ?_
          obtain ⟨v10, hv10, hz⟩ := u_bind hz
          refine u_iald cx hw hv10 dX7_join_62 ?_
          obtain ⟨s11, hs11, hz⟩ := u_bind hz
          refine u_iast cx hw hs11 dX7_join_63 (fun H locs hw => ?_)
          refine lv_aload_n hx hb dX7_join_64 rfl (lv_at hl 0 rfl) ?_
          refine lv_dup hx hb dX7_join_65 rfl ?_
          refine u_geti cx hw F_X7_43 oi0 rfl dX7_join_66 ?_
          refine lv_iconst (v := 1) hx hb dX7_join_69 (by decide) ?_
          refine lv_iadd hx hb dX7_join_70 ?_
          obtain ⟨s12, es12, hz⟩ := u_let hz
          refine u_puti2 cx hw P_X7_43 oi0 rfl es12 dX7_join_71 (fun H locs hw => ?_)
          obtain ⟨x13, ex13, hz⟩ := u_let hz
          refine lv_iinc (v := x13) (lv' := [(2, .int x13), (0, .ref (G.2.2 i0)), (1, .ref (G.2.2 11))]) hx hb dX7_join_74 hl (k := 2) rfl (by rw [ex13]; rfl) (by decide) rfl (fun ls hl => ?_)
          refine lv_goto (tgt := 2) hx hb dX7_join_77 (by decide) ?_
          exact ih2_5 s12 x13 _ _ _ hz hw (lv_sub hl [1, 2, 0] rfl)
  exact WL2_13 N σ 0 _ _ _ hz hw (lv_sub hl [1, 2, 0] rfl)
theorem dX7_isFurrow_0 : decode cX7_isFurrow 0 = .ok (.iload_n 1, 1) := by decide +kernel
theorem dX7_isFurrow_1 : decode cX7_isFurrow 1 = .ok (.ifCond .lt 15, 3) := by decide +kernel
theorem dX7_isFurrow_4 : decode cX7_isFurrow 4 = .ok (.iload_n 1, 1) := by decide +kernel
theorem dX7_isFurrow_5 : decode cX7_isFurrow 5 = .ok (.aload_n 0, 1) := by decide +kernel
theorem dX7_isFurrow_6 : decode cX7_isFurrow 6 = .ok (.getfield 27, 3) := by decide +kernel
theorem dX7_isFurrow_9 : decode cX7_isFurrow 9 = .ok (.if_icmp .ge 7, 3) := by decide +kernel
theorem dX7_isFurrow_12 : decode cX7_isFurrow 12 = .ok (.iconst 1, 1) := by decide +kernel
theorem dX7_isFurrow_13 : decode cX7_isFurrow 13 = .ok (.goto 4, 3) := by decide +kernel
theorem dX7_isFurrow_16 : decode cX7_isFurrow 16 = .ok (.iconst 0, 1) := by decide +kernel
theorem dX7_isFurrow_17 : decode cX7_isFurrow 17 = .ok (.ireturn, 1) := by decide +kernel
def f_X7_isFurrow (N : Nat) (σ : uS) (i0 : Nat) (p1 : Int32) : Option Int32 := u_jn ((some 0 : Option Int32)) fun J16_1 =>
  if p1 < 0 then (J16_1) else (if (σ.1 i0 5) ≤ p1 then (J16_1) else (some 1))
set_option maxRecDepth 100000 in
set_option maxHeartbeats 4000000 in
theorem c_X7_isFurrow (l : Launch) (G : uG) (N : Nat) (σ : uS) (i0 : Nat) (oi0 : u_o ZC i0 6 12 (k_S i0)) (p1 : Int32) (z : Int32) (hz : f_X7_isFurrow N σ i0 p1 = some z) : u_Mi l ZC G yX7_isFurrow cX7_isFurrow 2 .boolean 0 [.ref (G.2.2 i0), .int p1] σ z σ := by
  refine u_Mi_of RX7 (by decide) rfl (Nat.le_of_ble_eq_true rfl) ?_
  intro p e s m args below meth c ls cx hw hl
  have hx := cx.1
  have hb := cx.2.1
  have hl : lv_has ls 2 [(0, .ref (G.2.2 i0)), (1, .int p1)] := hl
  unfold f_X7_isFurrow at hz
  refine lv_iload_n hx hb dX7_isFurrow_0 rfl (lv_at hl 1 rfl) ?_
  obtain ⟨J16_1, eJ16_1, hz⟩ := u_let hz
  have WJ16_1 : ∀ (H : Heap) (locs : List Loc) (ls : Array Slot), J16_1 = some z → u_W ZC G σ s H locs → lv_has ls 2 [] → W p l e (u_rm 0) s m args below meth c H locs 0 0 (u_Qi below ZC G s args z σ) (F0 m 16 ls []) := by
    intro H locs ls hz hw hl
    rw [eJ16_1] at hz
    refine lv_iconst (v := 0) hx hb dX7_isFurrow_16 (by decide) ?_
    exact u_zret cx hw (Or.inl rfl) ⟨Option.some.inj hz, rfl⟩ dX7_isFurrow_17
  refine lv_if_lt (tgt := 16) hx hb dX7_isFurrow_1 (by decide) (fun hc => ?_) (fun hc => ?_)
  · replace hz := u_ift hz hc
    exact WJ16_1 _ _ _ hz hw (lv_sub hl [] rfl)
  · replace hz := u_iff hz hc
    refine lv_iload_n hx hb dX7_isFurrow_4 rfl (lv_at hl 1 rfl) ?_
    refine lv_aload_n hx hb dX7_isFurrow_5 rfl (lv_at hl 0 rfl) ?_
    refine u_geti cx hw F_X7_27 oi0 rfl dX7_isFurrow_6 ?_
    refine lv_icmp_ge (tgt := 16) hx hb dX7_isFurrow_9 (by decide) (fun hc => ?_) (fun hc => ?_)
    · replace hz := u_ift hz hc
      exact WJ16_1 _ _ _ hz hw (lv_sub hl [] rfl)
    · replace hz := u_iff hz hc
      refine lv_iconst (v := 1) hx hb dX7_isFurrow_12 (by decide) ?_
      refine lv_goto (tgt := 17) hx hb dX7_isFurrow_13 (by decide) ?_
      exact u_zret cx hw (Or.inr rfl) ⟨Option.some.inj hz, rfl⟩ dX7_isFurrow_17
theorem dX7_isOfRope_0 : decode cX7_isOfRope 0 = .ok (.iload_n 1, 1) := by decide +kernel
theorem dX7_isOfRope_1 : decode cX7_isOfRope 1 = .ok (.aload_n 0, 1) := by decide +kernel
theorem dX7_isOfRope_2 : decode cX7_isOfRope 2 = .ok (.getfield 37, 3) := by decide +kernel
theorem dX7_isOfRope_5 : decode cX7_isOfRope 5 = .ok (.if_icmp .lt 15, 3) := by decide +kernel
theorem dX7_isOfRope_8 : decode cX7_isOfRope 8 = .ok (.iload_n 1, 1) := by decide +kernel
theorem dX7_isOfRope_9 : decode cX7_isOfRope 9 = .ok (.aload_n 0, 1) := by decide +kernel
theorem dX7_isOfRope_10 : decode cX7_isOfRope 10 = .ok (.getfield 40, 3) := by decide +kernel
theorem dX7_isOfRope_13 : decode cX7_isOfRope 13 = .ok (.if_icmp .gt 7, 3) := by decide +kernel
theorem dX7_isOfRope_16 : decode cX7_isOfRope 16 = .ok (.iconst 1, 1) := by decide +kernel
theorem dX7_isOfRope_17 : decode cX7_isOfRope 17 = .ok (.goto 4, 3) := by decide +kernel
theorem dX7_isOfRope_20 : decode cX7_isOfRope 20 = .ok (.iconst 0, 1) := by decide +kernel
theorem dX7_isOfRope_21 : decode cX7_isOfRope 21 = .ok (.ireturn, 1) := by decide +kernel
def f_X7_isOfRope (N : Nat) (σ : uS) (i0 : Nat) (p1 : Int32) : Option Int32 := u_jn ((some 0 : Option Int32)) fun J20_1 =>
  if p1 < (σ.1 i0 6) then (J20_1) else (if (σ.1 i0 7) < p1 then (J20_1) else (some 1))
set_option maxRecDepth 100000 in
set_option maxHeartbeats 4000000 in
theorem c_X7_isOfRope (l : Launch) (G : uG) (N : Nat) (σ : uS) (i0 : Nat) (oi0 : u_o ZC i0 6 12 (k_S i0)) (p1 : Int32) (z : Int32) (hz : f_X7_isOfRope N σ i0 p1 = some z) : u_Mi l ZC G yX7_isOfRope cX7_isOfRope 2 .boolean 0 [.ref (G.2.2 i0), .int p1] σ z σ := by
  refine u_Mi_of RX7 (by decide) rfl (Nat.le_of_ble_eq_true rfl) ?_
  intro p e s m args below meth c ls cx hw hl
  have hx := cx.1
  have hb := cx.2.1
  have hl : lv_has ls 2 [(0, .ref (G.2.2 i0)), (1, .int p1)] := hl
  unfold f_X7_isOfRope at hz
  refine lv_iload_n hx hb dX7_isOfRope_0 rfl (lv_at hl 1 rfl) ?_
  refine lv_aload_n hx hb dX7_isOfRope_1 rfl (lv_at hl 0 rfl) ?_
  refine u_geti cx hw F_X7_37 oi0 rfl dX7_isOfRope_2 ?_
  obtain ⟨J20_1, eJ20_1, hz⟩ := u_let hz
  have WJ20_1 : ∀ (H : Heap) (locs : List Loc) (ls : Array Slot), J20_1 = some z → u_W ZC G σ s H locs → lv_has ls 2 [] → W p l e (u_rm 0) s m args below meth c H locs 0 0 (u_Qi below ZC G s args z σ) (F0 m 20 ls []) := by
    intro H locs ls hz hw hl
    rw [eJ20_1] at hz
    refine lv_iconst (v := 0) hx hb dX7_isOfRope_20 (by decide) ?_
    exact u_zret cx hw (Or.inl rfl) ⟨Option.some.inj hz, rfl⟩ dX7_isOfRope_21
  refine lv_icmp_lt (tgt := 20) hx hb dX7_isOfRope_5 (by decide) (fun hc => ?_) (fun hc => ?_)
  · replace hz := u_ift hz hc
    exact WJ20_1 _ _ _ hz hw (lv_sub hl [] rfl)
  · replace hz := u_iff hz hc
    refine lv_iload_n hx hb dX7_isOfRope_8 rfl (lv_at hl 1 rfl) ?_
    refine lv_aload_n hx hb dX7_isOfRope_9 rfl (lv_at hl 0 rfl) ?_
    refine u_geti cx hw F_X7_40 oi0 rfl dX7_isOfRope_10 ?_
    refine lv_icmp_gt (tgt := 20) hx hb dX7_isOfRope_13 (by decide) (fun hc => ?_) (fun hc => ?_)
    · replace hz := u_ift hz hc
      exact WJ20_1 _ _ _ hz hw (lv_sub hl [] rfl)
    · replace hz := u_iff hz hc
      refine lv_iconst (v := 1) hx hb dX7_isOfRope_16 (by decide) ?_
      refine lv_goto (tgt := 21) hx hb dX7_isOfRope_17 (by decide) ?_
      exact u_zret cx hw (Or.inr rfl) ⟨Option.some.inj hz, rfl⟩ dX7_isOfRope_21
theorem dX7_isPerson_0 : decode cX7_isPerson 0 = .ok (.iload_n 1, 1) := by decide +kernel
theorem dX7_isPerson_1 : decode cX7_isPerson 1 = .ok (.ifCond .lt 15, 3) := by decide +kernel
theorem dX7_isPerson_4 : decode cX7_isPerson 4 = .ok (.iload_n 1, 1) := by decide +kernel
theorem dX7_isPerson_5 : decode cX7_isPerson 5 = .ok (.aload_n 0, 1) := by decide +kernel
theorem dX7_isPerson_6 : decode cX7_isPerson 6 = .ok (.getfield 43, 3) := by decide +kernel
theorem dX7_isPerson_9 : decode cX7_isPerson 9 = .ok (.if_icmp .ge 7, 3) := by decide +kernel
theorem dX7_isPerson_12 : decode cX7_isPerson 12 = .ok (.iconst 1, 1) := by decide +kernel
theorem dX7_isPerson_13 : decode cX7_isPerson 13 = .ok (.goto 4, 3) := by decide +kernel
theorem dX7_isPerson_16 : decode cX7_isPerson 16 = .ok (.iconst 0, 1) := by decide +kernel
theorem dX7_isPerson_17 : decode cX7_isPerson 17 = .ok (.ireturn, 1) := by decide +kernel
def f_X7_isPerson (N : Nat) (σ : uS) (i0 : Nat) (p1 : Int32) : Option Int32 := u_jn ((some 0 : Option Int32)) fun J16_1 =>
  if p1 < 0 then (J16_1) else (if (σ.1 i0 8) ≤ p1 then (J16_1) else (some 1))
set_option maxRecDepth 100000 in
set_option maxHeartbeats 4000000 in
theorem c_X7_isPerson (l : Launch) (G : uG) (N : Nat) (σ : uS) (i0 : Nat) (oi0 : u_o ZC i0 6 12 (k_S i0)) (p1 : Int32) (z : Int32) (hz : f_X7_isPerson N σ i0 p1 = some z) : u_Mi l ZC G yX7_isPerson cX7_isPerson 2 .boolean 0 [.ref (G.2.2 i0), .int p1] σ z σ := by
  refine u_Mi_of RX7 (by decide) rfl (Nat.le_of_ble_eq_true rfl) ?_
  intro p e s m args below meth c ls cx hw hl
  have hx := cx.1
  have hb := cx.2.1
  have hl : lv_has ls 2 [(0, .ref (G.2.2 i0)), (1, .int p1)] := hl
  unfold f_X7_isPerson at hz
  refine lv_iload_n hx hb dX7_isPerson_0 rfl (lv_at hl 1 rfl) ?_
  obtain ⟨J16_1, eJ16_1, hz⟩ := u_let hz
  have WJ16_1 : ∀ (H : Heap) (locs : List Loc) (ls : Array Slot), J16_1 = some z → u_W ZC G σ s H locs → lv_has ls 2 [] → W p l e (u_rm 0) s m args below meth c H locs 0 0 (u_Qi below ZC G s args z σ) (F0 m 16 ls []) := by
    intro H locs ls hz hw hl
    rw [eJ16_1] at hz
    refine lv_iconst (v := 0) hx hb dX7_isPerson_16 (by decide) ?_
    exact u_zret cx hw (Or.inl rfl) ⟨Option.some.inj hz, rfl⟩ dX7_isPerson_17
  refine lv_if_lt (tgt := 16) hx hb dX7_isPerson_1 (by decide) (fun hc => ?_) (fun hc => ?_)
  · replace hz := u_ift hz hc
    exact WJ16_1 _ _ _ hz hw (lv_sub hl [] rfl)
  · replace hz := u_iff hz hc
    refine lv_iload_n hx hb dX7_isPerson_4 rfl (lv_at hl 1 rfl) ?_
    refine lv_aload_n hx hb dX7_isPerson_5 rfl (lv_at hl 0 rfl) ?_
    refine u_geti cx hw F_X7_43 oi0 rfl dX7_isPerson_6 ?_
    refine lv_icmp_ge (tgt := 16) hx hb dX7_isPerson_9 (by decide) (fun hc => ?_) (fun hc => ?_)
    · replace hz := u_ift hz hc
      exact WJ16_1 _ _ _ hz hw (lv_sub hl [] rfl)
    · replace hz := u_iff hz hc
      refine lv_iconst (v := 1) hx hb dX7_isPerson_12 (by decide) ?_
      refine lv_goto (tgt := 17) hx hb dX7_isPerson_13 (by decide) ?_
      exact u_zret cx hw (Or.inr rfl) ⟨Option.some.inj hz, rfl⟩ dX7_isPerson_17
theorem dX7_everybody_0 : decode cX7_everybody 0 = .ok (.iconst 1, 1) := by decide +kernel
theorem dX7_everybody_1 : decode cX7_everybody 1 = .ok (.aload_n 0, 1) := by decide +kernel
theorem dX7_everybody_2 : decode cX7_everybody 2 = .ok (.getfield 43, 3) := by decide +kernel
theorem dX7_everybody_5 : decode cX7_everybody 5 = .ok (.ishl, 1) := by decide +kernel
theorem dX7_everybody_6 : decode cX7_everybody 6 = .ok (.iconst 1, 1) := by decide +kernel
theorem dX7_everybody_7 : decode cX7_everybody 7 = .ok (.isub, 1) := by decide +kernel
theorem dX7_everybody_8 : decode cX7_everybody 8 = .ok (.ireturn, 1) := by decide +kernel
def f_X7_everybody (N : Nat) (σ : uS) (i0 : Nat) : Option Int32 := some ((1 <<< ((σ.1 i0 8) &&& 31)) - 1)
set_option maxRecDepth 100000 in
set_option maxHeartbeats 4000000 in
theorem c_X7_everybody (l : Launch) (G : uG) (N : Nat) (σ : uS) (i0 : Nat) (oi0 : u_o ZC i0 6 12 (k_S i0)) (z : Int32) (hz : f_X7_everybody N σ i0 = some z) : u_Mi l ZC G yX7_everybody cX7_everybody 1 .int 0 [.ref (G.2.2 i0)] σ z σ := by
  refine u_Mi_of RX7 (by decide) rfl (Nat.le_of_ble_eq_true rfl) ?_
  intro p e s m args below meth c ls cx hw hl
  have hx := cx.1
  have hb := cx.2.1
  have hl : lv_has ls 1 [(0, .ref (G.2.2 i0))] := hl
  unfold f_X7_everybody at hz
  refine lv_iconst (v := 1) hx hb dX7_everybody_0 (by decide) ?_
  refine lv_aload_n hx hb dX7_everybody_1 rfl (lv_at hl 0 rfl) ?_
  refine u_geti cx hw F_X7_43 oi0 rfl dX7_everybody_2 ?_
  refine lv_ishl hx hb dX7_everybody_5 ?_
  refine lv_iconst (v := 1) hx hb dX7_everybody_6 (by decide) ?_
  refine lv_isub hx hb dX7_everybody_7 ?_
  exact u_iret cx hw ⟨Option.some.inj hz, rfl⟩ dX7_everybody_8
theorem dX7_isIn_0 : decode cX7_isIn 0 = .ok (.aload_n 0, 1) := by decide +kernel
theorem dX7_isIn_1 : decode cX7_isIn 1 = .ok (.getfield 15, 3) := by decide +kernel
theorem dX7_isIn_4 : decode cX7_isIn 4 = .ok (.iload_n 1, 1) := by decide +kernel
theorem dX7_isIn_5 : decode cX7_isIn 5 = .ok (.iaload, 1) := by decide +kernel
theorem dX7_isIn_6 : decode cX7_isIn 6 = .ok (.aload_n 0, 1) := by decide +kernel
theorem dX7_isIn_7 : decode cX7_isIn 7 = .ok (.getfield 21, 3) := by decide +kernel
theorem dX7_isIn_10 : decode cX7_isIn 10 = .ok (.iload_n 1, 1) := by decide +kernel
theorem dX7_isIn_11 : decode cX7_isIn 11 = .ok (.iaload, 1) := by decide +kernel
theorem dX7_isIn_12 : decode cX7_isIn 12 = .ok (.if_icmp .lt 7, 3) := by decide +kernel
theorem dX7_isIn_15 : decode cX7_isIn 15 = .ok (.iconst 1, 1) := by decide +kernel
theorem dX7_isIn_16 : decode cX7_isIn 16 = .ok (.goto 4, 3) := by decide +kernel
theorem dX7_isIn_19 : decode cX7_isIn 19 = .ok (.iconst 0, 1) := by decide +kernel
theorem dX7_isIn_20 : decode cX7_isIn 20 = .ok (.ireturn, 1) := by decide +kernel
def f_X7_isIn (N : Nat) (σ : uS) (i0 : Nat) (p1 : Int32) : Option Int32 := (u_rI ZC σ 0 (i0 + 2) p1).bind fun v1 =>
  (u_rI ZC σ 0 (i0 + 4) p1).bind fun v2 =>
  if v1 < v2 then (some 0) else (some 1)
set_option maxRecDepth 100000 in
set_option maxHeartbeats 4000000 in
theorem c_X7_isIn (l : Launch) (G : uG) (N : Nat) (σ : uS) (i0 : Nat) (oi0 : u_o ZC i0 6 12 (k_S i0)) (p1 : Int32) (z : Int32) (hz : f_X7_isIn N σ i0 p1 = some z) : u_Mi l ZC G yX7_isIn cX7_isIn 2 .boolean 0 [.ref (G.2.2 i0), .int p1] σ z σ := by
  refine u_Mi_of RX7 (by decide) rfl (Nat.le_of_ble_eq_true rfl) ?_
  intro p e s m args below meth c ls cx hw hl
  have hx := cx.1
  have hb := cx.2.1
  have hl : lv_has ls 2 [(0, .ref (G.2.2 i0)), (1, .int p1)] := hl
  unfold f_X7_isIn at hz
  refine lv_aload_n hx hb dX7_isIn_0 rfl (lv_at hl 0 rfl) ?_
  refine u_getp cx hw F_X7_15 oi0 rfl dX7_isIn_1 ?_
  refine lv_iload_n hx hb dX7_isIn_4 rfl (lv_at hl 1 rfl) ?_
  obtain ⟨v1, hv1, hz⟩ := u_bind hz
  refine u_iald cx hw hv1 dX7_isIn_5 ?_
  refine lv_aload_n hx hb dX7_isIn_6 rfl (lv_at hl 0 rfl) ?_
  refine u_getp cx hw F_X7_21 oi0 rfl dX7_isIn_7 ?_
  refine lv_iload_n hx hb dX7_isIn_10 rfl (lv_at hl 1 rfl) ?_
  obtain ⟨v2, hv2, hz⟩ := u_bind hz
  refine u_iald cx hw hv2 dX7_isIn_11 ?_
  refine lv_icmp_lt (tgt := 19) hx hb dX7_isIn_12 (by decide) (fun hc => ?_) (fun hc => ?_)
  · replace hz := u_ift hz hc
    refine lv_iconst (v := 0) hx hb dX7_isIn_19 (by decide) ?_
    exact u_zret cx hw (Or.inl rfl) ⟨Option.some.inj hz, rfl⟩ dX7_isIn_20
  · replace hz := u_iff hz hc
    refine lv_iconst (v := 1) hx hb dX7_isIn_15 (by decide) ?_
    refine lv_goto (tgt := 20) hx hb dX7_isIn_16 (by decide) ?_
    exact u_zret cx hw (Or.inr rfl) ⟨Option.some.inj hz, rfl⟩ dX7_isIn_20
theorem dX7_inside_0 : decode cX7_inside 0 = .ok (.iconst 0, 1) := by decide +kernel
theorem dX7_inside_1 : decode cX7_inside 1 = .ok (.istore_n 1, 1) := by decide +kernel
theorem dX7_inside_2 : decode cX7_inside 2 = .ok (.iconst 0, 1) := by decide +kernel
theorem dX7_inside_3 : decode cX7_inside 3 = .ok (.istore_n 2, 1) := by decide +kernel
theorem dX7_inside_4 : decode cX7_inside 4 = .ok (.iload_n 2, 1) := by decide +kernel
theorem dX7_inside_5 : decode cX7_inside 5 = .ok (.aload_n 0, 1) := by decide +kernel
theorem dX7_inside_6 : decode cX7_inside 6 = .ok (.getfield 43, 3) := by decide +kernel
theorem dX7_inside_9 : decode cX7_inside 9 = .ok (.if_icmp .ge 27, 3) := by decide +kernel
theorem dX7_inside_12 : decode cX7_inside 12 = .ok (.iload_n 1, 1) := by decide +kernel
theorem dX7_inside_13 : decode cX7_inside 13 = .ok (.aload_n 0, 1) := by decide +kernel
theorem dX7_inside_14 : decode cX7_inside 14 = .ok (.iload_n 2, 1) := by decide +kernel
theorem dX7_inside_15 : decode cX7_inside 15 = .ok (.invokevirtual 82, 3) := by decide +kernel
theorem dX7_inside_18 : decode cX7_inside 18 = .ok (.ifCond .eq 9, 3) := by decide +kernel
theorem dX7_inside_21 : decode cX7_inside 21 = .ok (.iconst 1, 1) := by decide +kernel
theorem dX7_inside_22 : decode cX7_inside 22 = .ok (.iload_n 2, 1) := by decide +kernel
theorem dX7_inside_23 : decode cX7_inside 23 = .ok (.ishl, 1) := by decide +kernel
theorem dX7_inside_24 : decode cX7_inside 24 = .ok (.goto 4, 3) := by decide +kernel
theorem dX7_inside_27 : decode cX7_inside 27 = .ok (.iconst 0, 1) := by decide +kernel
theorem dX7_inside_28 : decode cX7_inside 28 = .ok (.ior, 1) := by decide +kernel
theorem dX7_inside_29 : decode cX7_inside 29 = .ok (.istore_n 1, 1) := by decide +kernel
theorem dX7_inside_30 : decode cX7_inside 30 = .ok (.iinc 2 1, 3) := by decide +kernel
theorem dX7_inside_33 : decode cX7_inside 33 = .ok (.goto (-29), 3) := by decide +kernel
theorem dX7_inside_36 : decode cX7_inside 36 = .ok (.iload_n 1, 1) := by decide +kernel
theorem dX7_inside_37 : decode cX7_inside 37 = .ok (.ireturn, 1) := by decide +kernel
def b_X7_inside_4 (N : Nat) (σ : uS) (i0 : Nat) (J36_2 : Int32 → Option Int32) (rec4_5 : Int32 → Int32 → Option Int32) (x3 : Int32) (x4 : Int32) : Option Int32 :=
  if (σ.1 i0 8) ≤ x4 then (J36_2 x3) else ((f_X7_isIn N σ i0 x4).bind fun v6 =>
  u_jn (fun (t7 : Int32) => (u_jn ((x3 ||| t7) : Int32) fun x9 =>
  u_jn (x4 + 1 : Int32) fun x10 =>
  rec4_5 x9 x10 : Option Int32)) fun J28_8 =>
  if v6 = 0 then (J28_8 0) else (J28_8 (1 <<< (x4 &&& 31))))
def f_X7_inside (N : Nat) (σ : uS) (i0 : Nat) : Option Int32 := u_jn (fun (x1 : Int32) => (some x1 : Option Int32)) fun J36_2 =>
  u_lp2 (b_X7_inside_4 N σ i0 J36_2) N 0 0
set_option maxRecDepth 100000 in
set_option maxHeartbeats 4000000 in
theorem c_X7_inside (l : Launch) (G : uG) (N : Nat) (σ : uS) (i0 : Nat) (oi0 : u_o ZC i0 6 12 (k_S i0)) (z : Int32) (hz : f_X7_inside N σ i0 = some z) : u_Mi l ZC G yX7_inside cX7_inside 3 .int 1 [.ref (G.2.2 i0)] σ z σ := by
  refine u_Mi_of RX7 (by decide) rfl (Nat.le_of_ble_eq_true rfl) ?_
  intro p e s m args below meth c ls cx hw hl
  have hx := cx.1
  have hb := cx.2.1
  have hl : lv_has ls 3 [(0, .ref (G.2.2 i0))] := hl
  unfold f_X7_inside at hz
  refine lv_iconst (v := 0) hx hb dX7_inside_0 (by decide) ?_
  refine lv_istore_n (lv' := [(1, .int 0), (0, .ref (G.2.2 i0))]) hx hb dX7_inside_1 rfl hl (by decide) rfl (fun ls hl => ?_)
  refine lv_iconst (v := 0) hx hb dX7_inside_2 (by decide) ?_
  refine lv_istore_n (lv' := [(2, .int 0), (1, .int 0), (0, .ref (G.2.2 i0))]) hx hb dX7_inside_3 rfl hl (by decide) rfl (fun ls hl => ?_)
  obtain ⟨J36_2, eJ36_2, hz⟩ := u_let hz
  have WJ36_2 : ∀ (x1 : Int32) (H : Heap) (locs : List Loc) (ls : Array Slot), J36_2 x1 = some z → u_W ZC G σ s H locs → lv_has ls 3 [(1, .int x1)] → W p l e (u_rm 1) s m args below meth c H locs 0 0 (u_Qi below ZC G s args z σ) (F0 m 36 ls []) := by
    intro x1 H locs ls hz hw hl
    rw [eJ36_2] at hz
    refine lv_iload_n hx hb dX7_inside_36 rfl (lv_at hl 0 rfl) ?_
    exact u_iret cx hw ⟨Option.some.inj hz, rfl⟩ dX7_inside_37
  have WL4_10 : ∀ (k : Nat) (x3 : Int32) (x4 : Int32) (H : Heap) (locs : List Loc) (ls : Array Slot), u_lp2 (b_X7_inside_4 N σ i0 J36_2) k x3 x4 = some z → u_W ZC G σ s H locs → lv_has ls 3 [(0, .ref (G.2.2 i0)), (1, .int x3), (2, .int x4)] → W p l e (u_rm 1) s m args below meth c H locs 0 0 (u_Qi below ZC G s args z σ) (F0 m 4 ls []) := by
    intro k
    induction k with
    | zero =>
      intro x3 x4 H locs ls hz
      exact absurd hz (by intro h9; cases h9)
    | succ k ih4_5 =>
      intro x3 x4 H locs ls hz hw hl
      have hz : (b_X7_inside_4 N σ i0 J36_2) (u_lp2 (b_X7_inside_4 N σ i0 J36_2) k) x3 x4 = some z := hz
      unfold b_X7_inside_4 at hz
      refine lv_iload_n hx hb dX7_inside_4 rfl (lv_at hl 2 rfl) ?_
      refine lv_aload_n hx hb dX7_inside_5 rfl (lv_at hl 0 rfl) ?_
      refine u_geti cx hw F_X7_43 oi0 rfl dX7_inside_6 ?_
      refine lv_icmp_ge (tgt := 36) hx hb dX7_inside_9 (by decide) (fun hc => ?_) (fun hc => ?_)
      · replace hz := u_ift hz hc
        exact WJ36_2 x3 _ _ _ hz hw (lv_sub hl [1] rfl)
      · replace hz := u_iff hz hc
        refine lv_iload_n hx hb dX7_inside_12 rfl (lv_at hl 1 rfl) ?_
        refine lv_aload_n hx hb dX7_inside_13 rfl (lv_at hl 0 rfl) ?_
        refine lv_iload_n hx hb dX7_inside_14 rfl (lv_at hl 2 rfl) ?_
        obtain ⟨v6, hv6, hz⟩ := u_bind hz
        refine u_callVi (As := [.int x4]) (rest := [.int x3]) cx hw LV_X7_82 (c_X7_isIn l G N σ i0 oi0 x4 v6 hv6) oi0 rfl (by decide) hl.1 rfl (Nat.le_of_ble_eq_true rfl) dX7_inside_15 rfl (fun H locs hw => ?_)
        obtain ⟨J28_8, eJ28_8, hz⟩ := u_let hz
        have WJ28_8 : ∀ (t7 : Int32) (H : Heap) (locs : List Loc) (ls : Array Slot), J28_8 t7 = some z → u_W ZC G σ s H locs → lv_has ls 3 [(0, .ref (G.2.2 i0)), (2, .int x4)] → W p l e (u_rm 1) s m args below meth c H locs 0 0 (u_Qi below ZC G s args z σ) (F0 m 28 ls [.int t7, .int x3]) := by
          intro t7 H locs ls hz hw hl
          rw [eJ28_8] at hz
          refine lv_ior hx hb dX7_inside_28 ?_
          obtain ⟨x9, ex9, hz⟩ := u_let hz
          refine u_topi ex9 ?_
          refine lv_istore_n (lv' := [(1, .int x9), (0, .ref (G.2.2 i0)), (2, .int x4)]) hx hb dX7_inside_29 rfl hl (by decide) rfl (fun ls hl => ?_)
          obtain ⟨x10, ex10, hz⟩ := u_let hz
          refine lv_iinc (v := x10) (lv' := [(2, .int x10), (1, .int x9), (0, .ref (G.2.2 i0))]) hx hb dX7_inside_30 hl (k := 2) rfl (by rw [ex10]; rfl) (by decide) rfl (fun ls hl => ?_)
          refine lv_goto (tgt := 4) hx hb dX7_inside_33 (by decide) ?_
          exact ih4_5 x9 x10 _ _ _ hz hw (lv_sub hl [2, 1, 0] rfl)
        refine lv_if_eq (tgt := 27) hx hb dX7_inside_18 (by decide) (fun hc => ?_) (fun hc => ?_)
        · replace hz := u_ift hz hc
          refine lv_iconst (v := 0) hx hb dX7_inside_27 (by decide) ?_
          exact WJ28_8 0 _ _ _ hz hw (lv_sub hl [0, 2] rfl)
        · replace hz := u_iff hz hc
          refine lv_iconst (v := 1) hx hb dX7_inside_21 (by decide) ?_
          refine lv_iload_n hx hb dX7_inside_22 rfl (lv_at hl 2 rfl) ?_
          refine lv_ishl hx hb dX7_inside_23 ?_
          refine lv_goto (tgt := 28) hx hb dX7_inside_24 (by decide) ?_
          exact WJ28_8 (1 <<< (x4 &&& 31)) _ _ _ hz hw (lv_sub hl [0, 2] rfl)
  exact WL4_10 N 0 0 _ _ _ hz hw (lv_sub hl [2, 1, 0] rfl)
theorem dX7_outside_0 : decode cX7_outside 0 = .ok (.aload_n 0, 1) := by decide +kernel
theorem dX7_outside_1 : decode cX7_outside 1 = .ok (.invokevirtual 78, 3) := by decide +kernel
theorem dX7_outside_4 : decode cX7_outside 4 = .ok (.aload_n 0, 1) := by decide +kernel
theorem dX7_outside_5 : decode cX7_outside 5 = .ok (.invokevirtual 86, 3) := by decide +kernel
theorem dX7_outside_8 : decode cX7_outside 8 = .ok (.iconst (-1), 1) := by decide +kernel
theorem dX7_outside_9 : decode cX7_outside 9 = .ok (.ixor, 1) := by decide +kernel
theorem dX7_outside_10 : decode cX7_outside 10 = .ok (.iand, 1) := by decide +kernel
theorem dX7_outside_11 : decode cX7_outside 11 = .ok (.ireturn, 1) := by decide +kernel
def f_X7_outside (N : Nat) (σ : uS) (i0 : Nat) : Option Int32 := (f_X7_everybody N σ i0).bind fun v1 =>
  (f_X7_inside N σ i0).bind fun v2 =>
  some (v1 &&& (v2 ^^^ (-1)))
set_option maxRecDepth 100000 in
set_option maxHeartbeats 4000000 in
theorem c_X7_outside (l : Launch) (G : uG) (N : Nat) (σ : uS) (i0 : Nat) (oi0 : u_o ZC i0 6 12 (k_S i0)) (z : Int32) (hz : f_X7_outside N σ i0 = some z) : u_Mi l ZC G yX7_outside cX7_outside 1 .int 2 [.ref (G.2.2 i0)] σ z σ := by
  refine u_Mi_of RX7 (by decide) rfl (Nat.le_of_ble_eq_true rfl) ?_
  intro p e s m args below meth c ls cx hw hl
  have hx := cx.1
  have hb := cx.2.1
  have hl : lv_has ls 1 [(0, .ref (G.2.2 i0))] := hl
  unfold f_X7_outside at hz
  refine lv_aload_n hx hb dX7_outside_0 rfl (lv_at hl 0 rfl) ?_
  obtain ⟨v1, hv1, hz⟩ := u_bind hz
  refine u_callVi (As := []) (rest := []) cx hw LV_X7_78 (c_X7_everybody l G N σ i0 oi0 v1 hv1) oi0 rfl (by decide) hl.1 rfl (Nat.le_of_ble_eq_true rfl) dX7_outside_1 rfl (fun H locs hw => ?_)
  refine lv_aload_n hx hb dX7_outside_4 rfl (lv_at hl 0 rfl) ?_
  obtain ⟨v2, hv2, hz⟩ := u_bind hz
  refine u_callVi (As := []) (rest := [.int v1]) cx hw LV_X7_86 (c_X7_inside l G N σ i0 oi0 v2 hv2) oi0 rfl (by decide) hl.1 rfl (Nat.le_of_ble_eq_true rfl) dX7_outside_5 rfl (fun H locs hw => ?_)
  refine lv_iconst (v := (-1)) hx hb dX7_outside_8 (by decide) ?_
  refine lv_ixor hx hb dX7_outside_9 ?_
  refine lv_iand hx hb dX7_outside_10 ?_
  exact u_iret cx hw ⟨Option.some.inj hz, rfl⟩ dX7_outside_11
theorem dX7_seenBy_0 : decode cX7_seenBy 0 = .ok (.aload_n 0, 1) := by decide +kernel
theorem dX7_seenBy_1 : decode cX7_seenBy 1 = .ok (.getfield 24, 3) := by decide +kernel
theorem dX7_seenBy_4 : decode cX7_seenBy 4 = .ok (.iload_n 1, 1) := by decide +kernel
theorem dX7_seenBy_5 : decode cX7_seenBy 5 = .ok (.iaload, 1) := by decide +kernel
theorem dX7_seenBy_6 : decode cX7_seenBy 6 = .ok (.aload_n 0, 1) := by decide +kernel
theorem dX7_seenBy_7 : decode cX7_seenBy 7 = .ok (.invokevirtual 78, 3) := by decide +kernel
theorem dX7_seenBy_10 : decode cX7_seenBy 10 = .ok (.iand, 1) := by decide +kernel
theorem dX7_seenBy_11 : decode cX7_seenBy 11 = .ok (.ireturn, 1) := by decide +kernel
def f_X7_seenBy (N : Nat) (σ : uS) (i0 : Nat) (p1 : Int32) : Option Int32 := (u_rI ZC σ 0 (i0 + 5) p1).bind fun v1 =>
  (f_X7_everybody N σ i0).bind fun v2 =>
  some (v1 &&& v2)
set_option maxRecDepth 100000 in
set_option maxHeartbeats 4000000 in
theorem c_X7_seenBy (l : Launch) (G : uG) (N : Nat) (σ : uS) (i0 : Nat) (oi0 : u_o ZC i0 6 12 (k_S i0)) (p1 : Int32) (z : Int32) (hz : f_X7_seenBy N σ i0 p1 = some z) : u_Mi l ZC G yX7_seenBy cX7_seenBy 2 .int 1 [.ref (G.2.2 i0), .int p1] σ z σ := by
  refine u_Mi_of RX7 (by decide) rfl (Nat.le_of_ble_eq_true rfl) ?_
  intro p e s m args below meth c ls cx hw hl
  have hx := cx.1
  have hb := cx.2.1
  have hl : lv_has ls 2 [(0, .ref (G.2.2 i0)), (1, .int p1)] := hl
  unfold f_X7_seenBy at hz
  refine lv_aload_n hx hb dX7_seenBy_0 rfl (lv_at hl 0 rfl) ?_
  refine u_getp cx hw F_X7_24 oi0 rfl dX7_seenBy_1 ?_
  refine lv_iload_n hx hb dX7_seenBy_4 rfl (lv_at hl 1 rfl) ?_
  obtain ⟨v1, hv1, hz⟩ := u_bind hz
  refine u_iald cx hw hv1 dX7_seenBy_5 ?_
  refine lv_aload_n hx hb dX7_seenBy_6 rfl (lv_at hl 0 rfl) ?_
  obtain ⟨v2, hv2, hz⟩ := u_bind hz
  refine u_callVi (As := []) (rest := [.int v1]) cx hw LV_X7_78 (c_X7_everybody l G N σ i0 oi0 v2 hv2) oi0 rfl (by decide) hl.1 rfl (Nat.le_of_ble_eq_true rfl) dX7_seenBy_7 rfl (fun H locs hw => ?_)
  refine lv_iand hx hb dX7_seenBy_10 ?_
  exact u_iret cx hw ⟨Option.some.inj hz, rfl⟩ dX7_seenBy_11
theorem dX7_sees_0 : decode cX7_sees 0 = .ok (.aload_n 0, 1) := by decide +kernel
theorem dX7_sees_1 : decode cX7_sees 1 = .ok (.getfield 24, 3) := by decide +kernel
theorem dX7_sees_4 : decode cX7_sees 4 = .ok (.iload_n 1, 1) := by decide +kernel
theorem dX7_sees_5 : decode cX7_sees 5 = .ok (.iaload, 1) := by decide +kernel
theorem dX7_sees_6 : decode cX7_sees 6 = .ok (.iload_n 2, 1) := by decide +kernel
theorem dX7_sees_7 : decode cX7_sees 7 = .ok (.ishr, 1) := by decide +kernel
theorem dX7_sees_8 : decode cX7_sees 8 = .ok (.iconst 1, 1) := by decide +kernel
theorem dX7_sees_9 : decode cX7_sees 9 = .ok (.iand, 1) := by decide +kernel
theorem dX7_sees_10 : decode cX7_sees 10 = .ok (.iconst 1, 1) := by decide +kernel
theorem dX7_sees_11 : decode cX7_sees 11 = .ok (.if_icmp .ne 7, 3) := by decide +kernel
theorem dX7_sees_14 : decode cX7_sees 14 = .ok (.iconst 1, 1) := by decide +kernel
theorem dX7_sees_15 : decode cX7_sees 15 = .ok (.goto 4, 3) := by decide +kernel
theorem dX7_sees_18 : decode cX7_sees 18 = .ok (.iconst 0, 1) := by decide +kernel
theorem dX7_sees_19 : decode cX7_sees 19 = .ok (.ireturn, 1) := by decide +kernel
def f_X7_sees (N : Nat) (σ : uS) (i0 : Nat) (p1 : Int32) (p2 : Int32) : Option Int32 := (u_rI ZC σ 0 (i0 + 5) p1).bind fun v1 =>
  if ((v1 >>> (p2 &&& 31)) &&& 1) = 1 then (some 1) else (some 0)
set_option maxRecDepth 100000 in
set_option maxHeartbeats 4000000 in
theorem c_X7_sees (l : Launch) (G : uG) (N : Nat) (σ : uS) (i0 : Nat) (oi0 : u_o ZC i0 6 12 (k_S i0)) (p1 : Int32) (p2 : Int32) (z : Int32) (hz : f_X7_sees N σ i0 p1 p2 = some z) : u_Mi l ZC G yX7_sees cX7_sees 3 .boolean 0 [.ref (G.2.2 i0), .int p1, .int p2] σ z σ := by
  refine u_Mi_of RX7 (by decide) rfl (Nat.le_of_ble_eq_true rfl) ?_
  intro p e s m args below meth c ls cx hw hl
  have hx := cx.1
  have hb := cx.2.1
  have hl : lv_has ls 3 [(0, .ref (G.2.2 i0)), (1, .int p1), (2, .int p2)] := hl
  unfold f_X7_sees at hz
  refine lv_aload_n hx hb dX7_sees_0 rfl (lv_at hl 0 rfl) ?_
  refine u_getp cx hw F_X7_24 oi0 rfl dX7_sees_1 ?_
  refine lv_iload_n hx hb dX7_sees_4 rfl (lv_at hl 1 rfl) ?_
  obtain ⟨v1, hv1, hz⟩ := u_bind hz
  refine u_iald cx hw hv1 dX7_sees_5 ?_
  refine lv_iload_n hx hb dX7_sees_6 rfl (lv_at hl 2 rfl) ?_
  refine lv_ishr hx hb dX7_sees_7 ?_
  refine lv_iconst (v := 1) hx hb dX7_sees_8 (by decide) ?_
  refine lv_iand hx hb dX7_sees_9 ?_
  refine lv_iconst (v := 1) hx hb dX7_sees_10 (by decide) ?_
  refine lv_icmp_ne (tgt := 18) hx hb dX7_sees_11 (by decide) (fun hc => ?_) (fun hc => ?_)
  · replace hz := u_iff hz hc
    refine lv_iconst (v := 0) hx hb dX7_sees_18 (by decide) ?_
    exact u_zret cx hw (Or.inl rfl) ⟨Option.some.inj hz, rfl⟩ dX7_sees_19
  · replace hz := u_ift hz hc
    refine lv_iconst (v := 1) hx hb dX7_sees_14 (by decide) ?_
    refine lv_goto (tgt := 19) hx hb dX7_sees_15 (by decide) ?_
    exact u_zret cx hw (Or.inr rfl) ⟨Option.some.inj hz, rfl⟩ dX7_sees_19
theorem dX7_whoSee_0 : decode cX7_whoSee 0 = .ok (.iconst 0, 1) := by decide +kernel
theorem dX7_whoSee_1 : decode cX7_whoSee 1 = .ok (.istore_n 2, 1) := by decide +kernel
theorem dX7_whoSee_2 : decode cX7_whoSee 2 = .ok (.iconst 0, 1) := by decide +kernel
theorem dX7_whoSee_3 : decode cX7_whoSee 3 = .ok (.istore_n 3, 1) := by decide +kernel
theorem dX7_whoSee_4 : decode cX7_whoSee 4 = .ok (.iload_n 3, 1) := by decide +kernel
theorem dX7_whoSee_5 : decode cX7_whoSee 5 = .ok (.aload_n 0, 1) := by decide +kernel
theorem dX7_whoSee_6 : decode cX7_whoSee 6 = .ok (.getfield 43, 3) := by decide +kernel
theorem dX7_whoSee_9 : decode cX7_whoSee 9 = .ok (.if_icmp .ge 28, 3) := by decide +kernel
theorem dX7_whoSee_12 : decode cX7_whoSee 12 = .ok (.iload_n 2, 1) := by decide +kernel
theorem dX7_whoSee_13 : decode cX7_whoSee 13 = .ok (.aload_n 0, 1) := by decide +kernel
theorem dX7_whoSee_14 : decode cX7_whoSee 14 = .ok (.iload_n 3, 1) := by decide +kernel
theorem dX7_whoSee_15 : decode cX7_whoSee 15 = .ok (.iload_n 1, 1) := by decide +kernel
theorem dX7_whoSee_16 : decode cX7_whoSee 16 = .ok (.invokevirtual 95, 3) := by decide +kernel
theorem dX7_whoSee_19 : decode cX7_whoSee 19 = .ok (.ifCond .eq 9, 3) := by decide +kernel
theorem dX7_whoSee_22 : decode cX7_whoSee 22 = .ok (.iconst 1, 1) := by decide +kernel
theorem dX7_whoSee_23 : decode cX7_whoSee 23 = .ok (.iload_n 3, 1) := by decide +kernel
theorem dX7_whoSee_24 : decode cX7_whoSee 24 = .ok (.ishl, 1) := by decide +kernel
theorem dX7_whoSee_25 : decode cX7_whoSee 25 = .ok (.goto 4, 3) := by decide +kernel
theorem dX7_whoSee_28 : decode cX7_whoSee 28 = .ok (.iconst 0, 1) := by decide +kernel
theorem dX7_whoSee_29 : decode cX7_whoSee 29 = .ok (.ior, 1) := by decide +kernel
theorem dX7_whoSee_30 : decode cX7_whoSee 30 = .ok (.istore_n 2, 1) := by decide +kernel
theorem dX7_whoSee_31 : decode cX7_whoSee 31 = .ok (.iinc 3 1, 3) := by decide +kernel
theorem dX7_whoSee_34 : decode cX7_whoSee 34 = .ok (.goto (-30), 3) := by decide +kernel
theorem dX7_whoSee_37 : decode cX7_whoSee 37 = .ok (.iload_n 2, 1) := by decide +kernel
theorem dX7_whoSee_38 : decode cX7_whoSee 38 = .ok (.ireturn, 1) := by decide +kernel
def b_X7_whoSee_4 (N : Nat) (σ : uS) (i0 : Nat) (p1 : Int32) (J37_2 : Int32 → Option Int32) (rec4_5 : Int32 → Int32 → Option Int32) (x3 : Int32) (x4 : Int32) : Option Int32 :=
  if (σ.1 i0 8) ≤ x4 then (J37_2 x3) else ((f_X7_sees N σ i0 x4 p1).bind fun v6 =>
  u_jn (fun (t7 : Int32) => (u_jn ((x3 ||| t7) : Int32) fun x9 =>
  u_jn (x4 + 1 : Int32) fun x10 =>
  rec4_5 x9 x10 : Option Int32)) fun J29_8 =>
  if v6 = 0 then (J29_8 0) else (J29_8 (1 <<< (x4 &&& 31))))
def f_X7_whoSee (N : Nat) (σ : uS) (i0 : Nat) (p1 : Int32) : Option Int32 := u_jn (fun (x1 : Int32) => (some x1 : Option Int32)) fun J37_2 =>
  u_lp2 (b_X7_whoSee_4 N σ i0 p1 J37_2) N 0 0
set_option maxRecDepth 100000 in
set_option maxHeartbeats 4000000 in
theorem c_X7_whoSee (l : Launch) (G : uG) (N : Nat) (σ : uS) (i0 : Nat) (oi0 : u_o ZC i0 6 12 (k_S i0)) (p1 : Int32) (z : Int32) (hz : f_X7_whoSee N σ i0 p1 = some z) : u_Mi l ZC G yX7_whoSee cX7_whoSee 4 .int 1 [.ref (G.2.2 i0), .int p1] σ z σ := by
  refine u_Mi_of RX7 (by decide) rfl (Nat.le_of_ble_eq_true rfl) ?_
  intro p e s m args below meth c ls cx hw hl
  have hx := cx.1
  have hb := cx.2.1
  have hl : lv_has ls 4 [(0, .ref (G.2.2 i0)), (1, .int p1)] := hl
  unfold f_X7_whoSee at hz
  refine lv_iconst (v := 0) hx hb dX7_whoSee_0 (by decide) ?_
  refine lv_istore_n (lv' := [(2, .int 0), (0, .ref (G.2.2 i0)), (1, .int p1)]) hx hb dX7_whoSee_1 rfl hl (by decide) rfl (fun ls hl => ?_)
  refine lv_iconst (v := 0) hx hb dX7_whoSee_2 (by decide) ?_
  refine lv_istore_n (lv' := [(3, .int 0), (2, .int 0), (0, .ref (G.2.2 i0)), (1, .int p1)]) hx hb dX7_whoSee_3 rfl hl (by decide) rfl (fun ls hl => ?_)
  obtain ⟨J37_2, eJ37_2, hz⟩ := u_let hz
  have WJ37_2 : ∀ (x1 : Int32) (H : Heap) (locs : List Loc) (ls : Array Slot), J37_2 x1 = some z → u_W ZC G σ s H locs → lv_has ls 4 [(2, .int x1)] → W p l e (u_rm 1) s m args below meth c H locs 0 0 (u_Qi below ZC G s args z σ) (F0 m 37 ls []) := by
    intro x1 H locs ls hz hw hl
    rw [eJ37_2] at hz
    refine lv_iload_n hx hb dX7_whoSee_37 rfl (lv_at hl 0 rfl) ?_
    exact u_iret cx hw ⟨Option.some.inj hz, rfl⟩ dX7_whoSee_38
  have WL4_10 : ∀ (k : Nat) (x3 : Int32) (x4 : Int32) (H : Heap) (locs : List Loc) (ls : Array Slot), u_lp2 (b_X7_whoSee_4 N σ i0 p1 J37_2) k x3 x4 = some z → u_W ZC G σ s H locs → lv_has ls 4 [(0, .ref (G.2.2 i0)), (1, .int p1), (2, .int x3), (3, .int x4)] → W p l e (u_rm 1) s m args below meth c H locs 0 0 (u_Qi below ZC G s args z σ) (F0 m 4 ls []) := by
    intro k
    induction k with
    | zero =>
      intro x3 x4 H locs ls hz
      exact absurd hz (by intro h9; cases h9)
    | succ k ih4_5 =>
      intro x3 x4 H locs ls hz hw hl
      have hz : (b_X7_whoSee_4 N σ i0 p1 J37_2) (u_lp2 (b_X7_whoSee_4 N σ i0 p1 J37_2) k) x3 x4 = some z := hz
      unfold b_X7_whoSee_4 at hz
      refine lv_iload_n hx hb dX7_whoSee_4 rfl (lv_at hl 3 rfl) ?_
      refine lv_aload_n hx hb dX7_whoSee_5 rfl (lv_at hl 0 rfl) ?_
      refine u_geti cx hw F_X7_43 oi0 rfl dX7_whoSee_6 ?_
      refine lv_icmp_ge (tgt := 37) hx hb dX7_whoSee_9 (by decide) (fun hc => ?_) (fun hc => ?_)
      · replace hz := u_ift hz hc
        exact WJ37_2 x3 _ _ _ hz hw (lv_sub hl [2] rfl)
      · replace hz := u_iff hz hc
        refine lv_iload_n hx hb dX7_whoSee_12 rfl (lv_at hl 2 rfl) ?_
        refine lv_aload_n hx hb dX7_whoSee_13 rfl (lv_at hl 0 rfl) ?_
        refine lv_iload_n hx hb dX7_whoSee_14 rfl (lv_at hl 3 rfl) ?_
        refine lv_iload_n hx hb dX7_whoSee_15 rfl (lv_at hl 1 rfl) ?_
        obtain ⟨v6, hv6, hz⟩ := u_bind hz
        refine u_callVi (As := [.int x4, .int p1]) (rest := [.int x3]) cx hw LV_X7_95 (c_X7_sees l G N σ i0 oi0 x4 p1 v6 hv6) oi0 rfl (by decide) hl.1 rfl (Nat.le_of_ble_eq_true rfl) dX7_whoSee_16 rfl (fun H locs hw => ?_)
        obtain ⟨J29_8, eJ29_8, hz⟩ := u_let hz
        have WJ29_8 : ∀ (t7 : Int32) (H : Heap) (locs : List Loc) (ls : Array Slot), J29_8 t7 = some z → u_W ZC G σ s H locs → lv_has ls 4 [(0, .ref (G.2.2 i0)), (1, .int p1), (3, .int x4)] → W p l e (u_rm 1) s m args below meth c H locs 0 0 (u_Qi below ZC G s args z σ) (F0 m 29 ls [.int t7, .int x3]) := by
          intro t7 H locs ls hz hw hl
          rw [eJ29_8] at hz
          refine lv_ior hx hb dX7_whoSee_29 ?_
          obtain ⟨x9, ex9, hz⟩ := u_let hz
          refine u_topi ex9 ?_
          refine lv_istore_n (lv' := [(2, .int x9), (0, .ref (G.2.2 i0)), (1, .int p1), (3, .int x4)]) hx hb dX7_whoSee_30 rfl hl (by decide) rfl (fun ls hl => ?_)
          obtain ⟨x10, ex10, hz⟩ := u_let hz
          refine lv_iinc (v := x10) (lv' := [(3, .int x10), (2, .int x9), (0, .ref (G.2.2 i0)), (1, .int p1)]) hx hb dX7_whoSee_31 hl (k := 3) rfl (by rw [ex10]; rfl) (by decide) rfl (fun ls hl => ?_)
          refine lv_goto (tgt := 4) hx hb dX7_whoSee_34 (by decide) ?_
          exact ih4_5 x9 x10 _ _ _ hz hw (lv_sub hl [2, 3, 1, 0] rfl)
        refine lv_if_eq (tgt := 28) hx hb dX7_whoSee_19 (by decide) (fun hc => ?_) (fun hc => ?_)
        · replace hz := u_ift hz hc
          refine lv_iconst (v := 0) hx hb dX7_whoSee_28 (by decide) ?_
          exact WJ29_8 0 _ _ _ hz hw (lv_sub hl [0, 1, 3] rfl)
        · replace hz := u_iff hz hc
          refine lv_iconst (v := 1) hx hb dX7_whoSee_22 (by decide) ?_
          refine lv_iload_n hx hb dX7_whoSee_23 rfl (lv_at hl 3 rfl) ?_
          refine lv_ishl hx hb dX7_whoSee_24 ?_
          refine lv_goto (tgt := 29) hx hb dX7_whoSee_25 (by decide) ?_
          exact WJ29_8 (1 <<< (x4 &&& 31)) _ _ _ hz hw (lv_sub hl [0, 1, 3] rfl)
  exact WL4_10 N 0 0 _ _ _ hz hw (lv_sub hl [2, 3, 1, 0] rfl)
theorem dX7_beliefOfAll_0 : decode cX7_beliefOfAll 0 = .ok (.iconst 0, 1) := by decide +kernel
theorem dX7_beliefOfAll_1 : decode cX7_beliefOfAll 1 = .ok (.istore_n 1, 1) := by decide +kernel
theorem dX7_beliefOfAll_2 : decode cX7_beliefOfAll 2 = .ok (.iconst 0, 1) := by decide +kernel
theorem dX7_beliefOfAll_3 : decode cX7_beliefOfAll 3 = .ok (.istore_n 2, 1) := by decide +kernel
theorem dX7_beliefOfAll_4 : decode cX7_beliefOfAll 4 = .ok (.iload_n 2, 1) := by decide +kernel
theorem dX7_beliefOfAll_5 : decode cX7_beliefOfAll 5 = .ok (.aload_n 0, 1) := by decide +kernel
theorem dX7_beliefOfAll_6 : decode cX7_beliefOfAll 6 = .ok (.getfield 43, 3) := by decide +kernel
theorem dX7_beliefOfAll_9 : decode cX7_beliefOfAll 9 = .ok (.if_icmp .ge 18, 3) := by decide +kernel
theorem dX7_beliefOfAll_12 : decode cX7_beliefOfAll 12 = .ok (.iload_n 1, 1) := by decide +kernel
theorem dX7_beliefOfAll_13 : decode cX7_beliefOfAll 13 = .ok (.aload_n 0, 1) := by decide +kernel
theorem dX7_beliefOfAll_14 : decode cX7_beliefOfAll 14 = .ok (.getfield 15, 3) := by decide +kernel
theorem dX7_beliefOfAll_17 : decode cX7_beliefOfAll 17 = .ok (.iload_n 2, 1) := by decide +kernel
theorem dX7_beliefOfAll_18 : decode cX7_beliefOfAll 18 = .ok (.iaload, 1) := by decide +kernel
theorem dX7_beliefOfAll_19 : decode cX7_beliefOfAll 19 = .ok (.iadd, 1) := by decide +kernel
theorem dX7_beliefOfAll_20 : decode cX7_beliefOfAll 20 = .ok (.istore_n 1, 1) := by decide +kernel
theorem dX7_beliefOfAll_21 : decode cX7_beliefOfAll 21 = .ok (.iinc 2 1, 3) := by decide +kernel
theorem dX7_beliefOfAll_24 : decode cX7_beliefOfAll 24 = .ok (.goto (-20), 3) := by decide +kernel
theorem dX7_beliefOfAll_27 : decode cX7_beliefOfAll 27 = .ok (.iload_n 1, 1) := by decide +kernel
theorem dX7_beliefOfAll_28 : decode cX7_beliefOfAll 28 = .ok (.ireturn, 1) := by decide +kernel
def b_X7_beliefOfAll_4 (σ : uS) (i0 : Nat) (J27_2 : Int32 → Option Int32) (rec4_5 : Int32 → Int32 → Option Int32) (x3 : Int32) (x4 : Int32) : Option Int32 :=
  if (σ.1 i0 8) ≤ x4 then (J27_2 x3) else ((u_rI ZC σ 0 (i0 + 2) x4).bind fun v6 =>
  u_jn ((x3 + v6) : Int32) fun x7 =>
  u_jn (x4 + 1 : Int32) fun x8 =>
  rec4_5 x7 x8)
def f_X7_beliefOfAll (N : Nat) (σ : uS) (i0 : Nat) : Option Int32 := u_jn (fun (x1 : Int32) => (some x1 : Option Int32)) fun J27_2 =>
  u_lp2 (b_X7_beliefOfAll_4 σ i0 J27_2) N 0 0
set_option maxRecDepth 100000 in
set_option maxHeartbeats 4000000 in
theorem c_X7_beliefOfAll (l : Launch) (G : uG) (N : Nat) (σ : uS) (i0 : Nat) (oi0 : u_o ZC i0 6 12 (k_S i0)) (z : Int32) (hz : f_X7_beliefOfAll N σ i0 = some z) : u_Mi l ZC G yX7_beliefOfAll cX7_beliefOfAll 3 .int 0 [.ref (G.2.2 i0)] σ z σ := by
  refine u_Mi_of RX7 (by decide) rfl (Nat.le_of_ble_eq_true rfl) ?_
  intro p e s m args below meth c ls cx hw hl
  have hx := cx.1
  have hb := cx.2.1
  have hl : lv_has ls 3 [(0, .ref (G.2.2 i0))] := hl
  unfold f_X7_beliefOfAll at hz
  refine lv_iconst (v := 0) hx hb dX7_beliefOfAll_0 (by decide) ?_
  refine lv_istore_n (lv' := [(1, .int 0), (0, .ref (G.2.2 i0))]) hx hb dX7_beliefOfAll_1 rfl hl (by decide) rfl (fun ls hl => ?_)
  refine lv_iconst (v := 0) hx hb dX7_beliefOfAll_2 (by decide) ?_
  refine lv_istore_n (lv' := [(2, .int 0), (1, .int 0), (0, .ref (G.2.2 i0))]) hx hb dX7_beliefOfAll_3 rfl hl (by decide) rfl (fun ls hl => ?_)
  obtain ⟨J27_2, eJ27_2, hz⟩ := u_let hz
  have WJ27_2 : ∀ (x1 : Int32) (H : Heap) (locs : List Loc) (ls : Array Slot), J27_2 x1 = some z → u_W ZC G σ s H locs → lv_has ls 3 [(1, .int x1)] → W p l e (u_rm 0) s m args below meth c H locs 0 0 (u_Qi below ZC G s args z σ) (F0 m 27 ls []) := by
    intro x1 H locs ls hz hw hl
    rw [eJ27_2] at hz
    refine lv_iload_n hx hb dX7_beliefOfAll_27 rfl (lv_at hl 0 rfl) ?_
    exact u_iret cx hw ⟨Option.some.inj hz, rfl⟩ dX7_beliefOfAll_28
  have WL4_8 : ∀ (k : Nat) (x3 : Int32) (x4 : Int32) (H : Heap) (locs : List Loc) (ls : Array Slot), u_lp2 (b_X7_beliefOfAll_4 σ i0 J27_2) k x3 x4 = some z → u_W ZC G σ s H locs → lv_has ls 3 [(0, .ref (G.2.2 i0)), (1, .int x3), (2, .int x4)] → W p l e (u_rm 0) s m args below meth c H locs 0 0 (u_Qi below ZC G s args z σ) (F0 m 4 ls []) := by
    intro k
    induction k with
    | zero =>
      intro x3 x4 H locs ls hz
      exact absurd hz (by intro h9; cases h9)
    | succ k ih4_5 =>
      intro x3 x4 H locs ls hz hw hl
      have hz : (b_X7_beliefOfAll_4 σ i0 J27_2) (u_lp2 (b_X7_beliefOfAll_4 σ i0 J27_2) k) x3 x4 = some z := hz
      unfold b_X7_beliefOfAll_4 at hz
      refine lv_iload_n hx hb dX7_beliefOfAll_4 rfl (lv_at hl 2 rfl) ?_
      refine lv_aload_n hx hb dX7_beliefOfAll_5 rfl (lv_at hl 0 rfl) ?_
      refine u_geti cx hw F_X7_43 oi0 rfl dX7_beliefOfAll_6 ?_
      refine lv_icmp_ge (tgt := 27) hx hb dX7_beliefOfAll_9 (by decide) (fun hc => ?_) (fun hc => ?_)
      · replace hz := u_ift hz hc
        exact WJ27_2 x3 _ _ _ hz hw (lv_sub hl [1] rfl)
      · replace hz := u_iff hz hc
        refine lv_iload_n hx hb dX7_beliefOfAll_12 rfl (lv_at hl 1 rfl) ?_
        refine lv_aload_n hx hb dX7_beliefOfAll_13 rfl (lv_at hl 0 rfl) ?_
        refine u_getp cx hw F_X7_15 oi0 rfl dX7_beliefOfAll_14 ?_
        refine lv_iload_n hx hb dX7_beliefOfAll_17 rfl (lv_at hl 2 rfl) ?_
        obtain ⟨v6, hv6, hz⟩ := u_bind hz
        refine u_iald cx hw hv6 dX7_beliefOfAll_18 ?_
        refine lv_iadd hx hb dX7_beliefOfAll_19 ?_
        obtain ⟨x7, ex7, hz⟩ := u_let hz
        refine u_topi ex7 ?_
        refine lv_istore_n (lv' := [(1, .int x7), (0, .ref (G.2.2 i0)), (2, .int x4)]) hx hb dX7_beliefOfAll_20 rfl hl (by decide) rfl (fun ls hl => ?_)
        obtain ⟨x8, ex8, hz⟩ := u_let hz
        refine lv_iinc (v := x8) (lv' := [(2, .int x8), (1, .int x7), (0, .ref (G.2.2 i0))]) hx hb dX7_beliefOfAll_21 hl (k := 2) rfl (by rw [ex8]; rfl) (by decide) rfl (fun ls hl => ?_)
        refine lv_goto (tgt := 4) hx hb dX7_beliefOfAll_24 (by decide) ?_
        exact ih4_5 x7 x8 _ _ _ hz hw (lv_sub hl [2, 1, 0] rfl)
  exact WL4_8 N 0 0 _ _ _ hz hw (lv_sub hl [2, 1, 0] rfl)
theorem dX7_packedBelief_0 : decode cX7_packedBelief 0 = .ok (.iconst 0, 1) := by decide +kernel
theorem dX7_packedBelief_1 : decode cX7_packedBelief 1 = .ok (.istore_n 1, 1) := by decide +kernel
theorem dX7_packedBelief_2 : decode cX7_packedBelief 2 = .ok (.iconst 0, 1) := by decide +kernel
theorem dX7_packedBelief_3 : decode cX7_packedBelief 3 = .ok (.istore_n 2, 1) := by decide +kernel
theorem dX7_packedBelief_4 : decode cX7_packedBelief 4 = .ok (.iload_n 2, 1) := by decide +kernel
theorem dX7_packedBelief_5 : decode cX7_packedBelief 5 = .ok (.aload_n 0, 1) := by decide +kernel
theorem dX7_packedBelief_6 : decode cX7_packedBelief 6 = .ok (.getfield 43, 3) := by decide +kernel
theorem dX7_packedBelief_9 : decode cX7_packedBelief 9 = .ok (.if_icmp .ge 20, 3) := by decide +kernel
theorem dX7_packedBelief_12 : decode cX7_packedBelief 12 = .ok (.iload_n 1, 1) := by decide +kernel
theorem dX7_packedBelief_13 : decode cX7_packedBelief 13 = .ok (.iconst 4, 1) := by decide +kernel
theorem dX7_packedBelief_14 : decode cX7_packedBelief 14 = .ok (.ishl, 1) := by decide +kernel
theorem dX7_packedBelief_15 : decode cX7_packedBelief 15 = .ok (.aload_n 0, 1) := by decide +kernel
theorem dX7_packedBelief_16 : decode cX7_packedBelief 16 = .ok (.getfield 15, 3) := by decide +kernel
theorem dX7_packedBelief_19 : decode cX7_packedBelief 19 = .ok (.iload_n 2, 1) := by decide +kernel
theorem dX7_packedBelief_20 : decode cX7_packedBelief 20 = .ok (.iaload, 1) := by decide +kernel
theorem dX7_packedBelief_21 : decode cX7_packedBelief 21 = .ok (.ior, 1) := by decide +kernel
theorem dX7_packedBelief_22 : decode cX7_packedBelief 22 = .ok (.istore_n 1, 1) := by decide +kernel
theorem dX7_packedBelief_23 : decode cX7_packedBelief 23 = .ok (.iinc 2 1, 3) := by decide +kernel
theorem dX7_packedBelief_26 : decode cX7_packedBelief 26 = .ok (.goto (-22), 3) := by decide +kernel
theorem dX7_packedBelief_29 : decode cX7_packedBelief 29 = .ok (.iload_n 1, 1) := by decide +kernel
theorem dX7_packedBelief_30 : decode cX7_packedBelief 30 = .ok (.ireturn, 1) := by decide +kernel
def b_X7_packedBelief_4 (σ : uS) (i0 : Nat) (J29_2 : Int32 → Option Int32) (rec4_5 : Int32 → Int32 → Option Int32) (x3 : Int32) (x4 : Int32) : Option Int32 :=
  if (σ.1 i0 8) ≤ x4 then (J29_2 x3) else ((u_rI ZC σ 0 (i0 + 2) x4).bind fun v6 =>
  u_jn (((x3 <<< (4 &&& 31)) ||| v6) : Int32) fun x7 =>
  u_jn (x4 + 1 : Int32) fun x8 =>
  rec4_5 x7 x8)
def f_X7_packedBelief (N : Nat) (σ : uS) (i0 : Nat) : Option Int32 := u_jn (fun (x1 : Int32) => (some x1 : Option Int32)) fun J29_2 =>
  u_lp2 (b_X7_packedBelief_4 σ i0 J29_2) N 0 0
set_option maxRecDepth 100000 in
set_option maxHeartbeats 4000000 in
theorem c_X7_packedBelief (l : Launch) (G : uG) (N : Nat) (σ : uS) (i0 : Nat) (oi0 : u_o ZC i0 6 12 (k_S i0)) (z : Int32) (hz : f_X7_packedBelief N σ i0 = some z) : u_Mi l ZC G yX7_packedBelief cX7_packedBelief 3 .int 0 [.ref (G.2.2 i0)] σ z σ := by
  refine u_Mi_of RX7 (by decide) rfl (Nat.le_of_ble_eq_true rfl) ?_
  intro p e s m args below meth c ls cx hw hl
  have hx := cx.1
  have hb := cx.2.1
  have hl : lv_has ls 3 [(0, .ref (G.2.2 i0))] := hl
  unfold f_X7_packedBelief at hz
  refine lv_iconst (v := 0) hx hb dX7_packedBelief_0 (by decide) ?_
  refine lv_istore_n (lv' := [(1, .int 0), (0, .ref (G.2.2 i0))]) hx hb dX7_packedBelief_1 rfl hl (by decide) rfl (fun ls hl => ?_)
  refine lv_iconst (v := 0) hx hb dX7_packedBelief_2 (by decide) ?_
  refine lv_istore_n (lv' := [(2, .int 0), (1, .int 0), (0, .ref (G.2.2 i0))]) hx hb dX7_packedBelief_3 rfl hl (by decide) rfl (fun ls hl => ?_)
  obtain ⟨J29_2, eJ29_2, hz⟩ := u_let hz
  have WJ29_2 : ∀ (x1 : Int32) (H : Heap) (locs : List Loc) (ls : Array Slot), J29_2 x1 = some z → u_W ZC G σ s H locs → lv_has ls 3 [(1, .int x1)] → W p l e (u_rm 0) s m args below meth c H locs 0 0 (u_Qi below ZC G s args z σ) (F0 m 29 ls []) := by
    intro x1 H locs ls hz hw hl
    rw [eJ29_2] at hz
    refine lv_iload_n hx hb dX7_packedBelief_29 rfl (lv_at hl 0 rfl) ?_
    exact u_iret cx hw ⟨Option.some.inj hz, rfl⟩ dX7_packedBelief_30
  have WL4_8 : ∀ (k : Nat) (x3 : Int32) (x4 : Int32) (H : Heap) (locs : List Loc) (ls : Array Slot), u_lp2 (b_X7_packedBelief_4 σ i0 J29_2) k x3 x4 = some z → u_W ZC G σ s H locs → lv_has ls 3 [(0, .ref (G.2.2 i0)), (1, .int x3), (2, .int x4)] → W p l e (u_rm 0) s m args below meth c H locs 0 0 (u_Qi below ZC G s args z σ) (F0 m 4 ls []) := by
    intro k
    induction k with
    | zero =>
      intro x3 x4 H locs ls hz
      exact absurd hz (by intro h9; cases h9)
    | succ k ih4_5 =>
      intro x3 x4 H locs ls hz hw hl
      have hz : (b_X7_packedBelief_4 σ i0 J29_2) (u_lp2 (b_X7_packedBelief_4 σ i0 J29_2) k) x3 x4 = some z := hz
      unfold b_X7_packedBelief_4 at hz
      refine lv_iload_n hx hb dX7_packedBelief_4 rfl (lv_at hl 2 rfl) ?_
      refine lv_aload_n hx hb dX7_packedBelief_5 rfl (lv_at hl 0 rfl) ?_
      refine u_geti cx hw F_X7_43 oi0 rfl dX7_packedBelief_6 ?_
      refine lv_icmp_ge (tgt := 29) hx hb dX7_packedBelief_9 (by decide) (fun hc => ?_) (fun hc => ?_)
      · replace hz := u_ift hz hc
        exact WJ29_2 x3 _ _ _ hz hw (lv_sub hl [1] rfl)
      · replace hz := u_iff hz hc
        refine lv_iload_n hx hb dX7_packedBelief_12 rfl (lv_at hl 1 rfl) ?_
        refine lv_iconst (v := 4) hx hb dX7_packedBelief_13 (by decide) ?_
        refine lv_ishl hx hb dX7_packedBelief_14 ?_
        refine lv_aload_n hx hb dX7_packedBelief_15 rfl (lv_at hl 0 rfl) ?_
        refine u_getp cx hw F_X7_15 oi0 rfl dX7_packedBelief_16 ?_
        refine lv_iload_n hx hb dX7_packedBelief_19 rfl (lv_at hl 2 rfl) ?_
        obtain ⟨v6, hv6, hz⟩ := u_bind hz
        refine u_iald cx hw hv6 dX7_packedBelief_20 ?_
        refine lv_ior hx hb dX7_packedBelief_21 ?_
        obtain ⟨x7, ex7, hz⟩ := u_let hz
        refine u_topi ex7 ?_
        refine lv_istore_n (lv' := [(1, .int x7), (0, .ref (G.2.2 i0)), (2, .int x4)]) hx hb dX7_packedBelief_22 rfl hl (by decide) rfl (fun ls hl => ?_)
        obtain ⟨x8, ex8, hz⟩ := u_let hz
        refine lv_iinc (v := x8) (lv' := [(2, .int x8), (1, .int x7), (0, .ref (G.2.2 i0))]) hx hb dX7_packedBelief_23 hl (k := 2) rfl (by rw [ex8]; rfl) (by decide) rfl (fun ls hl => ?_)
        refine lv_goto (tgt := 4) hx hb dX7_packedBelief_26 (by decide) ?_
        exact ih4_5 x7 x8 _ _ _ hz hw (lv_sub hl [2, 1, 0] rfl)
  exact WL4_8 N 0 0 _ _ _ hz hw (lv_sub hl [2, 1, 0] rfl)
theorem dX7_cornOf_0 : decode cX7_cornOf 0 = .ok (.iconst 0, 1) := by decide +kernel
theorem dX7_cornOf_1 : decode cX7_cornOf 1 = .ok (.istore_n 3, 1) := by decide +kernel
theorem dX7_cornOf_2 : decode cX7_cornOf 2 = .ok (.iconst 0, 1) := by decide +kernel
theorem dX7_cornOf_3 : decode cX7_cornOf 3 = .ok (.iload_n 1, 1) := by decide +kernel
theorem dX7_cornOf_4 : decode cX7_cornOf 4 = .ok (.invokestatic 66, 3) := by decide +kernel
theorem dX7_cornOf_7 : decode cX7_cornOf 7 = .ok (.istore 4, 2) := by decide +kernel
theorem dX7_cornOf_9 : decode cX7_cornOf 9 = .ok (.iload 4, 2) := by decide +kernel
theorem dX7_cornOf_11 : decode cX7_cornOf 11 = .ok (.iload_n 2, 1) := by decide +kernel
theorem dX7_cornOf_12 : decode cX7_cornOf 12 = .ok (.if_icmp .gt 28, 3) := by decide +kernel
theorem dX7_cornOf_15 : decode cX7_cornOf 15 = .ok (.iload 4, 2) := by decide +kernel
theorem dX7_cornOf_17 : decode cX7_cornOf 17 = .ok (.aload_n 0, 1) := by decide +kernel
theorem dX7_cornOf_18 : decode cX7_cornOf 18 = .ok (.getfield 27, 3) := by decide +kernel
theorem dX7_cornOf_21 : decode cX7_cornOf 21 = .ok (.if_icmp .ge 19, 3) := by decide +kernel
theorem dX7_cornOf_24 : decode cX7_cornOf 24 = .ok (.iload_n 3, 1) := by decide +kernel
theorem dX7_cornOf_25 : decode cX7_cornOf 25 = .ok (.aload_n 0, 1) := by decide +kernel
theorem dX7_cornOf_26 : decode cX7_cornOf 26 = .ok (.getfield 9, 3) := by decide +kernel
theorem dX7_cornOf_29 : decode cX7_cornOf 29 = .ok (.iload 4, 2) := by decide +kernel
theorem dX7_cornOf_31 : decode cX7_cornOf 31 = .ok (.iaload, 1) := by decide +kernel
theorem dX7_cornOf_32 : decode cX7_cornOf 32 = .ok (.iadd, 1) := by decide +kernel
theorem dX7_cornOf_33 : decode cX7_cornOf 33 = .ok (.istore_n 3, 1) := by decide +kernel
theorem dX7_cornOf_34 : decode cX7_cornOf 34 = .ok (.iinc 4 1, 3) := by decide +kernel
theorem dX7_cornOf_37 : decode cX7_cornOf 37 = .ok (.goto (-28), 3) := by decide +kernel
theorem dX7_cornOf_40 : decode cX7_cornOf 40 = .ok (.iload_n 3, 1) := by decide +kernel
theorem dX7_cornOf_41 : decode cX7_cornOf 41 = .ok (.ireturn, 1) := by decide +kernel
def b_X7_cornOf_9 (σ : uS) (i0 : Nat) (p2 : Int32) (J40_3 : Int32 → Option Int32) (rec9_6 : Int32 → Int32 → Option Int32) (x4 : Int32) (x5 : Int32) : Option Int32 :=
  if p2 < x5 then (J40_3 x4) else (if (σ.1 i0 5) ≤ x5 then (J40_3 x4) else ((u_rI ZC σ 0 (i0 + 1) x5).bind fun v7 =>
  u_jn ((x4 + v7) : Int32) fun x8 =>
  u_jn (x5 + 1 : Int32) fun x9 =>
  rec9_6 x8 x9))
def f_X7_cornOf (N : Nat) (σ : uS) (i0 : Nat) (p1 : Int32) (p2 : Int32) : Option Int32 := u_jn ((if 0 < p1 then p1 else 0) : Int32) fun x1 =>
  u_jn (fun (x2 : Int32) => (some x2 : Option Int32)) fun J40_3 =>
  u_lp2 (b_X7_cornOf_9 σ i0 p2 J40_3) N 0 x1
set_option maxRecDepth 100000 in
set_option maxHeartbeats 4000000 in
theorem c_X7_cornOf (l : Launch) (G : uG) (N : Nat) (σ : uS) (i0 : Nat) (oi0 : u_o ZC i0 6 12 (k_S i0)) (p1 : Int32) (p2 : Int32) (z : Int32) (hz : f_X7_cornOf N σ i0 p1 p2 = some z) : u_Mi l ZC G yX7_cornOf cX7_cornOf 5 .int 1 [.ref (G.2.2 i0), .int p1, .int p2] σ z σ := by
  refine u_Mi_of RX7 (by decide) rfl (Nat.le_of_ble_eq_true rfl) ?_
  intro p e s m args below meth c ls cx hw hl
  have hx := cx.1
  have hb := cx.2.1
  have hl : lv_has ls 5 [(0, .ref (G.2.2 i0)), (1, .int p1), (2, .int p2)] := hl
  unfold f_X7_cornOf at hz
  refine lv_iconst (v := 0) hx hb dX7_cornOf_0 (by decide) ?_
  refine lv_istore_n (lv' := [(3, .int 0), (0, .ref (G.2.2 i0)), (1, .int p1), (2, .int p2)]) hx hb dX7_cornOf_1 rfl hl (by decide) rfl (fun ls hl => ?_)
  refine lv_iconst (v := 0) hx hb dX7_cornOf_2 (by decide) ?_
  refine lv_iload_n hx hb dX7_cornOf_3 rfl (lv_at hl 2 rfl) ?_
  refine u_mmax cx LM_X7_66 (by decide) hl.1 (Nat.le_of_ble_eq_true rfl) dX7_cornOf_4 ?_
  obtain ⟨x1, ex1, hz⟩ := u_let hz
  refine u_topi ex1 ?_
  refine lv_istore (lv' := [(4, .int x1), (3, .int 0), (0, .ref (G.2.2 i0)), (1, .int p1), (2, .int p2)]) hx hb dX7_cornOf_7 hl (by decide) rfl (fun ls hl => ?_)
  obtain ⟨J40_3, eJ40_3, hz⟩ := u_let hz
  have WJ40_3 : ∀ (x2 : Int32) (H : Heap) (locs : List Loc) (ls : Array Slot), J40_3 x2 = some z → u_W ZC G σ s H locs → lv_has ls 5 [(3, .int x2)] → W p l e (u_rm 1) s m args below meth c H locs 0 0 (u_Qi below ZC G s args z σ) (F0 m 40 ls []) := by
    intro x2 H locs ls hz hw hl
    rw [eJ40_3] at hz
    refine lv_iload_n hx hb dX7_cornOf_40 rfl (lv_at hl 0 rfl) ?_
    exact u_iret cx hw ⟨Option.some.inj hz, rfl⟩ dX7_cornOf_41
  have WL9_9 : ∀ (k : Nat) (x4 : Int32) (x5 : Int32) (H : Heap) (locs : List Loc) (ls : Array Slot), u_lp2 (b_X7_cornOf_9 σ i0 p2 J40_3) k x4 x5 = some z → u_W ZC G σ s H locs → lv_has ls 5 [(0, .ref (G.2.2 i0)), (2, .int p2), (3, .int x4), (4, .int x5)] → W p l e (u_rm 1) s m args below meth c H locs 0 0 (u_Qi below ZC G s args z σ) (F0 m 9 ls []) := by
    intro k
    induction k with
    | zero =>
      intro x4 x5 H locs ls hz
      exact absurd hz (by intro h9; cases h9)
    | succ k ih9_6 =>
      intro x4 x5 H locs ls hz hw hl
      have hz : (b_X7_cornOf_9 σ i0 p2 J40_3) (u_lp2 (b_X7_cornOf_9 σ i0 p2 J40_3) k) x4 x5 = some z := hz
      unfold b_X7_cornOf_9 at hz
      refine lv_iload hx hb dX7_cornOf_9 (lv_at hl 3 rfl) ?_
      refine lv_iload_n hx hb dX7_cornOf_11 rfl (lv_at hl 1 rfl) ?_
      refine lv_icmp_gt (tgt := 40) hx hb dX7_cornOf_12 (by decide) (fun hc => ?_) (fun hc => ?_)
      · replace hz := u_ift hz hc
        exact WJ40_3 x4 _ _ _ hz hw (lv_sub hl [2] rfl)
      · replace hz := u_iff hz hc
        refine lv_iload hx hb dX7_cornOf_15 (lv_at hl 3 rfl) ?_
        refine lv_aload_n hx hb dX7_cornOf_17 rfl (lv_at hl 0 rfl) ?_
        refine u_geti cx hw F_X7_27 oi0 rfl dX7_cornOf_18 ?_
        refine lv_icmp_ge (tgt := 40) hx hb dX7_cornOf_21 (by decide) (fun hc => ?_) (fun hc => ?_)
        · replace hz := u_ift hz hc
          exact WJ40_3 x4 _ _ _ hz hw (lv_sub hl [2] rfl)
        · replace hz := u_iff hz hc
          refine lv_iload_n hx hb dX7_cornOf_24 rfl (lv_at hl 2 rfl) ?_
          refine lv_aload_n hx hb dX7_cornOf_25 rfl (lv_at hl 0 rfl) ?_
          refine u_getp cx hw F_X7_9 oi0 rfl dX7_cornOf_26 ?_
          refine lv_iload hx hb dX7_cornOf_29 (lv_at hl 3 rfl) ?_
          obtain ⟨v7, hv7, hz⟩ := u_bind hz
          refine u_iald cx hw hv7 dX7_cornOf_31 ?_
          refine lv_iadd hx hb dX7_cornOf_32 ?_
          obtain ⟨x8, ex8, hz⟩ := u_let hz
          refine u_topi ex8 ?_
          refine lv_istore_n (lv' := [(3, .int x8), (0, .ref (G.2.2 i0)), (2, .int p2), (4, .int x5)]) hx hb dX7_cornOf_33 rfl hl (by decide) rfl (fun ls hl => ?_)
          obtain ⟨x9, ex9, hz⟩ := u_let hz
          refine lv_iinc (v := x9) (lv' := [(4, .int x9), (3, .int x8), (0, .ref (G.2.2 i0)), (2, .int p2)]) hx hb dX7_cornOf_34 hl (k := 3) rfl (by rw [ex9]; rfl) (by decide) rfl (fun ls hl => ?_)
          refine lv_goto (tgt := 9) hx hb dX7_cornOf_37 (by decide) ?_
          exact ih9_6 x8 x9 _ _ _ hz hw (lv_sub hl [2, 3, 1, 0] rfl)
  exact WL9_9 N 0 x1 _ _ _ hz hw (lv_sub hl [2, 4, 1, 0] rfl)
theorem dX7_cornOfAll_0 : decode cX7_cornOfAll 0 = .ok (.aload_n 0, 1) := by decide +kernel
theorem dX7_cornOfAll_1 : decode cX7_cornOfAll 1 = .ok (.iconst 0, 1) := by decide +kernel
theorem dX7_cornOfAll_2 : decode cX7_cornOfAll 2 = .ok (.aload_n 0, 1) := by decide +kernel
theorem dX7_cornOfAll_3 : decode cX7_cornOfAll 3 = .ok (.getfield 27, 3) := by decide +kernel
theorem dX7_cornOfAll_6 : decode cX7_cornOfAll 6 = .ok (.iconst 1, 1) := by decide +kernel
theorem dX7_cornOfAll_7 : decode cX7_cornOfAll 7 = .ok (.isub, 1) := by decide +kernel
theorem dX7_cornOfAll_8 : decode cX7_cornOfAll 8 = .ok (.invokevirtual 102, 3) := by decide +kernel
theorem dX7_cornOfAll_11 : decode cX7_cornOfAll 11 = .ok (.ireturn, 1) := by decide +kernel
def f_X7_cornOfAll (N : Nat) (σ : uS) (i0 : Nat) : Option Int32 := (f_X7_cornOf N σ i0 0 ((σ.1 i0 5) - 1)).bind fun v1 =>
  some v1
set_option maxRecDepth 100000 in
set_option maxHeartbeats 4000000 in
theorem c_X7_cornOfAll (l : Launch) (G : uG) (N : Nat) (σ : uS) (i0 : Nat) (oi0 : u_o ZC i0 6 12 (k_S i0)) (z : Int32) (hz : f_X7_cornOfAll N σ i0 = some z) : u_Mi l ZC G yX7_cornOfAll cX7_cornOfAll 1 .int 2 [.ref (G.2.2 i0)] σ z σ := by
  refine u_Mi_of RX7 (by decide) rfl (Nat.le_of_ble_eq_true rfl) ?_
  intro p e s m args below meth c ls cx hw hl
  have hx := cx.1
  have hb := cx.2.1
  have hl : lv_has ls 1 [(0, .ref (G.2.2 i0))] := hl
  unfold f_X7_cornOfAll at hz
  refine lv_aload_n hx hb dX7_cornOfAll_0 rfl (lv_at hl 0 rfl) ?_
  refine lv_iconst (v := 0) hx hb dX7_cornOfAll_1 (by decide) ?_
  refine lv_aload_n hx hb dX7_cornOfAll_2 rfl (lv_at hl 0 rfl) ?_
  refine u_geti cx hw F_X7_27 oi0 rfl dX7_cornOfAll_3 ?_
  refine lv_iconst (v := 1) hx hb dX7_cornOfAll_6 (by decide) ?_
  refine lv_isub hx hb dX7_cornOfAll_7 ?_
  obtain ⟨v1, hv1, hz⟩ := u_bind hz
  refine u_callVi (As := [.int 0, .int ((σ.1 i0 5) - 1)]) (rest := []) cx hw LV_X7_102 (c_X7_cornOf l G N σ i0 oi0 0 ((σ.1 i0 5) - 1) v1 hv1) oi0 rfl (by decide) hl.1 rfl (Nat.le_of_ble_eq_true rfl) dX7_cornOfAll_8 rfl (fun H locs hw => ?_)
  exact u_iret cx hw ⟨Option.some.inj hz, rfl⟩ dX7_cornOfAll_11
theorem dX7_showTo_0 : decode cX7_showTo 0 = .ok (.aload_n 0, 1) := by decide +kernel
theorem dX7_showTo_1 : decode cX7_showTo 1 = .ok (.iload_n 1, 1) := by decide +kernel
theorem dX7_showTo_2 : decode cX7_showTo 2 = .ok (.invokevirtual 105, 3) := by decide +kernel
theorem dX7_showTo_5 : decode cX7_showTo 5 = .ok (.ifCond .ne 5, 3) := by decide +kernel
theorem dX7_showTo_8 : decode cX7_showTo 8 = .ok (.iconst (-1), 1) := by decide +kernel
theorem dX7_showTo_9 : decode cX7_showTo 9 = .ok (.ireturn, 1) := by decide +kernel
theorem dX7_showTo_10 : decode cX7_showTo 10 = .ok (.aload_n 0, 1) := by decide +kernel
theorem dX7_showTo_11 : decode cX7_showTo 11 = .ok (.getfield 46, 3) := by decide +kernel
theorem dX7_showTo_14 : decode cX7_showTo 14 = .ok (.iload_n 1, 1) := by decide +kernel
theorem dX7_showTo_15 : decode cX7_showTo 15 = .ok (.ishr, 1) := by decide +kernel
theorem dX7_showTo_16 : decode cX7_showTo 16 = .ok (.iconst 1, 1) := by decide +kernel
theorem dX7_showTo_17 : decode cX7_showTo 17 = .ok (.iand, 1) := by decide +kernel
theorem dX7_showTo_18 : decode cX7_showTo 18 = .ok (.iconst 1, 1) := by decide +kernel
theorem dX7_showTo_19 : decode cX7_showTo 19 = .ok (.if_icmp .ne 6, 3) := by decide +kernel
theorem dX7_showTo_22 : decode cX7_showTo 22 = .ok (.bipush (-2), 2) := by decide +kernel
theorem dX7_showTo_24 : decode cX7_showTo 24 = .ok (.ireturn, 1) := by decide +kernel
theorem dX7_showTo_25 : decode cX7_showTo 25 = .ok (.aload_n 0, 1) := by decide +kernel
theorem dX7_showTo_26 : decode cX7_showTo 26 = .ok (.dup, 1) := by decide +kernel
theorem dX7_showTo_27 : decode cX7_showTo 27 = .ok (.getfield 46, 3) := by decide +kernel
theorem dX7_showTo_30 : decode cX7_showTo 30 = .ok (.iconst 1, 1) := by decide +kernel
theorem dX7_showTo_31 : decode cX7_showTo 31 = .ok (.iload_n 1, 1) := by decide +kernel
theorem dX7_showTo_32 : decode cX7_showTo 32 = .ok (.ishl, 1) := by decide +kernel
theorem dX7_showTo_33 : decode cX7_showTo 33 = .ok (.ior, 1) := by decide +kernel
theorem dX7_showTo_34 : decode cX7_showTo 34 = .ok (.putfield 46, 3) := by decide +kernel
theorem dX7_showTo_37 : decode cX7_showTo 37 = .ok (.aload_n 0, 1) := by decide +kernel
theorem dX7_showTo_38 : decode cX7_showTo 38 = .ok (.getfield 46, 3) := by decide +kernel
theorem dX7_showTo_41 : decode cX7_showTo 41 = .ok (.ireturn, 1) := by decide +kernel
def f_X7_showTo (N : Nat) (σ : uS) (i0 : Nat) (p1 : Int32) : Option (Int32 × uS) := (f_X7_isPerson N σ i0 p1).bind fun v1 =>
  if v1 = 0 then (some ((-1), σ)) else (if (((σ.1 i0 9) >>> (p1 &&& 31)) &&& 1) = 1 then (some ((-2), σ)) else (u_jn (u_pI σ i0 9 ((σ.1 i0 9) ||| (1 <<< (p1 &&& 31)))) fun s2 =>
  some ((s2.1 i0 9), s2)))
set_option maxRecDepth 100000 in
set_option maxHeartbeats 4000000 in
theorem c_X7_showTo (l : Launch) (G : uG) (N : Nat) (σ : uS) (i0 : Nat) (oi0 : u_o ZC i0 6 12 (k_S i0)) (p1 : Int32) (z : (Int32 × uS)) (hz : f_X7_showTo N σ i0 p1 = some z) : u_Mi l ZC G yX7_showTo cX7_showTo 2 .int 1 [.ref (G.2.2 i0), .int p1] σ z.1 z.2 := by
  refine u_Mi_of RX7 (by decide) rfl (Nat.le_of_ble_eq_true rfl) ?_
  intro p e s m args below meth c ls cx hw hl
  have hx := cx.1
  have hb := cx.2.1
  have hl : lv_has ls 2 [(0, .ref (G.2.2 i0)), (1, .int p1)] := hl
  unfold f_X7_showTo at hz
  refine lv_aload_n hx hb dX7_showTo_0 rfl (lv_at hl 0 rfl) ?_
  refine lv_iload_n hx hb dX7_showTo_1 rfl (lv_at hl 1 rfl) ?_
  obtain ⟨v1, hv1, hz⟩ := u_bind hz
  refine u_callVi (As := [.int p1]) (rest := []) cx hw LV_X7_105 (c_X7_isPerson l G N σ i0 oi0 p1 v1 hv1) oi0 rfl (by decide) hl.1 rfl (Nat.le_of_ble_eq_true rfl) dX7_showTo_2 rfl (fun H locs hw => ?_)
  refine lv_if_ne (tgt := 10) hx hb dX7_showTo_5 (by decide) (fun hc => ?_) (fun hc => ?_)
  · replace hz := u_iff hz hc
    refine lv_aload_n hx hb dX7_showTo_10 rfl (lv_at hl 0 rfl) ?_
    refine u_geti cx hw F_X7_46 oi0 rfl dX7_showTo_11 ?_
    refine lv_iload_n hx hb dX7_showTo_14 rfl (lv_at hl 1 rfl) ?_
    refine lv_ishr hx hb dX7_showTo_15 ?_
    refine lv_iconst (v := 1) hx hb dX7_showTo_16 (by decide) ?_
    refine lv_iand hx hb dX7_showTo_17 ?_
    refine lv_iconst (v := 1) hx hb dX7_showTo_18 (by decide) ?_
    refine lv_icmp_ne (tgt := 25) hx hb dX7_showTo_19 (by decide) (fun hc => ?_) (fun hc => ?_)
    · replace hz := u_iff hz hc
      refine lv_aload_n hx hb dX7_showTo_25 rfl (lv_at hl 0 rfl) ?_
      refine lv_dup hx hb dX7_showTo_26 rfl ?_
      refine u_geti cx hw F_X7_46 oi0 rfl dX7_showTo_27 ?_
      refine lv_iconst (v := 1) hx hb dX7_showTo_30 (by decide) ?_
      refine lv_iload_n hx hb dX7_showTo_31 rfl (lv_at hl 1 rfl) ?_
      refine lv_ishl hx hb dX7_showTo_32 ?_
      refine lv_ior hx hb dX7_showTo_33 ?_
      obtain ⟨s2, es2, hz⟩ := u_let hz
      refine u_puti2 cx hw P_X7_46 oi0 rfl es2 dX7_showTo_34 (fun H locs hw => ?_)
      refine lv_aload_n hx hb dX7_showTo_37 rfl (lv_at hl 0 rfl) ?_
      refine u_geti cx hw F_X7_46 oi0 rfl dX7_showTo_38 ?_
      exact u_iret cx hw (u_pair hz) dX7_showTo_41
    · replace hz := u_ift hz hc
      refine lv_bipush (v := (-2)) hx hb dX7_showTo_22 (by decide) ?_
      exact u_iret cx hw (u_pair hz) dX7_showTo_24
  · replace hz := u_ift hz hc
    refine lv_iconst (v := (-1)) hx hb dX7_showTo_8 (by decide) ?_
    exact u_iret cx hw (u_pair hz) dX7_showTo_9
theorem dX7_moveRope_0 : decode cX7_moveRope 0 = .ok (.aload_n 0, 1) := by decide +kernel
theorem dX7_moveRope_1 : decode cX7_moveRope 1 = .ok (.iload_n 1, 1) := by decide +kernel
theorem dX7_moveRope_2 : decode cX7_moveRope 2 = .ok (.invokevirtual 108, 3) := by decide +kernel
theorem dX7_moveRope_5 : decode cX7_moveRope 5 = .ok (.ifCond .eq 11, 3) := by decide +kernel
theorem dX7_moveRope_8 : decode cX7_moveRope 8 = .ok (.aload_n 0, 1) := by decide +kernel
theorem dX7_moveRope_9 : decode cX7_moveRope 9 = .ok (.iload_n 2, 1) := by decide +kernel
theorem dX7_moveRope_10 : decode cX7_moveRope 10 = .ok (.invokevirtual 108, 3) := by decide +kernel
theorem dX7_moveRope_13 : decode cX7_moveRope 13 = .ok (.ifCond .ne 5, 3) := by decide +kernel
theorem dX7_moveRope_16 : decode cX7_moveRope 16 = .ok (.iconst (-1), 1) := by decide +kernel
theorem dX7_moveRope_17 : decode cX7_moveRope 17 = .ok (.ireturn, 1) := by decide +kernel
theorem dX7_moveRope_18 : decode cX7_moveRope 18 = .ok (.iload_n 1, 1) := by decide +kernel
theorem dX7_moveRope_19 : decode cX7_moveRope 19 = .ok (.iload_n 2, 1) := by decide +kernel
theorem dX7_moveRope_20 : decode cX7_moveRope 20 = .ok (.if_icmp .le 6, 3) := by decide +kernel
theorem dX7_moveRope_23 : decode cX7_moveRope 23 = .ok (.bipush (-2), 2) := by decide +kernel
theorem dX7_moveRope_25 : decode cX7_moveRope 25 = .ok (.ireturn, 1) := by decide +kernel
theorem dX7_moveRope_26 : decode cX7_moveRope 26 = .ok (.aload_n 0, 1) := by decide +kernel
theorem dX7_moveRope_27 : decode cX7_moveRope 27 = .ok (.iload_n 1, 1) := by decide +kernel
theorem dX7_moveRope_28 : decode cX7_moveRope 28 = .ok (.putfield 37, 3) := by decide +kernel
theorem dX7_moveRope_31 : decode cX7_moveRope 31 = .ok (.aload_n 0, 1) := by decide +kernel
theorem dX7_moveRope_32 : decode cX7_moveRope 32 = .ok (.iload_n 2, 1) := by decide +kernel
theorem dX7_moveRope_33 : decode cX7_moveRope 33 = .ok (.putfield 40, 3) := by decide +kernel
theorem dX7_moveRope_36 : decode cX7_moveRope 36 = .ok (.iload_n 2, 1) := by decide +kernel
theorem dX7_moveRope_37 : decode cX7_moveRope 37 = .ok (.iload_n 1, 1) := by decide +kernel
theorem dX7_moveRope_38 : decode cX7_moveRope 38 = .ok (.isub, 1) := by decide +kernel
theorem dX7_moveRope_39 : decode cX7_moveRope 39 = .ok (.iconst 1, 1) := by decide +kernel
theorem dX7_moveRope_40 : decode cX7_moveRope 40 = .ok (.iadd, 1) := by decide +kernel
theorem dX7_moveRope_41 : decode cX7_moveRope 41 = .ok (.ireturn, 1) := by decide +kernel
def f_X7_moveRope (N : Nat) (σ : uS) (i0 : Nat) (p1 : Int32) (p2 : Int32) : Option (Int32 × uS) := (f_X7_isFurrow N σ i0 p1).bind fun v1 =>
  if v1 = 0 then (some ((-1), σ)) else ((f_X7_isFurrow N σ i0 p2).bind fun v2 =>
  if v2 = 0 then (some ((-1), σ)) else (if p1 ≤ p2 then (u_jn (u_pI σ i0 6 p1) fun s3 =>
  u_jn (u_pI s3 i0 7 p2) fun s4 =>
  some (((p2 - p1) + 1), s4)) else (some ((-2), σ))))
set_option maxRecDepth 100000 in
set_option maxHeartbeats 4000000 in
theorem c_X7_moveRope (l : Launch) (G : uG) (N : Nat) (σ : uS) (i0 : Nat) (oi0 : u_o ZC i0 6 12 (k_S i0)) (p1 : Int32) (p2 : Int32) (z : (Int32 × uS)) (hz : f_X7_moveRope N σ i0 p1 p2 = some z) : u_Mi l ZC G yX7_moveRope cX7_moveRope 3 .int 1 [.ref (G.2.2 i0), .int p1, .int p2] σ z.1 z.2 := by
  refine u_Mi_of RX7 (by decide) rfl (Nat.le_of_ble_eq_true rfl) ?_
  intro p e s m args below meth c ls cx hw hl
  have hx := cx.1
  have hb := cx.2.1
  have hl : lv_has ls 3 [(0, .ref (G.2.2 i0)), (1, .int p1), (2, .int p2)] := hl
  unfold f_X7_moveRope at hz
  refine lv_aload_n hx hb dX7_moveRope_0 rfl (lv_at hl 0 rfl) ?_
  refine lv_iload_n hx hb dX7_moveRope_1 rfl (lv_at hl 1 rfl) ?_
  obtain ⟨v1, hv1, hz⟩ := u_bind hz
  refine u_callVi (As := [.int p1]) (rest := []) cx hw LV_X7_108 (c_X7_isFurrow l G N σ i0 oi0 p1 v1 hv1) oi0 rfl (by decide) hl.1 rfl (Nat.le_of_ble_eq_true rfl) dX7_moveRope_2 rfl (fun H locs hw => ?_)
  refine lv_if_eq (tgt := 16) hx hb dX7_moveRope_5 (by decide) (fun hc => ?_) (fun hc => ?_)
  · replace hz := u_ift hz hc
    refine lv_iconst (v := (-1)) hx hb dX7_moveRope_16 (by decide) ?_
    exact u_iret cx hw (u_pair hz) dX7_moveRope_17
  · replace hz := u_iff hz hc
    refine lv_aload_n hx hb dX7_moveRope_8 rfl (lv_at hl 0 rfl) ?_
    refine lv_iload_n hx hb dX7_moveRope_9 rfl (lv_at hl 2 rfl) ?_
    obtain ⟨v2, hv2, hz⟩ := u_bind hz
    refine u_callVi (As := [.int p2]) (rest := []) cx hw LV_X7_108 (c_X7_isFurrow l G N σ i0 oi0 p2 v2 hv2) oi0 rfl (by decide) hl.1 rfl (Nat.le_of_ble_eq_true rfl) dX7_moveRope_10 rfl (fun H locs hw => ?_)
    refine lv_if_ne (tgt := 18) hx hb dX7_moveRope_13 (by decide) (fun hc => ?_) (fun hc => ?_)
    · replace hz := u_iff hz hc
      refine lv_iload_n hx hb dX7_moveRope_18 rfl (lv_at hl 1 rfl) ?_
      refine lv_iload_n hx hb dX7_moveRope_19 rfl (lv_at hl 2 rfl) ?_
      refine lv_icmp_le (tgt := 26) hx hb dX7_moveRope_20 (by decide) (fun hc => ?_) (fun hc => ?_)
      · replace hz := u_ift hz hc
        refine lv_aload_n hx hb dX7_moveRope_26 rfl (lv_at hl 0 rfl) ?_
        refine lv_iload_n hx hb dX7_moveRope_27 rfl (lv_at hl 1 rfl) ?_
        obtain ⟨s3, es3, hz⟩ := u_let hz
        refine u_puti2 cx hw P_X7_37 oi0 rfl es3 dX7_moveRope_28 (fun H locs hw => ?_)
        refine lv_aload_n hx hb dX7_moveRope_31 rfl (lv_at hl 0 rfl) ?_
        refine lv_iload_n hx hb dX7_moveRope_32 rfl (lv_at hl 2 rfl) ?_
        obtain ⟨s4, es4, hz⟩ := u_let hz
        refine u_puti2 cx hw P_X7_40 oi0 rfl es4 dX7_moveRope_33 (fun H locs hw => ?_)
        refine lv_iload_n hx hb dX7_moveRope_36 rfl (lv_at hl 2 rfl) ?_
        refine lv_iload_n hx hb dX7_moveRope_37 rfl (lv_at hl 1 rfl) ?_
        refine lv_isub hx hb dX7_moveRope_38 ?_
        refine lv_iconst (v := 1) hx hb dX7_moveRope_39 (by decide) ?_
        refine lv_iadd hx hb dX7_moveRope_40 ?_
        exact u_iret cx hw (u_pair hz) dX7_moveRope_41
      · replace hz := u_iff hz hc
        refine lv_bipush (v := (-2)) hx hb dX7_moveRope_23 (by decide) ?_
        exact u_iret cx hw (u_pair hz) dX7_moveRope_25
    · replace hz := u_ift hz hc
      refine lv_iconst (v := (-1)) hx hb dX7_moveRope_16 (by decide) ?_
      exact u_iret cx hw (u_pair hz) dX7_moveRope_17
theorem dX7_sowCorn_0 : decode cX7_sowCorn 0 = .ok (.aload_n 0, 1) := by decide +kernel
theorem dX7_sowCorn_1 : decode cX7_sowCorn 1 = .ok (.iload_n 1, 1) := by decide +kernel
theorem dX7_sowCorn_2 : decode cX7_sowCorn 2 = .ok (.invokevirtual 108, 3) := by decide +kernel
theorem dX7_sowCorn_5 : decode cX7_sowCorn 5 = .ok (.ifCond .eq 14, 3) := by decide +kernel
theorem dX7_sowCorn_8 : decode cX7_sowCorn 8 = .ok (.iload_n 2, 1) := by decide +kernel
theorem dX7_sowCorn_9 : decode cX7_sowCorn 9 = .ok (.iconst 1, 1) := by decide +kernel
theorem dX7_sowCorn_10 : decode cX7_sowCorn 10 = .ok (.if_icmp .lt 9, 3) := by decide +kernel
theorem dX7_sowCorn_13 : decode cX7_sowCorn 13 = .ok (.iload_n 2, 1) := by decide +kernel
theorem dX7_sowCorn_14 : decode cX7_sowCorn 14 = .ok (.bipush 9, 2) := by decide +kernel
theorem dX7_sowCorn_16 : decode cX7_sowCorn 16 = .ok (.if_icmp .le 5, 3) := by decide +kernel
theorem dX7_sowCorn_19 : decode cX7_sowCorn 19 = .ok (.iconst (-1), 1) := by decide +kernel
theorem dX7_sowCorn_20 : decode cX7_sowCorn 20 = .ok (.ireturn, 1) := by decide +kernel
theorem dX7_sowCorn_21 : decode cX7_sowCorn 21 = .ok (.aload_n 0, 1) := by decide +kernel
theorem dX7_sowCorn_22 : decode cX7_sowCorn 22 = .ok (.getfield 9, 3) := by decide +kernel
theorem dX7_sowCorn_25 : decode cX7_sowCorn 25 = .ok (.iload_n 1, 1) := by decide +kernel
theorem dX7_sowCorn_26 : decode cX7_sowCorn 26 = .ok (.bipush 9, 2) := by decide +kernel
theorem dX7_sowCorn_28 : decode cX7_sowCorn 28 = .ok (.aload_n 0, 1) := by decide +kernel
theorem dX7_sowCorn_29 : decode cX7_sowCorn 29 = .ok (.getfield 9, 3) := by decide +kernel
theorem dX7_sowCorn_32 : decode cX7_sowCorn 32 = .ok (.iload_n 1, 1) := by decide +kernel
theorem dX7_sowCorn_33 : decode cX7_sowCorn 33 = .ok (.iaload, 1) := by decide +kernel
theorem dX7_sowCorn_34 : decode cX7_sowCorn 34 = .ok (.iload_n 2, 1) := by decide +kernel
theorem dX7_sowCorn_35 : decode cX7_sowCorn 35 = .ok (.iadd, 1) := by decide +kernel
theorem dX7_sowCorn_36 : decode cX7_sowCorn 36 = .ok (.invokestatic 60, 3) := by decide +kernel
theorem dX7_sowCorn_39 : decode cX7_sowCorn 39 = .ok (.iastore, 1) := by decide +kernel
theorem dX7_sowCorn_40 : decode cX7_sowCorn 40 = .ok (.aload_n 0, 1) := by decide +kernel
theorem dX7_sowCorn_41 : decode cX7_sowCorn 41 = .ok (.getfield 9, 3) := by decide +kernel
theorem dX7_sowCorn_44 : decode cX7_sowCorn 44 = .ok (.iload_n 1, 1) := by decide +kernel
theorem dX7_sowCorn_45 : decode cX7_sowCorn 45 = .ok (.iaload, 1) := by decide +kernel
theorem dX7_sowCorn_46 : decode cX7_sowCorn 46 = .ok (.ireturn, 1) := by decide +kernel
def f_X7_sowCorn (N : Nat) (σ : uS) (i0 : Nat) (p1 : Int32) (p2 : Int32) : Option (Int32 × uS) := (f_X7_isFurrow N σ i0 p1).bind fun v1 =>
  if v1 = 0 then (some ((-1), σ)) else (if p2 < 1 then (some ((-1), σ)) else (if p2 ≤ 9 then ((u_rI ZC σ 0 (i0 + 1) p1).bind fun v2 =>
  (u_wI ZC σ 0 (i0 + 1) p1 (if (v2 + p2) < 9 then (v2 + p2) else 9)).bind fun s3 =>
  (u_rI ZC s3 0 (i0 + 1) p1).bind fun v4 =>
  some (v4, s3)) else (some ((-1), σ))))
set_option maxRecDepth 100000 in
set_option maxHeartbeats 4000000 in
theorem c_X7_sowCorn (l : Launch) (G : uG) (N : Nat) (σ : uS) (i0 : Nat) (oi0 : u_o ZC i0 6 12 (k_S i0)) (p1 : Int32) (p2 : Int32) (z : (Int32 × uS)) (hz : f_X7_sowCorn N σ i0 p1 p2 = some z) : u_Mi l ZC G yX7_sowCorn cX7_sowCorn 3 .int 1 [.ref (G.2.2 i0), .int p1, .int p2] σ z.1 z.2 := by
  refine u_Mi_of RX7 (by decide) rfl (Nat.le_of_ble_eq_true rfl) ?_
  intro p e s m args below meth c ls cx hw hl
  have hx := cx.1
  have hb := cx.2.1
  have hl : lv_has ls 3 [(0, .ref (G.2.2 i0)), (1, .int p1), (2, .int p2)] := hl
  unfold f_X7_sowCorn at hz
  refine lv_aload_n hx hb dX7_sowCorn_0 rfl (lv_at hl 0 rfl) ?_
  refine lv_iload_n hx hb dX7_sowCorn_1 rfl (lv_at hl 1 rfl) ?_
  obtain ⟨v1, hv1, hz⟩ := u_bind hz
  refine u_callVi (As := [.int p1]) (rest := []) cx hw LV_X7_108 (c_X7_isFurrow l G N σ i0 oi0 p1 v1 hv1) oi0 rfl (by decide) hl.1 rfl (Nat.le_of_ble_eq_true rfl) dX7_sowCorn_2 rfl (fun H locs hw => ?_)
  refine lv_if_eq (tgt := 19) hx hb dX7_sowCorn_5 (by decide) (fun hc => ?_) (fun hc => ?_)
  · replace hz := u_ift hz hc
    refine lv_iconst (v := (-1)) hx hb dX7_sowCorn_19 (by decide) ?_
    exact u_iret cx hw (u_pair hz) dX7_sowCorn_20
  · replace hz := u_iff hz hc
    refine lv_iload_n hx hb dX7_sowCorn_8 rfl (lv_at hl 2 rfl) ?_
    refine lv_iconst (v := 1) hx hb dX7_sowCorn_9 (by decide) ?_
    refine lv_icmp_lt (tgt := 19) hx hb dX7_sowCorn_10 (by decide) (fun hc => ?_) (fun hc => ?_)
    · replace hz := u_ift hz hc
      refine lv_iconst (v := (-1)) hx hb dX7_sowCorn_19 (by decide) ?_
      exact u_iret cx hw (u_pair hz) dX7_sowCorn_20
    · replace hz := u_iff hz hc
      refine lv_iload_n hx hb dX7_sowCorn_13 rfl (lv_at hl 2 rfl) ?_
      refine lv_bipush (v := 9) hx hb dX7_sowCorn_14 (by decide) ?_
      refine lv_icmp_le (tgt := 21) hx hb dX7_sowCorn_16 (by decide) (fun hc => ?_) (fun hc => ?_)
      · replace hz := u_ift hz hc
        refine lv_aload_n hx hb dX7_sowCorn_21 rfl (lv_at hl 0 rfl) ?_
        refine u_getp cx hw F_X7_9 oi0 rfl dX7_sowCorn_22 ?_
        refine lv_iload_n hx hb dX7_sowCorn_25 rfl (lv_at hl 1 rfl) ?_
        refine lv_bipush (v := 9) hx hb dX7_sowCorn_26 (by decide) ?_
        refine lv_aload_n hx hb dX7_sowCorn_28 rfl (lv_at hl 0 rfl) ?_
        refine u_getp cx hw F_X7_9 oi0 rfl dX7_sowCorn_29 ?_
        refine lv_iload_n hx hb dX7_sowCorn_32 rfl (lv_at hl 1 rfl) ?_
        obtain ⟨v2, hv2, hz⟩ := u_bind hz
        refine u_iald cx hw hv2 dX7_sowCorn_33 ?_
        refine lv_iload_n hx hb dX7_sowCorn_34 rfl (lv_at hl 2 rfl) ?_
        refine lv_iadd hx hb dX7_sowCorn_35 ?_
        refine u_mmin cx LM_X7_60 (by decide) hl.1 (Nat.le_of_ble_eq_true rfl) dX7_sowCorn_36 ?_
        obtain ⟨s3, hs3, hz⟩ := u_bind hz
        refine u_iast cx hw hs3 dX7_sowCorn_39 (fun H locs hw => ?_)
        refine lv_aload_n hx hb dX7_sowCorn_40 rfl (lv_at hl 0 rfl) ?_
        refine u_getp cx hw F_X7_9 oi0 rfl dX7_sowCorn_41 ?_
        refine lv_iload_n hx hb dX7_sowCorn_44 rfl (lv_at hl 1 rfl) ?_
        obtain ⟨v4, hv4, hz⟩ := u_bind hz
        refine u_iald cx hw hv4 dX7_sowCorn_45 ?_
        exact u_iret cx hw (u_pair hz) dX7_sowCorn_46
      · replace hz := u_iff hz hc
        refine lv_iconst (v := (-1)) hx hb dX7_sowCorn_19 (by decide) ?_
        exact u_iret cx hw (u_pair hz) dX7_sowCorn_20
theorem dX7_part_0 : decode cX7_part 0 = .ok (.iconst 0, 1) := by decide +kernel
theorem dX7_part_1 : decode cX7_part 1 = .ok (.istore_n 2, 1) := by decide +kernel
theorem dX7_part_2 : decode cX7_part 2 = .ok (.iload_n 2, 1) := by decide +kernel
theorem dX7_part_3 : decode cX7_part 3 = .ok (.aload_n 0, 1) := by decide +kernel
theorem dX7_part_4 : decode cX7_part 4 = .ok (.getfield 27, 3) := by decide +kernel
theorem dX7_part_7 : decode cX7_part 7 = .ok (.if_icmp .ge 61, 3) := by decide +kernel
theorem dX7_part_10 : decode cX7_part 10 = .ok (.aload_n 0, 1) := by decide +kernel
theorem dX7_part_11 : decode cX7_part 11 = .ok (.iload_n 2, 1) := by decide +kernel
theorem dX7_part_12 : decode cX7_part 12 = .ok (.invokevirtual 119, 3) := by decide +kernel
theorem dX7_part_15 : decode cX7_part 15 = .ok (.ifCond .ne 25, 3) := by decide +kernel
theorem dX7_part_18 : decode cX7_part 18 = .ok (.aload_n 0, 1) := by decide +kernel
theorem dX7_part_19 : decode cX7_part 19 = .ok (.getfield 9, 3) := by decide +kernel
theorem dX7_part_22 : decode cX7_part 22 = .ok (.iload_n 2, 1) := by decide +kernel
theorem dX7_part_23 : decode cX7_part 23 = .ok (.bipush 9, 2) := by decide +kernel
theorem dX7_part_25 : decode cX7_part 25 = .ok (.aload_n 0, 1) := by decide +kernel
theorem dX7_part_26 : decode cX7_part 26 = .ok (.getfield 9, 3) := by decide +kernel
theorem dX7_part_29 : decode cX7_part 29 = .ok (.iload_n 2, 1) := by decide +kernel
theorem dX7_part_30 : decode cX7_part 30 = .ok (.iaload, 1) := by decide +kernel
theorem dX7_part_31 : decode cX7_part 31 = .ok (.iconst 1, 1) := by decide +kernel
theorem dX7_part_32 : decode cX7_part 32 = .ok (.iadd, 1) := by decide +kernel
theorem dX7_part_33 : decode cX7_part 33 = .ok (.invokestatic 60, 3) := by decide +kernel
theorem dX7_part_36 : decode cX7_part 36 = .ok (.iastore, 1) := by decide +kernel
theorem dX7_part_37 : decode cX7_part 37 = .ok (.goto 25, 3) := by decide +kernel
theorem dX7_part_40 : decode cX7_part 40 = .ok (.iload_n 1, 1) := by decide +kernel
theorem dX7_part_41 : decode cX7_part 41 = .ok (.ifCond .eq 21, 3) := by decide +kernel
theorem dX7_part_44 : decode cX7_part 44 = .ok (.aload_n 0, 1) := by decide +kernel
theorem dX7_part_45 : decode cX7_part 45 = .ok (.getfield 9, 3) := by decide +kernel
theorem dX7_part_48 : decode cX7_part 48 = .ok (.iload_n 2, 1) := by decide +kernel
theorem dX7_part_49 : decode cX7_part 49 = .ok (.iconst 0, 1) := by decide +kernel
theorem dX7_part_50 : decode cX7_part 50 = .ok (.aload_n 0, 1) := by decide +kernel
theorem dX7_part_51 : decode cX7_part 51 = .ok (.getfield 9, 3) := by decide +kernel
theorem dX7_part_54 : decode cX7_part 54 = .ok (.iload_n 2, 1) := by decide +kernel
theorem dX7_part_55 : decode cX7_part 55 = .ok (.iaload, 1) := by decide +kernel
theorem dX7_part_56 : decode cX7_part 56 = .ok (.iconst 1, 1) := by decide +kernel
theorem dX7_part_57 : decode cX7_part 57 = .ok (.isub, 1) := by decide +kernel
theorem dX7_part_58 : decode cX7_part 58 = .ok (.invokestatic 66, 3) := by decide +kernel
theorem dX7_part_61 : decode cX7_part 61 = .ok (.iastore, 1) := by decide +kernel
theorem dX7_part_62 : decode cX7_part 62 = .ok (.iinc 2 1, 3) := by decide +kernel
theorem dX7_part_65 : decode cX7_part 65 = .ok (.goto (-63), 3) := by decide +kernel
theorem dX7_part_68 : decode cX7_part 68 = .ok (.return_, 1) := by decide +kernel
def b_X7_part_2 (N : Nat) (i0 : Nat) (p1 : Int32) (J68_2 : uS → Option uS) (rec2_5 : uS → Int32 → Option uS) (s3 : uS) (x4 : Int32) : Option uS :=
  if (s3.1 i0 5) ≤ x4 then (J68_2 s3) else ((f_X7_isOfRope N s3 i0 x4).bind fun v6 =>
  u_jn (fun (s7 : uS) => (u_jn (x4 + 1 : Int32) fun x9 =>
  rec2_5 s7 x9 : Option uS)) fun J62_8 =>
  if v6 = 0 then ((u_rI ZC s3 0 (i0 + 1) x4).bind fun v12 =>
  (u_wI ZC s3 0 (i0 + 1) x4 (if (v12 + 1) < 9 then (v12 + 1) else 9)).bind fun s13 =>
  J62_8 s13) else (if p1 = 0 then (J62_8 s3) else ((u_rI ZC s3 0 (i0 + 1) x4).bind fun v10 =>
  (u_wI ZC s3 0 (i0 + 1) x4 (if 0 < (v10 - 1) then (v10 - 1) else 0)).bind fun s11 =>
  J62_8 s11)))
def f_X7_part (N : Nat) (σ : uS) (i0 : Nat) (p1 : Int32) : Option uS := u_jn (fun (s1 : uS) => (some s1 : Option uS)) fun J68_2 =>
  u_lp2 (b_X7_part_2 N i0 p1 J68_2) N σ 0
set_option maxRecDepth 100000 in
set_option maxHeartbeats 4000000 in
theorem c_X7_part (l : Launch) (G : uG) (N : Nat) (σ : uS) (i0 : Nat) (oi0 : u_o ZC i0 6 12 (k_S i0)) (p1 : Int32) (z : uS) (hz : f_X7_part N σ i0 p1 = some z) : u_Mv l ZC G yX7_part cX7_part 3 1 [.ref (G.2.2 i0), .int p1] σ z := by
  refine u_Mv_of RX7 (by decide) rfl (Nat.le_of_ble_eq_true rfl) ?_
  intro p e s m args below meth c ls cx hw hl
  have hx := cx.1
  have hb := cx.2.1
  have hl : lv_has ls 3 [(0, .ref (G.2.2 i0)), (1, .int p1)] := hl
  unfold f_X7_part at hz
  refine lv_iconst (v := 0) hx hb dX7_part_0 (by decide) ?_
  refine lv_istore_n (lv' := [(2, .int 0), (0, .ref (G.2.2 i0)), (1, .int p1)]) hx hb dX7_part_1 rfl hl (by decide) rfl (fun ls hl => ?_)
  obtain ⟨J68_2, eJ68_2, hz⟩ := u_let hz
  have WJ68_2 : ∀ (s1 : uS) (H : Heap) (locs : List Loc) (ls : Array Slot), J68_2 s1 = some z → u_W ZC G s1 s H locs → lv_has ls 3 [] → W p l e (u_rm 1) s m args below meth c H locs 0 0 (u_Qv below ZC G s args z) (F0 m 68 ls []) := by
    intro s1 H locs ls hz hw hl
    rw [eJ68_2] at hz
    exact u_vret cx hw (Option.some.inj hz) dX7_part_68
  have WL2_13 : ∀ (k : Nat) (s3 : uS) (x4 : Int32) (H : Heap) (locs : List Loc) (ls : Array Slot), u_lp2 (b_X7_part_2 N i0 p1 J68_2) k s3 x4 = some z → u_W ZC G s3 s H locs → lv_has ls 3 [(0, .ref (G.2.2 i0)), (1, .int p1), (2, .int x4)] → W p l e (u_rm 1) s m args below meth c H locs 0 0 (u_Qv below ZC G s args z) (F0 m 2 ls []) := by
    intro k
    induction k with
    | zero =>
      intro s3 x4 H locs ls hz
      exact absurd hz (by intro h9; cases h9)
    | succ k ih2_5 =>
      intro s3 x4 H locs ls hz hw hl
      have hz : (b_X7_part_2 N i0 p1 J68_2) (u_lp2 (b_X7_part_2 N i0 p1 J68_2) k) s3 x4 = some z := hz
      unfold b_X7_part_2 at hz
      refine lv_iload_n hx hb dX7_part_2 rfl (lv_at hl 2 rfl) ?_
      refine lv_aload_n hx hb dX7_part_3 rfl (lv_at hl 0 rfl) ?_
      refine u_geti cx hw F_X7_27 oi0 rfl dX7_part_4 ?_
      refine lv_icmp_ge (tgt := 68) hx hb dX7_part_7 (by decide) (fun hc => ?_) (fun hc => ?_)
      · replace hz := u_ift hz hc
        exact WJ68_2 s3 _ _ _ hz hw (lv_sub hl [] rfl)
      · replace hz := u_iff hz hc
        refine lv_aload_n hx hb dX7_part_10 rfl (lv_at hl 0 rfl) ?_
        refine lv_iload_n hx hb dX7_part_11 rfl (lv_at hl 2 rfl) ?_
        obtain ⟨v6, hv6, hz⟩ := u_bind hz
        refine u_callVi (As := [.int x4]) (rest := []) cx hw LV_X7_119 (c_X7_isOfRope l G N s3 i0 oi0 x4 v6 hv6) oi0 rfl (by decide) hl.1 rfl (Nat.le_of_ble_eq_true rfl) dX7_part_12 rfl (fun H locs hw => ?_)
        obtain ⟨J62_8, eJ62_8, hz⟩ := u_let hz
        have WJ62_8 : ∀ (s7 : uS) (H : Heap) (locs : List Loc) (ls : Array Slot), J62_8 s7 = some z → u_W ZC G s7 s H locs → lv_has ls 3 [(0, .ref (G.2.2 i0)), (1, .int p1), (2, .int x4)] → W p l e (u_rm 1) s m args below meth c H locs 0 0 (u_Qv below ZC G s args z) (F0 m 62 ls []) := by
          intro s7 H locs ls hz hw hl
          rw [eJ62_8] at hz
          obtain ⟨x9, ex9, hz⟩ := u_let hz
          refine lv_iinc (v := x9) (lv' := [(2, .int x9), (0, .ref (G.2.2 i0)), (1, .int p1)]) hx hb dX7_part_62 hl (k := 2) rfl (by rw [ex9]; rfl) (by decide) rfl (fun ls hl => ?_)
          refine lv_goto (tgt := 2) hx hb dX7_part_65 (by decide) ?_
          exact ih2_5 s7 x9 _ _ _ hz hw (lv_sub hl [1, 2, 0] rfl)
        refine lv_if_ne (tgt := 40) hx hb dX7_part_15 (by decide) (fun hc => ?_) (fun hc => ?_)
        · replace hz := u_iff hz hc
          refine lv_iload_n hx hb dX7_part_40 rfl (lv_at hl 1 rfl) ?_
          refine lv_if_eq (tgt := 62) hx hb dX7_part_41 (by decide) (fun hc => ?_) (fun hc => ?_)
          · replace hz := u_ift hz hc
            exact WJ62_8 s3 _ _ _ hz hw (lv_sub hl [0, 1, 2] rfl)
          · replace hz := u_iff hz hc
            refine lv_aload_n hx hb dX7_part_44 rfl (lv_at hl 0 rfl) ?_
            refine u_getp cx hw F_X7_9 oi0 rfl dX7_part_45 ?_
            refine lv_iload_n hx hb dX7_part_48 rfl (lv_at hl 2 rfl) ?_
            refine lv_iconst (v := 0) hx hb dX7_part_49 (by decide) ?_
            refine lv_aload_n hx hb dX7_part_50 rfl (lv_at hl 0 rfl) ?_
            refine u_getp cx hw F_X7_9 oi0 rfl dX7_part_51 ?_
            refine lv_iload_n hx hb dX7_part_54 rfl (lv_at hl 2 rfl) ?_
            obtain ⟨v10, hv10, hz⟩ := u_bind hz
            refine u_iald cx hw hv10 dX7_part_55 ?_
            refine lv_iconst (v := 1) hx hb dX7_part_56 (by decide) ?_
            refine lv_isub hx hb dX7_part_57 ?_
            refine u_mmax cx LM_X7_66 (by decide) hl.1 (Nat.le_of_ble_eq_true rfl) dX7_part_58 ?_
            obtain ⟨s11, hs11, hz⟩ := u_bind hz
            refine u_iast cx hw hs11 dX7_part_61 (fun H locs hw => ?_)
            exact WJ62_8 s11 _ _ _ hz hw (lv_sub hl [0, 1, 2] rfl)
        · replace hz := u_ift hz hc
          refine lv_aload_n hx hb dX7_part_18 rfl (lv_at hl 0 rfl) ?_
          refine u_getp cx hw F_X7_9 oi0 rfl dX7_part_19 ?_
          refine lv_iload_n hx hb dX7_part_22 rfl (lv_at hl 2 rfl) ?_
          refine lv_bipush (v := 9) hx hb dX7_part_23 (by decide) ?_
          refine lv_aload_n hx hb dX7_part_25 rfl (lv_at hl 0 rfl) ?_
          refine u_getp cx hw F_X7_9 oi0 rfl dX7_part_26 ?_
          refine lv_iload_n hx hb dX7_part_29 rfl (lv_at hl 2 rfl) ?_
          obtain ⟨v12, hv12, hz⟩ := u_bind hz
          refine u_iald cx hw hv12 dX7_part_30 ?_
          refine lv_iconst (v := 1) hx hb dX7_part_31 (by decide) ?_
          refine lv_iadd hx hb dX7_part_32 ?_
          refine u_mmin cx LM_X7_60 (by decide) hl.1 (Nat.le_of_ble_eq_true rfl) dX7_part_33 ?_
          obtain ⟨s13, hs13, hz⟩ := u_bind hz
          refine u_iast cx hw hs13 dX7_part_36 (fun H locs hw => ?_)
          refine lv_goto (tgt := 62) hx hb dX7_part_37 (by decide) ?_
          exact WJ62_8 s13 _ _ _ hz hw (lv_sub hl [0, 1, 2] rfl)
  exact WL2_13 N σ 0 _ _ _ hz hw (lv_sub hl [1, 2, 0] rfl)
theorem dX8_clear_0 : decode cX8_clear 0 = .ok (.aload_n 0, 1) := by decide +kernel
theorem dX8_clear_1 : decode cX8_clear 1 = .ok (.iconst 0, 1) := by decide +kernel
theorem dX8_clear_2 : decode cX8_clear 2 = .ok (.putfield 15, 3) := by decide +kernel
theorem dX8_clear_5 : decode cX8_clear 5 = .ok (.return_, 1) := by decide +kernel
def f_X8_clear (N : Nat) (σ : uS) : Option uS := u_jn (u_pI σ 3 1 0) fun s1 =>
  some s1
set_option maxRecDepth 100000 in
set_option maxHeartbeats 4000000 in
theorem c_X8_clear (l : Launch) (G : uG) (N : Nat) (σ : uS) (z : uS) (hz : f_X8_clear N σ = some z) : u_Mv l ZC G yX8_clear cX8_clear 1 0 [.ref (G.2.2 3)] σ z := by
  refine u_Mv_of RX8 (by decide) rfl (Nat.le_of_ble_eq_true rfl) ?_
  intro p e s m args below meth c ls cx hw hl
  have hx := cx.1
  have hb := cx.2.1
  have hl : lv_has ls 1 [(0, .ref (G.2.2 3))] := hl
  unfold f_X8_clear at hz
  refine lv_aload_n hx hb dX8_clear_0 rfl (lv_at hl 0 rfl) ?_
  refine lv_iconst (v := 0) hx hb dX8_clear_1 (by decide) ?_
  obtain ⟨s1, es1, hz⟩ := u_let hz
  refine u_puti2 cx hw P_X8_15 o_X8 rfl es1 dX8_clear_2 (fun H locs hw => ?_)
  exact u_vret cx hw (Option.some.inj hz) dX8_clear_5
theorem dX8_add_0 : decode cX8_add 0 = .ok (.aload_n 0, 1) := by decide +kernel
theorem dX8_add_1 : decode cX8_add 1 = .ok (.getfield 15, 3) := by decide +kernel
theorem dX8_add_4 : decode cX8_add 4 = .ok (.ifCond .lt 35, 3) := by decide +kernel
theorem dX8_add_7 : decode cX8_add 7 = .ok (.aload_n 0, 1) := by decide +kernel
theorem dX8_add_8 : decode cX8_add 8 = .ok (.getfield 15, 3) := by decide +kernel
theorem dX8_add_11 : decode cX8_add 11 = .ok (.aload_n 0, 1) := by decide +kernel
theorem dX8_add_12 : decode cX8_add 12 = .ok (.getfield 9, 3) := by decide +kernel
theorem dX8_add_15 : decode cX8_add 15 = .ok (.arraylength, 1) := by decide +kernel
theorem dX8_add_16 : decode cX8_add 16 = .ok (.if_icmp .ge 23, 3) := by decide +kernel
theorem dX8_add_19 : decode cX8_add 19 = .ok (.aload_n 0, 1) := by decide +kernel
theorem dX8_add_20 : decode cX8_add 20 = .ok (.getfield 9, 3) := by decide +kernel
theorem dX8_add_23 : decode cX8_add 23 = .ok (.aload_n 0, 1) := by decide +kernel
theorem dX8_add_24 : decode cX8_add 24 = .ok (.getfield 15, 3) := by decide +kernel
theorem dX8_add_27 : decode cX8_add 27 = .ok (.lload_n 1, 1) := by decide +kernel
theorem dX8_add_28 : decode cX8_add 28 = .ok (.lastore, 1) := by decide +kernel
theorem dX8_add_29 : decode cX8_add 29 = .ok (.aload_n 0, 1) := by decide +kernel
theorem dX8_add_30 : decode cX8_add 30 = .ok (.dup, 1) := by decide +kernel
theorem dX8_add_31 : decode cX8_add 31 = .ok (.getfield 15, 3) := by decide +kernel
theorem dX8_add_34 : decode cX8_add 34 = .ok (.iconst 1, 1) := by decide +kernel
theorem dX8_add_35 : decode cX8_add 35 = .ok (.iadd, 1) := by decide +kernel
theorem dX8_add_36 : decode cX8_add 36 = .ok (.putfield 15, 3) := by decide +kernel
theorem dX8_add_39 : decode cX8_add 39 = .ok (.return_, 1) := by decide +kernel
def f_X8_add (N : Nat) (σ : uS) (p1 : Int64) : Option uS := if (σ.1 3 1) < 0 then (some σ) else ((u_len ZC 4).bind fun v1 =>
  if v1 ≤ (σ.1 3 1) then (some σ) else ((u_wL ZC σ 4 (σ.1 3 1) p1).bind fun s2 =>
  u_jn (u_pI s2 3 1 ((s2.1 3 1) + 1)) fun s3 =>
  some s3))
set_option maxRecDepth 100000 in
set_option maxHeartbeats 4000000 in
theorem c_X8_add (l : Launch) (G : uG) (N : Nat) (σ : uS) (p1 : Int64) (z : uS) (hz : f_X8_add N σ p1 = some z) : u_Mv l ZC G yX8_add cX8_add 3 0 [.ref (G.2.2 3), .long p1] σ z := by
  refine u_Mv_of RX8 (by decide) rfl (Nat.le_of_ble_eq_true rfl) ?_
  intro p e s m args below meth c ls cx hw hl
  have hx := cx.1
  have hb := cx.2.1
  have hl : lv_has ls 3 [(0, .ref (G.2.2 3)), (1, .long p1)] := hl
  unfold f_X8_add at hz
  refine lv_aload_n hx hb dX8_add_0 rfl (lv_at hl 0 rfl) ?_
  refine u_geti cx hw F_X8_15 o_X8 rfl dX8_add_1 ?_
  refine lv_if_lt (tgt := 39) hx hb dX8_add_4 (by decide) (fun hc => ?_) (fun hc => ?_)
  · replace hz := u_ift hz hc
    exact u_vret cx hw (Option.some.inj hz) dX8_add_39
  · replace hz := u_iff hz hc
    refine lv_aload_n hx hb dX8_add_7 rfl (lv_at hl 0 rfl) ?_
    refine u_geti cx hw F_X8_15 o_X8 rfl dX8_add_8 ?_
    refine lv_aload_n hx hb dX8_add_11 rfl (lv_at hl 0 rfl) ?_
    refine u_getp cx hw F_X8_9 o_X8 rfl dX8_add_12 ?_
    obtain ⟨v1, hv1, hz⟩ := u_bind hz
    refine u_alen cx hw hv1 dX8_add_15 ?_
    refine lv_icmp_ge (tgt := 39) hx hb dX8_add_16 (by decide) (fun hc => ?_) (fun hc => ?_)
    · replace hz := u_ift hz hc
      exact u_vret cx hw (Option.some.inj hz) dX8_add_39
    · replace hz := u_iff hz hc
      refine lv_aload_n hx hb dX8_add_19 rfl (lv_at hl 0 rfl) ?_
      refine u_getp cx hw F_X8_9 o_X8 rfl dX8_add_20 ?_
      refine lv_aload_n hx hb dX8_add_23 rfl (lv_at hl 0 rfl) ?_
      refine u_geti cx hw F_X8_15 o_X8 rfl dX8_add_24 ?_
      refine lv_lload_n hx hb dX8_add_27 rfl (lv_at hl 1 rfl) ?_
      obtain ⟨s2, hs2, hz⟩ := u_bind hz
      refine u_last cx hw hs2 dX8_add_28 (fun H locs hw => ?_)
      refine lv_aload_n hx hb dX8_add_29 rfl (lv_at hl 0 rfl) ?_
      refine lv_dup hx hb dX8_add_30 rfl ?_
      refine u_geti cx hw F_X8_15 o_X8 rfl dX8_add_31 ?_
      refine lv_iconst (v := 1) hx hb dX8_add_34 (by decide) ?_
      refine lv_iadd hx hb dX8_add_35 ?_
      obtain ⟨s3, es3, hz⟩ := u_let hz
      refine u_puti2 cx hw P_X8_15 o_X8 rfl es3 dX8_add_36 (fun H locs hw => ?_)
      exact u_vret cx hw (Option.some.inj hz) dX8_add_39
theorem dX8_one_0 : decode cX8_one 0 = .ok (.aload_n 0, 1) := by decide +kernel
theorem dX8_one_1 : decode cX8_one 1 = .ok (.iconst 0, 1) := by decide +kernel
theorem dX8_one_2 : decode cX8_one 2 = .ok (.putfield 15, 3) := by decide +kernel
theorem dX8_one_5 : decode cX8_one 5 = .ok (.aload_n 0, 1) := by decide +kernel
theorem dX8_one_6 : decode cX8_one 6 = .ok (.lload_n 1, 1) := by decide +kernel
theorem dX8_one_7 : decode cX8_one 7 = .ok (.invokevirtual 19, 3) := by decide +kernel
theorem dX8_one_10 : decode cX8_one 10 = .ok (.return_, 1) := by decide +kernel
def f_X8_one (N : Nat) (σ : uS) (p1 : Int64) : Option uS := u_jn (u_pI σ 3 1 0) fun s1 =>
  (f_X8_add N s1 p1).bind fun s2 =>
  some s2
set_option maxRecDepth 100000 in
set_option maxHeartbeats 4000000 in
theorem c_X8_one (l : Launch) (G : uG) (N : Nat) (σ : uS) (p1 : Int64) (z : uS) (hz : f_X8_one N σ p1 = some z) : u_Mv l ZC G yX8_one cX8_one 3 1 [.ref (G.2.2 3), .long p1] σ z := by
  refine u_Mv_of RX8 (by decide) rfl (Nat.le_of_ble_eq_true rfl) ?_
  intro p e s m args below meth c ls cx hw hl
  have hx := cx.1
  have hb := cx.2.1
  have hl : lv_has ls 3 [(0, .ref (G.2.2 3)), (1, .long p1)] := hl
  unfold f_X8_one at hz
  refine lv_aload_n hx hb dX8_one_0 rfl (lv_at hl 0 rfl) ?_
  refine lv_iconst (v := 0) hx hb dX8_one_1 (by decide) ?_
  obtain ⟨s1, es1, hz⟩ := u_let hz
  refine u_puti2 cx hw P_X8_15 o_X8 rfl es1 dX8_one_2 (fun H locs hw => ?_)
  refine lv_aload_n hx hb dX8_one_5 rfl (lv_at hl 0 rfl) ?_
  refine lv_lload_n hx hb dX8_one_6 rfl (lv_at hl 1 rfl) ?_
  obtain ⟨s2, hs2, hz⟩ := u_bind hz
  refine u_callVv (As := [.long p1]) (rest := []) cx hw LV_X8_19 (c_X8_add l G N s1 p1 s2 hs2) o_X8 rfl (by decide) hl.1 rfl (Nat.le_of_ble_eq_true rfl) dX8_one_7 rfl (fun H locs hw => ?_)
  exact u_vret cx hw (Option.some.inj hz) dX8_one_10
theorem dX8_two_0 : decode cX8_two 0 = .ok (.aload_n 0, 1) := by decide +kernel
theorem dX8_two_1 : decode cX8_two 1 = .ok (.iconst 0, 1) := by decide +kernel
theorem dX8_two_2 : decode cX8_two 2 = .ok (.putfield 15, 3) := by decide +kernel
theorem dX8_two_5 : decode cX8_two 5 = .ok (.aload_n 0, 1) := by decide +kernel
theorem dX8_two_6 : decode cX8_two 6 = .ok (.lload_n 1, 1) := by decide +kernel
theorem dX8_two_7 : decode cX8_two 7 = .ok (.invokevirtual 19, 3) := by decide +kernel
theorem dX8_two_10 : decode cX8_two 10 = .ok (.aload_n 0, 1) := by decide +kernel
theorem dX8_two_11 : decode cX8_two 11 = .ok (.lload_n 3, 1) := by decide +kernel
theorem dX8_two_12 : decode cX8_two 12 = .ok (.invokevirtual 19, 3) := by decide +kernel
theorem dX8_two_15 : decode cX8_two 15 = .ok (.return_, 1) := by decide +kernel
def f_X8_two (N : Nat) (σ : uS) (p1 : Int64) (p3 : Int64) : Option uS := u_jn (u_pI σ 3 1 0) fun s1 =>
  (f_X8_add N s1 p1).bind fun s2 =>
  (f_X8_add N s2 p3).bind fun s3 =>
  some s3
set_option maxRecDepth 100000 in
set_option maxHeartbeats 4000000 in
theorem c_X8_two (l : Launch) (G : uG) (N : Nat) (σ : uS) (p1 : Int64) (p3 : Int64) (z : uS) (hz : f_X8_two N σ p1 p3 = some z) : u_Mv l ZC G yX8_two cX8_two 5 1 [.ref (G.2.2 3), .long p1, .long p3] σ z := by
  refine u_Mv_of RX8 (by decide) rfl (Nat.le_of_ble_eq_true rfl) ?_
  intro p e s m args below meth c ls cx hw hl
  have hx := cx.1
  have hb := cx.2.1
  have hl : lv_has ls 5 [(0, .ref (G.2.2 3)), (1, .long p1), (3, .long p3)] := hl
  unfold f_X8_two at hz
  refine lv_aload_n hx hb dX8_two_0 rfl (lv_at hl 0 rfl) ?_
  refine lv_iconst (v := 0) hx hb dX8_two_1 (by decide) ?_
  obtain ⟨s1, es1, hz⟩ := u_let hz
  refine u_puti2 cx hw P_X8_15 o_X8 rfl es1 dX8_two_2 (fun H locs hw => ?_)
  refine lv_aload_n hx hb dX8_two_5 rfl (lv_at hl 0 rfl) ?_
  refine lv_lload_n hx hb dX8_two_6 rfl (lv_at hl 1 rfl) ?_
  obtain ⟨s2, hs2, hz⟩ := u_bind hz
  refine u_callVv (As := [.long p1]) (rest := []) cx hw LV_X8_19 (c_X8_add l G N s1 p1 s2 hs2) o_X8 rfl (by decide) hl.1 rfl (Nat.le_of_ble_eq_true rfl) dX8_two_7 rfl (fun H locs hw => ?_)
  refine lv_aload_n hx hb dX8_two_10 rfl (lv_at hl 0 rfl) ?_
  refine lv_lload_n hx hb dX8_two_11 rfl (lv_at hl 2 rfl) ?_
  obtain ⟨s3, hs3, hz⟩ := u_bind hz
  refine u_callVv (As := [.long p3]) (rest := []) cx hw LV_X8_19 (c_X8_add l G N s2 p3 s3 hs3) o_X8 rfl (by decide) hl.1 rfl (Nat.le_of_ble_eq_true rfl) dX8_two_12 rfl (fun H locs hw => ?_)
  exact u_vret cx hw (Option.some.inj hz) dX8_two_15
theorem dX8_number_0 : decode cX8_number 0 = .ok (.iload_n 1, 1) := by decide +kernel
theorem dX8_number_1 : decode cX8_number 1 = .ok (.ifCond .lt 21, 3) := by decide +kernel
theorem dX8_number_4 : decode cX8_number 4 = .ok (.iload_n 1, 1) := by decide +kernel
theorem dX8_number_5 : decode cX8_number 5 = .ok (.aload_n 0, 1) := by decide +kernel
theorem dX8_number_6 : decode cX8_number 6 = .ok (.getfield 9, 3) := by decide +kernel
theorem dX8_number_9 : decode cX8_number 9 = .ok (.arraylength, 1) := by decide +kernel
theorem dX8_number_10 : decode cX8_number 10 = .ok (.if_icmp .ge 12, 3) := by decide +kernel
theorem dX8_number_13 : decode cX8_number 13 = .ok (.aload_n 0, 1) := by decide +kernel
theorem dX8_number_14 : decode cX8_number 14 = .ok (.getfield 9, 3) := by decide +kernel
theorem dX8_number_17 : decode cX8_number 17 = .ok (.iload_n 1, 1) := by decide +kernel
theorem dX8_number_18 : decode cX8_number 18 = .ok (.laload, 1) := by decide +kernel
theorem dX8_number_19 : decode cX8_number 19 = .ok (.goto 4, 3) := by decide +kernel
theorem dX8_number_22 : decode cX8_number 22 = .ok (.lconst 0, 1) := by decide +kernel
theorem dX8_number_23 : decode cX8_number 23 = .ok (.lreturn, 1) := by decide +kernel
def f_X8_number (N : Nat) (σ : uS) (p1 : Int32) : Option Int64 := u_jn ((some 0 : Option Int64)) fun J22_1 =>
  if p1 < 0 then (J22_1) else ((u_len ZC 4).bind fun v2 =>
  if v2 ≤ p1 then (J22_1) else ((u_rL ZC σ 4 p1).bind fun v3 =>
  some v3))
set_option maxRecDepth 100000 in
set_option maxHeartbeats 4000000 in
theorem c_X8_number (l : Launch) (G : uG) (N : Nat) (σ : uS) (p1 : Int32) (z : Int64) (hz : f_X8_number N σ p1 = some z) : u_Ml l ZC G yX8_number cX8_number 2 0 [.ref (G.2.2 3), .int p1] σ z σ := by
  refine u_Ml_of RX8 (by decide) rfl (Nat.le_of_ble_eq_true rfl) ?_
  intro p e s m args below meth c ls cx hw hl
  have hx := cx.1
  have hb := cx.2.1
  have hl : lv_has ls 2 [(0, .ref (G.2.2 3)), (1, .int p1)] := hl
  unfold f_X8_number at hz
  refine lv_iload_n hx hb dX8_number_0 rfl (lv_at hl 1 rfl) ?_
  obtain ⟨J22_1, eJ22_1, hz⟩ := u_let hz
  have WJ22_1 : ∀ (H : Heap) (locs : List Loc) (ls : Array Slot), J22_1 = some z → u_W ZC G σ s H locs → lv_has ls 2 [] → W p l e (u_rm 0) s m args below meth c H locs 0 0 (u_Ql below ZC G s args z σ) (F0 m 22 ls []) := by
    intro H locs ls hz hw hl
    rw [eJ22_1] at hz
    refine lv_lconst (v := 0) hx hb dX8_number_22 (by decide) ?_
    exact u_lret cx hw ⟨Option.some.inj hz, rfl⟩ dX8_number_23
  refine lv_if_lt (tgt := 22) hx hb dX8_number_1 (by decide) (fun hc => ?_) (fun hc => ?_)
  · replace hz := u_ift hz hc
    exact WJ22_1 _ _ _ hz hw (lv_sub hl [] rfl)
  · replace hz := u_iff hz hc
    refine lv_iload_n hx hb dX8_number_4 rfl (lv_at hl 1 rfl) ?_
    refine lv_aload_n hx hb dX8_number_5 rfl (lv_at hl 0 rfl) ?_
    refine u_getp cx hw F_X8_9 o_X8 rfl dX8_number_6 ?_
    obtain ⟨v2, hv2, hz⟩ := u_bind hz
    refine u_alen cx hw hv2 dX8_number_9 ?_
    refine lv_icmp_ge (tgt := 22) hx hb dX8_number_10 (by decide) (fun hc => ?_) (fun hc => ?_)
    · replace hz := u_ift hz hc
      exact WJ22_1 _ _ _ hz hw (lv_sub hl [] rfl)
    · replace hz := u_iff hz hc
      refine lv_aload_n hx hb dX8_number_13 rfl (lv_at hl 0 rfl) ?_
      refine u_getp cx hw F_X8_9 o_X8 rfl dX8_number_14 ?_
      refine lv_iload_n hx hb dX8_number_17 rfl (lv_at hl 1 rfl) ?_
      obtain ⟨v3, hv3, hz⟩ := u_bind hz
      refine u_lald cx hw hv3 dX8_number_18 ?_
      refine lv_goto (tgt := 23) hx hb dX8_number_19 (by decide) ?_
      exact u_lret cx hw ⟨Option.some.inj hz, rfl⟩ dX8_number_23
theorem dX9_begin_0 : decode cX9_begin 0 = .ok (.aload_n 0, 1) := by decide +kernel
theorem dX9_begin_1 : decode cX9_begin 1 = .ok (.iconst 0, 1) := by decide +kernel
theorem dX9_begin_2 : decode cX9_begin 2 = .ok (.putfield 21, 3) := by decide +kernel
theorem dX9_begin_5 : decode cX9_begin 5 = .ok (.aload_n 0, 1) := by decide +kernel
theorem dX9_begin_6 : decode cX9_begin 6 = .ok (.iconst 0, 1) := by decide +kernel
theorem dX9_begin_7 : decode cX9_begin 7 = .ok (.putfield 25, 3) := by decide +kernel
theorem dX9_begin_10 : decode cX9_begin 10 = .ok (.aload_n 0, 1) := by decide +kernel
theorem dX9_begin_11 : decode cX9_begin 11 = .ok (.iconst (-1), 1) := by decide +kernel
theorem dX9_begin_12 : decode cX9_begin 12 = .ok (.putfield 28, 3) := by decide +kernel
theorem dX9_begin_15 : decode cX9_begin 15 = .ok (.return_, 1) := by decide +kernel
def f_X9_begin (N : Nat) (σ : uS) : Option uS := u_jn (u_pI σ 15 3 0) fun s1 =>
  u_jn (u_pI s1 15 4 0) fun s2 =>
  u_jn (u_pI s2 15 5 (-1)) fun s3 =>
  some s3
set_option maxRecDepth 100000 in
set_option maxHeartbeats 4000000 in
theorem c_X9_begin (l : Launch) (G : uG) (N : Nat) (σ : uS) (z : uS) (hz : f_X9_begin N σ = some z) : u_Mv l ZC G yX9_begin cX9_begin 1 0 [.ref (G.2.2 15)] σ z := by
  refine u_Mv_of RX9 (by decide) rfl (Nat.le_of_ble_eq_true rfl) ?_
  intro p e s m args below meth c ls cx hw hl
  have hx := cx.1
  have hb := cx.2.1
  have hl : lv_has ls 1 [(0, .ref (G.2.2 15))] := hl
  unfold f_X9_begin at hz
  refine lv_aload_n hx hb dX9_begin_0 rfl (lv_at hl 0 rfl) ?_
  refine lv_iconst (v := 0) hx hb dX9_begin_1 (by decide) ?_
  obtain ⟨s1, es1, hz⟩ := u_let hz
  refine u_puti2 cx hw P_X9_21 o_X9 rfl es1 dX9_begin_2 (fun H locs hw => ?_)
  refine lv_aload_n hx hb dX9_begin_5 rfl (lv_at hl 0 rfl) ?_
  refine lv_iconst (v := 0) hx hb dX9_begin_6 (by decide) ?_
  obtain ⟨s2, es2, hz⟩ := u_let hz
  refine u_puti2 cx hw P_X9_25 o_X9 rfl es2 dX9_begin_7 (fun H locs hw => ?_)
  refine lv_aload_n hx hb dX9_begin_10 rfl (lv_at hl 0 rfl) ?_
  refine lv_iconst (v := (-1)) hx hb dX9_begin_11 (by decide) ?_
  obtain ⟨s3, es3, hz⟩ := u_let hz
  refine u_puti2 cx hw P_X9_28 o_X9 rfl es3 dX9_begin_12 (fun H locs hw => ?_)
  exact u_vret cx hw (Option.some.inj hz) dX9_begin_15
theorem dX9_takesAct_0 : decode cX9_takesAct 0 = .ok (.aload_n 0, 1) := by decide +kernel
theorem dX9_takesAct_1 : decode cX9_takesAct 1 = .ok (.getfield 21, 3) := by decide +kernel
theorem dX9_takesAct_4 : decode cX9_takesAct 4 = .ok (.ifCond .lt 15, 3) := by decide +kernel
theorem dX9_takesAct_7 : decode cX9_takesAct 7 = .ok (.aload_n 0, 1) := by decide +kernel
theorem dX9_takesAct_8 : decode cX9_takesAct 8 = .ok (.getfield 21, 3) := by decide +kernel
theorem dX9_takesAct_11 : decode cX9_takesAct 11 = .ok (.aload_n 0, 1) := by decide +kernel
theorem dX9_takesAct_12 : decode cX9_takesAct 12 = .ok (.getfield 9, 3) := by decide +kernel
theorem dX9_takesAct_15 : decode cX9_takesAct 15 = .ok (.arraylength, 1) := by decide +kernel
theorem dX9_takesAct_16 : decode cX9_takesAct 16 = .ok (.if_icmp .lt 5, 3) := by decide +kernel
theorem dX9_takesAct_19 : decode cX9_takesAct 19 = .ok (.iconst 0, 1) := by decide +kernel
theorem dX9_takesAct_20 : decode cX9_takesAct 20 = .ok (.ireturn, 1) := by decide +kernel
theorem dX9_takesAct_21 : decode cX9_takesAct 21 = .ok (.aload_n 0, 1) := by decide +kernel
theorem dX9_takesAct_22 : decode cX9_takesAct 22 = .ok (.getfield 9, 3) := by decide +kernel
theorem dX9_takesAct_25 : decode cX9_takesAct 25 = .ok (.aload_n 0, 1) := by decide +kernel
theorem dX9_takesAct_26 : decode cX9_takesAct 26 = .ok (.getfield 21, 3) := by decide +kernel
theorem dX9_takesAct_29 : decode cX9_takesAct 29 = .ok (.aload_n 0, 1) := by decide +kernel
theorem dX9_takesAct_30 : decode cX9_takesAct 30 = .ok (.getfield 25, 3) := by decide +kernel
theorem dX9_takesAct_33 : decode cX9_takesAct 33 = .ok (.iastore, 1) := by decide +kernel
theorem dX9_takesAct_34 : decode cX9_takesAct 34 = .ok (.aload_n 0, 1) := by decide +kernel
theorem dX9_takesAct_35 : decode cX9_takesAct 35 = .ok (.getfield 15, 3) := by decide +kernel
theorem dX9_takesAct_38 : decode cX9_takesAct 38 = .ok (.aload_n 0, 1) := by decide +kernel
theorem dX9_takesAct_39 : decode cX9_takesAct 39 = .ok (.getfield 21, 3) := by decide +kernel
theorem dX9_takesAct_42 : decode cX9_takesAct 42 = .ok (.iload_n 1, 1) := by decide +kernel
theorem dX9_takesAct_43 : decode cX9_takesAct 43 = .ok (.iastore, 1) := by decide +kernel
theorem dX9_takesAct_44 : decode cX9_takesAct 44 = .ok (.aload_n 0, 1) := by decide +kernel
theorem dX9_takesAct_45 : decode cX9_takesAct 45 = .ok (.getfield 18, 3) := by decide +kernel
theorem dX9_takesAct_48 : decode cX9_takesAct 48 = .ok (.aload_n 0, 1) := by decide +kernel
theorem dX9_takesAct_49 : decode cX9_takesAct 49 = .ok (.getfield 21, 3) := by decide +kernel
theorem dX9_takesAct_52 : decode cX9_takesAct 52 = .ok (.iload_n 2, 1) := by decide +kernel
theorem dX9_takesAct_53 : decode cX9_takesAct 53 = .ok (.iastore, 1) := by decide +kernel
theorem dX9_takesAct_54 : decode cX9_takesAct 54 = .ok (.aload_n 0, 1) := by decide +kernel
theorem dX9_takesAct_55 : decode cX9_takesAct 55 = .ok (.dup, 1) := by decide +kernel
theorem dX9_takesAct_56 : decode cX9_takesAct 56 = .ok (.getfield 21, 3) := by decide +kernel
theorem dX9_takesAct_59 : decode cX9_takesAct 59 = .ok (.iconst 1, 1) := by decide +kernel
theorem dX9_takesAct_60 : decode cX9_takesAct 60 = .ok (.iadd, 1) := by decide +kernel
theorem dX9_takesAct_61 : decode cX9_takesAct 61 = .ok (.putfield 21, 3) := by decide +kernel
theorem dX9_takesAct_64 : decode cX9_takesAct 64 = .ok (.aload_n 0, 1) := by decide +kernel
theorem dX9_takesAct_65 : decode cX9_takesAct 65 = .ok (.iconst 0, 1) := by decide +kernel
theorem dX9_takesAct_66 : decode cX9_takesAct 66 = .ok (.putfield 25, 3) := by decide +kernel
theorem dX9_takesAct_69 : decode cX9_takesAct 69 = .ok (.aload_n 0, 1) := by decide +kernel
theorem dX9_takesAct_70 : decode cX9_takesAct 70 = .ok (.iconst (-1), 1) := by decide +kernel
theorem dX9_takesAct_71 : decode cX9_takesAct 71 = .ok (.putfield 28, 3) := by decide +kernel
theorem dX9_takesAct_74 : decode cX9_takesAct 74 = .ok (.iconst 1, 1) := by decide +kernel
theorem dX9_takesAct_75 : decode cX9_takesAct 75 = .ok (.ireturn, 1) := by decide +kernel
def f_X9_takesAct (N : Nat) (σ : uS) (p1 : Int32) (p2 : Int32) : Option (Int32 × uS) := if (σ.1 15 3) < 0 then (some (0, σ)) else ((u_len ZC 16).bind fun v1 =>
  if (σ.1 15 3) < v1 then ((u_wI ZC σ 0 16 (σ.1 15 3) (σ.1 15 4)).bind fun s2 =>
  (u_wI ZC s2 0 17 (s2.1 15 3) p1).bind fun s3 =>
  (u_wI ZC s3 0 18 (s3.1 15 3) p2).bind fun s4 =>
  u_jn (u_pI s4 15 3 ((s4.1 15 3) + 1)) fun s5 =>
  u_jn (u_pI s5 15 4 0) fun s6 =>
  u_jn (u_pI s6 15 5 (-1)) fun s7 =>
  some (1, s7)) else (some (0, σ)))
set_option maxRecDepth 100000 in
set_option maxHeartbeats 4000000 in
theorem c_X9_takesAct (l : Launch) (G : uG) (N : Nat) (σ : uS) (p1 : Int32) (p2 : Int32) (z : (Int32 × uS)) (hz : f_X9_takesAct N σ p1 p2 = some z) : u_Mi l ZC G yX9_takesAct cX9_takesAct 3 .boolean 0 [.ref (G.2.2 15), .int p1, .int p2] σ z.1 z.2 := by
  refine u_Mi_of RX9 (by decide) rfl (Nat.le_of_ble_eq_true rfl) ?_
  intro p e s m args below meth c ls cx hw hl
  have hx := cx.1
  have hb := cx.2.1
  have hl : lv_has ls 3 [(0, .ref (G.2.2 15)), (1, .int p1), (2, .int p2)] := hl
  unfold f_X9_takesAct at hz
  refine lv_aload_n hx hb dX9_takesAct_0 rfl (lv_at hl 0 rfl) ?_
  refine u_geti cx hw F_X9_21 o_X9 rfl dX9_takesAct_1 ?_
  refine lv_if_lt (tgt := 19) hx hb dX9_takesAct_4 (by decide) (fun hc => ?_) (fun hc => ?_)
  · replace hz := u_ift hz hc
    refine lv_iconst (v := 0) hx hb dX9_takesAct_19 (by decide) ?_
    exact u_zret cx hw (Or.inl rfl) (u_pair hz) dX9_takesAct_20
  · replace hz := u_iff hz hc
    refine lv_aload_n hx hb dX9_takesAct_7 rfl (lv_at hl 0 rfl) ?_
    refine u_geti cx hw F_X9_21 o_X9 rfl dX9_takesAct_8 ?_
    refine lv_aload_n hx hb dX9_takesAct_11 rfl (lv_at hl 0 rfl) ?_
    refine u_getp cx hw F_X9_9 o_X9 rfl dX9_takesAct_12 ?_
    obtain ⟨v1, hv1, hz⟩ := u_bind hz
    refine u_alen cx hw hv1 dX9_takesAct_15 ?_
    refine lv_icmp_lt (tgt := 21) hx hb dX9_takesAct_16 (by decide) (fun hc => ?_) (fun hc => ?_)
    · replace hz := u_ift hz hc
      refine lv_aload_n hx hb dX9_takesAct_21 rfl (lv_at hl 0 rfl) ?_
      refine u_getp cx hw F_X9_9 o_X9 rfl dX9_takesAct_22 ?_
      refine lv_aload_n hx hb dX9_takesAct_25 rfl (lv_at hl 0 rfl) ?_
      refine u_geti cx hw F_X9_21 o_X9 rfl dX9_takesAct_26 ?_
      refine lv_aload_n hx hb dX9_takesAct_29 rfl (lv_at hl 0 rfl) ?_
      refine u_geti cx hw F_X9_25 o_X9 rfl dX9_takesAct_30 ?_
      obtain ⟨s2, hs2, hz⟩ := u_bind hz
      refine u_iast cx hw hs2 dX9_takesAct_33 (fun H locs hw => ?_)
      refine lv_aload_n hx hb dX9_takesAct_34 rfl (lv_at hl 0 rfl) ?_
      refine u_getp cx hw F_X9_15 o_X9 rfl dX9_takesAct_35 ?_
      refine lv_aload_n hx hb dX9_takesAct_38 rfl (lv_at hl 0 rfl) ?_
      refine u_geti cx hw F_X9_21 o_X9 rfl dX9_takesAct_39 ?_
      refine lv_iload_n hx hb dX9_takesAct_42 rfl (lv_at hl 1 rfl) ?_
      obtain ⟨s3, hs3, hz⟩ := u_bind hz
      refine u_iast cx hw hs3 dX9_takesAct_43 (fun H locs hw => ?_)
      refine lv_aload_n hx hb dX9_takesAct_44 rfl (lv_at hl 0 rfl) ?_
      refine u_getp cx hw F_X9_18 o_X9 rfl dX9_takesAct_45 ?_
      refine lv_aload_n hx hb dX9_takesAct_48 rfl (lv_at hl 0 rfl) ?_
      refine u_geti cx hw F_X9_21 o_X9 rfl dX9_takesAct_49 ?_
      refine lv_iload_n hx hb dX9_takesAct_52 rfl (lv_at hl 2 rfl) ?_
      obtain ⟨s4, hs4, hz⟩ := u_bind hz
      refine u_iast cx hw hs4 dX9_takesAct_53 (fun H locs hw => ?_)
      refine lv_aload_n hx hb dX9_takesAct_54 rfl (lv_at hl 0 rfl) ?_
      refine lv_dup hx hb dX9_takesAct_55 rfl ?_
      refine u_geti cx hw F_X9_21 o_X9 rfl dX9_takesAct_56 ?_
      refine lv_iconst (v := 1) hx hb dX9_takesAct_59 (by decide) ?_
      refine lv_iadd hx hb dX9_takesAct_60 ?_
      obtain ⟨s5, es5, hz⟩ := u_let hz
      refine u_puti2 cx hw P_X9_21 o_X9 rfl es5 dX9_takesAct_61 (fun H locs hw => ?_)
      refine lv_aload_n hx hb dX9_takesAct_64 rfl (lv_at hl 0 rfl) ?_
      refine lv_iconst (v := 0) hx hb dX9_takesAct_65 (by decide) ?_
      obtain ⟨s6, es6, hz⟩ := u_let hz
      refine u_puti2 cx hw P_X9_25 o_X9 rfl es6 dX9_takesAct_66 (fun H locs hw => ?_)
      refine lv_aload_n hx hb dX9_takesAct_69 rfl (lv_at hl 0 rfl) ?_
      refine lv_iconst (v := (-1)) hx hb dX9_takesAct_70 (by decide) ?_
      obtain ⟨s7, es7, hz⟩ := u_let hz
      refine u_puti2 cx hw P_X9_28 o_X9 rfl es7 dX9_takesAct_71 (fun H locs hw => ?_)
      refine lv_iconst (v := 1) hx hb dX9_takesAct_74 (by decide) ?_
      exact u_zret cx hw (Or.inr rfl) (u_pair hz) dX9_takesAct_75
    · replace hz := u_iff hz hc
      refine lv_iconst (v := 0) hx hb dX9_takesAct_19 (by decide) ?_
      exact u_zret cx hw (Or.inl rfl) (u_pair hz) dX9_takesAct_20
theorem dX9_takesEnd_0 : decode cX9_takesEnd 0 = .ok (.aload_n 0, 1) := by decide +kernel
theorem dX9_takesEnd_1 : decode cX9_takesEnd 1 = .ok (.getfield 25, 3) := by decide +kernel
theorem dX9_takesEnd_4 : decode cX9_takesEnd 4 = .ok (.ifCond .ne 7, 3) := by decide +kernel
theorem dX9_takesEnd_7 : decode cX9_takesEnd 7 = .ok (.iconst 1, 1) := by decide +kernel
theorem dX9_takesEnd_8 : decode cX9_takesEnd 8 = .ok (.goto 4, 3) := by decide +kernel
theorem dX9_takesEnd_11 : decode cX9_takesEnd 11 = .ok (.iconst 0, 1) := by decide +kernel
theorem dX9_takesEnd_12 : decode cX9_takesEnd 12 = .ok (.ireturn, 1) := by decide +kernel
def f_X9_takesEnd (N : Nat) (σ : uS) : Option Int32 := if (σ.1 15 4) = 0 then (some 1) else (some 0)
set_option maxRecDepth 100000 in
set_option maxHeartbeats 4000000 in
theorem c_X9_takesEnd (l : Launch) (G : uG) (N : Nat) (σ : uS) (z : Int32) (hz : f_X9_takesEnd N σ = some z) : u_Mi l ZC G yX9_takesEnd cX9_takesEnd 1 .boolean 0 [.ref (G.2.2 15)] σ z σ := by
  refine u_Mi_of RX9 (by decide) rfl (Nat.le_of_ble_eq_true rfl) ?_
  intro p e s m args below meth c ls cx hw hl
  have hx := cx.1
  have hb := cx.2.1
  have hl : lv_has ls 1 [(0, .ref (G.2.2 15))] := hl
  unfold f_X9_takesEnd at hz
  refine lv_aload_n hx hb dX9_takesEnd_0 rfl (lv_at hl 0 rfl) ?_
  refine u_geti cx hw F_X9_25 o_X9 rfl dX9_takesEnd_1 ?_
  refine lv_if_ne (tgt := 11) hx hb dX9_takesEnd_4 (by decide) (fun hc => ?_) (fun hc => ?_)
  · replace hz := u_iff hz hc
    refine lv_iconst (v := 0) hx hb dX9_takesEnd_11 (by decide) ?_
    exact u_zret cx hw (Or.inl rfl) ⟨Option.some.inj hz, rfl⟩ dX9_takesEnd_12
  · replace hz := u_ift hz hc
    refine lv_iconst (v := 1) hx hb dX9_takesEnd_7 (by decide) ?_
    refine lv_goto (tgt := 12) hx hb dX9_takesEnd_8 (by decide) ?_
    exact u_zret cx hw (Or.inr rfl) ⟨Option.some.inj hz, rfl⟩ dX9_takesEnd_12
theorem dX10_add_0 : decode cX10_add 0 = .ok (.aload_n 0, 1) := by decide +kernel
theorem dX10_add_1 : decode cX10_add 1 = .ok (.getfield 15, 3) := by decide +kernel
theorem dX10_add_4 : decode cX10_add 4 = .ok (.ifCond .lt 17, 3) := by decide +kernel
theorem dX10_add_7 : decode cX10_add 7 = .ok (.aload_n 0, 1) := by decide +kernel
theorem dX10_add_8 : decode cX10_add 8 = .ok (.getfield 15, 3) := by decide +kernel
theorem dX10_add_11 : decode cX10_add 11 = .ok (.iconst 4, 1) := by decide +kernel
theorem dX10_add_12 : decode cX10_add 12 = .ok (.iadd, 1) := by decide +kernel
theorem dX10_add_13 : decode cX10_add 13 = .ok (.aload_n 0, 1) := by decide +kernel
theorem dX10_add_14 : decode cX10_add 14 = .ok (.getfield 9, 3) := by decide +kernel
theorem dX10_add_17 : decode cX10_add 17 = .ok (.arraylength, 1) := by decide +kernel
theorem dX10_add_18 : decode cX10_add 18 = .ok (.if_icmp .le 5, 3) := by decide +kernel
theorem dX10_add_21 : decode cX10_add 21 = .ok (.iconst 0, 1) := by decide +kernel
theorem dX10_add_22 : decode cX10_add 22 = .ok (.ireturn, 1) := by decide +kernel
theorem dX10_add_23 : decode cX10_add 23 = .ok (.iconst 0, 1) := by decide +kernel
theorem dX10_add_24 : decode cX10_add 24 = .ok (.istore_n 2, 1) := by decide +kernel
theorem dX10_add_25 : decode cX10_add 25 = .ok (.iload_n 2, 1) := by decide +kernel
theorem dX10_add_26 : decode cX10_add 26 = .ok (.iconst 4, 1) := by decide +kernel
theorem dX10_add_27 : decode cX10_add 27 = .ok (.if_icmp .ge 33, 3) := by decide +kernel
theorem dX10_add_30 : decode cX10_add 30 = .ok (.aload_n 0, 1) := by decide +kernel
theorem dX10_add_31 : decode cX10_add 31 = .ok (.getfield 9, 3) := by decide +kernel
theorem dX10_add_34 : decode cX10_add 34 = .ok (.aload_n 0, 1) := by decide +kernel
theorem dX10_add_35 : decode cX10_add 35 = .ok (.getfield 15, 3) := by decide +kernel
theorem dX10_add_38 : decode cX10_add 38 = .ok (.iload_n 2, 1) := by decide +kernel
theorem dX10_add_39 : decode cX10_add 39 = .ok (.iadd, 1) := by decide +kernel
theorem dX10_add_40 : decode cX10_add 40 = .ok (.iload_n 1, 1) := by decide +kernel
theorem dX10_add_41 : decode cX10_add 41 = .ok (.bipush 24, 2) := by decide +kernel
theorem dX10_add_43 : decode cX10_add 43 = .ok (.bipush 8, 2) := by decide +kernel
theorem dX10_add_45 : decode cX10_add 45 = .ok (.iload_n 2, 1) := by decide +kernel
theorem dX10_add_46 : decode cX10_add 46 = .ok (.imul, 1) := by decide +kernel
theorem dX10_add_47 : decode cX10_add 47 = .ok (.isub, 1) := by decide +kernel
theorem dX10_add_48 : decode cX10_add 48 = .ok (.iushr, 1) := by decide +kernel
theorem dX10_add_49 : decode cX10_add 49 = .ok (.sipush 255, 3) := by decide +kernel
theorem dX10_add_52 : decode cX10_add 52 = .ok (.iand, 1) := by decide +kernel
theorem dX10_add_53 : decode cX10_add 53 = .ok (.iastore, 1) := by decide +kernel
theorem dX10_add_54 : decode cX10_add 54 = .ok (.iinc 2 1, 3) := by decide +kernel
theorem dX10_add_57 : decode cX10_add 57 = .ok (.goto (-32), 3) := by decide +kernel
theorem dX10_add_60 : decode cX10_add 60 = .ok (.aload_n 0, 1) := by decide +kernel
theorem dX10_add_61 : decode cX10_add 61 = .ok (.dup, 1) := by decide +kernel
theorem dX10_add_62 : decode cX10_add 62 = .ok (.getfield 15, 3) := by decide +kernel
theorem dX10_add_65 : decode cX10_add 65 = .ok (.iconst 4, 1) := by decide +kernel
theorem dX10_add_66 : decode cX10_add 66 = .ok (.iadd, 1) := by decide +kernel
theorem dX10_add_67 : decode cX10_add 67 = .ok (.putfield 15, 3) := by decide +kernel
theorem dX10_add_70 : decode cX10_add 70 = .ok (.iconst 1, 1) := by decide +kernel
theorem dX10_add_71 : decode cX10_add 71 = .ok (.ireturn, 1) := by decide +kernel
def b_X10_add_25 (p1 : Int32) (J60_3 : uS → Option (Int32 × uS)) (rec25_7 : uS → Int32 → Option (Int32 × uS)) (s5 : uS) (x6 : Int32) : Option (Int32 × uS) :=
  if 4 ≤ x6 then (J60_3 s5) else ((u_wI ZC s5 0 2 ((s5.1 1 1) + x6) ((u_ushr p1 (24 - (8 * x6))) &&& 255)).bind fun s8 =>
  u_jn (x6 + 1 : Int32) fun x9 =>
  rec25_7 s8 x9)
def f_X10_add (N : Nat) (σ : uS) (p1 : Int32) : Option (Int32 × uS) := if (σ.1 1 1) < 0 then (some (0, σ)) else ((u_len ZC 2).bind fun v1 =>
  if ((σ.1 1 1) + 4) ≤ v1 then (u_jn (fun (s2 : uS) => (u_jn (u_pI s2 1 1 ((s2.1 1 1) + 4)) fun s4 =>
  some (1, s4) : Option (Int32 × uS))) fun J60_3 =>
  u_lp2 (b_X10_add_25 p1 J60_3) N σ 0) else (some (0, σ)))
set_option maxRecDepth 100000 in
set_option maxHeartbeats 4000000 in
theorem c_X10_add (l : Launch) (G : uG) (N : Nat) (σ : uS) (p1 : Int32) (z : (Int32 × uS)) (hz : f_X10_add N σ p1 = some z) : u_Mi l ZC G yX10_add cX10_add 3 .boolean 0 [.ref (G.2.2 1), .int p1] σ z.1 z.2 := by
  refine u_Mi_of RX10 (by decide) rfl (Nat.le_of_ble_eq_true rfl) ?_
  intro p e s m args below meth c ls cx hw hl
  have hx := cx.1
  have hb := cx.2.1
  have hl : lv_has ls 3 [(0, .ref (G.2.2 1)), (1, .int p1)] := hl
  unfold f_X10_add at hz
  refine lv_aload_n hx hb dX10_add_0 rfl (lv_at hl 0 rfl) ?_
  refine u_geti cx hw F_X10_15 o_X10 rfl dX10_add_1 ?_
  refine lv_if_lt (tgt := 21) hx hb dX10_add_4 (by decide) (fun hc => ?_) (fun hc => ?_)
  · replace hz := u_ift hz hc
    refine lv_iconst (v := 0) hx hb dX10_add_21 (by decide) ?_
    exact u_zret cx hw (Or.inl rfl) (u_pair hz) dX10_add_22
  · replace hz := u_iff hz hc
    refine lv_aload_n hx hb dX10_add_7 rfl (lv_at hl 0 rfl) ?_
    refine u_geti cx hw F_X10_15 o_X10 rfl dX10_add_8 ?_
    refine lv_iconst (v := 4) hx hb dX10_add_11 (by decide) ?_
    refine lv_iadd hx hb dX10_add_12 ?_
    refine lv_aload_n hx hb dX10_add_13 rfl (lv_at hl 0 rfl) ?_
    refine u_getp cx hw F_X10_9 o_X10 rfl dX10_add_14 ?_
    obtain ⟨v1, hv1, hz⟩ := u_bind hz
    refine u_alen cx hw hv1 dX10_add_17 ?_
    refine lv_icmp_le (tgt := 23) hx hb dX10_add_18 (by decide) (fun hc => ?_) (fun hc => ?_)
    · replace hz := u_ift hz hc
      refine lv_iconst (v := 0) hx hb dX10_add_23 (by decide) ?_
      refine lv_istore_n (lv' := [(2, .int 0), (0, .ref (G.2.2 1)), (1, .int p1)]) hx hb dX10_add_24 rfl hl (by decide) rfl (fun ls hl => ?_)
      obtain ⟨J60_3, eJ60_3, hz⟩ := u_let hz
      have WJ60_3 : ∀ (s2 : uS) (H : Heap) (locs : List Loc) (ls : Array Slot), J60_3 s2 = some z → u_W ZC G s2 s H locs → lv_has ls 3 [(0, .ref (G.2.2 1))] → W p l e (u_rm 0) s m args below meth c H locs 0 0 (u_Qi below ZC G s args z.1 z.2) (F0 m 60 ls []) := by
        intro s2 H locs ls hz hw hl
        rw [eJ60_3] at hz
        refine lv_aload_n hx hb dX10_add_60 rfl (lv_at hl 0 rfl) ?_
        refine lv_dup hx hb dX10_add_61 rfl ?_
        refine u_geti cx hw F_X10_15 o_X10 rfl dX10_add_62 ?_
        refine lv_iconst (v := 4) hx hb dX10_add_65 (by decide) ?_
        refine lv_iadd hx hb dX10_add_66 ?_
        obtain ⟨s4, es4, hz⟩ := u_let hz
        refine u_puti2 cx hw P_X10_15 o_X10 rfl es4 dX10_add_67 (fun H locs hw => ?_)
        refine lv_iconst (v := 1) hx hb dX10_add_70 (by decide) ?_
        exact u_zret cx hw (Or.inr rfl) (u_pair hz) dX10_add_71
      have WL25_9 : ∀ (k : Nat) (s5 : uS) (x6 : Int32) (H : Heap) (locs : List Loc) (ls : Array Slot), u_lp2 (b_X10_add_25 p1 J60_3) k s5 x6 = some z → u_W ZC G s5 s H locs → lv_has ls 3 [(0, .ref (G.2.2 1)), (1, .int p1), (2, .int x6)] → W p l e (u_rm 0) s m args below meth c H locs 0 0 (u_Qi below ZC G s args z.1 z.2) (F0 m 25 ls []) := by
        intro k
        induction k with
        | zero =>
          intro s5 x6 H locs ls hz
          exact absurd hz (by intro h9; cases h9)
        | succ k ih25_7 =>
          intro s5 x6 H locs ls hz hw hl
          have hz : (b_X10_add_25 p1 J60_3) (u_lp2 (b_X10_add_25 p1 J60_3) k) s5 x6 = some z := hz
          unfold b_X10_add_25 at hz
          refine lv_iload_n hx hb dX10_add_25 rfl (lv_at hl 2 rfl) ?_
          refine lv_iconst (v := 4) hx hb dX10_add_26 (by decide) ?_
          refine lv_icmp_ge (tgt := 60) hx hb dX10_add_27 (by decide) (fun hc => ?_) (fun hc => ?_)
          · replace hz := u_ift hz hc
            exact WJ60_3 s5 _ _ _ hz hw (lv_sub hl [0] rfl)
          · replace hz := u_iff hz hc
            refine lv_aload_n hx hb dX10_add_30 rfl (lv_at hl 0 rfl) ?_
            refine u_getp cx hw F_X10_9 o_X10 rfl dX10_add_31 ?_
            refine lv_aload_n hx hb dX10_add_34 rfl (lv_at hl 0 rfl) ?_
            refine u_geti cx hw F_X10_15 o_X10 rfl dX10_add_35 ?_
            refine lv_iload_n hx hb dX10_add_38 rfl (lv_at hl 2 rfl) ?_
            refine lv_iadd hx hb dX10_add_39 ?_
            refine lv_iload_n hx hb dX10_add_40 rfl (lv_at hl 1 rfl) ?_
            refine lv_bipush (v := 24) hx hb dX10_add_41 (by decide) ?_
            refine lv_bipush (v := 8) hx hb dX10_add_43 (by decide) ?_
            refine lv_iload_n hx hb dX10_add_45 rfl (lv_at hl 2 rfl) ?_
            refine lv_imul hx hb dX10_add_46 ?_
            refine lv_isub hx hb dX10_add_47 ?_
            refine lv_iushr (v := (u_ushr p1 (24 - (8 * x6)))) hx hb dX10_add_48 rfl ?_
            refine lv_sipush (v := 255) hx hb dX10_add_49 (by decide) ?_
            refine lv_iand hx hb dX10_add_52 ?_
            obtain ⟨s8, hs8, hz⟩ := u_bind hz
            refine u_iast cx hw hs8 dX10_add_53 (fun H locs hw => ?_)
            obtain ⟨x9, ex9, hz⟩ := u_let hz
            refine lv_iinc (v := x9) (lv' := [(2, .int x9), (0, .ref (G.2.2 1)), (1, .int p1)]) hx hb dX10_add_54 hl (k := 2) rfl (by rw [ex9]; rfl) (by decide) rfl (fun ls hl => ?_)
            refine lv_goto (tgt := 25) hx hb dX10_add_57 (by decide) ?_
            exact ih25_7 s8 x9 _ _ _ hz hw (lv_sub hl [1, 2, 0] rfl)
      exact WL25_9 N σ 0 _ _ _ hz hw (lv_sub hl [1, 2, 0] rfl)
    · replace hz := u_iff hz hc
      refine lv_iconst (v := 0) hx hb dX10_add_21 (by decide) ?_
      exact u_zret cx hw (Or.inl rfl) (u_pair hz) dX10_add_22
theorem dX10_signAt_0 : decode cX10_signAt 0 = .ok (.iload_n 1, 1) := by decide +kernel
theorem dX10_signAt_1 : decode cX10_signAt 1 = .ok (.ifCond .lt 21, 3) := by decide +kernel
theorem dX10_signAt_4 : decode cX10_signAt 4 = .ok (.iload_n 1, 1) := by decide +kernel
theorem dX10_signAt_5 : decode cX10_signAt 5 = .ok (.aload_n 0, 1) := by decide +kernel
theorem dX10_signAt_6 : decode cX10_signAt 6 = .ok (.getfield 9, 3) := by decide +kernel
theorem dX10_signAt_9 : decode cX10_signAt 9 = .ok (.arraylength, 1) := by decide +kernel
theorem dX10_signAt_10 : decode cX10_signAt 10 = .ok (.if_icmp .ge 12, 3) := by decide +kernel
theorem dX10_signAt_13 : decode cX10_signAt 13 = .ok (.aload_n 0, 1) := by decide +kernel
theorem dX10_signAt_14 : decode cX10_signAt 14 = .ok (.getfield 9, 3) := by decide +kernel
theorem dX10_signAt_17 : decode cX10_signAt 17 = .ok (.iload_n 1, 1) := by decide +kernel
theorem dX10_signAt_18 : decode cX10_signAt 18 = .ok (.iaload, 1) := by decide +kernel
theorem dX10_signAt_19 : decode cX10_signAt 19 = .ok (.goto 4, 3) := by decide +kernel
theorem dX10_signAt_22 : decode cX10_signAt 22 = .ok (.iconst 0, 1) := by decide +kernel
theorem dX10_signAt_23 : decode cX10_signAt 23 = .ok (.ireturn, 1) := by decide +kernel
def f_X10_signAt (N : Nat) (σ : uS) (p1 : Int32) : Option Int32 := u_jn ((some 0 : Option Int32)) fun J22_1 =>
  if p1 < 0 then (J22_1) else ((u_len ZC 2).bind fun v2 =>
  if v2 ≤ p1 then (J22_1) else ((u_rI ZC σ 0 2 p1).bind fun v3 =>
  some v3))
set_option maxRecDepth 100000 in
set_option maxHeartbeats 4000000 in
theorem c_X10_signAt (l : Launch) (G : uG) (N : Nat) (σ : uS) (p1 : Int32) (z : Int32) (hz : f_X10_signAt N σ p1 = some z) : u_Mi l ZC G yX10_signAt cX10_signAt 2 .int 0 [.ref (G.2.2 1), .int p1] σ z σ := by
  refine u_Mi_of RX10 (by decide) rfl (Nat.le_of_ble_eq_true rfl) ?_
  intro p e s m args below meth c ls cx hw hl
  have hx := cx.1
  have hb := cx.2.1
  have hl : lv_has ls 2 [(0, .ref (G.2.2 1)), (1, .int p1)] := hl
  unfold f_X10_signAt at hz
  refine lv_iload_n hx hb dX10_signAt_0 rfl (lv_at hl 1 rfl) ?_
  obtain ⟨J22_1, eJ22_1, hz⟩ := u_let hz
  have WJ22_1 : ∀ (H : Heap) (locs : List Loc) (ls : Array Slot), J22_1 = some z → u_W ZC G σ s H locs → lv_has ls 2 [] → W p l e (u_rm 0) s m args below meth c H locs 0 0 (u_Qi below ZC G s args z σ) (F0 m 22 ls []) := by
    intro H locs ls hz hw hl
    rw [eJ22_1] at hz
    refine lv_iconst (v := 0) hx hb dX10_signAt_22 (by decide) ?_
    exact u_iret cx hw ⟨Option.some.inj hz, rfl⟩ dX10_signAt_23
  refine lv_if_lt (tgt := 22) hx hb dX10_signAt_1 (by decide) (fun hc => ?_) (fun hc => ?_)
  · replace hz := u_ift hz hc
    exact WJ22_1 _ _ _ hz hw (lv_sub hl [] rfl)
  · replace hz := u_iff hz hc
    refine lv_iload_n hx hb dX10_signAt_4 rfl (lv_at hl 1 rfl) ?_
    refine lv_aload_n hx hb dX10_signAt_5 rfl (lv_at hl 0 rfl) ?_
    refine u_getp cx hw F_X10_9 o_X10 rfl dX10_signAt_6 ?_
    obtain ⟨v2, hv2, hz⟩ := u_bind hz
    refine u_alen cx hw hv2 dX10_signAt_9 ?_
    refine lv_icmp_ge (tgt := 22) hx hb dX10_signAt_10 (by decide) (fun hc => ?_) (fun hc => ?_)
    · replace hz := u_ift hz hc
      exact WJ22_1 _ _ _ hz hw (lv_sub hl [] rfl)
    · replace hz := u_iff hz hc
      refine lv_aload_n hx hb dX10_signAt_13 rfl (lv_at hl 0 rfl) ?_
      refine u_getp cx hw F_X10_9 o_X10 rfl dX10_signAt_14 ?_
      refine lv_iload_n hx hb dX10_signAt_17 rfl (lv_at hl 1 rfl) ?_
      obtain ⟨v3, hv3, hz⟩ := u_bind hz
      refine u_iald cx hw hv3 dX10_signAt_18 ?_
      refine lv_goto (tgt := 23) hx hb dX10_signAt_19 (by decide) ?_
      exact u_iret cx hw ⟨Option.some.inj hz, rfl⟩ dX10_signAt_23
theorem dX11_sign_0 : decode cX11_sign 0 = .ok (.aload_n 0, 1) := by decide +kernel
theorem dX11_sign_1 : decode cX11_sign 1 = .ok (.getfield 10, 3) := by decide +kernel
theorem dX11_sign_4 : decode cX11_sign 4 = .ok (.iload_n 1, 1) := by decide +kernel
theorem dX11_sign_5 : decode cX11_sign 5 = .ok (.invokevirtual 96, 3) := by decide +kernel
theorem dX11_sign_8 : decode cX11_sign 8 = .ok (.ifCond .eq 13, 3) := by decide +kernel
theorem dX11_sign_11 : decode cX11_sign 11 = .ok (.aload_n 0, 1) := by decide +kernel
theorem dX11_sign_12 : decode cX11_sign 12 = .ok (.getfield 10, 3) := by decide +kernel
theorem dX11_sign_15 : decode cX11_sign 15 = .ok (.getfield 100, 3) := by decide +kernel
theorem dX11_sign_18 : decode cX11_sign 18 = .ok (.goto 4, 3) := by decide +kernel
theorem dX11_sign_21 : decode cX11_sign 21 = .ok (.iconst (-1), 1) := by decide +kernel
theorem dX11_sign_22 : decode cX11_sign 22 = .ok (.ireturn, 1) := by decide +kernel
def f_X11_sign (N : Nat) (σ : uS) (p1 : Int32) : Option (Int32 × uS) := (f_X10_add N σ p1).bind fun v1 =>
  if v1.1 = 0 then (some ((-1), v1.2)) else (some ((v1.2.1 1 1), v1.2))
set_option maxRecDepth 100000 in
set_option maxHeartbeats 4000000 in
theorem c_X11_sign (l : Launch) (G : uG) (N : Nat) (σ : uS) (p1 : Int32) (z : (Int32 × uS)) (hz : f_X11_sign N σ p1 = some z) : u_Mi l ZC G yX11_sign cX11_sign 2 .int 1 [.ref (G.2.2 0), .int p1] σ z.1 z.2 := by
  refine u_Mi_of RX11 (by decide) rfl (Nat.le_of_ble_eq_true rfl) ?_
  intro p e s m args below meth c ls cx hw hl
  have hx := cx.1
  have hb := cx.2.1
  have hl : lv_has ls 2 [(0, .ref (G.2.2 0)), (1, .int p1)] := hl
  unfold f_X11_sign at hz
  refine lv_aload_n hx hb dX11_sign_0 rfl (lv_at hl 0 rfl) ?_
  refine u_getp cx hw F_X11_10 o_X11 rfl dX11_sign_1 ?_
  refine lv_iload_n hx hb dX11_sign_4 rfl (lv_at hl 1 rfl) ?_
  obtain ⟨v1, hv1, hz⟩ := u_bind hz
  refine u_callVi (As := [.int p1]) (rest := []) cx hw LV_X11_96 (c_X10_add l G N σ p1 v1 hv1) o_X10 rfl (by decide) hl.1 rfl (Nat.le_of_ble_eq_true rfl) dX11_sign_5 rfl (fun H locs hw => ?_)
  refine lv_if_eq (tgt := 21) hx hb dX11_sign_8 (by decide) (fun hc => ?_) (fun hc => ?_)
  · replace hz := u_ift hz hc
    refine lv_iconst (v := (-1)) hx hb dX11_sign_21 (by decide) ?_
    exact u_iret cx hw (u_pair hz) dX11_sign_22
  · replace hz := u_iff hz hc
    refine lv_aload_n hx hb dX11_sign_11 rfl (lv_at hl 0 rfl) ?_
    refine u_getp cx hw F_X11_10 o_X11 rfl dX11_sign_12 ?_
    refine u_geti cx hw F_X11_100 o_X10 rfl dX11_sign_15 ?_
    refine lv_goto (tgt := 22) hx hb dX11_sign_18 (by decide) ?_
    exact u_iret cx hw (u_pair hz) dX11_sign_22
theorem dX11_end_0 : decode cX11_end 0 = .ok (.iload_n 1, 1) := by decide +kernel
theorem dX11_end_1 : decode cX11_end 1 = .ok (.ifCond .lt 14, 3) := by decide +kernel
theorem dX11_end_4 : decode cX11_end 4 = .ok (.iload_n 1, 1) := by decide +kernel
theorem dX11_end_5 : decode cX11_end 5 = .ok (.aload_n 0, 1) := by decide +kernel
theorem dX11_end_6 : decode cX11_end 6 = .ok (.getfield 10, 3) := by decide +kernel
theorem dX11_end_9 : decode cX11_end 9 = .ok (.getfield 100, 3) := by decide +kernel
theorem dX11_end_12 : decode cX11_end 12 = .ok (.if_icmp .le 5, 3) := by decide +kernel
theorem dX11_end_15 : decode cX11_end 15 = .ok (.iconst 0, 1) := by decide +kernel
theorem dX11_end_16 : decode cX11_end 16 = .ok (.ireturn, 1) := by decide +kernel
theorem dX11_end_17 : decode cX11_end 17 = .ok (.aload_n 0, 1) := by decide +kernel
theorem dX11_end_18 : decode cX11_end 18 = .ok (.getfield 10, 3) := by decide +kernel
theorem dX11_end_21 : decode cX11_end 21 = .ok (.iload_n 1, 1) := by decide +kernel
theorem dX11_end_22 : decode cX11_end 22 = .ok (.putfield 100, 3) := by decide +kernel
theorem dX11_end_25 : decode cX11_end 25 = .ok (.iconst 1, 1) := by decide +kernel
theorem dX11_end_26 : decode cX11_end 26 = .ok (.ireturn, 1) := by decide +kernel
def f_X11_end (N : Nat) (σ : uS) (p1 : Int32) : Option (Int32 × uS) := if p1 < 0 then (some (0, σ)) else (if p1 ≤ (σ.1 1 1) then (u_jn (u_pI σ 1 1 p1) fun s1 =>
  some (1, s1)) else (some (0, σ)))
set_option maxRecDepth 100000 in
set_option maxHeartbeats 4000000 in
theorem c_X11_end (l : Launch) (G : uG) (N : Nat) (σ : uS) (p1 : Int32) (z : (Int32 × uS)) (hz : f_X11_end N σ p1 = some z) : u_Mi l ZC G yX11_end cX11_end 2 .boolean 0 [.ref (G.2.2 0), .int p1] σ z.1 z.2 := by
  refine u_Mi_of RX11 (by decide) rfl (Nat.le_of_ble_eq_true rfl) ?_
  intro p e s m args below meth c ls cx hw hl
  have hx := cx.1
  have hb := cx.2.1
  have hl : lv_has ls 2 [(0, .ref (G.2.2 0)), (1, .int p1)] := hl
  unfold f_X11_end at hz
  refine lv_iload_n hx hb dX11_end_0 rfl (lv_at hl 1 rfl) ?_
  refine lv_if_lt (tgt := 15) hx hb dX11_end_1 (by decide) (fun hc => ?_) (fun hc => ?_)
  · replace hz := u_ift hz hc
    refine lv_iconst (v := 0) hx hb dX11_end_15 (by decide) ?_
    exact u_zret cx hw (Or.inl rfl) (u_pair hz) dX11_end_16
  · replace hz := u_iff hz hc
    refine lv_iload_n hx hb dX11_end_4 rfl (lv_at hl 1 rfl) ?_
    refine lv_aload_n hx hb dX11_end_5 rfl (lv_at hl 0 rfl) ?_
    refine u_getp cx hw F_X11_10 o_X11 rfl dX11_end_6 ?_
    refine u_geti cx hw F_X11_100 o_X10 rfl dX11_end_9 ?_
    refine lv_icmp_le (tgt := 17) hx hb dX11_end_12 (by decide) (fun hc => ?_) (fun hc => ?_)
    · replace hz := u_ift hz hc
      refine lv_aload_n hx hb dX11_end_17 rfl (lv_at hl 0 rfl) ?_
      refine u_getp cx hw F_X11_10 o_X11 rfl dX11_end_18 ?_
      refine lv_iload_n hx hb dX11_end_21 rfl (lv_at hl 1 rfl) ?_
      obtain ⟨s1, es1, hz⟩ := u_let hz
      refine u_puti2 cx hw P_X11_100 o_X10 rfl es1 dX11_end_22 (fun H locs hw => ?_)
      refine lv_iconst (v := 1) hx hb dX11_end_25 (by decide) ?_
      exact u_zret cx hw (Or.inr rfl) (u_pair hz) dX11_end_26
    · replace hz := u_iff hz hc
      refine lv_iconst (v := 0) hx hb dX11_end_15 (by decide) ?_
      exact u_zret cx hw (Or.inl rfl) (u_pair hz) dX11_end_16
theorem dX11_sheetEntry_0 : decode cX11_sheetEntry 0 = .ok (.iload_n 0, 1) := by decide +kernel
theorem dX11_sheetEntry_1 : decode cX11_sheetEntry 1 = .ok (.ifCond .ne 6, 3) := by decide +kernel
theorem dX11_sheetEntry_4 : decode cX11_sheetEntry 4 = .ok (.iload_n 1, 1) := by decide +kernel
theorem dX11_sheetEntry_5 : decode cX11_sheetEntry 5 = .ok (.i2b, 1) := by decide +kernel
theorem dX11_sheetEntry_6 : decode cX11_sheetEntry 6 = .ok (.ireturn, 1) := by decide +kernel
theorem dX11_sheetEntry_7 : decode cX11_sheetEntry 7 = .ok (.iload_n 0, 1) := by decide +kernel
theorem dX11_sheetEntry_8 : decode cX11_sheetEntry 8 = .ok (.iconst 1, 1) := by decide +kernel
theorem dX11_sheetEntry_9 : decode cX11_sheetEntry 9 = .ok (.if_icmp .ne 8, 3) := by decide +kernel
theorem dX11_sheetEntry_12 : decode cX11_sheetEntry 12 = .ok (.iload_n 1, 1) := by decide +kernel
theorem dX11_sheetEntry_13 : decode cX11_sheetEntry 13 = .ok (.i2s, 1) := by decide +kernel
theorem dX11_sheetEntry_14 : decode cX11_sheetEntry 14 = .ok (.goto 4, 3) := by decide +kernel
theorem dX11_sheetEntry_17 : decode cX11_sheetEntry 17 = .ok (.iload_n 1, 1) := by decide +kernel
theorem dX11_sheetEntry_18 : decode cX11_sheetEntry 18 = .ok (.ireturn, 1) := by decide +kernel
def f_X11_sheetEntry (N : Nat) (σ : uS) (p0 : Int32) (p1 : Int32) : Option Int32 := if p0 = 0 then (some (Int8.toInt32 (Int32.toInt8 p1))) else (if p0 = 1 then (some (Int16.toInt32 (Int32.toInt16 p1))) else (some p1))
set_option maxRecDepth 100000 in
set_option maxHeartbeats 4000000 in
theorem c_X11_sheetEntry (l : Launch) (G : uG) (N : Nat) (σ : uS) (p0 : Int32) (p1 : Int32) (z : Int32) (hz : f_X11_sheetEntry N σ p0 p1 = some z) : u_Mi l ZC G yX11_sheetEntry cX11_sheetEntry 2 .int 0 [.int p0, .int p1] σ z σ := by
  refine u_Mi_of RX11 (by decide) rfl (Nat.le_of_ble_eq_true rfl) ?_
  intro p e s m args below meth c ls cx hw hl
  have hx := cx.1
  have hb := cx.2.1
  have hl : lv_has ls 2 [(0, .int p0), (1, .int p1)] := hl
  unfold f_X11_sheetEntry at hz
  refine lv_iload_n hx hb dX11_sheetEntry_0 rfl (lv_at hl 0 rfl) ?_
  refine lv_if_ne (tgt := 7) hx hb dX11_sheetEntry_1 (by decide) (fun hc => ?_) (fun hc => ?_)
  · replace hz := u_iff hz hc
    refine lv_iload_n hx hb dX11_sheetEntry_7 rfl (lv_at hl 0 rfl) ?_
    refine lv_iconst (v := 1) hx hb dX11_sheetEntry_8 (by decide) ?_
    refine lv_icmp_ne (tgt := 17) hx hb dX11_sheetEntry_9 (by decide) (fun hc => ?_) (fun hc => ?_)
    · replace hz := u_iff hz hc
      refine lv_iload_n hx hb dX11_sheetEntry_17 rfl (lv_at hl 1 rfl) ?_
      exact u_iret cx hw ⟨Option.some.inj hz, rfl⟩ dX11_sheetEntry_18
    · replace hz := u_ift hz hc
      refine lv_iload_n hx hb dX11_sheetEntry_12 rfl (lv_at hl 1 rfl) ?_
      refine lv_i2s (v := (Int16.toInt32 (Int32.toInt16 p1))) hx hb dX11_sheetEntry_13 rfl ?_
      refine lv_goto (tgt := 18) hx hb dX11_sheetEntry_14 (by decide) ?_
      exact u_iret cx hw ⟨Option.some.inj hz, rfl⟩ dX11_sheetEntry_18
  · replace hz := u_ift hz hc
    refine lv_iload_n hx hb dX11_sheetEntry_4 rfl (lv_at hl 1 rfl) ?_
    refine lv_i2b (v := (Int8.toInt32 (Int32.toInt8 p1))) hx hb dX11_sheetEntry_5 rfl ?_
    exact u_iret cx hw ⟨Option.some.inj hz, rfl⟩ dX11_sheetEntry_6
