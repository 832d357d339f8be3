theorem dX12_isSoon_0 : decode cX12_isSoon 0 = .ok (.iload_n 0, 1) := by decide +kernel
theorem dX12_isSoon_1 : decode cX12_isSoon 1 = .ok (.iconst 1, 1) := by decide +kernel
theorem dX12_isSoon_2 : decode cX12_isSoon 2 = .ok (.bipush 20, 2) := by decide +kernel
theorem dX12_isSoon_4 : decode cX12_isSoon 4 = .ok (.invokestatic 86, 3) := by decide +kernel
theorem dX12_isSoon_7 : decode cX12_isSoon 7 = .ok (.ireturn, 1) := by decide +kernel
def f_X12_isSoon (N : Nat) (σ : uS) (p0 : Int32) : Option Int32 := (f_X12_in N σ p0 1 20).bind fun v1 =>
  u_ck (v1 = 0 ∨ v1 = 1) (some v1)
set_option maxRecDepth 100000 in
set_option maxHeartbeats 4000000 in
theorem c_X12_isSoon (l : Launch) (G : uG) (N : Nat) (σ : uS) (p0 : Int32) (z : Int32) (hz : f_X12_isSoon N σ p0 = some z) : u_Mi l ZM G yX12_isSoon cX12_isSoon 1 .boolean 1 [.int p0] σ z σ := by
  refine u_Mi_of RX12 (by decide) rfl (Nat.le_of_ble_eq_true rfl) ?_
  intro p e s m args below meth c ls cx hw hl
  have hx := cx.1
  have hb := cx.2.1
  have hl : lv_has ls 1 [(0, .int p0)] := hl
  unfold f_X12_isSoon at hz
  refine lv_iload_n hx hb dX12_isSoon_0 rfl (lv_at hl 0 rfl) ?_
  refine lv_iconst (v := 1) hx hb dX12_isSoon_1 (by decide) ?_
  refine lv_bipush (v := 20) hx hb dX12_isSoon_2 (by decide) ?_
  obtain ⟨v1, hv1, hz⟩ := u_bind hz
  refine u_callSi (As := [.int p0, .int 1, .int 20]) (rest := []) cx hw LS_X12_86 (c_X12_in l G N σ p0 1 20 v1 hv1) (by decide) hl.1 rfl (Nat.le_of_ble_eq_true rfl) dX12_isSoon_4 rfl (fun H locs hw => ?_)
  obtain ⟨h01, hz⟩ := u_ck_some hz
  exact u_zret cx hw h01 ⟨Option.some.inj hz, rfl⟩ dX12_isSoon_7
theorem dX12_laySigns_0 : decode cX12_laySigns 0 = .ok (.aload_n 0, 1) := by decide +kernel
theorem dX12_laySigns_1 : decode cX12_laySigns 1 = .ok (.getfield 9, 3) := by decide +kernel
theorem dX12_laySigns_4 : decode cX12_laySigns 4 = .ok (.aload_n 0, 1) := by decide +kernel
theorem dX12_laySigns_5 : decode cX12_laySigns 5 = .ok (.getfield 46, 3) := by decide +kernel
theorem dX12_laySigns_8 : decode cX12_laySigns 8 = .ok (.iconst 0, 1) := by decide +kernel
theorem dX12_laySigns_9 : decode cX12_laySigns 9 = .ok (.invokestatic 242, 3) := by decide +kernel
theorem dX12_laySigns_12 : decode cX12_laySigns 12 = .ok (.aload_n 0, 1) := by decide +kernel
theorem dX12_laySigns_13 : decode cX12_laySigns 13 = .ok (.getfield 46, 3) := by decide +kernel
theorem dX12_laySigns_16 : decode cX12_laySigns 16 = .ok (.bipush 34, 2) := by decide +kernel
theorem dX12_laySigns_18 : decode cX12_laySigns 18 = .ok (.dup2, 1) := by decide +kernel
theorem dX12_laySigns_19 : decode cX12_laySigns 19 = .ok (.iaload, 1) := by decide +kernel
theorem dX12_laySigns_20 : decode cX12_laySigns 20 = .ok (.iload_n 1, 1) := by decide +kernel
theorem dX12_laySigns_21 : decode cX12_laySigns 21 = .ok (.ior, 1) := by decide +kernel
theorem dX12_laySigns_22 : decode cX12_laySigns 22 = .ok (.iastore, 1) := by decide +kernel
theorem dX12_laySigns_23 : decode cX12_laySigns 23 = .ok (.return_, 1) := by decide +kernel
def f_X12_laySigns (N : Nat) (σ : uS) (p1 : Int32) : Option uS := (f_X12_lay N σ 1 11 0).bind fun s1 =>
  (u_rI ZM s1 0 11 34).bind fun v2 =>
  (u_wI ZM s1 0 11 34 (v2 ||| p1)).bind fun s3 =>
  some s3
set_option maxRecDepth 100000 in
set_option maxHeartbeats 4000000 in
theorem c_X12_laySigns (l : Launch) (G : uG) (N : Nat) (σ : uS) (p1 : Int32) (z : uS) (hz : f_X12_laySigns N σ p1 = some z) : u_Mv l ZM G yX12_laySigns cX12_laySigns 2 1 [.ref (G.2.2 0), .int p1] σ z := by
  refine u_Mv_of RX12 (by decide) rfl (Nat.le_of_ble_eq_true rfl) ?_
  intro p e s m args below meth c ls cx hw hl
  have hx := cx.1
  have hb := cx.2.1
  have hl : lv_has ls 2 [(0, .ref (G.2.2 0)), (1, .int p1)] := hl
  unfold f_X12_laySigns at hz
  refine lv_aload_n hx hb dX12_laySigns_0 rfl (lv_at hl 0 rfl) ?_
  refine u_getp cx hw F_X12_9 o_X12 rfl dX12_laySigns_1 ?_
  refine lv_aload_n hx hb dX12_laySigns_4 rfl (lv_at hl 0 rfl) ?_
  refine u_getp cx hw F_X12_46 o_X12 rfl dX12_laySigns_5 ?_
  refine lv_iconst (v := 0) hx hb dX12_laySigns_8 (by decide) ?_
  obtain ⟨s1, hs1, hz⟩ := u_bind hz
  refine u_callSv (As := [.ref (G.2.2 1), .ref (G.2.2 11), .int 0]) (rest := []) cx hw LS_X12_242 (c_X12_lay l G N σ 1 11 0 s1 hs1) (by decide) hl.1 rfl (Nat.le_of_ble_eq_true rfl) dX12_laySigns_9 rfl (fun H locs hw => ?_)
  refine lv_aload_n hx hb dX12_laySigns_12 rfl (lv_at hl 0 rfl) ?_
  refine u_getp cx hw F_X12_46 o_X12 rfl dX12_laySigns_13 ?_
  refine lv_bipush (v := 34) hx hb dX12_laySigns_16 (by decide) ?_
  refine lv_dup2_11 hx hb dX12_laySigns_18 rfl rfl ?_
  obtain ⟨v2, hv2, hz⟩ := u_bind hz
  refine u_iald cx hw hv2 dX12_laySigns_19 ?_
  refine lv_iload_n hx hb dX12_laySigns_20 rfl (lv_at hl 1 rfl) ?_
  refine lv_ior hx hb dX12_laySigns_21 ?_
  obtain ⟨s3, hs3, hz⟩ := u_bind hz
  refine u_iast cx hw hs3 dX12_laySigns_22 (fun H locs hw => ?_)
  exact u_vret cx hw (Option.some.inj hz) dX12_laySigns_23
theorem dX12_reached_0 : decode cX12_reached 0 = .ok (.aload_n 0, 1) := by decide +kernel
theorem dX12_reached_1 : decode cX12_reached 1 = .ok (.aload_n 1, 1) := by decide +kernel
theorem dX12_reached_2 : decode cX12_reached 2 = .ok (.iload_n 2, 1) := by decide +kernel
theorem dX12_reached_3 : decode cX12_reached 3 = .ok (.invokevirtual 202, 3) := by decide +kernel
theorem dX12_reached_6 : decode cX12_reached 6 = .ok (.istore_n 3, 1) := by decide +kernel
theorem dX12_reached_7 : decode cX12_reached 7 = .ok (.iconst (-1), 1) := by decide +kernel
theorem dX12_reached_8 : decode cX12_reached 8 = .ok (.istore 4, 2) := by decide +kernel
theorem dX12_reached_10 : decode cX12_reached 10 = .ok (.iload_n 3, 1) := by decide +kernel
theorem dX12_reached_11 : decode cX12_reached 11 = .ok (.iload 4, 2) := by decide +kernel
theorem dX12_reached_13 : decode cX12_reached 13 = .ok (.if_icmp .eq 47, 3) := by decide +kernel
theorem dX12_reached_16 : decode cX12_reached 16 = .ok (.iload_n 3, 1) := by decide +kernel
theorem dX12_reached_17 : decode cX12_reached 17 = .ok (.istore 4, 2) := by decide +kernel
theorem dX12_reached_19 : decode cX12_reached 19 = .ok (.iconst 0, 1) := by decide +kernel
theorem dX12_reached_20 : decode cX12_reached 20 = .ok (.istore 5, 2) := by decide +kernel
theorem dX12_reached_22 : decode cX12_reached 22 = .ok (.iload 5, 2) := by decide +kernel
theorem dX12_reached_24 : decode cX12_reached 24 = .ok (.aload_n 0, 1) := by decide +kernel
theorem dX12_reached_25 : decode cX12_reached 25 = .ok (.getfield 83, 3) := by decide +kernel
theorem dX12_reached_28 : decode cX12_reached 28 = .ok (.if_icmp .ge 29, 3) := by decide +kernel
theorem dX12_reached_31 : decode cX12_reached 31 = .ok (.iload 4, 2) := by decide +kernel
theorem dX12_reached_33 : decode cX12_reached 33 = .ok (.iload 5, 2) := by decide +kernel
theorem dX12_reached_35 : decode cX12_reached 35 = .ok (.invokestatic 198, 3) := by decide +kernel
theorem dX12_reached_38 : decode cX12_reached 38 = .ok (.ifCond .eq 13, 3) := by decide +kernel
theorem dX12_reached_41 : decode cX12_reached 41 = .ok (.iload_n 3, 1) := by decide +kernel
theorem dX12_reached_42 : decode cX12_reached 42 = .ok (.aload_n 0, 1) := by decide +kernel
theorem dX12_reached_43 : decode cX12_reached 43 = .ok (.aload_n 1, 1) := by decide +kernel
theorem dX12_reached_44 : decode cX12_reached 44 = .ok (.iload 5, 2) := by decide +kernel
theorem dX12_reached_46 : decode cX12_reached 46 = .ok (.invokevirtual 202, 3) := by decide +kernel
theorem dX12_reached_49 : decode cX12_reached 49 = .ok (.ior, 1) := by decide +kernel
theorem dX12_reached_50 : decode cX12_reached 50 = .ok (.istore_n 3, 1) := by decide +kernel
theorem dX12_reached_51 : decode cX12_reached 51 = .ok (.iinc 5 1, 3) := by decide +kernel
theorem dX12_reached_54 : decode cX12_reached 54 = .ok (.goto (-32), 3) := by decide +kernel
theorem dX12_reached_57 : decode cX12_reached 57 = .ok (.goto (-47), 3) := by decide +kernel
theorem dX12_reached_60 : decode cX12_reached 60 = .ok (.iload_n 3, 1) := by decide +kernel
theorem dX12_reached_61 : decode cX12_reached 61 = .ok (.ireturn, 1) := by decide +kernel
def b_X12_reached_22 (N : Nat) (σ : uS) (a1 : Nat) (x4 : Int32) (J57_8 : Int32 → Option Int32) (rec22_11 : Int32 → Int32 → Option Int32) (x9 : Int32) (x10 : Int32) : Option Int32 :=
  if (σ.1 0 2) ≤ x10 then (J57_8 x9) else ((f_X12_has N σ x4 x10).bind fun v12 =>
  u_jn (fun (x13 : Int32) => (u_jn (x10 + 1 : Int32) fun x15 =>
  rec22_11 x13 x15 : Option Int32)) fun J51_14 =>
  if v12 = 0 then (J51_14 x9) else ((f_X12_sees N σ a1 x10).bind fun v16 =>
  u_jn ((x9 ||| v16) : Int32) fun x17 =>
  J51_14 x17))
def b_X12_reached_10 (N : Nat) (σ : uS) (a1 : Nat) (J60_3 : Int32 → Option Int32) (rec10_6 : Int32 → Int32 → Option Int32) (x4 : Int32) (x5 : Int32) : Option Int32 :=
  if x4 = x5 then (J60_3 x4) else (u_jn (fun (x7 : Int32) => (rec10_6 x7 x4 : Option Int32)) fun J57_8 =>
  u_lp2 (b_X12_reached_22 N σ a1 x4 J57_8) N x4 0)
def f_X12_reached (N : Nat) (σ : uS) (a1 : Nat) (p2 : Int32) : Option Int32 := (f_X12_sees N σ a1 p2).bind fun v1 =>
  u_jn (fun (x2 : Int32) => (some x2 : Option Int32)) fun J60_3 =>
  u_lp2 (b_X12_reached_10 N σ a1 J60_3) N v1 (-1)
set_option maxRecDepth 100000 in
set_option maxHeartbeats 4000000 in
theorem c_X12_reached (l : Launch) (G : uG) (N : Nat) (σ : uS) (a1 : Nat) (p2 : Int32) (z : Int32) (hz : f_X12_reached N σ a1 p2 = some z) : u_Mi l ZM G yX12_reached cX12_reached 6 .int 2 [.ref (G.2.2 0), .ref (G.2.2 a1), .int p2] σ z σ := by
  refine u_Mi_of RX12 (by decide) rfl (Nat.le_of_ble_eq_true rfl) ?_
  intro p e s m args below meth c ls cx hw hl
  have hx := cx.1
  have hb := cx.2.1
  have hl : lv_has ls 6 [(0, .ref (G.2.2 0)), (1, .ref (G.2.2 a1)), (2, .int p2)] := hl
  unfold f_X12_reached at hz
  refine lv_aload_n hx hb dX12_reached_0 rfl (lv_at hl 0 rfl) ?_
  refine lv_aload_n hx hb dX12_reached_1 rfl (lv_at hl 1 rfl) ?_
  refine lv_iload_n hx hb dX12_reached_2 rfl (lv_at hl 2 rfl) ?_
  obtain ⟨v1, hv1, hz⟩ := u_bind hz
  refine u_callVi (As := [.ref (G.2.2 a1), .int p2]) (rest := []) cx hw LV_X12_202 (c_X12_sees l G N σ a1 p2 v1 hv1) o_X12 rfl (by decide) hl.1 rfl (Nat.le_of_ble_eq_true rfl) dX12_reached_3 rfl (fun H locs hw => ?_)
  refine lv_istore_n (lv' := [(3, .int v1), (0, .ref (G.2.2 0)), (1, .ref (G.2.2 a1)), (2, .int p2)]) hx hb dX12_reached_6 rfl hl (by decide) rfl (fun ls hl => ?_)
  refine lv_iconst (v := (-1)) hx hb dX12_reached_7 (by decide) ?_
  refine lv_istore (lv' := [(4, .int (-1)), (3, .int v1), (0, .ref (G.2.2 0)), (1, .ref (G.2.2 a1)), (2, .int p2)]) hx hb dX12_reached_8 hl (by decide) rfl (fun ls hl => ?_)
  obtain ⟨J60_3, eJ60_3, hz⟩ := u_let hz
  have WJ60_3 : ∀ (x2 : Int32) (H : Heap) (locs : List Loc) (ls : Array Slot), J60_3 x2 = some z → u_W ZM G σ s H locs → lv_has ls 6 [(3, .int x2)] → W p l e (u_rm 2) s m args below meth c H locs 0 0 (u_Qi below ZM G s args z σ) (F0 m 60 ls []) := by
    intro x2 H locs ls hz hw hl
    rw [eJ60_3] at hz
    refine lv_iload_n hx hb dX12_reached_60 rfl (lv_at hl 0 rfl) ?_
    exact u_iret cx hw ⟨Option.some.inj hz, rfl⟩ dX12_reached_61
  have WL10_17 : ∀ (k : Nat) (x4 : Int32) (x5 : Int32) (H : Heap) (locs : List Loc) (ls : Array Slot), u_lp2 (b_X12_reached_10 N σ a1 J60_3) k x4 x5 = some z → u_W ZM G σ s H locs → lv_has ls 6 [(0, .ref (G.2.2 0)), (1, .ref (G.2.2 a1)), (3, .int x4), (4, .int x5)] → W p l e (u_rm 2) s m args below meth c H locs 0 0 (u_Qi below ZM G s args z σ) (F0 m 10 ls []) := by
    intro k
    induction k with
    | zero =>
      intro x4 x5 H locs ls hz
      exact absurd hz (by intro h9; cases h9)
    | succ k ih10_6 =>
      intro x4 x5 H locs ls hz hw hl
      have hz : (b_X12_reached_10 N σ a1 J60_3) (u_lp2 (b_X12_reached_10 N σ a1 J60_3) k) x4 x5 = some z := hz
      unfold b_X12_reached_10 at hz
      refine lv_iload_n hx hb dX12_reached_10 rfl (lv_at hl 2 rfl) ?_
      refine lv_iload hx hb dX12_reached_11 (lv_at hl 3 rfl) ?_
      refine lv_icmp_eq (tgt := 60) hx hb dX12_reached_13 (by decide) (fun hc => ?_) (fun hc => ?_)
      · replace hz := u_ift hz hc
        exact WJ60_3 x4 _ _ _ hz hw (lv_sub hl [2] rfl)
      · replace hz := u_iff hz hc
        refine lv_iload_n hx hb dX12_reached_16 rfl (lv_at hl 2 rfl) ?_
        refine lv_istore (lv' := [(4, .int x4), (0, .ref (G.2.2 0)), (1, .ref (G.2.2 a1)), (3, .int x4)]) hx hb dX12_reached_17 hl (by decide) rfl (fun ls hl => ?_)
        refine lv_iconst (v := 0) hx hb dX12_reached_19 (by decide) ?_
        refine lv_istore (lv' := [(5, .int 0), (4, .int x4), (0, .ref (G.2.2 0)), (1, .ref (G.2.2 a1)), (3, .int x4)]) hx hb dX12_reached_20 hl (by decide) rfl (fun ls hl => ?_)
        obtain ⟨J57_8, eJ57_8, hz⟩ := u_let hz
        have WJ57_8 : ∀ (x7 : Int32) (H : Heap) (locs : List Loc) (ls : Array Slot), J57_8 x7 = some z → u_W ZM G σ s H locs → lv_has ls 6 [(0, .ref (G.2.2 0)), (1, .ref (G.2.2 a1)), (3, .int x7), (4, .int x4)] → W p l e (u_rm 2) s m args below meth c H locs 0 0 (u_Qi below ZM G s args z σ) (F0 m 57 ls []) := by
          intro x7 H locs ls hz hw hl
          rw [eJ57_8] at hz
          refine lv_goto (tgt := 10) hx hb dX12_reached_57 (by decide) ?_
          exact ih10_6 x7 x4 _ _ _ hz hw (lv_sub hl [0, 1, 2, 3] rfl)
        have WL22_17 : ∀ (k : Nat) (x9 : Int32) (x10 : Int32) (H : Heap) (locs : List Loc) (ls : Array Slot), u_lp2 (b_X12_reached_22 N σ a1 x4 J57_8) k x9 x10 = some z → u_W ZM G σ s H locs → lv_has ls 6 [(0, .ref (G.2.2 0)), (1, .ref (G.2.2 a1)), (3, .int x9), (4, .int x4), (5, .int x10)] → W p l e (u_rm 2) s m args below meth c H locs 0 0 (u_Qi below ZM G s args z σ) (F0 m 22 ls []) := by
          intro k
          induction k with
          | zero =>
            intro x9 x10 H locs ls hz
            exact absurd hz (by intro h9; cases h9)
          | succ k ih22_11 =>
            intro x9 x10 H locs ls hz hw hl
            have hz : (b_X12_reached_22 N σ a1 x4 J57_8) (u_lp2 (b_X12_reached_22 N σ a1 x4 J57_8) k) x9 x10 = some z := hz
            unfold b_X12_reached_22 at hz
            refine lv_iload hx hb dX12_reached_22 (lv_at hl 4 rfl) ?_
            refine lv_aload_n hx hb dX12_reached_24 rfl (lv_at hl 0 rfl) ?_
            refine u_geti cx hw F_X12_83 o_X12 rfl dX12_reached_25 ?_
            refine lv_icmp_ge (tgt := 57) hx hb dX12_reached_28 (by decide) (fun hc => ?_) (fun hc => ?_)
            · replace hz := u_ift hz hc
              exact WJ57_8 x9 _ _ _ hz hw (lv_sub hl [0, 1, 2, 3] rfl)
            · replace hz := u_iff hz hc
              refine lv_iload hx hb dX12_reached_31 (lv_at hl 3 rfl) ?_
              refine lv_iload hx hb dX12_reached_33 (lv_at hl 4 rfl) ?_
              obtain ⟨v12, hv12, hz⟩ := u_bind hz
              refine u_callSi (As := [.int x4, .int x10]) (rest := []) cx hw LS_X12_198 (c_X12_has l G N σ x4 x10 v12 hv12) (by decide) hl.1 rfl (Nat.le_of_ble_eq_true rfl) dX12_reached_35 rfl (fun H locs hw => ?_)
              obtain ⟨J51_14, eJ51_14, hz⟩ := u_let hz
              have WJ51_14 : ∀ (x13 : Int32) (H : Heap) (locs : List Loc) (ls : Array Slot), J51_14 x13 = some z → u_W ZM G σ s H locs → lv_has ls 6 [(0, .ref (G.2.2 0)), (1, .ref (G.2.2 a1)), (3, .int x13), (4, .int x4), (5, .int x10)] → W p l e (u_rm 2) s m args below meth c H locs 0 0 (u_Qi below ZM G s args z σ) (F0 m 51 ls []) := by
                intro x13 H locs ls hz hw hl
                rw [eJ51_14] at hz
                obtain ⟨x15, ex15, hz⟩ := u_let hz
                refine lv_iinc (v := x15) (lv' := [(5, .int x15), (0, .ref (G.2.2 0)), (1, .ref (G.2.2 a1)), (3, .int x13), (4, .int x4)]) hx hb dX12_reached_51 hl (k := 4) rfl (by rw [ex15]; rfl) (by decide) rfl (fun ls hl => ?_)
                refine lv_goto (tgt := 22) hx hb dX12_reached_54 (by decide) ?_
                exact ih22_11 x13 x15 _ _ _ hz hw (lv_sub hl [1, 2, 3, 4, 0] rfl)
              refine lv_if_eq (tgt := 51) hx hb dX12_reached_38 (by decide) (fun hc => ?_) (fun hc => ?_)
              · replace hz := u_ift hz hc
                exact WJ51_14 x9 _ _ _ hz hw (lv_sub hl [0, 1, 2, 3, 4] rfl)
              · replace hz := u_iff hz hc
                refine lv_iload_n hx hb dX12_reached_41 rfl (lv_at hl 2 rfl) ?_
                refine lv_aload_n hx hb dX12_reached_42 rfl (lv_at hl 0 rfl) ?_
                refine lv_aload_n hx hb dX12_reached_43 rfl (lv_at hl 1 rfl) ?_
                refine lv_iload hx hb dX12_reached_44 (lv_at hl 4 rfl) ?_
                obtain ⟨v16, hv16, hz⟩ := u_bind hz
                refine u_callVi (As := [.ref (G.2.2 a1), .int x10]) (rest := [.int x9]) cx hw LV_X12_202 (c_X12_sees l G N σ a1 x10 v16 hv16) o_X12 rfl (by decide) hl.1 rfl (Nat.le_of_ble_eq_true rfl) dX12_reached_46 rfl (fun H locs hw => ?_)
                refine lv_ior hx hb dX12_reached_49 ?_
                obtain ⟨x17, ex17, hz⟩ := u_let hz
                refine u_topi ex17 ?_
                refine lv_istore_n (lv' := [(3, .int x17), (0, .ref (G.2.2 0)), (1, .ref (G.2.2 a1)), (4, .int x4), (5, .int x10)]) hx hb dX12_reached_50 rfl hl (by decide) rfl (fun ls hl => ?_)
                exact WJ51_14 x17 _ _ _ hz hw (lv_sub hl [1, 2, 0, 3, 4] rfl)
        exact WL22_17 N x4 0 _ _ _ hz hw (lv_sub hl [2, 3, 4, 1, 0] rfl)
  exact WL10_17 N v1 (-1) _ _ _ hz hw (lv_sub hl [2, 3, 1, 0] rfl)
theorem dX12_knowBy_0 : decode cX12_knowBy 0 = .ok (.iconst 0, 1) := by decide +kernel
theorem dX12_knowBy_1 : decode cX12_knowBy 1 = .ok (.istore_n 2, 1) := by decide +kernel
theorem dX12_knowBy_2 : decode cX12_knowBy 2 = .ok (.iconst 0, 1) := by decide +kernel
theorem dX12_knowBy_3 : decode cX12_knowBy 3 = .ok (.istore_n 3, 1) := by decide +kernel
theorem dX12_knowBy_4 : decode cX12_knowBy 4 = .ok (.iload_n 3, 1) := by decide +kernel
theorem dX12_knowBy_5 : decode cX12_knowBy 5 = .ok (.aload_n 0, 1) := by decide +kernel
theorem dX12_knowBy_6 : decode cX12_knowBy 6 = .ok (.getfield 83, 3) := by decide +kernel
theorem dX12_knowBy_9 : decode cX12_knowBy 9 = .ok (.if_icmp .ge 47, 3) := by decide +kernel
theorem dX12_knowBy_12 : decode cX12_knowBy 12 = .ok (.iload_n 2, 1) := by decide +kernel
theorem dX12_knowBy_13 : decode cX12_knowBy 13 = .ok (.aload_n 0, 1) := by decide +kernel
theorem dX12_knowBy_14 : decode cX12_knowBy 14 = .ok (.aload_n 0, 1) := by decide +kernel
theorem dX12_knowBy_15 : decode cX12_knowBy 15 = .ok (.getfield 9, 3) := by decide +kernel
theorem dX12_knowBy_18 : decode cX12_knowBy 18 = .ok (.iload_n 3, 1) := by decide +kernel
theorem dX12_knowBy_19 : decode cX12_knowBy 19 = .ok (.invokevirtual 194, 3) := by decide +kernel
theorem dX12_knowBy_22 : decode cX12_knowBy 22 = .ok (.ifCond .ne 25, 3) := by decide +kernel
theorem dX12_knowBy_25 : decode cX12_knowBy 25 = .ok (.aload_n 0, 1) := by decide +kernel
theorem dX12_knowBy_26 : decode cX12_knowBy 26 = .ok (.aload_n 0, 1) := by decide +kernel
theorem dX12_knowBy_27 : decode cX12_knowBy 27 = .ok (.getfield 9, 3) := by decide +kernel
theorem dX12_knowBy_30 : decode cX12_knowBy 30 = .ok (.iload_n 3, 1) := by decide +kernel
theorem dX12_knowBy_31 : decode cX12_knowBy 31 = .ok (.invokevirtual 202, 3) := by decide +kernel
theorem dX12_knowBy_34 : decode cX12_knowBy 34 = .ok (.iload_n 1, 1) := by decide +kernel
theorem dX12_knowBy_35 : decode cX12_knowBy 35 = .ok (.iconst (-1), 1) := by decide +kernel
theorem dX12_knowBy_36 : decode cX12_knowBy 36 = .ok (.ixor, 1) := by decide +kernel
theorem dX12_knowBy_37 : decode cX12_knowBy 37 = .ok (.iand, 1) := by decide +kernel
theorem dX12_knowBy_38 : decode cX12_knowBy 38 = .ok (.ifCond .ne 9, 3) := by decide +kernel
theorem dX12_knowBy_41 : decode cX12_knowBy 41 = .ok (.iconst 1, 1) := by decide +kernel
theorem dX12_knowBy_42 : decode cX12_knowBy 42 = .ok (.iload_n 3, 1) := by decide +kernel
theorem dX12_knowBy_43 : decode cX12_knowBy 43 = .ok (.ishl, 1) := by decide +kernel
theorem dX12_knowBy_44 : decode cX12_knowBy 44 = .ok (.goto 4, 3) := by decide +kernel
theorem dX12_knowBy_47 : decode cX12_knowBy 47 = .ok (.iconst 0, 1) := by decide +kernel
theorem dX12_knowBy_48 : decode cX12_knowBy 48 = .ok (.ior, 1) := by decide +kernel
theorem dX12_knowBy_49 : decode cX12_knowBy 49 = .ok (.istore_n 2, 1) := by decide +kernel
theorem dX12_knowBy_50 : decode cX12_knowBy 50 = .ok (.iinc 3 1, 3) := by decide +kernel
theorem dX12_knowBy_53 : decode cX12_knowBy 53 = .ok (.goto (-49), 3) := by decide +kernel
theorem dX12_knowBy_56 : decode cX12_knowBy 56 = .ok (.iload_n 2, 1) := by decide +kernel
theorem dX12_knowBy_57 : decode cX12_knowBy 57 = .ok (.ireturn, 1) := by decide +kernel
def b_X12_knowBy_4 (N : Nat) (σ : uS) (p1 : Int32) (J56_2 : Int32 → Option Int32) (rec4_5 : Int32 → Int32 → Option Int32) (x3 : Int32) (x4 : Int32) : Option Int32 :=
  if (σ.1 0 2) ≤ x4 then (J56_2 x3) else ((f_X12_isIn N σ 1 x4).bind fun v6 =>
  u_jn (fun (t7 : Int32) => (u_jn ((x3 ||| t7) : Int32) fun x9 =>
  u_jn (x4 + 1 : Int32) fun x10 =>
  rec4_5 x9 x10 : Option Int32)) fun J48_8 =>
  u_jn ((J48_8 0 : Option Int32)) fun J47_11 =>
  if v6 = 0 then ((f_X12_sees N σ 1 x4).bind fun v12 =>
  if (v12 &&& (p1 ^^^ (-1))) = 0 then (J48_8 (1 <<< (x4 &&& 31))) else (J47_11)) else (J47_11))
def f_X12_knowBy (N : Nat) (σ : uS) (p1 : Int32) : Option Int32 := u_jn (fun (x1 : Int32) => (some x1 : Option Int32)) fun J56_2 =>
  u_lp2 (b_X12_knowBy_4 N σ p1 J56_2) N 0 0
set_option maxRecDepth 100000 in
set_option maxHeartbeats 4000000 in
theorem c_X12_knowBy (l : Launch) (G : uG) (N : Nat) (σ : uS) (p1 : Int32) (z : Int32) (hz : f_X12_knowBy N σ p1 = some z) : u_Mi l ZM G yX12_knowBy cX12_knowBy 4 .int 2 [.ref (G.2.2 0), .int p1] σ z σ := by
  refine u_Mi_of RX12 (by decide) rfl (Nat.le_of_ble_eq_true rfl) ?_
  intro p e s m args below meth c ls cx hw hl
  have hx := cx.1
  have hb := cx.2.1
  have hl : lv_has ls 4 [(0, .ref (G.2.2 0)), (1, .int p1)] := hl
  unfold f_X12_knowBy at hz
  refine lv_iconst (v := 0) hx hb dX12_knowBy_0 (by decide) ?_
  refine lv_istore_n (lv' := [(2, .int 0), (0, .ref (G.2.2 0)), (1, .int p1)]) hx hb dX12_knowBy_1 rfl hl (by decide) rfl (fun ls hl => ?_)
  refine lv_iconst (v := 0) hx hb dX12_knowBy_2 (by decide) ?_
  refine lv_istore_n (lv' := [(3, .int 0), (2, .int 0), (0, .ref (G.2.2 0)), (1, .int p1)]) hx hb dX12_knowBy_3 rfl hl (by decide) rfl (fun ls hl => ?_)
  obtain ⟨J56_2, eJ56_2, hz⟩ := u_let hz
  have WJ56_2 : ∀ (x1 : Int32) (H : Heap) (locs : List Loc) (ls : Array Slot), J56_2 x1 = some z → u_W ZM G σ s H locs → lv_has ls 4 [(2, .int x1)] → W p l e (u_rm 2) s m args below meth c H locs 0 0 (u_Qi below ZM G s args z σ) (F0 m 56 ls []) := by
    intro x1 H locs ls hz hw hl
    rw [eJ56_2] at hz
    refine lv_iload_n hx hb dX12_knowBy_56 rfl (lv_at hl 0 rfl) ?_
    exact u_iret cx hw ⟨Option.some.inj hz, rfl⟩ dX12_knowBy_57
  have WL4_12 : ∀ (k : Nat) (x3 : Int32) (x4 : Int32) (H : Heap) (locs : List Loc) (ls : Array Slot), u_lp2 (b_X12_knowBy_4 N σ p1 J56_2) k x3 x4 = some z → u_W ZM G σ s H locs → lv_has ls 4 [(0, .ref (G.2.2 0)), (1, .int p1), (2, .int x3), (3, .int x4)] → W p l e (u_rm 2) s m args below meth c H locs 0 0 (u_Qi below ZM G s args z σ) (F0 m 4 ls []) := by
    intro k
    induction k with
    | zero =>
      intro x3 x4 H locs ls hz
      exact absurd hz (by intro h9; cases h9)
    | succ k ih4_5 =>
      intro x3 x4 H locs ls hz hw hl
      have hz : (b_X12_knowBy_4 N σ p1 J56_2) (u_lp2 (b_X12_knowBy_4 N σ p1 J56_2) k) x3 x4 = some z := hz
      unfold b_X12_knowBy_4 at hz
      refine lv_iload_n hx hb dX12_knowBy_4 rfl (lv_at hl 3 rfl) ?_
      refine lv_aload_n hx hb dX12_knowBy_5 rfl (lv_at hl 0 rfl) ?_
      refine u_geti cx hw F_X12_83 o_X12 rfl dX12_knowBy_6 ?_
      refine lv_icmp_ge (tgt := 56) hx hb dX12_knowBy_9 (by decide) (fun hc => ?_) (fun hc => ?_)
      · replace hz := u_ift hz hc
        exact WJ56_2 x3 _ _ _ hz hw (lv_sub hl [2] rfl)
      · replace hz := u_iff hz hc
        refine lv_iload_n hx hb dX12_knowBy_12 rfl (lv_at hl 2 rfl) ?_
        refine lv_aload_n hx hb dX12_knowBy_13 rfl (lv_at hl 0 rfl) ?_
        refine lv_aload_n hx hb dX12_knowBy_14 rfl (lv_at hl 0 rfl) ?_
        refine u_getp cx hw F_X12_9 o_X12 rfl dX12_knowBy_15 ?_
        refine lv_iload_n hx hb dX12_knowBy_18 rfl (lv_at hl 3 rfl) ?_
        obtain ⟨v6, hv6, hz⟩ := u_bind hz
        refine u_callVi (As := [.ref (G.2.2 1), .int x4]) (rest := [.int x3]) cx hw LV_X12_194 (c_X12_isIn l G N σ 1 x4 v6 hv6) o_X12 rfl (by decide) hl.1 rfl (Nat.le_of_ble_eq_true rfl) dX12_knowBy_19 rfl (fun H locs hw => ?_)
        obtain ⟨J48_8, eJ48_8, hz⟩ := u_let hz
        have WJ48_8 : ∀ (t7 : Int32) (H : Heap) (locs : List Loc) (ls : Array Slot), J48_8 t7 = some z → u_W ZM G σ s H locs → lv_has ls 4 [(0, .ref (G.2.2 0)), (1, .int p1), (3, .int x4)] → W p l e (u_rm 2) s m args below meth c H locs 0 0 (u_Qi below ZM G s args z σ) (F0 m 48 ls [.int t7, .int x3]) := by
          intro t7 H locs ls hz hw hl
          rw [eJ48_8] at hz
          refine lv_ior hx hb dX12_knowBy_48 ?_
          obtain ⟨x9, ex9, hz⟩ := u_let hz
          refine u_topi ex9 ?_
          refine lv_istore_n (lv' := [(2, .int x9), (0, .ref (G.2.2 0)), (1, .int p1), (3, .int x4)]) hx hb dX12_knowBy_49 rfl hl (by decide) rfl (fun ls hl => ?_)
          obtain ⟨x10, ex10, hz⟩ := u_let hz
          refine lv_iinc (v := x10) (lv' := [(3, .int x10), (2, .int x9), (0, .ref (G.2.2 0)), (1, .int p1)]) hx hb dX12_knowBy_50 hl (k := 3) rfl (by rw [ex10]; rfl) (by decide) rfl (fun ls hl => ?_)
          refine lv_goto (tgt := 4) hx hb dX12_knowBy_53 (by decide) ?_
          exact ih4_5 x9 x10 _ _ _ hz hw (lv_sub hl [2, 3, 1, 0] rfl)
        obtain ⟨J47_11, eJ47_11, hz⟩ := u_let hz
        have WJ47_11 : ∀ (H : Heap) (locs : List Loc) (ls : Array Slot), J47_11 = some z → u_W ZM G σ s H locs → lv_has ls 4 [(0, .ref (G.2.2 0)), (1, .int p1), (3, .int x4)] → W p l e (u_rm 2) s m args below meth c H locs 0 0 (u_Qi below ZM G s args z σ) (F0 m 47 ls [.int x3]) := by
          intro H locs ls hz hw hl
          rw [eJ47_11] at hz
          refine lv_iconst (v := 0) hx hb dX12_knowBy_47 (by decide) ?_
          exact WJ48_8 0 _ _ _ hz hw (lv_sub hl [0, 1, 2] rfl)
        refine lv_if_ne (tgt := 47) hx hb dX12_knowBy_22 (by decide) (fun hc => ?_) (fun hc => ?_)
        · replace hz := u_iff hz hc
          exact WJ47_11 _ _ _ hz hw (lv_sub hl [0, 1, 3] rfl)
        · replace hz := u_ift hz hc
          refine lv_aload_n hx hb dX12_knowBy_25 rfl (lv_at hl 0 rfl) ?_
          refine lv_aload_n hx hb dX12_knowBy_26 rfl (lv_at hl 0 rfl) ?_
          refine u_getp cx hw F_X12_9 o_X12 rfl dX12_knowBy_27 ?_
          refine lv_iload_n hx hb dX12_knowBy_30 rfl (lv_at hl 3 rfl) ?_
          obtain ⟨v12, hv12, hz⟩ := u_bind hz
          refine u_callVi (As := [.ref (G.2.2 1), .int x4]) (rest := [.int x3]) cx hw LV_X12_202 (c_X12_sees l G N σ 1 x4 v12 hv12) o_X12 rfl (by decide) hl.1 rfl (Nat.le_of_ble_eq_true rfl) dX12_knowBy_31 rfl (fun H locs hw => ?_)
          refine lv_iload_n hx hb dX12_knowBy_34 rfl (lv_at hl 1 rfl) ?_
          refine lv_iconst (v := (-1)) hx hb dX12_knowBy_35 (by decide) ?_
          refine lv_ixor hx hb dX12_knowBy_36 ?_
          refine lv_iand hx hb dX12_knowBy_37 ?_
          refine lv_if_ne (tgt := 47) hx hb dX12_knowBy_38 (by decide) (fun hc => ?_) (fun hc => ?_)
          · replace hz := u_iff hz hc
            exact WJ47_11 _ _ _ hz hw (lv_sub hl [0, 1, 3] rfl)
          · replace hz := u_ift hz hc
            refine lv_iconst (v := 1) hx hb dX12_knowBy_41 (by decide) ?_
            refine lv_iload_n hx hb dX12_knowBy_42 rfl (lv_at hl 3 rfl) ?_
            refine lv_ishl hx hb dX12_knowBy_43 ?_
            refine lv_goto (tgt := 48) hx hb dX12_knowBy_44 (by decide) ?_
            exact WJ48_8 (1 <<< (x4 &&& 31)) _ _ _ hz hw (lv_sub hl [0, 1, 3] rfl)
  exact WL4_12 N 0 0 _ _ _ hz hw (lv_sub hl [2, 3, 1, 0] rfl)
theorem dX12_spreads_0 : decode cX12_spreads 0 = .ok (.aload_n 0, 1) := by decide +kernel
theorem dX12_spreads_1 : decode cX12_spreads 1 = .ok (.iconst 0, 1) := by decide +kernel
theorem dX12_spreads_2 : decode cX12_spreads 2 = .ok (.putfield 77, 3) := by decide +kernel
theorem dX12_spreads_5 : decode cX12_spreads 5 = .ok (.aload_n 0, 1) := by decide +kernel
theorem dX12_spreads_6 : decode cX12_spreads 6 = .ok (.iload_n 1, 1) := by decide +kernel
theorem dX12_spreads_7 : decode cX12_spreads 7 = .ok (.invokevirtual 286, 3) := by decide +kernel
theorem dX12_spreads_10 : decode cX12_spreads 10 = .ok (.ifCond .ne 5, 3) := by decide +kernel
theorem dX12_spreads_13 : decode cX12_spreads 13 = .ok (.iconst (-1), 1) := by decide +kernel
theorem dX12_spreads_14 : decode cX12_spreads 14 = .ok (.ireturn, 1) := by decide +kernel
theorem dX12_spreads_15 : decode cX12_spreads 15 = .ok (.iload_n 1, 1) := by decide +kernel
theorem dX12_spreads_16 : decode cX12_spreads 16 = .ok (.istore_n 2, 1) := by decide +kernel
theorem dX12_spreads_17 : decode cX12_spreads 17 = .ok (.iload_n 1, 1) := by decide +kernel
theorem dX12_spreads_18 : decode cX12_spreads 18 = .ok (.istore_n 3, 1) := by decide +kernel
theorem dX12_spreads_19 : decode cX12_spreads 19 = .ok (.iconst 0, 1) := by decide +kernel
theorem dX12_spreads_20 : decode cX12_spreads 20 = .ok (.istore 4, 2) := by decide +kernel
theorem dX12_spreads_22 : decode cX12_spreads 22 = .ok (.iconst 1, 1) := by decide +kernel
theorem dX12_spreads_23 : decode cX12_spreads 23 = .ok (.istore 5, 2) := by decide +kernel
theorem dX12_spreads_25 : decode cX12_spreads 25 = .ok (.iload 5, 2) := by decide +kernel
theorem dX12_spreads_27 : decode cX12_spreads 27 = .ok (.ifCond .eq 81, 3) := by decide +kernel
theorem dX12_spreads_30 : decode cX12_spreads 30 = .ok (.iload_n 2, 1) := by decide +kernel
theorem dX12_spreads_31 : decode cX12_spreads 31 = .ok (.istore 6, 2) := by decide +kernel
theorem dX12_spreads_33 : decode cX12_spreads 33 = .ok (.iconst 0, 1) := by decide +kernel
theorem dX12_spreads_34 : decode cX12_spreads 34 = .ok (.istore 7, 2) := by decide +kernel
theorem dX12_spreads_36 : decode cX12_spreads 36 = .ok (.iload 7, 2) := by decide +kernel
theorem dX12_spreads_38 : decode cX12_spreads 38 = .ok (.aload_n 0, 1) := by decide +kernel
theorem dX12_spreads_39 : decode cX12_spreads 39 = .ok (.getfield 83, 3) := by decide +kernel
theorem dX12_spreads_42 : decode cX12_spreads 42 = .ok (.if_icmp .ge 37, 3) := by decide +kernel
theorem dX12_spreads_45 : decode cX12_spreads 45 = .ok (.iload 6, 2) := by decide +kernel
theorem dX12_spreads_47 : decode cX12_spreads 47 = .ok (.aload_n 0, 1) := by decide +kernel
theorem dX12_spreads_48 : decode cX12_spreads 48 = .ok (.aload_n 0, 1) := by decide +kernel
theorem dX12_spreads_49 : decode cX12_spreads 49 = .ok (.getfield 9, 3) := by decide +kernel
theorem dX12_spreads_52 : decode cX12_spreads 52 = .ok (.iload 7, 2) := by decide +kernel
theorem dX12_spreads_54 : decode cX12_spreads 54 = .ok (.invokevirtual 202, 3) := by decide +kernel
theorem dX12_spreads_57 : decode cX12_spreads 57 = .ok (.iload_n 2, 1) := by decide +kernel
theorem dX12_spreads_58 : decode cX12_spreads 58 = .ok (.iand, 1) := by decide +kernel
theorem dX12_spreads_59 : decode cX12_spreads 59 = .ok (.ifCond .eq 10, 3) := by decide +kernel
theorem dX12_spreads_62 : decode cX12_spreads 62 = .ok (.iconst 1, 1) := by decide +kernel
theorem dX12_spreads_63 : decode cX12_spreads 63 = .ok (.iload 7, 2) := by decide +kernel
theorem dX12_spreads_65 : decode cX12_spreads 65 = .ok (.ishl, 1) := by decide +kernel
theorem dX12_spreads_66 : decode cX12_spreads 66 = .ok (.goto 4, 3) := by decide +kernel
theorem dX12_spreads_69 : decode cX12_spreads 69 = .ok (.iconst 0, 1) := by decide +kernel
theorem dX12_spreads_70 : decode cX12_spreads 70 = .ok (.ior, 1) := by decide +kernel
theorem dX12_spreads_71 : decode cX12_spreads 71 = .ok (.istore 6, 2) := by decide +kernel
theorem dX12_spreads_73 : decode cX12_spreads 73 = .ok (.iinc 7 1, 3) := by decide +kernel
theorem dX12_spreads_76 : decode cX12_spreads 76 = .ok (.goto (-40), 3) := by decide +kernel
theorem dX12_spreads_79 : decode cX12_spreads 79 = .ok (.iload 6, 2) := by decide +kernel
theorem dX12_spreads_81 : decode cX12_spreads 81 = .ok (.iload_n 2, 1) := by decide +kernel
theorem dX12_spreads_82 : decode cX12_spreads 82 = .ok (.if_icmp .eq 7, 3) := by decide +kernel
theorem dX12_spreads_85 : decode cX12_spreads 85 = .ok (.iconst 1, 1) := by decide +kernel
theorem dX12_spreads_86 : decode cX12_spreads 86 = .ok (.goto 4, 3) := by decide +kernel
theorem dX12_spreads_89 : decode cX12_spreads 89 = .ok (.iconst 0, 1) := by decide +kernel
theorem dX12_spreads_90 : decode cX12_spreads 90 = .ok (.istore 5, 2) := by decide +kernel
theorem dX12_spreads_92 : decode cX12_spreads 92 = .ok (.iload 5, 2) := by decide +kernel
theorem dX12_spreads_94 : decode cX12_spreads 94 = .ok (.ifCond .eq 11, 3) := by decide +kernel
theorem dX12_spreads_97 : decode cX12_spreads 97 = .ok (.iload_n 2, 1) := by decide +kernel
theorem dX12_spreads_98 : decode cX12_spreads 98 = .ok (.istore_n 3, 1) := by decide +kernel
theorem dX12_spreads_99 : decode cX12_spreads 99 = .ok (.iload 6, 2) := by decide +kernel
theorem dX12_spreads_101 : decode cX12_spreads 101 = .ok (.istore_n 2, 1) := by decide +kernel
theorem dX12_spreads_102 : decode cX12_spreads 102 = .ok (.iinc 4 1, 3) := by decide +kernel
theorem dX12_spreads_105 : decode cX12_spreads 105 = .ok (.goto (-80), 3) := by decide +kernel
theorem dX12_spreads_108 : decode cX12_spreads 108 = .ok (.aload_n 0, 1) := by decide +kernel
theorem dX12_spreads_109 : decode cX12_spreads 109 = .ok (.iconst 0, 1) := by decide +kernel
theorem dX12_spreads_110 : decode cX12_spreads 110 = .ok (.putfield 80, 3) := by decide +kernel
theorem dX12_spreads_113 : decode cX12_spreads 113 = .ok (.aload_n 0, 1) := by decide +kernel
theorem dX12_spreads_114 : decode cX12_spreads 114 = .ok (.iload_n 2, 1) := by decide +kernel
theorem dX12_spreads_115 : decode cX12_spreads 115 = .ok (.i2l, 1) := by decide +kernel
theorem dX12_spreads_116 : decode cX12_spreads 116 = .ok (.invokevirtual 260, 3) := by decide +kernel
theorem dX12_spreads_119 : decode cX12_spreads 119 = .ok (.aload_n 0, 1) := by decide +kernel
theorem dX12_spreads_120 : decode cX12_spreads 120 = .ok (.iload_n 3, 1) := by decide +kernel
theorem dX12_spreads_121 : decode cX12_spreads 121 = .ok (.i2l, 1) := by decide +kernel
theorem dX12_spreads_122 : decode cX12_spreads 122 = .ok (.invokevirtual 260, 3) := by decide +kernel
theorem dX12_spreads_125 : decode cX12_spreads 125 = .ok (.iload 4, 2) := by decide +kernel
theorem dX12_spreads_127 : decode cX12_spreads 127 = .ok (.ireturn, 1) := by decide +kernel
def b_X12_spreads_36 (N : Nat) (s1 : uS) (x10 : Int32) (J79_16 : Int32 → Option (Int32 × uS)) (rec36_26 : Int32 → Int32 → Option (Int32 × uS)) (x24 : Int32) (x25 : Int32) : Option (Int32 × uS) :=
  if (s1.1 0 2) ≤ x25 then (J79_16 x24) else ((f_X12_sees N s1 1 x25).bind fun v27 =>
  u_jn (fun (t28 : Int32) => (u_jn ((x24 ||| t28) : Int32) fun x30 =>
  u_jn (x25 + 1 : Int32) fun x31 =>
  rec36_26 x30 x31 : Option (Int32 × uS))) fun J70_29 =>
  if (v27 &&& x10) = 0 then (J70_29 0) else (J70_29 (1 <<< (x25 &&& 31))))
def b_X12_spreads_25 (N : Nat) (s1 : uS) (J108_6 : Int32 → Int32 → Int32 → Option (Int32 × uS)) (rec25_14 : Int32 → Int32 → Int32 → Int32 → Option (Int32 × uS)) (x10 : Int32) (x11 : Int32) (x12 : Int32) (x13 : Int32) : Option (Int32 × uS) :=
  if x13 = 0 then (J108_6 x10 x11 x12) else (u_jn (fun (x15 : Int32) => (u_jn (fun (t17 : Int32) => (u_jn (fun (x19 : Int32) (x20 : Int32) (x21 : Int32) => (rec25_14 x19 x20 x21 t17 : Option (Int32 × uS))) fun J105_22 =>
  if t17 = 0 then (J105_22 x10 x11 x12) else (u_jn (x12 + 1 : Int32) fun x23 =>
  J105_22 x15 x10 x23) : Option (Int32 × uS))) fun J90_18 =>
  if x15 = x10 then (J90_18 0) else (J90_18 1) : Option (Int32 × uS))) fun J79_16 =>
  u_lp2 (b_X12_spreads_36 N s1 x10 J79_16) N x10 0)
def f_X12_spreads (N : Nat) (σ : uS) (p1 : Int32) : Option (Int32 × uS) := u_jn (u_pI σ 0 8 0) fun s1 =>
  (f_X12_areMen N s1 p1).bind fun v2 =>
  if v2 = 0 then (some ((-1), s1)) else (u_jn (fun (x3 : Int32) (x4 : Int32) (x5 : Int32) => (u_jn (u_pI s1 0 7 0) fun s7 =>
  (f_X12_tell N s7 (Int32.toInt64 x3)).bind fun s8 =>
  (f_X12_tell N s8 (Int32.toInt64 x4)).bind fun s9 =>
  some (x5, s9) : Option (Int32 × uS))) fun J108_6 =>
  u_lp4 (b_X12_spreads_25 N s1 J108_6) N p1 p1 0 1)
set_option maxRecDepth 100000 in
set_option maxHeartbeats 4000000 in
theorem c_X12_spreads (l : Launch) (G : uG) (N : Nat) (σ : uS) (p1 : Int32) (z : (Int32 × uS)) (hz : f_X12_spreads N σ p1 = some z) : u_Mi l ZM G yX12_spreads cX12_spreads 8 .int 2 [.ref (G.2.2 0), .int p1] σ z.1 z.2 := by
  refine u_Mi_of RX12 (by decide) rfl (Nat.le_of_ble_eq_true rfl) ?_
  intro p e s m args below meth c ls cx hw hl
  have hx := cx.1
  have hb := cx.2.1
  have hl : lv_has ls 8 [(0, .ref (G.2.2 0)), (1, .int p1)] := hl
  unfold f_X12_spreads at hz
  refine lv_aload_n hx hb dX12_spreads_0 rfl (lv_at hl 0 rfl) ?_
  refine lv_iconst (v := 0) hx hb dX12_spreads_1 (by decide) ?_
  obtain ⟨s1, es1, hz⟩ := u_let hz
  refine u_puti2 cx hw P_X12_77 o_X12 rfl es1 dX12_spreads_2 (fun H locs hw => ?_)
  refine lv_aload_n hx hb dX12_spreads_5 rfl (lv_at hl 0 rfl) ?_
  refine lv_iload_n hx hb dX12_spreads_6 rfl (lv_at hl 1 rfl) ?_
  obtain ⟨v2, hv2, hz⟩ := u_bind hz
  refine u_callVi (As := [.int p1]) (rest := []) cx hw LV_X12_286 (c_X12_areMen l G N s1 p1 v2 hv2) o_X12 rfl (by decide) hl.1 rfl (Nat.le_of_ble_eq_true rfl) dX12_spreads_7 rfl (fun H locs hw => ?_)
  refine lv_if_ne (tgt := 15) hx hb dX12_spreads_10 (by decide) (fun hc => ?_) (fun hc => ?_)
  · replace hz := u_iff hz hc
    refine lv_iload_n hx hb dX12_spreads_15 rfl (lv_at hl 1 rfl) ?_
    refine lv_istore_n (lv' := [(2, .int p1), (0, .ref (G.2.2 0)), (1, .int p1)]) hx hb dX12_spreads_16 rfl hl (by decide) rfl (fun ls hl => ?_)
    refine lv_iload_n hx hb dX12_spreads_17 rfl (lv_at hl 2 rfl) ?_
    refine lv_istore_n (lv' := [(3, .int p1), (2, .int p1), (0, .ref (G.2.2 0)), (1, .int p1)]) hx hb dX12_spreads_18 rfl hl (by decide) rfl (fun ls hl => ?_)
    refine lv_iconst (v := 0) hx hb dX12_spreads_19 (by decide) ?_
    refine lv_istore (lv' := [(4, .int 0), (3, .int p1), (2, .int p1), (0, .ref (G.2.2 0)), (1, .int p1)]) hx hb dX12_spreads_20 hl (by decide) rfl (fun ls hl => ?_)
    refine lv_iconst (v := 1) hx hb dX12_spreads_22 (by decide) ?_
    refine lv_istore (lv' := [(5, .int 1), (4, .int 0), (3, .int p1), (2, .int p1), (0, .ref (G.2.2 0)), (1, .int p1)]) hx hb dX12_spreads_23 hl (by decide) rfl (fun ls hl => ?_)
    obtain ⟨J108_6, eJ108_6, hz⟩ := u_let hz
    have WJ108_6 : ∀ (x3 : Int32) (x4 : Int32) (x5 : Int32) (H : Heap) (locs : List Loc) (ls : Array Slot), J108_6 x3 x4 x5 = some z → u_W ZM G s1 s H locs → lv_has ls 8 [(0, .ref (G.2.2 0)), (2, .int x3), (3, .int x4), (4, .int x5)] → W p l e (u_rm 2) s m args below meth c H locs 0 0 (u_Qi below ZM G s args z.1 z.2) (F0 m 108 ls []) := by
      intro x3 x4 x5 H locs ls hz hw hl
      rw [eJ108_6] at hz
      refine lv_aload_n hx hb dX12_spreads_108 rfl (lv_at hl 0 rfl) ?_
      refine lv_iconst (v := 0) hx hb dX12_spreads_109 (by decide) ?_
      obtain ⟨s7, es7, hz⟩ := u_let hz
      refine u_puti2 cx hw P_X12_80 o_X12 rfl es7 dX12_spreads_110 (fun H locs hw => ?_)
      refine lv_aload_n hx hb dX12_spreads_113 rfl (lv_at hl 0 rfl) ?_
      refine lv_iload_n hx hb dX12_spreads_114 rfl (lv_at hl 1 rfl) ?_
      refine lv_i2l (v := (Int32.toInt64 x3)) hx hb dX12_spreads_115 rfl ?_
      obtain ⟨s8, hs8, hz⟩ := u_bind hz
      refine u_callVv (As := [.long (Int32.toInt64 x3)]) (rest := []) cx hw LV_X12_260 (c_X12_tell l G N s7 (Int32.toInt64 x3) s8 hs8) o_X12 rfl (by decide) hl.1 rfl (Nat.le_of_ble_eq_true rfl) dX12_spreads_116 rfl (fun H locs hw => ?_)
      refine lv_aload_n hx hb dX12_spreads_119 rfl (lv_at hl 0 rfl) ?_
      refine lv_iload_n hx hb dX12_spreads_120 rfl (lv_at hl 2 rfl) ?_
      refine lv_i2l (v := (Int32.toInt64 x4)) hx hb dX12_spreads_121 rfl ?_
      obtain ⟨s9, hs9, hz⟩ := u_bind hz
      refine u_callVv (As := [.long (Int32.toInt64 x4)]) (rest := []) cx hw LV_X12_260 (c_X12_tell l G N s8 (Int32.toInt64 x4) s9 hs9) o_X12 rfl (by decide) hl.1 rfl (Nat.le_of_ble_eq_true rfl) dX12_spreads_122 rfl (fun H locs hw => ?_)
      refine lv_iload hx hb dX12_spreads_125 (lv_at hl 3 rfl) ?_
      exact u_iret cx hw (u_pair hz) dX12_spreads_127
    have WL25_31 : ∀ (k : Nat) (x10 : Int32) (x11 : Int32) (x12 : Int32) (x13 : Int32) (H : Heap) (locs : List Loc) (ls : Array Slot), u_lp4 (b_X12_spreads_25 N s1 J108_6) k x10 x11 x12 x13 = some z → u_W ZM G s1 s H locs → lv_has ls 8 [(0, .ref (G.2.2 0)), (2, .int x10), (3, .int x11), (4, .int x12), (5, .int x13)] → W p l e (u_rm 2) s m args below meth c H locs 0 0 (u_Qi below ZM G s args z.1 z.2) (F0 m 25 ls []) := by
      intro k
      induction k with
      | zero =>
        intro x10 x11 x12 x13 H locs ls hz
        exact absurd hz (by intro h9; cases h9)
      | succ k ih25_14 =>
        intro x10 x11 x12 x13 H locs ls hz hw hl
        have hz : (b_X12_spreads_25 N s1 J108_6) (u_lp4 (b_X12_spreads_25 N s1 J108_6) k) x10 x11 x12 x13 = some z := hz
        unfold b_X12_spreads_25 at hz
        refine lv_iload hx hb dX12_spreads_25 (lv_at hl 4 rfl) ?_
        refine lv_if_eq (tgt := 108) hx hb dX12_spreads_27 (by decide) (fun hc => ?_) (fun hc => ?_)
        · replace hz := u_ift hz hc
          exact WJ108_6 x10 x11 x12 _ _ _ hz hw (lv_sub hl [0, 1, 2, 3] rfl)
        · replace hz := u_iff hz hc
          refine lv_iload_n hx hb dX12_spreads_30 rfl (lv_at hl 1 rfl) ?_
          refine lv_istore (lv' := [(6, .int x10), (0, .ref (G.2.2 0)), (2, .int x10), (3, .int x11), (4, .int x12), (5, .int x13)]) hx hb dX12_spreads_31 hl (by decide) rfl (fun ls hl => ?_)
          refine lv_iconst (v := 0) hx hb dX12_spreads_33 (by decide) ?_
          refine lv_istore (lv' := [(7, .int 0), (6, .int x10), (0, .ref (G.2.2 0)), (2, .int x10), (3, .int x11), (4, .int x12), (5, .int x13)]) hx hb dX12_spreads_34 hl (by decide) rfl (fun ls hl => ?_)
          obtain ⟨J79_16, eJ79_16, hz⟩ := u_let hz
          have WJ79_16 : ∀ (x15 : Int32) (H : Heap) (locs : List Loc) (ls : Array Slot), J79_16 x15 = some z → u_W ZM G s1 s H locs → lv_has ls 8 [(0, .ref (G.2.2 0)), (2, .int x10), (3, .int x11), (4, .int x12), (6, .int x15)] → W p l e (u_rm 2) s m args below meth c H locs 0 0 (u_Qi below ZM G s args z.1 z.2) (F0 m 79 ls []) := by
            intro x15 H locs ls hz hw hl
            rw [eJ79_16] at hz
            refine lv_iload hx hb dX12_spreads_79 (lv_at hl 4 rfl) ?_
            refine lv_iload_n hx hb dX12_spreads_81 rfl (lv_at hl 1 rfl) ?_
            obtain ⟨J90_18, eJ90_18, hz⟩ := u_let hz
            have WJ90_18 : ∀ (t17 : Int32) (H : Heap) (locs : List Loc) (ls : Array Slot), J90_18 t17 = some z → u_W ZM G s1 s H locs → lv_has ls 8 [(0, .ref (G.2.2 0)), (2, .int x10), (3, .int x11), (4, .int x12), (6, .int x15)] → W p l e (u_rm 2) s m args below meth c H locs 0 0 (u_Qi below ZM G s args z.1 z.2) (F0 m 90 ls [.int t17]) := by
              intro t17 H locs ls hz hw hl
              rw [eJ90_18] at hz
              refine lv_istore (lv' := [(5, .int t17), (0, .ref (G.2.2 0)), (2, .int x10), (3, .int x11), (4, .int x12), (6, .int x15)]) hx hb dX12_spreads_90 hl (by decide) rfl (fun ls hl => ?_)
              refine lv_iload hx hb dX12_spreads_92 (lv_at hl 0 rfl) ?_
              obtain ⟨J105_22, eJ105_22, hz⟩ := u_let hz
              have WJ105_22 : ∀ (x19 : Int32) (x20 : Int32) (x21 : Int32) (H : Heap) (locs : List Loc) (ls : Array Slot), J105_22 x19 x20 x21 = some z → u_W ZM G s1 s H locs → lv_has ls 8 [(0, .ref (G.2.2 0)), (2, .int x19), (3, .int x20), (4, .int x21), (5, .int t17)] → W p l e (u_rm 2) s m args below meth c H locs 0 0 (u_Qi below ZM G s args z.1 z.2) (F0 m 105 ls []) := by
                intro x19 x20 x21 H locs ls hz hw hl
                rw [eJ105_22] at hz
                refine lv_goto (tgt := 25) hx hb dX12_spreads_105 (by decide) ?_
                exact ih25_14 x19 x20 x21 t17 _ _ _ hz hw (lv_sub hl [0, 1, 2, 3, 4] rfl)
              refine lv_if_eq (tgt := 105) hx hb dX12_spreads_94 (by decide) (fun hc => ?_) (fun hc => ?_)
              · replace hz := u_ift hz hc
                exact WJ105_22 x10 x11 x12 _ _ _ hz hw (lv_sub hl [1, 2, 3, 4, 0] rfl)
              · replace hz := u_iff hz hc
                refine lv_iload_n hx hb dX12_spreads_97 rfl (lv_at hl 2 rfl) ?_
                refine lv_istore_n (lv' := [(3, .int x10), (5, .int t17), (0, .ref (G.2.2 0)), (2, .int x10), (4, .int x12), (6, .int x15)]) hx hb dX12_spreads_98 rfl hl (by decide) rfl (fun ls hl => ?_)
                refine lv_iload hx hb dX12_spreads_99 (lv_at hl 5 rfl) ?_
                refine lv_istore_n (lv' := [(2, .int x15), (3, .int x10), (5, .int t17), (0, .ref (G.2.2 0)), (4, .int x12), (6, .int x15)]) hx hb dX12_spreads_101 rfl hl (by decide) rfl (fun ls hl => ?_)
                obtain ⟨x23, ex23, hz⟩ := u_let hz
                refine lv_iinc (v := x23) (lv' := [(4, .int x23), (2, .int x15), (3, .int x10), (5, .int t17), (0, .ref (G.2.2 0)), (6, .int x15)]) hx hb dX12_spreads_102 hl (k := 4) rfl (by rw [ex23]; rfl) (by decide) rfl (fun ls hl => ?_)
                exact WJ105_22 x15 x10 x23 _ _ _ hz hw (lv_sub hl [4, 1, 2, 0, 3] rfl)
            refine lv_icmp_eq (tgt := 89) hx hb dX12_spreads_82 (by decide) (fun hc => ?_) (fun hc => ?_)
            · replace hz := u_ift hz hc
              refine lv_iconst (v := 0) hx hb dX12_spreads_89 (by decide) ?_
              exact WJ90_18 0 _ _ _ hz hw (lv_sub hl [0, 1, 2, 3, 4] rfl)
            · replace hz := u_iff hz hc
              refine lv_iconst (v := 1) hx hb dX12_spreads_85 (by decide) ?_
              refine lv_goto (tgt := 90) hx hb dX12_spreads_86 (by decide) ?_
              exact WJ90_18 1 _ _ _ hz hw (lv_sub hl [0, 1, 2, 3, 4] rfl)
          have WL36_31 : ∀ (k : Nat) (x24 : Int32) (x25 : Int32) (H : Heap) (locs : List Loc) (ls : Array Slot), u_lp2 (b_X12_spreads_36 N s1 x10 J79_16) k x24 x25 = some z → u_W ZM G s1 s H locs → lv_has ls 8 [(0, .ref (G.2.2 0)), (2, .int x10), (3, .int x11), (4, .int x12), (6, .int x24), (7, .int x25)] → W p l e (u_rm 2) s m args below meth c H locs 0 0 (u_Qi below ZM G s args z.1 z.2) (F0 m 36 ls []) := by
            intro k
            induction k with
            | zero =>
              intro x24 x25 H locs ls hz
              exact absurd hz (by intro h9; cases h9)
            | succ k ih36_26 =>
              intro x24 x25 H locs ls hz hw hl
              have hz : (b_X12_spreads_36 N s1 x10 J79_16) (u_lp2 (b_X12_spreads_36 N s1 x10 J79_16) k) x24 x25 = some z := hz
              unfold b_X12_spreads_36 at hz
              refine lv_iload hx hb dX12_spreads_36 (lv_at hl 5 rfl) ?_
              refine lv_aload_n hx hb dX12_spreads_38 rfl (lv_at hl 0 rfl) ?_
              refine u_geti cx hw F_X12_83 o_X12 rfl dX12_spreads_39 ?_
              refine lv_icmp_ge (tgt := 79) hx hb dX12_spreads_42 (by decide) (fun hc => ?_) (fun hc => ?_)
              · replace hz := u_ift hz hc
                exact WJ79_16 x24 _ _ _ hz hw (lv_sub hl [0, 1, 2, 3, 4] rfl)
              · replace hz := u_iff hz hc
                refine lv_iload hx hb dX12_spreads_45 (lv_at hl 4 rfl) ?_
                refine lv_aload_n hx hb dX12_spreads_47 rfl (lv_at hl 0 rfl) ?_
                refine lv_aload_n hx hb dX12_spreads_48 rfl (lv_at hl 0 rfl) ?_
                refine u_getp cx hw F_X12_9 o_X12 rfl dX12_spreads_49 ?_
                refine lv_iload hx hb dX12_spreads_52 (lv_at hl 5 rfl) ?_
                obtain ⟨v27, hv27, hz⟩ := u_bind hz
                refine u_callVi (As := [.ref (G.2.2 1), .int x25]) (rest := [.int x24]) cx hw LV_X12_202 (c_X12_sees l G N s1 1 x25 v27 hv27) o_X12 rfl (by decide) hl.1 rfl (Nat.le_of_ble_eq_true rfl) dX12_spreads_54 rfl (fun H locs hw => ?_)
                refine lv_iload_n hx hb dX12_spreads_57 rfl (lv_at hl 1 rfl) ?_
                refine lv_iand hx hb dX12_spreads_58 ?_
                obtain ⟨J70_29, eJ70_29, hz⟩ := u_let hz
                have WJ70_29 : ∀ (t28 : Int32) (H : Heap) (locs : List Loc) (ls : Array Slot), J70_29 t28 = some z → u_W ZM G s1 s H locs → lv_has ls 8 [(0, .ref (G.2.2 0)), (2, .int x10), (3, .int x11), (4, .int x12), (7, .int x25)] → W p l e (u_rm 2) s m args below meth c H locs 0 0 (u_Qi below ZM G s args z.1 z.2) (F0 m 70 ls [.int t28, .int x24]) := by
                  intro t28 H locs ls hz hw hl
                  rw [eJ70_29] at hz
                  refine lv_ior hx hb dX12_spreads_70 ?_
                  obtain ⟨x30, ex30, hz⟩ := u_let hz
                  refine u_topi ex30 ?_
                  refine lv_istore (lv' := [(6, .int x30), (0, .ref (G.2.2 0)), (2, .int x10), (3, .int x11), (4, .int x12), (7, .int x25)]) hx hb dX12_spreads_71 hl (by decide) rfl (fun ls hl => ?_)
                  obtain ⟨x31, ex31, hz⟩ := u_let hz
                  refine lv_iinc (v := x31) (lv' := [(7, .int x31), (6, .int x30), (0, .ref (G.2.2 0)), (2, .int x10), (3, .int x11), (4, .int x12)]) hx hb dX12_spreads_73 hl (k := 5) rfl (by rw [ex31]; rfl) (by decide) rfl (fun ls hl => ?_)
                  refine lv_goto (tgt := 36) hx hb dX12_spreads_76 (by decide) ?_
                  exact ih36_26 x30 x31 _ _ _ hz hw (lv_sub hl [2, 3, 4, 5, 1, 0] rfl)
                refine lv_if_eq (tgt := 69) hx hb dX12_spreads_59 (by decide) (fun hc => ?_) (fun hc => ?_)
                · replace hz := u_ift hz hc
                  refine lv_iconst (v := 0) hx hb dX12_spreads_69 (by decide) ?_
                  exact WJ70_29 0 _ _ _ hz hw (lv_sub hl [0, 1, 2, 3, 5] rfl)
                · replace hz := u_iff hz hc
                  refine lv_iconst (v := 1) hx hb dX12_spreads_62 (by decide) ?_
                  refine lv_iload hx hb dX12_spreads_63 (lv_at hl 5 rfl) ?_
                  refine lv_ishl hx hb dX12_spreads_65 ?_
                  refine lv_goto (tgt := 70) hx hb dX12_spreads_66 (by decide) ?_
                  exact WJ70_29 (1 <<< (x25 &&& 31)) _ _ _ hz hw (lv_sub hl [0, 1, 2, 3, 5] rfl)
          exact WL36_31 N x10 0 _ _ _ hz hw (lv_sub hl [2, 3, 4, 5, 1, 0] rfl)
    exact WL25_31 N p1 p1 0 1 _ _ _ hz hw (lv_sub hl [4, 3, 2, 1, 0] rfl)
  · replace hz := u_ift hz hc
    refine lv_iconst (v := (-1)) hx hb dX12_spreads_13 (by decide) ?_
    exact u_iret cx hw (u_pair hz) dX12_spreads_14
theorem dX12_unlike_0 : decode cX12_unlike 0 = .ok (.aload_n 0, 1) := by decide +kernel
theorem dX12_unlike_1 : decode cX12_unlike 1 = .ok (.iconst 0, 1) := by decide +kernel
theorem dX12_unlike_2 : decode cX12_unlike 2 = .ok (.putfield 77, 3) := by decide +kernel
theorem dX12_unlike_5 : decode cX12_unlike 5 = .ok (.iconst 0, 1) := by decide +kernel
theorem dX12_unlike_6 : decode cX12_unlike 6 = .ok (.istore_n 1, 1) := by decide +kernel
theorem dX12_unlike_7 : decode cX12_unlike 7 = .ok (.aload_n 0, 1) := by decide +kernel
theorem dX12_unlike_8 : decode cX12_unlike 8 = .ok (.iconst 0, 1) := by decide +kernel
theorem dX12_unlike_9 : decode cX12_unlike 9 = .ok (.putfield 80, 3) := by decide +kernel
theorem dX12_unlike_12 : decode cX12_unlike 12 = .ok (.iconst 0, 1) := by decide +kernel
theorem dX12_unlike_13 : decode cX12_unlike 13 = .ok (.istore_n 2, 1) := by decide +kernel
theorem dX12_unlike_14 : decode cX12_unlike 14 = .ok (.iload_n 2, 1) := by decide +kernel
theorem dX12_unlike_15 : decode cX12_unlike 15 = .ok (.aload_n 0, 1) := by decide +kernel
theorem dX12_unlike_16 : decode cX12_unlike 16 = .ok (.getfield 83, 3) := by decide +kernel
theorem dX12_unlike_19 : decode cX12_unlike 19 = .ok (.if_icmp .ge 102, 3) := by decide +kernel
theorem dX12_unlike_22 : decode cX12_unlike 22 = .ok (.iload_n 2, 1) := by decide +kernel
theorem dX12_unlike_23 : decode cX12_unlike 23 = .ok (.iconst 1, 1) := by decide +kernel
theorem dX12_unlike_24 : decode cX12_unlike 24 = .ok (.iadd, 1) := by decide +kernel
theorem dX12_unlike_25 : decode cX12_unlike 25 = .ok (.istore_n 3, 1) := by decide +kernel
theorem dX12_unlike_26 : decode cX12_unlike 26 = .ok (.iload_n 3, 1) := by decide +kernel
theorem dX12_unlike_27 : decode cX12_unlike 27 = .ok (.aload_n 0, 1) := by decide +kernel
theorem dX12_unlike_28 : decode cX12_unlike 28 = .ok (.getfield 83, 3) := by decide +kernel
theorem dX12_unlike_31 : decode cX12_unlike 31 = .ok (.if_icmp .ge 84, 3) := by decide +kernel
theorem dX12_unlike_34 : decode cX12_unlike 34 = .ok (.aload_n 0, 1) := by decide +kernel
theorem dX12_unlike_35 : decode cX12_unlike 35 = .ok (.aload_n 0, 1) := by decide +kernel
theorem dX12_unlike_36 : decode cX12_unlike 36 = .ok (.getfield 9, 3) := by decide +kernel
theorem dX12_unlike_39 : decode cX12_unlike 39 = .ok (.iload_n 2, 1) := by decide +kernel
theorem dX12_unlike_40 : decode cX12_unlike 40 = .ok (.invokevirtual 194, 3) := by decide +kernel
theorem dX12_unlike_43 : decode cX12_unlike 43 = .ok (.aload_n 0, 1) := by decide +kernel
theorem dX12_unlike_44 : decode cX12_unlike 44 = .ok (.aload_n 0, 1) := by decide +kernel
theorem dX12_unlike_45 : decode cX12_unlike 45 = .ok (.getfield 9, 3) := by decide +kernel
theorem dX12_unlike_48 : decode cX12_unlike 48 = .ok (.iload_n 3, 1) := by decide +kernel
theorem dX12_unlike_49 : decode cX12_unlike 49 = .ok (.invokevirtual 194, 3) := by decide +kernel
theorem dX12_unlike_52 : decode cX12_unlike 52 = .ok (.if_icmp .eq 57, 3) := by decide +kernel
theorem dX12_unlike_55 : decode cX12_unlike 55 = .ok (.aload_n 0, 1) := by decide +kernel
theorem dX12_unlike_56 : decode cX12_unlike 56 = .ok (.aload_n 0, 1) := by decide +kernel
theorem dX12_unlike_57 : decode cX12_unlike 57 = .ok (.getfield 9, 3) := by decide +kernel
theorem dX12_unlike_60 : decode cX12_unlike 60 = .ok (.iload_n 2, 1) := by decide +kernel
theorem dX12_unlike_61 : decode cX12_unlike 61 = .ok (.invokevirtual 202, 3) := by decide +kernel
theorem dX12_unlike_64 : decode cX12_unlike 64 = .ok (.iload_n 3, 1) := by decide +kernel
theorem dX12_unlike_65 : decode cX12_unlike 65 = .ok (.invokestatic 198, 3) := by decide +kernel
theorem dX12_unlike_68 : decode cX12_unlike 68 = .ok (.ifCond .ne 22, 3) := by decide +kernel
theorem dX12_unlike_71 : decode cX12_unlike 71 = .ok (.aload_n 0, 1) := by decide +kernel
theorem dX12_unlike_72 : decode cX12_unlike 72 = .ok (.aload_n 0, 1) := by decide +kernel
theorem dX12_unlike_73 : decode cX12_unlike 73 = .ok (.getfield 9, 3) := by decide +kernel
theorem dX12_unlike_76 : decode cX12_unlike 76 = .ok (.iload_n 3, 1) := by decide +kernel
theorem dX12_unlike_77 : decode cX12_unlike 77 = .ok (.invokevirtual 202, 3) := by decide +kernel
theorem dX12_unlike_80 : decode cX12_unlike 80 = .ok (.iload_n 2, 1) := by decide +kernel
theorem dX12_unlike_81 : decode cX12_unlike 81 = .ok (.invokestatic 198, 3) := by decide +kernel
theorem dX12_unlike_84 : decode cX12_unlike 84 = .ok (.ifCond .ne 6, 3) := by decide +kernel
theorem dX12_unlike_87 : decode cX12_unlike 87 = .ok (.goto 22, 3) := by decide +kernel
theorem dX12_unlike_90 : decode cX12_unlike 90 = .ok (.iload_n 1, 1) := by decide +kernel
theorem dX12_unlike_91 : decode cX12_unlike 91 = .ok (.ifCond .ne 15, 3) := by decide +kernel
theorem dX12_unlike_94 : decode cX12_unlike 94 = .ok (.aload_n 0, 1) := by decide +kernel
theorem dX12_unlike_95 : decode cX12_unlike 95 = .ok (.iload_n 2, 1) := by decide +kernel
theorem dX12_unlike_96 : decode cX12_unlike 96 = .ok (.i2l, 1) := by decide +kernel
theorem dX12_unlike_97 : decode cX12_unlike 97 = .ok (.invokevirtual 260, 3) := by decide +kernel
theorem dX12_unlike_100 : decode cX12_unlike 100 = .ok (.aload_n 0, 1) := by decide +kernel
theorem dX12_unlike_101 : decode cX12_unlike 101 = .ok (.iload_n 3, 1) := by decide +kernel
theorem dX12_unlike_102 : decode cX12_unlike 102 = .ok (.i2l, 1) := by decide +kernel
theorem dX12_unlike_103 : decode cX12_unlike 103 = .ok (.invokevirtual 260, 3) := by decide +kernel
theorem dX12_unlike_106 : decode cX12_unlike 106 = .ok (.iinc 1 1, 3) := by decide +kernel
theorem dX12_unlike_109 : decode cX12_unlike 109 = .ok (.iinc 3 1, 3) := by decide +kernel
theorem dX12_unlike_112 : decode cX12_unlike 112 = .ok (.goto (-86), 3) := by decide +kernel
theorem dX12_unlike_115 : decode cX12_unlike 115 = .ok (.iinc 2 1, 3) := by decide +kernel
theorem dX12_unlike_118 : decode cX12_unlike 118 = .ok (.goto (-104), 3) := by decide +kernel
theorem dX12_unlike_121 : decode cX12_unlike 121 = .ok (.iload_n 1, 1) := by decide +kernel
theorem dX12_unlike_122 : decode cX12_unlike 122 = .ok (.ireturn, 1) := by decide +kernel
def b_X12_unlike_26 (N : Nat) (x8 : Int32) (J115_13 : uS → Int32 → Option (Int32 × uS)) (rec26_18 : uS → Int32 → Int32 → Option (Int32 × uS)) (s15 : uS) (x16 : Int32) (x17 : Int32) : Option (Int32 × uS) :=
  if (s15.1 0 2) ≤ x17 then (J115_13 s15 x16) else ((f_X12_isIn N s15 1 x8).bind fun v19 =>
  (f_X12_isIn N s15 1 x17).bind fun v20 =>
  u_jn (fun (s21 : uS) (x22 : Int32) => (u_jn (x17 + 1 : Int32) fun x24 =>
  rec26_18 s21 x22 x24 : Option (Int32 × uS))) fun J109_23 =>
  if v19 = v20 then (J109_23 s15 x16) else ((f_X12_sees N s15 1 x8).bind fun v25 =>
  (f_X12_has N s15 v25 x17).bind fun v26 =>
  u_jn ((u_jn (fun (s28 : uS) => (u_jn (x16 + 1 : Int32) fun x30 =>
  J109_23 s28 x30 : Option (Int32 × uS))) fun J106_29 =>
  if x16 = 0 then ((f_X12_tell N s15 (Int32.toInt64 x8)).bind fun s31 =>
  (f_X12_tell N s31 (Int32.toInt64 x17)).bind fun s32 =>
  J106_29 s32) else (J106_29 s15) : Option (Int32 × uS))) fun J90_27 =>
  if v26 = 0 then ((f_X12_sees N s15 1 x17).bind fun v33 =>
  (f_X12_has N s15 v33 x8).bind fun v34 =>
  if v34 = 0 then (J109_23 s15 x16) else (J90_27)) else (J90_27)))
def b_X12_unlike_14 (N : Nat) (J121_5 : uS → Int32 → Option (Int32 × uS)) (rec14_9 : uS → Int32 → Int32 → Option (Int32 × uS)) (s6 : uS) (x7 : Int32) (x8 : Int32) : Option (Int32 × uS) :=
  if (s6.1 0 2) ≤ x8 then (J121_5 s6 x7) else (u_jn ((x8 + 1) : Int32) fun x10 =>
  u_jn (fun (s11 : uS) (x12 : Int32) => (u_jn (x8 + 1 : Int32) fun x14 =>
  rec14_9 s11 x12 x14 : Option (Int32 × uS))) fun J115_13 =>
  u_lp3 (b_X12_unlike_26 N x8 J115_13) N s6 x7 x10)
def f_X12_unlike (N : Nat) (σ : uS) : Option (Int32 × uS) := u_jn (u_pI σ 0 8 0) fun s1 =>
  u_jn (u_pI s1 0 7 0) fun s2 =>
  u_jn (fun (s3 : uS) (x4 : Int32) => (some (x4, s3) : Option (Int32 × uS))) fun J121_5 =>
  u_lp3 (b_X12_unlike_14 N J121_5) N s2 0 0
set_option maxRecDepth 100000 in
set_option maxHeartbeats 4000000 in
theorem c_X12_unlike (l : Launch) (G : uG) (N : Nat) (σ : uS) (z : (Int32 × uS)) (hz : f_X12_unlike N σ = some z) : u_Mi l ZM G yX12_unlike cX12_unlike 4 .int 2 [.ref (G.2.2 0)] σ z.1 z.2 := by
  refine u_Mi_of RX12 (by decide) rfl (Nat.le_of_ble_eq_true rfl) ?_
  intro p e s m args below meth c ls cx hw hl
  have hx := cx.1
  have hb := cx.2.1
  have hl : lv_has ls 4 [(0, .ref (G.2.2 0))] := hl
  unfold f_X12_unlike at hz
  refine lv_aload_n hx hb dX12_unlike_0 rfl (lv_at hl 0 rfl) ?_
  refine lv_iconst (v := 0) hx hb dX12_unlike_1 (by decide) ?_
  obtain ⟨s1, es1, hz⟩ := u_let hz
  refine u_puti2 cx hw P_X12_77 o_X12 rfl es1 dX12_unlike_2 (fun H locs hw => ?_)
  refine lv_iconst (v := 0) hx hb dX12_unlike_5 (by decide) ?_
  refine lv_istore_n (lv' := [(1, .int 0), (0, .ref (G.2.2 0))]) hx hb dX12_unlike_6 rfl hl (by decide) rfl (fun ls hl => ?_)
  refine lv_aload_n hx hb dX12_unlike_7 rfl (lv_at hl 1 rfl) ?_
  refine lv_iconst (v := 0) hx hb dX12_unlike_8 (by decide) ?_
  obtain ⟨s2, es2, hz⟩ := u_let hz
  refine u_puti2 cx hw P_X12_80 o_X12 rfl es2 dX12_unlike_9 (fun H locs hw => ?_)
  refine lv_iconst (v := 0) hx hb dX12_unlike_12 (by decide) ?_
  refine lv_istore_n (lv' := [(2, .int 0), (1, .int 0), (0, .ref (G.2.2 0))]) hx hb dX12_unlike_13 rfl hl (by decide) rfl (fun ls hl => ?_)
  obtain ⟨J121_5, eJ121_5, hz⟩ := u_let hz
  have WJ121_5 : ∀ (s3 : uS) (x4 : Int32) (H : Heap) (locs : List Loc) (ls : Array Slot), J121_5 s3 x4 = some z → u_W ZM G s3 s H locs → lv_has ls 4 [(1, .int x4)] → W p l e (u_rm 2) s m args below meth c H locs 0 0 (u_Qi below ZM G s args z.1 z.2) (F0 m 121 ls []) := by
    intro s3 x4 H locs ls hz hw hl
    rw [eJ121_5] at hz
    refine lv_iload_n hx hb dX12_unlike_121 rfl (lv_at hl 0 rfl) ?_
    exact u_iret cx hw (u_pair hz) dX12_unlike_122
  have WL14_34 : ∀ (k : Nat) (s6 : uS) (x7 : Int32) (x8 : Int32) (H : Heap) (locs : List Loc) (ls : Array Slot), u_lp3 (b_X12_unlike_14 N J121_5) k s6 x7 x8 = some z → u_W ZM G s6 s H locs → lv_has ls 4 [(0, .ref (G.2.2 0)), (1, .int x7), (2, .int x8)] → W p l e (u_rm 2) s m args below meth c H locs 0 0 (u_Qi below ZM G s args z.1 z.2) (F0 m 14 ls []) := by
    intro k
    induction k with
    | zero =>
      intro s6 x7 x8 H locs ls hz
      exact absurd hz (by intro h9; cases h9)
    | succ k ih14_9 =>
      intro s6 x7 x8 H locs ls hz hw hl
      have hz : (b_X12_unlike_14 N J121_5) (u_lp3 (b_X12_unlike_14 N J121_5) k) s6 x7 x8 = some z := hz
      unfold b_X12_unlike_14 at hz
      refine lv_iload_n hx hb dX12_unlike_14 rfl (lv_at hl 2 rfl) ?_
      refine lv_aload_n hx hb dX12_unlike_15 rfl (lv_at hl 0 rfl) ?_
      refine u_geti cx hw F_X12_83 o_X12 rfl dX12_unlike_16 ?_
      refine lv_icmp_ge (tgt := 121) hx hb dX12_unlike_19 (by decide) (fun hc => ?_) (fun hc => ?_)
      · replace hz := u_ift hz hc
        exact WJ121_5 s6 x7 _ _ _ hz hw (lv_sub hl [1] rfl)
      · replace hz := u_iff hz hc
        refine lv_iload_n hx hb dX12_unlike_22 rfl (lv_at hl 2 rfl) ?_
        refine lv_iconst (v := 1) hx hb dX12_unlike_23 (by decide) ?_
        refine lv_iadd hx hb dX12_unlike_24 ?_
        obtain ⟨x10, ex10, hz⟩ := u_let hz
        refine u_topi ex10 ?_
        refine lv_istore_n (lv' := [(3, .int x10), (0, .ref (G.2.2 0)), (1, .int x7), (2, .int x8)]) hx hb dX12_unlike_25 rfl hl (by decide) rfl (fun ls hl => ?_)
        obtain ⟨J115_13, eJ115_13, hz⟩ := u_let hz
        have WJ115_13 : ∀ (s11 : uS) (x12 : Int32) (H : Heap) (locs : List Loc) (ls : Array Slot), J115_13 s11 x12 = some z → u_W ZM G s11 s H locs → lv_has ls 4 [(0, .ref (G.2.2 0)), (1, .int x12), (2, .int x8)] → W p l e (u_rm 2) s m args below meth c H locs 0 0 (u_Qi below ZM G s args z.1 z.2) (F0 m 115 ls []) := by
          intro s11 x12 H locs ls hz hw hl
          rw [eJ115_13] at hz
          obtain ⟨x14, ex14, hz⟩ := u_let hz
          refine lv_iinc (v := x14) (lv' := [(2, .int x14), (0, .ref (G.2.2 0)), (1, .int x12)]) hx hb dX12_unlike_115 hl (k := 2) rfl (by rw [ex14]; rfl) (by decide) rfl (fun ls hl => ?_)
          refine lv_goto (tgt := 14) hx hb dX12_unlike_118 (by decide) ?_
          exact ih14_9 s11 x12 x14 _ _ _ hz hw (lv_sub hl [1, 2, 0] rfl)
        have WL26_34 : ∀ (k : Nat) (s15 : uS) (x16 : Int32) (x17 : Int32) (H : Heap) (locs : List Loc) (ls : Array Slot), u_lp3 (b_X12_unlike_26 N x8 J115_13) k s15 x16 x17 = some z → u_W ZM G s15 s H locs → lv_has ls 4 [(0, .ref (G.2.2 0)), (1, .int x16), (2, .int x8), (3, .int x17)] → W p l e (u_rm 2) s m args below meth c H locs 0 0 (u_Qi below ZM G s args z.1 z.2) (F0 m 26 ls []) := by
          intro k
          induction k with
          | zero =>
            intro s15 x16 x17 H locs ls hz
            exact absurd hz (by intro h9; cases h9)
          | succ k ih26_18 =>
            intro s15 x16 x17 H locs ls hz hw hl
            have hz : (b_X12_unlike_26 N x8 J115_13) (u_lp3 (b_X12_unlike_26 N x8 J115_13) k) s15 x16 x17 = some z := hz
            unfold b_X12_unlike_26 at hz
            refine lv_iload_n hx hb dX12_unlike_26 rfl (lv_at hl 3 rfl) ?_
            refine lv_aload_n hx hb dX12_unlike_27 rfl (lv_at hl 0 rfl) ?_
            refine u_geti cx hw F_X12_83 o_X12 rfl dX12_unlike_28 ?_
            refine lv_icmp_ge (tgt := 115) hx hb dX12_unlike_31 (by decide) (fun hc => ?_) (fun hc => ?_)
            · replace hz := u_ift hz hc
              exact WJ115_13 s15 x16 _ _ _ hz hw (lv_sub hl [0, 1, 2] rfl)
            · replace hz := u_iff hz hc
              refine lv_aload_n hx hb dX12_unlike_34 rfl (lv_at hl 0 rfl) ?_
              refine lv_aload_n hx hb dX12_unlike_35 rfl (lv_at hl 0 rfl) ?_
              refine u_getp cx hw F_X12_9 o_X12 rfl dX12_unlike_36 ?_
              refine lv_iload_n hx hb dX12_unlike_39 rfl (lv_at hl 2 rfl) ?_
              obtain ⟨v19, hv19, hz⟩ := u_bind hz
              refine u_callVi (As := [.ref (G.2.2 1), .int x8]) (rest := []) cx hw LV_X12_194 (c_X12_isIn l G N s15 1 x8 v19 hv19) o_X12 rfl (by decide) hl.1 rfl (Nat.le_of_ble_eq_true rfl) dX12_unlike_40 rfl (fun H locs hw => ?_)
              refine lv_aload_n hx hb dX12_unlike_43 rfl (lv_at hl 0 rfl) ?_
              refine lv_aload_n hx hb dX12_unlike_44 rfl (lv_at hl 0 rfl) ?_
              refine u_getp cx hw F_X12_9 o_X12 rfl dX12_unlike_45 ?_
              refine lv_iload_n hx hb dX12_unlike_48 rfl (lv_at hl 3 rfl) ?_
              obtain ⟨v20, hv20, hz⟩ := u_bind hz
              refine u_callVi (As := [.ref (G.2.2 1), .int x17]) (rest := [.int v19]) cx hw LV_X12_194 (c_X12_isIn l G N s15 1 x17 v20 hv20) o_X12 rfl (by decide) hl.1 rfl (Nat.le_of_ble_eq_true rfl) dX12_unlike_49 rfl (fun H locs hw => ?_)
              obtain ⟨J109_23, eJ109_23, hz⟩ := u_let hz
              have WJ109_23 : ∀ (s21 : uS) (x22 : Int32) (H : Heap) (locs : List Loc) (ls : Array Slot), J109_23 s21 x22 = some z → u_W ZM G s21 s H locs → lv_has ls 4 [(0, .ref (G.2.2 0)), (1, .int x22), (2, .int x8), (3, .int x17)] → W p l e (u_rm 2) s m args below meth c H locs 0 0 (u_Qi below ZM G s args z.1 z.2) (F0 m 109 ls []) := by
                intro s21 x22 H locs ls hz hw hl
                rw [eJ109_23] at hz
                obtain ⟨x24, ex24, hz⟩ := u_let hz
                refine lv_iinc (v := x24) (lv' := [(3, .int x24), (0, .ref (G.2.2 0)), (1, .int x22), (2, .int x8)]) hx hb dX12_unlike_109 hl (k := 3) rfl (by rw [ex24]; rfl) (by decide) rfl (fun ls hl => ?_)
                refine lv_goto (tgt := 26) hx hb dX12_unlike_112 (by decide) ?_
                exact ih26_18 s21 x22 x24 _ _ _ hz hw (lv_sub hl [1, 2, 3, 0] rfl)
              refine lv_icmp_eq (tgt := 109) hx hb dX12_unlike_52 (by decide) (fun hc => ?_) (fun hc => ?_)
              · replace hz := u_ift hz hc
                exact WJ109_23 s15 x16 _ _ _ hz hw (lv_sub hl [0, 1, 2, 3] rfl)
              · replace hz := u_iff hz hc
                refine lv_aload_n hx hb dX12_unlike_55 rfl (lv_at hl 0 rfl) ?_
                refine lv_aload_n hx hb dX12_unlike_56 rfl (lv_at hl 0 rfl) ?_
                refine u_getp cx hw F_X12_9 o_X12 rfl dX12_unlike_57 ?_
                refine lv_iload_n hx hb dX12_unlike_60 rfl (lv_at hl 2 rfl) ?_
                obtain ⟨v25, hv25, hz⟩ := u_bind hz
                refine u_callVi (As := [.ref (G.2.2 1), .int x8]) (rest := []) cx hw LV_X12_202 (c_X12_sees l G N s15 1 x8 v25 hv25) o_X12 rfl (by decide) hl.1 rfl (Nat.le_of_ble_eq_true rfl) dX12_unlike_61 rfl (fun H locs hw => ?_)
                refine lv_iload_n hx hb dX12_unlike_64 rfl (lv_at hl 3 rfl) ?_
                obtain ⟨v26, hv26, hz⟩ := u_bind hz
                refine u_callSi (As := [.int v25, .int x17]) (rest := []) cx hw LS_X12_198 (c_X12_has l G N s15 v25 x17 v26 hv26) (by decide) hl.1 rfl (Nat.le_of_ble_eq_true rfl) dX12_unlike_65 rfl (fun H locs hw => ?_)
                obtain ⟨J90_27, eJ90_27, hz⟩ := u_let hz
                have WJ90_27 : ∀ (H : Heap) (locs : List Loc) (ls : Array Slot), J90_27 = some z → u_W ZM G s15 s H locs → lv_has ls 4 [(0, .ref (G.2.2 0)), (1, .int x16), (2, .int x8), (3, .int x17)] → W p l e (u_rm 2) s m args below meth c H locs 0 0 (u_Qi below ZM G s args z.1 z.2) (F0 m 90 ls []) := by
                  intro H locs ls hz hw hl
                  rw [eJ90_27] at hz
                  refine lv_iload_n hx hb dX12_unlike_90 rfl (lv_at hl 1 rfl) ?_
                  obtain ⟨J106_29, eJ106_29, hz⟩ := u_let hz
                  have WJ106_29 : ∀ (s28 : uS) (H : Heap) (locs : List Loc) (ls : Array Slot), J106_29 s28 = some z → u_W ZM G s28 s H locs → lv_has ls 4 [(0, .ref (G.2.2 0)), (1, .int x16), (2, .int x8), (3, .int x17)] → W p l e (u_rm 2) s m args below meth c H locs 0 0 (u_Qi below ZM G s args z.1 z.2) (F0 m 106 ls []) := by
                    intro s28 H locs ls hz hw hl
                    rw [eJ106_29] at hz
                    obtain ⟨x30, ex30, hz⟩ := u_let hz
                    refine lv_iinc (v := x30) (lv' := [(1, .int x30), (0, .ref (G.2.2 0)), (2, .int x8), (3, .int x17)]) hx hb dX12_unlike_106 hl (k := 1) rfl (by rw [ex30]; rfl) (by decide) rfl (fun ls hl => ?_)
                    exact WJ109_23 s28 x30 _ _ _ hz hw (lv_sub hl [1, 0, 2, 3] rfl)
                  refine lv_if_ne (tgt := 106) hx hb dX12_unlike_91 (by decide) (fun hc => ?_) (fun hc => ?_)
                  · replace hz := u_iff hz hc
                    exact WJ106_29 s15 _ _ _ hz hw (lv_sub hl [0, 1, 2, 3] rfl)
                  · replace hz := u_ift hz hc
                    refine lv_aload_n hx hb dX12_unlike_94 rfl (lv_at hl 0 rfl) ?_
                    refine lv_iload_n hx hb dX12_unlike_95 rfl (lv_at hl 2 rfl) ?_
                    refine lv_i2l (v := (Int32.toInt64 x8)) hx hb dX12_unlike_96 rfl ?_
                    obtain ⟨s31, hs31, hz⟩ := u_bind hz
                    refine u_callVv (As := [.long (Int32.toInt64 x8)]) (rest := []) cx hw LV_X12_260 (c_X12_tell l G N s15 (Int32.toInt64 x8) s31 hs31) o_X12 rfl (by decide) hl.1 rfl (Nat.le_of_ble_eq_true rfl) dX12_unlike_97 rfl (fun H locs hw => ?_)
                    refine lv_aload_n hx hb dX12_unlike_100 rfl (lv_at hl 0 rfl) ?_
                    refine lv_iload_n hx hb dX12_unlike_101 rfl (lv_at hl 3 rfl) ?_
                    refine lv_i2l (v := (Int32.toInt64 x17)) hx hb dX12_unlike_102 rfl ?_
                    obtain ⟨s32, hs32, hz⟩ := u_bind hz
                    refine u_callVv (As := [.long (Int32.toInt64 x17)]) (rest := []) cx hw LV_X12_260 (c_X12_tell l G N s31 (Int32.toInt64 x17) s32 hs32) o_X12 rfl (by decide) hl.1 rfl (Nat.le_of_ble_eq_true rfl) dX12_unlike_103 rfl (fun H locs hw => ?_)
                    exact WJ106_29 s32 _ _ _ hz hw (lv_sub hl [0, 1, 2, 3] rfl)
                refine lv_if_ne (tgt := 90) hx hb dX12_unlike_68 (by decide) (fun hc => ?_) (fun hc => ?_)
                · replace hz := u_iff hz hc
                  exact WJ90_27 _ _ _ hz hw (lv_sub hl [0, 1, 2, 3] rfl)
                · replace hz := u_ift hz hc
                  refine lv_aload_n hx hb dX12_unlike_71 rfl (lv_at hl 0 rfl) ?_
                  refine lv_aload_n hx hb dX12_unlike_72 rfl (lv_at hl 0 rfl) ?_
                  refine u_getp cx hw F_X12_9 o_X12 rfl dX12_unlike_73 ?_
                  refine lv_iload_n hx hb dX12_unlike_76 rfl (lv_at hl 3 rfl) ?_
                  obtain ⟨v33, hv33, hz⟩ := u_bind hz
                  refine u_callVi (As := [.ref (G.2.2 1), .int x17]) (rest := []) cx hw LV_X12_202 (c_X12_sees l G N s15 1 x17 v33 hv33) o_X12 rfl (by decide) hl.1 rfl (Nat.le_of_ble_eq_true rfl) dX12_unlike_77 rfl (fun H locs hw => ?_)
                  refine lv_iload_n hx hb dX12_unlike_80 rfl (lv_at hl 2 rfl) ?_
                  obtain ⟨v34, hv34, hz⟩ := u_bind hz
                  refine u_callSi (As := [.int v33, .int x8]) (rest := []) cx hw LS_X12_198 (c_X12_has l G N s15 v33 x8 v34 hv34) (by decide) hl.1 rfl (Nat.le_of_ble_eq_true rfl) dX12_unlike_81 rfl (fun H locs hw => ?_)
                  refine lv_if_ne (tgt := 90) hx hb dX12_unlike_84 (by decide) (fun hc => ?_) (fun hc => ?_)
                  · replace hz := u_iff hz hc
                    exact WJ90_27 _ _ _ hz hw (lv_sub hl [0, 1, 2, 3] rfl)
                  · replace hz := u_ift hz hc
                    refine lv_goto (tgt := 109) hx hb dX12_unlike_87 (by decide) ?_
                    exact WJ109_23 s15 x16 _ _ _ hz hw (lv_sub hl [0, 1, 2, 3] rfl)
        exact WL26_34 N s6 x7 x10 _ _ _ hz hw (lv_sub hl [1, 2, 3, 0] rfl)
  exact WL14_34 N s2 0 0 _ _ _ hz hw (lv_sub hl [2, 1, 0] rfl)
theorem dX12_dig_0 : decode cX12_dig 0 = .ok (.aload_n 0, 1) := by decide +kernel
theorem dX12_dig_1 : decode cX12_dig 1 = .ok (.iconst 0, 1) := by decide +kernel
theorem dX12_dig_2 : decode cX12_dig 2 = .ok (.putfield 77, 3) := by decide +kernel
theorem dX12_dig_5 : decode cX12_dig 5 = .ok (.aload_n 0, 1) := by decide +kernel
theorem dX12_dig_6 : decode cX12_dig 6 = .ok (.iload_n 1, 1) := by decide +kernel
theorem dX12_dig_7 : decode cX12_dig 7 = .ok (.invokevirtual 227, 3) := by decide +kernel
theorem dX12_dig_10 : decode cX12_dig 10 = .ok (.ifCond .eq 21, 3) := by decide +kernel
theorem dX12_dig_13 : decode cX12_dig 13 = .ok (.iload_n 2, 1) := by decide +kernel
theorem dX12_dig_14 : decode cX12_dig 14 = .ok (.iconst 0, 1) := by decide +kernel
theorem dX12_dig_15 : decode cX12_dig 15 = .ok (.iconst 1, 1) := by decide +kernel
theorem dX12_dig_16 : decode cX12_dig 16 = .ok (.invokestatic 86, 3) := by decide +kernel
theorem dX12_dig_19 : decode cX12_dig 19 = .ok (.ifCond .eq 12, 3) := by decide +kernel
theorem dX12_dig_22 : decode cX12_dig 22 = .ok (.aload_n 0, 1) := by decide +kernel
theorem dX12_dig_23 : decode cX12_dig 23 = .ok (.getfield 151, 3) := by decide +kernel
theorem dX12_dig_26 : decode cX12_dig 26 = .ok (.bipush 12, 2) := by decide +kernel
theorem dX12_dig_28 : decode cX12_dig 28 = .ok (.if_icmp .ne 5, 3) := by decide +kernel
theorem dX12_dig_31 : decode cX12_dig 31 = .ok (.iconst (-1), 1) := by decide +kernel
theorem dX12_dig_32 : decode cX12_dig 32 = .ok (.ireturn, 1) := by decide +kernel
theorem dX12_dig_33 : decode cX12_dig 33 = .ok (.aload_n 0, 1) := by decide +kernel
theorem dX12_dig_34 : decode cX12_dig 34 = .ok (.getfield 61, 3) := by decide +kernel
theorem dX12_dig_37 : decode cX12_dig 37 = .ok (.aload_n 0, 1) := by decide +kernel
theorem dX12_dig_38 : decode cX12_dig 38 = .ok (.getfield 151, 3) := by decide +kernel
theorem dX12_dig_41 : decode cX12_dig 41 = .ok (.iload_n 1, 1) := by decide +kernel
theorem dX12_dig_42 : decode cX12_dig 42 = .ok (.iastore, 1) := by decide +kernel
theorem dX12_dig_43 : decode cX12_dig 43 = .ok (.aload_n 0, 1) := by decide +kernel
theorem dX12_dig_44 : decode cX12_dig 44 = .ok (.aload_n 0, 1) := by decide +kernel
theorem dX12_dig_45 : decode cX12_dig 45 = .ok (.getfield 319, 3) := by decide +kernel
theorem dX12_dig_48 : decode cX12_dig 48 = .ok (.iconst 1, 1) := by decide +kernel
theorem dX12_dig_49 : decode cX12_dig 49 = .ok (.aload_n 0, 1) := by decide +kernel
theorem dX12_dig_50 : decode cX12_dig 50 = .ok (.getfield 151, 3) := by decide +kernel
theorem dX12_dig_53 : decode cX12_dig 53 = .ok (.ishl, 1) := by decide +kernel
theorem dX12_dig_54 : decode cX12_dig 54 = .ok (.iconst (-1), 1) := by decide +kernel
theorem dX12_dig_55 : decode cX12_dig 55 = .ok (.ixor, 1) := by decide +kernel
theorem dX12_dig_56 : decode cX12_dig 56 = .ok (.iand, 1) := by decide +kernel
theorem dX12_dig_57 : decode cX12_dig 57 = .ok (.iload_n 2, 1) := by decide +kernel
theorem dX12_dig_58 : decode cX12_dig 58 = .ok (.aload_n 0, 1) := by decide +kernel
theorem dX12_dig_59 : decode cX12_dig 59 = .ok (.getfield 151, 3) := by decide +kernel
theorem dX12_dig_62 : decode cX12_dig 62 = .ok (.ishl, 1) := by decide +kernel
theorem dX12_dig_63 : decode cX12_dig 63 = .ok (.ior, 1) := by decide +kernel
theorem dX12_dig_64 : decode cX12_dig 64 = .ok (.putfield 319, 3) := by decide +kernel
theorem dX12_dig_67 : decode cX12_dig 67 = .ok (.aload_n 0, 1) := by decide +kernel
theorem dX12_dig_68 : decode cX12_dig 68 = .ok (.dup, 1) := by decide +kernel
theorem dX12_dig_69 : decode cX12_dig 69 = .ok (.getfield 151, 3) := by decide +kernel
theorem dX12_dig_72 : decode cX12_dig 72 = .ok (.iconst 1, 1) := by decide +kernel
theorem dX12_dig_73 : decode cX12_dig 73 = .ok (.iadd, 1) := by decide +kernel
theorem dX12_dig_74 : decode cX12_dig 74 = .ok (.putfield 151, 3) := by decide +kernel
theorem dX12_dig_77 : decode cX12_dig 77 = .ok (.aload_n 0, 1) := by decide +kernel
theorem dX12_dig_78 : decode cX12_dig 78 = .ok (.getfield 151, 3) := by decide +kernel
theorem dX12_dig_81 : decode cX12_dig 81 = .ok (.ireturn, 1) := by decide +kernel
def f_X12_dig (N : Nat) (σ : uS) (p1 : Int32) (p2 : Int32) : Option (Int32 × uS) := u_jn (u_pI σ 0 8 0) fun s1 =>
  (f_X12_isFurrow N s1 p1).bind fun v2 =>
  if v2 = 0 then (some ((-1), s1)) else ((f_X12_in N s1 p2 0 1).bind fun v3 =>
  if v3 = 0 then (some ((-1), s1)) else (if (s1.1 0 30) = 12 then (some ((-1), s1)) else ((u_wI ZM s1 0 16 (s1.1 0 30) p1).bind fun s4 =>
  u_jn (u_pI s4 0 29 (((s4.1 0 29) &&& ((1 <<< ((s4.1 0 30) &&& 31)) ^^^ (-1))) ||| (p2 <<< ((s4.1 0 30) &&& 31)))) fun s5 =>
  u_jn (u_pI s5 0 30 ((s5.1 0 30) + 1)) fun s6 =>
  some ((s6.1 0 30), s6))))
set_option maxRecDepth 100000 in
set_option maxHeartbeats 4000000 in
theorem c_X12_dig (l : Launch) (G : uG) (N : Nat) (σ : uS) (p1 : Int32) (p2 : Int32) (z : (Int32 × uS)) (hz : f_X12_dig N σ p1 p2 = some z) : u_Mi l ZM G yX12_dig cX12_dig 3 .int 2 [.ref (G.2.2 0), .int p1, .int p2] σ z.1 z.2 := by
  refine u_Mi_of RX12 (by decide) rfl (Nat.le_of_ble_eq_true rfl) ?_
  intro p e s m args below meth c ls cx hw hl
  have hx := cx.1
  have hb := cx.2.1
  have hl : lv_has ls 3 [(0, .ref (G.2.2 0)), (1, .int p1), (2, .int p2)] := hl
  unfold f_X12_dig at hz
  refine lv_aload_n hx hb dX12_dig_0 rfl (lv_at hl 0 rfl) ?_
  refine lv_iconst (v := 0) hx hb dX12_dig_1 (by decide) ?_
  obtain ⟨s1, es1, hz⟩ := u_let hz
  refine u_puti2 cx hw P_X12_77 o_X12 rfl es1 dX12_dig_2 (fun H locs hw => ?_)
  refine lv_aload_n hx hb dX12_dig_5 rfl (lv_at hl 0 rfl) ?_
  refine lv_iload_n hx hb dX12_dig_6 rfl (lv_at hl 1 rfl) ?_
  obtain ⟨v2, hv2, hz⟩ := u_bind hz
  refine u_callVi (As := [.int p1]) (rest := []) cx hw LV_X12_227 (c_X12_isFurrow l G N s1 p1 v2 hv2) o_X12 rfl (by decide) hl.1 rfl (Nat.le_of_ble_eq_true rfl) dX12_dig_7 rfl (fun H locs hw => ?_)
  refine lv_if_eq (tgt := 31) hx hb dX12_dig_10 (by decide) (fun hc => ?_) (fun hc => ?_)
  · replace hz := u_ift hz hc
    refine lv_iconst (v := (-1)) hx hb dX12_dig_31 (by decide) ?_
    exact u_iret cx hw (u_pair hz) dX12_dig_32
  · replace hz := u_iff hz hc
    refine lv_iload_n hx hb dX12_dig_13 rfl (lv_at hl 2 rfl) ?_
    refine lv_iconst (v := 0) hx hb dX12_dig_14 (by decide) ?_
    refine lv_iconst (v := 1) hx hb dX12_dig_15 (by decide) ?_
    obtain ⟨v3, hv3, hz⟩ := u_bind hz
    refine u_callSi (As := [.int p2, .int 0, .int 1]) (rest := []) cx hw LS_X12_86 (c_X12_in l G N s1 p2 0 1 v3 hv3) (by decide) hl.1 rfl (Nat.le_of_ble_eq_true rfl) dX12_dig_16 rfl (fun H locs hw => ?_)
    refine lv_if_eq (tgt := 31) hx hb dX12_dig_19 (by decide) (fun hc => ?_) (fun hc => ?_)
    · replace hz := u_ift hz hc
      refine lv_iconst (v := (-1)) hx hb dX12_dig_31 (by decide) ?_
      exact u_iret cx hw (u_pair hz) dX12_dig_32
    · replace hz := u_iff hz hc
      refine lv_aload_n hx hb dX12_dig_22 rfl (lv_at hl 0 rfl) ?_
      refine u_geti cx hw F_X12_151 o_X12 rfl dX12_dig_23 ?_
      refine lv_bipush (v := 12) hx hb dX12_dig_26 (by decide) ?_
      refine lv_icmp_ne (tgt := 33) hx hb dX12_dig_28 (by decide) (fun hc => ?_) (fun hc => ?_)
      · replace hz := u_iff hz hc
        refine lv_aload_n hx hb dX12_dig_33 rfl (lv_at hl 0 rfl) ?_
        refine u_getp cx hw F_X12_61 o_X12 rfl dX12_dig_34 ?_
        refine lv_aload_n hx hb dX12_dig_37 rfl (lv_at hl 0 rfl) ?_
        refine u_geti cx hw F_X12_151 o_X12 rfl dX12_dig_38 ?_
        refine lv_iload_n hx hb dX12_dig_41 rfl (lv_at hl 1 rfl) ?_
        obtain ⟨s4, hs4, hz⟩ := u_bind hz
        refine u_iast cx hw hs4 dX12_dig_42 (fun H locs hw => ?_)
        refine lv_aload_n hx hb dX12_dig_43 rfl (lv_at hl 0 rfl) ?_
        refine lv_aload_n hx hb dX12_dig_44 rfl (lv_at hl 0 rfl) ?_
        refine u_geti cx hw F_X12_319 o_X12 rfl dX12_dig_45 ?_
        refine lv_iconst (v := 1) hx hb dX12_dig_48 (by decide) ?_
        refine lv_aload_n hx hb dX12_dig_49 rfl (lv_at hl 0 rfl) ?_
        refine u_geti cx hw F_X12_151 o_X12 rfl dX12_dig_50 ?_
        refine lv_ishl hx hb dX12_dig_53 ?_
        refine lv_iconst (v := (-1)) hx hb dX12_dig_54 (by decide) ?_
        refine lv_ixor hx hb dX12_dig_55 ?_
        refine lv_iand hx hb dX12_dig_56 ?_
        refine lv_iload_n hx hb dX12_dig_57 rfl (lv_at hl 2 rfl) ?_
        refine lv_aload_n hx hb dX12_dig_58 rfl (lv_at hl 0 rfl) ?_
        refine u_geti cx hw F_X12_151 o_X12 rfl dX12_dig_59 ?_
        refine lv_ishl hx hb dX12_dig_62 ?_
        refine lv_ior hx hb dX12_dig_63 ?_
        obtain ⟨s5, es5, hz⟩ := u_let hz
        refine u_puti2 cx hw P_X12_319 o_X12 rfl es5 dX12_dig_64 (fun H locs hw => ?_)
        refine lv_aload_n hx hb dX12_dig_67 rfl (lv_at hl 0 rfl) ?_
        refine lv_dup hx hb dX12_dig_68 rfl ?_
        refine u_geti cx hw F_X12_151 o_X12 rfl dX12_dig_69 ?_
        refine lv_iconst (v := 1) hx hb dX12_dig_72 (by decide) ?_
        refine lv_iadd hx hb dX12_dig_73 ?_
        obtain ⟨s6, es6, hz⟩ := u_let hz
        refine u_puti2 cx hw P_X12_151 o_X12 rfl es6 dX12_dig_74 (fun H locs hw => ?_)
        refine lv_aload_n hx hb dX12_dig_77 rfl (lv_at hl 0 rfl) ?_
        refine u_geti cx hw F_X12_151 o_X12 rfl dX12_dig_78 ?_
        exact u_iret cx hw (u_pair hz) dX12_dig_81
      · replace hz := u_ift hz hc
        refine lv_iconst (v := (-1)) hx hb dX12_dig_31 (by decide) ?_
        exact u_iret cx hw (u_pair hz) dX12_dig_32
theorem dX12_forget_0 : decode cX12_forget 0 = .ok (.aload_n 0, 1) := by decide +kernel
theorem dX12_forget_1 : decode cX12_forget 1 = .ok (.iconst 0, 1) := by decide +kernel
theorem dX12_forget_2 : decode cX12_forget 2 = .ok (.putfield 77, 3) := by decide +kernel
theorem dX12_forget_5 : decode cX12_forget 5 = .ok (.aload_n 0, 1) := by decide +kernel
theorem dX12_forget_6 : decode cX12_forget 6 = .ok (.getfield 151, 3) := by decide +kernel
theorem dX12_forget_9 : decode cX12_forget 9 = .ok (.istore_n 1, 1) := by decide +kernel
theorem dX12_forget_10 : decode cX12_forget 10 = .ok (.aload_n 0, 1) := by decide +kernel
theorem dX12_forget_11 : decode cX12_forget 11 = .ok (.iconst 0, 1) := by decide +kernel
theorem dX12_forget_12 : decode cX12_forget 12 = .ok (.putfield 151, 3) := by decide +kernel
theorem dX12_forget_15 : decode cX12_forget 15 = .ok (.iload_n 1, 1) := by decide +kernel
theorem dX12_forget_16 : decode cX12_forget 16 = .ok (.ireturn, 1) := by decide +kernel
def f_X12_forget (N : Nat) (σ : uS) : Option (Int32 × uS) := u_jn (u_pI σ 0 8 0) fun s1 =>
  u_jn ((s1.1 0 30) : Int32) fun x2 =>
  u_jn (u_pI s1 0 30 0) fun s3 =>
  some (x2, s3)
set_option maxRecDepth 100000 in
set_option maxHeartbeats 4000000 in
theorem c_X12_forget (l : Launch) (G : uG) (N : Nat) (σ : uS) (z : (Int32 × uS)) (hz : f_X12_forget N σ = some z) : u_Mi l ZM G yX12_forget cX12_forget 2 .int 0 [.ref (G.2.2 0)] σ z.1 z.2 := by
  refine u_Mi_of RX12 (by decide) rfl (Nat.le_of_ble_eq_true rfl) ?_
  intro p e s m args below meth c ls cx hw hl
  have hx := cx.1
  have hb := cx.2.1
  have hl : lv_has ls 2 [(0, .ref (G.2.2 0))] := hl
  unfold f_X12_forget at hz
  refine lv_aload_n hx hb dX12_forget_0 rfl (lv_at hl 0 rfl) ?_
  refine lv_iconst (v := 0) hx hb dX12_forget_1 (by decide) ?_
  obtain ⟨s1, es1, hz⟩ := u_let hz
  refine u_puti2 cx hw P_X12_77 o_X12 rfl es1 dX12_forget_2 (fun H locs hw => ?_)
  refine lv_aload_n hx hb dX12_forget_5 rfl (lv_at hl 0 rfl) ?_
  refine u_geti cx hw F_X12_151 o_X12 rfl dX12_forget_6 ?_
  obtain ⟨x2, ex2, hz⟩ := u_let hz
  refine u_topi ex2 ?_
  refine lv_istore_n (lv' := [(1, .int x2), (0, .ref (G.2.2 0))]) hx hb dX12_forget_9 rfl hl (by decide) rfl (fun ls hl => ?_)
  refine lv_aload_n hx hb dX12_forget_10 rfl (lv_at hl 1 rfl) ?_
  refine lv_iconst (v := 0) hx hb dX12_forget_11 (by decide) ?_
  obtain ⟨s3, es3, hz⟩ := u_let hz
  refine u_puti2 cx hw P_X12_151 o_X12 rfl es3 dX12_forget_12 (fun H locs hw => ?_)
  refine lv_iload_n hx hb dX12_forget_15 rfl (lv_at hl 0 rfl) ?_
  exact u_iret cx hw (u_pair hz) dX12_forget_16
theorem dX12_isCourse_0 : decode cX12_isCourse 0 = .ok (.iconst 0, 1) := by decide +kernel
theorem dX12_isCourse_1 : decode cX12_isCourse 1 = .ok (.istore_n 3, 1) := by decide +kernel
theorem dX12_isCourse_2 : decode cX12_isCourse 2 = .ok (.iload_n 3, 1) := by decide +kernel
theorem dX12_isCourse_3 : decode cX12_isCourse 3 = .ok (.aload_n 0, 1) := by decide +kernel
theorem dX12_isCourse_4 : decode cX12_isCourse 4 = .ok (.getfield 151, 3) := by decide +kernel
theorem dX12_isCourse_7 : decode cX12_isCourse 7 = .ok (.if_icmp .ge 33, 3) := by decide +kernel
theorem dX12_isCourse_10 : decode cX12_isCourse 10 = .ok (.aload_n 0, 1) := by decide +kernel
theorem dX12_isCourse_11 : decode cX12_isCourse 11 = .ok (.getfield 61, 3) := by decide +kernel
theorem dX12_isCourse_14 : decode cX12_isCourse 14 = .ok (.iload_n 3, 1) := by decide +kernel
theorem dX12_isCourse_15 : decode cX12_isCourse 15 = .ok (.iaload, 1) := by decide +kernel
theorem dX12_isCourse_16 : decode cX12_isCourse 16 = .ok (.iload_n 1, 1) := by decide +kernel
theorem dX12_isCourse_17 : decode cX12_isCourse 17 = .ok (.iload_n 2, 1) := by decide +kernel
theorem dX12_isCourse_18 : decode cX12_isCourse 18 = .ok (.invokestatic 86, 3) := by decide +kernel
theorem dX12_isCourse_21 : decode cX12_isCourse 21 = .ok (.aload_n 0, 1) := by decide +kernel
theorem dX12_isCourse_22 : decode cX12_isCourse 22 = .ok (.getfield 319, 3) := by decide +kernel
theorem dX12_isCourse_25 : decode cX12_isCourse 25 = .ok (.iload_n 3, 1) := by decide +kernel
theorem dX12_isCourse_26 : decode cX12_isCourse 26 = .ok (.invokestatic 198, 3) := by decide +kernel
theorem dX12_isCourse_29 : decode cX12_isCourse 29 = .ok (.if_icmp .eq 5, 3) := by decide +kernel
theorem dX12_isCourse_32 : decode cX12_isCourse 32 = .ok (.iconst 0, 1) := by decide +kernel
theorem dX12_isCourse_33 : decode cX12_isCourse 33 = .ok (.ireturn, 1) := by decide +kernel
theorem dX12_isCourse_34 : decode cX12_isCourse 34 = .ok (.iinc 3 1, 3) := by decide +kernel
theorem dX12_isCourse_37 : decode cX12_isCourse 37 = .ok (.goto (-35), 3) := by decide +kernel
theorem dX12_isCourse_40 : decode cX12_isCourse 40 = .ok (.iconst 1, 1) := by decide +kernel
theorem dX12_isCourse_41 : decode cX12_isCourse 41 = .ok (.ireturn, 1) := by decide +kernel
def b_X12_isCourse_2 (N : Nat) (σ : uS) (p1 : Int32) (p2 : Int32) (J40_1 : Option Int32) (rec2_3 : Int32 → Option Int32) (x2 : Int32) : Option Int32 :=
  if (σ.1 0 30) ≤ x2 then (J40_1) else ((u_rI ZM σ 0 16 x2).bind fun v4 =>
  (f_X12_in N σ v4 p1 p2).bind fun v5 =>
  (f_X12_has N σ (σ.1 0 29) x2).bind fun v6 =>
  if v5 = v6 then (u_jn (x2 + 1 : Int32) fun x7 =>
  rec2_3 x7) else (some 0))
def f_X12_isCourse (N : Nat) (σ : uS) (p1 : Int32) (p2 : Int32) : Option Int32 := u_jn ((some 1 : Option Int32)) fun J40_1 =>
  u_lp1 (b_X12_isCourse_2 N σ p1 p2 J40_1) N 0
set_option maxRecDepth 100000 in
set_option maxHeartbeats 4000000 in
theorem c_X12_isCourse (l : Launch) (G : uG) (N : Nat) (σ : uS) (p1 : Int32) (p2 : Int32) (z : Int32) (hz : f_X12_isCourse N σ p1 p2 = some z) : u_Mi l ZM G yX12_isCourse cX12_isCourse 4 .boolean 1 [.ref (G.2.2 0), .int p1, .int p2] σ z σ := by
  refine u_Mi_of RX12 (by decide) rfl (Nat.le_of_ble_eq_true rfl) ?_
  intro p e s m args below meth c ls cx hw hl
  have hx := cx.1
  have hb := cx.2.1
  have hl : lv_has ls 4 [(0, .ref (G.2.2 0)), (1, .int p1), (2, .int p2)] := hl
  unfold f_X12_isCourse at hz
  refine lv_iconst (v := 0) hx hb dX12_isCourse_0 (by decide) ?_
  refine lv_istore_n (lv' := [(3, .int 0), (0, .ref (G.2.2 0)), (1, .int p1), (2, .int p2)]) hx hb dX12_isCourse_1 rfl hl (by decide) rfl (fun ls hl => ?_)
  obtain ⟨J40_1, eJ40_1, hz⟩ := u_let hz
  have WJ40_1 : ∀ (H : Heap) (locs : List Loc) (ls : Array Slot), J40_1 = some z → u_W ZM G σ s H locs → lv_has ls 4 [] → W p l e (u_rm 1) s m args below meth c H locs 0 0 (u_Qi below ZM G s args z σ) (F0 m 40 ls []) := by
    intro H locs ls hz hw hl
    rw [eJ40_1] at hz
    refine lv_iconst (v := 1) hx hb dX12_isCourse_40 (by decide) ?_
    exact u_zret cx hw (Or.inr rfl) ⟨Option.some.inj hz, rfl⟩ dX12_isCourse_41
  have WL2_7 : ∀ (k : Nat) (x2 : Int32) (H : Heap) (locs : List Loc) (ls : Array Slot), u_lp1 (b_X12_isCourse_2 N σ p1 p2 J40_1) k x2 = some z → u_W ZM G σ s H locs → lv_has ls 4 [(0, .ref (G.2.2 0)), (1, .int p1), (2, .int p2), (3, .int x2)] → W p l e (u_rm 1) s m args below meth c H locs 0 0 (u_Qi below ZM G s args z σ) (F0 m 2 ls []) := by
    intro k
    induction k with
    | zero =>
      intro x2 H locs ls hz
      exact absurd hz (by intro h9; cases h9)
    | succ k ih2_3 =>
      intro x2 H locs ls hz hw hl
      have hz : (b_X12_isCourse_2 N σ p1 p2 J40_1) (u_lp1 (b_X12_isCourse_2 N σ p1 p2 J40_1) k) x2 = some z := hz
      unfold b_X12_isCourse_2 at hz
      refine lv_iload_n hx hb dX12_isCourse_2 rfl (lv_at hl 3 rfl) ?_
      refine lv_aload_n hx hb dX12_isCourse_3 rfl (lv_at hl 0 rfl) ?_
      refine u_geti cx hw F_X12_151 o_X12 rfl dX12_isCourse_4 ?_
      refine lv_icmp_ge (tgt := 40) hx hb dX12_isCourse_7 (by decide) (fun hc => ?_) (fun hc => ?_)
      · replace hz := u_ift hz hc
        exact WJ40_1 _ _ _ hz hw (lv_sub hl [] rfl)
      · replace hz := u_iff hz hc
        refine lv_aload_n hx hb dX12_isCourse_10 rfl (lv_at hl 0 rfl) ?_
        refine u_getp cx hw F_X12_61 o_X12 rfl dX12_isCourse_11 ?_
        refine lv_iload_n hx hb dX12_isCourse_14 rfl (lv_at hl 3 rfl) ?_
        obtain ⟨v4, hv4, hz⟩ := u_bind hz
        refine u_iald cx hw hv4 dX12_isCourse_15 ?_
        refine lv_iload_n hx hb dX12_isCourse_16 rfl (lv_at hl 1 rfl) ?_
        refine lv_iload_n hx hb dX12_isCourse_17 rfl (lv_at hl 2 rfl) ?_
        obtain ⟨v5, hv5, hz⟩ := u_bind hz
        refine u_callSi (As := [.int v4, .int p1, .int p2]) (rest := []) cx hw LS_X12_86 (c_X12_in l G N σ v4 p1 p2 v5 hv5) (by decide) hl.1 rfl (Nat.le_of_ble_eq_true rfl) dX12_isCourse_18 rfl (fun H locs hw => ?_)
        refine lv_aload_n hx hb dX12_isCourse_21 rfl (lv_at hl 0 rfl) ?_
        refine u_geti cx hw F_X12_319 o_X12 rfl dX12_isCourse_22 ?_
        refine lv_iload_n hx hb dX12_isCourse_25 rfl (lv_at hl 3 rfl) ?_
        obtain ⟨v6, hv6, hz⟩ := u_bind hz
        refine u_callSi (As := [.int (σ.1 0 29), .int x2]) (rest := [.int v5]) cx hw LS_X12_198 (c_X12_has l G N σ (σ.1 0 29) x2 v6 hv6) (by decide) hl.1 rfl (Nat.le_of_ble_eq_true rfl) dX12_isCourse_26 rfl (fun H locs hw => ?_)
        refine lv_icmp_eq (tgt := 34) hx hb dX12_isCourse_29 (by decide) (fun hc => ?_) (fun hc => ?_)
        · replace hz := u_ift hz hc
          obtain ⟨x7, ex7, hz⟩ := u_let hz
          refine lv_iinc (v := x7) (lv' := [(3, .int x7), (0, .ref (G.2.2 0)), (1, .int p1), (2, .int p2)]) hx hb dX12_isCourse_34 hl (k := 3) rfl (by rw [ex7]; rfl) (by decide) rfl (fun ls hl => ?_)
          refine lv_goto (tgt := 2) hx hb dX12_isCourse_37 (by decide) ?_
          exact ih2_3 x7 _ _ _ hz hw (lv_sub hl [1, 2, 3, 0] rfl)
        · replace hz := u_iff hz hc
          refine lv_iconst (v := 0) hx hb dX12_isCourse_32 (by decide) ?_
          exact u_zret cx hw (Or.inl rfl) ⟨Option.some.inj hz, rfl⟩ dX12_isCourse_33
  exact WL2_7 N 0 _ _ _ hz hw (lv_sub hl [1, 2, 3, 0] rfl)
theorem dX12_coursesIf_0 : decode cX12_coursesIf 0 = .ok (.iconst 0, 1) := by decide +kernel
theorem dX12_coursesIf_1 : decode cX12_coursesIf 1 = .ok (.istore_n 3, 1) := by decide +kernel
theorem dX12_coursesIf_2 : decode cX12_coursesIf 2 = .ok (.iconst 0, 1) := by decide +kernel
theorem dX12_coursesIf_3 : decode cX12_coursesIf 3 = .ok (.istore 4, 2) := by decide +kernel
theorem dX12_coursesIf_5 : decode cX12_coursesIf 5 = .ok (.iload 4, 2) := by decide +kernel
theorem dX12_coursesIf_7 : decode cX12_coursesIf 7 = .ok (.aload_n 0, 1) := by decide +kernel
theorem dX12_coursesIf_8 : decode cX12_coursesIf 8 = .ok (.getfield 13, 3) := by decide +kernel
theorem dX12_coursesIf_11 : decode cX12_coursesIf 11 = .ok (.if_icmp .ge 59, 3) := by decide +kernel
theorem dX12_coursesIf_14 : decode cX12_coursesIf 14 = .ok (.iload 4, 2) := by decide +kernel
theorem dX12_coursesIf_16 : decode cX12_coursesIf 16 = .ok (.istore 5, 2) := by decide +kernel
theorem dX12_coursesIf_18 : decode cX12_coursesIf 18 = .ok (.iload 5, 2) := by decide +kernel
theorem dX12_coursesIf_20 : decode cX12_coursesIf 20 = .ok (.aload_n 0, 1) := by decide +kernel
theorem dX12_coursesIf_21 : decode cX12_coursesIf 21 = .ok (.getfield 13, 3) := by decide +kernel
theorem dX12_coursesIf_24 : decode cX12_coursesIf 24 = .ok (.if_icmp .ge 40, 3) := by decide +kernel
theorem dX12_coursesIf_27 : decode cX12_coursesIf 27 = .ok (.iload_n 3, 1) := by decide +kernel
theorem dX12_coursesIf_28 : decode cX12_coursesIf 28 = .ok (.iload_n 1, 1) := by decide +kernel
theorem dX12_coursesIf_29 : decode cX12_coursesIf 29 = .ok (.iload 4, 2) := by decide +kernel
theorem dX12_coursesIf_31 : decode cX12_coursesIf 31 = .ok (.iload 5, 2) := by decide +kernel
theorem dX12_coursesIf_33 : decode cX12_coursesIf 33 = .ok (.invokestatic 86, 3) := by decide +kernel
theorem dX12_coursesIf_36 : decode cX12_coursesIf 36 = .ok (.iload_n 2, 1) := by decide +kernel
theorem dX12_coursesIf_37 : decode cX12_coursesIf 37 = .ok (.if_icmp .ne 18, 3) := by decide +kernel
theorem dX12_coursesIf_40 : decode cX12_coursesIf 40 = .ok (.aload_n 0, 1) := by decide +kernel
theorem dX12_coursesIf_41 : decode cX12_coursesIf 41 = .ok (.iload 4, 2) := by decide +kernel
theorem dX12_coursesIf_43 : decode cX12_coursesIf 43 = .ok (.iload 5, 2) := by decide +kernel
theorem dX12_coursesIf_45 : decode cX12_coursesIf 45 = .ok (.invokevirtual 322, 3) := by decide +kernel
theorem dX12_coursesIf_48 : decode cX12_coursesIf 48 = .ok (.ifCond .eq 7, 3) := by decide +kernel
theorem dX12_coursesIf_51 : decode cX12_coursesIf 51 = .ok (.iconst 1, 1) := by decide +kernel
theorem dX12_coursesIf_52 : decode cX12_coursesIf 52 = .ok (.goto 4, 3) := by decide +kernel
theorem dX12_coursesIf_55 : decode cX12_coursesIf 55 = .ok (.iconst 0, 1) := by decide +kernel
theorem dX12_coursesIf_56 : decode cX12_coursesIf 56 = .ok (.iadd, 1) := by decide +kernel
theorem dX12_coursesIf_57 : decode cX12_coursesIf 57 = .ok (.istore_n 3, 1) := by decide +kernel
theorem dX12_coursesIf_58 : decode cX12_coursesIf 58 = .ok (.iinc 5 1, 3) := by decide +kernel
theorem dX12_coursesIf_61 : decode cX12_coursesIf 61 = .ok (.goto (-43), 3) := by decide +kernel
theorem dX12_coursesIf_64 : decode cX12_coursesIf 64 = .ok (.iinc 4 1, 3) := by decide +kernel
theorem dX12_coursesIf_67 : decode cX12_coursesIf 67 = .ok (.goto (-62), 3) := by decide +kernel
theorem dX12_coursesIf_70 : decode cX12_coursesIf 70 = .ok (.iload_n 3, 1) := by decide +kernel
theorem dX12_coursesIf_71 : decode cX12_coursesIf 71 = .ok (.ireturn, 1) := by decide +kernel
def b_X12_coursesIf_18 (N : Nat) (σ : uS) (p1 : Int32) (p2 : Int32) (x4 : Int32) (J64_7 : Int32 → Option Int32) (rec18_11 : Int32 → Int32 → Option Int32) (x9 : Int32) (x10 : Int32) : Option Int32 :=
  if (σ.1 0 1) ≤ x10 then (J64_7 x9) else ((f_X12_in N σ p1 x4 x10).bind fun v12 =>
  u_jn (fun (t13 : Int32) => (u_jn ((x9 + t13) : Int32) fun x15 =>
  u_jn (x10 + 1 : Int32) fun x16 =>
  rec18_11 x15 x16 : Option Int32)) fun J56_14 =>
  u_jn ((J56_14 0 : Option Int32)) fun J55_17 =>
  if v12 = p2 then ((f_X12_isCourse N σ x4 x10).bind fun v18 =>
  if v18 = 0 then (J55_17) else (J56_14 1)) else (J55_17))
def b_X12_coursesIf_5 (N : Nat) (σ : uS) (p1 : Int32) (p2 : Int32) (J70_2 : Int32 → Option Int32) (rec5_5 : Int32 → Int32 → Option Int32) (x3 : Int32) (x4 : Int32) : Option Int32 :=
  if (σ.1 0 1) ≤ x4 then (J70_2 x3) else (u_jn (fun (x6 : Int32) => (u_jn (x4 + 1 : Int32) fun x8 =>
  rec5_5 x6 x8 : Option Int32)) fun J64_7 =>
  u_lp2 (b_X12_coursesIf_18 N σ p1 p2 x4 J64_7) N x3 x4)
def f_X12_coursesIf (N : Nat) (σ : uS) (p1 : Int32) (p2 : Int32) : Option Int32 := u_jn (fun (x1 : Int32) => (some x1 : Option Int32)) fun J70_2 =>
  u_lp2 (b_X12_coursesIf_5 N σ p1 p2 J70_2) N 0 0
set_option maxRecDepth 100000 in
set_option maxHeartbeats 4000000 in
theorem c_X12_coursesIf (l : Launch) (G : uG) (N : Nat) (σ : uS) (p1 : Int32) (p2 : Int32) (z : Int32) (hz : f_X12_coursesIf N σ p1 p2 = some z) : u_Mi l ZM G yX12_coursesIf cX12_coursesIf 6 .int 2 [.ref (G.2.2 0), .int p1, .int p2] σ z σ := by
  refine u_Mi_of RX12 (by decide) rfl (Nat.le_of_ble_eq_true rfl) ?_
  intro p e s m args below meth c ls cx hw hl
  have hx := cx.1
  have hb := cx.2.1
  have hl : lv_has ls 6 [(0, .ref (G.2.2 0)), (1, .int p1), (2, .int p2)] := hl
  unfold f_X12_coursesIf at hz
  refine lv_iconst (v := 0) hx hb dX12_coursesIf_0 (by decide) ?_
  refine lv_istore_n (lv' := [(3, .int 0), (0, .ref (G.2.2 0)), (1, .int p1), (2, .int p2)]) hx hb dX12_coursesIf_1 rfl hl (by decide) rfl (fun ls hl => ?_)
  refine lv_iconst (v := 0) hx hb dX12_coursesIf_2 (by decide) ?_
  refine lv_istore (lv' := [(4, .int 0), (3, .int 0), (0, .ref (G.2.2 0)), (1, .int p1), (2, .int p2)]) hx hb dX12_coursesIf_3 hl (by decide) rfl (fun ls hl => ?_)
  obtain ⟨J70_2, eJ70_2, hz⟩ := u_let hz
  have WJ70_2 : ∀ (x1 : Int32) (H : Heap) (locs : List Loc) (ls : Array Slot), J70_2 x1 = some z → u_W ZM G σ s H locs → lv_has ls 6 [(3, .int x1)] → W p l e (u_rm 2) s m args below meth c H locs 0 0 (u_Qi below ZM G s args z σ) (F0 m 70 ls []) := by
    intro x1 H locs ls hz hw hl
    rw [eJ70_2] at hz
    refine lv_iload_n hx hb dX12_coursesIf_70 rfl (lv_at hl 0 rfl) ?_
    exact u_iret cx hw ⟨Option.some.inj hz, rfl⟩ dX12_coursesIf_71
  have WL5_18 : ∀ (k : Nat) (x3 : Int32) (x4 : Int32) (H : Heap) (locs : List Loc) (ls : Array Slot), u_lp2 (b_X12_coursesIf_5 N σ p1 p2 J70_2) k x3 x4 = some z → u_W ZM G σ s H locs → lv_has ls 6 [(0, .ref (G.2.2 0)), (1, .int p1), (2, .int p2), (3, .int x3), (4, .int x4)] → W p l e (u_rm 2) s m args below meth c H locs 0 0 (u_Qi below ZM G s args z σ) (F0 m 5 ls []) := by
    intro k
    induction k with
    | zero =>
      intro x3 x4 H locs ls hz
      exact absurd hz (by intro h9; cases h9)
    | succ k ih5_5 =>
      intro x3 x4 H locs ls hz hw hl
      have hz : (b_X12_coursesIf_5 N σ p1 p2 J70_2) (u_lp2 (b_X12_coursesIf_5 N σ p1 p2 J70_2) k) x3 x4 = some z := hz
      unfold b_X12_coursesIf_5 at hz
      refine lv_iload hx hb dX12_coursesIf_5 (lv_at hl 4 rfl) ?_
      refine lv_aload_n hx hb dX12_coursesIf_7 rfl (lv_at hl 0 rfl) ?_
      refine u_geti cx hw F_X12_13 o_X12 rfl dX12_coursesIf_8 ?_
      refine lv_icmp_ge (tgt := 70) hx hb dX12_coursesIf_11 (by decide) (fun hc => ?_) (fun hc => ?_)
      · replace hz := u_ift hz hc
        exact WJ70_2 x3 _ _ _ hz hw (lv_sub hl [3] rfl)
      · replace hz := u_iff hz hc
        refine lv_iload hx hb dX12_coursesIf_14 (lv_at hl 4 rfl) ?_
        refine lv_istore (lv' := [(5, .int x4), (0, .ref (G.2.2 0)), (1, .int p1), (2, .int p2), (3, .int x3), (4, .int x4)]) hx hb dX12_coursesIf_16 hl (by decide) rfl (fun ls hl => ?_)
        obtain ⟨J64_7, eJ64_7, hz⟩ := u_let hz
        have WJ64_7 : ∀ (x6 : Int32) (H : Heap) (locs : List Loc) (ls : Array Slot), J64_7 x6 = some z → u_W ZM G σ s H locs → lv_has ls 6 [(0, .ref (G.2.2 0)), (1, .int p1), (2, .int p2), (3, .int x6), (4, .int x4)] → W p l e (u_rm 2) s m args below meth c H locs 0 0 (u_Qi below ZM G s args z σ) (F0 m 64 ls []) := by
          intro x6 H locs ls hz hw hl
          rw [eJ64_7] at hz
          obtain ⟨x8, ex8, hz⟩ := u_let hz
          refine lv_iinc (v := x8) (lv' := [(4, .int x8), (0, .ref (G.2.2 0)), (1, .int p1), (2, .int p2), (3, .int x6)]) hx hb dX12_coursesIf_64 hl (k := 4) rfl (by rw [ex8]; rfl) (by decide) rfl (fun ls hl => ?_)
          refine lv_goto (tgt := 5) hx hb dX12_coursesIf_67 (by decide) ?_
          exact ih5_5 x6 x8 _ _ _ hz hw (lv_sub hl [1, 2, 3, 4, 0] rfl)
        have WL18_18 : ∀ (k : Nat) (x9 : Int32) (x10 : Int32) (H : Heap) (locs : List Loc) (ls : Array Slot), u_lp2 (b_X12_coursesIf_18 N σ p1 p2 x4 J64_7) k x9 x10 = some z → u_W ZM G σ s H locs → lv_has ls 6 [(0, .ref (G.2.2 0)), (1, .int p1), (2, .int p2), (3, .int x9), (4, .int x4), (5, .int x10)] → W p l e (u_rm 2) s m args below meth c H locs 0 0 (u_Qi below ZM G s args z σ) (F0 m 18 ls []) := by
          intro k
          induction k with
          | zero =>
            intro x9 x10 H locs ls hz
            exact absurd hz (by intro h9; cases h9)
          | succ k ih18_11 =>
            intro x9 x10 H locs ls hz hw hl
            have hz : (b_X12_coursesIf_18 N σ p1 p2 x4 J64_7) (u_lp2 (b_X12_coursesIf_18 N σ p1 p2 x4 J64_7) k) x9 x10 = some z := hz
            unfold b_X12_coursesIf_18 at hz
            refine lv_iload hx hb dX12_coursesIf_18 (lv_at hl 5 rfl) ?_
            refine lv_aload_n hx hb dX12_coursesIf_20 rfl (lv_at hl 0 rfl) ?_
            refine u_geti cx hw F_X12_13 o_X12 rfl dX12_coursesIf_21 ?_
            refine lv_icmp_ge (tgt := 64) hx hb dX12_coursesIf_24 (by decide) (fun hc => ?_) (fun hc => ?_)
            · replace hz := u_ift hz hc
              exact WJ64_7 x9 _ _ _ hz hw (lv_sub hl [0, 1, 2, 3, 4] rfl)
            · replace hz := u_iff hz hc
              refine lv_iload_n hx hb dX12_coursesIf_27 rfl (lv_at hl 3 rfl) ?_
              refine lv_iload_n hx hb dX12_coursesIf_28 rfl (lv_at hl 1 rfl) ?_
              refine lv_iload hx hb dX12_coursesIf_29 (lv_at hl 4 rfl) ?_
              refine lv_iload hx hb dX12_coursesIf_31 (lv_at hl 5 rfl) ?_
              obtain ⟨v12, hv12, hz⟩ := u_bind hz
              refine u_callSi (As := [.int p1, .int x4, .int x10]) (rest := [.int x9]) cx hw LS_X12_86 (c_X12_in l G N σ p1 x4 x10 v12 hv12) (by decide) hl.1 rfl (Nat.le_of_ble_eq_true rfl) dX12_coursesIf_33 rfl (fun H locs hw => ?_)
              refine lv_iload_n hx hb dX12_coursesIf_36 rfl (lv_at hl 2 rfl) ?_
              obtain ⟨J56_14, eJ56_14, hz⟩ := u_let hz
              have WJ56_14 : ∀ (t13 : Int32) (H : Heap) (locs : List Loc) (ls : Array Slot), J56_14 t13 = some z → u_W ZM G σ s H locs → lv_has ls 6 [(0, .ref (G.2.2 0)), (1, .int p1), (2, .int p2), (4, .int x4), (5, .int x10)] → W p l e (u_rm 2) s m args below meth c H locs 0 0 (u_Qi below ZM G s args z σ) (F0 m 56 ls [.int t13, .int x9]) := by
                intro t13 H locs ls hz hw hl
                rw [eJ56_14] at hz
                refine lv_iadd hx hb dX12_coursesIf_56 ?_
                obtain ⟨x15, ex15, hz⟩ := u_let hz
                refine u_topi ex15 ?_
                refine lv_istore_n (lv' := [(3, .int x15), (0, .ref (G.2.2 0)), (1, .int p1), (2, .int p2), (4, .int x4), (5, .int x10)]) hx hb dX12_coursesIf_57 rfl hl (by decide) rfl (fun ls hl => ?_)
                obtain ⟨x16, ex16, hz⟩ := u_let hz
                refine lv_iinc (v := x16) (lv' := [(5, .int x16), (3, .int x15), (0, .ref (G.2.2 0)), (1, .int p1), (2, .int p2), (4, .int x4)]) hx hb dX12_coursesIf_58 hl (k := 5) rfl (by rw [ex16]; rfl) (by decide) rfl (fun ls hl => ?_)
                refine lv_goto (tgt := 18) hx hb dX12_coursesIf_61 (by decide) ?_
                exact ih18_11 x15 x16 _ _ _ hz hw (lv_sub hl [2, 3, 4, 1, 5, 0] rfl)
              obtain ⟨J55_17, eJ55_17, hz⟩ := u_let hz
              have WJ55_17 : ∀ (H : Heap) (locs : List Loc) (ls : Array Slot), J55_17 = some z → u_W ZM G σ s H locs → lv_has ls 6 [(0, .ref (G.2.2 0)), (1, .int p1), (2, .int p2), (4, .int x4), (5, .int x10)] → W p l e (u_rm 2) s m args below meth c H locs 0 0 (u_Qi below ZM G s args z σ) (F0 m 55 ls [.int x9]) := by
                intro H locs ls hz hw hl
                rw [eJ55_17] at hz
                refine lv_iconst (v := 0) hx hb dX12_coursesIf_55 (by decide) ?_
                exact WJ56_14 0 _ _ _ hz hw (lv_sub hl [0, 1, 2, 3, 4] rfl)
              refine lv_icmp_ne (tgt := 55) hx hb dX12_coursesIf_37 (by decide) (fun hc => ?_) (fun hc => ?_)
              · replace hz := u_iff hz hc
                exact WJ55_17 _ _ _ hz hw (lv_sub hl [0, 1, 2, 4, 5] rfl)
              · replace hz := u_ift hz hc
                refine lv_aload_n hx hb dX12_coursesIf_40 rfl (lv_at hl 0 rfl) ?_
                refine lv_iload hx hb dX12_coursesIf_41 (lv_at hl 4 rfl) ?_
                refine lv_iload hx hb dX12_coursesIf_43 (lv_at hl 5 rfl) ?_
                obtain ⟨v18, hv18, hz⟩ := u_bind hz
                refine u_callVi (As := [.int x4, .int x10]) (rest := [.int x9]) cx hw LV_X12_322 (c_X12_isCourse l G N σ x4 x10 v18 hv18) o_X12 rfl (by decide) hl.1 rfl (Nat.le_of_ble_eq_true rfl) dX12_coursesIf_45 rfl (fun H locs hw => ?_)
                refine lv_if_eq (tgt := 55) hx hb dX12_coursesIf_48 (by decide) (fun hc => ?_) (fun hc => ?_)
                · replace hz := u_ift hz hc
                  exact WJ55_17 _ _ _ hz hw (lv_sub hl [0, 1, 2, 4, 5] rfl)
                · replace hz := u_iff hz hc
                  refine lv_iconst (v := 1) hx hb dX12_coursesIf_51 (by decide) ?_
                  refine lv_goto (tgt := 56) hx hb dX12_coursesIf_52 (by decide) ?_
                  exact WJ56_14 1 _ _ _ hz hw (lv_sub hl [0, 1, 2, 4, 5] rfl)
        exact WL18_18 N x3 x4 _ _ _ hz hw (lv_sub hl [1, 2, 3, 4, 5, 0] rfl)
  exact WL5_18 N 0 0 _ _ _ hz hw (lv_sub hl [2, 3, 4, 1, 0] rfl)
theorem dX12_courses_0 : decode cX12_courses 0 = .ok (.aload_n 0, 1) := by decide +kernel
theorem dX12_courses_1 : decode cX12_courses 1 = .ok (.iconst 0, 1) := by decide +kernel
theorem dX12_courses_2 : decode cX12_courses 2 = .ok (.putfield 77, 3) := by decide +kernel
theorem dX12_courses_5 : decode cX12_courses 5 = .ok (.iconst 0, 1) := by decide +kernel
theorem dX12_courses_6 : decode cX12_courses 6 = .ok (.istore_n 1, 1) := by decide +kernel
theorem dX12_courses_7 : decode cX12_courses 7 = .ok (.ldc_w 298, 3) := by decide +kernel
theorem dX12_courses_10 : decode cX12_courses 10 = .ok (.istore_n 2, 1) := by decide +kernel
theorem dX12_courses_11 : decode cX12_courses 11 = .ok (.iconst 0, 1) := by decide +kernel
theorem dX12_courses_12 : decode cX12_courses 12 = .ok (.istore_n 3, 1) := by decide +kernel
theorem dX12_courses_13 : decode cX12_courses 13 = .ok (.iconst 0, 1) := by decide +kernel
theorem dX12_courses_14 : decode cX12_courses 14 = .ok (.istore 4, 2) := by decide +kernel
theorem dX12_courses_16 : decode cX12_courses 16 = .ok (.iload 4, 2) := by decide +kernel
theorem dX12_courses_18 : decode cX12_courses 18 = .ok (.aload_n 0, 1) := by decide +kernel
theorem dX12_courses_19 : decode cX12_courses 19 = .ok (.getfield 13, 3) := by decide +kernel
theorem dX12_courses_22 : decode cX12_courses 22 = .ok (.if_icmp .ge 66, 3) := by decide +kernel
theorem dX12_courses_25 : decode cX12_courses 25 = .ok (.iload 4, 2) := by decide +kernel
theorem dX12_courses_27 : decode cX12_courses 27 = .ok (.istore 5, 2) := by decide +kernel
theorem dX12_courses_29 : decode cX12_courses 29 = .ok (.iload 5, 2) := by decide +kernel
theorem dX12_courses_31 : decode cX12_courses 31 = .ok (.aload_n 0, 1) := by decide +kernel
theorem dX12_courses_32 : decode cX12_courses 32 = .ok (.getfield 13, 3) := by decide +kernel
theorem dX12_courses_35 : decode cX12_courses 35 = .ok (.if_icmp .ge 47, 3) := by decide +kernel
theorem dX12_courses_38 : decode cX12_courses 38 = .ok (.aload_n 0, 1) := by decide +kernel
theorem dX12_courses_39 : decode cX12_courses 39 = .ok (.iload 4, 2) := by decide +kernel
theorem dX12_courses_41 : decode cX12_courses 41 = .ok (.iload 5, 2) := by decide +kernel
theorem dX12_courses_43 : decode cX12_courses 43 = .ok (.invokevirtual 322, 3) := by decide +kernel
theorem dX12_courses_46 : decode cX12_courses 46 = .ok (.ifCond .ne 6, 3) := by decide +kernel
theorem dX12_courses_49 : decode cX12_courses 49 = .ok (.goto 27, 3) := by decide +kernel
theorem dX12_courses_52 : decode cX12_courses 52 = .ok (.iinc 1 1, 3) := by decide +kernel
theorem dX12_courses_55 : decode cX12_courses 55 = .ok (.iload 5, 2) := by decide +kernel
theorem dX12_courses_57 : decode cX12_courses 57 = .ok (.iload 4, 2) := by decide +kernel
theorem dX12_courses_59 : decode cX12_courses 59 = .ok (.isub, 1) := by decide +kernel
theorem dX12_courses_60 : decode cX12_courses 60 = .ok (.iload_n 2, 1) := by decide +kernel
theorem dX12_courses_61 : decode cX12_courses 61 = .ok (.if_icmp .lt 6, 3) := by decide +kernel
theorem dX12_courses_64 : decode cX12_courses 64 = .ok (.goto 12, 3) := by decide +kernel
theorem dX12_courses_67 : decode cX12_courses 67 = .ok (.iload 5, 2) := by decide +kernel
theorem dX12_courses_69 : decode cX12_courses 69 = .ok (.iload 4, 2) := by decide +kernel
theorem dX12_courses_71 : decode cX12_courses 71 = .ok (.isub, 1) := by decide +kernel
theorem dX12_courses_72 : decode cX12_courses 72 = .ok (.istore_n 2, 1) := by decide +kernel
theorem dX12_courses_73 : decode cX12_courses 73 = .ok (.iload 4, 2) := by decide +kernel
theorem dX12_courses_75 : decode cX12_courses 75 = .ok (.istore_n 3, 1) := by decide +kernel
theorem dX12_courses_76 : decode cX12_courses 76 = .ok (.iinc 5 1, 3) := by decide +kernel
theorem dX12_courses_79 : decode cX12_courses 79 = .ok (.goto (-50), 3) := by decide +kernel
theorem dX12_courses_82 : decode cX12_courses 82 = .ok (.iinc 4 1, 3) := by decide +kernel
theorem dX12_courses_85 : decode cX12_courses 85 = .ok (.goto (-69), 3) := by decide +kernel
theorem dX12_courses_88 : decode cX12_courses 88 = .ok (.aload_n 0, 1) := by decide +kernel
theorem dX12_courses_89 : decode cX12_courses 89 = .ok (.iconst 0, 1) := by decide +kernel
theorem dX12_courses_90 : decode cX12_courses 90 = .ok (.putfield 80, 3) := by decide +kernel
theorem dX12_courses_93 : decode cX12_courses 93 = .ok (.iload_n 1, 1) := by decide +kernel
theorem dX12_courses_94 : decode cX12_courses 94 = .ok (.ifCond .le 17, 3) := by decide +kernel
theorem dX12_courses_97 : decode cX12_courses 97 = .ok (.aload_n 0, 1) := by decide +kernel
theorem dX12_courses_98 : decode cX12_courses 98 = .ok (.iload_n 3, 1) := by decide +kernel
theorem dX12_courses_99 : decode cX12_courses 99 = .ok (.i2l, 1) := by decide +kernel
theorem dX12_courses_100 : decode cX12_courses 100 = .ok (.invokevirtual 260, 3) := by decide +kernel
theorem dX12_courses_103 : decode cX12_courses 103 = .ok (.aload_n 0, 1) := by decide +kernel
theorem dX12_courses_104 : decode cX12_courses 104 = .ok (.iload_n 3, 1) := by decide +kernel
theorem dX12_courses_105 : decode cX12_courses 105 = .ok (.iload_n 2, 1) := by decide +kernel
theorem dX12_courses_106 : decode cX12_courses 106 = .ok (.iadd, 1) := by decide +kernel
theorem dX12_courses_107 : decode cX12_courses 107 = .ok (.i2l, 1) := by decide +kernel
theorem dX12_courses_108 : decode cX12_courses 108 = .ok (.invokevirtual 260, 3) := by decide +kernel
theorem dX12_courses_111 : decode cX12_courses 111 = .ok (.iload_n 1, 1) := by decide +kernel
theorem dX12_courses_112 : decode cX12_courses 112 = .ok (.ireturn, 1) := by decide +kernel
def b_X12_courses_29 (N : Nat) (s1 : uS) (x12 : Int32) (J82_17 : Int32 → Int32 → Int32 → Option (Int32 × uS)) (rec29_23 : Int32 → Int32 → Int32 → Int32 → Option (Int32 × uS)) (x19 : Int32) (x20 : Int32) (x21 : Int32) (x22 : Int32) : Option (Int32 × uS) :=
  if (s1.1 0 1) ≤ x22 then (J82_17 x19 x20 x21) else ((f_X12_isCourse N s1 x12 x22).bind fun v24 =>
  u_jn (fun (x25 : Int32) (x26 : Int32) (x27 : Int32) => (u_jn (x22 + 1 : Int32) fun x29 =>
  rec29_23 x25 x26 x27 x29 : Option (Int32 × uS))) fun J76_28 =>
  if v24 = 0 then (J76_28 x19 x20 x21) else (u_jn (x19 + 1 : Int32) fun x30 =>
  if (x22 - x12) < x20 then (u_jn ((x22 - x12) : Int32) fun x31 =>
  J76_28 x30 x31 x12) else (J76_28 x30 x20 x21)))
def b_X12_courses_16 (N : Nat) (s1 : uS) (J88_5 : Int32 → Int32 → Int32 → Option (Int32 × uS)) (rec16_13 : Int32 → Int32 → Int32 → Int32 → Option (Int32 × uS)) (x9 : Int32) (x10 : Int32) (x11 : Int32) (x12 : Int32) : Option (Int32 × uS) :=
  if (s1.1 0 1) ≤ x12 then (J88_5 x9 x10 x11) else (u_jn (fun (x14 : Int32) (x15 : Int32) (x16 : Int32) => (u_jn (x12 + 1 : Int32) fun x18 =>
  rec16_13 x14 x15 x16 x18 : Option (Int32 × uS))) fun J82_17 =>
  u_lp4 (b_X12_courses_29 N s1 x12 J82_17) N x9 x10 x11 x12)
def f_X12_courses (N : Nat) (σ : uS) : Option (Int32 × uS) := u_jn (u_pI σ 0 8 0) fun s1 =>
  u_jn (fun (x2 : Int32) (x3 : Int32) (x4 : Int32) => (u_jn (u_pI s1 0 7 0) fun s6 =>
  if x2 ≤ 0 then (some (x2, s6)) else ((f_X12_tell N s6 (Int32.toInt64 x4)).bind fun s7 =>
  (f_X12_tell N s7 (Int32.toInt64 (x4 + x3))).bind fun s8 =>
  some (x2, s8)) : Option (Int32 × uS))) fun J88_5 =>
  u_lp4 (b_X12_courses_16 N s1 J88_5) N 0 1000000 0 0
set_option maxRecDepth 100000 in
set_option maxHeartbeats 4000000 in
theorem c_X12_courses (l : Launch) (G : uG) (N : Nat) (σ : uS) (z : (Int32 × uS)) (hz : f_X12_courses N σ = some z) : u_Mi l ZM G yX12_courses cX12_courses 6 .int 2 [.ref (G.2.2 0)] σ z.1 z.2 := by
  refine u_Mi_of RX12 (by decide) rfl (Nat.le_of_ble_eq_true rfl) ?_
  intro p e s m args below meth c ls cx hw hl
  have hx := cx.1
  have hb := cx.2.1
  have hl : lv_has ls 6 [(0, .ref (G.2.2 0))] := hl
  unfold f_X12_courses at hz
  refine lv_aload_n hx hb dX12_courses_0 rfl (lv_at hl 0 rfl) ?_
  refine lv_iconst (v := 0) hx hb dX12_courses_1 (by decide) ?_
  obtain ⟨s1, es1, hz⟩ := u_let hz
  refine u_puti2 cx hw P_X12_77 o_X12 rfl es1 dX12_courses_2 (fun H locs hw => ?_)
  refine lv_iconst (v := 0) hx hb dX12_courses_5 (by decide) ?_
  refine lv_istore_n (lv' := [(1, .int 0), (0, .ref (G.2.2 0))]) hx hb dX12_courses_6 rfl hl (by decide) rfl (fun ls hl => ?_)
  refine u_ldcw cx q_1480 dX12_courses_7 ?_
  refine lv_istore_n (lv' := [(2, .int 1000000), (1, .int 0), (0, .ref (G.2.2 0))]) hx hb dX12_courses_10 rfl hl (by decide) rfl (fun ls hl => ?_)
  refine lv_iconst (v := 0) hx hb dX12_courses_11 (by decide) ?_
  refine lv_istore_n (lv' := [(3, .int 0), (2, .int 1000000), (1, .int 0), (0, .ref (G.2.2 0))]) hx hb dX12_courses_12 rfl hl (by decide) rfl (fun ls hl => ?_)
  refine lv_iconst (v := 0) hx hb dX12_courses_13 (by decide) ?_
  refine lv_istore (lv' := [(4, .int 0), (3, .int 0), (2, .int 1000000), (1, .int 0), (0, .ref (G.2.2 0))]) hx hb dX12_courses_14 hl (by decide) rfl (fun ls hl => ?_)
  obtain ⟨J88_5, eJ88_5, hz⟩ := u_let hz
  have WJ88_5 : ∀ (x2 : Int32) (x3 : Int32) (x4 : Int32) (H : Heap) (locs : List Loc) (ls : Array Slot), J88_5 x2 x3 x4 = some z → u_W ZM G s1 s H locs → lv_has ls 6 [(0, .ref (G.2.2 0)), (1, .int x2), (2, .int x3), (3, .int x4)] → W p l e (u_rm 2) s m args below meth c H locs 0 0 (u_Qi below ZM G s args z.1 z.2) (F0 m 88 ls []) := by
    intro x2 x3 x4 H locs ls hz hw hl
    rw [eJ88_5] at hz
    refine lv_aload_n hx hb dX12_courses_88 rfl (lv_at hl 0 rfl) ?_
    refine lv_iconst (v := 0) hx hb dX12_courses_89 (by decide) ?_
    obtain ⟨s6, es6, hz⟩ := u_let hz
    refine u_puti2 cx hw P_X12_80 o_X12 rfl es6 dX12_courses_90 (fun H locs hw => ?_)
    refine lv_iload_n hx hb dX12_courses_93 rfl (lv_at hl 1 rfl) ?_
    refine lv_if_le (tgt := 111) hx hb dX12_courses_94 (by decide) (fun hc => ?_) (fun hc => ?_)
    · replace hz := u_ift hz hc
      refine lv_iload_n hx hb dX12_courses_111 rfl (lv_at hl 1 rfl) ?_
      exact u_iret cx hw (u_pair hz) dX12_courses_112
    · replace hz := u_iff hz hc
      refine lv_aload_n hx hb dX12_courses_97 rfl (lv_at hl 0 rfl) ?_
      refine lv_iload_n hx hb dX12_courses_98 rfl (lv_at hl 3 rfl) ?_
      refine lv_i2l (v := (Int32.toInt64 x4)) hx hb dX12_courses_99 rfl ?_
      obtain ⟨s7, hs7, hz⟩ := u_bind hz
      refine u_callVv (As := [.long (Int32.toInt64 x4)]) (rest := []) cx hw LV_X12_260 (c_X12_tell l G N s6 (Int32.toInt64 x4) s7 hs7) o_X12 rfl (by decide) hl.1 rfl (Nat.le_of_ble_eq_true rfl) dX12_courses_100 rfl (fun H locs hw => ?_)
      refine lv_aload_n hx hb dX12_courses_103 rfl (lv_at hl 0 rfl) ?_
      refine lv_iload_n hx hb dX12_courses_104 rfl (lv_at hl 3 rfl) ?_
      refine lv_iload_n hx hb dX12_courses_105 rfl (lv_at hl 2 rfl) ?_
      refine lv_iadd hx hb dX12_courses_106 ?_
      refine lv_i2l (v := (Int32.toInt64 (x4 + x3))) hx hb dX12_courses_107 rfl ?_
      obtain ⟨s8, hs8, hz⟩ := u_bind hz
      refine u_callVv (As := [.long (Int32.toInt64 (x4 + x3))]) (rest := []) cx hw LV_X12_260 (c_X12_tell l G N s7 (Int32.toInt64 (x4 + x3)) s8 hs8) o_X12 rfl (by decide) hl.1 rfl (Nat.le_of_ble_eq_true rfl) dX12_courses_108 rfl (fun H locs hw => ?_)
      refine lv_iload_n hx hb dX12_courses_111 rfl (lv_at hl 1 rfl) ?_
      exact u_iret cx hw (u_pair hz) dX12_courses_112
  have WL16_31 : ∀ (k : Nat) (x9 : Int32) (x10 : Int32) (x11 : Int32) (x12 : Int32) (H : Heap) (locs : List Loc) (ls : Array Slot), u_lp4 (b_X12_courses_16 N s1 J88_5) k x9 x10 x11 x12 = some z → u_W ZM G s1 s H locs → lv_has ls 6 [(0, .ref (G.2.2 0)), (1, .int x9), (2, .int x10), (3, .int x11), (4, .int x12)] → W p l e (u_rm 2) s m args below meth c H locs 0 0 (u_Qi below ZM G s args z.1 z.2) (F0 m 16 ls []) := by
    intro k
    induction k with
    | zero =>
      intro x9 x10 x11 x12 H locs ls hz
      exact absurd hz (by intro h9; cases h9)
    | succ k ih16_13 =>
      intro x9 x10 x11 x12 H locs ls hz hw hl
      have hz : (b_X12_courses_16 N s1 J88_5) (u_lp4 (b_X12_courses_16 N s1 J88_5) k) x9 x10 x11 x12 = some z := hz
      unfold b_X12_courses_16 at hz
      refine lv_iload hx hb dX12_courses_16 (lv_at hl 4 rfl) ?_
      refine lv_aload_n hx hb dX12_courses_18 rfl (lv_at hl 0 rfl) ?_
      refine u_geti cx hw F_X12_13 o_X12 rfl dX12_courses_19 ?_
      refine lv_icmp_ge (tgt := 88) hx hb dX12_courses_22 (by decide) (fun hc => ?_) (fun hc => ?_)
      · replace hz := u_ift hz hc
        exact WJ88_5 x9 x10 x11 _ _ _ hz hw (lv_sub hl [0, 1, 2, 3] rfl)
      · replace hz := u_iff hz hc
        refine lv_iload hx hb dX12_courses_25 (lv_at hl 4 rfl) ?_
        refine lv_istore (lv' := [(5, .int x12), (0, .ref (G.2.2 0)), (1, .int x9), (2, .int x10), (3, .int x11), (4, .int x12)]) hx hb dX12_courses_27 hl (by decide) rfl (fun ls hl => ?_)
        obtain ⟨J82_17, eJ82_17, hz⟩ := u_let hz
        have WJ82_17 : ∀ (x14 : Int32) (x15 : Int32) (x16 : Int32) (H : Heap) (locs : List Loc) (ls : Array Slot), J82_17 x14 x15 x16 = some z → u_W ZM G s1 s H locs → lv_has ls 6 [(0, .ref (G.2.2 0)), (1, .int x14), (2, .int x15), (3, .int x16), (4, .int x12)] → W p l e (u_rm 2) s m args below meth c H locs 0 0 (u_Qi below ZM G s args z.1 z.2) (F0 m 82 ls []) := by
          intro x14 x15 x16 H locs ls hz hw hl
          rw [eJ82_17] at hz
          obtain ⟨x18, ex18, hz⟩ := u_let hz
          refine lv_iinc (v := x18) (lv' := [(4, .int x18), (0, .ref (G.2.2 0)), (1, .int x14), (2, .int x15), (3, .int x16)]) hx hb dX12_courses_82 hl (k := 4) rfl (by rw [ex18]; rfl) (by decide) rfl (fun ls hl => ?_)
          refine lv_goto (tgt := 16) hx hb dX12_courses_85 (by decide) ?_
          exact ih16_13 x14 x15 x16 x18 _ _ _ hz hw (lv_sub hl [1, 2, 3, 4, 0] rfl)
        have WL29_31 : ∀ (k : Nat) (x19 : Int32) (x20 : Int32) (x21 : Int32) (x22 : Int32) (H : Heap) (locs : List Loc) (ls : Array Slot), u_lp4 (b_X12_courses_29 N s1 x12 J82_17) k x19 x20 x21 x22 = some z → u_W ZM G s1 s H locs → lv_has ls 6 [(0, .ref (G.2.2 0)), (1, .int x19), (2, .int x20), (3, .int x21), (4, .int x12), (5, .int x22)] → W p l e (u_rm 2) s m args below meth c H locs 0 0 (u_Qi below ZM G s args z.1 z.2) (F0 m 29 ls []) := by
          intro k
          induction k with
          | zero =>
            intro x19 x20 x21 x22 H locs ls hz
            exact absurd hz (by intro h9; cases h9)
          | succ k ih29_23 =>
            intro x19 x20 x21 x22 H locs ls hz hw hl
            have hz : (b_X12_courses_29 N s1 x12 J82_17) (u_lp4 (b_X12_courses_29 N s1 x12 J82_17) k) x19 x20 x21 x22 = some z := hz
            unfold b_X12_courses_29 at hz
            refine lv_iload hx hb dX12_courses_29 (lv_at hl 5 rfl) ?_
            refine lv_aload_n hx hb dX12_courses_31 rfl (lv_at hl 0 rfl) ?_
            refine u_geti cx hw F_X12_13 o_X12 rfl dX12_courses_32 ?_
            refine lv_icmp_ge (tgt := 82) hx hb dX12_courses_35 (by decide) (fun hc => ?_) (fun hc => ?_)
            · replace hz := u_ift hz hc
              exact WJ82_17 x19 x20 x21 _ _ _ hz hw (lv_sub hl [0, 1, 2, 3, 4] rfl)
            · replace hz := u_iff hz hc
              refine lv_aload_n hx hb dX12_courses_38 rfl (lv_at hl 0 rfl) ?_
              refine lv_iload hx hb dX12_courses_39 (lv_at hl 4 rfl) ?_
              refine lv_iload hx hb dX12_courses_41 (lv_at hl 5 rfl) ?_
              obtain ⟨v24, hv24, hz⟩ := u_bind hz
              refine u_callVi (As := [.int x12, .int x22]) (rest := []) cx hw LV_X12_322 (c_X12_isCourse l G N s1 x12 x22 v24 hv24) o_X12 rfl (by decide) hl.1 rfl (Nat.le_of_ble_eq_true rfl) dX12_courses_43 rfl (fun H locs hw => ?_)
              obtain ⟨J76_28, eJ76_28, hz⟩ := u_let hz
              have WJ76_28 : ∀ (x25 : Int32) (x26 : Int32) (x27 : Int32) (H : Heap) (locs : List Loc) (ls : Array Slot), J76_28 x25 x26 x27 = some z → u_W ZM G s1 s H locs → lv_has ls 6 [(0, .ref (G.2.2 0)), (1, .int x25), (2, .int x26), (3, .int x27), (4, .int x12), (5, .int x22)] → W p l e (u_rm 2) s m args below meth c H locs 0 0 (u_Qi below ZM G s args z.1 z.2) (F0 m 76 ls []) := by
                intro x25 x26 x27 H locs ls hz hw hl
                rw [eJ76_28] at hz
                obtain ⟨x29, ex29, hz⟩ := u_let hz
                refine lv_iinc (v := x29) (lv' := [(5, .int x29), (0, .ref (G.2.2 0)), (1, .int x25), (2, .int x26), (3, .int x27), (4, .int x12)]) hx hb dX12_courses_76 hl (k := 5) rfl (by rw [ex29]; rfl) (by decide) rfl (fun ls hl => ?_)
                refine lv_goto (tgt := 29) hx hb dX12_courses_79 (by decide) ?_
                exact ih29_23 x25 x26 x27 x29 _ _ _ hz hw (lv_sub hl [1, 2, 3, 4, 5, 0] rfl)
              refine lv_if_ne (tgt := 52) hx hb dX12_courses_46 (by decide) (fun hc => ?_) (fun hc => ?_)
              · replace hz := u_iff hz hc
                obtain ⟨x30, ex30, hz⟩ := u_let hz
                refine lv_iinc (v := x30) (lv' := [(1, .int x30), (0, .ref (G.2.2 0)), (2, .int x20), (3, .int x21), (4, .int x12), (5, .int x22)]) hx hb dX12_courses_52 hl (k := 1) rfl (by rw [ex30]; rfl) (by decide) rfl (fun ls hl => ?_)
                refine lv_iload hx hb dX12_courses_55 (lv_at hl 5 rfl) ?_
                refine lv_iload hx hb dX12_courses_57 (lv_at hl 4 rfl) ?_
                refine lv_isub hx hb dX12_courses_59 ?_
                refine lv_iload_n hx hb dX12_courses_60 rfl (lv_at hl 2 rfl) ?_
                refine lv_icmp_lt (tgt := 67) hx hb dX12_courses_61 (by decide) (fun hc => ?_) (fun hc => ?_)
                · replace hz := u_ift hz hc
                  refine lv_iload hx hb dX12_courses_67 (lv_at hl 5 rfl) ?_
                  refine lv_iload hx hb dX12_courses_69 (lv_at hl 4 rfl) ?_
                  refine lv_isub hx hb dX12_courses_71 ?_
                  obtain ⟨x31, ex31, hz⟩ := u_let hz
                  refine u_topi ex31 ?_
                  refine lv_istore_n (lv' := [(2, .int x31), (1, .int x30), (0, .ref (G.2.2 0)), (3, .int x21), (4, .int x12), (5, .int x22)]) hx hb dX12_courses_72 rfl hl (by decide) rfl (fun ls hl => ?_)
                  refine lv_iload hx hb dX12_courses_73 (lv_at hl 4 rfl) ?_
                  refine lv_istore_n (lv' := [(3, .int x12), (2, .int x31), (1, .int x30), (0, .ref (G.2.2 0)), (4, .int x12), (5, .int x22)]) hx hb dX12_courses_75 rfl hl (by decide) rfl (fun ls hl => ?_)
                  exact WJ76_28 x30 x31 x12 _ _ _ hz hw (lv_sub hl [3, 2, 1, 0, 4, 5] rfl)
                · replace hz := u_iff hz hc
                  refine lv_goto (tgt := 76) hx hb dX12_courses_64 (by decide) ?_
                  exact WJ76_28 x30 x20 x21 _ _ _ hz hw (lv_sub hl [1, 0, 2, 3, 4, 5] rfl)
              · replace hz := u_ift hz hc
                refine lv_goto (tgt := 76) hx hb dX12_courses_49 (by decide) ?_
                exact WJ76_28 x19 x20 x21 _ _ _ hz hw (lv_sub hl [0, 1, 2, 3, 4, 5] rfl)
        exact WL29_31 N x9 x10 x11 x12 _ _ _ hz hw (lv_sub hl [1, 2, 3, 4, 5, 0] rfl)
  exact WL16_31 N 0 1000000 0 0 _ _ _ hz hw (lv_sub hl [4, 3, 2, 1, 0] rfl)
theorem dX12_sure_0 : decode cX12_sure 0 = .ok (.aload_n 0, 1) := by decide +kernel
theorem dX12_sure_1 : decode cX12_sure 1 = .ok (.iconst 0, 1) := by decide +kernel
theorem dX12_sure_2 : decode cX12_sure 2 = .ok (.putfield 77, 3) := by decide +kernel
theorem dX12_sure_5 : decode cX12_sure 5 = .ok (.iconst 0, 1) := by decide +kernel
theorem dX12_sure_6 : decode cX12_sure 6 = .ok (.istore_n 1, 1) := by decide +kernel
theorem dX12_sure_7 : decode cX12_sure 7 = .ok (.iconst 0, 1) := by decide +kernel
theorem dX12_sure_8 : decode cX12_sure 8 = .ok (.istore_n 2, 1) := by decide +kernel
theorem dX12_sure_9 : decode cX12_sure 9 = .ok (.iconst 0, 1) := by decide +kernel
theorem dX12_sure_10 : decode cX12_sure 10 = .ok (.istore_n 3, 1) := by decide +kernel
theorem dX12_sure_11 : decode cX12_sure 11 = .ok (.iload_n 3, 1) := by decide +kernel
theorem dX12_sure_12 : decode cX12_sure 12 = .ok (.aload_n 0, 1) := by decide +kernel
theorem dX12_sure_13 : decode cX12_sure 13 = .ok (.getfield 13, 3) := by decide +kernel
theorem dX12_sure_16 : decode cX12_sure 16 = .ok (.if_icmp .ge 65, 3) := by decide +kernel
theorem dX12_sure_19 : decode cX12_sure 19 = .ok (.aload_n 0, 1) := by decide +kernel
theorem dX12_sure_20 : decode cX12_sure 20 = .ok (.iload_n 3, 1) := by decide +kernel
theorem dX12_sure_21 : decode cX12_sure 21 = .ok (.iconst 1, 1) := by decide +kernel
theorem dX12_sure_22 : decode cX12_sure 22 = .ok (.invokevirtual 325, 3) := by decide +kernel
theorem dX12_sure_25 : decode cX12_sure 25 = .ok (.istore 4, 2) := by decide +kernel
theorem dX12_sure_27 : decode cX12_sure 27 = .ok (.aload_n 0, 1) := by decide +kernel
theorem dX12_sure_28 : decode cX12_sure 28 = .ok (.iload_n 3, 1) := by decide +kernel
theorem dX12_sure_29 : decode cX12_sure 29 = .ok (.iconst 0, 1) := by decide +kernel
theorem dX12_sure_30 : decode cX12_sure 30 = .ok (.invokevirtual 325, 3) := by decide +kernel
theorem dX12_sure_33 : decode cX12_sure 33 = .ok (.istore 5, 2) := by decide +kernel
theorem dX12_sure_35 : decode cX12_sure 35 = .ok (.iload_n 1, 1) := by decide +kernel
theorem dX12_sure_36 : decode cX12_sure 36 = .ok (.iload 4, 2) := by decide +kernel
theorem dX12_sure_38 : decode cX12_sure 38 = .ok (.ifCond .le 14, 3) := by decide +kernel
theorem dX12_sure_41 : decode cX12_sure 41 = .ok (.iload 5, 2) := by decide +kernel
theorem dX12_sure_43 : decode cX12_sure 43 = .ok (.ifCond .ne 9, 3) := by decide +kernel
theorem dX12_sure_46 : decode cX12_sure 46 = .ok (.iconst 1, 1) := by decide +kernel
theorem dX12_sure_47 : decode cX12_sure 47 = .ok (.iload_n 3, 1) := by decide +kernel
theorem dX12_sure_48 : decode cX12_sure 48 = .ok (.ishl, 1) := by decide +kernel
theorem dX12_sure_49 : decode cX12_sure 49 = .ok (.goto 4, 3) := by decide +kernel
theorem dX12_sure_52 : decode cX12_sure 52 = .ok (.iconst 0, 1) := by decide +kernel
theorem dX12_sure_53 : decode cX12_sure 53 = .ok (.ior, 1) := by decide +kernel
theorem dX12_sure_54 : decode cX12_sure 54 = .ok (.istore_n 1, 1) := by decide +kernel
theorem dX12_sure_55 : decode cX12_sure 55 = .ok (.iload_n 2, 1) := by decide +kernel
theorem dX12_sure_56 : decode cX12_sure 56 = .ok (.iload 4, 2) := by decide +kernel
theorem dX12_sure_58 : decode cX12_sure 58 = .ok (.ifCond .ne 14, 3) := by decide +kernel
theorem dX12_sure_61 : decode cX12_sure 61 = .ok (.iload 5, 2) := by decide +kernel
theorem dX12_sure_63 : decode cX12_sure 63 = .ok (.ifCond .le 9, 3) := by decide +kernel
theorem dX12_sure_66 : decode cX12_sure 66 = .ok (.iconst 1, 1) := by decide +kernel
theorem dX12_sure_67 : decode cX12_sure 67 = .ok (.iload_n 3, 1) := by decide +kernel
theorem dX12_sure_68 : decode cX12_sure 68 = .ok (.ishl, 1) := by decide +kernel
theorem dX12_sure_69 : decode cX12_sure 69 = .ok (.goto 4, 3) := by decide +kernel
theorem dX12_sure_72 : decode cX12_sure 72 = .ok (.iconst 0, 1) := by decide +kernel
theorem dX12_sure_73 : decode cX12_sure 73 = .ok (.ior, 1) := by decide +kernel
theorem dX12_sure_74 : decode cX12_sure 74 = .ok (.istore_n 2, 1) := by decide +kernel
theorem dX12_sure_75 : decode cX12_sure 75 = .ok (.iinc 3 1, 3) := by decide +kernel
theorem dX12_sure_78 : decode cX12_sure 78 = .ok (.goto (-67), 3) := by decide +kernel
theorem dX12_sure_81 : decode cX12_sure 81 = .ok (.aload_n 0, 1) := by decide +kernel
theorem dX12_sure_82 : decode cX12_sure 82 = .ok (.iconst 0, 1) := by decide +kernel
theorem dX12_sure_83 : decode cX12_sure 83 = .ok (.putfield 80, 3) := by decide +kernel
theorem dX12_sure_86 : decode cX12_sure 86 = .ok (.aload_n 0, 1) := by decide +kernel
theorem dX12_sure_87 : decode cX12_sure 87 = .ok (.iload_n 2, 1) := by decide +kernel
theorem dX12_sure_88 : decode cX12_sure 88 = .ok (.i2l, 1) := by decide +kernel
theorem dX12_sure_89 : decode cX12_sure 89 = .ok (.invokevirtual 260, 3) := by decide +kernel
theorem dX12_sure_92 : decode cX12_sure 92 = .ok (.iload_n 1, 1) := by decide +kernel
theorem dX12_sure_93 : decode cX12_sure 93 = .ok (.ireturn, 1) := by decide +kernel
def b_X12_sure_11 (N : Nat) (s1 : uS) (J81_4 : Int32 → Int32 → Option (Int32 × uS)) (rec11_10 : Int32 → Int32 → Int32 → Option (Int32 × uS)) (x7 : Int32) (x8 : Int32) (x9 : Int32) : Option (Int32 × uS) :=
  if (s1.1 0 1) ≤ x9 then (J81_4 x7 x8) else ((f_X12_coursesIf N s1 x9 1).bind fun v11 =>
  (f_X12_coursesIf N s1 x9 0).bind fun v12 =>
  u_jn (fun (t13 : Int32) => (u_jn ((x7 ||| t13) : Int32) fun x15 =>
  u_jn (fun (t16 : Int32) => (u_jn ((x8 ||| t16) : Int32) fun x18 =>
  u_jn (x9 + 1 : Int32) fun x19 =>
  rec11_10 x15 x18 x19 : Option (Int32 × uS))) fun J73_17 =>
  u_jn ((J73_17 0 : Option (Int32 × uS))) fun J72_20 =>
  if v11 = 0 then (if v12 ≤ 0 then (J72_20) else (J73_17 (1 <<< (x9 &&& 31)))) else (J72_20) : Option (Int32 × uS))) fun J53_14 =>
  u_jn ((J53_14 0 : Option (Int32 × uS))) fun J52_21 =>
  if v11 ≤ 0 then (J52_21) else (if v12 = 0 then (J53_14 (1 <<< (x9 &&& 31))) else (J52_21)))
def f_X12_sure (N : Nat) (σ : uS) : Option (Int32 × uS) := u_jn (u_pI σ 0 8 0) fun s1 =>
  u_jn (fun (x2 : Int32) (x3 : Int32) => (u_jn (u_pI s1 0 7 0) fun s5 =>
  (f_X12_tell N s5 (Int32.toInt64 x3)).bind fun s6 =>
  some (x2, s6) : Option (Int32 × uS))) fun J81_4 =>
  u_lp3 (b_X12_sure_11 N s1 J81_4) N 0 0 0
set_option maxRecDepth 100000 in
set_option maxHeartbeats 4000000 in
theorem c_X12_sure (l : Launch) (G : uG) (N : Nat) (σ : uS) (z : (Int32 × uS)) (hz : f_X12_sure N σ = some z) : u_Mi l ZM G yX12_sure cX12_sure 6 .int 3 [.ref (G.2.2 0)] σ z.1 z.2 := by
  refine u_Mi_of RX12 (by decide) rfl (Nat.le_of_ble_eq_true rfl) ?_
  intro p e s m args below meth c ls cx hw hl
  have hx := cx.1
  have hb := cx.2.1
  have hl : lv_has ls 6 [(0, .ref (G.2.2 0))] := hl
  unfold f_X12_sure at hz
  refine lv_aload_n hx hb dX12_sure_0 rfl (lv_at hl 0 rfl) ?_
  refine lv_iconst (v := 0) hx hb dX12_sure_1 (by decide) ?_
  obtain ⟨s1, es1, hz⟩ := u_let hz
  refine u_puti2 cx hw P_X12_77 o_X12 rfl es1 dX12_sure_2 (fun H locs hw => ?_)
  refine lv_iconst (v := 0) hx hb dX12_sure_5 (by decide) ?_
  refine lv_istore_n (lv' := [(1, .int 0), (0, .ref (G.2.2 0))]) hx hb dX12_sure_6 rfl hl (by decide) rfl (fun ls hl => ?_)
  refine lv_iconst (v := 0) hx hb dX12_sure_7 (by decide) ?_
  refine lv_istore_n (lv' := [(2, .int 0), (1, .int 0), (0, .ref (G.2.2 0))]) hx hb dX12_sure_8 rfl hl (by decide) rfl (fun ls hl => ?_)
  refine lv_iconst (v := 0) hx hb dX12_sure_9 (by decide) ?_
  refine lv_istore_n (lv' := [(3, .int 0), (2, .int 0), (1, .int 0), (0, .ref (G.2.2 0))]) hx hb dX12_sure_10 rfl hl (by decide) rfl (fun ls hl => ?_)
  obtain ⟨J81_4, eJ81_4, hz⟩ := u_let hz
  have WJ81_4 : ∀ (x2 : Int32) (x3 : Int32) (H : Heap) (locs : List Loc) (ls : Array Slot), J81_4 x2 x3 = some z → u_W ZM G s1 s H locs → lv_has ls 6 [(0, .ref (G.2.2 0)), (1, .int x2), (2, .int x3)] → W p l e (u_rm 3) s m args below meth c H locs 0 0 (u_Qi below ZM G s args z.1 z.2) (F0 m 81 ls []) := by
    intro x2 x3 H locs ls hz hw hl
    rw [eJ81_4] at hz
    refine lv_aload_n hx hb dX12_sure_81 rfl (lv_at hl 0 rfl) ?_
    refine lv_iconst (v := 0) hx hb dX12_sure_82 (by decide) ?_
    obtain ⟨s5, es5, hz⟩ := u_let hz
    refine u_puti2 cx hw P_X12_80 o_X12 rfl es5 dX12_sure_83 (fun H locs hw => ?_)
    refine lv_aload_n hx hb dX12_sure_86 rfl (lv_at hl 0 rfl) ?_
    refine lv_iload_n hx hb dX12_sure_87 rfl (lv_at hl 2 rfl) ?_
    refine lv_i2l (v := (Int32.toInt64 x3)) hx hb dX12_sure_88 rfl ?_
    obtain ⟨s6, hs6, hz⟩ := u_bind hz
    refine u_callVv (As := [.long (Int32.toInt64 x3)]) (rest := []) cx hw LV_X12_260 (c_X12_tell l G N s5 (Int32.toInt64 x3) s6 hs6) o_X12 rfl (by decide) hl.1 rfl (Nat.le_of_ble_eq_true rfl) dX12_sure_89 rfl (fun H locs hw => ?_)
    refine lv_iload_n hx hb dX12_sure_92 rfl (lv_at hl 1 rfl) ?_
    exact u_iret cx hw (u_pair hz) dX12_sure_93
  have WL11_21 : ∀ (k : Nat) (x7 : Int32) (x8 : Int32) (x9 : Int32) (H : Heap) (locs : List Loc) (ls : Array Slot), u_lp3 (b_X12_sure_11 N s1 J81_4) k x7 x8 x9 = some z → u_W ZM G s1 s H locs → lv_has ls 6 [(0, .ref (G.2.2 0)), (1, .int x7), (2, .int x8), (3, .int x9)] → W p l e (u_rm 3) s m args below meth c H locs 0 0 (u_Qi below ZM G s args z.1 z.2) (F0 m 11 ls []) := by
    intro k
    induction k with
    | zero =>
      intro x7 x8 x9 H locs ls hz
      exact absurd hz (by intro h9; cases h9)
    | succ k ih11_10 =>
      intro x7 x8 x9 H locs ls hz hw hl
      have hz : (b_X12_sure_11 N s1 J81_4) (u_lp3 (b_X12_sure_11 N s1 J81_4) k) x7 x8 x9 = some z := hz
      unfold b_X12_sure_11 at hz
      refine lv_iload_n hx hb dX12_sure_11 rfl (lv_at hl 3 rfl) ?_
      refine lv_aload_n hx hb dX12_sure_12 rfl (lv_at hl 0 rfl) ?_
      refine u_geti cx hw F_X12_13 o_X12 rfl dX12_sure_13 ?_
      refine lv_icmp_ge (tgt := 81) hx hb dX12_sure_16 (by decide) (fun hc => ?_) (fun hc => ?_)
      · replace hz := u_ift hz hc
        exact WJ81_4 x7 x8 _ _ _ hz hw (lv_sub hl [0, 1, 2] rfl)
      · replace hz := u_iff hz hc
        refine lv_aload_n hx hb dX12_sure_19 rfl (lv_at hl 0 rfl) ?_
        refine lv_iload_n hx hb dX12_sure_20 rfl (lv_at hl 3 rfl) ?_
        refine lv_iconst (v := 1) hx hb dX12_sure_21 (by decide) ?_
        obtain ⟨v11, hv11, hz⟩ := u_bind hz
        refine u_callVi (As := [.int x9, .int 1]) (rest := []) cx hw LV_X12_325 (c_X12_coursesIf l G N s1 x9 1 v11 hv11) o_X12 rfl (by decide) hl.1 rfl (Nat.le_of_ble_eq_true rfl) dX12_sure_22 rfl (fun H locs hw => ?_)
        refine lv_istore (lv' := [(4, .int v11), (0, .ref (G.2.2 0)), (1, .int x7), (2, .int x8), (3, .int x9)]) hx hb dX12_sure_25 hl (by decide) rfl (fun ls hl => ?_)
        refine lv_aload_n hx hb dX12_sure_27 rfl (lv_at hl 1 rfl) ?_
        refine lv_iload_n hx hb dX12_sure_28 rfl (lv_at hl 4 rfl) ?_
        refine lv_iconst (v := 0) hx hb dX12_sure_29 (by decide) ?_
        obtain ⟨v12, hv12, hz⟩ := u_bind hz
        refine u_callVi (As := [.int x9, .int 0]) (rest := []) cx hw LV_X12_325 (c_X12_coursesIf l G N s1 x9 0 v12 hv12) o_X12 rfl (by decide) hl.1 rfl (Nat.le_of_ble_eq_true rfl) dX12_sure_30 rfl (fun H locs hw => ?_)
        refine lv_istore (lv' := [(5, .int v12), (4, .int v11), (0, .ref (G.2.2 0)), (1, .int x7), (2, .int x8), (3, .int x9)]) hx hb dX12_sure_33 hl (by decide) rfl (fun ls hl => ?_)
        refine lv_iload_n hx hb dX12_sure_35 rfl (lv_at hl 3 rfl) ?_
        refine lv_iload hx hb dX12_sure_36 (lv_at hl 1 rfl) ?_
        obtain ⟨J53_14, eJ53_14, hz⟩ := u_let hz
        have WJ53_14 : ∀ (t13 : Int32) (H : Heap) (locs : List Loc) (ls : Array Slot), J53_14 t13 = some z → u_W ZM G s1 s H locs → lv_has ls 6 [(0, .ref (G.2.2 0)), (2, .int x8), (3, .int x9), (4, .int v11), (5, .int v12)] → W p l e (u_rm 3) s m args below meth c H locs 0 0 (u_Qi below ZM G s args z.1 z.2) (F0 m 53 ls [.int t13, .int x7]) := by
          intro t13 H locs ls hz hw hl
          rw [eJ53_14] at hz
          refine lv_ior hx hb dX12_sure_53 ?_
          obtain ⟨x15, ex15, hz⟩ := u_let hz
          refine u_topi ex15 ?_
          refine lv_istore_n (lv' := [(1, .int x15), (0, .ref (G.2.2 0)), (2, .int x8), (3, .int x9), (4, .int v11), (5, .int v12)]) hx hb dX12_sure_54 rfl hl (by decide) rfl (fun ls hl => ?_)
          refine lv_iload_n hx hb dX12_sure_55 rfl (lv_at hl 2 rfl) ?_
          refine lv_iload hx hb dX12_sure_56 (lv_at hl 4 rfl) ?_
          obtain ⟨J73_17, eJ73_17, hz⟩ := u_let hz
          have WJ73_17 : ∀ (t16 : Int32) (H : Heap) (locs : List Loc) (ls : Array Slot), J73_17 t16 = some z → u_W ZM G s1 s H locs → lv_has ls 6 [(0, .ref (G.2.2 0)), (1, .int x15), (3, .int x9)] → W p l e (u_rm 3) s m args below meth c H locs 0 0 (u_Qi below ZM G s args z.1 z.2) (F0 m 73 ls [.int t16, .int x8]) := by
            intro t16 H locs ls hz hw hl
            rw [eJ73_17] at hz
            refine lv_ior hx hb dX12_sure_73 ?_
            obtain ⟨x18, ex18, hz⟩ := u_let hz
            refine u_topi ex18 ?_
            refine lv_istore_n (lv' := [(2, .int x18), (0, .ref (G.2.2 0)), (1, .int x15), (3, .int x9)]) hx hb dX12_sure_74 rfl hl (by decide) rfl (fun ls hl => ?_)
            obtain ⟨x19, ex19, hz⟩ := u_let hz
            refine lv_iinc (v := x19) (lv' := [(3, .int x19), (2, .int x18), (0, .ref (G.2.2 0)), (1, .int x15)]) hx hb dX12_sure_75 hl (k := 3) rfl (by rw [ex19]; rfl) (by decide) rfl (fun ls hl => ?_)
            refine lv_goto (tgt := 11) hx hb dX12_sure_78 (by decide) ?_
            exact ih11_10 x15 x18 x19 _ _ _ hz hw (lv_sub hl [2, 3, 1, 0] rfl)
          obtain ⟨J72_20, eJ72_20, hz⟩ := u_let hz
          have WJ72_20 : ∀ (H : Heap) (locs : List Loc) (ls : Array Slot), J72_20 = some z → u_W ZM G s1 s H locs → lv_has ls 6 [(0, .ref (G.2.2 0)), (1, .int x15), (3, .int x9)] → W p l e (u_rm 3) s m args below meth c H locs 0 0 (u_Qi below ZM G s args z.1 z.2) (F0 m 72 ls [.int x8]) := by
            intro H locs ls hz hw hl
            rw [eJ72_20] at hz
            refine lv_iconst (v := 0) hx hb dX12_sure_72 (by decide) ?_
            exact WJ73_17 0 _ _ _ hz hw (lv_sub hl [0, 1, 2] rfl)
          refine lv_if_ne (tgt := 72) hx hb dX12_sure_58 (by decide) (fun hc => ?_) (fun hc => ?_)
          · replace hz := u_iff hz hc
            exact WJ72_20 _ _ _ hz hw (lv_sub hl [1, 0, 3] rfl)
          · replace hz := u_ift hz hc
            refine lv_iload hx hb dX12_sure_61 (lv_at hl 5 rfl) ?_
            refine lv_if_le (tgt := 72) hx hb dX12_sure_63 (by decide) (fun hc => ?_) (fun hc => ?_)
            · replace hz := u_ift hz hc
              exact WJ72_20 _ _ _ hz hw (lv_sub hl [1, 0, 3] rfl)
            · replace hz := u_iff hz hc
              refine lv_iconst (v := 1) hx hb dX12_sure_66 (by decide) ?_
              refine lv_iload_n hx hb dX12_sure_67 rfl (lv_at hl 3 rfl) ?_
              refine lv_ishl hx hb dX12_sure_68 ?_
              refine lv_goto (tgt := 73) hx hb dX12_sure_69 (by decide) ?_
              exact WJ73_17 (1 <<< (x9 &&& 31)) _ _ _ hz hw (lv_sub hl [1, 0, 3] rfl)
        obtain ⟨J52_21, eJ52_21, hz⟩ := u_let hz
        have WJ52_21 : ∀ (H : Heap) (locs : List Loc) (ls : Array Slot), J52_21 = some z → u_W ZM G s1 s H locs → lv_has ls 6 [(0, .ref (G.2.2 0)), (2, .int x8), (3, .int x9), (4, .int v11), (5, .int v12)] → W p l e (u_rm 3) s m args below meth c H locs 0 0 (u_Qi below ZM G s args z.1 z.2) (F0 m 52 ls [.int x7]) := by
          intro H locs ls hz hw hl
          rw [eJ52_21] at hz
          refine lv_iconst (v := 0) hx hb dX12_sure_52 (by decide) ?_
          exact WJ53_14 0 _ _ _ hz hw (lv_sub hl [0, 1, 2, 3, 4] rfl)
        refine lv_if_le (tgt := 52) hx hb dX12_sure_38 (by decide) (fun hc => ?_) (fun hc => ?_)
        · replace hz := u_ift hz hc
          exact WJ52_21 _ _ _ hz hw (lv_sub hl [2, 4, 5, 1, 0] rfl)
        · replace hz := u_iff hz hc
          refine lv_iload hx hb dX12_sure_41 (lv_at hl 0 rfl) ?_
          refine lv_if_ne (tgt := 52) hx hb dX12_sure_43 (by decide) (fun hc => ?_) (fun hc => ?_)
          · replace hz := u_iff hz hc
            exact WJ52_21 _ _ _ hz hw (lv_sub hl [2, 4, 5, 1, 0] rfl)
          · replace hz := u_ift hz hc
            refine lv_iconst (v := 1) hx hb dX12_sure_46 (by decide) ?_
            refine lv_iload_n hx hb dX12_sure_47 rfl (lv_at hl 5 rfl) ?_
            refine lv_ishl hx hb dX12_sure_48 ?_
            refine lv_goto (tgt := 53) hx hb dX12_sure_49 (by decide) ?_
            exact WJ53_14 (1 <<< (x9 &&& 31)) _ _ _ hz hw (lv_sub hl [2, 4, 5, 1, 0] rfl)
  exact WL11_21 N 0 0 0 _ _ _ hz hw (lv_sub hl [3, 2, 1, 0] rfl)
theorem dX12_next_0 : decode cX12_next 0 = .ok (.aload_n 0, 1) := by decide +kernel
theorem dX12_next_1 : decode cX12_next 1 = .ok (.iconst 0, 1) := by decide +kernel
theorem dX12_next_2 : decode cX12_next 2 = .ok (.putfield 77, 3) := by decide +kernel
theorem dX12_next_5 : decode cX12_next 5 = .ok (.iconst (-1), 1) := by decide +kernel
theorem dX12_next_6 : decode cX12_next 6 = .ok (.istore_n 1, 1) := by decide +kernel
theorem dX12_next_7 : decode cX12_next 7 = .ok (.ldc_w 298, 3) := by decide +kernel
theorem dX12_next_10 : decode cX12_next 10 = .ok (.istore_n 2, 1) := by decide +kernel
theorem dX12_next_11 : decode cX12_next 11 = .ok (.iconst 0, 1) := by decide +kernel
theorem dX12_next_12 : decode cX12_next 12 = .ok (.istore_n 3, 1) := by decide +kernel
theorem dX12_next_13 : decode cX12_next 13 = .ok (.iload_n 3, 1) := by decide +kernel
theorem dX12_next_14 : decode cX12_next 14 = .ok (.aload_n 0, 1) := by decide +kernel
theorem dX12_next_15 : decode cX12_next 15 = .ok (.getfield 13, 3) := by decide +kernel
theorem dX12_next_18 : decode cX12_next 18 = .ok (.if_icmp .ge 48, 3) := by decide +kernel
theorem dX12_next_21 : decode cX12_next 21 = .ok (.aload_n 0, 1) := by decide +kernel
theorem dX12_next_22 : decode cX12_next 22 = .ok (.iload_n 3, 1) := by decide +kernel
theorem dX12_next_23 : decode cX12_next 23 = .ok (.iconst 1, 1) := by decide +kernel
theorem dX12_next_24 : decode cX12_next 24 = .ok (.invokevirtual 325, 3) := by decide +kernel
theorem dX12_next_27 : decode cX12_next 27 = .ok (.aload_n 0, 1) := by decide +kernel
theorem dX12_next_28 : decode cX12_next 28 = .ok (.iload_n 3, 1) := by decide +kernel
theorem dX12_next_29 : decode cX12_next 29 = .ok (.iconst 0, 1) := by decide +kernel
theorem dX12_next_30 : decode cX12_next 30 = .ok (.invokevirtual 325, 3) := by decide +kernel
theorem dX12_next_33 : decode cX12_next 33 = .ok (.invokestatic 224, 3) := by decide +kernel
theorem dX12_next_36 : decode cX12_next 36 = .ok (.istore 4, 2) := by decide +kernel
theorem dX12_next_38 : decode cX12_next 38 = .ok (.iload 4, 2) := by decide +kernel
theorem dX12_next_40 : decode cX12_next 40 = .ok (.ifCond .ne 6, 3) := by decide +kernel
theorem dX12_next_43 : decode cX12_next 43 = .ok (.bipush (-2), 2) := by decide +kernel
theorem dX12_next_45 : decode cX12_next 45 = .ok (.ireturn, 1) := by decide +kernel
theorem dX12_next_46 : decode cX12_next 46 = .ok (.iload 4, 2) := by decide +kernel
theorem dX12_next_48 : decode cX12_next 48 = .ok (.iload_n 2, 1) := by decide +kernel
theorem dX12_next_49 : decode cX12_next 49 = .ok (.if_icmp .lt 6, 3) := by decide +kernel
theorem dX12_next_52 : decode cX12_next 52 = .ok (.goto 8, 3) := by decide +kernel
theorem dX12_next_55 : decode cX12_next 55 = .ok (.iload_n 3, 1) := by decide +kernel
theorem dX12_next_56 : decode cX12_next 56 = .ok (.istore_n 1, 1) := by decide +kernel
theorem dX12_next_57 : decode cX12_next 57 = .ok (.iload 4, 2) := by decide +kernel
theorem dX12_next_59 : decode cX12_next 59 = .ok (.istore_n 2, 1) := by decide +kernel
theorem dX12_next_60 : decode cX12_next 60 = .ok (.iinc 3 1, 3) := by decide +kernel
theorem dX12_next_63 : decode cX12_next 63 = .ok (.goto (-50), 3) := by decide +kernel
theorem dX12_next_66 : decode cX12_next 66 = .ok (.aload_n 0, 1) := by decide +kernel
theorem dX12_next_67 : decode cX12_next 67 = .ok (.iconst 0, 1) := by decide +kernel
theorem dX12_next_68 : decode cX12_next 68 = .ok (.putfield 80, 3) := by decide +kernel
theorem dX12_next_71 : decode cX12_next 71 = .ok (.aload_n 0, 1) := by decide +kernel
theorem dX12_next_72 : decode cX12_next 72 = .ok (.iload_n 2, 1) := by decide +kernel
theorem dX12_next_73 : decode cX12_next 73 = .ok (.i2l, 1) := by decide +kernel
theorem dX12_next_74 : decode cX12_next 74 = .ok (.invokevirtual 260, 3) := by decide +kernel
theorem dX12_next_77 : decode cX12_next 77 = .ok (.iload_n 1, 1) := by decide +kernel
theorem dX12_next_78 : decode cX12_next 78 = .ok (.ireturn, 1) := by decide +kernel
def b_X12_next_13 (N : Nat) (s1 : uS) (J66_4 : Int32 → Int32 → Option (Int32 × uS)) (rec13_10 : Int32 → Int32 → Int32 → Option (Int32 × uS)) (x7 : Int32) (x8 : Int32) (x9 : Int32) : Option (Int32 × uS) :=
  if (s1.1 0 1) ≤ x9 then (J66_4 x7 x8) else ((f_X12_coursesIf N s1 x9 1).bind fun v11 =>
  (f_X12_coursesIf N s1 x9 0).bind fun v12 =>
  u_jn ((if v11 < v12 then v12 else v11) : Int32) fun x13 =>
  if x13 = 0 then (some ((-2), s1)) else (u_jn (fun (x14 : Int32) (x15 : Int32) => (u_jn (x9 + 1 : Int32) fun x17 =>
  rec13_10 x14 x15 x17 : Option (Int32 × uS))) fun J60_16 =>
  if x13 < x8 then (J60_16 x9 x13) else (J60_16 x7 x8)))
def f_X12_next (N : Nat) (σ : uS) : Option (Int32 × uS) := u_jn (u_pI σ 0 8 0) fun s1 =>
  u_jn (fun (x2 : Int32) (x3 : Int32) => (u_jn (u_pI s1 0 7 0) fun s5 =>
  (f_X12_tell N s5 (Int32.toInt64 x3)).bind fun s6 =>
  some (x2, s6) : Option (Int32 × uS))) fun J66_4 =>
  u_lp3 (b_X12_next_13 N s1 J66_4) N (-1) 1000000 0
set_option maxRecDepth 100000 in
set_option maxHeartbeats 4000000 in
theorem c_X12_next (l : Launch) (G : uG) (N : Nat) (σ : uS) (z : (Int32 × uS)) (hz : f_X12_next N σ = some z) : u_Mi l ZM G yX12_next cX12_next 5 .int 3 [.ref (G.2.2 0)] σ z.1 z.2 := by
  refine u_Mi_of RX12 (by decide) rfl (Nat.le_of_ble_eq_true rfl) ?_
  intro p e s m args below meth c ls cx hw hl
  have hx := cx.1
  have hb := cx.2.1
  have hl : lv_has ls 5 [(0, .ref (G.2.2 0))] := hl
  unfold f_X12_next at hz
  refine lv_aload_n hx hb dX12_next_0 rfl (lv_at hl 0 rfl) ?_
  refine lv_iconst (v := 0) hx hb dX12_next_1 (by decide) ?_
  obtain ⟨s1, es1, hz⟩ := u_let hz
  refine u_puti2 cx hw P_X12_77 o_X12 rfl es1 dX12_next_2 (fun H locs hw => ?_)
  refine lv_iconst (v := (-1)) hx hb dX12_next_5 (by decide) ?_
  refine lv_istore_n (lv' := [(1, .int (-1)), (0, .ref (G.2.2 0))]) hx hb dX12_next_6 rfl hl (by decide) rfl (fun ls hl => ?_)
  refine u_ldcw cx q_1480 dX12_next_7 ?_
  refine lv_istore_n (lv' := [(2, .int 1000000), (1, .int (-1)), (0, .ref (G.2.2 0))]) hx hb dX12_next_10 rfl hl (by decide) rfl (fun ls hl => ?_)
  refine lv_iconst (v := 0) hx hb dX12_next_11 (by decide) ?_
  refine lv_istore_n (lv' := [(3, .int 0), (2, .int 1000000), (1, .int (-1)), (0, .ref (G.2.2 0))]) hx hb dX12_next_12 rfl hl (by decide) rfl (fun ls hl => ?_)
  obtain ⟨J66_4, eJ66_4, hz⟩ := u_let hz
  have WJ66_4 : ∀ (x2 : Int32) (x3 : Int32) (H : Heap) (locs : List Loc) (ls : Array Slot), J66_4 x2 x3 = some z → u_W ZM G s1 s H locs → lv_has ls 5 [(0, .ref (G.2.2 0)), (1, .int x2), (2, .int x3)] → W p l e (u_rm 3) s m args below meth c H locs 0 0 (u_Qi below ZM G s args z.1 z.2) (F0 m 66 ls []) := by
    intro x2 x3 H locs ls hz hw hl
    rw [eJ66_4] at hz
    refine lv_aload_n hx hb dX12_next_66 rfl (lv_at hl 0 rfl) ?_
    refine lv_iconst (v := 0) hx hb dX12_next_67 (by decide) ?_
    obtain ⟨s5, es5, hz⟩ := u_let hz
    refine u_puti2 cx hw P_X12_80 o_X12 rfl es5 dX12_next_68 (fun H locs hw => ?_)
    refine lv_aload_n hx hb dX12_next_71 rfl (lv_at hl 0 rfl) ?_
    refine lv_iload_n hx hb dX12_next_72 rfl (lv_at hl 2 rfl) ?_
    refine lv_i2l (v := (Int32.toInt64 x3)) hx hb dX12_next_73 rfl ?_
    obtain ⟨s6, hs6, hz⟩ := u_bind hz
    refine u_callVv (As := [.long (Int32.toInt64 x3)]) (rest := []) cx hw LV_X12_260 (c_X12_tell l G N s5 (Int32.toInt64 x3) s6 hs6) o_X12 rfl (by decide) hl.1 rfl (Nat.le_of_ble_eq_true rfl) dX12_next_74 rfl (fun H locs hw => ?_)
    refine lv_iload_n hx hb dX12_next_77 rfl (lv_at hl 1 rfl) ?_
    exact u_iret cx hw (u_pair hz) dX12_next_78
  have WL13_17 : ∀ (k : Nat) (x7 : Int32) (x8 : Int32) (x9 : Int32) (H : Heap) (locs : List Loc) (ls : Array Slot), u_lp3 (b_X12_next_13 N s1 J66_4) k x7 x8 x9 = some z → u_W ZM G s1 s H locs → lv_has ls 5 [(0, .ref (G.2.2 0)), (1, .int x7), (2, .int x8), (3, .int x9)] → W p l e (u_rm 3) s m args below meth c H locs 0 0 (u_Qi below ZM G s args z.1 z.2) (F0 m 13 ls []) := by
    intro k
    induction k with
    | zero =>
      intro x7 x8 x9 H locs ls hz
      exact absurd hz (by intro h9; cases h9)
    | succ k ih13_10 =>
      intro x7 x8 x9 H locs ls hz hw hl
      have hz : (b_X12_next_13 N s1 J66_4) (u_lp3 (b_X12_next_13 N s1 J66_4) k) x7 x8 x9 = some z := hz
      unfold b_X12_next_13 at hz
      refine lv_iload_n hx hb dX12_next_13 rfl (lv_at hl 3 rfl) ?_
      refine lv_aload_n hx hb dX12_next_14 rfl (lv_at hl 0 rfl) ?_
      refine u_geti cx hw F_X12_13 o_X12 rfl dX12_next_15 ?_
      refine lv_icmp_ge (tgt := 66) hx hb dX12_next_18 (by decide) (fun hc => ?_) (fun hc => ?_)
      · replace hz := u_ift hz hc
        exact WJ66_4 x7 x8 _ _ _ hz hw (lv_sub hl [0, 1, 2] rfl)
      · replace hz := u_iff hz hc
        refine lv_aload_n hx hb dX12_next_21 rfl (lv_at hl 0 rfl) ?_
        refine lv_iload_n hx hb dX12_next_22 rfl (lv_at hl 3 rfl) ?_
        refine lv_iconst (v := 1) hx hb dX12_next_23 (by decide) ?_
        obtain ⟨v11, hv11, hz⟩ := u_bind hz
        refine u_callVi (As := [.int x9, .int 1]) (rest := []) cx hw LV_X12_325 (c_X12_coursesIf l G N s1 x9 1 v11 hv11) o_X12 rfl (by decide) hl.1 rfl (Nat.le_of_ble_eq_true rfl) dX12_next_24 rfl (fun H locs hw => ?_)
        refine lv_aload_n hx hb dX12_next_27 rfl (lv_at hl 0 rfl) ?_
        refine lv_iload_n hx hb dX12_next_28 rfl (lv_at hl 3 rfl) ?_
        refine lv_iconst (v := 0) hx hb dX12_next_29 (by decide) ?_
        obtain ⟨v12, hv12, hz⟩ := u_bind hz
        refine u_callVi (As := [.int x9, .int 0]) (rest := [.int v11]) cx hw LV_X12_325 (c_X12_coursesIf l G N s1 x9 0 v12 hv12) o_X12 rfl (by decide) hl.1 rfl (Nat.le_of_ble_eq_true rfl) dX12_next_30 rfl (fun H locs hw => ?_)
        refine u_mmax cx LM_X12_224 (by decide) hl.1 (Nat.le_of_ble_eq_true rfl) dX12_next_33 ?_
        obtain ⟨x13, ex13, hz⟩ := u_let hz
        refine u_topi ex13 ?_
        refine lv_istore (lv' := [(4, .int x13), (0, .ref (G.2.2 0)), (1, .int x7), (2, .int x8), (3, .int x9)]) hx hb dX12_next_36 hl (by decide) rfl (fun ls hl => ?_)
        refine lv_iload hx hb dX12_next_38 (lv_at hl 0 rfl) ?_
        refine lv_if_ne (tgt := 46) hx hb dX12_next_40 (by decide) (fun hc => ?_) (fun hc => ?_)
        · replace hz := u_iff hz hc
          refine lv_iload hx hb dX12_next_46 (lv_at hl 0 rfl) ?_
          refine lv_iload_n hx hb dX12_next_48 rfl (lv_at hl 3 rfl) ?_
          obtain ⟨J60_16, eJ60_16, hz⟩ := u_let hz
          have WJ60_16 : ∀ (x14 : Int32) (x15 : Int32) (H : Heap) (locs : List Loc) (ls : Array Slot), J60_16 x14 x15 = some z → u_W ZM G s1 s H locs → lv_has ls 5 [(0, .ref (G.2.2 0)), (1, .int x14), (2, .int x15), (3, .int x9)] → W p l e (u_rm 3) s m args below meth c H locs 0 0 (u_Qi below ZM G s args z.1 z.2) (F0 m 60 ls []) := by
            intro x14 x15 H locs ls hz hw hl
            rw [eJ60_16] at hz
            obtain ⟨x17, ex17, hz⟩ := u_let hz
            refine lv_iinc (v := x17) (lv' := [(3, .int x17), (0, .ref (G.2.2 0)), (1, .int x14), (2, .int x15)]) hx hb dX12_next_60 hl (k := 3) rfl (by rw [ex17]; rfl) (by decide) rfl (fun ls hl => ?_)
            refine lv_goto (tgt := 13) hx hb dX12_next_63 (by decide) ?_
            exact ih13_10 x14 x15 x17 _ _ _ hz hw (lv_sub hl [1, 2, 3, 0] rfl)
          refine lv_icmp_lt (tgt := 55) hx hb dX12_next_49 (by decide) (fun hc => ?_) (fun hc => ?_)
          · replace hz := u_ift hz hc
            refine lv_iload_n hx hb dX12_next_55 rfl (lv_at hl 4 rfl) ?_
            refine lv_istore_n (lv' := [(1, .int x9), (4, .int x13), (0, .ref (G.2.2 0)), (2, .int x8), (3, .int x9)]) hx hb dX12_next_56 rfl hl (by decide) rfl (fun ls hl => ?_)
            refine lv_iload hx hb dX12_next_57 (lv_at hl 1 rfl) ?_
            refine lv_istore_n (lv' := [(2, .int x13), (1, .int x9), (4, .int x13), (0, .ref (G.2.2 0)), (3, .int x9)]) hx hb dX12_next_59 rfl hl (by decide) rfl (fun ls hl => ?_)
            exact WJ60_16 x9 x13 _ _ _ hz hw (lv_sub hl [3, 1, 0, 4] rfl)
          · replace hz := u_iff hz hc
            refine lv_goto (tgt := 60) hx hb dX12_next_52 (by decide) ?_
            exact WJ60_16 x7 x8 _ _ _ hz hw (lv_sub hl [1, 2, 3, 4] rfl)
        · replace hz := u_ift hz hc
          refine lv_bipush (v := (-2)) hx hb dX12_next_43 (by decide) ?_
          exact u_iret cx hw (u_pair hz) dX12_next_45
  exact WL13_17 N (-1) 1000000 0 _ _ _ hz hw (lv_sub hl [3, 2, 1, 0] rfl)
theorem dX12_dues_0 : decode cX12_dues 0 = .ok (.aload_n 0, 1) := by decide +kernel
theorem dX12_dues_1 : decode cX12_dues 1 = .ok (.iconst 0, 1) := by decide +kernel
theorem dX12_dues_2 : decode cX12_dues 2 = .ok (.putfield 77, 3) := by decide +kernel
theorem dX12_dues_5 : decode cX12_dues 5 = .ok (.iload_n 1, 1) := by decide +kernel
theorem dX12_dues_6 : decode cX12_dues 6 = .ok (.iconst 0, 1) := by decide +kernel
theorem dX12_dues_7 : decode cX12_dues 7 = .ok (.sipush 999, 3) := by decide +kernel
theorem dX12_dues_10 : decode cX12_dues 10 = .ok (.invokestatic 86, 3) := by decide +kernel
theorem dX12_dues_13 : decode cX12_dues 13 = .ok (.ifCond .ne 5, 3) := by decide +kernel
theorem dX12_dues_16 : decode cX12_dues 16 = .ok (.iconst (-1), 1) := by decide +kernel
theorem dX12_dues_17 : decode cX12_dues 17 = .ok (.ireturn, 1) := by decide +kernel
theorem dX12_dues_18 : decode cX12_dues 18 = .ok (.aload_n 0, 1) := by decide +kernel
theorem dX12_dues_19 : decode cX12_dues 19 = .ok (.aload_n 0, 1) := by decide +kernel
theorem dX12_dues_20 : decode cX12_dues 20 = .ok (.getfield 9, 3) := by decide +kernel
theorem dX12_dues_23 : decode cX12_dues 23 = .ok (.aload_n 0, 1) := by decide +kernel
theorem dX12_dues_24 : decode cX12_dues 24 = .ok (.getfield 9, 3) := by decide +kernel
theorem dX12_dues_27 : decode cX12_dues 27 = .ok (.bipush 32, 2) := by decide +kernel
theorem dX12_dues_29 : decode cX12_dues 29 = .ok (.iaload, 1) := by decide +kernel
theorem dX12_dues_30 : decode cX12_dues 30 = .ok (.aload_n 0, 1) := by decide +kernel
theorem dX12_dues_31 : decode cX12_dues 31 = .ok (.getfield 9, 3) := by decide +kernel
theorem dX12_dues_34 : decode cX12_dues 34 = .ok (.bipush 33, 2) := by decide +kernel
theorem dX12_dues_36 : decode cX12_dues 36 = .ok (.iaload, 1) := by decide +kernel
theorem dX12_dues_37 : decode cX12_dues 37 = .ok (.invokevirtual 246, 3) := by decide +kernel
theorem dX12_dues_40 : decode cX12_dues 40 = .ok (.istore_n 2, 1) := by decide +kernel
theorem dX12_dues_41 : decode cX12_dues 41 = .ok (.iload_n 2, 1) := by decide +kernel
theorem dX12_dues_42 : decode cX12_dues 42 = .ok (.ifCond .ne 6, 3) := by decide +kernel
theorem dX12_dues_45 : decode cX12_dues 45 = .ok (.bipush (-2), 2) := by decide +kernel
theorem dX12_dues_47 : decode cX12_dues 47 = .ok (.ireturn, 1) := by decide +kernel
theorem dX12_dues_48 : decode cX12_dues 48 = .ok (.iload_n 1, 1) := by decide +kernel
theorem dX12_dues_49 : decode cX12_dues 49 = .ok (.istore_n 3, 1) := by decide +kernel
theorem dX12_dues_50 : decode cX12_dues 50 = .ok (.aload_n 0, 1) := by decide +kernel
theorem dX12_dues_51 : decode cX12_dues 51 = .ok (.getfield 9, 3) := by decide +kernel
theorem dX12_dues_54 : decode cX12_dues 54 = .ok (.bipush 32, 2) := by decide +kernel
theorem dX12_dues_56 : decode cX12_dues 56 = .ok (.iaload, 1) := by decide +kernel
theorem dX12_dues_57 : decode cX12_dues 57 = .ok (.istore 4, 2) := by decide +kernel
theorem dX12_dues_59 : decode cX12_dues 59 = .ok (.iload 4, 2) := by decide +kernel
theorem dX12_dues_61 : decode cX12_dues 61 = .ok (.aload_n 0, 1) := by decide +kernel
theorem dX12_dues_62 : decode cX12_dues 62 = .ok (.getfield 9, 3) := by decide +kernel
theorem dX12_dues_65 : decode cX12_dues 65 = .ok (.bipush 33, 2) := by decide +kernel
theorem dX12_dues_67 : decode cX12_dues 67 = .ok (.iaload, 1) := by decide +kernel
theorem dX12_dues_68 : decode cX12_dues 68 = .ok (.if_icmp .gt 40, 3) := by decide +kernel
theorem dX12_dues_71 : decode cX12_dues 71 = .ok (.aload_n 0, 1) := by decide +kernel
theorem dX12_dues_72 : decode cX12_dues 72 = .ok (.getfield 64, 3) := by decide +kernel
theorem dX12_dues_75 : decode cX12_dues 75 = .ok (.iload 4, 2) := by decide +kernel
theorem dX12_dues_77 : decode cX12_dues 77 = .ok (.iload_n 1, 1) := by decide +kernel
theorem dX12_dues_78 : decode cX12_dues 78 = .ok (.aload_n 0, 1) := by decide +kernel
theorem dX12_dues_79 : decode cX12_dues 79 = .ok (.getfield 9, 3) := by decide +kernel
theorem dX12_dues_82 : decode cX12_dues 82 = .ok (.bipush 16, 2) := by decide +kernel
theorem dX12_dues_84 : decode cX12_dues 84 = .ok (.iload 4, 2) := by decide +kernel
theorem dX12_dues_86 : decode cX12_dues 86 = .ok (.iadd, 1) := by decide +kernel
theorem dX12_dues_87 : decode cX12_dues 87 = .ok (.iaload, 1) := by decide +kernel
theorem dX12_dues_88 : decode cX12_dues 88 = .ok (.imul, 1) := by decide +kernel
theorem dX12_dues_89 : decode cX12_dues 89 = .ok (.iload_n 2, 1) := by decide +kernel
theorem dX12_dues_90 : decode cX12_dues 90 = .ok (.idiv, 1) := by decide +kernel
theorem dX12_dues_91 : decode cX12_dues 91 = .ok (.iastore, 1) := by decide +kernel
theorem dX12_dues_92 : decode cX12_dues 92 = .ok (.iload_n 3, 1) := by decide +kernel
theorem dX12_dues_93 : decode cX12_dues 93 = .ok (.aload_n 0, 1) := by decide +kernel
theorem dX12_dues_94 : decode cX12_dues 94 = .ok (.getfield 64, 3) := by decide +kernel
theorem dX12_dues_97 : decode cX12_dues 97 = .ok (.iload 4, 2) := by decide +kernel
theorem dX12_dues_99 : decode cX12_dues 99 = .ok (.iaload, 1) := by decide +kernel
theorem dX12_dues_100 : decode cX12_dues 100 = .ok (.isub, 1) := by decide +kernel
theorem dX12_dues_101 : decode cX12_dues 101 = .ok (.istore_n 3, 1) := by decide +kernel
theorem dX12_dues_102 : decode cX12_dues 102 = .ok (.iinc 4 1, 3) := by decide +kernel
theorem dX12_dues_105 : decode cX12_dues 105 = .ok (.goto (-46), 3) := by decide +kernel
theorem dX12_dues_108 : decode cX12_dues 108 = .ok (.iconst 0, 1) := by decide +kernel
theorem dX12_dues_109 : decode cX12_dues 109 = .ok (.istore 4, 2) := by decide +kernel
theorem dX12_dues_111 : decode cX12_dues 111 = .ok (.iload_n 3, 1) := by decide +kernel
theorem dX12_dues_112 : decode cX12_dues 112 = .ok (.ifCond .le 110, 3) := by decide +kernel
theorem dX12_dues_115 : decode cX12_dues 115 = .ok (.iconst (-1), 1) := by decide +kernel
theorem dX12_dues_116 : decode cX12_dues 116 = .ok (.istore 5, 2) := by decide +kernel
theorem dX12_dues_118 : decode cX12_dues 118 = .ok (.aload_n 0, 1) := by decide +kernel
theorem dX12_dues_119 : decode cX12_dues 119 = .ok (.getfield 9, 3) := by decide +kernel
theorem dX12_dues_122 : decode cX12_dues 122 = .ok (.bipush 32, 2) := by decide +kernel
theorem dX12_dues_124 : decode cX12_dues 124 = .ok (.iaload, 1) := by decide +kernel
theorem dX12_dues_125 : decode cX12_dues 125 = .ok (.istore 6, 2) := by decide +kernel
theorem dX12_dues_127 : decode cX12_dues 127 = .ok (.iload 6, 2) := by decide +kernel
theorem dX12_dues_129 : decode cX12_dues 129 = .ok (.aload_n 0, 1) := by decide +kernel
theorem dX12_dues_130 : decode cX12_dues 130 = .ok (.getfield 9, 3) := by decide +kernel
theorem dX12_dues_133 : decode cX12_dues 133 = .ok (.bipush 33, 2) := by decide +kernel
theorem dX12_dues_135 : decode cX12_dues 135 = .ok (.iaload, 1) := by decide +kernel
theorem dX12_dues_136 : decode cX12_dues 136 = .ok (.if_icmp .gt 60, 3) := by decide +kernel
theorem dX12_dues_139 : decode cX12_dues 139 = .ok (.iload 4, 2) := by decide +kernel
theorem dX12_dues_141 : decode cX12_dues 141 = .ok (.iload 6, 2) := by decide +kernel
theorem dX12_dues_143 : decode cX12_dues 143 = .ok (.invokestatic 198, 3) := by decide +kernel
theorem dX12_dues_146 : decode cX12_dues 146 = .ok (.ifCond .ne 44, 3) := by decide +kernel
theorem dX12_dues_149 : decode cX12_dues 149 = .ok (.iload 5, 2) := by decide +kernel
theorem dX12_dues_151 : decode cX12_dues 151 = .ok (.iconst (-1), 1) := by decide +kernel
theorem dX12_dues_152 : decode cX12_dues 152 = .ok (.if_icmp .eq 34, 3) := by decide +kernel
theorem dX12_dues_155 : decode cX12_dues 155 = .ok (.iload_n 1, 1) := by decide +kernel
theorem dX12_dues_156 : decode cX12_dues 156 = .ok (.aload_n 0, 1) := by decide +kernel
theorem dX12_dues_157 : decode cX12_dues 157 = .ok (.getfield 9, 3) := by decide +kernel
theorem dX12_dues_160 : decode cX12_dues 160 = .ok (.bipush 16, 2) := by decide +kernel
theorem dX12_dues_162 : decode cX12_dues 162 = .ok (.iload 6, 2) := by decide +kernel
theorem dX12_dues_164 : decode cX12_dues 164 = .ok (.iadd, 1) := by decide +kernel
theorem dX12_dues_165 : decode cX12_dues 165 = .ok (.iaload, 1) := by decide +kernel
theorem dX12_dues_166 : decode cX12_dues 166 = .ok (.imul, 1) := by decide +kernel
theorem dX12_dues_167 : decode cX12_dues 167 = .ok (.iload_n 2, 1) := by decide +kernel
theorem dX12_dues_168 : decode cX12_dues 168 = .ok (.irem, 1) := by decide +kernel
theorem dX12_dues_169 : decode cX12_dues 169 = .ok (.iload_n 1, 1) := by decide +kernel
theorem dX12_dues_170 : decode cX12_dues 170 = .ok (.aload_n 0, 1) := by decide +kernel
theorem dX12_dues_171 : decode cX12_dues 171 = .ok (.getfield 9, 3) := by decide +kernel
theorem dX12_dues_174 : decode cX12_dues 174 = .ok (.bipush 16, 2) := by decide +kernel
theorem dX12_dues_176 : decode cX12_dues 176 = .ok (.iload 5, 2) := by decide +kernel
theorem dX12_dues_178 : decode cX12_dues 178 = .ok (.iadd, 1) := by decide +kernel
theorem dX12_dues_179 : decode cX12_dues 179 = .ok (.iaload, 1) := by decide +kernel
theorem dX12_dues_180 : decode cX12_dues 180 = .ok (.imul, 1) := by decide +kernel
theorem dX12_dues_181 : decode cX12_dues 181 = .ok (.iload_n 2, 1) := by decide +kernel
theorem dX12_dues_182 : decode cX12_dues 182 = .ok (.irem, 1) := by decide +kernel
theorem dX12_dues_183 : decode cX12_dues 183 = .ok (.if_icmp .le 7, 3) := by decide +kernel
theorem dX12_dues_186 : decode cX12_dues 186 = .ok (.iload 6, 2) := by decide +kernel
theorem dX12_dues_188 : decode cX12_dues 188 = .ok (.istore 5, 2) := by decide +kernel
theorem dX12_dues_190 : decode cX12_dues 190 = .ok (.iinc 6 1, 3) := by decide +kernel
theorem dX12_dues_193 : decode cX12_dues 193 = .ok (.goto (-66), 3) := by decide +kernel
theorem dX12_dues_196 : decode cX12_dues 196 = .ok (.aload_n 0, 1) := by decide +kernel
theorem dX12_dues_197 : decode cX12_dues 197 = .ok (.getfield 64, 3) := by decide +kernel
theorem dX12_dues_200 : decode cX12_dues 200 = .ok (.iload 5, 2) := by decide +kernel
theorem dX12_dues_202 : decode cX12_dues 202 = .ok (.dup2, 1) := by decide +kernel
theorem dX12_dues_203 : decode cX12_dues 203 = .ok (.iaload, 1) := by decide +kernel
theorem dX12_dues_204 : decode cX12_dues 204 = .ok (.iconst 1, 1) := by decide +kernel
theorem dX12_dues_205 : decode cX12_dues 205 = .ok (.iadd, 1) := by decide +kernel
theorem dX12_dues_206 : decode cX12_dues 206 = .ok (.iastore, 1) := by decide +kernel
theorem dX12_dues_207 : decode cX12_dues 207 = .ok (.iload 4, 2) := by decide +kernel
theorem dX12_dues_209 : decode cX12_dues 209 = .ok (.iconst 1, 1) := by decide +kernel
theorem dX12_dues_210 : decode cX12_dues 210 = .ok (.iload 5, 2) := by decide +kernel
theorem dX12_dues_212 : decode cX12_dues 212 = .ok (.ishl, 1) := by decide +kernel
theorem dX12_dues_213 : decode cX12_dues 213 = .ok (.ior, 1) := by decide +kernel
theorem dX12_dues_214 : decode cX12_dues 214 = .ok (.istore 4, 2) := by decide +kernel
theorem dX12_dues_216 : decode cX12_dues 216 = .ok (.iinc 3 (-1), 3) := by decide +kernel
theorem dX12_dues_219 : decode cX12_dues 219 = .ok (.goto (-108), 3) := by decide +kernel
theorem dX12_dues_222 : decode cX12_dues 222 = .ok (.aload_n 0, 1) := by decide +kernel
theorem dX12_dues_223 : decode cX12_dues 223 = .ok (.iconst 0, 1) := by decide +kernel
theorem dX12_dues_224 : decode cX12_dues 224 = .ok (.putfield 80, 3) := by decide +kernel
theorem dX12_dues_227 : decode cX12_dues 227 = .ok (.aload_n 0, 1) := by decide +kernel
theorem dX12_dues_228 : decode cX12_dues 228 = .ok (.getfield 9, 3) := by decide +kernel
theorem dX12_dues_231 : decode cX12_dues 231 = .ok (.bipush 32, 2) := by decide +kernel
theorem dX12_dues_233 : decode cX12_dues 233 = .ok (.iaload, 1) := by decide +kernel
theorem dX12_dues_234 : decode cX12_dues 234 = .ok (.istore 5, 2) := by decide +kernel
theorem dX12_dues_236 : decode cX12_dues 236 = .ok (.iload 5, 2) := by decide +kernel
theorem dX12_dues_238 : decode cX12_dues 238 = .ok (.aload_n 0, 1) := by decide +kernel
theorem dX12_dues_239 : decode cX12_dues 239 = .ok (.getfield 9, 3) := by decide +kernel
theorem dX12_dues_242 : decode cX12_dues 242 = .ok (.bipush 33, 2) := by decide +kernel
theorem dX12_dues_244 : decode cX12_dues 244 = .ok (.iaload, 1) := by decide +kernel
theorem dX12_dues_245 : decode cX12_dues 245 = .ok (.if_icmp .gt 21, 3) := by decide +kernel
theorem dX12_dues_248 : decode cX12_dues 248 = .ok (.aload_n 0, 1) := by decide +kernel
theorem dX12_dues_249 : decode cX12_dues 249 = .ok (.aload_n 0, 1) := by decide +kernel
theorem dX12_dues_250 : decode cX12_dues 250 = .ok (.getfield 64, 3) := by decide +kernel
theorem dX12_dues_253 : decode cX12_dues 253 = .ok (.iload 5, 2) := by decide +kernel
theorem dX12_dues_255 : decode cX12_dues 255 = .ok (.iaload, 1) := by decide +kernel
theorem dX12_dues_256 : decode cX12_dues 256 = .ok (.i2l, 1) := by decide +kernel
theorem dX12_dues_257 : decode cX12_dues 257 = .ok (.invokevirtual 260, 3) := by decide +kernel
theorem dX12_dues_260 : decode cX12_dues 260 = .ok (.iinc 5 1, 3) := by decide +kernel
theorem dX12_dues_263 : decode cX12_dues 263 = .ok (.goto (-27), 3) := by decide +kernel
theorem dX12_dues_266 : decode cX12_dues 266 = .ok (.aload_n 0, 1) := by decide +kernel
theorem dX12_dues_267 : decode cX12_dues 267 = .ok (.getfield 64, 3) := by decide +kernel
theorem dX12_dues_270 : decode cX12_dues 270 = .ok (.aload_n 0, 1) := by decide +kernel
theorem dX12_dues_271 : decode cX12_dues 271 = .ok (.getfield 9, 3) := by decide +kernel
theorem dX12_dues_274 : decode cX12_dues 274 = .ok (.bipush 32, 2) := by decide +kernel
theorem dX12_dues_276 : decode cX12_dues 276 = .ok (.iaload, 1) := by decide +kernel
theorem dX12_dues_277 : decode cX12_dues 277 = .ok (.iaload, 1) := by decide +kernel
theorem dX12_dues_278 : decode cX12_dues 278 = .ok (.ireturn, 1) := by decide +kernel
def b_X12_dues_236 (N : Nat) (J266_15 : uS → Option (Int32 × uS)) (rec236_20 : uS → Int32 → Option (Int32 × uS)) (s18 : uS) (x19 : Int32) : Option (Int32 × uS) :=
  (u_rI ZM s18 0 1 33).bind fun v21 =>
  if v21 < x19 then (J266_15 s18) else ((u_rI ZM s18 0 17 x19).bind fun v22 =>
  (f_X12_tell N s18 (Int32.toInt64 v22)).bind fun s23 =>
  u_jn (x19 + 1 : Int32) fun x24 =>
  rec236_20 s23 x24)
def b_X12_dues_127 (N : Nat) (p1 : Int32) (v5 : Int32) (s25 : uS) (x27 : Int32) (J196_31 : Int32 → Option (Int32 × uS)) (rec127_38 : Int32 → Int32 → Option (Int32 × uS)) (x36 : Int32) (x37 : Int32) : Option (Int32 × uS) :=
  (u_rI ZM s25 0 1 33).bind fun v39 =>
  if v39 < x37 then (J196_31 x36) else ((f_X12_has N s25 x27 x37).bind fun v40 =>
  u_jn (fun (x41 : Int32) => (u_jn (x37 + 1 : Int32) fun x43 =>
  rec127_38 x41 x43 : Option (Int32 × uS))) fun J190_42 =>
  if v40 = 0 then (u_jn ((J190_42 x37 : Option (Int32 × uS))) fun J186_44 =>
  if x36 = (-1) then (J186_44) else ((u_rI ZM s25 0 1 (16 + x37)).bind fun v45 =>
  u_ck (¬ (v5 : Int32) = 0) <|
  (u_rI ZM s25 0 1 (16 + x36)).bind fun v46 =>
  u_ck (¬ (v5 : Int32) = 0) <|
  if ((p1 * v45) - (p1 * v45) / v5 * v5) ≤ ((p1 * v46) - (p1 * v46) / v5 * v5) then (J190_42 x36) else (J186_44))) else (J190_42 x36))
def b_X12_dues_111 (N : Nat) (p1 : Int32) (v5 : Int32) (J222_11 : uS → Option (Int32 × uS)) (rec111_28 : uS → Int32 → Int32 → Option (Int32 × uS)) (s25 : uS) (x26 : Int32) (x27 : Int32) : Option (Int32 × uS) :=
  if x26 ≤ 0 then (J222_11 s25) else ((u_rI ZM s25 0 1 32).bind fun v29 =>
  u_jn (fun (x30 : Int32) => ((u_rI ZM s25 0 17 x30).bind fun v32 =>
  (u_wI ZM s25 0 17 x30 (v32 + 1)).bind fun s33 =>
  u_jn ((x27 ||| (1 <<< (x30 &&& 31))) : Int32) fun x34 =>
  u_jn (x26 + (-1) : Int32) fun x35 =>
  rec111_28 s33 x35 x34 : Option (Int32 × uS))) fun J196_31 =>
  u_lp2 (b_X12_dues_127 N p1 v5 s25 x27 J196_31) N (-1) v29)
def b_X12_dues_59 (p1 : Int32) (v5 : Int32) (J108_9 : uS → Int32 → Option (Int32 × uS)) (rec59_50 : uS → Int32 → Int32 → Option (Int32 × uS)) (s47 : uS) (x48 : Int32) (x49 : Int32) : Option (Int32 × uS) :=
  (u_rI ZM s47 0 1 33).bind fun v51 =>
  if v51 < x49 then (J108_9 s47 x48) else ((u_rI ZM s47 0 1 (16 + x49)).bind fun v52 =>
  u_ck (¬ (v5 : Int32) = 0) <|
  (u_wI ZM s47 0 17 x49 ((p1 * v52) / v5)).bind fun s53 =>
  (u_rI ZM s53 0 17 x49).bind fun v54 =>
  u_jn ((x48 - v54) : Int32) fun x55 =>
  u_jn (x49 + 1 : Int32) fun x56 =>
  rec59_50 s53 x55 x56)
def f_X12_dues (N : Nat) (σ : uS) (p1 : Int32) : Option (Int32 × uS) := u_jn (u_pI σ 0 8 0) fun s1 =>
  (f_X12_in N s1 p1 0 999).bind fun v2 =>
  if v2 = 0 then (some ((-1), s1)) else ((u_rI ZM s1 0 1 32).bind fun v3 =>
  (u_rI ZM s1 0 1 33).bind fun v4 =>
  (f_X12_corn N s1 1 v3 v4).bind fun v5 =>
  if v5 = 0 then (some ((-2), s1)) else ((u_rI ZM s1 0 1 32).bind fun v6 =>
  u_jn (fun (s7 : uS) (x8 : Int32) => (u_jn (fun (s10 : uS) => (u_jn (u_pI s10 0 7 0) fun s12 =>
  (u_rI ZM s12 0 1 32).bind fun v13 =>
  u_jn (fun (s14 : uS) => ((u_rI ZM s14 0 1 32).bind fun v16 =>
  (u_rI ZM s14 0 17 v16).bind fun v17 =>
  some (v17, s14) : Option (Int32 × uS))) fun J266_15 =>
  u_lp2 (b_X12_dues_236 N J266_15) N s12 v13 : Option (Int32 × uS))) fun J222_11 =>
  u_lp3 (b_X12_dues_111 N p1 v5 J222_11) N s7 x8 0 : Option (Int32 × uS))) fun J108_9 =>
  u_lp3 (b_X12_dues_59 p1 v5 J108_9) N s1 p1 v6))
set_option maxRecDepth 100000 in
set_option maxHeartbeats 4000000 in
theorem c_X12_dues (l : Launch) (G : uG) (N : Nat) (σ : uS) (p1 : Int32) (z : (Int32 × uS)) (hz : f_X12_dues N σ p1 = some z) : u_Mi l ZM G yX12_dues cX12_dues 7 .int 1 [.ref (G.2.2 0), .int p1] σ z.1 z.2 := by
  refine u_Mi_of RX12 (by decide) rfl (Nat.le_of_ble_eq_true rfl) ?_
  intro p e s m args below meth c ls cx hw hl
  have hx := cx.1
  have hb := cx.2.1
  have hl : lv_has ls 7 [(0, .ref (G.2.2 0)), (1, .int p1)] := hl
  unfold f_X12_dues at hz
  refine lv_aload_n hx hb dX12_dues_0 rfl (lv_at hl 0 rfl) ?_
  refine lv_iconst (v := 0) hx hb dX12_dues_1 (by decide) ?_
  obtain ⟨s1, es1, hz⟩ := u_let hz
  refine u_puti2 cx hw P_X12_77 o_X12 rfl es1 dX12_dues_2 (fun H locs hw => ?_)
  refine lv_iload_n hx hb dX12_dues_5 rfl (lv_at hl 1 rfl) ?_
  refine lv_iconst (v := 0) hx hb dX12_dues_6 (by decide) ?_
  refine lv_sipush (v := 999) hx hb dX12_dues_7 (by decide) ?_
  obtain ⟨v2, hv2, hz⟩ := u_bind hz
  refine u_callSi (As := [.int p1, .int 0, .int 999]) (rest := []) cx hw LS_X12_86 (c_X12_in l G N s1 p1 0 999 v2 hv2) (by decide) hl.1 rfl (Nat.le_of_ble_eq_true rfl) dX12_dues_10 rfl (fun H locs hw => ?_)
  refine lv_if_ne (tgt := 18) hx hb dX12_dues_13 (by decide) (fun hc => ?_) (fun hc => ?_)
  · replace hz := u_iff hz hc
    refine lv_aload_n hx hb dX12_dues_18 rfl (lv_at hl 0 rfl) ?_
    refine lv_aload_n hx hb dX12_dues_19 rfl (lv_at hl 0 rfl) ?_
    refine u_getp cx hw F_X12_9 o_X12 rfl dX12_dues_20 ?_
    refine lv_aload_n hx hb dX12_dues_23 rfl (lv_at hl 0 rfl) ?_
    refine u_getp cx hw F_X12_9 o_X12 rfl dX12_dues_24 ?_
    refine lv_bipush (v := 32) hx hb dX12_dues_27 (by decide) ?_
    obtain ⟨v3, hv3, hz⟩ := u_bind hz
    refine u_iald cx hw hv3 dX12_dues_29 ?_
    refine lv_aload_n hx hb dX12_dues_30 rfl (lv_at hl 0 rfl) ?_
    refine u_getp cx hw F_X12_9 o_X12 rfl dX12_dues_31 ?_
    refine lv_bipush (v := 33) hx hb dX12_dues_34 (by decide) ?_
    obtain ⟨v4, hv4, hz⟩ := u_bind hz
    refine u_iald cx hw hv4 dX12_dues_36 ?_
    obtain ⟨v5, hv5, hz⟩ := u_bind hz
    refine u_callVi (As := [.ref (G.2.2 1), .int v3, .int v4]) (rest := []) cx hw LV_X12_246 (c_X12_corn l G N s1 1 v3 v4 v5 hv5) o_X12 rfl (by decide) hl.1 rfl (Nat.le_of_ble_eq_true rfl) dX12_dues_37 rfl (fun H locs hw => ?_)
    refine lv_istore_n (lv' := [(2, .int v5), (0, .ref (G.2.2 0)), (1, .int p1)]) hx hb dX12_dues_40 rfl hl (by decide) rfl (fun ls hl => ?_)
    refine lv_iload_n hx hb dX12_dues_41 rfl (lv_at hl 0 rfl) ?_
    refine lv_if_ne (tgt := 48) hx hb dX12_dues_42 (by decide) (fun hc => ?_) (fun hc => ?_)
    · replace hz := u_iff hz hc
      refine lv_iload_n hx hb dX12_dues_48 rfl (lv_at hl 2 rfl) ?_
      refine lv_istore_n (lv' := [(3, .int p1), (2, .int v5), (0, .ref (G.2.2 0)), (1, .int p1)]) hx hb dX12_dues_49 rfl hl (by decide) rfl (fun ls hl => ?_)
      refine lv_aload_n hx hb dX12_dues_50 rfl (lv_at hl 2 rfl) ?_
      refine u_getp cx hw F_X12_9 o_X12 rfl dX12_dues_51 ?_
      refine lv_bipush (v := 32) hx hb dX12_dues_54 (by decide) ?_
      obtain ⟨v6, hv6, hz⟩ := u_bind hz
      refine u_iald cx hw hv6 dX12_dues_56 ?_
      refine lv_istore (lv' := [(4, .int v6), (3, .int p1), (2, .int v5), (0, .ref (G.2.2 0)), (1, .int p1)]) hx hb dX12_dues_57 hl (by decide) rfl (fun ls hl => ?_)
      obtain ⟨J108_9, eJ108_9, hz⟩ := u_let hz
      have WJ108_9 : ∀ (s7 : uS) (x8 : Int32) (H : Heap) (locs : List Loc) (ls : Array Slot), J108_9 s7 x8 = some z → u_W ZM G s7 s H locs → lv_has ls 7 [(0, .ref (G.2.2 0)), (1, .int p1), (2, .int v5), (3, .int x8)] → W p l e (u_rm 1) s m args below meth c H locs 0 0 (u_Qi below ZM G s args z.1 z.2) (F0 m 108 ls []) := by
        intro s7 x8 H locs ls hz hw hl
        rw [eJ108_9] at hz
        refine lv_iconst (v := 0) hx hb dX12_dues_108 (by decide) ?_
        refine lv_istore (lv' := [(4, .int 0), (0, .ref (G.2.2 0)), (1, .int p1), (2, .int v5), (3, .int x8)]) hx hb dX12_dues_109 hl (by decide) rfl (fun ls hl => ?_)
        obtain ⟨J222_11, eJ222_11, hz⟩ := u_let hz
        have WJ222_11 : ∀ (s10 : uS) (H : Heap) (locs : List Loc) (ls : Array Slot), J222_11 s10 = some z → u_W ZM G s10 s H locs → lv_has ls 7 [(0, .ref (G.2.2 0))] → W p l e (u_rm 1) s m args below meth c H locs 0 0 (u_Qi below ZM G s args z.1 z.2) (F0 m 222 ls []) := by
          intro s10 H locs ls hz hw hl
          rw [eJ222_11] at hz
          refine lv_aload_n hx hb dX12_dues_222 rfl (lv_at hl 0 rfl) ?_
          refine lv_iconst (v := 0) hx hb dX12_dues_223 (by decide) ?_
          obtain ⟨s12, es12, hz⟩ := u_let hz
          refine u_puti2 cx hw P_X12_80 o_X12 rfl es12 dX12_dues_224 (fun H locs hw => ?_)
          refine lv_aload_n hx hb dX12_dues_227 rfl (lv_at hl 0 rfl) ?_
          refine u_getp cx hw F_X12_9 o_X12 rfl dX12_dues_228 ?_
          refine lv_bipush (v := 32) hx hb dX12_dues_231 (by decide) ?_
          obtain ⟨v13, hv13, hz⟩ := u_bind hz
          refine u_iald cx hw hv13 dX12_dues_233 ?_
          refine lv_istore (lv' := [(5, .int v13), (0, .ref (G.2.2 0))]) hx hb dX12_dues_234 hl (by decide) rfl (fun ls hl => ?_)
          obtain ⟨J266_15, eJ266_15, hz⟩ := u_let hz
          have WJ266_15 : ∀ (s14 : uS) (H : Heap) (locs : List Loc) (ls : Array Slot), J266_15 s14 = some z → u_W ZM G s14 s H locs → lv_has ls 7 [(0, .ref (G.2.2 0))] → W p l e (u_rm 1) s m args below meth c H locs 0 0 (u_Qi below ZM G s args z.1 z.2) (F0 m 266 ls []) := by
            intro s14 H locs ls hz hw hl
            rw [eJ266_15] at hz
            refine lv_aload_n hx hb dX12_dues_266 rfl (lv_at hl 0 rfl) ?_
            refine u_getp cx hw F_X12_64 o_X12 rfl dX12_dues_267 ?_
            refine lv_aload_n hx hb dX12_dues_270 rfl (lv_at hl 0 rfl) ?_
            refine u_getp cx hw F_X12_9 o_X12 rfl dX12_dues_271 ?_
            refine lv_bipush (v := 32) hx hb dX12_dues_274 (by decide) ?_
            obtain ⟨v16, hv16, hz⟩ := u_bind hz
            refine u_iald cx hw hv16 dX12_dues_276 ?_
            obtain ⟨v17, hv17, hz⟩ := u_bind hz
            refine u_iald cx hw hv17 dX12_dues_277 ?_
            exact u_iret cx hw (u_pair hz) dX12_dues_278
          have WL236_24 : ∀ (k : Nat) (s18 : uS) (x19 : Int32) (H : Heap) (locs : List Loc) (ls : Array Slot), u_lp2 (b_X12_dues_236 N J266_15) k s18 x19 = some z → u_W ZM G s18 s H locs → lv_has ls 7 [(0, .ref (G.2.2 0)), (5, .int x19)] → W p l e (u_rm 1) s m args below meth c H locs 0 0 (u_Qi below ZM G s args z.1 z.2) (F0 m 236 ls []) := by
            intro k
            induction k with
            | zero =>
              intro s18 x19 H locs ls hz
              exact absurd hz (by intro h9; cases h9)
            | succ k ih236_20 =>
              intro s18 x19 H locs ls hz hw hl
              have hz : (b_X12_dues_236 N J266_15) (u_lp2 (b_X12_dues_236 N J266_15) k) s18 x19 = some z := hz
              unfold b_X12_dues_236 at hz
              refine lv_iload hx hb dX12_dues_236 (lv_at hl 1 rfl) ?_
              refine lv_aload_n hx hb dX12_dues_238 rfl (lv_at hl 0 rfl) ?_
              refine u_getp cx hw F_X12_9 o_X12 rfl dX12_dues_239 ?_
              refine lv_bipush (v := 33) hx hb dX12_dues_242 (by decide) ?_
              obtain ⟨v21, hv21, hz⟩ := u_bind hz
              refine u_iald cx hw hv21 dX12_dues_244 ?_
              refine lv_icmp_gt (tgt := 266) hx hb dX12_dues_245 (by decide) (fun hc => ?_) (fun hc => ?_)
              · replace hz := u_ift hz hc
                exact WJ266_15 s18 _ _ _ hz hw (lv_sub hl [0] rfl)
              · replace hz := u_iff hz hc
                refine lv_aload_n hx hb dX12_dues_248 rfl (lv_at hl 0 rfl) ?_
                refine lv_aload_n hx hb dX12_dues_249 rfl (lv_at hl 0 rfl) ?_
                refine u_getp cx hw F_X12_64 o_X12 rfl dX12_dues_250 ?_
                refine lv_iload hx hb dX12_dues_253 (lv_at hl 1 rfl) ?_
                obtain ⟨v22, hv22, hz⟩ := u_bind hz
                refine u_iald cx hw hv22 dX12_dues_255 ?_
                refine lv_i2l (v := (Int32.toInt64 v22)) hx hb dX12_dues_256 rfl ?_
                obtain ⟨s23, hs23, hz⟩ := u_bind hz
                refine u_callVv (As := [.long (Int32.toInt64 v22)]) (rest := []) cx hw LV_X12_260 (c_X12_tell l G N s18 (Int32.toInt64 v22) s23 hs23) o_X12 rfl (by decide) hl.1 rfl (Nat.le_of_ble_eq_true rfl) dX12_dues_257 rfl (fun H locs hw => ?_)
                obtain ⟨x24, ex24, hz⟩ := u_let hz
                refine lv_iinc (v := x24) (lv' := [(5, .int x24), (0, .ref (G.2.2 0))]) hx hb dX12_dues_260 hl (k := 1) rfl (by rw [ex24]; rfl) (by decide) rfl (fun ls hl => ?_)
                refine lv_goto (tgt := 236) hx hb dX12_dues_263 (by decide) ?_
                exact ih236_20 s23 x24 _ _ _ hz hw (lv_sub hl [1, 0] rfl)
          exact WL236_24 N s12 v13 _ _ _ hz hw (lv_sub hl [1, 0] rfl)
        have WL111_46 : ∀ (k : Nat) (s25 : uS) (x26 : Int32) (x27 : Int32) (H : Heap) (locs : List Loc) (ls : Array Slot), u_lp3 (b_X12_dues_111 N p1 v5 J222_11) k s25 x26 x27 = some z → u_W ZM G s25 s H locs → lv_has ls 7 [(0, .ref (G.2.2 0)), (1, .int p1), (2, .int v5), (3, .int x26), (4, .int x27)] → W p l e (u_rm 1) s m args below meth c H locs 0 0 (u_Qi below ZM G s args z.1 z.2) (F0 m 111 ls []) := by
          intro k
          induction k with
          | zero =>
            intro s25 x26 x27 H locs ls hz
            exact absurd hz (by intro h9; cases h9)
          | succ k ih111_28 =>
            intro s25 x26 x27 H locs ls hz hw hl
            have hz : (b_X12_dues_111 N p1 v5 J222_11) (u_lp3 (b_X12_dues_111 N p1 v5 J222_11) k) s25 x26 x27 = some z := hz
            unfold b_X12_dues_111 at hz
            refine lv_iload_n hx hb dX12_dues_111 rfl (lv_at hl 3 rfl) ?_
            refine lv_if_le (tgt := 222) hx hb dX12_dues_112 (by decide) (fun hc => ?_) (fun hc => ?_)
            · replace hz := u_ift hz hc
              exact WJ222_11 s25 _ _ _ hz hw (lv_sub hl [0] rfl)
            · replace hz := u_iff hz hc
              refine lv_iconst (v := (-1)) hx hb dX12_dues_115 (by decide) ?_
              refine lv_istore (lv' := [(5, .int (-1)), (0, .ref (G.2.2 0)), (1, .int p1), (2, .int v5), (3, .int x26), (4, .int x27)]) hx hb dX12_dues_116 hl (by decide) rfl (fun ls hl => ?_)
              refine lv_aload_n hx hb dX12_dues_118 rfl (lv_at hl 1 rfl) ?_
              refine u_getp cx hw F_X12_9 o_X12 rfl dX12_dues_119 ?_
              refine lv_bipush (v := 32) hx hb dX12_dues_122 (by decide) ?_
              obtain ⟨v29, hv29, hz⟩ := u_bind hz
              refine u_iald cx hw hv29 dX12_dues_124 ?_
              refine lv_istore (lv' := [(6, .int v29), (5, .int (-1)), (0, .ref (G.2.2 0)), (1, .int p1), (2, .int v5), (3, .int x26), (4, .int x27)]) hx hb dX12_dues_125 hl (by decide) rfl (fun ls hl => ?_)
              obtain ⟨J196_31, eJ196_31, hz⟩ := u_let hz
              have WJ196_31 : ∀ (x30 : Int32) (H : Heap) (locs : List Loc) (ls : Array Slot), J196_31 x30 = some z → u_W ZM G s25 s H locs → lv_has ls 7 [(0, .ref (G.2.2 0)), (1, .int p1), (2, .int v5), (3, .int x26), (4, .int x27), (5, .int x30)] → W p l e (u_rm 1) s m args below meth c H locs 0 0 (u_Qi below ZM G s args z.1 z.2) (F0 m 196 ls []) := by
                intro x30 H locs ls hz hw hl
                rw [eJ196_31] at hz
                refine lv_aload_n hx hb dX12_dues_196 rfl (lv_at hl 0 rfl) ?_
                refine u_getp cx hw F_X12_64 o_X12 rfl dX12_dues_197 ?_
                refine lv_iload hx hb dX12_dues_200 (lv_at hl 5 rfl) ?_
                refine lv_dup2_11 hx hb dX12_dues_202 rfl rfl ?_
                obtain ⟨v32, hv32, hz⟩ := u_bind hz
                refine u_iald cx hw hv32 dX12_dues_203 ?_
                refine lv_iconst (v := 1) hx hb dX12_dues_204 (by decide) ?_
                refine lv_iadd hx hb dX12_dues_205 ?_
                obtain ⟨s33, hs33, hz⟩ := u_bind hz
                refine u_iast cx hw hs33 dX12_dues_206 (fun H locs hw => ?_)
                refine lv_iload hx hb dX12_dues_207 (lv_at hl 4 rfl) ?_
                refine lv_iconst (v := 1) hx hb dX12_dues_209 (by decide) ?_
                refine lv_iload hx hb dX12_dues_210 (lv_at hl 5 rfl) ?_
                refine lv_ishl hx hb dX12_dues_212 ?_
                refine lv_ior hx hb dX12_dues_213 ?_
                obtain ⟨x34, ex34, hz⟩ := u_let hz
                refine u_topi ex34 ?_
                refine lv_istore (lv' := [(4, .int x34), (0, .ref (G.2.2 0)), (1, .int p1), (2, .int v5), (3, .int x26), (5, .int x30)]) hx hb dX12_dues_214 hl (by decide) rfl (fun ls hl => ?_)
                obtain ⟨x35, ex35, hz⟩ := u_let hz
                refine lv_iinc (v := x35) (lv' := [(3, .int x35), (4, .int x34), (0, .ref (G.2.2 0)), (1, .int p1), (2, .int v5), (5, .int x30)]) hx hb dX12_dues_216 hl (k := 4) rfl (by rw [ex35]; rfl) (by decide) rfl (fun ls hl => ?_)
                refine lv_goto (tgt := 111) hx hb dX12_dues_219 (by decide) ?_
                exact ih111_28 s33 x35 x34 _ _ _ hz hw (lv_sub hl [2, 3, 4, 0, 1] rfl)
              have WL127_46 : ∀ (k : Nat) (x36 : Int32) (x37 : Int32) (H : Heap) (locs : List Loc) (ls : Array Slot), u_lp2 (b_X12_dues_127 N p1 v5 s25 x27 J196_31) k x36 x37 = some z → u_W ZM G s25 s H locs → lv_has ls 7 [(0, .ref (G.2.2 0)), (1, .int p1), (2, .int v5), (3, .int x26), (4, .int x27), (5, .int x36), (6, .int x37)] → W p l e (u_rm 1) s m args below meth c H locs 0 0 (u_Qi below ZM G s args z.1 z.2) (F0 m 127 ls []) := by
                intro k
                induction k with
                | zero =>
                  intro x36 x37 H locs ls hz
                  exact absurd hz (by intro h9; cases h9)
                | succ k ih127_38 =>
                  intro x36 x37 H locs ls hz hw hl
                  have hz : (b_X12_dues_127 N p1 v5 s25 x27 J196_31) (u_lp2 (b_X12_dues_127 N p1 v5 s25 x27 J196_31) k) x36 x37 = some z := hz
                  unfold b_X12_dues_127 at hz
                  refine lv_iload hx hb dX12_dues_127 (lv_at hl 6 rfl) ?_
                  refine lv_aload_n hx hb dX12_dues_129 rfl (lv_at hl 0 rfl) ?_
                  refine u_getp cx hw F_X12_9 o_X12 rfl dX12_dues_130 ?_
                  refine lv_bipush (v := 33) hx hb dX12_dues_133 (by decide) ?_
                  obtain ⟨v39, hv39, hz⟩ := u_bind hz
                  refine u_iald cx hw hv39 dX12_dues_135 ?_
                  refine lv_icmp_gt (tgt := 196) hx hb dX12_dues_136 (by decide) (fun hc => ?_) (fun hc => ?_)
                  · replace hz := u_ift hz hc
                    exact WJ196_31 x36 _ _ _ hz hw (lv_sub hl [0, 1, 2, 3, 4, 5] rfl)
                  · replace hz := u_iff hz hc
                    refine lv_iload hx hb dX12_dues_139 (lv_at hl 4 rfl) ?_
                    refine lv_iload hx hb dX12_dues_141 (lv_at hl 6 rfl) ?_
                    obtain ⟨v40, hv40, hz⟩ := u_bind hz
                    refine u_callSi (As := [.int x27, .int x37]) (rest := []) cx hw LS_X12_198 (c_X12_has l G N s25 x27 x37 v40 hv40) (by decide) hl.1 rfl (Nat.le_of_ble_eq_true rfl) dX12_dues_143 rfl (fun H locs hw => ?_)
                    obtain ⟨J190_42, eJ190_42, hz⟩ := u_let hz
                    have WJ190_42 : ∀ (x41 : Int32) (H : Heap) (locs : List Loc) (ls : Array Slot), J190_42 x41 = some z → u_W ZM G s25 s H locs → lv_has ls 7 [(0, .ref (G.2.2 0)), (1, .int p1), (2, .int v5), (3, .int x26), (4, .int x27), (5, .int x41), (6, .int x37)] → W p l e (u_rm 1) s m args below meth c H locs 0 0 (u_Qi below ZM G s args z.1 z.2) (F0 m 190 ls []) := by
                      intro x41 H locs ls hz hw hl
                      rw [eJ190_42] at hz
                      obtain ⟨x43, ex43, hz⟩ := u_let hz
                      refine lv_iinc (v := x43) (lv' := [(6, .int x43), (0, .ref (G.2.2 0)), (1, .int p1), (2, .int v5), (3, .int x26), (4, .int x27), (5, .int x41)]) hx hb dX12_dues_190 hl (k := 6) rfl (by rw [ex43]; rfl) (by decide) rfl (fun ls hl => ?_)
                      refine lv_goto (tgt := 127) hx hb dX12_dues_193 (by decide) ?_
                      exact ih127_38 x41 x43 _ _ _ hz hw (lv_sub hl [1, 2, 3, 4, 5, 6, 0] rfl)
                    refine lv_if_ne (tgt := 190) hx hb dX12_dues_146 (by decide) (fun hc => ?_) (fun hc => ?_)
                    · replace hz := u_iff hz hc
                      exact WJ190_42 x36 _ _ _ hz hw (lv_sub hl [0, 1, 2, 3, 4, 5, 6] rfl)
                    · replace hz := u_ift hz hc
                      refine lv_iload hx hb dX12_dues_149 (lv_at hl 5 rfl) ?_
                      refine lv_iconst (v := (-1)) hx hb dX12_dues_151 (by decide) ?_
                      obtain ⟨J186_44, eJ186_44, hz⟩ := u_let hz
                      have WJ186_44 : ∀ (H : Heap) (locs : List Loc) (ls : Array Slot), J186_44 = some z → u_W ZM G s25 s H locs → lv_has ls 7 [(0, .ref (G.2.2 0)), (1, .int p1), (2, .int v5), (3, .int x26), (4, .int x27), (6, .int x37)] → W p l e (u_rm 1) s m args below meth c H locs 0 0 (u_Qi below ZM G s args z.1 z.2) (F0 m 186 ls []) := by
                        intro H locs ls hz hw hl
                        rw [eJ186_44] at hz
                        refine lv_iload hx hb dX12_dues_186 (lv_at hl 5 rfl) ?_
                        refine lv_istore (lv' := [(5, .int x37), (0, .ref (G.2.2 0)), (1, .int p1), (2, .int v5), (3, .int x26), (4, .int x27), (6, .int x37)]) hx hb dX12_dues_188 hl (by decide) rfl (fun ls hl => ?_)
                        exact WJ190_42 x37 _ _ _ hz hw (lv_sub hl [1, 2, 3, 4, 5, 0, 6] rfl)
                      refine lv_icmp_eq (tgt := 186) hx hb dX12_dues_152 (by decide) (fun hc => ?_) (fun hc => ?_)
                      · replace hz := u_ift hz hc
                        exact WJ186_44 _ _ _ hz hw (lv_sub hl [0, 1, 2, 3, 4, 6] rfl)
                      · replace hz := u_iff hz hc
                        refine lv_iload_n hx hb dX12_dues_155 rfl (lv_at hl 1 rfl) ?_
                        refine lv_aload_n hx hb dX12_dues_156 rfl (lv_at hl 0 rfl) ?_
                        refine u_getp cx hw F_X12_9 o_X12 rfl dX12_dues_157 ?_
                        refine lv_bipush (v := 16) hx hb dX12_dues_160 (by decide) ?_
                        refine lv_iload hx hb dX12_dues_162 (lv_at hl 6 rfl) ?_
                        refine lv_iadd hx hb dX12_dues_164 ?_
                        obtain ⟨v45, hv45, hz⟩ := u_bind hz
                        refine u_iald cx hw hv45 dX12_dues_165 ?_
                        refine lv_imul hx hb dX12_dues_166 ?_
                        refine lv_iload_n hx hb dX12_dues_167 rfl (lv_at hl 2 rfl) ?_
                        obtain ⟨hne, hz⟩ := u_ck_some hz
                        refine lv_irem hx hb dX12_dues_168 hne ?_
                        refine lv_iload_n hx hb dX12_dues_169 rfl (lv_at hl 1 rfl) ?_
                        refine lv_aload_n hx hb dX12_dues_170 rfl (lv_at hl 0 rfl) ?_
                        refine u_getp cx hw F_X12_9 o_X12 rfl dX12_dues_171 ?_
                        refine lv_bipush (v := 16) hx hb dX12_dues_174 (by decide) ?_
                        refine lv_iload hx hb dX12_dues_176 (lv_at hl 5 rfl) ?_
                        refine lv_iadd hx hb dX12_dues_178 ?_
                        obtain ⟨v46, hv46, hz⟩ := u_bind hz
                        refine u_iald cx hw hv46 dX12_dues_179 ?_
                        refine lv_imul hx hb dX12_dues_180 ?_
                        refine lv_iload_n hx hb dX12_dues_181 rfl (lv_at hl 2 rfl) ?_
                        obtain ⟨hne, hz⟩ := u_ck_some hz
                        refine lv_irem hx hb dX12_dues_182 hne ?_
                        refine lv_icmp_le (tgt := 190) hx hb dX12_dues_183 (by decide) (fun hc => ?_) (fun hc => ?_)
                        · replace hz := u_ift hz hc
                          exact WJ190_42 x36 _ _ _ hz hw (lv_sub hl [0, 1, 2, 3, 4, 5, 6] rfl)
                        · replace hz := u_iff hz hc
                          exact WJ186_44 _ _ _ hz hw (lv_sub hl [0, 1, 2, 3, 4, 6] rfl)
              exact WL127_46 N (-1) v29 _ _ _ hz hw (lv_sub hl [2, 3, 4, 5, 6, 1, 0] rfl)
        exact WL111_46 N s7 x8 0 _ _ _ hz hw (lv_sub hl [1, 2, 3, 4, 0] rfl)
      have WL59_56 : ∀ (k : Nat) (s47 : uS) (x48 : Int32) (x49 : Int32) (H : Heap) (locs : List Loc) (ls : Array Slot), u_lp3 (b_X12_dues_59 p1 v5 J108_9) k s47 x48 x49 = some z → u_W ZM G s47 s H locs → lv_has ls 7 [(0, .ref (G.2.2 0)), (1, .int p1), (2, .int v5), (3, .int x48), (4, .int x49)] → W p l e (u_rm 1) s m args below meth c H locs 0 0 (u_Qi below ZM G s args z.1 z.2) (F0 m 59 ls []) := by
        intro k
        induction k with
        | zero =>
          intro s47 x48 x49 H locs ls hz
          exact absurd hz (by intro h9; cases h9)
        | succ k ih59_50 =>
          intro s47 x48 x49 H locs ls hz hw hl
          have hz : (b_X12_dues_59 p1 v5 J108_9) (u_lp3 (b_X12_dues_59 p1 v5 J108_9) k) s47 x48 x49 = some z := hz
          unfold b_X12_dues_59 at hz
          refine lv_iload hx hb dX12_dues_59 (lv_at hl 4 rfl) ?_
          refine lv_aload_n hx hb dX12_dues_61 rfl (lv_at hl 0 rfl) ?_
          refine u_getp cx hw F_X12_9 o_X12 rfl dX12_dues_62 ?_
          refine lv_bipush (v := 33) hx hb dX12_dues_65 (by decide) ?_
          obtain ⟨v51, hv51, hz⟩ := u_bind hz
          refine u_iald cx hw hv51 dX12_dues_67 ?_
          refine lv_icmp_gt (tgt := 108) hx hb dX12_dues_68 (by decide) (fun hc => ?_) (fun hc => ?_)
          · replace hz := u_ift hz hc
            exact WJ108_9 s47 x48 _ _ _ hz hw (lv_sub hl [0, 1, 2, 3] rfl)
          · replace hz := u_iff hz hc
            refine lv_aload_n hx hb dX12_dues_71 rfl (lv_at hl 0 rfl) ?_
            refine u_getp cx hw F_X12_64 o_X12 rfl dX12_dues_72 ?_
            refine lv_iload hx hb dX12_dues_75 (lv_at hl 4 rfl) ?_
            refine lv_iload_n hx hb dX12_dues_77 rfl (lv_at hl 1 rfl) ?_
            refine lv_aload_n hx hb dX12_dues_78 rfl (lv_at hl 0 rfl) ?_
            refine u_getp cx hw F_X12_9 o_X12 rfl dX12_dues_79 ?_
            refine lv_bipush (v := 16) hx hb dX12_dues_82 (by decide) ?_
            refine lv_iload hx hb dX12_dues_84 (lv_at hl 4 rfl) ?_
            refine lv_iadd hx hb dX12_dues_86 ?_
            obtain ⟨v52, hv52, hz⟩ := u_bind hz
            refine u_iald cx hw hv52 dX12_dues_87 ?_
            refine lv_imul hx hb dX12_dues_88 ?_
            refine lv_iload_n hx hb dX12_dues_89 rfl (lv_at hl 2 rfl) ?_
            obtain ⟨hne, hz⟩ := u_ck_some hz
            refine lv_idiv hx hb dX12_dues_90 hne ?_
            obtain ⟨s53, hs53, hz⟩ := u_bind hz
            refine u_iast cx hw hs53 dX12_dues_91 (fun H locs hw => ?_)
            refine lv_iload_n hx hb dX12_dues_92 rfl (lv_at hl 3 rfl) ?_
            refine lv_aload_n hx hb dX12_dues_93 rfl (lv_at hl 0 rfl) ?_
            refine u_getp cx hw F_X12_64 o_X12 rfl dX12_dues_94 ?_
            refine lv_iload hx hb dX12_dues_97 (lv_at hl 4 rfl) ?_
            obtain ⟨v54, hv54, hz⟩ := u_bind hz
            refine u_iald cx hw hv54 dX12_dues_99 ?_
            refine lv_isub hx hb dX12_dues_100 ?_
            obtain ⟨x55, ex55, hz⟩ := u_let hz
            refine u_topi ex55 ?_
            refine lv_istore_n (lv' := [(3, .int x55), (0, .ref (G.2.2 0)), (1, .int p1), (2, .int v5), (4, .int x49)]) hx hb dX12_dues_101 rfl hl (by decide) rfl (fun ls hl => ?_)
            obtain ⟨x56, ex56, hz⟩ := u_let hz
            refine lv_iinc (v := x56) (lv' := [(4, .int x56), (3, .int x55), (0, .ref (G.2.2 0)), (1, .int p1), (2, .int v5)]) hx hb dX12_dues_102 hl (k := 4) rfl (by rw [ex56]; rfl) (by decide) rfl (fun ls hl => ?_)
            refine lv_goto (tgt := 59) hx hb dX12_dues_105 (by decide) ?_
            exact ih59_50 s53 x55 x56 _ _ _ hz hw (lv_sub hl [2, 3, 4, 1, 0] rfl)
      exact WL59_56 N s1 p1 v6 _ _ _ hz hw (lv_sub hl [3, 4, 2, 1, 0] rfl)
    · replace hz := u_ift hz hc
      refine lv_bipush (v := (-2)) hx hb dX12_dues_45 (by decide) ?_
      exact u_iret cx hw (u_pair hz) dX12_dues_47
  · replace hz := u_ift hz hc
    refine lv_iconst (v := (-1)) hx hb dX12_dues_16 (by decide) ?_
    exact u_iret cx hw (u_pair hz) dX12_dues_17
