theorem dX12_letterOf_0 : decode cX12_letterOf 0 = .ok (.iload_n 0, 1) := by decide +kernel
theorem dX12_letterOf_1 : decode cX12_letterOf 1 = .ok (.bipush 98, 2) := by decide +kernel
theorem dX12_letterOf_3 : decode cX12_letterOf 3 = .ok (.if_icmp .ne 7, 3) := by decide +kernel
theorem dX12_letterOf_6 : decode cX12_letterOf 6 = .ok (.iconst 0, 1) := by decide +kernel
theorem dX12_letterOf_7 : decode cX12_letterOf 7 = .ok (.goto 65, 3) := by decide +kernel
theorem dX12_letterOf_10 : decode cX12_letterOf 10 = .ok (.iload_n 0, 1) := by decide +kernel
theorem dX12_letterOf_11 : decode cX12_letterOf 11 = .ok (.bipush 97, 2) := by decide +kernel
theorem dX12_letterOf_13 : decode cX12_letterOf 13 = .ok (.if_icmp .ne 7, 3) := by decide +kernel
theorem dX12_letterOf_16 : decode cX12_letterOf 16 = .ok (.iconst 1, 1) := by decide +kernel
theorem dX12_letterOf_17 : decode cX12_letterOf 17 = .ok (.goto 55, 3) := by decide +kernel
theorem dX12_letterOf_20 : decode cX12_letterOf 20 = .ok (.iload_n 0, 1) := by decide +kernel
theorem dX12_letterOf_21 : decode cX12_letterOf 21 = .ok (.bipush 110, 2) := by decide +kernel
theorem dX12_letterOf_23 : decode cX12_letterOf 23 = .ok (.if_icmp .ne 7, 3) := by decide +kernel
theorem dX12_letterOf_26 : decode cX12_letterOf 26 = .ok (.iconst 2, 1) := by decide +kernel
theorem dX12_letterOf_27 : decode cX12_letterOf 27 = .ok (.goto 45, 3) := by decide +kernel
theorem dX12_letterOf_30 : decode cX12_letterOf 30 = .ok (.iload_n 0, 1) := by decide +kernel
theorem dX12_letterOf_31 : decode cX12_letterOf 31 = .ok (.bipush 120, 2) := by decide +kernel
theorem dX12_letterOf_33 : decode cX12_letterOf 33 = .ok (.if_icmp .ne 7, 3) := by decide +kernel
theorem dX12_letterOf_36 : decode cX12_letterOf 36 = .ok (.iconst 3, 1) := by decide +kernel
theorem dX12_letterOf_37 : decode cX12_letterOf 37 = .ok (.goto 35, 3) := by decide +kernel
theorem dX12_letterOf_40 : decode cX12_letterOf 40 = .ok (.iload_n 0, 1) := by decide +kernel
theorem dX12_letterOf_41 : decode cX12_letterOf 41 = .ok (.bipush 103, 2) := by decide +kernel
theorem dX12_letterOf_43 : decode cX12_letterOf 43 = .ok (.if_icmp .ne 7, 3) := by decide +kernel
theorem dX12_letterOf_46 : decode cX12_letterOf 46 = .ok (.iconst 4, 1) := by decide +kernel
theorem dX12_letterOf_47 : decode cX12_letterOf 47 = .ok (.goto 25, 3) := by decide +kernel
theorem dX12_letterOf_50 : decode cX12_letterOf 50 = .ok (.iload_n 0, 1) := by decide +kernel
theorem dX12_letterOf_51 : decode cX12_letterOf 51 = .ok (.bipush 100, 2) := by decide +kernel
theorem dX12_letterOf_53 : decode cX12_letterOf 53 = .ok (.if_icmp .ne 7, 3) := by decide +kernel
theorem dX12_letterOf_56 : decode cX12_letterOf 56 = .ok (.iconst 5, 1) := by decide +kernel
theorem dX12_letterOf_57 : decode cX12_letterOf 57 = .ok (.goto 15, 3) := by decide +kernel
theorem dX12_letterOf_60 : decode cX12_letterOf 60 = .ok (.iload_n 0, 1) := by decide +kernel
theorem dX12_letterOf_61 : decode cX12_letterOf 61 = .ok (.bipush 101, 2) := by decide +kernel
theorem dX12_letterOf_63 : decode cX12_letterOf 63 = .ok (.if_icmp .ne 8, 3) := by decide +kernel
theorem dX12_letterOf_66 : decode cX12_letterOf 66 = .ok (.bipush 6, 2) := by decide +kernel
theorem dX12_letterOf_68 : decode cX12_letterOf 68 = .ok (.goto 4, 3) := by decide +kernel
theorem dX12_letterOf_71 : decode cX12_letterOf 71 = .ok (.iconst (-1), 1) := by decide +kernel
theorem dX12_letterOf_72 : decode cX12_letterOf 72 = .ok (.ireturn, 1) := by decide +kernel
def f_X12_letterOf (N : Nat) (σ : uS) (p0 : Int32) : Option Int32 := if p0 = 98 then (some 0) else (if p0 = 97 then (some 1) else (if p0 = 110 then (some 2) else (if p0 = 120 then (some 3) else (if p0 = 103 then (some 4) else (if p0 = 100 then (some 5) else (if p0 = 101 then (some 6) else (some (-1))))))))
set_option maxRecDepth 100000 in
set_option maxHeartbeats 4000000 in
theorem c_X12_letterOf (l : Launch) (G : uG) (N : Nat) (σ : uS) (p0 : Int32) (z : Int32) (hz : f_X12_letterOf N σ p0 = some z) : u_Mi l ZM G yX12_letterOf cX12_letterOf 1 .int 0 [.int p0] σ z σ := by
  refine u_Mi_of RX12 (by decide) rfl (Nat.le_of_ble_eq_true rfl) ?_
  intro p e s m args below meth c ls cx hw hl
  have hx := cx.1
  have hb := cx.2.1
  have hl : lv_has ls 1 [(0, .int p0)] := hl
  unfold f_X12_letterOf at hz
  refine lv_iload_n hx hb dX12_letterOf_0 rfl (lv_at hl 0 rfl) ?_
  refine lv_bipush (v := 98) hx hb dX12_letterOf_1 (by decide) ?_
  refine lv_icmp_ne (tgt := 10) hx hb dX12_letterOf_3 (by decide) (fun hc => ?_) (fun hc => ?_)
  · replace hz := u_iff hz hc
    refine lv_iload_n hx hb dX12_letterOf_10 rfl (lv_at hl 0 rfl) ?_
    refine lv_bipush (v := 97) hx hb dX12_letterOf_11 (by decide) ?_
    refine lv_icmp_ne (tgt := 20) hx hb dX12_letterOf_13 (by decide) (fun hc => ?_) (fun hc => ?_)
    · replace hz := u_iff hz hc
      refine lv_iload_n hx hb dX12_letterOf_20 rfl (lv_at hl 0 rfl) ?_
      refine lv_bipush (v := 110) hx hb dX12_letterOf_21 (by decide) ?_
      refine lv_icmp_ne (tgt := 30) hx hb dX12_letterOf_23 (by decide) (fun hc => ?_) (fun hc => ?_)
      · replace hz := u_iff hz hc
        refine lv_iload_n hx hb dX12_letterOf_30 rfl (lv_at hl 0 rfl) ?_
        refine lv_bipush (v := 120) hx hb dX12_letterOf_31 (by decide) ?_
        refine lv_icmp_ne (tgt := 40) hx hb dX12_letterOf_33 (by decide) (fun hc => ?_) (fun hc => ?_)
        · replace hz := u_iff hz hc
          refine lv_iload_n hx hb dX12_letterOf_40 rfl (lv_at hl 0 rfl) ?_
          refine lv_bipush (v := 103) hx hb dX12_letterOf_41 (by decide) ?_
          refine lv_icmp_ne (tgt := 50) hx hb dX12_letterOf_43 (by decide) (fun hc => ?_) (fun hc => ?_)
          · replace hz := u_iff hz hc
            refine lv_iload_n hx hb dX12_letterOf_50 rfl (lv_at hl 0 rfl) ?_
            refine lv_bipush (v := 100) hx hb dX12_letterOf_51 (by decide) ?_
            refine lv_icmp_ne (tgt := 60) hx hb dX12_letterOf_53 (by decide) (fun hc => ?_) (fun hc => ?_)
            · replace hz := u_iff hz hc
              refine lv_iload_n hx hb dX12_letterOf_60 rfl (lv_at hl 0 rfl) ?_
              refine lv_bipush (v := 101) hx hb dX12_letterOf_61 (by decide) ?_
              refine lv_icmp_ne (tgt := 71) hx hb dX12_letterOf_63 (by decide) (fun hc => ?_) (fun hc => ?_)
              · replace hz := u_iff hz hc
                refine lv_iconst (v := (-1)) hx hb dX12_letterOf_71 (by decide) ?_
                exact u_iret cx hw ⟨Option.some.inj hz, rfl⟩ dX12_letterOf_72
              · replace hz := u_ift hz hc
                refine lv_bipush (v := 6) hx hb dX12_letterOf_66 (by decide) ?_
                refine lv_goto (tgt := 72) hx hb dX12_letterOf_68 (by decide) ?_
                exact u_iret cx hw ⟨Option.some.inj hz, rfl⟩ dX12_letterOf_72
            · replace hz := u_ift hz hc
              refine lv_iconst (v := 5) hx hb dX12_letterOf_56 (by decide) ?_
              refine lv_goto (tgt := 72) hx hb dX12_letterOf_57 (by decide) ?_
              exact u_iret cx hw ⟨Option.some.inj hz, rfl⟩ dX12_letterOf_72
          · replace hz := u_ift hz hc
            refine lv_iconst (v := 4) hx hb dX12_letterOf_46 (by decide) ?_
            refine lv_goto (tgt := 72) hx hb dX12_letterOf_47 (by decide) ?_
            exact u_iret cx hw ⟨Option.some.inj hz, rfl⟩ dX12_letterOf_72
        · replace hz := u_ift hz hc
          refine lv_iconst (v := 3) hx hb dX12_letterOf_36 (by decide) ?_
          refine lv_goto (tgt := 72) hx hb dX12_letterOf_37 (by decide) ?_
          exact u_iret cx hw ⟨Option.some.inj hz, rfl⟩ dX12_letterOf_72
      · replace hz := u_ift hz hc
        refine lv_iconst (v := 2) hx hb dX12_letterOf_26 (by decide) ?_
        refine lv_goto (tgt := 72) hx hb dX12_letterOf_27 (by decide) ?_
        exact u_iret cx hw ⟨Option.some.inj hz, rfl⟩ dX12_letterOf_72
    · replace hz := u_ift hz hc
      refine lv_iconst (v := 1) hx hb dX12_letterOf_16 (by decide) ?_
      refine lv_goto (tgt := 72) hx hb dX12_letterOf_17 (by decide) ?_
      exact u_iret cx hw ⟨Option.some.inj hz, rfl⟩ dX12_letterOf_72
  · replace hz := u_ift hz hc
    refine lv_iconst (v := 0) hx hb dX12_letterOf_6 (by decide) ?_
    refine lv_goto (tgt := 72) hx hb dX12_letterOf_7 (by decide) ?_
    exact u_iret cx hw ⟨Option.some.inj hz, rfl⟩ dX12_letterOf_72
theorem dX12_sees_0 : decode cX12_sees 0 = .ok (.aload_n 1, 1) := by decide +kernel
theorem dX12_sees_1 : decode cX12_sees 1 = .ok (.bipush 8, 2) := by decide +kernel
theorem dX12_sees_3 : decode cX12_sees 3 = .ok (.iload_n 2, 1) := by decide +kernel
theorem dX12_sees_4 : decode cX12_sees 4 = .ok (.iadd, 1) := by decide +kernel
theorem dX12_sees_5 : decode cX12_sees 5 = .ok (.iaload, 1) := by decide +kernel
theorem dX12_sees_6 : decode cX12_sees 6 = .ok (.aload_n 0, 1) := by decide +kernel
theorem dX12_sees_7 : decode cX12_sees 7 = .ok (.invokevirtual 94, 3) := by decide +kernel
theorem dX12_sees_10 : decode cX12_sees 10 = .ok (.iand, 1) := by decide +kernel
theorem dX12_sees_11 : decode cX12_sees 11 = .ok (.ireturn, 1) := by decide +kernel
def f_X12_sees (N : Nat) (σ : uS) (a1 : Nat) (p2 : Int32) : Option Int32 := (u_rI ZM σ 0 a1 (8 + p2)).bind fun v1 =>
  (f_X12_all N σ).bind fun v2 =>
  some (v1 &&& v2)
set_option maxRecDepth 100000 in
set_option maxHeartbeats 4000000 in
theorem c_X12_sees (l : Launch) (G : uG) (N : Nat) (σ : uS) (a1 : Nat) (p2 : Int32) (z : Int32) (hz : f_X12_sees N σ a1 p2 = some z) : u_Mi l ZM G yX12_sees cX12_sees 3 .int 1 [.ref (G.2.2 0), .ref (G.2.2 a1), .int p2] σ z σ := by
  refine u_Mi_of RX12 (by decide) rfl (Nat.le_of_ble_eq_true rfl) ?_
  intro p e s m args below meth c ls cx hw hl
  have hx := cx.1
  have hb := cx.2.1
  have hl : lv_has ls 3 [(0, .ref (G.2.2 0)), (1, .ref (G.2.2 a1)), (2, .int p2)] := hl
  unfold f_X12_sees at hz
  refine lv_aload_n hx hb dX12_sees_0 rfl (lv_at hl 1 rfl) ?_
  refine lv_bipush (v := 8) hx hb dX12_sees_1 (by decide) ?_
  refine lv_iload_n hx hb dX12_sees_3 rfl (lv_at hl 2 rfl) ?_
  refine lv_iadd hx hb dX12_sees_4 ?_
  obtain ⟨v1, hv1, hz⟩ := u_bind hz
  refine u_iald cx hw hv1 dX12_sees_5 ?_
  refine lv_aload_n hx hb dX12_sees_6 rfl (lv_at hl 0 rfl) ?_
  obtain ⟨v2, hv2, hz⟩ := u_bind hz
  refine u_callVi (As := []) (rest := [.int v1]) cx hw LV_X12_94 (c_X12_all l G N σ v2 hv2) o_X12 rfl (by decide) hl.1 rfl (Nat.le_of_ble_eq_true rfl) dX12_sees_7 rfl (fun H locs hw => ?_)
  refine lv_iand hx hb dX12_sees_10 ?_
  exact u_iret cx hw ⟨Option.some.inj hz, rfl⟩ dX12_sees_11
theorem dX12_isIn_0 : decode cX12_isIn 0 = .ok (.aload_n 1, 1) := by decide +kernel
theorem dX12_isIn_1 : decode cX12_isIn 1 = .ok (.iload_n 2, 1) := by decide +kernel
theorem dX12_isIn_2 : decode cX12_isIn 2 = .ok (.iaload, 1) := by decide +kernel
theorem dX12_isIn_3 : decode cX12_isIn 3 = .ok (.aload_n 0, 1) := by decide +kernel
theorem dX12_isIn_4 : decode cX12_isIn 4 = .ok (.getfield 17, 3) := by decide +kernel
theorem dX12_isIn_7 : decode cX12_isIn 7 = .ok (.iload_n 2, 1) := by decide +kernel
theorem dX12_isIn_8 : decode cX12_isIn 8 = .ok (.iaload, 1) := by decide +kernel
theorem dX12_isIn_9 : decode cX12_isIn 9 = .ok (.if_icmp .lt 7, 3) := by decide +kernel
theorem dX12_isIn_12 : decode cX12_isIn 12 = .ok (.iconst 1, 1) := by decide +kernel
theorem dX12_isIn_13 : decode cX12_isIn 13 = .ok (.goto 4, 3) := by decide +kernel
theorem dX12_isIn_16 : decode cX12_isIn 16 = .ok (.iconst 0, 1) := by decide +kernel
theorem dX12_isIn_17 : decode cX12_isIn 17 = .ok (.ireturn, 1) := by decide +kernel
def f_X12_isIn (N : Nat) (σ : uS) (a1 : Nat) (p2 : Int32) : Option Int32 := (u_rI ZM σ 0 a1 p2).bind fun v1 =>
  (u_rI ZM σ 0 2 p2).bind fun v2 =>
  if v1 < v2 then (some 0) else (some 1)
set_option maxRecDepth 100000 in
set_option maxHeartbeats 4000000 in
theorem c_X12_isIn (l : Launch) (G : uG) (N : Nat) (σ : uS) (a1 : Nat) (p2 : Int32) (z : Int32) (hz : f_X12_isIn N σ a1 p2 = some z) : u_Mi l ZM G yX12_isIn cX12_isIn 3 .boolean 0 [.ref (G.2.2 0), .ref (G.2.2 a1), .int p2] σ z σ := by
  refine u_Mi_of RX12 (by decide) rfl (Nat.le_of_ble_eq_true rfl) ?_
  intro p e s m args below meth c ls cx hw hl
  have hx := cx.1
  have hb := cx.2.1
  have hl : lv_has ls 3 [(0, .ref (G.2.2 0)), (1, .ref (G.2.2 a1)), (2, .int p2)] := hl
  unfold f_X12_isIn at hz
  refine lv_aload_n hx hb dX12_isIn_0 rfl (lv_at hl 1 rfl) ?_
  refine lv_iload_n hx hb dX12_isIn_1 rfl (lv_at hl 2 rfl) ?_
  obtain ⟨v1, hv1, hz⟩ := u_bind hz
  refine u_iald cx hw hv1 dX12_isIn_2 ?_
  refine lv_aload_n hx hb dX12_isIn_3 rfl (lv_at hl 0 rfl) ?_
  refine u_getp cx hw F_X12_17 o_X12 rfl dX12_isIn_4 ?_
  refine lv_iload_n hx hb dX12_isIn_7 rfl (lv_at hl 2 rfl) ?_
  obtain ⟨v2, hv2, hz⟩ := u_bind hz
  refine u_iald cx hw hv2 dX12_isIn_8 ?_
  refine lv_icmp_lt (tgt := 16) hx hb dX12_isIn_9 (by decide) (fun hc => ?_) (fun hc => ?_)
  · replace hz := u_ift hz hc
    refine lv_iconst (v := 0) hx hb dX12_isIn_16 (by decide) ?_
    exact u_zret cx hw (Or.inl rfl) ⟨Option.some.inj hz, rfl⟩ dX12_isIn_17
  · replace hz := u_iff hz hc
    refine lv_iconst (v := 1) hx hb dX12_isIn_12 (by decide) ?_
    refine lv_goto (tgt := 17) hx hb dX12_isIn_13 (by decide) ?_
    exact u_zret cx hw (Or.inr rfl) ⟨Option.some.inj hz, rfl⟩ dX12_isIn_17
theorem dX12_inBits_0 : decode cX12_inBits 0 = .ok (.iconst 0, 1) := by decide +kernel
theorem dX12_inBits_1 : decode cX12_inBits 1 = .ok (.istore_n 2, 1) := by decide +kernel
theorem dX12_inBits_2 : decode cX12_inBits 2 = .ok (.iconst 0, 1) := by decide +kernel
theorem dX12_inBits_3 : decode cX12_inBits 3 = .ok (.istore_n 3, 1) := by decide +kernel
theorem dX12_inBits_4 : decode cX12_inBits 4 = .ok (.iload_n 3, 1) := by decide +kernel
theorem dX12_inBits_5 : decode cX12_inBits 5 = .ok (.aload_n 0, 1) := by decide +kernel
theorem dX12_inBits_6 : decode cX12_inBits 6 = .ok (.getfield 83, 3) := by decide +kernel
theorem dX12_inBits_9 : decode cX12_inBits 9 = .ok (.if_icmp .ge 28, 3) := by decide +kernel
theorem dX12_inBits_12 : decode cX12_inBits 12 = .ok (.iload_n 2, 1) := by decide +kernel
theorem dX12_inBits_13 : decode cX12_inBits 13 = .ok (.aload_n 0, 1) := by decide +kernel
theorem dX12_inBits_14 : decode cX12_inBits 14 = .ok (.aload_n 1, 1) := by decide +kernel
theorem dX12_inBits_15 : decode cX12_inBits 15 = .ok (.iload_n 3, 1) := by decide +kernel
theorem dX12_inBits_16 : decode cX12_inBits 16 = .ok (.invokevirtual 194, 3) := by decide +kernel
theorem dX12_inBits_19 : decode cX12_inBits 19 = .ok (.ifCond .eq 9, 3) := by decide +kernel
theorem dX12_inBits_22 : decode cX12_inBits 22 = .ok (.iconst 1, 1) := by decide +kernel
theorem dX12_inBits_23 : decode cX12_inBits 23 = .ok (.iload_n 3, 1) := by decide +kernel
theorem dX12_inBits_24 : decode cX12_inBits 24 = .ok (.ishl, 1) := by decide +kernel
theorem dX12_inBits_25 : decode cX12_inBits 25 = .ok (.goto 4, 3) := by decide +kernel
theorem dX12_inBits_28 : decode cX12_inBits 28 = .ok (.iconst 0, 1) := by decide +kernel
theorem dX12_inBits_29 : decode cX12_inBits 29 = .ok (.ior, 1) := by decide +kernel
theorem dX12_inBits_30 : decode cX12_inBits 30 = .ok (.istore_n 2, 1) := by decide +kernel
theorem dX12_inBits_31 : decode cX12_inBits 31 = .ok (.iinc 3 1, 3) := by decide +kernel
theorem dX12_inBits_34 : decode cX12_inBits 34 = .ok (.goto (-30), 3) := by decide +kernel
theorem dX12_inBits_37 : decode cX12_inBits 37 = .ok (.iload_n 2, 1) := by decide +kernel
theorem dX12_inBits_38 : decode cX12_inBits 38 = .ok (.ireturn, 1) := by decide +kernel
def b_X12_inBits_4 (N : Nat) (σ : uS) (a1 : Nat) (J37_2 : Int32 → Option Int32) (rec4_5 : Int32 → Int32 → Option Int32) (x3 : Int32) (x4 : Int32) : Option Int32 :=
  if (σ.1 0 2) ≤ x4 then (J37_2 x3) else ((f_X12_isIn N σ a1 x4).bind fun v6 =>
  u_jn (fun (t7 : Int32) => (u_jn ((x3 ||| t7) : Int32) fun x9 =>
  u_jn (x4 + 1 : Int32) fun x10 =>
  rec4_5 x9 x10 : Option Int32)) fun J29_8 =>
  if v6 = 0 then (J29_8 0) else (J29_8 (1 <<< (x4 &&& 31))))
def f_X12_inBits (N : Nat) (σ : uS) (a1 : Nat) : Option Int32 := u_jn (fun (x1 : Int32) => (some x1 : Option Int32)) fun J37_2 =>
  u_lp2 (b_X12_inBits_4 N σ a1 J37_2) N 0 0
set_option maxRecDepth 100000 in
set_option maxHeartbeats 4000000 in
theorem c_X12_inBits (l : Launch) (G : uG) (N : Nat) (σ : uS) (a1 : Nat) (z : Int32) (hz : f_X12_inBits N σ a1 = some z) : u_Mi l ZM G yX12_inBits cX12_inBits 4 .int 1 [.ref (G.2.2 0), .ref (G.2.2 a1)] σ z σ := by
  refine u_Mi_of RX12 (by decide) rfl (Nat.le_of_ble_eq_true rfl) ?_
  intro p e s m args below meth c ls cx hw hl
  have hx := cx.1
  have hb := cx.2.1
  have hl : lv_has ls 4 [(0, .ref (G.2.2 0)), (1, .ref (G.2.2 a1))] := hl
  unfold f_X12_inBits at hz
  refine lv_iconst (v := 0) hx hb dX12_inBits_0 (by decide) ?_
  refine lv_istore_n (lv' := [(2, .int 0), (0, .ref (G.2.2 0)), (1, .ref (G.2.2 a1))]) hx hb dX12_inBits_1 rfl hl (by decide) rfl (fun ls hl => ?_)
  refine lv_iconst (v := 0) hx hb dX12_inBits_2 (by decide) ?_
  refine lv_istore_n (lv' := [(3, .int 0), (2, .int 0), (0, .ref (G.2.2 0)), (1, .ref (G.2.2 a1))]) hx hb dX12_inBits_3 rfl hl (by decide) rfl (fun ls hl => ?_)
  obtain ⟨J37_2, eJ37_2, hz⟩ := u_let hz
  have WJ37_2 : ∀ (x1 : Int32) (H : Heap) (locs : List Loc) (ls : Array Slot), J37_2 x1 = some z → u_W ZM G σ s H locs → lv_has ls 4 [(2, .int x1)] → W p l e (u_rm 1) s m args below meth c H locs 0 0 (u_Qi below ZM G s args z σ) (F0 m 37 ls []) := by
    intro x1 H locs ls hz hw hl
    rw [eJ37_2] at hz
    refine lv_iload_n hx hb dX12_inBits_37 rfl (lv_at hl 0 rfl) ?_
    exact u_iret cx hw ⟨Option.some.inj hz, rfl⟩ dX12_inBits_38
  have WL4_10 : ∀ (k : Nat) (x3 : Int32) (x4 : Int32) (H : Heap) (locs : List Loc) (ls : Array Slot), u_lp2 (b_X12_inBits_4 N σ a1 J37_2) k x3 x4 = some z → u_W ZM G σ s H locs → lv_has ls 4 [(0, .ref (G.2.2 0)), (1, .ref (G.2.2 a1)), (2, .int x3), (3, .int x4)] → W p l e (u_rm 1) s m args below meth c H locs 0 0 (u_Qi below ZM G s args z σ) (F0 m 4 ls []) := by
    intro k
    induction k with
    | zero =>
      intro x3 x4 H locs ls hz
      exact absurd hz (by intro h9; cases h9)
    | succ k ih4_5 =>
      intro x3 x4 H locs ls hz hw hl
      have hz : (b_X12_inBits_4 N σ a1 J37_2) (u_lp2 (b_X12_inBits_4 N σ a1 J37_2) k) x3 x4 = some z := hz
      unfold b_X12_inBits_4 at hz
      refine lv_iload_n hx hb dX12_inBits_4 rfl (lv_at hl 3 rfl) ?_
      refine lv_aload_n hx hb dX12_inBits_5 rfl (lv_at hl 0 rfl) ?_
      refine u_geti cx hw F_X12_83 o_X12 rfl dX12_inBits_6 ?_
      refine lv_icmp_ge (tgt := 37) hx hb dX12_inBits_9 (by decide) (fun hc => ?_) (fun hc => ?_)
      · replace hz := u_ift hz hc
        exact WJ37_2 x3 _ _ _ hz hw (lv_sub hl [2] rfl)
      · replace hz := u_iff hz hc
        refine lv_iload_n hx hb dX12_inBits_12 rfl (lv_at hl 2 rfl) ?_
        refine lv_aload_n hx hb dX12_inBits_13 rfl (lv_at hl 0 rfl) ?_
        refine lv_aload_n hx hb dX12_inBits_14 rfl (lv_at hl 1 rfl) ?_
        refine lv_iload_n hx hb dX12_inBits_15 rfl (lv_at hl 3 rfl) ?_
        obtain ⟨v6, hv6, hz⟩ := u_bind hz
        refine u_callVi (As := [.ref (G.2.2 a1), .int x4]) (rest := [.int x3]) cx hw LV_X12_194 (c_X12_isIn l G N σ a1 x4 v6 hv6) o_X12 rfl (by decide) hl.1 rfl (Nat.le_of_ble_eq_true rfl) dX12_inBits_16 rfl (fun H locs hw => ?_)
        obtain ⟨J29_8, eJ29_8, hz⟩ := u_let hz
        have WJ29_8 : ∀ (t7 : Int32) (H : Heap) (locs : List Loc) (ls : Array Slot), J29_8 t7 = some z → u_W ZM G σ s H locs → lv_has ls 4 [(0, .ref (G.2.2 0)), (1, .ref (G.2.2 a1)), (3, .int x4)] → W p l e (u_rm 1) s m args below meth c H locs 0 0 (u_Qi below ZM G s args z σ) (F0 m 29 ls [.int t7, .int x3]) := by
          intro t7 H locs ls hz hw hl
          rw [eJ29_8] at hz
          refine lv_ior hx hb dX12_inBits_29 ?_
          obtain ⟨x9, ex9, hz⟩ := u_let hz
          refine u_topi ex9 ?_
          refine lv_istore_n (lv' := [(2, .int x9), (0, .ref (G.2.2 0)), (1, .ref (G.2.2 a1)), (3, .int x4)]) hx hb dX12_inBits_30 rfl hl (by decide) rfl (fun ls hl => ?_)
          obtain ⟨x10, ex10, hz⟩ := u_let hz
          refine lv_iinc (v := x10) (lv' := [(3, .int x10), (2, .int x9), (0, .ref (G.2.2 0)), (1, .ref (G.2.2 a1))]) hx hb dX12_inBits_31 hl (k := 3) rfl (by rw [ex10]; rfl) (by decide) rfl (fun ls hl => ?_)
          refine lv_goto (tgt := 4) hx hb dX12_inBits_34 (by decide) ?_
          exact ih4_5 x9 x10 _ _ _ hz hw (lv_sub hl [2, 3, 1, 0] rfl)
        refine lv_if_eq (tgt := 28) hx hb dX12_inBits_19 (by decide) (fun hc => ?_) (fun hc => ?_)
        · replace hz := u_ift hz hc
          refine lv_iconst (v := 0) hx hb dX12_inBits_28 (by decide) ?_
          exact WJ29_8 0 _ _ _ hz hw (lv_sub hl [0, 1, 3] rfl)
        · replace hz := u_iff hz hc
          refine lv_iconst (v := 1) hx hb dX12_inBits_22 (by decide) ?_
          refine lv_iload_n hx hb dX12_inBits_23 rfl (lv_at hl 3 rfl) ?_
          refine lv_ishl hx hb dX12_inBits_24 ?_
          refine lv_goto (tgt := 29) hx hb dX12_inBits_25 (by decide) ?_
          exact WJ29_8 (1 <<< (x4 &&& 31)) _ _ _ hz hw (lv_sub hl [0, 1, 3] rfl)
  exact WL4_10 N 0 0 _ _ _ hz hw (lv_sub hl [2, 3, 1, 0] rfl)
theorem dX12_beliefs_0 : decode cX12_beliefs 0 = .ok (.iconst 0, 1) := by decide +kernel
theorem dX12_beliefs_1 : decode cX12_beliefs 1 = .ok (.istore_n 3, 1) := by decide +kernel
theorem dX12_beliefs_2 : decode cX12_beliefs 2 = .ok (.iconst 0, 1) := by decide +kernel
theorem dX12_beliefs_3 : decode cX12_beliefs 3 = .ok (.istore 4, 2) := by decide +kernel
theorem dX12_beliefs_5 : decode cX12_beliefs 5 = .ok (.iload 4, 2) := by decide +kernel
theorem dX12_beliefs_7 : decode cX12_beliefs 7 = .ok (.aload_n 0, 1) := by decide +kernel
theorem dX12_beliefs_8 : decode cX12_beliefs 8 = .ok (.getfield 83, 3) := by decide +kernel
theorem dX12_beliefs_11 : decode cX12_beliefs 11 = .ok (.if_icmp .ge 29, 3) := by decide +kernel
theorem dX12_beliefs_14 : decode cX12_beliefs 14 = .ok (.iload_n 3, 1) := by decide +kernel
theorem dX12_beliefs_15 : decode cX12_beliefs 15 = .ok (.iload_n 2, 1) := by decide +kernel
theorem dX12_beliefs_16 : decode cX12_beliefs 16 = .ok (.iload 4, 2) := by decide +kernel
theorem dX12_beliefs_18 : decode cX12_beliefs 18 = .ok (.invokestatic 198, 3) := by decide +kernel
theorem dX12_beliefs_21 : decode cX12_beliefs 21 = .ok (.ifCond .eq 10, 3) := by decide +kernel
theorem dX12_beliefs_24 : decode cX12_beliefs 24 = .ok (.aload_n 1, 1) := by decide +kernel
theorem dX12_beliefs_25 : decode cX12_beliefs 25 = .ok (.iload 4, 2) := by decide +kernel
theorem dX12_beliefs_27 : decode cX12_beliefs 27 = .ok (.iaload, 1) := by decide +kernel
theorem dX12_beliefs_28 : decode cX12_beliefs 28 = .ok (.goto 4, 3) := by decide +kernel
theorem dX12_beliefs_31 : decode cX12_beliefs 31 = .ok (.iconst 0, 1) := by decide +kernel
theorem dX12_beliefs_32 : decode cX12_beliefs 32 = .ok (.iadd, 1) := by decide +kernel
theorem dX12_beliefs_33 : decode cX12_beliefs 33 = .ok (.istore_n 3, 1) := by decide +kernel
theorem dX12_beliefs_34 : decode cX12_beliefs 34 = .ok (.iinc 4 1, 3) := by decide +kernel
theorem dX12_beliefs_37 : decode cX12_beliefs 37 = .ok (.goto (-32), 3) := by decide +kernel
theorem dX12_beliefs_40 : decode cX12_beliefs 40 = .ok (.iload_n 3, 1) := by decide +kernel
theorem dX12_beliefs_41 : decode cX12_beliefs 41 = .ok (.ireturn, 1) := by decide +kernel
def b_X12_beliefs_5 (N : Nat) (σ : uS) (a1 : Nat) (p2 : Int32) (J40_2 : Int32 → Option Int32) (rec5_5 : Int32 → Int32 → Option Int32) (x3 : Int32) (x4 : Int32) : Option Int32 :=
  if (σ.1 0 2) ≤ x4 then (J40_2 x3) else ((f_X12_has N σ p2 x4).bind fun v6 =>
  u_jn (fun (t7 : Int32) => (u_jn ((x3 + t7) : Int32) fun x9 =>
  u_jn (x4 + 1 : Int32) fun x10 =>
  rec5_5 x9 x10 : Option Int32)) fun J32_8 =>
  if v6 = 0 then (J32_8 0) else ((u_rI ZM σ 0 a1 x4).bind fun v11 =>
  J32_8 v11))
def f_X12_beliefs (N : Nat) (σ : uS) (a1 : Nat) (p2 : Int32) : Option Int32 := u_jn (fun (x1 : Int32) => (some x1 : Option Int32)) fun J40_2 =>
  u_lp2 (b_X12_beliefs_5 N σ a1 p2 J40_2) N 0 0
set_option maxRecDepth 100000 in
set_option maxHeartbeats 4000000 in
theorem c_X12_beliefs (l : Launch) (G : uG) (N : Nat) (σ : uS) (a1 : Nat) (p2 : Int32) (z : Int32) (hz : f_X12_beliefs N σ a1 p2 = some z) : u_Mi l ZM G yX12_beliefs cX12_beliefs 5 .int 1 [.ref (G.2.2 0), .ref (G.2.2 a1), .int p2] σ z σ := by
  refine u_Mi_of RX12 (by decide) rfl (Nat.le_of_ble_eq_true rfl) ?_
  intro p e s m args below meth c ls cx hw hl
  have hx := cx.1
  have hb := cx.2.1
  have hl : lv_has ls 5 [(0, .ref (G.2.2 0)), (1, .ref (G.2.2 a1)), (2, .int p2)] := hl
  unfold f_X12_beliefs at hz
  refine lv_iconst (v := 0) hx hb dX12_beliefs_0 (by decide) ?_
  refine lv_istore_n (lv' := [(3, .int 0), (0, .ref (G.2.2 0)), (1, .ref (G.2.2 a1)), (2, .int p2)]) hx hb dX12_beliefs_1 rfl hl (by decide) rfl (fun ls hl => ?_)
  refine lv_iconst (v := 0) hx hb dX12_beliefs_2 (by decide) ?_
  refine lv_istore (lv' := [(4, .int 0), (3, .int 0), (0, .ref (G.2.2 0)), (1, .ref (G.2.2 a1)), (2, .int p2)]) hx hb dX12_beliefs_3 hl (by decide) rfl (fun ls hl => ?_)
  obtain ⟨J40_2, eJ40_2, hz⟩ := u_let hz
  have WJ40_2 : ∀ (x1 : Int32) (H : Heap) (locs : List Loc) (ls : Array Slot), J40_2 x1 = some z → u_W ZM G σ s H locs → lv_has ls 5 [(3, .int x1)] → W p l e (u_rm 1) s m args below meth c H locs 0 0 (u_Qi below ZM G s args z σ) (F0 m 40 ls []) := by
    intro x1 H locs ls hz hw hl
    rw [eJ40_2] at hz
    refine lv_iload_n hx hb dX12_beliefs_40 rfl (lv_at hl 0 rfl) ?_
    exact u_iret cx hw ⟨Option.some.inj hz, rfl⟩ dX12_beliefs_41
  have WL5_11 : ∀ (k : Nat) (x3 : Int32) (x4 : Int32) (H : Heap) (locs : List Loc) (ls : Array Slot), u_lp2 (b_X12_beliefs_5 N σ a1 p2 J40_2) k x3 x4 = some z → u_W ZM G σ s H locs → lv_has ls 5 [(0, .ref (G.2.2 0)), (1, .ref (G.2.2 a1)), (2, .int p2), (3, .int x3), (4, .int x4)] → W p l e (u_rm 1) s m args below meth c H locs 0 0 (u_Qi below ZM G s args z σ) (F0 m 5 ls []) := by
    intro k
    induction k with
    | zero =>
      intro x3 x4 H locs ls hz
      exact absurd hz (by intro h9; cases h9)
    | succ k ih5_5 =>
      intro x3 x4 H locs ls hz hw hl
      have hz : (b_X12_beliefs_5 N σ a1 p2 J40_2) (u_lp2 (b_X12_beliefs_5 N σ a1 p2 J40_2) k) x3 x4 = some z := hz
      unfold b_X12_beliefs_5 at hz
      refine lv_iload hx hb dX12_beliefs_5 (lv_at hl 4 rfl) ?_
      refine lv_aload_n hx hb dX12_beliefs_7 rfl (lv_at hl 0 rfl) ?_
      refine u_geti cx hw F_X12_83 o_X12 rfl dX12_beliefs_8 ?_
      refine lv_icmp_ge (tgt := 40) hx hb dX12_beliefs_11 (by decide) (fun hc => ?_) (fun hc => ?_)
      · replace hz := u_ift hz hc
        exact WJ40_2 x3 _ _ _ hz hw (lv_sub hl [3] rfl)
      · replace hz := u_iff hz hc
        refine lv_iload_n hx hb dX12_beliefs_14 rfl (lv_at hl 3 rfl) ?_
        refine lv_iload_n hx hb dX12_beliefs_15 rfl (lv_at hl 2 rfl) ?_
        refine lv_iload hx hb dX12_beliefs_16 (lv_at hl 4 rfl) ?_
        obtain ⟨v6, hv6, hz⟩ := u_bind hz
        refine u_callSi (As := [.int p2, .int x4]) (rest := [.int x3]) cx hw LS_X12_198 (c_X12_has l G N σ p2 x4 v6 hv6) (by decide) hl.1 rfl (Nat.le_of_ble_eq_true rfl) dX12_beliefs_18 rfl (fun H locs hw => ?_)
        obtain ⟨J32_8, eJ32_8, hz⟩ := u_let hz
        have WJ32_8 : ∀ (t7 : Int32) (H : Heap) (locs : List Loc) (ls : Array Slot), J32_8 t7 = some z → u_W ZM G σ s H locs → lv_has ls 5 [(0, .ref (G.2.2 0)), (1, .ref (G.2.2 a1)), (2, .int p2), (4, .int x4)] → W p l e (u_rm 1) s m args below meth c H locs 0 0 (u_Qi below ZM G s args z σ) (F0 m 32 ls [.int t7, .int x3]) := by
          intro t7 H locs ls hz hw hl
          rw [eJ32_8] at hz
          refine lv_iadd hx hb dX12_beliefs_32 ?_
          obtain ⟨x9, ex9, hz⟩ := u_let hz
          refine u_topi ex9 ?_
          refine lv_istore_n (lv' := [(3, .int x9), (0, .ref (G.2.2 0)), (1, .ref (G.2.2 a1)), (2, .int p2), (4, .int x4)]) hx hb dX12_beliefs_33 rfl hl (by decide) rfl (fun ls hl => ?_)
          obtain ⟨x10, ex10, hz⟩ := u_let hz
          refine lv_iinc (v := x10) (lv' := [(4, .int x10), (3, .int x9), (0, .ref (G.2.2 0)), (1, .ref (G.2.2 a1)), (2, .int p2)]) hx hb dX12_beliefs_34 hl (k := 4) rfl (by rw [ex10]; rfl) (by decide) rfl (fun ls hl => ?_)
          refine lv_goto (tgt := 5) hx hb dX12_beliefs_37 (by decide) ?_
          exact ih5_5 x9 x10 _ _ _ hz hw (lv_sub hl [2, 3, 4, 1, 0] rfl)
        refine lv_if_eq (tgt := 31) hx hb dX12_beliefs_21 (by decide) (fun hc => ?_) (fun hc => ?_)
        · replace hz := u_ift hz hc
          refine lv_iconst (v := 0) hx hb dX12_beliefs_31 (by decide) ?_
          exact WJ32_8 0 _ _ _ hz hw (lv_sub hl [0, 1, 2, 4] rfl)
        · replace hz := u_iff hz hc
          refine lv_aload_n hx hb dX12_beliefs_24 rfl (lv_at hl 1 rfl) ?_
          refine lv_iload hx hb dX12_beliefs_25 (lv_at hl 4 rfl) ?_
          obtain ⟨v11, hv11, hz⟩ := u_bind hz
          refine u_iald cx hw hv11 dX12_beliefs_27 ?_
          refine lv_goto (tgt := 32) hx hb dX12_beliefs_28 (by decide) ?_
          exact WJ32_8 v11 _ _ _ hz hw (lv_sub hl [0, 1, 2, 4] rfl)
  exact WL5_11 N 0 0 _ _ _ hz hw (lv_sub hl [2, 3, 4, 1, 0] rfl)
theorem dX12_seenBy_0 : decode cX12_seenBy 0 = .ok (.iconst 0, 1) := by decide +kernel
theorem dX12_seenBy_1 : decode cX12_seenBy 1 = .ok (.istore_n 3, 1) := by decide +kernel
theorem dX12_seenBy_2 : decode cX12_seenBy 2 = .ok (.iconst 0, 1) := by decide +kernel
theorem dX12_seenBy_3 : decode cX12_seenBy 3 = .ok (.istore 4, 2) := by decide +kernel
theorem dX12_seenBy_5 : decode cX12_seenBy 5 = .ok (.iload 4, 2) := by decide +kernel
theorem dX12_seenBy_7 : decode cX12_seenBy 7 = .ok (.aload_n 0, 1) := by decide +kernel
theorem dX12_seenBy_8 : decode cX12_seenBy 8 = .ok (.getfield 83, 3) := by decide +kernel
theorem dX12_seenBy_11 : decode cX12_seenBy 11 = .ok (.if_icmp .ge 31, 3) := by decide +kernel
theorem dX12_seenBy_14 : decode cX12_seenBy 14 = .ok (.iload_n 3, 1) := by decide +kernel
theorem dX12_seenBy_15 : decode cX12_seenBy 15 = .ok (.aload_n 0, 1) := by decide +kernel
theorem dX12_seenBy_16 : decode cX12_seenBy 16 = .ok (.aload_n 1, 1) := by decide +kernel
theorem dX12_seenBy_17 : decode cX12_seenBy 17 = .ok (.iload 4, 2) := by decide +kernel
theorem dX12_seenBy_19 : decode cX12_seenBy 19 = .ok (.invokevirtual 202, 3) := by decide +kernel
theorem dX12_seenBy_22 : decode cX12_seenBy 22 = .ok (.iload_n 2, 1) := by decide +kernel
theorem dX12_seenBy_23 : decode cX12_seenBy 23 = .ok (.invokestatic 198, 3) := by decide +kernel
theorem dX12_seenBy_26 : decode cX12_seenBy 26 = .ok (.ifCond .eq 7, 3) := by decide +kernel
theorem dX12_seenBy_29 : decode cX12_seenBy 29 = .ok (.iconst 1, 1) := by decide +kernel
theorem dX12_seenBy_30 : decode cX12_seenBy 30 = .ok (.goto 4, 3) := by decide +kernel
theorem dX12_seenBy_33 : decode cX12_seenBy 33 = .ok (.iconst 0, 1) := by decide +kernel
theorem dX12_seenBy_34 : decode cX12_seenBy 34 = .ok (.iadd, 1) := by decide +kernel
theorem dX12_seenBy_35 : decode cX12_seenBy 35 = .ok (.istore_n 3, 1) := by decide +kernel
theorem dX12_seenBy_36 : decode cX12_seenBy 36 = .ok (.iinc 4 1, 3) := by decide +kernel
theorem dX12_seenBy_39 : decode cX12_seenBy 39 = .ok (.goto (-34), 3) := by decide +kernel
theorem dX12_seenBy_42 : decode cX12_seenBy 42 = .ok (.iload_n 3, 1) := by decide +kernel
theorem dX12_seenBy_43 : decode cX12_seenBy 43 = .ok (.ireturn, 1) := by decide +kernel
def b_X12_seenBy_5 (N : Nat) (σ : uS) (a1 : Nat) (p2 : Int32) (J42_2 : Int32 → Option Int32) (rec5_5 : Int32 → Int32 → Option Int32) (x3 : Int32) (x4 : Int32) : Option Int32 :=
  if (σ.1 0 2) ≤ x4 then (J42_2 x3) else ((f_X12_sees N σ a1 x4).bind fun v6 =>
  (f_X12_has N σ v6 p2).bind fun v7 =>
  u_jn (fun (t8 : Int32) => (u_jn ((x3 + t8) : Int32) fun x10 =>
  u_jn (x4 + 1 : Int32) fun x11 =>
  rec5_5 x10 x11 : Option Int32)) fun J34_9 =>
  if v7 = 0 then (J34_9 0) else (J34_9 1))
def f_X12_seenBy (N : Nat) (σ : uS) (a1 : Nat) (p2 : Int32) : Option Int32 := u_jn (fun (x1 : Int32) => (some x1 : Option Int32)) fun J42_2 =>
  u_lp2 (b_X12_seenBy_5 N σ a1 p2 J42_2) N 0 0
set_option maxRecDepth 100000 in
set_option maxHeartbeats 4000000 in
theorem c_X12_seenBy (l : Launch) (G : uG) (N : Nat) (σ : uS) (a1 : Nat) (p2 : Int32) (z : Int32) (hz : f_X12_seenBy N σ a1 p2 = some z) : u_Mi l ZM G yX12_seenBy cX12_seenBy 5 .int 2 [.ref (G.2.2 0), .ref (G.2.2 a1), .int p2] σ z σ := by
  refine u_Mi_of RX12 (by decide) rfl (Nat.le_of_ble_eq_true rfl) ?_
  intro p e s m args below meth c ls cx hw hl
  have hx := cx.1
  have hb := cx.2.1
  have hl : lv_has ls 5 [(0, .ref (G.2.2 0)), (1, .ref (G.2.2 a1)), (2, .int p2)] := hl
  unfold f_X12_seenBy at hz
  refine lv_iconst (v := 0) hx hb dX12_seenBy_0 (by decide) ?_
  refine lv_istore_n (lv' := [(3, .int 0), (0, .ref (G.2.2 0)), (1, .ref (G.2.2 a1)), (2, .int p2)]) hx hb dX12_seenBy_1 rfl hl (by decide) rfl (fun ls hl => ?_)
  refine lv_iconst (v := 0) hx hb dX12_seenBy_2 (by decide) ?_
  refine lv_istore (lv' := [(4, .int 0), (3, .int 0), (0, .ref (G.2.2 0)), (1, .ref (G.2.2 a1)), (2, .int p2)]) hx hb dX12_seenBy_3 hl (by decide) rfl (fun ls hl => ?_)
  obtain ⟨J42_2, eJ42_2, hz⟩ := u_let hz
  have WJ42_2 : ∀ (x1 : Int32) (H : Heap) (locs : List Loc) (ls : Array Slot), J42_2 x1 = some z → u_W ZM G σ s H locs → lv_has ls 5 [(3, .int x1)] → W p l e (u_rm 2) s m args below meth c H locs 0 0 (u_Qi below ZM G s args z σ) (F0 m 42 ls []) := by
    intro x1 H locs ls hz hw hl
    rw [eJ42_2] at hz
    refine lv_iload_n hx hb dX12_seenBy_42 rfl (lv_at hl 0 rfl) ?_
    exact u_iret cx hw ⟨Option.some.inj hz, rfl⟩ dX12_seenBy_43
  have WL5_11 : ∀ (k : Nat) (x3 : Int32) (x4 : Int32) (H : Heap) (locs : List Loc) (ls : Array Slot), u_lp2 (b_X12_seenBy_5 N σ a1 p2 J42_2) k x3 x4 = some z → u_W ZM G σ s H locs → lv_has ls 5 [(0, .ref (G.2.2 0)), (1, .ref (G.2.2 a1)), (2, .int p2), (3, .int x3), (4, .int x4)] → W p l e (u_rm 2) s m args below meth c H locs 0 0 (u_Qi below ZM G s args z σ) (F0 m 5 ls []) := by
    intro k
    induction k with
    | zero =>
      intro x3 x4 H locs ls hz
      exact absurd hz (by intro h9; cases h9)
    | succ k ih5_5 =>
      intro x3 x4 H locs ls hz hw hl
      have hz : (b_X12_seenBy_5 N σ a1 p2 J42_2) (u_lp2 (b_X12_seenBy_5 N σ a1 p2 J42_2) k) x3 x4 = some z := hz
      unfold b_X12_seenBy_5 at hz
      refine lv_iload hx hb dX12_seenBy_5 (lv_at hl 4 rfl) ?_
      refine lv_aload_n hx hb dX12_seenBy_7 rfl (lv_at hl 0 rfl) ?_
      refine u_geti cx hw F_X12_83 o_X12 rfl dX12_seenBy_8 ?_
      refine lv_icmp_ge (tgt := 42) hx hb dX12_seenBy_11 (by decide) (fun hc => ?_) (fun hc => ?_)
      · replace hz := u_ift hz hc
        exact WJ42_2 x3 _ _ _ hz hw (lv_sub hl [3] rfl)
      · replace hz := u_iff hz hc
        refine lv_iload_n hx hb dX12_seenBy_14 rfl (lv_at hl 3 rfl) ?_
        refine lv_aload_n hx hb dX12_seenBy_15 rfl (lv_at hl 0 rfl) ?_
        refine lv_aload_n hx hb dX12_seenBy_16 rfl (lv_at hl 1 rfl) ?_
        refine lv_iload hx hb dX12_seenBy_17 (lv_at hl 4 rfl) ?_
        obtain ⟨v6, hv6, hz⟩ := u_bind hz
        refine u_callVi (As := [.ref (G.2.2 a1), .int x4]) (rest := [.int x3]) cx hw LV_X12_202 (c_X12_sees l G N σ a1 x4 v6 hv6) o_X12 rfl (by decide) hl.1 rfl (Nat.le_of_ble_eq_true rfl) dX12_seenBy_19 rfl (fun H locs hw => ?_)
        refine lv_iload_n hx hb dX12_seenBy_22 rfl (lv_at hl 2 rfl) ?_
        obtain ⟨v7, hv7, hz⟩ := u_bind hz
        refine u_callSi (As := [.int v6, .int p2]) (rest := [.int x3]) cx hw LS_X12_198 (c_X12_has l G N σ v6 p2 v7 hv7) (by decide) hl.1 rfl (Nat.le_of_ble_eq_true rfl) dX12_seenBy_23 rfl (fun H locs hw => ?_)
        obtain ⟨J34_9, eJ34_9, hz⟩ := u_let hz
        have WJ34_9 : ∀ (t8 : Int32) (H : Heap) (locs : List Loc) (ls : Array Slot), J34_9 t8 = some z → u_W ZM G σ s H locs → lv_has ls 5 [(0, .ref (G.2.2 0)), (1, .ref (G.2.2 a1)), (2, .int p2), (4, .int x4)] → W p l e (u_rm 2) s m args below meth c H locs 0 0 (u_Qi below ZM G s args z σ) (F0 m 34 ls [.int t8, .int x3]) := by
          intro t8 H locs ls hz hw hl
          rw [eJ34_9] at hz
          refine lv_iadd hx hb dX12_seenBy_34 ?_
          obtain ⟨x10, ex10, hz⟩ := u_let hz
          refine u_topi ex10 ?_
          refine lv_istore_n (lv' := [(3, .int x10), (0, .ref (G.2.2 0)), (1, .ref (G.2.2 a1)), (2, .int p2), (4, .int x4)]) hx hb dX12_seenBy_35 rfl hl (by decide) rfl (fun ls hl => ?_)
          obtain ⟨x11, ex11, hz⟩ := u_let hz
          refine lv_iinc (v := x11) (lv' := [(4, .int x11), (3, .int x10), (0, .ref (G.2.2 0)), (1, .ref (G.2.2 a1)), (2, .int p2)]) hx hb dX12_seenBy_36 hl (k := 4) rfl (by rw [ex11]; rfl) (by decide) rfl (fun ls hl => ?_)
          refine lv_goto (tgt := 5) hx hb dX12_seenBy_39 (by decide) ?_
          exact ih5_5 x10 x11 _ _ _ hz hw (lv_sub hl [2, 3, 4, 1, 0] rfl)
        refine lv_if_eq (tgt := 33) hx hb dX12_seenBy_26 (by decide) (fun hc => ?_) (fun hc => ?_)
        · replace hz := u_ift hz hc
          refine lv_iconst (v := 0) hx hb dX12_seenBy_33 (by decide) ?_
          exact WJ34_9 0 _ _ _ hz hw (lv_sub hl [0, 1, 2, 4] rfl)
        · replace hz := u_iff hz hc
          refine lv_iconst (v := 1) hx hb dX12_seenBy_29 (by decide) ?_
          refine lv_goto (tgt := 34) hx hb dX12_seenBy_30 (by decide) ?_
          exact WJ34_9 1 _ _ _ hz hw (lv_sub hl [0, 1, 2, 4] rfl)
  exact WL5_11 N 0 0 _ _ _ hz hw (lv_sub hl [2, 3, 4, 1, 0] rfl)
theorem dX12_isRope_0 : decode cX12_isRope 0 = .ok (.iload_n 1, 1) := by decide +kernel
theorem dX12_isRope_1 : decode cX12_isRope 1 = .ok (.aload_n 0, 1) := by decide +kernel
theorem dX12_isRope_2 : decode cX12_isRope 2 = .ok (.bipush 32, 2) := by decide +kernel
theorem dX12_isRope_4 : decode cX12_isRope 4 = .ok (.iaload, 1) := by decide +kernel
theorem dX12_isRope_5 : decode cX12_isRope 5 = .ok (.aload_n 0, 1) := by decide +kernel
theorem dX12_isRope_6 : decode cX12_isRope 6 = .ok (.bipush 33, 2) := by decide +kernel
theorem dX12_isRope_8 : decode cX12_isRope 8 = .ok (.iaload, 1) := by decide +kernel
theorem dX12_isRope_9 : decode cX12_isRope 9 = .ok (.invokestatic 86, 3) := by decide +kernel
theorem dX12_isRope_12 : decode cX12_isRope 12 = .ok (.ireturn, 1) := by decide +kernel
def f_X12_isRope (N : Nat) (σ : uS) (a0 : Nat) (p1 : Int32) : Option Int32 := (u_rI ZM σ 0 a0 32).bind fun v1 =>
  (u_rI ZM σ 0 a0 33).bind fun v2 =>
  (f_X12_in N σ p1 v1 v2).bind fun v3 =>
  u_ck (v3 = 0 ∨ v3 = 1) (some v3)
set_option maxRecDepth 100000 in
set_option maxHeartbeats 4000000 in
theorem c_X12_isRope (l : Launch) (G : uG) (N : Nat) (σ : uS) (a0 : Nat) (p1 : Int32) (z : Int32) (hz : f_X12_isRope N σ a0 p1 = some z) : u_Mi l ZM G yX12_isRope cX12_isRope 2 .boolean 1 [.ref (G.2.2 a0), .int p1] σ z σ := by
  refine u_Mi_of RX12 (by decide) rfl (Nat.le_of_ble_eq_true rfl) ?_
  intro p e s m args below meth c ls cx hw hl
  have hx := cx.1
  have hb := cx.2.1
  have hl : lv_has ls 2 [(0, .ref (G.2.2 a0)), (1, .int p1)] := hl
  unfold f_X12_isRope at hz
  refine lv_iload_n hx hb dX12_isRope_0 rfl (lv_at hl 1 rfl) ?_
  refine lv_aload_n hx hb dX12_isRope_1 rfl (lv_at hl 0 rfl) ?_
  refine lv_bipush (v := 32) hx hb dX12_isRope_2 (by decide) ?_
  obtain ⟨v1, hv1, hz⟩ := u_bind hz
  refine u_iald cx hw hv1 dX12_isRope_4 ?_
  refine lv_aload_n hx hb dX12_isRope_5 rfl (lv_at hl 0 rfl) ?_
  refine lv_bipush (v := 33) hx hb dX12_isRope_6 (by decide) ?_
  obtain ⟨v2, hv2, hz⟩ := u_bind hz
  refine u_iald cx hw hv2 dX12_isRope_8 ?_
  obtain ⟨v3, hv3, hz⟩ := u_bind hz
  refine u_callSi (As := [.int p1, .int v1, .int v2]) (rest := []) cx hw LS_X12_86 (c_X12_in l G N σ p1 v1 v2 v3 hv3) (by decide) hl.1 rfl (Nat.le_of_ble_eq_true rfl) dX12_isRope_9 rfl (fun H locs hw => ?_)
  obtain ⟨h01, hz⟩ := u_ck_some hz
  exact u_zret cx hw h01 ⟨Option.some.inj hz, rfl⟩ dX12_isRope_12
theorem dX12_furrow_0 : decode cX12_furrow 0 = .ok (.aload_n 0, 1) := by decide +kernel
theorem dX12_furrow_1 : decode cX12_furrow 1 = .ok (.iconst 0, 1) := by decide +kernel
theorem dX12_furrow_2 : decode cX12_furrow 2 = .ok (.putfield 77, 3) := by decide +kernel
theorem dX12_furrow_5 : decode cX12_furrow 5 = .ok (.aload_n 0, 1) := by decide +kernel
theorem dX12_furrow_6 : decode cX12_furrow 6 = .ok (.iload_n 1, 1) := by decide +kernel
theorem dX12_furrow_7 : decode cX12_furrow 7 = .ok (.invokevirtual 227, 3) := by decide +kernel
theorem dX12_furrow_10 : decode cX12_furrow 10 = .ok (.ifCond .eq 12, 3) := by decide +kernel
theorem dX12_furrow_13 : decode cX12_furrow 13 = .ok (.iload_n 2, 1) := by decide +kernel
theorem dX12_furrow_14 : decode cX12_furrow 14 = .ok (.iconst 0, 1) := by decide +kernel
theorem dX12_furrow_15 : decode cX12_furrow 15 = .ok (.iconst 1, 1) := by decide +kernel
theorem dX12_furrow_16 : decode cX12_furrow 16 = .ok (.invokestatic 86, 3) := by decide +kernel
theorem dX12_furrow_19 : decode cX12_furrow 19 = .ok (.ifCond .ne 8, 3) := by decide +kernel
theorem dX12_furrow_22 : decode cX12_furrow 22 = .ok (.aload_n 0, 1) := by decide +kernel
theorem dX12_furrow_23 : decode cX12_furrow 23 = .ok (.invokevirtual 230, 3) := by decide +kernel
theorem dX12_furrow_26 : decode cX12_furrow 26 = .ok (.ireturn, 1) := by decide +kernel
theorem dX12_furrow_27 : decode cX12_furrow 27 = .ok (.iload_n 2, 1) := by decide +kernel
theorem dX12_furrow_28 : decode cX12_furrow 28 = .ok (.ifCond .ne 15, 3) := by decide +kernel
theorem dX12_furrow_31 : decode cX12_furrow 31 = .ok (.aload_n 0, 1) := by decide +kernel
theorem dX12_furrow_32 : decode cX12_furrow 32 = .ok (.getfield 9, 3) := by decide +kernel
theorem dX12_furrow_35 : decode cX12_furrow 35 = .ok (.bipush 16, 2) := by decide +kernel
theorem dX12_furrow_37 : decode cX12_furrow 37 = .ok (.iload_n 1, 1) := by decide +kernel
theorem dX12_furrow_38 : decode cX12_furrow 38 = .ok (.iadd, 1) := by decide +kernel
theorem dX12_furrow_39 : decode cX12_furrow 39 = .ok (.iaload, 1) := by decide +kernel
theorem dX12_furrow_40 : decode cX12_furrow 40 = .ok (.goto 19, 3) := by decide +kernel
theorem dX12_furrow_43 : decode cX12_furrow 43 = .ok (.aload_n 0, 1) := by decide +kernel
theorem dX12_furrow_44 : decode cX12_furrow 44 = .ok (.getfield 9, 3) := by decide +kernel
theorem dX12_furrow_47 : decode cX12_furrow 47 = .ok (.iload_n 1, 1) := by decide +kernel
theorem dX12_furrow_48 : decode cX12_furrow 48 = .ok (.invokestatic 233, 3) := by decide +kernel
theorem dX12_furrow_51 : decode cX12_furrow 51 = .ok (.ifCond .eq 7, 3) := by decide +kernel
theorem dX12_furrow_54 : decode cX12_furrow 54 = .ok (.iconst 1, 1) := by decide +kernel
theorem dX12_furrow_55 : decode cX12_furrow 55 = .ok (.goto 4, 3) := by decide +kernel
theorem dX12_furrow_58 : decode cX12_furrow 58 = .ok (.iconst 0, 1) := by decide +kernel
theorem dX12_furrow_59 : decode cX12_furrow 59 = .ok (.ireturn, 1) := by decide +kernel
def f_X12_furrow (N : Nat) (σ : uS) (p1 : Int32) (p2 : Int32) : Option (Int32 × uS) := u_jn (u_pI σ 0 8 0) fun s1 =>
  (f_X12_isFurrow N s1 p1).bind fun v2 =>
  u_jn (((f_X12_lost N s1).bind fun v4 =>
  some (v4.1, v4.2) : Option (Int32 × uS))) fun J22_3 =>
  if v2 = 0 then (J22_3) else ((f_X12_in N s1 p2 0 1).bind fun v5 =>
  if v5 = 0 then (J22_3) else (if p2 = 0 then ((u_rI ZM s1 0 1 (16 + p1)).bind fun v7 =>
  some (v7, s1)) else ((f_X12_isRope N s1 1 p1).bind fun v6 =>
  if v6 = 0 then (some (0, s1)) else (some (1, s1)))))
set_option maxRecDepth 100000 in
set_option maxHeartbeats 4000000 in
theorem c_X12_furrow (l : Launch) (G : uG) (N : Nat) (σ : uS) (p1 : Int32) (p2 : Int32) (z : (Int32 × uS)) (hz : f_X12_furrow N σ p1 p2 = some z) : u_Mi l ZM G yX12_furrow cX12_furrow 3 .int 2 [.ref (G.2.2 0), .int p1, .int p2] σ z.1 z.2 := by
  refine u_Mi_of RX12 (by decide) rfl (Nat.le_of_ble_eq_true rfl) ?_
  intro p e s m args below meth c ls cx hw hl
  have hx := cx.1
  have hb := cx.2.1
  have hl : lv_has ls 3 [(0, .ref (G.2.2 0)), (1, .int p1), (2, .int p2)] := hl
  unfold f_X12_furrow at hz
  refine lv_aload_n hx hb dX12_furrow_0 rfl (lv_at hl 0 rfl) ?_
  refine lv_iconst (v := 0) hx hb dX12_furrow_1 (by decide) ?_
  obtain ⟨s1, es1, hz⟩ := u_let hz
  refine u_puti2 cx hw P_X12_77 o_X12 rfl es1 dX12_furrow_2 (fun H locs hw => ?_)
  refine lv_aload_n hx hb dX12_furrow_5 rfl (lv_at hl 0 rfl) ?_
  refine lv_iload_n hx hb dX12_furrow_6 rfl (lv_at hl 1 rfl) ?_
  obtain ⟨v2, hv2, hz⟩ := u_bind hz
  refine u_callVi (As := [.int p1]) (rest := []) cx hw LV_X12_227 (c_X12_isFurrow l G N s1 p1 v2 hv2) o_X12 rfl (by decide) hl.1 rfl (Nat.le_of_ble_eq_true rfl) dX12_furrow_7 rfl (fun H locs hw => ?_)
  obtain ⟨J22_3, eJ22_3, hz⟩ := u_let hz
  have WJ22_3 : ∀ (H : Heap) (locs : List Loc) (ls : Array Slot), J22_3 = some z → u_W ZM G s1 s H locs → lv_has ls 3 [(0, .ref (G.2.2 0))] → W p l e (u_rm 2) s m args below meth c H locs 0 0 (u_Qi below ZM G s args z.1 z.2) (F0 m 22 ls []) := by
    intro H locs ls hz hw hl
    rw [eJ22_3] at hz
    refine lv_aload_n hx hb dX12_furrow_22 rfl (lv_at hl 0 rfl) ?_
    obtain ⟨v4, hv4, hz⟩ := u_bind hz
    refine u_callVi (As := []) (rest := []) cx hw LV_X12_230 (c_X12_lost l G N s1 v4 hv4) o_X12 rfl (by decide) hl.1 rfl (Nat.le_of_ble_eq_true rfl) dX12_furrow_23 rfl (fun H locs hw => ?_)
    exact u_iret cx hw (u_pair hz) dX12_furrow_26
  refine lv_if_eq (tgt := 22) hx hb dX12_furrow_10 (by decide) (fun hc => ?_) (fun hc => ?_)
  · replace hz := u_ift hz hc
    exact WJ22_3 _ _ _ hz hw (lv_sub hl [0] rfl)
  · replace hz := u_iff hz hc
    refine lv_iload_n hx hb dX12_furrow_13 rfl (lv_at hl 2 rfl) ?_
    refine lv_iconst (v := 0) hx hb dX12_furrow_14 (by decide) ?_
    refine lv_iconst (v := 1) hx hb dX12_furrow_15 (by decide) ?_
    obtain ⟨v5, hv5, hz⟩ := u_bind hz
    refine u_callSi (As := [.int p2, .int 0, .int 1]) (rest := []) cx hw LS_X12_86 (c_X12_in l G N s1 p2 0 1 v5 hv5) (by decide) hl.1 rfl (Nat.le_of_ble_eq_true rfl) dX12_furrow_16 rfl (fun H locs hw => ?_)
    refine lv_if_ne (tgt := 27) hx hb dX12_furrow_19 (by decide) (fun hc => ?_) (fun hc => ?_)
    · replace hz := u_iff hz hc
      refine lv_iload_n hx hb dX12_furrow_27 rfl (lv_at hl 2 rfl) ?_
      refine lv_if_ne (tgt := 43) hx hb dX12_furrow_28 (by decide) (fun hc => ?_) (fun hc => ?_)
      · replace hz := u_iff hz hc
        refine lv_aload_n hx hb dX12_furrow_43 rfl (lv_at hl 0 rfl) ?_
        refine u_getp cx hw F_X12_9 o_X12 rfl dX12_furrow_44 ?_
        refine lv_iload_n hx hb dX12_furrow_47 rfl (lv_at hl 1 rfl) ?_
        obtain ⟨v6, hv6, hz⟩ := u_bind hz
        refine u_callSi (As := [.ref (G.2.2 1), .int p1]) (rest := []) cx hw LS_X12_233 (c_X12_isRope l G N s1 1 p1 v6 hv6) (by decide) hl.1 rfl (Nat.le_of_ble_eq_true rfl) dX12_furrow_48 rfl (fun H locs hw => ?_)
        refine lv_if_eq (tgt := 58) hx hb dX12_furrow_51 (by decide) (fun hc => ?_) (fun hc => ?_)
        · replace hz := u_ift hz hc
          refine lv_iconst (v := 0) hx hb dX12_furrow_58 (by decide) ?_
          exact u_iret cx hw (u_pair hz) dX12_furrow_59
        · replace hz := u_iff hz hc
          refine lv_iconst (v := 1) hx hb dX12_furrow_54 (by decide) ?_
          refine lv_goto (tgt := 59) hx hb dX12_furrow_55 (by decide) ?_
          exact u_iret cx hw (u_pair hz) dX12_furrow_59
      · replace hz := u_ift hz hc
        refine lv_aload_n hx hb dX12_furrow_31 rfl (lv_at hl 0 rfl) ?_
        refine u_getp cx hw F_X12_9 o_X12 rfl dX12_furrow_32 ?_
        refine lv_bipush (v := 16) hx hb dX12_furrow_35 (by decide) ?_
        refine lv_iload_n hx hb dX12_furrow_37 rfl (lv_at hl 1 rfl) ?_
        refine lv_iadd hx hb dX12_furrow_38 ?_
        obtain ⟨v7, hv7, hz⟩ := u_bind hz
        refine u_iald cx hw hv7 dX12_furrow_39 ?_
        refine lv_goto (tgt := 59) hx hb dX12_furrow_40 (by decide) ?_
        exact u_iret cx hw (u_pair hz) dX12_furrow_59
    · replace hz := u_ift hz hc
      exact WJ22_3 _ _ _ hz hw (lv_sub hl [0] rfl)
theorem dX12_sheet_0 : decode cX12_sheet 0 = .ok (.aload_n 0, 1) := by decide +kernel
theorem dX12_sheet_1 : decode cX12_sheet 1 = .ok (.iconst 0, 1) := by decide +kernel
theorem dX12_sheet_2 : decode cX12_sheet 2 = .ok (.putfield 77, 3) := by decide +kernel
theorem dX12_sheet_5 : decode cX12_sheet 5 = .ok (.iload_n 1, 1) := by decide +kernel
theorem dX12_sheet_6 : decode cX12_sheet 6 = .ok (.iconst 0, 1) := by decide +kernel
theorem dX12_sheet_7 : decode cX12_sheet 7 = .ok (.iconst 3, 1) := by decide +kernel
theorem dX12_sheet_8 : decode cX12_sheet 8 = .ok (.invokestatic 86, 3) := by decide +kernel
theorem dX12_sheet_11 : decode cX12_sheet 11 = .ok (.ifCond .eq 9, 3) := by decide +kernel
theorem dX12_sheet_14 : decode cX12_sheet 14 = .ok (.iload_n 2, 1) := by decide +kernel
theorem dX12_sheet_15 : decode cX12_sheet 15 = .ok (.bipush 8, 2) := by decide +kernel
theorem dX12_sheet_17 : decode cX12_sheet 17 = .ok (.if_icmp .le 5, 3) := by decide +kernel
theorem dX12_sheet_20 : decode cX12_sheet 20 = .ok (.iconst (-1), 1) := by decide +kernel
theorem dX12_sheet_21 : decode cX12_sheet 21 = .ok (.ireturn, 1) := by decide +kernel
theorem dX12_sheet_22 : decode cX12_sheet 22 = .ok (.iload_n 1, 1) := by decide +kernel
theorem dX12_sheet_23 : decode cX12_sheet 23 = .ok (.iconst 3, 1) := by decide +kernel
theorem dX12_sheet_24 : decode cX12_sheet 24 = .ok (.if_icmp .ge 10, 3) := by decide +kernel
theorem dX12_sheet_27 : decode cX12_sheet 27 = .ok (.iload_n 2, 1) := by decide +kernel
theorem dX12_sheet_28 : decode cX12_sheet 28 = .ok (.ifCond .ge 6, 3) := by decide +kernel
theorem dX12_sheet_31 : decode cX12_sheet 31 = .ok (.bipush (-2), 2) := by decide +kernel
theorem dX12_sheet_33 : decode cX12_sheet 33 = .ok (.ireturn, 1) := by decide +kernel
theorem dX12_sheet_34 : decode cX12_sheet 34 = .ok (.iconst 0, 1) := by decide +kernel
theorem dX12_sheet_35 : decode cX12_sheet 35 = .ok (.istore 5, 2) := by decide +kernel
theorem dX12_sheet_37 : decode cX12_sheet 37 = .ok (.iload_n 3, 1) := by decide +kernel
theorem dX12_sheet_38 : decode cX12_sheet 38 = .ok (.istore 6, 2) := by decide +kernel
theorem dX12_sheet_40 : decode cX12_sheet 40 = .ok (.iconst 0, 1) := by decide +kernel
theorem dX12_sheet_41 : decode cX12_sheet 41 = .ok (.istore 7, 2) := by decide +kernel
theorem dX12_sheet_43 : decode cX12_sheet 43 = .ok (.iload 7, 2) := by decide +kernel
theorem dX12_sheet_45 : decode cX12_sheet 45 = .ok (.aload_n 0, 1) := by decide +kernel
theorem dX12_sheet_46 : decode cX12_sheet 46 = .ok (.getfield 83, 3) := by decide +kernel
theorem dX12_sheet_49 : decode cX12_sheet 49 = .ok (.if_icmp .ge 86, 3) := by decide +kernel
theorem dX12_sheet_52 : decode cX12_sheet 52 = .ok (.iload_n 1, 1) := by decide +kernel
theorem dX12_sheet_53 : decode cX12_sheet 53 = .ok (.ifCond .ne 9, 3) := by decide +kernel
theorem dX12_sheet_56 : decode cX12_sheet 56 = .ok (.iload 6, 2) := by decide +kernel
theorem dX12_sheet_58 : decode cX12_sheet 58 = .ok (.i2b, 1) := by decide +kernel
theorem dX12_sheet_59 : decode cX12_sheet 59 = .ok (.goto 16, 3) := by decide +kernel
theorem dX12_sheet_62 : decode cX12_sheet 62 = .ok (.iload_n 1, 1) := by decide +kernel
theorem dX12_sheet_63 : decode cX12_sheet 63 = .ok (.iconst 1, 1) := by decide +kernel
theorem dX12_sheet_64 : decode cX12_sheet 64 = .ok (.if_icmp .ne 9, 3) := by decide +kernel
theorem dX12_sheet_67 : decode cX12_sheet 67 = .ok (.iload 6, 2) := by decide +kernel
theorem dX12_sheet_69 : decode cX12_sheet 69 = .ok (.i2s, 1) := by decide +kernel
theorem dX12_sheet_70 : decode cX12_sheet 70 = .ok (.goto 5, 3) := by decide +kernel
theorem dX12_sheet_73 : decode cX12_sheet 73 = .ok (.iload 6, 2) := by decide +kernel
theorem dX12_sheet_75 : decode cX12_sheet 75 = .ok (.istore 8, 2) := by decide +kernel
theorem dX12_sheet_77 : decode cX12_sheet 77 = .ok (.aload_n 0, 1) := by decide +kernel
theorem dX12_sheet_78 : decode cX12_sheet 78 = .ok (.getfield 9, 3) := by decide +kernel
theorem dX12_sheet_81 : decode cX12_sheet 81 = .ok (.iload 7, 2) := by decide +kernel
theorem dX12_sheet_83 : decode cX12_sheet 83 = .ok (.iload_n 1, 1) := by decide +kernel
theorem dX12_sheet_84 : decode cX12_sheet 84 = .ok (.iconst 3, 1) := by decide +kernel
theorem dX12_sheet_85 : decode cX12_sheet 85 = .ok (.if_icmp .eq 9, 3) := by decide +kernel
theorem dX12_sheet_88 : decode cX12_sheet 88 = .ok (.iload 7, 2) := by decide +kernel
theorem dX12_sheet_90 : decode cX12_sheet 90 = .ok (.iload_n 2, 1) := by decide +kernel
theorem dX12_sheet_91 : decode cX12_sheet 91 = .ok (.if_icmp .lt 7, 3) := by decide +kernel
theorem dX12_sheet_94 : decode cX12_sheet 94 = .ok (.iconst 0, 1) := by decide +kernel
theorem dX12_sheet_95 : decode cX12_sheet 95 = .ok (.goto 14, 3) := by decide +kernel
theorem dX12_sheet_98 : decode cX12_sheet 98 = .ok (.iconst 0, 1) := by decide +kernel
theorem dX12_sheet_99 : decode cX12_sheet 99 = .ok (.bipush 9, 2) := by decide +kernel
theorem dX12_sheet_101 : decode cX12_sheet 101 = .ok (.iload 8, 2) := by decide +kernel
theorem dX12_sheet_103 : decode cX12_sheet 103 = .ok (.invokestatic 218, 3) := by decide +kernel
theorem dX12_sheet_106 : decode cX12_sheet 106 = .ok (.invokestatic 224, 3) := by decide +kernel
theorem dX12_sheet_109 : decode cX12_sheet 109 = .ok (.iastore, 1) := by decide +kernel
theorem dX12_sheet_110 : decode cX12_sheet 110 = .ok (.iload 5, 2) := by decide +kernel
theorem dX12_sheet_112 : decode cX12_sheet 112 = .ok (.aload_n 0, 1) := by decide +kernel
theorem dX12_sheet_113 : decode cX12_sheet 113 = .ok (.getfield 9, 3) := by decide +kernel
theorem dX12_sheet_116 : decode cX12_sheet 116 = .ok (.iload 7, 2) := by decide +kernel
theorem dX12_sheet_118 : decode cX12_sheet 118 = .ok (.iaload, 1) := by decide +kernel
theorem dX12_sheet_119 : decode cX12_sheet 119 = .ok (.iadd, 1) := by decide +kernel
theorem dX12_sheet_120 : decode cX12_sheet 120 = .ok (.istore 5, 2) := by decide +kernel
theorem dX12_sheet_122 : decode cX12_sheet 122 = .ok (.iload 6, 2) := by decide +kernel
theorem dX12_sheet_124 : decode cX12_sheet 124 = .ok (.iload 4, 2) := by decide +kernel
theorem dX12_sheet_126 : decode cX12_sheet 126 = .ok (.iadd, 1) := by decide +kernel
theorem dX12_sheet_127 : decode cX12_sheet 127 = .ok (.istore 6, 2) := by decide +kernel
theorem dX12_sheet_129 : decode cX12_sheet 129 = .ok (.iinc 7 1, 3) := by decide +kernel
theorem dX12_sheet_132 : decode cX12_sheet 132 = .ok (.goto (-89), 3) := by decide +kernel
theorem dX12_sheet_135 : decode cX12_sheet 135 = .ok (.iload_n 1, 1) := by decide +kernel
theorem dX12_sheet_136 : decode cX12_sheet 136 = .ok (.iconst 3, 1) := by decide +kernel
theorem dX12_sheet_137 : decode cX12_sheet 137 = .ok (.if_icmp .ne 8, 3) := by decide +kernel
theorem dX12_sheet_140 : decode cX12_sheet 140 = .ok (.bipush (-3), 2) := by decide +kernel
theorem dX12_sheet_142 : decode cX12_sheet 142 = .ok (.goto 5, 3) := by decide +kernel
theorem dX12_sheet_145 : decode cX12_sheet 145 = .ok (.iload 5, 2) := by decide +kernel
theorem dX12_sheet_147 : decode cX12_sheet 147 = .ok (.ireturn, 1) := by decide +kernel
def b_X12_sheet_43 (p1 : Int32) (p2 : Int32) (p4 : Int32) (J135_6 : uS → Int32 → Option (Int32 × uS)) (rec43_11 : uS → Int32 → Int32 → Int32 → Option (Int32 × uS)) (s7 : uS) (x8 : Int32) (x9 : Int32) (x10 : Int32) : Option (Int32 × uS) :=
  if (s7.1 0 2) ≤ x10 then (J135_6 s7 x8) else (u_jn (fun (t12 : Int32) => (u_jn (fun (t14 : Int32) => ((u_wI ZM s7 0 1 x10 t14).bind fun s16 =>
  (u_rI ZM s16 0 1 x10).bind fun v17 =>
  u_jn ((x8 + v17) : Int32) fun x18 =>
  u_jn ((x9 + p4) : Int32) fun x19 =>
  u_jn (x10 + 1 : Int32) fun x20 =>
  rec43_11 s16 x18 x19 x20 : Option (Int32 × uS))) fun J109_15 =>
  u_jn ((J109_15 0 : Option (Int32 × uS))) fun J94_21 =>
  if p1 = 3 then (J94_21) else (if x10 < p2 then (J109_15 (if 0 < (if t12 < 9 then t12 else 9) then (if t12 < 9 then t12 else 9) else 0)) else (J94_21)) : Option (Int32 × uS))) fun J75_13 =>
  if p1 = 0 then (J75_13 (Int8.toInt32 (Int32.toInt8 x9))) else (if p1 = 1 then (J75_13 (Int16.toInt32 (Int32.toInt16 x9))) else (J75_13 x9)))
def f_X12_sheet (N : Nat) (σ : uS) (p1 : Int32) (p2 : Int32) (p3 : Int32) (p4 : Int32) : Option (Int32 × uS) := u_jn (u_pI σ 0 8 0) fun s1 =>
  (f_X12_in N s1 p1 0 3).bind fun v2 =>
  if v2 = 0 then (some ((-1), s1)) else (if p2 ≤ 8 then (u_jn ((u_jn (fun (s4 : uS) (x5 : Int32) => (if p1 = 3 then (some ((-3), s4)) else (some (x5, s4)) : Option (Int32 × uS))) fun J135_6 =>
  u_lp4 (b_X12_sheet_43 p1 p2 p4 J135_6) N s1 0 p3 0 : Option (Int32 × uS))) fun J34_3 =>
  if 3 ≤ p1 then (J34_3) else (if 0 ≤ p2 then (J34_3) else (some ((-2), s1)))) else (some ((-1), s1)))
set_option maxRecDepth 100000 in
set_option maxHeartbeats 4000000 in
theorem c_X12_sheet (l : Launch) (G : uG) (N : Nat) (σ : uS) (p1 : Int32) (p2 : Int32) (p3 : Int32) (p4 : Int32) (z : (Int32 × uS)) (hz : f_X12_sheet N σ p1 p2 p3 p4 = some z) : u_Mi l ZM G yX12_sheet cX12_sheet 9 .int 1 [.ref (G.2.2 0), .int p1, .int p2, .int p3, .int p4] σ z.1 z.2 := by
  refine u_Mi_of RX12 (by decide) rfl (Nat.le_of_ble_eq_true rfl) ?_
  intro p e s m args below meth c ls cx hw hl
  have hx := cx.1
  have hb := cx.2.1
  have hl : lv_has ls 9 [(0, .ref (G.2.2 0)), (1, .int p1), (2, .int p2), (3, .int p3), (4, .int p4)] := hl
  unfold f_X12_sheet at hz
  refine lv_aload_n hx hb dX12_sheet_0 rfl (lv_at hl 0 rfl) ?_
  refine lv_iconst (v := 0) hx hb dX12_sheet_1 (by decide) ?_
  obtain ⟨s1, es1, hz⟩ := u_let hz
  refine u_puti2 cx hw P_X12_77 o_X12 rfl es1 dX12_sheet_2 (fun H locs hw => ?_)
  refine lv_iload_n hx hb dX12_sheet_5 rfl (lv_at hl 1 rfl) ?_
  refine lv_iconst (v := 0) hx hb dX12_sheet_6 (by decide) ?_
  refine lv_iconst (v := 3) hx hb dX12_sheet_7 (by decide) ?_
  obtain ⟨v2, hv2, hz⟩ := u_bind hz
  refine u_callSi (As := [.int p1, .int 0, .int 3]) (rest := []) cx hw LS_X12_86 (c_X12_in l G N s1 p1 0 3 v2 hv2) (by decide) hl.1 rfl (Nat.le_of_ble_eq_true rfl) dX12_sheet_8 rfl (fun H locs hw => ?_)
  refine lv_if_eq (tgt := 20) hx hb dX12_sheet_11 (by decide) (fun hc => ?_) (fun hc => ?_)
  · replace hz := u_ift hz hc
    refine lv_iconst (v := (-1)) hx hb dX12_sheet_20 (by decide) ?_
    exact u_iret cx hw (u_pair hz) dX12_sheet_21
  · replace hz := u_iff hz hc
    refine lv_iload_n hx hb dX12_sheet_14 rfl (lv_at hl 2 rfl) ?_
    refine lv_bipush (v := 8) hx hb dX12_sheet_15 (by decide) ?_
    refine lv_icmp_le (tgt := 22) hx hb dX12_sheet_17 (by decide) (fun hc => ?_) (fun hc => ?_)
    · replace hz := u_ift hz hc
      refine lv_iload_n hx hb dX12_sheet_22 rfl (lv_at hl 1 rfl) ?_
      refine lv_iconst (v := 3) hx hb dX12_sheet_23 (by decide) ?_
      obtain ⟨J34_3, eJ34_3, hz⟩ := u_let hz
      have WJ34_3 : ∀ (H : Heap) (locs : List Loc) (ls : Array Slot), J34_3 = some z → u_W ZM G s1 s H locs → lv_has ls 9 [(0, .ref (G.2.2 0)), (1, .int p1), (2, .int p2), (3, .int p3), (4, .int p4)] → W p l e (u_rm 1) s m args below meth c H locs 0 0 (u_Qi below ZM G s args z.1 z.2) (F0 m 34 ls []) := by
        intro H locs ls hz hw hl
        rw [eJ34_3] at hz
        refine lv_iconst (v := 0) hx hb dX12_sheet_34 (by decide) ?_
        refine lv_istore (lv' := [(5, .int 0), (0, .ref (G.2.2 0)), (1, .int p1), (2, .int p2), (3, .int p3), (4, .int p4)]) hx hb dX12_sheet_35 hl (by decide) rfl (fun ls hl => ?_)
        refine lv_iload_n hx hb dX12_sheet_37 rfl (lv_at hl 4 rfl) ?_
        refine lv_istore (lv' := [(6, .int p3), (5, .int 0), (0, .ref (G.2.2 0)), (1, .int p1), (2, .int p2), (3, .int p3), (4, .int p4)]) hx hb dX12_sheet_38 hl (by decide) rfl (fun ls hl => ?_)
        refine lv_iconst (v := 0) hx hb dX12_sheet_40 (by decide) ?_
        refine lv_istore (lv' := [(7, .int 0), (6, .int p3), (5, .int 0), (0, .ref (G.2.2 0)), (1, .int p1), (2, .int p2), (3, .int p3), (4, .int p4)]) hx hb dX12_sheet_41 hl (by decide) rfl (fun ls hl => ?_)
        obtain ⟨J135_6, eJ135_6, hz⟩ := u_let hz
        have WJ135_6 : ∀ (s4 : uS) (x5 : Int32) (H : Heap) (locs : List Loc) (ls : Array Slot), J135_6 s4 x5 = some z → u_W ZM G s4 s H locs → lv_has ls 9 [(1, .int p1), (5, .int x5)] → W p l e (u_rm 1) s m args below meth c H locs 0 0 (u_Qi below ZM G s args z.1 z.2) (F0 m 135 ls []) := by
          intro s4 x5 H locs ls hz hw hl
          rw [eJ135_6] at hz
          refine lv_iload_n hx hb dX12_sheet_135 rfl (lv_at hl 0 rfl) ?_
          refine lv_iconst (v := 3) hx hb dX12_sheet_136 (by decide) ?_
          refine lv_icmp_ne (tgt := 145) hx hb dX12_sheet_137 (by decide) (fun hc => ?_) (fun hc => ?_)
          · replace hz := u_iff hz hc
            refine lv_iload hx hb dX12_sheet_145 (lv_at hl 1 rfl) ?_
            exact u_iret cx hw (u_pair hz) dX12_sheet_147
          · replace hz := u_ift hz hc
            refine lv_bipush (v := (-3)) hx hb dX12_sheet_140 (by decide) ?_
            refine lv_goto (tgt := 147) hx hb dX12_sheet_142 (by decide) ?_
            exact u_iret cx hw (u_pair hz) dX12_sheet_147
        have WL43_21 : ∀ (k : Nat) (s7 : uS) (x8 : Int32) (x9 : Int32) (x10 : Int32) (H : Heap) (locs : List Loc) (ls : Array Slot), u_lp4 (b_X12_sheet_43 p1 p2 p4 J135_6) k s7 x8 x9 x10 = some z → u_W ZM G s7 s H locs → lv_has ls 9 [(0, .ref (G.2.2 0)), (1, .int p1), (2, .int p2), (4, .int p4), (5, .int x8), (6, .int x9), (7, .int x10)] → W p l e (u_rm 1) s m args below meth c H locs 0 0 (u_Qi below ZM G s args z.1 z.2) (F0 m 43 ls []) := by
          intro k
          induction k with
          | zero =>
            intro s7 x8 x9 x10 H locs ls hz
            exact absurd hz (by intro h9; cases h9)
          | succ k ih43_11 =>
            intro s7 x8 x9 x10 H locs ls hz hw hl
            have hz : (b_X12_sheet_43 p1 p2 p4 J135_6) (u_lp4 (b_X12_sheet_43 p1 p2 p4 J135_6) k) s7 x8 x9 x10 = some z := hz
            unfold b_X12_sheet_43 at hz
            refine lv_iload hx hb dX12_sheet_43 (lv_at hl 6 rfl) ?_
            refine lv_aload_n hx hb dX12_sheet_45 rfl (lv_at hl 0 rfl) ?_
            refine u_geti cx hw F_X12_83 o_X12 rfl dX12_sheet_46 ?_
            refine lv_icmp_ge (tgt := 135) hx hb dX12_sheet_49 (by decide) (fun hc => ?_) (fun hc => ?_)
            · replace hz := u_ift hz hc
              exact WJ135_6 s7 x8 _ _ _ hz hw (lv_sub hl [1, 4] rfl)
            · replace hz := u_iff hz hc
              refine lv_iload_n hx hb dX12_sheet_52 rfl (lv_at hl 1 rfl) ?_
              obtain ⟨J75_13, eJ75_13, hz⟩ := u_let hz
              have WJ75_13 : ∀ (t12 : Int32) (H : Heap) (locs : List Loc) (ls : Array Slot), J75_13 t12 = some z → u_W ZM G s7 s H locs → lv_has ls 9 [(0, .ref (G.2.2 0)), (1, .int p1), (2, .int p2), (4, .int p4), (5, .int x8), (6, .int x9), (7, .int x10)] → W p l e (u_rm 1) s m args below meth c H locs 0 0 (u_Qi below ZM G s args z.1 z.2) (F0 m 75 ls [.int t12]) := by
                intro t12 H locs ls hz hw hl
                rw [eJ75_13] at hz
                refine lv_istore (lv' := [(8, .int t12), (0, .ref (G.2.2 0)), (1, .int p1), (2, .int p2), (4, .int p4), (5, .int x8), (6, .int x9), (7, .int x10)]) hx hb dX12_sheet_75 hl (by decide) rfl (fun ls hl => ?_)
                refine lv_aload_n hx hb dX12_sheet_77 rfl (lv_at hl 1 rfl) ?_
                refine u_getp cx hw F_X12_9 o_X12 rfl dX12_sheet_78 ?_
                refine lv_iload hx hb dX12_sheet_81 (lv_at hl 7 rfl) ?_
                refine lv_iload_n hx hb dX12_sheet_83 rfl (lv_at hl 2 rfl) ?_
                refine lv_iconst (v := 3) hx hb dX12_sheet_84 (by decide) ?_
                obtain ⟨J109_15, eJ109_15, hz⟩ := u_let hz
                have WJ109_15 : ∀ (t14 : Int32) (H : Heap) (locs : List Loc) (ls : Array Slot), J109_15 t14 = some z → u_W ZM G s7 s H locs → lv_has ls 9 [(0, .ref (G.2.2 0)), (1, .int p1), (2, .int p2), (4, .int p4), (5, .int x8), (6, .int x9), (7, .int x10)] → W p l e (u_rm 1) s m args below meth c H locs 0 0 (u_Qi below ZM G s args z.1 z.2) (F0 m 109 ls [.int t14, .int x10, .ref (G.2.2 1)]) := by
                  intro t14 H locs ls hz hw hl
                  rw [eJ109_15] at hz
                  obtain ⟨s16, hs16, hz⟩ := u_bind hz
                  refine u_iast cx hw hs16 dX12_sheet_109 (fun H locs hw => ?_)
                  refine lv_iload hx hb dX12_sheet_110 (lv_at hl 4 rfl) ?_
                  refine lv_aload_n hx hb dX12_sheet_112 rfl (lv_at hl 0 rfl) ?_
                  refine u_getp cx hw F_X12_9 o_X12 rfl dX12_sheet_113 ?_
                  refine lv_iload hx hb dX12_sheet_116 (lv_at hl 6 rfl) ?_
                  obtain ⟨v17, hv17, hz⟩ := u_bind hz
                  refine u_iald cx hw hv17 dX12_sheet_118 ?_
                  refine lv_iadd hx hb dX12_sheet_119 ?_
                  obtain ⟨x18, ex18, hz⟩ := u_let hz
                  refine u_topi ex18 ?_
                  refine lv_istore (lv' := [(5, .int x18), (0, .ref (G.2.2 0)), (1, .int p1), (2, .int p2), (4, .int p4), (6, .int x9), (7, .int x10)]) hx hb dX12_sheet_120 hl (by decide) rfl (fun ls hl => ?_)
                  refine lv_iload hx hb dX12_sheet_122 (lv_at hl 5 rfl) ?_
                  refine lv_iload hx hb dX12_sheet_124 (lv_at hl 4 rfl) ?_
                  refine lv_iadd hx hb dX12_sheet_126 ?_
                  obtain ⟨x19, ex19, hz⟩ := u_let hz
                  refine u_topi ex19 ?_
                  refine lv_istore (lv' := [(6, .int x19), (5, .int x18), (0, .ref (G.2.2 0)), (1, .int p1), (2, .int p2), (4, .int p4), (7, .int x10)]) hx hb dX12_sheet_127 hl (by decide) rfl (fun ls hl => ?_)
                  obtain ⟨x20, ex20, hz⟩ := u_let hz
                  refine lv_iinc (v := x20) (lv' := [(7, .int x20), (6, .int x19), (5, .int x18), (0, .ref (G.2.2 0)), (1, .int p1), (2, .int p2), (4, .int p4)]) hx hb dX12_sheet_129 hl (k := 6) rfl (by rw [ex20]; rfl) (by decide) rfl (fun ls hl => ?_)
                  refine lv_goto (tgt := 43) hx hb dX12_sheet_132 (by decide) ?_
                  exact ih43_11 s16 x18 x19 x20 _ _ _ hz hw (lv_sub hl [3, 4, 5, 6, 2, 1, 0] rfl)
                obtain ⟨J94_21, eJ94_21, hz⟩ := u_let hz
                have WJ94_21 : ∀ (H : Heap) (locs : List Loc) (ls : Array Slot), J94_21 = some z → u_W ZM G s7 s H locs → lv_has ls 9 [(0, .ref (G.2.2 0)), (1, .int p1), (2, .int p2), (4, .int p4), (5, .int x8), (6, .int x9), (7, .int x10)] → W p l e (u_rm 1) s m args below meth c H locs 0 0 (u_Qi below ZM G s args z.1 z.2) (F0 m 94 ls [.int x10, .ref (G.2.2 1)]) := by
                  intro H locs ls hz hw hl
                  rw [eJ94_21] at hz
                  refine lv_iconst (v := 0) hx hb dX12_sheet_94 (by decide) ?_
                  refine lv_goto (tgt := 109) hx hb dX12_sheet_95 (by decide) ?_
                  exact WJ109_15 0 _ _ _ hz hw (lv_sub hl [0, 1, 2, 3, 4, 5, 6] rfl)
                refine lv_icmp_eq (tgt := 94) hx hb dX12_sheet_85 (by decide) (fun hc => ?_) (fun hc => ?_)
                · replace hz := u_ift hz hc
                  exact WJ94_21 _ _ _ hz hw (lv_sub hl [1, 2, 3, 4, 5, 6, 7] rfl)
                · replace hz := u_iff hz hc
                  refine lv_iload hx hb dX12_sheet_88 (lv_at hl 7 rfl) ?_
                  refine lv_iload_n hx hb dX12_sheet_90 rfl (lv_at hl 3 rfl) ?_
                  refine lv_icmp_lt (tgt := 98) hx hb dX12_sheet_91 (by decide) (fun hc => ?_) (fun hc => ?_)
                  · replace hz := u_ift hz hc
                    refine lv_iconst (v := 0) hx hb dX12_sheet_98 (by decide) ?_
                    refine lv_bipush (v := 9) hx hb dX12_sheet_99 (by decide) ?_
                    refine lv_iload hx hb dX12_sheet_101 (lv_at hl 0 rfl) ?_
                    refine u_mmin cx LM_X12_218 (by decide) hl.1 (Nat.le_of_ble_eq_true rfl) dX12_sheet_103 ?_
                    refine u_mmax cx LM_X12_224 (by decide) hl.1 (Nat.le_of_ble_eq_true rfl) dX12_sheet_106 ?_
                    exact WJ109_15 (if 0 < (if t12 < 9 then t12 else 9) then (if t12 < 9 then t12 else 9) else 0) _ _ _ hz hw (lv_sub hl [1, 2, 3, 4, 5, 6, 7] rfl)
                  · replace hz := u_iff hz hc
                    exact WJ94_21 _ _ _ hz hw (lv_sub hl [1, 2, 3, 4, 5, 6, 7] rfl)
              refine lv_if_ne (tgt := 62) hx hb dX12_sheet_53 (by decide) (fun hc => ?_) (fun hc => ?_)
              · replace hz := u_iff hz hc
                refine lv_iload_n hx hb dX12_sheet_62 rfl (lv_at hl 1 rfl) ?_
                refine lv_iconst (v := 1) hx hb dX12_sheet_63 (by decide) ?_
                refine lv_icmp_ne (tgt := 73) hx hb dX12_sheet_64 (by decide) (fun hc => ?_) (fun hc => ?_)
                · replace hz := u_iff hz hc
                  refine lv_iload hx hb dX12_sheet_73 (lv_at hl 5 rfl) ?_
                  exact WJ75_13 x9 _ _ _ hz hw (lv_sub hl [0, 1, 2, 3, 4, 5, 6] rfl)
                · replace hz := u_ift hz hc
                  refine lv_iload hx hb dX12_sheet_67 (lv_at hl 5 rfl) ?_
                  refine lv_i2s (v := (Int16.toInt32 (Int32.toInt16 x9))) hx hb dX12_sheet_69 rfl ?_
                  refine lv_goto (tgt := 75) hx hb dX12_sheet_70 (by decide) ?_
                  exact WJ75_13 (Int16.toInt32 (Int32.toInt16 x9)) _ _ _ hz hw (lv_sub hl [0, 1, 2, 3, 4, 5, 6] rfl)
              · replace hz := u_ift hz hc
                refine lv_iload hx hb dX12_sheet_56 (lv_at hl 5 rfl) ?_
                refine lv_i2b (v := (Int8.toInt32 (Int32.toInt8 x9))) hx hb dX12_sheet_58 rfl ?_
                refine lv_goto (tgt := 75) hx hb dX12_sheet_59 (by decide) ?_
                exact WJ75_13 (Int8.toInt32 (Int32.toInt8 x9)) _ _ _ hz hw (lv_sub hl [0, 1, 2, 3, 4, 5, 6] rfl)
        exact WL43_21 N s1 0 p3 0 _ _ _ hz hw (lv_sub hl [3, 4, 5, 7, 2, 1, 0] rfl)
      refine lv_icmp_ge (tgt := 34) hx hb dX12_sheet_24 (by decide) (fun hc => ?_) (fun hc => ?_)
      · replace hz := u_ift hz hc
        exact WJ34_3 _ _ _ hz hw (lv_sub hl [0, 1, 2, 3, 4] rfl)
      · replace hz := u_iff hz hc
        refine lv_iload_n hx hb dX12_sheet_27 rfl (lv_at hl 2 rfl) ?_
        refine lv_if_ge (tgt := 34) hx hb dX12_sheet_28 (by decide) (fun hc => ?_) (fun hc => ?_)
        · replace hz := u_ift hz hc
          exact WJ34_3 _ _ _ hz hw (lv_sub hl [0, 1, 2, 3, 4] rfl)
        · replace hz := u_iff hz hc
          refine lv_bipush (v := (-2)) hx hb dX12_sheet_31 (by decide) ?_
          exact u_iret cx hw (u_pair hz) dX12_sheet_33
    · replace hz := u_iff hz hc
      refine lv_iconst (v := (-1)) hx hb dX12_sheet_20 (by decide) ?_
      exact u_iret cx hw (u_pair hz) dX12_sheet_21
theorem dX12_lay_0 : decode cX12_lay 0 = .ok (.iconst 0, 1) := by decide +kernel
theorem dX12_lay_1 : decode cX12_lay 1 = .ok (.istore_n 3, 1) := by decide +kernel
theorem dX12_lay_2 : decode cX12_lay 2 = .ok (.iload_n 3, 1) := by decide +kernel
theorem dX12_lay_3 : decode cX12_lay 3 = .ok (.bipush 37, 2) := by decide +kernel
theorem dX12_lay_5 : decode cX12_lay 5 = .ok (.if_icmp .ge 17, 3) := by decide +kernel
theorem dX12_lay_8 : decode cX12_lay 8 = .ok (.aload_n 1, 1) := by decide +kernel
theorem dX12_lay_9 : decode cX12_lay 9 = .ok (.iload_n 2, 1) := by decide +kernel
theorem dX12_lay_10 : decode cX12_lay 10 = .ok (.iload_n 3, 1) := by decide +kernel
theorem dX12_lay_11 : decode cX12_lay 11 = .ok (.iadd, 1) := by decide +kernel
theorem dX12_lay_12 : decode cX12_lay 12 = .ok (.aload_n 0, 1) := by decide +kernel
theorem dX12_lay_13 : decode cX12_lay 13 = .ok (.iload_n 3, 1) := by decide +kernel
theorem dX12_lay_14 : decode cX12_lay 14 = .ok (.iaload, 1) := by decide +kernel
theorem dX12_lay_15 : decode cX12_lay 15 = .ok (.iastore, 1) := by decide +kernel
theorem dX12_lay_16 : decode cX12_lay 16 = .ok (.iinc 3 1, 3) := by decide +kernel
theorem dX12_lay_19 : decode cX12_lay 19 = .ok (.goto (-17), 3) := by decide +kernel
theorem dX12_lay_22 : decode cX12_lay 22 = .ok (.return_, 1) := by decide +kernel
def b_X12_lay_2 (a0 : Nat) (a1 : Nat) (p2 : Int32) (J22_2 : uS → Option uS) (rec2_5 : uS → Int32 → Option uS) (s3 : uS) (x4 : Int32) : Option uS :=
  if 37 ≤ x4 then (J22_2 s3) else ((u_rI ZM s3 0 a0 x4).bind fun v6 =>
  (u_wI ZM s3 0 a1 (p2 + x4) v6).bind fun s7 =>
  u_jn (x4 + 1 : Int32) fun x8 =>
  rec2_5 s7 x8)
def f_X12_lay (N : Nat) (σ : uS) (a0 : Nat) (a1 : Nat) (p2 : Int32) : Option uS := u_jn (fun (s1 : uS) => (some s1 : Option uS)) fun J22_2 =>
  u_lp2 (b_X12_lay_2 a0 a1 p2 J22_2) N σ 0
set_option maxRecDepth 100000 in
set_option maxHeartbeats 4000000 in
theorem c_X12_lay (l : Launch) (G : uG) (N : Nat) (σ : uS) (a0 : Nat) (a1 : Nat) (p2 : Int32) (z : uS) (hz : f_X12_lay N σ a0 a1 p2 = some z) : u_Mv l ZM G yX12_lay cX12_lay 4 0 [.ref (G.2.2 a0), .ref (G.2.2 a1), .int p2] σ z := by
  refine u_Mv_of RX12 (by decide) rfl (Nat.le_of_ble_eq_true rfl) ?_
  intro p e s m args below meth c ls cx hw hl
  have hx := cx.1
  have hb := cx.2.1
  have hl : lv_has ls 4 [(0, .ref (G.2.2 a0)), (1, .ref (G.2.2 a1)), (2, .int p2)] := hl
  unfold f_X12_lay at hz
  refine lv_iconst (v := 0) hx hb dX12_lay_0 (by decide) ?_
  refine lv_istore_n (lv' := [(3, .int 0), (0, .ref (G.2.2 a0)), (1, .ref (G.2.2 a1)), (2, .int p2)]) hx hb dX12_lay_1 rfl hl (by decide) rfl (fun ls hl => ?_)
  obtain ⟨J22_2, eJ22_2, hz⟩ := u_let hz
  have WJ22_2 : ∀ (s1 : uS) (H : Heap) (locs : List Loc) (ls : Array Slot), J22_2 s1 = some z → u_W ZM G s1 s H locs → lv_has ls 4 [] → W p l e (u_rm 0) s m args below meth c H locs 0 0 (u_Qv below ZM G s args z) (F0 m 22 ls []) := by
    intro s1 H locs ls hz hw hl
    rw [eJ22_2] at hz
    exact u_vret cx hw (Option.some.inj hz) dX12_lay_22
  have WL2_8 : ∀ (k : Nat) (s3 : uS) (x4 : Int32) (H : Heap) (locs : List Loc) (ls : Array Slot), u_lp2 (b_X12_lay_2 a0 a1 p2 J22_2) k s3 x4 = some z → u_W ZM G s3 s H locs → lv_has ls 4 [(0, .ref (G.2.2 a0)), (1, .ref (G.2.2 a1)), (2, .int p2), (3, .int x4)] → W p l e (u_rm 0) s m args below meth c H locs 0 0 (u_Qv below ZM G s args z) (F0 m 2 ls []) := by
    intro k
    induction k with
    | zero =>
      intro s3 x4 H locs ls hz
      exact absurd hz (by intro h9; cases h9)
    | succ k ih2_5 =>
      intro s3 x4 H locs ls hz hw hl
      have hz : (b_X12_lay_2 a0 a1 p2 J22_2) (u_lp2 (b_X12_lay_2 a0 a1 p2 J22_2) k) s3 x4 = some z := hz
      unfold b_X12_lay_2 at hz
      refine lv_iload_n hx hb dX12_lay_2 rfl (lv_at hl 3 rfl) ?_
      refine lv_bipush (v := 37) hx hb dX12_lay_3 (by decide) ?_
      refine lv_icmp_ge (tgt := 22) hx hb dX12_lay_5 (by decide) (fun hc => ?_) (fun hc => ?_)
      · replace hz := u_ift hz hc
        exact WJ22_2 s3 _ _ _ hz hw (lv_sub hl [] rfl)
      · replace hz := u_iff hz hc
        refine lv_aload_n hx hb dX12_lay_8 rfl (lv_at hl 1 rfl) ?_
        refine lv_iload_n hx hb dX12_lay_9 rfl (lv_at hl 2 rfl) ?_
        refine lv_iload_n hx hb dX12_lay_10 rfl (lv_at hl 3 rfl) ?_
        refine lv_iadd hx hb dX12_lay_11 ?_
        refine lv_aload_n hx hb dX12_lay_12 rfl (lv_at hl 0 rfl) ?_
        refine lv_iload_n hx hb dX12_lay_13 rfl (lv_at hl 3 rfl) ?_
        obtain ⟨v6, hv6, hz⟩ := u_bind hz
        refine u_iald cx hw hv6 dX12_lay_14 ?_
        obtain ⟨s7, hs7, hz⟩ := u_bind hz
        refine u_iast cx hw hs7 dX12_lay_15 (fun H locs hw => ?_)
        obtain ⟨x8, ex8, hz⟩ := u_let hz
        refine lv_iinc (v := x8) (lv' := [(3, .int x8), (0, .ref (G.2.2 a0)), (1, .ref (G.2.2 a1)), (2, .int p2)]) hx hb dX12_lay_16 hl (k := 3) rfl (by rw [ex8]; rfl) (by decide) rfl (fun ls hl => ?_)
        refine lv_goto (tgt := 2) hx hb dX12_lay_19 (by decide) ?_
        exact ih2_5 s7 x8 _ _ _ hz hw (lv_sub hl [1, 2, 3, 0] rfl)
  exact WL2_8 N σ 0 _ _ _ hz hw (lv_sub hl [1, 2, 3, 0] rfl)
theorem dX12_remember_0 : decode cX12_remember 0 = .ok (.aload_n 0, 1) := by decide +kernel
theorem dX12_remember_1 : decode cX12_remember 1 = .ok (.getfield 139, 3) := by decide +kernel
theorem dX12_remember_4 : decode cX12_remember 4 = .ok (.bipush 12, 2) := by decide +kernel
theorem dX12_remember_6 : decode cX12_remember 6 = .ok (.if_icmp .ne 43, 3) := by decide +kernel
theorem dX12_remember_9 : decode cX12_remember 9 = .ok (.iconst 0, 1) := by decide +kernel
theorem dX12_remember_10 : decode cX12_remember 10 = .ok (.istore_n 2, 1) := by decide +kernel
theorem dX12_remember_11 : decode cX12_remember 11 = .ok (.iload_n 2, 1) := by decide +kernel
theorem dX12_remember_12 : decode cX12_remember 12 = .ok (.sipush 407, 3) := by decide +kernel
theorem dX12_remember_15 : decode cX12_remember 15 = .ok (.if_icmp .ge 24, 3) := by decide +kernel
theorem dX12_remember_18 : decode cX12_remember 18 = .ok (.aload_n 0, 1) := by decide +kernel
theorem dX12_remember_19 : decode cX12_remember 19 = .ok (.getfield 40, 3) := by decide +kernel
theorem dX12_remember_22 : decode cX12_remember 22 = .ok (.iload_n 2, 1) := by decide +kernel
theorem dX12_remember_23 : decode cX12_remember 23 = .ok (.aload_n 0, 1) := by decide +kernel
theorem dX12_remember_24 : decode cX12_remember 24 = .ok (.getfield 40, 3) := by decide +kernel
theorem dX12_remember_27 : decode cX12_remember 27 = .ok (.iload_n 2, 1) := by decide +kernel
theorem dX12_remember_28 : decode cX12_remember 28 = .ok (.bipush 37, 2) := by decide +kernel
theorem dX12_remember_30 : decode cX12_remember 30 = .ok (.iadd, 1) := by decide +kernel
theorem dX12_remember_31 : decode cX12_remember 31 = .ok (.iaload, 1) := by decide +kernel
theorem dX12_remember_32 : decode cX12_remember 32 = .ok (.iastore, 1) := by decide +kernel
theorem dX12_remember_33 : decode cX12_remember 33 = .ok (.iinc 2 1, 3) := by decide +kernel
theorem dX12_remember_36 : decode cX12_remember 36 = .ok (.goto (-25), 3) := by decide +kernel
theorem dX12_remember_39 : decode cX12_remember 39 = .ok (.aload_n 0, 1) := by decide +kernel
theorem dX12_remember_40 : decode cX12_remember 40 = .ok (.dup, 1) := by decide +kernel
theorem dX12_remember_41 : decode cX12_remember 41 = .ok (.getfield 139, 3) := by decide +kernel
theorem dX12_remember_44 : decode cX12_remember 44 = .ok (.iconst 1, 1) := by decide +kernel
theorem dX12_remember_45 : decode cX12_remember 45 = .ok (.isub, 1) := by decide +kernel
theorem dX12_remember_46 : decode cX12_remember 46 = .ok (.putfield 139, 3) := by decide +kernel
theorem dX12_remember_49 : decode cX12_remember 49 = .ok (.aload_n 1, 1) := by decide +kernel
theorem dX12_remember_50 : decode cX12_remember 50 = .ok (.aload_n 0, 1) := by decide +kernel
theorem dX12_remember_51 : decode cX12_remember 51 = .ok (.getfield 40, 3) := by decide +kernel
theorem dX12_remember_54 : decode cX12_remember 54 = .ok (.bipush 37, 2) := by decide +kernel
theorem dX12_remember_56 : decode cX12_remember 56 = .ok (.aload_n 0, 1) := by decide +kernel
theorem dX12_remember_57 : decode cX12_remember 57 = .ok (.getfield 139, 3) := by decide +kernel
theorem dX12_remember_60 : decode cX12_remember 60 = .ok (.imul, 1) := by decide +kernel
theorem dX12_remember_61 : decode cX12_remember 61 = .ok (.invokestatic 242, 3) := by decide +kernel
theorem dX12_remember_64 : decode cX12_remember 64 = .ok (.aload_n 0, 1) := by decide +kernel
theorem dX12_remember_65 : decode cX12_remember 65 = .ok (.dup, 1) := by decide +kernel
theorem dX12_remember_66 : decode cX12_remember 66 = .ok (.getfield 139, 3) := by decide +kernel
theorem dX12_remember_69 : decode cX12_remember 69 = .ok (.iconst 1, 1) := by decide +kernel
theorem dX12_remember_70 : decode cX12_remember 70 = .ok (.iadd, 1) := by decide +kernel
theorem dX12_remember_71 : decode cX12_remember 71 = .ok (.putfield 139, 3) := by decide +kernel
theorem dX12_remember_74 : decode cX12_remember 74 = .ok (.return_, 1) := by decide +kernel
def b_X12_remember_11 (J39_6 : uS → Option uS) (rec11_10 : uS → Int32 → Option uS) (s8 : uS) (x9 : Int32) : Option uS :=
  if 407 ≤ x9 then (J39_6 s8) else ((u_rI ZM s8 0 9 (x9 + 37)).bind fun v11 =>
  (u_wI ZM s8 0 9 x9 v11).bind fun s12 =>
  u_jn (x9 + 1 : Int32) fun x13 =>
  rec11_10 s12 x13)
def f_X12_remember (N : Nat) (σ : uS) (a1 : Nat) : Option uS := u_jn (fun (s1 : uS) => ((f_X12_lay N s1 a1 9 (37 * (s1.1 0 21))).bind fun s3 =>
  u_jn (u_pI s3 0 21 ((s3.1 0 21) + 1)) fun s4 =>
  some s4 : Option uS)) fun J49_2 =>
  if (σ.1 0 21) = 12 then (u_jn (fun (s5 : uS) => (u_jn (u_pI s5 0 21 ((s5.1 0 21) - 1)) fun s7 =>
  J49_2 s7 : Option uS)) fun J39_6 =>
  u_lp2 (b_X12_remember_11 J39_6) N σ 0) else (J49_2 σ)
set_option maxRecDepth 100000 in
set_option maxHeartbeats 4000000 in
theorem c_X12_remember (l : Launch) (G : uG) (N : Nat) (σ : uS) (a1 : Nat) (z : uS) (hz : f_X12_remember N σ a1 = some z) : u_Mv l ZM G yX12_remember cX12_remember 3 1 [.ref (G.2.2 0), .ref (G.2.2 a1)] σ z := by
  refine u_Mv_of RX12 (by decide) rfl (Nat.le_of_ble_eq_true rfl) ?_
  intro p e s m args below meth c ls cx hw hl
  have hx := cx.1
  have hb := cx.2.1
  have hl : lv_has ls 3 [(0, .ref (G.2.2 0)), (1, .ref (G.2.2 a1))] := hl
  unfold f_X12_remember at hz
  refine lv_aload_n hx hb dX12_remember_0 rfl (lv_at hl 0 rfl) ?_
  refine u_geti cx hw F_X12_139 o_X12 rfl dX12_remember_1 ?_
  refine lv_bipush (v := 12) hx hb dX12_remember_4 (by decide) ?_
  obtain ⟨J49_2, eJ49_2, hz⟩ := u_let hz
  have WJ49_2 : ∀ (s1 : uS) (H : Heap) (locs : List Loc) (ls : Array Slot), J49_2 s1 = some z → u_W ZM G s1 s H locs → lv_has ls 3 [(0, .ref (G.2.2 0)), (1, .ref (G.2.2 a1))] → W p l e (u_rm 1) s m args below meth c H locs 0 0 (u_Qv below ZM G s args z) (F0 m 49 ls []) := by
    intro s1 H locs ls hz hw hl
    rw [eJ49_2] at hz
    refine lv_aload_n hx hb dX12_remember_49 rfl (lv_at hl 1 rfl) ?_
    refine lv_aload_n hx hb dX12_remember_50 rfl (lv_at hl 0 rfl) ?_
    refine u_getp cx hw F_X12_40 o_X12 rfl dX12_remember_51 ?_
    refine lv_bipush (v := 37) hx hb dX12_remember_54 (by decide) ?_
    refine lv_aload_n hx hb dX12_remember_56 rfl (lv_at hl 0 rfl) ?_
    refine u_geti cx hw F_X12_139 o_X12 rfl dX12_remember_57 ?_
    refine lv_imul hx hb dX12_remember_60 ?_
    obtain ⟨s3, hs3, hz⟩ := u_bind hz
    refine u_callSv (As := [.ref (G.2.2 a1), .ref (G.2.2 9), .int (37 * (s1.1 0 21))]) (rest := []) cx hw LS_X12_242 (c_X12_lay l G N s1 a1 9 (37 * (s1.1 0 21)) s3 hs3) (by decide) hl.1 rfl (Nat.le_of_ble_eq_true rfl) dX12_remember_61 rfl (fun H locs hw => ?_)
    refine lv_aload_n hx hb dX12_remember_64 rfl (lv_at hl 0 rfl) ?_
    refine lv_dup hx hb dX12_remember_65 rfl ?_
    refine u_geti cx hw F_X12_139 o_X12 rfl dX12_remember_66 ?_
    refine lv_iconst (v := 1) hx hb dX12_remember_69 (by decide) ?_
    refine lv_iadd hx hb dX12_remember_70 ?_
    obtain ⟨s4, es4, hz⟩ := u_let hz
    refine u_puti2 cx hw P_X12_139 o_X12 rfl es4 dX12_remember_71 (fun H locs hw => ?_)
    exact u_vret cx hw (Option.some.inj hz) dX12_remember_74
  refine lv_icmp_ne (tgt := 49) hx hb dX12_remember_6 (by decide) (fun hc => ?_) (fun hc => ?_)
  · replace hz := u_iff hz hc
    exact WJ49_2 σ _ _ _ hz hw (lv_sub hl [0, 1] rfl)
  · replace hz := u_ift hz hc
    refine lv_iconst (v := 0) hx hb dX12_remember_9 (by decide) ?_
    refine lv_istore_n (lv' := [(2, .int 0), (0, .ref (G.2.2 0)), (1, .ref (G.2.2 a1))]) hx hb dX12_remember_10 rfl hl (by decide) rfl (fun ls hl => ?_)
    obtain ⟨J39_6, eJ39_6, hz⟩ := u_let hz
    have WJ39_6 : ∀ (s5 : uS) (H : Heap) (locs : List Loc) (ls : Array Slot), J39_6 s5 = some z → u_W ZM G s5 s H locs → lv_has ls 3 [(0, .ref (G.2.2 0)), (1, .ref (G.2.2 a1))] → W p l e (u_rm 1) s m args below meth c H locs 0 0 (u_Qv below ZM G s args z) (F0 m 39 ls []) := by
      intro s5 H locs ls hz hw hl
      rw [eJ39_6] at hz
      refine lv_aload_n hx hb dX12_remember_39 rfl (lv_at hl 0 rfl) ?_
      refine lv_dup hx hb dX12_remember_40 rfl ?_
      refine u_geti cx hw F_X12_139 o_X12 rfl dX12_remember_41 ?_
      refine lv_iconst (v := 1) hx hb dX12_remember_44 (by decide) ?_
      refine lv_isub hx hb dX12_remember_45 ?_
      obtain ⟨s7, es7, hz⟩ := u_let hz
      refine u_puti2 cx hw P_X12_139 o_X12 rfl es7 dX12_remember_46 (fun H locs hw => ?_)
      exact WJ49_2 s7 _ _ _ hz hw (lv_sub hl [0, 1] rfl)
    have WL11_13 : ∀ (k : Nat) (s8 : uS) (x9 : Int32) (H : Heap) (locs : List Loc) (ls : Array Slot), u_lp2 (b_X12_remember_11 J39_6) k s8 x9 = some z → u_W ZM G s8 s H locs → lv_has ls 3 [(0, .ref (G.2.2 0)), (1, .ref (G.2.2 a1)), (2, .int x9)] → W p l e (u_rm 1) s m args below meth c H locs 0 0 (u_Qv below ZM G s args z) (F0 m 11 ls []) := by
      intro k
      induction k with
      | zero =>
        intro s8 x9 H locs ls hz
        exact absurd hz (by intro h9; cases h9)
      | succ k ih11_10 =>
        intro s8 x9 H locs ls hz hw hl
        have hz : (b_X12_remember_11 J39_6) (u_lp2 (b_X12_remember_11 J39_6) k) s8 x9 = some z := hz
        unfold b_X12_remember_11 at hz
        refine lv_iload_n hx hb dX12_remember_11 rfl (lv_at hl 2 rfl) ?_
        refine lv_sipush (v := 407) hx hb dX12_remember_12 (by decide) ?_
        refine lv_icmp_ge (tgt := 39) hx hb dX12_remember_15 (by decide) (fun hc => ?_) (fun hc => ?_)
        · replace hz := u_ift hz hc
          exact WJ39_6 s8 _ _ _ hz hw (lv_sub hl [0, 1] rfl)
        · replace hz := u_iff hz hc
          refine lv_aload_n hx hb dX12_remember_18 rfl (lv_at hl 0 rfl) ?_
          refine u_getp cx hw F_X12_40 o_X12 rfl dX12_remember_19 ?_
          refine lv_iload_n hx hb dX12_remember_22 rfl (lv_at hl 2 rfl) ?_
          refine lv_aload_n hx hb dX12_remember_23 rfl (lv_at hl 0 rfl) ?_
          refine u_getp cx hw F_X12_40 o_X12 rfl dX12_remember_24 ?_
          refine lv_iload_n hx hb dX12_remember_27 rfl (lv_at hl 2 rfl) ?_
          refine lv_bipush (v := 37) hx hb dX12_remember_28 (by decide) ?_
          refine lv_iadd hx hb dX12_remember_30 ?_
          obtain ⟨v11, hv11, hz⟩ := u_bind hz
          refine u_iald cx hw hv11 dX12_remember_31 ?_
          obtain ⟨s12, hs12, hz⟩ := u_bind hz
          refine u_iast cx hw hs12 dX12_remember_32 (fun H locs hw => ?_)
          obtain ⟨x13, ex13, hz⟩ := u_let hz
          refine lv_iinc (v := x13) (lv' := [(2, .int x13), (0, .ref (G.2.2 0)), (1, .ref (G.2.2 a1))]) hx hb dX12_remember_33 hl (k := 2) rfl (by rw [ex13]; rfl) (by decide) rfl (fun ls hl => ?_)
          refine lv_goto (tgt := 11) hx hb dX12_remember_36 (by decide) ?_
          exact ih11_10 s12 x13 _ _ _ hz hw (lv_sub hl [1, 2, 0] rfl)
    exact WL11_13 N σ 0 _ _ _ hz hw (lv_sub hl [1, 2, 0] rfl)
theorem dX12_corn_0 : decode cX12_corn 0 = .ok (.iconst 0, 1) := by decide +kernel
theorem dX12_corn_1 : decode cX12_corn 1 = .ok (.istore 4, 2) := by decide +kernel
theorem dX12_corn_3 : decode cX12_corn 3 = .ok (.iload_n 2, 1) := by decide +kernel
theorem dX12_corn_4 : decode cX12_corn 4 = .ok (.istore 5, 2) := by decide +kernel
theorem dX12_corn_6 : decode cX12_corn 6 = .ok (.iload 5, 2) := by decide +kernel
theorem dX12_corn_8 : decode cX12_corn 8 = .ok (.iload_n 3, 1) := by decide +kernel
theorem dX12_corn_9 : decode cX12_corn 9 = .ok (.if_icmp .gt 21, 3) := by decide +kernel
theorem dX12_corn_12 : decode cX12_corn 12 = .ok (.iload 4, 2) := by decide +kernel
theorem dX12_corn_14 : decode cX12_corn 14 = .ok (.aload_n 1, 1) := by decide +kernel
theorem dX12_corn_15 : decode cX12_corn 15 = .ok (.bipush 16, 2) := by decide +kernel
theorem dX12_corn_17 : decode cX12_corn 17 = .ok (.iload 5, 2) := by decide +kernel
theorem dX12_corn_19 : decode cX12_corn 19 = .ok (.iadd, 1) := by decide +kernel
theorem dX12_corn_20 : decode cX12_corn 20 = .ok (.iaload, 1) := by decide +kernel
theorem dX12_corn_21 : decode cX12_corn 21 = .ok (.iadd, 1) := by decide +kernel
theorem dX12_corn_22 : decode cX12_corn 22 = .ok (.istore 4, 2) := by decide +kernel
theorem dX12_corn_24 : decode cX12_corn 24 = .ok (.iinc 5 1, 3) := by decide +kernel
theorem dX12_corn_27 : decode cX12_corn 27 = .ok (.goto (-21), 3) := by decide +kernel
theorem dX12_corn_30 : decode cX12_corn 30 = .ok (.iload 4, 2) := by decide +kernel
theorem dX12_corn_32 : decode cX12_corn 32 = .ok (.ireturn, 1) := by decide +kernel
def b_X12_corn_6 (σ : uS) (a1 : Nat) (p3 : Int32) (J30_2 : Int32 → Option Int32) (rec6_5 : Int32 → Int32 → Option Int32) (x3 : Int32) (x4 : Int32) : Option Int32 :=
  if p3 < x4 then (J30_2 x3) else ((u_rI ZM σ 0 a1 (16 + x4)).bind fun v6 =>
  u_jn ((x3 + v6) : Int32) fun x7 =>
  u_jn (x4 + 1 : Int32) fun x8 =>
  rec6_5 x7 x8)
def f_X12_corn (N : Nat) (σ : uS) (a1 : Nat) (p2 : Int32) (p3 : Int32) : Option Int32 := u_jn (fun (x1 : Int32) => (some x1 : Option Int32)) fun J30_2 =>
  u_lp2 (b_X12_corn_6 σ a1 p3 J30_2) N 0 p2
set_option maxRecDepth 100000 in
set_option maxHeartbeats 4000000 in
theorem c_X12_corn (l : Launch) (G : uG) (N : Nat) (σ : uS) (a1 : Nat) (p2 : Int32) (p3 : Int32) (z : Int32) (hz : f_X12_corn N σ a1 p2 p3 = some z) : u_Mi l ZM G yX12_corn cX12_corn 6 .int 0 [.ref (G.2.2 0), .ref (G.2.2 a1), .int p2, .int p3] σ z σ := by
  refine u_Mi_of RX12 (by decide) rfl (Nat.le_of_ble_eq_true rfl) ?_
  intro p e s m args below meth c ls cx hw hl
  have hx := cx.1
  have hb := cx.2.1
  have hl : lv_has ls 6 [(0, .ref (G.2.2 0)), (1, .ref (G.2.2 a1)), (2, .int p2), (3, .int p3)] := hl
  unfold f_X12_corn at hz
  refine lv_iconst (v := 0) hx hb dX12_corn_0 (by decide) ?_
  refine lv_istore (lv' := [(4, .int 0), (0, .ref (G.2.2 0)), (1, .ref (G.2.2 a1)), (2, .int p2), (3, .int p3)]) hx hb dX12_corn_1 hl (by decide) rfl (fun ls hl => ?_)
  refine lv_iload_n hx hb dX12_corn_3 rfl (lv_at hl 3 rfl) ?_
  refine lv_istore (lv' := [(5, .int p2), (4, .int 0), (0, .ref (G.2.2 0)), (1, .ref (G.2.2 a1)), (2, .int p2), (3, .int p3)]) hx hb dX12_corn_4 hl (by decide) rfl (fun ls hl => ?_)
  obtain ⟨J30_2, eJ30_2, hz⟩ := u_let hz
  have WJ30_2 : ∀ (x1 : Int32) (H : Heap) (locs : List Loc) (ls : Array Slot), J30_2 x1 = some z → u_W ZM G σ s H locs → lv_has ls 6 [(4, .int x1)] → W p l e (u_rm 0) s m args below meth c H locs 0 0 (u_Qi below ZM G s args z σ) (F0 m 30 ls []) := by
    intro x1 H locs ls hz hw hl
    rw [eJ30_2] at hz
    refine lv_iload hx hb dX12_corn_30 (lv_at hl 0 rfl) ?_
    exact u_iret cx hw ⟨Option.some.inj hz, rfl⟩ dX12_corn_32
  have WL6_8 : ∀ (k : Nat) (x3 : Int32) (x4 : Int32) (H : Heap) (locs : List Loc) (ls : Array Slot), u_lp2 (b_X12_corn_6 σ a1 p3 J30_2) k x3 x4 = some z → u_W ZM G σ s H locs → lv_has ls 6 [(1, .ref (G.2.2 a1)), (3, .int p3), (4, .int x3), (5, .int x4)] → W p l e (u_rm 0) s m args below meth c H locs 0 0 (u_Qi below ZM G s args z σ) (F0 m 6 ls []) := by
    intro k
    induction k with
    | zero =>
      intro x3 x4 H locs ls hz
      exact absurd hz (by intro h9; cases h9)
    | succ k ih6_5 =>
      intro x3 x4 H locs ls hz hw hl
      have hz : (b_X12_corn_6 σ a1 p3 J30_2) (u_lp2 (b_X12_corn_6 σ a1 p3 J30_2) k) x3 x4 = some z := hz
      unfold b_X12_corn_6 at hz
      refine lv_iload hx hb dX12_corn_6 (lv_at hl 3 rfl) ?_
      refine lv_iload_n hx hb dX12_corn_8 rfl (lv_at hl 1 rfl) ?_
      refine lv_icmp_gt (tgt := 30) hx hb dX12_corn_9 (by decide) (fun hc => ?_) (fun hc => ?_)
      · replace hz := u_ift hz hc
        exact WJ30_2 x3 _ _ _ hz hw (lv_sub hl [2] rfl)
      · replace hz := u_iff hz hc
        refine lv_iload hx hb dX12_corn_12 (lv_at hl 2 rfl) ?_
        refine lv_aload_n hx hb dX12_corn_14 rfl (lv_at hl 0 rfl) ?_
        refine lv_bipush (v := 16) hx hb dX12_corn_15 (by decide) ?_
        refine lv_iload hx hb dX12_corn_17 (lv_at hl 3 rfl) ?_
        refine lv_iadd hx hb dX12_corn_19 ?_
        obtain ⟨v6, hv6, hz⟩ := u_bind hz
        refine u_iald cx hw hv6 dX12_corn_20 ?_
        refine lv_iadd hx hb dX12_corn_21 ?_
        obtain ⟨x7, ex7, hz⟩ := u_let hz
        refine u_topi ex7 ?_
        refine lv_istore (lv' := [(4, .int x7), (1, .ref (G.2.2 a1)), (3, .int p3), (5, .int x4)]) hx hb dX12_corn_22 hl (by decide) rfl (fun ls hl => ?_)
        obtain ⟨x8, ex8, hz⟩ := u_let hz
        refine lv_iinc (v := x8) (lv' := [(5, .int x8), (4, .int x7), (1, .ref (G.2.2 a1)), (3, .int p3)]) hx hb dX12_corn_24 hl (k := 3) rfl (by rw [ex8]; rfl) (by decide) rfl (fun ls hl => ?_)
        refine lv_goto (tgt := 6) hx hb dX12_corn_27 (by decide) ?_
        exact ih6_5 x7 x8 _ _ _ hz hw (lv_sub hl [2, 3, 1, 0] rfl)
  exact WL6_8 N 0 p2 _ _ _ hz hw (lv_sub hl [3, 5, 1, 0] rfl)
theorem dX12_refusesShow_0 : decode cX12_refusesShow 0 = .ok (.aload_n 0, 1) := by decide +kernel
theorem dX12_refusesShow_1 : decode cX12_refusesShow 1 = .ok (.iload_n 1, 1) := by decide +kernel
theorem dX12_refusesShow_2 : decode cX12_refusesShow 2 = .ok (.invokevirtual 90, 3) := by decide +kernel
theorem dX12_refusesShow_5 : decode cX12_refusesShow 5 = .ok (.ifCond .ne 5, 3) := by decide +kernel
theorem dX12_refusesShow_8 : decode cX12_refusesShow 8 = .ok (.iconst (-1), 1) := by decide +kernel
theorem dX12_refusesShow_9 : decode cX12_refusesShow 9 = .ok (.ireturn, 1) := by decide +kernel
theorem dX12_refusesShow_10 : decode cX12_refusesShow 10 = .ok (.aload_n 0, 1) := by decide +kernel
theorem dX12_refusesShow_11 : decode cX12_refusesShow 11 = .ok (.getfield 9, 3) := by decide +kernel
theorem dX12_refusesShow_14 : decode cX12_refusesShow 14 = .ok (.bipush 34, 2) := by decide +kernel
theorem dX12_refusesShow_16 : decode cX12_refusesShow 16 = .ok (.iaload, 1) := by decide +kernel
theorem dX12_refusesShow_17 : decode cX12_refusesShow 17 = .ok (.iload_n 1, 1) := by decide +kernel
theorem dX12_refusesShow_18 : decode cX12_refusesShow 18 = .ok (.invokestatic 198, 3) := by decide +kernel
theorem dX12_refusesShow_21 : decode cX12_refusesShow 21 = .ok (.ifCond .eq 8, 3) := by decide +kernel
theorem dX12_refusesShow_24 : decode cX12_refusesShow 24 = .ok (.bipush (-2), 2) := by decide +kernel
theorem dX12_refusesShow_26 : decode cX12_refusesShow 26 = .ok (.goto 4, 3) := by decide +kernel
theorem dX12_refusesShow_29 : decode cX12_refusesShow 29 = .ok (.iconst 0, 1) := by decide +kernel
theorem dX12_refusesShow_30 : decode cX12_refusesShow 30 = .ok (.ireturn, 1) := by decide +kernel
def f_X12_refusesShow (N : Nat) (σ : uS) (p1 : Int32) : Option Int32 := (f_X12_isMan N σ p1).bind fun v1 =>
  if v1 = 0 then (some (-1)) else ((u_rI ZM σ 0 1 34).bind fun v2 =>
  (f_X12_has N σ v2 p1).bind fun v3 =>
  if v3 = 0 then (some 0) else (some (-2)))
set_option maxRecDepth 100000 in
set_option maxHeartbeats 4000000 in
theorem c_X12_refusesShow (l : Launch) (G : uG) (N : Nat) (σ : uS) (p1 : Int32) (z : Int32) (hz : f_X12_refusesShow N σ p1 = some z) : u_Mi l ZM G yX12_refusesShow cX12_refusesShow 2 .int 2 [.ref (G.2.2 0), .int p1] σ z σ := by
  refine u_Mi_of RX12 (by decide) rfl (Nat.le_of_ble_eq_true rfl) ?_
  intro p e s m args below meth c ls cx hw hl
  have hx := cx.1
  have hb := cx.2.1
  have hl : lv_has ls 2 [(0, .ref (G.2.2 0)), (1, .int p1)] := hl
  unfold f_X12_refusesShow at hz
  refine lv_aload_n hx hb dX12_refusesShow_0 rfl (lv_at hl 0 rfl) ?_
  refine lv_iload_n hx hb dX12_refusesShow_1 rfl (lv_at hl 1 rfl) ?_
  obtain ⟨v1, hv1, hz⟩ := u_bind hz
  refine u_callVi (As := [.int p1]) (rest := []) cx hw LV_X12_90 (c_X12_isMan l G N σ p1 v1 hv1) o_X12 rfl (by decide) hl.1 rfl (Nat.le_of_ble_eq_true rfl) dX12_refusesShow_2 rfl (fun H locs hw => ?_)
  refine lv_if_ne (tgt := 10) hx hb dX12_refusesShow_5 (by decide) (fun hc => ?_) (fun hc => ?_)
  · replace hz := u_iff hz hc
    refine lv_aload_n hx hb dX12_refusesShow_10 rfl (lv_at hl 0 rfl) ?_
    refine u_getp cx hw F_X12_9 o_X12 rfl dX12_refusesShow_11 ?_
    refine lv_bipush (v := 34) hx hb dX12_refusesShow_14 (by decide) ?_
    obtain ⟨v2, hv2, hz⟩ := u_bind hz
    refine u_iald cx hw hv2 dX12_refusesShow_16 ?_
    refine lv_iload_n hx hb dX12_refusesShow_17 rfl (lv_at hl 1 rfl) ?_
    obtain ⟨v3, hv3, hz⟩ := u_bind hz
    refine u_callSi (As := [.int v2, .int p1]) (rest := []) cx hw LS_X12_198 (c_X12_has l G N σ v2 p1 v3 hv3) (by decide) hl.1 rfl (Nat.le_of_ble_eq_true rfl) dX12_refusesShow_18 rfl (fun H locs hw => ?_)
    refine lv_if_eq (tgt := 29) hx hb dX12_refusesShow_21 (by decide) (fun hc => ?_) (fun hc => ?_)
    · replace hz := u_ift hz hc
      refine lv_iconst (v := 0) hx hb dX12_refusesShow_29 (by decide) ?_
      exact u_iret cx hw ⟨Option.some.inj hz, rfl⟩ dX12_refusesShow_30
    · replace hz := u_iff hz hc
      refine lv_bipush (v := (-2)) hx hb dX12_refusesShow_24 (by decide) ?_
      refine lv_goto (tgt := 30) hx hb dX12_refusesShow_26 (by decide) ?_
      exact u_iret cx hw ⟨Option.some.inj hz, rfl⟩ dX12_refusesShow_30
  · replace hz := u_ift hz hc
    refine lv_iconst (v := (-1)) hx hb dX12_refusesShow_8 (by decide) ?_
    exact u_iret cx hw ⟨Option.some.inj hz, rfl⟩ dX12_refusesShow_9
theorem dX12_show_0 : decode cX12_show 0 = .ok (.aload_n 0, 1) := by decide +kernel
theorem dX12_show_1 : decode cX12_show 1 = .ok (.iconst 0, 1) := by decide +kernel
theorem dX12_show_2 : decode cX12_show 2 = .ok (.putfield 77, 3) := by decide +kernel
theorem dX12_show_5 : decode cX12_show 5 = .ok (.aload_n 0, 1) := by decide +kernel
theorem dX12_show_6 : decode cX12_show 6 = .ok (.iload_n 1, 1) := by decide +kernel
theorem dX12_show_7 : decode cX12_show 7 = .ok (.invokevirtual 264, 3) := by decide +kernel
theorem dX12_show_10 : decode cX12_show 10 = .ok (.istore_n 2, 1) := by decide +kernel
theorem dX12_show_11 : decode cX12_show 11 = .ok (.iload_n 2, 1) := by decide +kernel
theorem dX12_show_12 : decode cX12_show 12 = .ok (.ifCond .ge 5, 3) := by decide +kernel
theorem dX12_show_15 : decode cX12_show 15 = .ok (.iload_n 2, 1) := by decide +kernel
theorem dX12_show_16 : decode cX12_show 16 = .ok (.ireturn, 1) := by decide +kernel
theorem dX12_show_17 : decode cX12_show 17 = .ok (.aload_n 0, 1) := by decide +kernel
theorem dX12_show_18 : decode cX12_show 18 = .ok (.aload_n 0, 1) := by decide +kernel
theorem dX12_show_19 : decode cX12_show 19 = .ok (.getfield 9, 3) := by decide +kernel
theorem dX12_show_22 : decode cX12_show 22 = .ok (.invokevirtual 253, 3) := by decide +kernel
theorem dX12_show_25 : decode cX12_show 25 = .ok (.aload_n 0, 1) := by decide +kernel
theorem dX12_show_26 : decode cX12_show 26 = .ok (.getfield 9, 3) := by decide +kernel
theorem dX12_show_29 : decode cX12_show 29 = .ok (.bipush 34, 2) := by decide +kernel
theorem dX12_show_31 : decode cX12_show 31 = .ok (.dup2, 1) := by decide +kernel
theorem dX12_show_32 : decode cX12_show 32 = .ok (.iaload, 1) := by decide +kernel
theorem dX12_show_33 : decode cX12_show 33 = .ok (.iconst 1, 1) := by decide +kernel
theorem dX12_show_34 : decode cX12_show 34 = .ok (.iload_n 1, 1) := by decide +kernel
theorem dX12_show_35 : decode cX12_show 35 = .ok (.ishl, 1) := by decide +kernel
theorem dX12_show_36 : decode cX12_show 36 = .ok (.ior, 1) := by decide +kernel
theorem dX12_show_37 : decode cX12_show 37 = .ok (.iastore, 1) := by decide +kernel
theorem dX12_show_38 : decode cX12_show 38 = .ok (.aload_n 0, 1) := by decide +kernel
theorem dX12_show_39 : decode cX12_show 39 = .ok (.getfield 9, 3) := by decide +kernel
theorem dX12_show_42 : decode cX12_show 42 = .ok (.bipush 34, 2) := by decide +kernel
theorem dX12_show_44 : decode cX12_show 44 = .ok (.iaload, 1) := by decide +kernel
theorem dX12_show_45 : decode cX12_show 45 = .ok (.ireturn, 1) := by decide +kernel
def f_X12_show (N : Nat) (σ : uS) (p1 : Int32) : Option (Int32 × uS) := u_jn (u_pI σ 0 8 0) fun s1 =>
  (f_X12_refusesShow N s1 p1).bind fun v2 =>
  if 0 ≤ v2 then ((f_X12_remember N s1 1).bind fun s3 =>
  (u_rI ZM s3 0 1 34).bind fun v4 =>
  (u_wI ZM s3 0 1 34 (v4 ||| (1 <<< (p1 &&& 31)))).bind fun s5 =>
  (u_rI ZM s5 0 1 34).bind fun v6 =>
  some (v6, s5)) else (some (v2, s1))
set_option maxRecDepth 100000 in
set_option maxHeartbeats 4000000 in
theorem c_X12_show (l : Launch) (G : uG) (N : Nat) (σ : uS) (p1 : Int32) (z : (Int32 × uS)) (hz : f_X12_show N σ p1 = some z) : u_Mi l ZM G yX12_show cX12_show 3 .int 3 [.ref (G.2.2 0), .int p1] σ z.1 z.2 := by
  refine u_Mi_of RX12 (by decide) rfl (Nat.le_of_ble_eq_true rfl) ?_
  intro p e s m args below meth c ls cx hw hl
  have hx := cx.1
  have hb := cx.2.1
  have hl : lv_has ls 3 [(0, .ref (G.2.2 0)), (1, .int p1)] := hl
  unfold f_X12_show at hz
  refine lv_aload_n hx hb dX12_show_0 rfl (lv_at hl 0 rfl) ?_
  refine lv_iconst (v := 0) hx hb dX12_show_1 (by decide) ?_
  obtain ⟨s1, es1, hz⟩ := u_let hz
  refine u_puti2 cx hw P_X12_77 o_X12 rfl es1 dX12_show_2 (fun H locs hw => ?_)
  refine lv_aload_n hx hb dX12_show_5 rfl (lv_at hl 0 rfl) ?_
  refine lv_iload_n hx hb dX12_show_6 rfl (lv_at hl 1 rfl) ?_
  obtain ⟨v2, hv2, hz⟩ := u_bind hz
  refine u_callVi (As := [.int p1]) (rest := []) cx hw LV_X12_264 (c_X12_refusesShow l G N s1 p1 v2 hv2) o_X12 rfl (by decide) hl.1 rfl (Nat.le_of_ble_eq_true rfl) dX12_show_7 rfl (fun H locs hw => ?_)
  refine lv_istore_n (lv' := [(2, .int v2), (0, .ref (G.2.2 0)), (1, .int p1)]) hx hb dX12_show_10 rfl hl (by decide) rfl (fun ls hl => ?_)
  refine lv_iload_n hx hb dX12_show_11 rfl (lv_at hl 0 rfl) ?_
  refine lv_if_ge (tgt := 17) hx hb dX12_show_12 (by decide) (fun hc => ?_) (fun hc => ?_)
  · replace hz := u_ift hz hc
    refine lv_aload_n hx hb dX12_show_17 rfl (lv_at hl 1 rfl) ?_
    refine lv_aload_n hx hb dX12_show_18 rfl (lv_at hl 1 rfl) ?_
    refine u_getp cx hw F_X12_9 o_X12 rfl dX12_show_19 ?_
    obtain ⟨s3, hs3, hz⟩ := u_bind hz
    refine u_callVv (As := [.ref (G.2.2 1)]) (rest := []) cx hw LV_X12_253 (c_X12_remember l G N s1 1 s3 hs3) o_X12 rfl (by decide) hl.1 rfl (Nat.le_of_ble_eq_true rfl) dX12_show_22 rfl (fun H locs hw => ?_)
    refine lv_aload_n hx hb dX12_show_25 rfl (lv_at hl 1 rfl) ?_
    refine u_getp cx hw F_X12_9 o_X12 rfl dX12_show_26 ?_
    refine lv_bipush (v := 34) hx hb dX12_show_29 (by decide) ?_
    refine lv_dup2_11 hx hb dX12_show_31 rfl rfl ?_
    obtain ⟨v4, hv4, hz⟩ := u_bind hz
    refine u_iald cx hw hv4 dX12_show_32 ?_
    refine lv_iconst (v := 1) hx hb dX12_show_33 (by decide) ?_
    refine lv_iload_n hx hb dX12_show_34 rfl (lv_at hl 2 rfl) ?_
    refine lv_ishl hx hb dX12_show_35 ?_
    refine lv_ior hx hb dX12_show_36 ?_
    obtain ⟨s5, hs5, hz⟩ := u_bind hz
    refine u_iast cx hw hs5 dX12_show_37 (fun H locs hw => ?_)
    refine lv_aload_n hx hb dX12_show_38 rfl (lv_at hl 1 rfl) ?_
    refine u_getp cx hw F_X12_9 o_X12 rfl dX12_show_39 ?_
    refine lv_bipush (v := 34) hx hb dX12_show_42 (by decide) ?_
    obtain ⟨v6, hv6, hz⟩ := u_bind hz
    refine u_iald cx hw hv6 dX12_show_44 ?_
    exact u_iret cx hw (u_pair hz) dX12_show_45
  · replace hz := u_iff hz hc
    refine lv_iload_n hx hb dX12_show_15 rfl (lv_at hl 0 rfl) ?_
    exact u_iret cx hw (u_pair hz) dX12_show_16
theorem dX12_goGlance_0 : decode cX12_goGlance 0 = .ok (.aload_n 0, 1) := by decide +kernel
theorem dX12_goGlance_1 : decode cX12_goGlance 1 = .ok (.bipush 8, 2) := by decide +kernel
theorem dX12_goGlance_3 : decode cX12_goGlance 3 = .ok (.iload_n 1, 1) := by decide +kernel
theorem dX12_goGlance_4 : decode cX12_goGlance 4 = .ok (.iadd, 1) := by decide +kernel
theorem dX12_goGlance_5 : decode cX12_goGlance 5 = .ok (.dup2, 1) := by decide +kernel
theorem dX12_goGlance_6 : decode cX12_goGlance 6 = .ok (.iaload, 1) := by decide +kernel
theorem dX12_goGlance_7 : decode cX12_goGlance 7 = .ok (.iconst 1, 1) := by decide +kernel
theorem dX12_goGlance_8 : decode cX12_goGlance 8 = .ok (.iload_n 2, 1) := by decide +kernel
theorem dX12_goGlance_9 : decode cX12_goGlance 9 = .ok (.ishl, 1) := by decide +kernel
theorem dX12_goGlance_10 : decode cX12_goGlance 10 = .ok (.ixor, 1) := by decide +kernel
theorem dX12_goGlance_11 : decode cX12_goGlance 11 = .ok (.iastore, 1) := by decide +kernel
theorem dX12_goGlance_12 : decode cX12_goGlance 12 = .ok (.return_, 1) := by decide +kernel
def f_X12_goGlance (N : Nat) (σ : uS) (a0 : Nat) (p1 : Int32) (p2 : Int32) : Option uS := (u_rI ZM σ 0 a0 (8 + p1)).bind fun v1 =>
  (u_wI ZM σ 0 a0 (8 + p1) (v1 ^^^ (1 <<< (p2 &&& 31)))).bind fun s2 =>
  some s2
set_option maxRecDepth 100000 in
set_option maxHeartbeats 4000000 in
theorem c_X12_goGlance (l : Launch) (G : uG) (N : Nat) (σ : uS) (a0 : Nat) (p1 : Int32) (p2 : Int32) (z : uS) (hz : f_X12_goGlance N σ a0 p1 p2 = some z) : u_Mv l ZM G yX12_goGlance cX12_goGlance 3 0 [.ref (G.2.2 a0), .int p1, .int p2] σ z := by
  refine u_Mv_of RX12 (by decide) rfl (Nat.le_of_ble_eq_true rfl) ?_
  intro p e s m args below meth c ls cx hw hl
  have hx := cx.1
  have hb := cx.2.1
  have hl : lv_has ls 3 [(0, .ref (G.2.2 a0)), (1, .int p1), (2, .int p2)] := hl
  unfold f_X12_goGlance at hz
  refine lv_aload_n hx hb dX12_goGlance_0 rfl (lv_at hl 0 rfl) ?_
  refine lv_bipush (v := 8) hx hb dX12_goGlance_1 (by decide) ?_
  refine lv_iload_n hx hb dX12_goGlance_3 rfl (lv_at hl 1 rfl) ?_
  refine lv_iadd hx hb dX12_goGlance_4 ?_
  refine lv_dup2_11 hx hb dX12_goGlance_5 rfl rfl ?_
  obtain ⟨v1, hv1, hz⟩ := u_bind hz
  refine u_iald cx hw hv1 dX12_goGlance_6 ?_
  refine lv_iconst (v := 1) hx hb dX12_goGlance_7 (by decide) ?_
  refine lv_iload_n hx hb dX12_goGlance_8 rfl (lv_at hl 2 rfl) ?_
  refine lv_ishl hx hb dX12_goGlance_9 ?_
  refine lv_ixor hx hb dX12_goGlance_10 ?_
  obtain ⟨s2, hs2, hz⟩ := u_bind hz
  refine u_iast cx hw hs2 dX12_goGlance_11 (fun H locs hw => ?_)
  exact u_vret cx hw (Option.some.inj hz) dX12_goGlance_12
theorem dX12_rope_0 : decode cX12_rope 0 = .ok (.aload_n 0, 1) := by decide +kernel
theorem dX12_rope_1 : decode cX12_rope 1 = .ok (.iconst 0, 1) := by decide +kernel
theorem dX12_rope_2 : decode cX12_rope 2 = .ok (.putfield 77, 3) := by decide +kernel
theorem dX12_rope_5 : decode cX12_rope 5 = .ok (.aload_n 0, 1) := by decide +kernel
theorem dX12_rope_6 : decode cX12_rope 6 = .ok (.iload_n 1, 1) := by decide +kernel
theorem dX12_rope_7 : decode cX12_rope 7 = .ok (.invokevirtual 227, 3) := by decide +kernel
theorem dX12_rope_10 : decode cX12_rope 10 = .ok (.ifCond .eq 11, 3) := by decide +kernel
theorem dX12_rope_13 : decode cX12_rope 13 = .ok (.aload_n 0, 1) := by decide +kernel
theorem dX12_rope_14 : decode cX12_rope 14 = .ok (.iload_n 2, 1) := by decide +kernel
theorem dX12_rope_15 : decode cX12_rope 15 = .ok (.invokevirtual 227, 3) := by decide +kernel
theorem dX12_rope_18 : decode cX12_rope 18 = .ok (.ifCond .ne 5, 3) := by decide +kernel
theorem dX12_rope_21 : decode cX12_rope 21 = .ok (.iconst (-1), 1) := by decide +kernel
theorem dX12_rope_22 : decode cX12_rope 22 = .ok (.ireturn, 1) := by decide +kernel
theorem dX12_rope_23 : decode cX12_rope 23 = .ok (.iload_n 1, 1) := by decide +kernel
theorem dX12_rope_24 : decode cX12_rope 24 = .ok (.iload_n 2, 1) := by decide +kernel
theorem dX12_rope_25 : decode cX12_rope 25 = .ok (.if_icmp .le 6, 3) := by decide +kernel
theorem dX12_rope_28 : decode cX12_rope 28 = .ok (.bipush (-2), 2) := by decide +kernel
theorem dX12_rope_30 : decode cX12_rope 30 = .ok (.ireturn, 1) := by decide +kernel
theorem dX12_rope_31 : decode cX12_rope 31 = .ok (.aload_n 0, 1) := by decide +kernel
theorem dX12_rope_32 : decode cX12_rope 32 = .ok (.aload_n 0, 1) := by decide +kernel
theorem dX12_rope_33 : decode cX12_rope 33 = .ok (.getfield 9, 3) := by decide +kernel
theorem dX12_rope_36 : decode cX12_rope 36 = .ok (.invokevirtual 253, 3) := by decide +kernel
theorem dX12_rope_39 : decode cX12_rope 39 = .ok (.aload_n 0, 1) := by decide +kernel
theorem dX12_rope_40 : decode cX12_rope 40 = .ok (.getfield 9, 3) := by decide +kernel
theorem dX12_rope_43 : decode cX12_rope 43 = .ok (.bipush 32, 2) := by decide +kernel
theorem dX12_rope_45 : decode cX12_rope 45 = .ok (.iload_n 1, 1) := by decide +kernel
theorem dX12_rope_46 : decode cX12_rope 46 = .ok (.iastore, 1) := by decide +kernel
theorem dX12_rope_47 : decode cX12_rope 47 = .ok (.aload_n 0, 1) := by decide +kernel
theorem dX12_rope_48 : decode cX12_rope 48 = .ok (.getfield 9, 3) := by decide +kernel
theorem dX12_rope_51 : decode cX12_rope 51 = .ok (.bipush 33, 2) := by decide +kernel
theorem dX12_rope_53 : decode cX12_rope 53 = .ok (.iload_n 2, 1) := by decide +kernel
theorem dX12_rope_54 : decode cX12_rope 54 = .ok (.iastore, 1) := by decide +kernel
theorem dX12_rope_55 : decode cX12_rope 55 = .ok (.iload_n 2, 1) := by decide +kernel
theorem dX12_rope_56 : decode cX12_rope 56 = .ok (.iload_n 1, 1) := by decide +kernel
theorem dX12_rope_57 : decode cX12_rope 57 = .ok (.isub, 1) := by decide +kernel
theorem dX12_rope_58 : decode cX12_rope 58 = .ok (.iconst 1, 1) := by decide +kernel
theorem dX12_rope_59 : decode cX12_rope 59 = .ok (.iadd, 1) := by decide +kernel
theorem dX12_rope_60 : decode cX12_rope 60 = .ok (.ireturn, 1) := by decide +kernel
def f_X12_rope (N : Nat) (σ : uS) (p1 : Int32) (p2 : Int32) : Option (Int32 × uS) := u_jn (u_pI σ 0 8 0) fun s1 =>
  (f_X12_isFurrow N s1 p1).bind fun v2 =>
  if v2 = 0 then (some ((-1), s1)) else ((f_X12_isFurrow N s1 p2).bind fun v3 =>
  if v3 = 0 then (some ((-1), s1)) else (if p1 ≤ p2 then ((f_X12_remember N s1 1).bind fun s4 =>
  (u_wI ZM s4 0 1 32 p1).bind fun s5 =>
  (u_wI ZM s5 0 1 33 p2).bind fun s6 =>
  some (((p2 - p1) + 1), s6)) else (some ((-2), s1))))
set_option maxRecDepth 100000 in
set_option maxHeartbeats 4000000 in
theorem c_X12_rope (l : Launch) (G : uG) (N : Nat) (σ : uS) (p1 : Int32) (p2 : Int32) (z : (Int32 × uS)) (hz : f_X12_rope N σ p1 p2 = some z) : u_Mi l ZM G yX12_rope cX12_rope 3 .int 2 [.ref (G.2.2 0), .int p1, .int p2] σ z.1 z.2 := by
  refine u_Mi_of RX12 (by decide) rfl (Nat.le_of_ble_eq_true rfl) ?_
  intro p e s m args below meth c ls cx hw hl
  have hx := cx.1
  have hb := cx.2.1
  have hl : lv_has ls 3 [(0, .ref (G.2.2 0)), (1, .int p1), (2, .int p2)] := hl
  unfold f_X12_rope at hz
  refine lv_aload_n hx hb dX12_rope_0 rfl (lv_at hl 0 rfl) ?_
  refine lv_iconst (v := 0) hx hb dX12_rope_1 (by decide) ?_
  obtain ⟨s1, es1, hz⟩ := u_let hz
  refine u_puti2 cx hw P_X12_77 o_X12 rfl es1 dX12_rope_2 (fun H locs hw => ?_)
  refine lv_aload_n hx hb dX12_rope_5 rfl (lv_at hl 0 rfl) ?_
  refine lv_iload_n hx hb dX12_rope_6 rfl (lv_at hl 1 rfl) ?_
  obtain ⟨v2, hv2, hz⟩ := u_bind hz
  refine u_callVi (As := [.int p1]) (rest := []) cx hw LV_X12_227 (c_X12_isFurrow l G N s1 p1 v2 hv2) o_X12 rfl (by decide) hl.1 rfl (Nat.le_of_ble_eq_true rfl) dX12_rope_7 rfl (fun H locs hw => ?_)
  refine lv_if_eq (tgt := 21) hx hb dX12_rope_10 (by decide) (fun hc => ?_) (fun hc => ?_)
  · replace hz := u_ift hz hc
    refine lv_iconst (v := (-1)) hx hb dX12_rope_21 (by decide) ?_
    exact u_iret cx hw (u_pair hz) dX12_rope_22
  · replace hz := u_iff hz hc
    refine lv_aload_n hx hb dX12_rope_13 rfl (lv_at hl 0 rfl) ?_
    refine lv_iload_n hx hb dX12_rope_14 rfl (lv_at hl 2 rfl) ?_
    obtain ⟨v3, hv3, hz⟩ := u_bind hz
    refine u_callVi (As := [.int p2]) (rest := []) cx hw LV_X12_227 (c_X12_isFurrow l G N s1 p2 v3 hv3) o_X12 rfl (by decide) hl.1 rfl (Nat.le_of_ble_eq_true rfl) dX12_rope_15 rfl (fun H locs hw => ?_)
    refine lv_if_ne (tgt := 23) hx hb dX12_rope_18 (by decide) (fun hc => ?_) (fun hc => ?_)
    · replace hz := u_iff hz hc
      refine lv_iload_n hx hb dX12_rope_23 rfl (lv_at hl 1 rfl) ?_
      refine lv_iload_n hx hb dX12_rope_24 rfl (lv_at hl 2 rfl) ?_
      refine lv_icmp_le (tgt := 31) hx hb dX12_rope_25 (by decide) (fun hc => ?_) (fun hc => ?_)
      · replace hz := u_ift hz hc
        refine lv_aload_n hx hb dX12_rope_31 rfl (lv_at hl 0 rfl) ?_
        refine lv_aload_n hx hb dX12_rope_32 rfl (lv_at hl 0 rfl) ?_
        refine u_getp cx hw F_X12_9 o_X12 rfl dX12_rope_33 ?_
        obtain ⟨s4, hs4, hz⟩ := u_bind hz
        refine u_callVv (As := [.ref (G.2.2 1)]) (rest := []) cx hw LV_X12_253 (c_X12_remember l G N s1 1 s4 hs4) o_X12 rfl (by decide) hl.1 rfl (Nat.le_of_ble_eq_true rfl) dX12_rope_36 rfl (fun H locs hw => ?_)
        refine lv_aload_n hx hb dX12_rope_39 rfl (lv_at hl 0 rfl) ?_
        refine u_getp cx hw F_X12_9 o_X12 rfl dX12_rope_40 ?_
        refine lv_bipush (v := 32) hx hb dX12_rope_43 (by decide) ?_
        refine lv_iload_n hx hb dX12_rope_45 rfl (lv_at hl 1 rfl) ?_
        obtain ⟨s5, hs5, hz⟩ := u_bind hz
        refine u_iast cx hw hs5 dX12_rope_46 (fun H locs hw => ?_)
        refine lv_aload_n hx hb dX12_rope_47 rfl (lv_at hl 0 rfl) ?_
        refine u_getp cx hw F_X12_9 o_X12 rfl dX12_rope_48 ?_
        refine lv_bipush (v := 33) hx hb dX12_rope_51 (by decide) ?_
        refine lv_iload_n hx hb dX12_rope_53 rfl (lv_at hl 2 rfl) ?_
        obtain ⟨s6, hs6, hz⟩ := u_bind hz
        refine u_iast cx hw hs6 dX12_rope_54 (fun H locs hw => ?_)
        refine lv_iload_n hx hb dX12_rope_55 rfl (lv_at hl 2 rfl) ?_
        refine lv_iload_n hx hb dX12_rope_56 rfl (lv_at hl 1 rfl) ?_
        refine lv_isub hx hb dX12_rope_57 ?_
        refine lv_iconst (v := 1) hx hb dX12_rope_58 (by decide) ?_
        refine lv_iadd hx hb dX12_rope_59 ?_
        exact u_iret cx hw (u_pair hz) dX12_rope_60
      · replace hz := u_iff hz hc
        refine lv_bipush (v := (-2)) hx hb dX12_rope_28 (by decide) ?_
        exact u_iret cx hw (u_pair hz) dX12_rope_30
    · replace hz := u_ift hz hc
      refine lv_iconst (v := (-1)) hx hb dX12_rope_21 (by decide) ?_
      exact u_iret cx hw (u_pair hz) dX12_rope_22
theorem dX12_sow_0 : decode cX12_sow 0 = .ok (.aload_n 0, 1) := by decide +kernel
theorem dX12_sow_1 : decode cX12_sow 1 = .ok (.iconst 0, 1) := by decide +kernel
theorem dX12_sow_2 : decode cX12_sow 2 = .ok (.putfield 77, 3) := by decide +kernel
theorem dX12_sow_5 : decode cX12_sow 5 = .ok (.aload_n 0, 1) := by decide +kernel
theorem dX12_sow_6 : decode cX12_sow 6 = .ok (.iload_n 1, 1) := by decide +kernel
theorem dX12_sow_7 : decode cX12_sow 7 = .ok (.invokevirtual 227, 3) := by decide +kernel
theorem dX12_sow_10 : decode cX12_sow 10 = .ok (.ifCond .eq 13, 3) := by decide +kernel
theorem dX12_sow_13 : decode cX12_sow 13 = .ok (.iload_n 2, 1) := by decide +kernel
theorem dX12_sow_14 : decode cX12_sow 14 = .ok (.iconst 1, 1) := by decide +kernel
theorem dX12_sow_15 : decode cX12_sow 15 = .ok (.bipush 9, 2) := by decide +kernel
theorem dX12_sow_17 : decode cX12_sow 17 = .ok (.invokestatic 86, 3) := by decide +kernel
theorem dX12_sow_20 : decode cX12_sow 20 = .ok (.ifCond .ne 5, 3) := by decide +kernel
theorem dX12_sow_23 : decode cX12_sow 23 = .ok (.iconst (-1), 1) := by decide +kernel
theorem dX12_sow_24 : decode cX12_sow 24 = .ok (.ireturn, 1) := by decide +kernel
theorem dX12_sow_25 : decode cX12_sow 25 = .ok (.aload_n 0, 1) := by decide +kernel
theorem dX12_sow_26 : decode cX12_sow 26 = .ok (.aload_n 0, 1) := by decide +kernel
theorem dX12_sow_27 : decode cX12_sow 27 = .ok (.getfield 9, 3) := by decide +kernel
theorem dX12_sow_30 : decode cX12_sow 30 = .ok (.invokevirtual 253, 3) := by decide +kernel
theorem dX12_sow_33 : decode cX12_sow 33 = .ok (.aload_n 0, 1) := by decide +kernel
theorem dX12_sow_34 : decode cX12_sow 34 = .ok (.getfield 9, 3) := by decide +kernel
theorem dX12_sow_37 : decode cX12_sow 37 = .ok (.bipush 16, 2) := by decide +kernel
theorem dX12_sow_39 : decode cX12_sow 39 = .ok (.iload_n 1, 1) := by decide +kernel
theorem dX12_sow_40 : decode cX12_sow 40 = .ok (.iadd, 1) := by decide +kernel
theorem dX12_sow_41 : decode cX12_sow 41 = .ok (.bipush 9, 2) := by decide +kernel
theorem dX12_sow_43 : decode cX12_sow 43 = .ok (.aload_n 0, 1) := by decide +kernel
theorem dX12_sow_44 : decode cX12_sow 44 = .ok (.getfield 9, 3) := by decide +kernel
theorem dX12_sow_47 : decode cX12_sow 47 = .ok (.bipush 16, 2) := by decide +kernel
theorem dX12_sow_49 : decode cX12_sow 49 = .ok (.iload_n 1, 1) := by decide +kernel
theorem dX12_sow_50 : decode cX12_sow 50 = .ok (.iadd, 1) := by decide +kernel
theorem dX12_sow_51 : decode cX12_sow 51 = .ok (.iaload, 1) := by decide +kernel
theorem dX12_sow_52 : decode cX12_sow 52 = .ok (.iload_n 2, 1) := by decide +kernel
theorem dX12_sow_53 : decode cX12_sow 53 = .ok (.iadd, 1) := by decide +kernel
theorem dX12_sow_54 : decode cX12_sow 54 = .ok (.invokestatic 218, 3) := by decide +kernel
theorem dX12_sow_57 : decode cX12_sow 57 = .ok (.iastore, 1) := by decide +kernel
theorem dX12_sow_58 : decode cX12_sow 58 = .ok (.aload_n 0, 1) := by decide +kernel
theorem dX12_sow_59 : decode cX12_sow 59 = .ok (.getfield 9, 3) := by decide +kernel
theorem dX12_sow_62 : decode cX12_sow 62 = .ok (.bipush 16, 2) := by decide +kernel
theorem dX12_sow_64 : decode cX12_sow 64 = .ok (.iload_n 1, 1) := by decide +kernel
theorem dX12_sow_65 : decode cX12_sow 65 = .ok (.iadd, 1) := by decide +kernel
theorem dX12_sow_66 : decode cX12_sow 66 = .ok (.iaload, 1) := by decide +kernel
theorem dX12_sow_67 : decode cX12_sow 67 = .ok (.ireturn, 1) := by decide +kernel
def f_X12_sow (N : Nat) (σ : uS) (p1 : Int32) (p2 : Int32) : Option (Int32 × uS) := u_jn (u_pI σ 0 8 0) fun s1 =>
  (f_X12_isFurrow N s1 p1).bind fun v2 =>
  if v2 = 0 then (some ((-1), s1)) else ((f_X12_in N s1 p2 1 9).bind fun v3 =>
  if v3 = 0 then (some ((-1), s1)) else ((f_X12_remember N s1 1).bind fun s4 =>
  (u_rI ZM s4 0 1 (16 + p1)).bind fun v5 =>
  (u_wI ZM s4 0 1 (16 + p1) (if (v5 + p2) < 9 then (v5 + p2) else 9)).bind fun s6 =>
  (u_rI ZM s6 0 1 (16 + p1)).bind fun v7 =>
  some (v7, s6)))
set_option maxRecDepth 100000 in
set_option maxHeartbeats 4000000 in
theorem c_X12_sow (l : Launch) (G : uG) (N : Nat) (σ : uS) (p1 : Int32) (p2 : Int32) (z : (Int32 × uS)) (hz : f_X12_sow N σ p1 p2 = some z) : u_Mi l ZM G yX12_sow cX12_sow 3 .int 2 [.ref (G.2.2 0), .int p1, .int p2] σ z.1 z.2 := by
  refine u_Mi_of RX12 (by decide) rfl (Nat.le_of_ble_eq_true rfl) ?_
  intro p e s m args below meth c ls cx hw hl
  have hx := cx.1
  have hb := cx.2.1
  have hl : lv_has ls 3 [(0, .ref (G.2.2 0)), (1, .int p1), (2, .int p2)] := hl
  unfold f_X12_sow at hz
  refine lv_aload_n hx hb dX12_sow_0 rfl (lv_at hl 0 rfl) ?_
  refine lv_iconst (v := 0) hx hb dX12_sow_1 (by decide) ?_
  obtain ⟨s1, es1, hz⟩ := u_let hz
  refine u_puti2 cx hw P_X12_77 o_X12 rfl es1 dX12_sow_2 (fun H locs hw => ?_)
  refine lv_aload_n hx hb dX12_sow_5 rfl (lv_at hl 0 rfl) ?_
  refine lv_iload_n hx hb dX12_sow_6 rfl (lv_at hl 1 rfl) ?_
  obtain ⟨v2, hv2, hz⟩ := u_bind hz
  refine u_callVi (As := [.int p1]) (rest := []) cx hw LV_X12_227 (c_X12_isFurrow l G N s1 p1 v2 hv2) o_X12 rfl (by decide) hl.1 rfl (Nat.le_of_ble_eq_true rfl) dX12_sow_7 rfl (fun H locs hw => ?_)
  refine lv_if_eq (tgt := 23) hx hb dX12_sow_10 (by decide) (fun hc => ?_) (fun hc => ?_)
  · replace hz := u_ift hz hc
    refine lv_iconst (v := (-1)) hx hb dX12_sow_23 (by decide) ?_
    exact u_iret cx hw (u_pair hz) dX12_sow_24
  · replace hz := u_iff hz hc
    refine lv_iload_n hx hb dX12_sow_13 rfl (lv_at hl 2 rfl) ?_
    refine lv_iconst (v := 1) hx hb dX12_sow_14 (by decide) ?_
    refine lv_bipush (v := 9) hx hb dX12_sow_15 (by decide) ?_
    obtain ⟨v3, hv3, hz⟩ := u_bind hz
    refine u_callSi (As := [.int p2, .int 1, .int 9]) (rest := []) cx hw LS_X12_86 (c_X12_in l G N s1 p2 1 9 v3 hv3) (by decide) hl.1 rfl (Nat.le_of_ble_eq_true rfl) dX12_sow_17 rfl (fun H locs hw => ?_)
    refine lv_if_ne (tgt := 25) hx hb dX12_sow_20 (by decide) (fun hc => ?_) (fun hc => ?_)
    · replace hz := u_iff hz hc
      refine lv_aload_n hx hb dX12_sow_25 rfl (lv_at hl 0 rfl) ?_
      refine lv_aload_n hx hb dX12_sow_26 rfl (lv_at hl 0 rfl) ?_
      refine u_getp cx hw F_X12_9 o_X12 rfl dX12_sow_27 ?_
      obtain ⟨s4, hs4, hz⟩ := u_bind hz
      refine u_callVv (As := [.ref (G.2.2 1)]) (rest := []) cx hw LV_X12_253 (c_X12_remember l G N s1 1 s4 hs4) o_X12 rfl (by decide) hl.1 rfl (Nat.le_of_ble_eq_true rfl) dX12_sow_30 rfl (fun H locs hw => ?_)
      refine lv_aload_n hx hb dX12_sow_33 rfl (lv_at hl 0 rfl) ?_
      refine u_getp cx hw F_X12_9 o_X12 rfl dX12_sow_34 ?_
      refine lv_bipush (v := 16) hx hb dX12_sow_37 (by decide) ?_
      refine lv_iload_n hx hb dX12_sow_39 rfl (lv_at hl 1 rfl) ?_
      refine lv_iadd hx hb dX12_sow_40 ?_
      refine lv_bipush (v := 9) hx hb dX12_sow_41 (by decide) ?_
      refine lv_aload_n hx hb dX12_sow_43 rfl (lv_at hl 0 rfl) ?_
      refine u_getp cx hw F_X12_9 o_X12 rfl dX12_sow_44 ?_
      refine lv_bipush (v := 16) hx hb dX12_sow_47 (by decide) ?_
      refine lv_iload_n hx hb dX12_sow_49 rfl (lv_at hl 1 rfl) ?_
      refine lv_iadd hx hb dX12_sow_50 ?_
      obtain ⟨v5, hv5, hz⟩ := u_bind hz
      refine u_iald cx hw hv5 dX12_sow_51 ?_
      refine lv_iload_n hx hb dX12_sow_52 rfl (lv_at hl 2 rfl) ?_
      refine lv_iadd hx hb dX12_sow_53 ?_
      refine u_mmin cx LM_X12_218 (by decide) hl.1 (Nat.le_of_ble_eq_true rfl) dX12_sow_54 ?_
      obtain ⟨s6, hs6, hz⟩ := u_bind hz
      refine u_iast cx hw hs6 dX12_sow_57 (fun H locs hw => ?_)
      refine lv_aload_n hx hb dX12_sow_58 rfl (lv_at hl 0 rfl) ?_
      refine u_getp cx hw F_X12_9 o_X12 rfl dX12_sow_59 ?_
      refine lv_bipush (v := 16) hx hb dX12_sow_62 (by decide) ?_
      refine lv_iload_n hx hb dX12_sow_64 rfl (lv_at hl 1 rfl) ?_
      refine lv_iadd hx hb dX12_sow_65 ?_
      obtain ⟨v7, hv7, hz⟩ := u_bind hz
      refine u_iald cx hw hv7 dX12_sow_66 ?_
      exact u_iret cx hw (u_pair hz) dX12_sow_67
    · replace hz := u_ift hz hc
      refine lv_iconst (v := (-1)) hx hb dX12_sow_23 (by decide) ?_
      exact u_iret cx hw (u_pair hz) dX12_sow_24
theorem dX12_readAct_0 : decode cX12_readAct 0 = .ok (.aload_n 0, 1) := by decide +kernel
theorem dX12_readAct_1 : decode cX12_readAct 1 = .ok (.invokevirtual 124, 3) := by decide +kernel
theorem dX12_readAct_4 : decode cX12_readAct 4 = .ok (.istore_n 2, 1) := by decide +kernel
theorem dX12_readAct_5 : decode cX12_readAct 5 = .ok (.iload_n 2, 1) := by decide +kernel
theorem dX12_readAct_6 : decode cX12_readAct 6 = .ok (.bipush 99, 2) := by decide +kernel
theorem dX12_readAct_8 : decode cX12_readAct 8 = .ok (.if_icmp .eq 36, 3) := by decide +kernel
theorem dX12_readAct_11 : decode cX12_readAct 11 = .ok (.iload_n 2, 1) := by decide +kernel
theorem dX12_readAct_12 : decode cX12_readAct 12 = .ok (.bipush 115, 2) := by decide +kernel
theorem dX12_readAct_14 : decode cX12_readAct 14 = .ok (.if_icmp .eq 30, 3) := by decide +kernel
theorem dX12_readAct_17 : decode cX12_readAct 17 = .ok (.iload_n 2, 1) := by decide +kernel
theorem dX12_readAct_18 : decode cX12_readAct 18 = .ok (.bipush 103, 2) := by decide +kernel
theorem dX12_readAct_20 : decode cX12_readAct 20 = .ok (.if_icmp .eq 24, 3) := by decide +kernel
theorem dX12_readAct_23 : decode cX12_readAct 23 = .ok (.iload_n 2, 1) := by decide +kernel
theorem dX12_readAct_24 : decode cX12_readAct 24 = .ok (.bipush 43, 2) := by decide +kernel
theorem dX12_readAct_26 : decode cX12_readAct 26 = .ok (.if_icmp .eq 18, 3) := by decide +kernel
theorem dX12_readAct_29 : decode cX12_readAct 29 = .ok (.iload_n 2, 1) := by decide +kernel
theorem dX12_readAct_30 : decode cX12_readAct 30 = .ok (.bipush 45, 2) := by decide +kernel
theorem dX12_readAct_32 : decode cX12_readAct 32 = .ok (.if_icmp .eq 12, 3) := by decide +kernel
theorem dX12_readAct_35 : decode cX12_readAct 35 = .ok (.aload_n 0, 1) := by decide +kernel
theorem dX12_readAct_36 : decode cX12_readAct 36 = .ok (.aload_n 0, 1) := by decide +kernel
theorem dX12_readAct_37 : decode cX12_readAct 37 = .ok (.getfield 110, 3) := by decide +kernel
theorem dX12_readAct_40 : decode cX12_readAct 40 = .ok (.invokevirtual 131, 3) := by decide +kernel
theorem dX12_readAct_43 : decode cX12_readAct 43 = .ok (.return_, 1) := by decide +kernel
theorem dX12_readAct_44 : decode cX12_readAct 44 = .ok (.aload_n 0, 1) := by decide +kernel
theorem dX12_readAct_45 : decode cX12_readAct 45 = .ok (.dup, 1) := by decide +kernel
theorem dX12_readAct_46 : decode cX12_readAct 46 = .ok (.getfield 110, 3) := by decide +kernel
theorem dX12_readAct_49 : decode cX12_readAct 49 = .ok (.iconst 1, 1) := by decide +kernel
theorem dX12_readAct_50 : decode cX12_readAct 50 = .ok (.iadd, 1) := by decide +kernel
theorem dX12_readAct_51 : decode cX12_readAct 51 = .ok (.putfield 110, 3) := by decide +kernel
theorem dX12_readAct_54 : decode cX12_readAct 54 = .ok (.aload_n 0, 1) := by decide +kernel
theorem dX12_readAct_55 : decode cX12_readAct 55 = .ok (.getfield 55, 3) := by decide +kernel
theorem dX12_readAct_58 : decode cX12_readAct 58 = .ok (.iload_n 1, 1) := by decide +kernel
theorem dX12_readAct_59 : decode cX12_readAct 59 = .ok (.iload_n 2, 1) := by decide +kernel
theorem dX12_readAct_60 : decode cX12_readAct 60 = .ok (.iastore, 1) := by decide +kernel
theorem dX12_readAct_61 : decode cX12_readAct 61 = .ok (.iload_n 2, 1) := by decide +kernel
theorem dX12_readAct_62 : decode cX12_readAct 62 = .ok (.bipush 99, 2) := by decide +kernel
theorem dX12_readAct_64 : decode cX12_readAct 64 = .ok (.if_icmp .ne 19, 3) := by decide +kernel
theorem dX12_readAct_67 : decode cX12_readAct 67 = .ok (.aload_n 0, 1) := by decide +kernel
theorem dX12_readAct_68 : decode cX12_readAct 68 = .ok (.getfield 55, 3) := by decide +kernel
theorem dX12_readAct_71 : decode cX12_readAct 71 = .ok (.iload_n 1, 1) := by decide +kernel
theorem dX12_readAct_72 : decode cX12_readAct 72 = .ok (.iconst 1, 1) := by decide +kernel
theorem dX12_readAct_73 : decode cX12_readAct 73 = .ok (.iadd, 1) := by decide +kernel
theorem dX12_readAct_74 : decode cX12_readAct 74 = .ok (.aload_n 0, 1) := by decide +kernel
theorem dX12_readAct_75 : decode cX12_readAct 75 = .ok (.bipush 48, 2) := by decide +kernel
theorem dX12_readAct_77 : decode cX12_readAct 77 = .ok (.bipush 10, 2) := by decide +kernel
theorem dX12_readAct_79 : decode cX12_readAct 79 = .ok (.invokevirtual 135, 3) := by decide +kernel
theorem dX12_readAct_82 : decode cX12_readAct 82 = .ok (.iastore, 1) := by decide +kernel
theorem dX12_readAct_83 : decode cX12_readAct 83 = .ok (.iload_n 2, 1) := by decide +kernel
theorem dX12_readAct_84 : decode cX12_readAct 84 = .ok (.bipush 115, 2) := by decide +kernel
theorem dX12_readAct_86 : decode cX12_readAct 86 = .ok (.if_icmp .eq 9, 3) := by decide +kernel
theorem dX12_readAct_89 : decode cX12_readAct 89 = .ok (.iload_n 2, 1) := by decide +kernel
theorem dX12_readAct_90 : decode cX12_readAct 90 = .ok (.bipush 103, 2) := by decide +kernel
theorem dX12_readAct_92 : decode cX12_readAct 92 = .ok (.if_icmp .ne 19, 3) := by decide +kernel
theorem dX12_readAct_95 : decode cX12_readAct 95 = .ok (.aload_n 0, 1) := by decide +kernel
theorem dX12_readAct_96 : decode cX12_readAct 96 = .ok (.getfield 55, 3) := by decide +kernel
theorem dX12_readAct_99 : decode cX12_readAct 99 = .ok (.iload_n 1, 1) := by decide +kernel
theorem dX12_readAct_100 : decode cX12_readAct 100 = .ok (.iconst 1, 1) := by decide +kernel
theorem dX12_readAct_101 : decode cX12_readAct 101 = .ok (.iadd, 1) := by decide +kernel
theorem dX12_readAct_102 : decode cX12_readAct 102 = .ok (.aload_n 0, 1) := by decide +kernel
theorem dX12_readAct_103 : decode cX12_readAct 103 = .ok (.bipush 97, 2) := by decide +kernel
theorem dX12_readAct_105 : decode cX12_readAct 105 = .ok (.bipush 8, 2) := by decide +kernel
theorem dX12_readAct_107 : decode cX12_readAct 107 = .ok (.invokevirtual 135, 3) := by decide +kernel
theorem dX12_readAct_110 : decode cX12_readAct 110 = .ok (.iastore, 1) := by decide +kernel
theorem dX12_readAct_111 : decode cX12_readAct 111 = .ok (.iload_n 2, 1) := by decide +kernel
theorem dX12_readAct_112 : decode cX12_readAct 112 = .ok (.bipush 103, 2) := by decide +kernel
theorem dX12_readAct_114 : decode cX12_readAct 114 = .ok (.if_icmp .ne 19, 3) := by decide +kernel
theorem dX12_readAct_117 : decode cX12_readAct 117 = .ok (.aload_n 0, 1) := by decide +kernel
theorem dX12_readAct_118 : decode cX12_readAct 118 = .ok (.getfield 55, 3) := by decide +kernel
theorem dX12_readAct_121 : decode cX12_readAct 121 = .ok (.iload_n 1, 1) := by decide +kernel
theorem dX12_readAct_122 : decode cX12_readAct 122 = .ok (.iconst 2, 1) := by decide +kernel
theorem dX12_readAct_123 : decode cX12_readAct 123 = .ok (.iadd, 1) := by decide +kernel
theorem dX12_readAct_124 : decode cX12_readAct 124 = .ok (.aload_n 0, 1) := by decide +kernel
theorem dX12_readAct_125 : decode cX12_readAct 125 = .ok (.bipush 97, 2) := by decide +kernel
theorem dX12_readAct_127 : decode cX12_readAct 127 = .ok (.bipush 8, 2) := by decide +kernel
theorem dX12_readAct_129 : decode cX12_readAct 129 = .ok (.invokevirtual 135, 3) := by decide +kernel
theorem dX12_readAct_132 : decode cX12_readAct 132 = .ok (.iastore, 1) := by decide +kernel
theorem dX12_readAct_133 : decode cX12_readAct 133 = .ok (.return_, 1) := by decide +kernel
def f_X12_readAct (N : Nat) (σ : uS) (p1 : Int32) : Option uS := (f_X12_here N σ).bind fun v1 =>
  u_jn ((u_jn (u_pI σ 0 12 ((σ.1 0 12) + 1)) fun s3 =>
  (u_wI ZM s3 0 14 p1 v1).bind fun s4 =>
  u_jn (fun (s5 : uS) => (u_jn (fun (s7 : uS) => (if v1 = 103 then ((f_X12_oneOf N s7 97 8).bind fun v9 =>
  (u_wI ZM v9.2 0 14 (p1 + 2) v9.1).bind fun s10 =>
  some s10) else (some s7) : Option uS)) fun J111_8 =>
  u_jn (((f_X12_oneOf N s5 97 8).bind fun v12 =>
  (u_wI ZM v12.2 0 14 (p1 + 1) v12.1).bind fun s13 =>
  J111_8 s13 : Option uS)) fun J95_11 =>
  if v1 = 115 then (J95_11) else (if v1 = 103 then (J95_11) else (J111_8 s5)) : Option uS)) fun J83_6 =>
  if v1 = 99 then ((f_X12_oneOf N s4 48 10).bind fun v14 =>
  (u_wI ZM v14.2 0 14 (p1 + 1) v14.1).bind fun s15 =>
  J83_6 s15) else (J83_6 s4) : Option uS)) fun J44_2 =>
  if v1 = 99 then (J44_2) else (if v1 = 115 then (J44_2) else (if v1 = 103 then (J44_2) else (if v1 = 43 then (J44_2) else (if v1 = 45 then (J44_2) else ((f_X12_fault N σ (σ.1 0 12)).bind fun s16 =>
  some s16)))))
set_option maxRecDepth 100000 in
set_option maxHeartbeats 4000000 in
theorem c_X12_readAct (l : Launch) (G : uG) (N : Nat) (σ : uS) (p1 : Int32) (z : uS) (hz : f_X12_readAct N σ p1 = some z) : u_Mv l ZM G yX12_readAct cX12_readAct 3 3 [.ref (G.2.2 0), .int p1] σ z := by
  refine u_Mv_of RX12 (by decide) rfl (Nat.le_of_ble_eq_true rfl) ?_
  intro p e s m args below meth c ls cx hw hl
  have hx := cx.1
  have hb := cx.2.1
  have hl : lv_has ls 3 [(0, .ref (G.2.2 0)), (1, .int p1)] := hl
  unfold f_X12_readAct at hz
  refine lv_aload_n hx hb dX12_readAct_0 rfl (lv_at hl 0 rfl) ?_
  obtain ⟨v1, hv1, hz⟩ := u_bind hz
  refine u_callVi (As := []) (rest := []) cx hw LV_X12_124 (c_X12_here l G N σ v1 hv1) o_X12 rfl (by decide) hl.1 rfl (Nat.le_of_ble_eq_true rfl) dX12_readAct_1 rfl (fun H locs hw => ?_)
  refine lv_istore_n (lv' := [(2, .int v1), (0, .ref (G.2.2 0)), (1, .int p1)]) hx hb dX12_readAct_4 rfl hl (by decide) rfl (fun ls hl => ?_)
  refine lv_iload_n hx hb dX12_readAct_5 rfl (lv_at hl 0 rfl) ?_
  refine lv_bipush (v := 99) hx hb dX12_readAct_6 (by decide) ?_
  obtain ⟨J44_2, eJ44_2, hz⟩ := u_let hz
  have WJ44_2 : ∀ (H : Heap) (locs : List Loc) (ls : Array Slot), J44_2 = some z → u_W ZM G σ s H locs → lv_has ls 3 [(0, .ref (G.2.2 0)), (1, .int p1), (2, .int v1)] → W p l e (u_rm 3) s m args below meth c H locs 0 0 (u_Qv below ZM G s args z) (F0 m 44 ls []) := by
    intro H locs ls hz hw hl
    rw [eJ44_2] at hz
    refine lv_aload_n hx hb dX12_readAct_44 rfl (lv_at hl 0 rfl) ?_
    refine lv_dup hx hb dX12_readAct_45 rfl ?_
    refine u_geti cx hw F_X12_110 o_X12 rfl dX12_readAct_46 ?_
    refine lv_iconst (v := 1) hx hb dX12_readAct_49 (by decide) ?_
    refine lv_iadd hx hb dX12_readAct_50 ?_
    obtain ⟨s3, es3, hz⟩ := u_let hz
    refine u_puti2 cx hw P_X12_110 o_X12 rfl es3 dX12_readAct_51 (fun H locs hw => ?_)
    refine lv_aload_n hx hb dX12_readAct_54 rfl (lv_at hl 0 rfl) ?_
    refine u_getp cx hw F_X12_55 o_X12 rfl dX12_readAct_55 ?_
    refine lv_iload_n hx hb dX12_readAct_58 rfl (lv_at hl 1 rfl) ?_
    refine lv_iload_n hx hb dX12_readAct_59 rfl (lv_at hl 2 rfl) ?_
    obtain ⟨s4, hs4, hz⟩ := u_bind hz
    refine u_iast cx hw hs4 dX12_readAct_60 (fun H locs hw => ?_)
    refine lv_iload_n hx hb dX12_readAct_61 rfl (lv_at hl 2 rfl) ?_
    refine lv_bipush (v := 99) hx hb dX12_readAct_62 (by decide) ?_
    obtain ⟨J83_6, eJ83_6, hz⟩ := u_let hz
    have WJ83_6 : ∀ (s5 : uS) (H : Heap) (locs : List Loc) (ls : Array Slot), J83_6 s5 = some z → u_W ZM G s5 s H locs → lv_has ls 3 [(0, .ref (G.2.2 0)), (1, .int p1), (2, .int v1)] → W p l e (u_rm 3) s m args below meth c H locs 0 0 (u_Qv below ZM G s args z) (F0 m 83 ls []) := by
      intro s5 H locs ls hz hw hl
      rw [eJ83_6] at hz
      refine lv_iload_n hx hb dX12_readAct_83 rfl (lv_at hl 2 rfl) ?_
      refine lv_bipush (v := 115) hx hb dX12_readAct_84 (by decide) ?_
      obtain ⟨J111_8, eJ111_8, hz⟩ := u_let hz
      have WJ111_8 : ∀ (s7 : uS) (H : Heap) (locs : List Loc) (ls : Array Slot), J111_8 s7 = some z → u_W ZM G s7 s H locs → lv_has ls 3 [(0, .ref (G.2.2 0)), (1, .int p1), (2, .int v1)] → W p l e (u_rm 3) s m args below meth c H locs 0 0 (u_Qv below ZM G s args z) (F0 m 111 ls []) := by
        intro s7 H locs ls hz hw hl
        rw [eJ111_8] at hz
        refine lv_iload_n hx hb dX12_readAct_111 rfl (lv_at hl 2 rfl) ?_
        refine lv_bipush (v := 103) hx hb dX12_readAct_112 (by decide) ?_
        refine lv_icmp_ne (tgt := 133) hx hb dX12_readAct_114 (by decide) (fun hc => ?_) (fun hc => ?_)
        · replace hz := u_iff hz hc
          exact u_vret cx hw (Option.some.inj hz) dX12_readAct_133
        · replace hz := u_ift hz hc
          refine lv_aload_n hx hb dX12_readAct_117 rfl (lv_at hl 0 rfl) ?_
          refine u_getp cx hw F_X12_55 o_X12 rfl dX12_readAct_118 ?_
          refine lv_iload_n hx hb dX12_readAct_121 rfl (lv_at hl 1 rfl) ?_
          refine lv_iconst (v := 2) hx hb dX12_readAct_122 (by decide) ?_
          refine lv_iadd hx hb dX12_readAct_123 ?_
          refine lv_aload_n hx hb dX12_readAct_124 rfl (lv_at hl 0 rfl) ?_
          refine lv_bipush (v := 97) hx hb dX12_readAct_125 (by decide) ?_
          refine lv_bipush (v := 8) hx hb dX12_readAct_127 (by decide) ?_
          obtain ⟨v9, hv9, hz⟩ := u_bind hz
          refine u_callVi (As := [.int 97, .int 8]) (rest := [.int (p1 + 2), .ref (G.2.2 14)]) cx hw LV_X12_135 (c_X12_oneOf l G N s7 97 8 v9 hv9) o_X12 rfl (by decide) hl.1 rfl (Nat.le_of_ble_eq_true rfl) dX12_readAct_129 rfl (fun H locs hw => ?_)
          obtain ⟨s10, hs10, hz⟩ := u_bind hz
          refine u_iast cx hw hs10 dX12_readAct_132 (fun H locs hw => ?_)
          exact u_vret cx hw (Option.some.inj hz) dX12_readAct_133
      obtain ⟨J95_11, eJ95_11, hz⟩ := u_let hz
      have WJ95_11 : ∀ (H : Heap) (locs : List Loc) (ls : Array Slot), J95_11 = some z → u_W ZM G s5 s H locs → lv_has ls 3 [(0, .ref (G.2.2 0)), (1, .int p1), (2, .int v1)] → W p l e (u_rm 3) s m args below meth c H locs 0 0 (u_Qv below ZM G s args z) (F0 m 95 ls []) := by
        intro H locs ls hz hw hl
        rw [eJ95_11] at hz
        refine lv_aload_n hx hb dX12_readAct_95 rfl (lv_at hl 0 rfl) ?_
        refine u_getp cx hw F_X12_55 o_X12 rfl dX12_readAct_96 ?_
        refine lv_iload_n hx hb dX12_readAct_99 rfl (lv_at hl 1 rfl) ?_
        refine lv_iconst (v := 1) hx hb dX12_readAct_100 (by decide) ?_
        refine lv_iadd hx hb dX12_readAct_101 ?_
        refine lv_aload_n hx hb dX12_readAct_102 rfl (lv_at hl 0 rfl) ?_
        refine lv_bipush (v := 97) hx hb dX12_readAct_103 (by decide) ?_
        refine lv_bipush (v := 8) hx hb dX12_readAct_105 (by decide) ?_
        obtain ⟨v12, hv12, hz⟩ := u_bind hz
        refine u_callVi (As := [.int 97, .int 8]) (rest := [.int (p1 + 1), .ref (G.2.2 14)]) cx hw LV_X12_135 (c_X12_oneOf l G N s5 97 8 v12 hv12) o_X12 rfl (by decide) hl.1 rfl (Nat.le_of_ble_eq_true rfl) dX12_readAct_107 rfl (fun H locs hw => ?_)
        obtain ⟨s13, hs13, hz⟩ := u_bind hz
        refine u_iast cx hw hs13 dX12_readAct_110 (fun H locs hw => ?_)
        exact WJ111_8 s13 _ _ _ hz hw (lv_sub hl [0, 1, 2] rfl)
      refine lv_icmp_eq (tgt := 95) hx hb dX12_readAct_86 (by decide) (fun hc => ?_) (fun hc => ?_)
      · replace hz := u_ift hz hc
        exact WJ95_11 _ _ _ hz hw (lv_sub hl [0, 1, 2] rfl)
      · replace hz := u_iff hz hc
        refine lv_iload_n hx hb dX12_readAct_89 rfl (lv_at hl 2 rfl) ?_
        refine lv_bipush (v := 103) hx hb dX12_readAct_90 (by decide) ?_
        refine lv_icmp_ne (tgt := 111) hx hb dX12_readAct_92 (by decide) (fun hc => ?_) (fun hc => ?_)
        · replace hz := u_iff hz hc
          exact WJ111_8 s5 _ _ _ hz hw (lv_sub hl [0, 1, 2] rfl)
        · replace hz := u_ift hz hc
          exact WJ95_11 _ _ _ hz hw (lv_sub hl [0, 1, 2] rfl)
    refine lv_icmp_ne (tgt := 83) hx hb dX12_readAct_64 (by decide) (fun hc => ?_) (fun hc => ?_)
    · replace hz := u_iff hz hc
      exact WJ83_6 s4 _ _ _ hz hw (lv_sub hl [0, 1, 2] rfl)
    · replace hz := u_ift hz hc
      refine lv_aload_n hx hb dX12_readAct_67 rfl (lv_at hl 0 rfl) ?_
      refine u_getp cx hw F_X12_55 o_X12 rfl dX12_readAct_68 ?_
      refine lv_iload_n hx hb dX12_readAct_71 rfl (lv_at hl 1 rfl) ?_
      refine lv_iconst (v := 1) hx hb dX12_readAct_72 (by decide) ?_
      refine lv_iadd hx hb dX12_readAct_73 ?_
      refine lv_aload_n hx hb dX12_readAct_74 rfl (lv_at hl 0 rfl) ?_
      refine lv_bipush (v := 48) hx hb dX12_readAct_75 (by decide) ?_
      refine lv_bipush (v := 10) hx hb dX12_readAct_77 (by decide) ?_
      obtain ⟨v14, hv14, hz⟩ := u_bind hz
      refine u_callVi (As := [.int 48, .int 10]) (rest := [.int (p1 + 1), .ref (G.2.2 14)]) cx hw LV_X12_135 (c_X12_oneOf l G N s4 48 10 v14 hv14) o_X12 rfl (by decide) hl.1 rfl (Nat.le_of_ble_eq_true rfl) dX12_readAct_79 rfl (fun H locs hw => ?_)
      obtain ⟨s15, hs15, hz⟩ := u_bind hz
      refine u_iast cx hw hs15 dX12_readAct_82 (fun H locs hw => ?_)
      exact WJ83_6 s15 _ _ _ hz hw (lv_sub hl [0, 1, 2] rfl)
  refine lv_icmp_eq (tgt := 44) hx hb dX12_readAct_8 (by decide) (fun hc => ?_) (fun hc => ?_)
  · replace hz := u_ift hz hc
    exact WJ44_2 _ _ _ hz hw (lv_sub hl [1, 2, 0] rfl)
  · replace hz := u_iff hz hc
    refine lv_iload_n hx hb dX12_readAct_11 rfl (lv_at hl 0 rfl) ?_
    refine lv_bipush (v := 115) hx hb dX12_readAct_12 (by decide) ?_
    refine lv_icmp_eq (tgt := 44) hx hb dX12_readAct_14 (by decide) (fun hc => ?_) (fun hc => ?_)
    · replace hz := u_ift hz hc
      exact WJ44_2 _ _ _ hz hw (lv_sub hl [1, 2, 0] rfl)
    · replace hz := u_iff hz hc
      refine lv_iload_n hx hb dX12_readAct_17 rfl (lv_at hl 0 rfl) ?_
      refine lv_bipush (v := 103) hx hb dX12_readAct_18 (by decide) ?_
      refine lv_icmp_eq (tgt := 44) hx hb dX12_readAct_20 (by decide) (fun hc => ?_) (fun hc => ?_)
      · replace hz := u_ift hz hc
        exact WJ44_2 _ _ _ hz hw (lv_sub hl [1, 2, 0] rfl)
      · replace hz := u_iff hz hc
        refine lv_iload_n hx hb dX12_readAct_23 rfl (lv_at hl 0 rfl) ?_
        refine lv_bipush (v := 43) hx hb dX12_readAct_24 (by decide) ?_
        refine lv_icmp_eq (tgt := 44) hx hb dX12_readAct_26 (by decide) (fun hc => ?_) (fun hc => ?_)
        · replace hz := u_ift hz hc
          exact WJ44_2 _ _ _ hz hw (lv_sub hl [1, 2, 0] rfl)
        · replace hz := u_iff hz hc
          refine lv_iload_n hx hb dX12_readAct_29 rfl (lv_at hl 0 rfl) ?_
          refine lv_bipush (v := 45) hx hb dX12_readAct_30 (by decide) ?_
          refine lv_icmp_eq (tgt := 44) hx hb dX12_readAct_32 (by decide) (fun hc => ?_) (fun hc => ?_)
          · replace hz := u_ift hz hc
            exact WJ44_2 _ _ _ hz hw (lv_sub hl [1, 2, 0] rfl)
          · replace hz := u_iff hz hc
            refine lv_aload_n hx hb dX12_readAct_35 rfl (lv_at hl 1 rfl) ?_
            refine lv_aload_n hx hb dX12_readAct_36 rfl (lv_at hl 1 rfl) ?_
            refine u_geti cx hw F_X12_110 o_X12 rfl dX12_readAct_37 ?_
            obtain ⟨s16, hs16, hz⟩ := u_bind hz
            refine u_callVv (As := [.int (σ.1 0 12)]) (rest := []) cx hw LV_X12_131 (c_X12_fault l G N σ (σ.1 0 12) s16 hs16) o_X12 rfl (by decide) hl.1 rfl (Nat.le_of_ble_eq_true rfl) dX12_readAct_40 rfl (fun H locs hw => ?_)
            exact u_vret cx hw (Option.some.inj hz) dX12_readAct_43
theorem dX12_undo_0 : decode cX12_undo 0 = .ok (.aload_n 0, 1) := by decide +kernel
theorem dX12_undo_1 : decode cX12_undo 1 = .ok (.iconst 0, 1) := by decide +kernel
theorem dX12_undo_2 : decode cX12_undo 2 = .ok (.putfield 77, 3) := by decide +kernel
theorem dX12_undo_5 : decode cX12_undo 5 = .ok (.aload_n 0, 1) := by decide +kernel
theorem dX12_undo_6 : decode cX12_undo 6 = .ok (.getfield 139, 3) := by decide +kernel
theorem dX12_undo_9 : decode cX12_undo 9 = .ok (.ifCond .ne 5, 3) := by decide +kernel
theorem dX12_undo_12 : decode cX12_undo 12 = .ok (.iconst (-1), 1) := by decide +kernel
theorem dX12_undo_13 : decode cX12_undo 13 = .ok (.ireturn, 1) := by decide +kernel
theorem dX12_undo_14 : decode cX12_undo 14 = .ok (.aload_n 0, 1) := by decide +kernel
theorem dX12_undo_15 : decode cX12_undo 15 = .ok (.dup, 1) := by decide +kernel
theorem dX12_undo_16 : decode cX12_undo 16 = .ok (.getfield 139, 3) := by decide +kernel
theorem dX12_undo_19 : decode cX12_undo 19 = .ok (.iconst 1, 1) := by decide +kernel
theorem dX12_undo_20 : decode cX12_undo 20 = .ok (.isub, 1) := by decide +kernel
theorem dX12_undo_21 : decode cX12_undo 21 = .ok (.putfield 139, 3) := by decide +kernel
theorem dX12_undo_24 : decode cX12_undo 24 = .ok (.iconst 0, 1) := by decide +kernel
theorem dX12_undo_25 : decode cX12_undo 25 = .ok (.istore_n 1, 1) := by decide +kernel
theorem dX12_undo_26 : decode cX12_undo 26 = .ok (.iload_n 1, 1) := by decide +kernel
theorem dX12_undo_27 : decode cX12_undo 27 = .ok (.bipush 37, 2) := by decide +kernel
theorem dX12_undo_29 : decode cX12_undo 29 = .ok (.if_icmp .ge 29, 3) := by decide +kernel
theorem dX12_undo_32 : decode cX12_undo 32 = .ok (.aload_n 0, 1) := by decide +kernel
theorem dX12_undo_33 : decode cX12_undo 33 = .ok (.getfield 9, 3) := by decide +kernel
theorem dX12_undo_36 : decode cX12_undo 36 = .ok (.iload_n 1, 1) := by decide +kernel
theorem dX12_undo_37 : decode cX12_undo 37 = .ok (.aload_n 0, 1) := by decide +kernel
theorem dX12_undo_38 : decode cX12_undo 38 = .ok (.getfield 40, 3) := by decide +kernel
theorem dX12_undo_41 : decode cX12_undo 41 = .ok (.bipush 37, 2) := by decide +kernel
theorem dX12_undo_43 : decode cX12_undo 43 = .ok (.aload_n 0, 1) := by decide +kernel
theorem dX12_undo_44 : decode cX12_undo 44 = .ok (.getfield 139, 3) := by decide +kernel
theorem dX12_undo_47 : decode cX12_undo 47 = .ok (.imul, 1) := by decide +kernel
theorem dX12_undo_48 : decode cX12_undo 48 = .ok (.iload_n 1, 1) := by decide +kernel
theorem dX12_undo_49 : decode cX12_undo 49 = .ok (.iadd, 1) := by decide +kernel
theorem dX12_undo_50 : decode cX12_undo 50 = .ok (.iaload, 1) := by decide +kernel
theorem dX12_undo_51 : decode cX12_undo 51 = .ok (.iastore, 1) := by decide +kernel
theorem dX12_undo_52 : decode cX12_undo 52 = .ok (.iinc 1 1, 3) := by decide +kernel
theorem dX12_undo_55 : decode cX12_undo 55 = .ok (.goto (-29), 3) := by decide +kernel
theorem dX12_undo_58 : decode cX12_undo 58 = .ok (.aload_n 0, 1) := by decide +kernel
theorem dX12_undo_59 : decode cX12_undo 59 = .ok (.getfield 139, 3) := by decide +kernel
theorem dX12_undo_62 : decode cX12_undo 62 = .ok (.ireturn, 1) := by decide +kernel
def b_X12_undo_26 (J58_4 : uS → Option (Int32 × uS)) (rec26_7 : uS → Int32 → Option (Int32 × uS)) (s5 : uS) (x6 : Int32) : Option (Int32 × uS) :=
  if 37 ≤ x6 then (J58_4 s5) else ((u_rI ZM s5 0 9 ((37 * (s5.1 0 21)) + x6)).bind fun v8 =>
  (u_wI ZM s5 0 1 x6 v8).bind fun s9 =>
  u_jn (x6 + 1 : Int32) fun x10 =>
  rec26_7 s9 x10)
def f_X12_undo (N : Nat) (σ : uS) : Option (Int32 × uS) := u_jn (u_pI σ 0 8 0) fun s1 =>
  if (s1.1 0 21) = 0 then (some ((-1), s1)) else (u_jn (u_pI s1 0 21 ((s1.1 0 21) - 1)) fun s2 =>
  u_jn (fun (s3 : uS) => (some ((s3.1 0 21), s3) : Option (Int32 × uS))) fun J58_4 =>
  u_lp2 (b_X12_undo_26 J58_4) N s2 0)
set_option maxRecDepth 100000 in
set_option maxHeartbeats 4000000 in
theorem c_X12_undo (l : Launch) (G : uG) (N : Nat) (σ : uS) (z : (Int32 × uS)) (hz : f_X12_undo N σ = some z) : u_Mi l ZM G yX12_undo cX12_undo 2 .int 0 [.ref (G.2.2 0)] σ z.1 z.2 := by
  refine u_Mi_of RX12 (by decide) rfl (Nat.le_of_ble_eq_true rfl) ?_
  intro p e s m args below meth c ls cx hw hl
  have hx := cx.1
  have hb := cx.2.1
  have hl : lv_has ls 2 [(0, .ref (G.2.2 0))] := hl
  unfold f_X12_undo at hz
  refine lv_aload_n hx hb dX12_undo_0 rfl (lv_at hl 0 rfl) ?_
  refine lv_iconst (v := 0) hx hb dX12_undo_1 (by decide) ?_
  obtain ⟨s1, es1, hz⟩ := u_let hz
  refine u_puti2 cx hw P_X12_77 o_X12 rfl es1 dX12_undo_2 (fun H locs hw => ?_)
  refine lv_aload_n hx hb dX12_undo_5 rfl (lv_at hl 0 rfl) ?_
  refine u_geti cx hw F_X12_139 o_X12 rfl dX12_undo_6 ?_
  refine lv_if_ne (tgt := 14) hx hb dX12_undo_9 (by decide) (fun hc => ?_) (fun hc => ?_)
  · replace hz := u_iff hz hc
    refine lv_aload_n hx hb dX12_undo_14 rfl (lv_at hl 0 rfl) ?_
    refine lv_dup hx hb dX12_undo_15 rfl ?_
    refine u_geti cx hw F_X12_139 o_X12 rfl dX12_undo_16 ?_
    refine lv_iconst (v := 1) hx hb dX12_undo_19 (by decide) ?_
    refine lv_isub hx hb dX12_undo_20 ?_
    obtain ⟨s2, es2, hz⟩ := u_let hz
    refine u_puti2 cx hw P_X12_139 o_X12 rfl es2 dX12_undo_21 (fun H locs hw => ?_)
    refine lv_iconst (v := 0) hx hb dX12_undo_24 (by decide) ?_
    refine lv_istore_n (lv' := [(1, .int 0), (0, .ref (G.2.2 0))]) hx hb dX12_undo_25 rfl hl (by decide) rfl (fun ls hl => ?_)
    obtain ⟨J58_4, eJ58_4, hz⟩ := u_let hz
    have WJ58_4 : ∀ (s3 : uS) (H : Heap) (locs : List Loc) (ls : Array Slot), J58_4 s3 = some z → u_W ZM G s3 s H locs → lv_has ls 2 [(0, .ref (G.2.2 0))] → W p l e (u_rm 0) s m args below meth c H locs 0 0 (u_Qi below ZM G s args z.1 z.2) (F0 m 58 ls []) := by
      intro s3 H locs ls hz hw hl
      rw [eJ58_4] at hz
      refine lv_aload_n hx hb dX12_undo_58 rfl (lv_at hl 0 rfl) ?_
      refine u_geti cx hw F_X12_139 o_X12 rfl dX12_undo_59 ?_
      exact u_iret cx hw (u_pair hz) dX12_undo_62
    have WL26_10 : ∀ (k : Nat) (s5 : uS) (x6 : Int32) (H : Heap) (locs : List Loc) (ls : Array Slot), u_lp2 (b_X12_undo_26 J58_4) k s5 x6 = some z → u_W ZM G s5 s H locs → lv_has ls 2 [(0, .ref (G.2.2 0)), (1, .int x6)] → W p l e (u_rm 0) s m args below meth c H locs 0 0 (u_Qi below ZM G s args z.1 z.2) (F0 m 26 ls []) := by
      intro k
      induction k with
      | zero =>
        intro s5 x6 H locs ls hz
        exact absurd hz (by intro h9; cases h9)
      | succ k ih26_7 =>
        intro s5 x6 H locs ls hz hw hl
        have hz : (b_X12_undo_26 J58_4) (u_lp2 (b_X12_undo_26 J58_4) k) s5 x6 = some z := hz
        unfold b_X12_undo_26 at hz
        refine lv_iload_n hx hb dX12_undo_26 rfl (lv_at hl 1 rfl) ?_
        refine lv_bipush (v := 37) hx hb dX12_undo_27 (by decide) ?_
        refine lv_icmp_ge (tgt := 58) hx hb dX12_undo_29 (by decide) (fun hc => ?_) (fun hc => ?_)
        · replace hz := u_ift hz hc
          exact WJ58_4 s5 _ _ _ hz hw (lv_sub hl [0] rfl)
        · replace hz := u_iff hz hc
          refine lv_aload_n hx hb dX12_undo_32 rfl (lv_at hl 0 rfl) ?_
          refine u_getp cx hw F_X12_9 o_X12 rfl dX12_undo_33 ?_
          refine lv_iload_n hx hb dX12_undo_36 rfl (lv_at hl 1 rfl) ?_
          refine lv_aload_n hx hb dX12_undo_37 rfl (lv_at hl 0 rfl) ?_
          refine u_getp cx hw F_X12_40 o_X12 rfl dX12_undo_38 ?_
          refine lv_bipush (v := 37) hx hb dX12_undo_41 (by decide) ?_
          refine lv_aload_n hx hb dX12_undo_43 rfl (lv_at hl 0 rfl) ?_
          refine u_geti cx hw F_X12_139 o_X12 rfl dX12_undo_44 ?_
          refine lv_imul hx hb dX12_undo_47 ?_
          refine lv_iload_n hx hb dX12_undo_48 rfl (lv_at hl 1 rfl) ?_
          refine lv_iadd hx hb dX12_undo_49 ?_
          obtain ⟨v8, hv8, hz⟩ := u_bind hz
          refine u_iald cx hw hv8 dX12_undo_50 ?_
          obtain ⟨s9, hs9, hz⟩ := u_bind hz
          refine u_iast cx hw hs9 dX12_undo_51 (fun H locs hw => ?_)
          obtain ⟨x10, ex10, hz⟩ := u_let hz
          refine lv_iinc (v := x10) (lv' := [(1, .int x10), (0, .ref (G.2.2 0))]) hx hb dX12_undo_52 hl (k := 1) rfl (by rw [ex10]; rfl) (by decide) rfl (fun ls hl => ?_)
          refine lv_goto (tgt := 26) hx hb dX12_undo_55 (by decide) ?_
          exact ih26_7 s9 x10 _ _ _ hz hw (lv_sub hl [1, 0] rfl)
    exact WL26_10 N s2 0 _ _ _ hz hw (lv_sub hl [1, 0] rfl)
  · replace hz := u_ift hz hc
    refine lv_iconst (v := (-1)) hx hb dX12_undo_12 (by decide) ?_
    exact u_iret cx hw (u_pair hz) dX12_undo_13
theorem dX12_coded_0 : decode cX12_coded 0 = .ok (.aload_n 1, 1) := by decide +kernel
theorem dX12_coded_1 : decode cX12_coded 1 = .ok (.bipush 35, 2) := by decide +kernel
theorem dX12_coded_3 : decode cX12_coded 3 = .ok (.iaload, 1) := by decide +kernel
theorem dX12_coded_4 : decode cX12_coded 4 = .ok (.bipush 7, 2) := by decide +kernel
theorem dX12_coded_6 : decode cX12_coded 6 = .ok (.irem, 1) := by decide +kernel
theorem dX12_coded_7 : decode cX12_coded 7 = .ok (.i2l, 1) := by decide +kernel
theorem dX12_coded_8 : decode cX12_coded 8 = .ok (.lstore_n 2, 1) := by decide +kernel
theorem dX12_coded_9 : decode cX12_coded 9 = .ok (.iconst 0, 1) := by decide +kernel
theorem dX12_coded_10 : decode cX12_coded 10 = .ok (.istore 4, 2) := by decide +kernel
theorem dX12_coded_12 : decode cX12_coded 12 = .ok (.iload 4, 2) := by decide +kernel
theorem dX12_coded_14 : decode cX12_coded 14 = .ok (.aload_n 0, 1) := by decide +kernel
theorem dX12_coded_15 : decode cX12_coded 15 = .ok (.getfield 83, 3) := by decide +kernel
theorem dX12_coded_18 : decode cX12_coded 18 = .ok (.if_icmp .ge 21, 3) := by decide +kernel
theorem dX12_coded_21 : decode cX12_coded 21 = .ok (.ldc2_w 280, 3) := by decide +kernel
theorem dX12_coded_24 : decode cX12_coded 24 = .ok (.lload_n 2, 1) := by decide +kernel
theorem dX12_coded_25 : decode cX12_coded 25 = .ok (.lmul, 1) := by decide +kernel
theorem dX12_coded_26 : decode cX12_coded 26 = .ok (.aload_n 1, 1) := by decide +kernel
theorem dX12_coded_27 : decode cX12_coded 27 = .ok (.iload 4, 2) := by decide +kernel
theorem dX12_coded_29 : decode cX12_coded 29 = .ok (.iaload, 1) := by decide +kernel
theorem dX12_coded_30 : decode cX12_coded 30 = .ok (.i2l, 1) := by decide +kernel
theorem dX12_coded_31 : decode cX12_coded 31 = .ok (.ladd, 1) := by decide +kernel
theorem dX12_coded_32 : decode cX12_coded 32 = .ok (.lstore_n 2, 1) := by decide +kernel
theorem dX12_coded_33 : decode cX12_coded 33 = .ok (.iinc 4 1, 3) := by decide +kernel
theorem dX12_coded_36 : decode cX12_coded 36 = .ok (.goto (-24), 3) := by decide +kernel
theorem dX12_coded_39 : decode cX12_coded 39 = .ok (.lload_n 2, 1) := by decide +kernel
theorem dX12_coded_40 : decode cX12_coded 40 = .ok (.lreturn, 1) := by decide +kernel
def b_X12_coded_12 (σ : uS) (a1 : Nat) (J39_4 : Int64 → Option Int64) (rec12_7 : Int64 → Int32 → Option Int64) (x5 : Int64) (x6 : Int32) : Option Int64 :=
  if (σ.1 0 2) ≤ x6 then (J39_4 x5) else ((u_rI ZM σ 0 a1 x6).bind fun v8 =>
  u_jn (((10 * x5) + (Int32.toInt64 v8)) : Int64) fun x9 =>
  u_jn (x6 + 1 : Int32) fun x10 =>
  rec12_7 x9 x10)
def f_X12_coded (N : Nat) (σ : uS) (a1 : Nat) : Option Int64 := (u_rI ZM σ 0 a1 35).bind fun v1 =>
  u_jn ((Int32.toInt64 (v1 - v1 / 7 * 7)) : Int64) fun x2 =>
  u_jn (fun (x3 : Int64) => (some x3 : Option Int64)) fun J39_4 =>
  u_lp2 (b_X12_coded_12 σ a1 J39_4) N x2 0
set_option maxRecDepth 100000 in
set_option maxHeartbeats 4000000 in
theorem c_X12_coded (l : Launch) (G : uG) (N : Nat) (σ : uS) (a1 : Nat) (z : Int64) (hz : f_X12_coded N σ a1 = some z) : u_Ml l ZM G yX12_coded cX12_coded 5 0 [.ref (G.2.2 0), .ref (G.2.2 a1)] σ z σ := by
  refine u_Ml_of RX12 (by decide) rfl (Nat.le_of_ble_eq_true rfl) ?_
  intro p e s m args below meth c ls cx hw hl
  have hx := cx.1
  have hb := cx.2.1
  have hl : lv_has ls 5 [(0, .ref (G.2.2 0)), (1, .ref (G.2.2 a1))] := hl
  unfold f_X12_coded at hz
  refine lv_aload_n hx hb dX12_coded_0 rfl (lv_at hl 1 rfl) ?_
  refine lv_bipush (v := 35) hx hb dX12_coded_1 (by decide) ?_
  obtain ⟨v1, hv1, hz⟩ := u_bind hz
  refine u_iald cx hw hv1 dX12_coded_3 ?_
  refine lv_bipush (v := 7) hx hb dX12_coded_4 (by decide) ?_
  refine lv_irem hx hb dX12_coded_6 (by decide) ?_
  refine lv_i2l (v := (Int32.toInt64 (v1 - v1 / 7 * 7))) hx hb dX12_coded_7 rfl ?_
  obtain ⟨x2, ex2, hz⟩ := u_let hz
  refine u_topl ex2 ?_
  refine lv_lstore_n (lv' := [(2, .long x2), (0, .ref (G.2.2 0)), (1, .ref (G.2.2 a1))]) hx hb dX12_coded_8 rfl hl (by decide) rfl (fun ls hl => ?_)
  refine lv_iconst (v := 0) hx hb dX12_coded_9 (by decide) ?_
  refine lv_istore (lv' := [(4, .int 0), (2, .long x2), (0, .ref (G.2.2 0)), (1, .ref (G.2.2 a1))]) hx hb dX12_coded_10 hl (by decide) rfl (fun ls hl => ?_)
  obtain ⟨J39_4, eJ39_4, hz⟩ := u_let hz
  have WJ39_4 : ∀ (x3 : Int64) (H : Heap) (locs : List Loc) (ls : Array Slot), J39_4 x3 = some z → u_W ZM G σ s H locs → lv_has ls 5 [(2, .long x3)] → W p l e (u_rm 0) s m args below meth c H locs 0 0 (u_Ql below ZM G s args z σ) (F0 m 39 ls []) := by
    intro x3 H locs ls hz hw hl
    rw [eJ39_4] at hz
    refine lv_lload_n hx hb dX12_coded_39 rfl (lv_at hl 0 rfl) ?_
    exact u_lret cx hw ⟨Option.some.inj hz, rfl⟩ dX12_coded_40
  have WL12_10 : ∀ (k : Nat) (x5 : Int64) (x6 : Int32) (H : Heap) (locs : List Loc) (ls : Array Slot), u_lp2 (b_X12_coded_12 σ a1 J39_4) k x5 x6 = some z → u_W ZM G σ s H locs → lv_has ls 5 [(0, .ref (G.2.2 0)), (1, .ref (G.2.2 a1)), (2, .long x5), (4, .int x6)] → W p l e (u_rm 0) s m args below meth c H locs 0 0 (u_Ql below ZM G s args z σ) (F0 m 12 ls []) := by
    intro k
    induction k with
    | zero =>
      intro x5 x6 H locs ls hz
      exact absurd hz (by intro h9; cases h9)
    | succ k ih12_7 =>
      intro x5 x6 H locs ls hz hw hl
      have hz : (b_X12_coded_12 σ a1 J39_4) (u_lp2 (b_X12_coded_12 σ a1 J39_4) k) x5 x6 = some z := hz
      unfold b_X12_coded_12 at hz
      refine lv_iload hx hb dX12_coded_12 (lv_at hl 3 rfl) ?_
      refine lv_aload_n hx hb dX12_coded_14 rfl (lv_at hl 0 rfl) ?_
      refine u_geti cx hw F_X12_83 o_X12 rfl dX12_coded_15 ?_
      refine lv_icmp_ge (tgt := 39) hx hb dX12_coded_18 (by decide) (fun hc => ?_) (fun hc => ?_)
      · replace hz := u_ift hz hc
        exact WJ39_4 x5 _ _ _ hz hw (lv_sub hl [2] rfl)
      · replace hz := u_iff hz hc
        refine u_ldc2 cx q_1448 dX12_coded_21 ?_
        refine lv_lload_n hx hb dX12_coded_24 rfl (lv_at hl 2 rfl) ?_
        refine lv_lmul hx hb dX12_coded_25 ?_
        refine lv_aload_n hx hb dX12_coded_26 rfl (lv_at hl 1 rfl) ?_
        refine lv_iload hx hb dX12_coded_27 (lv_at hl 3 rfl) ?_
        obtain ⟨v8, hv8, hz⟩ := u_bind hz
        refine u_iald cx hw hv8 dX12_coded_29 ?_
        refine lv_i2l (v := (Int32.toInt64 v8)) hx hb dX12_coded_30 rfl ?_
        refine lv_ladd hx hb dX12_coded_31 ?_
        obtain ⟨x9, ex9, hz⟩ := u_let hz
        refine u_topl ex9 ?_
        refine lv_lstore_n (lv' := [(2, .long x9), (0, .ref (G.2.2 0)), (1, .ref (G.2.2 a1)), (4, .int x6)]) hx hb dX12_coded_32 rfl hl (by decide) rfl (fun ls hl => ?_)
        obtain ⟨x10, ex10, hz⟩ := u_let hz
        refine lv_iinc (v := x10) (lv' := [(4, .int x10), (2, .long x9), (0, .ref (G.2.2 0)), (1, .ref (G.2.2 a1))]) hx hb dX12_coded_33 hl (k := 3) rfl (by rw [ex10]; rfl) (by decide) rfl (fun ls hl => ?_)
        refine lv_goto (tgt := 12) hx hb dX12_coded_36 (by decide) ?_
        exact ih12_7 x9 x10 _ _ _ hz hw (lv_sub hl [2, 3, 1, 0] rfl)
  exact WL12_10 N x2 0 _ _ _ hz hw (lv_sub hl [2, 3, 1, 0] rfl)
