theorem dX11_signs_0 : decode cX11_signs 0 = .ok (.aload_n 0, 1) := by decide +kernel
theorem dX11_signs_1 : decode cX11_signs 1 = .ok (.getfield 26, 3) := by decide +kernel
theorem dX11_signs_4 : decode cX11_signs 4 = .ok (.iload_n 1, 1) := by decide +kernel
theorem dX11_signs_5 : decode cX11_signs 5 = .ok (.invokevirtual 295, 3) := by decide +kernel
theorem dX11_signs_8 : decode cX11_signs 8 = .ok (.ifCond .eq 10, 3) := by decide +kernel
theorem dX11_signs_11 : decode cX11_signs 11 = .ok (.iload_n 2, 1) := by decide +kernel
theorem dX11_signs_12 : decode cX11_signs 12 = .ok (.invokestatic 298, 3) := by decide +kernel
theorem dX11_signs_15 : decode cX11_signs 15 = .ok (.ifCond .ne 5, 3) := by decide +kernel
theorem dX11_signs_18 : decode cX11_signs 18 = .ok (.iconst (-1), 1) := by decide +kernel
theorem dX11_signs_19 : decode cX11_signs 19 = .ok (.ireturn, 1) := by decide +kernel
theorem dX11_signs_20 : decode cX11_signs 20 = .ok (.aload_n 0, 1) := by decide +kernel
theorem dX11_signs_21 : decode cX11_signs 21 = .ok (.iload_n 1, 1) := by decide +kernel
theorem dX11_signs_22 : decode cX11_signs 22 = .ok (.iload_n 2, 1) := by decide +kernel
theorem dX11_signs_23 : decode cX11_signs 23 = .ok (.iconst 0, 1) := by decide +kernel
theorem dX11_signs_24 : decode cX11_signs 24 = .ok (.invokevirtual 301, 3) := by decide +kernel
theorem dX11_signs_27 : decode cX11_signs 27 = .ok (.ireturn, 1) := by decide +kernel
def f_X11_signs (N : Nat) (σ : uS) (p1 : Int32) (p2 : Int32) : Option (Int32 × uS) := (f_X7_arePeople N σ 32 p1).bind fun v1 =>
  if v1 = 0 then (some ((-1), σ)) else ((f_X11_isSignsCrossings N σ p2).bind fun v2 =>
  if v2 = 0 then (some ((-1), σ)) else ((f_X11_fewestSigns N σ p1 p2 0).bind fun v3 =>
  some (v3.1, v3.2)))
set_option maxRecDepth 100000 in
set_option maxHeartbeats 4000000 in
theorem c_X11_signs (l : Launch) (G : uG) (N : Nat) (σ : uS) (p1 : Int32) (p2 : Int32) (z : (Int32 × uS)) (hz : f_X11_signs N σ p1 p2 = some z) : u_Mi l ZC G yX11_signs cX11_signs 3 .int 6 [.ref (G.2.2 0), .int p1, .int p2] σ z.1 z.2 := by
  refine u_Mi_of RX11 (by decide) rfl (Nat.le_of_ble_eq_true rfl) ?_
  intro p e s m args below meth c ls cx hw hl
  have hx := cx.1
  have hb := cx.2.1
  have hl : lv_has ls 3 [(0, .ref (G.2.2 0)), (1, .int p1), (2, .int p2)] := hl
  unfold f_X11_signs at hz
  refine lv_aload_n hx hb dX11_signs_0 rfl (lv_at hl 0 rfl) ?_
  refine u_getp cx hw F_X11_26 o_X11 rfl dX11_signs_1 ?_
  refine lv_iload_n hx hb dX11_signs_4 rfl (lv_at hl 1 rfl) ?_
  obtain ⟨v1, hv1, hz⟩ := u_bind hz
  refine u_callVi (As := [.int p1]) (rest := []) cx hw LV_X11_295 (c_X7_arePeople l G N σ 32 oS_32 p1 v1 hv1) oS_32 rfl (by decide) hl.1 rfl (Nat.le_of_ble_eq_true rfl) dX11_signs_5 rfl (fun H locs hw => ?_)
  refine lv_if_eq (tgt := 18) hx hb dX11_signs_8 (by decide) (fun hc => ?_) (fun hc => ?_)
  · replace hz := u_ift hz hc
    refine lv_iconst (v := (-1)) hx hb dX11_signs_18 (by decide) ?_
    exact u_iret cx hw (u_pair hz) dX11_signs_19
  · replace hz := u_iff hz hc
    refine lv_iload_n hx hb dX11_signs_11 rfl (lv_at hl 2 rfl) ?_
    obtain ⟨v2, hv2, hz⟩ := u_bind hz
    refine u_callSi (As := [.int p2]) (rest := []) cx hw LS_X11_298 (c_X11_isSignsCrossings l G N σ p2 v2 hv2) (by decide) hl.1 rfl (Nat.le_of_ble_eq_true rfl) dX11_signs_12 rfl (fun H locs hw => ?_)
    refine lv_if_ne (tgt := 20) hx hb dX11_signs_15 (by decide) (fun hc => ?_) (fun hc => ?_)
    · replace hz := u_iff hz hc
      refine lv_aload_n hx hb dX11_signs_20 rfl (lv_at hl 0 rfl) ?_
      refine lv_iload_n hx hb dX11_signs_21 rfl (lv_at hl 1 rfl) ?_
      refine lv_iload_n hx hb dX11_signs_22 rfl (lv_at hl 2 rfl) ?_
      refine lv_iconst (v := 0) hx hb dX11_signs_23 (by decide) ?_
      obtain ⟨v3, hv3, hz⟩ := u_bind hz
      refine u_callVi (As := [.int p1, .int p2, .int 0]) (rest := []) cx hw LV_X11_301 (c_X11_fewestSigns l G N σ p1 p2 0 v3 hv3) o_X11 rfl (by decide) hl.1 rfl (Nat.le_of_ble_eq_true rfl) dX11_signs_24 rfl (fun H locs hw => ?_)
      exact u_iret cx hw (u_pair hz) dX11_signs_27
    · replace hz := u_ift hz hc
      refine lv_iconst (v := (-1)) hx hb dX11_signs_18 (by decide) ?_
      exact u_iret cx hw (u_pair hz) dX11_signs_19
theorem dX11_empties_0 : decode cX11_empties 0 = .ok (.iload_n 1, 1) := by decide +kernel
theorem dX11_empties_1 : decode cX11_empties 1 = .ok (.invokestatic 298, 3) := by decide +kernel
theorem dX11_empties_4 : decode cX11_empties 4 = .ok (.ifCond .eq 19, 3) := by decide +kernel
theorem dX11_empties_7 : decode cX11_empties 7 = .ok (.aload_n 0, 1) := by decide +kernel
theorem dX11_empties_8 : decode cX11_empties 8 = .ok (.aload_n 0, 1) := by decide +kernel
theorem dX11_empties_9 : decode cX11_empties 9 = .ok (.getfield 26, 3) := by decide +kernel
theorem dX11_empties_12 : decode cX11_empties 12 = .ok (.invokevirtual 305, 3) := by decide +kernel
theorem dX11_empties_15 : decode cX11_empties 15 = .ok (.iload_n 1, 1) := by decide +kernel
theorem dX11_empties_16 : decode cX11_empties 16 = .ok (.iconst 1, 1) := by decide +kernel
theorem dX11_empties_17 : decode cX11_empties 17 = .ok (.invokevirtual 301, 3) := by decide +kernel
theorem dX11_empties_20 : decode cX11_empties 20 = .ok (.goto 4, 3) := by decide +kernel
theorem dX11_empties_23 : decode cX11_empties 23 = .ok (.iconst (-1), 1) := by decide +kernel
theorem dX11_empties_24 : decode cX11_empties 24 = .ok (.ireturn, 1) := by decide +kernel
def f_X11_empties (N : Nat) (σ : uS) (p1 : Int32) : Option (Int32 × uS) := (f_X11_isSignsCrossings N σ p1).bind fun v1 =>
  if v1 = 0 then (some ((-1), σ)) else ((f_X7_everybody N σ 32).bind fun v2 =>
  (f_X11_fewestSigns N σ v2 p1 1).bind fun v3 =>
  some (v3.1, v3.2))
set_option maxRecDepth 100000 in
set_option maxHeartbeats 4000000 in
theorem c_X11_empties (l : Launch) (G : uG) (N : Nat) (σ : uS) (p1 : Int32) (z : (Int32 × uS)) (hz : f_X11_empties N σ p1 = some z) : u_Mi l ZC G yX11_empties cX11_empties 2 .int 6 [.ref (G.2.2 0), .int p1] σ z.1 z.2 := by
  refine u_Mi_of RX11 (by decide) rfl (Nat.le_of_ble_eq_true rfl) ?_
  intro p e s m args below meth c ls cx hw hl
  have hx := cx.1
  have hb := cx.2.1
  have hl : lv_has ls 2 [(0, .ref (G.2.2 0)), (1, .int p1)] := hl
  unfold f_X11_empties at hz
  refine lv_iload_n hx hb dX11_empties_0 rfl (lv_at hl 1 rfl) ?_
  obtain ⟨v1, hv1, hz⟩ := u_bind hz
  refine u_callSi (As := [.int p1]) (rest := []) cx hw LS_X11_298 (c_X11_isSignsCrossings l G N σ p1 v1 hv1) (by decide) hl.1 rfl (Nat.le_of_ble_eq_true rfl) dX11_empties_1 rfl (fun H locs hw => ?_)
  refine lv_if_eq (tgt := 23) hx hb dX11_empties_4 (by decide) (fun hc => ?_) (fun hc => ?_)
  · replace hz := u_ift hz hc
    refine lv_iconst (v := (-1)) hx hb dX11_empties_23 (by decide) ?_
    exact u_iret cx hw (u_pair hz) dX11_empties_24
  · replace hz := u_iff hz hc
    refine lv_aload_n hx hb dX11_empties_7 rfl (lv_at hl 0 rfl) ?_
    refine lv_aload_n hx hb dX11_empties_8 rfl (lv_at hl 0 rfl) ?_
    refine u_getp cx hw F_X11_26 o_X11 rfl dX11_empties_9 ?_
    obtain ⟨v2, hv2, hz⟩ := u_bind hz
    refine u_callVi (As := []) (rest := [.ref (G.2.2 0)]) cx hw LV_X11_305 (c_X7_everybody l G N σ 32 oS_32 v2 hv2) oS_32 rfl (by decide) hl.1 rfl (Nat.le_of_ble_eq_true rfl) dX11_empties_12 rfl (fun H locs hw => ?_)
    refine lv_iload_n hx hb dX11_empties_15 rfl (lv_at hl 1 rfl) ?_
    refine lv_iconst (v := 1) hx hb dX11_empties_16 (by decide) ?_
    obtain ⟨v3, hv3, hz⟩ := u_bind hz
    refine u_callVi (As := [.int v2, .int p1, .int 1]) (rest := []) cx hw LV_X11_301 (c_X11_fewestSigns l G N σ v2 p1 1 v3 hv3) o_X11 rfl (by decide) hl.1 rfl (Nat.le_of_ble_eq_true rfl) dX11_empties_17 rfl (fun H locs hw => ?_)
    refine lv_goto (tgt := 24) hx hb dX11_empties_20 (by decide) ?_
    exact u_iret cx hw (u_pair hz) dX11_empties_24
theorem dX11_faces_0 : decode cX11_faces 0 = .ok (.bipush (-2), 2) := by decide +kernel
theorem dX11_faces_2 : decode cX11_faces 2 = .ok (.istore_n 1, 1) := by decide +kernel
theorem dX11_faces_3 : decode cX11_faces 3 = .ok (.iconst 0, 1) := by decide +kernel
theorem dX11_faces_4 : decode cX11_faces 4 = .ok (.istore_n 2, 1) := by decide +kernel
theorem dX11_faces_5 : decode cX11_faces 5 = .ok (.iconst 0, 1) := by decide +kernel
theorem dX11_faces_6 : decode cX11_faces 6 = .ok (.istore_n 3, 1) := by decide +kernel
theorem dX11_faces_7 : decode cX11_faces 7 = .ok (.iconst 0, 1) := by decide +kernel
theorem dX11_faces_8 : decode cX11_faces 8 = .ok (.istore 4, 2) := by decide +kernel
theorem dX11_faces_10 : decode cX11_faces 10 = .ok (.iload 4, 2) := by decide +kernel
theorem dX11_faces_12 : decode cX11_faces 12 = .ok (.aload_n 0, 1) := by decide +kernel
theorem dX11_faces_13 : decode cX11_faces 13 = .ok (.getfield 26, 3) := by decide +kernel
theorem dX11_faces_16 : decode cX11_faces 16 = .ok (.getfield 122, 3) := by decide +kernel
theorem dX11_faces_19 : decode cX11_faces 19 = .ok (.if_icmp .ge 74, 3) := by decide +kernel
theorem dX11_faces_22 : decode cX11_faces 22 = .ok (.iload 4, 2) := by decide +kernel
theorem dX11_faces_24 : decode cX11_faces 24 = .ok (.iconst 1, 1) := by decide +kernel
theorem dX11_faces_25 : decode cX11_faces 25 = .ok (.iadd, 1) := by decide +kernel
theorem dX11_faces_26 : decode cX11_faces 26 = .ok (.istore 5, 2) := by decide +kernel
theorem dX11_faces_28 : decode cX11_faces 28 = .ok (.iload 5, 2) := by decide +kernel
theorem dX11_faces_30 : decode cX11_faces 30 = .ok (.aload_n 0, 1) := by decide +kernel
theorem dX11_faces_31 : decode cX11_faces 31 = .ok (.getfield 26, 3) := by decide +kernel
theorem dX11_faces_34 : decode cX11_faces 34 = .ok (.getfield 122, 3) := by decide +kernel
theorem dX11_faces_37 : decode cX11_faces 37 = .ok (.if_icmp .ge 50, 3) := by decide +kernel
theorem dX11_faces_40 : decode cX11_faces 40 = .ok (.aload_n 0, 1) := by decide +kernel
theorem dX11_faces_41 : decode cX11_faces 41 = .ok (.iload 4, 2) := by decide +kernel
theorem dX11_faces_43 : decode cX11_faces 43 = .ok (.iload 5, 2) := by decide +kernel
theorem dX11_faces_45 : decode cX11_faces 45 = .ok (.invokevirtual 328, 3) := by decide +kernel
theorem dX11_faces_48 : decode cX11_faces 48 = .ok (.ifCond .eq 8, 3) := by decide +kernel
theorem dX11_faces_51 : decode cX11_faces 51 = .ok (.bipush (-2), 2) := by decide +kernel
theorem dX11_faces_53 : decode cX11_faces 53 = .ok (.goto 11, 3) := by decide +kernel
theorem dX11_faces_56 : decode cX11_faces 56 = .ok (.aload_n 0, 1) := by decide +kernel
theorem dX11_faces_57 : decode cX11_faces 57 = .ok (.iload 4, 2) := by decide +kernel
theorem dX11_faces_59 : decode cX11_faces 59 = .ok (.iload 5, 2) := by decide +kernel
theorem dX11_faces_61 : decode cX11_faces 61 = .ok (.invokevirtual 332, 3) := by decide +kernel
theorem dX11_faces_64 : decode cX11_faces 64 = .ok (.istore 6, 2) := by decide +kernel
theorem dX11_faces_66 : decode cX11_faces 66 = .ok (.iload 6, 2) := by decide +kernel
theorem dX11_faces_68 : decode cX11_faces 68 = .ok (.iload_n 1, 1) := by decide +kernel
theorem dX11_faces_69 : decode cX11_faces 69 = .ok (.if_icmp .le 12, 3) := by decide +kernel
theorem dX11_faces_72 : decode cX11_faces 72 = .ok (.iload 6, 2) := by decide +kernel
theorem dX11_faces_74 : decode cX11_faces 74 = .ok (.istore_n 1, 1) := by decide +kernel
theorem dX11_faces_75 : decode cX11_faces 75 = .ok (.iload 4, 2) := by decide +kernel
theorem dX11_faces_77 : decode cX11_faces 77 = .ok (.istore_n 2, 1) := by decide +kernel
theorem dX11_faces_78 : decode cX11_faces 78 = .ok (.iload 5, 2) := by decide +kernel
theorem dX11_faces_80 : decode cX11_faces 80 = .ok (.istore_n 3, 1) := by decide +kernel
theorem dX11_faces_81 : decode cX11_faces 81 = .ok (.iinc 5 1, 3) := by decide +kernel
theorem dX11_faces_84 : decode cX11_faces 84 = .ok (.goto (-56), 3) := by decide +kernel
theorem dX11_faces_87 : decode cX11_faces 87 = .ok (.iinc 4 1, 3) := by decide +kernel
theorem dX11_faces_90 : decode cX11_faces 90 = .ok (.goto (-80), 3) := by decide +kernel
theorem dX11_faces_93 : decode cX11_faces 93 = .ok (.iload_n 1, 1) := by decide +kernel
theorem dX11_faces_94 : decode cX11_faces 94 = .ok (.ifCond .lt 14, 3) := by decide +kernel
theorem dX11_faces_97 : decode cX11_faces 97 = .ok (.aload_n 0, 1) := by decide +kernel
theorem dX11_faces_98 : decode cX11_faces 98 = .ok (.getfield 19, 3) := by decide +kernel
theorem dX11_faces_101 : decode cX11_faces 101 = .ok (.iload_n 2, 1) := by decide +kernel
theorem dX11_faces_102 : decode cX11_faces 102 = .ok (.i2l, 1) := by decide +kernel
theorem dX11_faces_103 : decode cX11_faces 103 = .ok (.iload_n 3, 1) := by decide +kernel
theorem dX11_faces_104 : decode cX11_faces 104 = .ok (.i2l, 1) := by decide +kernel
theorem dX11_faces_105 : decode cX11_faces 105 = .ok (.invokevirtual 220, 3) := by decide +kernel
theorem dX11_faces_108 : decode cX11_faces 108 = .ok (.iload_n 1, 1) := by decide +kernel
theorem dX11_faces_109 : decode cX11_faces 109 = .ok (.ireturn, 1) := by decide +kernel
def b_X11_faces_28 (N : Nat) (x11 : Int32) (J87_18 : uS → Int32 → Int32 → Int32 → Option (Int32 × uS)) (rec28_25 : uS → Int32 → Int32 → Int32 → Int32 → Option (Int32 × uS)) (s20 : uS) (x21 : Int32) (x22 : Int32) (x23 : Int32) (x24 : Int32) : Option (Int32 × uS) :=
  if (s20.1 32 8) ≤ x24 then (J87_18 s20 x21 x22 x23) else ((f_X11_seeEachOther N s20 x11 x24).bind fun v26 =>
  u_jn (fun (s27 : uS) (t28 : Int32) => (u_jn (fun (x30 : Int32) (x31 : Int32) (x32 : Int32) => (u_jn (x24 + 1 : Int32) fun x34 =>
  rec28_25 s27 x30 x31 x32 x34 : Option (Int32 × uS))) fun J81_33 =>
  if t28 ≤ x21 then (J81_33 x21 x22 x23) else (J81_33 t28 x11 x24) : Option (Int32 × uS))) fun J64_29 =>
  if v26 = 0 then ((f_X11_howManyFaceToFace N s20 x11 x24).bind fun v35 =>
  J64_29 v35.2 v35.1) else (J64_29 s20 (-2)))
def b_X11_faces_10 (N : Nat) (J93_5 : uS → Int32 → Int32 → Int32 → Option (Int32 × uS)) (rec10_12 : uS → Int32 → Int32 → Int32 → Int32 → Option (Int32 × uS)) (s7 : uS) (x8 : Int32) (x9 : Int32) (x10 : Int32) (x11 : Int32) : Option (Int32 × uS) :=
  if (s7.1 32 8) ≤ x11 then (J93_5 s7 x8 x9 x10) else (u_jn ((x11 + 1) : Int32) fun x13 =>
  u_jn (fun (s14 : uS) (x15 : Int32) (x16 : Int32) (x17 : Int32) => (u_jn (x11 + 1 : Int32) fun x19 =>
  rec10_12 s14 x15 x16 x17 x19 : Option (Int32 × uS))) fun J87_18 =>
  u_lp5 (b_X11_faces_28 N x11 J87_18) N s7 x8 x9 x10 x13)
def f_X11_faces (N : Nat) (σ : uS) : Option (Int32 × uS) := u_jn (fun (s1 : uS) (x2 : Int32) (x3 : Int32) (x4 : Int32) => (if x2 < 0 then (some (x2, s1)) else ((f_X8_two N s1 (Int32.toInt64 x3) (Int32.toInt64 x4)).bind fun s6 =>
  some (x2, s6)) : Option (Int32 × uS))) fun J93_5 =>
  u_lp5 (b_X11_faces_10 N J93_5) N σ (-2) 0 0 0
set_option maxRecDepth 100000 in
set_option maxHeartbeats 4000000 in
theorem c_X11_faces (l : Launch) (G : uG) (N : Nat) (σ : uS) (z : (Int32 × uS)) (hz : f_X11_faces N σ = some z) : u_Mi l ZC G yX11_faces cX11_faces 7 .int 6 [.ref (G.2.2 0)] σ z.1 z.2 := by
  refine u_Mi_of RX11 (by decide) rfl (Nat.le_of_ble_eq_true rfl) ?_
  intro p e s m args below meth c ls cx hw hl
  have hx := cx.1
  have hb := cx.2.1
  have hl : lv_has ls 7 [(0, .ref (G.2.2 0))] := hl
  unfold f_X11_faces at hz
  refine lv_bipush (v := (-2)) hx hb dX11_faces_0 (by decide) ?_
  refine lv_istore_n (lv' := [(1, .int (-2)), (0, .ref (G.2.2 0))]) hx hb dX11_faces_2 rfl hl (by decide) rfl (fun ls hl => ?_)
  refine lv_iconst (v := 0) hx hb dX11_faces_3 (by decide) ?_
  refine lv_istore_n (lv' := [(2, .int 0), (1, .int (-2)), (0, .ref (G.2.2 0))]) hx hb dX11_faces_4 rfl hl (by decide) rfl (fun ls hl => ?_)
  refine lv_iconst (v := 0) hx hb dX11_faces_5 (by decide) ?_
  refine lv_istore_n (lv' := [(3, .int 0), (2, .int 0), (1, .int (-2)), (0, .ref (G.2.2 0))]) hx hb dX11_faces_6 rfl hl (by decide) rfl (fun ls hl => ?_)
  refine lv_iconst (v := 0) hx hb dX11_faces_7 (by decide) ?_
  refine lv_istore (lv' := [(4, .int 0), (3, .int 0), (2, .int 0), (1, .int (-2)), (0, .ref (G.2.2 0))]) hx hb dX11_faces_8 hl (by decide) rfl (fun ls hl => ?_)
  obtain ⟨J93_5, eJ93_5, hz⟩ := u_let hz
  have WJ93_5 : ∀ (s1 : uS) (x2 : Int32) (x3 : Int32) (x4 : Int32) (H : Heap) (locs : List Loc) (ls : Array Slot), J93_5 s1 x2 x3 x4 = some z → u_W ZC G s1 s H locs → lv_has ls 7 [(0, .ref (G.2.2 0)), (1, .int x2), (2, .int x3), (3, .int x4)] → W p l e (u_rm 6) s m args below meth c H locs 0 0 (u_Qi below ZC G s args z.1 z.2) (F0 m 93 ls []) := by
    intro s1 x2 x3 x4 H locs ls hz hw hl
    rw [eJ93_5] at hz
    refine lv_iload_n hx hb dX11_faces_93 rfl (lv_at hl 1 rfl) ?_
    refine lv_if_lt (tgt := 108) hx hb dX11_faces_94 (by decide) (fun hc => ?_) (fun hc => ?_)
    · replace hz := u_ift hz hc
      refine lv_iload_n hx hb dX11_faces_108 rfl (lv_at hl 1 rfl) ?_
      exact u_iret cx hw (u_pair hz) dX11_faces_109
    · replace hz := u_iff hz hc
      refine lv_aload_n hx hb dX11_faces_97 rfl (lv_at hl 0 rfl) ?_
      refine u_getp cx hw F_X11_19 o_X11 rfl dX11_faces_98 ?_
      refine lv_iload_n hx hb dX11_faces_101 rfl (lv_at hl 2 rfl) ?_
      refine lv_i2l (v := (Int32.toInt64 x3)) hx hb dX11_faces_102 rfl ?_
      refine lv_iload_n hx hb dX11_faces_103 rfl (lv_at hl 3 rfl) ?_
      refine lv_i2l (v := (Int32.toInt64 x4)) hx hb dX11_faces_104 rfl ?_
      obtain ⟨s6, hs6, hz⟩ := u_bind hz
      refine u_callVv (As := [.long (Int32.toInt64 x3), .long (Int32.toInt64 x4)]) (rest := []) cx hw LV_X11_220 (c_X8_two l G N s1 (Int32.toInt64 x3) (Int32.toInt64 x4) s6 hs6) o_X8 rfl (by decide) hl.1 rfl (Nat.le_of_ble_eq_true rfl) dX11_faces_105 rfl (fun H locs hw => ?_)
      refine lv_iload_n hx hb dX11_faces_108 rfl (lv_at hl 1 rfl) ?_
      exact u_iret cx hw (u_pair hz) dX11_faces_109
  have WL10_35 : ∀ (k : Nat) (s7 : uS) (x8 : Int32) (x9 : Int32) (x10 : Int32) (x11 : Int32) (H : Heap) (locs : List Loc) (ls : Array Slot), u_lp5 (b_X11_faces_10 N J93_5) k s7 x8 x9 x10 x11 = some z → u_W ZC G s7 s H locs → lv_has ls 7 [(0, .ref (G.2.2 0)), (1, .int x8), (2, .int x9), (3, .int x10), (4, .int x11)] → W p l e (u_rm 6) s m args below meth c H locs 0 0 (u_Qi below ZC G s args z.1 z.2) (F0 m 10 ls []) := by
    intro k
    induction k with
    | zero =>
      intro s7 x8 x9 x10 x11 H locs ls hz
      exact absurd hz (by intro h9; cases h9)
    | succ k ih10_12 =>
      intro s7 x8 x9 x10 x11 H locs ls hz hw hl
      have hz : (b_X11_faces_10 N J93_5) (u_lp5 (b_X11_faces_10 N J93_5) k) s7 x8 x9 x10 x11 = some z := hz
      unfold b_X11_faces_10 at hz
      refine lv_iload hx hb dX11_faces_10 (lv_at hl 4 rfl) ?_
      refine lv_aload_n hx hb dX11_faces_12 rfl (lv_at hl 0 rfl) ?_
      refine u_getp cx hw F_X11_26 o_X11 rfl dX11_faces_13 ?_
      refine u_geti cx hw F_X11_122 oS_32 rfl dX11_faces_16 ?_
      refine lv_icmp_ge (tgt := 93) hx hb dX11_faces_19 (by decide) (fun hc => ?_) (fun hc => ?_)
      · replace hz := u_ift hz hc
        exact WJ93_5 s7 x8 x9 x10 _ _ _ hz hw (lv_sub hl [0, 1, 2, 3] rfl)
      · replace hz := u_iff hz hc
        refine lv_iload hx hb dX11_faces_22 (lv_at hl 4 rfl) ?_
        refine lv_iconst (v := 1) hx hb dX11_faces_24 (by decide) ?_
        refine lv_iadd hx hb dX11_faces_25 ?_
        obtain ⟨x13, ex13, hz⟩ := u_let hz
        refine u_topi ex13 ?_
        refine lv_istore (lv' := [(5, .int x13), (0, .ref (G.2.2 0)), (1, .int x8), (2, .int x9), (3, .int x10), (4, .int x11)]) hx hb dX11_faces_26 hl (by decide) rfl (fun ls hl => ?_)
        obtain ⟨J87_18, eJ87_18, hz⟩ := u_let hz
        have WJ87_18 : ∀ (s14 : uS) (x15 : Int32) (x16 : Int32) (x17 : Int32) (H : Heap) (locs : List Loc) (ls : Array Slot), J87_18 s14 x15 x16 x17 = some z → u_W ZC G s14 s H locs → lv_has ls 7 [(0, .ref (G.2.2 0)), (1, .int x15), (2, .int x16), (3, .int x17), (4, .int x11)] → W p l e (u_rm 6) s m args below meth c H locs 0 0 (u_Qi below ZC G s args z.1 z.2) (F0 m 87 ls []) := by
          intro s14 x15 x16 x17 H locs ls hz hw hl
          rw [eJ87_18] at hz
          obtain ⟨x19, ex19, hz⟩ := u_let hz
          refine lv_iinc (v := x19) (lv' := [(4, .int x19), (0, .ref (G.2.2 0)), (1, .int x15), (2, .int x16), (3, .int x17)]) hx hb dX11_faces_87 hl (k := 4) rfl (by rw [ex19]; rfl) (by decide) rfl (fun ls hl => ?_)
          refine lv_goto (tgt := 10) hx hb dX11_faces_90 (by decide) ?_
          exact ih10_12 s14 x15 x16 x17 x19 _ _ _ hz hw (lv_sub hl [1, 2, 3, 4, 0] rfl)
        have WL28_35 : ∀ (k : Nat) (s20 : uS) (x21 : Int32) (x22 : Int32) (x23 : Int32) (x24 : Int32) (H : Heap) (locs : List Loc) (ls : Array Slot), u_lp5 (b_X11_faces_28 N x11 J87_18) k s20 x21 x22 x23 x24 = some z → u_W ZC G s20 s H locs → lv_has ls 7 [(0, .ref (G.2.2 0)), (1, .int x21), (2, .int x22), (3, .int x23), (4, .int x11), (5, .int x24)] → W p l e (u_rm 6) s m args below meth c H locs 0 0 (u_Qi below ZC G s args z.1 z.2) (F0 m 28 ls []) := by
          intro k
          induction k with
          | zero =>
            intro s20 x21 x22 x23 x24 H locs ls hz
            exact absurd hz (by intro h9; cases h9)
          | succ k ih28_25 =>
            intro s20 x21 x22 x23 x24 H locs ls hz hw hl
            have hz : (b_X11_faces_28 N x11 J87_18) (u_lp5 (b_X11_faces_28 N x11 J87_18) k) s20 x21 x22 x23 x24 = some z := hz
            unfold b_X11_faces_28 at hz
            refine lv_iload hx hb dX11_faces_28 (lv_at hl 5 rfl) ?_
            refine lv_aload_n hx hb dX11_faces_30 rfl (lv_at hl 0 rfl) ?_
            refine u_getp cx hw F_X11_26 o_X11 rfl dX11_faces_31 ?_
            refine u_geti cx hw F_X11_122 oS_32 rfl dX11_faces_34 ?_
            refine lv_icmp_ge (tgt := 87) hx hb dX11_faces_37 (by decide) (fun hc => ?_) (fun hc => ?_)
            · replace hz := u_ift hz hc
              exact WJ87_18 s20 x21 x22 x23 _ _ _ hz hw (lv_sub hl [0, 1, 2, 3, 4] rfl)
            · replace hz := u_iff hz hc
              refine lv_aload_n hx hb dX11_faces_40 rfl (lv_at hl 0 rfl) ?_
              refine lv_iload hx hb dX11_faces_41 (lv_at hl 4 rfl) ?_
              refine lv_iload hx hb dX11_faces_43 (lv_at hl 5 rfl) ?_
              obtain ⟨v26, hv26, hz⟩ := u_bind hz
              refine u_callVi (As := [.int x11, .int x24]) (rest := []) cx hw LV_X11_328 (c_X11_seeEachOther l G N s20 x11 x24 v26 hv26) o_X11 rfl (by decide) hl.1 rfl (Nat.le_of_ble_eq_true rfl) dX11_faces_45 rfl (fun H locs hw => ?_)
              obtain ⟨J64_29, eJ64_29, hz⟩ := u_let hz
              have WJ64_29 : ∀ (s27 : uS) (t28 : Int32) (H : Heap) (locs : List Loc) (ls : Array Slot), J64_29 s27 t28 = some z → u_W ZC G s27 s H locs → lv_has ls 7 [(0, .ref (G.2.2 0)), (1, .int x21), (2, .int x22), (3, .int x23), (4, .int x11), (5, .int x24)] → W p l e (u_rm 6) s m args below meth c H locs 0 0 (u_Qi below ZC G s args z.1 z.2) (F0 m 64 ls [.int t28]) := by
                intro s27 t28 H locs ls hz hw hl
                rw [eJ64_29] at hz
                refine lv_istore (lv' := [(6, .int t28), (0, .ref (G.2.2 0)), (1, .int x21), (2, .int x22), (3, .int x23), (4, .int x11), (5, .int x24)]) hx hb dX11_faces_64 hl (by decide) rfl (fun ls hl => ?_)
                refine lv_iload hx hb dX11_faces_66 (lv_at hl 0 rfl) ?_
                refine lv_iload_n hx hb dX11_faces_68 rfl (lv_at hl 2 rfl) ?_
                obtain ⟨J81_33, eJ81_33, hz⟩ := u_let hz
                have WJ81_33 : ∀ (x30 : Int32) (x31 : Int32) (x32 : Int32) (H : Heap) (locs : List Loc) (ls : Array Slot), J81_33 x30 x31 x32 = some z → u_W ZC G s27 s H locs → lv_has ls 7 [(0, .ref (G.2.2 0)), (1, .int x30), (2, .int x31), (3, .int x32), (4, .int x11), (5, .int x24)] → W p l e (u_rm 6) s m args below meth c H locs 0 0 (u_Qi below ZC G s args z.1 z.2) (F0 m 81 ls []) := by
                  intro x30 x31 x32 H locs ls hz hw hl
                  rw [eJ81_33] at hz
                  obtain ⟨x34, ex34, hz⟩ := u_let hz
                  refine lv_iinc (v := x34) (lv' := [(5, .int x34), (0, .ref (G.2.2 0)), (1, .int x30), (2, .int x31), (3, .int x32), (4, .int x11)]) hx hb dX11_faces_81 hl (k := 5) rfl (by rw [ex34]; rfl) (by decide) rfl (fun ls hl => ?_)
                  refine lv_goto (tgt := 28) hx hb dX11_faces_84 (by decide) ?_
                  exact ih28_25 s27 x30 x31 x32 x34 _ _ _ hz hw (lv_sub hl [1, 2, 3, 4, 5, 0] rfl)
                refine lv_icmp_le (tgt := 81) hx hb dX11_faces_69 (by decide) (fun hc => ?_) (fun hc => ?_)
                · replace hz := u_ift hz hc
                  exact WJ81_33 x21 x22 x23 _ _ _ hz hw (lv_sub hl [1, 2, 3, 4, 5, 6] rfl)
                · replace hz := u_iff hz hc
                  refine lv_iload hx hb dX11_faces_72 (lv_at hl 0 rfl) ?_
                  refine lv_istore_n (lv' := [(1, .int t28), (6, .int t28), (0, .ref (G.2.2 0)), (2, .int x22), (3, .int x23), (4, .int x11), (5, .int x24)]) hx hb dX11_faces_74 rfl hl (by decide) rfl (fun ls hl => ?_)
                  refine lv_iload hx hb dX11_faces_75 (lv_at hl 5 rfl) ?_
                  refine lv_istore_n (lv' := [(2, .int x11), (1, .int t28), (6, .int t28), (0, .ref (G.2.2 0)), (3, .int x23), (4, .int x11), (5, .int x24)]) hx hb dX11_faces_77 rfl hl (by decide) rfl (fun ls hl => ?_)
                  refine lv_iload hx hb dX11_faces_78 (lv_at hl 6 rfl) ?_
                  refine lv_istore_n (lv' := [(3, .int x24), (2, .int x11), (1, .int t28), (6, .int t28), (0, .ref (G.2.2 0)), (4, .int x11), (5, .int x24)]) hx hb dX11_faces_80 rfl hl (by decide) rfl (fun ls hl => ?_)
                  exact WJ81_33 t28 x11 x24 _ _ _ hz hw (lv_sub hl [4, 2, 1, 0, 5, 6] rfl)
              refine lv_if_eq (tgt := 56) hx hb dX11_faces_48 (by decide) (fun hc => ?_) (fun hc => ?_)
              · replace hz := u_ift hz hc
                refine lv_aload_n hx hb dX11_faces_56 rfl (lv_at hl 0 rfl) ?_
                refine lv_iload hx hb dX11_faces_57 (lv_at hl 4 rfl) ?_
                refine lv_iload hx hb dX11_faces_59 (lv_at hl 5 rfl) ?_
                obtain ⟨v35, hv35, hz⟩ := u_bind hz
                refine u_callVi (As := [.int x11, .int x24]) (rest := []) cx hw LV_X11_332 (c_X11_howManyFaceToFace l G N s20 x11 x24 v35 hv35) o_X11 rfl (by decide) hl.1 rfl (Nat.le_of_ble_eq_true rfl) dX11_faces_61 rfl (fun H locs hw => ?_)
                exact WJ64_29 v35.2 v35.1 _ _ _ hz hw (lv_sub hl [0, 1, 2, 3, 4, 5] rfl)
              · replace hz := u_iff hz hc
                refine lv_bipush (v := (-2)) hx hb dX11_faces_51 (by decide) ?_
                refine lv_goto (tgt := 64) hx hb dX11_faces_53 (by decide) ?_
                exact WJ64_29 s20 (-2) _ _ _ hz hw (lv_sub hl [0, 1, 2, 3, 4, 5] rfl)
        exact WL28_35 N s7 x8 x9 x10 x13 _ _ _ hz hw (lv_sub hl [1, 2, 3, 4, 5, 0] rfl)
  exact WL10_35 N σ (-2) 0 0 0 _ _ _ hz hw (lv_sub hl [4, 3, 2, 1, 0] rfl)
theorem dX11_years_0 : decode cX11_years 0 = .ok (.iload_n 2, 1) := by decide +kernel
theorem dX11_years_1 : decode cX11_years 1 = .ok (.iconst 1, 1) := by decide +kernel
theorem dX11_years_2 : decode cX11_years 2 = .ok (.if_icmp .lt 9, 3) := by decide +kernel
theorem dX11_years_5 : decode cX11_years 5 = .ok (.iload_n 2, 1) := by decide +kernel
theorem dX11_years_6 : decode cX11_years 6 = .ok (.bipush 60, 2) := by decide +kernel
theorem dX11_years_8 : decode cX11_years 8 = .ok (.if_icmp .le 5, 3) := by decide +kernel
theorem dX11_years_11 : decode cX11_years 11 = .ok (.iconst (-1), 1) := by decide +kernel
theorem dX11_years_12 : decode cX11_years 12 = .ok (.ireturn, 1) := by decide +kernel
theorem dX11_years_13 : decode cX11_years 13 = .ok (.aload_n 0, 1) := by decide +kernel
theorem dX11_years_14 : decode cX11_years 14 = .ok (.getfield 30, 3) := by decide +kernel
theorem dX11_years_17 : decode cX11_years 17 = .ok (.aload_n 0, 1) := by decide +kernel
theorem dX11_years_18 : decode cX11_years 18 = .ok (.getfield 26, 3) := by decide +kernel
theorem dX11_years_21 : decode cX11_years 21 = .ok (.invokevirtual 206, 3) := by decide +kernel
theorem dX11_years_24 : decode cX11_years 24 = .ok (.aload_n 0, 1) := by decide +kernel
theorem dX11_years_25 : decode cX11_years 25 = .ok (.getfield 82, 3) := by decide +kernel
theorem dX11_years_28 : decode cX11_years 28 = .ok (.iload_n 1, 1) := by decide +kernel
theorem dX11_years_29 : decode cX11_years 29 = .ok (.putfield 396, 3) := by decide +kernel
theorem dX11_years_32 : decode cX11_years 32 = .ok (.iconst 0, 1) := by decide +kernel
theorem dX11_years_33 : decode cX11_years 33 = .ok (.istore_n 3, 1) := by decide +kernel
theorem dX11_years_34 : decode cX11_years 34 = .ok (.iload_n 3, 1) := by decide +kernel
theorem dX11_years_35 : decode cX11_years 35 = .ok (.iload_n 2, 1) := by decide +kernel
theorem dX11_years_36 : decode cX11_years 36 = .ok (.if_icmp .ge 13, 3) := by decide +kernel
theorem dX11_years_39 : decode cX11_years 39 = .ok (.aload_n 0, 1) := by decide +kernel
theorem dX11_years_40 : decode cX11_years 40 = .ok (.invokevirtual 399, 3) := by decide +kernel
theorem dX11_years_43 : decode cX11_years 43 = .ok (.iinc 3 1, 3) := by decide +kernel
theorem dX11_years_46 : decode cX11_years 46 = .ok (.goto (-12), 3) := by decide +kernel
theorem dX11_years_49 : decode cX11_years 49 = .ok (.aload_n 0, 1) := by decide +kernel
theorem dX11_years_50 : decode cX11_years 50 = .ok (.getfield 19, 3) := by decide +kernel
theorem dX11_years_53 : decode cX11_years 53 = .ok (.aload_n 0, 1) := by decide +kernel
theorem dX11_years_54 : decode cX11_years 54 = .ok (.getfield 30, 3) := by decide +kernel
theorem dX11_years_57 : decode cX11_years 57 = .ok (.invokevirtual 193, 3) := by decide +kernel
theorem dX11_years_60 : decode cX11_years 60 = .ok (.i2l, 1) := by decide +kernel
theorem dX11_years_61 : decode cX11_years 61 = .ok (.aload_n 0, 1) := by decide +kernel
theorem dX11_years_62 : decode cX11_years 62 = .ok (.getfield 30, 3) := by decide +kernel
theorem dX11_years_65 : decode cX11_years 65 = .ok (.getfield 217, 3) := by decide +kernel
theorem dX11_years_68 : decode cX11_years 68 = .ok (.aload_n 0, 1) := by decide +kernel
theorem dX11_years_69 : decode cX11_years 69 = .ok (.getfield 26, 3) := by decide +kernel
theorem dX11_years_72 : decode cX11_years 72 = .ok (.getfield 217, 3) := by decide +kernel
theorem dX11_years_75 : decode cX11_years 75 = .ok (.isub, 1) := by decide +kernel
theorem dX11_years_76 : decode cX11_years 76 = .ok (.i2l, 1) := by decide +kernel
theorem dX11_years_77 : decode cX11_years 77 = .ok (.invokevirtual 220, 3) := by decide +kernel
theorem dX11_years_80 : decode cX11_years 80 = .ok (.aload_n 0, 1) := by decide +kernel
theorem dX11_years_81 : decode cX11_years 81 = .ok (.getfield 30, 3) := by decide +kernel
theorem dX11_years_84 : decode cX11_years 84 = .ok (.invokevirtual 224, 3) := by decide +kernel
theorem dX11_years_87 : decode cX11_years 87 = .ok (.ireturn, 1) := by decide +kernel
def b_X11_years_34 (N : Nat) (p2 : Int32) (J49_4 : uS → Option (Int32 × uS)) (rec34_10 : uS → Int32 → Option (Int32 × uS)) (s8 : uS) (x9 : Int32) : Option (Int32 × uS) :=
  if p2 ≤ x9 then (J49_4 s8) else ((f_X11_passYear N s8).bind fun s11 =>
  u_jn (x9 + 1 : Int32) fun x12 =>
  rec34_10 s11 x12)
def f_X11_years (N : Nat) (σ : uS) (p1 : Int32) (p2 : Int32) : Option (Int32 × uS) := if p2 < 1 then (some ((-1), σ)) else (if p2 ≤ 60 then ((f_X7_copy N σ 38 32).bind fun s1 =>
  u_jn (u_pI s1 21 0 p1) fun s2 =>
  u_jn (fun (s3 : uS) => ((f_X7_beliefOfAll N s3 38).bind fun v5 =>
  (f_X8_two N s3 (Int32.toInt64 v5) (Int32.toInt64 ((s3.1 38 11) - (s3.1 32 11)))).bind fun s6 =>
  (f_X7_howManyIn N s6 38).bind fun v7 =>
  some (v7, s6) : Option (Int32 × uS))) fun J49_4 =>
  u_lp2 (b_X11_years_34 N p2 J49_4) N s2 0) else (some ((-1), σ)))
set_option maxRecDepth 100000 in
set_option maxHeartbeats 4000000 in
theorem c_X11_years (l : Launch) (G : uG) (N : Nat) (σ : uS) (p1 : Int32) (p2 : Int32) (z : (Int32 × uS)) (hz : f_X11_years N σ p1 p2 = some z) : u_Mi l ZC G yX11_years cX11_years 4 .int 6 [.ref (G.2.2 0), .int p1, .int p2] σ z.1 z.2 := by
  refine u_Mi_of RX11 (by decide) rfl (Nat.le_of_ble_eq_true rfl) ?_
  intro p e s m args below meth c ls cx hw hl
  have hx := cx.1
  have hb := cx.2.1
  have hl : lv_has ls 4 [(0, .ref (G.2.2 0)), (1, .int p1), (2, .int p2)] := hl
  unfold f_X11_years at hz
  refine lv_iload_n hx hb dX11_years_0 rfl (lv_at hl 2 rfl) ?_
  refine lv_iconst (v := 1) hx hb dX11_years_1 (by decide) ?_
  refine lv_icmp_lt (tgt := 11) hx hb dX11_years_2 (by decide) (fun hc => ?_) (fun hc => ?_)
  · replace hz := u_ift hz hc
    refine lv_iconst (v := (-1)) hx hb dX11_years_11 (by decide) ?_
    exact u_iret cx hw (u_pair hz) dX11_years_12
  · replace hz := u_iff hz hc
    refine lv_iload_n hx hb dX11_years_5 rfl (lv_at hl 2 rfl) ?_
    refine lv_bipush (v := 60) hx hb dX11_years_6 (by decide) ?_
    refine lv_icmp_le (tgt := 13) hx hb dX11_years_8 (by decide) (fun hc => ?_) (fun hc => ?_)
    · replace hz := u_ift hz hc
      refine lv_aload_n hx hb dX11_years_13 rfl (lv_at hl 0 rfl) ?_
      refine u_getp cx hw F_X11_30 o_X11 rfl dX11_years_14 ?_
      refine lv_aload_n hx hb dX11_years_17 rfl (lv_at hl 0 rfl) ?_
      refine u_getp cx hw F_X11_26 o_X11 rfl dX11_years_18 ?_
      obtain ⟨s1, hs1, hz⟩ := u_bind hz
      refine u_callVv (As := [.ref (G.2.2 32)]) (rest := []) cx hw LV_X11_206 (c_X7_copy l G N σ 38 oS_38 32 oS_32 s1 hs1) oS_38 rfl (by decide) hl.1 rfl (Nat.le_of_ble_eq_true rfl) dX11_years_21 rfl (fun H locs hw => ?_)
      refine lv_aload_n hx hb dX11_years_24 rfl (lv_at hl 0 rfl) ?_
      refine u_getp cx hw F_X11_82 o_X11 rfl dX11_years_25 ?_
      refine lv_iload_n hx hb dX11_years_28 rfl (lv_at hl 1 rfl) ?_
      obtain ⟨s2, es2, hz⟩ := u_let hz
      refine u_puti2 cx hw P_X11_396 o_X1 rfl es2 dX11_years_29 (fun H locs hw => ?_)
      refine lv_iconst (v := 0) hx hb dX11_years_32 (by decide) ?_
      refine lv_istore_n (lv' := [(3, .int 0), (0, .ref (G.2.2 0)), (1, .int p1), (2, .int p2)]) hx hb dX11_years_33 rfl hl (by decide) rfl (fun ls hl => ?_)
      obtain ⟨J49_4, eJ49_4, hz⟩ := u_let hz
      have WJ49_4 : ∀ (s3 : uS) (H : Heap) (locs : List Loc) (ls : Array Slot), J49_4 s3 = some z → u_W ZC G s3 s H locs → lv_has ls 4 [(0, .ref (G.2.2 0))] → W p l e (u_rm 6) s m args below meth c H locs 0 0 (u_Qi below ZC G s args z.1 z.2) (F0 m 49 ls []) := by
        intro s3 H locs ls hz hw hl
        rw [eJ49_4] at hz
        refine lv_aload_n hx hb dX11_years_49 rfl (lv_at hl 0 rfl) ?_
        refine u_getp cx hw F_X11_19 o_X11 rfl dX11_years_50 ?_
        refine lv_aload_n hx hb dX11_years_53 rfl (lv_at hl 0 rfl) ?_
        refine u_getp cx hw F_X11_30 o_X11 rfl dX11_years_54 ?_
        obtain ⟨v5, hv5, hz⟩ := u_bind hz
        refine u_callVi (As := []) (rest := [.ref (G.2.2 3)]) cx hw LV_X11_193 (c_X7_beliefOfAll l G N s3 38 oS_38 v5 hv5) oS_38 rfl (by decide) hl.1 rfl (Nat.le_of_ble_eq_true rfl) dX11_years_57 rfl (fun H locs hw => ?_)
        refine lv_i2l (v := (Int32.toInt64 v5)) hx hb dX11_years_60 rfl ?_
        refine lv_aload_n hx hb dX11_years_61 rfl (lv_at hl 0 rfl) ?_
        refine u_getp cx hw F_X11_30 o_X11 rfl dX11_years_62 ?_
        refine u_geti cx hw F_X11_217 oS_38 rfl dX11_years_65 ?_
        refine lv_aload_n hx hb dX11_years_68 rfl (lv_at hl 0 rfl) ?_
        refine u_getp cx hw F_X11_26 o_X11 rfl dX11_years_69 ?_
        refine u_geti cx hw F_X11_217 oS_32 rfl dX11_years_72 ?_
        refine lv_isub hx hb dX11_years_75 ?_
        refine lv_i2l (v := (Int32.toInt64 ((s3.1 38 11) - (s3.1 32 11)))) hx hb dX11_years_76 rfl ?_
        obtain ⟨s6, hs6, hz⟩ := u_bind hz
        refine u_callVv (As := [.long (Int32.toInt64 v5), .long (Int32.toInt64 ((s3.1 38 11) - (s3.1 32 11)))]) (rest := []) cx hw LV_X11_220 (c_X8_two l G N s3 (Int32.toInt64 v5) (Int32.toInt64 ((s3.1 38 11) - (s3.1 32 11))) s6 hs6) o_X8 rfl (by decide) hl.1 rfl (Nat.le_of_ble_eq_true rfl) dX11_years_77 rfl (fun H locs hw => ?_)
        refine lv_aload_n hx hb dX11_years_80 rfl (lv_at hl 0 rfl) ?_
        refine u_getp cx hw F_X11_30 o_X11 rfl dX11_years_81 ?_
        obtain ⟨v7, hv7, hz⟩ := u_bind hz
        refine u_callVi (As := []) (rest := []) cx hw LV_X11_224 (c_X7_howManyIn l G N s6 38 oS_38 v7 hv7) oS_38 rfl (by decide) hl.1 rfl (Nat.le_of_ble_eq_true rfl) dX11_years_84 rfl (fun H locs hw => ?_)
        exact u_iret cx hw (u_pair hz) dX11_years_87
      have WL34_12 : ∀ (k : Nat) (s8 : uS) (x9 : Int32) (H : Heap) (locs : List Loc) (ls : Array Slot), u_lp2 (b_X11_years_34 N p2 J49_4) k s8 x9 = some z → u_W ZC G s8 s H locs → lv_has ls 4 [(0, .ref (G.2.2 0)), (2, .int p2), (3, .int x9)] → W p l e (u_rm 6) s m args below meth c H locs 0 0 (u_Qi below ZC G s args z.1 z.2) (F0 m 34 ls []) := by
        intro k
        induction k with
        | zero =>
          intro s8 x9 H locs ls hz
          exact absurd hz (by intro h9; cases h9)
        | succ k ih34_10 =>
          intro s8 x9 H locs ls hz hw hl
          have hz : (b_X11_years_34 N p2 J49_4) (u_lp2 (b_X11_years_34 N p2 J49_4) k) s8 x9 = some z := hz
          unfold b_X11_years_34 at hz
          refine lv_iload_n hx hb dX11_years_34 rfl (lv_at hl 2 rfl) ?_
          refine lv_iload_n hx hb dX11_years_35 rfl (lv_at hl 1 rfl) ?_
          refine lv_icmp_ge (tgt := 49) hx hb dX11_years_36 (by decide) (fun hc => ?_) (fun hc => ?_)
          · replace hz := u_ift hz hc
            exact WJ49_4 s8 _ _ _ hz hw (lv_sub hl [0] rfl)
          · replace hz := u_iff hz hc
            refine lv_aload_n hx hb dX11_years_39 rfl (lv_at hl 0 rfl) ?_
            obtain ⟨s11, hs11, hz⟩ := u_bind hz
            refine u_callVv (As := []) (rest := []) cx hw LV_X11_399 (c_X11_passYear l G N s8 s11 hs11) o_X11 rfl (by decide) hl.1 rfl (Nat.le_of_ble_eq_true rfl) dX11_years_40 rfl (fun H locs hw => ?_)
            obtain ⟨x12, ex12, hz⟩ := u_let hz
            refine lv_iinc (v := x12) (lv' := [(3, .int x12), (0, .ref (G.2.2 0)), (2, .int p2)]) hx hb dX11_years_43 hl (k := 2) rfl (by rw [ex12]; rfl) (by decide) rfl (fun ls hl => ?_)
            refine lv_goto (tgt := 34) hx hb dX11_years_46 (by decide) ?_
            exact ih34_10 s11 x12 _ _ _ hz hw (lv_sub hl [1, 2, 0] rfl)
      exact WL34_12 N s2 0 _ _ _ hz hw (lv_sub hl [1, 3, 0] rfl)
    · replace hz := u_iff hz hc
      refine lv_iconst (v := (-1)) hx hb dX11_years_11 (by decide) ?_
      exact u_iret cx hw (u_pair hz) dX11_years_12
theorem dX12_held_0 : decode cX12_held 0 = .ok (.aload_n 0, 1) := by decide +kernel
theorem dX12_held_1 : decode cX12_held 1 = .ok (.iload_n 1, 1) := by decide +kernel
theorem dX12_held_2 : decode cX12_held 2 = .ok (.invokevirtual 161, 3) := by decide +kernel
theorem dX12_held_5 : decode cX12_held 5 = .ok (.istore_n 2, 1) := by decide +kernel
theorem dX12_held_6 : decode cX12_held 6 = .ok (.aload_n 0, 1) := by decide +kernel
theorem dX12_held_7 : decode cX12_held 7 = .ok (.bipush 60, 2) := by decide +kernel
theorem dX12_held_9 : decode cX12_held 9 = .ok (.invokevirtual 127, 3) := by decide +kernel
theorem dX12_held_12 : decode cX12_held 12 = .ok (.ifCond .eq 18, 3) := by decide +kernel
theorem dX12_held_15 : decode cX12_held 15 = .ok (.iload_n 2, 1) := by decide +kernel
theorem dX12_held_16 : decode cX12_held 16 = .ok (.aload_n 0, 1) := by decide +kernel
theorem dX12_held_17 : decode cX12_held 17 = .ok (.iload_n 1, 1) := by decide +kernel
theorem dX12_held_18 : decode cX12_held 18 = .ok (.invokevirtual 161, 3) := by decide +kernel
theorem dX12_held_21 : decode cX12_held 21 = .ok (.if_icmp .ge 7, 3) := by decide +kernel
theorem dX12_held_24 : decode cX12_held 24 = .ok (.iconst 1, 1) := by decide +kernel
theorem dX12_held_25 : decode cX12_held 25 = .ok (.goto 4, 3) := by decide +kernel
theorem dX12_held_28 : decode cX12_held 28 = .ok (.iconst 0, 1) := by decide +kernel
theorem dX12_held_29 : decode cX12_held 29 = .ok (.ireturn, 1) := by decide +kernel
theorem dX12_held_30 : decode cX12_held 30 = .ok (.aload_n 0, 1) := by decide +kernel
theorem dX12_held_31 : decode cX12_held 31 = .ok (.bipush 62, 2) := by decide +kernel
theorem dX12_held_33 : decode cX12_held 33 = .ok (.invokevirtual 127, 3) := by decide +kernel
theorem dX12_held_36 : decode cX12_held 36 = .ok (.ifCond .eq 18, 3) := by decide +kernel
theorem dX12_held_39 : decode cX12_held 39 = .ok (.iload_n 2, 1) := by decide +kernel
theorem dX12_held_40 : decode cX12_held 40 = .ok (.aload_n 0, 1) := by decide +kernel
theorem dX12_held_41 : decode cX12_held 41 = .ok (.iload_n 1, 1) := by decide +kernel
theorem dX12_held_42 : decode cX12_held 42 = .ok (.invokevirtual 161, 3) := by decide +kernel
theorem dX12_held_45 : decode cX12_held 45 = .ok (.if_icmp .le 7, 3) := by decide +kernel
theorem dX12_held_48 : decode cX12_held 48 = .ok (.iconst 1, 1) := by decide +kernel
theorem dX12_held_49 : decode cX12_held 49 = .ok (.goto 4, 3) := by decide +kernel
theorem dX12_held_52 : decode cX12_held 52 = .ok (.iconst 0, 1) := by decide +kernel
theorem dX12_held_53 : decode cX12_held 53 = .ok (.ireturn, 1) := by decide +kernel
theorem dX12_held_54 : decode cX12_held 54 = .ok (.aload_n 0, 1) := by decide +kernel
theorem dX12_held_55 : decode cX12_held 55 = .ok (.bipush 61, 2) := by decide +kernel
theorem dX12_held_57 : decode cX12_held 57 = .ok (.invokevirtual 127, 3) := by decide +kernel
theorem dX12_held_60 : decode cX12_held 60 = .ok (.ifCond .eq 18, 3) := by decide +kernel
theorem dX12_held_63 : decode cX12_held 63 = .ok (.iload_n 2, 1) := by decide +kernel
theorem dX12_held_64 : decode cX12_held 64 = .ok (.aload_n 0, 1) := by decide +kernel
theorem dX12_held_65 : decode cX12_held 65 = .ok (.iload_n 1, 1) := by decide +kernel
theorem dX12_held_66 : decode cX12_held 66 = .ok (.invokevirtual 161, 3) := by decide +kernel
theorem dX12_held_69 : decode cX12_held 69 = .ok (.if_icmp .ne 7, 3) := by decide +kernel
theorem dX12_held_72 : decode cX12_held 72 = .ok (.iconst 1, 1) := by decide +kernel
theorem dX12_held_73 : decode cX12_held 73 = .ok (.goto 4, 3) := by decide +kernel
theorem dX12_held_76 : decode cX12_held 76 = .ok (.iconst 0, 1) := by decide +kernel
theorem dX12_held_77 : decode cX12_held 77 = .ok (.ireturn, 1) := by decide +kernel
theorem dX12_held_78 : decode cX12_held 78 = .ok (.iload_n 2, 1) := by decide +kernel
theorem dX12_held_79 : decode cX12_held 79 = .ok (.ireturn, 1) := by decide +kernel
theorem dX12_sum_0 : decode cX12_sum 0 = .ok (.aload_n 0, 1) := by decide +kernel
theorem dX12_sum_1 : decode cX12_sum 1 = .ok (.iload_n 1, 1) := by decide +kernel
theorem dX12_sum_2 : decode cX12_sum 2 = .ok (.invokevirtual 165, 3) := by decide +kernel
theorem dX12_sum_5 : decode cX12_sum 5 = .ok (.istore_n 2, 1) := by decide +kernel
theorem dX12_sum_6 : decode cX12_sum 6 = .ok (.aload_n 0, 1) := by decide +kernel
theorem dX12_sum_7 : decode cX12_sum 7 = .ok (.invokevirtual 120, 3) := by decide +kernel
theorem dX12_sum_10 : decode cX12_sum 10 = .ok (.ifCond .eq 72, 3) := by decide +kernel
theorem dX12_sum_13 : decode cX12_sum 13 = .ok (.aload_n 0, 1) := by decide +kernel
theorem dX12_sum_14 : decode cX12_sum 14 = .ok (.invokevirtual 124, 3) := by decide +kernel
theorem dX12_sum_17 : decode cX12_sum 17 = .ok (.bipush 43, 2) := by decide +kernel
theorem dX12_sum_19 : decode cX12_sum 19 = .ok (.if_icmp .eq 12, 3) := by decide +kernel
theorem dX12_sum_22 : decode cX12_sum 22 = .ok (.aload_n 0, 1) := by decide +kernel
theorem dX12_sum_23 : decode cX12_sum 23 = .ok (.invokevirtual 124, 3) := by decide +kernel
theorem dX12_sum_26 : decode cX12_sum 26 = .ok (.bipush 45, 2) := by decide +kernel
theorem dX12_sum_28 : decode cX12_sum 28 = .ok (.if_icmp .ne 54, 3) := by decide +kernel
theorem dX12_sum_31 : decode cX12_sum 31 = .ok (.aload_n 0, 1) := by decide +kernel
theorem dX12_sum_32 : decode cX12_sum 32 = .ok (.invokevirtual 124, 3) := by decide +kernel
theorem dX12_sum_35 : decode cX12_sum 35 = .ok (.bipush 43, 2) := by decide +kernel
theorem dX12_sum_37 : decode cX12_sum 37 = .ok (.if_icmp .ne 7, 3) := by decide +kernel
theorem dX12_sum_40 : decode cX12_sum 40 = .ok (.iconst 1, 1) := by decide +kernel
theorem dX12_sum_41 : decode cX12_sum 41 = .ok (.goto 4, 3) := by decide +kernel
theorem dX12_sum_44 : decode cX12_sum 44 = .ok (.iconst 0, 1) := by decide +kernel
theorem dX12_sum_45 : decode cX12_sum 45 = .ok (.istore_n 3, 1) := by decide +kernel
theorem dX12_sum_46 : decode cX12_sum 46 = .ok (.aload_n 0, 1) := by decide +kernel
theorem dX12_sum_47 : decode cX12_sum 47 = .ok (.dup, 1) := by decide +kernel
theorem dX12_sum_48 : decode cX12_sum 48 = .ok (.getfield 110, 3) := by decide +kernel
theorem dX12_sum_51 : decode cX12_sum 51 = .ok (.iconst 1, 1) := by decide +kernel
theorem dX12_sum_52 : decode cX12_sum 52 = .ok (.iadd, 1) := by decide +kernel
theorem dX12_sum_53 : decode cX12_sum 53 = .ok (.putfield 110, 3) := by decide +kernel
theorem dX12_sum_56 : decode cX12_sum 56 = .ok (.aload_n 0, 1) := by decide +kernel
theorem dX12_sum_57 : decode cX12_sum 57 = .ok (.iload_n 1, 1) := by decide +kernel
theorem dX12_sum_58 : decode cX12_sum 58 = .ok (.invokevirtual 165, 3) := by decide +kernel
theorem dX12_sum_61 : decode cX12_sum 61 = .ok (.istore 4, 2) := by decide +kernel
theorem dX12_sum_63 : decode cX12_sum 63 = .ok (.iload_n 3, 1) := by decide +kernel
theorem dX12_sum_64 : decode cX12_sum 64 = .ok (.ifCond .eq 10, 3) := by decide +kernel
theorem dX12_sum_67 : decode cX12_sum 67 = .ok (.iload_n 2, 1) := by decide +kernel
theorem dX12_sum_68 : decode cX12_sum 68 = .ok (.iload 4, 2) := by decide +kernel
theorem dX12_sum_70 : decode cX12_sum 70 = .ok (.iadd, 1) := by decide +kernel
theorem dX12_sum_71 : decode cX12_sum 71 = .ok (.goto 7, 3) := by decide +kernel
theorem dX12_sum_74 : decode cX12_sum 74 = .ok (.iload_n 2, 1) := by decide +kernel
theorem dX12_sum_75 : decode cX12_sum 75 = .ok (.iload 4, 2) := by decide +kernel
theorem dX12_sum_77 : decode cX12_sum 77 = .ok (.isub, 1) := by decide +kernel
theorem dX12_sum_78 : decode cX12_sum 78 = .ok (.istore_n 2, 1) := by decide +kernel
theorem dX12_sum_79 : decode cX12_sum 79 = .ok (.goto (-73), 3) := by decide +kernel
theorem dX12_sum_82 : decode cX12_sum 82 = .ok (.iload_n 2, 1) := by decide +kernel
theorem dX12_sum_83 : decode cX12_sum 83 = .ok (.ireturn, 1) := by decide +kernel
theorem dX12_product_0 : decode cX12_product 0 = .ok (.aload_n 0, 1) := by decide +kernel
theorem dX12_product_1 : decode cX12_product 1 = .ok (.iload_n 1, 1) := by decide +kernel
theorem dX12_product_2 : decode cX12_product 2 = .ok (.invokevirtual 168, 3) := by decide +kernel
theorem dX12_product_5 : decode cX12_product 5 = .ok (.istore_n 2, 1) := by decide +kernel
theorem dX12_product_6 : decode cX12_product 6 = .ok (.aload_n 0, 1) := by decide +kernel
theorem dX12_product_7 : decode cX12_product 7 = .ok (.invokevirtual 120, 3) := by decide +kernel
theorem dX12_product_10 : decode cX12_product 10 = .ok (.ifCond .eq 81, 3) := by decide +kernel
theorem dX12_product_13 : decode cX12_product 13 = .ok (.aload_n 0, 1) := by decide +kernel
theorem dX12_product_14 : decode cX12_product 14 = .ok (.invokevirtual 124, 3) := by decide +kernel
theorem dX12_product_17 : decode cX12_product 17 = .ok (.bipush 42, 2) := by decide +kernel
theorem dX12_product_19 : decode cX12_product 19 = .ok (.if_icmp .eq 12, 3) := by decide +kernel
theorem dX12_product_22 : decode cX12_product 22 = .ok (.aload_n 0, 1) := by decide +kernel
theorem dX12_product_23 : decode cX12_product 23 = .ok (.invokevirtual 124, 3) := by decide +kernel
theorem dX12_product_26 : decode cX12_product 26 = .ok (.bipush 47, 2) := by decide +kernel
theorem dX12_product_28 : decode cX12_product 28 = .ok (.if_icmp .ne 63, 3) := by decide +kernel
theorem dX12_product_31 : decode cX12_product 31 = .ok (.aload_n 0, 1) := by decide +kernel
theorem dX12_product_32 : decode cX12_product 32 = .ok (.invokevirtual 124, 3) := by decide +kernel
theorem dX12_product_35 : decode cX12_product 35 = .ok (.bipush 42, 2) := by decide +kernel
theorem dX12_product_37 : decode cX12_product 37 = .ok (.if_icmp .ne 7, 3) := by decide +kernel
theorem dX12_product_40 : decode cX12_product 40 = .ok (.iconst 1, 1) := by decide +kernel
theorem dX12_product_41 : decode cX12_product 41 = .ok (.goto 4, 3) := by decide +kernel
theorem dX12_product_44 : decode cX12_product 44 = .ok (.iconst 0, 1) := by decide +kernel
theorem dX12_product_45 : decode cX12_product 45 = .ok (.istore_n 3, 1) := by decide +kernel
theorem dX12_product_46 : decode cX12_product 46 = .ok (.aload_n 0, 1) := by decide +kernel
theorem dX12_product_47 : decode cX12_product 47 = .ok (.dup, 1) := by decide +kernel
theorem dX12_product_48 : decode cX12_product 48 = .ok (.getfield 110, 3) := by decide +kernel
theorem dX12_product_51 : decode cX12_product 51 = .ok (.iconst 1, 1) := by decide +kernel
theorem dX12_product_52 : decode cX12_product 52 = .ok (.iadd, 1) := by decide +kernel
theorem dX12_product_53 : decode cX12_product 53 = .ok (.putfield 110, 3) := by decide +kernel
theorem dX12_product_56 : decode cX12_product 56 = .ok (.aload_n 0, 1) := by decide +kernel
theorem dX12_product_57 : decode cX12_product 57 = .ok (.iload_n 1, 1) := by decide +kernel
theorem dX12_product_58 : decode cX12_product 58 = .ok (.invokevirtual 168, 3) := by decide +kernel
theorem dX12_product_61 : decode cX12_product 61 = .ok (.istore 4, 2) := by decide +kernel
theorem dX12_product_63 : decode cX12_product 63 = .ok (.iload_n 3, 1) := by decide +kernel
theorem dX12_product_64 : decode cX12_product 64 = .ok (.ifCond .eq 10, 3) := by decide +kernel
theorem dX12_product_67 : decode cX12_product 67 = .ok (.iload_n 2, 1) := by decide +kernel
theorem dX12_product_68 : decode cX12_product 68 = .ok (.iload 4, 2) := by decide +kernel
theorem dX12_product_70 : decode cX12_product 70 = .ok (.imul, 1) := by decide +kernel
theorem dX12_product_71 : decode cX12_product 71 = .ok (.goto 16, 3) := by decide +kernel
theorem dX12_product_74 : decode cX12_product 74 = .ok (.iload 4, 2) := by decide +kernel
theorem dX12_product_76 : decode cX12_product 76 = .ok (.ifCond .ne 7, 3) := by decide +kernel
theorem dX12_product_79 : decode cX12_product 79 = .ok (.iconst 0, 1) := by decide +kernel
theorem dX12_product_80 : decode cX12_product 80 = .ok (.goto 7, 3) := by decide +kernel
theorem dX12_product_83 : decode cX12_product 83 = .ok (.iload_n 2, 1) := by decide +kernel
theorem dX12_product_84 : decode cX12_product 84 = .ok (.iload 4, 2) := by decide +kernel
theorem dX12_product_86 : decode cX12_product 86 = .ok (.idiv, 1) := by decide +kernel
theorem dX12_product_87 : decode cX12_product 87 = .ok (.istore_n 2, 1) := by decide +kernel
theorem dX12_product_88 : decode cX12_product 88 = .ok (.goto (-82), 3) := by decide +kernel
theorem dX12_product_91 : decode cX12_product 91 = .ok (.iload_n 2, 1) := by decide +kernel
theorem dX12_product_92 : decode cX12_product 92 = .ok (.ireturn, 1) := by decide +kernel
theorem dX12_thing_0 : decode cX12_thing 0 = .ok (.aload_n 0, 1) := by decide +kernel
theorem dX12_thing_1 : decode cX12_thing 1 = .ok (.bipush 45, 2) := by decide +kernel
theorem dX12_thing_3 : decode cX12_thing 3 = .ok (.invokevirtual 127, 3) := by decide +kernel
theorem dX12_thing_6 : decode cX12_thing 6 = .ok (.ifCond .eq 10, 3) := by decide +kernel
theorem dX12_thing_9 : decode cX12_thing 9 = .ok (.aload_n 0, 1) := by decide +kernel
theorem dX12_thing_10 : decode cX12_thing 10 = .ok (.iload_n 1, 1) := by decide +kernel
theorem dX12_thing_11 : decode cX12_thing 11 = .ok (.invokevirtual 168, 3) := by decide +kernel
theorem dX12_thing_14 : decode cX12_thing 14 = .ok (.ineg, 1) := by decide +kernel
theorem dX12_thing_15 : decode cX12_thing 15 = .ok (.ireturn, 1) := by decide +kernel
theorem dX12_thing_16 : decode cX12_thing 16 = .ok (.aload_n 0, 1) := by decide +kernel
theorem dX12_thing_17 : decode cX12_thing 17 = .ok (.invokevirtual 120, 3) := by decide +kernel
theorem dX12_thing_20 : decode cX12_thing 20 = .ok (.ifCond .ne 5, 3) := by decide +kernel
theorem dX12_thing_23 : decode cX12_thing 23 = .ok (.iconst 0, 1) := by decide +kernel
theorem dX12_thing_24 : decode cX12_thing 24 = .ok (.ireturn, 1) := by decide +kernel
theorem dX12_thing_25 : decode cX12_thing 25 = .ok (.aload_n 0, 1) := by decide +kernel
theorem dX12_thing_26 : decode cX12_thing 26 = .ok (.invokevirtual 124, 3) := by decide +kernel
theorem dX12_thing_29 : decode cX12_thing 29 = .ok (.istore_n 2, 1) := by decide +kernel
theorem dX12_thing_30 : decode cX12_thing 30 = .ok (.iload_n 2, 1) := by decide +kernel
theorem dX12_thing_31 : decode cX12_thing 31 = .ok (.bipush 40, 2) := by decide +kernel
theorem dX12_thing_33 : decode cX12_thing 33 = .ok (.if_icmp .ne 34, 3) := by decide +kernel
theorem dX12_thing_36 : decode cX12_thing 36 = .ok (.iload_n 1, 1) := by decide +kernel
theorem dX12_thing_37 : decode cX12_thing 37 = .ok (.iconst 4, 1) := by decide +kernel
theorem dX12_thing_38 : decode cX12_thing 38 = .ok (.if_icmp .ge 29, 3) := by decide +kernel
theorem dX12_thing_41 : decode cX12_thing 41 = .ok (.aload_n 0, 1) := by decide +kernel
theorem dX12_thing_42 : decode cX12_thing 42 = .ok (.dup, 1) := by decide +kernel
theorem dX12_thing_43 : decode cX12_thing 43 = .ok (.getfield 110, 3) := by decide +kernel
theorem dX12_thing_46 : decode cX12_thing 46 = .ok (.iconst 1, 1) := by decide +kernel
theorem dX12_thing_47 : decode cX12_thing 47 = .ok (.iadd, 1) := by decide +kernel
theorem dX12_thing_48 : decode cX12_thing 48 = .ok (.putfield 110, 3) := by decide +kernel
theorem dX12_thing_51 : decode cX12_thing 51 = .ok (.aload_n 0, 1) := by decide +kernel
theorem dX12_thing_52 : decode cX12_thing 52 = .ok (.iload_n 1, 1) := by decide +kernel
theorem dX12_thing_53 : decode cX12_thing 53 = .ok (.iconst 1, 1) := by decide +kernel
theorem dX12_thing_54 : decode cX12_thing 54 = .ok (.iadd, 1) := by decide +kernel
theorem dX12_thing_55 : decode cX12_thing 55 = .ok (.invokevirtual 171, 3) := by decide +kernel
theorem dX12_thing_58 : decode cX12_thing 58 = .ok (.istore_n 3, 1) := by decide +kernel
theorem dX12_thing_59 : decode cX12_thing 59 = .ok (.aload_n 0, 1) := by decide +kernel
theorem dX12_thing_60 : decode cX12_thing 60 = .ok (.bipush 41, 2) := by decide +kernel
theorem dX12_thing_62 : decode cX12_thing 62 = .ok (.invokevirtual 174, 3) := by decide +kernel
theorem dX12_thing_65 : decode cX12_thing 65 = .ok (.iload_n 3, 1) := by decide +kernel
theorem dX12_thing_66 : decode cX12_thing 66 = .ok (.ireturn, 1) := by decide +kernel
theorem dX12_thing_67 : decode cX12_thing 67 = .ok (.iload_n 2, 1) := by decide +kernel
theorem dX12_thing_68 : decode cX12_thing 68 = .ok (.bipush 48, 2) := by decide +kernel
theorem dX12_thing_70 : decode cX12_thing 70 = .ok (.bipush 57, 2) := by decide +kernel
theorem dX12_thing_72 : decode cX12_thing 72 = .ok (.invokestatic 86, 3) := by decide +kernel
theorem dX12_thing_75 : decode cX12_thing 75 = .ok (.ifCond .eq 9, 3) := by decide +kernel
theorem dX12_thing_78 : decode cX12_thing 78 = .ok (.aload_n 0, 1) := by decide +kernel
theorem dX12_thing_79 : decode cX12_thing 79 = .ok (.iconst 3, 1) := by decide +kernel
theorem dX12_thing_80 : decode cX12_thing 80 = .ok (.invokevirtual 178, 3) := by decide +kernel
theorem dX12_thing_83 : decode cX12_thing 83 = .ok (.ireturn, 1) := by decide +kernel
theorem dX12_thing_84 : decode cX12_thing 84 = .ok (.iload_n 2, 1) := by decide +kernel
theorem dX12_thing_85 : decode cX12_thing 85 = .ok (.invokestatic 181, 3) := by decide +kernel
theorem dX12_thing_88 : decode cX12_thing 88 = .ok (.iconst (-1), 1) := by decide +kernel
theorem dX12_thing_89 : decode cX12_thing 89 = .ok (.if_icmp .ne 13, 3) := by decide +kernel
theorem dX12_thing_92 : decode cX12_thing 92 = .ok (.aload_n 0, 1) := by decide +kernel
theorem dX12_thing_93 : decode cX12_thing 93 = .ok (.aload_n 0, 1) := by decide +kernel
theorem dX12_thing_94 : decode cX12_thing 94 = .ok (.getfield 110, 3) := by decide +kernel
theorem dX12_thing_97 : decode cX12_thing 97 = .ok (.invokevirtual 131, 3) := by decide +kernel
theorem dX12_thing_100 : decode cX12_thing 100 = .ok (.iconst 0, 1) := by decide +kernel
theorem dX12_thing_101 : decode cX12_thing 101 = .ok (.ireturn, 1) := by decide +kernel
theorem dX12_thing_102 : decode cX12_thing 102 = .ok (.aload_n 0, 1) := by decide +kernel
theorem dX12_thing_103 : decode cX12_thing 103 = .ok (.dup, 1) := by decide +kernel
theorem dX12_thing_104 : decode cX12_thing 104 = .ok (.getfield 110, 3) := by decide +kernel
theorem dX12_thing_107 : decode cX12_thing 107 = .ok (.iconst 1, 1) := by decide +kernel
theorem dX12_thing_108 : decode cX12_thing 108 = .ok (.iadd, 1) := by decide +kernel
theorem dX12_thing_109 : decode cX12_thing 109 = .ok (.putfield 110, 3) := by decide +kernel
theorem dX12_thing_112 : decode cX12_thing 112 = .ok (.aload_n 0, 1) := by decide +kernel
theorem dX12_thing_113 : decode cX12_thing 113 = .ok (.getfield 184, 3) := by decide +kernel
theorem dX12_thing_116 : decode cX12_thing 116 = .ok (.ifCond .eq 15, 3) := by decide +kernel
theorem dX12_thing_119 : decode cX12_thing 119 = .ok (.aload_n 0, 1) := by decide +kernel
theorem dX12_thing_120 : decode cX12_thing 120 = .ok (.getfield 37, 3) := by decide +kernel
theorem dX12_thing_123 : decode cX12_thing 123 = .ok (.iload_n 2, 1) := by decide +kernel
theorem dX12_thing_124 : decode cX12_thing 124 = .ok (.invokestatic 181, 3) := by decide +kernel
theorem dX12_thing_127 : decode cX12_thing 127 = .ok (.iaload, 1) := by decide +kernel
theorem dX12_thing_128 : decode cX12_thing 128 = .ok (.goto 4, 3) := by decide +kernel
theorem dX12_thing_131 : decode cX12_thing 131 = .ok (.iconst 0, 1) := by decide +kernel
theorem dX12_thing_132 : decode cX12_thing 132 = .ok (.ireturn, 1) := by decide +kernel
def g_X12_held (N : Nat) (rec : Nat → uS → Int32 → Option (Int32 × uS)) (σ : uS) (p1 : Int32) : Option (Int32 × uS) := (rec 1 σ p1).bind fun v1 =>
  (f_X12_passes N v1.2 60).bind fun v2 =>
  if v2.1 = 0 then ((f_X12_passes N v2.2 62).bind fun v3 =>
  if v3.1 = 0 then ((f_X12_passes N v3.2 61).bind fun v4 =>
  if v4.1 = 0 then (some (v1.1, v4.2)) else ((rec 1 v4.2 p1).bind fun v5 =>
  if v1.1 = v5.1 then (some (1, v5.2)) else (some (0, v5.2)))) else ((rec 1 v3.2 p1).bind fun v6 =>
  if v1.1 ≤ v6.1 then (some (0, v6.2)) else (some (1, v6.2)))) else ((rec 1 v2.2 p1).bind fun v7 =>
  if v7.1 ≤ v1.1 then (some (0, v7.2)) else (some (1, v7.2)))
def b_X12_sum_6 (N : Nat) (p1 : Int32) (rec : Nat → uS → Int32 → Option (Int32 × uS)) (J82_4 : uS → Int32 → Option (Int32 × uS)) (rec6_7 : uS → Int32 → Option (Int32 × uS)) (s5 : uS) (x6 : Int32) : Option (Int32 × uS) :=
  (f_X12_fine N s5).bind fun v8 =>
  if v8 = 0 then (J82_4 s5 x6) else ((f_X12_here N s5).bind fun v9 =>
  u_jn (((f_X12_here N s5).bind fun v11 =>
  u_jn (fun (t12 : Int32) => (u_jn (u_pI s5 0 12 ((s5.1 0 12) + 1)) fun s14 =>
  (rec 2 s14 p1).bind fun v15 =>
  u_jn (fun (t16 : Int32) => (rec6_7 v15.2 t16 : Option (Int32 × uS))) fun J78_17 =>
  if t12 = 0 then (J78_17 (x6 - v15.1)) else (J78_17 (x6 + v15.1)) : Option (Int32 × uS))) fun J45_13 =>
  if v11 = 43 then (J45_13 1) else (J45_13 0) : Option (Int32 × uS))) fun J31_10 =>
  if v9 = 43 then (J31_10) else ((f_X12_here N s5).bind fun v18 =>
  if v18 = 45 then (J31_10) else (J82_4 s5 x6)))
def g_X12_sum (N : Nat) (rec : Nat → uS → Int32 → Option (Int32 × uS)) (σ : uS) (p1 : Int32) : Option (Int32 × uS) := (rec 2 σ p1).bind fun v1 =>
  u_jn (fun (s2 : uS) (x3 : Int32) => (some (x3, s2) : Option (Int32 × uS))) fun J82_4 =>
  u_lp2 (b_X12_sum_6 N p1 rec J82_4) N v1.2 v1.1
def b_X12_product_6 (N : Nat) (p1 : Int32) (rec : Nat → uS → Int32 → Option (Int32 × uS)) (J91_4 : uS → Int32 → Option (Int32 × uS)) (rec6_7 : uS → Int32 → Option (Int32 × uS)) (s5 : uS) (x6 : Int32) : Option (Int32 × uS) :=
  (f_X12_fine N s5).bind fun v8 =>
  if v8 = 0 then (J91_4 s5 x6) else ((f_X12_here N s5).bind fun v9 =>
  u_jn (((f_X12_here N s5).bind fun v11 =>
  u_jn (fun (t12 : Int32) => (u_jn (u_pI s5 0 12 ((s5.1 0 12) + 1)) fun s14 =>
  (rec 3 s14 p1).bind fun v15 =>
  u_jn (fun (t16 : Int32) => (rec6_7 v15.2 t16 : Option (Int32 × uS))) fun J87_17 =>
  if t12 = 0 then (if v15.1 = 0 then (J87_17 0) else (u_ck (¬ (v15.1 : Int32) = 0) <|
  J87_17 (x6 / v15.1))) else (J87_17 (x6 * v15.1)) : Option (Int32 × uS))) fun J45_13 =>
  if v11 = 42 then (J45_13 1) else (J45_13 0) : Option (Int32 × uS))) fun J31_10 =>
  if v9 = 42 then (J31_10) else ((f_X12_here N s5).bind fun v18 =>
  if v18 = 47 then (J31_10) else (J91_4 s5 x6)))
def g_X12_product (N : Nat) (rec : Nat → uS → Int32 → Option (Int32 × uS)) (σ : uS) (p1 : Int32) : Option (Int32 × uS) := (rec 3 σ p1).bind fun v1 =>
  u_jn (fun (s2 : uS) (x3 : Int32) => (some (x3, s2) : Option (Int32 × uS))) fun J91_4 =>
  u_lp2 (b_X12_product_6 N p1 rec J91_4) N v1.2 v1.1
def g_X12_thing (N : Nat) (rec : Nat → uS → Int32 → Option (Int32 × uS)) (σ : uS) (p1 : Int32) : Option (Int32 × uS) := (f_X12_passes N σ 45).bind fun v1 =>
  if v1.1 = 0 then ((f_X12_fine N v1.2).bind fun v2 =>
  if v2 = 0 then (some (0, v1.2)) else ((f_X12_here N v1.2).bind fun v3 =>
  u_jn (((f_X12_in N v1.2 v3 48 57).bind fun v5 =>
  if v5 = 0 then ((f_X12_letterOf N v1.2 v3).bind fun v6 =>
  if v6 = (-1) then ((f_X12_fault N v1.2 (v1.2.1 0 12)).bind fun s10 =>
  some (0, s10)) else (u_jn (u_pI v1.2 0 12 ((v1.2.1 0 12) + 1)) fun s7 =>
  if (s7.1 0 18) = 0 then (some (0, s7)) else ((f_X12_letterOf N s7 v3).bind fun v8 =>
  (u_rI ZM s7 0 8 v8).bind fun v9 =>
  some (v9, s7)))) else ((f_X12_number N v1.2 3).bind fun v11 =>
  some (v11.1, v11.2)) : Option (Int32 × uS))) fun J67_4 =>
  if v3 = 40 then (if 4 ≤ p1 then (J67_4) else (u_jn (u_pI v1.2 0 12 ((v1.2.1 0 12) + 1)) fun s12 =>
  (rec 0 s12 (p1 + 1)).bind fun v13 =>
  (f_X12_need N v13.2 41).bind fun s14 =>
  some (v13.1, s14))) else (J67_4))) else ((rec 3 v1.2 p1).bind fun v15 =>
  some ((-v15.1), v15.2))
def b_X12_expr (N : Nat) (rec : Nat → uS → Int32 → Option (Int32 × uS)) (w : Nat) (σ : uS) (p1 : Int32) : Option (Int32 × uS) := if w = 0 then g_X12_held N rec σ p1 else if w = 1 then g_X12_sum N rec σ p1 else if w = 2 then g_X12_product N rec σ p1 else g_X12_thing N rec σ p1
def P_X12_expr (l : Launch) (G : uG) (N kd : Nat) : Prop := (∀ (σ : uS) (p1 : Int32) (z : Int32 × uS), u_lp3 (b_X12_expr N) kd 0 σ p1 = some z → u_Mi l ZM G yX12_held cX12_held 3 .int (kd + 4) [.ref (G.2.2 0), .int p1] σ z.1 z.2) ∧ (∀ (σ : uS) (p1 : Int32) (z : Int32 × uS), u_lp3 (b_X12_expr N) kd 1 σ p1 = some z → u_Mi l ZM G yX12_sum cX12_sum 5 .int (kd + 4) [.ref (G.2.2 0), .int p1] σ z.1 z.2) ∧ (∀ (σ : uS) (p1 : Int32) (z : Int32 × uS), u_lp3 (b_X12_expr N) kd 2 σ p1 = some z → u_Mi l ZM G yX12_product cX12_product 5 .int (kd + 4) [.ref (G.2.2 0), .int p1] σ z.1 z.2) ∧ (∀ (σ : uS) (p1 : Int32) (z : Int32 × uS), u_lp3 (b_X12_expr N) kd 3 σ p1 = some z → u_Mi l ZM G yX12_thing cX12_thing 4 .int (kd + 4) [.ref (G.2.2 0), .int p1] σ z.1 z.2)
set_option maxRecDepth 100000 in
set_option maxHeartbeats 4000000 in
theorem c_X12_held_s (l : Launch) (G : uG) (N kd : Nat) (ih : P_X12_expr l G N kd) (σ : uS) (p1 : Int32) (z : Int32 × uS) (hz : g_X12_held N (u_lp3 (b_X12_expr N) kd) σ p1 = some z) : u_Mi l ZM G yX12_held cX12_held 3 .int (kd + 1 + 4) [.ref (G.2.2 0), .int p1] σ z.1 z.2 := by
  refine u_Mi_of RX12 (by decide) rfl (Nat.le_of_ble_eq_true rfl) ?_
  intro p e s m args below meth c ls cx hw hl
  have hx := cx.1
  have hb := cx.2.1
  have hl : lv_has ls 3 [(0, .ref (G.2.2 0)), (1, .int p1)] := hl
  unfold g_X12_held at hz
  refine lv_aload_n hx hb dX12_held_0 rfl (lv_at hl 0 rfl) ?_
  refine lv_iload_n hx hb dX12_held_1 rfl (lv_at hl 1 rfl) ?_
  obtain ⟨v1, hv1, hz⟩ := u_bind hz
  refine u_callVi (As := [.int p1]) (rest := []) cx hw LV_X12_161 (ih.2.1 σ p1 v1 hv1) o_X12 rfl (by omega) hl.1 rfl (Nat.le_of_ble_eq_true rfl) dX12_held_2 rfl (fun H locs hw => ?_)
  refine lv_istore_n (lv' := [(2, .int v1.1), (0, .ref (G.2.2 0)), (1, .int p1)]) hx hb dX12_held_5 rfl hl (by decide) rfl (fun ls hl => ?_)
  refine lv_aload_n hx hb dX12_held_6 rfl (lv_at hl 1 rfl) ?_
  refine lv_bipush (v := 60) hx hb dX12_held_7 (by decide) ?_
  obtain ⟨v2, hv2, hz⟩ := u_bind hz
  refine u_callVi (As := [.int 60]) (rest := []) cx hw LV_X12_127 (c_X12_passes l G N v1.2 60 v2 hv2) o_X12 rfl (by omega) hl.1 rfl (Nat.le_of_ble_eq_true rfl) dX12_held_9 rfl (fun H locs hw => ?_)
  refine lv_if_eq (tgt := 30) hx hb dX12_held_12 (by decide) (fun hc => ?_) (fun hc => ?_)
  · replace hz := u_ift hz hc
    refine lv_aload_n hx hb dX12_held_30 rfl (lv_at hl 1 rfl) ?_
    refine lv_bipush (v := 62) hx hb dX12_held_31 (by decide) ?_
    obtain ⟨v3, hv3, hz⟩ := u_bind hz
    refine u_callVi (As := [.int 62]) (rest := []) cx hw LV_X12_127 (c_X12_passes l G N v2.2 62 v3 hv3) o_X12 rfl (by omega) hl.1 rfl (Nat.le_of_ble_eq_true rfl) dX12_held_33 rfl (fun H locs hw => ?_)
    refine lv_if_eq (tgt := 54) hx hb dX12_held_36 (by decide) (fun hc => ?_) (fun hc => ?_)
    · replace hz := u_ift hz hc
      refine lv_aload_n hx hb dX12_held_54 rfl (lv_at hl 1 rfl) ?_
      refine lv_bipush (v := 61) hx hb dX12_held_55 (by decide) ?_
      obtain ⟨v4, hv4, hz⟩ := u_bind hz
      refine u_callVi (As := [.int 61]) (rest := []) cx hw LV_X12_127 (c_X12_passes l G N v3.2 61 v4 hv4) o_X12 rfl (by omega) hl.1 rfl (Nat.le_of_ble_eq_true rfl) dX12_held_57 rfl (fun H locs hw => ?_)
      refine lv_if_eq (tgt := 78) hx hb dX12_held_60 (by decide) (fun hc => ?_) (fun hc => ?_)
      · replace hz := u_ift hz hc
        refine lv_iload_n hx hb dX12_held_78 rfl (lv_at hl 0 rfl) ?_
        exact u_iret cx hw (u_pair hz) dX12_held_79
      · replace hz := u_iff hz hc
        refine lv_iload_n hx hb dX12_held_63 rfl (lv_at hl 0 rfl) ?_
        refine lv_aload_n hx hb dX12_held_64 rfl (lv_at hl 1 rfl) ?_
        refine lv_iload_n hx hb dX12_held_65 rfl (lv_at hl 2 rfl) ?_
        obtain ⟨v5, hv5, hz⟩ := u_bind hz
        refine u_callVi (As := [.int p1]) (rest := [.int v1.1]) cx hw LV_X12_161 (ih.2.1 v4.2 p1 v5 hv5) o_X12 rfl (by omega) hl.1 rfl (Nat.le_of_ble_eq_true rfl) dX12_held_66 rfl (fun H locs hw => ?_)
        refine lv_icmp_ne (tgt := 76) hx hb dX12_held_69 (by decide) (fun hc => ?_) (fun hc => ?_)
        · replace hz := u_iff hz hc
          refine lv_iconst (v := 0) hx hb dX12_held_76 (by decide) ?_
          exact u_iret cx hw (u_pair hz) dX12_held_77
        · replace hz := u_ift hz hc
          refine lv_iconst (v := 1) hx hb dX12_held_72 (by decide) ?_
          refine lv_goto (tgt := 77) hx hb dX12_held_73 (by decide) ?_
          exact u_iret cx hw (u_pair hz) dX12_held_77
    · replace hz := u_iff hz hc
      refine lv_iload_n hx hb dX12_held_39 rfl (lv_at hl 0 rfl) ?_
      refine lv_aload_n hx hb dX12_held_40 rfl (lv_at hl 1 rfl) ?_
      refine lv_iload_n hx hb dX12_held_41 rfl (lv_at hl 2 rfl) ?_
      obtain ⟨v6, hv6, hz⟩ := u_bind hz
      refine u_callVi (As := [.int p1]) (rest := [.int v1.1]) cx hw LV_X12_161 (ih.2.1 v3.2 p1 v6 hv6) o_X12 rfl (by omega) hl.1 rfl (Nat.le_of_ble_eq_true rfl) dX12_held_42 rfl (fun H locs hw => ?_)
      refine lv_icmp_le (tgt := 52) hx hb dX12_held_45 (by decide) (fun hc => ?_) (fun hc => ?_)
      · replace hz := u_ift hz hc
        refine lv_iconst (v := 0) hx hb dX12_held_52 (by decide) ?_
        exact u_iret cx hw (u_pair hz) dX12_held_53
      · replace hz := u_iff hz hc
        refine lv_iconst (v := 1) hx hb dX12_held_48 (by decide) ?_
        refine lv_goto (tgt := 53) hx hb dX12_held_49 (by decide) ?_
        exact u_iret cx hw (u_pair hz) dX12_held_53
  · replace hz := u_iff hz hc
    refine lv_iload_n hx hb dX12_held_15 rfl (lv_at hl 0 rfl) ?_
    refine lv_aload_n hx hb dX12_held_16 rfl (lv_at hl 1 rfl) ?_
    refine lv_iload_n hx hb dX12_held_17 rfl (lv_at hl 2 rfl) ?_
    obtain ⟨v7, hv7, hz⟩ := u_bind hz
    refine u_callVi (As := [.int p1]) (rest := [.int v1.1]) cx hw LV_X12_161 (ih.2.1 v2.2 p1 v7 hv7) o_X12 rfl (by omega) hl.1 rfl (Nat.le_of_ble_eq_true rfl) dX12_held_18 rfl (fun H locs hw => ?_)
    refine lv_icmp_ge (tgt := 28) hx hb dX12_held_21 (by decide) (fun hc => ?_) (fun hc => ?_)
    · replace hz := u_ift hz hc
      refine lv_iconst (v := 0) hx hb dX12_held_28 (by decide) ?_
      exact u_iret cx hw (u_pair hz) dX12_held_29
    · replace hz := u_iff hz hc
      refine lv_iconst (v := 1) hx hb dX12_held_24 (by decide) ?_
      refine lv_goto (tgt := 29) hx hb dX12_held_25 (by decide) ?_
      exact u_iret cx hw (u_pair hz) dX12_held_29
set_option maxRecDepth 100000 in
set_option maxHeartbeats 4000000 in
theorem c_X12_sum_s (l : Launch) (G : uG) (N kd : Nat) (ih : P_X12_expr l G N kd) (σ : uS) (p1 : Int32) (z : Int32 × uS) (hz : g_X12_sum N (u_lp3 (b_X12_expr N) kd) σ p1 = some z) : u_Mi l ZM G yX12_sum cX12_sum 5 .int (kd + 1 + 4) [.ref (G.2.2 0), .int p1] σ z.1 z.2 := by
  refine u_Mi_of RX12 (by decide) rfl (Nat.le_of_ble_eq_true rfl) ?_
  intro p e s m args below meth c ls cx hw hl
  have hx := cx.1
  have hb := cx.2.1
  have hl : lv_has ls 5 [(0, .ref (G.2.2 0)), (1, .int p1)] := hl
  unfold g_X12_sum at hz
  refine lv_aload_n hx hb dX12_sum_0 rfl (lv_at hl 0 rfl) ?_
  refine lv_iload_n hx hb dX12_sum_1 rfl (lv_at hl 1 rfl) ?_
  obtain ⟨v1, hv1, hz⟩ := u_bind hz
  refine u_callVi (As := [.int p1]) (rest := []) cx hw LV_X12_165 (ih.2.2.1 σ p1 v1 hv1) o_X12 rfl (by omega) hl.1 rfl (Nat.le_of_ble_eq_true rfl) dX12_sum_2 rfl (fun H locs hw => ?_)
  refine lv_istore_n (lv' := [(2, .int v1.1), (0, .ref (G.2.2 0)), (1, .int p1)]) hx hb dX12_sum_5 rfl hl (by decide) rfl (fun ls hl => ?_)
  obtain ⟨J82_4, eJ82_4, hz⟩ := u_let hz
  have WJ82_4 : ∀ (s2 : uS) (x3 : Int32) (H : Heap) (locs : List Loc) (ls : Array Slot), J82_4 s2 x3 = some z → u_W ZM G s2 s H locs → lv_has ls 5 [(2, .int x3)] → W p l e (u_rm (kd + 1 + 4)) s m args below meth c H locs 0 0 (u_Qi below ZM G s args z.1 z.2) (F0 m 82 ls []) := by
    intro s2 x3 H locs ls hz hw hl
    rw [eJ82_4] at hz
    refine lv_iload_n hx hb dX12_sum_82 rfl (lv_at hl 0 rfl) ?_
    exact u_iret cx hw (u_pair hz) dX12_sum_83
  have WL6_18 : ∀ (k : Nat) (s5 : uS) (x6 : Int32) (H : Heap) (locs : List Loc) (ls : Array Slot), u_lp2 (b_X12_sum_6 N p1 (u_lp3 (b_X12_expr N) kd) J82_4) k s5 x6 = some z → u_W ZM G s5 s H locs → lv_has ls 5 [(0, .ref (G.2.2 0)), (1, .int p1), (2, .int x6)] → W p l e (u_rm (kd + 1 + 4)) s m args below meth c H locs 0 0 (u_Qi below ZM G s args z.1 z.2) (F0 m 6 ls []) := by
    intro k
    induction k with
    | zero =>
      intro s5 x6 H locs ls hz
      exact absurd hz (by intro h9; cases h9)
    | succ k ih6_7 =>
      intro s5 x6 H locs ls hz hw hl
      have hz : (b_X12_sum_6 N p1 (u_lp3 (b_X12_expr N) kd) J82_4) (u_lp2 (b_X12_sum_6 N p1 (u_lp3 (b_X12_expr N) kd) J82_4) k) s5 x6 = some z := hz
      unfold b_X12_sum_6 at hz
      refine lv_aload_n hx hb dX12_sum_6 rfl (lv_at hl 0 rfl) ?_
      obtain ⟨v8, hv8, hz⟩ := u_bind hz
      refine u_callVi (As := []) (rest := []) cx hw LV_X12_120 (c_X12_fine l G N s5 v8 hv8) o_X12 rfl (by omega) hl.1 rfl (Nat.le_of_ble_eq_true rfl) dX12_sum_7 rfl (fun H locs hw => ?_)
      refine lv_if_eq (tgt := 82) hx hb dX12_sum_10 (by decide) (fun hc => ?_) (fun hc => ?_)
      · replace hz := u_ift hz hc
        exact WJ82_4 s5 x6 _ _ _ hz hw (lv_sub hl [2] rfl)
      · replace hz := u_iff hz hc
        refine lv_aload_n hx hb dX12_sum_13 rfl (lv_at hl 0 rfl) ?_
        obtain ⟨v9, hv9, hz⟩ := u_bind hz
        refine u_callVi (As := []) (rest := []) cx hw LV_X12_124 (c_X12_here l G N s5 v9 hv9) o_X12 rfl (by omega) hl.1 rfl (Nat.le_of_ble_eq_true rfl) dX12_sum_14 rfl (fun H locs hw => ?_)
        refine lv_bipush (v := 43) hx hb dX12_sum_17 (by decide) ?_
        obtain ⟨J31_10, eJ31_10, hz⟩ := u_let hz
        have WJ31_10 : ∀ (H : Heap) (locs : List Loc) (ls : Array Slot), J31_10 = some z → u_W ZM G s5 s H locs → lv_has ls 5 [(0, .ref (G.2.2 0)), (1, .int p1), (2, .int x6)] → W p l e (u_rm (kd + 1 + 4)) s m args below meth c H locs 0 0 (u_Qi below ZM G s args z.1 z.2) (F0 m 31 ls []) := by
          intro H locs ls hz hw hl
          rw [eJ31_10] at hz
          refine lv_aload_n hx hb dX12_sum_31 rfl (lv_at hl 0 rfl) ?_
          obtain ⟨v11, hv11, hz⟩ := u_bind hz
          refine u_callVi (As := []) (rest := []) cx hw LV_X12_124 (c_X12_here l G N s5 v11 hv11) o_X12 rfl (by omega) hl.1 rfl (Nat.le_of_ble_eq_true rfl) dX12_sum_32 rfl (fun H locs hw => ?_)
          refine lv_bipush (v := 43) hx hb dX12_sum_35 (by decide) ?_
          obtain ⟨J45_13, eJ45_13, hz⟩ := u_let hz
          have WJ45_13 : ∀ (t12 : Int32) (H : Heap) (locs : List Loc) (ls : Array Slot), J45_13 t12 = some z → u_W ZM G s5 s H locs → lv_has ls 5 [(0, .ref (G.2.2 0)), (1, .int p1), (2, .int x6)] → W p l e (u_rm (kd + 1 + 4)) s m args below meth c H locs 0 0 (u_Qi below ZM G s args z.1 z.2) (F0 m 45 ls [.int t12]) := by
            intro t12 H locs ls hz hw hl
            rw [eJ45_13] at hz
            refine lv_istore_n (lv' := [(3, .int t12), (0, .ref (G.2.2 0)), (1, .int p1), (2, .int x6)]) hx hb dX12_sum_45 rfl hl (by decide) rfl (fun ls hl => ?_)
            refine lv_aload_n hx hb dX12_sum_46 rfl (lv_at hl 1 rfl) ?_
            refine lv_dup hx hb dX12_sum_47 rfl ?_
            refine u_geti cx hw F_X12_110 o_X12 rfl dX12_sum_48 ?_
            refine lv_iconst (v := 1) hx hb dX12_sum_51 (by decide) ?_
            refine lv_iadd hx hb dX12_sum_52 ?_
            obtain ⟨s14, es14, hz⟩ := u_let hz
            refine u_puti2 cx hw P_X12_110 o_X12 rfl es14 dX12_sum_53 (fun H locs hw => ?_)
            refine lv_aload_n hx hb dX12_sum_56 rfl (lv_at hl 1 rfl) ?_
            refine lv_iload_n hx hb dX12_sum_57 rfl (lv_at hl 2 rfl) ?_
            obtain ⟨v15, hv15, hz⟩ := u_bind hz
            refine u_callVi (As := [.int p1]) (rest := []) cx hw LV_X12_165 (ih.2.2.1 s14 p1 v15 hv15) o_X12 rfl (by omega) hl.1 rfl (Nat.le_of_ble_eq_true rfl) dX12_sum_58 rfl (fun H locs hw => ?_)
            refine lv_istore (lv' := [(4, .int v15.1), (3, .int t12), (0, .ref (G.2.2 0)), (1, .int p1), (2, .int x6)]) hx hb dX12_sum_61 hl (by decide) rfl (fun ls hl => ?_)
            refine lv_iload_n hx hb dX12_sum_63 rfl (lv_at hl 1 rfl) ?_
            obtain ⟨J78_17, eJ78_17, hz⟩ := u_let hz
            have WJ78_17 : ∀ (t16 : Int32) (H : Heap) (locs : List Loc) (ls : Array Slot), J78_17 t16 = some z → u_W ZM G v15.2 s H locs → lv_has ls 5 [(0, .ref (G.2.2 0)), (1, .int p1)] → W p l e (u_rm (kd + 1 + 4)) s m args below meth c H locs 0 0 (u_Qi below ZM G s args z.1 z.2) (F0 m 78 ls [.int t16]) := by
              intro t16 H locs ls hz hw hl
              rw [eJ78_17] at hz
              refine lv_istore_n (lv' := [(2, .int t16), (0, .ref (G.2.2 0)), (1, .int p1)]) hx hb dX12_sum_78 rfl hl (by decide) rfl (fun ls hl => ?_)
              refine lv_goto (tgt := 6) hx hb dX12_sum_79 (by decide) ?_
              exact ih6_7 v15.2 t16 _ _ _ hz hw (lv_sub hl [1, 2, 0] rfl)
            refine lv_if_eq (tgt := 74) hx hb dX12_sum_64 (by decide) (fun hc => ?_) (fun hc => ?_)
            · replace hz := u_ift hz hc
              refine lv_iload_n hx hb dX12_sum_74 rfl (lv_at hl 4 rfl) ?_
              refine lv_iload hx hb dX12_sum_75 (lv_at hl 0 rfl) ?_
              refine lv_isub hx hb dX12_sum_77 ?_
              exact WJ78_17 (x6 - v15.1) _ _ _ hz hw (lv_sub hl [2, 3] rfl)
            · replace hz := u_iff hz hc
              refine lv_iload_n hx hb dX12_sum_67 rfl (lv_at hl 4 rfl) ?_
              refine lv_iload hx hb dX12_sum_68 (lv_at hl 0 rfl) ?_
              refine lv_iadd hx hb dX12_sum_70 ?_
              refine lv_goto (tgt := 78) hx hb dX12_sum_71 (by decide) ?_
              exact WJ78_17 (x6 + v15.1) _ _ _ hz hw (lv_sub hl [2, 3] rfl)
          refine lv_icmp_ne (tgt := 44) hx hb dX12_sum_37 (by decide) (fun hc => ?_) (fun hc => ?_)
          · replace hz := u_iff hz hc
            refine lv_iconst (v := 0) hx hb dX12_sum_44 (by decide) ?_
            exact WJ45_13 0 _ _ _ hz hw (lv_sub hl [0, 1, 2] rfl)
          · replace hz := u_ift hz hc
            refine lv_iconst (v := 1) hx hb dX12_sum_40 (by decide) ?_
            refine lv_goto (tgt := 45) hx hb dX12_sum_41 (by decide) ?_
            exact WJ45_13 1 _ _ _ hz hw (lv_sub hl [0, 1, 2] rfl)
        refine lv_icmp_eq (tgt := 31) hx hb dX12_sum_19 (by decide) (fun hc => ?_) (fun hc => ?_)
        · replace hz := u_ift hz hc
          exact WJ31_10 _ _ _ hz hw (lv_sub hl [0, 1, 2] rfl)
        · replace hz := u_iff hz hc
          refine lv_aload_n hx hb dX12_sum_22 rfl (lv_at hl 0 rfl) ?_
          obtain ⟨v18, hv18, hz⟩ := u_bind hz
          refine u_callVi (As := []) (rest := []) cx hw LV_X12_124 (c_X12_here l G N s5 v18 hv18) o_X12 rfl (by omega) hl.1 rfl (Nat.le_of_ble_eq_true rfl) dX12_sum_23 rfl (fun H locs hw => ?_)
          refine lv_bipush (v := 45) hx hb dX12_sum_26 (by decide) ?_
          refine lv_icmp_ne (tgt := 82) hx hb dX12_sum_28 (by decide) (fun hc => ?_) (fun hc => ?_)
          · replace hz := u_iff hz hc
            exact WJ82_4 s5 x6 _ _ _ hz hw (lv_sub hl [2] rfl)
          · replace hz := u_ift hz hc
            exact WJ31_10 _ _ _ hz hw (lv_sub hl [0, 1, 2] rfl)
  exact WL6_18 N v1.2 v1.1 _ _ _ hz hw (lv_sub hl [1, 2, 0] rfl)
set_option maxRecDepth 100000 in
set_option maxHeartbeats 4000000 in
theorem c_X12_product_s (l : Launch) (G : uG) (N kd : Nat) (ih : P_X12_expr l G N kd) (σ : uS) (p1 : Int32) (z : Int32 × uS) (hz : g_X12_product N (u_lp3 (b_X12_expr N) kd) σ p1 = some z) : u_Mi l ZM G yX12_product cX12_product 5 .int (kd + 1 + 4) [.ref (G.2.2 0), .int p1] σ z.1 z.2 := by
  refine u_Mi_of RX12 (by decide) rfl (Nat.le_of_ble_eq_true rfl) ?_
  intro p e s m args below meth c ls cx hw hl
  have hx := cx.1
  have hb := cx.2.1
  have hl : lv_has ls 5 [(0, .ref (G.2.2 0)), (1, .int p1)] := hl
  unfold g_X12_product at hz
  refine lv_aload_n hx hb dX12_product_0 rfl (lv_at hl 0 rfl) ?_
  refine lv_iload_n hx hb dX12_product_1 rfl (lv_at hl 1 rfl) ?_
  obtain ⟨v1, hv1, hz⟩ := u_bind hz
  refine u_callVi (As := [.int p1]) (rest := []) cx hw LV_X12_168 (ih.2.2.2 σ p1 v1 hv1) o_X12 rfl (by omega) hl.1 rfl (Nat.le_of_ble_eq_true rfl) dX12_product_2 rfl (fun H locs hw => ?_)
  refine lv_istore_n (lv' := [(2, .int v1.1), (0, .ref (G.2.2 0)), (1, .int p1)]) hx hb dX12_product_5 rfl hl (by decide) rfl (fun ls hl => ?_)
  obtain ⟨J91_4, eJ91_4, hz⟩ := u_let hz
  have WJ91_4 : ∀ (s2 : uS) (x3 : Int32) (H : Heap) (locs : List Loc) (ls : Array Slot), J91_4 s2 x3 = some z → u_W ZM G s2 s H locs → lv_has ls 5 [(2, .int x3)] → W p l e (u_rm (kd + 1 + 4)) s m args below meth c H locs 0 0 (u_Qi below ZM G s args z.1 z.2) (F0 m 91 ls []) := by
    intro s2 x3 H locs ls hz hw hl
    rw [eJ91_4] at hz
    refine lv_iload_n hx hb dX12_product_91 rfl (lv_at hl 0 rfl) ?_
    exact u_iret cx hw (u_pair hz) dX12_product_92
  have WL6_18 : ∀ (k : Nat) (s5 : uS) (x6 : Int32) (H : Heap) (locs : List Loc) (ls : Array Slot), u_lp2 (b_X12_product_6 N p1 (u_lp3 (b_X12_expr N) kd) J91_4) k s5 x6 = some z → u_W ZM G s5 s H locs → lv_has ls 5 [(0, .ref (G.2.2 0)), (1, .int p1), (2, .int x6)] → W p l e (u_rm (kd + 1 + 4)) s m args below meth c H locs 0 0 (u_Qi below ZM G s args z.1 z.2) (F0 m 6 ls []) := by
    intro k
    induction k with
    | zero =>
      intro s5 x6 H locs ls hz
      exact absurd hz (by intro h9; cases h9)
    | succ k ih6_7 =>
      intro s5 x6 H locs ls hz hw hl
      have hz : (b_X12_product_6 N p1 (u_lp3 (b_X12_expr N) kd) J91_4) (u_lp2 (b_X12_product_6 N p1 (u_lp3 (b_X12_expr N) kd) J91_4) k) s5 x6 = some z := hz
      unfold b_X12_product_6 at hz
      refine lv_aload_n hx hb dX12_product_6 rfl (lv_at hl 0 rfl) ?_
      obtain ⟨v8, hv8, hz⟩ := u_bind hz
      refine u_callVi (As := []) (rest := []) cx hw LV_X12_120 (c_X12_fine l G N s5 v8 hv8) o_X12 rfl (by omega) hl.1 rfl (Nat.le_of_ble_eq_true rfl) dX12_product_7 rfl (fun H locs hw => ?_)
      refine lv_if_eq (tgt := 91) hx hb dX12_product_10 (by decide) (fun hc => ?_) (fun hc => ?_)
      · replace hz := u_ift hz hc
        exact WJ91_4 s5 x6 _ _ _ hz hw (lv_sub hl [2] rfl)
      · replace hz := u_iff hz hc
        refine lv_aload_n hx hb dX12_product_13 rfl (lv_at hl 0 rfl) ?_
        obtain ⟨v9, hv9, hz⟩ := u_bind hz
        refine u_callVi (As := []) (rest := []) cx hw LV_X12_124 (c_X12_here l G N s5 v9 hv9) o_X12 rfl (by omega) hl.1 rfl (Nat.le_of_ble_eq_true rfl) dX12_product_14 rfl (fun H locs hw => ?_)
        refine lv_bipush (v := 42) hx hb dX12_product_17 (by decide) ?_
        obtain ⟨J31_10, eJ31_10, hz⟩ := u_let hz
        have WJ31_10 : ∀ (H : Heap) (locs : List Loc) (ls : Array Slot), J31_10 = some z → u_W ZM G s5 s H locs → lv_has ls 5 [(0, .ref (G.2.2 0)), (1, .int p1), (2, .int x6)] → W p l e (u_rm (kd + 1 + 4)) s m args below meth c H locs 0 0 (u_Qi below ZM G s args z.1 z.2) (F0 m 31 ls []) := by
          intro H locs ls hz hw hl
          rw [eJ31_10] at hz
          refine lv_aload_n hx hb dX12_product_31 rfl (lv_at hl 0 rfl) ?_
          obtain ⟨v11, hv11, hz⟩ := u_bind hz
          refine u_callVi (As := []) (rest := []) cx hw LV_X12_124 (c_X12_here l G N s5 v11 hv11) o_X12 rfl (by omega) hl.1 rfl (Nat.le_of_ble_eq_true rfl) dX12_product_32 rfl (fun H locs hw => ?_)
          refine lv_bipush (v := 42) hx hb dX12_product_35 (by decide) ?_
          obtain ⟨J45_13, eJ45_13, hz⟩ := u_let hz
          have WJ45_13 : ∀ (t12 : Int32) (H : Heap) (locs : List Loc) (ls : Array Slot), J45_13 t12 = some z → u_W ZM G s5 s H locs → lv_has ls 5 [(0, .ref (G.2.2 0)), (1, .int p1), (2, .int x6)] → W p l e (u_rm (kd + 1 + 4)) s m args below meth c H locs 0 0 (u_Qi below ZM G s args z.1 z.2) (F0 m 45 ls [.int t12]) := by
            intro t12 H locs ls hz hw hl
            rw [eJ45_13] at hz
            refine lv_istore_n (lv' := [(3, .int t12), (0, .ref (G.2.2 0)), (1, .int p1), (2, .int x6)]) hx hb dX12_product_45 rfl hl (by decide) rfl (fun ls hl => ?_)
            refine lv_aload_n hx hb dX12_product_46 rfl (lv_at hl 1 rfl) ?_
            refine lv_dup hx hb dX12_product_47 rfl ?_
            refine u_geti cx hw F_X12_110 o_X12 rfl dX12_product_48 ?_
            refine lv_iconst (v := 1) hx hb dX12_product_51 (by decide) ?_
            refine lv_iadd hx hb dX12_product_52 ?_
            obtain ⟨s14, es14, hz⟩ := u_let hz
            refine u_puti2 cx hw P_X12_110 o_X12 rfl es14 dX12_product_53 (fun H locs hw => ?_)
            refine lv_aload_n hx hb dX12_product_56 rfl (lv_at hl 1 rfl) ?_
            refine lv_iload_n hx hb dX12_product_57 rfl (lv_at hl 2 rfl) ?_
            obtain ⟨v15, hv15, hz⟩ := u_bind hz
            refine u_callVi (As := [.int p1]) (rest := []) cx hw LV_X12_168 (ih.2.2.2 s14 p1 v15 hv15) o_X12 rfl (by omega) hl.1 rfl (Nat.le_of_ble_eq_true rfl) dX12_product_58 rfl (fun H locs hw => ?_)
            refine lv_istore (lv' := [(4, .int v15.1), (3, .int t12), (0, .ref (G.2.2 0)), (1, .int p1), (2, .int x6)]) hx hb dX12_product_61 hl (by decide) rfl (fun ls hl => ?_)
            refine lv_iload_n hx hb dX12_product_63 rfl (lv_at hl 1 rfl) ?_
            obtain ⟨J87_17, eJ87_17, hz⟩ := u_let hz
            have WJ87_17 : ∀ (t16 : Int32) (H : Heap) (locs : List Loc) (ls : Array Slot), J87_17 t16 = some z → u_W ZM G v15.2 s H locs → lv_has ls 5 [(0, .ref (G.2.2 0)), (1, .int p1)] → W p l e (u_rm (kd + 1 + 4)) s m args below meth c H locs 0 0 (u_Qi below ZM G s args z.1 z.2) (F0 m 87 ls [.int t16]) := by
              intro t16 H locs ls hz hw hl
              rw [eJ87_17] at hz
              refine lv_istore_n (lv' := [(2, .int t16), (0, .ref (G.2.2 0)), (1, .int p1)]) hx hb dX12_product_87 rfl hl (by decide) rfl (fun ls hl => ?_)
              refine lv_goto (tgt := 6) hx hb dX12_product_88 (by decide) ?_
              exact ih6_7 v15.2 t16 _ _ _ hz hw (lv_sub hl [1, 2, 0] rfl)
            refine lv_if_eq (tgt := 74) hx hb dX12_product_64 (by decide) (fun hc => ?_) (fun hc => ?_)
            · replace hz := u_ift hz hc
              refine lv_iload hx hb dX12_product_74 (lv_at hl 0 rfl) ?_
              refine lv_if_ne (tgt := 83) hx hb dX12_product_76 (by decide) (fun hc => ?_) (fun hc => ?_)
              · replace hz := u_iff hz hc
                refine lv_iload_n hx hb dX12_product_83 rfl (lv_at hl 4 rfl) ?_
                refine lv_iload hx hb dX12_product_84 (lv_at hl 0 rfl) ?_
                obtain ⟨hne, hz⟩ := u_ck_some hz
                refine lv_idiv hx hb dX12_product_86 hne ?_
                exact WJ87_17 (x6 / v15.1) _ _ _ hz hw (lv_sub hl [2, 3] rfl)
              · replace hz := u_ift hz hc
                refine lv_iconst (v := 0) hx hb dX12_product_79 (by decide) ?_
                refine lv_goto (tgt := 87) hx hb dX12_product_80 (by decide) ?_
                exact WJ87_17 0 _ _ _ hz hw (lv_sub hl [2, 3] rfl)
            · replace hz := u_iff hz hc
              refine lv_iload_n hx hb dX12_product_67 rfl (lv_at hl 4 rfl) ?_
              refine lv_iload hx hb dX12_product_68 (lv_at hl 0 rfl) ?_
              refine lv_imul hx hb dX12_product_70 ?_
              refine lv_goto (tgt := 87) hx hb dX12_product_71 (by decide) ?_
              exact WJ87_17 (x6 * v15.1) _ _ _ hz hw (lv_sub hl [2, 3] rfl)
          refine lv_icmp_ne (tgt := 44) hx hb dX12_product_37 (by decide) (fun hc => ?_) (fun hc => ?_)
          · replace hz := u_iff hz hc
            refine lv_iconst (v := 0) hx hb dX12_product_44 (by decide) ?_
            exact WJ45_13 0 _ _ _ hz hw (lv_sub hl [0, 1, 2] rfl)
          · replace hz := u_ift hz hc
            refine lv_iconst (v := 1) hx hb dX12_product_40 (by decide) ?_
            refine lv_goto (tgt := 45) hx hb dX12_product_41 (by decide) ?_
            exact WJ45_13 1 _ _ _ hz hw (lv_sub hl [0, 1, 2] rfl)
        refine lv_icmp_eq (tgt := 31) hx hb dX12_product_19 (by decide) (fun hc => ?_) (fun hc => ?_)
        · replace hz := u_ift hz hc
          exact WJ31_10 _ _ _ hz hw (lv_sub hl [0, 1, 2] rfl)
        · replace hz := u_iff hz hc
          refine lv_aload_n hx hb dX12_product_22 rfl (lv_at hl 0 rfl) ?_
          obtain ⟨v18, hv18, hz⟩ := u_bind hz
          refine u_callVi (As := []) (rest := []) cx hw LV_X12_124 (c_X12_here l G N s5 v18 hv18) o_X12 rfl (by omega) hl.1 rfl (Nat.le_of_ble_eq_true rfl) dX12_product_23 rfl (fun H locs hw => ?_)
          refine lv_bipush (v := 47) hx hb dX12_product_26 (by decide) ?_
          refine lv_icmp_ne (tgt := 91) hx hb dX12_product_28 (by decide) (fun hc => ?_) (fun hc => ?_)
          · replace hz := u_iff hz hc
            exact WJ91_4 s5 x6 _ _ _ hz hw (lv_sub hl [2] rfl)
          · replace hz := u_ift hz hc
            exact WJ31_10 _ _ _ hz hw (lv_sub hl [0, 1, 2] rfl)
  exact WL6_18 N v1.2 v1.1 _ _ _ hz hw (lv_sub hl [1, 2, 0] rfl)
set_option maxRecDepth 100000 in
set_option maxHeartbeats 4000000 in
theorem c_X12_thing_s (l : Launch) (G : uG) (N kd : Nat) (ih : P_X12_expr l G N kd) (σ : uS) (p1 : Int32) (z : Int32 × uS) (hz : g_X12_thing N (u_lp3 (b_X12_expr N) kd) σ p1 = some z) : u_Mi l ZM G yX12_thing cX12_thing 4 .int (kd + 1 + 4) [.ref (G.2.2 0), .int p1] σ z.1 z.2 := by
  refine u_Mi_of RX12 (by decide) rfl (Nat.le_of_ble_eq_true rfl) ?_
  intro p e s m args below meth c ls cx hw hl
  have hx := cx.1
  have hb := cx.2.1
  have hl : lv_has ls 4 [(0, .ref (G.2.2 0)), (1, .int p1)] := hl
  unfold g_X12_thing at hz
  refine lv_aload_n hx hb dX12_thing_0 rfl (lv_at hl 0 rfl) ?_
  refine lv_bipush (v := 45) hx hb dX12_thing_1 (by decide) ?_
  obtain ⟨v1, hv1, hz⟩ := u_bind hz
  refine u_callVi (As := [.int 45]) (rest := []) cx hw LV_X12_127 (c_X12_passes l G N σ 45 v1 hv1) o_X12 rfl (by omega) hl.1 rfl (Nat.le_of_ble_eq_true rfl) dX12_thing_3 rfl (fun H locs hw => ?_)
  refine lv_if_eq (tgt := 16) hx hb dX12_thing_6 (by decide) (fun hc => ?_) (fun hc => ?_)
  · replace hz := u_ift hz hc
    refine lv_aload_n hx hb dX12_thing_16 rfl (lv_at hl 0 rfl) ?_
    obtain ⟨v2, hv2, hz⟩ := u_bind hz
    refine u_callVi (As := []) (rest := []) cx hw LV_X12_120 (c_X12_fine l G N v1.2 v2 hv2) o_X12 rfl (by omega) hl.1 rfl (Nat.le_of_ble_eq_true rfl) dX12_thing_17 rfl (fun H locs hw => ?_)
    refine lv_if_ne (tgt := 25) hx hb dX12_thing_20 (by decide) (fun hc => ?_) (fun hc => ?_)
    · replace hz := u_iff hz hc
      refine lv_aload_n hx hb dX12_thing_25 rfl (lv_at hl 0 rfl) ?_
      obtain ⟨v3, hv3, hz⟩ := u_bind hz
      refine u_callVi (As := []) (rest := []) cx hw LV_X12_124 (c_X12_here l G N v1.2 v3 hv3) o_X12 rfl (by omega) hl.1 rfl (Nat.le_of_ble_eq_true rfl) dX12_thing_26 rfl (fun H locs hw => ?_)
      refine lv_istore_n (lv' := [(2, .int v3), (0, .ref (G.2.2 0)), (1, .int p1)]) hx hb dX12_thing_29 rfl hl (by decide) rfl (fun ls hl => ?_)
      refine lv_iload_n hx hb dX12_thing_30 rfl (lv_at hl 0 rfl) ?_
      refine lv_bipush (v := 40) hx hb dX12_thing_31 (by decide) ?_
      obtain ⟨J67_4, eJ67_4, hz⟩ := u_let hz
      have WJ67_4 : ∀ (H : Heap) (locs : List Loc) (ls : Array Slot), J67_4 = some z → u_W ZM G v1.2 s H locs → lv_has ls 4 [(0, .ref (G.2.2 0)), (2, .int v3)] → W p l e (u_rm (kd + 1 + 4)) s m args below meth c H locs 0 0 (u_Qi below ZM G s args z.1 z.2) (F0 m 67 ls []) := by
        intro H locs ls hz hw hl
        rw [eJ67_4] at hz
        refine lv_iload_n hx hb dX12_thing_67 rfl (lv_at hl 1 rfl) ?_
        refine lv_bipush (v := 48) hx hb dX12_thing_68 (by decide) ?_
        refine lv_bipush (v := 57) hx hb dX12_thing_70 (by decide) ?_
        obtain ⟨v5, hv5, hz⟩ := u_bind hz
        refine u_callSi (As := [.int v3, .int 48, .int 57]) (rest := []) cx hw LS_X12_86 (c_X12_in l G N v1.2 v3 48 57 v5 hv5) (by omega) hl.1 rfl (Nat.le_of_ble_eq_true rfl) dX12_thing_72 rfl (fun H locs hw => ?_)
        refine lv_if_eq (tgt := 84) hx hb dX12_thing_75 (by decide) (fun hc => ?_) (fun hc => ?_)
        · replace hz := u_ift hz hc
          refine lv_iload_n hx hb dX12_thing_84 rfl (lv_at hl 1 rfl) ?_
          obtain ⟨v6, hv6, hz⟩ := u_bind hz
          refine u_callSi (As := [.int v3]) (rest := []) cx hw LS_X12_181 (c_X12_letterOf l G N v1.2 v3 v6 hv6) (by omega) hl.1 rfl (Nat.le_of_ble_eq_true rfl) dX12_thing_85 rfl (fun H locs hw => ?_)
          refine lv_iconst (v := (-1)) hx hb dX12_thing_88 (by decide) ?_
          refine lv_icmp_ne (tgt := 102) hx hb dX12_thing_89 (by decide) (fun hc => ?_) (fun hc => ?_)
          · replace hz := u_iff hz hc
            refine lv_aload_n hx hb dX12_thing_102 rfl (lv_at hl 0 rfl) ?_
            refine lv_dup hx hb dX12_thing_103 rfl ?_
            refine u_geti cx hw F_X12_110 o_X12 rfl dX12_thing_104 ?_
            refine lv_iconst (v := 1) hx hb dX12_thing_107 (by decide) ?_
            refine lv_iadd hx hb dX12_thing_108 ?_
            obtain ⟨s7, es7, hz⟩ := u_let hz
            refine u_puti2 cx hw P_X12_110 o_X12 rfl es7 dX12_thing_109 (fun H locs hw => ?_)
            refine lv_aload_n hx hb dX12_thing_112 rfl (lv_at hl 0 rfl) ?_
            refine u_geti cx hw F_X12_184 o_X12 rfl dX12_thing_113 ?_
            refine lv_if_eq (tgt := 131) hx hb dX12_thing_116 (by decide) (fun hc => ?_) (fun hc => ?_)
            · replace hz := u_ift hz hc
              refine lv_iconst (v := 0) hx hb dX12_thing_131 (by decide) ?_
              exact u_iret cx hw (u_pair hz) dX12_thing_132
            · replace hz := u_iff hz hc
              refine lv_aload_n hx hb dX12_thing_119 rfl (lv_at hl 0 rfl) ?_
              refine u_getp cx hw F_X12_37 o_X12 rfl dX12_thing_120 ?_
              refine lv_iload_n hx hb dX12_thing_123 rfl (lv_at hl 1 rfl) ?_
              obtain ⟨v8, hv8, hz⟩ := u_bind hz
              refine u_callSi (As := [.int v3]) (rest := [.ref (G.2.2 8)]) cx hw LS_X12_181 (c_X12_letterOf l G N s7 v3 v8 hv8) (by omega) hl.1 rfl (Nat.le_of_ble_eq_true rfl) dX12_thing_124 rfl (fun H locs hw => ?_)
              obtain ⟨v9, hv9, hz⟩ := u_bind hz
              refine u_iald cx hw hv9 dX12_thing_127 ?_
              refine lv_goto (tgt := 132) hx hb dX12_thing_128 (by decide) ?_
              exact u_iret cx hw (u_pair hz) dX12_thing_132
          · replace hz := u_ift hz hc
            refine lv_aload_n hx hb dX12_thing_92 rfl (lv_at hl 0 rfl) ?_
            refine lv_aload_n hx hb dX12_thing_93 rfl (lv_at hl 0 rfl) ?_
            refine u_geti cx hw F_X12_110 o_X12 rfl dX12_thing_94 ?_
            obtain ⟨s10, hs10, hz⟩ := u_bind hz
            refine u_callVv (As := [.int (v1.2.1 0 12)]) (rest := []) cx hw LV_X12_131 (c_X12_fault l G N v1.2 (v1.2.1 0 12) s10 hs10) o_X12 rfl (by omega) hl.1 rfl (Nat.le_of_ble_eq_true rfl) dX12_thing_97 rfl (fun H locs hw => ?_)
            refine lv_iconst (v := 0) hx hb dX12_thing_100 (by decide) ?_
            exact u_iret cx hw (u_pair hz) dX12_thing_101
        · replace hz := u_iff hz hc
          refine lv_aload_n hx hb dX12_thing_78 rfl (lv_at hl 0 rfl) ?_
          refine lv_iconst (v := 3) hx hb dX12_thing_79 (by decide) ?_
          obtain ⟨v11, hv11, hz⟩ := u_bind hz
          refine u_callVi (As := [.int 3]) (rest := []) cx hw LV_X12_178 (c_X12_number l G N v1.2 3 v11 hv11) o_X12 rfl (by omega) hl.1 rfl (Nat.le_of_ble_eq_true rfl) dX12_thing_80 rfl (fun H locs hw => ?_)
          exact u_iret cx hw (u_pair hz) dX12_thing_83
      refine lv_icmp_ne (tgt := 67) hx hb dX12_thing_33 (by decide) (fun hc => ?_) (fun hc => ?_)
      · replace hz := u_iff hz hc
        exact WJ67_4 _ _ _ hz hw (lv_sub hl [1, 0] rfl)
      · replace hz := u_ift hz hc
        refine lv_iload_n hx hb dX12_thing_36 rfl (lv_at hl 2 rfl) ?_
        refine lv_iconst (v := 4) hx hb dX12_thing_37 (by decide) ?_
        refine lv_icmp_ge (tgt := 67) hx hb dX12_thing_38 (by decide) (fun hc => ?_) (fun hc => ?_)
        · replace hz := u_ift hz hc
          exact WJ67_4 _ _ _ hz hw (lv_sub hl [1, 0] rfl)
        · replace hz := u_iff hz hc
          refine lv_aload_n hx hb dX12_thing_41 rfl (lv_at hl 1 rfl) ?_
          refine lv_dup hx hb dX12_thing_42 rfl ?_
          refine u_geti cx hw F_X12_110 o_X12 rfl dX12_thing_43 ?_
          refine lv_iconst (v := 1) hx hb dX12_thing_46 (by decide) ?_
          refine lv_iadd hx hb dX12_thing_47 ?_
          obtain ⟨s12, es12, hz⟩ := u_let hz
          refine u_puti2 cx hw P_X12_110 o_X12 rfl es12 dX12_thing_48 (fun H locs hw => ?_)
          refine lv_aload_n hx hb dX12_thing_51 rfl (lv_at hl 1 rfl) ?_
          refine lv_iload_n hx hb dX12_thing_52 rfl (lv_at hl 2 rfl) ?_
          refine lv_iconst (v := 1) hx hb dX12_thing_53 (by decide) ?_
          refine lv_iadd hx hb dX12_thing_54 ?_
          obtain ⟨v13, hv13, hz⟩ := u_bind hz
          refine u_callVi (As := [.int (p1 + 1)]) (rest := []) cx hw LV_X12_171 (ih.1 s12 (p1 + 1) v13 hv13) o_X12 rfl (by omega) hl.1 rfl (Nat.le_of_ble_eq_true rfl) dX12_thing_55 rfl (fun H locs hw => ?_)
          refine lv_istore_n (lv' := [(3, .int v13.1), (2, .int v3), (0, .ref (G.2.2 0)), (1, .int p1)]) hx hb dX12_thing_58 rfl hl (by decide) rfl (fun ls hl => ?_)
          refine lv_aload_n hx hb dX12_thing_59 rfl (lv_at hl 2 rfl) ?_
          refine lv_bipush (v := 41) hx hb dX12_thing_60 (by decide) ?_
          obtain ⟨s14, hs14, hz⟩ := u_bind hz
          refine u_callVv (As := [.int 41]) (rest := []) cx hw LV_X12_174 (c_X12_need l G N v13.2 41 s14 hs14) o_X12 rfl (by omega) hl.1 rfl (Nat.le_of_ble_eq_true rfl) dX12_thing_62 rfl (fun H locs hw => ?_)
          refine lv_iload_n hx hb dX12_thing_65 rfl (lv_at hl 0 rfl) ?_
          exact u_iret cx hw (u_pair hz) dX12_thing_66
    · replace hz := u_ift hz hc
      refine lv_iconst (v := 0) hx hb dX12_thing_23 (by decide) ?_
      exact u_iret cx hw (u_pair hz) dX12_thing_24
  · replace hz := u_iff hz hc
    refine lv_aload_n hx hb dX12_thing_9 rfl (lv_at hl 0 rfl) ?_
    refine lv_iload_n hx hb dX12_thing_10 rfl (lv_at hl 1 rfl) ?_
    obtain ⟨v15, hv15, hz⟩ := u_bind hz
    refine u_callVi (As := [.int p1]) (rest := []) cx hw LV_X12_168 (ih.2.2.2 v1.2 p1 v15 hv15) o_X12 rfl (by omega) hl.1 rfl (Nat.le_of_ble_eq_true rfl) dX12_thing_11 rfl (fun H locs hw => ?_)
    refine lv_ineg hx hb dX12_thing_14 ?_
    exact u_iret cx hw (u_pair hz) dX12_thing_15
theorem c_X12_expr (l : Launch) (G : uG) (N : Nat) : ∀ kd, P_X12_expr l G N kd := by
  intro kd
  induction kd with
  | zero => exact ⟨fun σ p1 z h => absurd h (by intro h9; cases h9), fun σ p1 z h => absurd h (by intro h9; cases h9), fun σ p1 z h => absurd h (by intro h9; cases h9), fun σ p1 z h => absurd h (by intro h9; cases h9)⟩
  | succ kd ih => exact ⟨fun σ p1 z h => c_X12_held_s l G N kd ih σ p1 z h, fun σ p1 z h => c_X12_sum_s l G N kd ih σ p1 z h, fun σ p1 z h => c_X12_product_s l G N kd ih σ p1 z h, fun σ p1 z h => c_X12_thing_s l G N kd ih σ p1 z h⟩
def f_X12_held (N : Nat) (σ : uS) (p1 : Int32) : Option (Int32 × uS) := u_lp3 (b_X12_expr N) 100 0 σ p1
theorem c_X12_held (l : Launch) (G : uG) (N : Nat) (σ : uS) (p1 : Int32) (z : Int32 × uS) (hz : f_X12_held N σ p1 = some z) : u_Mi l ZM G yX12_held cX12_held 3 .int 104 [.ref (G.2.2 0), .int p1] σ z.1 z.2 := (c_X12_expr l G N 100).1 σ p1 z hz
def f_X12_sum (N : Nat) (σ : uS) (p1 : Int32) : Option (Int32 × uS) := u_lp3 (b_X12_expr N) 100 1 σ p1
theorem c_X12_sum (l : Launch) (G : uG) (N : Nat) (σ : uS) (p1 : Int32) (z : Int32 × uS) (hz : f_X12_sum N σ p1 = some z) : u_Mi l ZM G yX12_sum cX12_sum 5 .int 104 [.ref (G.2.2 0), .int p1] σ z.1 z.2 := (c_X12_expr l G N 100).2.1 σ p1 z hz
def f_X12_product (N : Nat) (σ : uS) (p1 : Int32) : Option (Int32 × uS) := u_lp3 (b_X12_expr N) 100 2 σ p1
theorem c_X12_product (l : Launch) (G : uG) (N : Nat) (σ : uS) (p1 : Int32) (z : Int32 × uS) (hz : f_X12_product N σ p1 = some z) : u_Mi l ZM G yX12_product cX12_product 5 .int 104 [.ref (G.2.2 0), .int p1] σ z.1 z.2 := (c_X12_expr l G N 100).2.2.1 σ p1 z hz
def f_X12_thing (N : Nat) (σ : uS) (p1 : Int32) : Option (Int32 × uS) := u_lp3 (b_X12_expr N) 100 3 σ p1
theorem c_X12_thing (l : Launch) (G : uG) (N : Nat) (σ : uS) (p1 : Int32) (z : Int32 × uS) (hz : f_X12_thing N σ p1 = some z) : u_Mi l ZM G yX12_thing cX12_thing 4 .int 104 [.ref (G.2.2 0), .int p1] σ z.1 z.2 := (c_X12_expr l G N 100).2.2.2 σ p1 z hz
theorem dX12_common_0 : decode cX12_common 0 = .ok (.lload_n 2, 1) := by decide +kernel
theorem dX12_common_1 : decode cX12_common 1 = .ok (.lconst 0, 1) := by decide +kernel
theorem dX12_common_2 : decode cX12_common 2 = .ok (.lcmp, 1) := by decide +kernel
theorem dX12_common_3 : decode cX12_common 3 = .ok (.ifCond .ne 7, 3) := by decide +kernel
theorem dX12_common_6 : decode cX12_common 6 = .ok (.lload_n 0, 1) := by decide +kernel
theorem dX12_common_7 : decode cX12_common 7 = .ok (.goto 10, 3) := by decide +kernel
theorem dX12_common_10 : decode cX12_common 10 = .ok (.lload_n 2, 1) := by decide +kernel
theorem dX12_common_11 : decode cX12_common 11 = .ok (.lload_n 0, 1) := by decide +kernel
theorem dX12_common_12 : decode cX12_common 12 = .ok (.lload_n 2, 1) := by decide +kernel
theorem dX12_common_13 : decode cX12_common 13 = .ok (.lrem, 1) := by decide +kernel
theorem dX12_common_14 : decode cX12_common 14 = .ok (.invokestatic 302, 3) := by decide +kernel
theorem dX12_common_17 : decode cX12_common 17 = .ok (.lreturn, 1) := by decide +kernel
def b_X12_common (rec : Int64 → Int64 → Option Int64) (p0 : Int64) (p2 : Int64) : Option Int64 := if (lg_cmp p2 0) = 0 then (some p0) else (u_ck (¬ (p2 : Int64) = 0) <|
  (rec p2 (p0 - p0 / p2 * p2)).bind fun v1 =>
  some v1)
set_option maxRecDepth 100000 in
set_option maxHeartbeats 4000000 in
theorem c_X12_common_s (l : Launch) (G : uG) (σ : uS) : ∀ (kd : Nat) (p0 p2 z : Int64), u_lp2 b_X12_common kd p0 p2 = some z → u_Ml l ZM G yX12_common cX12_common 4 kd [.long p0, .long p2] σ z σ := by
  intro kd
  induction kd with
  | zero => exact fun p0 p2 z h => absurd h (by intro h9; cases h9)
  | succ kd ih =>
    intro p0 p2 z hz
    have hz : b_X12_common (u_lp2 b_X12_common kd) p0 p2 = some z := hz
    refine u_Ml_of RX12 (by decide) rfl (Nat.le_of_ble_eq_true rfl) ?_
    intro p e s m args below meth c ls cx hw hl
    have hx := cx.1
    have hb := cx.2.1
    have hl : lv_has ls 4 [(0, .long p0), (2, .long p2)] := hl
    unfold b_X12_common at hz
    refine lv_lload_n hx hb dX12_common_0 rfl (lv_at hl 1 rfl) ?_
    refine lv_lconst (v := 0) hx hb dX12_common_1 (by decide) ?_
    refine W.lcmp hx hb dX12_common_2 ?_
    refine lv_if_ne (tgt := 10) hx hb dX12_common_3 (by decide) (fun hc => ?_) (fun hc => ?_)
    · replace hz := u_iff hz hc
      refine lv_lload_n hx hb dX12_common_10 rfl (lv_at hl 1 rfl) ?_
      refine lv_lload_n hx hb dX12_common_11 rfl (lv_at hl 0 rfl) ?_
      refine lv_lload_n hx hb dX12_common_12 rfl (lv_at hl 1 rfl) ?_
      obtain ⟨hne, hz⟩ := u_ck_some hz
      refine lv_lrem hx hb dX12_common_13 hne ?_
      obtain ⟨v1, hv1, hz⟩ := u_bind hz
      refine u_callSl (As := [.long p2, .long (p0 - p0 / p2 * p2)]) (rest := []) cx hw LS_X12_302 (ih p2 (p0 - p0 / p2 * p2) v1 hv1) (by omega) hl.1 rfl (Nat.le_of_ble_eq_true rfl) dX12_common_14 rfl (fun H locs hw => ?_)
      exact u_lret cx hw ⟨Option.some.inj hz, rfl⟩ dX12_common_17
    · replace hz := u_ift hz hc
      refine lv_lload_n hx hb dX12_common_6 rfl (lv_at hl 0 rfl) ?_
      refine lv_goto (tgt := 17) hx hb dX12_common_7 (by decide) ?_
      exact u_lret cx hw ⟨Option.some.inj hz, rfl⟩ dX12_common_17
def f_X12_common (N : Nat) (σ : uS) (p0 p2 : Int64) : Option Int64 := u_lp2 b_X12_common 100 p0 p2
theorem c_X12_common (l : Launch) (G : uG) (N : Nat) (σ : uS) (p0 p2 : Int64) (z : Int64) (hz : f_X12_common N σ p0 p2 = some z) : u_Ml l ZM G yX12_common cX12_common 4 100 [.long p0, .long p2] σ z σ := c_X12_common_s l G σ 100 p0 p2 z hz
theorem dX5_wrongAt_0 : decode cX5_wrongAt 0 = .ok (.aload_n 1, 1) := by decide +kernel
theorem dX5_wrongAt_1 : decode cX5_wrongAt 1 = .ok (.getfield 9, 3) := by decide +kernel
theorem dX5_wrongAt_4 : decode cX5_wrongAt 4 = .ok (.istore_n 3, 1) := by decide +kernel
theorem dX5_wrongAt_5 : decode cX5_wrongAt 5 = .ok (.aload_n 1, 1) := by decide +kernel
theorem dX5_wrongAt_6 : decode cX5_wrongAt 6 = .ok (.iconst 0, 1) := by decide +kernel
theorem dX5_wrongAt_7 : decode cX5_wrongAt 7 = .ok (.putfield 9, 3) := by decide +kernel
theorem dX5_wrongAt_10 : decode cX5_wrongAt 10 = .ok (.iconst 0, 1) := by decide +kernel
theorem dX5_wrongAt_11 : decode cX5_wrongAt 11 = .ok (.istore 4, 2) := by decide +kernel
theorem dX5_wrongAt_13 : decode cX5_wrongAt 13 = .ok (.iload 4, 2) := by decide +kernel
theorem dX5_wrongAt_15 : decode cX5_wrongAt 15 = .ok (.iload_n 3, 1) := by decide +kernel
theorem dX5_wrongAt_16 : decode cX5_wrongAt 16 = .ok (.if_icmp .ge 31, 3) := by decide +kernel
theorem dX5_wrongAt_19 : decode cX5_wrongAt 19 = .ok (.iload 4, 2) := by decide +kernel
theorem dX5_wrongAt_21 : decode cX5_wrongAt 21 = .ok (.iload_n 2, 1) := by decide +kernel
theorem dX5_wrongAt_22 : decode cX5_wrongAt 22 = .ok (.if_icmp .ge 16, 3) := by decide +kernel
theorem dX5_wrongAt_25 : decode cX5_wrongAt 25 = .ok (.aload_n 0, 1) := by decide +kernel
theorem dX5_wrongAt_26 : decode cX5_wrongAt 26 = .ok (.aload_n 1, 1) := by decide +kernel
theorem dX5_wrongAt_27 : decode cX5_wrongAt 27 = .ok (.iload 4, 2) := by decide +kernel
theorem dX5_wrongAt_29 : decode cX5_wrongAt 29 = .ok (.invokevirtual 15, 3) := by decide +kernel
theorem dX5_wrongAt_32 : decode cX5_wrongAt 32 = .ok (.invokevirtual 19, 3) := by decide +kernel
theorem dX5_wrongAt_35 : decode cX5_wrongAt 35 = .ok (.ifCond .ne 6, 3) := by decide +kernel
theorem dX5_wrongAt_38 : decode cX5_wrongAt 38 = .ok (.iload 4, 2) := by decide +kernel
theorem dX5_wrongAt_40 : decode cX5_wrongAt 40 = .ok (.ireturn, 1) := by decide +kernel
theorem dX5_wrongAt_41 : decode cX5_wrongAt 41 = .ok (.iinc 4 1, 3) := by decide +kernel
theorem dX5_wrongAt_44 : decode cX5_wrongAt 44 = .ok (.goto (-31), 3) := by decide +kernel
theorem dX5_wrongAt_47 : decode cX5_wrongAt 47 = .ok (.aload_n 0, 1) := by decide +kernel
theorem dX5_wrongAt_48 : decode cX5_wrongAt 48 = .ok (.invokevirtual 25, 3) := by decide +kernel
theorem dX5_wrongAt_51 : decode cX5_wrongAt 51 = .ok (.ifCond .eq 7, 3) := by decide +kernel
theorem dX5_wrongAt_54 : decode cX5_wrongAt 54 = .ok (.iconst (-1), 1) := by decide +kernel
theorem dX5_wrongAt_55 : decode cX5_wrongAt 55 = .ok (.goto 4, 3) := by decide +kernel
theorem dX5_wrongAt_58 : decode cX5_wrongAt 58 = .ok (.iload_n 3, 1) := by decide +kernel
theorem dX5_wrongAt_59 : decode cX5_wrongAt 59 = .ok (.ireturn, 1) := by decide +kernel
def b_X5_wrongAt_X6_13 (N : Nat) (i0 : Nat) (p2 : Int32) (x1 : Int32) (J47_4 : uS → Option (Int32 × uS)) (rec13_8 : uS → Int32 → Option (Int32 × uS)) (s6 : uS) (x7 : Int32) : Option (Int32 × uS) :=
  if x1 ≤ x7 then (J47_4 s6) else (if p2 ≤ x7 then (some (x7, s6)) else ((f_X10_signAt N s6 x7).bind fun v9 =>
  (f_X6_takes N s6 i0 v9).bind fun v10 =>
  if v10.1 = 0 then (some (x7, v10.2)) else (u_jn (x7 + 1 : Int32) fun x11 =>
  rec13_8 v10.2 x11)))
def f_X5_wrongAt_X6 (N : Nat) (σ : uS) (i0 : Nat) (p2 : Int32) : Option (Int32 × uS) := u_jn ((σ.1 1 1) : Int32) fun x1 =>
  u_jn (u_pI σ 1 1 0) fun s2 =>
  u_jn (fun (s3 : uS) => ((f_X6_takesEnd N s3 i0).bind fun v5 =>
  if v5.1 = 0 then (some (x1, v5.2)) else (some ((-1), v5.2)) : Option (Int32 × uS))) fun J47_4 =>
  u_lp2 (b_X5_wrongAt_X6_13 N i0 p2 x1 J47_4) N s2 0
set_option maxRecDepth 100000 in
set_option maxHeartbeats 4000000 in
theorem c_X5_wrongAt_X6 (l : Launch) (G : uG) (N : Nat) (σ : uS) (i0 : Nat) (oi0 : u_o ZC i0 5 11 (k_R i0)) (p2 : Int32) (z : (Int32 × uS)) (hz : f_X5_wrongAt_X6 N σ i0 p2 = some z) : u_Mi l ZC G yX5_wrongAt cX5_wrongAt 5 .int 5 [.ref (G.2.2 i0), .ref (G.2.2 1), .int p2] σ z.1 z.2 := by
  refine u_Mi_of RX5 (by decide) rfl (Nat.le_of_ble_eq_true rfl) ?_
  intro p e s m args below meth c ls cx hw hl
  have hx := cx.1
  have hb := cx.2.1
  have hl : lv_has ls 5 [(0, .ref (G.2.2 i0)), (1, .ref (G.2.2 1)), (2, .int p2)] := hl
  unfold f_X5_wrongAt_X6 at hz
  refine lv_aload_n hx hb dX5_wrongAt_0 rfl (lv_at hl 1 rfl) ?_
  refine u_geti cx hw F_X5_9 o_X10 rfl dX5_wrongAt_1 ?_
  obtain ⟨x1, ex1, hz⟩ := u_let hz
  refine u_topi ex1 ?_
  refine lv_istore_n (lv' := [(3, .int x1), (0, .ref (G.2.2 i0)), (1, .ref (G.2.2 1)), (2, .int p2)]) hx hb dX5_wrongAt_4 rfl hl (by decide) rfl (fun ls hl => ?_)
  refine lv_aload_n hx hb dX5_wrongAt_5 rfl (lv_at hl 2 rfl) ?_
  refine lv_iconst (v := 0) hx hb dX5_wrongAt_6 (by decide) ?_
  obtain ⟨s2, es2, hz⟩ := u_let hz
  refine u_puti2 cx hw P_X5_9 o_X10 rfl es2 dX5_wrongAt_7 (fun H locs hw => ?_)
  refine lv_iconst (v := 0) hx hb dX5_wrongAt_10 (by decide) ?_
  refine lv_istore (lv' := [(4, .int 0), (3, .int x1), (0, .ref (G.2.2 i0)), (1, .ref (G.2.2 1)), (2, .int p2)]) hx hb dX5_wrongAt_11 hl (by decide) rfl (fun ls hl => ?_)
  obtain ⟨J47_4, eJ47_4, hz⟩ := u_let hz
  have WJ47_4 : ∀ (s3 : uS) (H : Heap) (locs : List Loc) (ls : Array Slot), J47_4 s3 = some z → u_W ZC G s3 s H locs → lv_has ls 5 [(0, .ref (G.2.2 i0)), (3, .int x1)] → W p l e (u_rm 5) s m args below meth c H locs 0 0 (u_Qi below ZC G s args z.1 z.2) (F0 m 47 ls []) := by
    intro s3 H locs ls hz hw hl
    rw [eJ47_4] at hz
    refine lv_aload_n hx hb dX5_wrongAt_47 rfl (lv_at hl 0 rfl) ?_
    obtain ⟨v5, hv5, hz⟩ := u_bind hz
    refine u_callUi (As := []) (rest := []) cx hw LU_X5_25_X6 (c_X6_takesEnd l G N s3 i0 oi0 v5 hv5) oi0 rfl (by decide) hl.1 rfl (Nat.le_of_ble_eq_true rfl) dX5_wrongAt_48 rfl (fun H locs hw => ?_)
    refine lv_if_eq (tgt := 58) hx hb dX5_wrongAt_51 (by decide) (fun hc => ?_) (fun hc => ?_)
    · replace hz := u_ift hz hc
      refine lv_iload_n hx hb dX5_wrongAt_58 rfl (lv_at hl 1 rfl) ?_
      exact u_iret cx hw (u_pair hz) dX5_wrongAt_59
    · replace hz := u_iff hz hc
      refine lv_iconst (v := (-1)) hx hb dX5_wrongAt_54 (by decide) ?_
      refine lv_goto (tgt := 59) hx hb dX5_wrongAt_55 (by decide) ?_
      exact u_iret cx hw (u_pair hz) dX5_wrongAt_59
  have WL13_11 : ∀ (k : Nat) (s6 : uS) (x7 : Int32) (H : Heap) (locs : List Loc) (ls : Array Slot), u_lp2 (b_X5_wrongAt_X6_13 N i0 p2 x1 J47_4) k s6 x7 = some z → u_W ZC G s6 s H locs → lv_has ls 5 [(0, .ref (G.2.2 i0)), (1, .ref (G.2.2 1)), (2, .int p2), (3, .int x1), (4, .int x7)] → W p l e (u_rm 5) s m args below meth c H locs 0 0 (u_Qi below ZC G s args z.1 z.2) (F0 m 13 ls []) := by
    intro k
    induction k with
    | zero =>
      intro s6 x7 H locs ls hz
      exact absurd hz (by intro h9; cases h9)
    | succ k ih13_8 =>
      intro s6 x7 H locs ls hz hw hl
      have hz : (b_X5_wrongAt_X6_13 N i0 p2 x1 J47_4) (u_lp2 (b_X5_wrongAt_X6_13 N i0 p2 x1 J47_4) k) s6 x7 = some z := hz
      unfold b_X5_wrongAt_X6_13 at hz
      refine lv_iload hx hb dX5_wrongAt_13 (lv_at hl 4 rfl) ?_
      refine lv_iload_n hx hb dX5_wrongAt_15 rfl (lv_at hl 3 rfl) ?_
      refine lv_icmp_ge (tgt := 47) hx hb dX5_wrongAt_16 (by decide) (fun hc => ?_) (fun hc => ?_)
      · replace hz := u_ift hz hc
        exact WJ47_4 s6 _ _ _ hz hw (lv_sub hl [0, 3] rfl)
      · replace hz := u_iff hz hc
        refine lv_iload hx hb dX5_wrongAt_19 (lv_at hl 4 rfl) ?_
        refine lv_iload_n hx hb dX5_wrongAt_21 rfl (lv_at hl 2 rfl) ?_
        refine lv_icmp_ge (tgt := 38) hx hb dX5_wrongAt_22 (by decide) (fun hc => ?_) (fun hc => ?_)
        · replace hz := u_ift hz hc
          refine lv_iload hx hb dX5_wrongAt_38 (lv_at hl 4 rfl) ?_
          exact u_iret cx hw (u_pair hz) dX5_wrongAt_40
        · replace hz := u_iff hz hc
          refine lv_aload_n hx hb dX5_wrongAt_25 rfl (lv_at hl 0 rfl) ?_
          refine lv_aload_n hx hb dX5_wrongAt_26 rfl (lv_at hl 1 rfl) ?_
          refine lv_iload hx hb dX5_wrongAt_27 (lv_at hl 4 rfl) ?_
          obtain ⟨v9, hv9, hz⟩ := u_bind hz
          refine u_callVi (As := [.int x7]) (rest := [.ref (G.2.2 i0)]) cx hw LV_X5_15 (c_X10_signAt l G N s6 x7 v9 hv9) o_X10 rfl (by decide) hl.1 rfl (Nat.le_of_ble_eq_true rfl) dX5_wrongAt_29 rfl (fun H locs hw => ?_)
          obtain ⟨v10, hv10, hz⟩ := u_bind hz
          refine u_callUi (As := [.int v9]) (rest := []) cx hw LU_X5_19_X6 (c_X6_takes l G N s6 i0 oi0 v9 v10 hv10) oi0 rfl (by decide) hl.1 rfl (Nat.le_of_ble_eq_true rfl) dX5_wrongAt_32 rfl (fun H locs hw => ?_)
          refine lv_if_ne (tgt := 41) hx hb dX5_wrongAt_35 (by decide) (fun hc => ?_) (fun hc => ?_)
          · replace hz := u_iff hz hc
            obtain ⟨x11, ex11, hz⟩ := u_let hz
            refine lv_iinc (v := x11) (lv' := [(4, .int x11), (0, .ref (G.2.2 i0)), (1, .ref (G.2.2 1)), (2, .int p2), (3, .int x1)]) hx hb dX5_wrongAt_41 hl (k := 4) rfl (by rw [ex11]; rfl) (by decide) rfl (fun ls hl => ?_)
            refine lv_goto (tgt := 13) hx hb dX5_wrongAt_44 (by decide) ?_
            exact ih13_8 v10.2 x11 _ _ _ hz hw (lv_sub hl [1, 2, 3, 4, 0] rfl)
          · replace hz := u_ift hz hc
            refine lv_iload hx hb dX5_wrongAt_38 (lv_at hl 4 rfl) ?_
            exact u_iret cx hw (u_pair hz) dX5_wrongAt_40
  exact WL13_11 N s2 0 _ _ _ hz hw (lv_sub hl [2, 3, 4, 1, 0] rfl)
def b_X5_wrongAt_X9_13 (N : Nat) (p2 : Int32) (x1 : Int32) (J47_4 : uS → Option (Int32 × uS)) (rec13_8 : uS → Int32 → Option (Int32 × uS)) (s6 : uS) (x7 : Int32) : Option (Int32 × uS) :=
  if x1 ≤ x7 then (J47_4 s6) else (if p2 ≤ x7 then (some (x7, s6)) else ((f_X10_signAt N s6 x7).bind fun v9 =>
  (f_X9_takes N s6 v9).bind fun v10 =>
  if v10.1 = 0 then (some (x7, v10.2)) else (u_jn (x7 + 1 : Int32) fun x11 =>
  rec13_8 v10.2 x11)))
def f_X5_wrongAt_X9 (N : Nat) (σ : uS) (p2 : Int32) : Option (Int32 × uS) := u_jn ((σ.1 1 1) : Int32) fun x1 =>
  u_jn (u_pI σ 1 1 0) fun s2 =>
  u_jn (fun (s3 : uS) => ((f_X9_takesEnd N s3).bind fun v5 =>
  if v5 = 0 then (some (x1, s3)) else (some ((-1), s3)) : Option (Int32 × uS))) fun J47_4 =>
  u_lp2 (b_X5_wrongAt_X9_13 N p2 x1 J47_4) N s2 0
set_option maxRecDepth 100000 in
set_option maxHeartbeats 4000000 in
theorem c_X5_wrongAt_X9 (l : Launch) (G : uG) (N : Nat) (σ : uS) (p2 : Int32) (z : (Int32 × uS)) (hz : f_X5_wrongAt_X9 N σ p2 = some z) : u_Mi l ZC G yX5_wrongAt cX5_wrongAt 5 .int 3 [.ref (G.2.2 15), .ref (G.2.2 1), .int p2] σ z.1 z.2 := by
  refine u_Mi_of RX5 (by decide) rfl (Nat.le_of_ble_eq_true rfl) ?_
  intro p e s m args below meth c ls cx hw hl
  have hx := cx.1
  have hb := cx.2.1
  have hl : lv_has ls 5 [(0, .ref (G.2.2 15)), (1, .ref (G.2.2 1)), (2, .int p2)] := hl
  unfold f_X5_wrongAt_X9 at hz
  refine lv_aload_n hx hb dX5_wrongAt_0 rfl (lv_at hl 1 rfl) ?_
  refine u_geti cx hw F_X5_9 o_X10 rfl dX5_wrongAt_1 ?_
  obtain ⟨x1, ex1, hz⟩ := u_let hz
  refine u_topi ex1 ?_
  refine lv_istore_n (lv' := [(3, .int x1), (0, .ref (G.2.2 15)), (1, .ref (G.2.2 1)), (2, .int p2)]) hx hb dX5_wrongAt_4 rfl hl (by decide) rfl (fun ls hl => ?_)
  refine lv_aload_n hx hb dX5_wrongAt_5 rfl (lv_at hl 2 rfl) ?_
  refine lv_iconst (v := 0) hx hb dX5_wrongAt_6 (by decide) ?_
  obtain ⟨s2, es2, hz⟩ := u_let hz
  refine u_puti2 cx hw P_X5_9 o_X10 rfl es2 dX5_wrongAt_7 (fun H locs hw => ?_)
  refine lv_iconst (v := 0) hx hb dX5_wrongAt_10 (by decide) ?_
  refine lv_istore (lv' := [(4, .int 0), (3, .int x1), (0, .ref (G.2.2 15)), (1, .ref (G.2.2 1)), (2, .int p2)]) hx hb dX5_wrongAt_11 hl (by decide) rfl (fun ls hl => ?_)
  obtain ⟨J47_4, eJ47_4, hz⟩ := u_let hz
  have WJ47_4 : ∀ (s3 : uS) (H : Heap) (locs : List Loc) (ls : Array Slot), J47_4 s3 = some z → u_W ZC G s3 s H locs → lv_has ls 5 [(0, .ref (G.2.2 15)), (3, .int x1)] → W p l e (u_rm 3) s m args below meth c H locs 0 0 (u_Qi below ZC G s args z.1 z.2) (F0 m 47 ls []) := by
    intro s3 H locs ls hz hw hl
    rw [eJ47_4] at hz
    refine lv_aload_n hx hb dX5_wrongAt_47 rfl (lv_at hl 0 rfl) ?_
    obtain ⟨v5, hv5, hz⟩ := u_bind hz
    refine u_callUi (As := []) (rest := []) cx hw LU_X5_25_X9 (c_X9_takesEnd l G N s3 v5 hv5) o_X9 rfl (by decide) hl.1 rfl (Nat.le_of_ble_eq_true rfl) dX5_wrongAt_48 rfl (fun H locs hw => ?_)
    refine lv_if_eq (tgt := 58) hx hb dX5_wrongAt_51 (by decide) (fun hc => ?_) (fun hc => ?_)
    · replace hz := u_ift hz hc
      refine lv_iload_n hx hb dX5_wrongAt_58 rfl (lv_at hl 1 rfl) ?_
      exact u_iret cx hw (u_pair hz) dX5_wrongAt_59
    · replace hz := u_iff hz hc
      refine lv_iconst (v := (-1)) hx hb dX5_wrongAt_54 (by decide) ?_
      refine lv_goto (tgt := 59) hx hb dX5_wrongAt_55 (by decide) ?_
      exact u_iret cx hw (u_pair hz) dX5_wrongAt_59
  have WL13_11 : ∀ (k : Nat) (s6 : uS) (x7 : Int32) (H : Heap) (locs : List Loc) (ls : Array Slot), u_lp2 (b_X5_wrongAt_X9_13 N p2 x1 J47_4) k s6 x7 = some z → u_W ZC G s6 s H locs → lv_has ls 5 [(0, .ref (G.2.2 15)), (1, .ref (G.2.2 1)), (2, .int p2), (3, .int x1), (4, .int x7)] → W p l e (u_rm 3) s m args below meth c H locs 0 0 (u_Qi below ZC G s args z.1 z.2) (F0 m 13 ls []) := by
    intro k
    induction k with
    | zero =>
      intro s6 x7 H locs ls hz
      exact absurd hz (by intro h9; cases h9)
    | succ k ih13_8 =>
      intro s6 x7 H locs ls hz hw hl
      have hz : (b_X5_wrongAt_X9_13 N p2 x1 J47_4) (u_lp2 (b_X5_wrongAt_X9_13 N p2 x1 J47_4) k) s6 x7 = some z := hz
      unfold b_X5_wrongAt_X9_13 at hz
      refine lv_iload hx hb dX5_wrongAt_13 (lv_at hl 4 rfl) ?_
      refine lv_iload_n hx hb dX5_wrongAt_15 rfl (lv_at hl 3 rfl) ?_
      refine lv_icmp_ge (tgt := 47) hx hb dX5_wrongAt_16 (by decide) (fun hc => ?_) (fun hc => ?_)
      · replace hz := u_ift hz hc
        exact WJ47_4 s6 _ _ _ hz hw (lv_sub hl [0, 3] rfl)
      · replace hz := u_iff hz hc
        refine lv_iload hx hb dX5_wrongAt_19 (lv_at hl 4 rfl) ?_
        refine lv_iload_n hx hb dX5_wrongAt_21 rfl (lv_at hl 2 rfl) ?_
        refine lv_icmp_ge (tgt := 38) hx hb dX5_wrongAt_22 (by decide) (fun hc => ?_) (fun hc => ?_)
        · replace hz := u_ift hz hc
          refine lv_iload hx hb dX5_wrongAt_38 (lv_at hl 4 rfl) ?_
          exact u_iret cx hw (u_pair hz) dX5_wrongAt_40
        · replace hz := u_iff hz hc
          refine lv_aload_n hx hb dX5_wrongAt_25 rfl (lv_at hl 0 rfl) ?_
          refine lv_aload_n hx hb dX5_wrongAt_26 rfl (lv_at hl 1 rfl) ?_
          refine lv_iload hx hb dX5_wrongAt_27 (lv_at hl 4 rfl) ?_
          obtain ⟨v9, hv9, hz⟩ := u_bind hz
          refine u_callVi (As := [.int x7]) (rest := [.ref (G.2.2 15)]) cx hw LV_X5_15 (c_X10_signAt l G N s6 x7 v9 hv9) o_X10 rfl (by decide) hl.1 rfl (Nat.le_of_ble_eq_true rfl) dX5_wrongAt_29 rfl (fun H locs hw => ?_)
          obtain ⟨v10, hv10, hz⟩ := u_bind hz
          refine u_callUi (As := [.int v9]) (rest := []) cx hw LU_X5_19_X9 (c_X9_takes l G N s6 v9 v10 hv10) o_X9 rfl (by decide) hl.1 rfl (Nat.le_of_ble_eq_true rfl) dX5_wrongAt_32 rfl (fun H locs hw => ?_)
          refine lv_if_ne (tgt := 41) hx hb dX5_wrongAt_35 (by decide) (fun hc => ?_) (fun hc => ?_)
          · replace hz := u_iff hz hc
            obtain ⟨x11, ex11, hz⟩ := u_let hz
            refine lv_iinc (v := x11) (lv' := [(4, .int x11), (0, .ref (G.2.2 15)), (1, .ref (G.2.2 1)), (2, .int p2), (3, .int x1)]) hx hb dX5_wrongAt_41 hl (k := 4) rfl (by rw [ex11]; rfl) (by decide) rfl (fun ls hl => ?_)
            refine lv_goto (tgt := 13) hx hb dX5_wrongAt_44 (by decide) ?_
            exact ih13_8 v10.2 x11 _ _ _ hz hw (lv_sub hl [1, 2, 3, 4, 0] rfl)
          · replace hz := u_ift hz hc
            refine lv_iload hx hb dX5_wrongAt_38 (lv_at hl 4 rfl) ?_
            exact u_iret cx hw (u_pair hz) dX5_wrongAt_40
  exact WL13_11 N s2 0 _ _ _ hz hw (lv_sub hl [2, 3, 4, 1, 0] rfl)
theorem dX2_takes_0 : decode cX2_takes 0 = .ok (.iload_n 1, 1) := by decide +kernel
theorem dX2_takes_1 : decode cX2_takes 1 = .ok (.invokestatic 19, 3) := by decide +kernel
theorem dX2_takes_4 : decode cX2_takes 4 = .ok (.ifCond .eq 22, 3) := by decide +kernel
theorem dX2_takes_7 : decode cX2_takes 7 = .ok (.aload_n 0, 1) := by decide +kernel
theorem dX2_takes_8 : decode cX2_takes 8 = .ok (.getfield 15, 3) := by decide +kernel
theorem dX2_takes_11 : decode cX2_takes 11 = .ok (.ifCond .lt 15, 3) := by decide +kernel
theorem dX2_takes_14 : decode cX2_takes 14 = .ok (.aload_n 0, 1) := by decide +kernel
theorem dX2_takes_15 : decode cX2_takes 15 = .ok (.getfield 15, 3) := by decide +kernel
theorem dX2_takes_18 : decode cX2_takes 18 = .ok (.aload_n 0, 1) := by decide +kernel
theorem dX2_takes_19 : decode cX2_takes 19 = .ok (.getfield 9, 3) := by decide +kernel
theorem dX2_takes_22 : decode cX2_takes 22 = .ok (.arraylength, 1) := by decide +kernel
theorem dX2_takes_23 : decode cX2_takes 23 = .ok (.if_icmp .lt 5, 3) := by decide +kernel
theorem dX2_takes_26 : decode cX2_takes 26 = .ok (.iconst 0, 1) := by decide +kernel
theorem dX2_takes_27 : decode cX2_takes 27 = .ok (.ireturn, 1) := by decide +kernel
theorem dX2_takes_28 : decode cX2_takes 28 = .ok (.aload_n 0, 1) := by decide +kernel
theorem dX2_takes_29 : decode cX2_takes 29 = .ok (.getfield 9, 3) := by decide +kernel
theorem dX2_takes_32 : decode cX2_takes 32 = .ok (.aload_n 0, 1) := by decide +kernel
theorem dX2_takes_33 : decode cX2_takes 33 = .ok (.getfield 15, 3) := by decide +kernel
theorem dX2_takes_36 : decode cX2_takes 36 = .ok (.iload_n 1, 1) := by decide +kernel
theorem dX2_takes_37 : decode cX2_takes 37 = .ok (.bipush 48, 2) := by decide +kernel
theorem dX2_takes_39 : decode cX2_takes 39 = .ok (.isub, 1) := by decide +kernel
theorem dX2_takes_40 : decode cX2_takes 40 = .ok (.iastore, 1) := by decide +kernel
theorem dX2_takes_41 : decode cX2_takes 41 = .ok (.aload_n 0, 1) := by decide +kernel
theorem dX2_takes_42 : decode cX2_takes 42 = .ok (.dup, 1) := by decide +kernel
theorem dX2_takes_43 : decode cX2_takes 43 = .ok (.getfield 15, 3) := by decide +kernel
theorem dX2_takes_46 : decode cX2_takes 46 = .ok (.iconst 1, 1) := by decide +kernel
theorem dX2_takes_47 : decode cX2_takes 47 = .ok (.iadd, 1) := by decide +kernel
theorem dX2_takes_48 : decode cX2_takes 48 = .ok (.putfield 15, 3) := by decide +kernel
theorem dX2_takes_51 : decode cX2_takes 51 = .ok (.iconst 1, 1) := by decide +kernel
theorem dX2_takes_52 : decode cX2_takes 52 = .ok (.ireturn, 1) := by decide +kernel
def f_X2_takes (N : Nat) (σ : uS) (p1 : Int32) : Option (Int32 × uS) := (f_X5_isDigit N σ p1).bind fun v1 =>
  if v1 = 0 then (some (0, σ)) else (if (σ.1 9 1) < 0 then (some (0, σ)) else ((u_len ZC 10).bind fun v2 =>
  if (σ.1 9 1) < v2 then ((u_wI ZC σ 0 10 (σ.1 9 1) (p1 - 48)).bind fun s3 =>
  u_jn (u_pI s3 9 1 ((s3.1 9 1) + 1)) fun s4 =>
  some (1, s4)) else (some (0, σ))))
set_option maxRecDepth 100000 in
set_option maxHeartbeats 4000000 in
theorem c_X2_takes (l : Launch) (G : uG) (N : Nat) (σ : uS) (p1 : Int32) (z : (Int32 × uS)) (hz : f_X2_takes N σ p1 = some z) : u_Mi l ZC G yX2_takes cX2_takes 2 .boolean 1 [.ref (G.2.2 9), .int p1] σ z.1 z.2 := by
  refine u_Mi_of RX2 (by decide) rfl (Nat.le_of_ble_eq_true rfl) ?_
  intro p e s m args below meth c ls cx hw hl
  have hx := cx.1
  have hb := cx.2.1
  have hl : lv_has ls 2 [(0, .ref (G.2.2 9)), (1, .int p1)] := hl
  unfold f_X2_takes at hz
  refine lv_iload_n hx hb dX2_takes_0 rfl (lv_at hl 1 rfl) ?_
  obtain ⟨v1, hv1, hz⟩ := u_bind hz
  refine u_callTi (As := [.int p1]) (rest := []) cx hw LT_X2_19 (c_X5_isDigit l G N σ p1 v1 hv1) (by decide) hl.1 rfl (Nat.le_of_ble_eq_true rfl) dX2_takes_1 rfl (fun H locs hw => ?_)
  refine lv_if_eq (tgt := 26) hx hb dX2_takes_4 (by decide) (fun hc => ?_) (fun hc => ?_)
  · replace hz := u_ift hz hc
    refine lv_iconst (v := 0) hx hb dX2_takes_26 (by decide) ?_
    exact u_zret cx hw (Or.inl rfl) (u_pair hz) dX2_takes_27
  · replace hz := u_iff hz hc
    refine lv_aload_n hx hb dX2_takes_7 rfl (lv_at hl 0 rfl) ?_
    refine u_geti cx hw F_X2_15 o_X2 rfl dX2_takes_8 ?_
    refine lv_if_lt (tgt := 26) hx hb dX2_takes_11 (by decide) (fun hc => ?_) (fun hc => ?_)
    · replace hz := u_ift hz hc
      refine lv_iconst (v := 0) hx hb dX2_takes_26 (by decide) ?_
      exact u_zret cx hw (Or.inl rfl) (u_pair hz) dX2_takes_27
    · replace hz := u_iff hz hc
      refine lv_aload_n hx hb dX2_takes_14 rfl (lv_at hl 0 rfl) ?_
      refine u_geti cx hw F_X2_15 o_X2 rfl dX2_takes_15 ?_
      refine lv_aload_n hx hb dX2_takes_18 rfl (lv_at hl 0 rfl) ?_
      refine u_getp cx hw F_X2_9 o_X2 rfl dX2_takes_19 ?_
      obtain ⟨v2, hv2, hz⟩ := u_bind hz
      refine u_alen cx hw hv2 dX2_takes_22 ?_
      refine lv_icmp_lt (tgt := 28) hx hb dX2_takes_23 (by decide) (fun hc => ?_) (fun hc => ?_)
      · replace hz := u_ift hz hc
        refine lv_aload_n hx hb dX2_takes_28 rfl (lv_at hl 0 rfl) ?_
        refine u_getp cx hw F_X2_9 o_X2 rfl dX2_takes_29 ?_
        refine lv_aload_n hx hb dX2_takes_32 rfl (lv_at hl 0 rfl) ?_
        refine u_geti cx hw F_X2_15 o_X2 rfl dX2_takes_33 ?_
        refine lv_iload_n hx hb dX2_takes_36 rfl (lv_at hl 1 rfl) ?_
        refine lv_bipush (v := 48) hx hb dX2_takes_37 (by decide) ?_
        refine lv_isub hx hb dX2_takes_39 ?_
        obtain ⟨s3, hs3, hz⟩ := u_bind hz
        refine u_iast cx hw hs3 dX2_takes_40 (fun H locs hw => ?_)
        refine lv_aload_n hx hb dX2_takes_41 rfl (lv_at hl 0 rfl) ?_
        refine lv_dup hx hb dX2_takes_42 rfl ?_
        refine u_geti cx hw F_X2_15 o_X2 rfl dX2_takes_43 ?_
        refine lv_iconst (v := 1) hx hb dX2_takes_46 (by decide) ?_
        refine lv_iadd hx hb dX2_takes_47 ?_
        obtain ⟨s4, es4, hz⟩ := u_let hz
        refine u_puti2 cx hw P_X2_15 o_X2 rfl es4 dX2_takes_48 (fun H locs hw => ?_)
        refine lv_iconst (v := 1) hx hb dX2_takes_51 (by decide) ?_
        exact u_zret cx hw (Or.inr rfl) (u_pair hz) dX2_takes_52
      · replace hz := u_iff hz hc
        refine lv_iconst (v := 0) hx hb dX2_takes_26 (by decide) ?_
        exact u_zret cx hw (Or.inl rfl) (u_pair hz) dX2_takes_27
theorem dX4_takesBelief_0 : decode cX4_takesBelief 0 = .ok (.iload_n 1, 1) := by decide +kernel
theorem dX4_takesBelief_1 : decode cX4_takesBelief 1 = .ok (.invokestatic 42, 3) := by decide +kernel
theorem dX4_takesBelief_4 : decode cX4_takesBelief 4 = .ok (.ifCond .eq 24, 3) := by decide +kernel
theorem dX4_takesBelief_7 : decode cX4_takesBelief 7 = .ok (.aload_n 0, 1) := by decide +kernel
theorem dX4_takesBelief_8 : decode cX4_takesBelief 8 = .ok (.getfield 25, 3) := by decide +kernel
theorem dX4_takesBelief_11 : decode cX4_takesBelief 11 = .ok (.ifCond .lt 17, 3) := by decide +kernel
theorem dX4_takesBelief_14 : decode cX4_takesBelief 14 = .ok (.aload_n 0, 1) := by decide +kernel
theorem dX4_takesBelief_15 : decode cX4_takesBelief 15 = .ok (.getfield 21, 3) := by decide +kernel
theorem dX4_takesBelief_18 : decode cX4_takesBelief 18 = .ok (.aload_n 0, 1) := by decide +kernel
theorem dX4_takesBelief_19 : decode cX4_takesBelief 19 = .ok (.getfield 25, 3) := by decide +kernel
theorem dX4_takesBelief_22 : decode cX4_takesBelief 22 = .ok (.iadd, 1) := by decide +kernel
theorem dX4_takesBelief_23 : decode cX4_takesBelief 23 = .ok (.bipush 8, 2) := by decide +kernel
theorem dX4_takesBelief_25 : decode cX4_takesBelief 25 = .ok (.if_icmp .lt 5, 3) := by decide +kernel
theorem dX4_takesBelief_28 : decode cX4_takesBelief 28 = .ok (.iconst 0, 1) := by decide +kernel
theorem dX4_takesBelief_29 : decode cX4_takesBelief 29 = .ok (.ireturn, 1) := by decide +kernel
theorem dX4_takesBelief_30 : decode cX4_takesBelief 30 = .ok (.aload_n 0, 1) := by decide +kernel
theorem dX4_takesBelief_31 : decode cX4_takesBelief 31 = .ok (.getfield 9, 3) := by decide +kernel
theorem dX4_takesBelief_34 : decode cX4_takesBelief 34 = .ok (.aload_n 0, 1) := by decide +kernel
theorem dX4_takesBelief_35 : decode cX4_takesBelief 35 = .ok (.getfield 25, 3) := by decide +kernel
theorem dX4_takesBelief_38 : decode cX4_takesBelief 38 = .ok (.iload_n 1, 1) := by decide +kernel
theorem dX4_takesBelief_39 : decode cX4_takesBelief 39 = .ok (.bipush 48, 2) := by decide +kernel
theorem dX4_takesBelief_41 : decode cX4_takesBelief 41 = .ok (.isub, 1) := by decide +kernel
theorem dX4_takesBelief_42 : decode cX4_takesBelief 42 = .ok (.iastore, 1) := by decide +kernel
theorem dX4_takesBelief_43 : decode cX4_takesBelief 43 = .ok (.aload_n 0, 1) := by decide +kernel
theorem dX4_takesBelief_44 : decode cX4_takesBelief 44 = .ok (.dup, 1) := by decide +kernel
theorem dX4_takesBelief_45 : decode cX4_takesBelief 45 = .ok (.getfield 25, 3) := by decide +kernel
theorem dX4_takesBelief_48 : decode cX4_takesBelief 48 = .ok (.iconst 1, 1) := by decide +kernel
theorem dX4_takesBelief_49 : decode cX4_takesBelief 49 = .ok (.iadd, 1) := by decide +kernel
theorem dX4_takesBelief_50 : decode cX4_takesBelief 50 = .ok (.putfield 25, 3) := by decide +kernel
theorem dX4_takesBelief_53 : decode cX4_takesBelief 53 = .ok (.aload_n 0, 1) := by decide +kernel
theorem dX4_takesBelief_54 : decode cX4_takesBelief 54 = .ok (.iconst 1, 1) := by decide +kernel
theorem dX4_takesBelief_55 : decode cX4_takesBelief 55 = .ok (.putfield 28, 3) := by decide +kernel
theorem dX4_takesBelief_58 : decode cX4_takesBelief 58 = .ok (.iconst 1, 1) := by decide +kernel
theorem dX4_takesBelief_59 : decode cX4_takesBelief 59 = .ok (.ireturn, 1) := by decide +kernel
def f_X4_takesBelief (N : Nat) (σ : uS) (p1 : Int32) : Option (Int32 × uS) := (f_X5_isDigit N σ p1).bind fun v1 =>
  if v1 = 0 then (some (0, σ)) else (if (σ.1 11 4) < 0 then (some (0, σ)) else (if ((σ.1 11 3) + (σ.1 11 4)) < 8 then ((u_wI ZC σ 0 12 (σ.1 11 4) (p1 - 48)).bind fun s2 =>
  u_jn (u_pI s2 11 4 ((s2.1 11 4) + 1)) fun s3 =>
  u_jn (u_pI s3 11 5 1) fun s4 =>
  some (1, s4)) else (some (0, σ))))
set_option maxRecDepth 100000 in
set_option maxHeartbeats 4000000 in
theorem c_X4_takesBelief (l : Launch) (G : uG) (N : Nat) (σ : uS) (p1 : Int32) (z : (Int32 × uS)) (hz : f_X4_takesBelief N σ p1 = some z) : u_Mi l ZC G yX4_takesBelief cX4_takesBelief 2 .boolean 1 [.ref (G.2.2 11), .int p1] σ z.1 z.2 := by
  refine u_Mi_of RX4 (by decide) rfl (Nat.le_of_ble_eq_true rfl) ?_
  intro p e s m args below meth c ls cx hw hl
  have hx := cx.1
  have hb := cx.2.1
  have hl : lv_has ls 2 [(0, .ref (G.2.2 11)), (1, .int p1)] := hl
  unfold f_X4_takesBelief at hz
  refine lv_iload_n hx hb dX4_takesBelief_0 rfl (lv_at hl 1 rfl) ?_
  obtain ⟨v1, hv1, hz⟩ := u_bind hz
  refine u_callTi (As := [.int p1]) (rest := []) cx hw LT_X4_42 (c_X5_isDigit l G N σ p1 v1 hv1) (by decide) hl.1 rfl (Nat.le_of_ble_eq_true rfl) dX4_takesBelief_1 rfl (fun H locs hw => ?_)
  refine lv_if_eq (tgt := 28) hx hb dX4_takesBelief_4 (by decide) (fun hc => ?_) (fun hc => ?_)
  · replace hz := u_ift hz hc
    refine lv_iconst (v := 0) hx hb dX4_takesBelief_28 (by decide) ?_
    exact u_zret cx hw (Or.inl rfl) (u_pair hz) dX4_takesBelief_29
  · replace hz := u_iff hz hc
    refine lv_aload_n hx hb dX4_takesBelief_7 rfl (lv_at hl 0 rfl) ?_
    refine u_geti cx hw F_X4_25 o_X4 rfl dX4_takesBelief_8 ?_
    refine lv_if_lt (tgt := 28) hx hb dX4_takesBelief_11 (by decide) (fun hc => ?_) (fun hc => ?_)
    · replace hz := u_ift hz hc
      refine lv_iconst (v := 0) hx hb dX4_takesBelief_28 (by decide) ?_
      exact u_zret cx hw (Or.inl rfl) (u_pair hz) dX4_takesBelief_29
    · replace hz := u_iff hz hc
      refine lv_aload_n hx hb dX4_takesBelief_14 rfl (lv_at hl 0 rfl) ?_
      refine u_geti cx hw F_X4_21 o_X4 rfl dX4_takesBelief_15 ?_
      refine lv_aload_n hx hb dX4_takesBelief_18 rfl (lv_at hl 0 rfl) ?_
      refine u_geti cx hw F_X4_25 o_X4 rfl dX4_takesBelief_19 ?_
      refine lv_iadd hx hb dX4_takesBelief_22 ?_
      refine lv_bipush (v := 8) hx hb dX4_takesBelief_23 (by decide) ?_
      refine lv_icmp_lt (tgt := 30) hx hb dX4_takesBelief_25 (by decide) (fun hc => ?_) (fun hc => ?_)
      · replace hz := u_ift hz hc
        refine lv_aload_n hx hb dX4_takesBelief_30 rfl (lv_at hl 0 rfl) ?_
        refine u_getp cx hw F_X4_9 o_X4 rfl dX4_takesBelief_31 ?_
        refine lv_aload_n hx hb dX4_takesBelief_34 rfl (lv_at hl 0 rfl) ?_
        refine u_geti cx hw F_X4_25 o_X4 rfl dX4_takesBelief_35 ?_
        refine lv_iload_n hx hb dX4_takesBelief_38 rfl (lv_at hl 1 rfl) ?_
        refine lv_bipush (v := 48) hx hb dX4_takesBelief_39 (by decide) ?_
        refine lv_isub hx hb dX4_takesBelief_41 ?_
        obtain ⟨s2, hs2, hz⟩ := u_bind hz
        refine u_iast cx hw hs2 dX4_takesBelief_42 (fun H locs hw => ?_)
        refine lv_aload_n hx hb dX4_takesBelief_43 rfl (lv_at hl 0 rfl) ?_
        refine lv_dup hx hb dX4_takesBelief_44 rfl ?_
        refine u_geti cx hw F_X4_25 o_X4 rfl dX4_takesBelief_45 ?_
        refine lv_iconst (v := 1) hx hb dX4_takesBelief_48 (by decide) ?_
        refine lv_iadd hx hb dX4_takesBelief_49 ?_
        obtain ⟨s3, es3, hz⟩ := u_let hz
        refine u_puti2 cx hw P_X4_25 o_X4 rfl es3 dX4_takesBelief_50 (fun H locs hw => ?_)
        refine lv_aload_n hx hb dX4_takesBelief_53 rfl (lv_at hl 0 rfl) ?_
        refine lv_iconst (v := 1) hx hb dX4_takesBelief_54 (by decide) ?_
        obtain ⟨s4, es4, hz⟩ := u_let hz
        refine u_puti2 cx hw P_X4_28 o_X4 rfl es4 dX4_takesBelief_55 (fun H locs hw => ?_)
        refine lv_iconst (v := 1) hx hb dX4_takesBelief_58 (by decide) ?_
        exact u_zret cx hw (Or.inr rfl) (u_pair hz) dX4_takesBelief_59
      · replace hz := u_iff hz hc
        refine lv_iconst (v := 0) hx hb dX4_takesBelief_28 (by decide) ?_
        exact u_zret cx hw (Or.inl rfl) (u_pair hz) dX4_takesBelief_29
theorem dX4_takesEdge_0 : decode cX4_takesEdge 0 = .ok (.iload_n 1, 1) := by decide +kernel
theorem dX4_takesEdge_1 : decode cX4_takesEdge 1 = .ok (.invokestatic 42, 3) := by decide +kernel
theorem dX4_takesEdge_4 : decode cX4_takesEdge 4 = .ok (.ifCond .ne 5, 3) := by decide +kernel
theorem dX4_takesEdge_7 : decode cX4_takesEdge 7 = .ok (.iconst 0, 1) := by decide +kernel
theorem dX4_takesEdge_8 : decode cX4_takesEdge 8 = .ok (.ireturn, 1) := by decide +kernel
theorem dX4_takesEdge_9 : decode cX4_takesEdge 9 = .ok (.aload_n 0, 1) := by decide +kernel
theorem dX4_takesEdge_10 : decode cX4_takesEdge 10 = .ok (.getfield 15, 3) := by decide +kernel
theorem dX4_takesEdge_13 : decode cX4_takesEdge 13 = .ok (.iload_n 2, 1) := by decide +kernel
theorem dX4_takesEdge_14 : decode cX4_takesEdge 14 = .ok (.iload_n 1, 1) := by decide +kernel
theorem dX4_takesEdge_15 : decode cX4_takesEdge 15 = .ok (.bipush 48, 2) := by decide +kernel
theorem dX4_takesEdge_17 : decode cX4_takesEdge 17 = .ok (.isub, 1) := by decide +kernel
theorem dX4_takesEdge_18 : decode cX4_takesEdge 18 = .ok (.iastore, 1) := by decide +kernel
theorem dX4_takesEdge_19 : decode cX4_takesEdge 19 = .ok (.aload_n 0, 1) := by decide +kernel
theorem dX4_takesEdge_20 : decode cX4_takesEdge 20 = .ok (.getfield 18, 3) := by decide +kernel
theorem dX4_takesEdge_23 : decode cX4_takesEdge 23 = .ok (.iload_n 2, 1) := by decide +kernel
theorem dX4_takesEdge_24 : decode cX4_takesEdge 24 = .ok (.iconst 0, 1) := by decide +kernel
theorem dX4_takesEdge_25 : decode cX4_takesEdge 25 = .ok (.iastore, 1) := by decide +kernel
theorem dX4_takesEdge_26 : decode cX4_takesEdge 26 = .ok (.aload_n 0, 1) := by decide +kernel
theorem dX4_takesEdge_27 : decode cX4_takesEdge 27 = .ok (.iconst 2, 1) := by decide +kernel
theorem dX4_takesEdge_28 : decode cX4_takesEdge 28 = .ok (.putfield 28, 3) := by decide +kernel
theorem dX4_takesEdge_31 : decode cX4_takesEdge 31 = .ok (.iconst 1, 1) := by decide +kernel
theorem dX4_takesEdge_32 : decode cX4_takesEdge 32 = .ok (.ireturn, 1) := by decide +kernel
def f_X4_takesEdge (N : Nat) (σ : uS) (p1 : Int32) (p2 : Int32) : Option (Int32 × uS) := (f_X5_isDigit N σ p1).bind fun v1 =>
  if v1 = 0 then (some (0, σ)) else ((u_wI ZC σ 0 13 p2 (p1 - 48)).bind fun s2 =>
  (u_wI ZC s2 0 14 p2 0).bind fun s3 =>
  u_jn (u_pI s3 11 5 2) fun s4 =>
  some (1, s4))
set_option maxRecDepth 100000 in
set_option maxHeartbeats 4000000 in
theorem c_X4_takesEdge (l : Launch) (G : uG) (N : Nat) (σ : uS) (p1 : Int32) (p2 : Int32) (z : (Int32 × uS)) (hz : f_X4_takesEdge N σ p1 p2 = some z) : u_Mi l ZC G yX4_takesEdge cX4_takesEdge 3 .boolean 1 [.ref (G.2.2 11), .int p1, .int p2] σ z.1 z.2 := by
  refine u_Mi_of RX4 (by decide) rfl (Nat.le_of_ble_eq_true rfl) ?_
  intro p e s m args below meth c ls cx hw hl
  have hx := cx.1
  have hb := cx.2.1
  have hl : lv_has ls 3 [(0, .ref (G.2.2 11)), (1, .int p1), (2, .int p2)] := hl
  unfold f_X4_takesEdge at hz
  refine lv_iload_n hx hb dX4_takesEdge_0 rfl (lv_at hl 1 rfl) ?_
  obtain ⟨v1, hv1, hz⟩ := u_bind hz
  refine u_callTi (As := [.int p1]) (rest := []) cx hw LT_X4_42 (c_X5_isDigit l G N σ p1 v1 hv1) (by decide) hl.1 rfl (Nat.le_of_ble_eq_true rfl) dX4_takesEdge_1 rfl (fun H locs hw => ?_)
  refine lv_if_ne (tgt := 9) hx hb dX4_takesEdge_4 (by decide) (fun hc => ?_) (fun hc => ?_)
  · replace hz := u_iff hz hc
    refine lv_aload_n hx hb dX4_takesEdge_9 rfl (lv_at hl 0 rfl) ?_
    refine u_getp cx hw F_X4_15 o_X4 rfl dX4_takesEdge_10 ?_
    refine lv_iload_n hx hb dX4_takesEdge_13 rfl (lv_at hl 2 rfl) ?_
    refine lv_iload_n hx hb dX4_takesEdge_14 rfl (lv_at hl 1 rfl) ?_
    refine lv_bipush (v := 48) hx hb dX4_takesEdge_15 (by decide) ?_
    refine lv_isub hx hb dX4_takesEdge_17 ?_
    obtain ⟨s2, hs2, hz⟩ := u_bind hz
    refine u_iast cx hw hs2 dX4_takesEdge_18 (fun H locs hw => ?_)
    refine lv_aload_n hx hb dX4_takesEdge_19 rfl (lv_at hl 0 rfl) ?_
    refine u_getp cx hw F_X4_18 o_X4 rfl dX4_takesEdge_20 ?_
    refine lv_iload_n hx hb dX4_takesEdge_23 rfl (lv_at hl 2 rfl) ?_
    refine lv_iconst (v := 0) hx hb dX4_takesEdge_24 (by decide) ?_
    obtain ⟨s3, hs3, hz⟩ := u_bind hz
    refine u_iast cx hw hs3 dX4_takesEdge_25 (fun H locs hw => ?_)
    refine lv_aload_n hx hb dX4_takesEdge_26 rfl (lv_at hl 0 rfl) ?_
    refine lv_iconst (v := 2) hx hb dX4_takesEdge_27 (by decide) ?_
    obtain ⟨s4, es4, hz⟩ := u_let hz
    refine u_puti2 cx hw P_X4_28 o_X4 rfl es4 dX4_takesEdge_28 (fun H locs hw => ?_)
    refine lv_iconst (v := 1) hx hb dX4_takesEdge_31 (by decide) ?_
    exact u_zret cx hw (Or.inr rfl) (u_pair hz) dX4_takesEdge_32
  · replace hz := u_ift hz hc
    refine lv_iconst (v := 0) hx hb dX4_takesEdge_7 (by decide) ?_
    exact u_zret cx hw (Or.inl rfl) (u_pair hz) dX4_takesEdge_8
theorem dX4_takesLetter_0 : decode cX4_takesLetter 0 = .ok (.iload_n 1, 1) := by decide +kernel
theorem dX4_takesLetter_1 : decode cX4_takesLetter 1 = .ok (.bipush 97, 2) := by decide +kernel
theorem dX4_takesLetter_3 : decode cX4_takesLetter 3 = .ok (.isub, 1) := by decide +kernel
theorem dX4_takesLetter_4 : decode cX4_takesLetter 4 = .ok (.istore_n 3, 1) := by decide +kernel
theorem dX4_takesLetter_5 : decode cX4_takesLetter 5 = .ok (.iload_n 1, 1) := by decide +kernel
theorem dX4_takesLetter_6 : decode cX4_takesLetter 6 = .ok (.invokestatic 45, 3) := by decide +kernel
theorem dX4_takesLetter_9 : decode cX4_takesLetter 9 = .ok (.ifCond .eq 24, 3) := by decide +kernel
theorem dX4_takesLetter_12 : decode cX4_takesLetter 12 = .ok (.iload_n 3, 1) := by decide +kernel
theorem dX4_takesLetter_13 : decode cX4_takesLetter 13 = .ok (.aload_n 0, 1) := by decide +kernel
theorem dX4_takesLetter_14 : decode cX4_takesLetter 14 = .ok (.getfield 21, 3) := by decide +kernel
theorem dX4_takesLetter_17 : decode cX4_takesLetter 17 = .ok (.iload_n 2, 1) := by decide +kernel
theorem dX4_takesLetter_18 : decode cX4_takesLetter 18 = .ok (.iadd, 1) := by decide +kernel
theorem dX4_takesLetter_19 : decode cX4_takesLetter 19 = .ok (.if_icmp .eq 14, 3) := by decide +kernel
theorem dX4_takesLetter_22 : decode cX4_takesLetter 22 = .ok (.aload_n 0, 1) := by decide +kernel
theorem dX4_takesLetter_23 : decode cX4_takesLetter 23 = .ok (.getfield 18, 3) := by decide +kernel
theorem dX4_takesLetter_26 : decode cX4_takesLetter 26 = .ok (.iload_n 2, 1) := by decide +kernel
theorem dX4_takesLetter_27 : decode cX4_takesLetter 27 = .ok (.iaload, 1) := by decide +kernel
theorem dX4_takesLetter_28 : decode cX4_takesLetter 28 = .ok (.iload_n 3, 1) := by decide +kernel
theorem dX4_takesLetter_29 : decode cX4_takesLetter 29 = .ok (.ishr, 1) := by decide +kernel
theorem dX4_takesLetter_30 : decode cX4_takesLetter 30 = .ok (.ifCond .eq 5, 3) := by decide +kernel
theorem dX4_takesLetter_33 : decode cX4_takesLetter 33 = .ok (.iconst 0, 1) := by decide +kernel
theorem dX4_takesLetter_34 : decode cX4_takesLetter 34 = .ok (.ireturn, 1) := by decide +kernel
theorem dX4_takesLetter_35 : decode cX4_takesLetter 35 = .ok (.aload_n 0, 1) := by decide +kernel
theorem dX4_takesLetter_36 : decode cX4_takesLetter 36 = .ok (.getfield 18, 3) := by decide +kernel
theorem dX4_takesLetter_39 : decode cX4_takesLetter 39 = .ok (.iload_n 2, 1) := by decide +kernel
theorem dX4_takesLetter_40 : decode cX4_takesLetter 40 = .ok (.dup2, 1) := by decide +kernel
theorem dX4_takesLetter_41 : decode cX4_takesLetter 41 = .ok (.iaload, 1) := by decide +kernel
theorem dX4_takesLetter_42 : decode cX4_takesLetter 42 = .ok (.iconst 1, 1) := by decide +kernel
theorem dX4_takesLetter_43 : decode cX4_takesLetter 43 = .ok (.iload_n 3, 1) := by decide +kernel
theorem dX4_takesLetter_44 : decode cX4_takesLetter 44 = .ok (.ishl, 1) := by decide +kernel
theorem dX4_takesLetter_45 : decode cX4_takesLetter 45 = .ok (.ior, 1) := by decide +kernel
theorem dX4_takesLetter_46 : decode cX4_takesLetter 46 = .ok (.iastore, 1) := by decide +kernel
theorem dX4_takesLetter_47 : decode cX4_takesLetter 47 = .ok (.iconst 1, 1) := by decide +kernel
theorem dX4_takesLetter_48 : decode cX4_takesLetter 48 = .ok (.ireturn, 1) := by decide +kernel
def f_X4_takesLetter (N : Nat) (σ : uS) (p1 : Int32) (p2 : Int32) : Option (Int32 × uS) := u_jn ((p1 - 97) : Int32) fun x1 =>
  (f_X5_isLetter N σ p1).bind fun v2 =>
  if v2 = 0 then (some (0, σ)) else (if x1 = ((σ.1 11 3) + p2) then (some (0, σ)) else ((u_rI ZC σ 0 14 p2).bind fun v3 =>
  if (v3 >>> (x1 &&& 31)) = 0 then ((u_rI ZC σ 0 14 p2).bind fun v4 =>
  (u_wI ZC σ 0 14 p2 (v4 ||| (1 <<< (x1 &&& 31)))).bind fun s5 =>
  some (1, s5)) else (some (0, σ))))
set_option maxRecDepth 100000 in
set_option maxHeartbeats 4000000 in
theorem c_X4_takesLetter (l : Launch) (G : uG) (N : Nat) (σ : uS) (p1 : Int32) (p2 : Int32) (z : (Int32 × uS)) (hz : f_X4_takesLetter N σ p1 p2 = some z) : u_Mi l ZC G yX4_takesLetter cX4_takesLetter 4 .boolean 1 [.ref (G.2.2 11), .int p1, .int p2] σ z.1 z.2 := by
  refine u_Mi_of RX4 (by decide) rfl (Nat.le_of_ble_eq_true rfl) ?_
  intro p e s m args below meth c ls cx hw hl
  have hx := cx.1
  have hb := cx.2.1
  have hl : lv_has ls 4 [(0, .ref (G.2.2 11)), (1, .int p1), (2, .int p2)] := hl
  unfold f_X4_takesLetter at hz
  refine lv_iload_n hx hb dX4_takesLetter_0 rfl (lv_at hl 1 rfl) ?_
  refine lv_bipush (v := 97) hx hb dX4_takesLetter_1 (by decide) ?_
  refine lv_isub hx hb dX4_takesLetter_3 ?_
  obtain ⟨x1, ex1, hz⟩ := u_let hz
  refine u_topi ex1 ?_
  refine lv_istore_n (lv' := [(3, .int x1), (0, .ref (G.2.2 11)), (1, .int p1), (2, .int p2)]) hx hb dX4_takesLetter_4 rfl hl (by decide) rfl (fun ls hl => ?_)
  refine lv_iload_n hx hb dX4_takesLetter_5 rfl (lv_at hl 2 rfl) ?_
  obtain ⟨v2, hv2, hz⟩ := u_bind hz
  refine u_callTi (As := [.int p1]) (rest := []) cx hw LT_X4_45 (c_X5_isLetter l G N σ p1 v2 hv2) (by decide) hl.1 rfl (Nat.le_of_ble_eq_true rfl) dX4_takesLetter_6 rfl (fun H locs hw => ?_)
  refine lv_if_eq (tgt := 33) hx hb dX4_takesLetter_9 (by decide) (fun hc => ?_) (fun hc => ?_)
  · replace hz := u_ift hz hc
    refine lv_iconst (v := 0) hx hb dX4_takesLetter_33 (by decide) ?_
    exact u_zret cx hw (Or.inl rfl) (u_pair hz) dX4_takesLetter_34
  · replace hz := u_iff hz hc
    refine lv_iload_n hx hb dX4_takesLetter_12 rfl (lv_at hl 0 rfl) ?_
    refine lv_aload_n hx hb dX4_takesLetter_13 rfl (lv_at hl 1 rfl) ?_
    refine u_geti cx hw F_X4_21 o_X4 rfl dX4_takesLetter_14 ?_
    refine lv_iload_n hx hb dX4_takesLetter_17 rfl (lv_at hl 3 rfl) ?_
    refine lv_iadd hx hb dX4_takesLetter_18 ?_
    refine lv_icmp_eq (tgt := 33) hx hb dX4_takesLetter_19 (by decide) (fun hc => ?_) (fun hc => ?_)
    · replace hz := u_ift hz hc
      refine lv_iconst (v := 0) hx hb dX4_takesLetter_33 (by decide) ?_
      exact u_zret cx hw (Or.inl rfl) (u_pair hz) dX4_takesLetter_34
    · replace hz := u_iff hz hc
      refine lv_aload_n hx hb dX4_takesLetter_22 rfl (lv_at hl 1 rfl) ?_
      refine u_getp cx hw F_X4_18 o_X4 rfl dX4_takesLetter_23 ?_
      refine lv_iload_n hx hb dX4_takesLetter_26 rfl (lv_at hl 3 rfl) ?_
      obtain ⟨v3, hv3, hz⟩ := u_bind hz
      refine u_iald cx hw hv3 dX4_takesLetter_27 ?_
      refine lv_iload_n hx hb dX4_takesLetter_28 rfl (lv_at hl 0 rfl) ?_
      refine lv_ishr hx hb dX4_takesLetter_29 ?_
      refine lv_if_eq (tgt := 35) hx hb dX4_takesLetter_30 (by decide) (fun hc => ?_) (fun hc => ?_)
      · replace hz := u_ift hz hc
        refine lv_aload_n hx hb dX4_takesLetter_35 rfl (lv_at hl 1 rfl) ?_
        refine u_getp cx hw F_X4_18 o_X4 rfl dX4_takesLetter_36 ?_
        refine lv_iload_n hx hb dX4_takesLetter_39 rfl (lv_at hl 3 rfl) ?_
        refine lv_dup2_11 hx hb dX4_takesLetter_40 rfl rfl ?_
        obtain ⟨v4, hv4, hz⟩ := u_bind hz
        refine u_iald cx hw hv4 dX4_takesLetter_41 ?_
        refine lv_iconst (v := 1) hx hb dX4_takesLetter_42 (by decide) ?_
        refine lv_iload_n hx hb dX4_takesLetter_43 rfl (lv_at hl 0 rfl) ?_
        refine lv_ishl hx hb dX4_takesLetter_44 ?_
        refine lv_ior hx hb dX4_takesLetter_45 ?_
        obtain ⟨s5, hs5, hz⟩ := u_bind hz
        refine u_iast cx hw hs5 dX4_takesLetter_46 (fun H locs hw => ?_)
        refine lv_iconst (v := 1) hx hb dX4_takesLetter_47 (by decide) ?_
        exact u_zret cx hw (Or.inr rfl) (u_pair hz) dX4_takesLetter_48
      · replace hz := u_iff hz hc
        refine lv_iconst (v := 0) hx hb dX4_takesLetter_33 (by decide) ?_
        exact u_zret cx hw (Or.inl rfl) (u_pair hz) dX4_takesLetter_34
theorem dX11_readAnotherRule_0 : decode cX11_readAnotherRule 0 = .ok (.aload_n 0, 1) := by decide +kernel
theorem dX11_readAnotherRule_1 : decode cX11_readAnotherRule 1 = .ok (.getfield 93, 3) := by decide +kernel
theorem dX11_readAnotherRule_4 : decode cX11_readAnotherRule 4 = .ok (.invokevirtual 204, 3) := by decide +kernel
theorem dX11_readAnotherRule_7 : decode cX11_readAnotherRule 7 = .ok (.aload_n 0, 1) := by decide +kernel
theorem dX11_readAnotherRule_8 : decode cX11_readAnotherRule 8 = .ok (.getfield 10, 3) := by decide +kernel
theorem dX11_readAnotherRule_11 : decode cX11_readAnotherRule 11 = .ok (.getfield 100, 3) := by decide +kernel
theorem dX11_readAnotherRule_14 : decode cX11_readAnotherRule 14 = .ok (.ifCond .ne 7, 3) := by decide +kernel
theorem dX11_readAnotherRule_17 : decode cX11_readAnotherRule 17 = .ok (.iconst (-1), 1) := by decide +kernel
theorem dX11_readAnotherRule_18 : decode cX11_readAnotherRule 18 = .ok (.goto 16, 3) := by decide +kernel
theorem dX11_readAnotherRule_21 : decode cX11_readAnotherRule 21 = .ok (.aload_n 0, 1) := by decide +kernel
theorem dX11_readAnotherRule_22 : decode cX11_readAnotherRule 22 = .ok (.getfield 93, 3) := by decide +kernel
theorem dX11_readAnotherRule_25 : decode cX11_readAnotherRule 25 = .ok (.aload_n 0, 1) := by decide +kernel
theorem dX11_readAnotherRule_26 : decode cX11_readAnotherRule 26 = .ok (.getfield 10, 3) := by decide +kernel
theorem dX11_readAnotherRule_29 : decode cX11_readAnotherRule 29 = .ok (.bipush 40, 2) := by decide +kernel
theorem dX11_readAnotherRule_31 : decode cX11_readAnotherRule 31 = .ok (.invokevirtual 205, 3) := by decide +kernel
theorem dX11_readAnotherRule_34 : decode cX11_readAnotherRule 34 = .ok (.ireturn, 1) := by decide +kernel
def f_X11_readAnotherRule (N : Nat) (σ : uS) : Option (Int32 × uS) := (σ.2.2 0 14).bind fun v1 =>
  u_ck (isR v1) <|
  (f_X6_begin N σ v1).bind fun s2 =>
  if (s2.1 1 1) = 0 then (some ((-1), s2)) else ((s2.2.2 0 14).bind fun v3 =>
  u_ck (isR v3) <|
  (f_X5_wrongAt_X6 N s2 v3 40).bind fun v4 =>
  some (v4.1, v4.2))
set_option maxRecDepth 100000 in
set_option maxHeartbeats 4000000 in
theorem c_X11_readAnotherRule (l : Launch) (G : uG) (N : Nat) (σ : uS) (z : (Int32 × uS)) (hz : f_X11_readAnotherRule N σ = some z) : u_Mi l ZC G yX11_readAnotherRule cX11_readAnotherRule 1 .int 6 [.ref (G.2.2 0)] σ z.1 z.2 := by
  refine u_Mi_of RX11 (by decide) rfl (Nat.le_of_ble_eq_true rfl) ?_
  intro p e s m args below meth c ls cx hw hl
  have hx := cx.1
  have hb := cx.2.1
  have hl : lv_has ls 1 [(0, .ref (G.2.2 0))] := hl
  unfold f_X11_readAnotherRule at hz
  refine lv_aload_n hx hb dX11_readAnotherRule_0 rfl (lv_at hl 0 rfl) ?_
  obtain ⟨v1, hv1, hz⟩ := u_bind hz
  obtain ⟨qv1, hz⟩ := u_ck_some hz
  refine u_getr cx hw F_X11_93 o_X11 rfl hv1 dX11_readAnotherRule_1 ?_
  obtain ⟨s2, hs2, hz⟩ := u_bind hz
  refine u_callVv (As := []) (rest := []) cx hw LV_X11_204 (c_X6_begin l G N σ v1 (o_R qv1) s2 hs2) (o_R qv1) rfl (by decide) hl.1 rfl (Nat.le_of_ble_eq_true rfl) dX11_readAnotherRule_4 rfl (fun H locs hw => ?_)
  refine lv_aload_n hx hb dX11_readAnotherRule_7 rfl (lv_at hl 0 rfl) ?_
  refine u_getp cx hw F_X11_10 o_X11 rfl dX11_readAnotherRule_8 ?_
  refine u_geti cx hw F_X11_100 o_X10 rfl dX11_readAnotherRule_11 ?_
  refine lv_if_ne (tgt := 21) hx hb dX11_readAnotherRule_14 (by decide) (fun hc => ?_) (fun hc => ?_)
  · replace hz := u_iff hz hc
    refine lv_aload_n hx hb dX11_readAnotherRule_21 rfl (lv_at hl 0 rfl) ?_
    obtain ⟨v3, hv3, hz⟩ := u_bind hz
    obtain ⟨qv3, hz⟩ := u_ck_some hz
    refine u_getr cx hw F_X11_93 o_X11 rfl hv3 dX11_readAnotherRule_22 ?_
    refine lv_aload_n hx hb dX11_readAnotherRule_25 rfl (lv_at hl 0 rfl) ?_
    refine u_getp cx hw F_X11_10 o_X11 rfl dX11_readAnotherRule_26 ?_
    refine lv_bipush (v := 40) hx hb dX11_readAnotherRule_29 (by decide) ?_
    obtain ⟨v4, hv4, hz⟩ := u_bind hz
    refine u_callUi (As := [.ref (G.2.2 1), .int 40]) (rest := []) cx hw LU_X11_205 (c_X5_wrongAt_X6 l G N s2 v3 (o_R qv3) 40 v4 hv4) (o_R qv3) rfl (by decide) hl.1 rfl (Nat.le_of_ble_eq_true rfl) dX11_readAnotherRule_31 rfl (fun H locs hw => ?_)
    exact u_iret cx hw (u_pair hz) dX11_readAnotherRule_34
  · replace hz := u_ift hz hc
    refine lv_iconst (v := (-1)) hx hb dX11_readAnotherRule_17 (by decide) ?_
    refine lv_goto (tgt := 34) hx hb dX11_readAnotherRule_18 (by decide) ?_
    exact u_iret cx hw (u_pair hz) dX11_readAnotherRule_34
theorem dX12_tellPart_0 : decode cX12_tellPart 0 = .ok (.lload_n 1, 1) := by decide +kernel
theorem dX12_tellPart_1 : decode cX12_tellPart 1 = .ok (.lload_n 3, 1) := by decide +kernel
theorem dX12_tellPart_2 : decode cX12_tellPart 2 = .ok (.invokestatic 302, 3) := by decide +kernel
theorem dX12_tellPart_5 : decode cX12_tellPart 5 = .ok (.lstore 5, 2) := by decide +kernel
theorem dX12_tellPart_7 : decode cX12_tellPart 7 = .ok (.aload_n 0, 1) := by decide +kernel
theorem dX12_tellPart_8 : decode cX12_tellPart 8 = .ok (.iconst 0, 1) := by decide +kernel
theorem dX12_tellPart_9 : decode cX12_tellPart 9 = .ok (.putfield 80, 3) := by decide +kernel
theorem dX12_tellPart_12 : decode cX12_tellPart 12 = .ok (.aload_n 0, 1) := by decide +kernel
theorem dX12_tellPart_13 : decode cX12_tellPart 13 = .ok (.lload_n 1, 1) := by decide +kernel
theorem dX12_tellPart_14 : decode cX12_tellPart 14 = .ok (.lload 5, 2) := by decide +kernel
theorem dX12_tellPart_16 : decode cX12_tellPart 16 = .ok (.ldiv, 1) := by decide +kernel
theorem dX12_tellPart_17 : decode cX12_tellPart 17 = .ok (.invokevirtual 260, 3) := by decide +kernel
theorem dX12_tellPart_20 : decode cX12_tellPart 20 = .ok (.aload_n 0, 1) := by decide +kernel
theorem dX12_tellPart_21 : decode cX12_tellPart 21 = .ok (.lload_n 3, 1) := by decide +kernel
theorem dX12_tellPart_22 : decode cX12_tellPart 22 = .ok (.lload 5, 2) := by decide +kernel
theorem dX12_tellPart_24 : decode cX12_tellPart 24 = .ok (.ldiv, 1) := by decide +kernel
theorem dX12_tellPart_25 : decode cX12_tellPart 25 = .ok (.invokevirtual 260, 3) := by decide +kernel
theorem dX12_tellPart_28 : decode cX12_tellPart 28 = .ok (.return_, 1) := by decide +kernel
def f_X12_tellPart (N : Nat) (σ : uS) (p1 : Int64) (p3 : Int64) : Option uS := (f_X12_common N σ p1 p3).bind fun v1 =>
  u_jn (u_pI σ 0 7 0) fun s2 =>
  u_ck (¬ (v1 : Int64) = 0) <|
  (f_X12_tell N s2 (p1 / v1)).bind fun s3 =>
  u_ck (¬ (v1 : Int64) = 0) <|
  (f_X12_tell N s3 (p3 / v1)).bind fun s4 =>
  some s4
set_option maxRecDepth 100000 in
set_option maxHeartbeats 4000000 in
theorem c_X12_tellPart (l : Launch) (G : uG) (N : Nat) (σ : uS) (p1 : Int64) (p3 : Int64) (z : uS) (hz : f_X12_tellPart N σ p1 p3 = some z) : u_Mv l ZM G yX12_tellPart cX12_tellPart 7 101 [.ref (G.2.2 0), .long p1, .long p3] σ z := by
  refine u_Mv_of RX12 (by decide) rfl (Nat.le_of_ble_eq_true rfl) ?_
  intro p e s m args below meth c ls cx hw hl
  have hx := cx.1
  have hb := cx.2.1
  have hl : lv_has ls 7 [(0, .ref (G.2.2 0)), (1, .long p1), (3, .long p3)] := hl
  unfold f_X12_tellPart at hz
  refine lv_lload_n hx hb dX12_tellPart_0 rfl (lv_at hl 1 rfl) ?_
  refine lv_lload_n hx hb dX12_tellPart_1 rfl (lv_at hl 2 rfl) ?_
  obtain ⟨v1, hv1, hz⟩ := u_bind hz
  refine u_callSl (As := [.long p1, .long p3]) (rest := []) cx hw LS_X12_302 (c_X12_common l G N σ p1 p3 v1 hv1) (by decide) hl.1 rfl (Nat.le_of_ble_eq_true rfl) dX12_tellPart_2 rfl (fun H locs hw => ?_)
  refine lv_lstore (lv' := [(5, .long v1), (0, .ref (G.2.2 0)), (1, .long p1), (3, .long p3)]) hx hb dX12_tellPart_5 hl (by decide) rfl (fun ls hl => ?_)
  refine lv_aload_n hx hb dX12_tellPart_7 rfl (lv_at hl 1 rfl) ?_
  refine lv_iconst (v := 0) hx hb dX12_tellPart_8 (by decide) ?_
  obtain ⟨s2, es2, hz⟩ := u_let hz
  refine u_puti2 cx hw P_X12_80 o_X12 rfl es2 dX12_tellPart_9 (fun H locs hw => ?_)
  refine lv_aload_n hx hb dX12_tellPart_12 rfl (lv_at hl 1 rfl) ?_
  refine lv_lload_n hx hb dX12_tellPart_13 rfl (lv_at hl 2 rfl) ?_
  refine lv_lload hx hb dX12_tellPart_14 (lv_at hl 0 rfl) ?_
  obtain ⟨hne, hz⟩ := u_ck_some hz
  refine lv_ldiv hx hb dX12_tellPart_16 hne ?_
  obtain ⟨s3, hs3, hz⟩ := u_bind hz
  refine u_callVv (As := [.long (p1 / v1)]) (rest := []) cx hw LV_X12_260 (c_X12_tell l G N s2 (p1 / v1) s3 hs3) o_X12 rfl (by decide) hl.1 rfl (Nat.le_of_ble_eq_true rfl) dX12_tellPart_17 rfl (fun H locs hw => ?_)
  refine lv_aload_n hx hb dX12_tellPart_20 rfl (lv_at hl 1 rfl) ?_
  refine lv_lload_n hx hb dX12_tellPart_21 rfl (lv_at hl 3 rfl) ?_
  refine lv_lload hx hb dX12_tellPart_22 (lv_at hl 0 rfl) ?_
  obtain ⟨hne, hz⟩ := u_ck_some hz
  refine lv_ldiv hx hb dX12_tellPart_24 hne ?_
  obtain ⟨s4, hs4, hz⟩ := u_bind hz
  refine u_callVv (As := [.long (p3 / v1)]) (rest := []) cx hw LV_X12_260 (c_X12_tell l G N s3 (p3 / v1) s4 hs4) o_X12 rfl (by decide) hl.1 rfl (Nat.le_of_ble_eq_true rfl) dX12_tellPart_25 rfl (fun H locs hw => ?_)
  exact u_vret cx hw (Option.some.inj hz) dX12_tellPart_28
theorem dX12_floods_0 : decode cX12_floods 0 = .ok (.aload_n 0, 1) := by decide +kernel
theorem dX12_floods_1 : decode cX12_floods 1 = .ok (.iconst 0, 1) := by decide +kernel
theorem dX12_floods_2 : decode cX12_floods 2 = .ok (.putfield 77, 3) := by decide +kernel
theorem dX12_floods_5 : decode cX12_floods 5 = .ok (.iload_n 1, 1) := by decide +kernel
theorem dX12_floods_6 : decode cX12_floods 6 = .ok (.iconst 1, 1) := by decide +kernel
theorem dX12_floods_7 : decode cX12_floods 7 = .ok (.bipush 12, 2) := by decide +kernel
theorem dX12_floods_9 : decode cX12_floods 9 = .ok (.invokestatic 86, 3) := by decide +kernel
theorem dX12_floods_12 : decode cX12_floods 12 = .ok (.ifCond .eq 23, 3) := by decide +kernel
theorem dX12_floods_15 : decode cX12_floods 15 = .ok (.iload_n 2, 1) := by decide +kernel
theorem dX12_floods_16 : decode cX12_floods 16 = .ok (.iconst 0, 1) := by decide +kernel
theorem dX12_floods_17 : decode cX12_floods 17 = .ok (.bipush 12, 2) := by decide +kernel
theorem dX12_floods_19 : decode cX12_floods 19 = .ok (.invokestatic 86, 3) := by decide +kernel
theorem dX12_floods_22 : decode cX12_floods 22 = .ok (.ifCond .eq 13, 3) := by decide +kernel
theorem dX12_floods_25 : decode cX12_floods 25 = .ok (.iload_n 3, 1) := by decide +kernel
theorem dX12_floods_26 : decode cX12_floods 26 = .ok (.iconst 0, 1) := by decide +kernel
theorem dX12_floods_27 : decode cX12_floods 27 = .ok (.bipush 10, 2) := by decide +kernel
theorem dX12_floods_29 : decode cX12_floods 29 = .ok (.invokestatic 86, 3) := by decide +kernel
theorem dX12_floods_32 : decode cX12_floods 32 = .ok (.ifCond .ne 5, 3) := by decide +kernel
theorem dX12_floods_35 : decode cX12_floods 35 = .ok (.iconst (-1), 1) := by decide +kernel
theorem dX12_floods_36 : decode cX12_floods 36 = .ok (.ireturn, 1) := by decide +kernel
theorem dX12_floods_37 : decode cX12_floods 37 = .ok (.lconst 0, 1) := by decide +kernel
theorem dX12_floods_38 : decode cX12_floods 38 = .ok (.lstore 4, 2) := by decide +kernel
theorem dX12_floods_40 : decode cX12_floods 40 = .ok (.lconst 1, 1) := by decide +kernel
theorem dX12_floods_41 : decode cX12_floods 41 = .ok (.lstore 6, 2) := by decide +kernel
theorem dX12_floods_43 : decode cX12_floods 43 = .ok (.iconst 0, 1) := by decide +kernel
theorem dX12_floods_44 : decode cX12_floods 44 = .ok (.istore 8, 2) := by decide +kernel
theorem dX12_floods_46 : decode cX12_floods 46 = .ok (.iload 8, 2) := by decide +kernel
theorem dX12_floods_48 : decode cX12_floods 48 = .ok (.iload_n 1, 1) := by decide +kernel
theorem dX12_floods_49 : decode cX12_floods 49 = .ok (.if_icmp .gt 63, 3) := by decide +kernel
theorem dX12_floods_52 : decode cX12_floods 52 = .ok (.lload 4, 2) := by decide +kernel
theorem dX12_floods_54 : decode cX12_floods 54 = .ok (.iload 8, 2) := by decide +kernel
theorem dX12_floods_56 : decode cX12_floods 56 = .ok (.iload_n 2, 1) := by decide +kernel
theorem dX12_floods_57 : decode cX12_floods 57 = .ok (.if_icmp .lt 29, 3) := by decide +kernel
theorem dX12_floods_60 : decode cX12_floods 60 = .ok (.lload 6, 2) := by decide +kernel
theorem dX12_floods_62 : decode cX12_floods 62 = .ok (.iload_n 3, 1) := by decide +kernel
theorem dX12_floods_63 : decode cX12_floods 63 = .ok (.i2l, 1) := by decide +kernel
theorem dX12_floods_64 : decode cX12_floods 64 = .ok (.iload 8, 2) := by decide +kernel
theorem dX12_floods_66 : decode cX12_floods 66 = .ok (.invokestatic 329, 3) := by decide +kernel
theorem dX12_floods_69 : decode cX12_floods 69 = .ok (.lmul, 1) := by decide +kernel
theorem dX12_floods_70 : decode cX12_floods 70 = .ok (.bipush 10, 2) := by decide +kernel
theorem dX12_floods_72 : decode cX12_floods 72 = .ok (.iload_n 3, 1) := by decide +kernel
theorem dX12_floods_73 : decode cX12_floods 73 = .ok (.isub, 1) := by decide +kernel
theorem dX12_floods_74 : decode cX12_floods 74 = .ok (.i2l, 1) := by decide +kernel
theorem dX12_floods_75 : decode cX12_floods 75 = .ok (.iload_n 1, 1) := by decide +kernel
theorem dX12_floods_76 : decode cX12_floods 76 = .ok (.iload 8, 2) := by decide +kernel
theorem dX12_floods_78 : decode cX12_floods 78 = .ok (.isub, 1) := by decide +kernel
theorem dX12_floods_79 : decode cX12_floods 79 = .ok (.invokestatic 329, 3) := by decide +kernel
theorem dX12_floods_82 : decode cX12_floods 82 = .ok (.lmul, 1) := by decide +kernel
theorem dX12_floods_83 : decode cX12_floods 83 = .ok (.goto 4, 3) := by decide +kernel
theorem dX12_floods_86 : decode cX12_floods 86 = .ok (.lconst 0, 1) := by decide +kernel
theorem dX12_floods_87 : decode cX12_floods 87 = .ok (.ladd, 1) := by decide +kernel
theorem dX12_floods_88 : decode cX12_floods 88 = .ok (.lstore 4, 2) := by decide +kernel
theorem dX12_floods_90 : decode cX12_floods 90 = .ok (.lload 6, 2) := by decide +kernel
theorem dX12_floods_92 : decode cX12_floods 92 = .ok (.iload_n 1, 1) := by decide +kernel
theorem dX12_floods_93 : decode cX12_floods 93 = .ok (.iload 8, 2) := by decide +kernel
theorem dX12_floods_95 : decode cX12_floods 95 = .ok (.isub, 1) := by decide +kernel
theorem dX12_floods_96 : decode cX12_floods 96 = .ok (.i2l, 1) := by decide +kernel
theorem dX12_floods_97 : decode cX12_floods 97 = .ok (.lmul, 1) := by decide +kernel
theorem dX12_floods_98 : decode cX12_floods 98 = .ok (.iload 8, 2) := by decide +kernel
theorem dX12_floods_100 : decode cX12_floods 100 = .ok (.iconst 1, 1) := by decide +kernel
theorem dX12_floods_101 : decode cX12_floods 101 = .ok (.iadd, 1) := by decide +kernel
theorem dX12_floods_102 : decode cX12_floods 102 = .ok (.i2l, 1) := by decide +kernel
theorem dX12_floods_103 : decode cX12_floods 103 = .ok (.ldiv, 1) := by decide +kernel
theorem dX12_floods_104 : decode cX12_floods 104 = .ok (.lstore 6, 2) := by decide +kernel
theorem dX12_floods_106 : decode cX12_floods 106 = .ok (.iinc 8 1, 3) := by decide +kernel
theorem dX12_floods_109 : decode cX12_floods 109 = .ok (.goto (-63), 3) := by decide +kernel
theorem dX12_floods_112 : decode cX12_floods 112 = .ok (.aload_n 0, 1) := by decide +kernel
theorem dX12_floods_113 : decode cX12_floods 113 = .ok (.lload 4, 2) := by decide +kernel
theorem dX12_floods_115 : decode cX12_floods 115 = .ok (.ldc2_w 280, 3) := by decide +kernel
theorem dX12_floods_118 : decode cX12_floods 118 = .ok (.iload_n 1, 1) := by decide +kernel
theorem dX12_floods_119 : decode cX12_floods 119 = .ok (.invokestatic 329, 3) := by decide +kernel
theorem dX12_floods_122 : decode cX12_floods 122 = .ok (.invokevirtual 306, 3) := by decide +kernel
theorem dX12_floods_125 : decode cX12_floods 125 = .ok (.iconst 0, 1) := by decide +kernel
theorem dX12_floods_126 : decode cX12_floods 126 = .ok (.ireturn, 1) := by decide +kernel
def b_X12_floods_46 (N : Nat) (p1 : Int32) (p2 : Int32) (p3 : Int32) (s1 : uS) (J112_6 : Int64 → Option (Int32 × uS)) (rec46_12 : Int64 → Int64 → Int32 → Option (Int32 × uS)) (x9 : Int64) (x10 : Int64) (x11 : Int32) : Option (Int32 × uS) :=
  if p1 < x11 then (J112_6 x9) else (u_jn (fun (t13 : Int64) => (u_jn ((x9 + t13) : Int64) fun x15 =>
  u_ck (¬ ((Int32.toInt64 (x11 + 1)) : Int64) = 0) <|
  u_jn (((x10 * (Int32.toInt64 (p1 - x11))) / (Int32.toInt64 (x11 + 1))) : Int64) fun x16 =>
  u_jn (x11 + 1 : Int32) fun x17 =>
  rec46_12 x15 x16 x17 : Option (Int32 × uS))) fun J87_14 =>
  if x11 < p2 then (J87_14 0) else ((f_X12_power N s1 (Int32.toInt64 p3) x11).bind fun v18 =>
  (f_X12_power N s1 (Int32.toInt64 (10 - p3)) (p1 - x11)).bind fun v19 =>
  J87_14 ((x10 * v18) * v19)))
def f_X12_floods (N : Nat) (σ : uS) (p1 : Int32) (p2 : Int32) (p3 : Int32) : Option (Int32 × uS) := u_jn (u_pI σ 0 8 0) fun s1 =>
  (f_X12_in N s1 p1 1 12).bind fun v2 =>
  if v2 = 0 then (some ((-1), s1)) else ((f_X12_in N s1 p2 0 12).bind fun v3 =>
  if v3 = 0 then (some ((-1), s1)) else ((f_X12_in N s1 p3 0 10).bind fun v4 =>
  if v4 = 0 then (some ((-1), s1)) else (u_jn (fun (x5 : Int64) => ((f_X12_power N s1 10 p1).bind fun v7 =>
  (f_X12_tellPart N s1 x5 v7).bind fun s8 =>
  some (0, s8) : Option (Int32 × uS))) fun J112_6 =>
  u_lp3 (b_X12_floods_46 N p1 p2 p3 s1 J112_6) N 0 1 0)))
set_option maxRecDepth 100000 in
set_option maxHeartbeats 4000000 in
theorem c_X12_floods (l : Launch) (G : uG) (N : Nat) (σ : uS) (p1 : Int32) (p2 : Int32) (p3 : Int32) (z : (Int32 × uS)) (hz : f_X12_floods N σ p1 p2 p3 = some z) : u_Mi l ZM G yX12_floods cX12_floods 9 .int 102 [.ref (G.2.2 0), .int p1, .int p2, .int p3] σ z.1 z.2 := by
  refine u_Mi_of RX12 (by decide) rfl (Nat.le_of_ble_eq_true rfl) ?_
  intro p e s m args below meth c ls cx hw hl
  have hx := cx.1
  have hb := cx.2.1
  have hl : lv_has ls 9 [(0, .ref (G.2.2 0)), (1, .int p1), (2, .int p2), (3, .int p3)] := hl
  unfold f_X12_floods at hz
  refine lv_aload_n hx hb dX12_floods_0 rfl (lv_at hl 0 rfl) ?_
  refine lv_iconst (v := 0) hx hb dX12_floods_1 (by decide) ?_
  obtain ⟨s1, es1, hz⟩ := u_let hz
  refine u_puti2 cx hw P_X12_77 o_X12 rfl es1 dX12_floods_2 (fun H locs hw => ?_)
  refine lv_iload_n hx hb dX12_floods_5 rfl (lv_at hl 1 rfl) ?_
  refine lv_iconst (v := 1) hx hb dX12_floods_6 (by decide) ?_
  refine lv_bipush (v := 12) hx hb dX12_floods_7 (by decide) ?_
  obtain ⟨v2, hv2, hz⟩ := u_bind hz
  refine u_callSi (As := [.int p1, .int 1, .int 12]) (rest := []) cx hw LS_X12_86 (c_X12_in l G N s1 p1 1 12 v2 hv2) (by decide) hl.1 rfl (Nat.le_of_ble_eq_true rfl) dX12_floods_9 rfl (fun H locs hw => ?_)
  refine lv_if_eq (tgt := 35) hx hb dX12_floods_12 (by decide) (fun hc => ?_) (fun hc => ?_)
  · replace hz := u_ift hz hc
    refine lv_iconst (v := (-1)) hx hb dX12_floods_35 (by decide) ?_
    exact u_iret cx hw (u_pair hz) dX12_floods_36
  · replace hz := u_iff hz hc
    refine lv_iload_n hx hb dX12_floods_15 rfl (lv_at hl 2 rfl) ?_
    refine lv_iconst (v := 0) hx hb dX12_floods_16 (by decide) ?_
    refine lv_bipush (v := 12) hx hb dX12_floods_17 (by decide) ?_
    obtain ⟨v3, hv3, hz⟩ := u_bind hz
    refine u_callSi (As := [.int p2, .int 0, .int 12]) (rest := []) cx hw LS_X12_86 (c_X12_in l G N s1 p2 0 12 v3 hv3) (by decide) hl.1 rfl (Nat.le_of_ble_eq_true rfl) dX12_floods_19 rfl (fun H locs hw => ?_)
    refine lv_if_eq (tgt := 35) hx hb dX12_floods_22 (by decide) (fun hc => ?_) (fun hc => ?_)
    · replace hz := u_ift hz hc
      refine lv_iconst (v := (-1)) hx hb dX12_floods_35 (by decide) ?_
      exact u_iret cx hw (u_pair hz) dX12_floods_36
    · replace hz := u_iff hz hc
      refine lv_iload_n hx hb dX12_floods_25 rfl (lv_at hl 3 rfl) ?_
      refine lv_iconst (v := 0) hx hb dX12_floods_26 (by decide) ?_
      refine lv_bipush (v := 10) hx hb dX12_floods_27 (by decide) ?_
      obtain ⟨v4, hv4, hz⟩ := u_bind hz
      refine u_callSi (As := [.int p3, .int 0, .int 10]) (rest := []) cx hw LS_X12_86 (c_X12_in l G N s1 p3 0 10 v4 hv4) (by decide) hl.1 rfl (Nat.le_of_ble_eq_true rfl) dX12_floods_29 rfl (fun H locs hw => ?_)
      refine lv_if_ne (tgt := 37) hx hb dX12_floods_32 (by decide) (fun hc => ?_) (fun hc => ?_)
      · replace hz := u_iff hz hc
        refine lv_lconst (v := 0) hx hb dX12_floods_37 (by decide) ?_
        refine lv_lstore (lv' := [(4, .long 0), (0, .ref (G.2.2 0)), (1, .int p1), (2, .int p2), (3, .int p3)]) hx hb dX12_floods_38 hl (by decide) rfl (fun ls hl => ?_)
        refine lv_lconst (v := 1) hx hb dX12_floods_40 (by decide) ?_
        refine lv_lstore (lv' := [(6, .long 1), (4, .long 0), (0, .ref (G.2.2 0)), (1, .int p1), (2, .int p2), (3, .int p3)]) hx hb dX12_floods_41 hl (by decide) rfl (fun ls hl => ?_)
        refine lv_iconst (v := 0) hx hb dX12_floods_43 (by decide) ?_
        refine lv_istore (lv' := [(8, .int 0), (6, .long 1), (4, .long 0), (0, .ref (G.2.2 0)), (1, .int p1), (2, .int p2), (3, .int p3)]) hx hb dX12_floods_44 hl (by decide) rfl (fun ls hl => ?_)
        obtain ⟨J112_6, eJ112_6, hz⟩ := u_let hz
        have WJ112_6 : ∀ (x5 : Int64) (H : Heap) (locs : List Loc) (ls : Array Slot), J112_6 x5 = some z → u_W ZM G s1 s H locs → lv_has ls 9 [(0, .ref (G.2.2 0)), (1, .int p1), (4, .long x5)] → W p l e (u_rm 102) s m args below meth c H locs 0 0 (u_Qi below ZM G s args z.1 z.2) (F0 m 112 ls []) := by
          intro x5 H locs ls hz hw hl
          rw [eJ112_6] at hz
          refine lv_aload_n hx hb dX12_floods_112 rfl (lv_at hl 0 rfl) ?_
          refine lv_lload hx hb dX12_floods_113 (lv_at hl 2 rfl) ?_
          refine u_ldc2 cx q_1448 dX12_floods_115 ?_
          refine lv_iload_n hx hb dX12_floods_118 rfl (lv_at hl 1 rfl) ?_
          obtain ⟨v7, hv7, hz⟩ := u_bind hz
          refine u_callSl (As := [.long 10, .int p1]) (rest := [.long x5, .ref (G.2.2 0)]) cx hw LS_X12_329 (c_X12_power l G N s1 10 p1 v7 hv7) (by decide) hl.1 rfl (Nat.le_of_ble_eq_true rfl) dX12_floods_119 rfl (fun H locs hw => ?_)
          obtain ⟨s8, hs8, hz⟩ := u_bind hz
          refine u_callVv (As := [.long x5, .long v7]) (rest := []) cx hw LV_X12_306 (c_X12_tellPart l G N s1 x5 v7 s8 hs8) o_X12 rfl (by decide) hl.1 rfl (Nat.le_of_ble_eq_true rfl) dX12_floods_122 rfl (fun H locs hw => ?_)
          refine lv_iconst (v := 0) hx hb dX12_floods_125 (by decide) ?_
          exact u_iret cx hw (u_pair hz) dX12_floods_126
        have WL46_19 : ∀ (k : Nat) (x9 : Int64) (x10 : Int64) (x11 : Int32) (H : Heap) (locs : List Loc) (ls : Array Slot), u_lp3 (b_X12_floods_46 N p1 p2 p3 s1 J112_6) k x9 x10 x11 = some z → u_W ZM G s1 s H locs → lv_has ls 9 [(0, .ref (G.2.2 0)), (1, .int p1), (2, .int p2), (3, .int p3), (4, .long x9), (6, .long x10), (8, .int x11)] → W p l e (u_rm 102) s m args below meth c H locs 0 0 (u_Qi below ZM G s args z.1 z.2) (F0 m 46 ls []) := by
          intro k
          induction k with
          | zero =>
            intro x9 x10 x11 H locs ls hz
            exact absurd hz (by intro h9; cases h9)
          | succ k ih46_12 =>
            intro x9 x10 x11 H locs ls hz hw hl
            have hz : (b_X12_floods_46 N p1 p2 p3 s1 J112_6) (u_lp3 (b_X12_floods_46 N p1 p2 p3 s1 J112_6) k) x9 x10 x11 = some z := hz
            unfold b_X12_floods_46 at hz
            refine lv_iload hx hb dX12_floods_46 (lv_at hl 6 rfl) ?_
            refine lv_iload_n hx hb dX12_floods_48 rfl (lv_at hl 1 rfl) ?_
            refine lv_icmp_gt (tgt := 112) hx hb dX12_floods_49 (by decide) (fun hc => ?_) (fun hc => ?_)
            · replace hz := u_ift hz hc
              exact WJ112_6 x9 _ _ _ hz hw (lv_sub hl [0, 1, 4] rfl)
            · replace hz := u_iff hz hc
              refine lv_lload hx hb dX12_floods_52 (lv_at hl 4 rfl) ?_
              refine lv_iload hx hb dX12_floods_54 (lv_at hl 6 rfl) ?_
              refine lv_iload_n hx hb dX12_floods_56 rfl (lv_at hl 2 rfl) ?_
              obtain ⟨J87_14, eJ87_14, hz⟩ := u_let hz
              have WJ87_14 : ∀ (t13 : Int64) (H : Heap) (locs : List Loc) (ls : Array Slot), J87_14 t13 = some z → u_W ZM G s1 s H locs → lv_has ls 9 [(0, .ref (G.2.2 0)), (1, .int p1), (2, .int p2), (3, .int p3), (6, .long x10), (8, .int x11)] → W p l e (u_rm 102) s m args below meth c H locs 0 0 (u_Qi below ZM G s args z.1 z.2) (F0 m 87 ls [.long t13, .long x9]) := by
                intro t13 H locs ls hz hw hl
                rw [eJ87_14] at hz
                refine lv_ladd hx hb dX12_floods_87 ?_
                obtain ⟨x15, ex15, hz⟩ := u_let hz
                refine u_topl ex15 ?_
                refine lv_lstore (lv' := [(4, .long x15), (0, .ref (G.2.2 0)), (1, .int p1), (2, .int p2), (3, .int p3), (6, .long x10), (8, .int x11)]) hx hb dX12_floods_88 hl (by decide) rfl (fun ls hl => ?_)
                refine lv_lload hx hb dX12_floods_90 (lv_at hl 5 rfl) ?_
                refine lv_iload_n hx hb dX12_floods_92 rfl (lv_at hl 2 rfl) ?_
                refine lv_iload hx hb dX12_floods_93 (lv_at hl 6 rfl) ?_
                refine lv_isub hx hb dX12_floods_95 ?_
                refine lv_i2l (v := (Int32.toInt64 (p1 - x11))) hx hb dX12_floods_96 rfl ?_
                refine lv_lmul hx hb dX12_floods_97 ?_
                refine lv_iload hx hb dX12_floods_98 (lv_at hl 6 rfl) ?_
                refine lv_iconst (v := 1) hx hb dX12_floods_100 (by decide) ?_
                refine lv_iadd hx hb dX12_floods_101 ?_
                refine lv_i2l (v := (Int32.toInt64 (x11 + 1))) hx hb dX12_floods_102 rfl ?_
                obtain ⟨hne, hz⟩ := u_ck_some hz
                refine lv_ldiv hx hb dX12_floods_103 hne ?_
                obtain ⟨x16, ex16, hz⟩ := u_let hz
                refine u_topl ex16 ?_
                refine lv_lstore (lv' := [(6, .long x16), (4, .long x15), (0, .ref (G.2.2 0)), (1, .int p1), (2, .int p2), (3, .int p3), (8, .int x11)]) hx hb dX12_floods_104 hl (by decide) rfl (fun ls hl => ?_)
                obtain ⟨x17, ex17, hz⟩ := u_let hz
                refine lv_iinc (v := x17) (lv' := [(8, .int x17), (6, .long x16), (4, .long x15), (0, .ref (G.2.2 0)), (1, .int p1), (2, .int p2), (3, .int p3)]) hx hb dX12_floods_106 hl (k := 6) rfl (by rw [ex17]; rfl) (by decide) rfl (fun ls hl => ?_)
                refine lv_goto (tgt := 46) hx hb dX12_floods_109 (by decide) ?_
                exact ih46_12 x15 x16 x17 _ _ _ hz hw (lv_sub hl [3, 4, 5, 6, 2, 1, 0] rfl)
              refine lv_icmp_lt (tgt := 86) hx hb dX12_floods_57 (by decide) (fun hc => ?_) (fun hc => ?_)
              · replace hz := u_ift hz hc
                refine lv_lconst (v := 0) hx hb dX12_floods_86 (by decide) ?_
                exact WJ87_14 0 _ _ _ hz hw (lv_sub hl [0, 1, 2, 3, 5, 6] rfl)
              · replace hz := u_iff hz hc
                refine lv_lload hx hb dX12_floods_60 (lv_at hl 5 rfl) ?_
                refine lv_iload_n hx hb dX12_floods_62 rfl (lv_at hl 3 rfl) ?_
                refine lv_i2l (v := (Int32.toInt64 p3)) hx hb dX12_floods_63 rfl ?_
                refine lv_iload hx hb dX12_floods_64 (lv_at hl 6 rfl) ?_
                obtain ⟨v18, hv18, hz⟩ := u_bind hz
                refine u_callSl (As := [.long (Int32.toInt64 p3), .int x11]) (rest := [.long x10, .long x9]) cx hw LS_X12_329 (c_X12_power l G N s1 (Int32.toInt64 p3) x11 v18 hv18) (by decide) hl.1 rfl (Nat.le_of_ble_eq_true rfl) dX12_floods_66 rfl (fun H locs hw => ?_)
                refine lv_lmul hx hb dX12_floods_69 ?_
                refine lv_bipush (v := 10) hx hb dX12_floods_70 (by decide) ?_
                refine lv_iload_n hx hb dX12_floods_72 rfl (lv_at hl 3 rfl) ?_
                refine lv_isub hx hb dX12_floods_73 ?_
                refine lv_i2l (v := (Int32.toInt64 (10 - p3))) hx hb dX12_floods_74 rfl ?_
                refine lv_iload_n hx hb dX12_floods_75 rfl (lv_at hl 1 rfl) ?_
                refine lv_iload hx hb dX12_floods_76 (lv_at hl 6 rfl) ?_
                refine lv_isub hx hb dX12_floods_78 ?_
                obtain ⟨v19, hv19, hz⟩ := u_bind hz
                refine u_callSl (As := [.long (Int32.toInt64 (10 - p3)), .int (p1 - x11)]) (rest := [.long (x10 * v18), .long x9]) cx hw LS_X12_329 (c_X12_power l G N s1 (Int32.toInt64 (10 - p3)) (p1 - x11) v19 hv19) (by decide) hl.1 rfl (Nat.le_of_ble_eq_true rfl) dX12_floods_79 rfl (fun H locs hw => ?_)
                refine lv_lmul hx hb dX12_floods_82 ?_
                refine lv_goto (tgt := 87) hx hb dX12_floods_83 (by decide) ?_
                exact WJ87_14 ((x10 * v18) * v19) _ _ _ hz hw (lv_sub hl [0, 1, 2, 3, 5, 6] rfl)
        exact WL46_19 N 0 1 0 _ _ _ hz hw (lv_sub hl [3, 4, 5, 6, 2, 1, 0] rfl)
      · replace hz := u_ift hz hc
        refine lv_iconst (v := (-1)) hx hb dX12_floods_35 (by decide) ?_
        exact u_iret cx hw (u_pair hz) dX12_floods_36
