theorem dX11_furrow_0 : decode cX11_furrow 0 = .ok (.aload_n 0, 1) := by decide +kernel
theorem dX11_furrow_1 : decode cX11_furrow 1 = .ok (.getfield 26, 3) := by decide +kernel
theorem dX11_furrow_4 : decode cX11_furrow 4 = .ok (.iload_n 1, 1) := by decide +kernel
theorem dX11_furrow_5 : decode cX11_furrow 5 = .ok (.invokevirtual 140, 3) := by decide +kernel
theorem dX11_furrow_8 : decode cX11_furrow 8 = .ok (.ifCond .eq 12, 3) := by decide +kernel
theorem dX11_furrow_11 : decode cX11_furrow 11 = .ok (.iload_n 2, 1) := by decide +kernel
theorem dX11_furrow_12 : decode cX11_furrow 12 = .ok (.ifCond .lt 8, 3) := by decide +kernel
theorem dX11_furrow_15 : decode cX11_furrow 15 = .ok (.iload_n 2, 1) := by decide +kernel
theorem dX11_furrow_16 : decode cX11_furrow 16 = .ok (.iconst 1, 1) := by decide +kernel
theorem dX11_furrow_17 : decode cX11_furrow 17 = .ok (.if_icmp .le 13, 3) := by decide +kernel
theorem dX11_furrow_20 : decode cX11_furrow 20 = .ok (.new 143, 3) := by decide +kernel
theorem dX11_furrow_23 : decode cX11_furrow 23 = .ok (.dup, 1) := by decide +kernel
theorem dX11_furrow_24 : decode cX11_furrow 24 = .ok (.ldc 145, 2) := by decide +kernel
theorem dX11_furrow_26 : decode cX11_furrow 26 = .ok (.invokespecial 147, 3) := by decide +kernel
theorem dX11_furrow_29 : decode cX11_furrow 29 = .ok (.athrow, 1) := by decide +kernel
theorem dX11_furrow_30 : decode cX11_furrow 30 = .ok (.iload_n 2, 1) := by decide +kernel
theorem dX11_furrow_31 : decode cX11_furrow 31 = .ok (.ifCond .ne 13, 3) := by decide +kernel
theorem dX11_furrow_34 : decode cX11_furrow 34 = .ok (.aload_n 0, 1) := by decide +kernel
theorem dX11_furrow_35 : decode cX11_furrow 35 = .ok (.getfield 26, 3) := by decide +kernel
theorem dX11_furrow_38 : decode cX11_furrow 38 = .ok (.getfield 150, 3) := by decide +kernel
theorem dX11_furrow_41 : decode cX11_furrow 41 = .ok (.iload_n 1, 1) := by decide +kernel
theorem dX11_furrow_42 : decode cX11_furrow 42 = .ok (.iaload, 1) := by decide +kernel
theorem dX11_furrow_43 : decode cX11_furrow 43 = .ok (.ireturn, 1) := by decide +kernel
theorem dX11_furrow_44 : decode cX11_furrow 44 = .ok (.aload_n 0, 1) := by decide +kernel
theorem dX11_furrow_45 : decode cX11_furrow 45 = .ok (.getfield 26, 3) := by decide +kernel
theorem dX11_furrow_48 : decode cX11_furrow 48 = .ok (.iload_n 1, 1) := by decide +kernel
theorem dX11_furrow_49 : decode cX11_furrow 49 = .ok (.invokevirtual 153, 3) := by decide +kernel
theorem dX11_furrow_52 : decode cX11_furrow 52 = .ok (.ifCond .eq 7, 3) := by decide +kernel
theorem dX11_furrow_55 : decode cX11_furrow 55 = .ok (.iconst 1, 1) := by decide +kernel
theorem dX11_furrow_56 : decode cX11_furrow 56 = .ok (.goto 4, 3) := by decide +kernel
theorem dX11_furrow_59 : decode cX11_furrow 59 = .ok (.iconst 0, 1) := by decide +kernel
theorem dX11_furrow_60 : decode cX11_furrow 60 = .ok (.ireturn, 1) := by decide +kernel
def f_X11_furrow (N : Nat) (σ : uS) (p1 : Int32) (p2 : Int32) : Option (Option Int32 × uS) := (f_X7_isFurrow N σ 32 p1).bind fun v1 =>
  u_jn ((some (none, σ) : Option (Option Int32 × uS))) fun J20_2 =>
  if v1 = 0 then (J20_2) else (if p2 < 0 then (J20_2) else (if p2 ≤ 1 then (if p2 = 0 then ((u_rI ZC σ 0 33 p1).bind fun v4 =>
  some (some v4, σ)) else ((f_X7_isOfRope N σ 32 p1).bind fun v3 =>
  if v3 = 0 then (some (some 0, σ)) else (some (some 1, σ)))) else (J20_2)))
set_option maxRecDepth 100000 in
set_option maxHeartbeats 4000000 in
theorem c_X11_furrow (l : Launch) (hl0 : l.stackTraces = false) (G : uG) (N : Nat) (σ : uS) (p1 : Int32) (p2 : Int32) (z : (Option Int32 × uS)) (hz : f_X11_furrow N σ p1 p2 = some z) : x_Mi l G yX11_furrow cX11_furrow 3 6 [.ref (G.2.2 0), .int p1, .int p2] σ z := by
  refine x_Mi_of RX11 (by decide) rfl (Nat.le_of_ble_eq_true rfl) ?_
  intro p e s m args below meth c ls cx hnt hxk hw hl
  have hx := cx.1
  have hb := cx.2.1
  have hl : lv_has ls 3 [(0, .ref (G.2.2 0)), (1, .int p1), (2, .int p2)] := hl
  unfold f_X11_furrow at hz
  refine lv_aload_n hx hb dX11_furrow_0 rfl (lv_at hl 0 rfl) ?_
  refine u_getp cx hw F_X11_26 o_X11 rfl dX11_furrow_1 ?_
  refine lv_iload_n hx hb dX11_furrow_4 rfl (lv_at hl 1 rfl) ?_
  obtain ⟨v1, hv1, hz⟩ := u_bind hz
  refine x_callVi (As := [.int p1]) (rest := []) cx hw LV_X11_140 (c_X7_isFurrow l G N σ 32 oS_32 p1 v1 hv1) oS_32 rfl (by decide) hl.1 rfl (Nat.le_of_ble_eq_true rfl) dX11_furrow_5 rfl (fun H locs hw => ?_)
  obtain ⟨J20_2, eJ20_2, hz⟩ := u_let hz
  have WJ20_2 : ∀ (H : Heap) (locs : List Loc) (ls : Array Slot), J20_2 = some z → u_W ZC G σ s H locs → lv_has ls 3 [] → W p l e (k_rm 6 1 6) s m args below meth c H locs 0 0 (x_Qi below G s args z) (F0 m 20 ls []) := by
    intro H locs ls hz hw hl
    rw [eJ20_2] at hz
    exact x_thi (is := 145) (n := 2) (text := "no such furrow, or nothing such of it") cx hl0 hxk hnt hw (Option.some.inj hz) hxk.2.2.2.1.1 hl.1 dX11_furrow_20 dX11_furrow_23 (Or.inl ⟨dX11_furrow_24, rfl⟩) dX11_furrow_26 dX11_furrow_29 (by decide) (Nat.le_of_ble_eq_true rfl)
  refine lv_if_eq (tgt := 20) hx hb dX11_furrow_8 (by decide) (fun hc => ?_) (fun hc => ?_)
  · replace hz := u_ift hz hc
    exact WJ20_2 _ _ _ hz hw (lv_sub hl [] rfl)
  · replace hz := u_iff hz hc
    refine lv_iload_n hx hb dX11_furrow_11 rfl (lv_at hl 2 rfl) ?_
    refine lv_if_lt (tgt := 20) hx hb dX11_furrow_12 (by decide) (fun hc => ?_) (fun hc => ?_)
    · replace hz := u_ift hz hc
      exact WJ20_2 _ _ _ hz hw (lv_sub hl [] rfl)
    · replace hz := u_iff hz hc
      refine lv_iload_n hx hb dX11_furrow_15 rfl (lv_at hl 2 rfl) ?_
      refine lv_iconst (v := 1) hx hb dX11_furrow_16 (by decide) ?_
      refine lv_icmp_le (tgt := 30) hx hb dX11_furrow_17 (by decide) (fun hc => ?_) (fun hc => ?_)
      · replace hz := u_ift hz hc
        refine lv_iload_n hx hb dX11_furrow_30 rfl (lv_at hl 2 rfl) ?_
        refine lv_if_ne (tgt := 44) hx hb dX11_furrow_31 (by decide) (fun hc => ?_) (fun hc => ?_)
        · replace hz := u_iff hz hc
          refine lv_aload_n hx hb dX11_furrow_44 rfl (lv_at hl 0 rfl) ?_
          refine u_getp cx hw F_X11_26 o_X11 rfl dX11_furrow_45 ?_
          refine lv_iload_n hx hb dX11_furrow_48 rfl (lv_at hl 1 rfl) ?_
          obtain ⟨v3, hv3, hz⟩ := u_bind hz
          refine x_callVi (As := [.int p1]) (rest := []) cx hw LV_X11_153 (c_X7_isOfRope l G N σ 32 oS_32 p1 v3 hv3) oS_32 rfl (by decide) hl.1 rfl (Nat.le_of_ble_eq_true rfl) dX11_furrow_49 rfl (fun H locs hw => ?_)
          refine lv_if_eq (tgt := 59) hx hb dX11_furrow_52 (by decide) (fun hc => ?_) (fun hc => ?_)
          · replace hz := u_ift hz hc
            refine lv_iconst (v := 0) hx hb dX11_furrow_59 (by decide) ?_
            exact x_iret cx hw (Option.some.inj hz) dX11_furrow_60
          · replace hz := u_iff hz hc
            refine lv_iconst (v := 1) hx hb dX11_furrow_55 (by decide) ?_
            refine lv_goto (tgt := 60) hx hb dX11_furrow_56 (by decide) ?_
            exact x_iret cx hw (Option.some.inj hz) dX11_furrow_60
        · replace hz := u_ift hz hc
          refine lv_aload_n hx hb dX11_furrow_34 rfl (lv_at hl 0 rfl) ?_
          refine u_getp cx hw F_X11_26 o_X11 rfl dX11_furrow_35 ?_
          refine u_getp cx hw F_X11_150 oS_32 rfl dX11_furrow_38 ?_
          refine lv_iload_n hx hb dX11_furrow_41 rfl (lv_at hl 1 rfl) ?_
          obtain ⟨v4, hv4, hz⟩ := u_bind hz
          refine u_iald cx hw hv4 dX11_furrow_42 ?_
          exact x_iret cx hw (Option.some.inj hz) dX11_furrow_43
      · replace hz := u_iff hz hc
        exact WJ20_2 _ _ _ hz hw (lv_sub hl [] rfl)
theorem dX11_person_0 : decode cX11_person 0 = .ok (.aload_n 0, 1) := by decide +kernel
theorem dX11_person_1 : decode cX11_person 1 = .ok (.getfield 26, 3) := by decide +kernel
theorem dX11_person_4 : decode cX11_person 4 = .ok (.iload_n 1, 1) := by decide +kernel
theorem dX11_person_5 : decode cX11_person 5 = .ok (.invokevirtual 156, 3) := by decide +kernel
theorem dX11_person_8 : decode cX11_person 8 = .ok (.ifCond .eq 12, 3) := by decide +kernel
theorem dX11_person_11 : decode cX11_person 11 = .ok (.iload_n 2, 1) := by decide +kernel
theorem dX11_person_12 : decode cX11_person 12 = .ok (.ifCond .lt 8, 3) := by decide +kernel
theorem dX11_person_15 : decode cX11_person 15 = .ok (.iload_n 2, 1) := by decide +kernel
theorem dX11_person_16 : decode cX11_person 16 = .ok (.iconst 5, 1) := by decide +kernel
theorem dX11_person_17 : decode cX11_person 17 = .ok (.if_icmp .le 13, 3) := by decide +kernel
theorem dX11_person_20 : decode cX11_person 20 = .ok (.new 143, 3) := by decide +kernel
theorem dX11_person_23 : decode cX11_person 23 = .ok (.dup, 1) := by decide +kernel
theorem dX11_person_24 : decode cX11_person 24 = .ok (.ldc 159, 2) := by decide +kernel
theorem dX11_person_26 : decode cX11_person 26 = .ok (.invokespecial 147, 3) := by decide +kernel
theorem dX11_person_29 : decode cX11_person 29 = .ok (.athrow, 1) := by decide +kernel
theorem dX11_person_30 : decode cX11_person 30 = .ok (.iload_n 2, 1) := by decide +kernel
theorem dX11_person_31 : decode cX11_person 31 = .ok (.tableswitch 92 0 4 #[33, 43, 53, 62, 79], 33) := by decide +kernel
theorem dX11_person_64 : decode cX11_person 64 = .ok (.aload_n 0, 1) := by decide +kernel
theorem dX11_person_65 : decode cX11_person 65 = .ok (.getfield 26, 3) := by decide +kernel
theorem dX11_person_68 : decode cX11_person 68 = .ok (.getfield 161, 3) := by decide +kernel
theorem dX11_person_71 : decode cX11_person 71 = .ok (.iload_n 1, 1) := by decide +kernel
theorem dX11_person_72 : decode cX11_person 72 = .ok (.iaload, 1) := by decide +kernel
theorem dX11_person_73 : decode cX11_person 73 = .ok (.ireturn, 1) := by decide +kernel
theorem dX11_person_74 : decode cX11_person 74 = .ok (.aload_n 0, 1) := by decide +kernel
theorem dX11_person_75 : decode cX11_person 75 = .ok (.getfield 26, 3) := by decide +kernel
theorem dX11_person_78 : decode cX11_person 78 = .ok (.getfield 164, 3) := by decide +kernel
theorem dX11_person_81 : decode cX11_person 81 = .ok (.iload_n 1, 1) := by decide +kernel
theorem dX11_person_82 : decode cX11_person 82 = .ok (.iaload, 1) := by decide +kernel
theorem dX11_person_83 : decode cX11_person 83 = .ok (.ireturn, 1) := by decide +kernel
theorem dX11_person_84 : decode cX11_person 84 = .ok (.aload_n 0, 1) := by decide +kernel
theorem dX11_person_85 : decode cX11_person 85 = .ok (.getfield 26, 3) := by decide +kernel
theorem dX11_person_88 : decode cX11_person 88 = .ok (.iload_n 1, 1) := by decide +kernel
theorem dX11_person_89 : decode cX11_person 89 = .ok (.invokevirtual 167, 3) := by decide +kernel
theorem dX11_person_92 : decode cX11_person 92 = .ok (.ireturn, 1) := by decide +kernel
theorem dX11_person_93 : decode cX11_person 93 = .ok (.aload_n 0, 1) := by decide +kernel
theorem dX11_person_94 : decode cX11_person 94 = .ok (.getfield 26, 3) := by decide +kernel
theorem dX11_person_97 : decode cX11_person 97 = .ok (.iload_n 1, 1) := by decide +kernel
theorem dX11_person_98 : decode cX11_person 98 = .ok (.invokevirtual 171, 3) := by decide +kernel
theorem dX11_person_101 : decode cX11_person 101 = .ok (.ifCond .eq 7, 3) := by decide +kernel
theorem dX11_person_104 : decode cX11_person 104 = .ok (.iconst 1, 1) := by decide +kernel
theorem dX11_person_105 : decode cX11_person 105 = .ok (.goto 4, 3) := by decide +kernel
theorem dX11_person_108 : decode cX11_person 108 = .ok (.iconst 0, 1) := by decide +kernel
theorem dX11_person_109 : decode cX11_person 109 = .ok (.ireturn, 1) := by decide +kernel
theorem dX11_person_110 : decode cX11_person 110 = .ok (.aload_n 0, 1) := by decide +kernel
theorem dX11_person_111 : decode cX11_person 111 = .ok (.getfield 89, 3) := by decide +kernel
theorem dX11_person_114 : decode cX11_person 114 = .ok (.aload_n 0, 1) := by decide +kernel
theorem dX11_person_115 : decode cX11_person 115 = .ok (.getfield 26, 3) := by decide +kernel
theorem dX11_person_118 : decode cX11_person 118 = .ok (.iload_n 1, 1) := by decide +kernel
theorem dX11_person_119 : decode cX11_person 119 = .ok (.invokevirtual 174, 3) := by decide +kernel
theorem dX11_person_122 : decode cX11_person 122 = .ok (.ireturn, 1) := by decide +kernel
theorem dX11_person_123 : decode cX11_person 123 = .ok (.aload_n 0, 1) := by decide +kernel
theorem dX11_person_124 : decode cX11_person 124 = .ok (.getfield 26, 3) := by decide +kernel
theorem dX11_person_127 : decode cX11_person 127 = .ok (.iload_n 1, 1) := by decide +kernel
theorem dX11_person_128 : decode cX11_person 128 = .ok (.invokevirtual 178, 3) := by decide +kernel
theorem dX11_person_131 : decode cX11_person 131 = .ok (.invokestatic 181, 3) := by decide +kernel
theorem dX11_person_134 : decode cX11_person 134 = .ok (.ireturn, 1) := by decide +kernel
def f_X11_person (N : Nat) (σ : uS) (p1 : Int32) (p2 : Int32) : Option (Option Int32 × uS) := (f_X7_isPerson N σ 32 p1).bind fun v1 =>
  u_jn ((some (none, σ) : Option (Option Int32 × uS))) fun J20_2 =>
  if v1 = 0 then (J20_2) else (if p2 < 0 then (J20_2) else (if p2 ≤ 5 then (if p2 = 0 then ((u_rI ZC σ 0 34 p1).bind fun v3 =>
  some (some v3, σ)) else (if p2 = 1 then ((u_rI ZC σ 0 36 p1).bind fun v4 =>
  some (some v4, σ)) else (if p2 = 2 then ((f_X7_seenBy N σ 32 p1).bind fun v5 =>
  some (some v5, σ)) else (if p2 = 3 then ((f_X7_isIn N σ 32 p1).bind fun v6 =>
  if v6 = 0 then (some (some 0, σ)) else (some (some 1, σ))) else (if p2 = 4 then ((σ.2.2 0 13).bind fun v7 =>
  u_ck (isR v7) <|
  (f_X6_behind N σ v7 32 p1).bind fun v8 =>
  some (some v8.1, v8.2)) else ((f_X7_whoSee N σ 32 p1).bind fun v9 =>
  (f_J6_bitCount_0f7a4 N σ v9).bind fun v10 =>
  some (some v10, σ))))))) else (J20_2)))
set_option maxRecDepth 100000 in
set_option maxHeartbeats 4000000 in
theorem c_X11_person (l : Launch) (hl0 : l.stackTraces = false) (G : uG) (N : Nat) (σ : uS) (p1 : Int32) (p2 : Int32) (z : (Option Int32 × uS)) (hz : f_X11_person N σ p1 p2 = some z) : x_Mi l G yX11_person cX11_person 3 6 [.ref (G.2.2 0), .int p1, .int p2] σ z := by
  refine x_Mi_of RX11 (by decide) rfl (Nat.le_of_ble_eq_true rfl) ?_
  intro p e s m args below meth c ls cx hnt hxk hw hl
  have hx := cx.1
  have hb := cx.2.1
  have hl : lv_has ls 3 [(0, .ref (G.2.2 0)), (1, .int p1), (2, .int p2)] := hl
  unfold f_X11_person at hz
  refine lv_aload_n hx hb dX11_person_0 rfl (lv_at hl 0 rfl) ?_
  refine u_getp cx hw F_X11_26 o_X11 rfl dX11_person_1 ?_
  refine lv_iload_n hx hb dX11_person_4 rfl (lv_at hl 1 rfl) ?_
  obtain ⟨v1, hv1, hz⟩ := u_bind hz
  refine x_callVi (As := [.int p1]) (rest := []) cx hw LV_X11_156 (c_X7_isPerson l G N σ 32 oS_32 p1 v1 hv1) oS_32 rfl (by decide) hl.1 rfl (Nat.le_of_ble_eq_true rfl) dX11_person_5 rfl (fun H locs hw => ?_)
  obtain ⟨J20_2, eJ20_2, hz⟩ := u_let hz
  have WJ20_2 : ∀ (H : Heap) (locs : List Loc) (ls : Array Slot), J20_2 = some z → u_W ZC G σ s H locs → lv_has ls 3 [] → W p l e (k_rm 6 1 6) s m args below meth c H locs 0 0 (x_Qi below G s args z) (F0 m 20 ls []) := by
    intro H locs ls hz hw hl
    rw [eJ20_2] at hz
    exact x_thi (is := 159) (n := 2) (text := "nobody such, or nothing such of one") cx hl0 hxk hnt hw (Option.some.inj hz) hxk.2.2.2.1.2.1 hl.1 dX11_person_20 dX11_person_23 (Or.inl ⟨dX11_person_24, rfl⟩) dX11_person_26 dX11_person_29 (by decide) (Nat.le_of_ble_eq_true rfl)
  refine lv_if_eq (tgt := 20) hx hb dX11_person_8 (by decide) (fun hc => ?_) (fun hc => ?_)
  · replace hz := u_ift hz hc
    exact WJ20_2 _ _ _ hz hw (lv_sub hl [] rfl)
  · replace hz := u_iff hz hc
    refine lv_iload_n hx hb dX11_person_11 rfl (lv_at hl 2 rfl) ?_
    refine lv_if_lt (tgt := 20) hx hb dX11_person_12 (by decide) (fun hc => ?_) (fun hc => ?_)
    · replace hz := u_ift hz hc
      exact WJ20_2 _ _ _ hz hw (lv_sub hl [] rfl)
    · replace hz := u_iff hz hc
      refine lv_iload_n hx hb dX11_person_15 rfl (lv_at hl 2 rfl) ?_
      refine lv_iconst (v := 5) hx hb dX11_person_16 (by decide) ?_
      refine lv_icmp_le (tgt := 30) hx hb dX11_person_17 (by decide) (fun hc => ?_) (fun hc => ?_)
      · replace hz := u_ift hz hc
        refine lv_iload_n hx hb dX11_person_30 rfl (lv_at hl 2 rfl) ?_
        by_cases hk0 : p2 = 0
        · replace hz := u_ift hz hk0
          refine lv_tableIn (off := 33) (tgt := 64) hx hb dX11_person_31 (by rw [hk0]; decide) (by rw [hk0]; decide) (by rw [hk0]; decide) (by decide) ?_
          refine lv_aload_n hx hb dX11_person_64 rfl (lv_at hl 0 rfl) ?_
          refine u_getp cx hw F_X11_26 o_X11 rfl dX11_person_65 ?_
          refine u_getp cx hw F_X11_161 oS_32 rfl dX11_person_68 ?_
          refine lv_iload_n hx hb dX11_person_71 rfl (lv_at hl 1 rfl) ?_
          obtain ⟨v3, hv3, hz⟩ := u_bind hz
          refine u_iald cx hw hv3 dX11_person_72 ?_
          exact x_iret cx hw (Option.some.inj hz) dX11_person_73
        replace hz := u_iff hz hk0
        by_cases hk1 : p2 = 1
        · replace hz := u_ift hz hk1
          refine lv_tableIn (off := 43) (tgt := 74) hx hb dX11_person_31 (by rw [hk1]; decide) (by rw [hk1]; decide) (by rw [hk1]; decide) (by decide) ?_
          refine lv_aload_n hx hb dX11_person_74 rfl (lv_at hl 0 rfl) ?_
          refine u_getp cx hw F_X11_26 o_X11 rfl dX11_person_75 ?_
          refine u_getp cx hw F_X11_164 oS_32 rfl dX11_person_78 ?_
          refine lv_iload_n hx hb dX11_person_81 rfl (lv_at hl 1 rfl) ?_
          obtain ⟨v4, hv4, hz⟩ := u_bind hz
          refine u_iald cx hw hv4 dX11_person_82 ?_
          exact x_iret cx hw (Option.some.inj hz) dX11_person_83
        replace hz := u_iff hz hk1
        by_cases hk2 : p2 = 2
        · replace hz := u_ift hz hk2
          refine lv_tableIn (off := 53) (tgt := 84) hx hb dX11_person_31 (by rw [hk2]; decide) (by rw [hk2]; decide) (by rw [hk2]; decide) (by decide) ?_
          refine lv_aload_n hx hb dX11_person_84 rfl (lv_at hl 0 rfl) ?_
          refine u_getp cx hw F_X11_26 o_X11 rfl dX11_person_85 ?_
          refine lv_iload_n hx hb dX11_person_88 rfl (lv_at hl 1 rfl) ?_
          obtain ⟨v5, hv5, hz⟩ := u_bind hz
          refine x_callVi (As := [.int p1]) (rest := []) cx hw LV_X11_167 (c_X7_seenBy l G N σ 32 oS_32 p1 v5 hv5) oS_32 rfl (by decide) hl.1 rfl (Nat.le_of_ble_eq_true rfl) dX11_person_89 rfl (fun H locs hw => ?_)
          exact x_iret cx hw (Option.some.inj hz) dX11_person_92
        replace hz := u_iff hz hk2
        by_cases hk3 : p2 = 3
        · replace hz := u_ift hz hk3
          refine lv_tableIn (off := 62) (tgt := 93) hx hb dX11_person_31 (by rw [hk3]; decide) (by rw [hk3]; decide) (by rw [hk3]; decide) (by decide) ?_
          refine lv_aload_n hx hb dX11_person_93 rfl (lv_at hl 0 rfl) ?_
          refine u_getp cx hw F_X11_26 o_X11 rfl dX11_person_94 ?_
          refine lv_iload_n hx hb dX11_person_97 rfl (lv_at hl 1 rfl) ?_
          obtain ⟨v6, hv6, hz⟩ := u_bind hz
          refine x_callVi (As := [.int p1]) (rest := []) cx hw LV_X11_171 (c_X7_isIn l G N σ 32 oS_32 p1 v6 hv6) oS_32 rfl (by decide) hl.1 rfl (Nat.le_of_ble_eq_true rfl) dX11_person_98 rfl (fun H locs hw => ?_)
          refine lv_if_eq (tgt := 108) hx hb dX11_person_101 (by decide) (fun hc => ?_) (fun hc => ?_)
          · replace hz := u_ift hz hc
            refine lv_iconst (v := 0) hx hb dX11_person_108 (by decide) ?_
            exact x_iret cx hw (Option.some.inj hz) dX11_person_109
          · replace hz := u_iff hz hc
            refine lv_iconst (v := 1) hx hb dX11_person_104 (by decide) ?_
            refine lv_goto (tgt := 109) hx hb dX11_person_105 (by decide) ?_
            exact x_iret cx hw (Option.some.inj hz) dX11_person_109
        replace hz := u_iff hz hk3
        by_cases hk4 : p2 = 4
        · replace hz := u_ift hz hk4
          refine lv_tableIn (off := 79) (tgt := 110) hx hb dX11_person_31 (by rw [hk4]; decide) (by rw [hk4]; decide) (by rw [hk4]; decide) (by decide) ?_
          refine lv_aload_n hx hb dX11_person_110 rfl (lv_at hl 0 rfl) ?_
          obtain ⟨v7, hv7, hz⟩ := u_bind hz
          obtain ⟨qv7, hz⟩ := u_ck_some hz
          refine u_getr cx hw F_X11_89 o_X11 rfl hv7 dX11_person_111 ?_
          refine lv_aload_n hx hb dX11_person_114 rfl (lv_at hl 0 rfl) ?_
          refine u_getp cx hw F_X11_26 o_X11 rfl dX11_person_115 ?_
          refine lv_iload_n hx hb dX11_person_118 rfl (lv_at hl 1 rfl) ?_
          obtain ⟨v8, hv8, hz⟩ := u_bind hz
          refine x_callVi (As := [.ref (G.2.2 32), .int p1]) (rest := []) cx hw LV_X11_174 (c_X6_behind l G N σ v7 (o_R qv7) 32 oS_32 p1 v8 hv8) (o_R qv7) rfl (by decide) hl.1 rfl (Nat.le_of_ble_eq_true rfl) dX11_person_119 rfl (fun H locs hw => ?_)
          exact x_iret cx hw (Option.some.inj hz) dX11_person_122
        replace hz := u_iff hz hk4
        refine lv_tableOut (tgt := 123) hx hb dX11_person_31 (by have := lv_neT hk0 (a := 0) (by decide); have := lv_neT hk1 (a := 1) (by decide); have := lv_neT hk2 (a := 2) (by decide); have := lv_neT hk3 (a := 3) (by decide); have := lv_neT hk4 (a := 4) (by decide); omega) (by decide) ?_
        refine lv_aload_n hx hb dX11_person_123 rfl (lv_at hl 0 rfl) ?_
        refine u_getp cx hw F_X11_26 o_X11 rfl dX11_person_124 ?_
        refine lv_iload_n hx hb dX11_person_127 rfl (lv_at hl 1 rfl) ?_
        obtain ⟨v9, hv9, hz⟩ := u_bind hz
        refine x_callVi (As := [.int p1]) (rest := []) cx hw LV_X11_178 (c_X7_whoSee l G N σ 32 oS_32 p1 v9 hv9) oS_32 rfl (by decide) hl.1 rfl (Nat.le_of_ble_eq_true rfl) dX11_person_128 rfl (fun H locs hw => ?_)
        obtain ⟨v10, hv10, hz⟩ := u_bind hz
        refine x_callSi (As := [.int v9]) (rest := []) cx hw LS_X11_181 (c_J6_bitCount_0f7a4 l G ZC N σ v9 v10 hv10) (by decide) hl.1 rfl (Nat.le_of_ble_eq_true rfl) dX11_person_131 rfl (fun H locs hw => ?_)
        exact x_iret cx hw (Option.some.inj hz) dX11_person_134
      · replace hz := u_iff hz hc
        exact WJ20_2 _ _ _ hz hw (lv_sub hl [] rfl)
theorem dX11_row_0 : decode cX11_row 0 = .ok (.iload_n 1, 1) := by decide +kernel
theorem dX11_row_1 : decode cX11_row 1 = .ok (.ifCond .lt 14, 3) := by decide +kernel
theorem dX11_row_4 : decode cX11_row 4 = .ok (.iload_n 1, 1) := by decide +kernel
theorem dX11_row_5 : decode cX11_row 5 = .ok (.aload_n 0, 1) := by decide +kernel
theorem dX11_row_6 : decode cX11_row 6 = .ok (.getfield 19, 3) := by decide +kernel
theorem dX11_row_9 : decode cX11_row 9 = .ok (.getfield 421, 3) := by decide +kernel
theorem dX11_row_12 : decode cX11_row 12 = .ok (.if_icmp .lt 14, 3) := by decide +kernel
theorem dX11_row_15 : decode cX11_row 15 = .ok (.new 143, 3) := by decide +kernel
theorem dX11_row_18 : decode cX11_row 18 = .ok (.dup, 1) := by decide +kernel
theorem dX11_row_19 : decode cX11_row 19 = .ok (.ldc_w 425, 3) := by decide +kernel
theorem dX11_row_22 : decode cX11_row 22 = .ok (.invokespecial 147, 3) := by decide +kernel
theorem dX11_row_25 : decode cX11_row 25 = .ok (.athrow, 1) := by decide +kernel
theorem dX11_row_26 : decode cX11_row 26 = .ok (.aload_n 0, 1) := by decide +kernel
theorem dX11_row_27 : decode cX11_row 27 = .ok (.getfield 19, 3) := by decide +kernel
theorem dX11_row_30 : decode cX11_row 30 = .ok (.iload_n 1, 1) := by decide +kernel
theorem dX11_row_31 : decode cX11_row 31 = .ok (.invokevirtual 373, 3) := by decide +kernel
theorem dX11_row_34 : decode cX11_row 34 = .ok (.lreturn, 1) := by decide +kernel
def f_X11_row (N : Nat) (σ : uS) (p1 : Int32) : Option (Option Int64 × uS) := u_jn ((some (none, σ) : Option (Option Int64 × uS))) fun J15_1 =>
  if p1 < 0 then (J15_1) else (if p1 < (σ.1 3 1) then ((f_X8_number N σ p1).bind fun v2 =>
  some (some v2, σ)) else (J15_1))
set_option maxRecDepth 100000 in
set_option maxHeartbeats 4000000 in
theorem c_X11_row (l : Launch) (hl0 : l.stackTraces = false) (G : uG) (N : Nat) (σ : uS) (p1 : Int32) (z : (Option Int64 × uS)) (hz : f_X11_row N σ p1 = some z) : x_Ml l G yX11_row cX11_row 2 6 [.ref (G.2.2 0), .int p1] σ z := by
  refine x_Ml_of RX11 (by decide) rfl (Nat.le_of_ble_eq_true rfl) ?_
  intro p e s m args below meth c ls cx hnt hxk hw hl
  have hx := cx.1
  have hb := cx.2.1
  have hl : lv_has ls 2 [(0, .ref (G.2.2 0)), (1, .int p1)] := hl
  unfold f_X11_row at hz
  refine lv_iload_n hx hb dX11_row_0 rfl (lv_at hl 1 rfl) ?_
  obtain ⟨J15_1, eJ15_1, hz⟩ := u_let hz
  have WJ15_1 : ∀ (H : Heap) (locs : List Loc) (ls : Array Slot), J15_1 = some z → u_W ZC G σ s H locs → lv_has ls 2 [] → W p l e (k_rm 6 1 6) s m args below meth c H locs 0 0 (x_Ql below G s args z) (F0 m 15 ls []) := by
    intro H locs ls hz hw hl
    rw [eJ15_1] at hz
    exact x_thl (is := 425) (n := 3) (text := "the row has no such number") cx hl0 hxk hnt hw (Option.some.inj hz) hxk.2.2.2.1.2.2 hl.1 dX11_row_15 dX11_row_18 (Or.inr ⟨dX11_row_19, rfl⟩) dX11_row_22 dX11_row_25 (by decide) (Nat.le_of_ble_eq_true rfl)
  refine lv_if_lt (tgt := 15) hx hb dX11_row_1 (by decide) (fun hc => ?_) (fun hc => ?_)
  · replace hz := u_ift hz hc
    exact WJ15_1 _ _ _ hz hw (lv_sub hl [] rfl)
  · replace hz := u_iff hz hc
    refine lv_iload_n hx hb dX11_row_4 rfl (lv_at hl 1 rfl) ?_
    refine lv_aload_n hx hb dX11_row_5 rfl (lv_at hl 0 rfl) ?_
    refine u_getp cx hw F_X11_19 o_X11 rfl dX11_row_6 ?_
    refine u_geti cx hw F_X11_421 o_X8 rfl dX11_row_9 ?_
    refine lv_icmp_lt (tgt := 26) hx hb dX11_row_12 (by decide) (fun hc => ?_) (fun hc => ?_)
    · replace hz := u_ift hz hc
      refine lv_aload_n hx hb dX11_row_26 rfl (lv_at hl 0 rfl) ?_
      refine u_getp cx hw F_X11_19 o_X11 rfl dX11_row_27 ?_
      refine lv_iload_n hx hb dX11_row_30 rfl (lv_at hl 1 rfl) ?_
      obtain ⟨v2, hv2, hz⟩ := u_bind hz
      refine x_callVl (As := [.int p1]) (rest := []) cx hw LV_X11_373 (c_X8_number l G N σ p1 v2 hv2) o_X8 rfl (by decide) hl.1 rfl (Nat.le_of_ble_eq_true rfl) dX11_row_31 rfl (fun H locs hw => ?_)
      exact x_lret cx hw (Option.some.inj hz) dX11_row_34
    · replace hz := u_iff hz hc
      exact WJ15_1 _ _ _ hz hw (lv_sub hl [] rfl)
