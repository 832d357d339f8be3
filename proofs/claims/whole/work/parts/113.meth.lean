theorem dX12_act_0 : decode cX12_act 0 = .ok (.iload_n 1, 1) := by decide +kernel
theorem dX12_act_1 : decode cX12_act 1 = .ok (.lookupswitch 133 #[(43, 102), (99, 43), (103, 80), (115, 55)], 43) := by decide +kernel
theorem dX12_act_44 : decode cX12_act 44 = .ok (.aload_n 0, 1) := by decide +kernel
theorem dX12_act_45 : decode cX12_act 45 = .ok (.aload_n 0, 1) := by decide +kernel
theorem dX12_act_46 : decode cX12_act 46 = .ok (.getfield 9, 3) := by decide +kernel
theorem dX12_act_49 : decode cX12_act 49 = .ok (.iload_n 2, 1) := by decide +kernel
theorem dX12_act_50 : decode cX12_act 50 = .ok (.invokevirtual 257, 3) := by decide +kernel
theorem dX12_act_53 : decode cX12_act 53 = .ok (.pop, 1) := by decide +kernel
theorem dX12_act_54 : decode cX12_act 54 = .ok (.iconst 1, 1) := by decide +kernel
theorem dX12_act_55 : decode cX12_act 55 = .ok (.ireturn, 1) := by decide +kernel
theorem dX12_act_56 : decode cX12_act 56 = .ok (.aload_n 0, 1) := by decide +kernel
theorem dX12_act_57 : decode cX12_act 57 = .ok (.iload_n 2, 1) := by decide +kernel
theorem dX12_act_58 : decode cX12_act 58 = .ok (.invokevirtual 264, 3) := by decide +kernel
theorem dX12_act_61 : decode cX12_act 61 = .ok (.ifCond .ge 5, 3) := by decide +kernel
theorem dX12_act_64 : decode cX12_act 64 = .ok (.iconst 0, 1) := by decide +kernel
theorem dX12_act_65 : decode cX12_act 65 = .ok (.ireturn, 1) := by decide +kernel
theorem dX12_act_66 : decode cX12_act 66 = .ok (.aload_n 0, 1) := by decide +kernel
theorem dX12_act_67 : decode cX12_act 67 = .ok (.getfield 9, 3) := by decide +kernel
theorem dX12_act_70 : decode cX12_act 70 = .ok (.bipush 34, 2) := by decide +kernel
theorem dX12_act_72 : decode cX12_act 72 = .ok (.dup2, 1) := by decide +kernel
theorem dX12_act_73 : decode cX12_act 73 = .ok (.iaload, 1) := by decide +kernel
theorem dX12_act_74 : decode cX12_act 74 = .ok (.iconst 1, 1) := by decide +kernel
theorem dX12_act_75 : decode cX12_act 75 = .ok (.iload_n 2, 1) := by decide +kernel
theorem dX12_act_76 : decode cX12_act 76 = .ok (.ishl, 1) := by decide +kernel
theorem dX12_act_77 : decode cX12_act 77 = .ok (.ior, 1) := by decide +kernel
theorem dX12_act_78 : decode cX12_act 78 = .ok (.iastore, 1) := by decide +kernel
theorem dX12_act_79 : decode cX12_act 79 = .ok (.iconst 1, 1) := by decide +kernel
theorem dX12_act_80 : decode cX12_act 80 = .ok (.ireturn, 1) := by decide +kernel
theorem dX12_act_81 : decode cX12_act 81 = .ok (.aload_n 0, 1) := by decide +kernel
theorem dX12_act_82 : decode cX12_act 82 = .ok (.iload_n 2, 1) := by decide +kernel
theorem dX12_act_83 : decode cX12_act 83 = .ok (.iload_n 3, 1) := by decide +kernel
theorem dX12_act_84 : decode cX12_act 84 = .ok (.invokevirtual 267, 3) := by decide +kernel
theorem dX12_act_87 : decode cX12_act 87 = .ok (.ifCond .ne 5, 3) := by decide +kernel
theorem dX12_act_90 : decode cX12_act 90 = .ok (.iconst 0, 1) := by decide +kernel
theorem dX12_act_91 : decode cX12_act 91 = .ok (.ireturn, 1) := by decide +kernel
theorem dX12_act_92 : decode cX12_act 92 = .ok (.aload_n 0, 1) := by decide +kernel
theorem dX12_act_93 : decode cX12_act 93 = .ok (.getfield 9, 3) := by decide +kernel
theorem dX12_act_96 : decode cX12_act 96 = .ok (.iload_n 2, 1) := by decide +kernel
theorem dX12_act_97 : decode cX12_act 97 = .ok (.iload_n 3, 1) := by decide +kernel
theorem dX12_act_98 : decode cX12_act 98 = .ok (.invokestatic 270, 3) := by decide +kernel
theorem dX12_act_101 : decode cX12_act 101 = .ok (.iconst 1, 1) := by decide +kernel
theorem dX12_act_102 : decode cX12_act 102 = .ok (.ireturn, 1) := by decide +kernel
theorem dX12_act_103 : decode cX12_act 103 = .ok (.aload_n 0, 1) := by decide +kernel
theorem dX12_act_104 : decode cX12_act 104 = .ok (.getfield 9, 3) := by decide +kernel
theorem dX12_act_107 : decode cX12_act 107 = .ok (.bipush 33, 2) := by decide +kernel
theorem dX12_act_109 : decode cX12_act 109 = .ok (.iaload, 1) := by decide +kernel
theorem dX12_act_110 : decode cX12_act 110 = .ok (.aload_n 0, 1) := by decide +kernel
theorem dX12_act_111 : decode cX12_act 111 = .ok (.getfield 13, 3) := by decide +kernel
theorem dX12_act_114 : decode cX12_act 114 = .ok (.iconst 1, 1) := by decide +kernel
theorem dX12_act_115 : decode cX12_act 115 = .ok (.isub, 1) := by decide +kernel
theorem dX12_act_116 : decode cX12_act 116 = .ok (.if_icmp .ne 5, 3) := by decide +kernel
theorem dX12_act_119 : decode cX12_act 119 = .ok (.iconst 0, 1) := by decide +kernel
theorem dX12_act_120 : decode cX12_act 120 = .ok (.ireturn, 1) := by decide +kernel
theorem dX12_act_121 : decode cX12_act 121 = .ok (.aload_n 0, 1) := by decide +kernel
theorem dX12_act_122 : decode cX12_act 122 = .ok (.getfield 9, 3) := by decide +kernel
theorem dX12_act_125 : decode cX12_act 125 = .ok (.bipush 33, 2) := by decide +kernel
theorem dX12_act_127 : decode cX12_act 127 = .ok (.dup2, 1) := by decide +kernel
theorem dX12_act_128 : decode cX12_act 128 = .ok (.iaload, 1) := by decide +kernel
theorem dX12_act_129 : decode cX12_act 129 = .ok (.iconst 1, 1) := by decide +kernel
theorem dX12_act_130 : decode cX12_act 130 = .ok (.iadd, 1) := by decide +kernel
theorem dX12_act_131 : decode cX12_act 131 = .ok (.iastore, 1) := by decide +kernel
theorem dX12_act_132 : decode cX12_act 132 = .ok (.iconst 1, 1) := by decide +kernel
theorem dX12_act_133 : decode cX12_act 133 = .ok (.ireturn, 1) := by decide +kernel
theorem dX12_act_134 : decode cX12_act 134 = .ok (.aload_n 0, 1) := by decide +kernel
theorem dX12_act_135 : decode cX12_act 135 = .ok (.getfield 9, 3) := by decide +kernel
theorem dX12_act_138 : decode cX12_act 138 = .ok (.bipush 33, 2) := by decide +kernel
theorem dX12_act_140 : decode cX12_act 140 = .ok (.iaload, 1) := by decide +kernel
theorem dX12_act_141 : decode cX12_act 141 = .ok (.aload_n 0, 1) := by decide +kernel
theorem dX12_act_142 : decode cX12_act 142 = .ok (.getfield 9, 3) := by decide +kernel
theorem dX12_act_145 : decode cX12_act 145 = .ok (.bipush 32, 2) := by decide +kernel
theorem dX12_act_147 : decode cX12_act 147 = .ok (.iaload, 1) := by decide +kernel
theorem dX12_act_148 : decode cX12_act 148 = .ok (.if_icmp .ne 5, 3) := by decide +kernel
theorem dX12_act_151 : decode cX12_act 151 = .ok (.iconst 0, 1) := by decide +kernel
theorem dX12_act_152 : decode cX12_act 152 = .ok (.ireturn, 1) := by decide +kernel
theorem dX12_act_153 : decode cX12_act 153 = .ok (.aload_n 0, 1) := by decide +kernel
theorem dX12_act_154 : decode cX12_act 154 = .ok (.getfield 9, 3) := by decide +kernel
theorem dX12_act_157 : decode cX12_act 157 = .ok (.bipush 33, 2) := by decide +kernel
theorem dX12_act_159 : decode cX12_act 159 = .ok (.dup2, 1) := by decide +kernel
theorem dX12_act_160 : decode cX12_act 160 = .ok (.iaload, 1) := by decide +kernel
theorem dX12_act_161 : decode cX12_act 161 = .ok (.iconst 1, 1) := by decide +kernel
theorem dX12_act_162 : decode cX12_act 162 = .ok (.isub, 1) := by decide +kernel
theorem dX12_act_163 : decode cX12_act 163 = .ok (.iastore, 1) := by decide +kernel
theorem dX12_act_164 : decode cX12_act 164 = .ok (.iconst 1, 1) := by decide +kernel
theorem dX12_act_165 : decode cX12_act 165 = .ok (.ireturn, 1) := by decide +kernel
def f_X12_act (N : Nat) (σ : uS) (p1 : Int32) (p2 : Int32) (p3 : Int32) : Option (Int32 × uS) := if p1 = 43 then ((u_rI ZM σ 0 1 33).bind fun v1 =>
  if v1 = ((σ.1 0 1) - 1) then (some (0, σ)) else ((u_rI ZM σ 0 1 33).bind fun v2 =>
  (u_wI ZM σ 0 1 33 (v2 + 1)).bind fun s3 =>
  some (1, s3))) else (if p1 = 99 then ((f_X12_goCrossings N σ 1 p2).bind fun v4 =>
  some (1, v4.2)) else (if p1 = 103 then ((f_X12_areTwo N σ p2 p3).bind fun v5 =>
  if v5 = 0 then (some (0, σ)) else ((f_X12_goGlance N σ 1 p2 p3).bind fun s6 =>
  some (1, s6))) else (if p1 = 115 then ((f_X12_refusesShow N σ p2).bind fun v7 =>
  if 0 ≤ v7 then ((u_rI ZM σ 0 1 34).bind fun v8 =>
  (u_wI ZM σ 0 1 34 (v8 ||| (1 <<< (p2 &&& 31)))).bind fun s9 =>
  some (1, s9)) else (some (0, σ))) else ((u_rI ZM σ 0 1 33).bind fun v10 =>
  (u_rI ZM σ 0 1 32).bind fun v11 =>
  if v10 = v11 then (some (0, σ)) else ((u_rI ZM σ 0 1 33).bind fun v12 =>
  (u_wI ZM σ 0 1 33 (v12 - 1)).bind fun s13 =>
  some (1, s13))))))
set_option maxRecDepth 100000 in
set_option maxHeartbeats 4000000 in
theorem c_X12_act (l : Launch) (G : uG) (N : Nat) (σ : uS) (p1 : Int32) (p2 : Int32) (p3 : Int32) (z : (Int32 × uS)) (hz : f_X12_act N σ p1 p2 p3 = some z) : u_Mi l ZM G yX12_act cX12_act 4 .boolean 108 [.ref (G.2.2 0), .int p1, .int p2, .int p3] σ z.1 z.2 := by
  refine u_Mi_of RX12 (by decide) rfl (Nat.le_of_ble_eq_true rfl) ?_
  intro p e s m args below meth c ls cx hw hl
  have hx := cx.1
  have hb := cx.2.1
  have hl : lv_has ls 4 [(0, .ref (G.2.2 0)), (1, .int p1), (2, .int p2), (3, .int p3)] := hl
  unfold f_X12_act at hz
  refine lv_iload_n hx hb dX12_act_0 rfl (lv_at hl 1 rfl) ?_
  by_cases hk43 : p1 = 43
  · replace hz := u_ift hz hk43
    refine lv_lookup (off := 102) (tgt := 103) hx hb dX12_act_1 (by decide) (by rw [hk43]; decide) (by decide) ?_
    refine lv_aload_n hx hb dX12_act_103 rfl (lv_at hl 0 rfl) ?_
    refine u_getp cx hw F_X12_9 o_X12 rfl dX12_act_104 ?_
    refine lv_bipush (v := 33) hx hb dX12_act_107 (by decide) ?_
    obtain ⟨v1, hv1, hz⟩ := u_bind hz
    refine u_iald cx hw hv1 dX12_act_109 ?_
    refine lv_aload_n hx hb dX12_act_110 rfl (lv_at hl 0 rfl) ?_
    refine u_geti cx hw F_X12_13 o_X12 rfl dX12_act_111 ?_
    refine lv_iconst (v := 1) hx hb dX12_act_114 (by decide) ?_
    refine lv_isub hx hb dX12_act_115 ?_
    refine lv_icmp_ne (tgt := 121) hx hb dX12_act_116 (by decide) (fun hc => ?_) (fun hc => ?_)
    · replace hz := u_iff hz hc
      refine lv_aload_n hx hb dX12_act_121 rfl (lv_at hl 0 rfl) ?_
      refine u_getp cx hw F_X12_9 o_X12 rfl dX12_act_122 ?_
      refine lv_bipush (v := 33) hx hb dX12_act_125 (by decide) ?_
      refine lv_dup2_11 hx hb dX12_act_127 rfl rfl ?_
      obtain ⟨v2, hv2, hz⟩ := u_bind hz
      refine u_iald cx hw hv2 dX12_act_128 ?_
      refine lv_iconst (v := 1) hx hb dX12_act_129 (by decide) ?_
      refine lv_iadd hx hb dX12_act_130 ?_
      obtain ⟨s3, hs3, hz⟩ := u_bind hz
      refine u_iast cx hw hs3 dX12_act_131 (fun H locs hw => ?_)
      refine lv_iconst (v := 1) hx hb dX12_act_132 (by decide) ?_
      exact u_zret cx hw (Or.inr rfl) (u_pair hz) dX12_act_133
    · replace hz := u_ift hz hc
      refine lv_iconst (v := 0) hx hb dX12_act_119 (by decide) ?_
      exact u_zret cx hw (Or.inl rfl) (u_pair hz) dX12_act_120
  replace hz := u_iff hz hk43
  by_cases hk99 : p1 = 99
  · replace hz := u_ift hz hk99
    refine lv_lookup (off := 43) (tgt := 44) hx hb dX12_act_1 (by decide) (by rw [hk99]; decide) (by decide) ?_
    refine lv_aload_n hx hb dX12_act_44 rfl (lv_at hl 0 rfl) ?_
    refine lv_aload_n hx hb dX12_act_45 rfl (lv_at hl 0 rfl) ?_
    refine u_getp cx hw F_X12_9 o_X12 rfl dX12_act_46 ?_
    refine lv_iload_n hx hb dX12_act_49 rfl (lv_at hl 2 rfl) ?_
    obtain ⟨v4, hv4, hz⟩ := u_bind hz
    refine u_callVi (As := [.ref (G.2.2 1), .int p2]) (rest := []) cx hw LV_X12_257 (c_X12_goCrossings l G N σ 1 p2 v4 hv4) o_X12 rfl (by decide) hl.1 rfl (Nat.le_of_ble_eq_true rfl) dX12_act_50 rfl (fun H locs hw => ?_)
    refine lv_pop hx hb dX12_act_53 rfl ?_
    refine lv_iconst (v := 1) hx hb dX12_act_54 (by decide) ?_
    exact u_zret cx hw (Or.inr rfl) (u_pair hz) dX12_act_55
  replace hz := u_iff hz hk99
  by_cases hk103 : p1 = 103
  · replace hz := u_ift hz hk103
    refine lv_lookup (off := 80) (tgt := 81) hx hb dX12_act_1 (by decide) (by rw [hk103]; decide) (by decide) ?_
    refine lv_aload_n hx hb dX12_act_81 rfl (lv_at hl 0 rfl) ?_
    refine lv_iload_n hx hb dX12_act_82 rfl (lv_at hl 2 rfl) ?_
    refine lv_iload_n hx hb dX12_act_83 rfl (lv_at hl 3 rfl) ?_
    obtain ⟨v5, hv5, hz⟩ := u_bind hz
    refine u_callVi (As := [.int p2, .int p3]) (rest := []) cx hw LV_X12_267 (c_X12_areTwo l G N σ p2 p3 v5 hv5) o_X12 rfl (by decide) hl.1 rfl (Nat.le_of_ble_eq_true rfl) dX12_act_84 rfl (fun H locs hw => ?_)
    refine lv_if_ne (tgt := 92) hx hb dX12_act_87 (by decide) (fun hc => ?_) (fun hc => ?_)
    · replace hz := u_iff hz hc
      refine lv_aload_n hx hb dX12_act_92 rfl (lv_at hl 0 rfl) ?_
      refine u_getp cx hw F_X12_9 o_X12 rfl dX12_act_93 ?_
      refine lv_iload_n hx hb dX12_act_96 rfl (lv_at hl 2 rfl) ?_
      refine lv_iload_n hx hb dX12_act_97 rfl (lv_at hl 3 rfl) ?_
      obtain ⟨s6, hs6, hz⟩ := u_bind hz
      refine u_callSv (As := [.ref (G.2.2 1), .int p2, .int p3]) (rest := []) cx hw LS_X12_270 (c_X12_goGlance l G N σ 1 p2 p3 s6 hs6) (by decide) hl.1 rfl (Nat.le_of_ble_eq_true rfl) dX12_act_98 rfl (fun H locs hw => ?_)
      refine lv_iconst (v := 1) hx hb dX12_act_101 (by decide) ?_
      exact u_zret cx hw (Or.inr rfl) (u_pair hz) dX12_act_102
    · replace hz := u_ift hz hc
      refine lv_iconst (v := 0) hx hb dX12_act_90 (by decide) ?_
      exact u_zret cx hw (Or.inl rfl) (u_pair hz) dX12_act_91
  replace hz := u_iff hz hk103
  by_cases hk115 : p1 = 115
  · replace hz := u_ift hz hk115
    refine lv_lookup (off := 55) (tgt := 56) hx hb dX12_act_1 (by decide) (by rw [hk115]; decide) (by decide) ?_
    refine lv_aload_n hx hb dX12_act_56 rfl (lv_at hl 0 rfl) ?_
    refine lv_iload_n hx hb dX12_act_57 rfl (lv_at hl 2 rfl) ?_
    obtain ⟨v7, hv7, hz⟩ := u_bind hz
    refine u_callVi (As := [.int p2]) (rest := []) cx hw LV_X12_264 (c_X12_refusesShow l G N σ p2 v7 hv7) o_X12 rfl (by decide) hl.1 rfl (Nat.le_of_ble_eq_true rfl) dX12_act_58 rfl (fun H locs hw => ?_)
    refine lv_if_ge (tgt := 66) hx hb dX12_act_61 (by decide) (fun hc => ?_) (fun hc => ?_)
    · replace hz := u_ift hz hc
      refine lv_aload_n hx hb dX12_act_66 rfl (lv_at hl 0 rfl) ?_
      refine u_getp cx hw F_X12_9 o_X12 rfl dX12_act_67 ?_
      refine lv_bipush (v := 34) hx hb dX12_act_70 (by decide) ?_
      refine lv_dup2_11 hx hb dX12_act_72 rfl rfl ?_
      obtain ⟨v8, hv8, hz⟩ := u_bind hz
      refine u_iald cx hw hv8 dX12_act_73 ?_
      refine lv_iconst (v := 1) hx hb dX12_act_74 (by decide) ?_
      refine lv_iload_n hx hb dX12_act_75 rfl (lv_at hl 2 rfl) ?_
      refine lv_ishl hx hb dX12_act_76 ?_
      refine lv_ior hx hb dX12_act_77 ?_
      obtain ⟨s9, hs9, hz⟩ := u_bind hz
      refine u_iast cx hw hs9 dX12_act_78 (fun H locs hw => ?_)
      refine lv_iconst (v := 1) hx hb dX12_act_79 (by decide) ?_
      exact u_zret cx hw (Or.inr rfl) (u_pair hz) dX12_act_80
    · replace hz := u_iff hz hc
      refine lv_iconst (v := 0) hx hb dX12_act_64 (by decide) ?_
      exact u_zret cx hw (Or.inl rfl) (u_pair hz) dX12_act_65
  replace hz := u_iff hz hk115
  refine lv_lookup (off := 133) (tgt := 134) hx hb dX12_act_1 (by decide) (by refine (lv_osw hk43 (by decide)).trans ?_; refine (lv_osw hk99 (by decide)).trans ?_; refine (lv_osw hk103 (by decide)).trans ?_; refine (lv_osw hk115 (by decide)).trans ?_; rfl) (by decide) ?_
  refine lv_aload_n hx hb dX12_act_134 rfl (lv_at hl 0 rfl) ?_
  refine u_getp cx hw F_X12_9 o_X12 rfl dX12_act_135 ?_
  refine lv_bipush (v := 33) hx hb dX12_act_138 (by decide) ?_
  obtain ⟨v10, hv10, hz⟩ := u_bind hz
  refine u_iald cx hw hv10 dX12_act_140 ?_
  refine lv_aload_n hx hb dX12_act_141 rfl (lv_at hl 0 rfl) ?_
  refine u_getp cx hw F_X12_9 o_X12 rfl dX12_act_142 ?_
  refine lv_bipush (v := 32) hx hb dX12_act_145 (by decide) ?_
  obtain ⟨v11, hv11, hz⟩ := u_bind hz
  refine u_iald cx hw hv11 dX12_act_147 ?_
  refine lv_icmp_ne (tgt := 153) hx hb dX12_act_148 (by decide) (fun hc => ?_) (fun hc => ?_)
  · replace hz := u_iff hz hc
    refine lv_aload_n hx hb dX12_act_153 rfl (lv_at hl 0 rfl) ?_
    refine u_getp cx hw F_X12_9 o_X12 rfl dX12_act_154 ?_
    refine lv_bipush (v := 33) hx hb dX12_act_157 (by decide) ?_
    refine lv_dup2_11 hx hb dX12_act_159 rfl rfl ?_
    obtain ⟨v12, hv12, hz⟩ := u_bind hz
    refine u_iald cx hw hv12 dX12_act_160 ?_
    refine lv_iconst (v := 1) hx hb dX12_act_161 (by decide) ?_
    refine lv_isub hx hb dX12_act_162 ?_
    obtain ⟨s13, hs13, hz⟩ := u_bind hz
    refine u_iast cx hw hs13 dX12_act_163 (fun H locs hw => ?_)
    refine lv_iconst (v := 1) hx hb dX12_act_164 (by decide) ?_
    exact u_zret cx hw (Or.inr rfl) (u_pair hz) dX12_act_165
  · replace hz := u_ift hz hc
    refine lv_iconst (v := 0) hx hb dX12_act_151 (by decide) ?_
    exact u_zret cx hw (Or.inl rfl) (u_pair hz) dX12_act_152
theorem dX12_later_0 : decode cX12_later 0 = .ok (.aload_n 0, 1) := by decide +kernel
theorem dX12_later_1 : decode cX12_later 1 = .ok (.iconst 0, 1) := by decide +kernel
theorem dX12_later_2 : decode cX12_later 2 = .ok (.putfield 77, 3) := by decide +kernel
theorem dX12_later_5 : decode cX12_later 5 = .ok (.iload_n 1, 1) := by decide +kernel
theorem dX12_later_6 : decode cX12_later 6 = .ok (.iconst 0, 1) := by decide +kernel
theorem dX12_later_7 : decode cX12_later 7 = .ok (.bipush 99, 2) := by decide +kernel
theorem dX12_later_9 : decode cX12_later 9 = .ok (.invokestatic 86, 3) := by decide +kernel
theorem dX12_later_12 : decode cX12_later 12 = .ok (.ifCond .ne 5, 3) := by decide +kernel
theorem dX12_later_15 : decode cX12_later 15 = .ok (.iconst (-1), 1) := by decide +kernel
theorem dX12_later_16 : decode cX12_later 16 = .ok (.ireturn, 1) := by decide +kernel
theorem dX12_later_17 : decode cX12_later 17 = .ok (.aload_n 0, 1) := by decide +kernel
theorem dX12_later_18 : decode cX12_later 18 = .ok (.getfield 9, 3) := by decide +kernel
theorem dX12_later_21 : decode cX12_later 21 = .ok (.aload_n 0, 1) := by decide +kernel
theorem dX12_later_22 : decode cX12_later 22 = .ok (.getfield 46, 3) := by decide +kernel
theorem dX12_later_25 : decode cX12_later 25 = .ok (.iconst 0, 1) := by decide +kernel
theorem dX12_later_26 : decode cX12_later 26 = .ok (.invokestatic 242, 3) := by decide +kernel
theorem dX12_later_29 : decode cX12_later 29 = .ok (.aload_n 0, 1) := by decide +kernel
theorem dX12_later_30 : decode cX12_later 30 = .ok (.aload_n 0, 1) := by decide +kernel
theorem dX12_later_31 : decode cX12_later 31 = .ok (.getfield 46, 3) := by decide +kernel
theorem dX12_later_34 : decode cX12_later 34 = .ok (.iload_n 1, 1) := by decide +kernel
theorem dX12_later_35 : decode cX12_later 35 = .ok (.invokevirtual 257, 3) := by decide +kernel
theorem dX12_later_38 : decode cX12_later 38 = .ok (.pop, 1) := by decide +kernel
theorem dX12_later_39 : decode cX12_later 39 = .ok (.aload_n 0, 1) := by decide +kernel
theorem dX12_later_40 : decode cX12_later 40 = .ok (.iconst 0, 1) := by decide +kernel
theorem dX12_later_41 : decode cX12_later 41 = .ok (.putfield 80, 3) := by decide +kernel
theorem dX12_later_44 : decode cX12_later 44 = .ok (.aload_n 0, 1) := by decide +kernel
theorem dX12_later_45 : decode cX12_later 45 = .ok (.aload_n 0, 1) := by decide +kernel
theorem dX12_later_46 : decode cX12_later 46 = .ok (.aload_n 0, 1) := by decide +kernel
theorem dX12_later_47 : decode cX12_later 47 = .ok (.getfield 46, 3) := by decide +kernel
theorem dX12_later_50 : decode cX12_later 50 = .ok (.aload_n 0, 1) := by decide +kernel
theorem dX12_later_51 : decode cX12_later 51 = .ok (.invokevirtual 94, 3) := by decide +kernel
theorem dX12_later_54 : decode cX12_later 54 = .ok (.invokevirtual 211, 3) := by decide +kernel
theorem dX12_later_57 : decode cX12_later 57 = .ok (.i2l, 1) := by decide +kernel
theorem dX12_later_58 : decode cX12_later 58 = .ok (.invokevirtual 260, 3) := by decide +kernel
theorem dX12_later_61 : decode cX12_later 61 = .ok (.aload_n 0, 1) := by decide +kernel
theorem dX12_later_62 : decode cX12_later 62 = .ok (.aload_n 0, 1) := by decide +kernel
theorem dX12_later_63 : decode cX12_later 63 = .ok (.getfield 46, 3) := by decide +kernel
theorem dX12_later_66 : decode cX12_later 66 = .ok (.bipush 36, 2) := by decide +kernel
theorem dX12_later_68 : decode cX12_later 68 = .ok (.iaload, 1) := by decide +kernel
theorem dX12_later_69 : decode cX12_later 69 = .ok (.aload_n 0, 1) := by decide +kernel
theorem dX12_later_70 : decode cX12_later 70 = .ok (.getfield 9, 3) := by decide +kernel
theorem dX12_later_73 : decode cX12_later 73 = .ok (.bipush 36, 2) := by decide +kernel
theorem dX12_later_75 : decode cX12_later 75 = .ok (.iaload, 1) := by decide +kernel
theorem dX12_later_76 : decode cX12_later 76 = .ok (.isub, 1) := by decide +kernel
theorem dX12_later_77 : decode cX12_later 77 = .ok (.i2l, 1) := by decide +kernel
theorem dX12_later_78 : decode cX12_later 78 = .ok (.invokevirtual 260, 3) := by decide +kernel
theorem dX12_later_81 : decode cX12_later 81 = .ok (.aload_n 0, 1) := by decide +kernel
theorem dX12_later_82 : decode cX12_later 82 = .ok (.aload_n 0, 1) := by decide +kernel
theorem dX12_later_83 : decode cX12_later 83 = .ok (.getfield 46, 3) := by decide +kernel
theorem dX12_later_86 : decode cX12_later 86 = .ok (.invokevirtual 214, 3) := by decide +kernel
theorem dX12_later_89 : decode cX12_later 89 = .ok (.ireturn, 1) := by decide +kernel
def f_X12_later (N : Nat) (σ : uS) (p1 : Int32) : Option (Int32 × uS) := u_jn (u_pI σ 0 8 0) fun s1 =>
  (f_X12_in N s1 p1 0 99).bind fun v2 =>
  if v2 = 0 then (some ((-1), s1)) else ((f_X12_lay N s1 1 11 0).bind fun s3 =>
  (f_X12_goCrossings N s3 11 p1).bind fun v4 =>
  u_jn (u_pI v4.2 0 7 0) fun s5 =>
  (f_X12_all N s5).bind fun v6 =>
  (f_X12_beliefs N s5 11 v6).bind fun v7 =>
  (f_X12_tell N s5 (Int32.toInt64 v7)).bind fun s8 =>
  (u_rI ZM s8 0 11 36).bind fun v9 =>
  (u_rI ZM s8 0 1 36).bind fun v10 =>
  (f_X12_tell N s8 (Int32.toInt64 (v9 - v10))).bind fun s11 =>
  (f_X12_inBits N s11 11).bind fun v12 =>
  some (v12, s11))
set_option maxRecDepth 100000 in
set_option maxHeartbeats 4000000 in
theorem c_X12_later (l : Launch) (G : uG) (N : Nat) (σ : uS) (p1 : Int32) (z : (Int32 × uS)) (hz : f_X12_later N σ p1 = some z) : u_Mi l ZM G yX12_later cX12_later 2 .int 108 [.ref (G.2.2 0), .int p1] σ z.1 z.2 := by
  refine u_Mi_of RX12 (by decide) rfl (Nat.le_of_ble_eq_true rfl) ?_
  intro p e s m args below meth c ls cx hw hl
  have hx := cx.1
  have hb := cx.2.1
  have hl : lv_has ls 2 [(0, .ref (G.2.2 0)), (1, .int p1)] := hl
  unfold f_X12_later at hz
  refine lv_aload_n hx hb dX12_later_0 rfl (lv_at hl 0 rfl) ?_
  refine lv_iconst (v := 0) hx hb dX12_later_1 (by decide) ?_
  obtain ⟨s1, es1, hz⟩ := u_let hz
  refine u_puti2 cx hw P_X12_77 o_X12 rfl es1 dX12_later_2 (fun H locs hw => ?_)
  refine lv_iload_n hx hb dX12_later_5 rfl (lv_at hl 1 rfl) ?_
  refine lv_iconst (v := 0) hx hb dX12_later_6 (by decide) ?_
  refine lv_bipush (v := 99) hx hb dX12_later_7 (by decide) ?_
  obtain ⟨v2, hv2, hz⟩ := u_bind hz
  refine u_callSi (As := [.int p1, .int 0, .int 99]) (rest := []) cx hw LS_X12_86 (c_X12_in l G N s1 p1 0 99 v2 hv2) (by decide) hl.1 rfl (Nat.le_of_ble_eq_true rfl) dX12_later_9 rfl (fun H locs hw => ?_)
  refine lv_if_ne (tgt := 17) hx hb dX12_later_12 (by decide) (fun hc => ?_) (fun hc => ?_)
  · replace hz := u_iff hz hc
    refine lv_aload_n hx hb dX12_later_17 rfl (lv_at hl 0 rfl) ?_
    refine u_getp cx hw F_X12_9 o_X12 rfl dX12_later_18 ?_
    refine lv_aload_n hx hb dX12_later_21 rfl (lv_at hl 0 rfl) ?_
    refine u_getp cx hw F_X12_46 o_X12 rfl dX12_later_22 ?_
    refine lv_iconst (v := 0) hx hb dX12_later_25 (by decide) ?_
    obtain ⟨s3, hs3, hz⟩ := u_bind hz
    refine u_callSv (As := [.ref (G.2.2 1), .ref (G.2.2 11), .int 0]) (rest := []) cx hw LS_X12_242 (c_X12_lay l G N s1 1 11 0 s3 hs3) (by decide) hl.1 rfl (Nat.le_of_ble_eq_true rfl) dX12_later_26 rfl (fun H locs hw => ?_)
    refine lv_aload_n hx hb dX12_later_29 rfl (lv_at hl 0 rfl) ?_
    refine lv_aload_n hx hb dX12_later_30 rfl (lv_at hl 0 rfl) ?_
    refine u_getp cx hw F_X12_46 o_X12 rfl dX12_later_31 ?_
    refine lv_iload_n hx hb dX12_later_34 rfl (lv_at hl 1 rfl) ?_
    obtain ⟨v4, hv4, hz⟩ := u_bind hz
    refine u_callVi (As := [.ref (G.2.2 11), .int p1]) (rest := []) cx hw LV_X12_257 (c_X12_goCrossings l G N s3 11 p1 v4 hv4) o_X12 rfl (by decide) hl.1 rfl (Nat.le_of_ble_eq_true rfl) dX12_later_35 rfl (fun H locs hw => ?_)
    refine lv_pop hx hb dX12_later_38 rfl ?_
    refine lv_aload_n hx hb dX12_later_39 rfl (lv_at hl 0 rfl) ?_
    refine lv_iconst (v := 0) hx hb dX12_later_40 (by decide) ?_
    obtain ⟨s5, es5, hz⟩ := u_let hz
    refine u_puti2 cx hw P_X12_80 o_X12 rfl es5 dX12_later_41 (fun H locs hw => ?_)
    refine lv_aload_n hx hb dX12_later_44 rfl (lv_at hl 0 rfl) ?_
    refine lv_aload_n hx hb dX12_later_45 rfl (lv_at hl 0 rfl) ?_
    refine lv_aload_n hx hb dX12_later_46 rfl (lv_at hl 0 rfl) ?_
    refine u_getp cx hw F_X12_46 o_X12 rfl dX12_later_47 ?_
    refine lv_aload_n hx hb dX12_later_50 rfl (lv_at hl 0 rfl) ?_
    obtain ⟨v6, hv6, hz⟩ := u_bind hz
    refine u_callVi (As := []) (rest := [.ref (G.2.2 11), .ref (G.2.2 0), .ref (G.2.2 0)]) cx hw LV_X12_94 (c_X12_all l G N s5 v6 hv6) o_X12 rfl (by decide) hl.1 rfl (Nat.le_of_ble_eq_true rfl) dX12_later_51 rfl (fun H locs hw => ?_)
    obtain ⟨v7, hv7, hz⟩ := u_bind hz
    refine u_callVi (As := [.ref (G.2.2 11), .int v6]) (rest := [.ref (G.2.2 0)]) cx hw LV_X12_211 (c_X12_beliefs l G N s5 11 v6 v7 hv7) o_X12 rfl (by decide) hl.1 rfl (Nat.le_of_ble_eq_true rfl) dX12_later_54 rfl (fun H locs hw => ?_)
    refine lv_i2l (v := (Int32.toInt64 v7)) hx hb dX12_later_57 rfl ?_
    obtain ⟨s8, hs8, hz⟩ := u_bind hz
    refine u_callVv (As := [.long (Int32.toInt64 v7)]) (rest := []) cx hw LV_X12_260 (c_X12_tell l G N s5 (Int32.toInt64 v7) s8 hs8) o_X12 rfl (by decide) hl.1 rfl (Nat.le_of_ble_eq_true rfl) dX12_later_58 rfl (fun H locs hw => ?_)
    refine lv_aload_n hx hb dX12_later_61 rfl (lv_at hl 0 rfl) ?_
    refine lv_aload_n hx hb dX12_later_62 rfl (lv_at hl 0 rfl) ?_
    refine u_getp cx hw F_X12_46 o_X12 rfl dX12_later_63 ?_
    refine lv_bipush (v := 36) hx hb dX12_later_66 (by decide) ?_
    obtain ⟨v9, hv9, hz⟩ := u_bind hz
    refine u_iald cx hw hv9 dX12_later_68 ?_
    refine lv_aload_n hx hb dX12_later_69 rfl (lv_at hl 0 rfl) ?_
    refine u_getp cx hw F_X12_9 o_X12 rfl dX12_later_70 ?_
    refine lv_bipush (v := 36) hx hb dX12_later_73 (by decide) ?_
    obtain ⟨v10, hv10, hz⟩ := u_bind hz
    refine u_iald cx hw hv10 dX12_later_75 ?_
    refine lv_isub hx hb dX12_later_76 ?_
    refine lv_i2l (v := (Int32.toInt64 (v9 - v10))) hx hb dX12_later_77 rfl ?_
    obtain ⟨s11, hs11, hz⟩ := u_bind hz
    refine u_callVv (As := [.long (Int32.toInt64 (v9 - v10))]) (rest := []) cx hw LV_X12_260 (c_X12_tell l G N s8 (Int32.toInt64 (v9 - v10)) s11 hs11) o_X12 rfl (by decide) hl.1 rfl (Nat.le_of_ble_eq_true rfl) dX12_later_78 rfl (fun H locs hw => ?_)
    refine lv_aload_n hx hb dX12_later_81 rfl (lv_at hl 0 rfl) ?_
    refine lv_aload_n hx hb dX12_later_82 rfl (lv_at hl 0 rfl) ?_
    refine u_getp cx hw F_X12_46 o_X12 rfl dX12_later_83 ?_
    obtain ⟨v12, hv12, hz⟩ := u_bind hz
    refine u_callVi (As := [.ref (G.2.2 11)]) (rest := []) cx hw LV_X12_214 (c_X12_inBits l G N s11 11 v12 hv12) o_X12 rfl (by decide) hl.1 rfl (Nat.le_of_ble_eq_true rfl) dX12_later_86 rfl (fun H locs hw => ?_)
    exact u_iret cx hw (u_pair hz) dX12_later_89
  · replace hz := u_ift hz hc
    refine lv_iconst (v := (-1)) hx hb dX12_later_15 (by decide) ?_
    exact u_iret cx hw (u_pair hz) dX12_later_16
theorem dX12_settles_0 : decode cX12_settles 0 = .ok (.aload_n 0, 1) := by decide +kernel
theorem dX12_settles_1 : decode cX12_settles 1 = .ok (.iconst 0, 1) := by decide +kernel
theorem dX12_settles_2 : decode cX12_settles 2 = .ok (.putfield 77, 3) := by decide +kernel
theorem dX12_settles_5 : decode cX12_settles 5 = .ok (.aload_n 0, 1) := by decide +kernel
theorem dX12_settles_6 : decode cX12_settles 6 = .ok (.getfield 9, 3) := by decide +kernel
theorem dX12_settles_9 : decode cX12_settles 9 = .ok (.aload_n 0, 1) := by decide +kernel
theorem dX12_settles_10 : decode cX12_settles 10 = .ok (.getfield 46, 3) := by decide +kernel
theorem dX12_settles_13 : decode cX12_settles 13 = .ok (.iconst 0, 1) := by decide +kernel
theorem dX12_settles_14 : decode cX12_settles 14 = .ok (.invokestatic 242, 3) := by decide +kernel
theorem dX12_settles_17 : decode cX12_settles 17 = .ok (.aload_n 0, 1) := by decide +kernel
theorem dX12_settles_18 : decode cX12_settles 18 = .ok (.getfield 46, 3) := by decide +kernel
theorem dX12_settles_21 : decode cX12_settles 21 = .ok (.bipush 34, 2) := by decide +kernel
theorem dX12_settles_23 : decode cX12_settles 23 = .ok (.iconst 0, 1) := by decide +kernel
theorem dX12_settles_24 : decode cX12_settles 24 = .ok (.iastore, 1) := by decide +kernel
theorem dX12_settles_25 : decode cX12_settles 25 = .ok (.iconst 0, 1) := by decide +kernel
theorem dX12_settles_26 : decode cX12_settles 26 = .ok (.istore_n 1, 1) := by decide +kernel
theorem dX12_settles_27 : decode cX12_settles 27 = .ok (.iload_n 1, 1) := by decide +kernel
theorem dX12_settles_28 : decode cX12_settles 28 = .ok (.sipush 200, 3) := by decide +kernel
theorem dX12_settles_31 : decode cX12_settles 31 = .ok (.if_icmp .gt 79, 3) := by decide +kernel
theorem dX12_settles_34 : decode cX12_settles 34 = .ok (.aload_n 0, 1) := by decide +kernel
theorem dX12_settles_35 : decode cX12_settles 35 = .ok (.getfield 58, 3) := by decide +kernel
theorem dX12_settles_38 : decode cX12_settles 38 = .ok (.iload_n 1, 1) := by decide +kernel
theorem dX12_settles_39 : decode cX12_settles 39 = .ok (.aload_n 0, 1) := by decide +kernel
theorem dX12_settles_40 : decode cX12_settles 40 = .ok (.aload_n 0, 1) := by decide +kernel
theorem dX12_settles_41 : decode cX12_settles 41 = .ok (.getfield 46, 3) := by decide +kernel
theorem dX12_settles_44 : decode cX12_settles 44 = .ok (.invokevirtual 282, 3) := by decide +kernel
theorem dX12_settles_47 : decode cX12_settles 47 = .ok (.lastore, 1) := by decide +kernel
theorem dX12_settles_48 : decode cX12_settles 48 = .ok (.iconst 0, 1) := by decide +kernel
theorem dX12_settles_49 : decode cX12_settles 49 = .ok (.istore_n 2, 1) := by decide +kernel
theorem dX12_settles_50 : decode cX12_settles 50 = .ok (.iload_n 2, 1) := by decide +kernel
theorem dX12_settles_51 : decode cX12_settles 51 = .ok (.iload_n 1, 1) := by decide +kernel
theorem dX12_settles_52 : decode cX12_settles 52 = .ok (.if_icmp .ge 43, 3) := by decide +kernel
theorem dX12_settles_55 : decode cX12_settles 55 = .ok (.aload_n 0, 1) := by decide +kernel
theorem dX12_settles_56 : decode cX12_settles 56 = .ok (.getfield 58, 3) := by decide +kernel
theorem dX12_settles_59 : decode cX12_settles 59 = .ok (.iload_n 2, 1) := by decide +kernel
theorem dX12_settles_60 : decode cX12_settles 60 = .ok (.laload, 1) := by decide +kernel
theorem dX12_settles_61 : decode cX12_settles 61 = .ok (.aload_n 0, 1) := by decide +kernel
theorem dX12_settles_62 : decode cX12_settles 62 = .ok (.getfield 58, 3) := by decide +kernel
theorem dX12_settles_65 : decode cX12_settles 65 = .ok (.iload_n 1, 1) := by decide +kernel
theorem dX12_settles_66 : decode cX12_settles 66 = .ok (.laload, 1) := by decide +kernel
theorem dX12_settles_67 : decode cX12_settles 67 = .ok (.lcmp, 1) := by decide +kernel
theorem dX12_settles_68 : decode cX12_settles 68 = .ok (.ifCond .eq 6, 3) := by decide +kernel
theorem dX12_settles_71 : decode cX12_settles 71 = .ok (.goto 18, 3) := by decide +kernel
theorem dX12_settles_74 : decode cX12_settles 74 = .ok (.aload_n 0, 1) := by decide +kernel
theorem dX12_settles_75 : decode cX12_settles 75 = .ok (.iconst 0, 1) := by decide +kernel
theorem dX12_settles_76 : decode cX12_settles 76 = .ok (.putfield 80, 3) := by decide +kernel
theorem dX12_settles_79 : decode cX12_settles 79 = .ok (.aload_n 0, 1) := by decide +kernel
theorem dX12_settles_80 : decode cX12_settles 80 = .ok (.iload_n 1, 1) := by decide +kernel
theorem dX12_settles_81 : decode cX12_settles 81 = .ok (.iload_n 2, 1) := by decide +kernel
theorem dX12_settles_82 : decode cX12_settles 82 = .ok (.isub, 1) := by decide +kernel
theorem dX12_settles_83 : decode cX12_settles 83 = .ok (.i2l, 1) := by decide +kernel
theorem dX12_settles_84 : decode cX12_settles 84 = .ok (.invokevirtual 260, 3) := by decide +kernel
theorem dX12_settles_87 : decode cX12_settles 87 = .ok (.iload_n 2, 1) := by decide +kernel
theorem dX12_settles_88 : decode cX12_settles 88 = .ok (.ireturn, 1) := by decide +kernel
theorem dX12_settles_89 : decode cX12_settles 89 = .ok (.iinc 2 1, 3) := by decide +kernel
theorem dX12_settles_92 : decode cX12_settles 92 = .ok (.goto (-42), 3) := by decide +kernel
theorem dX12_settles_95 : decode cX12_settles 95 = .ok (.aload_n 0, 1) := by decide +kernel
theorem dX12_settles_96 : decode cX12_settles 96 = .ok (.aload_n 0, 1) := by decide +kernel
theorem dX12_settles_97 : decode cX12_settles 97 = .ok (.getfield 46, 3) := by decide +kernel
theorem dX12_settles_100 : decode cX12_settles 100 = .ok (.invokevirtual 250, 3) := by decide +kernel
theorem dX12_settles_103 : decode cX12_settles 103 = .ok (.pop, 1) := by decide +kernel
theorem dX12_settles_104 : decode cX12_settles 104 = .ok (.iinc 1 1, 3) := by decide +kernel
theorem dX12_settles_107 : decode cX12_settles 107 = .ok (.goto (-80), 3) := by decide +kernel
theorem dX12_settles_110 : decode cX12_settles 110 = .ok (.bipush (-2), 2) := by decide +kernel
theorem dX12_settles_112 : decode cX12_settles 112 = .ok (.ireturn, 1) := by decide +kernel
def b_X12_settles_50 (N : Nat) (x7 : Int32) (s10 : uS) (J95_11 : Option (Int32 × uS)) (rec50_15 : Int32 → Option (Int32 × uS)) (x14 : Int32) : Option (Int32 × uS) :=
  if x7 ≤ x14 then (J95_11) else ((u_rL ZM s10 15 x14).bind fun v16 =>
  (u_rL ZM s10 15 x7).bind fun v17 =>
  if (lg_cmp v16 v17) = 0 then (u_jn (u_pI s10 0 7 0) fun s18 =>
  (f_X12_tell N s18 (Int32.toInt64 (x7 - x14))).bind fun s19 =>
  some (x14, s19)) else (u_jn (x14 + 1 : Int32) fun x20 =>
  rec50_15 x20))
def b_X12_settles_27 (N : Nat) (J110_5 : uS → Option (Int32 × uS)) (rec27_8 : uS → Int32 → Option (Int32 × uS)) (s6 : uS) (x7 : Int32) : Option (Int32 × uS) :=
  if 200 < x7 then (J110_5 s6) else ((f_X12_coded N s6 11).bind fun v9 =>
  (u_wL ZM s6 15 x7 v9).bind fun s10 =>
  u_jn (((f_X12_goCrossing N s10 11).bind fun v12 =>
  u_jn (x7 + 1 : Int32) fun x13 =>
  rec27_8 v12.2 x13 : Option (Int32 × uS))) fun J95_11 =>
  u_lp1 (b_X12_settles_50 N x7 s10 J95_11) N 0)
def f_X12_settles (N : Nat) (σ : uS) : Option (Int32 × uS) := u_jn (u_pI σ 0 8 0) fun s1 =>
  (f_X12_lay N s1 1 11 0).bind fun s2 =>
  (u_wI ZM s2 0 11 34 0).bind fun s3 =>
  u_jn (fun (s4 : uS) => (some ((-2), s4) : Option (Int32 × uS))) fun J110_5 =>
  u_lp2 (b_X12_settles_27 N J110_5) N s3 0
set_option maxRecDepth 100000 in
set_option maxHeartbeats 4000000 in
theorem c_X12_settles (l : Launch) (G : uG) (N : Nat) (σ : uS) (z : (Int32 × uS)) (hz : f_X12_settles N σ = some z) : u_Mi l ZM G yX12_settles cX12_settles 3 .int 107 [.ref (G.2.2 0)] σ z.1 z.2 := by
  refine u_Mi_of RX12 (by decide) rfl (Nat.le_of_ble_eq_true rfl) ?_
  intro p e s m args below meth c ls cx hw hl
  have hx := cx.1
  have hb := cx.2.1
  have hl : lv_has ls 3 [(0, .ref (G.2.2 0))] := hl
  unfold f_X12_settles at hz
  refine lv_aload_n hx hb dX12_settles_0 rfl (lv_at hl 0 rfl) ?_
  refine lv_iconst (v := 0) hx hb dX12_settles_1 (by decide) ?_
  obtain ⟨s1, es1, hz⟩ := u_let hz
  refine u_puti2 cx hw P_X12_77 o_X12 rfl es1 dX12_settles_2 (fun H locs hw => ?_)
  refine lv_aload_n hx hb dX12_settles_5 rfl (lv_at hl 0 rfl) ?_
  refine u_getp cx hw F_X12_9 o_X12 rfl dX12_settles_6 ?_
  refine lv_aload_n hx hb dX12_settles_9 rfl (lv_at hl 0 rfl) ?_
  refine u_getp cx hw F_X12_46 o_X12 rfl dX12_settles_10 ?_
  refine lv_iconst (v := 0) hx hb dX12_settles_13 (by decide) ?_
  obtain ⟨s2, hs2, hz⟩ := u_bind hz
  refine u_callSv (As := [.ref (G.2.2 1), .ref (G.2.2 11), .int 0]) (rest := []) cx hw LS_X12_242 (c_X12_lay l G N s1 1 11 0 s2 hs2) (by decide) hl.1 rfl (Nat.le_of_ble_eq_true rfl) dX12_settles_14 rfl (fun H locs hw => ?_)
  refine lv_aload_n hx hb dX12_settles_17 rfl (lv_at hl 0 rfl) ?_
  refine u_getp cx hw F_X12_46 o_X12 rfl dX12_settles_18 ?_
  refine lv_bipush (v := 34) hx hb dX12_settles_21 (by decide) ?_
  refine lv_iconst (v := 0) hx hb dX12_settles_23 (by decide) ?_
  obtain ⟨s3, hs3, hz⟩ := u_bind hz
  refine u_iast cx hw hs3 dX12_settles_24 (fun H locs hw => ?_)
  refine lv_iconst (v := 0) hx hb dX12_settles_25 (by decide) ?_
  refine lv_istore_n (lv' := [(1, .int 0), (0, .ref (G.2.2 0))]) hx hb dX12_settles_26 rfl hl (by decide) rfl (fun ls hl => ?_)
  obtain ⟨J110_5, eJ110_5, hz⟩ := u_let hz
  have WJ110_5 : ∀ (s4 : uS) (H : Heap) (locs : List Loc) (ls : Array Slot), J110_5 s4 = some z → u_W ZM G s4 s H locs → lv_has ls 3 [] → W p l e (u_rm 107) s m args below meth c H locs 0 0 (u_Qi below ZM G s args z.1 z.2) (F0 m 110 ls []) := by
    intro s4 H locs ls hz hw hl
    rw [eJ110_5] at hz
    refine lv_bipush (v := (-2)) hx hb dX12_settles_110 (by decide) ?_
    exact u_iret cx hw (u_pair hz) dX12_settles_112
  have WL27_20 : ∀ (k : Nat) (s6 : uS) (x7 : Int32) (H : Heap) (locs : List Loc) (ls : Array Slot), u_lp2 (b_X12_settles_27 N J110_5) k s6 x7 = some z → u_W ZM G s6 s H locs → lv_has ls 3 [(0, .ref (G.2.2 0)), (1, .int x7)] → W p l e (u_rm 107) s m args below meth c H locs 0 0 (u_Qi below ZM G s args z.1 z.2) (F0 m 27 ls []) := by
    intro k
    induction k with
    | zero =>
      intro s6 x7 H locs ls hz
      exact absurd hz (by intro h9; cases h9)
    | succ k ih27_8 =>
      intro s6 x7 H locs ls hz hw hl
      have hz : (b_X12_settles_27 N J110_5) (u_lp2 (b_X12_settles_27 N J110_5) k) s6 x7 = some z := hz
      unfold b_X12_settles_27 at hz
      refine lv_iload_n hx hb dX12_settles_27 rfl (lv_at hl 1 rfl) ?_
      refine lv_sipush (v := 200) hx hb dX12_settles_28 (by decide) ?_
      refine lv_icmp_gt (tgt := 110) hx hb dX12_settles_31 (by decide) (fun hc => ?_) (fun hc => ?_)
      · replace hz := u_ift hz hc
        exact WJ110_5 s6 _ _ _ hz hw (lv_sub hl [] rfl)
      · replace hz := u_iff hz hc
        refine lv_aload_n hx hb dX12_settles_34 rfl (lv_at hl 0 rfl) ?_
        refine u_getp cx hw F_X12_58 o_X12 rfl dX12_settles_35 ?_
        refine lv_iload_n hx hb dX12_settles_38 rfl (lv_at hl 1 rfl) ?_
        refine lv_aload_n hx hb dX12_settles_39 rfl (lv_at hl 0 rfl) ?_
        refine lv_aload_n hx hb dX12_settles_40 rfl (lv_at hl 0 rfl) ?_
        refine u_getp cx hw F_X12_46 o_X12 rfl dX12_settles_41 ?_
        obtain ⟨v9, hv9, hz⟩ := u_bind hz
        refine u_callVl (As := [.ref (G.2.2 11)]) (rest := [.int x7, .ref (G.2.2 15)]) cx hw LV_X12_282 (c_X12_coded l G N s6 11 v9 hv9) o_X12 rfl (by decide) hl.1 rfl (Nat.le_of_ble_eq_true rfl) dX12_settles_44 rfl (fun H locs hw => ?_)
        obtain ⟨s10, hs10, hz⟩ := u_bind hz
        refine u_last cx hw hs10 dX12_settles_47 (fun H locs hw => ?_)
        refine lv_iconst (v := 0) hx hb dX12_settles_48 (by decide) ?_
        refine lv_istore_n (lv' := [(2, .int 0), (0, .ref (G.2.2 0)), (1, .int x7)]) hx hb dX12_settles_49 rfl hl (by decide) rfl (fun ls hl => ?_)
        obtain ⟨J95_11, eJ95_11, hz⟩ := u_let hz
        have WJ95_11 : ∀ (H : Heap) (locs : List Loc) (ls : Array Slot), J95_11 = some z → u_W ZM G s10 s H locs → lv_has ls 3 [(0, .ref (G.2.2 0)), (1, .int x7)] → W p l e (u_rm 107) s m args below meth c H locs 0 0 (u_Qi below ZM G s args z.1 z.2) (F0 m 95 ls []) := by
          intro H locs ls hz hw hl
          rw [eJ95_11] at hz
          refine lv_aload_n hx hb dX12_settles_95 rfl (lv_at hl 0 rfl) ?_
          refine lv_aload_n hx hb dX12_settles_96 rfl (lv_at hl 0 rfl) ?_
          refine u_getp cx hw F_X12_46 o_X12 rfl dX12_settles_97 ?_
          obtain ⟨v12, hv12, hz⟩ := u_bind hz
          refine u_callVi (As := [.ref (G.2.2 11)]) (rest := []) cx hw LV_X12_250 (c_X12_goCrossing l G N s10 11 v12 hv12) o_X12 rfl (by decide) hl.1 rfl (Nat.le_of_ble_eq_true rfl) dX12_settles_100 rfl (fun H locs hw => ?_)
          refine lv_pop hx hb dX12_settles_103 rfl ?_
          obtain ⟨x13, ex13, hz⟩ := u_let hz
          refine lv_iinc (v := x13) (lv' := [(1, .int x13), (0, .ref (G.2.2 0))]) hx hb dX12_settles_104 hl (k := 1) rfl (by rw [ex13]; rfl) (by decide) rfl (fun ls hl => ?_)
          refine lv_goto (tgt := 27) hx hb dX12_settles_107 (by decide) ?_
          exact ih27_8 v12.2 x13 _ _ _ hz hw (lv_sub hl [1, 0] rfl)
        have WL50_20 : ∀ (k : Nat) (x14 : Int32) (H : Heap) (locs : List Loc) (ls : Array Slot), u_lp1 (b_X12_settles_50 N x7 s10 J95_11) k x14 = some z → u_W ZM G s10 s H locs → lv_has ls 3 [(0, .ref (G.2.2 0)), (1, .int x7), (2, .int x14)] → W p l e (u_rm 107) s m args below meth c H locs 0 0 (u_Qi below ZM G s args z.1 z.2) (F0 m 50 ls []) := by
          intro k
          induction k with
          | zero =>
            intro x14 H locs ls hz
            exact absurd hz (by intro h9; cases h9)
          | succ k ih50_15 =>
            intro x14 H locs ls hz hw hl
            have hz : (b_X12_settles_50 N x7 s10 J95_11) (u_lp1 (b_X12_settles_50 N x7 s10 J95_11) k) x14 = some z := hz
            unfold b_X12_settles_50 at hz
            refine lv_iload_n hx hb dX12_settles_50 rfl (lv_at hl 2 rfl) ?_
            refine lv_iload_n hx hb dX12_settles_51 rfl (lv_at hl 1 rfl) ?_
            refine lv_icmp_ge (tgt := 95) hx hb dX12_settles_52 (by decide) (fun hc => ?_) (fun hc => ?_)
            · replace hz := u_ift hz hc
              exact WJ95_11 _ _ _ hz hw (lv_sub hl [0, 1] rfl)
            · replace hz := u_iff hz hc
              refine lv_aload_n hx hb dX12_settles_55 rfl (lv_at hl 0 rfl) ?_
              refine u_getp cx hw F_X12_58 o_X12 rfl dX12_settles_56 ?_
              refine lv_iload_n hx hb dX12_settles_59 rfl (lv_at hl 2 rfl) ?_
              obtain ⟨v16, hv16, hz⟩ := u_bind hz
              refine u_lald cx hw hv16 dX12_settles_60 ?_
              refine lv_aload_n hx hb dX12_settles_61 rfl (lv_at hl 0 rfl) ?_
              refine u_getp cx hw F_X12_58 o_X12 rfl dX12_settles_62 ?_
              refine lv_iload_n hx hb dX12_settles_65 rfl (lv_at hl 1 rfl) ?_
              obtain ⟨v17, hv17, hz⟩ := u_bind hz
              refine u_lald cx hw hv17 dX12_settles_66 ?_
              refine W.lcmp hx hb dX12_settles_67 ?_
              refine lv_if_eq (tgt := 74) hx hb dX12_settles_68 (by decide) (fun hc => ?_) (fun hc => ?_)
              · replace hz := u_ift hz hc
                refine lv_aload_n hx hb dX12_settles_74 rfl (lv_at hl 0 rfl) ?_
                refine lv_iconst (v := 0) hx hb dX12_settles_75 (by decide) ?_
                obtain ⟨s18, es18, hz⟩ := u_let hz
                refine u_puti2 cx hw P_X12_80 o_X12 rfl es18 dX12_settles_76 (fun H locs hw => ?_)
                refine lv_aload_n hx hb dX12_settles_79 rfl (lv_at hl 0 rfl) ?_
                refine lv_iload_n hx hb dX12_settles_80 rfl (lv_at hl 1 rfl) ?_
                refine lv_iload_n hx hb dX12_settles_81 rfl (lv_at hl 2 rfl) ?_
                refine lv_isub hx hb dX12_settles_82 ?_
                refine lv_i2l (v := (Int32.toInt64 (x7 - x14))) hx hb dX12_settles_83 rfl ?_
                obtain ⟨s19, hs19, hz⟩ := u_bind hz
                refine u_callVv (As := [.long (Int32.toInt64 (x7 - x14))]) (rest := []) cx hw LV_X12_260 (c_X12_tell l G N s18 (Int32.toInt64 (x7 - x14)) s19 hs19) o_X12 rfl (by decide) hl.1 rfl (Nat.le_of_ble_eq_true rfl) dX12_settles_84 rfl (fun H locs hw => ?_)
                refine lv_iload_n hx hb dX12_settles_87 rfl (lv_at hl 2 rfl) ?_
                exact u_iret cx hw (u_pair hz) dX12_settles_88
              · replace hz := u_iff hz hc
                refine lv_goto (tgt := 89) hx hb dX12_settles_71 (by decide) ?_
                obtain ⟨x20, ex20, hz⟩ := u_let hz
                refine lv_iinc (v := x20) (lv' := [(2, .int x20), (0, .ref (G.2.2 0)), (1, .int x7)]) hx hb dX12_settles_89 hl (k := 2) rfl (by rw [ex20]; rfl) (by decide) rfl (fun ls hl => ?_)
                refine lv_goto (tgt := 50) hx hb dX12_settles_92 (by decide) ?_
                exact ih50_15 x20 _ _ _ hz hw (lv_sub hl [1, 2, 0] rfl)
        exact WL50_20 N 0 _ _ _ hz hw (lv_sub hl [1, 2, 0] rfl)
  exact WL27_20 N s3 0 _ _ _ hz hw (lv_sub hl [1, 0] rfl)
theorem dX12_leaves_0 : decode cX12_leaves 0 = .ok (.aload_n 0, 1) := by decide +kernel
theorem dX12_leaves_1 : decode cX12_leaves 1 = .ok (.iconst 0, 1) := by decide +kernel
theorem dX12_leaves_2 : decode cX12_leaves 2 = .ok (.putfield 77, 3) := by decide +kernel
theorem dX12_leaves_5 : decode cX12_leaves 5 = .ok (.aload_n 0, 1) := by decide +kernel
theorem dX12_leaves_6 : decode cX12_leaves 6 = .ok (.iload_n 1, 1) := by decide +kernel
theorem dX12_leaves_7 : decode cX12_leaves 7 = .ok (.invokevirtual 90, 3) := by decide +kernel
theorem dX12_leaves_10 : decode cX12_leaves 10 = .ok (.ifCond .ne 5, 3) := by decide +kernel
theorem dX12_leaves_13 : decode cX12_leaves 13 = .ok (.iconst (-1), 1) := by decide +kernel
theorem dX12_leaves_14 : decode cX12_leaves 14 = .ok (.ireturn, 1) := by decide +kernel
theorem dX12_leaves_15 : decode cX12_leaves 15 = .ok (.aload_n 0, 1) := by decide +kernel
theorem dX12_leaves_16 : decode cX12_leaves 16 = .ok (.getfield 9, 3) := by decide +kernel
theorem dX12_leaves_19 : decode cX12_leaves 19 = .ok (.aload_n 0, 1) := by decide +kernel
theorem dX12_leaves_20 : decode cX12_leaves 20 = .ok (.getfield 46, 3) := by decide +kernel
theorem dX12_leaves_23 : decode cX12_leaves 23 = .ok (.iconst 0, 1) := by decide +kernel
theorem dX12_leaves_24 : decode cX12_leaves 24 = .ok (.invokestatic 242, 3) := by decide +kernel
theorem dX12_leaves_27 : decode cX12_leaves 27 = .ok (.iconst 1, 1) := by decide +kernel
theorem dX12_leaves_28 : decode cX12_leaves 28 = .ok (.istore_n 2, 1) := by decide +kernel
theorem dX12_leaves_29 : decode cX12_leaves 29 = .ok (.iload_n 2, 1) := by decide +kernel
theorem dX12_leaves_30 : decode cX12_leaves 30 = .ok (.bipush 60, 2) := by decide +kernel
theorem dX12_leaves_32 : decode cX12_leaves 32 = .ok (.if_icmp .gt 60, 3) := by decide +kernel
theorem dX12_leaves_35 : decode cX12_leaves 35 = .ok (.aload_n 0, 1) := by decide +kernel
theorem dX12_leaves_36 : decode cX12_leaves 36 = .ok (.aload_n 0, 1) := by decide +kernel
theorem dX12_leaves_37 : decode cX12_leaves 37 = .ok (.getfield 46, 3) := by decide +kernel
theorem dX12_leaves_40 : decode cX12_leaves 40 = .ok (.invokevirtual 250, 3) := by decide +kernel
theorem dX12_leaves_43 : decode cX12_leaves 43 = .ok (.pop, 1) := by decide +kernel
theorem dX12_leaves_44 : decode cX12_leaves 44 = .ok (.aload_n 0, 1) := by decide +kernel
theorem dX12_leaves_45 : decode cX12_leaves 45 = .ok (.aload_n 0, 1) := by decide +kernel
theorem dX12_leaves_46 : decode cX12_leaves 46 = .ok (.getfield 46, 3) := by decide +kernel
theorem dX12_leaves_49 : decode cX12_leaves 49 = .ok (.iload_n 1, 1) := by decide +kernel
theorem dX12_leaves_50 : decode cX12_leaves 50 = .ok (.invokevirtual 194, 3) := by decide +kernel
theorem dX12_leaves_53 : decode cX12_leaves 53 = .ok (.aload_n 0, 1) := by decide +kernel
theorem dX12_leaves_54 : decode cX12_leaves 54 = .ok (.aload_n 0, 1) := by decide +kernel
theorem dX12_leaves_55 : decode cX12_leaves 55 = .ok (.getfield 9, 3) := by decide +kernel
theorem dX12_leaves_58 : decode cX12_leaves 58 = .ok (.iload_n 1, 1) := by decide +kernel
theorem dX12_leaves_59 : decode cX12_leaves 59 = .ok (.invokevirtual 194, 3) := by decide +kernel
theorem dX12_leaves_62 : decode cX12_leaves 62 = .ok (.if_icmp .ne 6, 3) := by decide +kernel
theorem dX12_leaves_65 : decode cX12_leaves 65 = .ok (.goto 21, 3) := by decide +kernel
theorem dX12_leaves_68 : decode cX12_leaves 68 = .ok (.aload_n 0, 1) := by decide +kernel
theorem dX12_leaves_69 : decode cX12_leaves 69 = .ok (.iconst 0, 1) := by decide +kernel
theorem dX12_leaves_70 : decode cX12_leaves 70 = .ok (.putfield 80, 3) := by decide +kernel
theorem dX12_leaves_73 : decode cX12_leaves 73 = .ok (.aload_n 0, 1) := by decide +kernel
theorem dX12_leaves_74 : decode cX12_leaves 74 = .ok (.aload_n 0, 1) := by decide +kernel
theorem dX12_leaves_75 : decode cX12_leaves 75 = .ok (.getfield 46, 3) := by decide +kernel
theorem dX12_leaves_78 : decode cX12_leaves 78 = .ok (.iload_n 1, 1) := by decide +kernel
theorem dX12_leaves_79 : decode cX12_leaves 79 = .ok (.iaload, 1) := by decide +kernel
theorem dX12_leaves_80 : decode cX12_leaves 80 = .ok (.i2l, 1) := by decide +kernel
theorem dX12_leaves_81 : decode cX12_leaves 81 = .ok (.invokevirtual 260, 3) := by decide +kernel
theorem dX12_leaves_84 : decode cX12_leaves 84 = .ok (.iload_n 2, 1) := by decide +kernel
theorem dX12_leaves_85 : decode cX12_leaves 85 = .ok (.ireturn, 1) := by decide +kernel
theorem dX12_leaves_86 : decode cX12_leaves 86 = .ok (.iinc 2 1, 3) := by decide +kernel
theorem dX12_leaves_89 : decode cX12_leaves 89 = .ok (.goto (-60), 3) := by decide +kernel
theorem dX12_leaves_92 : decode cX12_leaves 92 = .ok (.bipush (-2), 2) := by decide +kernel
theorem dX12_leaves_94 : decode cX12_leaves 94 = .ok (.ireturn, 1) := by decide +kernel
def b_X12_leaves_29 (N : Nat) (p1 : Int32) (J92_5 : uS → Option (Int32 × uS)) (rec29_8 : uS → Int32 → Option (Int32 × uS)) (s6 : uS) (x7 : Int32) : Option (Int32 × uS) :=
  if 60 < x7 then (J92_5 s6) else ((f_X12_goCrossing N s6 11).bind fun v9 =>
  (f_X12_isIn N v9.2 11 p1).bind fun v10 =>
  (f_X12_isIn N v9.2 1 p1).bind fun v11 =>
  if v10 = v11 then (u_jn (x7 + 1 : Int32) fun x15 =>
  rec29_8 v9.2 x15) else (u_jn (u_pI v9.2 0 7 0) fun s12 =>
  (u_rI ZM s12 0 11 p1).bind fun v13 =>
  (f_X12_tell N s12 (Int32.toInt64 v13)).bind fun s14 =>
  some (x7, s14)))
def f_X12_leaves (N : Nat) (σ : uS) (p1 : Int32) : Option (Int32 × uS) := u_jn (u_pI σ 0 8 0) fun s1 =>
  (f_X12_isMan N s1 p1).bind fun v2 =>
  if v2 = 0 then (some ((-1), s1)) else ((f_X12_lay N s1 1 11 0).bind fun s3 =>
  u_jn (fun (s4 : uS) => (some ((-2), s4) : Option (Int32 × uS))) fun J92_5 =>
  u_lp2 (b_X12_leaves_29 N p1 J92_5) N s3 1)
set_option maxRecDepth 100000 in
set_option maxHeartbeats 4000000 in
theorem c_X12_leaves (l : Launch) (G : uG) (N : Nat) (σ : uS) (p1 : Int32) (z : (Int32 × uS)) (hz : f_X12_leaves N σ p1 = some z) : u_Mi l ZM G yX12_leaves cX12_leaves 3 .int 107 [.ref (G.2.2 0), .int p1] σ z.1 z.2 := by
  refine u_Mi_of RX12 (by decide) rfl (Nat.le_of_ble_eq_true rfl) ?_
  intro p e s m args below meth c ls cx hw hl
  have hx := cx.1
  have hb := cx.2.1
  have hl : lv_has ls 3 [(0, .ref (G.2.2 0)), (1, .int p1)] := hl
  unfold f_X12_leaves at hz
  refine lv_aload_n hx hb dX12_leaves_0 rfl (lv_at hl 0 rfl) ?_
  refine lv_iconst (v := 0) hx hb dX12_leaves_1 (by decide) ?_
  obtain ⟨s1, es1, hz⟩ := u_let hz
  refine u_puti2 cx hw P_X12_77 o_X12 rfl es1 dX12_leaves_2 (fun H locs hw => ?_)
  refine lv_aload_n hx hb dX12_leaves_5 rfl (lv_at hl 0 rfl) ?_
  refine lv_iload_n hx hb dX12_leaves_6 rfl (lv_at hl 1 rfl) ?_
  obtain ⟨v2, hv2, hz⟩ := u_bind hz
  refine u_callVi (As := [.int p1]) (rest := []) cx hw LV_X12_90 (c_X12_isMan l G N s1 p1 v2 hv2) o_X12 rfl (by decide) hl.1 rfl (Nat.le_of_ble_eq_true rfl) dX12_leaves_7 rfl (fun H locs hw => ?_)
  refine lv_if_ne (tgt := 15) hx hb dX12_leaves_10 (by decide) (fun hc => ?_) (fun hc => ?_)
  · replace hz := u_iff hz hc
    refine lv_aload_n hx hb dX12_leaves_15 rfl (lv_at hl 0 rfl) ?_
    refine u_getp cx hw F_X12_9 o_X12 rfl dX12_leaves_16 ?_
    refine lv_aload_n hx hb dX12_leaves_19 rfl (lv_at hl 0 rfl) ?_
    refine u_getp cx hw F_X12_46 o_X12 rfl dX12_leaves_20 ?_
    refine lv_iconst (v := 0) hx hb dX12_leaves_23 (by decide) ?_
    obtain ⟨s3, hs3, hz⟩ := u_bind hz
    refine u_callSv (As := [.ref (G.2.2 1), .ref (G.2.2 11), .int 0]) (rest := []) cx hw LS_X12_242 (c_X12_lay l G N s1 1 11 0 s3 hs3) (by decide) hl.1 rfl (Nat.le_of_ble_eq_true rfl) dX12_leaves_24 rfl (fun H locs hw => ?_)
    refine lv_iconst (v := 1) hx hb dX12_leaves_27 (by decide) ?_
    refine lv_istore_n (lv' := [(2, .int 1), (0, .ref (G.2.2 0)), (1, .int p1)]) hx hb dX12_leaves_28 rfl hl (by decide) rfl (fun ls hl => ?_)
    obtain ⟨J92_5, eJ92_5, hz⟩ := u_let hz
    have WJ92_5 : ∀ (s4 : uS) (H : Heap) (locs : List Loc) (ls : Array Slot), J92_5 s4 = some z → u_W ZM G s4 s H locs → lv_has ls 3 [] → W p l e (u_rm 107) s m args below meth c H locs 0 0 (u_Qi below ZM G s args z.1 z.2) (F0 m 92 ls []) := by
      intro s4 H locs ls hz hw hl
      rw [eJ92_5] at hz
      refine lv_bipush (v := (-2)) hx hb dX12_leaves_92 (by decide) ?_
      exact u_iret cx hw (u_pair hz) dX12_leaves_94
    have WL29_15 : ∀ (k : Nat) (s6 : uS) (x7 : Int32) (H : Heap) (locs : List Loc) (ls : Array Slot), u_lp2 (b_X12_leaves_29 N p1 J92_5) k s6 x7 = some z → u_W ZM G s6 s H locs → lv_has ls 3 [(0, .ref (G.2.2 0)), (1, .int p1), (2, .int x7)] → W p l e (u_rm 107) s m args below meth c H locs 0 0 (u_Qi below ZM G s args z.1 z.2) (F0 m 29 ls []) := by
      intro k
      induction k with
      | zero =>
        intro s6 x7 H locs ls hz
        exact absurd hz (by intro h9; cases h9)
      | succ k ih29_8 =>
        intro s6 x7 H locs ls hz hw hl
        have hz : (b_X12_leaves_29 N p1 J92_5) (u_lp2 (b_X12_leaves_29 N p1 J92_5) k) s6 x7 = some z := hz
        unfold b_X12_leaves_29 at hz
        refine lv_iload_n hx hb dX12_leaves_29 rfl (lv_at hl 2 rfl) ?_
        refine lv_bipush (v := 60) hx hb dX12_leaves_30 (by decide) ?_
        refine lv_icmp_gt (tgt := 92) hx hb dX12_leaves_32 (by decide) (fun hc => ?_) (fun hc => ?_)
        · replace hz := u_ift hz hc
          exact WJ92_5 s6 _ _ _ hz hw (lv_sub hl [] rfl)
        · replace hz := u_iff hz hc
          refine lv_aload_n hx hb dX12_leaves_35 rfl (lv_at hl 0 rfl) ?_
          refine lv_aload_n hx hb dX12_leaves_36 rfl (lv_at hl 0 rfl) ?_
          refine u_getp cx hw F_X12_46 o_X12 rfl dX12_leaves_37 ?_
          obtain ⟨v9, hv9, hz⟩ := u_bind hz
          refine u_callVi (As := [.ref (G.2.2 11)]) (rest := []) cx hw LV_X12_250 (c_X12_goCrossing l G N s6 11 v9 hv9) o_X12 rfl (by decide) hl.1 rfl (Nat.le_of_ble_eq_true rfl) dX12_leaves_40 rfl (fun H locs hw => ?_)
          refine lv_pop hx hb dX12_leaves_43 rfl ?_
          refine lv_aload_n hx hb dX12_leaves_44 rfl (lv_at hl 0 rfl) ?_
          refine lv_aload_n hx hb dX12_leaves_45 rfl (lv_at hl 0 rfl) ?_
          refine u_getp cx hw F_X12_46 o_X12 rfl dX12_leaves_46 ?_
          refine lv_iload_n hx hb dX12_leaves_49 rfl (lv_at hl 1 rfl) ?_
          obtain ⟨v10, hv10, hz⟩ := u_bind hz
          refine u_callVi (As := [.ref (G.2.2 11), .int p1]) (rest := []) cx hw LV_X12_194 (c_X12_isIn l G N v9.2 11 p1 v10 hv10) o_X12 rfl (by decide) hl.1 rfl (Nat.le_of_ble_eq_true rfl) dX12_leaves_50 rfl (fun H locs hw => ?_)
          refine lv_aload_n hx hb dX12_leaves_53 rfl (lv_at hl 0 rfl) ?_
          refine lv_aload_n hx hb dX12_leaves_54 rfl (lv_at hl 0 rfl) ?_
          refine u_getp cx hw F_X12_9 o_X12 rfl dX12_leaves_55 ?_
          refine lv_iload_n hx hb dX12_leaves_58 rfl (lv_at hl 1 rfl) ?_
          obtain ⟨v11, hv11, hz⟩ := u_bind hz
          refine u_callVi (As := [.ref (G.2.2 1), .int p1]) (rest := [.int v10]) cx hw LV_X12_194 (c_X12_isIn l G N v9.2 1 p1 v11 hv11) o_X12 rfl (by decide) hl.1 rfl (Nat.le_of_ble_eq_true rfl) dX12_leaves_59 rfl (fun H locs hw => ?_)
          refine lv_icmp_ne (tgt := 68) hx hb dX12_leaves_62 (by decide) (fun hc => ?_) (fun hc => ?_)
          · replace hz := u_iff hz hc
            refine lv_aload_n hx hb dX12_leaves_68 rfl (lv_at hl 0 rfl) ?_
            refine lv_iconst (v := 0) hx hb dX12_leaves_69 (by decide) ?_
            obtain ⟨s12, es12, hz⟩ := u_let hz
            refine u_puti2 cx hw P_X12_80 o_X12 rfl es12 dX12_leaves_70 (fun H locs hw => ?_)
            refine lv_aload_n hx hb dX12_leaves_73 rfl (lv_at hl 0 rfl) ?_
            refine lv_aload_n hx hb dX12_leaves_74 rfl (lv_at hl 0 rfl) ?_
            refine u_getp cx hw F_X12_46 o_X12 rfl dX12_leaves_75 ?_
            refine lv_iload_n hx hb dX12_leaves_78 rfl (lv_at hl 1 rfl) ?_
            obtain ⟨v13, hv13, hz⟩ := u_bind hz
            refine u_iald cx hw hv13 dX12_leaves_79 ?_
            refine lv_i2l (v := (Int32.toInt64 v13)) hx hb dX12_leaves_80 rfl ?_
            obtain ⟨s14, hs14, hz⟩ := u_bind hz
            refine u_callVv (As := [.long (Int32.toInt64 v13)]) (rest := []) cx hw LV_X12_260 (c_X12_tell l G N s12 (Int32.toInt64 v13) s14 hs14) o_X12 rfl (by decide) hl.1 rfl (Nat.le_of_ble_eq_true rfl) dX12_leaves_81 rfl (fun H locs hw => ?_)
            refine lv_iload_n hx hb dX12_leaves_84 rfl (lv_at hl 2 rfl) ?_
            exact u_iret cx hw (u_pair hz) dX12_leaves_85
          · replace hz := u_ift hz hc
            refine lv_goto (tgt := 86) hx hb dX12_leaves_65 (by decide) ?_
            obtain ⟨x15, ex15, hz⟩ := u_let hz
            refine lv_iinc (v := x15) (lv' := [(2, .int x15), (0, .ref (G.2.2 0)), (1, .int p1)]) hx hb dX12_leaves_86 hl (k := 2) rfl (by rw [ex15]; rfl) (by decide) rfl (fun ls hl => ?_)
            refine lv_goto (tgt := 29) hx hb dX12_leaves_89 (by decide) ?_
            exact ih29_8 v9.2 x15 _ _ _ hz hw (lv_sub hl [1, 2, 0] rfl)
    exact WL29_15 N s3 1 _ _ _ hz hw (lv_sub hl [1, 2, 0] rfl)
  · replace hz := u_ift hz hc
    refine lv_iconst (v := (-1)) hx hb dX12_leaves_13 (by decide) ?_
    exact u_iret cx hw (u_pair hz) dX12_leaves_14
theorem dX12_signs_0 : decode cX12_signs 0 = .ok (.aload_n 0, 1) := by decide +kernel
theorem dX12_signs_1 : decode cX12_signs 1 = .ok (.iconst 0, 1) := by decide +kernel
theorem dX12_signs_2 : decode cX12_signs 2 = .ok (.putfield 77, 3) := by decide +kernel
theorem dX12_signs_5 : decode cX12_signs 5 = .ok (.aload_n 0, 1) := by decide +kernel
theorem dX12_signs_6 : decode cX12_signs 6 = .ok (.iload_n 1, 1) := by decide +kernel
theorem dX12_signs_7 : decode cX12_signs 7 = .ok (.invokevirtual 286, 3) := by decide +kernel
theorem dX12_signs_10 : decode cX12_signs 10 = .ok (.ifCond .eq 10, 3) := by decide +kernel
theorem dX12_signs_13 : decode cX12_signs 13 = .ok (.iload_n 2, 1) := by decide +kernel
theorem dX12_signs_14 : decode cX12_signs 14 = .ok (.invokestatic 289, 3) := by decide +kernel
theorem dX12_signs_17 : decode cX12_signs 17 = .ok (.ifCond .ne 5, 3) := by decide +kernel
theorem dX12_signs_20 : decode cX12_signs 20 = .ok (.iconst (-1), 1) := by decide +kernel
theorem dX12_signs_21 : decode cX12_signs 21 = .ok (.ireturn, 1) := by decide +kernel
theorem dX12_signs_22 : decode cX12_signs 22 = .ok (.iconst (-1), 1) := by decide +kernel
theorem dX12_signs_23 : decode cX12_signs 23 = .ok (.istore_n 3, 1) := by decide +kernel
theorem dX12_signs_24 : decode cX12_signs 24 = .ok (.iconst 0, 1) := by decide +kernel
theorem dX12_signs_25 : decode cX12_signs 25 = .ok (.istore 4, 2) := by decide +kernel
theorem dX12_signs_27 : decode cX12_signs 27 = .ok (.iload 4, 2) := by decide +kernel
theorem dX12_signs_29 : decode cX12_signs 29 = .ok (.aload_n 0, 1) := by decide +kernel
theorem dX12_signs_30 : decode cX12_signs 30 = .ok (.invokevirtual 94, 3) := by decide +kernel
theorem dX12_signs_33 : decode cX12_signs 33 = .ok (.if_icmp .gt 61, 3) := by decide +kernel
theorem dX12_signs_36 : decode cX12_signs 36 = .ok (.iload_n 3, 1) := by decide +kernel
theorem dX12_signs_37 : decode cX12_signs 37 = .ok (.iconst (-1), 1) := by decide +kernel
theorem dX12_signs_38 : decode cX12_signs 38 = .ok (.if_icmp .eq 18, 3) := by decide +kernel
theorem dX12_signs_41 : decode cX12_signs 41 = .ok (.iload 4, 2) := by decide +kernel
theorem dX12_signs_43 : decode cX12_signs 43 = .ok (.invokestatic 206, 3) := by decide +kernel
theorem dX12_signs_46 : decode cX12_signs 46 = .ok (.iload_n 3, 1) := by decide +kernel
theorem dX12_signs_47 : decode cX12_signs 47 = .ok (.invokestatic 206, 3) := by decide +kernel
theorem dX12_signs_50 : decode cX12_signs 50 = .ok (.if_icmp .lt 6, 3) := by decide +kernel
theorem dX12_signs_53 : decode cX12_signs 53 = .ok (.goto 35, 3) := by decide +kernel
theorem dX12_signs_56 : decode cX12_signs 56 = .ok (.aload_n 0, 1) := by decide +kernel
theorem dX12_signs_57 : decode cX12_signs 57 = .ok (.iload 4, 2) := by decide +kernel
theorem dX12_signs_59 : decode cX12_signs 59 = .ok (.invokevirtual 292, 3) := by decide +kernel
theorem dX12_signs_62 : decode cX12_signs 62 = .ok (.aload_n 0, 1) := by decide +kernel
theorem dX12_signs_63 : decode cX12_signs 63 = .ok (.aload_n 0, 1) := by decide +kernel
theorem dX12_signs_64 : decode cX12_signs 64 = .ok (.getfield 46, 3) := by decide +kernel
theorem dX12_signs_67 : decode cX12_signs 67 = .ok (.iload_n 2, 1) := by decide +kernel
theorem dX12_signs_68 : decode cX12_signs 68 = .ok (.invokevirtual 257, 3) := by decide +kernel
theorem dX12_signs_71 : decode cX12_signs 71 = .ok (.pop, 1) := by decide +kernel
theorem dX12_signs_72 : decode cX12_signs 72 = .ok (.aload_n 0, 1) := by decide +kernel
theorem dX12_signs_73 : decode cX12_signs 73 = .ok (.aload_n 0, 1) := by decide +kernel
theorem dX12_signs_74 : decode cX12_signs 74 = .ok (.getfield 46, 3) := by decide +kernel
theorem dX12_signs_77 : decode cX12_signs 77 = .ok (.invokevirtual 214, 3) := by decide +kernel
theorem dX12_signs_80 : decode cX12_signs 80 = .ok (.iload_n 1, 1) := by decide +kernel
theorem dX12_signs_81 : decode cX12_signs 81 = .ok (.iand, 1) := by decide +kernel
theorem dX12_signs_82 : decode cX12_signs 82 = .ok (.ifCond .ne 6, 3) := by decide +kernel
theorem dX12_signs_85 : decode cX12_signs 85 = .ok (.iload 4, 2) := by decide +kernel
theorem dX12_signs_87 : decode cX12_signs 87 = .ok (.istore_n 3, 1) := by decide +kernel
theorem dX12_signs_88 : decode cX12_signs 88 = .ok (.iinc 4 1, 3) := by decide +kernel
theorem dX12_signs_91 : decode cX12_signs 91 = .ok (.goto (-64), 3) := by decide +kernel
theorem dX12_signs_94 : decode cX12_signs 94 = .ok (.iload_n 3, 1) := by decide +kernel
theorem dX12_signs_95 : decode cX12_signs 95 = .ok (.iconst (-1), 1) := by decide +kernel
theorem dX12_signs_96 : decode cX12_signs 96 = .ok (.if_icmp .ne 6, 3) := by decide +kernel
theorem dX12_signs_99 : decode cX12_signs 99 = .ok (.bipush (-2), 2) := by decide +kernel
theorem dX12_signs_101 : decode cX12_signs 101 = .ok (.ireturn, 1) := by decide +kernel
theorem dX12_signs_102 : decode cX12_signs 102 = .ok (.aload_n 0, 1) := by decide +kernel
theorem dX12_signs_103 : decode cX12_signs 103 = .ok (.iconst 0, 1) := by decide +kernel
theorem dX12_signs_104 : decode cX12_signs 104 = .ok (.putfield 80, 3) := by decide +kernel
theorem dX12_signs_107 : decode cX12_signs 107 = .ok (.aload_n 0, 1) := by decide +kernel
theorem dX12_signs_108 : decode cX12_signs 108 = .ok (.iload_n 3, 1) := by decide +kernel
theorem dX12_signs_109 : decode cX12_signs 109 = .ok (.i2l, 1) := by decide +kernel
theorem dX12_signs_110 : decode cX12_signs 110 = .ok (.invokevirtual 260, 3) := by decide +kernel
theorem dX12_signs_113 : decode cX12_signs 113 = .ok (.iload_n 3, 1) := by decide +kernel
theorem dX12_signs_114 : decode cX12_signs 114 = .ok (.invokestatic 206, 3) := by decide +kernel
theorem dX12_signs_117 : decode cX12_signs 117 = .ok (.ireturn, 1) := by decide +kernel
def b_X12_signs_27 (N : Nat) (p1 : Int32) (p2 : Int32) (J94_6 : uS → Int32 → Option (Int32 × uS)) (rec27_13 : uS → Int32 → Int32 → Option (Int32 × uS)) (s10 : uS) (x11 : Int32) (x12 : Int32) : Option (Int32 × uS) :=
  (f_X12_all N s10).bind fun v14 =>
  if v14 < x12 then (J94_6 s10 x11) else (u_jn (fun (s15 : uS) (x16 : Int32) => (u_jn (x12 + 1 : Int32) fun x18 =>
  rec27_13 s15 x16 x18 : Option (Int32 × uS))) fun J88_17 =>
  u_jn (((f_X12_laySigns N s10 x12).bind fun s20 =>
  (f_X12_goCrossings N s20 11 p2).bind fun v21 =>
  (f_X12_inBits N v21.2 11).bind fun v22 =>
  if (v22 &&& p1) = 0 then (J88_17 v21.2 x12) else (J88_17 v21.2 x11) : Option (Int32 × uS))) fun J56_19 =>
  if x11 = (-1) then (J56_19) else ((f_J6_bitCount_0f7a4 N s10 x12).bind fun v23 =>
  (f_J6_bitCount_0f7a4 N s10 x11).bind fun v24 =>
  if v23 < v24 then (J56_19) else (J88_17 s10 x11)))
def f_X12_signs (N : Nat) (σ : uS) (p1 : Int32) (p2 : Int32) : Option (Int32 × uS) := u_jn (u_pI σ 0 8 0) fun s1 =>
  (f_X12_areMen N s1 p1).bind fun v2 =>
  if v2 = 0 then (some ((-1), s1)) else ((f_X12_isSoon N s1 p2).bind fun v3 =>
  if v3 = 0 then (some ((-1), s1)) else (u_jn (fun (s4 : uS) (x5 : Int32) => (if x5 = (-1) then (some ((-2), s4)) else (u_jn (u_pI s4 0 7 0) fun s7 =>
  (f_X12_tell N s7 (Int32.toInt64 x5)).bind fun s8 =>
  (f_J6_bitCount_0f7a4 N s8 x5).bind fun v9 =>
  some (v9, s8)) : Option (Int32 × uS))) fun J94_6 =>
  u_lp3 (b_X12_signs_27 N p1 p2 J94_6) N s1 (-1) 0))
set_option maxRecDepth 100000 in
set_option maxHeartbeats 4000000 in
theorem c_X12_signs (l : Launch) (G : uG) (N : Nat) (σ : uS) (p1 : Int32) (p2 : Int32) (z : (Int32 × uS)) (hz : f_X12_signs N σ p1 p2 = some z) : u_Mi l ZM G yX12_signs cX12_signs 5 .int 108 [.ref (G.2.2 0), .int p1, .int p2] σ z.1 z.2 := by
  refine u_Mi_of RX12 (by decide) rfl (Nat.le_of_ble_eq_true rfl) ?_
  intro p e s m args below meth c ls cx hw hl
  have hx := cx.1
  have hb := cx.2.1
  have hl : lv_has ls 5 [(0, .ref (G.2.2 0)), (1, .int p1), (2, .int p2)] := hl
  unfold f_X12_signs at hz
  refine lv_aload_n hx hb dX12_signs_0 rfl (lv_at hl 0 rfl) ?_
  refine lv_iconst (v := 0) hx hb dX12_signs_1 (by decide) ?_
  obtain ⟨s1, es1, hz⟩ := u_let hz
  refine u_puti2 cx hw P_X12_77 o_X12 rfl es1 dX12_signs_2 (fun H locs hw => ?_)
  refine lv_aload_n hx hb dX12_signs_5 rfl (lv_at hl 0 rfl) ?_
  refine lv_iload_n hx hb dX12_signs_6 rfl (lv_at hl 1 rfl) ?_
  obtain ⟨v2, hv2, hz⟩ := u_bind hz
  refine u_callVi (As := [.int p1]) (rest := []) cx hw LV_X12_286 (c_X12_areMen l G N s1 p1 v2 hv2) o_X12 rfl (by decide) hl.1 rfl (Nat.le_of_ble_eq_true rfl) dX12_signs_7 rfl (fun H locs hw => ?_)
  refine lv_if_eq (tgt := 20) hx hb dX12_signs_10 (by decide) (fun hc => ?_) (fun hc => ?_)
  · replace hz := u_ift hz hc
    refine lv_iconst (v := (-1)) hx hb dX12_signs_20 (by decide) ?_
    exact u_iret cx hw (u_pair hz) dX12_signs_21
  · replace hz := u_iff hz hc
    refine lv_iload_n hx hb dX12_signs_13 rfl (lv_at hl 2 rfl) ?_
    obtain ⟨v3, hv3, hz⟩ := u_bind hz
    refine u_callSi (As := [.int p2]) (rest := []) cx hw LS_X12_289 (c_X12_isSoon l G N s1 p2 v3 hv3) (by decide) hl.1 rfl (Nat.le_of_ble_eq_true rfl) dX12_signs_14 rfl (fun H locs hw => ?_)
    refine lv_if_ne (tgt := 22) hx hb dX12_signs_17 (by decide) (fun hc => ?_) (fun hc => ?_)
    · replace hz := u_iff hz hc
      refine lv_iconst (v := (-1)) hx hb dX12_signs_22 (by decide) ?_
      refine lv_istore_n (lv' := [(3, .int (-1)), (0, .ref (G.2.2 0)), (1, .int p1), (2, .int p2)]) hx hb dX12_signs_23 rfl hl (by decide) rfl (fun ls hl => ?_)
      refine lv_iconst (v := 0) hx hb dX12_signs_24 (by decide) ?_
      refine lv_istore (lv' := [(4, .int 0), (3, .int (-1)), (0, .ref (G.2.2 0)), (1, .int p1), (2, .int p2)]) hx hb dX12_signs_25 hl (by decide) rfl (fun ls hl => ?_)
      obtain ⟨J94_6, eJ94_6, hz⟩ := u_let hz
      have WJ94_6 : ∀ (s4 : uS) (x5 : Int32) (H : Heap) (locs : List Loc) (ls : Array Slot), J94_6 s4 x5 = some z → u_W ZM G s4 s H locs → lv_has ls 5 [(0, .ref (G.2.2 0)), (3, .int x5)] → W p l e (u_rm 108) s m args below meth c H locs 0 0 (u_Qi below ZM G s args z.1 z.2) (F0 m 94 ls []) := by
        intro s4 x5 H locs ls hz hw hl
        rw [eJ94_6] at hz
        refine lv_iload_n hx hb dX12_signs_94 rfl (lv_at hl 1 rfl) ?_
        refine lv_iconst (v := (-1)) hx hb dX12_signs_95 (by decide) ?_
        refine lv_icmp_ne (tgt := 102) hx hb dX12_signs_96 (by decide) (fun hc => ?_) (fun hc => ?_)
        · replace hz := u_iff hz hc
          refine lv_aload_n hx hb dX12_signs_102 rfl (lv_at hl 0 rfl) ?_
          refine lv_iconst (v := 0) hx hb dX12_signs_103 (by decide) ?_
          obtain ⟨s7, es7, hz⟩ := u_let hz
          refine u_puti2 cx hw P_X12_80 o_X12 rfl es7 dX12_signs_104 (fun H locs hw => ?_)
          refine lv_aload_n hx hb dX12_signs_107 rfl (lv_at hl 0 rfl) ?_
          refine lv_iload_n hx hb dX12_signs_108 rfl (lv_at hl 1 rfl) ?_
          refine lv_i2l (v := (Int32.toInt64 x5)) hx hb dX12_signs_109 rfl ?_
          obtain ⟨s8, hs8, hz⟩ := u_bind hz
          refine u_callVv (As := [.long (Int32.toInt64 x5)]) (rest := []) cx hw LV_X12_260 (c_X12_tell l G N s7 (Int32.toInt64 x5) s8 hs8) o_X12 rfl (by decide) hl.1 rfl (Nat.le_of_ble_eq_true rfl) dX12_signs_110 rfl (fun H locs hw => ?_)
          refine lv_iload_n hx hb dX12_signs_113 rfl (lv_at hl 1 rfl) ?_
          obtain ⟨v9, hv9, hz⟩ := u_bind hz
          refine u_callSi (As := [.int x5]) (rest := []) cx hw LS_X12_206 (c_J6_bitCount_0f7a4 l G ZM N s8 x5 v9 hv9) (by decide) hl.1 rfl (Nat.le_of_ble_eq_true rfl) dX12_signs_114 rfl (fun H locs hw => ?_)
          exact u_iret cx hw (u_pair hz) dX12_signs_117
        · replace hz := u_ift hz hc
          refine lv_bipush (v := (-2)) hx hb dX12_signs_99 (by decide) ?_
          exact u_iret cx hw (u_pair hz) dX12_signs_101
      have WL27_24 : ∀ (k : Nat) (s10 : uS) (x11 : Int32) (x12 : Int32) (H : Heap) (locs : List Loc) (ls : Array Slot), u_lp3 (b_X12_signs_27 N p1 p2 J94_6) k s10 x11 x12 = some z → u_W ZM G s10 s H locs → lv_has ls 5 [(0, .ref (G.2.2 0)), (1, .int p1), (2, .int p2), (3, .int x11), (4, .int x12)] → W p l e (u_rm 108) s m args below meth c H locs 0 0 (u_Qi below ZM G s args z.1 z.2) (F0 m 27 ls []) := by
        intro k
        induction k with
        | zero =>
          intro s10 x11 x12 H locs ls hz
          exact absurd hz (by intro h9; cases h9)
        | succ k ih27_13 =>
          intro s10 x11 x12 H locs ls hz hw hl
          have hz : (b_X12_signs_27 N p1 p2 J94_6) (u_lp3 (b_X12_signs_27 N p1 p2 J94_6) k) s10 x11 x12 = some z := hz
          unfold b_X12_signs_27 at hz
          refine lv_iload hx hb dX12_signs_27 (lv_at hl 4 rfl) ?_
          refine lv_aload_n hx hb dX12_signs_29 rfl (lv_at hl 0 rfl) ?_
          obtain ⟨v14, hv14, hz⟩ := u_bind hz
          refine u_callVi (As := []) (rest := [.int x12]) cx hw LV_X12_94 (c_X12_all l G N s10 v14 hv14) o_X12 rfl (by decide) hl.1 rfl (Nat.le_of_ble_eq_true rfl) dX12_signs_30 rfl (fun H locs hw => ?_)
          refine lv_icmp_gt (tgt := 94) hx hb dX12_signs_33 (by decide) (fun hc => ?_) (fun hc => ?_)
          · replace hz := u_ift hz hc
            exact WJ94_6 s10 x11 _ _ _ hz hw (lv_sub hl [0, 3] rfl)
          · replace hz := u_iff hz hc
            refine lv_iload_n hx hb dX12_signs_36 rfl (lv_at hl 3 rfl) ?_
            refine lv_iconst (v := (-1)) hx hb dX12_signs_37 (by decide) ?_
            obtain ⟨J88_17, eJ88_17, hz⟩ := u_let hz
            have WJ88_17 : ∀ (s15 : uS) (x16 : Int32) (H : Heap) (locs : List Loc) (ls : Array Slot), J88_17 s15 x16 = some z → u_W ZM G s15 s H locs → lv_has ls 5 [(0, .ref (G.2.2 0)), (1, .int p1), (2, .int p2), (3, .int x16), (4, .int x12)] → W p l e (u_rm 108) s m args below meth c H locs 0 0 (u_Qi below ZM G s args z.1 z.2) (F0 m 88 ls []) := by
              intro s15 x16 H locs ls hz hw hl
              rw [eJ88_17] at hz
              obtain ⟨x18, ex18, hz⟩ := u_let hz
              refine lv_iinc (v := x18) (lv' := [(4, .int x18), (0, .ref (G.2.2 0)), (1, .int p1), (2, .int p2), (3, .int x16)]) hx hb dX12_signs_88 hl (k := 4) rfl (by rw [ex18]; rfl) (by decide) rfl (fun ls hl => ?_)
              refine lv_goto (tgt := 27) hx hb dX12_signs_91 (by decide) ?_
              exact ih27_13 s15 x16 x18 _ _ _ hz hw (lv_sub hl [1, 2, 3, 4, 0] rfl)
            obtain ⟨J56_19, eJ56_19, hz⟩ := u_let hz
            have WJ56_19 : ∀ (H : Heap) (locs : List Loc) (ls : Array Slot), J56_19 = some z → u_W ZM G s10 s H locs → lv_has ls 5 [(0, .ref (G.2.2 0)), (1, .int p1), (2, .int p2), (3, .int x11), (4, .int x12)] → W p l e (u_rm 108) s m args below meth c H locs 0 0 (u_Qi below ZM G s args z.1 z.2) (F0 m 56 ls []) := by
              intro H locs ls hz hw hl
              rw [eJ56_19] at hz
              refine lv_aload_n hx hb dX12_signs_56 rfl (lv_at hl 0 rfl) ?_
              refine lv_iload hx hb dX12_signs_57 (lv_at hl 4 rfl) ?_
              obtain ⟨s20, hs20, hz⟩ := u_bind hz
              refine u_callVv (As := [.int x12]) (rest := []) cx hw LV_X12_292 (c_X12_laySigns l G N s10 x12 s20 hs20) o_X12 rfl (by decide) hl.1 rfl (Nat.le_of_ble_eq_true rfl) dX12_signs_59 rfl (fun H locs hw => ?_)
              refine lv_aload_n hx hb dX12_signs_62 rfl (lv_at hl 0 rfl) ?_
              refine lv_aload_n hx hb dX12_signs_63 rfl (lv_at hl 0 rfl) ?_
              refine u_getp cx hw F_X12_46 o_X12 rfl dX12_signs_64 ?_
              refine lv_iload_n hx hb dX12_signs_67 rfl (lv_at hl 2 rfl) ?_
              obtain ⟨v21, hv21, hz⟩ := u_bind hz
              refine u_callVi (As := [.ref (G.2.2 11), .int p2]) (rest := []) cx hw LV_X12_257 (c_X12_goCrossings l G N s20 11 p2 v21 hv21) o_X12 rfl (by decide) hl.1 rfl (Nat.le_of_ble_eq_true rfl) dX12_signs_68 rfl (fun H locs hw => ?_)
              refine lv_pop hx hb dX12_signs_71 rfl ?_
              refine lv_aload_n hx hb dX12_signs_72 rfl (lv_at hl 0 rfl) ?_
              refine lv_aload_n hx hb dX12_signs_73 rfl (lv_at hl 0 rfl) ?_
              refine u_getp cx hw F_X12_46 o_X12 rfl dX12_signs_74 ?_
              obtain ⟨v22, hv22, hz⟩ := u_bind hz
              refine u_callVi (As := [.ref (G.2.2 11)]) (rest := []) cx hw LV_X12_214 (c_X12_inBits l G N v21.2 11 v22 hv22) o_X12 rfl (by decide) hl.1 rfl (Nat.le_of_ble_eq_true rfl) dX12_signs_77 rfl (fun H locs hw => ?_)
              refine lv_iload_n hx hb dX12_signs_80 rfl (lv_at hl 1 rfl) ?_
              refine lv_iand hx hb dX12_signs_81 ?_
              refine lv_if_ne (tgt := 88) hx hb dX12_signs_82 (by decide) (fun hc => ?_) (fun hc => ?_)
              · replace hz := u_iff hz hc
                exact WJ88_17 v21.2 x11 _ _ _ hz hw (lv_sub hl [0, 1, 2, 3, 4] rfl)
              · replace hz := u_ift hz hc
                refine lv_iload hx hb dX12_signs_85 (lv_at hl 4 rfl) ?_
                refine lv_istore_n (lv' := [(3, .int x12), (0, .ref (G.2.2 0)), (1, .int p1), (2, .int p2), (4, .int x12)]) hx hb dX12_signs_87 rfl hl (by decide) rfl (fun ls hl => ?_)
                exact WJ88_17 v21.2 x12 _ _ _ hz hw (lv_sub hl [1, 2, 3, 0, 4] rfl)
            refine lv_icmp_eq (tgt := 56) hx hb dX12_signs_38 (by decide) (fun hc => ?_) (fun hc => ?_)
            · replace hz := u_ift hz hc
              exact WJ56_19 _ _ _ hz hw (lv_sub hl [0, 1, 2, 3, 4] rfl)
            · replace hz := u_iff hz hc
              refine lv_iload hx hb dX12_signs_41 (lv_at hl 4 rfl) ?_
              obtain ⟨v23, hv23, hz⟩ := u_bind hz
              refine u_callSi (As := [.int x12]) (rest := []) cx hw LS_X12_206 (c_J6_bitCount_0f7a4 l G ZM N s10 x12 v23 hv23) (by decide) hl.1 rfl (Nat.le_of_ble_eq_true rfl) dX12_signs_43 rfl (fun H locs hw => ?_)
              refine lv_iload_n hx hb dX12_signs_46 rfl (lv_at hl 3 rfl) ?_
              obtain ⟨v24, hv24, hz⟩ := u_bind hz
              refine u_callSi (As := [.int x11]) (rest := [.int v23]) cx hw LS_X12_206 (c_J6_bitCount_0f7a4 l G ZM N s10 x11 v24 hv24) (by decide) hl.1 rfl (Nat.le_of_ble_eq_true rfl) dX12_signs_47 rfl (fun H locs hw => ?_)
              refine lv_icmp_lt (tgt := 56) hx hb dX12_signs_50 (by decide) (fun hc => ?_) (fun hc => ?_)
              · replace hz := u_ift hz hc
                exact WJ56_19 _ _ _ hz hw (lv_sub hl [0, 1, 2, 3, 4] rfl)
              · replace hz := u_iff hz hc
                refine lv_goto (tgt := 88) hx hb dX12_signs_53 (by decide) ?_
                exact WJ88_17 s10 x11 _ _ _ hz hw (lv_sub hl [0, 1, 2, 3, 4] rfl)
      exact WL27_24 N s1 (-1) 0 _ _ _ hz hw (lv_sub hl [2, 3, 4, 1, 0] rfl)
    · replace hz := u_ift hz hc
      refine lv_iconst (v := (-1)) hx hb dX12_signs_20 (by decide) ?_
      exact u_iret cx hw (u_pair hz) dX12_signs_21
theorem dX12_doEmpty_0 : decode cX12_doEmpty 0 = .ok (.iconst 0, 1) := by decide +kernel
theorem dX12_doEmpty_1 : decode cX12_doEmpty 1 = .ok (.istore_n 3, 1) := by decide +kernel
theorem dX12_doEmpty_2 : decode cX12_doEmpty 2 = .ok (.iload_n 3, 1) := by decide +kernel
theorem dX12_doEmpty_3 : decode cX12_doEmpty 3 = .ok (.iload_n 2, 1) := by decide +kernel
theorem dX12_doEmpty_4 : decode cX12_doEmpty 4 = .ok (.if_icmp .ge 25, 3) := by decide +kernel
theorem dX12_doEmpty_7 : decode cX12_doEmpty 7 = .ok (.aload_n 0, 1) := by decide +kernel
theorem dX12_doEmpty_8 : decode cX12_doEmpty 8 = .ok (.aload_n 1, 1) := by decide +kernel
theorem dX12_doEmpty_9 : decode cX12_doEmpty 9 = .ok (.invokevirtual 250, 3) := by decide +kernel
theorem dX12_doEmpty_12 : decode cX12_doEmpty 12 = .ok (.pop, 1) := by decide +kernel
theorem dX12_doEmpty_13 : decode cX12_doEmpty 13 = .ok (.aload_n 0, 1) := by decide +kernel
theorem dX12_doEmpty_14 : decode cX12_doEmpty 14 = .ok (.aload_n 1, 1) := by decide +kernel
theorem dX12_doEmpty_15 : decode cX12_doEmpty 15 = .ok (.invokevirtual 214, 3) := by decide +kernel
theorem dX12_doEmpty_18 : decode cX12_doEmpty 18 = .ok (.ifCond .ne 5, 3) := by decide +kernel
theorem dX12_doEmpty_21 : decode cX12_doEmpty 21 = .ok (.iconst 1, 1) := by decide +kernel
theorem dX12_doEmpty_22 : decode cX12_doEmpty 22 = .ok (.ireturn, 1) := by decide +kernel
theorem dX12_doEmpty_23 : decode cX12_doEmpty 23 = .ok (.iinc 3 1, 3) := by decide +kernel
theorem dX12_doEmpty_26 : decode cX12_doEmpty 26 = .ok (.goto (-24), 3) := by decide +kernel
theorem dX12_doEmpty_29 : decode cX12_doEmpty 29 = .ok (.iconst 0, 1) := by decide +kernel
theorem dX12_doEmpty_30 : decode cX12_doEmpty 30 = .ok (.ireturn, 1) := by decide +kernel
def b_X12_doEmpty_2 (N : Nat) (a1 : Nat) (p2 : Int32) (J29_2 : uS → Option (Int32 × uS)) (rec2_5 : uS → Int32 → Option (Int32 × uS)) (s3 : uS) (x4 : Int32) : Option (Int32 × uS) :=
  if p2 ≤ x4 then (J29_2 s3) else ((f_X12_goCrossing N s3 a1).bind fun v6 =>
  (f_X12_inBits N v6.2 a1).bind fun v7 =>
  if v7 = 0 then (some (1, v6.2)) else (u_jn (x4 + 1 : Int32) fun x8 =>
  rec2_5 v6.2 x8))
def f_X12_doEmpty (N : Nat) (σ : uS) (a1 : Nat) (p2 : Int32) : Option (Int32 × uS) := u_jn (fun (s1 : uS) => (some (0, s1) : Option (Int32 × uS))) fun J29_2 =>
  u_lp2 (b_X12_doEmpty_2 N a1 p2 J29_2) N σ 0
set_option maxRecDepth 100000 in
set_option maxHeartbeats 4000000 in
theorem c_X12_doEmpty (l : Launch) (G : uG) (N : Nat) (σ : uS) (a1 : Nat) (p2 : Int32) (z : (Int32 × uS)) (hz : f_X12_doEmpty N σ a1 p2 = some z) : u_Mi l ZM G yX12_doEmpty cX12_doEmpty 4 .boolean 107 [.ref (G.2.2 0), .ref (G.2.2 a1), .int p2] σ z.1 z.2 := by
  refine u_Mi_of RX12 (by decide) rfl (Nat.le_of_ble_eq_true rfl) ?_
  intro p e s m args below meth c ls cx hw hl
  have hx := cx.1
  have hb := cx.2.1
  have hl : lv_has ls 4 [(0, .ref (G.2.2 0)), (1, .ref (G.2.2 a1)), (2, .int p2)] := hl
  unfold f_X12_doEmpty at hz
  refine lv_iconst (v := 0) hx hb dX12_doEmpty_0 (by decide) ?_
  refine lv_istore_n (lv' := [(3, .int 0), (0, .ref (G.2.2 0)), (1, .ref (G.2.2 a1)), (2, .int p2)]) hx hb dX12_doEmpty_1 rfl hl (by decide) rfl (fun ls hl => ?_)
  obtain ⟨J29_2, eJ29_2, hz⟩ := u_let hz
  have WJ29_2 : ∀ (s1 : uS) (H : Heap) (locs : List Loc) (ls : Array Slot), J29_2 s1 = some z → u_W ZM G s1 s H locs → lv_has ls 4 [] → W p l e (u_rm 107) s m args below meth c H locs 0 0 (u_Qi below ZM G s args z.1 z.2) (F0 m 29 ls []) := by
    intro s1 H locs ls hz hw hl
    rw [eJ29_2] at hz
    refine lv_iconst (v := 0) hx hb dX12_doEmpty_29 (by decide) ?_
    exact u_zret cx hw (Or.inl rfl) (u_pair hz) dX12_doEmpty_30
  have WL2_8 : ∀ (k : Nat) (s3 : uS) (x4 : Int32) (H : Heap) (locs : List Loc) (ls : Array Slot), u_lp2 (b_X12_doEmpty_2 N a1 p2 J29_2) k s3 x4 = some z → u_W ZM G s3 s H locs → lv_has ls 4 [(0, .ref (G.2.2 0)), (1, .ref (G.2.2 a1)), (2, .int p2), (3, .int x4)] → W p l e (u_rm 107) s m args below meth c H locs 0 0 (u_Qi below ZM G s args z.1 z.2) (F0 m 2 ls []) := by
    intro k
    induction k with
    | zero =>
      intro s3 x4 H locs ls hz
      exact absurd hz (by intro h9; cases h9)
    | succ k ih2_5 =>
      intro s3 x4 H locs ls hz hw hl
      have hz : (b_X12_doEmpty_2 N a1 p2 J29_2) (u_lp2 (b_X12_doEmpty_2 N a1 p2 J29_2) k) s3 x4 = some z := hz
      unfold b_X12_doEmpty_2 at hz
      refine lv_iload_n hx hb dX12_doEmpty_2 rfl (lv_at hl 3 rfl) ?_
      refine lv_iload_n hx hb dX12_doEmpty_3 rfl (lv_at hl 2 rfl) ?_
      refine lv_icmp_ge (tgt := 29) hx hb dX12_doEmpty_4 (by decide) (fun hc => ?_) (fun hc => ?_)
      · replace hz := u_ift hz hc
        exact WJ29_2 s3 _ _ _ hz hw (lv_sub hl [] rfl)
      · replace hz := u_iff hz hc
        refine lv_aload_n hx hb dX12_doEmpty_7 rfl (lv_at hl 0 rfl) ?_
        refine lv_aload_n hx hb dX12_doEmpty_8 rfl (lv_at hl 1 rfl) ?_
        obtain ⟨v6, hv6, hz⟩ := u_bind hz
        refine u_callVi (As := [.ref (G.2.2 a1)]) (rest := []) cx hw LV_X12_250 (c_X12_goCrossing l G N s3 a1 v6 hv6) o_X12 rfl (by decide) hl.1 rfl (Nat.le_of_ble_eq_true rfl) dX12_doEmpty_9 rfl (fun H locs hw => ?_)
        refine lv_pop hx hb dX12_doEmpty_12 rfl ?_
        refine lv_aload_n hx hb dX12_doEmpty_13 rfl (lv_at hl 0 rfl) ?_
        refine lv_aload_n hx hb dX12_doEmpty_14 rfl (lv_at hl 1 rfl) ?_
        obtain ⟨v7, hv7, hz⟩ := u_bind hz
        refine u_callVi (As := [.ref (G.2.2 a1)]) (rest := []) cx hw LV_X12_214 (c_X12_inBits l G N v6.2 a1 v7 hv7) o_X12 rfl (by decide) hl.1 rfl (Nat.le_of_ble_eq_true rfl) dX12_doEmpty_15 rfl (fun H locs hw => ?_)
        refine lv_if_ne (tgt := 23) hx hb dX12_doEmpty_18 (by decide) (fun hc => ?_) (fun hc => ?_)
        · replace hz := u_iff hz hc
          obtain ⟨x8, ex8, hz⟩ := u_let hz
          refine lv_iinc (v := x8) (lv' := [(3, .int x8), (0, .ref (G.2.2 0)), (1, .ref (G.2.2 a1)), (2, .int p2)]) hx hb dX12_doEmpty_23 hl (k := 3) rfl (by rw [ex8]; rfl) (by decide) rfl (fun ls hl => ?_)
          refine lv_goto (tgt := 2) hx hb dX12_doEmpty_26 (by decide) ?_
          exact ih2_5 v6.2 x8 _ _ _ hz hw (lv_sub hl [1, 2, 3, 0] rfl)
        · replace hz := u_ift hz hc
          refine lv_iconst (v := 1) hx hb dX12_doEmpty_21 (by decide) ?_
          exact u_zret cx hw (Or.inr rfl) (u_pair hz) dX12_doEmpty_22
  exact WL2_8 N σ 0 _ _ _ hz hw (lv_sub hl [1, 2, 3, 0] rfl)
theorem dX12_empties_0 : decode cX12_empties 0 = .ok (.aload_n 0, 1) := by decide +kernel
theorem dX12_empties_1 : decode cX12_empties 1 = .ok (.iconst 0, 1) := by decide +kernel
theorem dX12_empties_2 : decode cX12_empties 2 = .ok (.putfield 77, 3) := by decide +kernel
theorem dX12_empties_5 : decode cX12_empties 5 = .ok (.iload_n 1, 1) := by decide +kernel
theorem dX12_empties_6 : decode cX12_empties 6 = .ok (.invokestatic 289, 3) := by decide +kernel
theorem dX12_empties_9 : decode cX12_empties 9 = .ok (.ifCond .ne 5, 3) := by decide +kernel
theorem dX12_empties_12 : decode cX12_empties 12 = .ok (.iconst (-1), 1) := by decide +kernel
theorem dX12_empties_13 : decode cX12_empties 13 = .ok (.ireturn, 1) := by decide +kernel
theorem dX12_empties_14 : decode cX12_empties 14 = .ok (.iconst (-1), 1) := by decide +kernel
theorem dX12_empties_15 : decode cX12_empties 15 = .ok (.istore_n 2, 1) := by decide +kernel
theorem dX12_empties_16 : decode cX12_empties 16 = .ok (.iconst 0, 1) := by decide +kernel
theorem dX12_empties_17 : decode cX12_empties 17 = .ok (.istore_n 3, 1) := by decide +kernel
theorem dX12_empties_18 : decode cX12_empties 18 = .ok (.iload_n 3, 1) := by decide +kernel
theorem dX12_empties_19 : decode cX12_empties 19 = .ok (.aload_n 0, 1) := by decide +kernel
theorem dX12_empties_20 : decode cX12_empties 20 = .ok (.invokevirtual 94, 3) := by decide +kernel
theorem dX12_empties_23 : decode cX12_empties 23 = .ok (.if_icmp .gt 47, 3) := by decide +kernel
theorem dX12_empties_26 : decode cX12_empties 26 = .ok (.iload_n 2, 1) := by decide +kernel
theorem dX12_empties_27 : decode cX12_empties 27 = .ok (.iconst (-1), 1) := by decide +kernel
theorem dX12_empties_28 : decode cX12_empties 28 = .ok (.if_icmp .eq 17, 3) := by decide +kernel
theorem dX12_empties_31 : decode cX12_empties 31 = .ok (.iload_n 3, 1) := by decide +kernel
theorem dX12_empties_32 : decode cX12_empties 32 = .ok (.invokestatic 206, 3) := by decide +kernel
theorem dX12_empties_35 : decode cX12_empties 35 = .ok (.iload_n 2, 1) := by decide +kernel
theorem dX12_empties_36 : decode cX12_empties 36 = .ok (.invokestatic 206, 3) := by decide +kernel
theorem dX12_empties_39 : decode cX12_empties 39 = .ok (.if_icmp .lt 6, 3) := by decide +kernel
theorem dX12_empties_42 : decode cX12_empties 42 = .ok (.goto 22, 3) := by decide +kernel
theorem dX12_empties_45 : decode cX12_empties 45 = .ok (.aload_n 0, 1) := by decide +kernel
theorem dX12_empties_46 : decode cX12_empties 46 = .ok (.iload_n 3, 1) := by decide +kernel
theorem dX12_empties_47 : decode cX12_empties 47 = .ok (.invokevirtual 292, 3) := by decide +kernel
theorem dX12_empties_50 : decode cX12_empties 50 = .ok (.aload_n 0, 1) := by decide +kernel
theorem dX12_empties_51 : decode cX12_empties 51 = .ok (.aload_n 0, 1) := by decide +kernel
theorem dX12_empties_52 : decode cX12_empties 52 = .ok (.getfield 46, 3) := by decide +kernel
theorem dX12_empties_55 : decode cX12_empties 55 = .ok (.iload_n 1, 1) := by decide +kernel
theorem dX12_empties_56 : decode cX12_empties 56 = .ok (.invokevirtual 295, 3) := by decide +kernel
theorem dX12_empties_59 : decode cX12_empties 59 = .ok (.ifCond .eq 5, 3) := by decide +kernel
theorem dX12_empties_62 : decode cX12_empties 62 = .ok (.iload_n 3, 1) := by decide +kernel
theorem dX12_empties_63 : decode cX12_empties 63 = .ok (.istore_n 2, 1) := by decide +kernel
theorem dX12_empties_64 : decode cX12_empties 64 = .ok (.iinc 3 1, 3) := by decide +kernel
theorem dX12_empties_67 : decode cX12_empties 67 = .ok (.goto (-49), 3) := by decide +kernel
theorem dX12_empties_70 : decode cX12_empties 70 = .ok (.iload_n 2, 1) := by decide +kernel
theorem dX12_empties_71 : decode cX12_empties 71 = .ok (.iconst (-1), 1) := by decide +kernel
theorem dX12_empties_72 : decode cX12_empties 72 = .ok (.if_icmp .ne 6, 3) := by decide +kernel
theorem dX12_empties_75 : decode cX12_empties 75 = .ok (.bipush (-2), 2) := by decide +kernel
theorem dX12_empties_77 : decode cX12_empties 77 = .ok (.ireturn, 1) := by decide +kernel
theorem dX12_empties_78 : decode cX12_empties 78 = .ok (.aload_n 0, 1) := by decide +kernel
theorem dX12_empties_79 : decode cX12_empties 79 = .ok (.iconst 0, 1) := by decide +kernel
theorem dX12_empties_80 : decode cX12_empties 80 = .ok (.putfield 80, 3) := by decide +kernel
theorem dX12_empties_83 : decode cX12_empties 83 = .ok (.aload_n 0, 1) := by decide +kernel
theorem dX12_empties_84 : decode cX12_empties 84 = .ok (.iload_n 2, 1) := by decide +kernel
theorem dX12_empties_85 : decode cX12_empties 85 = .ok (.i2l, 1) := by decide +kernel
theorem dX12_empties_86 : decode cX12_empties 86 = .ok (.invokevirtual 260, 3) := by decide +kernel
theorem dX12_empties_89 : decode cX12_empties 89 = .ok (.iload_n 2, 1) := by decide +kernel
theorem dX12_empties_90 : decode cX12_empties 90 = .ok (.invokestatic 206, 3) := by decide +kernel
theorem dX12_empties_93 : decode cX12_empties 93 = .ok (.ireturn, 1) := by decide +kernel
def b_X12_empties_18 (N : Nat) (p1 : Int32) (J70_5 : uS → Int32 → Option (Int32 × uS)) (rec18_12 : uS → Int32 → Int32 → Option (Int32 × uS)) (s9 : uS) (x10 : Int32) (x11 : Int32) : Option (Int32 × uS) :=
  (f_X12_all N s9).bind fun v13 =>
  if v13 < x11 then (J70_5 s9 x10) else (u_jn (fun (s14 : uS) (x15 : Int32) => (u_jn (x11 + 1 : Int32) fun x17 =>
  rec18_12 s14 x15 x17 : Option (Int32 × uS))) fun J64_16 =>
  u_jn (((f_X12_laySigns N s9 x11).bind fun s19 =>
  (f_X12_doEmpty N s19 11 p1).bind fun v20 =>
  if v20.1 = 0 then (J64_16 v20.2 x10) else (J64_16 v20.2 x11) : Option (Int32 × uS))) fun J45_18 =>
  if x10 = (-1) then (J45_18) else ((f_J6_bitCount_0f7a4 N s9 x11).bind fun v21 =>
  (f_J6_bitCount_0f7a4 N s9 x10).bind fun v22 =>
  if v21 < v22 then (J45_18) else (J64_16 s9 x10)))
def f_X12_empties (N : Nat) (σ : uS) (p1 : Int32) : Option (Int32 × uS) := u_jn (u_pI σ 0 8 0) fun s1 =>
  (f_X12_isSoon N s1 p1).bind fun v2 =>
  if v2 = 0 then (some ((-1), s1)) else (u_jn (fun (s3 : uS) (x4 : Int32) => (if x4 = (-1) then (some ((-2), s3)) else (u_jn (u_pI s3 0 7 0) fun s6 =>
  (f_X12_tell N s6 (Int32.toInt64 x4)).bind fun s7 =>
  (f_J6_bitCount_0f7a4 N s7 x4).bind fun v8 =>
  some (v8, s7)) : Option (Int32 × uS))) fun J70_5 =>
  u_lp3 (b_X12_empties_18 N p1 J70_5) N s1 (-1) 0)
set_option maxRecDepth 100000 in
set_option maxHeartbeats 4000000 in
theorem c_X12_empties (l : Launch) (G : uG) (N : Nat) (σ : uS) (p1 : Int32) (z : (Int32 × uS)) (hz : f_X12_empties N σ p1 = some z) : u_Mi l ZM G yX12_empties cX12_empties 4 .int 108 [.ref (G.2.2 0), .int p1] σ z.1 z.2 := by
  refine u_Mi_of RX12 (by decide) rfl (Nat.le_of_ble_eq_true rfl) ?_
  intro p e s m args below meth c ls cx hw hl
  have hx := cx.1
  have hb := cx.2.1
  have hl : lv_has ls 4 [(0, .ref (G.2.2 0)), (1, .int p1)] := hl
  unfold f_X12_empties at hz
  refine lv_aload_n hx hb dX12_empties_0 rfl (lv_at hl 0 rfl) ?_
  refine lv_iconst (v := 0) hx hb dX12_empties_1 (by decide) ?_
  obtain ⟨s1, es1, hz⟩ := u_let hz
  refine u_puti2 cx hw P_X12_77 o_X12 rfl es1 dX12_empties_2 (fun H locs hw => ?_)
  refine lv_iload_n hx hb dX12_empties_5 rfl (lv_at hl 1 rfl) ?_
  obtain ⟨v2, hv2, hz⟩ := u_bind hz
  refine u_callSi (As := [.int p1]) (rest := []) cx hw LS_X12_289 (c_X12_isSoon l G N s1 p1 v2 hv2) (by decide) hl.1 rfl (Nat.le_of_ble_eq_true rfl) dX12_empties_6 rfl (fun H locs hw => ?_)
  refine lv_if_ne (tgt := 14) hx hb dX12_empties_9 (by decide) (fun hc => ?_) (fun hc => ?_)
  · replace hz := u_iff hz hc
    refine lv_iconst (v := (-1)) hx hb dX12_empties_14 (by decide) ?_
    refine lv_istore_n (lv' := [(2, .int (-1)), (0, .ref (G.2.2 0)), (1, .int p1)]) hx hb dX12_empties_15 rfl hl (by decide) rfl (fun ls hl => ?_)
    refine lv_iconst (v := 0) hx hb dX12_empties_16 (by decide) ?_
    refine lv_istore_n (lv' := [(3, .int 0), (2, .int (-1)), (0, .ref (G.2.2 0)), (1, .int p1)]) hx hb dX12_empties_17 rfl hl (by decide) rfl (fun ls hl => ?_)
    obtain ⟨J70_5, eJ70_5, hz⟩ := u_let hz
    have WJ70_5 : ∀ (s3 : uS) (x4 : Int32) (H : Heap) (locs : List Loc) (ls : Array Slot), J70_5 s3 x4 = some z → u_W ZM G s3 s H locs → lv_has ls 4 [(0, .ref (G.2.2 0)), (2, .int x4)] → W p l e (u_rm 108) s m args below meth c H locs 0 0 (u_Qi below ZM G s args z.1 z.2) (F0 m 70 ls []) := by
      intro s3 x4 H locs ls hz hw hl
      rw [eJ70_5] at hz
      refine lv_iload_n hx hb dX12_empties_70 rfl (lv_at hl 1 rfl) ?_
      refine lv_iconst (v := (-1)) hx hb dX12_empties_71 (by decide) ?_
      refine lv_icmp_ne (tgt := 78) hx hb dX12_empties_72 (by decide) (fun hc => ?_) (fun hc => ?_)
      · replace hz := u_iff hz hc
        refine lv_aload_n hx hb dX12_empties_78 rfl (lv_at hl 0 rfl) ?_
        refine lv_iconst (v := 0) hx hb dX12_empties_79 (by decide) ?_
        obtain ⟨s6, es6, hz⟩ := u_let hz
        refine u_puti2 cx hw P_X12_80 o_X12 rfl es6 dX12_empties_80 (fun H locs hw => ?_)
        refine lv_aload_n hx hb dX12_empties_83 rfl (lv_at hl 0 rfl) ?_
        refine lv_iload_n hx hb dX12_empties_84 rfl (lv_at hl 1 rfl) ?_
        refine lv_i2l (v := (Int32.toInt64 x4)) hx hb dX12_empties_85 rfl ?_
        obtain ⟨s7, hs7, hz⟩ := u_bind hz
        refine u_callVv (As := [.long (Int32.toInt64 x4)]) (rest := []) cx hw LV_X12_260 (c_X12_tell l G N s6 (Int32.toInt64 x4) s7 hs7) o_X12 rfl (by decide) hl.1 rfl (Nat.le_of_ble_eq_true rfl) dX12_empties_86 rfl (fun H locs hw => ?_)
        refine lv_iload_n hx hb dX12_empties_89 rfl (lv_at hl 1 rfl) ?_
        obtain ⟨v8, hv8, hz⟩ := u_bind hz
        refine u_callSi (As := [.int x4]) (rest := []) cx hw LS_X12_206 (c_J6_bitCount_0f7a4 l G ZM N s7 x4 v8 hv8) (by decide) hl.1 rfl (Nat.le_of_ble_eq_true rfl) dX12_empties_90 rfl (fun H locs hw => ?_)
        exact u_iret cx hw (u_pair hz) dX12_empties_93
      · replace hz := u_ift hz hc
        refine lv_bipush (v := (-2)) hx hb dX12_empties_75 (by decide) ?_
        exact u_iret cx hw (u_pair hz) dX12_empties_77
    have WL18_22 : ∀ (k : Nat) (s9 : uS) (x10 : Int32) (x11 : Int32) (H : Heap) (locs : List Loc) (ls : Array Slot), u_lp3 (b_X12_empties_18 N p1 J70_5) k s9 x10 x11 = some z → u_W ZM G s9 s H locs → lv_has ls 4 [(0, .ref (G.2.2 0)), (1, .int p1), (2, .int x10), (3, .int x11)] → W p l e (u_rm 108) s m args below meth c H locs 0 0 (u_Qi below ZM G s args z.1 z.2) (F0 m 18 ls []) := by
      intro k
      induction k with
      | zero =>
        intro s9 x10 x11 H locs ls hz
        exact absurd hz (by intro h9; cases h9)
      | succ k ih18_12 =>
        intro s9 x10 x11 H locs ls hz hw hl
        have hz : (b_X12_empties_18 N p1 J70_5) (u_lp3 (b_X12_empties_18 N p1 J70_5) k) s9 x10 x11 = some z := hz
        unfold b_X12_empties_18 at hz
        refine lv_iload_n hx hb dX12_empties_18 rfl (lv_at hl 3 rfl) ?_
        refine lv_aload_n hx hb dX12_empties_19 rfl (lv_at hl 0 rfl) ?_
        obtain ⟨v13, hv13, hz⟩ := u_bind hz
        refine u_callVi (As := []) (rest := [.int x11]) cx hw LV_X12_94 (c_X12_all l G N s9 v13 hv13) o_X12 rfl (by decide) hl.1 rfl (Nat.le_of_ble_eq_true rfl) dX12_empties_20 rfl (fun H locs hw => ?_)
        refine lv_icmp_gt (tgt := 70) hx hb dX12_empties_23 (by decide) (fun hc => ?_) (fun hc => ?_)
        · replace hz := u_ift hz hc
          exact WJ70_5 s9 x10 _ _ _ hz hw (lv_sub hl [0, 2] rfl)
        · replace hz := u_iff hz hc
          refine lv_iload_n hx hb dX12_empties_26 rfl (lv_at hl 2 rfl) ?_
          refine lv_iconst (v := (-1)) hx hb dX12_empties_27 (by decide) ?_
          obtain ⟨J64_16, eJ64_16, hz⟩ := u_let hz
          have WJ64_16 : ∀ (s14 : uS) (x15 : Int32) (H : Heap) (locs : List Loc) (ls : Array Slot), J64_16 s14 x15 = some z → u_W ZM G s14 s H locs → lv_has ls 4 [(0, .ref (G.2.2 0)), (1, .int p1), (2, .int x15), (3, .int x11)] → W p l e (u_rm 108) s m args below meth c H locs 0 0 (u_Qi below ZM G s args z.1 z.2) (F0 m 64 ls []) := by
            intro s14 x15 H locs ls hz hw hl
            rw [eJ64_16] at hz
            obtain ⟨x17, ex17, hz⟩ := u_let hz
            refine lv_iinc (v := x17) (lv' := [(3, .int x17), (0, .ref (G.2.2 0)), (1, .int p1), (2, .int x15)]) hx hb dX12_empties_64 hl (k := 3) rfl (by rw [ex17]; rfl) (by decide) rfl (fun ls hl => ?_)
            refine lv_goto (tgt := 18) hx hb dX12_empties_67 (by decide) ?_
            exact ih18_12 s14 x15 x17 _ _ _ hz hw (lv_sub hl [1, 2, 3, 0] rfl)
          obtain ⟨J45_18, eJ45_18, hz⟩ := u_let hz
          have WJ45_18 : ∀ (H : Heap) (locs : List Loc) (ls : Array Slot), J45_18 = some z → u_W ZM G s9 s H locs → lv_has ls 4 [(0, .ref (G.2.2 0)), (1, .int p1), (2, .int x10), (3, .int x11)] → W p l e (u_rm 108) s m args below meth c H locs 0 0 (u_Qi below ZM G s args z.1 z.2) (F0 m 45 ls []) := by
            intro H locs ls hz hw hl
            rw [eJ45_18] at hz
            refine lv_aload_n hx hb dX12_empties_45 rfl (lv_at hl 0 rfl) ?_
            refine lv_iload_n hx hb dX12_empties_46 rfl (lv_at hl 3 rfl) ?_
            obtain ⟨s19, hs19, hz⟩ := u_bind hz
            refine u_callVv (As := [.int x11]) (rest := []) cx hw LV_X12_292 (c_X12_laySigns l G N s9 x11 s19 hs19) o_X12 rfl (by decide) hl.1 rfl (Nat.le_of_ble_eq_true rfl) dX12_empties_47 rfl (fun H locs hw => ?_)
            refine lv_aload_n hx hb dX12_empties_50 rfl (lv_at hl 0 rfl) ?_
            refine lv_aload_n hx hb dX12_empties_51 rfl (lv_at hl 0 rfl) ?_
            refine u_getp cx hw F_X12_46 o_X12 rfl dX12_empties_52 ?_
            refine lv_iload_n hx hb dX12_empties_55 rfl (lv_at hl 1 rfl) ?_
            obtain ⟨v20, hv20, hz⟩ := u_bind hz
            refine u_callVi (As := [.ref (G.2.2 11), .int p1]) (rest := []) cx hw LV_X12_295 (c_X12_doEmpty l G N s19 11 p1 v20 hv20) o_X12 rfl (by decide) hl.1 rfl (Nat.le_of_ble_eq_true rfl) dX12_empties_56 rfl (fun H locs hw => ?_)
            refine lv_if_eq (tgt := 64) hx hb dX12_empties_59 (by decide) (fun hc => ?_) (fun hc => ?_)
            · replace hz := u_ift hz hc
              exact WJ64_16 v20.2 x10 _ _ _ hz hw (lv_sub hl [0, 1, 2, 3] rfl)
            · replace hz := u_iff hz hc
              refine lv_iload_n hx hb dX12_empties_62 rfl (lv_at hl 3 rfl) ?_
              refine lv_istore_n (lv' := [(2, .int x11), (0, .ref (G.2.2 0)), (1, .int p1), (3, .int x11)]) hx hb dX12_empties_63 rfl hl (by decide) rfl (fun ls hl => ?_)
              exact WJ64_16 v20.2 x11 _ _ _ hz hw (lv_sub hl [1, 2, 0, 3] rfl)
          refine lv_icmp_eq (tgt := 45) hx hb dX12_empties_28 (by decide) (fun hc => ?_) (fun hc => ?_)
          · replace hz := u_ift hz hc
            exact WJ45_18 _ _ _ hz hw (lv_sub hl [0, 1, 2, 3] rfl)
          · replace hz := u_iff hz hc
            refine lv_iload_n hx hb dX12_empties_31 rfl (lv_at hl 3 rfl) ?_
            obtain ⟨v21, hv21, hz⟩ := u_bind hz
            refine u_callSi (As := [.int x11]) (rest := []) cx hw LS_X12_206 (c_J6_bitCount_0f7a4 l G ZM N s9 x11 v21 hv21) (by decide) hl.1 rfl (Nat.le_of_ble_eq_true rfl) dX12_empties_32 rfl (fun H locs hw => ?_)
            refine lv_iload_n hx hb dX12_empties_35 rfl (lv_at hl 2 rfl) ?_
            obtain ⟨v22, hv22, hz⟩ := u_bind hz
            refine u_callSi (As := [.int x10]) (rest := [.int v21]) cx hw LS_X12_206 (c_J6_bitCount_0f7a4 l G ZM N s9 x10 v22 hv22) (by decide) hl.1 rfl (Nat.le_of_ble_eq_true rfl) dX12_empties_36 rfl (fun H locs hw => ?_)
            refine lv_icmp_lt (tgt := 45) hx hb dX12_empties_39 (by decide) (fun hc => ?_) (fun hc => ?_)
            · replace hz := u_ift hz hc
              exact WJ45_18 _ _ _ hz hw (lv_sub hl [0, 1, 2, 3] rfl)
            · replace hz := u_iff hz hc
              refine lv_goto (tgt := 64) hx hb dX12_empties_42 (by decide) ?_
              exact WJ64_16 s9 x10 _ _ _ hz hw (lv_sub hl [0, 1, 2, 3] rfl)
    exact WL18_22 N s1 (-1) 0 _ _ _ hz hw (lv_sub hl [2, 3, 1, 0] rfl)
  · replace hz := u_ift hz hc
    refine lv_iconst (v := (-1)) hx hb dX12_empties_12 (by decide) ?_
    exact u_iret cx hw (u_pair hz) dX12_empties_13
theorem dX12_leftBy_0 : decode cX12_leftBy 0 = .ok (.aload_n 0, 1) := by decide +kernel
theorem dX12_leftBy_1 : decode cX12_leftBy 1 = .ok (.iload_n 1, 1) := by decide +kernel
theorem dX12_leftBy_2 : decode cX12_leftBy 2 = .ok (.invokevirtual 292, 3) := by decide +kernel
theorem dX12_leftBy_5 : decode cX12_leftBy 5 = .ok (.aload_n 0, 1) := by decide +kernel
theorem dX12_leftBy_6 : decode cX12_leftBy 6 = .ok (.aload_n 0, 1) := by decide +kernel
theorem dX12_leftBy_7 : decode cX12_leftBy 7 = .ok (.getfield 46, 3) := by decide +kernel
theorem dX12_leftBy_10 : decode cX12_leftBy 10 = .ok (.iload_n 2, 1) := by decide +kernel
theorem dX12_leftBy_11 : decode cX12_leftBy 11 = .ok (.invokevirtual 257, 3) := by decide +kernel
theorem dX12_leftBy_14 : decode cX12_leftBy 14 = .ok (.pop, 1) := by decide +kernel
theorem dX12_leftBy_15 : decode cX12_leftBy 15 = .ok (.aload_n 0, 1) := by decide +kernel
theorem dX12_leftBy_16 : decode cX12_leftBy 16 = .ok (.aload_n 0, 1) := by decide +kernel
theorem dX12_leftBy_17 : decode cX12_leftBy 17 = .ok (.getfield 46, 3) := by decide +kernel
theorem dX12_leftBy_20 : decode cX12_leftBy 20 = .ok (.invokevirtual 214, 3) := by decide +kernel
theorem dX12_leftBy_23 : decode cX12_leftBy 23 = .ok (.invokestatic 206, 3) := by decide +kernel
theorem dX12_leftBy_26 : decode cX12_leftBy 26 = .ok (.ireturn, 1) := by decide +kernel
def f_X12_leftBy (N : Nat) (σ : uS) (p1 : Int32) (p2 : Int32) : Option (Int32 × uS) := (f_X12_laySigns N σ p1).bind fun s1 =>
  (f_X12_goCrossings N s1 11 p2).bind fun v2 =>
  (f_X12_inBits N v2.2 11).bind fun v3 =>
  (f_J6_bitCount_0f7a4 N v2.2 v3).bind fun v4 =>
  some (v4, v2.2)
set_option maxRecDepth 100000 in
set_option maxHeartbeats 4000000 in
theorem c_X12_leftBy (l : Launch) (G : uG) (N : Nat) (σ : uS) (p1 : Int32) (p2 : Int32) (z : (Int32 × uS)) (hz : f_X12_leftBy N σ p1 p2 = some z) : u_Mi l ZM G yX12_leftBy cX12_leftBy 3 .int 108 [.ref (G.2.2 0), .int p1, .int p2] σ z.1 z.2 := by
  refine u_Mi_of RX12 (by decide) rfl (Nat.le_of_ble_eq_true rfl) ?_
  intro p e s m args below meth c ls cx hw hl
  have hx := cx.1
  have hb := cx.2.1
  have hl : lv_has ls 3 [(0, .ref (G.2.2 0)), (1, .int p1), (2, .int p2)] := hl
  unfold f_X12_leftBy at hz
  refine lv_aload_n hx hb dX12_leftBy_0 rfl (lv_at hl 0 rfl) ?_
  refine lv_iload_n hx hb dX12_leftBy_1 rfl (lv_at hl 1 rfl) ?_
  obtain ⟨s1, hs1, hz⟩ := u_bind hz
  refine u_callVv (As := [.int p1]) (rest := []) cx hw LV_X12_292 (c_X12_laySigns l G N σ p1 s1 hs1) o_X12 rfl (by decide) hl.1 rfl (Nat.le_of_ble_eq_true rfl) dX12_leftBy_2 rfl (fun H locs hw => ?_)
  refine lv_aload_n hx hb dX12_leftBy_5 rfl (lv_at hl 0 rfl) ?_
  refine lv_aload_n hx hb dX12_leftBy_6 rfl (lv_at hl 0 rfl) ?_
  refine u_getp cx hw F_X12_46 o_X12 rfl dX12_leftBy_7 ?_
  refine lv_iload_n hx hb dX12_leftBy_10 rfl (lv_at hl 2 rfl) ?_
  obtain ⟨v2, hv2, hz⟩ := u_bind hz
  refine u_callVi (As := [.ref (G.2.2 11), .int p2]) (rest := []) cx hw LV_X12_257 (c_X12_goCrossings l G N s1 11 p2 v2 hv2) o_X12 rfl (by decide) hl.1 rfl (Nat.le_of_ble_eq_true rfl) dX12_leftBy_11 rfl (fun H locs hw => ?_)
  refine lv_pop hx hb dX12_leftBy_14 rfl ?_
  refine lv_aload_n hx hb dX12_leftBy_15 rfl (lv_at hl 0 rfl) ?_
  refine lv_aload_n hx hb dX12_leftBy_16 rfl (lv_at hl 0 rfl) ?_
  refine u_getp cx hw F_X12_46 o_X12 rfl dX12_leftBy_17 ?_
  obtain ⟨v3, hv3, hz⟩ := u_bind hz
  refine u_callVi (As := [.ref (G.2.2 11)]) (rest := []) cx hw LV_X12_214 (c_X12_inBits l G N v2.2 11 v3 hv3) o_X12 rfl (by decide) hl.1 rfl (Nat.le_of_ble_eq_true rfl) dX12_leftBy_20 rfl (fun H locs hw => ?_)
  obtain ⟨v4, hv4, hz⟩ := u_bind hz
  refine u_callSi (As := [.int v3]) (rest := []) cx hw LS_X12_206 (c_J6_bitCount_0f7a4 l G ZM N v2.2 v3 v4 hv4) (by decide) hl.1 rfl (Nat.le_of_ble_eq_true rfl) dX12_leftBy_23 rfl (fun H locs hw => ?_)
  exact u_iret cx hw (u_pair hz) dX12_leftBy_26
theorem dX12_weakest_0 : decode cX12_weakest 0 = .ok (.aload_n 0, 1) := by decide +kernel
theorem dX12_weakest_1 : decode cX12_weakest 1 = .ok (.iconst 0, 1) := by decide +kernel
theorem dX12_weakest_2 : decode cX12_weakest 2 = .ok (.putfield 77, 3) := by decide +kernel
theorem dX12_weakest_5 : decode cX12_weakest 5 = .ok (.iload_n 1, 1) := by decide +kernel
theorem dX12_weakest_6 : decode cX12_weakest 6 = .ok (.invokestatic 289, 3) := by decide +kernel
theorem dX12_weakest_9 : decode cX12_weakest 9 = .ok (.ifCond .ne 5, 3) := by decide +kernel
theorem dX12_weakest_12 : decode cX12_weakest 12 = .ok (.iconst (-1), 1) := by decide +kernel
theorem dX12_weakest_13 : decode cX12_weakest 13 = .ok (.ireturn, 1) := by decide +kernel
theorem dX12_weakest_14 : decode cX12_weakest 14 = .ok (.bipush (-2), 2) := by decide +kernel
theorem dX12_weakest_16 : decode cX12_weakest 16 = .ok (.istore_n 2, 1) := by decide +kernel
theorem dX12_weakest_17 : decode cX12_weakest 17 = .ok (.ldc_w 298, 3) := by decide +kernel
theorem dX12_weakest_20 : decode cX12_weakest 20 = .ok (.istore_n 3, 1) := by decide +kernel
theorem dX12_weakest_21 : decode cX12_weakest 21 = .ok (.iconst 0, 1) := by decide +kernel
theorem dX12_weakest_22 : decode cX12_weakest 22 = .ok (.istore 4, 2) := by decide +kernel
theorem dX12_weakest_24 : decode cX12_weakest 24 = .ok (.iload 4, 2) := by decide +kernel
theorem dX12_weakest_26 : decode cX12_weakest 26 = .ok (.aload_n 0, 1) := by decide +kernel
theorem dX12_weakest_27 : decode cX12_weakest 27 = .ok (.getfield 83, 3) := by decide +kernel
theorem dX12_weakest_30 : decode cX12_weakest 30 = .ok (.if_icmp .ge 53, 3) := by decide +kernel
theorem dX12_weakest_33 : decode cX12_weakest 33 = .ok (.aload_n 0, 1) := by decide +kernel
theorem dX12_weakest_34 : decode cX12_weakest 34 = .ok (.getfield 9, 3) := by decide +kernel
theorem dX12_weakest_37 : decode cX12_weakest 37 = .ok (.bipush 34, 2) := by decide +kernel
theorem dX12_weakest_39 : decode cX12_weakest 39 = .ok (.iaload, 1) := by decide +kernel
theorem dX12_weakest_40 : decode cX12_weakest 40 = .ok (.iload 4, 2) := by decide +kernel
theorem dX12_weakest_42 : decode cX12_weakest 42 = .ok (.invokestatic 198, 3) := by decide +kernel
theorem dX12_weakest_45 : decode cX12_weakest 45 = .ok (.ifCond .ne 32, 3) := by decide +kernel
theorem dX12_weakest_48 : decode cX12_weakest 48 = .ok (.aload_n 0, 1) := by decide +kernel
theorem dX12_weakest_49 : decode cX12_weakest 49 = .ok (.iconst 1, 1) := by decide +kernel
theorem dX12_weakest_50 : decode cX12_weakest 50 = .ok (.iload 4, 2) := by decide +kernel
theorem dX12_weakest_52 : decode cX12_weakest 52 = .ok (.ishl, 1) := by decide +kernel
theorem dX12_weakest_53 : decode cX12_weakest 53 = .ok (.iload_n 1, 1) := by decide +kernel
theorem dX12_weakest_54 : decode cX12_weakest 54 = .ok (.invokevirtual 299, 3) := by decide +kernel
theorem dX12_weakest_57 : decode cX12_weakest 57 = .ok (.iload_n 3, 1) := by decide +kernel
theorem dX12_weakest_58 : decode cX12_weakest 58 = .ok (.if_icmp .lt 6, 3) := by decide +kernel
theorem dX12_weakest_61 : decode cX12_weakest 61 = .ok (.goto 16, 3) := by decide +kernel
theorem dX12_weakest_64 : decode cX12_weakest 64 = .ok (.iload 4, 2) := by decide +kernel
theorem dX12_weakest_66 : decode cX12_weakest 66 = .ok (.istore_n 2, 1) := by decide +kernel
theorem dX12_weakest_67 : decode cX12_weakest 67 = .ok (.aload_n 0, 1) := by decide +kernel
theorem dX12_weakest_68 : decode cX12_weakest 68 = .ok (.iconst 1, 1) := by decide +kernel
theorem dX12_weakest_69 : decode cX12_weakest 69 = .ok (.iload 4, 2) := by decide +kernel
theorem dX12_weakest_71 : decode cX12_weakest 71 = .ok (.ishl, 1) := by decide +kernel
theorem dX12_weakest_72 : decode cX12_weakest 72 = .ok (.iload_n 1, 1) := by decide +kernel
theorem dX12_weakest_73 : decode cX12_weakest 73 = .ok (.invokevirtual 299, 3) := by decide +kernel
theorem dX12_weakest_76 : decode cX12_weakest 76 = .ok (.istore_n 3, 1) := by decide +kernel
theorem dX12_weakest_77 : decode cX12_weakest 77 = .ok (.iinc 4 1, 3) := by decide +kernel
theorem dX12_weakest_80 : decode cX12_weakest 80 = .ok (.goto (-56), 3) := by decide +kernel
theorem dX12_weakest_83 : decode cX12_weakest 83 = .ok (.iload_n 2, 1) := by decide +kernel
theorem dX12_weakest_84 : decode cX12_weakest 84 = .ok (.bipush (-2), 2) := by decide +kernel
theorem dX12_weakest_86 : decode cX12_weakest 86 = .ok (.if_icmp .ne 6, 3) := by decide +kernel
theorem dX12_weakest_89 : decode cX12_weakest 89 = .ok (.bipush (-2), 2) := by decide +kernel
theorem dX12_weakest_91 : decode cX12_weakest 91 = .ok (.ireturn, 1) := by decide +kernel
theorem dX12_weakest_92 : decode cX12_weakest 92 = .ok (.aload_n 0, 1) := by decide +kernel
theorem dX12_weakest_93 : decode cX12_weakest 93 = .ok (.iconst 0, 1) := by decide +kernel
theorem dX12_weakest_94 : decode cX12_weakest 94 = .ok (.putfield 80, 3) := by decide +kernel
theorem dX12_weakest_97 : decode cX12_weakest 97 = .ok (.aload_n 0, 1) := by decide +kernel
theorem dX12_weakest_98 : decode cX12_weakest 98 = .ok (.iload_n 3, 1) := by decide +kernel
theorem dX12_weakest_99 : decode cX12_weakest 99 = .ok (.i2l, 1) := by decide +kernel
theorem dX12_weakest_100 : decode cX12_weakest 100 = .ok (.invokevirtual 260, 3) := by decide +kernel
theorem dX12_weakest_103 : decode cX12_weakest 103 = .ok (.aload_n 0, 1) := by decide +kernel
theorem dX12_weakest_104 : decode cX12_weakest 104 = .ok (.aload_n 0, 1) := by decide +kernel
theorem dX12_weakest_105 : decode cX12_weakest 105 = .ok (.iconst 0, 1) := by decide +kernel
theorem dX12_weakest_106 : decode cX12_weakest 106 = .ok (.iload_n 1, 1) := by decide +kernel
theorem dX12_weakest_107 : decode cX12_weakest 107 = .ok (.invokevirtual 299, 3) := by decide +kernel
theorem dX12_weakest_110 : decode cX12_weakest 110 = .ok (.i2l, 1) := by decide +kernel
theorem dX12_weakest_111 : decode cX12_weakest 111 = .ok (.invokevirtual 260, 3) := by decide +kernel
theorem dX12_weakest_114 : decode cX12_weakest 114 = .ok (.iload_n 2, 1) := by decide +kernel
theorem dX12_weakest_115 : decode cX12_weakest 115 = .ok (.ireturn, 1) := by decide +kernel
def b_X12_weakest_24 (N : Nat) (p1 : Int32) (J83_6 : uS → Int32 → Int32 → Option (Int32 × uS)) (rec24_15 : uS → Int32 → Int32 → Int32 → Option (Int32 × uS)) (s11 : uS) (x12 : Int32) (x13 : Int32) (x14 : Int32) : Option (Int32 × uS) :=
  if (s11.1 0 2) ≤ x14 then (J83_6 s11 x12 x13) else ((u_rI ZM s11 0 1 34).bind fun v16 =>
  (f_X12_has N s11 v16 x14).bind fun v17 =>
  u_jn (fun (s18 : uS) (x19 : Int32) (x20 : Int32) => (u_jn (x14 + 1 : Int32) fun x22 =>
  rec24_15 s18 x19 x20 x22 : Option (Int32 × uS))) fun J77_21 =>
  if v17 = 0 then ((f_X12_leftBy N s11 (1 <<< (x14 &&& 31)) p1).bind fun v23 =>
  if v23.1 < x13 then ((f_X12_leftBy N v23.2 (1 <<< (x14 &&& 31)) p1).bind fun v24 =>
  J77_21 v24.2 x14 v24.1) else (J77_21 v23.2 x12 x13)) else (J77_21 s11 x12 x13))
def f_X12_weakest (N : Nat) (σ : uS) (p1 : Int32) : Option (Int32 × uS) := u_jn (u_pI σ 0 8 0) fun s1 =>
  (f_X12_isSoon N s1 p1).bind fun v2 =>
  if v2 = 0 then (some ((-1), s1)) else (u_jn (fun (s3 : uS) (x4 : Int32) (x5 : Int32) => (if x4 = (-2) then (some ((-2), s3)) else (u_jn (u_pI s3 0 7 0) fun s7 =>
  (f_X12_tell N s7 (Int32.toInt64 x5)).bind fun s8 =>
  (f_X12_leftBy N s8 0 p1).bind fun v9 =>
  (f_X12_tell N v9.2 (Int32.toInt64 v9.1)).bind fun s10 =>
  some (x4, s10)) : Option (Int32 × uS))) fun J83_6 =>
  u_lp4 (b_X12_weakest_24 N p1 J83_6) N s1 (-2) 1000000 0)
set_option maxRecDepth 100000 in
set_option maxHeartbeats 4000000 in
theorem c_X12_weakest (l : Launch) (G : uG) (N : Nat) (σ : uS) (p1 : Int32) (z : (Int32 × uS)) (hz : f_X12_weakest N σ p1 = some z) : u_Mi l ZM G yX12_weakest cX12_weakest 5 .int 109 [.ref (G.2.2 0), .int p1] σ z.1 z.2 := by
  refine u_Mi_of RX12 (by decide) rfl (Nat.le_of_ble_eq_true rfl) ?_
  intro p e s m args below meth c ls cx hw hl
  have hx := cx.1
  have hb := cx.2.1
  have hl : lv_has ls 5 [(0, .ref (G.2.2 0)), (1, .int p1)] := hl
  unfold f_X12_weakest at hz
  refine lv_aload_n hx hb dX12_weakest_0 rfl (lv_at hl 0 rfl) ?_
  refine lv_iconst (v := 0) hx hb dX12_weakest_1 (by decide) ?_
  obtain ⟨s1, es1, hz⟩ := u_let hz
  refine u_puti2 cx hw P_X12_77 o_X12 rfl es1 dX12_weakest_2 (fun H locs hw => ?_)
  refine lv_iload_n hx hb dX12_weakest_5 rfl (lv_at hl 1 rfl) ?_
  obtain ⟨v2, hv2, hz⟩ := u_bind hz
  refine u_callSi (As := [.int p1]) (rest := []) cx hw LS_X12_289 (c_X12_isSoon l G N s1 p1 v2 hv2) (by decide) hl.1 rfl (Nat.le_of_ble_eq_true rfl) dX12_weakest_6 rfl (fun H locs hw => ?_)
  refine lv_if_ne (tgt := 14) hx hb dX12_weakest_9 (by decide) (fun hc => ?_) (fun hc => ?_)
  · replace hz := u_iff hz hc
    refine lv_bipush (v := (-2)) hx hb dX12_weakest_14 (by decide) ?_
    refine lv_istore_n (lv' := [(2, .int (-2)), (0, .ref (G.2.2 0)), (1, .int p1)]) hx hb dX12_weakest_16 rfl hl (by decide) rfl (fun ls hl => ?_)
    refine u_ldcw cx q_1480 dX12_weakest_17 ?_
    refine lv_istore_n (lv' := [(3, .int 1000000), (2, .int (-2)), (0, .ref (G.2.2 0)), (1, .int p1)]) hx hb dX12_weakest_20 rfl hl (by decide) rfl (fun ls hl => ?_)
    refine lv_iconst (v := 0) hx hb dX12_weakest_21 (by decide) ?_
    refine lv_istore (lv' := [(4, .int 0), (3, .int 1000000), (2, .int (-2)), (0, .ref (G.2.2 0)), (1, .int p1)]) hx hb dX12_weakest_22 hl (by decide) rfl (fun ls hl => ?_)
    obtain ⟨J83_6, eJ83_6, hz⟩ := u_let hz
    have WJ83_6 : ∀ (s3 : uS) (x4 : Int32) (x5 : Int32) (H : Heap) (locs : List Loc) (ls : Array Slot), J83_6 s3 x4 x5 = some z → u_W ZM G s3 s H locs → lv_has ls 5 [(0, .ref (G.2.2 0)), (1, .int p1), (2, .int x4), (3, .int x5)] → W p l e (u_rm 109) s m args below meth c H locs 0 0 (u_Qi below ZM G s args z.1 z.2) (F0 m 83 ls []) := by
      intro s3 x4 x5 H locs ls hz hw hl
      rw [eJ83_6] at hz
      refine lv_iload_n hx hb dX12_weakest_83 rfl (lv_at hl 2 rfl) ?_
      refine lv_bipush (v := (-2)) hx hb dX12_weakest_84 (by decide) ?_
      refine lv_icmp_ne (tgt := 92) hx hb dX12_weakest_86 (by decide) (fun hc => ?_) (fun hc => ?_)
      · replace hz := u_iff hz hc
        refine lv_aload_n hx hb dX12_weakest_92 rfl (lv_at hl 0 rfl) ?_
        refine lv_iconst (v := 0) hx hb dX12_weakest_93 (by decide) ?_
        obtain ⟨s7, es7, hz⟩ := u_let hz
        refine u_puti2 cx hw P_X12_80 o_X12 rfl es7 dX12_weakest_94 (fun H locs hw => ?_)
        refine lv_aload_n hx hb dX12_weakest_97 rfl (lv_at hl 0 rfl) ?_
        refine lv_iload_n hx hb dX12_weakest_98 rfl (lv_at hl 3 rfl) ?_
        refine lv_i2l (v := (Int32.toInt64 x5)) hx hb dX12_weakest_99 rfl ?_
        obtain ⟨s8, hs8, hz⟩ := u_bind hz
        refine u_callVv (As := [.long (Int32.toInt64 x5)]) (rest := []) cx hw LV_X12_260 (c_X12_tell l G N s7 (Int32.toInt64 x5) s8 hs8) o_X12 rfl (by decide) hl.1 rfl (Nat.le_of_ble_eq_true rfl) dX12_weakest_100 rfl (fun H locs hw => ?_)
        refine lv_aload_n hx hb dX12_weakest_103 rfl (lv_at hl 0 rfl) ?_
        refine lv_aload_n hx hb dX12_weakest_104 rfl (lv_at hl 0 rfl) ?_
        refine lv_iconst (v := 0) hx hb dX12_weakest_105 (by decide) ?_
        refine lv_iload_n hx hb dX12_weakest_106 rfl (lv_at hl 1 rfl) ?_
        obtain ⟨v9, hv9, hz⟩ := u_bind hz
        refine u_callVi (As := [.int 0, .int p1]) (rest := [.ref (G.2.2 0)]) cx hw LV_X12_299 (c_X12_leftBy l G N s8 0 p1 v9 hv9) o_X12 rfl (by decide) hl.1 rfl (Nat.le_of_ble_eq_true rfl) dX12_weakest_107 rfl (fun H locs hw => ?_)
        refine lv_i2l (v := (Int32.toInt64 v9.1)) hx hb dX12_weakest_110 rfl ?_
        obtain ⟨s10, hs10, hz⟩ := u_bind hz
        refine u_callVv (As := [.long (Int32.toInt64 v9.1)]) (rest := []) cx hw LV_X12_260 (c_X12_tell l G N v9.2 (Int32.toInt64 v9.1) s10 hs10) o_X12 rfl (by decide) hl.1 rfl (Nat.le_of_ble_eq_true rfl) dX12_weakest_111 rfl (fun H locs hw => ?_)
        refine lv_iload_n hx hb dX12_weakest_114 rfl (lv_at hl 2 rfl) ?_
        exact u_iret cx hw (u_pair hz) dX12_weakest_115
      · replace hz := u_ift hz hc
        refine lv_bipush (v := (-2)) hx hb dX12_weakest_89 (by decide) ?_
        exact u_iret cx hw (u_pair hz) dX12_weakest_91
    have WL24_24 : ∀ (k : Nat) (s11 : uS) (x12 : Int32) (x13 : Int32) (x14 : Int32) (H : Heap) (locs : List Loc) (ls : Array Slot), u_lp4 (b_X12_weakest_24 N p1 J83_6) k s11 x12 x13 x14 = some z → u_W ZM G s11 s H locs → lv_has ls 5 [(0, .ref (G.2.2 0)), (1, .int p1), (2, .int x12), (3, .int x13), (4, .int x14)] → W p l e (u_rm 109) s m args below meth c H locs 0 0 (u_Qi below ZM G s args z.1 z.2) (F0 m 24 ls []) := by
      intro k
      induction k with
      | zero =>
        intro s11 x12 x13 x14 H locs ls hz
        exact absurd hz (by intro h9; cases h9)
      | succ k ih24_15 =>
        intro s11 x12 x13 x14 H locs ls hz hw hl
        have hz : (b_X12_weakest_24 N p1 J83_6) (u_lp4 (b_X12_weakest_24 N p1 J83_6) k) s11 x12 x13 x14 = some z := hz
        unfold b_X12_weakest_24 at hz
        refine lv_iload hx hb dX12_weakest_24 (lv_at hl 4 rfl) ?_
        refine lv_aload_n hx hb dX12_weakest_26 rfl (lv_at hl 0 rfl) ?_
        refine u_geti cx hw F_X12_83 o_X12 rfl dX12_weakest_27 ?_
        refine lv_icmp_ge (tgt := 83) hx hb dX12_weakest_30 (by decide) (fun hc => ?_) (fun hc => ?_)
        · replace hz := u_ift hz hc
          exact WJ83_6 s11 x12 x13 _ _ _ hz hw (lv_sub hl [0, 1, 2, 3] rfl)
        · replace hz := u_iff hz hc
          refine lv_aload_n hx hb dX12_weakest_33 rfl (lv_at hl 0 rfl) ?_
          refine u_getp cx hw F_X12_9 o_X12 rfl dX12_weakest_34 ?_
          refine lv_bipush (v := 34) hx hb dX12_weakest_37 (by decide) ?_
          obtain ⟨v16, hv16, hz⟩ := u_bind hz
          refine u_iald cx hw hv16 dX12_weakest_39 ?_
          refine lv_iload hx hb dX12_weakest_40 (lv_at hl 4 rfl) ?_
          obtain ⟨v17, hv17, hz⟩ := u_bind hz
          refine u_callSi (As := [.int v16, .int x14]) (rest := []) cx hw LS_X12_198 (c_X12_has l G N s11 v16 x14 v17 hv17) (by decide) hl.1 rfl (Nat.le_of_ble_eq_true rfl) dX12_weakest_42 rfl (fun H locs hw => ?_)
          obtain ⟨J77_21, eJ77_21, hz⟩ := u_let hz
          have WJ77_21 : ∀ (s18 : uS) (x19 : Int32) (x20 : Int32) (H : Heap) (locs : List Loc) (ls : Array Slot), J77_21 s18 x19 x20 = some z → u_W ZM G s18 s H locs → lv_has ls 5 [(0, .ref (G.2.2 0)), (1, .int p1), (2, .int x19), (3, .int x20), (4, .int x14)] → W p l e (u_rm 109) s m args below meth c H locs 0 0 (u_Qi below ZM G s args z.1 z.2) (F0 m 77 ls []) := by
            intro s18 x19 x20 H locs ls hz hw hl
            rw [eJ77_21] at hz
            obtain ⟨x22, ex22, hz⟩ := u_let hz
            refine lv_iinc (v := x22) (lv' := [(4, .int x22), (0, .ref (G.2.2 0)), (1, .int p1), (2, .int x19), (3, .int x20)]) hx hb dX12_weakest_77 hl (k := 4) rfl (by rw [ex22]; rfl) (by decide) rfl (fun ls hl => ?_)
            refine lv_goto (tgt := 24) hx hb dX12_weakest_80 (by decide) ?_
            exact ih24_15 s18 x19 x20 x22 _ _ _ hz hw (lv_sub hl [1, 2, 3, 4, 0] rfl)
          refine lv_if_ne (tgt := 77) hx hb dX12_weakest_45 (by decide) (fun hc => ?_) (fun hc => ?_)
          · replace hz := u_iff hz hc
            exact WJ77_21 s11 x12 x13 _ _ _ hz hw (lv_sub hl [0, 1, 2, 3, 4] rfl)
          · replace hz := u_ift hz hc
            refine lv_aload_n hx hb dX12_weakest_48 rfl (lv_at hl 0 rfl) ?_
            refine lv_iconst (v := 1) hx hb dX12_weakest_49 (by decide) ?_
            refine lv_iload hx hb dX12_weakest_50 (lv_at hl 4 rfl) ?_
            refine lv_ishl hx hb dX12_weakest_52 ?_
            refine lv_iload_n hx hb dX12_weakest_53 rfl (lv_at hl 1 rfl) ?_
            obtain ⟨v23, hv23, hz⟩ := u_bind hz
            refine u_callVi (As := [.int (1 <<< (x14 &&& 31)), .int p1]) (rest := []) cx hw LV_X12_299 (c_X12_leftBy l G N s11 (1 <<< (x14 &&& 31)) p1 v23 hv23) o_X12 rfl (by decide) hl.1 rfl (Nat.le_of_ble_eq_true rfl) dX12_weakest_54 rfl (fun H locs hw => ?_)
            refine lv_iload_n hx hb dX12_weakest_57 rfl (lv_at hl 3 rfl) ?_
            refine lv_icmp_lt (tgt := 64) hx hb dX12_weakest_58 (by decide) (fun hc => ?_) (fun hc => ?_)
            · replace hz := u_ift hz hc
              refine lv_iload hx hb dX12_weakest_64 (lv_at hl 4 rfl) ?_
              refine lv_istore_n (lv' := [(2, .int x14), (0, .ref (G.2.2 0)), (1, .int p1), (3, .int x13), (4, .int x14)]) hx hb dX12_weakest_66 rfl hl (by decide) rfl (fun ls hl => ?_)
              refine lv_aload_n hx hb dX12_weakest_67 rfl (lv_at hl 1 rfl) ?_
              refine lv_iconst (v := 1) hx hb dX12_weakest_68 (by decide) ?_
              refine lv_iload hx hb dX12_weakest_69 (lv_at hl 4 rfl) ?_
              refine lv_ishl hx hb dX12_weakest_71 ?_
              refine lv_iload_n hx hb dX12_weakest_72 rfl (lv_at hl 2 rfl) ?_
              obtain ⟨v24, hv24, hz⟩ := u_bind hz
              refine u_callVi (As := [.int (1 <<< (x14 &&& 31)), .int p1]) (rest := []) cx hw LV_X12_299 (c_X12_leftBy l G N v23.2 (1 <<< (x14 &&& 31)) p1 v24 hv24) o_X12 rfl (by decide) hl.1 rfl (Nat.le_of_ble_eq_true rfl) dX12_weakest_73 rfl (fun H locs hw => ?_)
              refine lv_istore_n (lv' := [(3, .int v24.1), (2, .int x14), (0, .ref (G.2.2 0)), (1, .int p1), (4, .int x14)]) hx hb dX12_weakest_76 rfl hl (by decide) rfl (fun ls hl => ?_)
              exact WJ77_21 v24.2 x14 v24.1 _ _ _ hz hw (lv_sub hl [2, 3, 1, 0, 4] rfl)
            · replace hz := u_iff hz hc
              refine lv_goto (tgt := 77) hx hb dX12_weakest_61 (by decide) ?_
              exact WJ77_21 v23.2 x12 x13 _ _ _ hz hw (lv_sub hl [0, 1, 2, 3, 4] rfl)
    exact WL24_24 N s1 (-2) 1000000 0 _ _ _ hz hw (lv_sub hl [3, 4, 2, 1, 0] rfl)
  · replace hz := u_ift hz hc
    refine lv_iconst (v := (-1)) hx hb dX12_weakest_12 (by decide) ?_
    exact u_iret cx hw (u_pair hz) dX12_weakest_13
theorem dX12_faces_0 : decode cX12_faces 0 = .ok (.aload_n 0, 1) := by decide +kernel
theorem dX12_faces_1 : decode cX12_faces 1 = .ok (.iconst 0, 1) := by decide +kernel
theorem dX12_faces_2 : decode cX12_faces 2 = .ok (.putfield 77, 3) := by decide +kernel
theorem dX12_faces_5 : decode cX12_faces 5 = .ok (.iconst (-1), 1) := by decide +kernel
theorem dX12_faces_6 : decode cX12_faces 6 = .ok (.istore_n 1, 1) := by decide +kernel
theorem dX12_faces_7 : decode cX12_faces 7 = .ok (.iconst (-1), 1) := by decide +kernel
theorem dX12_faces_8 : decode cX12_faces 8 = .ok (.istore_n 2, 1) := by decide +kernel
theorem dX12_faces_9 : decode cX12_faces 9 = .ok (.iconst (-1), 1) := by decide +kernel
theorem dX12_faces_10 : decode cX12_faces 10 = .ok (.istore_n 3, 1) := by decide +kernel
theorem dX12_faces_11 : decode cX12_faces 11 = .ok (.iconst 0, 1) := by decide +kernel
theorem dX12_faces_12 : decode cX12_faces 12 = .ok (.istore 4, 2) := by decide +kernel
theorem dX12_faces_14 : decode cX12_faces 14 = .ok (.iload 4, 2) := by decide +kernel
theorem dX12_faces_16 : decode cX12_faces 16 = .ok (.aload_n 0, 1) := by decide +kernel
theorem dX12_faces_17 : decode cX12_faces 17 = .ok (.getfield 83, 3) := by decide +kernel
theorem dX12_faces_20 : decode cX12_faces 20 = .ok (.if_icmp .ge 156, 3) := by decide +kernel
theorem dX12_faces_23 : decode cX12_faces 23 = .ok (.iload 4, 2) := by decide +kernel
theorem dX12_faces_25 : decode cX12_faces 25 = .ok (.iconst 1, 1) := by decide +kernel
theorem dX12_faces_26 : decode cX12_faces 26 = .ok (.iadd, 1) := by decide +kernel
theorem dX12_faces_27 : decode cX12_faces 27 = .ok (.istore 5, 2) := by decide +kernel
theorem dX12_faces_29 : decode cX12_faces 29 = .ok (.iload 5, 2) := by decide +kernel
theorem dX12_faces_31 : decode cX12_faces 31 = .ok (.aload_n 0, 1) := by decide +kernel
theorem dX12_faces_32 : decode cX12_faces 32 = .ok (.getfield 83, 3) := by decide +kernel
theorem dX12_faces_35 : decode cX12_faces 35 = .ok (.if_icmp .ge 135, 3) := by decide +kernel
theorem dX12_faces_38 : decode cX12_faces 38 = .ok (.aload_n 0, 1) := by decide +kernel
theorem dX12_faces_39 : decode cX12_faces 39 = .ok (.aload_n 0, 1) := by decide +kernel
theorem dX12_faces_40 : decode cX12_faces 40 = .ok (.getfield 9, 3) := by decide +kernel
theorem dX12_faces_43 : decode cX12_faces 43 = .ok (.iload 4, 2) := by decide +kernel
theorem dX12_faces_45 : decode cX12_faces 45 = .ok (.invokevirtual 202, 3) := by decide +kernel
theorem dX12_faces_48 : decode cX12_faces 48 = .ok (.iload 5, 2) := by decide +kernel
theorem dX12_faces_50 : decode cX12_faces 50 = .ok (.invokestatic 198, 3) := by decide +kernel
theorem dX12_faces_53 : decode cX12_faces 53 = .ok (.ifCond .eq 24, 3) := by decide +kernel
theorem dX12_faces_56 : decode cX12_faces 56 = .ok (.aload_n 0, 1) := by decide +kernel
theorem dX12_faces_57 : decode cX12_faces 57 = .ok (.aload_n 0, 1) := by decide +kernel
theorem dX12_faces_58 : decode cX12_faces 58 = .ok (.getfield 9, 3) := by decide +kernel
theorem dX12_faces_61 : decode cX12_faces 61 = .ok (.iload 5, 2) := by decide +kernel
theorem dX12_faces_63 : decode cX12_faces 63 = .ok (.invokevirtual 202, 3) := by decide +kernel
theorem dX12_faces_66 : decode cX12_faces 66 = .ok (.iload 4, 2) := by decide +kernel
theorem dX12_faces_68 : decode cX12_faces 68 = .ok (.invokestatic 198, 3) := by decide +kernel
theorem dX12_faces_71 : decode cX12_faces 71 = .ok (.ifCond .eq 6, 3) := by decide +kernel
theorem dX12_faces_74 : decode cX12_faces 74 = .ok (.goto 90, 3) := by decide +kernel
theorem dX12_faces_77 : decode cX12_faces 77 = .ok (.aload_n 0, 1) := by decide +kernel
theorem dX12_faces_78 : decode cX12_faces 78 = .ok (.getfield 9, 3) := by decide +kernel
theorem dX12_faces_81 : decode cX12_faces 81 = .ok (.aload_n 0, 1) := by decide +kernel
theorem dX12_faces_82 : decode cX12_faces 82 = .ok (.getfield 46, 3) := by decide +kernel
theorem dX12_faces_85 : decode cX12_faces 85 = .ok (.iconst 0, 1) := by decide +kernel
theorem dX12_faces_86 : decode cX12_faces 86 = .ok (.invokestatic 242, 3) := by decide +kernel
theorem dX12_faces_89 : decode cX12_faces 89 = .ok (.aload_n 0, 1) := by decide +kernel
theorem dX12_faces_90 : decode cX12_faces 90 = .ok (.getfield 46, 3) := by decide +kernel
theorem dX12_faces_93 : decode cX12_faces 93 = .ok (.bipush 8, 2) := by decide +kernel
theorem dX12_faces_95 : decode cX12_faces 95 = .ok (.iload 4, 2) := by decide +kernel
theorem dX12_faces_97 : decode cX12_faces 97 = .ok (.iadd, 1) := by decide +kernel
theorem dX12_faces_98 : decode cX12_faces 98 = .ok (.dup2, 1) := by decide +kernel
theorem dX12_faces_99 : decode cX12_faces 99 = .ok (.iaload, 1) := by decide +kernel
theorem dX12_faces_100 : decode cX12_faces 100 = .ok (.iconst 1, 1) := by decide +kernel
theorem dX12_faces_101 : decode cX12_faces 101 = .ok (.iload 5, 2) := by decide +kernel
theorem dX12_faces_103 : decode cX12_faces 103 = .ok (.ishl, 1) := by decide +kernel
theorem dX12_faces_104 : decode cX12_faces 104 = .ok (.ior, 1) := by decide +kernel
theorem dX12_faces_105 : decode cX12_faces 105 = .ok (.iastore, 1) := by decide +kernel
theorem dX12_faces_106 : decode cX12_faces 106 = .ok (.aload_n 0, 1) := by decide +kernel
theorem dX12_faces_107 : decode cX12_faces 107 = .ok (.getfield 46, 3) := by decide +kernel
theorem dX12_faces_110 : decode cX12_faces 110 = .ok (.bipush 8, 2) := by decide +kernel
theorem dX12_faces_112 : decode cX12_faces 112 = .ok (.iload 5, 2) := by decide +kernel
theorem dX12_faces_114 : decode cX12_faces 114 = .ok (.iadd, 1) := by decide +kernel
theorem dX12_faces_115 : decode cX12_faces 115 = .ok (.dup2, 1) := by decide +kernel
theorem dX12_faces_116 : decode cX12_faces 116 = .ok (.iaload, 1) := by decide +kernel
theorem dX12_faces_117 : decode cX12_faces 117 = .ok (.iconst 1, 1) := by decide +kernel
theorem dX12_faces_118 : decode cX12_faces 118 = .ok (.iload 4, 2) := by decide +kernel
theorem dX12_faces_120 : decode cX12_faces 120 = .ok (.ishl, 1) := by decide +kernel
theorem dX12_faces_121 : decode cX12_faces 121 = .ok (.ior, 1) := by decide +kernel
theorem dX12_faces_122 : decode cX12_faces 122 = .ok (.iastore, 1) := by decide +kernel
theorem dX12_faces_123 : decode cX12_faces 123 = .ok (.aload_n 0, 1) := by decide +kernel
theorem dX12_faces_124 : decode cX12_faces 124 = .ok (.aload_n 0, 1) := by decide +kernel
theorem dX12_faces_125 : decode cX12_faces 125 = .ok (.getfield 46, 3) := by decide +kernel
theorem dX12_faces_128 : decode cX12_faces 128 = .ok (.iconst 2, 1) := by decide +kernel
theorem dX12_faces_129 : decode cX12_faces 129 = .ok (.invokevirtual 257, 3) := by decide +kernel
theorem dX12_faces_132 : decode cX12_faces 132 = .ok (.pop, 1) := by decide +kernel
theorem dX12_faces_133 : decode cX12_faces 133 = .ok (.aload_n 0, 1) := by decide +kernel
theorem dX12_faces_134 : decode cX12_faces 134 = .ok (.aload_n 0, 1) := by decide +kernel
theorem dX12_faces_135 : decode cX12_faces 135 = .ok (.getfield 46, 3) := by decide +kernel
theorem dX12_faces_138 : decode cX12_faces 138 = .ok (.invokevirtual 214, 3) := by decide +kernel
theorem dX12_faces_141 : decode cX12_faces 141 = .ok (.invokestatic 206, 3) := by decide +kernel
theorem dX12_faces_144 : decode cX12_faces 144 = .ok (.istore 6, 2) := by decide +kernel
theorem dX12_faces_146 : decode cX12_faces 146 = .ok (.iload 6, 2) := by decide +kernel
theorem dX12_faces_148 : decode cX12_faces 148 = .ok (.iload_n 1, 1) := by decide +kernel
theorem dX12_faces_149 : decode cX12_faces 149 = .ok (.if_icmp .gt 6, 3) := by decide +kernel
theorem dX12_faces_152 : decode cX12_faces 152 = .ok (.goto 12, 3) := by decide +kernel
theorem dX12_faces_155 : decode cX12_faces 155 = .ok (.iload 6, 2) := by decide +kernel
theorem dX12_faces_157 : decode cX12_faces 157 = .ok (.istore_n 1, 1) := by decide +kernel
theorem dX12_faces_158 : decode cX12_faces 158 = .ok (.iload 4, 2) := by decide +kernel
theorem dX12_faces_160 : decode cX12_faces 160 = .ok (.istore_n 2, 1) := by decide +kernel
theorem dX12_faces_161 : decode cX12_faces 161 = .ok (.iload 5, 2) := by decide +kernel
theorem dX12_faces_163 : decode cX12_faces 163 = .ok (.istore_n 3, 1) := by decide +kernel
theorem dX12_faces_164 : decode cX12_faces 164 = .ok (.iinc 5 1, 3) := by decide +kernel
theorem dX12_faces_167 : decode cX12_faces 167 = .ok (.goto (-138), 3) := by decide +kernel
theorem dX12_faces_170 : decode cX12_faces 170 = .ok (.iinc 4 1, 3) := by decide +kernel
theorem dX12_faces_173 : decode cX12_faces 173 = .ok (.goto (-159), 3) := by decide +kernel
theorem dX12_faces_176 : decode cX12_faces 176 = .ok (.iload_n 1, 1) := by decide +kernel
theorem dX12_faces_177 : decode cX12_faces 177 = .ok (.iconst (-1), 1) := by decide +kernel
theorem dX12_faces_178 : decode cX12_faces 178 = .ok (.if_icmp .ne 6, 3) := by decide +kernel
theorem dX12_faces_181 : decode cX12_faces 181 = .ok (.bipush (-2), 2) := by decide +kernel
theorem dX12_faces_183 : decode cX12_faces 183 = .ok (.ireturn, 1) := by decide +kernel
theorem dX12_faces_184 : decode cX12_faces 184 = .ok (.aload_n 0, 1) := by decide +kernel
theorem dX12_faces_185 : decode cX12_faces 185 = .ok (.iconst 0, 1) := by decide +kernel
theorem dX12_faces_186 : decode cX12_faces 186 = .ok (.putfield 80, 3) := by decide +kernel
theorem dX12_faces_189 : decode cX12_faces 189 = .ok (.aload_n 0, 1) := by decide +kernel
theorem dX12_faces_190 : decode cX12_faces 190 = .ok (.iload_n 2, 1) := by decide +kernel
theorem dX12_faces_191 : decode cX12_faces 191 = .ok (.i2l, 1) := by decide +kernel
theorem dX12_faces_192 : decode cX12_faces 192 = .ok (.invokevirtual 260, 3) := by decide +kernel
theorem dX12_faces_195 : decode cX12_faces 195 = .ok (.aload_n 0, 1) := by decide +kernel
theorem dX12_faces_196 : decode cX12_faces 196 = .ok (.iload_n 3, 1) := by decide +kernel
theorem dX12_faces_197 : decode cX12_faces 197 = .ok (.i2l, 1) := by decide +kernel
theorem dX12_faces_198 : decode cX12_faces 198 = .ok (.invokevirtual 260, 3) := by decide +kernel
theorem dX12_faces_201 : decode cX12_faces 201 = .ok (.iload_n 1, 1) := by decide +kernel
theorem dX12_faces_202 : decode cX12_faces 202 = .ok (.ireturn, 1) := by decide +kernel
def b_X12_faces_29 (N : Nat) (x14 : Int32) (J170_21 : uS → Int32 → Int32 → Int32 → Option (Int32 × uS)) (rec29_28 : uS → Int32 → Int32 → Int32 → Int32 → Option (Int32 × uS)) (s23 : uS) (x24 : Int32) (x25 : Int32) (x26 : Int32) (x27 : Int32) : Option (Int32 × uS) :=
  if (s23.1 0 2) ≤ x27 then (J170_21 s23 x24 x25 x26) else ((f_X12_sees N s23 1 x14).bind fun v29 =>
  (f_X12_has N s23 v29 x27).bind fun v30 =>
  u_jn (fun (s31 : uS) (x32 : Int32) (x33 : Int32) (x34 : Int32) => (u_jn (x27 + 1 : Int32) fun x36 =>
  rec29_28 s31 x32 x33 x34 x36 : Option (Int32 × uS))) fun J164_35 =>
  u_jn (((f_X12_lay N s23 1 11 0).bind fun s38 =>
  (u_rI ZM s38 0 11 (8 + x14)).bind fun v39 =>
  (u_wI ZM s38 0 11 (8 + x14) (v39 ||| (1 <<< (x27 &&& 31)))).bind fun s40 =>
  (u_rI ZM s40 0 11 (8 + x27)).bind fun v41 =>
  (u_wI ZM s40 0 11 (8 + x27) (v41 ||| (1 <<< (x14 &&& 31)))).bind fun s42 =>
  (f_X12_goCrossings N s42 11 2).bind fun v43 =>
  (f_X12_inBits N v43.2 11).bind fun v44 =>
  (f_J6_bitCount_0f7a4 N v43.2 v44).bind fun v45 =>
  if x24 < v45 then (J164_35 v43.2 v45 x14 x27) else (J164_35 v43.2 x24 x25 x26) : Option (Int32 × uS))) fun J77_37 =>
  if v30 = 0 then (J77_37) else ((f_X12_sees N s23 1 x27).bind fun v46 =>
  (f_X12_has N s23 v46 x14).bind fun v47 =>
  if v47 = 0 then (J77_37) else (J164_35 s23 x24 x25 x26)))
def b_X12_faces_14 (N : Nat) (J176_6 : uS → Int32 → Int32 → Int32 → Option (Int32 × uS)) (rec14_15 : uS → Int32 → Int32 → Int32 → Int32 → Option (Int32 × uS)) (s10 : uS) (x11 : Int32) (x12 : Int32) (x13 : Int32) (x14 : Int32) : Option (Int32 × uS) :=
  if (s10.1 0 2) ≤ x14 then (J176_6 s10 x11 x12 x13) else (u_jn ((x14 + 1) : Int32) fun x16 =>
  u_jn (fun (s17 : uS) (x18 : Int32) (x19 : Int32) (x20 : Int32) => (u_jn (x14 + 1 : Int32) fun x22 =>
  rec14_15 s17 x18 x19 x20 x22 : Option (Int32 × uS))) fun J170_21 =>
  u_lp5 (b_X12_faces_29 N x14 J170_21) N s10 x11 x12 x13 x16)
def f_X12_faces (N : Nat) (σ : uS) : Option (Int32 × uS) := u_jn (u_pI σ 0 8 0) fun s1 =>
  u_jn (fun (s2 : uS) (x3 : Int32) (x4 : Int32) (x5 : Int32) => (if x3 = (-1) then (some ((-2), s2)) else (u_jn (u_pI s2 0 7 0) fun s7 =>
  (f_X12_tell N s7 (Int32.toInt64 x4)).bind fun s8 =>
  (f_X12_tell N s8 (Int32.toInt64 x5)).bind fun s9 =>
  some (x3, s9)) : Option (Int32 × uS))) fun J176_6 =>
  u_lp5 (b_X12_faces_14 N J176_6) N s1 (-1) (-1) (-1) 0
set_option maxRecDepth 100000 in
set_option maxHeartbeats 4000000 in
theorem c_X12_faces (l : Launch) (G : uG) (N : Nat) (σ : uS) (z : (Int32 × uS)) (hz : f_X12_faces N σ = some z) : u_Mi l ZM G yX12_faces cX12_faces 7 .int 108 [.ref (G.2.2 0)] σ z.1 z.2 := by
  refine u_Mi_of RX12 (by decide) rfl (Nat.le_of_ble_eq_true rfl) ?_
  intro p e s m args below meth c ls cx hw hl
  have hx := cx.1
  have hb := cx.2.1
  have hl : lv_has ls 7 [(0, .ref (G.2.2 0))] := hl
  unfold f_X12_faces at hz
  refine lv_aload_n hx hb dX12_faces_0 rfl (lv_at hl 0 rfl) ?_
  refine lv_iconst (v := 0) hx hb dX12_faces_1 (by decide) ?_
  obtain ⟨s1, es1, hz⟩ := u_let hz
  refine u_puti2 cx hw P_X12_77 o_X12 rfl es1 dX12_faces_2 (fun H locs hw => ?_)
  refine lv_iconst (v := (-1)) hx hb dX12_faces_5 (by decide) ?_
  refine lv_istore_n (lv' := [(1, .int (-1)), (0, .ref (G.2.2 0))]) hx hb dX12_faces_6 rfl hl (by decide) rfl (fun ls hl => ?_)
  refine lv_iconst (v := (-1)) hx hb dX12_faces_7 (by decide) ?_
  refine lv_istore_n (lv' := [(2, .int (-1)), (1, .int (-1)), (0, .ref (G.2.2 0))]) hx hb dX12_faces_8 rfl hl (by decide) rfl (fun ls hl => ?_)
  refine lv_iconst (v := (-1)) hx hb dX12_faces_9 (by decide) ?_
  refine lv_istore_n (lv' := [(3, .int (-1)), (2, .int (-1)), (1, .int (-1)), (0, .ref (G.2.2 0))]) hx hb dX12_faces_10 rfl hl (by decide) rfl (fun ls hl => ?_)
  refine lv_iconst (v := 0) hx hb dX12_faces_11 (by decide) ?_
  refine lv_istore (lv' := [(4, .int 0), (3, .int (-1)), (2, .int (-1)), (1, .int (-1)), (0, .ref (G.2.2 0))]) hx hb dX12_faces_12 hl (by decide) rfl (fun ls hl => ?_)
  obtain ⟨J176_6, eJ176_6, hz⟩ := u_let hz
  have WJ176_6 : ∀ (s2 : uS) (x3 : Int32) (x4 : Int32) (x5 : Int32) (H : Heap) (locs : List Loc) (ls : Array Slot), J176_6 s2 x3 x4 x5 = some z → u_W ZM G s2 s H locs → lv_has ls 7 [(0, .ref (G.2.2 0)), (1, .int x3), (2, .int x4), (3, .int x5)] → W p l e (u_rm 108) s m args below meth c H locs 0 0 (u_Qi below ZM G s args z.1 z.2) (F0 m 176 ls []) := by
    intro s2 x3 x4 x5 H locs ls hz hw hl
    rw [eJ176_6] at hz
    refine lv_iload_n hx hb dX12_faces_176 rfl (lv_at hl 1 rfl) ?_
    refine lv_iconst (v := (-1)) hx hb dX12_faces_177 (by decide) ?_
    refine lv_icmp_ne (tgt := 184) hx hb dX12_faces_178 (by decide) (fun hc => ?_) (fun hc => ?_)
    · replace hz := u_iff hz hc
      refine lv_aload_n hx hb dX12_faces_184 rfl (lv_at hl 0 rfl) ?_
      refine lv_iconst (v := 0) hx hb dX12_faces_185 (by decide) ?_
      obtain ⟨s7, es7, hz⟩ := u_let hz
      refine u_puti2 cx hw P_X12_80 o_X12 rfl es7 dX12_faces_186 (fun H locs hw => ?_)
      refine lv_aload_n hx hb dX12_faces_189 rfl (lv_at hl 0 rfl) ?_
      refine lv_iload_n hx hb dX12_faces_190 rfl (lv_at hl 2 rfl) ?_
      refine lv_i2l (v := (Int32.toInt64 x4)) hx hb dX12_faces_191 rfl ?_
      obtain ⟨s8, hs8, hz⟩ := u_bind hz
      refine u_callVv (As := [.long (Int32.toInt64 x4)]) (rest := []) cx hw LV_X12_260 (c_X12_tell l G N s7 (Int32.toInt64 x4) s8 hs8) o_X12 rfl (by decide) hl.1 rfl (Nat.le_of_ble_eq_true rfl) dX12_faces_192 rfl (fun H locs hw => ?_)
      refine lv_aload_n hx hb dX12_faces_195 rfl (lv_at hl 0 rfl) ?_
      refine lv_iload_n hx hb dX12_faces_196 rfl (lv_at hl 3 rfl) ?_
      refine lv_i2l (v := (Int32.toInt64 x5)) hx hb dX12_faces_197 rfl ?_
      obtain ⟨s9, hs9, hz⟩ := u_bind hz
      refine u_callVv (As := [.long (Int32.toInt64 x5)]) (rest := []) cx hw LV_X12_260 (c_X12_tell l G N s8 (Int32.toInt64 x5) s9 hs9) o_X12 rfl (by decide) hl.1 rfl (Nat.le_of_ble_eq_true rfl) dX12_faces_198 rfl (fun H locs hw => ?_)
      refine lv_iload_n hx hb dX12_faces_201 rfl (lv_at hl 1 rfl) ?_
      exact u_iret cx hw (u_pair hz) dX12_faces_202
    · replace hz := u_ift hz hc
      refine lv_bipush (v := (-2)) hx hb dX12_faces_181 (by decide) ?_
      exact u_iret cx hw (u_pair hz) dX12_faces_183
  have WL14_47 : ∀ (k : Nat) (s10 : uS) (x11 : Int32) (x12 : Int32) (x13 : Int32) (x14 : Int32) (H : Heap) (locs : List Loc) (ls : Array Slot), u_lp5 (b_X12_faces_14 N J176_6) k s10 x11 x12 x13 x14 = some z → u_W ZM G s10 s H locs → lv_has ls 7 [(0, .ref (G.2.2 0)), (1, .int x11), (2, .int x12), (3, .int x13), (4, .int x14)] → W p l e (u_rm 108) s m args below meth c H locs 0 0 (u_Qi below ZM G s args z.1 z.2) (F0 m 14 ls []) := by
    intro k
    induction k with
    | zero =>
      intro s10 x11 x12 x13 x14 H locs ls hz
      exact absurd hz (by intro h9; cases h9)
    | succ k ih14_15 =>
      intro s10 x11 x12 x13 x14 H locs ls hz hw hl
      have hz : (b_X12_faces_14 N J176_6) (u_lp5 (b_X12_faces_14 N J176_6) k) s10 x11 x12 x13 x14 = some z := hz
      unfold b_X12_faces_14 at hz
      refine lv_iload hx hb dX12_faces_14 (lv_at hl 4 rfl) ?_
      refine lv_aload_n hx hb dX12_faces_16 rfl (lv_at hl 0 rfl) ?_
      refine u_geti cx hw F_X12_83 o_X12 rfl dX12_faces_17 ?_
      refine lv_icmp_ge (tgt := 176) hx hb dX12_faces_20 (by decide) (fun hc => ?_) (fun hc => ?_)
      · replace hz := u_ift hz hc
        exact WJ176_6 s10 x11 x12 x13 _ _ _ hz hw (lv_sub hl [0, 1, 2, 3] rfl)
      · replace hz := u_iff hz hc
        refine lv_iload hx hb dX12_faces_23 (lv_at hl 4 rfl) ?_
        refine lv_iconst (v := 1) hx hb dX12_faces_25 (by decide) ?_
        refine lv_iadd hx hb dX12_faces_26 ?_
        obtain ⟨x16, ex16, hz⟩ := u_let hz
        refine u_topi ex16 ?_
        refine lv_istore (lv' := [(5, .int x16), (0, .ref (G.2.2 0)), (1, .int x11), (2, .int x12), (3, .int x13), (4, .int x14)]) hx hb dX12_faces_27 hl (by decide) rfl (fun ls hl => ?_)
        obtain ⟨J170_21, eJ170_21, hz⟩ := u_let hz
        have WJ170_21 : ∀ (s17 : uS) (x18 : Int32) (x19 : Int32) (x20 : Int32) (H : Heap) (locs : List Loc) (ls : Array Slot), J170_21 s17 x18 x19 x20 = some z → u_W ZM G s17 s H locs → lv_has ls 7 [(0, .ref (G.2.2 0)), (1, .int x18), (2, .int x19), (3, .int x20), (4, .int x14)] → W p l e (u_rm 108) s m args below meth c H locs 0 0 (u_Qi below ZM G s args z.1 z.2) (F0 m 170 ls []) := by
          intro s17 x18 x19 x20 H locs ls hz hw hl
          rw [eJ170_21] at hz
          obtain ⟨x22, ex22, hz⟩ := u_let hz
          refine lv_iinc (v := x22) (lv' := [(4, .int x22), (0, .ref (G.2.2 0)), (1, .int x18), (2, .int x19), (3, .int x20)]) hx hb dX12_faces_170 hl (k := 4) rfl (by rw [ex22]; rfl) (by decide) rfl (fun ls hl => ?_)
          refine lv_goto (tgt := 14) hx hb dX12_faces_173 (by decide) ?_
          exact ih14_15 s17 x18 x19 x20 x22 _ _ _ hz hw (lv_sub hl [1, 2, 3, 4, 0] rfl)
        have WL29_47 : ∀ (k : Nat) (s23 : uS) (x24 : Int32) (x25 : Int32) (x26 : Int32) (x27 : Int32) (H : Heap) (locs : List Loc) (ls : Array Slot), u_lp5 (b_X12_faces_29 N x14 J170_21) k s23 x24 x25 x26 x27 = some z → u_W ZM G s23 s H locs → lv_has ls 7 [(0, .ref (G.2.2 0)), (1, .int x24), (2, .int x25), (3, .int x26), (4, .int x14), (5, .int x27)] → W p l e (u_rm 108) s m args below meth c H locs 0 0 (u_Qi below ZM G s args z.1 z.2) (F0 m 29 ls []) := by
          intro k
          induction k with
          | zero =>
            intro s23 x24 x25 x26 x27 H locs ls hz
            exact absurd hz (by intro h9; cases h9)
          | succ k ih29_28 =>
            intro s23 x24 x25 x26 x27 H locs ls hz hw hl
            have hz : (b_X12_faces_29 N x14 J170_21) (u_lp5 (b_X12_faces_29 N x14 J170_21) k) s23 x24 x25 x26 x27 = some z := hz
            unfold b_X12_faces_29 at hz
            refine lv_iload hx hb dX12_faces_29 (lv_at hl 5 rfl) ?_
            refine lv_aload_n hx hb dX12_faces_31 rfl (lv_at hl 0 rfl) ?_
            refine u_geti cx hw F_X12_83 o_X12 rfl dX12_faces_32 ?_
            refine lv_icmp_ge (tgt := 170) hx hb dX12_faces_35 (by decide) (fun hc => ?_) (fun hc => ?_)
            · replace hz := u_ift hz hc
              exact WJ170_21 s23 x24 x25 x26 _ _ _ hz hw (lv_sub hl [0, 1, 2, 3, 4] rfl)
            · replace hz := u_iff hz hc
              refine lv_aload_n hx hb dX12_faces_38 rfl (lv_at hl 0 rfl) ?_
              refine lv_aload_n hx hb dX12_faces_39 rfl (lv_at hl 0 rfl) ?_
              refine u_getp cx hw F_X12_9 o_X12 rfl dX12_faces_40 ?_
              refine lv_iload hx hb dX12_faces_43 (lv_at hl 4 rfl) ?_
              obtain ⟨v29, hv29, hz⟩ := u_bind hz
              refine u_callVi (As := [.ref (G.2.2 1), .int x14]) (rest := []) cx hw LV_X12_202 (c_X12_sees l G N s23 1 x14 v29 hv29) o_X12 rfl (by decide) hl.1 rfl (Nat.le_of_ble_eq_true rfl) dX12_faces_45 rfl (fun H locs hw => ?_)
              refine lv_iload hx hb dX12_faces_48 (lv_at hl 5 rfl) ?_
              obtain ⟨v30, hv30, hz⟩ := u_bind hz
              refine u_callSi (As := [.int v29, .int x27]) (rest := []) cx hw LS_X12_198 (c_X12_has l G N s23 v29 x27 v30 hv30) (by decide) hl.1 rfl (Nat.le_of_ble_eq_true rfl) dX12_faces_50 rfl (fun H locs hw => ?_)
              obtain ⟨J164_35, eJ164_35, hz⟩ := u_let hz
              have WJ164_35 : ∀ (s31 : uS) (x32 : Int32) (x33 : Int32) (x34 : Int32) (H : Heap) (locs : List Loc) (ls : Array Slot), J164_35 s31 x32 x33 x34 = some z → u_W ZM G s31 s H locs → lv_has ls 7 [(0, .ref (G.2.2 0)), (1, .int x32), (2, .int x33), (3, .int x34), (4, .int x14), (5, .int x27)] → W p l e (u_rm 108) s m args below meth c H locs 0 0 (u_Qi below ZM G s args z.1 z.2) (F0 m 164 ls []) := by
                intro s31 x32 x33 x34 H locs ls hz hw hl
                rw [eJ164_35] at hz
                obtain ⟨x36, ex36, hz⟩ := u_let hz
                refine lv_iinc (v := x36) (lv' := [(5, .int x36), (0, .ref (G.2.2 0)), (1, .int x32), (2, .int x33), (3, .int x34), (4, .int x14)]) hx hb dX12_faces_164 hl (k := 5) rfl (by rw [ex36]; rfl) (by decide) rfl (fun ls hl => ?_)
                refine lv_goto (tgt := 29) hx hb dX12_faces_167 (by decide) ?_
                exact ih29_28 s31 x32 x33 x34 x36 _ _ _ hz hw (lv_sub hl [1, 2, 3, 4, 5, 0] rfl)
              obtain ⟨J77_37, eJ77_37, hz⟩ := u_let hz
              have WJ77_37 : ∀ (H : Heap) (locs : List Loc) (ls : Array Slot), J77_37 = some z → u_W ZM G s23 s H locs → lv_has ls 7 [(0, .ref (G.2.2 0)), (1, .int x24), (2, .int x25), (3, .int x26), (4, .int x14), (5, .int x27)] → W p l e (u_rm 108) s m args below meth c H locs 0 0 (u_Qi below ZM G s args z.1 z.2) (F0 m 77 ls []) := by
                intro H locs ls hz hw hl
                rw [eJ77_37] at hz
                refine lv_aload_n hx hb dX12_faces_77 rfl (lv_at hl 0 rfl) ?_
                refine u_getp cx hw F_X12_9 o_X12 rfl dX12_faces_78 ?_
                refine lv_aload_n hx hb dX12_faces_81 rfl (lv_at hl 0 rfl) ?_
                refine u_getp cx hw F_X12_46 o_X12 rfl dX12_faces_82 ?_
                refine lv_iconst (v := 0) hx hb dX12_faces_85 (by decide) ?_
                obtain ⟨s38, hs38, hz⟩ := u_bind hz
                refine u_callSv (As := [.ref (G.2.2 1), .ref (G.2.2 11), .int 0]) (rest := []) cx hw LS_X12_242 (c_X12_lay l G N s23 1 11 0 s38 hs38) (by decide) hl.1 rfl (Nat.le_of_ble_eq_true rfl) dX12_faces_86 rfl (fun H locs hw => ?_)
                refine lv_aload_n hx hb dX12_faces_89 rfl (lv_at hl 0 rfl) ?_
                refine u_getp cx hw F_X12_46 o_X12 rfl dX12_faces_90 ?_
                refine lv_bipush (v := 8) hx hb dX12_faces_93 (by decide) ?_
                refine lv_iload hx hb dX12_faces_95 (lv_at hl 4 rfl) ?_
                refine lv_iadd hx hb dX12_faces_97 ?_
                refine lv_dup2_11 hx hb dX12_faces_98 rfl rfl ?_
                obtain ⟨v39, hv39, hz⟩ := u_bind hz
                refine u_iald cx hw hv39 dX12_faces_99 ?_
                refine lv_iconst (v := 1) hx hb dX12_faces_100 (by decide) ?_
                refine lv_iload hx hb dX12_faces_101 (lv_at hl 5 rfl) ?_
                refine lv_ishl hx hb dX12_faces_103 ?_
                refine lv_ior hx hb dX12_faces_104 ?_
                obtain ⟨s40, hs40, hz⟩ := u_bind hz
                refine u_iast cx hw hs40 dX12_faces_105 (fun H locs hw => ?_)
                refine lv_aload_n hx hb dX12_faces_106 rfl (lv_at hl 0 rfl) ?_
                refine u_getp cx hw F_X12_46 o_X12 rfl dX12_faces_107 ?_
                refine lv_bipush (v := 8) hx hb dX12_faces_110 (by decide) ?_
                refine lv_iload hx hb dX12_faces_112 (lv_at hl 5 rfl) ?_
                refine lv_iadd hx hb dX12_faces_114 ?_
                refine lv_dup2_11 hx hb dX12_faces_115 rfl rfl ?_
                obtain ⟨v41, hv41, hz⟩ := u_bind hz
                refine u_iald cx hw hv41 dX12_faces_116 ?_
                refine lv_iconst (v := 1) hx hb dX12_faces_117 (by decide) ?_
                refine lv_iload hx hb dX12_faces_118 (lv_at hl 4 rfl) ?_
                refine lv_ishl hx hb dX12_faces_120 ?_
                refine lv_ior hx hb dX12_faces_121 ?_
                obtain ⟨s42, hs42, hz⟩ := u_bind hz
                refine u_iast cx hw hs42 dX12_faces_122 (fun H locs hw => ?_)
                refine lv_aload_n hx hb dX12_faces_123 rfl (lv_at hl 0 rfl) ?_
                refine lv_aload_n hx hb dX12_faces_124 rfl (lv_at hl 0 rfl) ?_
                refine u_getp cx hw F_X12_46 o_X12 rfl dX12_faces_125 ?_
                refine lv_iconst (v := 2) hx hb dX12_faces_128 (by decide) ?_
                obtain ⟨v43, hv43, hz⟩ := u_bind hz
                refine u_callVi (As := [.ref (G.2.2 11), .int 2]) (rest := []) cx hw LV_X12_257 (c_X12_goCrossings l G N s42 11 2 v43 hv43) o_X12 rfl (by decide) hl.1 rfl (Nat.le_of_ble_eq_true rfl) dX12_faces_129 rfl (fun H locs hw => ?_)
                refine lv_pop hx hb dX12_faces_132 rfl ?_
                refine lv_aload_n hx hb dX12_faces_133 rfl (lv_at hl 0 rfl) ?_
                refine lv_aload_n hx hb dX12_faces_134 rfl (lv_at hl 0 rfl) ?_
                refine u_getp cx hw F_X12_46 o_X12 rfl dX12_faces_135 ?_
                obtain ⟨v44, hv44, hz⟩ := u_bind hz
                refine u_callVi (As := [.ref (G.2.2 11)]) (rest := []) cx hw LV_X12_214 (c_X12_inBits l G N v43.2 11 v44 hv44) o_X12 rfl (by decide) hl.1 rfl (Nat.le_of_ble_eq_true rfl) dX12_faces_138 rfl (fun H locs hw => ?_)
                obtain ⟨v45, hv45, hz⟩ := u_bind hz
                refine u_callSi (As := [.int v44]) (rest := []) cx hw LS_X12_206 (c_J6_bitCount_0f7a4 l G ZM N v43.2 v44 v45 hv45) (by decide) hl.1 rfl (Nat.le_of_ble_eq_true rfl) dX12_faces_141 rfl (fun H locs hw => ?_)
                refine lv_istore (lv' := [(6, .int v45), (0, .ref (G.2.2 0)), (1, .int x24), (2, .int x25), (3, .int x26), (4, .int x14), (5, .int x27)]) hx hb dX12_faces_144 hl (by decide) rfl (fun ls hl => ?_)
                refine lv_iload hx hb dX12_faces_146 (lv_at hl 0 rfl) ?_
                refine lv_iload_n hx hb dX12_faces_148 rfl (lv_at hl 2 rfl) ?_
                refine lv_icmp_gt (tgt := 155) hx hb dX12_faces_149 (by decide) (fun hc => ?_) (fun hc => ?_)
                · replace hz := u_ift hz hc
                  refine lv_iload hx hb dX12_faces_155 (lv_at hl 0 rfl) ?_
                  refine lv_istore_n (lv' := [(1, .int v45), (6, .int v45), (0, .ref (G.2.2 0)), (2, .int x25), (3, .int x26), (4, .int x14), (5, .int x27)]) hx hb dX12_faces_157 rfl hl (by decide) rfl (fun ls hl => ?_)
                  refine lv_iload hx hb dX12_faces_158 (lv_at hl 5 rfl) ?_
                  refine lv_istore_n (lv' := [(2, .int x14), (1, .int v45), (6, .int v45), (0, .ref (G.2.2 0)), (3, .int x26), (4, .int x14), (5, .int x27)]) hx hb dX12_faces_160 rfl hl (by decide) rfl (fun ls hl => ?_)
                  refine lv_iload hx hb dX12_faces_161 (lv_at hl 6 rfl) ?_
                  refine lv_istore_n (lv' := [(3, .int x27), (2, .int x14), (1, .int v45), (6, .int v45), (0, .ref (G.2.2 0)), (4, .int x14), (5, .int x27)]) hx hb dX12_faces_163 rfl hl (by decide) rfl (fun ls hl => ?_)
                  exact WJ164_35 v43.2 v45 x14 x27 _ _ _ hz hw (lv_sub hl [4, 2, 1, 0, 5, 6] rfl)
                · replace hz := u_iff hz hc
                  refine lv_goto (tgt := 164) hx hb dX12_faces_152 (by decide) ?_
                  exact WJ164_35 v43.2 x24 x25 x26 _ _ _ hz hw (lv_sub hl [1, 2, 3, 4, 5, 6] rfl)
              refine lv_if_eq (tgt := 77) hx hb dX12_faces_53 (by decide) (fun hc => ?_) (fun hc => ?_)
              · replace hz := u_ift hz hc
                exact WJ77_37 _ _ _ hz hw (lv_sub hl [0, 1, 2, 3, 4, 5] rfl)
              · replace hz := u_iff hz hc
                refine lv_aload_n hx hb dX12_faces_56 rfl (lv_at hl 0 rfl) ?_
                refine lv_aload_n hx hb dX12_faces_57 rfl (lv_at hl 0 rfl) ?_
                refine u_getp cx hw F_X12_9 o_X12 rfl dX12_faces_58 ?_
                refine lv_iload hx hb dX12_faces_61 (lv_at hl 5 rfl) ?_
                obtain ⟨v46, hv46, hz⟩ := u_bind hz
                refine u_callVi (As := [.ref (G.2.2 1), .int x27]) (rest := []) cx hw LV_X12_202 (c_X12_sees l G N s23 1 x27 v46 hv46) o_X12 rfl (by decide) hl.1 rfl (Nat.le_of_ble_eq_true rfl) dX12_faces_63 rfl (fun H locs hw => ?_)
                refine lv_iload hx hb dX12_faces_66 (lv_at hl 4 rfl) ?_
                obtain ⟨v47, hv47, hz⟩ := u_bind hz
                refine u_callSi (As := [.int v46, .int x14]) (rest := []) cx hw LS_X12_198 (c_X12_has l G N s23 v46 x14 v47 hv47) (by decide) hl.1 rfl (Nat.le_of_ble_eq_true rfl) dX12_faces_68 rfl (fun H locs hw => ?_)
                refine lv_if_eq (tgt := 77) hx hb dX12_faces_71 (by decide) (fun hc => ?_) (fun hc => ?_)
                · replace hz := u_ift hz hc
                  exact WJ77_37 _ _ _ hz hw (lv_sub hl [0, 1, 2, 3, 4, 5] rfl)
                · replace hz := u_iff hz hc
                  refine lv_goto (tgt := 164) hx hb dX12_faces_74 (by decide) ?_
                  exact WJ164_35 s23 x24 x25 x26 _ _ _ hz hw (lv_sub hl [0, 1, 2, 3, 4, 5] rfl)
        exact WL29_47 N s10 x11 x12 x13 x16 _ _ _ hz hw (lv_sub hl [1, 2, 3, 4, 5, 0] rfl)
  exact WL14_47 N s1 (-1) (-1) (-1) 0 _ _ _ hz hw (lv_sub hl [4, 3, 2, 1, 0] rfl)
theorem dX12_yard_0 : decode cX12_yard 0 = .ok (.aload_n 0, 1) := by decide +kernel
theorem dX12_yard_1 : decode cX12_yard 1 = .ok (.iconst 0, 1) := by decide +kernel
theorem dX12_yard_2 : decode cX12_yard 2 = .ok (.putfield 77, 3) := by decide +kernel
theorem dX12_yard_5 : decode cX12_yard 5 = .ok (.iload_n 1, 1) := by decide +kernel
theorem dX12_yard_6 : decode cX12_yard 6 = .ok (.iconst 0, 1) := by decide +kernel
theorem dX12_yard_7 : decode cX12_yard 7 = .ok (.bipush 60, 2) := by decide +kernel
theorem dX12_yard_9 : decode cX12_yard 9 = .ok (.invokestatic 86, 3) := by decide +kernel
theorem dX12_yard_12 : decode cX12_yard 12 = .ok (.ifCond .ne 5, 3) := by decide +kernel
theorem dX12_yard_15 : decode cX12_yard 15 = .ok (.iconst (-1), 1) := by decide +kernel
theorem dX12_yard_16 : decode cX12_yard 16 = .ok (.ireturn, 1) := by decide +kernel
theorem dX12_yard_17 : decode cX12_yard 17 = .ok (.aload_n 0, 1) := by decide +kernel
theorem dX12_yard_18 : decode cX12_yard 18 = .ok (.getfield 9, 3) := by decide +kernel
theorem dX12_yard_21 : decode cX12_yard 21 = .ok (.bipush 32, 2) := by decide +kernel
theorem dX12_yard_23 : decode cX12_yard 23 = .ok (.iaload, 1) := by decide +kernel
theorem dX12_yard_24 : decode cX12_yard 24 = .ok (.aload_n 0, 1) := by decide +kernel
theorem dX12_yard_25 : decode cX12_yard 25 = .ok (.getfield 9, 3) := by decide +kernel
theorem dX12_yard_28 : decode cX12_yard 28 = .ok (.bipush 33, 2) := by decide +kernel
theorem dX12_yard_30 : decode cX12_yard 30 = .ok (.iaload, 1) := by decide +kernel
theorem dX12_yard_31 : decode cX12_yard 31 = .ok (.if_icmp .ne 6, 3) := by decide +kernel
theorem dX12_yard_34 : decode cX12_yard 34 = .ok (.bipush (-2), 2) := by decide +kernel
theorem dX12_yard_36 : decode cX12_yard 36 = .ok (.ireturn, 1) := by decide +kernel
theorem dX12_yard_37 : decode cX12_yard 37 = .ok (.aload_n 0, 1) := by decide +kernel
theorem dX12_yard_38 : decode cX12_yard 38 = .ok (.getfield 9, 3) := by decide +kernel
theorem dX12_yard_41 : decode cX12_yard 41 = .ok (.aload_n 0, 1) := by decide +kernel
theorem dX12_yard_42 : decode cX12_yard 42 = .ok (.getfield 46, 3) := by decide +kernel
theorem dX12_yard_45 : decode cX12_yard 45 = .ok (.iconst 0, 1) := by decide +kernel
theorem dX12_yard_46 : decode cX12_yard 46 = .ok (.invokestatic 242, 3) := by decide +kernel
theorem dX12_yard_49 : decode cX12_yard 49 = .ok (.aload_n 0, 1) := by decide +kernel
theorem dX12_yard_50 : decode cX12_yard 50 = .ok (.aload_n 0, 1) := by decide +kernel
theorem dX12_yard_51 : decode cX12_yard 51 = .ok (.getfield 46, 3) := by decide +kernel
theorem dX12_yard_54 : decode cX12_yard 54 = .ok (.iload_n 1, 1) := by decide +kernel
theorem dX12_yard_55 : decode cX12_yard 55 = .ok (.invokevirtual 257, 3) := by decide +kernel
theorem dX12_yard_58 : decode cX12_yard 58 = .ok (.pop, 1) := by decide +kernel
theorem dX12_yard_59 : decode cX12_yard 59 = .ok (.aload_n 0, 1) := by decide +kernel
theorem dX12_yard_60 : decode cX12_yard 60 = .ok (.getfield 9, 3) := by decide +kernel
theorem dX12_yard_63 : decode cX12_yard 63 = .ok (.aload_n 0, 1) := by decide +kernel
theorem dX12_yard_64 : decode cX12_yard 64 = .ok (.getfield 49, 3) := by decide +kernel
theorem dX12_yard_67 : decode cX12_yard 67 = .ok (.iconst 0, 1) := by decide +kernel
theorem dX12_yard_68 : decode cX12_yard 68 = .ok (.invokestatic 242, 3) := by decide +kernel
theorem dX12_yard_71 : decode cX12_yard 71 = .ok (.aload_n 0, 1) := by decide +kernel
theorem dX12_yard_72 : decode cX12_yard 72 = .ok (.getfield 49, 3) := by decide +kernel
theorem dX12_yard_75 : decode cX12_yard 75 = .ok (.bipush 33, 2) := by decide +kernel
theorem dX12_yard_77 : decode cX12_yard 77 = .ok (.dup2, 1) := by decide +kernel
theorem dX12_yard_78 : decode cX12_yard 78 = .ok (.iaload, 1) := by decide +kernel
theorem dX12_yard_79 : decode cX12_yard 79 = .ok (.iconst 1, 1) := by decide +kernel
theorem dX12_yard_80 : decode cX12_yard 80 = .ok (.isub, 1) := by decide +kernel
theorem dX12_yard_81 : decode cX12_yard 81 = .ok (.iastore, 1) := by decide +kernel
theorem dX12_yard_82 : decode cX12_yard 82 = .ok (.aload_n 0, 1) := by decide +kernel
theorem dX12_yard_83 : decode cX12_yard 83 = .ok (.aload_n 0, 1) := by decide +kernel
theorem dX12_yard_84 : decode cX12_yard 84 = .ok (.getfield 49, 3) := by decide +kernel
theorem dX12_yard_87 : decode cX12_yard 87 = .ok (.iload_n 1, 1) := by decide +kernel
theorem dX12_yard_88 : decode cX12_yard 88 = .ok (.invokevirtual 257, 3) := by decide +kernel
theorem dX12_yard_91 : decode cX12_yard 91 = .ok (.pop, 1) := by decide +kernel
theorem dX12_yard_92 : decode cX12_yard 92 = .ok (.aload_n 0, 1) := by decide +kernel
theorem dX12_yard_93 : decode cX12_yard 93 = .ok (.iconst 0, 1) := by decide +kernel
theorem dX12_yard_94 : decode cX12_yard 94 = .ok (.putfield 80, 3) := by decide +kernel
theorem dX12_yard_97 : decode cX12_yard 97 = .ok (.aload_n 0, 1) := by decide +kernel
theorem dX12_yard_98 : decode cX12_yard 98 = .ok (.aload_n 0, 1) := by decide +kernel
theorem dX12_yard_99 : decode cX12_yard 99 = .ok (.getfield 49, 3) := by decide +kernel
theorem dX12_yard_102 : decode cX12_yard 102 = .ok (.bipush 36, 2) := by decide +kernel
theorem dX12_yard_104 : decode cX12_yard 104 = .ok (.iaload, 1) := by decide +kernel
theorem dX12_yard_105 : decode cX12_yard 105 = .ok (.aload_n 0, 1) := by decide +kernel
theorem dX12_yard_106 : decode cX12_yard 106 = .ok (.getfield 9, 3) := by decide +kernel
theorem dX12_yard_109 : decode cX12_yard 109 = .ok (.bipush 36, 2) := by decide +kernel
theorem dX12_yard_111 : decode cX12_yard 111 = .ok (.iaload, 1) := by decide +kernel
theorem dX12_yard_112 : decode cX12_yard 112 = .ok (.isub, 1) := by decide +kernel
theorem dX12_yard_113 : decode cX12_yard 113 = .ok (.i2l, 1) := by decide +kernel
theorem dX12_yard_114 : decode cX12_yard 114 = .ok (.invokevirtual 260, 3) := by decide +kernel
theorem dX12_yard_117 : decode cX12_yard 117 = .ok (.aload_n 0, 1) := by decide +kernel
theorem dX12_yard_118 : decode cX12_yard 118 = .ok (.aload_n 0, 1) := by decide +kernel
theorem dX12_yard_119 : decode cX12_yard 119 = .ok (.getfield 46, 3) := by decide +kernel
theorem dX12_yard_122 : decode cX12_yard 122 = .ok (.bipush 36, 2) := by decide +kernel
theorem dX12_yard_124 : decode cX12_yard 124 = .ok (.iaload, 1) := by decide +kernel
theorem dX12_yard_125 : decode cX12_yard 125 = .ok (.aload_n 0, 1) := by decide +kernel
theorem dX12_yard_126 : decode cX12_yard 126 = .ok (.getfield 9, 3) := by decide +kernel
theorem dX12_yard_129 : decode cX12_yard 129 = .ok (.bipush 36, 2) := by decide +kernel
theorem dX12_yard_131 : decode cX12_yard 131 = .ok (.iaload, 1) := by decide +kernel
theorem dX12_yard_132 : decode cX12_yard 132 = .ok (.isub, 1) := by decide +kernel
theorem dX12_yard_133 : decode cX12_yard 133 = .ok (.i2l, 1) := by decide +kernel
theorem dX12_yard_134 : decode cX12_yard 134 = .ok (.invokevirtual 260, 3) := by decide +kernel
theorem dX12_yard_137 : decode cX12_yard 137 = .ok (.aload_n 0, 1) := by decide +kernel
theorem dX12_yard_138 : decode cX12_yard 138 = .ok (.getfield 46, 3) := by decide +kernel
theorem dX12_yard_141 : decode cX12_yard 141 = .ok (.bipush 36, 2) := by decide +kernel
theorem dX12_yard_143 : decode cX12_yard 143 = .ok (.iaload, 1) := by decide +kernel
theorem dX12_yard_144 : decode cX12_yard 144 = .ok (.aload_n 0, 1) := by decide +kernel
theorem dX12_yard_145 : decode cX12_yard 145 = .ok (.getfield 49, 3) := by decide +kernel
theorem dX12_yard_148 : decode cX12_yard 148 = .ok (.bipush 36, 2) := by decide +kernel
theorem dX12_yard_150 : decode cX12_yard 150 = .ok (.iaload, 1) := by decide +kernel
theorem dX12_yard_151 : decode cX12_yard 151 = .ok (.isub, 1) := by decide +kernel
theorem dX12_yard_152 : decode cX12_yard 152 = .ok (.ireturn, 1) := by decide +kernel
def f_X12_yard (N : Nat) (σ : uS) (p1 : Int32) : Option (Int32 × uS) := u_jn (u_pI σ 0 8 0) fun s1 =>
  (f_X12_in N s1 p1 0 60).bind fun v2 =>
  if v2 = 0 then (some ((-1), s1)) else ((u_rI ZM s1 0 1 32).bind fun v3 =>
  (u_rI ZM s1 0 1 33).bind fun v4 =>
  if v3 = v4 then (some ((-2), s1)) else ((f_X12_lay N s1 1 11 0).bind fun s5 =>
  (f_X12_goCrossings N s5 11 p1).bind fun v6 =>
  (f_X12_lay N v6.2 1 12 0).bind fun s7 =>
  (u_rI ZM s7 0 12 33).bind fun v8 =>
  (u_wI ZM s7 0 12 33 (v8 - 1)).bind fun s9 =>
  (f_X12_goCrossings N s9 12 p1).bind fun v10 =>
  u_jn (u_pI v10.2 0 7 0) fun s11 =>
  (u_rI ZM s11 0 12 36).bind fun v12 =>
  (u_rI ZM s11 0 1 36).bind fun v13 =>
  (f_X12_tell N s11 (Int32.toInt64 (v12 - v13))).bind fun s14 =>
  (u_rI ZM s14 0 11 36).bind fun v15 =>
  (u_rI ZM s14 0 1 36).bind fun v16 =>
  (f_X12_tell N s14 (Int32.toInt64 (v15 - v16))).bind fun s17 =>
  (u_rI ZM s17 0 11 36).bind fun v18 =>
  (u_rI ZM s17 0 12 36).bind fun v19 =>
  some ((v18 - v19), s17)))
set_option maxRecDepth 100000 in
set_option maxHeartbeats 4000000 in
theorem c_X12_yard (l : Launch) (G : uG) (N : Nat) (σ : uS) (p1 : Int32) (z : (Int32 × uS)) (hz : f_X12_yard N σ p1 = some z) : u_Mi l ZM G yX12_yard cX12_yard 2 .int 108 [.ref (G.2.2 0), .int p1] σ z.1 z.2 := by
  refine u_Mi_of RX12 (by decide) rfl (Nat.le_of_ble_eq_true rfl) ?_
  intro p e s m args below meth c ls cx hw hl
  have hx := cx.1
  have hb := cx.2.1
  have hl : lv_has ls 2 [(0, .ref (G.2.2 0)), (1, .int p1)] := hl
  unfold f_X12_yard at hz
  refine lv_aload_n hx hb dX12_yard_0 rfl (lv_at hl 0 rfl) ?_
  refine lv_iconst (v := 0) hx hb dX12_yard_1 (by decide) ?_
  obtain ⟨s1, es1, hz⟩ := u_let hz
  refine u_puti2 cx hw P_X12_77 o_X12 rfl es1 dX12_yard_2 (fun H locs hw => ?_)
  refine lv_iload_n hx hb dX12_yard_5 rfl (lv_at hl 1 rfl) ?_
  refine lv_iconst (v := 0) hx hb dX12_yard_6 (by decide) ?_
  refine lv_bipush (v := 60) hx hb dX12_yard_7 (by decide) ?_
  obtain ⟨v2, hv2, hz⟩ := u_bind hz
  refine u_callSi (As := [.int p1, .int 0, .int 60]) (rest := []) cx hw LS_X12_86 (c_X12_in l G N s1 p1 0 60 v2 hv2) (by decide) hl.1 rfl (Nat.le_of_ble_eq_true rfl) dX12_yard_9 rfl (fun H locs hw => ?_)
  refine lv_if_ne (tgt := 17) hx hb dX12_yard_12 (by decide) (fun hc => ?_) (fun hc => ?_)
  · replace hz := u_iff hz hc
    refine lv_aload_n hx hb dX12_yard_17 rfl (lv_at hl 0 rfl) ?_
    refine u_getp cx hw F_X12_9 o_X12 rfl dX12_yard_18 ?_
    refine lv_bipush (v := 32) hx hb dX12_yard_21 (by decide) ?_
    obtain ⟨v3, hv3, hz⟩ := u_bind hz
    refine u_iald cx hw hv3 dX12_yard_23 ?_
    refine lv_aload_n hx hb dX12_yard_24 rfl (lv_at hl 0 rfl) ?_
    refine u_getp cx hw F_X12_9 o_X12 rfl dX12_yard_25 ?_
    refine lv_bipush (v := 33) hx hb dX12_yard_28 (by decide) ?_
    obtain ⟨v4, hv4, hz⟩ := u_bind hz
    refine u_iald cx hw hv4 dX12_yard_30 ?_
    refine lv_icmp_ne (tgt := 37) hx hb dX12_yard_31 (by decide) (fun hc => ?_) (fun hc => ?_)
    · replace hz := u_iff hz hc
      refine lv_aload_n hx hb dX12_yard_37 rfl (lv_at hl 0 rfl) ?_
      refine u_getp cx hw F_X12_9 o_X12 rfl dX12_yard_38 ?_
      refine lv_aload_n hx hb dX12_yard_41 rfl (lv_at hl 0 rfl) ?_
      refine u_getp cx hw F_X12_46 o_X12 rfl dX12_yard_42 ?_
      refine lv_iconst (v := 0) hx hb dX12_yard_45 (by decide) ?_
      obtain ⟨s5, hs5, hz⟩ := u_bind hz
      refine u_callSv (As := [.ref (G.2.2 1), .ref (G.2.2 11), .int 0]) (rest := []) cx hw LS_X12_242 (c_X12_lay l G N s1 1 11 0 s5 hs5) (by decide) hl.1 rfl (Nat.le_of_ble_eq_true rfl) dX12_yard_46 rfl (fun H locs hw => ?_)
      refine lv_aload_n hx hb dX12_yard_49 rfl (lv_at hl 0 rfl) ?_
      refine lv_aload_n hx hb dX12_yard_50 rfl (lv_at hl 0 rfl) ?_
      refine u_getp cx hw F_X12_46 o_X12 rfl dX12_yard_51 ?_
      refine lv_iload_n hx hb dX12_yard_54 rfl (lv_at hl 1 rfl) ?_
      obtain ⟨v6, hv6, hz⟩ := u_bind hz
      refine u_callVi (As := [.ref (G.2.2 11), .int p1]) (rest := []) cx hw LV_X12_257 (c_X12_goCrossings l G N s5 11 p1 v6 hv6) o_X12 rfl (by decide) hl.1 rfl (Nat.le_of_ble_eq_true rfl) dX12_yard_55 rfl (fun H locs hw => ?_)
      refine lv_pop hx hb dX12_yard_58 rfl ?_
      refine lv_aload_n hx hb dX12_yard_59 rfl (lv_at hl 0 rfl) ?_
      refine u_getp cx hw F_X12_9 o_X12 rfl dX12_yard_60 ?_
      refine lv_aload_n hx hb dX12_yard_63 rfl (lv_at hl 0 rfl) ?_
      refine u_getp cx hw F_X12_49 o_X12 rfl dX12_yard_64 ?_
      refine lv_iconst (v := 0) hx hb dX12_yard_67 (by decide) ?_
      obtain ⟨s7, hs7, hz⟩ := u_bind hz
      refine u_callSv (As := [.ref (G.2.2 1), .ref (G.2.2 12), .int 0]) (rest := []) cx hw LS_X12_242 (c_X12_lay l G N v6.2 1 12 0 s7 hs7) (by decide) hl.1 rfl (Nat.le_of_ble_eq_true rfl) dX12_yard_68 rfl (fun H locs hw => ?_)
      refine lv_aload_n hx hb dX12_yard_71 rfl (lv_at hl 0 rfl) ?_
      refine u_getp cx hw F_X12_49 o_X12 rfl dX12_yard_72 ?_
      refine lv_bipush (v := 33) hx hb dX12_yard_75 (by decide) ?_
      refine lv_dup2_11 hx hb dX12_yard_77 rfl rfl ?_
      obtain ⟨v8, hv8, hz⟩ := u_bind hz
      refine u_iald cx hw hv8 dX12_yard_78 ?_
      refine lv_iconst (v := 1) hx hb dX12_yard_79 (by decide) ?_
      refine lv_isub hx hb dX12_yard_80 ?_
      obtain ⟨s9, hs9, hz⟩ := u_bind hz
      refine u_iast cx hw hs9 dX12_yard_81 (fun H locs hw => ?_)
      refine lv_aload_n hx hb dX12_yard_82 rfl (lv_at hl 0 rfl) ?_
      refine lv_aload_n hx hb dX12_yard_83 rfl (lv_at hl 0 rfl) ?_
      refine u_getp cx hw F_X12_49 o_X12 rfl dX12_yard_84 ?_
      refine lv_iload_n hx hb dX12_yard_87 rfl (lv_at hl 1 rfl) ?_
      obtain ⟨v10, hv10, hz⟩ := u_bind hz
      refine u_callVi (As := [.ref (G.2.2 12), .int p1]) (rest := []) cx hw LV_X12_257 (c_X12_goCrossings l G N s9 12 p1 v10 hv10) o_X12 rfl (by decide) hl.1 rfl (Nat.le_of_ble_eq_true rfl) dX12_yard_88 rfl (fun H locs hw => ?_)
      refine lv_pop hx hb dX12_yard_91 rfl ?_
      refine lv_aload_n hx hb dX12_yard_92 rfl (lv_at hl 0 rfl) ?_
      refine lv_iconst (v := 0) hx hb dX12_yard_93 (by decide) ?_
      obtain ⟨s11, es11, hz⟩ := u_let hz
      refine u_puti2 cx hw P_X12_80 o_X12 rfl es11 dX12_yard_94 (fun H locs hw => ?_)
      refine lv_aload_n hx hb dX12_yard_97 rfl (lv_at hl 0 rfl) ?_
      refine lv_aload_n hx hb dX12_yard_98 rfl (lv_at hl 0 rfl) ?_
      refine u_getp cx hw F_X12_49 o_X12 rfl dX12_yard_99 ?_
      refine lv_bipush (v := 36) hx hb dX12_yard_102 (by decide) ?_
      obtain ⟨v12, hv12, hz⟩ := u_bind hz
      refine u_iald cx hw hv12 dX12_yard_104 ?_
      refine lv_aload_n hx hb dX12_yard_105 rfl (lv_at hl 0 rfl) ?_
      refine u_getp cx hw F_X12_9 o_X12 rfl dX12_yard_106 ?_
      refine lv_bipush (v := 36) hx hb dX12_yard_109 (by decide) ?_
      obtain ⟨v13, hv13, hz⟩ := u_bind hz
      refine u_iald cx hw hv13 dX12_yard_111 ?_
      refine lv_isub hx hb dX12_yard_112 ?_
      refine lv_i2l (v := (Int32.toInt64 (v12 - v13))) hx hb dX12_yard_113 rfl ?_
      obtain ⟨s14, hs14, hz⟩ := u_bind hz
      refine u_callVv (As := [.long (Int32.toInt64 (v12 - v13))]) (rest := []) cx hw LV_X12_260 (c_X12_tell l G N s11 (Int32.toInt64 (v12 - v13)) s14 hs14) o_X12 rfl (by decide) hl.1 rfl (Nat.le_of_ble_eq_true rfl) dX12_yard_114 rfl (fun H locs hw => ?_)
      refine lv_aload_n hx hb dX12_yard_117 rfl (lv_at hl 0 rfl) ?_
      refine lv_aload_n hx hb dX12_yard_118 rfl (lv_at hl 0 rfl) ?_
      refine u_getp cx hw F_X12_46 o_X12 rfl dX12_yard_119 ?_
      refine lv_bipush (v := 36) hx hb dX12_yard_122 (by decide) ?_
      obtain ⟨v15, hv15, hz⟩ := u_bind hz
      refine u_iald cx hw hv15 dX12_yard_124 ?_
      refine lv_aload_n hx hb dX12_yard_125 rfl (lv_at hl 0 rfl) ?_
      refine u_getp cx hw F_X12_9 o_X12 rfl dX12_yard_126 ?_
      refine lv_bipush (v := 36) hx hb dX12_yard_129 (by decide) ?_
      obtain ⟨v16, hv16, hz⟩ := u_bind hz
      refine u_iald cx hw hv16 dX12_yard_131 ?_
      refine lv_isub hx hb dX12_yard_132 ?_
      refine lv_i2l (v := (Int32.toInt64 (v15 - v16))) hx hb dX12_yard_133 rfl ?_
      obtain ⟨s17, hs17, hz⟩ := u_bind hz
      refine u_callVv (As := [.long (Int32.toInt64 (v15 - v16))]) (rest := []) cx hw LV_X12_260 (c_X12_tell l G N s14 (Int32.toInt64 (v15 - v16)) s17 hs17) o_X12 rfl (by decide) hl.1 rfl (Nat.le_of_ble_eq_true rfl) dX12_yard_134 rfl (fun H locs hw => ?_)
      refine lv_aload_n hx hb dX12_yard_137 rfl (lv_at hl 0 rfl) ?_
      refine u_getp cx hw F_X12_46 o_X12 rfl dX12_yard_138 ?_
      refine lv_bipush (v := 36) hx hb dX12_yard_141 (by decide) ?_
      obtain ⟨v18, hv18, hz⟩ := u_bind hz
      refine u_iald cx hw hv18 dX12_yard_143 ?_
      refine lv_aload_n hx hb dX12_yard_144 rfl (lv_at hl 0 rfl) ?_
      refine u_getp cx hw F_X12_49 o_X12 rfl dX12_yard_145 ?_
      refine lv_bipush (v := 36) hx hb dX12_yard_148 (by decide) ?_
      obtain ⟨v19, hv19, hz⟩ := u_bind hz
      refine u_iald cx hw hv19 dX12_yard_150 ?_
      refine lv_isub hx hb dX12_yard_151 ?_
      exact u_iret cx hw (u_pair hz) dX12_yard_152
    · replace hz := u_ift hz hc
      refine lv_bipush (v := (-2)) hx hb dX12_yard_34 (by decide) ?_
      exact u_iret cx hw (u_pair hz) dX12_yard_36
  · replace hz := u_ift hz hc
    refine lv_iconst (v := (-1)) hx hb dX12_yard_15 (by decide) ?_
    exact u_iret cx hw (u_pair hz) dX12_yard_16
