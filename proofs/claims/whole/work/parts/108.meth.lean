theorem dX11_keep_0 : decode cX11_keep 0 = .ok (.aload_n 0, 1) := by decide +kernel
theorem dX11_keep_1 : decode cX11_keep 1 = .ok (.getfield 39, 3) := by decide +kernel
theorem dX11_keep_4 : decode cX11_keep 4 = .ok (.iload_n 1, 1) := by decide +kernel
theorem dX11_keep_5 : decode cX11_keep 5 = .ok (.aload_n 0, 1) := by decide +kernel
theorem dX11_keep_6 : decode cX11_keep 6 = .ok (.getfield 26, 3) := by decide +kernel
theorem dX11_keep_9 : decode cX11_keep 9 = .ok (.invokevirtual 411, 3) := by decide +kernel
theorem dX11_keep_12 : decode cX11_keep 12 = .ok (.ireturn, 1) := by decide +kernel
def f_X11_keep (N : Nat) (σ : uS) (p1 : Int32) : Option (Int32 × uS) := (f_X3_keepUnder N σ p1 32).bind fun v1 =>
  u_ck (v1.1 = 0 ∨ v1.1 = 1) (some (v1.1, v1.2))
set_option maxRecDepth 100000 in
set_option maxHeartbeats 4000000 in
theorem c_X11_keep (l : Launch) (G : uG) (N : Nat) (σ : uS) (p1 : Int32) (z : (Int32 × uS)) (hz : f_X11_keep N σ p1 = some z) : u_Mi l ZC G yX11_keep cX11_keep 2 .boolean 3 [.ref (G.2.2 0), .int p1] σ z.1 z.2 := by
  refine u_Mi_of RX11 (by decide) rfl (Nat.le_of_ble_eq_true rfl) ?_
  intro p e s m args below meth c ls cx hw hl
  have hx := cx.1
  have hb := cx.2.1
  have hl : lv_has ls 2 [(0, .ref (G.2.2 0)), (1, .int p1)] := hl
  unfold f_X11_keep at hz
  refine lv_aload_n hx hb dX11_keep_0 rfl (lv_at hl 0 rfl) ?_
  refine u_getp cx hw F_X11_39 o_X11 rfl dX11_keep_1 ?_
  refine lv_iload_n hx hb dX11_keep_4 rfl (lv_at hl 1 rfl) ?_
  refine lv_aload_n hx hb dX11_keep_5 rfl (lv_at hl 0 rfl) ?_
  refine u_getp cx hw F_X11_26 o_X11 rfl dX11_keep_6 ?_
  obtain ⟨v1, hv1, hz⟩ := u_bind hz
  refine u_callVi (As := [.int p1, .ref (G.2.2 32)]) (rest := []) cx hw LV_X11_411 (c_X3_keepUnder l G N σ p1 32 oS_32 v1 hv1) o_X3 rfl (by decide) hl.1 rfl (Nat.le_of_ble_eq_true rfl) dX11_keep_9 rfl (fun H locs hw => ?_)
  obtain ⟨h01, hz⟩ := u_ck_some hz
  exact u_zret cx hw h01 (u_pair hz) dX11_keep_12
theorem dX11_again_0 : decode cX11_again 0 = .ok (.aload_n 0, 1) := by decide +kernel
theorem dX11_again_1 : decode cX11_again 1 = .ok (.getfield 39, 3) := by decide +kernel
theorem dX11_again_4 : decode cX11_again 4 = .ok (.iload_n 1, 1) := by decide +kernel
theorem dX11_again_5 : decode cX11_again 5 = .ok (.aload_n 0, 1) := by decide +kernel
theorem dX11_again_6 : decode cX11_again 6 = .ok (.getfield 26, 3) := by decide +kernel
theorem dX11_again_9 : decode cX11_again 9 = .ok (.invokevirtual 415, 3) := by decide +kernel
theorem dX11_again_12 : decode cX11_again 12 = .ok (.ireturn, 1) := by decide +kernel
def f_X11_again (N : Nat) (σ : uS) (p1 : Int32) : Option (Int32 × uS) := (f_X3_bringBack N σ p1 32).bind fun v1 =>
  u_ck (v1.1 = 0 ∨ v1.1 = 1) (some (v1.1, v1.2))
set_option maxRecDepth 100000 in
set_option maxHeartbeats 4000000 in
theorem c_X11_again (l : Launch) (G : uG) (N : Nat) (σ : uS) (p1 : Int32) (z : (Int32 × uS)) (hz : f_X11_again N σ p1 = some z) : u_Mi l ZC G yX11_again cX11_again 2 .boolean 3 [.ref (G.2.2 0), .int p1] σ z.1 z.2 := by
  refine u_Mi_of RX11 (by decide) rfl (Nat.le_of_ble_eq_true rfl) ?_
  intro p e s m args below meth c ls cx hw hl
  have hx := cx.1
  have hb := cx.2.1
  have hl : lv_has ls 2 [(0, .ref (G.2.2 0)), (1, .int p1)] := hl
  unfold f_X11_again at hz
  refine lv_aload_n hx hb dX11_again_0 rfl (lv_at hl 0 rfl) ?_
  refine u_getp cx hw F_X11_39 o_X11 rfl dX11_again_1 ?_
  refine lv_iload_n hx hb dX11_again_4 rfl (lv_at hl 1 rfl) ?_
  refine lv_aload_n hx hb dX11_again_5 rfl (lv_at hl 0 rfl) ?_
  refine u_getp cx hw F_X11_26 o_X11 rfl dX11_again_6 ?_
  obtain ⟨v1, hv1, hz⟩ := u_bind hz
  refine u_callVi (As := [.int p1, .ref (G.2.2 32)]) (rest := []) cx hw LV_X11_415 (c_X3_bringBack l G N σ p1 32 oS_32 v1 hv1) o_X3 rfl (by decide) hl.1 rfl (Nat.le_of_ble_eq_true rfl) dX11_again_9 rfl (fun H locs hw => ?_)
  obtain ⟨h01, hz⟩ := u_ck_some hz
  exact u_zret cx hw h01 (u_pair hz) dX11_again_12
theorem dX11_count_0 : decode cX11_count 0 = .ok (.iload_n 1, 1) := by decide +kernel
theorem dX11_count_1 : decode cX11_count 1 = .ok (.tableswitch 209 0 14 #[75, 83, 91, 99, 107, 115, 123, 131, 139, 161, 169, 177, 185, 193, 201], 75) := by decide +kernel
theorem dX11_count_76 : decode cX11_count 76 = .ok (.aload_n 0, 1) := by decide +kernel
theorem dX11_count_77 : decode cX11_count 77 = .ok (.getfield 26, 3) := by decide +kernel
theorem dX11_count_80 : decode cX11_count 80 = .ok (.getfield 119, 3) := by decide +kernel
theorem dX11_count_83 : decode cX11_count 83 = .ok (.ireturn, 1) := by decide +kernel
theorem dX11_count_84 : decode cX11_count 84 = .ok (.aload_n 0, 1) := by decide +kernel
theorem dX11_count_85 : decode cX11_count 85 = .ok (.getfield 26, 3) := by decide +kernel
theorem dX11_count_88 : decode cX11_count 88 = .ok (.getfield 266, 3) := by decide +kernel
theorem dX11_count_91 : decode cX11_count 91 = .ok (.ireturn, 1) := by decide +kernel
theorem dX11_count_92 : decode cX11_count 92 = .ok (.aload_n 0, 1) := by decide +kernel
theorem dX11_count_93 : decode cX11_count 93 = .ok (.getfield 26, 3) := by decide +kernel
theorem dX11_count_96 : decode cX11_count 96 = .ok (.getfield 269, 3) := by decide +kernel
theorem dX11_count_99 : decode cX11_count 99 = .ok (.ireturn, 1) := by decide +kernel
theorem dX11_count_100 : decode cX11_count 100 = .ok (.aload_n 0, 1) := by decide +kernel
theorem dX11_count_101 : decode cX11_count 101 = .ok (.getfield 26, 3) := by decide +kernel
theorem dX11_count_104 : decode cX11_count 104 = .ok (.getfield 122, 3) := by decide +kernel
theorem dX11_count_107 : decode cX11_count 107 = .ok (.ireturn, 1) := by decide +kernel
theorem dX11_count_108 : decode cX11_count 108 = .ok (.aload_n 0, 1) := by decide +kernel
theorem dX11_count_109 : decode cX11_count 109 = .ok (.getfield 26, 3) := by decide +kernel
theorem dX11_count_112 : decode cX11_count 112 = .ok (.invokevirtual 275, 3) := by decide +kernel
theorem dX11_count_115 : decode cX11_count 115 = .ok (.ireturn, 1) := by decide +kernel
theorem dX11_count_116 : decode cX11_count 116 = .ok (.aload_n 0, 1) := by decide +kernel
theorem dX11_count_117 : decode cX11_count 117 = .ok (.getfield 26, 3) := by decide +kernel
theorem dX11_count_120 : decode cX11_count 120 = .ok (.getfield 278, 3) := by decide +kernel
theorem dX11_count_123 : decode cX11_count 123 = .ok (.ireturn, 1) := by decide +kernel
theorem dX11_count_124 : decode cX11_count 124 = .ok (.aload_n 0, 1) := by decide +kernel
theorem dX11_count_125 : decode cX11_count 125 = .ok (.getfield 26, 3) := by decide +kernel
theorem dX11_count_128 : decode cX11_count 128 = .ok (.getfield 418, 3) := by decide +kernel
theorem dX11_count_131 : decode cX11_count 131 = .ok (.ireturn, 1) := by decide +kernel
theorem dX11_count_132 : decode cX11_count 132 = .ok (.aload_n 0, 1) := by decide +kernel
theorem dX11_count_133 : decode cX11_count 133 = .ok (.getfield 26, 3) := by decide +kernel
theorem dX11_count_136 : decode cX11_count 136 = .ok (.getfield 217, 3) := by decide +kernel
theorem dX11_count_139 : decode cX11_count 139 = .ok (.ireturn, 1) := by decide +kernel
theorem dX11_count_140 : decode cX11_count 140 = .ok (.aload_n 0, 1) := by decide +kernel
theorem dX11_count_141 : decode cX11_count 141 = .ok (.getfield 26, 3) := by decide +kernel
theorem dX11_count_144 : decode cX11_count 144 = .ok (.aload_n 0, 1) := by decide +kernel
theorem dX11_count_145 : decode cX11_count 145 = .ok (.getfield 26, 3) := by decide +kernel
theorem dX11_count_148 : decode cX11_count 148 = .ok (.getfield 266, 3) := by decide +kernel
theorem dX11_count_151 : decode cX11_count 151 = .ok (.aload_n 0, 1) := by decide +kernel
theorem dX11_count_152 : decode cX11_count 152 = .ok (.getfield 26, 3) := by decide +kernel
theorem dX11_count_155 : decode cX11_count 155 = .ok (.getfield 269, 3) := by decide +kernel
theorem dX11_count_158 : decode cX11_count 158 = .ok (.invokevirtual 364, 3) := by decide +kernel
theorem dX11_count_161 : decode cX11_count 161 = .ok (.ireturn, 1) := by decide +kernel
theorem dX11_count_162 : decode cX11_count 162 = .ok (.aload_n 0, 1) := by decide +kernel
theorem dX11_count_163 : decode cX11_count 163 = .ok (.getfield 46, 3) := by decide +kernel
theorem dX11_count_166 : decode cX11_count 166 = .ok (.getfield 354, 3) := by decide +kernel
theorem dX11_count_169 : decode cX11_count 169 = .ok (.ireturn, 1) := by decide +kernel
theorem dX11_count_170 : decode cX11_count 170 = .ok (.aload_n 0, 1) := by decide +kernel
theorem dX11_count_171 : decode cX11_count 171 = .ok (.getfield 39, 3) := by decide +kernel
theorem dX11_count_174 : decode cX11_count 174 = .ok (.getfield 254, 3) := by decide +kernel
theorem dX11_count_177 : decode cX11_count 177 = .ok (.ireturn, 1) := by decide +kernel
theorem dX11_count_178 : decode cX11_count 178 = .ok (.aload_n 0, 1) := by decide +kernel
theorem dX11_count_179 : decode cX11_count 179 = .ok (.getfield 19, 3) := by decide +kernel
theorem dX11_count_182 : decode cX11_count 182 = .ok (.getfield 421, 3) := by decide +kernel
theorem dX11_count_185 : decode cX11_count 185 = .ok (.ireturn, 1) := by decide +kernel
theorem dX11_count_186 : decode cX11_count 186 = .ok (.aload_n 0, 1) := by decide +kernel
theorem dX11_count_187 : decode cX11_count 187 = .ok (.getfield 10, 3) := by decide +kernel
theorem dX11_count_190 : decode cX11_count 190 = .ok (.getfield 100, 3) := by decide +kernel
theorem dX11_count_193 : decode cX11_count 193 = .ok (.ireturn, 1) := by decide +kernel
theorem dX11_count_194 : decode cX11_count 194 = .ok (.aload_n 0, 1) := by decide +kernel
theorem dX11_count_195 : decode cX11_count 195 = .ok (.getfield 26, 3) := by decide +kernel
theorem dX11_count_198 : decode cX11_count 198 = .ok (.invokevirtual 335, 3) := by decide +kernel
theorem dX11_count_201 : decode cX11_count 201 = .ok (.ireturn, 1) := by decide +kernel
theorem dX11_count_202 : decode cX11_count 202 = .ok (.aload_n 0, 1) := by decide +kernel
theorem dX11_count_203 : decode cX11_count 203 = .ok (.getfield 26, 3) := by decide +kernel
theorem dX11_count_206 : decode cX11_count 206 = .ok (.invokevirtual 422, 3) := by decide +kernel
theorem dX11_count_209 : decode cX11_count 209 = .ok (.ireturn, 1) := by decide +kernel
theorem dX11_count_210 : decode cX11_count 210 = .ok (.iconst (-1), 1) := by decide +kernel
theorem dX11_count_211 : decode cX11_count 211 = .ok (.ireturn, 1) := by decide +kernel
def f_X11_count (N : Nat) (σ : uS) (p1 : Int32) : Option Int32 := if p1 = 0 then (some (σ.1 32 5)) else (if p1 = 1 then (some (σ.1 32 6)) else (if p1 = 2 then (some (σ.1 32 7)) else (if p1 = 3 then (some (σ.1 32 8)) else (if p1 = 4 then ((f_X7_inside N σ 32).bind fun v1 =>
  some v1) else (if p1 = 5 then (some (σ.1 32 9)) else (if p1 = 6 then (some (σ.1 32 10)) else (if p1 = 7 then (some (σ.1 32 11)) else (if p1 = 8 then ((f_X7_cornOf N σ 32 (σ.1 32 6) (σ.1 32 7)).bind fun v2 =>
  some v2) else (if p1 = 9 then (some (σ.1 8 0)) else (if p1 = 10 then (some (σ.1 5 2)) else (if p1 = 11 then (some (σ.1 3 1)) else (if p1 = 12 then (some (σ.1 1 1)) else (if p1 = 13 then ((f_X7_outside N σ 32).bind fun v3 =>
  some v3) else (if p1 = 14 then ((f_X7_glances N σ 32).bind fun v4 =>
  some v4) else (some (-1))))))))))))))))
set_option maxRecDepth 100000 in
set_option maxHeartbeats 4000000 in
theorem c_X11_count (l : Launch) (G : uG) (N : Nat) (σ : uS) (p1 : Int32) (z : Int32) (hz : f_X11_count N σ p1 = some z) : u_Mi l ZC G yX11_count cX11_count 2 .int 3 [.ref (G.2.2 0), .int p1] σ z σ := by
  refine u_Mi_of RX11 (by decide) rfl (Nat.le_of_ble_eq_true rfl) ?_
  intro p e s m args below meth c ls cx hw hl
  have hx := cx.1
  have hb := cx.2.1
  have hl : lv_has ls 2 [(0, .ref (G.2.2 0)), (1, .int p1)] := hl
  unfold f_X11_count at hz
  refine lv_iload_n hx hb dX11_count_0 rfl (lv_at hl 1 rfl) ?_
  by_cases hk0 : p1 = 0
  · replace hz := u_ift hz hk0
    refine lv_tableIn (off := 75) (tgt := 76) hx hb dX11_count_1 (by rw [hk0]; decide) (by rw [hk0]; decide) (by rw [hk0]; decide) (by decide) ?_
    refine lv_aload_n hx hb dX11_count_76 rfl (lv_at hl 0 rfl) ?_
    refine u_getp cx hw F_X11_26 o_X11 rfl dX11_count_77 ?_
    refine u_geti cx hw F_X11_119 oS_32 rfl dX11_count_80 ?_
    exact u_iret cx hw ⟨Option.some.inj hz, rfl⟩ dX11_count_83
  replace hz := u_iff hz hk0
  by_cases hk1 : p1 = 1
  · replace hz := u_ift hz hk1
    refine lv_tableIn (off := 83) (tgt := 84) hx hb dX11_count_1 (by rw [hk1]; decide) (by rw [hk1]; decide) (by rw [hk1]; decide) (by decide) ?_
    refine lv_aload_n hx hb dX11_count_84 rfl (lv_at hl 0 rfl) ?_
    refine u_getp cx hw F_X11_26 o_X11 rfl dX11_count_85 ?_
    refine u_geti cx hw F_X11_266 oS_32 rfl dX11_count_88 ?_
    exact u_iret cx hw ⟨Option.some.inj hz, rfl⟩ dX11_count_91
  replace hz := u_iff hz hk1
  by_cases hk2 : p1 = 2
  · replace hz := u_ift hz hk2
    refine lv_tableIn (off := 91) (tgt := 92) hx hb dX11_count_1 (by rw [hk2]; decide) (by rw [hk2]; decide) (by rw [hk2]; decide) (by decide) ?_
    refine lv_aload_n hx hb dX11_count_92 rfl (lv_at hl 0 rfl) ?_
    refine u_getp cx hw F_X11_26 o_X11 rfl dX11_count_93 ?_
    refine u_geti cx hw F_X11_269 oS_32 rfl dX11_count_96 ?_
    exact u_iret cx hw ⟨Option.some.inj hz, rfl⟩ dX11_count_99
  replace hz := u_iff hz hk2
  by_cases hk3 : p1 = 3
  · replace hz := u_ift hz hk3
    refine lv_tableIn (off := 99) (tgt := 100) hx hb dX11_count_1 (by rw [hk3]; decide) (by rw [hk3]; decide) (by rw [hk3]; decide) (by decide) ?_
    refine lv_aload_n hx hb dX11_count_100 rfl (lv_at hl 0 rfl) ?_
    refine u_getp cx hw F_X11_26 o_X11 rfl dX11_count_101 ?_
    refine u_geti cx hw F_X11_122 oS_32 rfl dX11_count_104 ?_
    exact u_iret cx hw ⟨Option.some.inj hz, rfl⟩ dX11_count_107
  replace hz := u_iff hz hk3
  by_cases hk4 : p1 = 4
  · replace hz := u_ift hz hk4
    refine lv_tableIn (off := 107) (tgt := 108) hx hb dX11_count_1 (by rw [hk4]; decide) (by rw [hk4]; decide) (by rw [hk4]; decide) (by decide) ?_
    refine lv_aload_n hx hb dX11_count_108 rfl (lv_at hl 0 rfl) ?_
    refine u_getp cx hw F_X11_26 o_X11 rfl dX11_count_109 ?_
    obtain ⟨v1, hv1, hz⟩ := u_bind hz
    refine u_callVi (As := []) (rest := []) cx hw LV_X11_275 (c_X7_inside l G N σ 32 oS_32 v1 hv1) oS_32 rfl (by decide) hl.1 rfl (Nat.le_of_ble_eq_true rfl) dX11_count_112 rfl (fun H locs hw => ?_)
    exact u_iret cx hw ⟨Option.some.inj hz, rfl⟩ dX11_count_115
  replace hz := u_iff hz hk4
  by_cases hk5 : p1 = 5
  · replace hz := u_ift hz hk5
    refine lv_tableIn (off := 115) (tgt := 116) hx hb dX11_count_1 (by rw [hk5]; decide) (by rw [hk5]; decide) (by rw [hk5]; decide) (by decide) ?_
    refine lv_aload_n hx hb dX11_count_116 rfl (lv_at hl 0 rfl) ?_
    refine u_getp cx hw F_X11_26 o_X11 rfl dX11_count_117 ?_
    refine u_geti cx hw F_X11_278 oS_32 rfl dX11_count_120 ?_
    exact u_iret cx hw ⟨Option.some.inj hz, rfl⟩ dX11_count_123
  replace hz := u_iff hz hk5
  by_cases hk6 : p1 = 6
  · replace hz := u_ift hz hk6
    refine lv_tableIn (off := 123) (tgt := 124) hx hb dX11_count_1 (by rw [hk6]; decide) (by rw [hk6]; decide) (by rw [hk6]; decide) (by decide) ?_
    refine lv_aload_n hx hb dX11_count_124 rfl (lv_at hl 0 rfl) ?_
    refine u_getp cx hw F_X11_26 o_X11 rfl dX11_count_125 ?_
    refine u_geti cx hw F_X11_418 oS_32 rfl dX11_count_128 ?_
    exact u_iret cx hw ⟨Option.some.inj hz, rfl⟩ dX11_count_131
  replace hz := u_iff hz hk6
  by_cases hk7 : p1 = 7
  · replace hz := u_ift hz hk7
    refine lv_tableIn (off := 131) (tgt := 132) hx hb dX11_count_1 (by rw [hk7]; decide) (by rw [hk7]; decide) (by rw [hk7]; decide) (by decide) ?_
    refine lv_aload_n hx hb dX11_count_132 rfl (lv_at hl 0 rfl) ?_
    refine u_getp cx hw F_X11_26 o_X11 rfl dX11_count_133 ?_
    refine u_geti cx hw F_X11_217 oS_32 rfl dX11_count_136 ?_
    exact u_iret cx hw ⟨Option.some.inj hz, rfl⟩ dX11_count_139
  replace hz := u_iff hz hk7
  by_cases hk8 : p1 = 8
  · replace hz := u_ift hz hk8
    refine lv_tableIn (off := 139) (tgt := 140) hx hb dX11_count_1 (by rw [hk8]; decide) (by rw [hk8]; decide) (by rw [hk8]; decide) (by decide) ?_
    refine lv_aload_n hx hb dX11_count_140 rfl (lv_at hl 0 rfl) ?_
    refine u_getp cx hw F_X11_26 o_X11 rfl dX11_count_141 ?_
    refine lv_aload_n hx hb dX11_count_144 rfl (lv_at hl 0 rfl) ?_
    refine u_getp cx hw F_X11_26 o_X11 rfl dX11_count_145 ?_
    refine u_geti cx hw F_X11_266 oS_32 rfl dX11_count_148 ?_
    refine lv_aload_n hx hb dX11_count_151 rfl (lv_at hl 0 rfl) ?_
    refine u_getp cx hw F_X11_26 o_X11 rfl dX11_count_152 ?_
    refine u_geti cx hw F_X11_269 oS_32 rfl dX11_count_155 ?_
    obtain ⟨v2, hv2, hz⟩ := u_bind hz
    refine u_callVi (As := [.int (σ.1 32 6), .int (σ.1 32 7)]) (rest := []) cx hw LV_X11_364 (c_X7_cornOf l G N σ 32 oS_32 (σ.1 32 6) (σ.1 32 7) v2 hv2) oS_32 rfl (by decide) hl.1 rfl (Nat.le_of_ble_eq_true rfl) dX11_count_158 rfl (fun H locs hw => ?_)
    exact u_iret cx hw ⟨Option.some.inj hz, rfl⟩ dX11_count_161
  replace hz := u_iff hz hk8
  by_cases hk9 : p1 = 9
  · replace hz := u_ift hz hk9
    refine lv_tableIn (off := 161) (tgt := 162) hx hb dX11_count_1 (by rw [hk9]; decide) (by rw [hk9]; decide) (by rw [hk9]; decide) (by decide) ?_
    refine lv_aload_n hx hb dX11_count_162 rfl (lv_at hl 0 rfl) ?_
    refine u_getp cx hw F_X11_46 o_X11 rfl dX11_count_163 ?_
    refine u_geti cx hw F_X11_354 o_X0 rfl dX11_count_166 ?_
    exact u_iret cx hw ⟨Option.some.inj hz, rfl⟩ dX11_count_169
  replace hz := u_iff hz hk9
  by_cases hk10 : p1 = 10
  · replace hz := u_ift hz hk10
    refine lv_tableIn (off := 169) (tgt := 170) hx hb dX11_count_1 (by rw [hk10]; decide) (by rw [hk10]; decide) (by rw [hk10]; decide) (by decide) ?_
    refine lv_aload_n hx hb dX11_count_170 rfl (lv_at hl 0 rfl) ?_
    refine u_getp cx hw F_X11_39 o_X11 rfl dX11_count_171 ?_
    refine u_geti cx hw F_X11_254 o_X3 rfl dX11_count_174 ?_
    exact u_iret cx hw ⟨Option.some.inj hz, rfl⟩ dX11_count_177
  replace hz := u_iff hz hk10
  by_cases hk11 : p1 = 11
  · replace hz := u_ift hz hk11
    refine lv_tableIn (off := 177) (tgt := 178) hx hb dX11_count_1 (by rw [hk11]; decide) (by rw [hk11]; decide) (by rw [hk11]; decide) (by decide) ?_
    refine lv_aload_n hx hb dX11_count_178 rfl (lv_at hl 0 rfl) ?_
    refine u_getp cx hw F_X11_19 o_X11 rfl dX11_count_179 ?_
    refine u_geti cx hw F_X11_421 o_X8 rfl dX11_count_182 ?_
    exact u_iret cx hw ⟨Option.some.inj hz, rfl⟩ dX11_count_185
  replace hz := u_iff hz hk11
  by_cases hk12 : p1 = 12
  · replace hz := u_ift hz hk12
    refine lv_tableIn (off := 185) (tgt := 186) hx hb dX11_count_1 (by rw [hk12]; decide) (by rw [hk12]; decide) (by rw [hk12]; decide) (by decide) ?_
    refine lv_aload_n hx hb dX11_count_186 rfl (lv_at hl 0 rfl) ?_
    refine u_getp cx hw F_X11_10 o_X11 rfl dX11_count_187 ?_
    refine u_geti cx hw F_X11_100 o_X10 rfl dX11_count_190 ?_
    exact u_iret cx hw ⟨Option.some.inj hz, rfl⟩ dX11_count_193
  replace hz := u_iff hz hk12
  by_cases hk13 : p1 = 13
  · replace hz := u_ift hz hk13
    refine lv_tableIn (off := 193) (tgt := 194) hx hb dX11_count_1 (by rw [hk13]; decide) (by rw [hk13]; decide) (by rw [hk13]; decide) (by decide) ?_
    refine lv_aload_n hx hb dX11_count_194 rfl (lv_at hl 0 rfl) ?_
    refine u_getp cx hw F_X11_26 o_X11 rfl dX11_count_195 ?_
    obtain ⟨v3, hv3, hz⟩ := u_bind hz
    refine u_callVi (As := []) (rest := []) cx hw LV_X11_335 (c_X7_outside l G N σ 32 oS_32 v3 hv3) oS_32 rfl (by decide) hl.1 rfl (Nat.le_of_ble_eq_true rfl) dX11_count_198 rfl (fun H locs hw => ?_)
    exact u_iret cx hw ⟨Option.some.inj hz, rfl⟩ dX11_count_201
  replace hz := u_iff hz hk13
  by_cases hk14 : p1 = 14
  · replace hz := u_ift hz hk14
    refine lv_tableIn (off := 201) (tgt := 202) hx hb dX11_count_1 (by rw [hk14]; decide) (by rw [hk14]; decide) (by rw [hk14]; decide) (by decide) ?_
    refine lv_aload_n hx hb dX11_count_202 rfl (lv_at hl 0 rfl) ?_
    refine u_getp cx hw F_X11_26 o_X11 rfl dX11_count_203 ?_
    obtain ⟨v4, hv4, hz⟩ := u_bind hz
    refine u_callVi (As := []) (rest := []) cx hw LV_X11_422 (c_X7_glances l G N σ 32 oS_32 v4 hv4) oS_32 rfl (by decide) hl.1 rfl (Nat.le_of_ble_eq_true rfl) dX11_count_206 rfl (fun H locs hw => ?_)
    exact u_iret cx hw ⟨Option.some.inj hz, rfl⟩ dX11_count_209
  replace hz := u_iff hz hk14
  refine lv_tableOut (tgt := 210) hx hb dX11_count_1 (by have := lv_neT hk0 (a := 0) (by decide); have := lv_neT hk1 (a := 1) (by decide); have := lv_neT hk2 (a := 2) (by decide); have := lv_neT hk3 (a := 3) (by decide); have := lv_neT hk4 (a := 4) (by decide); have := lv_neT hk5 (a := 5) (by decide); have := lv_neT hk6 (a := 6) (by decide); have := lv_neT hk7 (a := 7) (by decide); have := lv_neT hk8 (a := 8) (by decide); have := lv_neT hk9 (a := 9) (by decide); have := lv_neT hk10 (a := 10) (by decide); have := lv_neT hk11 (a := 11) (by decide); have := lv_neT hk12 (a := 12) (by decide); have := lv_neT hk13 (a := 13) (by decide); have := lv_neT hk14 (a := 14) (by decide); omega) (by decide) ?_
  refine lv_iconst (v := (-1)) hx hb dX11_count_210 (by decide) ?_
  exact u_iret cx hw ⟨Option.some.inj hz, rfl⟩ dX11_count_211
theorem dX12_glance_0 : decode cX12_glance 0 = .ok (.aload_n 0, 1) := by decide +kernel
theorem dX12_glance_1 : decode cX12_glance 1 = .ok (.iconst 0, 1) := by decide +kernel
theorem dX12_glance_2 : decode cX12_glance 2 = .ok (.putfield 77, 3) := by decide +kernel
theorem dX12_glance_5 : decode cX12_glance 5 = .ok (.aload_n 0, 1) := by decide +kernel
theorem dX12_glance_6 : decode cX12_glance 6 = .ok (.iload_n 1, 1) := by decide +kernel
theorem dX12_glance_7 : decode cX12_glance 7 = .ok (.iload_n 2, 1) := by decide +kernel
theorem dX12_glance_8 : decode cX12_glance 8 = .ok (.invokevirtual 267, 3) := by decide +kernel
theorem dX12_glance_11 : decode cX12_glance 11 = .ok (.ifCond .ne 5, 3) := by decide +kernel
theorem dX12_glance_14 : decode cX12_glance 14 = .ok (.iconst (-1), 1) := by decide +kernel
theorem dX12_glance_15 : decode cX12_glance 15 = .ok (.ireturn, 1) := by decide +kernel
theorem dX12_glance_16 : decode cX12_glance 16 = .ok (.aload_n 0, 1) := by decide +kernel
theorem dX12_glance_17 : decode cX12_glance 17 = .ok (.aload_n 0, 1) := by decide +kernel
theorem dX12_glance_18 : decode cX12_glance 18 = .ok (.getfield 9, 3) := by decide +kernel
theorem dX12_glance_21 : decode cX12_glance 21 = .ok (.invokevirtual 253, 3) := by decide +kernel
theorem dX12_glance_24 : decode cX12_glance 24 = .ok (.aload_n 0, 1) := by decide +kernel
theorem dX12_glance_25 : decode cX12_glance 25 = .ok (.getfield 9, 3) := by decide +kernel
theorem dX12_glance_28 : decode cX12_glance 28 = .ok (.iload_n 1, 1) := by decide +kernel
theorem dX12_glance_29 : decode cX12_glance 29 = .ok (.iload_n 2, 1) := by decide +kernel
theorem dX12_glance_30 : decode cX12_glance 30 = .ok (.invokestatic 270, 3) := by decide +kernel
theorem dX12_glance_33 : decode cX12_glance 33 = .ok (.aload_n 0, 1) := by decide +kernel
theorem dX12_glance_34 : decode cX12_glance 34 = .ok (.aload_n 0, 1) := by decide +kernel
theorem dX12_glance_35 : decode cX12_glance 35 = .ok (.getfield 9, 3) := by decide +kernel
theorem dX12_glance_38 : decode cX12_glance 38 = .ok (.iload_n 1, 1) := by decide +kernel
theorem dX12_glance_39 : decode cX12_glance 39 = .ok (.invokevirtual 202, 3) := by decide +kernel
theorem dX12_glance_42 : decode cX12_glance 42 = .ok (.invokestatic 206, 3) := by decide +kernel
theorem dX12_glance_45 : decode cX12_glance 45 = .ok (.ireturn, 1) := by decide +kernel
def f_X12_glance (N : Nat) (σ : uS) (p1 : Int32) (p2 : Int32) : Option (Int32 × uS) := u_jn (u_pI σ 0 8 0) fun s1 =>
  (f_X12_areTwo N s1 p1 p2).bind fun v2 =>
  if v2 = 0 then (some ((-1), s1)) else ((f_X12_remember N s1 1).bind fun s3 =>
  (f_X12_goGlance N s3 1 p1 p2).bind fun s4 =>
  (f_X12_sees N s4 1 p1).bind fun v5 =>
  (f_J6_bitCount_0f7a4 N s4 v5).bind fun v6 =>
  some (v6, s4))
set_option maxRecDepth 100000 in
set_option maxHeartbeats 4000000 in
theorem c_X12_glance (l : Launch) (G : uG) (N : Nat) (σ : uS) (p1 : Int32) (p2 : Int32) (z : (Int32 × uS)) (hz : f_X12_glance N σ p1 p2 = some z) : u_Mi l ZM G yX12_glance cX12_glance 3 .int 3 [.ref (G.2.2 0), .int p1, .int p2] σ z.1 z.2 := by
  refine u_Mi_of RX12 (by decide) rfl (Nat.le_of_ble_eq_true rfl) ?_
  intro p e s m args below meth c ls cx hw hl
  have hx := cx.1
  have hb := cx.2.1
  have hl : lv_has ls 3 [(0, .ref (G.2.2 0)), (1, .int p1), (2, .int p2)] := hl
  unfold f_X12_glance at hz
  refine lv_aload_n hx hb dX12_glance_0 rfl (lv_at hl 0 rfl) ?_
  refine lv_iconst (v := 0) hx hb dX12_glance_1 (by decide) ?_
  obtain ⟨s1, es1, hz⟩ := u_let hz
  refine u_puti2 cx hw P_X12_77 o_X12 rfl es1 dX12_glance_2 (fun H locs hw => ?_)
  refine lv_aload_n hx hb dX12_glance_5 rfl (lv_at hl 0 rfl) ?_
  refine lv_iload_n hx hb dX12_glance_6 rfl (lv_at hl 1 rfl) ?_
  refine lv_iload_n hx hb dX12_glance_7 rfl (lv_at hl 2 rfl) ?_
  obtain ⟨v2, hv2, hz⟩ := u_bind hz
  refine u_callVi (As := [.int p1, .int p2]) (rest := []) cx hw LV_X12_267 (c_X12_areTwo l G N s1 p1 p2 v2 hv2) o_X12 rfl (by decide) hl.1 rfl (Nat.le_of_ble_eq_true rfl) dX12_glance_8 rfl (fun H locs hw => ?_)
  refine lv_if_ne (tgt := 16) hx hb dX12_glance_11 (by decide) (fun hc => ?_) (fun hc => ?_)
  · replace hz := u_iff hz hc
    refine lv_aload_n hx hb dX12_glance_16 rfl (lv_at hl 0 rfl) ?_
    refine lv_aload_n hx hb dX12_glance_17 rfl (lv_at hl 0 rfl) ?_
    refine u_getp cx hw F_X12_9 o_X12 rfl dX12_glance_18 ?_
    obtain ⟨s3, hs3, hz⟩ := u_bind hz
    refine u_callVv (As := [.ref (G.2.2 1)]) (rest := []) cx hw LV_X12_253 (c_X12_remember l G N s1 1 s3 hs3) o_X12 rfl (by decide) hl.1 rfl (Nat.le_of_ble_eq_true rfl) dX12_glance_21 rfl (fun H locs hw => ?_)
    refine lv_aload_n hx hb dX12_glance_24 rfl (lv_at hl 0 rfl) ?_
    refine u_getp cx hw F_X12_9 o_X12 rfl dX12_glance_25 ?_
    refine lv_iload_n hx hb dX12_glance_28 rfl (lv_at hl 1 rfl) ?_
    refine lv_iload_n hx hb dX12_glance_29 rfl (lv_at hl 2 rfl) ?_
    obtain ⟨s4, hs4, hz⟩ := u_bind hz
    refine u_callSv (As := [.ref (G.2.2 1), .int p1, .int p2]) (rest := []) cx hw LS_X12_270 (c_X12_goGlance l G N s3 1 p1 p2 s4 hs4) (by decide) hl.1 rfl (Nat.le_of_ble_eq_true rfl) dX12_glance_30 rfl (fun H locs hw => ?_)
    refine lv_aload_n hx hb dX12_glance_33 rfl (lv_at hl 0 rfl) ?_
    refine lv_aload_n hx hb dX12_glance_34 rfl (lv_at hl 0 rfl) ?_
    refine u_getp cx hw F_X12_9 o_X12 rfl dX12_glance_35 ?_
    refine lv_iload_n hx hb dX12_glance_38 rfl (lv_at hl 1 rfl) ?_
    obtain ⟨v5, hv5, hz⟩ := u_bind hz
    refine u_callVi (As := [.ref (G.2.2 1), .int p1]) (rest := []) cx hw LV_X12_202 (c_X12_sees l G N s4 1 p1 v5 hv5) o_X12 rfl (by decide) hl.1 rfl (Nat.le_of_ble_eq_true rfl) dX12_glance_39 rfl (fun H locs hw => ?_)
    obtain ⟨v6, hv6, hz⟩ := u_bind hz
    refine u_callSi (As := [.int v5]) (rest := []) cx hw LS_X12_206 (c_J6_bitCount_0f7a4 l G ZM N s4 v5 v6 hv6) (by decide) hl.1 rfl (Nat.le_of_ble_eq_true rfl) dX12_glance_42 rfl (fun H locs hw => ?_)
    exact u_iret cx hw (u_pair hz) dX12_glance_45
  · replace hz := u_ift hz hc
    refine lv_iconst (v := (-1)) hx hb dX12_glance_14 (by decide) ?_
    exact u_iret cx hw (u_pair hz) dX12_glance_15
theorem dX12_depends_0 : decode cX12_depends 0 = .ok (.aload_n 0, 1) := by decide +kernel
theorem dX12_depends_1 : decode cX12_depends 1 = .ok (.iconst 0, 1) := by decide +kernel
theorem dX12_depends_2 : decode cX12_depends 2 = .ok (.putfield 77, 3) := by decide +kernel
theorem dX12_depends_5 : decode cX12_depends 5 = .ok (.aload_n 0, 1) := by decide +kernel
theorem dX12_depends_6 : decode cX12_depends 6 = .ok (.iload_n 1, 1) := by decide +kernel
theorem dX12_depends_7 : decode cX12_depends 7 = .ok (.invokevirtual 90, 3) := by decide +kernel
theorem dX12_depends_10 : decode cX12_depends 10 = .ok (.ifCond .ne 5, 3) := by decide +kernel
theorem dX12_depends_13 : decode cX12_depends 13 = .ok (.iconst (-1), 1) := by decide +kernel
theorem dX12_depends_14 : decode cX12_depends 14 = .ok (.ireturn, 1) := by decide +kernel
theorem dX12_depends_15 : decode cX12_depends 15 = .ok (.iconst 0, 1) := by decide +kernel
theorem dX12_depends_16 : decode cX12_depends 16 = .ok (.istore_n 2, 1) := by decide +kernel
theorem dX12_depends_17 : decode cX12_depends 17 = .ok (.iconst 0, 1) := by decide +kernel
theorem dX12_depends_18 : decode cX12_depends 18 = .ok (.istore_n 3, 1) := by decide +kernel
theorem dX12_depends_19 : decode cX12_depends 19 = .ok (.iload_n 3, 1) := by decide +kernel
theorem dX12_depends_20 : decode cX12_depends 20 = .ok (.aload_n 0, 1) := by decide +kernel
theorem dX12_depends_21 : decode cX12_depends 21 = .ok (.getfield 83, 3) := by decide +kernel
theorem dX12_depends_24 : decode cX12_depends 24 = .ok (.if_icmp .ge 33, 3) := by decide +kernel
theorem dX12_depends_27 : decode cX12_depends 27 = .ok (.iload_n 2, 1) := by decide +kernel
theorem dX12_depends_28 : decode cX12_depends 28 = .ok (.aload_n 0, 1) := by decide +kernel
theorem dX12_depends_29 : decode cX12_depends 29 = .ok (.aload_n 0, 1) := by decide +kernel
theorem dX12_depends_30 : decode cX12_depends 30 = .ok (.getfield 9, 3) := by decide +kernel
theorem dX12_depends_33 : decode cX12_depends 33 = .ok (.iload_n 3, 1) := by decide +kernel
theorem dX12_depends_34 : decode cX12_depends 34 = .ok (.invokevirtual 310, 3) := by decide +kernel
theorem dX12_depends_37 : decode cX12_depends 37 = .ok (.iload_n 1, 1) := by decide +kernel
theorem dX12_depends_38 : decode cX12_depends 38 = .ok (.invokestatic 198, 3) := by decide +kernel
theorem dX12_depends_41 : decode cX12_depends 41 = .ok (.ifCond .eq 7, 3) := by decide +kernel
theorem dX12_depends_44 : decode cX12_depends 44 = .ok (.iconst 1, 1) := by decide +kernel
theorem dX12_depends_45 : decode cX12_depends 45 = .ok (.goto 4, 3) := by decide +kernel
theorem dX12_depends_48 : decode cX12_depends 48 = .ok (.iconst 0, 1) := by decide +kernel
theorem dX12_depends_49 : decode cX12_depends 49 = .ok (.iadd, 1) := by decide +kernel
theorem dX12_depends_50 : decode cX12_depends 50 = .ok (.istore_n 2, 1) := by decide +kernel
theorem dX12_depends_51 : decode cX12_depends 51 = .ok (.iinc 3 1, 3) := by decide +kernel
theorem dX12_depends_54 : decode cX12_depends 54 = .ok (.goto (-35), 3) := by decide +kernel
theorem dX12_depends_57 : decode cX12_depends 57 = .ok (.aload_n 0, 1) := by decide +kernel
theorem dX12_depends_58 : decode cX12_depends 58 = .ok (.iconst 0, 1) := by decide +kernel
theorem dX12_depends_59 : decode cX12_depends 59 = .ok (.putfield 80, 3) := by decide +kernel
theorem dX12_depends_62 : decode cX12_depends 62 = .ok (.aload_n 0, 1) := by decide +kernel
theorem dX12_depends_63 : decode cX12_depends 63 = .ok (.aload_n 0, 1) := by decide +kernel
theorem dX12_depends_64 : decode cX12_depends 64 = .ok (.aload_n 0, 1) := by decide +kernel
theorem dX12_depends_65 : decode cX12_depends 65 = .ok (.getfield 9, 3) := by decide +kernel
theorem dX12_depends_68 : decode cX12_depends 68 = .ok (.iload_n 1, 1) := by decide +kernel
theorem dX12_depends_69 : decode cX12_depends 69 = .ok (.invokevirtual 310, 3) := by decide +kernel
theorem dX12_depends_72 : decode cX12_depends 72 = .ok (.invokestatic 206, 3) := by decide +kernel
theorem dX12_depends_75 : decode cX12_depends 75 = .ok (.i2l, 1) := by decide +kernel
theorem dX12_depends_76 : decode cX12_depends 76 = .ok (.invokevirtual 260, 3) := by decide +kernel
theorem dX12_depends_79 : decode cX12_depends 79 = .ok (.aload_n 0, 1) := by decide +kernel
theorem dX12_depends_80 : decode cX12_depends 80 = .ok (.iload_n 2, 1) := by decide +kernel
theorem dX12_depends_81 : decode cX12_depends 81 = .ok (.i2l, 1) := by decide +kernel
theorem dX12_depends_82 : decode cX12_depends 82 = .ok (.invokevirtual 260, 3) := by decide +kernel
theorem dX12_depends_85 : decode cX12_depends 85 = .ok (.aload_n 0, 1) := by decide +kernel
theorem dX12_depends_86 : decode cX12_depends 86 = .ok (.aload_n 0, 1) := by decide +kernel
theorem dX12_depends_87 : decode cX12_depends 87 = .ok (.getfield 9, 3) := by decide +kernel
theorem dX12_depends_90 : decode cX12_depends 90 = .ok (.iload_n 1, 1) := by decide +kernel
theorem dX12_depends_91 : decode cX12_depends 91 = .ok (.invokevirtual 310, 3) := by decide +kernel
theorem dX12_depends_94 : decode cX12_depends 94 = .ok (.ireturn, 1) := by decide +kernel
def b_X12_depends_19 (N : Nat) (p1 : Int32) (s1 : uS) (J57_4 : Int32 → Option (Int32 × uS)) (rec19_13 : Int32 → Int32 → Option (Int32 × uS)) (x11 : Int32) (x12 : Int32) : Option (Int32 × uS) :=
  if (s1.1 0 2) ≤ x12 then (J57_4 x11) else ((f_X12_reached N s1 1 x12).bind fun v14 =>
  (f_X12_has N s1 v14 p1).bind fun v15 =>
  u_jn (fun (t16 : Int32) => (u_jn ((x11 + t16) : Int32) fun x18 =>
  u_jn (x12 + 1 : Int32) fun x19 =>
  rec19_13 x18 x19 : Option (Int32 × uS))) fun J49_17 =>
  if v15 = 0 then (J49_17 0) else (J49_17 1))
def f_X12_depends (N : Nat) (σ : uS) (p1 : Int32) : Option (Int32 × uS) := u_jn (u_pI σ 0 8 0) fun s1 =>
  (f_X12_isMan N s1 p1).bind fun v2 =>
  if v2 = 0 then (some ((-1), s1)) else (u_jn (fun (x3 : Int32) => (u_jn (u_pI s1 0 7 0) fun s5 =>
  (f_X12_reached N s5 1 p1).bind fun v6 =>
  (f_J6_bitCount_0f7a4 N s5 v6).bind fun v7 =>
  (f_X12_tell N s5 (Int32.toInt64 v7)).bind fun s8 =>
  (f_X12_tell N s8 (Int32.toInt64 x3)).bind fun s9 =>
  (f_X12_reached N s9 1 p1).bind fun v10 =>
  some (v10, s9) : Option (Int32 × uS))) fun J57_4 =>
  u_lp2 (b_X12_depends_19 N p1 s1 J57_4) N 0 0)
set_option maxRecDepth 100000 in
set_option maxHeartbeats 4000000 in
theorem c_X12_depends (l : Launch) (G : uG) (N : Nat) (σ : uS) (p1 : Int32) (z : (Int32 × uS)) (hz : f_X12_depends N σ p1 = some z) : u_Mi l ZM G yX12_depends cX12_depends 4 .int 3 [.ref (G.2.2 0), .int p1] σ z.1 z.2 := by
  refine u_Mi_of RX12 (by decide) rfl (Nat.le_of_ble_eq_true rfl) ?_
  intro p e s m args below meth c ls cx hw hl
  have hx := cx.1
  have hb := cx.2.1
  have hl : lv_has ls 4 [(0, .ref (G.2.2 0)), (1, .int p1)] := hl
  unfold f_X12_depends at hz
  refine lv_aload_n hx hb dX12_depends_0 rfl (lv_at hl 0 rfl) ?_
  refine lv_iconst (v := 0) hx hb dX12_depends_1 (by decide) ?_
  obtain ⟨s1, es1, hz⟩ := u_let hz
  refine u_puti2 cx hw P_X12_77 o_X12 rfl es1 dX12_depends_2 (fun H locs hw => ?_)
  refine lv_aload_n hx hb dX12_depends_5 rfl (lv_at hl 0 rfl) ?_
  refine lv_iload_n hx hb dX12_depends_6 rfl (lv_at hl 1 rfl) ?_
  obtain ⟨v2, hv2, hz⟩ := u_bind hz
  refine u_callVi (As := [.int p1]) (rest := []) cx hw LV_X12_90 (c_X12_isMan l G N s1 p1 v2 hv2) o_X12 rfl (by decide) hl.1 rfl (Nat.le_of_ble_eq_true rfl) dX12_depends_7 rfl (fun H locs hw => ?_)
  refine lv_if_ne (tgt := 15) hx hb dX12_depends_10 (by decide) (fun hc => ?_) (fun hc => ?_)
  · replace hz := u_iff hz hc
    refine lv_iconst (v := 0) hx hb dX12_depends_15 (by decide) ?_
    refine lv_istore_n (lv' := [(2, .int 0), (0, .ref (G.2.2 0)), (1, .int p1)]) hx hb dX12_depends_16 rfl hl (by decide) rfl (fun ls hl => ?_)
    refine lv_iconst (v := 0) hx hb dX12_depends_17 (by decide) ?_
    refine lv_istore_n (lv' := [(3, .int 0), (2, .int 0), (0, .ref (G.2.2 0)), (1, .int p1)]) hx hb dX12_depends_18 rfl hl (by decide) rfl (fun ls hl => ?_)
    obtain ⟨J57_4, eJ57_4, hz⟩ := u_let hz
    have WJ57_4 : ∀ (x3 : Int32) (H : Heap) (locs : List Loc) (ls : Array Slot), J57_4 x3 = some z → u_W ZM G s1 s H locs → lv_has ls 4 [(0, .ref (G.2.2 0)), (1, .int p1), (2, .int x3)] → W p l e (u_rm 3) s m args below meth c H locs 0 0 (u_Qi below ZM G s args z.1 z.2) (F0 m 57 ls []) := by
      intro x3 H locs ls hz hw hl
      rw [eJ57_4] at hz
      refine lv_aload_n hx hb dX12_depends_57 rfl (lv_at hl 0 rfl) ?_
      refine lv_iconst (v := 0) hx hb dX12_depends_58 (by decide) ?_
      obtain ⟨s5, es5, hz⟩ := u_let hz
      refine u_puti2 cx hw P_X12_80 o_X12 rfl es5 dX12_depends_59 (fun H locs hw => ?_)
      refine lv_aload_n hx hb dX12_depends_62 rfl (lv_at hl 0 rfl) ?_
      refine lv_aload_n hx hb dX12_depends_63 rfl (lv_at hl 0 rfl) ?_
      refine lv_aload_n hx hb dX12_depends_64 rfl (lv_at hl 0 rfl) ?_
      refine u_getp cx hw F_X12_9 o_X12 rfl dX12_depends_65 ?_
      refine lv_iload_n hx hb dX12_depends_68 rfl (lv_at hl 1 rfl) ?_
      obtain ⟨v6, hv6, hz⟩ := u_bind hz
      refine u_callVi (As := [.ref (G.2.2 1), .int p1]) (rest := [.ref (G.2.2 0)]) cx hw LV_X12_310 (c_X12_reached l G N s5 1 p1 v6 hv6) o_X12 rfl (by decide) hl.1 rfl (Nat.le_of_ble_eq_true rfl) dX12_depends_69 rfl (fun H locs hw => ?_)
      obtain ⟨v7, hv7, hz⟩ := u_bind hz
      refine u_callSi (As := [.int v6]) (rest := [.ref (G.2.2 0)]) cx hw LS_X12_206 (c_J6_bitCount_0f7a4 l G ZM N s5 v6 v7 hv7) (by decide) hl.1 rfl (Nat.le_of_ble_eq_true rfl) dX12_depends_72 rfl (fun H locs hw => ?_)
      refine lv_i2l (v := (Int32.toInt64 v7)) hx hb dX12_depends_75 rfl ?_
      obtain ⟨s8, hs8, hz⟩ := u_bind hz
      refine u_callVv (As := [.long (Int32.toInt64 v7)]) (rest := []) cx hw LV_X12_260 (c_X12_tell l G N s5 (Int32.toInt64 v7) s8 hs8) o_X12 rfl (by decide) hl.1 rfl (Nat.le_of_ble_eq_true rfl) dX12_depends_76 rfl (fun H locs hw => ?_)
      refine lv_aload_n hx hb dX12_depends_79 rfl (lv_at hl 0 rfl) ?_
      refine lv_iload_n hx hb dX12_depends_80 rfl (lv_at hl 2 rfl) ?_
      refine lv_i2l (v := (Int32.toInt64 x3)) hx hb dX12_depends_81 rfl ?_
      obtain ⟨s9, hs9, hz⟩ := u_bind hz
      refine u_callVv (As := [.long (Int32.toInt64 x3)]) (rest := []) cx hw LV_X12_260 (c_X12_tell l G N s8 (Int32.toInt64 x3) s9 hs9) o_X12 rfl (by decide) hl.1 rfl (Nat.le_of_ble_eq_true rfl) dX12_depends_82 rfl (fun H locs hw => ?_)
      refine lv_aload_n hx hb dX12_depends_85 rfl (lv_at hl 0 rfl) ?_
      refine lv_aload_n hx hb dX12_depends_86 rfl (lv_at hl 0 rfl) ?_
      refine u_getp cx hw F_X12_9 o_X12 rfl dX12_depends_87 ?_
      refine lv_iload_n hx hb dX12_depends_90 rfl (lv_at hl 1 rfl) ?_
      obtain ⟨v10, hv10, hz⟩ := u_bind hz
      refine u_callVi (As := [.ref (G.2.2 1), .int p1]) (rest := []) cx hw LV_X12_310 (c_X12_reached l G N s9 1 p1 v10 hv10) o_X12 rfl (by decide) hl.1 rfl (Nat.le_of_ble_eq_true rfl) dX12_depends_91 rfl (fun H locs hw => ?_)
      exact u_iret cx hw (u_pair hz) dX12_depends_94
    have WL19_19 : ∀ (k : Nat) (x11 : Int32) (x12 : Int32) (H : Heap) (locs : List Loc) (ls : Array Slot), u_lp2 (b_X12_depends_19 N p1 s1 J57_4) k x11 x12 = some z → u_W ZM G s1 s H locs → lv_has ls 4 [(0, .ref (G.2.2 0)), (1, .int p1), (2, .int x11), (3, .int x12)] → W p l e (u_rm 3) s m args below meth c H locs 0 0 (u_Qi below ZM G s args z.1 z.2) (F0 m 19 ls []) := by
      intro k
      induction k with
      | zero =>
        intro x11 x12 H locs ls hz
        exact absurd hz (by intro h9; cases h9)
      | succ k ih19_13 =>
        intro x11 x12 H locs ls hz hw hl
        have hz : (b_X12_depends_19 N p1 s1 J57_4) (u_lp2 (b_X12_depends_19 N p1 s1 J57_4) k) x11 x12 = some z := hz
        unfold b_X12_depends_19 at hz
        refine lv_iload_n hx hb dX12_depends_19 rfl (lv_at hl 3 rfl) ?_
        refine lv_aload_n hx hb dX12_depends_20 rfl (lv_at hl 0 rfl) ?_
        refine u_geti cx hw F_X12_83 o_X12 rfl dX12_depends_21 ?_
        refine lv_icmp_ge (tgt := 57) hx hb dX12_depends_24 (by decide) (fun hc => ?_) (fun hc => ?_)
        · replace hz := u_ift hz hc
          exact WJ57_4 x11 _ _ _ hz hw (lv_sub hl [0, 1, 2] rfl)
        · replace hz := u_iff hz hc
          refine lv_iload_n hx hb dX12_depends_27 rfl (lv_at hl 2 rfl) ?_
          refine lv_aload_n hx hb dX12_depends_28 rfl (lv_at hl 0 rfl) ?_
          refine lv_aload_n hx hb dX12_depends_29 rfl (lv_at hl 0 rfl) ?_
          refine u_getp cx hw F_X12_9 o_X12 rfl dX12_depends_30 ?_
          refine lv_iload_n hx hb dX12_depends_33 rfl (lv_at hl 3 rfl) ?_
          obtain ⟨v14, hv14, hz⟩ := u_bind hz
          refine u_callVi (As := [.ref (G.2.2 1), .int x12]) (rest := [.int x11]) cx hw LV_X12_310 (c_X12_reached l G N s1 1 x12 v14 hv14) o_X12 rfl (by decide) hl.1 rfl (Nat.le_of_ble_eq_true rfl) dX12_depends_34 rfl (fun H locs hw => ?_)
          refine lv_iload_n hx hb dX12_depends_37 rfl (lv_at hl 1 rfl) ?_
          obtain ⟨v15, hv15, hz⟩ := u_bind hz
          refine u_callSi (As := [.int v14, .int p1]) (rest := [.int x11]) cx hw LS_X12_198 (c_X12_has l G N s1 v14 p1 v15 hv15) (by decide) hl.1 rfl (Nat.le_of_ble_eq_true rfl) dX12_depends_38 rfl (fun H locs hw => ?_)
          obtain ⟨J49_17, eJ49_17, hz⟩ := u_let hz
          have WJ49_17 : ∀ (t16 : Int32) (H : Heap) (locs : List Loc) (ls : Array Slot), J49_17 t16 = some z → u_W ZM G s1 s H locs → lv_has ls 4 [(0, .ref (G.2.2 0)), (1, .int p1), (3, .int x12)] → W p l e (u_rm 3) s m args below meth c H locs 0 0 (u_Qi below ZM G s args z.1 z.2) (F0 m 49 ls [.int t16, .int x11]) := by
            intro t16 H locs ls hz hw hl
            rw [eJ49_17] at hz
            refine lv_iadd hx hb dX12_depends_49 ?_
            obtain ⟨x18, ex18, hz⟩ := u_let hz
            refine u_topi ex18 ?_
            refine lv_istore_n (lv' := [(2, .int x18), (0, .ref (G.2.2 0)), (1, .int p1), (3, .int x12)]) hx hb dX12_depends_50 rfl hl (by decide) rfl (fun ls hl => ?_)
            obtain ⟨x19, ex19, hz⟩ := u_let hz
            refine lv_iinc (v := x19) (lv' := [(3, .int x19), (2, .int x18), (0, .ref (G.2.2 0)), (1, .int p1)]) hx hb dX12_depends_51 hl (k := 3) rfl (by rw [ex19]; rfl) (by decide) rfl (fun ls hl => ?_)
            refine lv_goto (tgt := 19) hx hb dX12_depends_54 (by decide) ?_
            exact ih19_13 x18 x19 _ _ _ hz hw (lv_sub hl [2, 3, 1, 0] rfl)
          refine lv_if_eq (tgt := 48) hx hb dX12_depends_41 (by decide) (fun hc => ?_) (fun hc => ?_)
          · replace hz := u_ift hz hc
            refine lv_iconst (v := 0) hx hb dX12_depends_48 (by decide) ?_
            exact WJ49_17 0 _ _ _ hz hw (lv_sub hl [0, 1, 3] rfl)
          · replace hz := u_iff hz hc
            refine lv_iconst (v := 1) hx hb dX12_depends_44 (by decide) ?_
            refine lv_goto (tgt := 49) hx hb dX12_depends_45 (by decide) ?_
            exact WJ49_17 1 _ _ _ hz hw (lv_sub hl [0, 1, 3] rfl)
    exact WL19_19 N 0 0 _ _ _ hz hw (lv_sub hl [2, 3, 1, 0] rfl)
  · replace hz := u_ift hz hc
    refine lv_iconst (v := (-1)) hx hb dX12_depends_13 (by decide) ?_
    exact u_iret cx hw (u_pair hz) dX12_depends_14
theorem dX12_outOf_0 : decode cX12_outOf 0 = .ok (.iconst 0, 1) := by decide +kernel
theorem dX12_outOf_1 : decode cX12_outOf 1 = .ok (.istore_n 2, 1) := by decide +kernel
theorem dX12_outOf_2 : decode cX12_outOf 2 = .ok (.iconst 0, 1) := by decide +kernel
theorem dX12_outOf_3 : decode cX12_outOf 3 = .ok (.istore_n 3, 1) := by decide +kernel
theorem dX12_outOf_4 : decode cX12_outOf 4 = .ok (.iload_n 3, 1) := by decide +kernel
theorem dX12_outOf_5 : decode cX12_outOf 5 = .ok (.aload_n 0, 1) := by decide +kernel
theorem dX12_outOf_6 : decode cX12_outOf 6 = .ok (.getfield 83, 3) := by decide +kernel
theorem dX12_outOf_9 : decode cX12_outOf 9 = .ok (.if_icmp .ge 40, 3) := by decide +kernel
theorem dX12_outOf_12 : decode cX12_outOf 12 = .ok (.iload_n 2, 1) := by decide +kernel
theorem dX12_outOf_13 : decode cX12_outOf 13 = .ok (.iload_n 1, 1) := by decide +kernel
theorem dX12_outOf_14 : decode cX12_outOf 14 = .ok (.iload_n 3, 1) := by decide +kernel
theorem dX12_outOf_15 : decode cX12_outOf 15 = .ok (.invokestatic 198, 3) := by decide +kernel
theorem dX12_outOf_18 : decode cX12_outOf 18 = .ok (.ifCond .eq 22, 3) := by decide +kernel
theorem dX12_outOf_21 : decode cX12_outOf 21 = .ok (.aload_n 0, 1) := by decide +kernel
theorem dX12_outOf_22 : decode cX12_outOf 22 = .ok (.aload_n 0, 1) := by decide +kernel
theorem dX12_outOf_23 : decode cX12_outOf 23 = .ok (.getfield 9, 3) := by decide +kernel
theorem dX12_outOf_26 : decode cX12_outOf 26 = .ok (.iload_n 3, 1) := by decide +kernel
theorem dX12_outOf_27 : decode cX12_outOf 27 = .ok (.invokevirtual 202, 3) := by decide +kernel
theorem dX12_outOf_30 : decode cX12_outOf 30 = .ok (.iload_n 1, 1) := by decide +kernel
theorem dX12_outOf_31 : decode cX12_outOf 31 = .ok (.iconst (-1), 1) := by decide +kernel
theorem dX12_outOf_32 : decode cX12_outOf 32 = .ok (.ixor, 1) := by decide +kernel
theorem dX12_outOf_33 : decode cX12_outOf 33 = .ok (.iand, 1) := by decide +kernel
theorem dX12_outOf_34 : decode cX12_outOf 34 = .ok (.invokestatic 206, 3) := by decide +kernel
theorem dX12_outOf_37 : decode cX12_outOf 37 = .ok (.goto 4, 3) := by decide +kernel
theorem dX12_outOf_40 : decode cX12_outOf 40 = .ok (.iconst 0, 1) := by decide +kernel
theorem dX12_outOf_41 : decode cX12_outOf 41 = .ok (.iadd, 1) := by decide +kernel
theorem dX12_outOf_42 : decode cX12_outOf 42 = .ok (.istore_n 2, 1) := by decide +kernel
theorem dX12_outOf_43 : decode cX12_outOf 43 = .ok (.iinc 3 1, 3) := by decide +kernel
theorem dX12_outOf_46 : decode cX12_outOf 46 = .ok (.goto (-42), 3) := by decide +kernel
theorem dX12_outOf_49 : decode cX12_outOf 49 = .ok (.iload_n 2, 1) := by decide +kernel
theorem dX12_outOf_50 : decode cX12_outOf 50 = .ok (.ireturn, 1) := by decide +kernel
def b_X12_outOf_4 (N : Nat) (σ : uS) (p1 : Int32) (J49_2 : Int32 → Option Int32) (rec4_5 : Int32 → Int32 → Option Int32) (x3 : Int32) (x4 : Int32) : Option Int32 :=
  if (σ.1 0 2) ≤ x4 then (J49_2 x3) else ((f_X12_has N σ p1 x4).bind fun v6 =>
  u_jn (fun (t7 : Int32) => (u_jn ((x3 + t7) : Int32) fun x9 =>
  u_jn (x4 + 1 : Int32) fun x10 =>
  rec4_5 x9 x10 : Option Int32)) fun J41_8 =>
  if v6 = 0 then (J41_8 0) else ((f_X12_sees N σ 1 x4).bind fun v11 =>
  (f_J6_bitCount_0f7a4 N σ (v11 &&& (p1 ^^^ (-1)))).bind fun v12 =>
  J41_8 v12))
def f_X12_outOf (N : Nat) (σ : uS) (p1 : Int32) : Option Int32 := u_jn (fun (x1 : Int32) => (some x1 : Option Int32)) fun J49_2 =>
  u_lp2 (b_X12_outOf_4 N σ p1 J49_2) N 0 0
set_option maxRecDepth 100000 in
set_option maxHeartbeats 4000000 in
theorem c_X12_outOf (l : Launch) (G : uG) (N : Nat) (σ : uS) (p1 : Int32) (z : Int32) (hz : f_X12_outOf N σ p1 = some z) : u_Mi l ZM G yX12_outOf cX12_outOf 4 .int 2 [.ref (G.2.2 0), .int p1] σ z σ := by
  refine u_Mi_of RX12 (by decide) rfl (Nat.le_of_ble_eq_true rfl) ?_
  intro p e s m args below meth c ls cx hw hl
  have hx := cx.1
  have hb := cx.2.1
  have hl : lv_has ls 4 [(0, .ref (G.2.2 0)), (1, .int p1)] := hl
  unfold f_X12_outOf at hz
  refine lv_iconst (v := 0) hx hb dX12_outOf_0 (by decide) ?_
  refine lv_istore_n (lv' := [(2, .int 0), (0, .ref (G.2.2 0)), (1, .int p1)]) hx hb dX12_outOf_1 rfl hl (by decide) rfl (fun ls hl => ?_)
  refine lv_iconst (v := 0) hx hb dX12_outOf_2 (by decide) ?_
  refine lv_istore_n (lv' := [(3, .int 0), (2, .int 0), (0, .ref (G.2.2 0)), (1, .int p1)]) hx hb dX12_outOf_3 rfl hl (by decide) rfl (fun ls hl => ?_)
  obtain ⟨J49_2, eJ49_2, hz⟩ := u_let hz
  have WJ49_2 : ∀ (x1 : Int32) (H : Heap) (locs : List Loc) (ls : Array Slot), J49_2 x1 = some z → u_W ZM G σ s H locs → lv_has ls 4 [(2, .int x1)] → W p l e (u_rm 2) s m args below meth c H locs 0 0 (u_Qi below ZM G s args z σ) (F0 m 49 ls []) := by
    intro x1 H locs ls hz hw hl
    rw [eJ49_2] at hz
    refine lv_iload_n hx hb dX12_outOf_49 rfl (lv_at hl 0 rfl) ?_
    exact u_iret cx hw ⟨Option.some.inj hz, rfl⟩ dX12_outOf_50
  have WL4_12 : ∀ (k : Nat) (x3 : Int32) (x4 : Int32) (H : Heap) (locs : List Loc) (ls : Array Slot), u_lp2 (b_X12_outOf_4 N σ p1 J49_2) k x3 x4 = some z → u_W ZM G σ s H locs → lv_has ls 4 [(0, .ref (G.2.2 0)), (1, .int p1), (2, .int x3), (3, .int x4)] → W p l e (u_rm 2) s m args below meth c H locs 0 0 (u_Qi below ZM G s args z σ) (F0 m 4 ls []) := by
    intro k
    induction k with
    | zero =>
      intro x3 x4 H locs ls hz
      exact absurd hz (by intro h9; cases h9)
    | succ k ih4_5 =>
      intro x3 x4 H locs ls hz hw hl
      have hz : (b_X12_outOf_4 N σ p1 J49_2) (u_lp2 (b_X12_outOf_4 N σ p1 J49_2) k) x3 x4 = some z := hz
      unfold b_X12_outOf_4 at hz
      refine lv_iload_n hx hb dX12_outOf_4 rfl (lv_at hl 3 rfl) ?_
      refine lv_aload_n hx hb dX12_outOf_5 rfl (lv_at hl 0 rfl) ?_
      refine u_geti cx hw F_X12_83 o_X12 rfl dX12_outOf_6 ?_
      refine lv_icmp_ge (tgt := 49) hx hb dX12_outOf_9 (by decide) (fun hc => ?_) (fun hc => ?_)
      · replace hz := u_ift hz hc
        exact WJ49_2 x3 _ _ _ hz hw (lv_sub hl [2] rfl)
      · replace hz := u_iff hz hc
        refine lv_iload_n hx hb dX12_outOf_12 rfl (lv_at hl 2 rfl) ?_
        refine lv_iload_n hx hb dX12_outOf_13 rfl (lv_at hl 1 rfl) ?_
        refine lv_iload_n hx hb dX12_outOf_14 rfl (lv_at hl 3 rfl) ?_
        obtain ⟨v6, hv6, hz⟩ := u_bind hz
        refine u_callSi (As := [.int p1, .int x4]) (rest := [.int x3]) cx hw LS_X12_198 (c_X12_has l G N σ p1 x4 v6 hv6) (by decide) hl.1 rfl (Nat.le_of_ble_eq_true rfl) dX12_outOf_15 rfl (fun H locs hw => ?_)
        obtain ⟨J41_8, eJ41_8, hz⟩ := u_let hz
        have WJ41_8 : ∀ (t7 : Int32) (H : Heap) (locs : List Loc) (ls : Array Slot), J41_8 t7 = some z → u_W ZM G σ s H locs → lv_has ls 4 [(0, .ref (G.2.2 0)), (1, .int p1), (3, .int x4)] → W p l e (u_rm 2) s m args below meth c H locs 0 0 (u_Qi below ZM G s args z σ) (F0 m 41 ls [.int t7, .int x3]) := by
          intro t7 H locs ls hz hw hl
          rw [eJ41_8] at hz
          refine lv_iadd hx hb dX12_outOf_41 ?_
          obtain ⟨x9, ex9, hz⟩ := u_let hz
          refine u_topi ex9 ?_
          refine lv_istore_n (lv' := [(2, .int x9), (0, .ref (G.2.2 0)), (1, .int p1), (3, .int x4)]) hx hb dX12_outOf_42 rfl hl (by decide) rfl (fun ls hl => ?_)
          obtain ⟨x10, ex10, hz⟩ := u_let hz
          refine lv_iinc (v := x10) (lv' := [(3, .int x10), (2, .int x9), (0, .ref (G.2.2 0)), (1, .int p1)]) hx hb dX12_outOf_43 hl (k := 3) rfl (by rw [ex10]; rfl) (by decide) rfl (fun ls hl => ?_)
          refine lv_goto (tgt := 4) hx hb dX12_outOf_46 (by decide) ?_
          exact ih4_5 x9 x10 _ _ _ hz hw (lv_sub hl [2, 3, 1, 0] rfl)
        refine lv_if_eq (tgt := 40) hx hb dX12_outOf_18 (by decide) (fun hc => ?_) (fun hc => ?_)
        · replace hz := u_ift hz hc
          refine lv_iconst (v := 0) hx hb dX12_outOf_40 (by decide) ?_
          exact WJ41_8 0 _ _ _ hz hw (lv_sub hl [0, 1, 3] rfl)
        · replace hz := u_iff hz hc
          refine lv_aload_n hx hb dX12_outOf_21 rfl (lv_at hl 0 rfl) ?_
          refine lv_aload_n hx hb dX12_outOf_22 rfl (lv_at hl 0 rfl) ?_
          refine u_getp cx hw F_X12_9 o_X12 rfl dX12_outOf_23 ?_
          refine lv_iload_n hx hb dX12_outOf_26 rfl (lv_at hl 3 rfl) ?_
          obtain ⟨v11, hv11, hz⟩ := u_bind hz
          refine u_callVi (As := [.ref (G.2.2 1), .int x4]) (rest := [.int x3]) cx hw LV_X12_202 (c_X12_sees l G N σ 1 x4 v11 hv11) o_X12 rfl (by decide) hl.1 rfl (Nat.le_of_ble_eq_true rfl) dX12_outOf_27 rfl (fun H locs hw => ?_)
          refine lv_iload_n hx hb dX12_outOf_30 rfl (lv_at hl 1 rfl) ?_
          refine lv_iconst (v := (-1)) hx hb dX12_outOf_31 (by decide) ?_
          refine lv_ixor hx hb dX12_outOf_32 ?_
          refine lv_iand hx hb dX12_outOf_33 ?_
          obtain ⟨v12, hv12, hz⟩ := u_bind hz
          refine u_callSi (As := [.int (v11 &&& (p1 ^^^ (-1)))]) (rest := [.int x3]) cx hw LS_X12_206 (c_J6_bitCount_0f7a4 l G ZM N σ (v11 &&& (p1 ^^^ (-1))) v12 hv12) (by decide) hl.1 rfl (Nat.le_of_ble_eq_true rfl) dX12_outOf_34 rfl (fun H locs hw => ?_)
          refine lv_goto (tgt := 41) hx hb dX12_outOf_37 (by decide) ?_
          exact WJ41_8 v12 _ _ _ hz hw (lv_sub hl [0, 1, 3] rfl)
  exact WL4_12 N 0 0 _ _ _ hz hw (lv_sub hl [2, 3, 1, 0] rfl)
theorem dX12_cut_0 : decode cX12_cut 0 = .ok (.aload_n 0, 1) := by decide +kernel
theorem dX12_cut_1 : decode cX12_cut 1 = .ok (.iconst 0, 1) := by decide +kernel
theorem dX12_cut_2 : decode cX12_cut 2 = .ok (.putfield 77, 3) := by decide +kernel
theorem dX12_cut_5 : decode cX12_cut 5 = .ok (.aload_n 0, 1) := by decide +kernel
theorem dX12_cut_6 : decode cX12_cut 6 = .ok (.iload_n 1, 1) := by decide +kernel
theorem dX12_cut_7 : decode cX12_cut 7 = .ok (.iload_n 2, 1) := by decide +kernel
theorem dX12_cut_8 : decode cX12_cut 8 = .ok (.invokevirtual 267, 3) := by decide +kernel
theorem dX12_cut_11 : decode cX12_cut 11 = .ok (.ifCond .ne 5, 3) := by decide +kernel
theorem dX12_cut_14 : decode cX12_cut 14 = .ok (.iconst (-1), 1) := by decide +kernel
theorem dX12_cut_15 : decode cX12_cut 15 = .ok (.ireturn, 1) := by decide +kernel
theorem dX12_cut_16 : decode cX12_cut 16 = .ok (.iconst (-1), 1) := by decide +kernel
theorem dX12_cut_17 : decode cX12_cut 17 = .ok (.istore_n 3, 1) := by decide +kernel
theorem dX12_cut_18 : decode cX12_cut 18 = .ok (.ldc_w 298, 3) := by decide +kernel
theorem dX12_cut_21 : decode cX12_cut 21 = .ok (.istore 4, 2) := by decide +kernel
theorem dX12_cut_23 : decode cX12_cut 23 = .ok (.iconst 0, 1) := by decide +kernel
theorem dX12_cut_24 : decode cX12_cut 24 = .ok (.istore 5, 2) := by decide +kernel
theorem dX12_cut_26 : decode cX12_cut 26 = .ok (.iload 5, 2) := by decide +kernel
theorem dX12_cut_28 : decode cX12_cut 28 = .ok (.aload_n 0, 1) := by decide +kernel
theorem dX12_cut_29 : decode cX12_cut 29 = .ok (.invokevirtual 94, 3) := by decide +kernel
theorem dX12_cut_32 : decode cX12_cut 32 = .ok (.if_icmp .gt 52, 3) := by decide +kernel
theorem dX12_cut_35 : decode cX12_cut 35 = .ok (.iload 5, 2) := by decide +kernel
theorem dX12_cut_37 : decode cX12_cut 37 = .ok (.iload_n 1, 1) := by decide +kernel
theorem dX12_cut_38 : decode cX12_cut 38 = .ok (.invokestatic 198, 3) := by decide +kernel
theorem dX12_cut_41 : decode cX12_cut 41 = .ok (.ifCond .eq 37, 3) := by decide +kernel
theorem dX12_cut_44 : decode cX12_cut 44 = .ok (.iload 5, 2) := by decide +kernel
theorem dX12_cut_46 : decode cX12_cut 46 = .ok (.iload_n 2, 1) := by decide +kernel
theorem dX12_cut_47 : decode cX12_cut 47 = .ok (.invokestatic 198, 3) := by decide +kernel
theorem dX12_cut_50 : decode cX12_cut 50 = .ok (.ifCond .ne 28, 3) := by decide +kernel
theorem dX12_cut_53 : decode cX12_cut 53 = .ok (.aload_n 0, 1) := by decide +kernel
theorem dX12_cut_54 : decode cX12_cut 54 = .ok (.iload 5, 2) := by decide +kernel
theorem dX12_cut_56 : decode cX12_cut 56 = .ok (.invokevirtual 313, 3) := by decide +kernel
theorem dX12_cut_59 : decode cX12_cut 59 = .ok (.iload 4, 2) := by decide +kernel
theorem dX12_cut_61 : decode cX12_cut 61 = .ok (.if_icmp .lt 6, 3) := by decide +kernel
theorem dX12_cut_64 : decode cX12_cut 64 = .ok (.goto 14, 3) := by decide +kernel
theorem dX12_cut_67 : decode cX12_cut 67 = .ok (.iload 5, 2) := by decide +kernel
theorem dX12_cut_69 : decode cX12_cut 69 = .ok (.istore_n 3, 1) := by decide +kernel
theorem dX12_cut_70 : decode cX12_cut 70 = .ok (.aload_n 0, 1) := by decide +kernel
theorem dX12_cut_71 : decode cX12_cut 71 = .ok (.iload 5, 2) := by decide +kernel
theorem dX12_cut_73 : decode cX12_cut 73 = .ok (.invokevirtual 313, 3) := by decide +kernel
theorem dX12_cut_76 : decode cX12_cut 76 = .ok (.istore 4, 2) := by decide +kernel
theorem dX12_cut_78 : decode cX12_cut 78 = .ok (.iinc 5 1, 3) := by decide +kernel
theorem dX12_cut_81 : decode cX12_cut 81 = .ok (.goto (-55), 3) := by decide +kernel
theorem dX12_cut_84 : decode cX12_cut 84 = .ok (.aload_n 0, 1) := by decide +kernel
theorem dX12_cut_85 : decode cX12_cut 85 = .ok (.iconst 0, 1) := by decide +kernel
theorem dX12_cut_86 : decode cX12_cut 86 = .ok (.putfield 80, 3) := by decide +kernel
theorem dX12_cut_89 : decode cX12_cut 89 = .ok (.aload_n 0, 1) := by decide +kernel
theorem dX12_cut_90 : decode cX12_cut 90 = .ok (.iload_n 3, 1) := by decide +kernel
theorem dX12_cut_91 : decode cX12_cut 91 = .ok (.i2l, 1) := by decide +kernel
theorem dX12_cut_92 : decode cX12_cut 92 = .ok (.invokevirtual 260, 3) := by decide +kernel
theorem dX12_cut_95 : decode cX12_cut 95 = .ok (.iload 4, 2) := by decide +kernel
theorem dX12_cut_97 : decode cX12_cut 97 = .ok (.ireturn, 1) := by decide +kernel
def b_X12_cut_26 (N : Nat) (p1 : Int32) (p2 : Int32) (s1 : uS) (J84_5 : Int32 → Int32 → Option (Int32 × uS)) (rec26_11 : Int32 → Int32 → Int32 → Option (Int32 × uS)) (x8 : Int32) (x9 : Int32) (x10 : Int32) : Option (Int32 × uS) :=
  (f_X12_all N s1).bind fun v12 =>
  if v12 < x10 then (J84_5 x8 x9) else ((f_X12_has N s1 x10 p1).bind fun v13 =>
  u_jn (fun (x14 : Int32) (x15 : Int32) => (u_jn (x10 + 1 : Int32) fun x17 =>
  rec26_11 x14 x15 x17 : Option (Int32 × uS))) fun J78_16 =>
  if v13 = 0 then (J78_16 x8 x9) else ((f_X12_has N s1 x10 p2).bind fun v18 =>
  if v18 = 0 then ((f_X12_outOf N s1 x10).bind fun v19 =>
  if v19 < x9 then ((f_X12_outOf N s1 x10).bind fun v20 =>
  J78_16 x10 v20) else (J78_16 x8 x9)) else (J78_16 x8 x9)))
def f_X12_cut (N : Nat) (σ : uS) (p1 : Int32) (p2 : Int32) : Option (Int32 × uS) := u_jn (u_pI σ 0 8 0) fun s1 =>
  (f_X12_areTwo N s1 p1 p2).bind fun v2 =>
  if v2 = 0 then (some ((-1), s1)) else (u_jn (fun (x3 : Int32) (x4 : Int32) => (u_jn (u_pI s1 0 7 0) fun s6 =>
  (f_X12_tell N s6 (Int32.toInt64 x3)).bind fun s7 =>
  some (x4, s7) : Option (Int32 × uS))) fun J84_5 =>
  u_lp3 (b_X12_cut_26 N p1 p2 s1 J84_5) N (-1) 1000000 0)
set_option maxRecDepth 100000 in
set_option maxHeartbeats 4000000 in
theorem c_X12_cut (l : Launch) (G : uG) (N : Nat) (σ : uS) (p1 : Int32) (p2 : Int32) (z : (Int32 × uS)) (hz : f_X12_cut N σ p1 p2 = some z) : u_Mi l ZM G yX12_cut cX12_cut 6 .int 3 [.ref (G.2.2 0), .int p1, .int p2] σ z.1 z.2 := by
  refine u_Mi_of RX12 (by decide) rfl (Nat.le_of_ble_eq_true rfl) ?_
  intro p e s m args below meth c ls cx hw hl
  have hx := cx.1
  have hb := cx.2.1
  have hl : lv_has ls 6 [(0, .ref (G.2.2 0)), (1, .int p1), (2, .int p2)] := hl
  unfold f_X12_cut at hz
  refine lv_aload_n hx hb dX12_cut_0 rfl (lv_at hl 0 rfl) ?_
  refine lv_iconst (v := 0) hx hb dX12_cut_1 (by decide) ?_
  obtain ⟨s1, es1, hz⟩ := u_let hz
  refine u_puti2 cx hw P_X12_77 o_X12 rfl es1 dX12_cut_2 (fun H locs hw => ?_)
  refine lv_aload_n hx hb dX12_cut_5 rfl (lv_at hl 0 rfl) ?_
  refine lv_iload_n hx hb dX12_cut_6 rfl (lv_at hl 1 rfl) ?_
  refine lv_iload_n hx hb dX12_cut_7 rfl (lv_at hl 2 rfl) ?_
  obtain ⟨v2, hv2, hz⟩ := u_bind hz
  refine u_callVi (As := [.int p1, .int p2]) (rest := []) cx hw LV_X12_267 (c_X12_areTwo l G N s1 p1 p2 v2 hv2) o_X12 rfl (by decide) hl.1 rfl (Nat.le_of_ble_eq_true rfl) dX12_cut_8 rfl (fun H locs hw => ?_)
  refine lv_if_ne (tgt := 16) hx hb dX12_cut_11 (by decide) (fun hc => ?_) (fun hc => ?_)
  · replace hz := u_iff hz hc
    refine lv_iconst (v := (-1)) hx hb dX12_cut_16 (by decide) ?_
    refine lv_istore_n (lv' := [(3, .int (-1)), (0, .ref (G.2.2 0)), (1, .int p1), (2, .int p2)]) hx hb dX12_cut_17 rfl hl (by decide) rfl (fun ls hl => ?_)
    refine u_ldcw cx q_1480 dX12_cut_18 ?_
    refine lv_istore (lv' := [(4, .int 1000000), (3, .int (-1)), (0, .ref (G.2.2 0)), (1, .int p1), (2, .int p2)]) hx hb dX12_cut_21 hl (by decide) rfl (fun ls hl => ?_)
    refine lv_iconst (v := 0) hx hb dX12_cut_23 (by decide) ?_
    refine lv_istore (lv' := [(5, .int 0), (4, .int 1000000), (3, .int (-1)), (0, .ref (G.2.2 0)), (1, .int p1), (2, .int p2)]) hx hb dX12_cut_24 hl (by decide) rfl (fun ls hl => ?_)
    obtain ⟨J84_5, eJ84_5, hz⟩ := u_let hz
    have WJ84_5 : ∀ (x3 : Int32) (x4 : Int32) (H : Heap) (locs : List Loc) (ls : Array Slot), J84_5 x3 x4 = some z → u_W ZM G s1 s H locs → lv_has ls 6 [(0, .ref (G.2.2 0)), (3, .int x3), (4, .int x4)] → W p l e (u_rm 3) s m args below meth c H locs 0 0 (u_Qi below ZM G s args z.1 z.2) (F0 m 84 ls []) := by
      intro x3 x4 H locs ls hz hw hl
      rw [eJ84_5] at hz
      refine lv_aload_n hx hb dX12_cut_84 rfl (lv_at hl 0 rfl) ?_
      refine lv_iconst (v := 0) hx hb dX12_cut_85 (by decide) ?_
      obtain ⟨s6, es6, hz⟩ := u_let hz
      refine u_puti2 cx hw P_X12_80 o_X12 rfl es6 dX12_cut_86 (fun H locs hw => ?_)
      refine lv_aload_n hx hb dX12_cut_89 rfl (lv_at hl 0 rfl) ?_
      refine lv_iload_n hx hb dX12_cut_90 rfl (lv_at hl 1 rfl) ?_
      refine lv_i2l (v := (Int32.toInt64 x3)) hx hb dX12_cut_91 rfl ?_
      obtain ⟨s7, hs7, hz⟩ := u_bind hz
      refine u_callVv (As := [.long (Int32.toInt64 x3)]) (rest := []) cx hw LV_X12_260 (c_X12_tell l G N s6 (Int32.toInt64 x3) s7 hs7) o_X12 rfl (by decide) hl.1 rfl (Nat.le_of_ble_eq_true rfl) dX12_cut_92 rfl (fun H locs hw => ?_)
      refine lv_iload hx hb dX12_cut_95 (lv_at hl 2 rfl) ?_
      exact u_iret cx hw (u_pair hz) dX12_cut_97
    have WL26_20 : ∀ (k : Nat) (x8 : Int32) (x9 : Int32) (x10 : Int32) (H : Heap) (locs : List Loc) (ls : Array Slot), u_lp3 (b_X12_cut_26 N p1 p2 s1 J84_5) k x8 x9 x10 = some z → u_W ZM G s1 s H locs → lv_has ls 6 [(0, .ref (G.2.2 0)), (1, .int p1), (2, .int p2), (3, .int x8), (4, .int x9), (5, .int x10)] → W p l e (u_rm 3) s m args below meth c H locs 0 0 (u_Qi below ZM G s args z.1 z.2) (F0 m 26 ls []) := by
      intro k
      induction k with
      | zero =>
        intro x8 x9 x10 H locs ls hz
        exact absurd hz (by intro h9; cases h9)
      | succ k ih26_11 =>
        intro x8 x9 x10 H locs ls hz hw hl
        have hz : (b_X12_cut_26 N p1 p2 s1 J84_5) (u_lp3 (b_X12_cut_26 N p1 p2 s1 J84_5) k) x8 x9 x10 = some z := hz
        unfold b_X12_cut_26 at hz
        refine lv_iload hx hb dX12_cut_26 (lv_at hl 5 rfl) ?_
        refine lv_aload_n hx hb dX12_cut_28 rfl (lv_at hl 0 rfl) ?_
        obtain ⟨v12, hv12, hz⟩ := u_bind hz
        refine u_callVi (As := []) (rest := [.int x10]) cx hw LV_X12_94 (c_X12_all l G N s1 v12 hv12) o_X12 rfl (by decide) hl.1 rfl (Nat.le_of_ble_eq_true rfl) dX12_cut_29 rfl (fun H locs hw => ?_)
        refine lv_icmp_gt (tgt := 84) hx hb dX12_cut_32 (by decide) (fun hc => ?_) (fun hc => ?_)
        · replace hz := u_ift hz hc
          exact WJ84_5 x8 x9 _ _ _ hz hw (lv_sub hl [0, 3, 4] rfl)
        · replace hz := u_iff hz hc
          refine lv_iload hx hb dX12_cut_35 (lv_at hl 5 rfl) ?_
          refine lv_iload_n hx hb dX12_cut_37 rfl (lv_at hl 1 rfl) ?_
          obtain ⟨v13, hv13, hz⟩ := u_bind hz
          refine u_callSi (As := [.int x10, .int p1]) (rest := []) cx hw LS_X12_198 (c_X12_has l G N s1 x10 p1 v13 hv13) (by decide) hl.1 rfl (Nat.le_of_ble_eq_true rfl) dX12_cut_38 rfl (fun H locs hw => ?_)
          obtain ⟨J78_16, eJ78_16, hz⟩ := u_let hz
          have WJ78_16 : ∀ (x14 : Int32) (x15 : Int32) (H : Heap) (locs : List Loc) (ls : Array Slot), J78_16 x14 x15 = some z → u_W ZM G s1 s H locs → lv_has ls 6 [(0, .ref (G.2.2 0)), (1, .int p1), (2, .int p2), (3, .int x14), (4, .int x15), (5, .int x10)] → W p l e (u_rm 3) s m args below meth c H locs 0 0 (u_Qi below ZM G s args z.1 z.2) (F0 m 78 ls []) := by
            intro x14 x15 H locs ls hz hw hl
            rw [eJ78_16] at hz
            obtain ⟨x17, ex17, hz⟩ := u_let hz
            refine lv_iinc (v := x17) (lv' := [(5, .int x17), (0, .ref (G.2.2 0)), (1, .int p1), (2, .int p2), (3, .int x14), (4, .int x15)]) hx hb dX12_cut_78 hl (k := 5) rfl (by rw [ex17]; rfl) (by decide) rfl (fun ls hl => ?_)
            refine lv_goto (tgt := 26) hx hb dX12_cut_81 (by decide) ?_
            exact ih26_11 x14 x15 x17 _ _ _ hz hw (lv_sub hl [1, 2, 3, 4, 5, 0] rfl)
          refine lv_if_eq (tgt := 78) hx hb dX12_cut_41 (by decide) (fun hc => ?_) (fun hc => ?_)
          · replace hz := u_ift hz hc
            exact WJ78_16 x8 x9 _ _ _ hz hw (lv_sub hl [0, 1, 2, 3, 4, 5] rfl)
          · replace hz := u_iff hz hc
            refine lv_iload hx hb dX12_cut_44 (lv_at hl 5 rfl) ?_
            refine lv_iload_n hx hb dX12_cut_46 rfl (lv_at hl 2 rfl) ?_
            obtain ⟨v18, hv18, hz⟩ := u_bind hz
            refine u_callSi (As := [.int x10, .int p2]) (rest := []) cx hw LS_X12_198 (c_X12_has l G N s1 x10 p2 v18 hv18) (by decide) hl.1 rfl (Nat.le_of_ble_eq_true rfl) dX12_cut_47 rfl (fun H locs hw => ?_)
            refine lv_if_ne (tgt := 78) hx hb dX12_cut_50 (by decide) (fun hc => ?_) (fun hc => ?_)
            · replace hz := u_iff hz hc
              exact WJ78_16 x8 x9 _ _ _ hz hw (lv_sub hl [0, 1, 2, 3, 4, 5] rfl)
            · replace hz := u_ift hz hc
              refine lv_aload_n hx hb dX12_cut_53 rfl (lv_at hl 0 rfl) ?_
              refine lv_iload hx hb dX12_cut_54 (lv_at hl 5 rfl) ?_
              obtain ⟨v19, hv19, hz⟩ := u_bind hz
              refine u_callVi (As := [.int x10]) (rest := []) cx hw LV_X12_313 (c_X12_outOf l G N s1 x10 v19 hv19) o_X12 rfl (by decide) hl.1 rfl (Nat.le_of_ble_eq_true rfl) dX12_cut_56 rfl (fun H locs hw => ?_)
              refine lv_iload hx hb dX12_cut_59 (lv_at hl 4 rfl) ?_
              refine lv_icmp_lt (tgt := 67) hx hb dX12_cut_61 (by decide) (fun hc => ?_) (fun hc => ?_)
              · replace hz := u_ift hz hc
                refine lv_iload hx hb dX12_cut_67 (lv_at hl 5 rfl) ?_
                refine lv_istore_n (lv' := [(3, .int x10), (0, .ref (G.2.2 0)), (1, .int p1), (2, .int p2), (4, .int x9), (5, .int x10)]) hx hb dX12_cut_69 rfl hl (by decide) rfl (fun ls hl => ?_)
                refine lv_aload_n hx hb dX12_cut_70 rfl (lv_at hl 1 rfl) ?_
                refine lv_iload hx hb dX12_cut_71 (lv_at hl 5 rfl) ?_
                obtain ⟨v20, hv20, hz⟩ := u_bind hz
                refine u_callVi (As := [.int x10]) (rest := []) cx hw LV_X12_313 (c_X12_outOf l G N s1 x10 v20 hv20) o_X12 rfl (by decide) hl.1 rfl (Nat.le_of_ble_eq_true rfl) dX12_cut_73 rfl (fun H locs hw => ?_)
                refine lv_istore (lv' := [(4, .int v20), (3, .int x10), (0, .ref (G.2.2 0)), (1, .int p1), (2, .int p2), (5, .int x10)]) hx hb dX12_cut_76 hl (by decide) rfl (fun ls hl => ?_)
                exact WJ78_16 x10 v20 _ _ _ hz hw (lv_sub hl [2, 3, 4, 1, 0, 5] rfl)
              · replace hz := u_iff hz hc
                refine lv_goto (tgt := 78) hx hb dX12_cut_64 (by decide) ?_
                exact WJ78_16 x8 x9 _ _ _ hz hw (lv_sub hl [0, 1, 2, 3, 4, 5] rfl)
    exact WL26_20 N (-1) 1000000 0 _ _ _ hz hw (lv_sub hl [3, 4, 5, 2, 1, 0] rfl)
  · replace hz := u_ift hz hc
    refine lv_iconst (v := (-1)) hx hb dX12_cut_14 (by decide) ?_
    exact u_iret cx hw (u_pair hz) dX12_cut_15
theorem dX12_knows_0 : decode cX12_knows 0 = .ok (.aload_n 0, 1) := by decide +kernel
theorem dX12_knows_1 : decode cX12_knows 1 = .ok (.iconst 0, 1) := by decide +kernel
theorem dX12_knows_2 : decode cX12_knows 2 = .ok (.putfield 77, 3) := by decide +kernel
theorem dX12_knows_5 : decode cX12_knows 5 = .ok (.iload_n 1, 1) := by decide +kernel
theorem dX12_knows_6 : decode cX12_knows 6 = .ok (.iconst 0, 1) := by decide +kernel
theorem dX12_knows_7 : decode cX12_knows 7 = .ok (.bipush 9, 2) := by decide +kernel
theorem dX12_knows_9 : decode cX12_knows 9 = .ok (.invokestatic 86, 3) := by decide +kernel
theorem dX12_knows_12 : decode cX12_knows 12 = .ok (.ifCond .ne 5, 3) := by decide +kernel
theorem dX12_knows_15 : decode cX12_knows 15 = .ok (.iconst (-1), 1) := by decide +kernel
theorem dX12_knows_16 : decode cX12_knows 16 = .ok (.ireturn, 1) := by decide +kernel
theorem dX12_knows_17 : decode cX12_knows 17 = .ok (.aload_n 0, 1) := by decide +kernel
theorem dX12_knows_18 : decode cX12_knows 18 = .ok (.invokevirtual 94, 3) := by decide +kernel
theorem dX12_knows_21 : decode cX12_knows 21 = .ok (.aload_n 0, 1) := by decide +kernel
theorem dX12_knows_22 : decode cX12_knows 22 = .ok (.aload_n 0, 1) := by decide +kernel
theorem dX12_knows_23 : decode cX12_knows 23 = .ok (.getfield 9, 3) := by decide +kernel
theorem dX12_knows_26 : decode cX12_knows 26 = .ok (.invokevirtual 214, 3) := by decide +kernel
theorem dX12_knows_29 : decode cX12_knows 29 = .ok (.iconst (-1), 1) := by decide +kernel
theorem dX12_knows_30 : decode cX12_knows 30 = .ok (.ixor, 1) := by decide +kernel
theorem dX12_knows_31 : decode cX12_knows 31 = .ok (.iand, 1) := by decide +kernel
theorem dX12_knows_32 : decode cX12_knows 32 = .ok (.istore_n 2, 1) := by decide +kernel
theorem dX12_knows_33 : decode cX12_knows 33 = .ok (.iload_n 2, 1) := by decide +kernel
theorem dX12_knows_34 : decode cX12_knows 34 = .ok (.istore_n 3, 1) := by decide +kernel
theorem dX12_knows_35 : decode cX12_knows 35 = .ok (.iconst 0, 1) := by decide +kernel
theorem dX12_knows_36 : decode cX12_knows 36 = .ok (.istore 4, 2) := by decide +kernel
theorem dX12_knows_38 : decode cX12_knows 38 = .ok (.iconst 1, 1) := by decide +kernel
theorem dX12_knows_39 : decode cX12_knows 39 = .ok (.istore 5, 2) := by decide +kernel
theorem dX12_knows_41 : decode cX12_knows 41 = .ok (.iload 5, 2) := by decide +kernel
theorem dX12_knows_43 : decode cX12_knows 43 = .ok (.bipush 17, 2) := by decide +kernel
theorem dX12_knows_45 : decode cX12_knows 45 = .ok (.if_icmp .gt 46, 3) := by decide +kernel
theorem dX12_knows_48 : decode cX12_knows 48 = .ok (.aload_n 0, 1) := by decide +kernel
theorem dX12_knows_49 : decode cX12_knows 49 = .ok (.iload_n 2, 1) := by decide +kernel
theorem dX12_knows_50 : decode cX12_knows 50 = .ok (.invokevirtual 316, 3) := by decide +kernel
theorem dX12_knows_53 : decode cX12_knows 53 = .ok (.istore 6, 2) := by decide +kernel
theorem dX12_knows_55 : decode cX12_knows 55 = .ok (.iload 6, 2) := by decide +kernel
theorem dX12_knows_57 : decode cX12_knows 57 = .ok (.iload_n 2, 1) := by decide +kernel
theorem dX12_knows_58 : decode cX12_knows 58 = .ok (.if_icmp .ne 8, 3) := by decide +kernel
theorem dX12_knows_61 : decode cX12_knows 61 = .ok (.iload 4, 2) := by decide +kernel
theorem dX12_knows_63 : decode cX12_knows 63 = .ok (.goto 5, 3) := by decide +kernel
theorem dX12_knows_66 : decode cX12_knows 66 = .ok (.iload 5, 2) := by decide +kernel
theorem dX12_knows_68 : decode cX12_knows 68 = .ok (.istore 4, 2) := by decide +kernel
theorem dX12_knows_70 : decode cX12_knows 70 = .ok (.iload 6, 2) := by decide +kernel
theorem dX12_knows_72 : decode cX12_knows 72 = .ok (.istore_n 2, 1) := by decide +kernel
theorem dX12_knows_73 : decode cX12_knows 73 = .ok (.iload 5, 2) := by decide +kernel
theorem dX12_knows_75 : decode cX12_knows 75 = .ok (.iload_n 1, 1) := by decide +kernel
theorem dX12_knows_76 : decode cX12_knows 76 = .ok (.if_icmp .gt 7, 3) := by decide +kernel
theorem dX12_knows_79 : decode cX12_knows 79 = .ok (.iload_n 2, 1) := by decide +kernel
theorem dX12_knows_80 : decode cX12_knows 80 = .ok (.goto 4, 3) := by decide +kernel
theorem dX12_knows_83 : decode cX12_knows 83 = .ok (.iload_n 3, 1) := by decide +kernel
theorem dX12_knows_84 : decode cX12_knows 84 = .ok (.istore_n 3, 1) := by decide +kernel
theorem dX12_knows_85 : decode cX12_knows 85 = .ok (.iinc 5 1, 3) := by decide +kernel
theorem dX12_knows_88 : decode cX12_knows 88 = .ok (.goto (-47), 3) := by decide +kernel
theorem dX12_knows_91 : decode cX12_knows 91 = .ok (.aload_n 0, 1) := by decide +kernel
theorem dX12_knows_92 : decode cX12_knows 92 = .ok (.iconst 0, 1) := by decide +kernel
theorem dX12_knows_93 : decode cX12_knows 93 = .ok (.putfield 80, 3) := by decide +kernel
theorem dX12_knows_96 : decode cX12_knows 96 = .ok (.aload_n 0, 1) := by decide +kernel
theorem dX12_knows_97 : decode cX12_knows 97 = .ok (.iload_n 3, 1) := by decide +kernel
theorem dX12_knows_98 : decode cX12_knows 98 = .ok (.invokestatic 206, 3) := by decide +kernel
theorem dX12_knows_101 : decode cX12_knows 101 = .ok (.i2l, 1) := by decide +kernel
theorem dX12_knows_102 : decode cX12_knows 102 = .ok (.invokevirtual 260, 3) := by decide +kernel
theorem dX12_knows_105 : decode cX12_knows 105 = .ok (.aload_n 0, 1) := by decide +kernel
theorem dX12_knows_106 : decode cX12_knows 106 = .ok (.iload 4, 2) := by decide +kernel
theorem dX12_knows_108 : decode cX12_knows 108 = .ok (.i2l, 1) := by decide +kernel
theorem dX12_knows_109 : decode cX12_knows 109 = .ok (.invokevirtual 260, 3) := by decide +kernel
theorem dX12_knows_112 : decode cX12_knows 112 = .ok (.iload_n 3, 1) := by decide +kernel
theorem dX12_knows_113 : decode cX12_knows 113 = .ok (.ireturn, 1) := by decide +kernel
def b_X12_knows_41 (N : Nat) (p1 : Int32) (s1 : uS) (J91_8 : Int32 → Int32 → Option (Int32 × uS)) (rec41_17 : Int32 → Int32 → Int32 → Int32 → Option (Int32 × uS)) (x13 : Int32) (x14 : Int32) (x15 : Int32) (x16 : Int32) : Option (Int32 × uS) :=
  if 17 < x16 then (J91_8 x14 x15) else ((f_X12_knowBy N s1 x13).bind fun v18 =>
  u_jn (fun (t19 : Int32) => (u_jn (fun (t21 : Int32) => (u_jn (x16 + 1 : Int32) fun x23 =>
  rec41_17 v18 t21 t19 x23 : Option (Int32 × uS))) fun J84_22 =>
  if p1 < x16 then (J84_22 x14) else (J84_22 v18) : Option (Int32 × uS))) fun J68_20 =>
  if v18 = x13 then (J68_20 x15) else (J68_20 x16))
def f_X12_knows (N : Nat) (σ : uS) (p1 : Int32) : Option (Int32 × uS) := u_jn (u_pI σ 0 8 0) fun s1 =>
  (f_X12_in N s1 p1 0 9).bind fun v2 =>
  if v2 = 0 then (some ((-1), s1)) else ((f_X12_all N s1).bind fun v3 =>
  (f_X12_inBits N s1 1).bind fun v4 =>
  u_jn ((v3 &&& (v4 ^^^ (-1))) : Int32) fun x5 =>
  u_jn (fun (x6 : Int32) (x7 : Int32) => (u_jn (u_pI s1 0 7 0) fun s9 =>
  (f_J6_bitCount_0f7a4 N s9 x6).bind fun v10 =>
  (f_X12_tell N s9 (Int32.toInt64 v10)).bind fun s11 =>
  (f_X12_tell N s11 (Int32.toInt64 x7)).bind fun s12 =>
  some (x6, s12) : Option (Int32 × uS))) fun J91_8 =>
  u_lp4 (b_X12_knows_41 N p1 s1 J91_8) N x5 x5 0 1)
set_option maxRecDepth 100000 in
set_option maxHeartbeats 4000000 in
theorem c_X12_knows (l : Launch) (G : uG) (N : Nat) (σ : uS) (p1 : Int32) (z : (Int32 × uS)) (hz : f_X12_knows N σ p1 = some z) : u_Mi l ZM G yX12_knows cX12_knows 7 .int 3 [.ref (G.2.2 0), .int p1] σ z.1 z.2 := by
  refine u_Mi_of RX12 (by decide) rfl (Nat.le_of_ble_eq_true rfl) ?_
  intro p e s m args below meth c ls cx hw hl
  have hx := cx.1
  have hb := cx.2.1
  have hl : lv_has ls 7 [(0, .ref (G.2.2 0)), (1, .int p1)] := hl
  unfold f_X12_knows at hz
  refine lv_aload_n hx hb dX12_knows_0 rfl (lv_at hl 0 rfl) ?_
  refine lv_iconst (v := 0) hx hb dX12_knows_1 (by decide) ?_
  obtain ⟨s1, es1, hz⟩ := u_let hz
  refine u_puti2 cx hw P_X12_77 o_X12 rfl es1 dX12_knows_2 (fun H locs hw => ?_)
  refine lv_iload_n hx hb dX12_knows_5 rfl (lv_at hl 1 rfl) ?_
  refine lv_iconst (v := 0) hx hb dX12_knows_6 (by decide) ?_
  refine lv_bipush (v := 9) hx hb dX12_knows_7 (by decide) ?_
  obtain ⟨v2, hv2, hz⟩ := u_bind hz
  refine u_callSi (As := [.int p1, .int 0, .int 9]) (rest := []) cx hw LS_X12_86 (c_X12_in l G N s1 p1 0 9 v2 hv2) (by decide) hl.1 rfl (Nat.le_of_ble_eq_true rfl) dX12_knows_9 rfl (fun H locs hw => ?_)
  refine lv_if_ne (tgt := 17) hx hb dX12_knows_12 (by decide) (fun hc => ?_) (fun hc => ?_)
  · replace hz := u_iff hz hc
    refine lv_aload_n hx hb dX12_knows_17 rfl (lv_at hl 0 rfl) ?_
    obtain ⟨v3, hv3, hz⟩ := u_bind hz
    refine u_callVi (As := []) (rest := []) cx hw LV_X12_94 (c_X12_all l G N s1 v3 hv3) o_X12 rfl (by decide) hl.1 rfl (Nat.le_of_ble_eq_true rfl) dX12_knows_18 rfl (fun H locs hw => ?_)
    refine lv_aload_n hx hb dX12_knows_21 rfl (lv_at hl 0 rfl) ?_
    refine lv_aload_n hx hb dX12_knows_22 rfl (lv_at hl 0 rfl) ?_
    refine u_getp cx hw F_X12_9 o_X12 rfl dX12_knows_23 ?_
    obtain ⟨v4, hv4, hz⟩ := u_bind hz
    refine u_callVi (As := [.ref (G.2.2 1)]) (rest := [.int v3]) cx hw LV_X12_214 (c_X12_inBits l G N s1 1 v4 hv4) o_X12 rfl (by decide) hl.1 rfl (Nat.le_of_ble_eq_true rfl) dX12_knows_26 rfl (fun H locs hw => ?_)
    refine lv_iconst (v := (-1)) hx hb dX12_knows_29 (by decide) ?_
    refine lv_ixor hx hb dX12_knows_30 ?_
    refine lv_iand hx hb dX12_knows_31 ?_
    obtain ⟨x5, ex5, hz⟩ := u_let hz
    refine u_topi ex5 ?_
    refine lv_istore_n (lv' := [(2, .int x5), (0, .ref (G.2.2 0)), (1, .int p1)]) hx hb dX12_knows_32 rfl hl (by decide) rfl (fun ls hl => ?_)
    refine lv_iload_n hx hb dX12_knows_33 rfl (lv_at hl 0 rfl) ?_
    refine lv_istore_n (lv' := [(3, .int x5), (2, .int x5), (0, .ref (G.2.2 0)), (1, .int p1)]) hx hb dX12_knows_34 rfl hl (by decide) rfl (fun ls hl => ?_)
    refine lv_iconst (v := 0) hx hb dX12_knows_35 (by decide) ?_
    refine lv_istore (lv' := [(4, .int 0), (3, .int x5), (2, .int x5), (0, .ref (G.2.2 0)), (1, .int p1)]) hx hb dX12_knows_36 hl (by decide) rfl (fun ls hl => ?_)
    refine lv_iconst (v := 1) hx hb dX12_knows_38 (by decide) ?_
    refine lv_istore (lv' := [(5, .int 1), (4, .int 0), (3, .int x5), (2, .int x5), (0, .ref (G.2.2 0)), (1, .int p1)]) hx hb dX12_knows_39 hl (by decide) rfl (fun ls hl => ?_)
    obtain ⟨J91_8, eJ91_8, hz⟩ := u_let hz
    have WJ91_8 : ∀ (x6 : Int32) (x7 : Int32) (H : Heap) (locs : List Loc) (ls : Array Slot), J91_8 x6 x7 = some z → u_W ZM G s1 s H locs → lv_has ls 7 [(0, .ref (G.2.2 0)), (3, .int x6), (4, .int x7)] → W p l e (u_rm 3) s m args below meth c H locs 0 0 (u_Qi below ZM G s args z.1 z.2) (F0 m 91 ls []) := by
      intro x6 x7 H locs ls hz hw hl
      rw [eJ91_8] at hz
      refine lv_aload_n hx hb dX12_knows_91 rfl (lv_at hl 0 rfl) ?_
      refine lv_iconst (v := 0) hx hb dX12_knows_92 (by decide) ?_
      obtain ⟨s9, es9, hz⟩ := u_let hz
      refine u_puti2 cx hw P_X12_80 o_X12 rfl es9 dX12_knows_93 (fun H locs hw => ?_)
      refine lv_aload_n hx hb dX12_knows_96 rfl (lv_at hl 0 rfl) ?_
      refine lv_iload_n hx hb dX12_knows_97 rfl (lv_at hl 1 rfl) ?_
      obtain ⟨v10, hv10, hz⟩ := u_bind hz
      refine u_callSi (As := [.int x6]) (rest := [.ref (G.2.2 0)]) cx hw LS_X12_206 (c_J6_bitCount_0f7a4 l G ZM N s9 x6 v10 hv10) (by decide) hl.1 rfl (Nat.le_of_ble_eq_true rfl) dX12_knows_98 rfl (fun H locs hw => ?_)
      refine lv_i2l (v := (Int32.toInt64 v10)) hx hb dX12_knows_101 rfl ?_
      obtain ⟨s11, hs11, hz⟩ := u_bind hz
      refine u_callVv (As := [.long (Int32.toInt64 v10)]) (rest := []) cx hw LV_X12_260 (c_X12_tell l G N s9 (Int32.toInt64 v10) s11 hs11) o_X12 rfl (by decide) hl.1 rfl (Nat.le_of_ble_eq_true rfl) dX12_knows_102 rfl (fun H locs hw => ?_)
      refine lv_aload_n hx hb dX12_knows_105 rfl (lv_at hl 0 rfl) ?_
      refine lv_iload hx hb dX12_knows_106 (lv_at hl 2 rfl) ?_
      refine lv_i2l (v := (Int32.toInt64 x7)) hx hb dX12_knows_108 rfl ?_
      obtain ⟨s12, hs12, hz⟩ := u_bind hz
      refine u_callVv (As := [.long (Int32.toInt64 x7)]) (rest := []) cx hw LV_X12_260 (c_X12_tell l G N s11 (Int32.toInt64 x7) s12 hs12) o_X12 rfl (by decide) hl.1 rfl (Nat.le_of_ble_eq_true rfl) dX12_knows_109 rfl (fun H locs hw => ?_)
      refine lv_iload_n hx hb dX12_knows_112 rfl (lv_at hl 1 rfl) ?_
      exact u_iret cx hw (u_pair hz) dX12_knows_113
    have WL41_23 : ∀ (k : Nat) (x13 : Int32) (x14 : Int32) (x15 : Int32) (x16 : Int32) (H : Heap) (locs : List Loc) (ls : Array Slot), u_lp4 (b_X12_knows_41 N p1 s1 J91_8) k x13 x14 x15 x16 = some z → u_W ZM G s1 s H locs → lv_has ls 7 [(0, .ref (G.2.2 0)), (1, .int p1), (2, .int x13), (3, .int x14), (4, .int x15), (5, .int x16)] → W p l e (u_rm 3) s m args below meth c H locs 0 0 (u_Qi below ZM G s args z.1 z.2) (F0 m 41 ls []) := by
      intro k
      induction k with
      | zero =>
        intro x13 x14 x15 x16 H locs ls hz
        exact absurd hz (by intro h9; cases h9)
      | succ k ih41_17 =>
        intro x13 x14 x15 x16 H locs ls hz hw hl
        have hz : (b_X12_knows_41 N p1 s1 J91_8) (u_lp4 (b_X12_knows_41 N p1 s1 J91_8) k) x13 x14 x15 x16 = some z := hz
        unfold b_X12_knows_41 at hz
        refine lv_iload hx hb dX12_knows_41 (lv_at hl 5 rfl) ?_
        refine lv_bipush (v := 17) hx hb dX12_knows_43 (by decide) ?_
        refine lv_icmp_gt (tgt := 91) hx hb dX12_knows_45 (by decide) (fun hc => ?_) (fun hc => ?_)
        · replace hz := u_ift hz hc
          exact WJ91_8 x14 x15 _ _ _ hz hw (lv_sub hl [0, 3, 4] rfl)
        · replace hz := u_iff hz hc
          refine lv_aload_n hx hb dX12_knows_48 rfl (lv_at hl 0 rfl) ?_
          refine lv_iload_n hx hb dX12_knows_49 rfl (lv_at hl 2 rfl) ?_
          obtain ⟨v18, hv18, hz⟩ := u_bind hz
          refine u_callVi (As := [.int x13]) (rest := []) cx hw LV_X12_316 (c_X12_knowBy l G N s1 x13 v18 hv18) o_X12 rfl (by decide) hl.1 rfl (Nat.le_of_ble_eq_true rfl) dX12_knows_50 rfl (fun H locs hw => ?_)
          refine lv_istore (lv' := [(6, .int v18), (0, .ref (G.2.2 0)), (1, .int p1), (2, .int x13), (3, .int x14), (4, .int x15), (5, .int x16)]) hx hb dX12_knows_53 hl (by decide) rfl (fun ls hl => ?_)
          refine lv_iload hx hb dX12_knows_55 (lv_at hl 0 rfl) ?_
          refine lv_iload_n hx hb dX12_knows_57 rfl (lv_at hl 3 rfl) ?_
          obtain ⟨J68_20, eJ68_20, hz⟩ := u_let hz
          have WJ68_20 : ∀ (t19 : Int32) (H : Heap) (locs : List Loc) (ls : Array Slot), J68_20 t19 = some z → u_W ZM G s1 s H locs → lv_has ls 7 [(0, .ref (G.2.2 0)), (1, .int p1), (3, .int x14), (5, .int x16), (6, .int v18)] → W p l e (u_rm 3) s m args below meth c H locs 0 0 (u_Qi below ZM G s args z.1 z.2) (F0 m 68 ls [.int t19]) := by
            intro t19 H locs ls hz hw hl
            rw [eJ68_20] at hz
            refine lv_istore (lv' := [(4, .int t19), (0, .ref (G.2.2 0)), (1, .int p1), (3, .int x14), (5, .int x16), (6, .int v18)]) hx hb dX12_knows_68 hl (by decide) rfl (fun ls hl => ?_)
            refine lv_iload hx hb dX12_knows_70 (lv_at hl 5 rfl) ?_
            refine lv_istore_n (lv' := [(2, .int v18), (4, .int t19), (0, .ref (G.2.2 0)), (1, .int p1), (3, .int x14), (5, .int x16), (6, .int v18)]) hx hb dX12_knows_72 rfl hl (by decide) rfl (fun ls hl => ?_)
            refine lv_iload hx hb dX12_knows_73 (lv_at hl 5 rfl) ?_
            refine lv_iload_n hx hb dX12_knows_75 rfl (lv_at hl 3 rfl) ?_
            obtain ⟨J84_22, eJ84_22, hz⟩ := u_let hz
            have WJ84_22 : ∀ (t21 : Int32) (H : Heap) (locs : List Loc) (ls : Array Slot), J84_22 t21 = some z → u_W ZM G s1 s H locs → lv_has ls 7 [(0, .ref (G.2.2 0)), (1, .int p1), (2, .int v18), (4, .int t19), (5, .int x16)] → W p l e (u_rm 3) s m args below meth c H locs 0 0 (u_Qi below ZM G s args z.1 z.2) (F0 m 84 ls [.int t21]) := by
              intro t21 H locs ls hz hw hl
              rw [eJ84_22] at hz
              refine lv_istore_n (lv' := [(3, .int t21), (0, .ref (G.2.2 0)), (1, .int p1), (2, .int v18), (4, .int t19), (5, .int x16)]) hx hb dX12_knows_84 rfl hl (by decide) rfl (fun ls hl => ?_)
              obtain ⟨x23, ex23, hz⟩ := u_let hz
              refine lv_iinc (v := x23) (lv' := [(5, .int x23), (3, .int t21), (0, .ref (G.2.2 0)), (1, .int p1), (2, .int v18), (4, .int t19)]) hx hb dX12_knows_85 hl (k := 5) rfl (by rw [ex23]; rfl) (by decide) rfl (fun ls hl => ?_)
              refine lv_goto (tgt := 41) hx hb dX12_knows_88 (by decide) ?_
              exact ih41_17 v18 t21 t19 x23 _ _ _ hz hw (lv_sub hl [2, 3, 4, 1, 5, 0] rfl)
            refine lv_icmp_gt (tgt := 83) hx hb dX12_knows_76 (by decide) (fun hc => ?_) (fun hc => ?_)
            · replace hz := u_ift hz hc
              refine lv_iload_n hx hb dX12_knows_83 rfl (lv_at hl 4 rfl) ?_
              exact WJ84_22 x14 _ _ _ hz hw (lv_sub hl [2, 3, 0, 1, 5] rfl)
            · replace hz := u_iff hz hc
              refine lv_iload_n hx hb dX12_knows_79 rfl (lv_at hl 0 rfl) ?_
              refine lv_goto (tgt := 84) hx hb dX12_knows_80 (by decide) ?_
              exact WJ84_22 v18 _ _ _ hz hw (lv_sub hl [2, 3, 0, 1, 5] rfl)
          refine lv_icmp_ne (tgt := 66) hx hb dX12_knows_58 (by decide) (fun hc => ?_) (fun hc => ?_)
          · replace hz := u_iff hz hc
            refine lv_iload hx hb dX12_knows_66 (lv_at hl 6 rfl) ?_
            exact WJ68_20 x16 _ _ _ hz hw (lv_sub hl [1, 2, 4, 6, 0] rfl)
          · replace hz := u_ift hz hc
            refine lv_iload hx hb dX12_knows_61 (lv_at hl 5 rfl) ?_
            refine lv_goto (tgt := 68) hx hb dX12_knows_63 (by decide) ?_
            exact WJ68_20 x15 _ _ _ hz hw (lv_sub hl [1, 2, 4, 6, 0] rfl)
    exact WL41_23 N x5 x5 0 1 _ _ _ hz hw (lv_sub hl [4, 5, 3, 2, 1, 0] rfl)
  · replace hz := u_ift hz hc
    refine lv_iconst (v := (-1)) hx hb dX12_knows_15 (by decide) ?_
    exact u_iret cx hw (u_pair hz) dX12_knows_16
theorem dX12_circle_0 : decode cX12_circle 0 = .ok (.aload_n 0, 1) := by decide +kernel
theorem dX12_circle_1 : decode cX12_circle 1 = .ok (.iconst 0, 1) := by decide +kernel
theorem dX12_circle_2 : decode cX12_circle 2 = .ok (.putfield 77, 3) := by decide +kernel
theorem dX12_circle_5 : decode cX12_circle 5 = .ok (.iconst 0, 1) := by decide +kernel
theorem dX12_circle_6 : decode cX12_circle 6 = .ok (.istore_n 1, 1) := by decide +kernel
theorem dX12_circle_7 : decode cX12_circle 7 = .ok (.iconst 1, 1) := by decide +kernel
theorem dX12_circle_8 : decode cX12_circle 8 = .ok (.istore_n 2, 1) := by decide +kernel
theorem dX12_circle_9 : decode cX12_circle 9 = .ok (.iload_n 2, 1) := by decide +kernel
theorem dX12_circle_10 : decode cX12_circle 10 = .ok (.aload_n 0, 1) := by decide +kernel
theorem dX12_circle_11 : decode cX12_circle 11 = .ok (.invokevirtual 94, 3) := by decide +kernel
theorem dX12_circle_14 : decode cX12_circle 14 = .ok (.if_icmp .gt 96, 3) := by decide +kernel
theorem dX12_circle_17 : decode cX12_circle 17 = .ok (.iload_n 2, 1) := by decide +kernel
theorem dX12_circle_18 : decode cX12_circle 18 = .ok (.invokestatic 206, 3) := by decide +kernel
theorem dX12_circle_21 : decode cX12_circle 21 = .ok (.iload_n 1, 1) := by decide +kernel
theorem dX12_circle_22 : decode cX12_circle 22 = .ok (.invokestatic 206, 3) := by decide +kernel
theorem dX12_circle_25 : decode cX12_circle 25 = .ok (.if_icmp .gt 6, 3) := by decide +kernel
theorem dX12_circle_28 : decode cX12_circle 28 = .ok (.goto 76, 3) := by decide +kernel
theorem dX12_circle_31 : decode cX12_circle 31 = .ok (.iconst 1, 1) := by decide +kernel
theorem dX12_circle_32 : decode cX12_circle 32 = .ok (.istore_n 3, 1) := by decide +kernel
theorem dX12_circle_33 : decode cX12_circle 33 = .ok (.iconst 0, 1) := by decide +kernel
theorem dX12_circle_34 : decode cX12_circle 34 = .ok (.istore 4, 2) := by decide +kernel
theorem dX12_circle_36 : decode cX12_circle 36 = .ok (.iload 4, 2) := by decide +kernel
theorem dX12_circle_38 : decode cX12_circle 38 = .ok (.aload_n 0, 1) := by decide +kernel
theorem dX12_circle_39 : decode cX12_circle 39 = .ok (.getfield 83, 3) := by decide +kernel
theorem dX12_circle_42 : decode cX12_circle 42 = .ok (.if_icmp .ge 52, 3) := by decide +kernel
theorem dX12_circle_45 : decode cX12_circle 45 = .ok (.iload_n 3, 1) := by decide +kernel
theorem dX12_circle_46 : decode cX12_circle 46 = .ok (.ifCond .eq 40, 3) := by decide +kernel
theorem dX12_circle_49 : decode cX12_circle 49 = .ok (.iload_n 2, 1) := by decide +kernel
theorem dX12_circle_50 : decode cX12_circle 50 = .ok (.iload 4, 2) := by decide +kernel
theorem dX12_circle_52 : decode cX12_circle 52 = .ok (.invokestatic 198, 3) := by decide +kernel
theorem dX12_circle_55 : decode cX12_circle 55 = .ok (.ifCond .eq 27, 3) := by decide +kernel
theorem dX12_circle_58 : decode cX12_circle 58 = .ok (.iload_n 2, 1) := by decide +kernel
theorem dX12_circle_59 : decode cX12_circle 59 = .ok (.iconst 1, 1) := by decide +kernel
theorem dX12_circle_60 : decode cX12_circle 60 = .ok (.iload 4, 2) := by decide +kernel
theorem dX12_circle_62 : decode cX12_circle 62 = .ok (.ishl, 1) := by decide +kernel
theorem dX12_circle_63 : decode cX12_circle 63 = .ok (.iconst (-1), 1) := by decide +kernel
theorem dX12_circle_64 : decode cX12_circle 64 = .ok (.ixor, 1) := by decide +kernel
theorem dX12_circle_65 : decode cX12_circle 65 = .ok (.iand, 1) := by decide +kernel
theorem dX12_circle_66 : decode cX12_circle 66 = .ok (.aload_n 0, 1) := by decide +kernel
theorem dX12_circle_67 : decode cX12_circle 67 = .ok (.aload_n 0, 1) := by decide +kernel
theorem dX12_circle_68 : decode cX12_circle 68 = .ok (.getfield 9, 3) := by decide +kernel
theorem dX12_circle_71 : decode cX12_circle 71 = .ok (.iload 4, 2) := by decide +kernel
theorem dX12_circle_73 : decode cX12_circle 73 = .ok (.invokevirtual 202, 3) := by decide +kernel
theorem dX12_circle_76 : decode cX12_circle 76 = .ok (.iconst (-1), 1) := by decide +kernel
theorem dX12_circle_77 : decode cX12_circle 77 = .ok (.ixor, 1) := by decide +kernel
theorem dX12_circle_78 : decode cX12_circle 78 = .ok (.iand, 1) := by decide +kernel
theorem dX12_circle_79 : decode cX12_circle 79 = .ok (.ifCond .ne 7, 3) := by decide +kernel
theorem dX12_circle_82 : decode cX12_circle 82 = .ok (.iconst 1, 1) := by decide +kernel
theorem dX12_circle_83 : decode cX12_circle 83 = .ok (.goto 4, 3) := by decide +kernel
theorem dX12_circle_86 : decode cX12_circle 86 = .ok (.iconst 0, 1) := by decide +kernel
theorem dX12_circle_87 : decode cX12_circle 87 = .ok (.istore_n 3, 1) := by decide +kernel
theorem dX12_circle_88 : decode cX12_circle 88 = .ok (.iinc 4 1, 3) := by decide +kernel
theorem dX12_circle_91 : decode cX12_circle 91 = .ok (.goto (-55), 3) := by decide +kernel
theorem dX12_circle_94 : decode cX12_circle 94 = .ok (.iload_n 3, 1) := by decide +kernel
theorem dX12_circle_95 : decode cX12_circle 95 = .ok (.ifCond .eq 7, 3) := by decide +kernel
theorem dX12_circle_98 : decode cX12_circle 98 = .ok (.iload_n 2, 1) := by decide +kernel
theorem dX12_circle_99 : decode cX12_circle 99 = .ok (.goto 4, 3) := by decide +kernel
theorem dX12_circle_102 : decode cX12_circle 102 = .ok (.iload_n 1, 1) := by decide +kernel
theorem dX12_circle_103 : decode cX12_circle 103 = .ok (.istore_n 1, 1) := by decide +kernel
theorem dX12_circle_104 : decode cX12_circle 104 = .ok (.iinc 2 1, 3) := by decide +kernel
theorem dX12_circle_107 : decode cX12_circle 107 = .ok (.goto (-98), 3) := by decide +kernel
theorem dX12_circle_110 : decode cX12_circle 110 = .ok (.aload_n 0, 1) := by decide +kernel
theorem dX12_circle_111 : decode cX12_circle 111 = .ok (.iconst 0, 1) := by decide +kernel
theorem dX12_circle_112 : decode cX12_circle 112 = .ok (.putfield 80, 3) := by decide +kernel
theorem dX12_circle_115 : decode cX12_circle 115 = .ok (.aload_n 0, 1) := by decide +kernel
theorem dX12_circle_116 : decode cX12_circle 116 = .ok (.iload_n 1, 1) := by decide +kernel
theorem dX12_circle_117 : decode cX12_circle 117 = .ok (.i2l, 1) := by decide +kernel
theorem dX12_circle_118 : decode cX12_circle 118 = .ok (.invokevirtual 260, 3) := by decide +kernel
theorem dX12_circle_121 : decode cX12_circle 121 = .ok (.iload_n 1, 1) := by decide +kernel
theorem dX12_circle_122 : decode cX12_circle 122 = .ok (.invokestatic 206, 3) := by decide +kernel
theorem dX12_circle_125 : decode cX12_circle 125 = .ok (.ireturn, 1) := by decide +kernel
def b_X12_circle_36 (N : Nat) (s1 : uS) (x8 : Int32) (J94_17 : Int32 → Option (Int32 × uS)) (rec36_22 : Int32 → Int32 → Option (Int32 × uS)) (x20 : Int32) (x21 : Int32) : Option (Int32 × uS) :=
  if (s1.1 0 2) ≤ x21 then (J94_17 x20) else (u_jn (fun (t23 : Int32) => (u_jn (x21 + 1 : Int32) fun x25 =>
  rec36_22 t23 x25 : Option (Int32 × uS))) fun J87_24 =>
  u_jn ((J87_24 0 : Option (Int32 × uS))) fun J86_26 =>
  if x20 = 0 then (J86_26) else ((f_X12_has N s1 x8 x21).bind fun v27 =>
  u_jn ((J87_24 1 : Option (Int32 × uS))) fun J82_28 =>
  if v27 = 0 then (J82_28) else ((f_X12_sees N s1 1 x21).bind fun v29 =>
  if ((x8 &&& ((1 <<< (x21 &&& 31)) ^^^ (-1))) &&& (v29 ^^^ (-1))) = 0 then (J82_28) else (J86_26))))
def b_X12_circle_9 (N : Nat) (s1 : uS) (J110_3 : Int32 → Option (Int32 × uS)) (rec9_9 : Int32 → Int32 → Option (Int32 × uS)) (x7 : Int32) (x8 : Int32) : Option (Int32 × uS) :=
  (f_X12_all N s1).bind fun v10 =>
  if v10 < x8 then (J110_3 x7) else ((f_J6_bitCount_0f7a4 N s1 x8).bind fun v11 =>
  (f_J6_bitCount_0f7a4 N s1 x7).bind fun v12 =>
  u_jn (fun (x13 : Int32) => (u_jn (x8 + 1 : Int32) fun x15 =>
  rec9_9 x13 x15 : Option (Int32 × uS))) fun J104_14 =>
  if v12 < v11 then (u_jn (fun (x16 : Int32) => (u_jn (fun (t18 : Int32) => (J104_14 t18 : Option (Int32 × uS))) fun J103_19 =>
  if x16 = 0 then (J103_19 x7) else (J103_19 x8) : Option (Int32 × uS))) fun J94_17 =>
  u_lp2 (b_X12_circle_36 N s1 x8 J94_17) N 1 0) else (J104_14 x7))
def f_X12_circle (N : Nat) (σ : uS) : Option (Int32 × uS) := u_jn (u_pI σ 0 8 0) fun s1 =>
  u_jn (fun (x2 : Int32) => (u_jn (u_pI s1 0 7 0) fun s4 =>
  (f_X12_tell N s4 (Int32.toInt64 x2)).bind fun s5 =>
  (f_J6_bitCount_0f7a4 N s5 x2).bind fun v6 =>
  some (v6, s5) : Option (Int32 × uS))) fun J110_3 =>
  u_lp2 (b_X12_circle_9 N s1 J110_3) N 0 1
set_option maxRecDepth 100000 in
set_option maxHeartbeats 4000000 in
theorem c_X12_circle (l : Launch) (G : uG) (N : Nat) (σ : uS) (z : (Int32 × uS)) (hz : f_X12_circle N σ = some z) : u_Mi l ZM G yX12_circle cX12_circle 5 .int 2 [.ref (G.2.2 0)] σ z.1 z.2 := by
  refine u_Mi_of RX12 (by decide) rfl (Nat.le_of_ble_eq_true rfl) ?_
  intro p e s m args below meth c ls cx hw hl
  have hx := cx.1
  have hb := cx.2.1
  have hl : lv_has ls 5 [(0, .ref (G.2.2 0))] := hl
  unfold f_X12_circle at hz
  refine lv_aload_n hx hb dX12_circle_0 rfl (lv_at hl 0 rfl) ?_
  refine lv_iconst (v := 0) hx hb dX12_circle_1 (by decide) ?_
  obtain ⟨s1, es1, hz⟩ := u_let hz
  refine u_puti2 cx hw P_X12_77 o_X12 rfl es1 dX12_circle_2 (fun H locs hw => ?_)
  refine lv_iconst (v := 0) hx hb dX12_circle_5 (by decide) ?_
  refine lv_istore_n (lv' := [(1, .int 0), (0, .ref (G.2.2 0))]) hx hb dX12_circle_6 rfl hl (by decide) rfl (fun ls hl => ?_)
  refine lv_iconst (v := 1) hx hb dX12_circle_7 (by decide) ?_
  refine lv_istore_n (lv' := [(2, .int 1), (1, .int 0), (0, .ref (G.2.2 0))]) hx hb dX12_circle_8 rfl hl (by decide) rfl (fun ls hl => ?_)
  obtain ⟨J110_3, eJ110_3, hz⟩ := u_let hz
  have WJ110_3 : ∀ (x2 : Int32) (H : Heap) (locs : List Loc) (ls : Array Slot), J110_3 x2 = some z → u_W ZM G s1 s H locs → lv_has ls 5 [(0, .ref (G.2.2 0)), (1, .int x2)] → W p l e (u_rm 2) s m args below meth c H locs 0 0 (u_Qi below ZM G s args z.1 z.2) (F0 m 110 ls []) := by
    intro x2 H locs ls hz hw hl
    rw [eJ110_3] at hz
    refine lv_aload_n hx hb dX12_circle_110 rfl (lv_at hl 0 rfl) ?_
    refine lv_iconst (v := 0) hx hb dX12_circle_111 (by decide) ?_
    obtain ⟨s4, es4, hz⟩ := u_let hz
    refine u_puti2 cx hw P_X12_80 o_X12 rfl es4 dX12_circle_112 (fun H locs hw => ?_)
    refine lv_aload_n hx hb dX12_circle_115 rfl (lv_at hl 0 rfl) ?_
    refine lv_iload_n hx hb dX12_circle_116 rfl (lv_at hl 1 rfl) ?_
    refine lv_i2l (v := (Int32.toInt64 x2)) hx hb dX12_circle_117 rfl ?_
    obtain ⟨s5, hs5, hz⟩ := u_bind hz
    refine u_callVv (As := [.long (Int32.toInt64 x2)]) (rest := []) cx hw LV_X12_260 (c_X12_tell l G N s4 (Int32.toInt64 x2) s5 hs5) o_X12 rfl (by decide) hl.1 rfl (Nat.le_of_ble_eq_true rfl) dX12_circle_118 rfl (fun H locs hw => ?_)
    refine lv_iload_n hx hb dX12_circle_121 rfl (lv_at hl 1 rfl) ?_
    obtain ⟨v6, hv6, hz⟩ := u_bind hz
    refine u_callSi (As := [.int x2]) (rest := []) cx hw LS_X12_206 (c_J6_bitCount_0f7a4 l G ZM N s5 x2 v6 hv6) (by decide) hl.1 rfl (Nat.le_of_ble_eq_true rfl) dX12_circle_122 rfl (fun H locs hw => ?_)
    exact u_iret cx hw (u_pair hz) dX12_circle_125
  have WL9_29 : ∀ (k : Nat) (x7 : Int32) (x8 : Int32) (H : Heap) (locs : List Loc) (ls : Array Slot), u_lp2 (b_X12_circle_9 N s1 J110_3) k x7 x8 = some z → u_W ZM G s1 s H locs → lv_has ls 5 [(0, .ref (G.2.2 0)), (1, .int x7), (2, .int x8)] → W p l e (u_rm 2) s m args below meth c H locs 0 0 (u_Qi below ZM G s args z.1 z.2) (F0 m 9 ls []) := by
    intro k
    induction k with
    | zero =>
      intro x7 x8 H locs ls hz
      exact absurd hz (by intro h9; cases h9)
    | succ k ih9_9 =>
      intro x7 x8 H locs ls hz hw hl
      have hz : (b_X12_circle_9 N s1 J110_3) (u_lp2 (b_X12_circle_9 N s1 J110_3) k) x7 x8 = some z := hz
      unfold b_X12_circle_9 at hz
      refine lv_iload_n hx hb dX12_circle_9 rfl (lv_at hl 2 rfl) ?_
      refine lv_aload_n hx hb dX12_circle_10 rfl (lv_at hl 0 rfl) ?_
      obtain ⟨v10, hv10, hz⟩ := u_bind hz
      refine u_callVi (As := []) (rest := [.int x8]) cx hw LV_X12_94 (c_X12_all l G N s1 v10 hv10) o_X12 rfl (by decide) hl.1 rfl (Nat.le_of_ble_eq_true rfl) dX12_circle_11 rfl (fun H locs hw => ?_)
      refine lv_icmp_gt (tgt := 110) hx hb dX12_circle_14 (by decide) (fun hc => ?_) (fun hc => ?_)
      · replace hz := u_ift hz hc
        exact WJ110_3 x7 _ _ _ hz hw (lv_sub hl [0, 1] rfl)
      · replace hz := u_iff hz hc
        refine lv_iload_n hx hb dX12_circle_17 rfl (lv_at hl 2 rfl) ?_
        obtain ⟨v11, hv11, hz⟩ := u_bind hz
        refine u_callSi (As := [.int x8]) (rest := []) cx hw LS_X12_206 (c_J6_bitCount_0f7a4 l G ZM N s1 x8 v11 hv11) (by decide) hl.1 rfl (Nat.le_of_ble_eq_true rfl) dX12_circle_18 rfl (fun H locs hw => ?_)
        refine lv_iload_n hx hb dX12_circle_21 rfl (lv_at hl 1 rfl) ?_
        obtain ⟨v12, hv12, hz⟩ := u_bind hz
        refine u_callSi (As := [.int x7]) (rest := [.int v11]) cx hw LS_X12_206 (c_J6_bitCount_0f7a4 l G ZM N s1 x7 v12 hv12) (by decide) hl.1 rfl (Nat.le_of_ble_eq_true rfl) dX12_circle_22 rfl (fun H locs hw => ?_)
        obtain ⟨J104_14, eJ104_14, hz⟩ := u_let hz
        have WJ104_14 : ∀ (x13 : Int32) (H : Heap) (locs : List Loc) (ls : Array Slot), J104_14 x13 = some z → u_W ZM G s1 s H locs → lv_has ls 5 [(0, .ref (G.2.2 0)), (1, .int x13), (2, .int x8)] → W p l e (u_rm 2) s m args below meth c H locs 0 0 (u_Qi below ZM G s args z.1 z.2) (F0 m 104 ls []) := by
          intro x13 H locs ls hz hw hl
          rw [eJ104_14] at hz
          obtain ⟨x15, ex15, hz⟩ := u_let hz
          refine lv_iinc (v := x15) (lv' := [(2, .int x15), (0, .ref (G.2.2 0)), (1, .int x13)]) hx hb dX12_circle_104 hl (k := 2) rfl (by rw [ex15]; rfl) (by decide) rfl (fun ls hl => ?_)
          refine lv_goto (tgt := 9) hx hb dX12_circle_107 (by decide) ?_
          exact ih9_9 x13 x15 _ _ _ hz hw (lv_sub hl [1, 2, 0] rfl)
        refine lv_icmp_gt (tgt := 31) hx hb dX12_circle_25 (by decide) (fun hc => ?_) (fun hc => ?_)
        · replace hz := u_ift hz hc
          refine lv_iconst (v := 1) hx hb dX12_circle_31 (by decide) ?_
          refine lv_istore_n (lv' := [(3, .int 1), (0, .ref (G.2.2 0)), (1, .int x7), (2, .int x8)]) hx hb dX12_circle_32 rfl hl (by decide) rfl (fun ls hl => ?_)
          refine lv_iconst (v := 0) hx hb dX12_circle_33 (by decide) ?_
          refine lv_istore (lv' := [(4, .int 0), (3, .int 1), (0, .ref (G.2.2 0)), (1, .int x7), (2, .int x8)]) hx hb dX12_circle_34 hl (by decide) rfl (fun ls hl => ?_)
          obtain ⟨J94_17, eJ94_17, hz⟩ := u_let hz
          have WJ94_17 : ∀ (x16 : Int32) (H : Heap) (locs : List Loc) (ls : Array Slot), J94_17 x16 = some z → u_W ZM G s1 s H locs → lv_has ls 5 [(0, .ref (G.2.2 0)), (1, .int x7), (2, .int x8), (3, .int x16)] → W p l e (u_rm 2) s m args below meth c H locs 0 0 (u_Qi below ZM G s args z.1 z.2) (F0 m 94 ls []) := by
            intro x16 H locs ls hz hw hl
            rw [eJ94_17] at hz
            refine lv_iload_n hx hb dX12_circle_94 rfl (lv_at hl 3 rfl) ?_
            obtain ⟨J103_19, eJ103_19, hz⟩ := u_let hz
            have WJ103_19 : ∀ (t18 : Int32) (H : Heap) (locs : List Loc) (ls : Array Slot), J103_19 t18 = some z → u_W ZM G s1 s H locs → lv_has ls 5 [(0, .ref (G.2.2 0)), (2, .int x8)] → W p l e (u_rm 2) s m args below meth c H locs 0 0 (u_Qi below ZM G s args z.1 z.2) (F0 m 103 ls [.int t18]) := by
              intro t18 H locs ls hz hw hl
              rw [eJ103_19] at hz
              refine lv_istore_n (lv' := [(1, .int t18), (0, .ref (G.2.2 0)), (2, .int x8)]) hx hb dX12_circle_103 rfl hl (by decide) rfl (fun ls hl => ?_)
              exact WJ104_14 t18 _ _ _ hz hw (lv_sub hl [1, 0, 2] rfl)
            refine lv_if_eq (tgt := 102) hx hb dX12_circle_95 (by decide) (fun hc => ?_) (fun hc => ?_)
            · replace hz := u_ift hz hc
              refine lv_iload_n hx hb dX12_circle_102 rfl (lv_at hl 1 rfl) ?_
              exact WJ103_19 x7 _ _ _ hz hw (lv_sub hl [0, 2] rfl)
            · replace hz := u_iff hz hc
              refine lv_iload_n hx hb dX12_circle_98 rfl (lv_at hl 2 rfl) ?_
              refine lv_goto (tgt := 103) hx hb dX12_circle_99 (by decide) ?_
              exact WJ103_19 x8 _ _ _ hz hw (lv_sub hl [0, 2] rfl)
          have WL36_29 : ∀ (k : Nat) (x20 : Int32) (x21 : Int32) (H : Heap) (locs : List Loc) (ls : Array Slot), u_lp2 (b_X12_circle_36 N s1 x8 J94_17) k x20 x21 = some z → u_W ZM G s1 s H locs → lv_has ls 5 [(0, .ref (G.2.2 0)), (1, .int x7), (2, .int x8), (3, .int x20), (4, .int x21)] → W p l e (u_rm 2) s m args below meth c H locs 0 0 (u_Qi below ZM G s args z.1 z.2) (F0 m 36 ls []) := by
            intro k
            induction k with
            | zero =>
              intro x20 x21 H locs ls hz
              exact absurd hz (by intro h9; cases h9)
            | succ k ih36_22 =>
              intro x20 x21 H locs ls hz hw hl
              have hz : (b_X12_circle_36 N s1 x8 J94_17) (u_lp2 (b_X12_circle_36 N s1 x8 J94_17) k) x20 x21 = some z := hz
              unfold b_X12_circle_36 at hz
              refine lv_iload hx hb dX12_circle_36 (lv_at hl 4 rfl) ?_
              refine lv_aload_n hx hb dX12_circle_38 rfl (lv_at hl 0 rfl) ?_
              refine u_geti cx hw F_X12_83 o_X12 rfl dX12_circle_39 ?_
              refine lv_icmp_ge (tgt := 94) hx hb dX12_circle_42 (by decide) (fun hc => ?_) (fun hc => ?_)
              · replace hz := u_ift hz hc
                exact WJ94_17 x20 _ _ _ hz hw (lv_sub hl [0, 1, 2, 3] rfl)
              · replace hz := u_iff hz hc
                refine lv_iload_n hx hb dX12_circle_45 rfl (lv_at hl 3 rfl) ?_
                obtain ⟨J87_24, eJ87_24, hz⟩ := u_let hz
                have WJ87_24 : ∀ (t23 : Int32) (H : Heap) (locs : List Loc) (ls : Array Slot), J87_24 t23 = some z → u_W ZM G s1 s H locs → lv_has ls 5 [(0, .ref (G.2.2 0)), (1, .int x7), (2, .int x8), (4, .int x21)] → W p l e (u_rm 2) s m args below meth c H locs 0 0 (u_Qi below ZM G s args z.1 z.2) (F0 m 87 ls [.int t23]) := by
                  intro t23 H locs ls hz hw hl
                  rw [eJ87_24] at hz
                  refine lv_istore_n (lv' := [(3, .int t23), (0, .ref (G.2.2 0)), (1, .int x7), (2, .int x8), (4, .int x21)]) hx hb dX12_circle_87 rfl hl (by decide) rfl (fun ls hl => ?_)
                  obtain ⟨x25, ex25, hz⟩ := u_let hz
                  refine lv_iinc (v := x25) (lv' := [(4, .int x25), (3, .int t23), (0, .ref (G.2.2 0)), (1, .int x7), (2, .int x8)]) hx hb dX12_circle_88 hl (k := 4) rfl (by rw [ex25]; rfl) (by decide) rfl (fun ls hl => ?_)
                  refine lv_goto (tgt := 36) hx hb dX12_circle_91 (by decide) ?_
                  exact ih36_22 t23 x25 _ _ _ hz hw (lv_sub hl [2, 3, 4, 1, 0] rfl)
                obtain ⟨J86_26, eJ86_26, hz⟩ := u_let hz
                have WJ86_26 : ∀ (H : Heap) (locs : List Loc) (ls : Array Slot), J86_26 = some z → u_W ZM G s1 s H locs → lv_has ls 5 [(0, .ref (G.2.2 0)), (1, .int x7), (2, .int x8), (4, .int x21)] → W p l e (u_rm 2) s m args below meth c H locs 0 0 (u_Qi below ZM G s args z.1 z.2) (F0 m 86 ls []) := by
                  intro H locs ls hz hw hl
                  rw [eJ86_26] at hz
                  refine lv_iconst (v := 0) hx hb dX12_circle_86 (by decide) ?_
                  exact WJ87_24 0 _ _ _ hz hw (lv_sub hl [0, 1, 2, 3] rfl)
                refine lv_if_eq (tgt := 86) hx hb dX12_circle_46 (by decide) (fun hc => ?_) (fun hc => ?_)
                · replace hz := u_ift hz hc
                  exact WJ86_26 _ _ _ hz hw (lv_sub hl [0, 1, 2, 4] rfl)
                · replace hz := u_iff hz hc
                  refine lv_iload_n hx hb dX12_circle_49 rfl (lv_at hl 2 rfl) ?_
                  refine lv_iload hx hb dX12_circle_50 (lv_at hl 4 rfl) ?_
                  obtain ⟨v27, hv27, hz⟩ := u_bind hz
                  refine u_callSi (As := [.int x8, .int x21]) (rest := []) cx hw LS_X12_198 (c_X12_has l G N s1 x8 x21 v27 hv27) (by decide) hl.1 rfl (Nat.le_of_ble_eq_true rfl) dX12_circle_52 rfl (fun H locs hw => ?_)
                  obtain ⟨J82_28, eJ82_28, hz⟩ := u_let hz
                  have WJ82_28 : ∀ (H : Heap) (locs : List Loc) (ls : Array Slot), J82_28 = some z → u_W ZM G s1 s H locs → lv_has ls 5 [(0, .ref (G.2.2 0)), (1, .int x7), (2, .int x8), (4, .int x21)] → W p l e (u_rm 2) s m args below meth c H locs 0 0 (u_Qi below ZM G s args z.1 z.2) (F0 m 82 ls []) := by
                    intro H locs ls hz hw hl
                    rw [eJ82_28] at hz
                    refine lv_iconst (v := 1) hx hb dX12_circle_82 (by decide) ?_
                    refine lv_goto (tgt := 87) hx hb dX12_circle_83 (by decide) ?_
                    exact WJ87_24 1 _ _ _ hz hw (lv_sub hl [0, 1, 2, 3] rfl)
                  refine lv_if_eq (tgt := 82) hx hb dX12_circle_55 (by decide) (fun hc => ?_) (fun hc => ?_)
                  · replace hz := u_ift hz hc
                    exact WJ82_28 _ _ _ hz hw (lv_sub hl [0, 1, 2, 4] rfl)
                  · replace hz := u_iff hz hc
                    refine lv_iload_n hx hb dX12_circle_58 rfl (lv_at hl 2 rfl) ?_
                    refine lv_iconst (v := 1) hx hb dX12_circle_59 (by decide) ?_
                    refine lv_iload hx hb dX12_circle_60 (lv_at hl 4 rfl) ?_
                    refine lv_ishl hx hb dX12_circle_62 ?_
                    refine lv_iconst (v := (-1)) hx hb dX12_circle_63 (by decide) ?_
                    refine lv_ixor hx hb dX12_circle_64 ?_
                    refine lv_iand hx hb dX12_circle_65 ?_
                    refine lv_aload_n hx hb dX12_circle_66 rfl (lv_at hl 0 rfl) ?_
                    refine lv_aload_n hx hb dX12_circle_67 rfl (lv_at hl 0 rfl) ?_
                    refine u_getp cx hw F_X12_9 o_X12 rfl dX12_circle_68 ?_
                    refine lv_iload hx hb dX12_circle_71 (lv_at hl 4 rfl) ?_
                    obtain ⟨v29, hv29, hz⟩ := u_bind hz
                    refine u_callVi (As := [.ref (G.2.2 1), .int x21]) (rest := [.int (x8 &&& ((1 <<< (x21 &&& 31)) ^^^ (-1)))]) cx hw LV_X12_202 (c_X12_sees l G N s1 1 x21 v29 hv29) o_X12 rfl (by decide) hl.1 rfl (Nat.le_of_ble_eq_true rfl) dX12_circle_73 rfl (fun H locs hw => ?_)
                    refine lv_iconst (v := (-1)) hx hb dX12_circle_76 (by decide) ?_
                    refine lv_ixor hx hb dX12_circle_77 ?_
                    refine lv_iand hx hb dX12_circle_78 ?_
                    refine lv_if_ne (tgt := 86) hx hb dX12_circle_79 (by decide) (fun hc => ?_) (fun hc => ?_)
                    · replace hz := u_iff hz hc
                      exact WJ86_26 _ _ _ hz hw (lv_sub hl [0, 1, 2, 4] rfl)
                    · replace hz := u_ift hz hc
                      exact WJ82_28 _ _ _ hz hw (lv_sub hl [0, 1, 2, 4] rfl)
          exact WL36_29 N 1 0 _ _ _ hz hw (lv_sub hl [2, 3, 4, 1, 0] rfl)
        · replace hz := u_iff hz hc
          refine lv_goto (tgt := 104) hx hb dX12_circle_28 (by decide) ?_
          exact WJ104_14 x7 _ _ _ hz hw (lv_sub hl [0, 1, 2] rfl)
  exact WL9_29 N 0 1 _ _ _ hz hw (lv_sub hl [2, 1, 0] rfl)
theorem dX12_glances_0 : decode cX12_glances 0 = .ok (.iconst 0, 1) := by decide +kernel
theorem dX12_glances_1 : decode cX12_glances 1 = .ok (.istore_n 1, 1) := by decide +kernel
theorem dX12_glances_2 : decode cX12_glances 2 = .ok (.iconst 0, 1) := by decide +kernel
theorem dX12_glances_3 : decode cX12_glances 3 = .ok (.istore_n 2, 1) := by decide +kernel
theorem dX12_glances_4 : decode cX12_glances 4 = .ok (.iload_n 2, 1) := by decide +kernel
theorem dX12_glances_5 : decode cX12_glances 5 = .ok (.aload_n 0, 1) := by decide +kernel
theorem dX12_glances_6 : decode cX12_glances 6 = .ok (.getfield 83, 3) := by decide +kernel
theorem dX12_glances_9 : decode cX12_glances 9 = .ok (.if_icmp .ge 24, 3) := by decide +kernel
theorem dX12_glances_12 : decode cX12_glances 12 = .ok (.iload_n 1, 1) := by decide +kernel
theorem dX12_glances_13 : decode cX12_glances 13 = .ok (.aload_n 0, 1) := by decide +kernel
theorem dX12_glances_14 : decode cX12_glances 14 = .ok (.aload_n 0, 1) := by decide +kernel
theorem dX12_glances_15 : decode cX12_glances 15 = .ok (.getfield 9, 3) := by decide +kernel
theorem dX12_glances_18 : decode cX12_glances 18 = .ok (.iload_n 2, 1) := by decide +kernel
theorem dX12_glances_19 : decode cX12_glances 19 = .ok (.invokevirtual 202, 3) := by decide +kernel
theorem dX12_glances_22 : decode cX12_glances 22 = .ok (.invokestatic 206, 3) := by decide +kernel
theorem dX12_glances_25 : decode cX12_glances 25 = .ok (.iadd, 1) := by decide +kernel
theorem dX12_glances_26 : decode cX12_glances 26 = .ok (.istore_n 1, 1) := by decide +kernel
theorem dX12_glances_27 : decode cX12_glances 27 = .ok (.iinc 2 1, 3) := by decide +kernel
theorem dX12_glances_30 : decode cX12_glances 30 = .ok (.goto (-26), 3) := by decide +kernel
theorem dX12_glances_33 : decode cX12_glances 33 = .ok (.iload_n 1, 1) := by decide +kernel
theorem dX12_glances_34 : decode cX12_glances 34 = .ok (.ireturn, 1) := by decide +kernel
def b_X12_glances_4 (N : Nat) (σ : uS) (J33_2 : Int32 → Option Int32) (rec4_5 : Int32 → Int32 → Option Int32) (x3 : Int32) (x4 : Int32) : Option Int32 :=
  if (σ.1 0 2) ≤ x4 then (J33_2 x3) else ((f_X12_sees N σ 1 x4).bind fun v6 =>
  (f_J6_bitCount_0f7a4 N σ v6).bind fun v7 =>
  u_jn ((x3 + v7) : Int32) fun x8 =>
  u_jn (x4 + 1 : Int32) fun x9 =>
  rec4_5 x8 x9)
def f_X12_glances (N : Nat) (σ : uS) : Option Int32 := u_jn (fun (x1 : Int32) => (some x1 : Option Int32)) fun J33_2 =>
  u_lp2 (b_X12_glances_4 N σ J33_2) N 0 0
set_option maxRecDepth 100000 in
set_option maxHeartbeats 4000000 in
theorem c_X12_glances (l : Launch) (G : uG) (N : Nat) (σ : uS) (z : Int32) (hz : f_X12_glances N σ = some z) : u_Mi l ZM G yX12_glances cX12_glances 3 .int 2 [.ref (G.2.2 0)] σ z σ := by
  refine u_Mi_of RX12 (by decide) rfl (Nat.le_of_ble_eq_true rfl) ?_
  intro p e s m args below meth c ls cx hw hl
  have hx := cx.1
  have hb := cx.2.1
  have hl : lv_has ls 3 [(0, .ref (G.2.2 0))] := hl
  unfold f_X12_glances at hz
  refine lv_iconst (v := 0) hx hb dX12_glances_0 (by decide) ?_
  refine lv_istore_n (lv' := [(1, .int 0), (0, .ref (G.2.2 0))]) hx hb dX12_glances_1 rfl hl (by decide) rfl (fun ls hl => ?_)
  refine lv_iconst (v := 0) hx hb dX12_glances_2 (by decide) ?_
  refine lv_istore_n (lv' := [(2, .int 0), (1, .int 0), (0, .ref (G.2.2 0))]) hx hb dX12_glances_3 rfl hl (by decide) rfl (fun ls hl => ?_)
  obtain ⟨J33_2, eJ33_2, hz⟩ := u_let hz
  have WJ33_2 : ∀ (x1 : Int32) (H : Heap) (locs : List Loc) (ls : Array Slot), J33_2 x1 = some z → u_W ZM G σ s H locs → lv_has ls 3 [(1, .int x1)] → W p l e (u_rm 2) s m args below meth c H locs 0 0 (u_Qi below ZM G s args z σ) (F0 m 33 ls []) := by
    intro x1 H locs ls hz hw hl
    rw [eJ33_2] at hz
    refine lv_iload_n hx hb dX12_glances_33 rfl (lv_at hl 0 rfl) ?_
    exact u_iret cx hw ⟨Option.some.inj hz, rfl⟩ dX12_glances_34
  have WL4_9 : ∀ (k : Nat) (x3 : Int32) (x4 : Int32) (H : Heap) (locs : List Loc) (ls : Array Slot), u_lp2 (b_X12_glances_4 N σ J33_2) k x3 x4 = some z → u_W ZM G σ s H locs → lv_has ls 3 [(0, .ref (G.2.2 0)), (1, .int x3), (2, .int x4)] → W p l e (u_rm 2) s m args below meth c H locs 0 0 (u_Qi below ZM G s args z σ) (F0 m 4 ls []) := by
    intro k
    induction k with
    | zero =>
      intro x3 x4 H locs ls hz
      exact absurd hz (by intro h9; cases h9)
    | succ k ih4_5 =>
      intro x3 x4 H locs ls hz hw hl
      have hz : (b_X12_glances_4 N σ J33_2) (u_lp2 (b_X12_glances_4 N σ J33_2) k) x3 x4 = some z := hz
      unfold b_X12_glances_4 at hz
      refine lv_iload_n hx hb dX12_glances_4 rfl (lv_at hl 2 rfl) ?_
      refine lv_aload_n hx hb dX12_glances_5 rfl (lv_at hl 0 rfl) ?_
      refine u_geti cx hw F_X12_83 o_X12 rfl dX12_glances_6 ?_
      refine lv_icmp_ge (tgt := 33) hx hb dX12_glances_9 (by decide) (fun hc => ?_) (fun hc => ?_)
      · replace hz := u_ift hz hc
        exact WJ33_2 x3 _ _ _ hz hw (lv_sub hl [1] rfl)
      · replace hz := u_iff hz hc
        refine lv_iload_n hx hb dX12_glances_12 rfl (lv_at hl 1 rfl) ?_
        refine lv_aload_n hx hb dX12_glances_13 rfl (lv_at hl 0 rfl) ?_
        refine lv_aload_n hx hb dX12_glances_14 rfl (lv_at hl 0 rfl) ?_
        refine u_getp cx hw F_X12_9 o_X12 rfl dX12_glances_15 ?_
        refine lv_iload_n hx hb dX12_glances_18 rfl (lv_at hl 2 rfl) ?_
        obtain ⟨v6, hv6, hz⟩ := u_bind hz
        refine u_callVi (As := [.ref (G.2.2 1), .int x4]) (rest := [.int x3]) cx hw LV_X12_202 (c_X12_sees l G N σ 1 x4 v6 hv6) o_X12 rfl (by decide) hl.1 rfl (Nat.le_of_ble_eq_true rfl) dX12_glances_19 rfl (fun H locs hw => ?_)
        obtain ⟨v7, hv7, hz⟩ := u_bind hz
        refine u_callSi (As := [.int v6]) (rest := [.int x3]) cx hw LS_X12_206 (c_J6_bitCount_0f7a4 l G ZM N σ v6 v7 hv7) (by decide) hl.1 rfl (Nat.le_of_ble_eq_true rfl) dX12_glances_22 rfl (fun H locs hw => ?_)
        refine lv_iadd hx hb dX12_glances_25 ?_
        obtain ⟨x8, ex8, hz⟩ := u_let hz
        refine u_topi ex8 ?_
        refine lv_istore_n (lv' := [(1, .int x8), (0, .ref (G.2.2 0)), (2, .int x4)]) hx hb dX12_glances_26 rfl hl (by decide) rfl (fun ls hl => ?_)
        obtain ⟨x9, ex9, hz⟩ := u_let hz
        refine lv_iinc (v := x9) (lv' := [(2, .int x9), (1, .int x8), (0, .ref (G.2.2 0))]) hx hb dX12_glances_27 hl (k := 2) rfl (by rw [ex9]; rfl) (by decide) rfl (fun ls hl => ?_)
        refine lv_goto (tgt := 4) hx hb dX12_glances_30 (by decide) ?_
        exact ih4_5 x8 x9 _ _ _ hz hw (lv_sub hl [2, 1, 0] rfl)
  exact WL4_9 N 0 0 _ _ _ hz hw (lv_sub hl [2, 1, 0] rfl)
theorem dX12_count_0 : decode cX12_count 0 = .ok (.aload_n 0, 1) := by decide +kernel
theorem dX12_count_1 : decode cX12_count 1 = .ok (.iconst 0, 1) := by decide +kernel
theorem dX12_count_2 : decode cX12_count 2 = .ok (.putfield 77, 3) := by decide +kernel
theorem dX12_count_5 : decode cX12_count 5 = .ok (.iload_n 1, 1) := by decide +kernel
theorem dX12_count_6 : decode cX12_count 6 = .ok (.tableswitch 197 0 14 #[74, 79, 87, 95, 100, 109, 117, 125, 133, 156, 161, 166, 171, 176, 192], 74) := by decide +kernel
theorem dX12_count_80 : decode cX12_count 80 = .ok (.aload_n 0, 1) := by decide +kernel
theorem dX12_count_81 : decode cX12_count 81 = .ok (.getfield 13, 3) := by decide +kernel
theorem dX12_count_84 : decode cX12_count 84 = .ok (.ireturn, 1) := by decide +kernel
theorem dX12_count_85 : decode cX12_count 85 = .ok (.aload_n 0, 1) := by decide +kernel
theorem dX12_count_86 : decode cX12_count 86 = .ok (.getfield 9, 3) := by decide +kernel
theorem dX12_count_89 : decode cX12_count 89 = .ok (.bipush 32, 2) := by decide +kernel
theorem dX12_count_91 : decode cX12_count 91 = .ok (.iaload, 1) := by decide +kernel
theorem dX12_count_92 : decode cX12_count 92 = .ok (.ireturn, 1) := by decide +kernel
theorem dX12_count_93 : decode cX12_count 93 = .ok (.aload_n 0, 1) := by decide +kernel
theorem dX12_count_94 : decode cX12_count 94 = .ok (.getfield 9, 3) := by decide +kernel
theorem dX12_count_97 : decode cX12_count 97 = .ok (.bipush 33, 2) := by decide +kernel
theorem dX12_count_99 : decode cX12_count 99 = .ok (.iaload, 1) := by decide +kernel
theorem dX12_count_100 : decode cX12_count 100 = .ok (.ireturn, 1) := by decide +kernel
theorem dX12_count_101 : decode cX12_count 101 = .ok (.aload_n 0, 1) := by decide +kernel
theorem dX12_count_102 : decode cX12_count 102 = .ok (.getfield 83, 3) := by decide +kernel
theorem dX12_count_105 : decode cX12_count 105 = .ok (.ireturn, 1) := by decide +kernel
theorem dX12_count_106 : decode cX12_count 106 = .ok (.aload_n 0, 1) := by decide +kernel
theorem dX12_count_107 : decode cX12_count 107 = .ok (.aload_n 0, 1) := by decide +kernel
theorem dX12_count_108 : decode cX12_count 108 = .ok (.getfield 9, 3) := by decide +kernel
theorem dX12_count_111 : decode cX12_count 111 = .ok (.invokevirtual 214, 3) := by decide +kernel
theorem dX12_count_114 : decode cX12_count 114 = .ok (.ireturn, 1) := by decide +kernel
theorem dX12_count_115 : decode cX12_count 115 = .ok (.aload_n 0, 1) := by decide +kernel
theorem dX12_count_116 : decode cX12_count 116 = .ok (.getfield 9, 3) := by decide +kernel
theorem dX12_count_119 : decode cX12_count 119 = .ok (.bipush 34, 2) := by decide +kernel
theorem dX12_count_121 : decode cX12_count 121 = .ok (.iaload, 1) := by decide +kernel
theorem dX12_count_122 : decode cX12_count 122 = .ok (.ireturn, 1) := by decide +kernel
theorem dX12_count_123 : decode cX12_count 123 = .ok (.aload_n 0, 1) := by decide +kernel
theorem dX12_count_124 : decode cX12_count 124 = .ok (.getfield 9, 3) := by decide +kernel
theorem dX12_count_127 : decode cX12_count 127 = .ok (.bipush 35, 2) := by decide +kernel
theorem dX12_count_129 : decode cX12_count 129 = .ok (.iaload, 1) := by decide +kernel
theorem dX12_count_130 : decode cX12_count 130 = .ok (.ireturn, 1) := by decide +kernel
theorem dX12_count_131 : decode cX12_count 131 = .ok (.aload_n 0, 1) := by decide +kernel
theorem dX12_count_132 : decode cX12_count 132 = .ok (.getfield 9, 3) := by decide +kernel
theorem dX12_count_135 : decode cX12_count 135 = .ok (.bipush 36, 2) := by decide +kernel
theorem dX12_count_137 : decode cX12_count 137 = .ok (.iaload, 1) := by decide +kernel
theorem dX12_count_138 : decode cX12_count 138 = .ok (.ireturn, 1) := by decide +kernel
theorem dX12_count_139 : decode cX12_count 139 = .ok (.aload_n 0, 1) := by decide +kernel
theorem dX12_count_140 : decode cX12_count 140 = .ok (.aload_n 0, 1) := by decide +kernel
theorem dX12_count_141 : decode cX12_count 141 = .ok (.getfield 9, 3) := by decide +kernel
theorem dX12_count_144 : decode cX12_count 144 = .ok (.aload_n 0, 1) := by decide +kernel
theorem dX12_count_145 : decode cX12_count 145 = .ok (.getfield 9, 3) := by decide +kernel
theorem dX12_count_148 : decode cX12_count 148 = .ok (.bipush 32, 2) := by decide +kernel
theorem dX12_count_150 : decode cX12_count 150 = .ok (.iaload, 1) := by decide +kernel
theorem dX12_count_151 : decode cX12_count 151 = .ok (.aload_n 0, 1) := by decide +kernel
theorem dX12_count_152 : decode cX12_count 152 = .ok (.getfield 9, 3) := by decide +kernel
theorem dX12_count_155 : decode cX12_count 155 = .ok (.bipush 33, 2) := by decide +kernel
theorem dX12_count_157 : decode cX12_count 157 = .ok (.iaload, 1) := by decide +kernel
theorem dX12_count_158 : decode cX12_count 158 = .ok (.invokevirtual 246, 3) := by decide +kernel
theorem dX12_count_161 : decode cX12_count 161 = .ok (.ireturn, 1) := by decide +kernel
theorem dX12_count_162 : decode cX12_count 162 = .ok (.aload_n 0, 1) := by decide +kernel
theorem dX12_count_163 : decode cX12_count 163 = .ok (.getfield 151, 3) := by decide +kernel
theorem dX12_count_166 : decode cX12_count 166 = .ok (.ireturn, 1) := by decide +kernel
theorem dX12_count_167 : decode cX12_count 167 = .ok (.aload_n 0, 1) := by decide +kernel
theorem dX12_count_168 : decode cX12_count 168 = .ok (.getfield 139, 3) := by decide +kernel
theorem dX12_count_171 : decode cX12_count 171 = .ok (.ireturn, 1) := by decide +kernel
theorem dX12_count_172 : decode cX12_count 172 = .ok (.aload_n 0, 1) := by decide +kernel
theorem dX12_count_173 : decode cX12_count 173 = .ok (.getfield 80, 3) := by decide +kernel
theorem dX12_count_176 : decode cX12_count 176 = .ok (.ireturn, 1) := by decide +kernel
theorem dX12_count_177 : decode cX12_count 177 = .ok (.aload_n 0, 1) := by decide +kernel
theorem dX12_count_178 : decode cX12_count 178 = .ok (.getfield 98, 3) := by decide +kernel
theorem dX12_count_181 : decode cX12_count 181 = .ok (.ireturn, 1) := by decide +kernel
theorem dX12_count_182 : decode cX12_count 182 = .ok (.aload_n 0, 1) := by decide +kernel
theorem dX12_count_183 : decode cX12_count 183 = .ok (.invokevirtual 94, 3) := by decide +kernel
theorem dX12_count_186 : decode cX12_count 186 = .ok (.aload_n 0, 1) := by decide +kernel
theorem dX12_count_187 : decode cX12_count 187 = .ok (.aload_n 0, 1) := by decide +kernel
theorem dX12_count_188 : decode cX12_count 188 = .ok (.getfield 9, 3) := by decide +kernel
theorem dX12_count_191 : decode cX12_count 191 = .ok (.invokevirtual 214, 3) := by decide +kernel
theorem dX12_count_194 : decode cX12_count 194 = .ok (.iconst (-1), 1) := by decide +kernel
theorem dX12_count_195 : decode cX12_count 195 = .ok (.ixor, 1) := by decide +kernel
theorem dX12_count_196 : decode cX12_count 196 = .ok (.iand, 1) := by decide +kernel
theorem dX12_count_197 : decode cX12_count 197 = .ok (.ireturn, 1) := by decide +kernel
theorem dX12_count_198 : decode cX12_count 198 = .ok (.aload_n 0, 1) := by decide +kernel
theorem dX12_count_199 : decode cX12_count 199 = .ok (.invokevirtual 354, 3) := by decide +kernel
theorem dX12_count_202 : decode cX12_count 202 = .ok (.ireturn, 1) := by decide +kernel
theorem dX12_count_203 : decode cX12_count 203 = .ok (.iconst (-1), 1) := by decide +kernel
theorem dX12_count_204 : decode cX12_count 204 = .ok (.ireturn, 1) := by decide +kernel
def f_X12_count (N : Nat) (σ : uS) (p1 : Int32) : Option (Int32 × uS) := u_jn (u_pI σ 0 8 0) fun s1 =>
  if p1 = 0 then (some ((s1.1 0 1), s1)) else (if p1 = 1 then ((u_rI ZM s1 0 1 32).bind fun v2 =>
  some (v2, s1)) else (if p1 = 2 then ((u_rI ZM s1 0 1 33).bind fun v3 =>
  some (v3, s1)) else (if p1 = 3 then (some ((s1.1 0 2), s1)) else (if p1 = 4 then ((f_X12_inBits N s1 1).bind fun v4 =>
  some (v4, s1)) else (if p1 = 5 then ((u_rI ZM s1 0 1 34).bind fun v5 =>
  some (v5, s1)) else (if p1 = 6 then ((u_rI ZM s1 0 1 35).bind fun v6 =>
  some (v6, s1)) else (if p1 = 7 then ((u_rI ZM s1 0 1 36).bind fun v7 =>
  some (v7, s1)) else (if p1 = 8 then ((u_rI ZM s1 0 1 32).bind fun v8 =>
  (u_rI ZM s1 0 1 33).bind fun v9 =>
  (f_X12_corn N s1 1 v8 v9).bind fun v10 =>
  some (v10, s1)) else (if p1 = 9 then (some ((s1.1 0 30), s1)) else (if p1 = 10 then (some ((s1.1 0 21), s1)) else (if p1 = 11 then (some ((s1.1 0 7), s1)) else (if p1 = 12 then (some ((s1.1 0 5), s1)) else (if p1 = 13 then ((f_X12_all N s1).bind fun v11 =>
  (f_X12_inBits N s1 1).bind fun v12 =>
  some ((v11 &&& (v12 ^^^ (-1))), s1)) else (if p1 = 14 then ((f_X12_glances N s1).bind fun v13 =>
  some (v13, s1)) else (some ((-1), s1))))))))))))))))
set_option maxRecDepth 100000 in
set_option maxHeartbeats 4000000 in
theorem c_X12_count (l : Launch) (G : uG) (N : Nat) (σ : uS) (p1 : Int32) (z : (Int32 × uS)) (hz : f_X12_count N σ p1 = some z) : u_Mi l ZM G yX12_count cX12_count 2 .int 3 [.ref (G.2.2 0), .int p1] σ z.1 z.2 := by
  refine u_Mi_of RX12 (by decide) rfl (Nat.le_of_ble_eq_true rfl) ?_
  intro p e s m args below meth c ls cx hw hl
  have hx := cx.1
  have hb := cx.2.1
  have hl : lv_has ls 2 [(0, .ref (G.2.2 0)), (1, .int p1)] := hl
  unfold f_X12_count at hz
  refine lv_aload_n hx hb dX12_count_0 rfl (lv_at hl 0 rfl) ?_
  refine lv_iconst (v := 0) hx hb dX12_count_1 (by decide) ?_
  obtain ⟨s1, es1, hz⟩ := u_let hz
  refine u_puti2 cx hw P_X12_77 o_X12 rfl es1 dX12_count_2 (fun H locs hw => ?_)
  refine lv_iload_n hx hb dX12_count_5 rfl (lv_at hl 1 rfl) ?_
  by_cases hk0 : p1 = 0
  · replace hz := u_ift hz hk0
    refine lv_tableIn (off := 74) (tgt := 80) hx hb dX12_count_6 (by rw [hk0]; decide) (by rw [hk0]; decide) (by rw [hk0]; decide) (by decide) ?_
    refine lv_aload_n hx hb dX12_count_80 rfl (lv_at hl 0 rfl) ?_
    refine u_geti cx hw F_X12_13 o_X12 rfl dX12_count_81 ?_
    exact u_iret cx hw (u_pair hz) dX12_count_84
  replace hz := u_iff hz hk0
  by_cases hk1 : p1 = 1
  · replace hz := u_ift hz hk1
    refine lv_tableIn (off := 79) (tgt := 85) hx hb dX12_count_6 (by rw [hk1]; decide) (by rw [hk1]; decide) (by rw [hk1]; decide) (by decide) ?_
    refine lv_aload_n hx hb dX12_count_85 rfl (lv_at hl 0 rfl) ?_
    refine u_getp cx hw F_X12_9 o_X12 rfl dX12_count_86 ?_
    refine lv_bipush (v := 32) hx hb dX12_count_89 (by decide) ?_
    obtain ⟨v2, hv2, hz⟩ := u_bind hz
    refine u_iald cx hw hv2 dX12_count_91 ?_
    exact u_iret cx hw (u_pair hz) dX12_count_92
  replace hz := u_iff hz hk1
  by_cases hk2 : p1 = 2
  · replace hz := u_ift hz hk2
    refine lv_tableIn (off := 87) (tgt := 93) hx hb dX12_count_6 (by rw [hk2]; decide) (by rw [hk2]; decide) (by rw [hk2]; decide) (by decide) ?_
    refine lv_aload_n hx hb dX12_count_93 rfl (lv_at hl 0 rfl) ?_
    refine u_getp cx hw F_X12_9 o_X12 rfl dX12_count_94 ?_
    refine lv_bipush (v := 33) hx hb dX12_count_97 (by decide) ?_
    obtain ⟨v3, hv3, hz⟩ := u_bind hz
    refine u_iald cx hw hv3 dX12_count_99 ?_
    exact u_iret cx hw (u_pair hz) dX12_count_100
  replace hz := u_iff hz hk2
  by_cases hk3 : p1 = 3
  · replace hz := u_ift hz hk3
    refine lv_tableIn (off := 95) (tgt := 101) hx hb dX12_count_6 (by rw [hk3]; decide) (by rw [hk3]; decide) (by rw [hk3]; decide) (by decide) ?_
    refine lv_aload_n hx hb dX12_count_101 rfl (lv_at hl 0 rfl) ?_
    refine u_geti cx hw F_X12_83 o_X12 rfl dX12_count_102 ?_
    exact u_iret cx hw (u_pair hz) dX12_count_105
  replace hz := u_iff hz hk3
  by_cases hk4 : p1 = 4
  · replace hz := u_ift hz hk4
    refine lv_tableIn (off := 100) (tgt := 106) hx hb dX12_count_6 (by rw [hk4]; decide) (by rw [hk4]; decide) (by rw [hk4]; decide) (by decide) ?_
    refine lv_aload_n hx hb dX12_count_106 rfl (lv_at hl 0 rfl) ?_
    refine lv_aload_n hx hb dX12_count_107 rfl (lv_at hl 0 rfl) ?_
    refine u_getp cx hw F_X12_9 o_X12 rfl dX12_count_108 ?_
    obtain ⟨v4, hv4, hz⟩ := u_bind hz
    refine u_callVi (As := [.ref (G.2.2 1)]) (rest := []) cx hw LV_X12_214 (c_X12_inBits l G N s1 1 v4 hv4) o_X12 rfl (by decide) hl.1 rfl (Nat.le_of_ble_eq_true rfl) dX12_count_111 rfl (fun H locs hw => ?_)
    exact u_iret cx hw (u_pair hz) dX12_count_114
  replace hz := u_iff hz hk4
  by_cases hk5 : p1 = 5
  · replace hz := u_ift hz hk5
    refine lv_tableIn (off := 109) (tgt := 115) hx hb dX12_count_6 (by rw [hk5]; decide) (by rw [hk5]; decide) (by rw [hk5]; decide) (by decide) ?_
    refine lv_aload_n hx hb dX12_count_115 rfl (lv_at hl 0 rfl) ?_
    refine u_getp cx hw F_X12_9 o_X12 rfl dX12_count_116 ?_
    refine lv_bipush (v := 34) hx hb dX12_count_119 (by decide) ?_
    obtain ⟨v5, hv5, hz⟩ := u_bind hz
    refine u_iald cx hw hv5 dX12_count_121 ?_
    exact u_iret cx hw (u_pair hz) dX12_count_122
  replace hz := u_iff hz hk5
  by_cases hk6 : p1 = 6
  · replace hz := u_ift hz hk6
    refine lv_tableIn (off := 117) (tgt := 123) hx hb dX12_count_6 (by rw [hk6]; decide) (by rw [hk6]; decide) (by rw [hk6]; decide) (by decide) ?_
    refine lv_aload_n hx hb dX12_count_123 rfl (lv_at hl 0 rfl) ?_
    refine u_getp cx hw F_X12_9 o_X12 rfl dX12_count_124 ?_
    refine lv_bipush (v := 35) hx hb dX12_count_127 (by decide) ?_
    obtain ⟨v6, hv6, hz⟩ := u_bind hz
    refine u_iald cx hw hv6 dX12_count_129 ?_
    exact u_iret cx hw (u_pair hz) dX12_count_130
  replace hz := u_iff hz hk6
  by_cases hk7 : p1 = 7
  · replace hz := u_ift hz hk7
    refine lv_tableIn (off := 125) (tgt := 131) hx hb dX12_count_6 (by rw [hk7]; decide) (by rw [hk7]; decide) (by rw [hk7]; decide) (by decide) ?_
    refine lv_aload_n hx hb dX12_count_131 rfl (lv_at hl 0 rfl) ?_
    refine u_getp cx hw F_X12_9 o_X12 rfl dX12_count_132 ?_
    refine lv_bipush (v := 36) hx hb dX12_count_135 (by decide) ?_
    obtain ⟨v7, hv7, hz⟩ := u_bind hz
    refine u_iald cx hw hv7 dX12_count_137 ?_
    exact u_iret cx hw (u_pair hz) dX12_count_138
  replace hz := u_iff hz hk7
  by_cases hk8 : p1 = 8
  · replace hz := u_ift hz hk8
    refine lv_tableIn (off := 133) (tgt := 139) hx hb dX12_count_6 (by rw [hk8]; decide) (by rw [hk8]; decide) (by rw [hk8]; decide) (by decide) ?_
    refine lv_aload_n hx hb dX12_count_139 rfl (lv_at hl 0 rfl) ?_
    refine lv_aload_n hx hb dX12_count_140 rfl (lv_at hl 0 rfl) ?_
    refine u_getp cx hw F_X12_9 o_X12 rfl dX12_count_141 ?_
    refine lv_aload_n hx hb dX12_count_144 rfl (lv_at hl 0 rfl) ?_
    refine u_getp cx hw F_X12_9 o_X12 rfl dX12_count_145 ?_
    refine lv_bipush (v := 32) hx hb dX12_count_148 (by decide) ?_
    obtain ⟨v8, hv8, hz⟩ := u_bind hz
    refine u_iald cx hw hv8 dX12_count_150 ?_
    refine lv_aload_n hx hb dX12_count_151 rfl (lv_at hl 0 rfl) ?_
    refine u_getp cx hw F_X12_9 o_X12 rfl dX12_count_152 ?_
    refine lv_bipush (v := 33) hx hb dX12_count_155 (by decide) ?_
    obtain ⟨v9, hv9, hz⟩ := u_bind hz
    refine u_iald cx hw hv9 dX12_count_157 ?_
    obtain ⟨v10, hv10, hz⟩ := u_bind hz
    refine u_callVi (As := [.ref (G.2.2 1), .int v8, .int v9]) (rest := []) cx hw LV_X12_246 (c_X12_corn l G N s1 1 v8 v9 v10 hv10) o_X12 rfl (by decide) hl.1 rfl (Nat.le_of_ble_eq_true rfl) dX12_count_158 rfl (fun H locs hw => ?_)
    exact u_iret cx hw (u_pair hz) dX12_count_161
  replace hz := u_iff hz hk8
  by_cases hk9 : p1 = 9
  · replace hz := u_ift hz hk9
    refine lv_tableIn (off := 156) (tgt := 162) hx hb dX12_count_6 (by rw [hk9]; decide) (by rw [hk9]; decide) (by rw [hk9]; decide) (by decide) ?_
    refine lv_aload_n hx hb dX12_count_162 rfl (lv_at hl 0 rfl) ?_
    refine u_geti cx hw F_X12_151 o_X12 rfl dX12_count_163 ?_
    exact u_iret cx hw (u_pair hz) dX12_count_166
  replace hz := u_iff hz hk9
  by_cases hk10 : p1 = 10
  · replace hz := u_ift hz hk10
    refine lv_tableIn (off := 161) (tgt := 167) hx hb dX12_count_6 (by rw [hk10]; decide) (by rw [hk10]; decide) (by rw [hk10]; decide) (by decide) ?_
    refine lv_aload_n hx hb dX12_count_167 rfl (lv_at hl 0 rfl) ?_
    refine u_geti cx hw F_X12_139 o_X12 rfl dX12_count_168 ?_
    exact u_iret cx hw (u_pair hz) dX12_count_171
  replace hz := u_iff hz hk10
  by_cases hk11 : p1 = 11
  · replace hz := u_ift hz hk11
    refine lv_tableIn (off := 166) (tgt := 172) hx hb dX12_count_6 (by rw [hk11]; decide) (by rw [hk11]; decide) (by rw [hk11]; decide) (by decide) ?_
    refine lv_aload_n hx hb dX12_count_172 rfl (lv_at hl 0 rfl) ?_
    refine u_geti cx hw F_X12_80 o_X12 rfl dX12_count_173 ?_
    exact u_iret cx hw (u_pair hz) dX12_count_176
  replace hz := u_iff hz hk11
  by_cases hk12 : p1 = 12
  · replace hz := u_ift hz hk12
    refine lv_tableIn (off := 171) (tgt := 177) hx hb dX12_count_6 (by rw [hk12]; decide) (by rw [hk12]; decide) (by rw [hk12]; decide) (by decide) ?_
    refine lv_aload_n hx hb dX12_count_177 rfl (lv_at hl 0 rfl) ?_
    refine u_geti cx hw F_X12_98 o_X12 rfl dX12_count_178 ?_
    exact u_iret cx hw (u_pair hz) dX12_count_181
  replace hz := u_iff hz hk12
  by_cases hk13 : p1 = 13
  · replace hz := u_ift hz hk13
    refine lv_tableIn (off := 176) (tgt := 182) hx hb dX12_count_6 (by rw [hk13]; decide) (by rw [hk13]; decide) (by rw [hk13]; decide) (by decide) ?_
    refine lv_aload_n hx hb dX12_count_182 rfl (lv_at hl 0 rfl) ?_
    obtain ⟨v11, hv11, hz⟩ := u_bind hz
    refine u_callVi (As := []) (rest := []) cx hw LV_X12_94 (c_X12_all l G N s1 v11 hv11) o_X12 rfl (by decide) hl.1 rfl (Nat.le_of_ble_eq_true rfl) dX12_count_183 rfl (fun H locs hw => ?_)
    refine lv_aload_n hx hb dX12_count_186 rfl (lv_at hl 0 rfl) ?_
    refine lv_aload_n hx hb dX12_count_187 rfl (lv_at hl 0 rfl) ?_
    refine u_getp cx hw F_X12_9 o_X12 rfl dX12_count_188 ?_
    obtain ⟨v12, hv12, hz⟩ := u_bind hz
    refine u_callVi (As := [.ref (G.2.2 1)]) (rest := [.int v11]) cx hw LV_X12_214 (c_X12_inBits l G N s1 1 v12 hv12) o_X12 rfl (by decide) hl.1 rfl (Nat.le_of_ble_eq_true rfl) dX12_count_191 rfl (fun H locs hw => ?_)
    refine lv_iconst (v := (-1)) hx hb dX12_count_194 (by decide) ?_
    refine lv_ixor hx hb dX12_count_195 ?_
    refine lv_iand hx hb dX12_count_196 ?_
    exact u_iret cx hw (u_pair hz) dX12_count_197
  replace hz := u_iff hz hk13
  by_cases hk14 : p1 = 14
  · replace hz := u_ift hz hk14
    refine lv_tableIn (off := 192) (tgt := 198) hx hb dX12_count_6 (by rw [hk14]; decide) (by rw [hk14]; decide) (by rw [hk14]; decide) (by decide) ?_
    refine lv_aload_n hx hb dX12_count_198 rfl (lv_at hl 0 rfl) ?_
    obtain ⟨v13, hv13, hz⟩ := u_bind hz
    refine u_callVi (As := []) (rest := []) cx hw LV_X12_354 (c_X12_glances l G N s1 v13 hv13) o_X12 rfl (by decide) hl.1 rfl (Nat.le_of_ble_eq_true rfl) dX12_count_199 rfl (fun H locs hw => ?_)
    exact u_iret cx hw (u_pair hz) dX12_count_202
  replace hz := u_iff hz hk14
  refine lv_tableOut (tgt := 203) hx hb dX12_count_6 (by have := lv_neT hk0 (a := 0) (by decide); have := lv_neT hk1 (a := 1) (by decide); have := lv_neT hk2 (a := 2) (by decide); have := lv_neT hk3 (a := 3) (by decide); have := lv_neT hk4 (a := 4) (by decide); have := lv_neT hk5 (a := 5) (by decide); have := lv_neT hk6 (a := 6) (by decide); have := lv_neT hk7 (a := 7) (by decide); have := lv_neT hk8 (a := 8) (by decide); have := lv_neT hk9 (a := 9) (by decide); have := lv_neT hk10 (a := 10) (by decide); have := lv_neT hk11 (a := 11) (by decide); have := lv_neT hk12 (a := 12) (by decide); have := lv_neT hk13 (a := 13) (by decide); have := lv_neT hk14 (a := 14) (by decide); omega) (by decide) ?_
  refine lv_iconst (v := (-1)) hx hb dX12_count_203 (by decide) ?_
  exact u_iret cx hw (u_pair hz) dX12_count_204
theorem dX6_takesThing_0 : decode cX6_takesThing 0 = .ok (.iload_n 1, 1) := by decide +kernel
theorem dX6_takesThing_1 : decode cX6_takesThing 1 = .ok (.bipush 45, 2) := by decide +kernel
theorem dX6_takesThing_3 : decode cX6_takesThing 3 = .ok (.if_icmp .ne 10, 3) := by decide +kernel
theorem dX6_takesThing_6 : decode cX6_takesThing 6 = .ok (.aload_n 0, 1) := by decide +kernel
theorem dX6_takesThing_7 : decode cX6_takesThing 7 = .ok (.bipush 126, 2) := by decide +kernel
theorem dX6_takesThing_9 : decode cX6_takesThing 9 = .ok (.invokevirtual 54, 3) := by decide +kernel
theorem dX6_takesThing_12 : decode cX6_takesThing 12 = .ok (.ireturn, 1) := by decide +kernel
theorem dX6_takesThing_13 : decode cX6_takesThing 13 = .ok (.iload_n 1, 1) := by decide +kernel
theorem dX6_takesThing_14 : decode cX6_takesThing 14 = .ok (.bipush 40, 2) := by decide +kernel
theorem dX6_takesThing_16 : decode cX6_takesThing 16 = .ok (.if_icmp .ne 8, 3) := by decide +kernel
theorem dX6_takesThing_19 : decode cX6_takesThing 19 = .ok (.aload_n 0, 1) := by decide +kernel
theorem dX6_takesThing_20 : decode cX6_takesThing 20 = .ok (.invokevirtual 57, 3) := by decide +kernel
theorem dX6_takesThing_23 : decode cX6_takesThing 23 = .ok (.ireturn, 1) := by decide +kernel
theorem dX6_takesThing_24 : decode cX6_takesThing 24 = .ok (.iload_n 1, 1) := by decide +kernel
theorem dX6_takesThing_25 : decode cX6_takesThing 25 = .ok (.invokestatic 61, 3) := by decide +kernel
theorem dX6_takesThing_28 : decode cX6_takesThing 28 = .ok (.ifCond .eq 17, 3) := by decide +kernel
theorem dX6_takesThing_31 : decode cX6_takesThing 31 = .ok (.aload_n 0, 1) := by decide +kernel
theorem dX6_takesThing_32 : decode cX6_takesThing 32 = .ok (.iconst 1, 1) := by decide +kernel
theorem dX6_takesThing_33 : decode cX6_takesThing 33 = .ok (.putfield 31, 3) := by decide +kernel
theorem dX6_takesThing_36 : decode cX6_takesThing 36 = .ok (.aload_n 0, 1) := by decide +kernel
theorem dX6_takesThing_37 : decode cX6_takesThing 37 = .ok (.iload_n 1, 1) := by decide +kernel
theorem dX6_takesThing_38 : decode cX6_takesThing 38 = .ok (.bipush 48, 2) := by decide +kernel
theorem dX6_takesThing_40 : decode cX6_takesThing 40 = .ok (.isub, 1) := by decide +kernel
theorem dX6_takesThing_41 : decode cX6_takesThing 41 = .ok (.invokevirtual 64, 3) := by decide +kernel
theorem dX6_takesThing_44 : decode cX6_takesThing 44 = .ok (.ireturn, 1) := by decide +kernel
theorem dX6_takesThing_45 : decode cX6_takesThing 45 = .ok (.iload_n 1, 1) := by decide +kernel
theorem dX6_takesThing_46 : decode cX6_takesThing 46 = .ok (.invokestatic 67, 3) := by decide +kernel
theorem dX6_takesThing_49 : decode cX6_takesThing 49 = .ok (.istore_n 2, 1) := by decide +kernel
theorem dX6_takesThing_50 : decode cX6_takesThing 50 = .ok (.iload_n 2, 1) := by decide +kernel
theorem dX6_takesThing_51 : decode cX6_takesThing 51 = .ok (.ifCond .ge 5, 3) := by decide +kernel
theorem dX6_takesThing_54 : decode cX6_takesThing 54 = .ok (.iconst 0, 1) := by decide +kernel
theorem dX6_takesThing_55 : decode cX6_takesThing 55 = .ok (.ireturn, 1) := by decide +kernel
theorem dX6_takesThing_56 : decode cX6_takesThing 56 = .ok (.aload_n 0, 1) := by decide +kernel
theorem dX6_takesThing_57 : decode cX6_takesThing 57 = .ok (.dup, 1) := by decide +kernel
theorem dX6_takesThing_58 : decode cX6_takesThing 58 = .ok (.getfield 44, 3) := by decide +kernel
theorem dX6_takesThing_61 : decode cX6_takesThing 61 = .ok (.iload_n 2, 1) := by decide +kernel
theorem dX6_takesThing_62 : decode cX6_takesThing 62 = .ok (.iconst 5, 1) := by decide +kernel
theorem dX6_takesThing_63 : decode cX6_takesThing 63 = .ok (.if_icmp .ne 7, 3) := by decide +kernel
theorem dX6_takesThing_66 : decode cX6_takesThing 66 = .ok (.iconst 1, 1) := by decide +kernel
theorem dX6_takesThing_67 : decode cX6_takesThing 67 = .ok (.goto 4, 3) := by decide +kernel
theorem dX6_takesThing_70 : decode cX6_takesThing 70 = .ok (.iconst 0, 1) := by decide +kernel
theorem dX6_takesThing_71 : decode cX6_takesThing 71 = .ok (.ior, 1) := by decide +kernel
theorem dX6_takesThing_72 : decode cX6_takesThing 72 = .ok (.putfield 44, 3) := by decide +kernel
theorem dX6_takesThing_75 : decode cX6_takesThing 75 = .ok (.aload_n 0, 1) := by decide +kernel
theorem dX6_takesThing_76 : decode cX6_takesThing 76 = .ok (.sipush 1000, 3) := by decide +kernel
theorem dX6_takesThing_79 : decode cX6_takesThing 79 = .ok (.iload_n 2, 1) := by decide +kernel
theorem dX6_takesThing_80 : decode cX6_takesThing 80 = .ok (.iadd, 1) := by decide +kernel
theorem dX6_takesThing_81 : decode cX6_takesThing 81 = .ok (.invokevirtual 64, 3) := by decide +kernel
theorem dX6_takesThing_84 : decode cX6_takesThing 84 = .ok (.ireturn, 1) := by decide +kernel
def f_X6_takesThing (N : Nat) (σ : uS) (i0 : Nat) (p1 : Int32) : Option (Int32 × uS) := if p1 = 45 then ((f_X6_await N σ i0 126).bind fun v10 =>
  u_ck (v10.1 = 0 ∨ v10.1 = 1) (some (v10.1, v10.2))) else (if p1 = 40 then ((f_X6_opens N σ i0).bind fun v9 =>
  u_ck (v9.1 = 0 ∨ v9.1 = 1) (some (v9.1, v9.2))) else ((f_X5_isDigit N σ p1).bind fun v1 =>
  if v1 = 0 then ((f_X6_whichThing N σ p1).bind fun v2 =>
  if 0 ≤ v2 then (u_jn (fun (t3 : Int32) => (u_ck (((σ.1 i0 10) ||| t3) = 0 ∨ ((σ.1 i0 10) ||| t3) = 1) <|
  u_jn (u_pI σ i0 10 ((σ.1 i0 10) ||| t3)) fun s5 =>
  (f_X6_putThing N s5 i0 (1000 + v2)).bind fun v6 =>
  u_ck (v6.1 = 0 ∨ v6.1 = 1) (some (v6.1, v6.2)) : Option (Int32 × uS))) fun J71_4 =>
  if v2 = 5 then (J71_4 1) else (J71_4 0)) else (some (0, σ))) else (u_jn (u_pI σ i0 6 1) fun s7 =>
  (f_X6_putThing N s7 i0 (p1 - 48)).bind fun v8 =>
  u_ck (v8.1 = 0 ∨ v8.1 = 1) (some (v8.1, v8.2)))))
set_option maxRecDepth 100000 in
set_option maxHeartbeats 4000000 in
theorem c_X6_takesThing (l : Launch) (G : uG) (N : Nat) (σ : uS) (i0 : Nat) (oi0 : u_o ZC i0 5 11 (k_R i0)) (p1 : Int32) (z : (Int32 × uS)) (hz : f_X6_takesThing N σ i0 p1 = some z) : u_Mi l ZC G yX6_takesThing cX6_takesThing 3 .boolean 2 [.ref (G.2.2 i0), .int p1] σ z.1 z.2 := by
  refine u_Mi_of RX6 (by decide) rfl (Nat.le_of_ble_eq_true rfl) ?_
  intro p e s m args below meth c ls cx hw hl
  have hx := cx.1
  have hb := cx.2.1
  have hl : lv_has ls 3 [(0, .ref (G.2.2 i0)), (1, .int p1)] := hl
  unfold f_X6_takesThing at hz
  refine lv_iload_n hx hb dX6_takesThing_0 rfl (lv_at hl 1 rfl) ?_
  refine lv_bipush (v := 45) hx hb dX6_takesThing_1 (by decide) ?_
  refine lv_icmp_ne (tgt := 13) hx hb dX6_takesThing_3 (by decide) (fun hc => ?_) (fun hc => ?_)
  · replace hz := u_iff hz hc
    refine lv_iload_n hx hb dX6_takesThing_13 rfl (lv_at hl 1 rfl) ?_
    refine lv_bipush (v := 40) hx hb dX6_takesThing_14 (by decide) ?_
    refine lv_icmp_ne (tgt := 24) hx hb dX6_takesThing_16 (by decide) (fun hc => ?_) (fun hc => ?_)
    · replace hz := u_iff hz hc
      refine lv_iload_n hx hb dX6_takesThing_24 rfl (lv_at hl 1 rfl) ?_
      obtain ⟨v1, hv1, hz⟩ := u_bind hz
      refine u_callTi (As := [.int p1]) (rest := []) cx hw LT_X6_61 (c_X5_isDigit l G N σ p1 v1 hv1) (by decide) hl.1 rfl (Nat.le_of_ble_eq_true rfl) dX6_takesThing_25 rfl (fun H locs hw => ?_)
      refine lv_if_eq (tgt := 45) hx hb dX6_takesThing_28 (by decide) (fun hc => ?_) (fun hc => ?_)
      · replace hz := u_ift hz hc
        refine lv_iload_n hx hb dX6_takesThing_45 rfl (lv_at hl 1 rfl) ?_
        obtain ⟨v2, hv2, hz⟩ := u_bind hz
        refine u_callSi (As := [.int p1]) (rest := []) cx hw LS_X6_67 (c_X6_whichThing l G N σ p1 v2 hv2) (by decide) hl.1 rfl (Nat.le_of_ble_eq_true rfl) dX6_takesThing_46 rfl (fun H locs hw => ?_)
        refine lv_istore_n (lv' := [(2, .int v2), (0, .ref (G.2.2 i0)), (1, .int p1)]) hx hb dX6_takesThing_49 rfl hl (by decide) rfl (fun ls hl => ?_)
        refine lv_iload_n hx hb dX6_takesThing_50 rfl (lv_at hl 0 rfl) ?_
        refine lv_if_ge (tgt := 56) hx hb dX6_takesThing_51 (by decide) (fun hc => ?_) (fun hc => ?_)
        · replace hz := u_ift hz hc
          refine lv_aload_n hx hb dX6_takesThing_56 rfl (lv_at hl 1 rfl) ?_
          refine lv_dup hx hb dX6_takesThing_57 rfl ?_
          refine u_geti cx hw F_X6_44 oi0 rfl dX6_takesThing_58 ?_
          refine lv_iload_n hx hb dX6_takesThing_61 rfl (lv_at hl 0 rfl) ?_
          refine lv_iconst (v := 5) hx hb dX6_takesThing_62 (by decide) ?_
          obtain ⟨J71_4, eJ71_4, hz⟩ := u_let hz
          have WJ71_4 : ∀ (t3 : Int32) (H : Heap) (locs : List Loc) (ls : Array Slot), J71_4 t3 = some z → u_W ZC G σ s H locs → lv_has ls 3 [(0, .ref (G.2.2 i0)), (2, .int v2)] → W p l e (u_rm 2) s m args below meth c H locs 0 0 (u_Qi below ZC G s args z.1 z.2) (F0 m 71 ls [.int t3, .int (σ.1 i0 10), .ref (G.2.2 i0)]) := by
            intro t3 H locs ls hz hw hl
            rw [eJ71_4] at hz
            refine lv_ior hx hb dX6_takesThing_71 ?_
            obtain ⟨h01, hz⟩ := u_ck_some hz
            obtain ⟨s5, es5, hz⟩ := u_let hz
            refine u_putz2 cx hw P_X6_44 oi0 rfl h01 es5 dX6_takesThing_72 (fun H locs hw => ?_)
            refine lv_aload_n hx hb dX6_takesThing_75 rfl (lv_at hl 0 rfl) ?_
            refine lv_sipush (v := 1000) hx hb dX6_takesThing_76 (by decide) ?_
            refine lv_iload_n hx hb dX6_takesThing_79 rfl (lv_at hl 1 rfl) ?_
            refine lv_iadd hx hb dX6_takesThing_80 ?_
            obtain ⟨v6, hv6, hz⟩ := u_bind hz
            refine u_callVi (As := [.int (1000 + v2)]) (rest := []) cx hw LV_X6_64 (c_X6_putThing l G N s5 i0 oi0 (1000 + v2) v6 hv6) oi0 rfl (by decide) hl.1 rfl (Nat.le_of_ble_eq_true rfl) dX6_takesThing_81 rfl (fun H locs hw => ?_)
            obtain ⟨h01, hz⟩ := u_ck_some hz
            exact u_zret cx hw h01 (u_pair hz) dX6_takesThing_84
          refine lv_icmp_ne (tgt := 70) hx hb dX6_takesThing_63 (by decide) (fun hc => ?_) (fun hc => ?_)
          · replace hz := u_iff hz hc
            refine lv_iconst (v := 0) hx hb dX6_takesThing_70 (by decide) ?_
            exact WJ71_4 0 _ _ _ hz hw (lv_sub hl [1, 0] rfl)
          · replace hz := u_ift hz hc
            refine lv_iconst (v := 1) hx hb dX6_takesThing_66 (by decide) ?_
            refine lv_goto (tgt := 71) hx hb dX6_takesThing_67 (by decide) ?_
            exact WJ71_4 1 _ _ _ hz hw (lv_sub hl [1, 0] rfl)
        · replace hz := u_iff hz hc
          refine lv_iconst (v := 0) hx hb dX6_takesThing_54 (by decide) ?_
          exact u_zret cx hw (Or.inl rfl) (u_pair hz) dX6_takesThing_55
      · replace hz := u_iff hz hc
        refine lv_aload_n hx hb dX6_takesThing_31 rfl (lv_at hl 0 rfl) ?_
        refine lv_iconst (v := 1) hx hb dX6_takesThing_32 (by decide) ?_
        obtain ⟨s7, es7, hz⟩ := u_let hz
        refine u_puti2 cx hw P_X6_31 oi0 rfl es7 dX6_takesThing_33 (fun H locs hw => ?_)
        refine lv_aload_n hx hb dX6_takesThing_36 rfl (lv_at hl 0 rfl) ?_
        refine lv_iload_n hx hb dX6_takesThing_37 rfl (lv_at hl 1 rfl) ?_
        refine lv_bipush (v := 48) hx hb dX6_takesThing_38 (by decide) ?_
        refine lv_isub hx hb dX6_takesThing_40 ?_
        obtain ⟨v8, hv8, hz⟩ := u_bind hz
        refine u_callVi (As := [.int (p1 - 48)]) (rest := []) cx hw LV_X6_64 (c_X6_putThing l G N s7 i0 oi0 (p1 - 48) v8 hv8) oi0 rfl (by decide) hl.1 rfl (Nat.le_of_ble_eq_true rfl) dX6_takesThing_41 rfl (fun H locs hw => ?_)
        obtain ⟨h01, hz⟩ := u_ck_some hz
        exact u_zret cx hw h01 (u_pair hz) dX6_takesThing_44
    · replace hz := u_ift hz hc
      refine lv_aload_n hx hb dX6_takesThing_19 rfl (lv_at hl 0 rfl) ?_
      obtain ⟨v9, hv9, hz⟩ := u_bind hz
      refine u_callVi (As := []) (rest := []) cx hw LV_X6_57 (c_X6_opens l G N σ i0 oi0 v9 hv9) oi0 rfl (by decide) hl.1 rfl (Nat.le_of_ble_eq_true rfl) dX6_takesThing_20 rfl (fun H locs hw => ?_)
      obtain ⟨h01, hz⟩ := u_ck_some hz
      exact u_zret cx hw h01 (u_pair hz) dX6_takesThing_23
  · replace hz := u_ift hz hc
    refine lv_aload_n hx hb dX6_takesThing_6 rfl (lv_at hl 0 rfl) ?_
    refine lv_bipush (v := 126) hx hb dX6_takesThing_7 (by decide) ?_
    obtain ⟨v10, hv10, hz⟩ := u_bind hz
    refine u_callVi (As := [.int 126]) (rest := []) cx hw LV_X6_54 (c_X6_await l G N σ i0 oi0 126 v10 hv10) oi0 rfl (by decide) hl.1 rfl (Nat.le_of_ble_eq_true rfl) dX6_takesThing_9 rfl (fun H locs hw => ?_)
    obtain ⟨h01, hz⟩ := u_ck_some hz
    exact u_zret cx hw h01 (u_pair hz) dX6_takesThing_12
theorem dX6_closes_0 : decode cX6_closes 0 = .ok (.aload_n 0, 1) := by decide +kernel
theorem dX6_closes_1 : decode cX6_closes 1 = .ok (.getfield 34, 3) := by decide +kernel
theorem dX6_closes_4 : decode cX6_closes 4 = .ok (.ifCond .ne 5, 3) := by decide +kernel
theorem dX6_closes_7 : decode cX6_closes 7 = .ok (.iconst 0, 1) := by decide +kernel
theorem dX6_closes_8 : decode cX6_closes 8 = .ok (.ireturn, 1) := by decide +kernel
theorem dX6_closes_9 : decode cX6_closes 9 = .ok (.aload_n 0, 1) := by decide +kernel
theorem dX6_closes_10 : decode cX6_closes 10 = .ok (.iconst 1, 1) := by decide +kernel
theorem dX6_closes_11 : decode cX6_closes 11 = .ok (.invokevirtual 83, 3) := by decide +kernel
theorem dX6_closes_14 : decode cX6_closes 14 = .ok (.aload_n 0, 1) := by decide +kernel
theorem dX6_closes_15 : decode cX6_closes 15 = .ok (.iconst 0, 1) := by decide +kernel
theorem dX6_closes_16 : decode cX6_closes 16 = .ok (.aload_n 0, 1) := by decide +kernel
theorem dX6_closes_17 : decode cX6_closes 17 = .ok (.getfield 28, 3) := by decide +kernel
theorem dX6_closes_20 : decode cX6_closes 20 = .ok (.iconst 1, 1) := by decide +kernel
theorem dX6_closes_21 : decode cX6_closes 21 = .ok (.isub, 1) := by decide +kernel
theorem dX6_closes_22 : decode cX6_closes 22 = .ok (.invokestatic 87, 3) := by decide +kernel
theorem dX6_closes_25 : decode cX6_closes 25 = .ok (.putfield 28, 3) := by decide +kernel
theorem dX6_closes_28 : decode cX6_closes 28 = .ok (.aload_n 0, 1) := by decide +kernel
theorem dX6_closes_29 : decode cX6_closes 29 = .ok (.dup, 1) := by decide +kernel
theorem dX6_closes_30 : decode cX6_closes 30 = .ok (.getfield 34, 3) := by decide +kernel
theorem dX6_closes_33 : decode cX6_closes 33 = .ok (.iconst 1, 1) := by decide +kernel
theorem dX6_closes_34 : decode cX6_closes 34 = .ok (.isub, 1) := by decide +kernel
theorem dX6_closes_35 : decode cX6_closes 35 = .ok (.putfield 34, 3) := by decide +kernel
theorem dX6_closes_38 : decode cX6_closes 38 = .ok (.iconst 1, 1) := by decide +kernel
theorem dX6_closes_39 : decode cX6_closes 39 = .ok (.ireturn, 1) := by decide +kernel
def f_X6_closes (N : Nat) (σ : uS) (i0 : Nat) : Option (Int32 × uS) := if (σ.1 i0 7) = 0 then (some (0, σ)) else ((f_X6_unwind N σ i0 1).bind fun s1 =>
  u_jn (u_pI s1 i0 5 (if 0 < ((s1.1 i0 5) - 1) then ((s1.1 i0 5) - 1) else 0)) fun s2 =>
  u_jn (u_pI s2 i0 7 ((s2.1 i0 7) - 1)) fun s3 =>
  some (1, s3))
set_option maxRecDepth 100000 in
set_option maxHeartbeats 4000000 in
theorem c_X6_closes (l : Launch) (G : uG) (N : Nat) (σ : uS) (i0 : Nat) (oi0 : u_o ZC i0 5 11 (k_R i0)) (z : (Int32 × uS)) (hz : f_X6_closes N σ i0 = some z) : u_Mi l ZC G yX6_closes cX6_closes 1 .boolean 2 [.ref (G.2.2 i0)] σ z.1 z.2 := by
  refine u_Mi_of RX6 (by decide) rfl (Nat.le_of_ble_eq_true rfl) ?_
  intro p e s m args below meth c ls cx hw hl
  have hx := cx.1
  have hb := cx.2.1
  have hl : lv_has ls 1 [(0, .ref (G.2.2 i0))] := hl
  unfold f_X6_closes at hz
  refine lv_aload_n hx hb dX6_closes_0 rfl (lv_at hl 0 rfl) ?_
  refine u_geti cx hw F_X6_34 oi0 rfl dX6_closes_1 ?_
  refine lv_if_ne (tgt := 9) hx hb dX6_closes_4 (by decide) (fun hc => ?_) (fun hc => ?_)
  · replace hz := u_iff hz hc
    refine lv_aload_n hx hb dX6_closes_9 rfl (lv_at hl 0 rfl) ?_
    refine lv_iconst (v := 1) hx hb dX6_closes_10 (by decide) ?_
    obtain ⟨s1, hs1, hz⟩ := u_bind hz
    refine u_callVv (As := [.int 1]) (rest := []) cx hw LV_X6_83 (c_X6_unwind l G N σ i0 oi0 1 s1 hs1) oi0 rfl (by decide) hl.1 rfl (Nat.le_of_ble_eq_true rfl) dX6_closes_11 rfl (fun H locs hw => ?_)
    refine lv_aload_n hx hb dX6_closes_14 rfl (lv_at hl 0 rfl) ?_
    refine lv_iconst (v := 0) hx hb dX6_closes_15 (by decide) ?_
    refine lv_aload_n hx hb dX6_closes_16 rfl (lv_at hl 0 rfl) ?_
    refine u_geti cx hw F_X6_28 oi0 rfl dX6_closes_17 ?_
    refine lv_iconst (v := 1) hx hb dX6_closes_20 (by decide) ?_
    refine lv_isub hx hb dX6_closes_21 ?_
    refine u_mmax cx LM_X6_87 (by decide) hl.1 (Nat.le_of_ble_eq_true rfl) dX6_closes_22 ?_
    obtain ⟨s2, es2, hz⟩ := u_let hz
    refine u_puti2 cx hw P_X6_28 oi0 rfl es2 dX6_closes_25 (fun H locs hw => ?_)
    refine lv_aload_n hx hb dX6_closes_28 rfl (lv_at hl 0 rfl) ?_
    refine lv_dup hx hb dX6_closes_29 rfl ?_
    refine u_geti cx hw F_X6_34 oi0 rfl dX6_closes_30 ?_
    refine lv_iconst (v := 1) hx hb dX6_closes_33 (by decide) ?_
    refine lv_isub hx hb dX6_closes_34 ?_
    obtain ⟨s3, es3, hz⟩ := u_let hz
    refine u_puti2 cx hw P_X6_34 oi0 rfl es3 dX6_closes_35 (fun H locs hw => ?_)
    refine lv_iconst (v := 1) hx hb dX6_closes_38 (by decide) ?_
    exact u_zret cx hw (Or.inr rfl) (u_pair hz) dX6_closes_39
  · replace hz := u_ift hz hc
    refine lv_iconst (v := 0) hx hb dX6_closes_7 (by decide) ?_
    exact u_zret cx hw (Or.inl rfl) (u_pair hz) dX6_closes_8
theorem dX6_takesEnd_0 : decode cX6_takesEnd 0 = .ok (.aload_n 0, 1) := by decide +kernel
theorem dX6_takesEnd_1 : decode cX6_takesEnd 1 = .ok (.getfield 40, 3) := by decide +kernel
theorem dX6_takesEnd_4 : decode cX6_takesEnd 4 = .ok (.ifCond .eq 10, 3) := by decide +kernel
theorem dX6_takesEnd_7 : decode cX6_takesEnd 7 = .ok (.aload_n 0, 1) := by decide +kernel
theorem dX6_takesEnd_8 : decode cX6_takesEnd 8 = .ok (.getfield 34, 3) := by decide +kernel
theorem dX6_takesEnd_11 : decode cX6_takesEnd 11 = .ok (.ifCond .le 5, 3) := by decide +kernel
theorem dX6_takesEnd_14 : decode cX6_takesEnd 14 = .ok (.iconst 0, 1) := by decide +kernel
theorem dX6_takesEnd_15 : decode cX6_takesEnd 15 = .ok (.ireturn, 1) := by decide +kernel
theorem dX6_takesEnd_16 : decode cX6_takesEnd 16 = .ok (.aload_n 0, 1) := by decide +kernel
theorem dX6_takesEnd_17 : decode cX6_takesEnd 17 = .ok (.iconst 1, 1) := by decide +kernel
theorem dX6_takesEnd_18 : decode cX6_takesEnd 18 = .ok (.invokevirtual 83, 3) := by decide +kernel
theorem dX6_takesEnd_21 : decode cX6_takesEnd 21 = .ok (.iconst 1, 1) := by decide +kernel
theorem dX6_takesEnd_22 : decode cX6_takesEnd 22 = .ok (.ireturn, 1) := by decide +kernel
def f_X6_takesEnd (N : Nat) (σ : uS) (i0 : Nat) : Option (Int32 × uS) := if (σ.1 i0 9) = 0 then (some (0, σ)) else (if (σ.1 i0 7) ≤ 0 then ((f_X6_unwind N σ i0 1).bind fun s1 =>
  some (1, s1)) else (some (0, σ)))
set_option maxRecDepth 100000 in
set_option maxHeartbeats 4000000 in
theorem c_X6_takesEnd (l : Launch) (G : uG) (N : Nat) (σ : uS) (i0 : Nat) (oi0 : u_o ZC i0 5 11 (k_R i0)) (z : (Int32 × uS)) (hz : f_X6_takesEnd N σ i0 = some z) : u_Mi l ZC G yX6_takesEnd cX6_takesEnd 1 .boolean 2 [.ref (G.2.2 i0)] σ z.1 z.2 := by
  refine u_Mi_of RX6 (by decide) rfl (Nat.le_of_ble_eq_true rfl) ?_
  intro p e s m args below meth c ls cx hw hl
  have hx := cx.1
  have hb := cx.2.1
  have hl : lv_has ls 1 [(0, .ref (G.2.2 i0))] := hl
  unfold f_X6_takesEnd at hz
  refine lv_aload_n hx hb dX6_takesEnd_0 rfl (lv_at hl 0 rfl) ?_
  refine u_geti cx hw F_X6_40 oi0 rfl dX6_takesEnd_1 ?_
  refine lv_if_eq (tgt := 14) hx hb dX6_takesEnd_4 (by decide) (fun hc => ?_) (fun hc => ?_)
  · replace hz := u_ift hz hc
    refine lv_iconst (v := 0) hx hb dX6_takesEnd_14 (by decide) ?_
    exact u_zret cx hw (Or.inl rfl) (u_pair hz) dX6_takesEnd_15
  · replace hz := u_iff hz hc
    refine lv_aload_n hx hb dX6_takesEnd_7 rfl (lv_at hl 0 rfl) ?_
    refine u_geti cx hw F_X6_34 oi0 rfl dX6_takesEnd_8 ?_
    refine lv_if_le (tgt := 16) hx hb dX6_takesEnd_11 (by decide) (fun hc => ?_) (fun hc => ?_)
    · replace hz := u_ift hz hc
      refine lv_aload_n hx hb dX6_takesEnd_16 rfl (lv_at hl 0 rfl) ?_
      refine lv_iconst (v := 1) hx hb dX6_takesEnd_17 (by decide) ?_
      obtain ⟨s1, hs1, hz⟩ := u_bind hz
      refine u_callVv (As := [.int 1]) (rest := []) cx hw LV_X6_83 (c_X6_unwind l G N σ i0 oi0 1 s1 hs1) oi0 rfl (by decide) hl.1 rfl (Nat.le_of_ble_eq_true rfl) dX6_takesEnd_18 rfl (fun H locs hw => ?_)
      refine lv_iconst (v := 1) hx hb dX6_takesEnd_21 (by decide) ?_
      exact u_zret cx hw (Or.inr rfl) (u_pair hz) dX6_takesEnd_22
    · replace hz := u_iff hz hc
      refine lv_iconst (v := 0) hx hb dX6_takesEnd_14 (by decide) ?_
      exact u_zret cx hw (Or.inl rfl) (u_pair hz) dX6_takesEnd_15
theorem dX6_behind_0 : decode cX6_behind 0 = .ok (.aload_n 0, 1) := by decide +kernel
theorem dX6_behind_1 : decode cX6_behind 1 = .ok (.aload_n 1, 1) := by decide +kernel
theorem dX6_behind_2 : decode cX6_behind 2 = .ok (.iload_n 2, 1) := by decide +kernel
theorem dX6_behind_3 : decode cX6_behind 3 = .ok (.invokevirtual 93, 3) := by decide +kernel
theorem dX6_behind_6 : decode cX6_behind 6 = .ok (.aload_n 0, 1) := by decide +kernel
theorem dX6_behind_7 : decode cX6_behind 7 = .ok (.getfield 24, 3) := by decide +kernel
theorem dX6_behind_10 : decode cX6_behind 10 = .ok (.ifCond .ne 32, 3) := by decide +kernel
theorem dX6_behind_13 : decode cX6_behind 13 = .ok (.aload_n 0, 1) := by decide +kernel
theorem dX6_behind_14 : decode cX6_behind 14 = .ok (.getfield 21, 3) := by decide +kernel
theorem dX6_behind_17 : decode cX6_behind 17 = .ok (.iconst 0, 1) := by decide +kernel
theorem dX6_behind_18 : decode cX6_behind 18 = .ok (.iaload, 1) := by decide +kernel
theorem dX6_behind_19 : decode cX6_behind 19 = .ok (.aload_n 0, 1) := by decide +kernel
theorem dX6_behind_20 : decode cX6_behind 20 = .ok (.getfield 21, 3) := by decide +kernel
theorem dX6_behind_23 : decode cX6_behind 23 = .ok (.iconst 1, 1) := by decide +kernel
theorem dX6_behind_24 : decode cX6_behind 24 = .ok (.iaload, 1) := by decide +kernel
theorem dX6_behind_25 : decode cX6_behind 25 = .ok (.iadd, 1) := by decide +kernel
theorem dX6_behind_26 : decode cX6_behind 26 = .ok (.iconst 1, 1) := by decide +kernel
theorem dX6_behind_27 : decode cX6_behind 27 = .ok (.iadd, 1) := by decide +kernel
theorem dX6_behind_28 : decode cX6_behind 28 = .ok (.iconst 2, 1) := by decide +kernel
theorem dX6_behind_29 : decode cX6_behind 29 = .ok (.idiv, 1) := by decide +kernel
theorem dX6_behind_30 : decode cX6_behind 30 = .ok (.aload_n 0, 1) := by decide +kernel
theorem dX6_behind_31 : decode cX6_behind 31 = .ok (.getfield 21, 3) := by decide +kernel
theorem dX6_behind_34 : decode cX6_behind 34 = .ok (.iconst 4, 1) := by decide +kernel
theorem dX6_behind_35 : decode cX6_behind 35 = .ok (.iaload, 1) := by decide +kernel
theorem dX6_behind_36 : decode cX6_behind 36 = .ok (.iconst 3, 1) := by decide +kernel
theorem dX6_behind_37 : decode cX6_behind 37 = .ok (.imul, 1) := by decide +kernel
theorem dX6_behind_38 : decode cX6_behind 38 = .ok (.isub, 1) := by decide +kernel
theorem dX6_behind_39 : decode cX6_behind 39 = .ok (.goto 7, 3) := by decide +kernel
theorem dX6_behind_42 : decode cX6_behind 42 = .ok (.aload_n 0, 1) := by decide +kernel
theorem dX6_behind_43 : decode cX6_behind 43 = .ok (.invokevirtual 97, 3) := by decide +kernel
theorem dX6_behind_46 : decode cX6_behind 46 = .ok (.invokestatic 101, 3) := by decide +kernel
theorem dX6_behind_49 : decode cX6_behind 49 = .ok (.ireturn, 1) := by decide +kernel
def f_X6_behind (N : Nat) (σ : uS) (i0 : Nat) (i1 : Nat) (p2 : Int32) : Option (Int32 × uS) := (f_X6_lookAt N σ i0 i1 p2).bind fun s1 =>
  if (s1.1 i0 4) = 0 then ((u_rI ZC s1 0 (i0 + 4) 0).bind fun v4 =>
  (u_rI ZC s1 0 (i0 + 4) 1).bind fun v5 =>
  (u_rI ZC s1 0 (i0 + 4) 4).bind fun v6 =>
  (f_X11_digitOf N s1 ((((v4 + v5) + 1) / 2) - (v6 * 3))).bind fun v7 =>
  some (v7, s1)) else ((f_X6_worked N s1 i0).bind fun v2 =>
  (f_X11_digitOf N v2.2 v2.1).bind fun v3 =>
  some (v3, v2.2))
set_option maxRecDepth 100000 in
set_option maxHeartbeats 4000000 in
theorem c_X6_behind (l : Launch) (G : uG) (N : Nat) (σ : uS) (i0 : Nat) (oi0 : u_o ZC i0 5 11 (k_R i0)) (i1 : Nat) (oi1 : u_o ZC i1 6 12 (k_S i1)) (p2 : Int32) (z : (Int32 × uS)) (hz : f_X6_behind N σ i0 i1 p2 = some z) : u_Mi l ZC G yX6_behind cX6_behind 3 .int 2 [.ref (G.2.2 i0), .ref (G.2.2 i1), .int p2] σ z.1 z.2 := by
  refine u_Mi_of RX6 (by decide) rfl (Nat.le_of_ble_eq_true rfl) ?_
  intro p e s m args below meth c ls cx hw hl
  have hx := cx.1
  have hb := cx.2.1
  have hl : lv_has ls 3 [(0, .ref (G.2.2 i0)), (1, .ref (G.2.2 i1)), (2, .int p2)] := hl
  unfold f_X6_behind at hz
  refine lv_aload_n hx hb dX6_behind_0 rfl (lv_at hl 0 rfl) ?_
  refine lv_aload_n hx hb dX6_behind_1 rfl (lv_at hl 1 rfl) ?_
  refine lv_iload_n hx hb dX6_behind_2 rfl (lv_at hl 2 rfl) ?_
  obtain ⟨s1, hs1, hz⟩ := u_bind hz
  refine u_callVv (As := [.ref (G.2.2 i1), .int p2]) (rest := []) cx hw LV_X6_93 (c_X6_lookAt l G N σ i0 oi0 i1 oi1 p2 s1 hs1) oi0 rfl (by decide) hl.1 rfl (Nat.le_of_ble_eq_true rfl) dX6_behind_3 rfl (fun H locs hw => ?_)
  refine lv_aload_n hx hb dX6_behind_6 rfl (lv_at hl 0 rfl) ?_
  refine u_geti cx hw F_X6_24 oi0 rfl dX6_behind_7 ?_
  refine lv_if_ne (tgt := 42) hx hb dX6_behind_10 (by decide) (fun hc => ?_) (fun hc => ?_)
  · replace hz := u_iff hz hc
    refine lv_aload_n hx hb dX6_behind_42 rfl (lv_at hl 0 rfl) ?_
    obtain ⟨v2, hv2, hz⟩ := u_bind hz
    refine u_callVi (As := []) (rest := []) cx hw LV_X6_97 (c_X6_worked l G N s1 i0 oi0 v2 hv2) oi0 rfl (by decide) hl.1 rfl (Nat.le_of_ble_eq_true rfl) dX6_behind_43 rfl (fun H locs hw => ?_)
    obtain ⟨v3, hv3, hz⟩ := u_bind hz
    refine u_callNi (As := [.int v2.1]) (rest := []) cx hw LN_X6_101 (c_X11_digitOf l G N v2.2 v2.1 v3 hv3) (by decide) hl.1 rfl (Nat.le_of_ble_eq_true rfl) dX6_behind_46 rfl (fun H locs hw => ?_)
    exact u_iret cx hw (u_pair hz) dX6_behind_49
  · replace hz := u_ift hz hc
    refine lv_aload_n hx hb dX6_behind_13 rfl (lv_at hl 0 rfl) ?_
    refine u_getp cx hw F_X6_21 oi0 rfl dX6_behind_14 ?_
    refine lv_iconst (v := 0) hx hb dX6_behind_17 (by decide) ?_
    obtain ⟨v4, hv4, hz⟩ := u_bind hz
    refine u_iald cx hw hv4 dX6_behind_18 ?_
    refine lv_aload_n hx hb dX6_behind_19 rfl (lv_at hl 0 rfl) ?_
    refine u_getp cx hw F_X6_21 oi0 rfl dX6_behind_20 ?_
    refine lv_iconst (v := 1) hx hb dX6_behind_23 (by decide) ?_
    obtain ⟨v5, hv5, hz⟩ := u_bind hz
    refine u_iald cx hw hv5 dX6_behind_24 ?_
    refine lv_iadd hx hb dX6_behind_25 ?_
    refine lv_iconst (v := 1) hx hb dX6_behind_26 (by decide) ?_
    refine lv_iadd hx hb dX6_behind_27 ?_
    refine lv_iconst (v := 2) hx hb dX6_behind_28 (by decide) ?_
    refine lv_idiv hx hb dX6_behind_29 (by decide) ?_
    refine lv_aload_n hx hb dX6_behind_30 rfl (lv_at hl 0 rfl) ?_
    refine u_getp cx hw F_X6_21 oi0 rfl dX6_behind_31 ?_
    refine lv_iconst (v := 4) hx hb dX6_behind_34 (by decide) ?_
    obtain ⟨v6, hv6, hz⟩ := u_bind hz
    refine u_iald cx hw hv6 dX6_behind_35 ?_
    refine lv_iconst (v := 3) hx hb dX6_behind_36 (by decide) ?_
    refine lv_imul hx hb dX6_behind_37 ?_
    refine lv_isub hx hb dX6_behind_38 ?_
    refine lv_goto (tgt := 46) hx hb dX6_behind_39 (by decide) ?_
    obtain ⟨v7, hv7, hz⟩ := u_bind hz
    refine u_callNi (As := [.int ((((v4 + v5) + 1) / 2) - (v6 * 3))]) (rest := []) cx hw LN_X6_101 (c_X11_digitOf l G N s1 ((((v4 + v5) + 1) / 2) - (v6 * 3)) v7 hv7) (by decide) hl.1 rfl (Nat.le_of_ble_eq_true rfl) dX6_behind_46 rfl (fun H locs hw => ?_)
    exact u_iret cx hw (u_pair hz) dX6_behind_49
