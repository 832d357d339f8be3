theorem dX11_digitOf_0 : decode cX11_digitOf 0 = .ok (.iconst 0, 1) := by decide +kernel
theorem dX11_digitOf_1 : decode cX11_digitOf 1 = .ok (.bipush 9, 2) := by decide +kernel
theorem dX11_digitOf_3 : decode cX11_digitOf 3 = .ok (.iload_n 0, 1) := by decide +kernel
theorem dX11_digitOf_4 : decode cX11_digitOf 4 = .ok (.invokestatic 196, 3) := by decide +kernel
theorem dX11_digitOf_7 : decode cX11_digitOf 7 = .ok (.invokestatic 201, 3) := by decide +kernel
theorem dX11_digitOf_10 : decode cX11_digitOf 10 = .ok (.ireturn, 1) := by decide +kernel
def f_X11_digitOf (N : Nat) (σ : uS) (p0 : Int32) : Option Int32 := some (if 0 < (if p0 < 9 then p0 else 9) then (if p0 < 9 then p0 else 9) else 0)
set_option maxRecDepth 100000 in
set_option maxHeartbeats 4000000 in
theorem c_X11_digitOf (l : Launch) (G : uG) (N : Nat) (σ : uS) (p0 : Int32) (z : Int32) (hz : f_X11_digitOf N σ p0 = some z) : u_Mi l ZC G yX11_digitOf cX11_digitOf 1 .int 1 [.int p0] σ z σ := by
  refine u_Mi_of RX11 (by decide) rfl (Nat.le_of_ble_eq_true rfl) ?_
  intro p e s m args below meth c ls cx hw hl
  have hx := cx.1
  have hb := cx.2.1
  have hl : lv_has ls 1 [(0, .int p0)] := hl
  unfold f_X11_digitOf at hz
  refine lv_iconst (v := 0) hx hb dX11_digitOf_0 (by decide) ?_
  refine lv_bipush (v := 9) hx hb dX11_digitOf_1 (by decide) ?_
  refine lv_iload_n hx hb dX11_digitOf_3 rfl (lv_at hl 0 rfl) ?_
  refine u_mmin cx LM_X11_196 (by decide) hl.1 (Nat.le_of_ble_eq_true rfl) dX11_digitOf_4 ?_
  refine u_mmax cx LM_X11_201 (by decide) hl.1 (Nat.le_of_ble_eq_true rfl) dX11_digitOf_7 ?_
  exact u_iret cx hw ⟨Option.some.inj hz, rfl⟩ dX11_digitOf_10
theorem dX11_isSignsCrossings_0 : decode cX11_isSignsCrossings 0 = .ok (.iload_n 0, 1) := by decide +kernel
theorem dX11_isSignsCrossings_1 : decode cX11_isSignsCrossings 1 = .ok (.iconst 1, 1) := by decide +kernel
theorem dX11_isSignsCrossings_2 : decode cX11_isSignsCrossings 2 = .ok (.if_icmp .lt 13, 3) := by decide +kernel
theorem dX11_isSignsCrossings_5 : decode cX11_isSignsCrossings 5 = .ok (.iload_n 0, 1) := by decide +kernel
theorem dX11_isSignsCrossings_6 : decode cX11_isSignsCrossings 6 = .ok (.bipush 20, 2) := by decide +kernel
theorem dX11_isSignsCrossings_8 : decode cX11_isSignsCrossings 8 = .ok (.if_icmp .gt 7, 3) := by decide +kernel
theorem dX11_isSignsCrossings_11 : decode cX11_isSignsCrossings 11 = .ok (.iconst 1, 1) := by decide +kernel
theorem dX11_isSignsCrossings_12 : decode cX11_isSignsCrossings 12 = .ok (.goto 4, 3) := by decide +kernel
theorem dX11_isSignsCrossings_15 : decode cX11_isSignsCrossings 15 = .ok (.iconst 0, 1) := by decide +kernel
theorem dX11_isSignsCrossings_16 : decode cX11_isSignsCrossings 16 = .ok (.ireturn, 1) := by decide +kernel
def f_X11_isSignsCrossings (N : Nat) (σ : uS) (p0 : Int32) : Option Int32 := u_jn ((some 0 : Option Int32)) fun J15_1 =>
  if p0 < 1 then (J15_1) else (if 20 < p0 then (J15_1) else (some 1))
set_option maxRecDepth 100000 in
set_option maxHeartbeats 4000000 in
theorem c_X11_isSignsCrossings (l : Launch) (G : uG) (N : Nat) (σ : uS) (p0 : Int32) (z : Int32) (hz : f_X11_isSignsCrossings N σ p0 = some z) : u_Mi l ZC G yX11_isSignsCrossings cX11_isSignsCrossings 1 .boolean 0 [.int p0] σ z σ := by
  refine u_Mi_of RX11 (by decide) rfl (Nat.le_of_ble_eq_true rfl) ?_
  intro p e s m args below meth c ls cx hw hl
  have hx := cx.1
  have hb := cx.2.1
  have hl : lv_has ls 1 [(0, .int p0)] := hl
  unfold f_X11_isSignsCrossings at hz
  refine lv_iload_n hx hb dX11_isSignsCrossings_0 rfl (lv_at hl 0 rfl) ?_
  refine lv_iconst (v := 1) hx hb dX11_isSignsCrossings_1 (by decide) ?_
  obtain ⟨J15_1, eJ15_1, hz⟩ := u_let hz
  have WJ15_1 : ∀ (H : Heap) (locs : List Loc) (ls : Array Slot), J15_1 = some z → u_W ZC G σ s H locs → lv_has ls 1 [] → W p l e (u_rm 0) s m args below meth c H locs 0 0 (u_Qi below ZC G s args z σ) (F0 m 15 ls []) := by
    intro H locs ls hz hw hl
    rw [eJ15_1] at hz
    refine lv_iconst (v := 0) hx hb dX11_isSignsCrossings_15 (by decide) ?_
    exact u_zret cx hw (Or.inl rfl) ⟨Option.some.inj hz, rfl⟩ dX11_isSignsCrossings_16
  refine lv_icmp_lt (tgt := 15) hx hb dX11_isSignsCrossings_2 (by decide) (fun hc => ?_) (fun hc => ?_)
  · replace hz := u_ift hz hc
    exact WJ15_1 _ _ _ hz hw (lv_sub hl [] rfl)
  · replace hz := u_iff hz hc
    refine lv_iload_n hx hb dX11_isSignsCrossings_5 rfl (lv_at hl 0 rfl) ?_
    refine lv_bipush (v := 20) hx hb dX11_isSignsCrossings_6 (by decide) ?_
    refine lv_icmp_gt (tgt := 15) hx hb dX11_isSignsCrossings_8 (by decide) (fun hc => ?_) (fun hc => ?_)
    · replace hz := u_ift hz hc
      exact WJ15_1 _ _ _ hz hw (lv_sub hl [] rfl)
    · replace hz := u_iff hz hc
      refine lv_iconst (v := 1) hx hb dX11_isSignsCrossings_11 (by decide) ?_
      refine lv_goto (tgt := 16) hx hb dX11_isSignsCrossings_12 (by decide) ?_
      exact u_zret cx hw (Or.inr rfl) ⟨Option.some.inj hz, rfl⟩ dX11_isSignsCrossings_16
theorem dX11_firstLike_0 : decode cX11_firstLike 0 = .ok (.iload_n 1, 1) := by decide +kernel
theorem dX11_firstLike_1 : decode cX11_firstLike 1 = .ok (.bipush 7, 2) := by decide +kernel
theorem dX11_firstLike_3 : decode cX11_firstLike 3 = .ok (.irem, 1) := by decide +kernel
theorem dX11_firstLike_4 : decode cX11_firstLike 4 = .ok (.istore_n 2, 1) := by decide +kernel
theorem dX11_firstLike_5 : decode cX11_firstLike 5 = .ok (.iload_n 2, 1) := by decide +kernel
theorem dX11_firstLike_6 : decode cX11_firstLike 6 = .ok (.iload_n 1, 1) := by decide +kernel
theorem dX11_firstLike_7 : decode cX11_firstLike 7 = .ok (.if_icmp .ge 26, 3) := by decide +kernel
theorem dX11_firstLike_10 : decode cX11_firstLike 10 = .ok (.aload_n 0, 1) := by decide +kernel
theorem dX11_firstLike_11 : decode cX11_firstLike 11 = .ok (.getfield 71, 3) := by decide +kernel
theorem dX11_firstLike_14 : decode cX11_firstLike 14 = .ok (.iload_n 2, 1) := by decide +kernel
theorem dX11_firstLike_15 : decode cX11_firstLike 15 = .ok (.iaload, 1) := by decide +kernel
theorem dX11_firstLike_16 : decode cX11_firstLike 16 = .ok (.aload_n 0, 1) := by decide +kernel
theorem dX11_firstLike_17 : decode cX11_firstLike 17 = .ok (.getfield 71, 3) := by decide +kernel
theorem dX11_firstLike_20 : decode cX11_firstLike 20 = .ok (.iload_n 1, 1) := by decide +kernel
theorem dX11_firstLike_21 : decode cX11_firstLike 21 = .ok (.iaload, 1) := by decide +kernel
theorem dX11_firstLike_22 : decode cX11_firstLike 22 = .ok (.if_icmp .ne 5, 3) := by decide +kernel
theorem dX11_firstLike_25 : decode cX11_firstLike 25 = .ok (.iload_n 2, 1) := by decide +kernel
theorem dX11_firstLike_26 : decode cX11_firstLike 26 = .ok (.ireturn, 1) := by decide +kernel
theorem dX11_firstLike_27 : decode cX11_firstLike 27 = .ok (.iinc 2 7, 3) := by decide +kernel
theorem dX11_firstLike_30 : decode cX11_firstLike 30 = .ok (.goto (-25), 3) := by decide +kernel
theorem dX11_firstLike_33 : decode cX11_firstLike 33 = .ok (.iload_n 1, 1) := by decide +kernel
theorem dX11_firstLike_34 : decode cX11_firstLike 34 = .ok (.ireturn, 1) := by decide +kernel
def b_X11_firstLike_5 (σ : uS) (p1 : Int32) (J33_2 : Option Int32) (rec5_4 : Int32 → Option Int32) (x3 : Int32) : Option Int32 :=
  if p1 ≤ x3 then (J33_2) else ((u_rI ZC σ 0 19 x3).bind fun v5 =>
  (u_rI ZC σ 0 19 p1).bind fun v6 =>
  if v5 = v6 then (some x3) else (u_jn (x3 + 7 : Int32) fun x7 =>
  rec5_4 x7))
def f_X11_firstLike (N : Nat) (σ : uS) (p1 : Int32) : Option Int32 := u_jn ((p1 - p1 / 7 * 7) : Int32) fun x1 =>
  u_jn ((some p1 : Option Int32)) fun J33_2 =>
  u_lp1 (b_X11_firstLike_5 σ p1 J33_2) N x1
set_option maxRecDepth 100000 in
set_option maxHeartbeats 4000000 in
theorem c_X11_firstLike (l : Launch) (G : uG) (N : Nat) (σ : uS) (p1 : Int32) (z : Int32) (hz : f_X11_firstLike N σ p1 = some z) : u_Mi l ZC G yX11_firstLike cX11_firstLike 3 .int 0 [.ref (G.2.2 0), .int p1] σ z σ := by
  refine u_Mi_of RX11 (by decide) rfl (Nat.le_of_ble_eq_true rfl) ?_
  intro p e s m args below meth c ls cx hw hl
  have hx := cx.1
  have hb := cx.2.1
  have hl : lv_has ls 3 [(0, .ref (G.2.2 0)), (1, .int p1)] := hl
  unfold f_X11_firstLike at hz
  refine lv_iload_n hx hb dX11_firstLike_0 rfl (lv_at hl 1 rfl) ?_
  refine lv_bipush (v := 7) hx hb dX11_firstLike_1 (by decide) ?_
  refine lv_irem hx hb dX11_firstLike_3 (by decide) ?_
  obtain ⟨x1, ex1, hz⟩ := u_let hz
  refine u_topi ex1 ?_
  refine lv_istore_n (lv' := [(2, .int x1), (0, .ref (G.2.2 0)), (1, .int p1)]) hx hb dX11_firstLike_4 rfl hl (by decide) rfl (fun ls hl => ?_)
  obtain ⟨J33_2, eJ33_2, hz⟩ := u_let hz
  have WJ33_2 : ∀ (H : Heap) (locs : List Loc) (ls : Array Slot), J33_2 = some z → u_W ZC G σ s H locs → lv_has ls 3 [(1, .int p1)] → W p l e (u_rm 0) s m args below meth c H locs 0 0 (u_Qi below ZC G s args z σ) (F0 m 33 ls []) := by
    intro H locs ls hz hw hl
    rw [eJ33_2] at hz
    refine lv_iload_n hx hb dX11_firstLike_33 rfl (lv_at hl 0 rfl) ?_
    exact u_iret cx hw ⟨Option.some.inj hz, rfl⟩ dX11_firstLike_34
  have WL5_7 : ∀ (k : Nat) (x3 : Int32) (H : Heap) (locs : List Loc) (ls : Array Slot), u_lp1 (b_X11_firstLike_5 σ p1 J33_2) k x3 = some z → u_W ZC G σ s H locs → lv_has ls 3 [(0, .ref (G.2.2 0)), (1, .int p1), (2, .int x3)] → W p l e (u_rm 0) s m args below meth c H locs 0 0 (u_Qi below ZC G s args z σ) (F0 m 5 ls []) := by
    intro k
    induction k with
    | zero =>
      intro x3 H locs ls hz
      exact absurd hz (by intro h9; cases h9)
    | succ k ih5_4 =>
      intro x3 H locs ls hz hw hl
      have hz : (b_X11_firstLike_5 σ p1 J33_2) (u_lp1 (b_X11_firstLike_5 σ p1 J33_2) k) x3 = some z := hz
      unfold b_X11_firstLike_5 at hz
      refine lv_iload_n hx hb dX11_firstLike_5 rfl (lv_at hl 2 rfl) ?_
      refine lv_iload_n hx hb dX11_firstLike_6 rfl (lv_at hl 1 rfl) ?_
      refine lv_icmp_ge (tgt := 33) hx hb dX11_firstLike_7 (by decide) (fun hc => ?_) (fun hc => ?_)
      · replace hz := u_ift hz hc
        exact WJ33_2 _ _ _ hz hw (lv_sub hl [1] rfl)
      · replace hz := u_iff hz hc
        refine lv_aload_n hx hb dX11_firstLike_10 rfl (lv_at hl 0 rfl) ?_
        refine u_getp cx hw F_X11_71 o_X11 rfl dX11_firstLike_11 ?_
        refine lv_iload_n hx hb dX11_firstLike_14 rfl (lv_at hl 2 rfl) ?_
        obtain ⟨v5, hv5, hz⟩ := u_bind hz
        refine u_iald cx hw hv5 dX11_firstLike_15 ?_
        refine lv_aload_n hx hb dX11_firstLike_16 rfl (lv_at hl 0 rfl) ?_
        refine u_getp cx hw F_X11_71 o_X11 rfl dX11_firstLike_17 ?_
        refine lv_iload_n hx hb dX11_firstLike_20 rfl (lv_at hl 1 rfl) ?_
        obtain ⟨v6, hv6, hz⟩ := u_bind hz
        refine u_iald cx hw hv6 dX11_firstLike_21 ?_
        refine lv_icmp_ne (tgt := 27) hx hb dX11_firstLike_22 (by decide) (fun hc => ?_) (fun hc => ?_)
        · replace hz := u_iff hz hc
          obtain ⟨x7, ex7, hz⟩ := u_let hz
          refine lv_iinc (v := x7) (lv' := [(2, .int x7), (0, .ref (G.2.2 0)), (1, .int p1)]) hx hb dX11_firstLike_27 hl (k := 2) rfl (by rw [ex7]; rfl) (by decide) rfl (fun ls hl => ?_)
          refine lv_goto (tgt := 5) hx hb dX11_firstLike_30 (by decide) ?_
          exact ih5_4 x7 _ _ _ hz hw (lv_sub hl [1, 2, 0] rfl)
        · replace hz := u_ift hz hc
          refine lv_iload_n hx hb dX11_firstLike_25 rfl (lv_at hl 2 rfl) ?_
          exact u_iret cx hw ⟨Option.some.inj hz, rfl⟩ dX11_firstLike_26
  exact WL5_7 N x1 _ _ _ hz hw (lv_sub hl [1, 2, 0] rfl)
theorem dX11_commonDivisor_0 : decode cX11_commonDivisor 0 = .ok (.lload_n 0, 1) := by decide +kernel
theorem dX11_commonDivisor_1 : decode cX11_commonDivisor 1 = .ok (.lstore 4, 2) := by decide +kernel
theorem dX11_commonDivisor_3 : decode cX11_commonDivisor 3 = .ok (.lload_n 2, 1) := by decide +kernel
theorem dX11_commonDivisor_4 : decode cX11_commonDivisor 4 = .ok (.lstore 6, 2) := by decide +kernel
theorem dX11_commonDivisor_6 : decode cX11_commonDivisor 6 = .ok (.iconst 0, 1) := by decide +kernel
theorem dX11_commonDivisor_7 : decode cX11_commonDivisor 7 = .ok (.istore 8, 2) := by decide +kernel
theorem dX11_commonDivisor_9 : decode cX11_commonDivisor 9 = .ok (.iload 8, 2) := by decide +kernel
theorem dX11_commonDivisor_11 : decode cX11_commonDivisor 11 = .ok (.sipush 200, 3) := by decide +kernel
theorem dX11_commonDivisor_14 : decode cX11_commonDivisor 14 = .ok (.if_icmp .ge 31, 3) := by decide +kernel
theorem dX11_commonDivisor_17 : decode cX11_commonDivisor 17 = .ok (.lload 6, 2) := by decide +kernel
theorem dX11_commonDivisor_19 : decode cX11_commonDivisor 19 = .ok (.lconst 0, 1) := by decide +kernel
theorem dX11_commonDivisor_20 : decode cX11_commonDivisor 20 = .ok (.lcmp, 1) := by decide +kernel
theorem dX11_commonDivisor_21 : decode cX11_commonDivisor 21 = .ok (.ifCond .eq 24, 3) := by decide +kernel
theorem dX11_commonDivisor_24 : decode cX11_commonDivisor 24 = .ok (.lload 4, 2) := by decide +kernel
theorem dX11_commonDivisor_26 : decode cX11_commonDivisor 26 = .ok (.lload 6, 2) := by decide +kernel
theorem dX11_commonDivisor_28 : decode cX11_commonDivisor 28 = .ok (.lrem, 1) := by decide +kernel
theorem dX11_commonDivisor_29 : decode cX11_commonDivisor 29 = .ok (.lstore 9, 2) := by decide +kernel
theorem dX11_commonDivisor_31 : decode cX11_commonDivisor 31 = .ok (.lload 6, 2) := by decide +kernel
theorem dX11_commonDivisor_33 : decode cX11_commonDivisor 33 = .ok (.lstore 4, 2) := by decide +kernel
theorem dX11_commonDivisor_35 : decode cX11_commonDivisor 35 = .ok (.lload 9, 2) := by decide +kernel
theorem dX11_commonDivisor_37 : decode cX11_commonDivisor 37 = .ok (.lstore 6, 2) := by decide +kernel
theorem dX11_commonDivisor_39 : decode cX11_commonDivisor 39 = .ok (.iinc 8 1, 3) := by decide +kernel
theorem dX11_commonDivisor_42 : decode cX11_commonDivisor 42 = .ok (.goto (-33), 3) := by decide +kernel
theorem dX11_commonDivisor_45 : decode cX11_commonDivisor 45 = .ok (.lload 4, 2) := by decide +kernel
theorem dX11_commonDivisor_47 : decode cX11_commonDivisor 47 = .ok (.lreturn, 1) := by decide +kernel
def b_X11_commonDivisor_9 (J45_2 : Int64 → Option Int64) (rec9_6 : Int64 → Int64 → Int32 → Option Int64) (x3 : Int64) (x4 : Int64) (x5 : Int32) : Option Int64 :=
  if 200 ≤ x5 then (J45_2 x3) else (if (lg_cmp x4 0) = 0 then (J45_2 x3) else (u_ck (¬ (x4 : Int64) = 0) <|
  u_jn ((x3 - x3 / x4 * x4) : Int64) fun x7 =>
  u_jn (x5 + 1 : Int32) fun x8 =>
  rec9_6 x4 x7 x8))
def f_X11_commonDivisor (N : Nat) (σ : uS) (p0 : Int64) (p2 : Int64) : Option Int64 := u_jn (fun (x1 : Int64) => (some x1 : Option Int64)) fun J45_2 =>
  u_lp3 (b_X11_commonDivisor_9 J45_2) N p0 p2 0
set_option maxRecDepth 100000 in
set_option maxHeartbeats 4000000 in
theorem c_X11_commonDivisor (l : Launch) (G : uG) (N : Nat) (σ : uS) (p0 : Int64) (p2 : Int64) (z : Int64) (hz : f_X11_commonDivisor N σ p0 p2 = some z) : u_Ml l ZC G yX11_commonDivisor cX11_commonDivisor 11 0 [.long p0, .long p2] σ z σ := by
  refine u_Ml_of RX11 (by decide) rfl (Nat.le_of_ble_eq_true rfl) ?_
  intro p e s m args below meth c ls cx hw hl
  have hx := cx.1
  have hb := cx.2.1
  have hl : lv_has ls 11 [(0, .long p0), (2, .long p2)] := hl
  unfold f_X11_commonDivisor at hz
  refine lv_lload_n hx hb dX11_commonDivisor_0 rfl (lv_at hl 0 rfl) ?_
  refine lv_lstore (lv' := [(4, .long p0), (0, .long p0), (2, .long p2)]) hx hb dX11_commonDivisor_1 hl (by decide) rfl (fun ls hl => ?_)
  refine lv_lload_n hx hb dX11_commonDivisor_3 rfl (lv_at hl 2 rfl) ?_
  refine lv_lstore (lv' := [(6, .long p2), (4, .long p0), (0, .long p0), (2, .long p2)]) hx hb dX11_commonDivisor_4 hl (by decide) rfl (fun ls hl => ?_)
  refine lv_iconst (v := 0) hx hb dX11_commonDivisor_6 (by decide) ?_
  refine lv_istore (lv' := [(8, .int 0), (6, .long p2), (4, .long p0), (0, .long p0), (2, .long p2)]) hx hb dX11_commonDivisor_7 hl (by decide) rfl (fun ls hl => ?_)
  obtain ⟨J45_2, eJ45_2, hz⟩ := u_let hz
  have WJ45_2 : ∀ (x1 : Int64) (H : Heap) (locs : List Loc) (ls : Array Slot), J45_2 x1 = some z → u_W ZC G σ s H locs → lv_has ls 11 [(4, .long x1)] → W p l e (u_rm 0) s m args below meth c H locs 0 0 (u_Ql below ZC G s args z σ) (F0 m 45 ls []) := by
    intro x1 H locs ls hz hw hl
    rw [eJ45_2] at hz
    refine lv_lload hx hb dX11_commonDivisor_45 (lv_at hl 0 rfl) ?_
    exact u_lret cx hw ⟨Option.some.inj hz, rfl⟩ dX11_commonDivisor_47
  have WL9_8 : ∀ (k : Nat) (x3 : Int64) (x4 : Int64) (x5 : Int32) (H : Heap) (locs : List Loc) (ls : Array Slot), u_lp3 (b_X11_commonDivisor_9 J45_2) k x3 x4 x5 = some z → u_W ZC G σ s H locs → lv_has ls 11 [(4, .long x3), (6, .long x4), (8, .int x5)] → W p l e (u_rm 0) s m args below meth c H locs 0 0 (u_Ql below ZC G s args z σ) (F0 m 9 ls []) := by
    intro k
    induction k with
    | zero =>
      intro x3 x4 x5 H locs ls hz
      exact absurd hz (by intro h9; cases h9)
    | succ k ih9_6 =>
      intro x3 x4 x5 H locs ls hz hw hl
      have hz : (b_X11_commonDivisor_9 J45_2) (u_lp3 (b_X11_commonDivisor_9 J45_2) k) x3 x4 x5 = some z := hz
      unfold b_X11_commonDivisor_9 at hz
      refine lv_iload hx hb dX11_commonDivisor_9 (lv_at hl 2 rfl) ?_
      refine lv_sipush (v := 200) hx hb dX11_commonDivisor_11 (by decide) ?_
      refine lv_icmp_ge (tgt := 45) hx hb dX11_commonDivisor_14 (by decide) (fun hc => ?_) (fun hc => ?_)
      · replace hz := u_ift hz hc
        exact WJ45_2 x3 _ _ _ hz hw (lv_sub hl [0] rfl)
      · replace hz := u_iff hz hc
        refine lv_lload hx hb dX11_commonDivisor_17 (lv_at hl 1 rfl) ?_
        refine lv_lconst (v := 0) hx hb dX11_commonDivisor_19 (by decide) ?_
        refine W.lcmp hx hb dX11_commonDivisor_20 ?_
        refine lv_if_eq (tgt := 45) hx hb dX11_commonDivisor_21 (by decide) (fun hc => ?_) (fun hc => ?_)
        · replace hz := u_ift hz hc
          exact WJ45_2 x3 _ _ _ hz hw (lv_sub hl [0] rfl)
        · replace hz := u_iff hz hc
          refine lv_lload hx hb dX11_commonDivisor_24 (lv_at hl 0 rfl) ?_
          refine lv_lload hx hb dX11_commonDivisor_26 (lv_at hl 1 rfl) ?_
          obtain ⟨hne, hz⟩ := u_ck_some hz
          refine lv_lrem hx hb dX11_commonDivisor_28 hne ?_
          obtain ⟨x7, ex7, hz⟩ := u_let hz
          refine u_topl ex7 ?_
          refine lv_lstore (lv' := [(9, .long x7), (4, .long x3), (6, .long x4), (8, .int x5)]) hx hb dX11_commonDivisor_29 hl (by decide) rfl (fun ls hl => ?_)
          refine lv_lload hx hb dX11_commonDivisor_31 (lv_at hl 2 rfl) ?_
          refine lv_lstore (lv' := [(4, .long x4), (9, .long x7), (6, .long x4), (8, .int x5)]) hx hb dX11_commonDivisor_33 hl (by decide) rfl (fun ls hl => ?_)
          refine lv_lload hx hb dX11_commonDivisor_35 (lv_at hl 1 rfl) ?_
          refine lv_lstore (lv' := [(6, .long x7), (4, .long x4), (9, .long x7), (8, .int x5)]) hx hb dX11_commonDivisor_37 hl (by decide) rfl (fun ls hl => ?_)
          obtain ⟨x8, ex8, hz⟩ := u_let hz
          refine lv_iinc (v := x8) (lv' := [(8, .int x8), (6, .long x7), (4, .long x4), (9, .long x7)]) hx hb dX11_commonDivisor_39 hl (k := 3) rfl (by rw [ex8]; rfl) (by decide) rfl (fun ls hl => ?_)
          refine lv_goto (tgt := 9) hx hb dX11_commonDivisor_42 (by decide) ?_
          exact ih9_6 x4 x7 x8 _ _ _ hz hw (lv_sub hl [2, 1, 0] rfl)
  exact WL9_8 N p0 p2 0 _ _ _ hz hw (lv_sub hl [2, 1, 0] rfl)
theorem dX11_unlike_0 : decode cX11_unlike 0 = .ok (.aload_n 0, 1) := by decide +kernel
theorem dX11_unlike_1 : decode cX11_unlike 1 = .ok (.getfield 19, 3) := by decide +kernel
theorem dX11_unlike_4 : decode cX11_unlike 4 = .ok (.invokevirtual 347, 3) := by decide +kernel
theorem dX11_unlike_7 : decode cX11_unlike 7 = .ok (.iconst 0, 1) := by decide +kernel
theorem dX11_unlike_8 : decode cX11_unlike 8 = .ok (.istore_n 1, 1) := by decide +kernel
theorem dX11_unlike_9 : decode cX11_unlike 9 = .ok (.iconst 0, 1) := by decide +kernel
theorem dX11_unlike_10 : decode cX11_unlike 10 = .ok (.istore_n 2, 1) := by decide +kernel
theorem dX11_unlike_11 : decode cX11_unlike 11 = .ok (.iload_n 2, 1) := by decide +kernel
theorem dX11_unlike_12 : decode cX11_unlike 12 = .ok (.aload_n 0, 1) := by decide +kernel
theorem dX11_unlike_13 : decode cX11_unlike 13 = .ok (.getfield 26, 3) := by decide +kernel
theorem dX11_unlike_16 : decode cX11_unlike 16 = .ok (.getfield 122, 3) := by decide +kernel
theorem dX11_unlike_19 : decode cX11_unlike 19 = .ok (.if_icmp .ge 92, 3) := by decide +kernel
theorem dX11_unlike_22 : decode cX11_unlike 22 = .ok (.iload_n 2, 1) := by decide +kernel
theorem dX11_unlike_23 : decode cX11_unlike 23 = .ok (.iconst 1, 1) := by decide +kernel
theorem dX11_unlike_24 : decode cX11_unlike 24 = .ok (.iadd, 1) := by decide +kernel
theorem dX11_unlike_25 : decode cX11_unlike 25 = .ok (.istore_n 3, 1) := by decide +kernel
theorem dX11_unlike_26 : decode cX11_unlike 26 = .ok (.iload_n 3, 1) := by decide +kernel
theorem dX11_unlike_27 : decode cX11_unlike 27 = .ok (.aload_n 0, 1) := by decide +kernel
theorem dX11_unlike_28 : decode cX11_unlike 28 = .ok (.getfield 26, 3) := by decide +kernel
theorem dX11_unlike_31 : decode cX11_unlike 31 = .ok (.getfield 122, 3) := by decide +kernel
theorem dX11_unlike_34 : decode cX11_unlike 34 = .ok (.if_icmp .ge 71, 3) := by decide +kernel
theorem dX11_unlike_37 : decode cX11_unlike 37 = .ok (.aload_n 0, 1) := by decide +kernel
theorem dX11_unlike_38 : decode cX11_unlike 38 = .ok (.getfield 26, 3) := by decide +kernel
theorem dX11_unlike_41 : decode cX11_unlike 41 = .ok (.iload_n 2, 1) := by decide +kernel
theorem dX11_unlike_42 : decode cX11_unlike 42 = .ok (.invokevirtual 171, 3) := by decide +kernel
theorem dX11_unlike_45 : decode cX11_unlike 45 = .ok (.aload_n 0, 1) := by decide +kernel
theorem dX11_unlike_46 : decode cX11_unlike 46 = .ok (.getfield 26, 3) := by decide +kernel
theorem dX11_unlike_49 : decode cX11_unlike 49 = .ok (.iload_n 3, 1) := by decide +kernel
theorem dX11_unlike_50 : decode cX11_unlike 50 = .ok (.invokevirtual 171, 3) := by decide +kernel
theorem dX11_unlike_53 : decode cX11_unlike 53 = .ok (.if_icmp .eq 46, 3) := by decide +kernel
theorem dX11_unlike_56 : decode cX11_unlike 56 = .ok (.aload_n 0, 1) := by decide +kernel
theorem dX11_unlike_57 : decode cX11_unlike 57 = .ok (.getfield 26, 3) := by decide +kernel
theorem dX11_unlike_60 : decode cX11_unlike 60 = .ok (.iload_n 2, 1) := by decide +kernel
theorem dX11_unlike_61 : decode cX11_unlike 61 = .ok (.iload_n 3, 1) := by decide +kernel
theorem dX11_unlike_62 : decode cX11_unlike 62 = .ok (.invokevirtual 348, 3) := by decide +kernel
theorem dX11_unlike_65 : decode cX11_unlike 65 = .ok (.ifCond .ne 15, 3) := by decide +kernel
theorem dX11_unlike_68 : decode cX11_unlike 68 = .ok (.aload_n 0, 1) := by decide +kernel
theorem dX11_unlike_69 : decode cX11_unlike 69 = .ok (.getfield 26, 3) := by decide +kernel
theorem dX11_unlike_72 : decode cX11_unlike 72 = .ok (.iload_n 3, 1) := by decide +kernel
theorem dX11_unlike_73 : decode cX11_unlike 73 = .ok (.iload_n 2, 1) := by decide +kernel
theorem dX11_unlike_74 : decode cX11_unlike 74 = .ok (.invokevirtual 348, 3) := by decide +kernel
theorem dX11_unlike_77 : decode cX11_unlike 77 = .ok (.ifCond .eq 22, 3) := by decide +kernel
theorem dX11_unlike_80 : decode cX11_unlike 80 = .ok (.iinc 1 1, 3) := by decide +kernel
theorem dX11_unlike_83 : decode cX11_unlike 83 = .ok (.iload_n 1, 1) := by decide +kernel
theorem dX11_unlike_84 : decode cX11_unlike 84 = .ok (.iconst 1, 1) := by decide +kernel
theorem dX11_unlike_85 : decode cX11_unlike 85 = .ok (.if_icmp .ne 14, 3) := by decide +kernel
theorem dX11_unlike_88 : decode cX11_unlike 88 = .ok (.aload_n 0, 1) := by decide +kernel
theorem dX11_unlike_89 : decode cX11_unlike 89 = .ok (.getfield 19, 3) := by decide +kernel
theorem dX11_unlike_92 : decode cX11_unlike 92 = .ok (.iload_n 2, 1) := by decide +kernel
theorem dX11_unlike_93 : decode cX11_unlike 93 = .ok (.i2l, 1) := by decide +kernel
theorem dX11_unlike_94 : decode cX11_unlike 94 = .ok (.iload_n 3, 1) := by decide +kernel
theorem dX11_unlike_95 : decode cX11_unlike 95 = .ok (.i2l, 1) := by decide +kernel
theorem dX11_unlike_96 : decode cX11_unlike 96 = .ok (.invokevirtual 220, 3) := by decide +kernel
theorem dX11_unlike_99 : decode cX11_unlike 99 = .ok (.iinc 3 1, 3) := by decide +kernel
theorem dX11_unlike_102 : decode cX11_unlike 102 = .ok (.goto (-76), 3) := by decide +kernel
theorem dX11_unlike_105 : decode cX11_unlike 105 = .ok (.iinc 2 1, 3) := by decide +kernel
theorem dX11_unlike_108 : decode cX11_unlike 108 = .ok (.goto (-97), 3) := by decide +kernel
theorem dX11_unlike_111 : decode cX11_unlike 111 = .ok (.iload_n 1, 1) := by decide +kernel
theorem dX11_unlike_112 : decode cX11_unlike 112 = .ok (.ireturn, 1) := by decide +kernel
def b_X11_unlike_26 (N : Nat) (x7 : Int32) (J105_12 : uS → Int32 → Option (Int32 × uS)) (rec26_17 : uS → Int32 → Int32 → Option (Int32 × uS)) (s14 : uS) (x15 : Int32) (x16 : Int32) : Option (Int32 × uS) :=
  if (s14.1 32 8) ≤ x16 then (J105_12 s14 x15) else ((f_X7_isIn N s14 32 x7).bind fun v18 =>
  (f_X7_isIn N s14 32 x16).bind fun v19 =>
  u_jn (fun (s20 : uS) (x21 : Int32) => (u_jn (x16 + 1 : Int32) fun x23 =>
  rec26_17 s20 x21 x23 : Option (Int32 × uS))) fun J99_22 =>
  if v18 = v19 then (J99_22 s14 x15) else ((f_X7_sees N s14 32 x7 x16).bind fun v24 =>
  u_jn ((u_jn (x15 + 1 : Int32) fun x26 =>
  if x26 = 1 then ((f_X8_two N s14 (Int32.toInt64 x7) (Int32.toInt64 x16)).bind fun s27 =>
  J99_22 s27 x26) else (J99_22 s14 x26) : Option (Int32 × uS))) fun J80_25 =>
  if v24 = 0 then ((f_X7_sees N s14 32 x16 x7).bind fun v28 =>
  if v28 = 0 then (J99_22 s14 x15) else (J80_25)) else (J80_25)))
def b_X11_unlike_11 (N : Nat) (J111_4 : uS → Int32 → Option (Int32 × uS)) (rec11_8 : uS → Int32 → Int32 → Option (Int32 × uS)) (s5 : uS) (x6 : Int32) (x7 : Int32) : Option (Int32 × uS) :=
  if (s5.1 32 8) ≤ x7 then (J111_4 s5 x6) else (u_jn ((x7 + 1) : Int32) fun x9 =>
  u_jn (fun (s10 : uS) (x11 : Int32) => (u_jn (x7 + 1 : Int32) fun x13 =>
  rec11_8 s10 x11 x13 : Option (Int32 × uS))) fun J105_12 =>
  u_lp3 (b_X11_unlike_26 N x7 J105_12) N s5 x6 x9)
def f_X11_unlike (N : Nat) (σ : uS) : Option (Int32 × uS) := (f_X8_clear N σ).bind fun s1 =>
  u_jn (fun (s2 : uS) (x3 : Int32) => (some (x3, s2) : Option (Int32 × uS))) fun J111_4 =>
  u_lp3 (b_X11_unlike_11 N J111_4) N s1 0 0
set_option maxRecDepth 100000 in
set_option maxHeartbeats 4000000 in
theorem c_X11_unlike (l : Launch) (G : uG) (N : Nat) (σ : uS) (z : (Int32 × uS)) (hz : f_X11_unlike N σ = some z) : u_Mi l ZC G yX11_unlike cX11_unlike 4 .int 2 [.ref (G.2.2 0)] σ z.1 z.2 := by
  refine u_Mi_of RX11 (by decide) rfl (Nat.le_of_ble_eq_true rfl) ?_
  intro p e s m args below meth c ls cx hw hl
  have hx := cx.1
  have hb := cx.2.1
  have hl : lv_has ls 4 [(0, .ref (G.2.2 0))] := hl
  unfold f_X11_unlike at hz
  refine lv_aload_n hx hb dX11_unlike_0 rfl (lv_at hl 0 rfl) ?_
  refine u_getp cx hw F_X11_19 o_X11 rfl dX11_unlike_1 ?_
  obtain ⟨s1, hs1, hz⟩ := u_bind hz
  refine u_callVv (As := []) (rest := []) cx hw LV_X11_347 (c_X8_clear l G N σ s1 hs1) o_X8 rfl (by decide) hl.1 rfl (Nat.le_of_ble_eq_true rfl) dX11_unlike_4 rfl (fun H locs hw => ?_)
  refine lv_iconst (v := 0) hx hb dX11_unlike_7 (by decide) ?_
  refine lv_istore_n (lv' := [(1, .int 0), (0, .ref (G.2.2 0))]) hx hb dX11_unlike_8 rfl hl (by decide) rfl (fun ls hl => ?_)
  refine lv_iconst (v := 0) hx hb dX11_unlike_9 (by decide) ?_
  refine lv_istore_n (lv' := [(2, .int 0), (1, .int 0), (0, .ref (G.2.2 0))]) hx hb dX11_unlike_10 rfl hl (by decide) rfl (fun ls hl => ?_)
  obtain ⟨J111_4, eJ111_4, hz⟩ := u_let hz
  have WJ111_4 : ∀ (s2 : uS) (x3 : Int32) (H : Heap) (locs : List Loc) (ls : Array Slot), J111_4 s2 x3 = some z → u_W ZC G s2 s H locs → lv_has ls 4 [(1, .int x3)] → W p l e (u_rm 2) s m args below meth c H locs 0 0 (u_Qi below ZC G s args z.1 z.2) (F0 m 111 ls []) := by
    intro s2 x3 H locs ls hz hw hl
    rw [eJ111_4] at hz
    refine lv_iload_n hx hb dX11_unlike_111 rfl (lv_at hl 0 rfl) ?_
    exact u_iret cx hw (u_pair hz) dX11_unlike_112
  have WL11_28 : ∀ (k : Nat) (s5 : uS) (x6 : Int32) (x7 : Int32) (H : Heap) (locs : List Loc) (ls : Array Slot), u_lp3 (b_X11_unlike_11 N J111_4) k s5 x6 x7 = some z → u_W ZC G s5 s H locs → lv_has ls 4 [(0, .ref (G.2.2 0)), (1, .int x6), (2, .int x7)] → W p l e (u_rm 2) s m args below meth c H locs 0 0 (u_Qi below ZC G s args z.1 z.2) (F0 m 11 ls []) := by
    intro k
    induction k with
    | zero =>
      intro s5 x6 x7 H locs ls hz
      exact absurd hz (by intro h9; cases h9)
    | succ k ih11_8 =>
      intro s5 x6 x7 H locs ls hz hw hl
      have hz : (b_X11_unlike_11 N J111_4) (u_lp3 (b_X11_unlike_11 N J111_4) k) s5 x6 x7 = some z := hz
      unfold b_X11_unlike_11 at hz
      refine lv_iload_n hx hb dX11_unlike_11 rfl (lv_at hl 2 rfl) ?_
      refine lv_aload_n hx hb dX11_unlike_12 rfl (lv_at hl 0 rfl) ?_
      refine u_getp cx hw F_X11_26 o_X11 rfl dX11_unlike_13 ?_
      refine u_geti cx hw F_X11_122 oS_32 rfl dX11_unlike_16 ?_
      refine lv_icmp_ge (tgt := 111) hx hb dX11_unlike_19 (by decide) (fun hc => ?_) (fun hc => ?_)
      · replace hz := u_ift hz hc
        exact WJ111_4 s5 x6 _ _ _ hz hw (lv_sub hl [1] rfl)
      · replace hz := u_iff hz hc
        refine lv_iload_n hx hb dX11_unlike_22 rfl (lv_at hl 2 rfl) ?_
        refine lv_iconst (v := 1) hx hb dX11_unlike_23 (by decide) ?_
        refine lv_iadd hx hb dX11_unlike_24 ?_
        obtain ⟨x9, ex9, hz⟩ := u_let hz
        refine u_topi ex9 ?_
        refine lv_istore_n (lv' := [(3, .int x9), (0, .ref (G.2.2 0)), (1, .int x6), (2, .int x7)]) hx hb dX11_unlike_25 rfl hl (by decide) rfl (fun ls hl => ?_)
        obtain ⟨J105_12, eJ105_12, hz⟩ := u_let hz
        have WJ105_12 : ∀ (s10 : uS) (x11 : Int32) (H : Heap) (locs : List Loc) (ls : Array Slot), J105_12 s10 x11 = some z → u_W ZC G s10 s H locs → lv_has ls 4 [(0, .ref (G.2.2 0)), (1, .int x11), (2, .int x7)] → W p l e (u_rm 2) s m args below meth c H locs 0 0 (u_Qi below ZC G s args z.1 z.2) (F0 m 105 ls []) := by
          intro s10 x11 H locs ls hz hw hl
          rw [eJ105_12] at hz
          obtain ⟨x13, ex13, hz⟩ := u_let hz
          refine lv_iinc (v := x13) (lv' := [(2, .int x13), (0, .ref (G.2.2 0)), (1, .int x11)]) hx hb dX11_unlike_105 hl (k := 2) rfl (by rw [ex13]; rfl) (by decide) rfl (fun ls hl => ?_)
          refine lv_goto (tgt := 11) hx hb dX11_unlike_108 (by decide) ?_
          exact ih11_8 s10 x11 x13 _ _ _ hz hw (lv_sub hl [1, 2, 0] rfl)
        have WL26_28 : ∀ (k : Nat) (s14 : uS) (x15 : Int32) (x16 : Int32) (H : Heap) (locs : List Loc) (ls : Array Slot), u_lp3 (b_X11_unlike_26 N x7 J105_12) k s14 x15 x16 = some z → u_W ZC G s14 s H locs → lv_has ls 4 [(0, .ref (G.2.2 0)), (1, .int x15), (2, .int x7), (3, .int x16)] → W p l e (u_rm 2) s m args below meth c H locs 0 0 (u_Qi below ZC G s args z.1 z.2) (F0 m 26 ls []) := by
          intro k
          induction k with
          | zero =>
            intro s14 x15 x16 H locs ls hz
            exact absurd hz (by intro h9; cases h9)
          | succ k ih26_17 =>
            intro s14 x15 x16 H locs ls hz hw hl
            have hz : (b_X11_unlike_26 N x7 J105_12) (u_lp3 (b_X11_unlike_26 N x7 J105_12) k) s14 x15 x16 = some z := hz
            unfold b_X11_unlike_26 at hz
            refine lv_iload_n hx hb dX11_unlike_26 rfl (lv_at hl 3 rfl) ?_
            refine lv_aload_n hx hb dX11_unlike_27 rfl (lv_at hl 0 rfl) ?_
            refine u_getp cx hw F_X11_26 o_X11 rfl dX11_unlike_28 ?_
            refine u_geti cx hw F_X11_122 oS_32 rfl dX11_unlike_31 ?_
            refine lv_icmp_ge (tgt := 105) hx hb dX11_unlike_34 (by decide) (fun hc => ?_) (fun hc => ?_)
            · replace hz := u_ift hz hc
              exact WJ105_12 s14 x15 _ _ _ hz hw (lv_sub hl [0, 1, 2] rfl)
            · replace hz := u_iff hz hc
              refine lv_aload_n hx hb dX11_unlike_37 rfl (lv_at hl 0 rfl) ?_
              refine u_getp cx hw F_X11_26 o_X11 rfl dX11_unlike_38 ?_
              refine lv_iload_n hx hb dX11_unlike_41 rfl (lv_at hl 2 rfl) ?_
              obtain ⟨v18, hv18, hz⟩ := u_bind hz
              refine u_callVi (As := [.int x7]) (rest := []) cx hw LV_X11_171 (c_X7_isIn l G N s14 32 oS_32 x7 v18 hv18) oS_32 rfl (by decide) hl.1 rfl (Nat.le_of_ble_eq_true rfl) dX11_unlike_42 rfl (fun H locs hw => ?_)
              refine lv_aload_n hx hb dX11_unlike_45 rfl (lv_at hl 0 rfl) ?_
              refine u_getp cx hw F_X11_26 o_X11 rfl dX11_unlike_46 ?_
              refine lv_iload_n hx hb dX11_unlike_49 rfl (lv_at hl 3 rfl) ?_
              obtain ⟨v19, hv19, hz⟩ := u_bind hz
              refine u_callVi (As := [.int x16]) (rest := [.int v18]) cx hw LV_X11_171 (c_X7_isIn l G N s14 32 oS_32 x16 v19 hv19) oS_32 rfl (by decide) hl.1 rfl (Nat.le_of_ble_eq_true rfl) dX11_unlike_50 rfl (fun H locs hw => ?_)
              obtain ⟨J99_22, eJ99_22, hz⟩ := u_let hz
              have WJ99_22 : ∀ (s20 : uS) (x21 : Int32) (H : Heap) (locs : List Loc) (ls : Array Slot), J99_22 s20 x21 = some z → u_W ZC G s20 s H locs → lv_has ls 4 [(0, .ref (G.2.2 0)), (1, .int x21), (2, .int x7), (3, .int x16)] → W p l e (u_rm 2) s m args below meth c H locs 0 0 (u_Qi below ZC G s args z.1 z.2) (F0 m 99 ls []) := by
                intro s20 x21 H locs ls hz hw hl
                rw [eJ99_22] at hz
                obtain ⟨x23, ex23, hz⟩ := u_let hz
                refine lv_iinc (v := x23) (lv' := [(3, .int x23), (0, .ref (G.2.2 0)), (1, .int x21), (2, .int x7)]) hx hb dX11_unlike_99 hl (k := 3) rfl (by rw [ex23]; rfl) (by decide) rfl (fun ls hl => ?_)
                refine lv_goto (tgt := 26) hx hb dX11_unlike_102 (by decide) ?_
                exact ih26_17 s20 x21 x23 _ _ _ hz hw (lv_sub hl [1, 2, 3, 0] rfl)
              refine lv_icmp_eq (tgt := 99) hx hb dX11_unlike_53 (by decide) (fun hc => ?_) (fun hc => ?_)
              · replace hz := u_ift hz hc
                exact WJ99_22 s14 x15 _ _ _ hz hw (lv_sub hl [0, 1, 2, 3] rfl)
              · replace hz := u_iff hz hc
                refine lv_aload_n hx hb dX11_unlike_56 rfl (lv_at hl 0 rfl) ?_
                refine u_getp cx hw F_X11_26 o_X11 rfl dX11_unlike_57 ?_
                refine lv_iload_n hx hb dX11_unlike_60 rfl (lv_at hl 2 rfl) ?_
                refine lv_iload_n hx hb dX11_unlike_61 rfl (lv_at hl 3 rfl) ?_
                obtain ⟨v24, hv24, hz⟩ := u_bind hz
                refine u_callVi (As := [.int x7, .int x16]) (rest := []) cx hw LV_X11_348 (c_X7_sees l G N s14 32 oS_32 x7 x16 v24 hv24) oS_32 rfl (by decide) hl.1 rfl (Nat.le_of_ble_eq_true rfl) dX11_unlike_62 rfl (fun H locs hw => ?_)
                obtain ⟨J80_25, eJ80_25, hz⟩ := u_let hz
                have WJ80_25 : ∀ (H : Heap) (locs : List Loc) (ls : Array Slot), J80_25 = some z → u_W ZC G s14 s H locs → lv_has ls 4 [(0, .ref (G.2.2 0)), (1, .int x15), (2, .int x7), (3, .int x16)] → W p l e (u_rm 2) s m args below meth c H locs 0 0 (u_Qi below ZC G s args z.1 z.2) (F0 m 80 ls []) := by
                  intro H locs ls hz hw hl
                  rw [eJ80_25] at hz
                  obtain ⟨x26, ex26, hz⟩ := u_let hz
                  refine lv_iinc (v := x26) (lv' := [(1, .int x26), (0, .ref (G.2.2 0)), (2, .int x7), (3, .int x16)]) hx hb dX11_unlike_80 hl (k := 1) rfl (by rw [ex26]; rfl) (by decide) rfl (fun ls hl => ?_)
                  refine lv_iload_n hx hb dX11_unlike_83 rfl (lv_at hl 0 rfl) ?_
                  refine lv_iconst (v := 1) hx hb dX11_unlike_84 (by decide) ?_
                  refine lv_icmp_ne (tgt := 99) hx hb dX11_unlike_85 (by decide) (fun hc => ?_) (fun hc => ?_)
                  · replace hz := u_iff hz hc
                    exact WJ99_22 s14 x26 _ _ _ hz hw (lv_sub hl [1, 0, 2, 3] rfl)
                  · replace hz := u_ift hz hc
                    refine lv_aload_n hx hb dX11_unlike_88 rfl (lv_at hl 1 rfl) ?_
                    refine u_getp cx hw F_X11_19 o_X11 rfl dX11_unlike_89 ?_
                    refine lv_iload_n hx hb dX11_unlike_92 rfl (lv_at hl 2 rfl) ?_
                    refine lv_i2l (v := (Int32.toInt64 x7)) hx hb dX11_unlike_93 rfl ?_
                    refine lv_iload_n hx hb dX11_unlike_94 rfl (lv_at hl 3 rfl) ?_
                    refine lv_i2l (v := (Int32.toInt64 x16)) hx hb dX11_unlike_95 rfl ?_
                    obtain ⟨s27, hs27, hz⟩ := u_bind hz
                    refine u_callVv (As := [.long (Int32.toInt64 x7), .long (Int32.toInt64 x16)]) (rest := []) cx hw LV_X11_220 (c_X8_two l G N s14 (Int32.toInt64 x7) (Int32.toInt64 x16) s27 hs27) o_X8 rfl (by decide) hl.1 rfl (Nat.le_of_ble_eq_true rfl) dX11_unlike_96 rfl (fun H locs hw => ?_)
                    exact WJ99_22 s27 x26 _ _ _ hz hw (lv_sub hl [1, 0, 2, 3] rfl)
                refine lv_if_ne (tgt := 80) hx hb dX11_unlike_65 (by decide) (fun hc => ?_) (fun hc => ?_)
                · replace hz := u_iff hz hc
                  exact WJ80_25 _ _ _ hz hw (lv_sub hl [0, 1, 2, 3] rfl)
                · replace hz := u_ift hz hc
                  refine lv_aload_n hx hb dX11_unlike_68 rfl (lv_at hl 0 rfl) ?_
                  refine u_getp cx hw F_X11_26 o_X11 rfl dX11_unlike_69 ?_
                  refine lv_iload_n hx hb dX11_unlike_72 rfl (lv_at hl 3 rfl) ?_
                  refine lv_iload_n hx hb dX11_unlike_73 rfl (lv_at hl 2 rfl) ?_
                  obtain ⟨v28, hv28, hz⟩ := u_bind hz
                  refine u_callVi (As := [.int x16, .int x7]) (rest := []) cx hw LV_X11_348 (c_X7_sees l G N s14 32 oS_32 x16 x7 v28 hv28) oS_32 rfl (by decide) hl.1 rfl (Nat.le_of_ble_eq_true rfl) dX11_unlike_74 rfl (fun H locs hw => ?_)
                  refine lv_if_eq (tgt := 99) hx hb dX11_unlike_77 (by decide) (fun hc => ?_) (fun hc => ?_)
                  · replace hz := u_ift hz hc
                    exact WJ99_22 s14 x15 _ _ _ hz hw (lv_sub hl [0, 1, 2, 3] rfl)
                  · replace hz := u_iff hz hc
                    exact WJ80_25 _ _ _ hz hw (lv_sub hl [0, 1, 2, 3] rfl)
        exact WL26_28 N s5 x6 x9 _ _ _ hz hw (lv_sub hl [1, 2, 3, 0] rfl)
  exact WL11_28 N s1 0 0 _ _ _ hz hw (lv_sub hl [2, 1, 0] rfl)
theorem dX11_dependsOn_0 : decode cX11_dependsOn 0 = .ok (.aload_n 0, 1) := by decide +kernel
theorem dX11_dependsOn_1 : decode cX11_dependsOn 1 = .ok (.getfield 26, 3) := by decide +kernel
theorem dX11_dependsOn_4 : decode cX11_dependsOn 4 = .ok (.iload_n 1, 1) := by decide +kernel
theorem dX11_dependsOn_5 : decode cX11_dependsOn 5 = .ok (.invokevirtual 167, 3) := by decide +kernel
theorem dX11_dependsOn_8 : decode cX11_dependsOn 8 = .ok (.istore_n 2, 1) := by decide +kernel
theorem dX11_dependsOn_9 : decode cX11_dependsOn 9 = .ok (.iconst 0, 1) := by decide +kernel
theorem dX11_dependsOn_10 : decode cX11_dependsOn 10 = .ok (.istore_n 3, 1) := by decide +kernel
theorem dX11_dependsOn_11 : decode cX11_dependsOn 11 = .ok (.iload_n 3, 1) := by decide +kernel
theorem dX11_dependsOn_12 : decode cX11_dependsOn 12 = .ok (.bipush 8, 2) := by decide +kernel
theorem dX11_dependsOn_14 : decode cX11_dependsOn 14 = .ok (.if_icmp .ge 64, 3) := by decide +kernel
theorem dX11_dependsOn_17 : decode cX11_dependsOn 17 = .ok (.iload_n 2, 1) := by decide +kernel
theorem dX11_dependsOn_18 : decode cX11_dependsOn 18 = .ok (.istore 4, 2) := by decide +kernel
theorem dX11_dependsOn_20 : decode cX11_dependsOn 20 = .ok (.iconst 0, 1) := by decide +kernel
theorem dX11_dependsOn_21 : decode cX11_dependsOn 21 = .ok (.istore 5, 2) := by decide +kernel
theorem dX11_dependsOn_23 : decode cX11_dependsOn 23 = .ok (.iload 5, 2) := by decide +kernel
theorem dX11_dependsOn_25 : decode cX11_dependsOn 25 = .ok (.aload_n 0, 1) := by decide +kernel
theorem dX11_dependsOn_26 : decode cX11_dependsOn 26 = .ok (.getfield 26, 3) := by decide +kernel
theorem dX11_dependsOn_29 : decode cX11_dependsOn 29 = .ok (.getfield 122, 3) := by decide +kernel
theorem dX11_dependsOn_32 : decode cX11_dependsOn 32 = .ok (.if_icmp .ge 37, 3) := by decide +kernel
theorem dX11_dependsOn_35 : decode cX11_dependsOn 35 = .ok (.iload 4, 2) := by decide +kernel
theorem dX11_dependsOn_37 : decode cX11_dependsOn 37 = .ok (.iload_n 2, 1) := by decide +kernel
theorem dX11_dependsOn_38 : decode cX11_dependsOn 38 = .ok (.iload 5, 2) := by decide +kernel
theorem dX11_dependsOn_40 : decode cX11_dependsOn 40 = .ok (.ishr, 1) := by decide +kernel
theorem dX11_dependsOn_41 : decode cX11_dependsOn 41 = .ok (.iconst 1, 1) := by decide +kernel
theorem dX11_dependsOn_42 : decode cX11_dependsOn 42 = .ok (.iand, 1) := by decide +kernel
theorem dX11_dependsOn_43 : decode cX11_dependsOn 43 = .ok (.iconst 1, 1) := by decide +kernel
theorem dX11_dependsOn_44 : decode cX11_dependsOn 44 = .ok (.if_icmp .ne 15, 3) := by decide +kernel
theorem dX11_dependsOn_47 : decode cX11_dependsOn 47 = .ok (.aload_n 0, 1) := by decide +kernel
theorem dX11_dependsOn_48 : decode cX11_dependsOn 48 = .ok (.getfield 26, 3) := by decide +kernel
theorem dX11_dependsOn_51 : decode cX11_dependsOn 51 = .ok (.iload 5, 2) := by decide +kernel
theorem dX11_dependsOn_53 : decode cX11_dependsOn 53 = .ok (.invokevirtual 167, 3) := by decide +kernel
theorem dX11_dependsOn_56 : decode cX11_dependsOn 56 = .ok (.goto 4, 3) := by decide +kernel
theorem dX11_dependsOn_59 : decode cX11_dependsOn 59 = .ok (.iconst 0, 1) := by decide +kernel
theorem dX11_dependsOn_60 : decode cX11_dependsOn 60 = .ok (.ior, 1) := by decide +kernel
theorem dX11_dependsOn_61 : decode cX11_dependsOn 61 = .ok (.istore 4, 2) := by decide +kernel
theorem dX11_dependsOn_63 : decode cX11_dependsOn 63 = .ok (.iinc 5 1, 3) := by decide +kernel
theorem dX11_dependsOn_66 : decode cX11_dependsOn 66 = .ok (.goto (-43), 3) := by decide +kernel
theorem dX11_dependsOn_69 : decode cX11_dependsOn 69 = .ok (.iload 4, 2) := by decide +kernel
theorem dX11_dependsOn_71 : decode cX11_dependsOn 71 = .ok (.istore_n 2, 1) := by decide +kernel
theorem dX11_dependsOn_72 : decode cX11_dependsOn 72 = .ok (.iinc 3 1, 3) := by decide +kernel
theorem dX11_dependsOn_75 : decode cX11_dependsOn 75 = .ok (.goto (-64), 3) := by decide +kernel
theorem dX11_dependsOn_78 : decode cX11_dependsOn 78 = .ok (.iload_n 2, 1) := by decide +kernel
theorem dX11_dependsOn_79 : decode cX11_dependsOn 79 = .ok (.ireturn, 1) := by decide +kernel
def b_X11_dependsOn_23 (N : Nat) (σ : uS) (x4 : Int32) (J69_8 : Int32 → Option Int32) (rec23_12 : Int32 → Int32 → Option Int32) (x10 : Int32) (x11 : Int32) : Option Int32 :=
  if (σ.1 32 8) ≤ x11 then (J69_8 x10) else (u_jn (fun (t13 : Int32) => (u_jn ((x10 ||| t13) : Int32) fun x15 =>
  u_jn (x11 + 1 : Int32) fun x16 =>
  rec23_12 x15 x16 : Option Int32)) fun J60_14 =>
  if ((x4 >>> (x11 &&& 31)) &&& 1) = 1 then ((f_X7_seenBy N σ 32 x11).bind fun v17 =>
  J60_14 v17) else (J60_14 0))
def b_X11_dependsOn_11 (N : Nat) (σ : uS) (J78_3 : Int32 → Option Int32) (rec11_6 : Int32 → Int32 → Option Int32) (x4 : Int32) (x5 : Int32) : Option Int32 :=
  if 8 ≤ x5 then (J78_3 x4) else (u_jn (fun (x7 : Int32) => (u_jn (x5 + 1 : Int32) fun x9 =>
  rec11_6 x7 x9 : Option Int32)) fun J69_8 =>
  u_lp2 (b_X11_dependsOn_23 N σ x4 J69_8) N x4 0)
def f_X11_dependsOn (N : Nat) (σ : uS) (p1 : Int32) : Option Int32 := (f_X7_seenBy N σ 32 p1).bind fun v1 =>
  u_jn (fun (x2 : Int32) => (some x2 : Option Int32)) fun J78_3 =>
  u_lp2 (b_X11_dependsOn_11 N σ J78_3) N v1 0
set_option maxRecDepth 100000 in
set_option maxHeartbeats 4000000 in
theorem c_X11_dependsOn (l : Launch) (G : uG) (N : Nat) (σ : uS) (p1 : Int32) (z : Int32) (hz : f_X11_dependsOn N σ p1 = some z) : u_Mi l ZC G yX11_dependsOn cX11_dependsOn 6 .int 2 [.ref (G.2.2 0), .int p1] σ z σ := by
  refine u_Mi_of RX11 (by decide) rfl (Nat.le_of_ble_eq_true rfl) ?_
  intro p e s m args below meth c ls cx hw hl
  have hx := cx.1
  have hb := cx.2.1
  have hl : lv_has ls 6 [(0, .ref (G.2.2 0)), (1, .int p1)] := hl
  unfold f_X11_dependsOn at hz
  refine lv_aload_n hx hb dX11_dependsOn_0 rfl (lv_at hl 0 rfl) ?_
  refine u_getp cx hw F_X11_26 o_X11 rfl dX11_dependsOn_1 ?_
  refine lv_iload_n hx hb dX11_dependsOn_4 rfl (lv_at hl 1 rfl) ?_
  obtain ⟨v1, hv1, hz⟩ := u_bind hz
  refine u_callVi (As := [.int p1]) (rest := []) cx hw LV_X11_167 (c_X7_seenBy l G N σ 32 oS_32 p1 v1 hv1) oS_32 rfl (by decide) hl.1 rfl (Nat.le_of_ble_eq_true rfl) dX11_dependsOn_5 rfl (fun H locs hw => ?_)
  refine lv_istore_n (lv' := [(2, .int v1), (0, .ref (G.2.2 0)), (1, .int p1)]) hx hb dX11_dependsOn_8 rfl hl (by decide) rfl (fun ls hl => ?_)
  refine lv_iconst (v := 0) hx hb dX11_dependsOn_9 (by decide) ?_
  refine lv_istore_n (lv' := [(3, .int 0), (2, .int v1), (0, .ref (G.2.2 0)), (1, .int p1)]) hx hb dX11_dependsOn_10 rfl hl (by decide) rfl (fun ls hl => ?_)
  obtain ⟨J78_3, eJ78_3, hz⟩ := u_let hz
  have WJ78_3 : ∀ (x2 : Int32) (H : Heap) (locs : List Loc) (ls : Array Slot), J78_3 x2 = some z → u_W ZC G σ s H locs → lv_has ls 6 [(2, .int x2)] → W p l e (u_rm 2) s m args below meth c H locs 0 0 (u_Qi below ZC G s args z σ) (F0 m 78 ls []) := by
    intro x2 H locs ls hz hw hl
    rw [eJ78_3] at hz
    refine lv_iload_n hx hb dX11_dependsOn_78 rfl (lv_at hl 0 rfl) ?_
    exact u_iret cx hw ⟨Option.some.inj hz, rfl⟩ dX11_dependsOn_79
  have WL11_17 : ∀ (k : Nat) (x4 : Int32) (x5 : Int32) (H : Heap) (locs : List Loc) (ls : Array Slot), u_lp2 (b_X11_dependsOn_11 N σ J78_3) k x4 x5 = some z → u_W ZC G σ s H locs → lv_has ls 6 [(0, .ref (G.2.2 0)), (2, .int x4), (3, .int x5)] → W p l e (u_rm 2) s m args below meth c H locs 0 0 (u_Qi below ZC G s args z σ) (F0 m 11 ls []) := by
    intro k
    induction k with
    | zero =>
      intro x4 x5 H locs ls hz
      exact absurd hz (by intro h9; cases h9)
    | succ k ih11_6 =>
      intro x4 x5 H locs ls hz hw hl
      have hz : (b_X11_dependsOn_11 N σ J78_3) (u_lp2 (b_X11_dependsOn_11 N σ J78_3) k) x4 x5 = some z := hz
      unfold b_X11_dependsOn_11 at hz
      refine lv_iload_n hx hb dX11_dependsOn_11 rfl (lv_at hl 2 rfl) ?_
      refine lv_bipush (v := 8) hx hb dX11_dependsOn_12 (by decide) ?_
      refine lv_icmp_ge (tgt := 78) hx hb dX11_dependsOn_14 (by decide) (fun hc => ?_) (fun hc => ?_)
      · replace hz := u_ift hz hc
        exact WJ78_3 x4 _ _ _ hz hw (lv_sub hl [1] rfl)
      · replace hz := u_iff hz hc
        refine lv_iload_n hx hb dX11_dependsOn_17 rfl (lv_at hl 1 rfl) ?_
        refine lv_istore (lv' := [(4, .int x4), (0, .ref (G.2.2 0)), (2, .int x4), (3, .int x5)]) hx hb dX11_dependsOn_18 hl (by decide) rfl (fun ls hl => ?_)
        refine lv_iconst (v := 0) hx hb dX11_dependsOn_20 (by decide) ?_
        refine lv_istore (lv' := [(5, .int 0), (4, .int x4), (0, .ref (G.2.2 0)), (2, .int x4), (3, .int x5)]) hx hb dX11_dependsOn_21 hl (by decide) rfl (fun ls hl => ?_)
        obtain ⟨J69_8, eJ69_8, hz⟩ := u_let hz
        have WJ69_8 : ∀ (x7 : Int32) (H : Heap) (locs : List Loc) (ls : Array Slot), J69_8 x7 = some z → u_W ZC G σ s H locs → lv_has ls 6 [(0, .ref (G.2.2 0)), (3, .int x5), (4, .int x7)] → W p l e (u_rm 2) s m args below meth c H locs 0 0 (u_Qi below ZC G s args z σ) (F0 m 69 ls []) := by
          intro x7 H locs ls hz hw hl
          rw [eJ69_8] at hz
          refine lv_iload hx hb dX11_dependsOn_69 (lv_at hl 2 rfl) ?_
          refine lv_istore_n (lv' := [(2, .int x7), (0, .ref (G.2.2 0)), (3, .int x5), (4, .int x7)]) hx hb dX11_dependsOn_71 rfl hl (by decide) rfl (fun ls hl => ?_)
          obtain ⟨x9, ex9, hz⟩ := u_let hz
          refine lv_iinc (v := x9) (lv' := [(3, .int x9), (2, .int x7), (0, .ref (G.2.2 0)), (4, .int x7)]) hx hb dX11_dependsOn_72 hl (k := 2) rfl (by rw [ex9]; rfl) (by decide) rfl (fun ls hl => ?_)
          refine lv_goto (tgt := 11) hx hb dX11_dependsOn_75 (by decide) ?_
          exact ih11_6 x7 x9 _ _ _ hz hw (lv_sub hl [2, 1, 0] rfl)
        have WL23_17 : ∀ (k : Nat) (x10 : Int32) (x11 : Int32) (H : Heap) (locs : List Loc) (ls : Array Slot), u_lp2 (b_X11_dependsOn_23 N σ x4 J69_8) k x10 x11 = some z → u_W ZC G σ s H locs → lv_has ls 6 [(0, .ref (G.2.2 0)), (2, .int x4), (3, .int x5), (4, .int x10), (5, .int x11)] → W p l e (u_rm 2) s m args below meth c H locs 0 0 (u_Qi below ZC G s args z σ) (F0 m 23 ls []) := by
          intro k
          induction k with
          | zero =>
            intro x10 x11 H locs ls hz
            exact absurd hz (by intro h9; cases h9)
          | succ k ih23_12 =>
            intro x10 x11 H locs ls hz hw hl
            have hz : (b_X11_dependsOn_23 N σ x4 J69_8) (u_lp2 (b_X11_dependsOn_23 N σ x4 J69_8) k) x10 x11 = some z := hz
            unfold b_X11_dependsOn_23 at hz
            refine lv_iload hx hb dX11_dependsOn_23 (lv_at hl 4 rfl) ?_
            refine lv_aload_n hx hb dX11_dependsOn_25 rfl (lv_at hl 0 rfl) ?_
            refine u_getp cx hw F_X11_26 o_X11 rfl dX11_dependsOn_26 ?_
            refine u_geti cx hw F_X11_122 oS_32 rfl dX11_dependsOn_29 ?_
            refine lv_icmp_ge (tgt := 69) hx hb dX11_dependsOn_32 (by decide) (fun hc => ?_) (fun hc => ?_)
            · replace hz := u_ift hz hc
              exact WJ69_8 x10 _ _ _ hz hw (lv_sub hl [0, 2, 3] rfl)
            · replace hz := u_iff hz hc
              refine lv_iload hx hb dX11_dependsOn_35 (lv_at hl 3 rfl) ?_
              refine lv_iload_n hx hb dX11_dependsOn_37 rfl (lv_at hl 1 rfl) ?_
              refine lv_iload hx hb dX11_dependsOn_38 (lv_at hl 4 rfl) ?_
              refine lv_ishr hx hb dX11_dependsOn_40 ?_
              refine lv_iconst (v := 1) hx hb dX11_dependsOn_41 (by decide) ?_
              refine lv_iand hx hb dX11_dependsOn_42 ?_
              refine lv_iconst (v := 1) hx hb dX11_dependsOn_43 (by decide) ?_
              obtain ⟨J60_14, eJ60_14, hz⟩ := u_let hz
              have WJ60_14 : ∀ (t13 : Int32) (H : Heap) (locs : List Loc) (ls : Array Slot), J60_14 t13 = some z → u_W ZC G σ s H locs → lv_has ls 6 [(0, .ref (G.2.2 0)), (2, .int x4), (3, .int x5), (5, .int x11)] → W p l e (u_rm 2) s m args below meth c H locs 0 0 (u_Qi below ZC G s args z σ) (F0 m 60 ls [.int t13, .int x10]) := by
                intro t13 H locs ls hz hw hl
                rw [eJ60_14] at hz
                refine lv_ior hx hb dX11_dependsOn_60 ?_
                obtain ⟨x15, ex15, hz⟩ := u_let hz
                refine u_topi ex15 ?_
                refine lv_istore (lv' := [(4, .int x15), (0, .ref (G.2.2 0)), (2, .int x4), (3, .int x5), (5, .int x11)]) hx hb dX11_dependsOn_61 hl (by decide) rfl (fun ls hl => ?_)
                obtain ⟨x16, ex16, hz⟩ := u_let hz
                refine lv_iinc (v := x16) (lv' := [(5, .int x16), (4, .int x15), (0, .ref (G.2.2 0)), (2, .int x4), (3, .int x5)]) hx hb dX11_dependsOn_63 hl (k := 4) rfl (by rw [ex16]; rfl) (by decide) rfl (fun ls hl => ?_)
                refine lv_goto (tgt := 23) hx hb dX11_dependsOn_66 (by decide) ?_
                exact ih23_12 x15 x16 _ _ _ hz hw (lv_sub hl [2, 3, 4, 1, 0] rfl)
              refine lv_icmp_ne (tgt := 59) hx hb dX11_dependsOn_44 (by decide) (fun hc => ?_) (fun hc => ?_)
              · replace hz := u_iff hz hc
                refine lv_iconst (v := 0) hx hb dX11_dependsOn_59 (by decide) ?_
                exact WJ60_14 0 _ _ _ hz hw (lv_sub hl [0, 1, 2, 4] rfl)
              · replace hz := u_ift hz hc
                refine lv_aload_n hx hb dX11_dependsOn_47 rfl (lv_at hl 0 rfl) ?_
                refine u_getp cx hw F_X11_26 o_X11 rfl dX11_dependsOn_48 ?_
                refine lv_iload hx hb dX11_dependsOn_51 (lv_at hl 4 rfl) ?_
                obtain ⟨v17, hv17, hz⟩ := u_bind hz
                refine u_callVi (As := [.int x11]) (rest := [.int x10]) cx hw LV_X11_167 (c_X7_seenBy l G N σ 32 oS_32 x11 v17 hv17) oS_32 rfl (by decide) hl.1 rfl (Nat.le_of_ble_eq_true rfl) dX11_dependsOn_53 rfl (fun H locs hw => ?_)
                refine lv_goto (tgt := 60) hx hb dX11_dependsOn_56 (by decide) ?_
                exact WJ60_14 v17 _ _ _ hz hw (lv_sub hl [0, 1, 2, 4] rfl)
        exact WL23_17 N x4 0 _ _ _ hz hw (lv_sub hl [2, 3, 4, 1, 0] rfl)
  exact WL11_17 N v1 0 _ _ _ hz hw (lv_sub hl [2, 1, 0] rfl)
theorem dX11_seeEachOther_0 : decode cX11_seeEachOther 0 = .ok (.aload_n 0, 1) := by decide +kernel
theorem dX11_seeEachOther_1 : decode cX11_seeEachOther 1 = .ok (.getfield 26, 3) := by decide +kernel
theorem dX11_seeEachOther_4 : decode cX11_seeEachOther 4 = .ok (.iload_n 1, 1) := by decide +kernel
theorem dX11_seeEachOther_5 : decode cX11_seeEachOther 5 = .ok (.iload_n 2, 1) := by decide +kernel
theorem dX11_seeEachOther_6 : decode cX11_seeEachOther 6 = .ok (.invokevirtual 348, 3) := by decide +kernel
theorem dX11_seeEachOther_9 : decode cX11_seeEachOther 9 = .ok (.ifCond .eq 19, 3) := by decide +kernel
theorem dX11_seeEachOther_12 : decode cX11_seeEachOther 12 = .ok (.aload_n 0, 1) := by decide +kernel
theorem dX11_seeEachOther_13 : decode cX11_seeEachOther 13 = .ok (.getfield 26, 3) := by decide +kernel
theorem dX11_seeEachOther_16 : decode cX11_seeEachOther 16 = .ok (.iload_n 2, 1) := by decide +kernel
theorem dX11_seeEachOther_17 : decode cX11_seeEachOther 17 = .ok (.iload_n 1, 1) := by decide +kernel
theorem dX11_seeEachOther_18 : decode cX11_seeEachOther 18 = .ok (.invokevirtual 348, 3) := by decide +kernel
theorem dX11_seeEachOther_21 : decode cX11_seeEachOther 21 = .ok (.ifCond .eq 7, 3) := by decide +kernel
theorem dX11_seeEachOther_24 : decode cX11_seeEachOther 24 = .ok (.iconst 1, 1) := by decide +kernel
theorem dX11_seeEachOther_25 : decode cX11_seeEachOther 25 = .ok (.goto 4, 3) := by decide +kernel
theorem dX11_seeEachOther_28 : decode cX11_seeEachOther 28 = .ok (.iconst 0, 1) := by decide +kernel
theorem dX11_seeEachOther_29 : decode cX11_seeEachOther 29 = .ok (.ireturn, 1) := by decide +kernel
def f_X11_seeEachOther (N : Nat) (σ : uS) (p1 : Int32) (p2 : Int32) : Option Int32 := (f_X7_sees N σ 32 p1 p2).bind fun v1 =>
  u_jn ((some 0 : Option Int32)) fun J28_2 =>
  if v1 = 0 then (J28_2) else ((f_X7_sees N σ 32 p2 p1).bind fun v3 =>
  if v3 = 0 then (J28_2) else (some 1))
set_option maxRecDepth 100000 in
set_option maxHeartbeats 4000000 in
theorem c_X11_seeEachOther (l : Launch) (G : uG) (N : Nat) (σ : uS) (p1 : Int32) (p2 : Int32) (z : Int32) (hz : f_X11_seeEachOther N σ p1 p2 = some z) : u_Mi l ZC G yX11_seeEachOther cX11_seeEachOther 3 .boolean 1 [.ref (G.2.2 0), .int p1, .int p2] σ z σ := by
  refine u_Mi_of RX11 (by decide) rfl (Nat.le_of_ble_eq_true rfl) ?_
  intro p e s m args below meth c ls cx hw hl
  have hx := cx.1
  have hb := cx.2.1
  have hl : lv_has ls 3 [(0, .ref (G.2.2 0)), (1, .int p1), (2, .int p2)] := hl
  unfold f_X11_seeEachOther at hz
  refine lv_aload_n hx hb dX11_seeEachOther_0 rfl (lv_at hl 0 rfl) ?_
  refine u_getp cx hw F_X11_26 o_X11 rfl dX11_seeEachOther_1 ?_
  refine lv_iload_n hx hb dX11_seeEachOther_4 rfl (lv_at hl 1 rfl) ?_
  refine lv_iload_n hx hb dX11_seeEachOther_5 rfl (lv_at hl 2 rfl) ?_
  obtain ⟨v1, hv1, hz⟩ := u_bind hz
  refine u_callVi (As := [.int p1, .int p2]) (rest := []) cx hw LV_X11_348 (c_X7_sees l G N σ 32 oS_32 p1 p2 v1 hv1) oS_32 rfl (by decide) hl.1 rfl (Nat.le_of_ble_eq_true rfl) dX11_seeEachOther_6 rfl (fun H locs hw => ?_)
  obtain ⟨J28_2, eJ28_2, hz⟩ := u_let hz
  have WJ28_2 : ∀ (H : Heap) (locs : List Loc) (ls : Array Slot), J28_2 = some z → u_W ZC G σ s H locs → lv_has ls 3 [] → W p l e (u_rm 1) s m args below meth c H locs 0 0 (u_Qi below ZC G s args z σ) (F0 m 28 ls []) := by
    intro H locs ls hz hw hl
    rw [eJ28_2] at hz
    refine lv_iconst (v := 0) hx hb dX11_seeEachOther_28 (by decide) ?_
    exact u_zret cx hw (Or.inl rfl) ⟨Option.some.inj hz, rfl⟩ dX11_seeEachOther_29
  refine lv_if_eq (tgt := 28) hx hb dX11_seeEachOther_9 (by decide) (fun hc => ?_) (fun hc => ?_)
  · replace hz := u_ift hz hc
    exact WJ28_2 _ _ _ hz hw (lv_sub hl [] rfl)
  · replace hz := u_iff hz hc
    refine lv_aload_n hx hb dX11_seeEachOther_12 rfl (lv_at hl 0 rfl) ?_
    refine u_getp cx hw F_X11_26 o_X11 rfl dX11_seeEachOther_13 ?_
    refine lv_iload_n hx hb dX11_seeEachOther_16 rfl (lv_at hl 2 rfl) ?_
    refine lv_iload_n hx hb dX11_seeEachOther_17 rfl (lv_at hl 1 rfl) ?_
    obtain ⟨v3, hv3, hz⟩ := u_bind hz
    refine u_callVi (As := [.int p2, .int p1]) (rest := []) cx hw LV_X11_348 (c_X7_sees l G N σ 32 oS_32 p2 p1 v3 hv3) oS_32 rfl (by decide) hl.1 rfl (Nat.le_of_ble_eq_true rfl) dX11_seeEachOther_18 rfl (fun H locs hw => ?_)
    refine lv_if_eq (tgt := 28) hx hb dX11_seeEachOther_21 (by decide) (fun hc => ?_) (fun hc => ?_)
    · replace hz := u_ift hz hc
      exact WJ28_2 _ _ _ hz hw (lv_sub hl [] rfl)
    · replace hz := u_iff hz hc
      refine lv_iconst (v := 1) hx hb dX11_seeEachOther_24 (by decide) ?_
      refine lv_goto (tgt := 29) hx hb dX11_seeEachOther_25 (by decide) ?_
      exact u_zret cx hw (Or.inr rfl) ⟨Option.some.inj hz, rfl⟩ dX11_seeEachOther_29
theorem dX11_knowsDeeper_0 : decode cX11_knowsDeeper 0 = .ok (.iconst 0, 1) := by decide +kernel
theorem dX11_knowsDeeper_1 : decode cX11_knowsDeeper 1 = .ok (.istore_n 2, 1) := by decide +kernel
theorem dX11_knowsDeeper_2 : decode cX11_knowsDeeper 2 = .ok (.iconst 0, 1) := by decide +kernel
theorem dX11_knowsDeeper_3 : decode cX11_knowsDeeper 3 = .ok (.istore_n 3, 1) := by decide +kernel
theorem dX11_knowsDeeper_4 : decode cX11_knowsDeeper 4 = .ok (.iload_n 3, 1) := by decide +kernel
theorem dX11_knowsDeeper_5 : decode cX11_knowsDeeper 5 = .ok (.aload_n 0, 1) := by decide +kernel
theorem dX11_knowsDeeper_6 : decode cX11_knowsDeeper 6 = .ok (.getfield 26, 3) := by decide +kernel
theorem dX11_knowsDeeper_9 : decode cX11_knowsDeeper 9 = .ok (.getfield 122, 3) := by decide +kernel
theorem dX11_knowsDeeper_12 : decode cX11_knowsDeeper 12 = .ok (.if_icmp .ge 41, 3) := by decide +kernel
theorem dX11_knowsDeeper_15 : decode cX11_knowsDeeper 15 = .ok (.aload_n 0, 1) := by decide +kernel
theorem dX11_knowsDeeper_16 : decode cX11_knowsDeeper 16 = .ok (.getfield 26, 3) := by decide +kernel
theorem dX11_knowsDeeper_19 : decode cX11_knowsDeeper 19 = .ok (.iload_n 3, 1) := by decide +kernel
theorem dX11_knowsDeeper_20 : decode cX11_knowsDeeper 20 = .ok (.invokevirtual 171, 3) := by decide +kernel
theorem dX11_knowsDeeper_23 : decode cX11_knowsDeeper 23 = .ok (.ifCond .ne 24, 3) := by decide +kernel
theorem dX11_knowsDeeper_26 : decode cX11_knowsDeeper 26 = .ok (.aload_n 0, 1) := by decide +kernel
theorem dX11_knowsDeeper_27 : decode cX11_knowsDeeper 27 = .ok (.getfield 26, 3) := by decide +kernel
theorem dX11_knowsDeeper_30 : decode cX11_knowsDeeper 30 = .ok (.iload_n 3, 1) := by decide +kernel
theorem dX11_knowsDeeper_31 : decode cX11_knowsDeeper 31 = .ok (.invokevirtual 167, 3) := by decide +kernel
theorem dX11_knowsDeeper_34 : decode cX11_knowsDeeper 34 = .ok (.iload_n 1, 1) := by decide +kernel
theorem dX11_knowsDeeper_35 : decode cX11_knowsDeeper 35 = .ok (.iconst (-1), 1) := by decide +kernel
theorem dX11_knowsDeeper_36 : decode cX11_knowsDeeper 36 = .ok (.ixor, 1) := by decide +kernel
theorem dX11_knowsDeeper_37 : decode cX11_knowsDeeper 37 = .ok (.iand, 1) := by decide +kernel
theorem dX11_knowsDeeper_38 : decode cX11_knowsDeeper 38 = .ok (.ifCond .ne 9, 3) := by decide +kernel
theorem dX11_knowsDeeper_41 : decode cX11_knowsDeeper 41 = .ok (.iload_n 2, 1) := by decide +kernel
theorem dX11_knowsDeeper_42 : decode cX11_knowsDeeper 42 = .ok (.iconst 1, 1) := by decide +kernel
theorem dX11_knowsDeeper_43 : decode cX11_knowsDeeper 43 = .ok (.iload_n 3, 1) := by decide +kernel
theorem dX11_knowsDeeper_44 : decode cX11_knowsDeeper 44 = .ok (.ishl, 1) := by decide +kernel
theorem dX11_knowsDeeper_45 : decode cX11_knowsDeeper 45 = .ok (.ior, 1) := by decide +kernel
theorem dX11_knowsDeeper_46 : decode cX11_knowsDeeper 46 = .ok (.istore_n 2, 1) := by decide +kernel
theorem dX11_knowsDeeper_47 : decode cX11_knowsDeeper 47 = .ok (.iinc 3 1, 3) := by decide +kernel
theorem dX11_knowsDeeper_50 : decode cX11_knowsDeeper 50 = .ok (.goto (-46), 3) := by decide +kernel
theorem dX11_knowsDeeper_53 : decode cX11_knowsDeeper 53 = .ok (.iload_n 2, 1) := by decide +kernel
theorem dX11_knowsDeeper_54 : decode cX11_knowsDeeper 54 = .ok (.ireturn, 1) := by decide +kernel
def b_X11_knowsDeeper_4 (N : Nat) (σ : uS) (p1 : Int32) (J53_2 : Int32 → Option Int32) (rec4_5 : Int32 → Int32 → Option Int32) (x3 : Int32) (x4 : Int32) : Option Int32 :=
  if (σ.1 32 8) ≤ x4 then (J53_2 x3) else ((f_X7_isIn N σ 32 x4).bind fun v6 =>
  u_jn (fun (x7 : Int32) => (u_jn (x4 + 1 : Int32) fun x9 =>
  rec4_5 x7 x9 : Option Int32)) fun J47_8 =>
  if v6 = 0 then ((f_X7_seenBy N σ 32 x4).bind fun v10 =>
  if (v10 &&& (p1 ^^^ (-1))) = 0 then (u_jn ((x3 ||| (1 <<< (x4 &&& 31))) : Int32) fun x11 =>
  J47_8 x11) else (J47_8 x3)) else (J47_8 x3))
def f_X11_knowsDeeper (N : Nat) (σ : uS) (p1 : Int32) : Option Int32 := u_jn (fun (x1 : Int32) => (some x1 : Option Int32)) fun J53_2 =>
  u_lp2 (b_X11_knowsDeeper_4 N σ p1 J53_2) N 0 0
set_option maxRecDepth 100000 in
set_option maxHeartbeats 4000000 in
theorem c_X11_knowsDeeper (l : Launch) (G : uG) (N : Nat) (σ : uS) (p1 : Int32) (z : Int32) (hz : f_X11_knowsDeeper N σ p1 = some z) : u_Mi l ZC G yX11_knowsDeeper cX11_knowsDeeper 4 .int 2 [.ref (G.2.2 0), .int p1] σ z σ := by
  refine u_Mi_of RX11 (by decide) rfl (Nat.le_of_ble_eq_true rfl) ?_
  intro p e s m args below meth c ls cx hw hl
  have hx := cx.1
  have hb := cx.2.1
  have hl : lv_has ls 4 [(0, .ref (G.2.2 0)), (1, .int p1)] := hl
  unfold f_X11_knowsDeeper at hz
  refine lv_iconst (v := 0) hx hb dX11_knowsDeeper_0 (by decide) ?_
  refine lv_istore_n (lv' := [(2, .int 0), (0, .ref (G.2.2 0)), (1, .int p1)]) hx hb dX11_knowsDeeper_1 rfl hl (by decide) rfl (fun ls hl => ?_)
  refine lv_iconst (v := 0) hx hb dX11_knowsDeeper_2 (by decide) ?_
  refine lv_istore_n (lv' := [(3, .int 0), (2, .int 0), (0, .ref (G.2.2 0)), (1, .int p1)]) hx hb dX11_knowsDeeper_3 rfl hl (by decide) rfl (fun ls hl => ?_)
  obtain ⟨J53_2, eJ53_2, hz⟩ := u_let hz
  have WJ53_2 : ∀ (x1 : Int32) (H : Heap) (locs : List Loc) (ls : Array Slot), J53_2 x1 = some z → u_W ZC G σ s H locs → lv_has ls 4 [(2, .int x1)] → W p l e (u_rm 2) s m args below meth c H locs 0 0 (u_Qi below ZC G s args z σ) (F0 m 53 ls []) := by
    intro x1 H locs ls hz hw hl
    rw [eJ53_2] at hz
    refine lv_iload_n hx hb dX11_knowsDeeper_53 rfl (lv_at hl 0 rfl) ?_
    exact u_iret cx hw ⟨Option.some.inj hz, rfl⟩ dX11_knowsDeeper_54
  have WL4_11 : ∀ (k : Nat) (x3 : Int32) (x4 : Int32) (H : Heap) (locs : List Loc) (ls : Array Slot), u_lp2 (b_X11_knowsDeeper_4 N σ p1 J53_2) k x3 x4 = some z → u_W ZC G σ s H locs → lv_has ls 4 [(0, .ref (G.2.2 0)), (1, .int p1), (2, .int x3), (3, .int x4)] → W p l e (u_rm 2) s m args below meth c H locs 0 0 (u_Qi below ZC G s args z σ) (F0 m 4 ls []) := by
    intro k
    induction k with
    | zero =>
      intro x3 x4 H locs ls hz
      exact absurd hz (by intro h9; cases h9)
    | succ k ih4_5 =>
      intro x3 x4 H locs ls hz hw hl
      have hz : (b_X11_knowsDeeper_4 N σ p1 J53_2) (u_lp2 (b_X11_knowsDeeper_4 N σ p1 J53_2) k) x3 x4 = some z := hz
      unfold b_X11_knowsDeeper_4 at hz
      refine lv_iload_n hx hb dX11_knowsDeeper_4 rfl (lv_at hl 3 rfl) ?_
      refine lv_aload_n hx hb dX11_knowsDeeper_5 rfl (lv_at hl 0 rfl) ?_
      refine u_getp cx hw F_X11_26 o_X11 rfl dX11_knowsDeeper_6 ?_
      refine u_geti cx hw F_X11_122 oS_32 rfl dX11_knowsDeeper_9 ?_
      refine lv_icmp_ge (tgt := 53) hx hb dX11_knowsDeeper_12 (by decide) (fun hc => ?_) (fun hc => ?_)
      · replace hz := u_ift hz hc
        exact WJ53_2 x3 _ _ _ hz hw (lv_sub hl [2] rfl)
      · replace hz := u_iff hz hc
        refine lv_aload_n hx hb dX11_knowsDeeper_15 rfl (lv_at hl 0 rfl) ?_
        refine u_getp cx hw F_X11_26 o_X11 rfl dX11_knowsDeeper_16 ?_
        refine lv_iload_n hx hb dX11_knowsDeeper_19 rfl (lv_at hl 3 rfl) ?_
        obtain ⟨v6, hv6, hz⟩ := u_bind hz
        refine u_callVi (As := [.int x4]) (rest := []) cx hw LV_X11_171 (c_X7_isIn l G N σ 32 oS_32 x4 v6 hv6) oS_32 rfl (by decide) hl.1 rfl (Nat.le_of_ble_eq_true rfl) dX11_knowsDeeper_20 rfl (fun H locs hw => ?_)
        obtain ⟨J47_8, eJ47_8, hz⟩ := u_let hz
        have WJ47_8 : ∀ (x7 : Int32) (H : Heap) (locs : List Loc) (ls : Array Slot), J47_8 x7 = some z → u_W ZC G σ s H locs → lv_has ls 4 [(0, .ref (G.2.2 0)), (1, .int p1), (2, .int x7), (3, .int x4)] → W p l e (u_rm 2) s m args below meth c H locs 0 0 (u_Qi below ZC G s args z σ) (F0 m 47 ls []) := by
          intro x7 H locs ls hz hw hl
          rw [eJ47_8] at hz
          obtain ⟨x9, ex9, hz⟩ := u_let hz
          refine lv_iinc (v := x9) (lv' := [(3, .int x9), (0, .ref (G.2.2 0)), (1, .int p1), (2, .int x7)]) hx hb dX11_knowsDeeper_47 hl (k := 3) rfl (by rw [ex9]; rfl) (by decide) rfl (fun ls hl => ?_)
          refine lv_goto (tgt := 4) hx hb dX11_knowsDeeper_50 (by decide) ?_
          exact ih4_5 x7 x9 _ _ _ hz hw (lv_sub hl [1, 2, 3, 0] rfl)
        refine lv_if_ne (tgt := 47) hx hb dX11_knowsDeeper_23 (by decide) (fun hc => ?_) (fun hc => ?_)
        · replace hz := u_iff hz hc
          exact WJ47_8 x3 _ _ _ hz hw (lv_sub hl [0, 1, 2, 3] rfl)
        · replace hz := u_ift hz hc
          refine lv_aload_n hx hb dX11_knowsDeeper_26 rfl (lv_at hl 0 rfl) ?_
          refine u_getp cx hw F_X11_26 o_X11 rfl dX11_knowsDeeper_27 ?_
          refine lv_iload_n hx hb dX11_knowsDeeper_30 rfl (lv_at hl 3 rfl) ?_
          obtain ⟨v10, hv10, hz⟩ := u_bind hz
          refine u_callVi (As := [.int x4]) (rest := []) cx hw LV_X11_167 (c_X7_seenBy l G N σ 32 oS_32 x4 v10 hv10) oS_32 rfl (by decide) hl.1 rfl (Nat.le_of_ble_eq_true rfl) dX11_knowsDeeper_31 rfl (fun H locs hw => ?_)
          refine lv_iload_n hx hb dX11_knowsDeeper_34 rfl (lv_at hl 1 rfl) ?_
          refine lv_iconst (v := (-1)) hx hb dX11_knowsDeeper_35 (by decide) ?_
          refine lv_ixor hx hb dX11_knowsDeeper_36 ?_
          refine lv_iand hx hb dX11_knowsDeeper_37 ?_
          refine lv_if_ne (tgt := 47) hx hb dX11_knowsDeeper_38 (by decide) (fun hc => ?_) (fun hc => ?_)
          · replace hz := u_iff hz hc
            exact WJ47_8 x3 _ _ _ hz hw (lv_sub hl [0, 1, 2, 3] rfl)
          · replace hz := u_ift hz hc
            refine lv_iload_n hx hb dX11_knowsDeeper_41 rfl (lv_at hl 2 rfl) ?_
            refine lv_iconst (v := 1) hx hb dX11_knowsDeeper_42 (by decide) ?_
            refine lv_iload_n hx hb dX11_knowsDeeper_43 rfl (lv_at hl 3 rfl) ?_
            refine lv_ishl hx hb dX11_knowsDeeper_44 ?_
            refine lv_ior hx hb dX11_knowsDeeper_45 ?_
            obtain ⟨x11, ex11, hz⟩ := u_let hz
            refine u_topi ex11 ?_
            refine lv_istore_n (lv' := [(2, .int x11), (0, .ref (G.2.2 0)), (1, .int p1), (3, .int x4)]) hx hb dX11_knowsDeeper_46 rfl hl (by decide) rfl (fun ls hl => ?_)
            exact WJ47_8 x11 _ _ _ hz hw (lv_sub hl [1, 2, 0, 3] rfl)
  exact WL4_11 N 0 0 _ _ _ hz hw (lv_sub hl [2, 3, 1, 0] rfl)
theorem dX11_allSeeEachOther_0 : decode cX11_allSeeEachOther 0 = .ok (.iconst 0, 1) := by decide +kernel
theorem dX11_allSeeEachOther_1 : decode cX11_allSeeEachOther 1 = .ok (.istore_n 2, 1) := by decide +kernel
theorem dX11_allSeeEachOther_2 : decode cX11_allSeeEachOther 2 = .ok (.iload_n 2, 1) := by decide +kernel
theorem dX11_allSeeEachOther_3 : decode cX11_allSeeEachOther 3 = .ok (.aload_n 0, 1) := by decide +kernel
theorem dX11_allSeeEachOther_4 : decode cX11_allSeeEachOther 4 = .ok (.getfield 26, 3) := by decide +kernel
theorem dX11_allSeeEachOther_7 : decode cX11_allSeeEachOther 7 = .ok (.getfield 122, 3) := by decide +kernel
theorem dX11_allSeeEachOther_10 : decode cX11_allSeeEachOther 10 = .ok (.if_icmp .ge 43, 3) := by decide +kernel
theorem dX11_allSeeEachOther_13 : decode cX11_allSeeEachOther 13 = .ok (.iload_n 1, 1) := by decide +kernel
theorem dX11_allSeeEachOther_14 : decode cX11_allSeeEachOther 14 = .ok (.iconst 1, 1) := by decide +kernel
theorem dX11_allSeeEachOther_15 : decode cX11_allSeeEachOther 15 = .ok (.iload_n 2, 1) := by decide +kernel
theorem dX11_allSeeEachOther_16 : decode cX11_allSeeEachOther 16 = .ok (.ishl, 1) := by decide +kernel
theorem dX11_allSeeEachOther_17 : decode cX11_allSeeEachOther 17 = .ok (.iconst (-1), 1) := by decide +kernel
theorem dX11_allSeeEachOther_18 : decode cX11_allSeeEachOther 18 = .ok (.ixor, 1) := by decide +kernel
theorem dX11_allSeeEachOther_19 : decode cX11_allSeeEachOther 19 = .ok (.iand, 1) := by decide +kernel
theorem dX11_allSeeEachOther_20 : decode cX11_allSeeEachOther 20 = .ok (.istore_n 3, 1) := by decide +kernel
theorem dX11_allSeeEachOther_21 : decode cX11_allSeeEachOther 21 = .ok (.iload_n 1, 1) := by decide +kernel
theorem dX11_allSeeEachOther_22 : decode cX11_allSeeEachOther 22 = .ok (.iload_n 2, 1) := by decide +kernel
theorem dX11_allSeeEachOther_23 : decode cX11_allSeeEachOther 23 = .ok (.ishr, 1) := by decide +kernel
theorem dX11_allSeeEachOther_24 : decode cX11_allSeeEachOther 24 = .ok (.iconst 1, 1) := by decide +kernel
theorem dX11_allSeeEachOther_25 : decode cX11_allSeeEachOther 25 = .ok (.iand, 1) := by decide +kernel
theorem dX11_allSeeEachOther_26 : decode cX11_allSeeEachOther 26 = .ok (.iconst 1, 1) := by decide +kernel
theorem dX11_allSeeEachOther_27 : decode cX11_allSeeEachOther 27 = .ok (.if_icmp .ne 20, 3) := by decide +kernel
theorem dX11_allSeeEachOther_30 : decode cX11_allSeeEachOther 30 = .ok (.iload_n 3, 1) := by decide +kernel
theorem dX11_allSeeEachOther_31 : decode cX11_allSeeEachOther 31 = .ok (.aload_n 0, 1) := by decide +kernel
theorem dX11_allSeeEachOther_32 : decode cX11_allSeeEachOther 32 = .ok (.getfield 26, 3) := by decide +kernel
theorem dX11_allSeeEachOther_35 : decode cX11_allSeeEachOther 35 = .ok (.iload_n 2, 1) := by decide +kernel
theorem dX11_allSeeEachOther_36 : decode cX11_allSeeEachOther 36 = .ok (.invokevirtual 167, 3) := by decide +kernel
theorem dX11_allSeeEachOther_39 : decode cX11_allSeeEachOther 39 = .ok (.iconst (-1), 1) := by decide +kernel
theorem dX11_allSeeEachOther_40 : decode cX11_allSeeEachOther 40 = .ok (.ixor, 1) := by decide +kernel
theorem dX11_allSeeEachOther_41 : decode cX11_allSeeEachOther 41 = .ok (.iand, 1) := by decide +kernel
theorem dX11_allSeeEachOther_42 : decode cX11_allSeeEachOther 42 = .ok (.ifCond .eq 5, 3) := by decide +kernel
theorem dX11_allSeeEachOther_45 : decode cX11_allSeeEachOther 45 = .ok (.iconst 0, 1) := by decide +kernel
theorem dX11_allSeeEachOther_46 : decode cX11_allSeeEachOther 46 = .ok (.ireturn, 1) := by decide +kernel
theorem dX11_allSeeEachOther_47 : decode cX11_allSeeEachOther 47 = .ok (.iinc 2 1, 3) := by decide +kernel
theorem dX11_allSeeEachOther_50 : decode cX11_allSeeEachOther 50 = .ok (.goto (-48), 3) := by decide +kernel
theorem dX11_allSeeEachOther_53 : decode cX11_allSeeEachOther 53 = .ok (.iconst 1, 1) := by decide +kernel
theorem dX11_allSeeEachOther_54 : decode cX11_allSeeEachOther 54 = .ok (.ireturn, 1) := by decide +kernel
def b_X11_allSeeEachOther_2 (N : Nat) (σ : uS) (p1 : Int32) (J53_1 : Option Int32) (rec2_3 : Int32 → Option Int32) (x2 : Int32) : Option Int32 :=
  if (σ.1 32 8) ≤ x2 then (J53_1) else (u_jn ((p1 &&& ((1 <<< (x2 &&& 31)) ^^^ (-1))) : Int32) fun x4 =>
  u_jn ((u_jn (x2 + 1 : Int32) fun x6 =>
  rec2_3 x6 : Option Int32)) fun J47_5 =>
  if ((p1 >>> (x2 &&& 31)) &&& 1) = 1 then ((f_X7_seenBy N σ 32 x2).bind fun v7 =>
  if (x4 &&& (v7 ^^^ (-1))) = 0 then (J47_5) else (some 0)) else (J47_5))
def f_X11_allSeeEachOther (N : Nat) (σ : uS) (p1 : Int32) : Option Int32 := u_jn ((some 1 : Option Int32)) fun J53_1 =>
  u_lp1 (b_X11_allSeeEachOther_2 N σ p1 J53_1) N 0
set_option maxRecDepth 100000 in
set_option maxHeartbeats 4000000 in
theorem c_X11_allSeeEachOther (l : Launch) (G : uG) (N : Nat) (σ : uS) (p1 : Int32) (z : Int32) (hz : f_X11_allSeeEachOther N σ p1 = some z) : u_Mi l ZC G yX11_allSeeEachOther cX11_allSeeEachOther 4 .boolean 2 [.ref (G.2.2 0), .int p1] σ z σ := by
  refine u_Mi_of RX11 (by decide) rfl (Nat.le_of_ble_eq_true rfl) ?_
  intro p e s m args below meth c ls cx hw hl
  have hx := cx.1
  have hb := cx.2.1
  have hl : lv_has ls 4 [(0, .ref (G.2.2 0)), (1, .int p1)] := hl
  unfold f_X11_allSeeEachOther at hz
  refine lv_iconst (v := 0) hx hb dX11_allSeeEachOther_0 (by decide) ?_
  refine lv_istore_n (lv' := [(2, .int 0), (0, .ref (G.2.2 0)), (1, .int p1)]) hx hb dX11_allSeeEachOther_1 rfl hl (by decide) rfl (fun ls hl => ?_)
  obtain ⟨J53_1, eJ53_1, hz⟩ := u_let hz
  have WJ53_1 : ∀ (H : Heap) (locs : List Loc) (ls : Array Slot), J53_1 = some z → u_W ZC G σ s H locs → lv_has ls 4 [] → W p l e (u_rm 2) s m args below meth c H locs 0 0 (u_Qi below ZC G s args z σ) (F0 m 53 ls []) := by
    intro H locs ls hz hw hl
    rw [eJ53_1] at hz
    refine lv_iconst (v := 1) hx hb dX11_allSeeEachOther_53 (by decide) ?_
    exact u_zret cx hw (Or.inr rfl) ⟨Option.some.inj hz, rfl⟩ dX11_allSeeEachOther_54
  have WL2_7 : ∀ (k : Nat) (x2 : Int32) (H : Heap) (locs : List Loc) (ls : Array Slot), u_lp1 (b_X11_allSeeEachOther_2 N σ p1 J53_1) k x2 = some z → u_W ZC G σ s H locs → lv_has ls 4 [(0, .ref (G.2.2 0)), (1, .int p1), (2, .int x2)] → W p l e (u_rm 2) s m args below meth c H locs 0 0 (u_Qi below ZC G s args z σ) (F0 m 2 ls []) := by
    intro k
    induction k with
    | zero =>
      intro x2 H locs ls hz
      exact absurd hz (by intro h9; cases h9)
    | succ k ih2_3 =>
      intro x2 H locs ls hz hw hl
      have hz : (b_X11_allSeeEachOther_2 N σ p1 J53_1) (u_lp1 (b_X11_allSeeEachOther_2 N σ p1 J53_1) k) x2 = some z := hz
      unfold b_X11_allSeeEachOther_2 at hz
      refine lv_iload_n hx hb dX11_allSeeEachOther_2 rfl (lv_at hl 2 rfl) ?_
      refine lv_aload_n hx hb dX11_allSeeEachOther_3 rfl (lv_at hl 0 rfl) ?_
      refine u_getp cx hw F_X11_26 o_X11 rfl dX11_allSeeEachOther_4 ?_
      refine u_geti cx hw F_X11_122 oS_32 rfl dX11_allSeeEachOther_7 ?_
      refine lv_icmp_ge (tgt := 53) hx hb dX11_allSeeEachOther_10 (by decide) (fun hc => ?_) (fun hc => ?_)
      · replace hz := u_ift hz hc
        exact WJ53_1 _ _ _ hz hw (lv_sub hl [] rfl)
      · replace hz := u_iff hz hc
        refine lv_iload_n hx hb dX11_allSeeEachOther_13 rfl (lv_at hl 1 rfl) ?_
        refine lv_iconst (v := 1) hx hb dX11_allSeeEachOther_14 (by decide) ?_
        refine lv_iload_n hx hb dX11_allSeeEachOther_15 rfl (lv_at hl 2 rfl) ?_
        refine lv_ishl hx hb dX11_allSeeEachOther_16 ?_
        refine lv_iconst (v := (-1)) hx hb dX11_allSeeEachOther_17 (by decide) ?_
        refine lv_ixor hx hb dX11_allSeeEachOther_18 ?_
        refine lv_iand hx hb dX11_allSeeEachOther_19 ?_
        obtain ⟨x4, ex4, hz⟩ := u_let hz
        refine u_topi ex4 ?_
        refine lv_istore_n (lv' := [(3, .int x4), (0, .ref (G.2.2 0)), (1, .int p1), (2, .int x2)]) hx hb dX11_allSeeEachOther_20 rfl hl (by decide) rfl (fun ls hl => ?_)
        refine lv_iload_n hx hb dX11_allSeeEachOther_21 rfl (lv_at hl 2 rfl) ?_
        refine lv_iload_n hx hb dX11_allSeeEachOther_22 rfl (lv_at hl 3 rfl) ?_
        refine lv_ishr hx hb dX11_allSeeEachOther_23 ?_
        refine lv_iconst (v := 1) hx hb dX11_allSeeEachOther_24 (by decide) ?_
        refine lv_iand hx hb dX11_allSeeEachOther_25 ?_
        refine lv_iconst (v := 1) hx hb dX11_allSeeEachOther_26 (by decide) ?_
        obtain ⟨J47_5, eJ47_5, hz⟩ := u_let hz
        have WJ47_5 : ∀ (H : Heap) (locs : List Loc) (ls : Array Slot), J47_5 = some z → u_W ZC G σ s H locs → lv_has ls 4 [(0, .ref (G.2.2 0)), (1, .int p1), (2, .int x2)] → W p l e (u_rm 2) s m args below meth c H locs 0 0 (u_Qi below ZC G s args z σ) (F0 m 47 ls []) := by
          intro H locs ls hz hw hl
          rw [eJ47_5] at hz
          obtain ⟨x6, ex6, hz⟩ := u_let hz
          refine lv_iinc (v := x6) (lv' := [(2, .int x6), (0, .ref (G.2.2 0)), (1, .int p1)]) hx hb dX11_allSeeEachOther_47 hl (k := 2) rfl (by rw [ex6]; rfl) (by decide) rfl (fun ls hl => ?_)
          refine lv_goto (tgt := 2) hx hb dX11_allSeeEachOther_50 (by decide) ?_
          exact ih2_3 x6 _ _ _ hz hw (lv_sub hl [1, 2, 0] rfl)
        refine lv_icmp_ne (tgt := 47) hx hb dX11_allSeeEachOther_27 (by decide) (fun hc => ?_) (fun hc => ?_)
        · replace hz := u_iff hz hc
          exact WJ47_5 _ _ _ hz hw (lv_sub hl [1, 2, 3] rfl)
        · replace hz := u_ift hz hc
          refine lv_iload_n hx hb dX11_allSeeEachOther_30 rfl (lv_at hl 0 rfl) ?_
          refine lv_aload_n hx hb dX11_allSeeEachOther_31 rfl (lv_at hl 1 rfl) ?_
          refine u_getp cx hw F_X11_26 o_X11 rfl dX11_allSeeEachOther_32 ?_
          refine lv_iload_n hx hb dX11_allSeeEachOther_35 rfl (lv_at hl 3 rfl) ?_
          obtain ⟨v7, hv7, hz⟩ := u_bind hz
          refine u_callVi (As := [.int x2]) (rest := [.int x4]) cx hw LV_X11_167 (c_X7_seenBy l G N σ 32 oS_32 x2 v7 hv7) oS_32 rfl (by decide) hl.1 rfl (Nat.le_of_ble_eq_true rfl) dX11_allSeeEachOther_36 rfl (fun H locs hw => ?_)
          refine lv_iconst (v := (-1)) hx hb dX11_allSeeEachOther_39 (by decide) ?_
          refine lv_ixor hx hb dX11_allSeeEachOther_40 ?_
          refine lv_iand hx hb dX11_allSeeEachOther_41 ?_
          refine lv_if_eq (tgt := 47) hx hb dX11_allSeeEachOther_42 (by decide) (fun hc => ?_) (fun hc => ?_)
          · replace hz := u_ift hz hc
            exact WJ47_5 _ _ _ hz hw (lv_sub hl [1, 2, 3] rfl)
          · replace hz := u_iff hz hc
            refine lv_iconst (v := 0) hx hb dX11_allSeeEachOther_45 (by decide) ?_
            exact u_zret cx hw (Or.inl rfl) ⟨Option.some.inj hz, rfl⟩ dX11_allSeeEachOther_46
  exact WL2_7 N 0 _ _ _ hz hw (lv_sub hl [1, 2, 0] rfl)
theorem dX11_whoSeeOneOf_0 : decode cX11_whoSeeOneOf 0 = .ok (.iconst 0, 1) := by decide +kernel
theorem dX11_whoSeeOneOf_1 : decode cX11_whoSeeOneOf 1 = .ok (.istore_n 2, 1) := by decide +kernel
theorem dX11_whoSeeOneOf_2 : decode cX11_whoSeeOneOf 2 = .ok (.iconst 0, 1) := by decide +kernel
theorem dX11_whoSeeOneOf_3 : decode cX11_whoSeeOneOf 3 = .ok (.istore_n 3, 1) := by decide +kernel
theorem dX11_whoSeeOneOf_4 : decode cX11_whoSeeOneOf 4 = .ok (.iload_n 3, 1) := by decide +kernel
theorem dX11_whoSeeOneOf_5 : decode cX11_whoSeeOneOf 5 = .ok (.aload_n 0, 1) := by decide +kernel
theorem dX11_whoSeeOneOf_6 : decode cX11_whoSeeOneOf 6 = .ok (.getfield 26, 3) := by decide +kernel
theorem dX11_whoSeeOneOf_9 : decode cX11_whoSeeOneOf 9 = .ok (.getfield 122, 3) := by decide +kernel
theorem dX11_whoSeeOneOf_12 : decode cX11_whoSeeOneOf 12 = .ok (.if_icmp .ge 32, 3) := by decide +kernel
theorem dX11_whoSeeOneOf_15 : decode cX11_whoSeeOneOf 15 = .ok (.iload_n 2, 1) := by decide +kernel
theorem dX11_whoSeeOneOf_16 : decode cX11_whoSeeOneOf 16 = .ok (.aload_n 0, 1) := by decide +kernel
theorem dX11_whoSeeOneOf_17 : decode cX11_whoSeeOneOf 17 = .ok (.getfield 26, 3) := by decide +kernel
theorem dX11_whoSeeOneOf_20 : decode cX11_whoSeeOneOf 20 = .ok (.iload_n 3, 1) := by decide +kernel
theorem dX11_whoSeeOneOf_21 : decode cX11_whoSeeOneOf 21 = .ok (.invokevirtual 167, 3) := by decide +kernel
theorem dX11_whoSeeOneOf_24 : decode cX11_whoSeeOneOf 24 = .ok (.iload_n 1, 1) := by decide +kernel
theorem dX11_whoSeeOneOf_25 : decode cX11_whoSeeOneOf 25 = .ok (.iand, 1) := by decide +kernel
theorem dX11_whoSeeOneOf_26 : decode cX11_whoSeeOneOf 26 = .ok (.ifCond .eq 9, 3) := by decide +kernel
theorem dX11_whoSeeOneOf_29 : decode cX11_whoSeeOneOf 29 = .ok (.iconst 1, 1) := by decide +kernel
theorem dX11_whoSeeOneOf_30 : decode cX11_whoSeeOneOf 30 = .ok (.iload_n 3, 1) := by decide +kernel
theorem dX11_whoSeeOneOf_31 : decode cX11_whoSeeOneOf 31 = .ok (.ishl, 1) := by decide +kernel
theorem dX11_whoSeeOneOf_32 : decode cX11_whoSeeOneOf 32 = .ok (.goto 4, 3) := by decide +kernel
theorem dX11_whoSeeOneOf_35 : decode cX11_whoSeeOneOf 35 = .ok (.iconst 0, 1) := by decide +kernel
theorem dX11_whoSeeOneOf_36 : decode cX11_whoSeeOneOf 36 = .ok (.ior, 1) := by decide +kernel
theorem dX11_whoSeeOneOf_37 : decode cX11_whoSeeOneOf 37 = .ok (.istore_n 2, 1) := by decide +kernel
theorem dX11_whoSeeOneOf_38 : decode cX11_whoSeeOneOf 38 = .ok (.iinc 3 1, 3) := by decide +kernel
theorem dX11_whoSeeOneOf_41 : decode cX11_whoSeeOneOf 41 = .ok (.goto (-37), 3) := by decide +kernel
theorem dX11_whoSeeOneOf_44 : decode cX11_whoSeeOneOf 44 = .ok (.iload_n 2, 1) := by decide +kernel
theorem dX11_whoSeeOneOf_45 : decode cX11_whoSeeOneOf 45 = .ok (.ireturn, 1) := by decide +kernel
def b_X11_whoSeeOneOf_4 (N : Nat) (σ : uS) (p1 : Int32) (J44_2 : Int32 → Option Int32) (rec4_5 : Int32 → Int32 → Option Int32) (x3 : Int32) (x4 : Int32) : Option Int32 :=
  if (σ.1 32 8) ≤ x4 then (J44_2 x3) else ((f_X7_seenBy N σ 32 x4).bind fun v6 =>
  u_jn (fun (t7 : Int32) => (u_jn ((x3 ||| t7) : Int32) fun x9 =>
  u_jn (x4 + 1 : Int32) fun x10 =>
  rec4_5 x9 x10 : Option Int32)) fun J36_8 =>
  if (v6 &&& p1) = 0 then (J36_8 0) else (J36_8 (1 <<< (x4 &&& 31))))
def f_X11_whoSeeOneOf (N : Nat) (σ : uS) (p1 : Int32) : Option Int32 := u_jn (fun (x1 : Int32) => (some x1 : Option Int32)) fun J44_2 =>
  u_lp2 (b_X11_whoSeeOneOf_4 N σ p1 J44_2) N 0 0
set_option maxRecDepth 100000 in
set_option maxHeartbeats 4000000 in
theorem c_X11_whoSeeOneOf (l : Launch) (G : uG) (N : Nat) (σ : uS) (p1 : Int32) (z : Int32) (hz : f_X11_whoSeeOneOf N σ p1 = some z) : u_Mi l ZC G yX11_whoSeeOneOf cX11_whoSeeOneOf 4 .int 2 [.ref (G.2.2 0), .int p1] σ z σ := by
  refine u_Mi_of RX11 (by decide) rfl (Nat.le_of_ble_eq_true rfl) ?_
  intro p e s m args below meth c ls cx hw hl
  have hx := cx.1
  have hb := cx.2.1
  have hl : lv_has ls 4 [(0, .ref (G.2.2 0)), (1, .int p1)] := hl
  unfold f_X11_whoSeeOneOf at hz
  refine lv_iconst (v := 0) hx hb dX11_whoSeeOneOf_0 (by decide) ?_
  refine lv_istore_n (lv' := [(2, .int 0), (0, .ref (G.2.2 0)), (1, .int p1)]) hx hb dX11_whoSeeOneOf_1 rfl hl (by decide) rfl (fun ls hl => ?_)
  refine lv_iconst (v := 0) hx hb dX11_whoSeeOneOf_2 (by decide) ?_
  refine lv_istore_n (lv' := [(3, .int 0), (2, .int 0), (0, .ref (G.2.2 0)), (1, .int p1)]) hx hb dX11_whoSeeOneOf_3 rfl hl (by decide) rfl (fun ls hl => ?_)
  obtain ⟨J44_2, eJ44_2, hz⟩ := u_let hz
  have WJ44_2 : ∀ (x1 : Int32) (H : Heap) (locs : List Loc) (ls : Array Slot), J44_2 x1 = some z → u_W ZC G σ s H locs → lv_has ls 4 [(2, .int x1)] → W p l e (u_rm 2) s m args below meth c H locs 0 0 (u_Qi below ZC G s args z σ) (F0 m 44 ls []) := by
    intro x1 H locs ls hz hw hl
    rw [eJ44_2] at hz
    refine lv_iload_n hx hb dX11_whoSeeOneOf_44 rfl (lv_at hl 0 rfl) ?_
    exact u_iret cx hw ⟨Option.some.inj hz, rfl⟩ dX11_whoSeeOneOf_45
  have WL4_10 : ∀ (k : Nat) (x3 : Int32) (x4 : Int32) (H : Heap) (locs : List Loc) (ls : Array Slot), u_lp2 (b_X11_whoSeeOneOf_4 N σ p1 J44_2) k x3 x4 = some z → u_W ZC G σ s H locs → lv_has ls 4 [(0, .ref (G.2.2 0)), (1, .int p1), (2, .int x3), (3, .int x4)] → W p l e (u_rm 2) s m args below meth c H locs 0 0 (u_Qi below ZC G s args z σ) (F0 m 4 ls []) := by
    intro k
    induction k with
    | zero =>
      intro x3 x4 H locs ls hz
      exact absurd hz (by intro h9; cases h9)
    | succ k ih4_5 =>
      intro x3 x4 H locs ls hz hw hl
      have hz : (b_X11_whoSeeOneOf_4 N σ p1 J44_2) (u_lp2 (b_X11_whoSeeOneOf_4 N σ p1 J44_2) k) x3 x4 = some z := hz
      unfold b_X11_whoSeeOneOf_4 at hz
      refine lv_iload_n hx hb dX11_whoSeeOneOf_4 rfl (lv_at hl 3 rfl) ?_
      refine lv_aload_n hx hb dX11_whoSeeOneOf_5 rfl (lv_at hl 0 rfl) ?_
      refine u_getp cx hw F_X11_26 o_X11 rfl dX11_whoSeeOneOf_6 ?_
      refine u_geti cx hw F_X11_122 oS_32 rfl dX11_whoSeeOneOf_9 ?_
      refine lv_icmp_ge (tgt := 44) hx hb dX11_whoSeeOneOf_12 (by decide) (fun hc => ?_) (fun hc => ?_)
      · replace hz := u_ift hz hc
        exact WJ44_2 x3 _ _ _ hz hw (lv_sub hl [2] rfl)
      · replace hz := u_iff hz hc
        refine lv_iload_n hx hb dX11_whoSeeOneOf_15 rfl (lv_at hl 2 rfl) ?_
        refine lv_aload_n hx hb dX11_whoSeeOneOf_16 rfl (lv_at hl 0 rfl) ?_
        refine u_getp cx hw F_X11_26 o_X11 rfl dX11_whoSeeOneOf_17 ?_
        refine lv_iload_n hx hb dX11_whoSeeOneOf_20 rfl (lv_at hl 3 rfl) ?_
        obtain ⟨v6, hv6, hz⟩ := u_bind hz
        refine u_callVi (As := [.int x4]) (rest := [.int x3]) cx hw LV_X11_167 (c_X7_seenBy l G N σ 32 oS_32 x4 v6 hv6) oS_32 rfl (by decide) hl.1 rfl (Nat.le_of_ble_eq_true rfl) dX11_whoSeeOneOf_21 rfl (fun H locs hw => ?_)
        refine lv_iload_n hx hb dX11_whoSeeOneOf_24 rfl (lv_at hl 1 rfl) ?_
        refine lv_iand hx hb dX11_whoSeeOneOf_25 ?_
        obtain ⟨J36_8, eJ36_8, hz⟩ := u_let hz
        have WJ36_8 : ∀ (t7 : Int32) (H : Heap) (locs : List Loc) (ls : Array Slot), J36_8 t7 = some z → u_W ZC G σ s H locs → lv_has ls 4 [(0, .ref (G.2.2 0)), (1, .int p1), (3, .int x4)] → W p l e (u_rm 2) s m args below meth c H locs 0 0 (u_Qi below ZC G s args z σ) (F0 m 36 ls [.int t7, .int x3]) := by
          intro t7 H locs ls hz hw hl
          rw [eJ36_8] at hz
          refine lv_ior hx hb dX11_whoSeeOneOf_36 ?_
          obtain ⟨x9, ex9, hz⟩ := u_let hz
          refine u_topi ex9 ?_
          refine lv_istore_n (lv' := [(2, .int x9), (0, .ref (G.2.2 0)), (1, .int p1), (3, .int x4)]) hx hb dX11_whoSeeOneOf_37 rfl hl (by decide) rfl (fun ls hl => ?_)
          obtain ⟨x10, ex10, hz⟩ := u_let hz
          refine lv_iinc (v := x10) (lv' := [(3, .int x10), (2, .int x9), (0, .ref (G.2.2 0)), (1, .int p1)]) hx hb dX11_whoSeeOneOf_38 hl (k := 3) rfl (by rw [ex10]; rfl) (by decide) rfl (fun ls hl => ?_)
          refine lv_goto (tgt := 4) hx hb dX11_whoSeeOneOf_41 (by decide) ?_
          exact ih4_5 x9 x10 _ _ _ hz hw (lv_sub hl [2, 3, 1, 0] rfl)
        refine lv_if_eq (tgt := 35) hx hb dX11_whoSeeOneOf_26 (by decide) (fun hc => ?_) (fun hc => ?_)
        · replace hz := u_ift hz hc
          refine lv_iconst (v := 0) hx hb dX11_whoSeeOneOf_35 (by decide) ?_
          exact WJ36_8 0 _ _ _ hz hw (lv_sub hl [0, 1, 3] rfl)
        · replace hz := u_iff hz hc
          refine lv_iconst (v := 1) hx hb dX11_whoSeeOneOf_29 (by decide) ?_
          refine lv_iload_n hx hb dX11_whoSeeOneOf_30 rfl (lv_at hl 3 rfl) ?_
          refine lv_ishl hx hb dX11_whoSeeOneOf_31 ?_
          refine lv_goto (tgt := 36) hx hb dX11_whoSeeOneOf_32 (by decide) ?_
          exact WJ36_8 (1 <<< (x4 &&& 31)) _ _ _ hz hw (lv_sub hl [0, 1, 3] rfl)
  exact WL4_10 N 0 0 _ _ _ hz hw (lv_sub hl [2, 3, 1, 0] rfl)
theorem dX11_dig_0 : decode cX11_dig 0 = .ok (.aload_n 0, 1) := by decide +kernel
theorem dX11_dig_1 : decode cX11_dig 1 = .ok (.getfield 26, 3) := by decide +kernel
theorem dX11_dig_4 : decode cX11_dig 4 = .ok (.iload_n 1, 1) := by decide +kernel
theorem dX11_dig_5 : decode cX11_dig 5 = .ok (.invokevirtual 140, 3) := by decide +kernel
theorem dX11_dig_8 : decode cX11_dig 8 = .ok (.ifCond .eq 24, 3) := by decide +kernel
theorem dX11_dig_11 : decode cX11_dig 11 = .ok (.iload_n 2, 1) := by decide +kernel
theorem dX11_dig_12 : decode cX11_dig 12 = .ok (.ifCond .lt 20, 3) := by decide +kernel
theorem dX11_dig_15 : decode cX11_dig 15 = .ok (.iload_n 2, 1) := by decide +kernel
theorem dX11_dig_16 : decode cX11_dig 16 = .ok (.iconst 1, 1) := by decide +kernel
theorem dX11_dig_17 : decode cX11_dig 17 = .ok (.if_icmp .gt 15, 3) := by decide +kernel
theorem dX11_dig_20 : decode cX11_dig 20 = .ok (.aload_n 0, 1) := by decide +kernel
theorem dX11_dig_21 : decode cX11_dig 21 = .ok (.getfield 46, 3) := by decide +kernel
theorem dX11_dig_24 : decode cX11_dig 24 = .ok (.getfield 354, 3) := by decide +kernel
theorem dX11_dig_27 : decode cX11_dig 27 = .ok (.bipush 12, 2) := by decide +kernel
theorem dX11_dig_29 : decode cX11_dig 29 = .ok (.if_icmp .lt 5, 3) := by decide +kernel
theorem dX11_dig_32 : decode cX11_dig 32 = .ok (.iconst (-1), 1) := by decide +kernel
theorem dX11_dig_33 : decode cX11_dig 33 = .ok (.ireturn, 1) := by decide +kernel
theorem dX11_dig_34 : decode cX11_dig 34 = .ok (.aload_n 0, 1) := by decide +kernel
theorem dX11_dig_35 : decode cX11_dig 35 = .ok (.getfield 46, 3) := by decide +kernel
theorem dX11_dig_38 : decode cX11_dig 38 = .ok (.iload_n 1, 1) := by decide +kernel
theorem dX11_dig_39 : decode cX11_dig 39 = .ok (.iload_n 2, 1) := by decide +kernel
theorem dX11_dig_40 : decode cX11_dig 40 = .ok (.iconst 1, 1) := by decide +kernel
theorem dX11_dig_41 : decode cX11_dig 41 = .ok (.if_icmp .ne 7, 3) := by decide +kernel
theorem dX11_dig_44 : decode cX11_dig 44 = .ok (.iconst 1, 1) := by decide +kernel
theorem dX11_dig_45 : decode cX11_dig 45 = .ok (.goto 4, 3) := by decide +kernel
theorem dX11_dig_48 : decode cX11_dig 48 = .ok (.iconst 0, 1) := by decide +kernel
theorem dX11_dig_49 : decode cX11_dig 49 = .ok (.invokevirtual 355, 3) := by decide +kernel
theorem dX11_dig_52 : decode cX11_dig 52 = .ok (.aload_n 0, 1) := by decide +kernel
theorem dX11_dig_53 : decode cX11_dig 53 = .ok (.getfield 46, 3) := by decide +kernel
theorem dX11_dig_56 : decode cX11_dig 56 = .ok (.getfield 354, 3) := by decide +kernel
theorem dX11_dig_59 : decode cX11_dig 59 = .ok (.ireturn, 1) := by decide +kernel
def f_X11_dig (N : Nat) (σ : uS) (p1 : Int32) (p2 : Int32) : Option (Int32 × uS) := (f_X7_isFurrow N σ 32 p1).bind fun v1 =>
  if v1 = 0 then (some ((-1), σ)) else (if p2 < 0 then (some ((-1), σ)) else (if 1 < p2 then (some ((-1), σ)) else (if (σ.1 8 0) < 12 then (u_jn (fun (t2 : Int32) => ((f_X0_add N σ p1 t2).bind fun s4 =>
  some ((s4.1 8 0), s4) : Option (Int32 × uS))) fun J49_3 =>
  if p2 = 1 then (J49_3 1) else (J49_3 0)) else (some ((-1), σ)))))
set_option maxRecDepth 100000 in
set_option maxHeartbeats 4000000 in
theorem c_X11_dig (l : Launch) (G : uG) (N : Nat) (σ : uS) (p1 : Int32) (p2 : Int32) (z : (Int32 × uS)) (hz : f_X11_dig N σ p1 p2 = some z) : u_Mi l ZC G yX11_dig cX11_dig 3 .int 1 [.ref (G.2.2 0), .int p1, .int p2] σ z.1 z.2 := by
  refine u_Mi_of RX11 (by decide) rfl (Nat.le_of_ble_eq_true rfl) ?_
  intro p e s m args below meth c ls cx hw hl
  have hx := cx.1
  have hb := cx.2.1
  have hl : lv_has ls 3 [(0, .ref (G.2.2 0)), (1, .int p1), (2, .int p2)] := hl
  unfold f_X11_dig at hz
  refine lv_aload_n hx hb dX11_dig_0 rfl (lv_at hl 0 rfl) ?_
  refine u_getp cx hw F_X11_26 o_X11 rfl dX11_dig_1 ?_
  refine lv_iload_n hx hb dX11_dig_4 rfl (lv_at hl 1 rfl) ?_
  obtain ⟨v1, hv1, hz⟩ := u_bind hz
  refine u_callVi (As := [.int p1]) (rest := []) cx hw LV_X11_140 (c_X7_isFurrow l G N σ 32 oS_32 p1 v1 hv1) oS_32 rfl (by decide) hl.1 rfl (Nat.le_of_ble_eq_true rfl) dX11_dig_5 rfl (fun H locs hw => ?_)
  refine lv_if_eq (tgt := 32) hx hb dX11_dig_8 (by decide) (fun hc => ?_) (fun hc => ?_)
  · replace hz := u_ift hz hc
    refine lv_iconst (v := (-1)) hx hb dX11_dig_32 (by decide) ?_
    exact u_iret cx hw (u_pair hz) dX11_dig_33
  · replace hz := u_iff hz hc
    refine lv_iload_n hx hb dX11_dig_11 rfl (lv_at hl 2 rfl) ?_
    refine lv_if_lt (tgt := 32) hx hb dX11_dig_12 (by decide) (fun hc => ?_) (fun hc => ?_)
    · replace hz := u_ift hz hc
      refine lv_iconst (v := (-1)) hx hb dX11_dig_32 (by decide) ?_
      exact u_iret cx hw (u_pair hz) dX11_dig_33
    · replace hz := u_iff hz hc
      refine lv_iload_n hx hb dX11_dig_15 rfl (lv_at hl 2 rfl) ?_
      refine lv_iconst (v := 1) hx hb dX11_dig_16 (by decide) ?_
      refine lv_icmp_gt (tgt := 32) hx hb dX11_dig_17 (by decide) (fun hc => ?_) (fun hc => ?_)
      · replace hz := u_ift hz hc
        refine lv_iconst (v := (-1)) hx hb dX11_dig_32 (by decide) ?_
        exact u_iret cx hw (u_pair hz) dX11_dig_33
      · replace hz := u_iff hz hc
        refine lv_aload_n hx hb dX11_dig_20 rfl (lv_at hl 0 rfl) ?_
        refine u_getp cx hw F_X11_46 o_X11 rfl dX11_dig_21 ?_
        refine u_geti cx hw F_X11_354 o_X0 rfl dX11_dig_24 ?_
        refine lv_bipush (v := 12) hx hb dX11_dig_27 (by decide) ?_
        refine lv_icmp_lt (tgt := 34) hx hb dX11_dig_29 (by decide) (fun hc => ?_) (fun hc => ?_)
        · replace hz := u_ift hz hc
          refine lv_aload_n hx hb dX11_dig_34 rfl (lv_at hl 0 rfl) ?_
          refine u_getp cx hw F_X11_46 o_X11 rfl dX11_dig_35 ?_
          refine lv_iload_n hx hb dX11_dig_38 rfl (lv_at hl 1 rfl) ?_
          refine lv_iload_n hx hb dX11_dig_39 rfl (lv_at hl 2 rfl) ?_
          refine lv_iconst (v := 1) hx hb dX11_dig_40 (by decide) ?_
          obtain ⟨J49_3, eJ49_3, hz⟩ := u_let hz
          have WJ49_3 : ∀ (t2 : Int32) (H : Heap) (locs : List Loc) (ls : Array Slot), J49_3 t2 = some z → u_W ZC G σ s H locs → lv_has ls 3 [(0, .ref (G.2.2 0))] → W p l e (u_rm 1) s m args below meth c H locs 0 0 (u_Qi below ZC G s args z.1 z.2) (F0 m 49 ls [.int t2, .int p1, .ref (G.2.2 8)]) := by
            intro t2 H locs ls hz hw hl
            rw [eJ49_3] at hz
            obtain ⟨s4, hs4, hz⟩ := u_bind hz
            refine u_callVv (As := [.int p1, .int t2]) (rest := []) cx hw LV_X11_355 (c_X0_add l G N σ p1 t2 s4 hs4) o_X0 rfl (by decide) hl.1 rfl (Nat.le_of_ble_eq_true rfl) dX11_dig_49 rfl (fun H locs hw => ?_)
            refine lv_aload_n hx hb dX11_dig_52 rfl (lv_at hl 0 rfl) ?_
            refine u_getp cx hw F_X11_46 o_X11 rfl dX11_dig_53 ?_
            refine u_geti cx hw F_X11_354 o_X0 rfl dX11_dig_56 ?_
            exact u_iret cx hw (u_pair hz) dX11_dig_59
          refine lv_icmp_ne (tgt := 48) hx hb dX11_dig_41 (by decide) (fun hc => ?_) (fun hc => ?_)
          · replace hz := u_iff hz hc
            refine lv_iconst (v := 0) hx hb dX11_dig_48 (by decide) ?_
            exact WJ49_3 0 _ _ _ hz hw (lv_sub hl [0] rfl)
          · replace hz := u_ift hz hc
            refine lv_iconst (v := 1) hx hb dX11_dig_44 (by decide) ?_
            refine lv_goto (tgt := 49) hx hb dX11_dig_45 (by decide) ?_
            exact WJ49_3 1 _ _ _ hz hw (lv_sub hl [0] rfl)
        · replace hz := u_iff hz hc
          refine lv_iconst (v := (-1)) hx hb dX11_dig_32 (by decide) ?_
          exact u_iret cx hw (u_pair hz) dX11_dig_33
theorem dX11_forget_0 : decode cX11_forget 0 = .ok (.aload_n 0, 1) := by decide +kernel
theorem dX11_forget_1 : decode cX11_forget 1 = .ok (.getfield 46, 3) := by decide +kernel
theorem dX11_forget_4 : decode cX11_forget 4 = .ok (.getfield 354, 3) := by decide +kernel
theorem dX11_forget_7 : decode cX11_forget 7 = .ok (.istore_n 1, 1) := by decide +kernel
theorem dX11_forget_8 : decode cX11_forget 8 = .ok (.aload_n 0, 1) := by decide +kernel
theorem dX11_forget_9 : decode cX11_forget 9 = .ok (.getfield 46, 3) := by decide +kernel
theorem dX11_forget_12 : decode cX11_forget 12 = .ok (.invokevirtual 115, 3) := by decide +kernel
theorem dX11_forget_15 : decode cX11_forget 15 = .ok (.iload_n 1, 1) := by decide +kernel
theorem dX11_forget_16 : decode cX11_forget 16 = .ok (.ireturn, 1) := by decide +kernel
def f_X11_forget (N : Nat) (σ : uS) : Option (Int32 × uS) := u_jn ((σ.1 8 0) : Int32) fun x1 =>
  (f_X0_clear N σ).bind fun s2 =>
  some (x1, s2)
set_option maxRecDepth 100000 in
set_option maxHeartbeats 4000000 in
theorem c_X11_forget (l : Launch) (G : uG) (N : Nat) (σ : uS) (z : (Int32 × uS)) (hz : f_X11_forget N σ = some z) : u_Mi l ZC G yX11_forget cX11_forget 2 .int 1 [.ref (G.2.2 0)] σ z.1 z.2 := by
  refine u_Mi_of RX11 (by decide) rfl (Nat.le_of_ble_eq_true rfl) ?_
  intro p e s m args below meth c ls cx hw hl
  have hx := cx.1
  have hb := cx.2.1
  have hl : lv_has ls 2 [(0, .ref (G.2.2 0))] := hl
  unfold f_X11_forget at hz
  refine lv_aload_n hx hb dX11_forget_0 rfl (lv_at hl 0 rfl) ?_
  refine u_getp cx hw F_X11_46 o_X11 rfl dX11_forget_1 ?_
  refine u_geti cx hw F_X11_354 o_X0 rfl dX11_forget_4 ?_
  obtain ⟨x1, ex1, hz⟩ := u_let hz
  refine u_topi ex1 ?_
  refine lv_istore_n (lv' := [(1, .int x1), (0, .ref (G.2.2 0))]) hx hb dX11_forget_7 rfl hl (by decide) rfl (fun ls hl => ?_)
  refine lv_aload_n hx hb dX11_forget_8 rfl (lv_at hl 1 rfl) ?_
  refine u_getp cx hw F_X11_46 o_X11 rfl dX11_forget_9 ?_
  obtain ⟨s2, hs2, hz⟩ := u_bind hz
  refine u_callVv (As := []) (rest := []) cx hw LV_X11_115 (c_X0_clear l G N σ s2 hs2) o_X0 rfl (by decide) hl.1 rfl (Nat.le_of_ble_eq_true rfl) dX11_forget_12 rfl (fun H locs hw => ?_)
  refine lv_iload_n hx hb dX11_forget_15 rfl (lv_at hl 0 rfl) ?_
  exact u_iret cx hw (u_pair hz) dX11_forget_16
theorem dX11_courses_0 : decode cX11_courses 0 = .ok (.aload_n 0, 1) := by decide +kernel
theorem dX11_courses_1 : decode cX11_courses 1 = .ok (.getfield 19, 3) := by decide +kernel
theorem dX11_courses_4 : decode cX11_courses 4 = .ok (.invokevirtual 347, 3) := by decide +kernel
theorem dX11_courses_7 : decode cX11_courses 7 = .ok (.iconst 0, 1) := by decide +kernel
theorem dX11_courses_8 : decode cX11_courses 8 = .ok (.istore_n 1, 1) := by decide +kernel
theorem dX11_courses_9 : decode cX11_courses 9 = .ok (.iconst 1, 1) := by decide +kernel
theorem dX11_courses_10 : decode cX11_courses 10 = .ok (.istore_n 2, 1) := by decide +kernel
theorem dX11_courses_11 : decode cX11_courses 11 = .ok (.iload_n 2, 1) := by decide +kernel
theorem dX11_courses_12 : decode cX11_courses 12 = .ok (.aload_n 0, 1) := by decide +kernel
theorem dX11_courses_13 : decode cX11_courses 13 = .ok (.getfield 26, 3) := by decide +kernel
theorem dX11_courses_16 : decode cX11_courses 16 = .ok (.getfield 119, 3) := by decide +kernel
theorem dX11_courses_19 : decode cX11_courses 19 = .ok (.if_icmp .gt 69, 3) := by decide +kernel
theorem dX11_courses_22 : decode cX11_courses 22 = .ok (.iconst 0, 1) := by decide +kernel
theorem dX11_courses_23 : decode cX11_courses 23 = .ok (.istore_n 3, 1) := by decide +kernel
theorem dX11_courses_24 : decode cX11_courses 24 = .ok (.iload_n 3, 1) := by decide +kernel
theorem dX11_courses_25 : decode cX11_courses 25 = .ok (.iload_n 2, 1) := by decide +kernel
theorem dX11_courses_26 : decode cX11_courses 26 = .ok (.iadd, 1) := by decide +kernel
theorem dX11_courses_27 : decode cX11_courses 27 = .ok (.aload_n 0, 1) := by decide +kernel
theorem dX11_courses_28 : decode cX11_courses 28 = .ok (.getfield 26, 3) := by decide +kernel
theorem dX11_courses_31 : decode cX11_courses 31 = .ok (.getfield 119, 3) := by decide +kernel
theorem dX11_courses_34 : decode cX11_courses 34 = .ok (.if_icmp .gt 48, 3) := by decide +kernel
theorem dX11_courses_37 : decode cX11_courses 37 = .ok (.aload_n 0, 1) := by decide +kernel
theorem dX11_courses_38 : decode cX11_courses 38 = .ok (.getfield 46, 3) := by decide +kernel
theorem dX11_courses_41 : decode cX11_courses 41 = .ok (.iload_n 3, 1) := by decide +kernel
theorem dX11_courses_42 : decode cX11_courses 42 = .ok (.iload_n 3, 1) := by decide +kernel
theorem dX11_courses_43 : decode cX11_courses 43 = .ok (.iload_n 2, 1) := by decide +kernel
theorem dX11_courses_44 : decode cX11_courses 44 = .ok (.iadd, 1) := by decide +kernel
theorem dX11_courses_45 : decode cX11_courses 45 = .ok (.iconst 1, 1) := by decide +kernel
theorem dX11_courses_46 : decode cX11_courses 46 = .ok (.isub, 1) := by decide +kernel
theorem dX11_courses_47 : decode cX11_courses 47 = .ok (.invokevirtual 358, 3) := by decide +kernel
theorem dX11_courses_50 : decode cX11_courses 50 = .ok (.ifCond .eq 26, 3) := by decide +kernel
theorem dX11_courses_53 : decode cX11_courses 53 = .ok (.iinc 1 1, 3) := by decide +kernel
theorem dX11_courses_56 : decode cX11_courses 56 = .ok (.iload_n 1, 1) := by decide +kernel
theorem dX11_courses_57 : decode cX11_courses 57 = .ok (.iconst 1, 1) := by decide +kernel
theorem dX11_courses_58 : decode cX11_courses 58 = .ok (.if_icmp .ne 18, 3) := by decide +kernel
theorem dX11_courses_61 : decode cX11_courses 61 = .ok (.aload_n 0, 1) := by decide +kernel
theorem dX11_courses_62 : decode cX11_courses 62 = .ok (.getfield 19, 3) := by decide +kernel
theorem dX11_courses_65 : decode cX11_courses 65 = .ok (.iload_n 3, 1) := by decide +kernel
theorem dX11_courses_66 : decode cX11_courses 66 = .ok (.i2l, 1) := by decide +kernel
theorem dX11_courses_67 : decode cX11_courses 67 = .ok (.iload_n 3, 1) := by decide +kernel
theorem dX11_courses_68 : decode cX11_courses 68 = .ok (.iload_n 2, 1) := by decide +kernel
theorem dX11_courses_69 : decode cX11_courses 69 = .ok (.iadd, 1) := by decide +kernel
theorem dX11_courses_70 : decode cX11_courses 70 = .ok (.iconst 1, 1) := by decide +kernel
theorem dX11_courses_71 : decode cX11_courses 71 = .ok (.isub, 1) := by decide +kernel
theorem dX11_courses_72 : decode cX11_courses 72 = .ok (.i2l, 1) := by decide +kernel
theorem dX11_courses_73 : decode cX11_courses 73 = .ok (.invokevirtual 220, 3) := by decide +kernel
theorem dX11_courses_76 : decode cX11_courses 76 = .ok (.iinc 3 1, 3) := by decide +kernel
theorem dX11_courses_79 : decode cX11_courses 79 = .ok (.goto (-55), 3) := by decide +kernel
theorem dX11_courses_82 : decode cX11_courses 82 = .ok (.iinc 2 1, 3) := by decide +kernel
theorem dX11_courses_85 : decode cX11_courses 85 = .ok (.goto (-74), 3) := by decide +kernel
theorem dX11_courses_88 : decode cX11_courses 88 = .ok (.iload_n 1, 1) := by decide +kernel
theorem dX11_courses_89 : decode cX11_courses 89 = .ok (.ireturn, 1) := by decide +kernel
def b_X11_courses_24 (N : Nat) (x7 : Int32) (J82_11 : uS → Int32 → Option (Int32 × uS)) (rec24_16 : uS → Int32 → Int32 → Option (Int32 × uS)) (s13 : uS) (x14 : Int32) (x15 : Int32) : Option (Int32 × uS) :=
  if (s13.1 32 5) < (x15 + x7) then (J82_11 s13 x14) else ((f_X0_fit N s13 x15 ((x15 + x7) - 1)).bind fun v17 =>
  u_jn (fun (s18 : uS) (x19 : Int32) => (u_jn (x15 + 1 : Int32) fun x21 =>
  rec24_16 s18 x19 x21 : Option (Int32 × uS))) fun J76_20 =>
  if v17 = 0 then (J76_20 s13 x14) else (u_jn (x14 + 1 : Int32) fun x22 =>
  if x22 = 1 then ((f_X8_two N s13 (Int32.toInt64 x15) (Int32.toInt64 ((x15 + x7) - 1))).bind fun s23 =>
  J76_20 s23 x22) else (J76_20 s13 x22)))
def b_X11_courses_11 (N : Nat) (J88_4 : uS → Int32 → Option (Int32 × uS)) (rec11_8 : uS → Int32 → Int32 → Option (Int32 × uS)) (s5 : uS) (x6 : Int32) (x7 : Int32) : Option (Int32 × uS) :=
  if (s5.1 32 5) < x7 then (J88_4 s5 x6) else (u_jn (fun (s9 : uS) (x10 : Int32) => (u_jn (x7 + 1 : Int32) fun x12 =>
  rec11_8 s9 x10 x12 : Option (Int32 × uS))) fun J82_11 =>
  u_lp3 (b_X11_courses_24 N x7 J82_11) N s5 x6 0)
def f_X11_courses (N : Nat) (σ : uS) : Option (Int32 × uS) := (f_X8_clear N σ).bind fun s1 =>
  u_jn (fun (s2 : uS) (x3 : Int32) => (some (x3, s2) : Option (Int32 × uS))) fun J88_4 =>
  u_lp3 (b_X11_courses_11 N J88_4) N s1 0 1
set_option maxRecDepth 100000 in
set_option maxHeartbeats 4000000 in
theorem c_X11_courses (l : Launch) (G : uG) (N : Nat) (σ : uS) (z : (Int32 × uS)) (hz : f_X11_courses N σ = some z) : u_Mi l ZC G yX11_courses cX11_courses 4 .int 2 [.ref (G.2.2 0)] σ z.1 z.2 := by
  refine u_Mi_of RX11 (by decide) rfl (Nat.le_of_ble_eq_true rfl) ?_
  intro p e s m args below meth c ls cx hw hl
  have hx := cx.1
  have hb := cx.2.1
  have hl : lv_has ls 4 [(0, .ref (G.2.2 0))] := hl
  unfold f_X11_courses at hz
  refine lv_aload_n hx hb dX11_courses_0 rfl (lv_at hl 0 rfl) ?_
  refine u_getp cx hw F_X11_19 o_X11 rfl dX11_courses_1 ?_
  obtain ⟨s1, hs1, hz⟩ := u_bind hz
  refine u_callVv (As := []) (rest := []) cx hw LV_X11_347 (c_X8_clear l G N σ s1 hs1) o_X8 rfl (by decide) hl.1 rfl (Nat.le_of_ble_eq_true rfl) dX11_courses_4 rfl (fun H locs hw => ?_)
  refine lv_iconst (v := 0) hx hb dX11_courses_7 (by decide) ?_
  refine lv_istore_n (lv' := [(1, .int 0), (0, .ref (G.2.2 0))]) hx hb dX11_courses_8 rfl hl (by decide) rfl (fun ls hl => ?_)
  refine lv_iconst (v := 1) hx hb dX11_courses_9 (by decide) ?_
  refine lv_istore_n (lv' := [(2, .int 1), (1, .int 0), (0, .ref (G.2.2 0))]) hx hb dX11_courses_10 rfl hl (by decide) rfl (fun ls hl => ?_)
  obtain ⟨J88_4, eJ88_4, hz⟩ := u_let hz
  have WJ88_4 : ∀ (s2 : uS) (x3 : Int32) (H : Heap) (locs : List Loc) (ls : Array Slot), J88_4 s2 x3 = some z → u_W ZC G s2 s H locs → lv_has ls 4 [(1, .int x3)] → W p l e (u_rm 2) s m args below meth c H locs 0 0 (u_Qi below ZC G s args z.1 z.2) (F0 m 88 ls []) := by
    intro s2 x3 H locs ls hz hw hl
    rw [eJ88_4] at hz
    refine lv_iload_n hx hb dX11_courses_88 rfl (lv_at hl 0 rfl) ?_
    exact u_iret cx hw (u_pair hz) dX11_courses_89
  have WL11_23 : ∀ (k : Nat) (s5 : uS) (x6 : Int32) (x7 : Int32) (H : Heap) (locs : List Loc) (ls : Array Slot), u_lp3 (b_X11_courses_11 N J88_4) k s5 x6 x7 = some z → u_W ZC G s5 s H locs → lv_has ls 4 [(0, .ref (G.2.2 0)), (1, .int x6), (2, .int x7)] → W p l e (u_rm 2) s m args below meth c H locs 0 0 (u_Qi below ZC G s args z.1 z.2) (F0 m 11 ls []) := by
    intro k
    induction k with
    | zero =>
      intro s5 x6 x7 H locs ls hz
      exact absurd hz (by intro h9; cases h9)
    | succ k ih11_8 =>
      intro s5 x6 x7 H locs ls hz hw hl
      have hz : (b_X11_courses_11 N J88_4) (u_lp3 (b_X11_courses_11 N J88_4) k) s5 x6 x7 = some z := hz
      unfold b_X11_courses_11 at hz
      refine lv_iload_n hx hb dX11_courses_11 rfl (lv_at hl 2 rfl) ?_
      refine lv_aload_n hx hb dX11_courses_12 rfl (lv_at hl 0 rfl) ?_
      refine u_getp cx hw F_X11_26 o_X11 rfl dX11_courses_13 ?_
      refine u_geti cx hw F_X11_119 oS_32 rfl dX11_courses_16 ?_
      refine lv_icmp_gt (tgt := 88) hx hb dX11_courses_19 (by decide) (fun hc => ?_) (fun hc => ?_)
      · replace hz := u_ift hz hc
        exact WJ88_4 s5 x6 _ _ _ hz hw (lv_sub hl [1] rfl)
      · replace hz := u_iff hz hc
        refine lv_iconst (v := 0) hx hb dX11_courses_22 (by decide) ?_
        refine lv_istore_n (lv' := [(3, .int 0), (0, .ref (G.2.2 0)), (1, .int x6), (2, .int x7)]) hx hb dX11_courses_23 rfl hl (by decide) rfl (fun ls hl => ?_)
        obtain ⟨J82_11, eJ82_11, hz⟩ := u_let hz
        have WJ82_11 : ∀ (s9 : uS) (x10 : Int32) (H : Heap) (locs : List Loc) (ls : Array Slot), J82_11 s9 x10 = some z → u_W ZC G s9 s H locs → lv_has ls 4 [(0, .ref (G.2.2 0)), (1, .int x10), (2, .int x7)] → W p l e (u_rm 2) s m args below meth c H locs 0 0 (u_Qi below ZC G s args z.1 z.2) (F0 m 82 ls []) := by
          intro s9 x10 H locs ls hz hw hl
          rw [eJ82_11] at hz
          obtain ⟨x12, ex12, hz⟩ := u_let hz
          refine lv_iinc (v := x12) (lv' := [(2, .int x12), (0, .ref (G.2.2 0)), (1, .int x10)]) hx hb dX11_courses_82 hl (k := 2) rfl (by rw [ex12]; rfl) (by decide) rfl (fun ls hl => ?_)
          refine lv_goto (tgt := 11) hx hb dX11_courses_85 (by decide) ?_
          exact ih11_8 s9 x10 x12 _ _ _ hz hw (lv_sub hl [1, 2, 0] rfl)
        have WL24_23 : ∀ (k : Nat) (s13 : uS) (x14 : Int32) (x15 : Int32) (H : Heap) (locs : List Loc) (ls : Array Slot), u_lp3 (b_X11_courses_24 N x7 J82_11) k s13 x14 x15 = some z → u_W ZC G s13 s H locs → lv_has ls 4 [(0, .ref (G.2.2 0)), (1, .int x14), (2, .int x7), (3, .int x15)] → W p l e (u_rm 2) s m args below meth c H locs 0 0 (u_Qi below ZC G s args z.1 z.2) (F0 m 24 ls []) := by
          intro k
          induction k with
          | zero =>
            intro s13 x14 x15 H locs ls hz
            exact absurd hz (by intro h9; cases h9)
          | succ k ih24_16 =>
            intro s13 x14 x15 H locs ls hz hw hl
            have hz : (b_X11_courses_24 N x7 J82_11) (u_lp3 (b_X11_courses_24 N x7 J82_11) k) s13 x14 x15 = some z := hz
            unfold b_X11_courses_24 at hz
            refine lv_iload_n hx hb dX11_courses_24 rfl (lv_at hl 3 rfl) ?_
            refine lv_iload_n hx hb dX11_courses_25 rfl (lv_at hl 2 rfl) ?_
            refine lv_iadd hx hb dX11_courses_26 ?_
            refine lv_aload_n hx hb dX11_courses_27 rfl (lv_at hl 0 rfl) ?_
            refine u_getp cx hw F_X11_26 o_X11 rfl dX11_courses_28 ?_
            refine u_geti cx hw F_X11_119 oS_32 rfl dX11_courses_31 ?_
            refine lv_icmp_gt (tgt := 82) hx hb dX11_courses_34 (by decide) (fun hc => ?_) (fun hc => ?_)
            · replace hz := u_ift hz hc
              exact WJ82_11 s13 x14 _ _ _ hz hw (lv_sub hl [0, 1, 2] rfl)
            · replace hz := u_iff hz hc
              refine lv_aload_n hx hb dX11_courses_37 rfl (lv_at hl 0 rfl) ?_
              refine u_getp cx hw F_X11_46 o_X11 rfl dX11_courses_38 ?_
              refine lv_iload_n hx hb dX11_courses_41 rfl (lv_at hl 3 rfl) ?_
              refine lv_iload_n hx hb dX11_courses_42 rfl (lv_at hl 3 rfl) ?_
              refine lv_iload_n hx hb dX11_courses_43 rfl (lv_at hl 2 rfl) ?_
              refine lv_iadd hx hb dX11_courses_44 ?_
              refine lv_iconst (v := 1) hx hb dX11_courses_45 (by decide) ?_
              refine lv_isub hx hb dX11_courses_46 ?_
              obtain ⟨v17, hv17, hz⟩ := u_bind hz
              refine u_callVi (As := [.int x15, .int ((x15 + x7) - 1)]) (rest := []) cx hw LV_X11_358 (c_X0_fit l G N s13 x15 ((x15 + x7) - 1) v17 hv17) o_X0 rfl (by decide) hl.1 rfl (Nat.le_of_ble_eq_true rfl) dX11_courses_47 rfl (fun H locs hw => ?_)
              obtain ⟨J76_20, eJ76_20, hz⟩ := u_let hz
              have WJ76_20 : ∀ (s18 : uS) (x19 : Int32) (H : Heap) (locs : List Loc) (ls : Array Slot), J76_20 s18 x19 = some z → u_W ZC G s18 s H locs → lv_has ls 4 [(0, .ref (G.2.2 0)), (1, .int x19), (2, .int x7), (3, .int x15)] → W p l e (u_rm 2) s m args below meth c H locs 0 0 (u_Qi below ZC G s args z.1 z.2) (F0 m 76 ls []) := by
                intro s18 x19 H locs ls hz hw hl
                rw [eJ76_20] at hz
                obtain ⟨x21, ex21, hz⟩ := u_let hz
                refine lv_iinc (v := x21) (lv' := [(3, .int x21), (0, .ref (G.2.2 0)), (1, .int x19), (2, .int x7)]) hx hb dX11_courses_76 hl (k := 3) rfl (by rw [ex21]; rfl) (by decide) rfl (fun ls hl => ?_)
                refine lv_goto (tgt := 24) hx hb dX11_courses_79 (by decide) ?_
                exact ih24_16 s18 x19 x21 _ _ _ hz hw (lv_sub hl [1, 2, 3, 0] rfl)
              refine lv_if_eq (tgt := 76) hx hb dX11_courses_50 (by decide) (fun hc => ?_) (fun hc => ?_)
              · replace hz := u_ift hz hc
                exact WJ76_20 s13 x14 _ _ _ hz hw (lv_sub hl [0, 1, 2, 3] rfl)
              · replace hz := u_iff hz hc
                obtain ⟨x22, ex22, hz⟩ := u_let hz
                refine lv_iinc (v := x22) (lv' := [(1, .int x22), (0, .ref (G.2.2 0)), (2, .int x7), (3, .int x15)]) hx hb dX11_courses_53 hl (k := 1) rfl (by rw [ex22]; rfl) (by decide) rfl (fun ls hl => ?_)
                refine lv_iload_n hx hb dX11_courses_56 rfl (lv_at hl 0 rfl) ?_
                refine lv_iconst (v := 1) hx hb dX11_courses_57 (by decide) ?_
                refine lv_icmp_ne (tgt := 76) hx hb dX11_courses_58 (by decide) (fun hc => ?_) (fun hc => ?_)
                · replace hz := u_iff hz hc
                  exact WJ76_20 s13 x22 _ _ _ hz hw (lv_sub hl [1, 0, 2, 3] rfl)
                · replace hz := u_ift hz hc
                  refine lv_aload_n hx hb dX11_courses_61 rfl (lv_at hl 1 rfl) ?_
                  refine u_getp cx hw F_X11_19 o_X11 rfl dX11_courses_62 ?_
                  refine lv_iload_n hx hb dX11_courses_65 rfl (lv_at hl 3 rfl) ?_
                  refine lv_i2l (v := (Int32.toInt64 x15)) hx hb dX11_courses_66 rfl ?_
                  refine lv_iload_n hx hb dX11_courses_67 rfl (lv_at hl 3 rfl) ?_
                  refine lv_iload_n hx hb dX11_courses_68 rfl (lv_at hl 2 rfl) ?_
                  refine lv_iadd hx hb dX11_courses_69 ?_
                  refine lv_iconst (v := 1) hx hb dX11_courses_70 (by decide) ?_
                  refine lv_isub hx hb dX11_courses_71 ?_
                  refine lv_i2l (v := (Int32.toInt64 ((x15 + x7) - 1))) hx hb dX11_courses_72 rfl ?_
                  obtain ⟨s23, hs23, hz⟩ := u_bind hz
                  refine u_callVv (As := [.long (Int32.toInt64 x15), .long (Int32.toInt64 ((x15 + x7) - 1))]) (rest := []) cx hw LV_X11_220 (c_X8_two l G N s13 (Int32.toInt64 x15) (Int32.toInt64 ((x15 + x7) - 1)) s23 hs23) o_X8 rfl (by decide) hl.1 rfl (Nat.le_of_ble_eq_true rfl) dX11_courses_73 rfl (fun H locs hw => ?_)
                  exact WJ76_20 s23 x22 _ _ _ hz hw (lv_sub hl [1, 0, 2, 3] rfl)
        exact WL24_23 N s5 x6 0 _ _ _ hz hw (lv_sub hl [1, 2, 3, 0] rfl)
  exact WL11_23 N s1 0 1 _ _ _ hz hw (lv_sub hl [2, 1, 0] rfl)
theorem dX11_sure_0 : decode cX11_sure 0 = .ok (.iconst 0, 1) := by decide +kernel
theorem dX11_sure_1 : decode cX11_sure 1 = .ok (.istore_n 1, 1) := by decide +kernel
theorem dX11_sure_2 : decode cX11_sure 2 = .ok (.iconst 0, 1) := by decide +kernel
theorem dX11_sure_3 : decode cX11_sure 3 = .ok (.istore_n 2, 1) := by decide +kernel
theorem dX11_sure_4 : decode cX11_sure 4 = .ok (.aload_n 0, 1) := by decide +kernel
theorem dX11_sure_5 : decode cX11_sure 5 = .ok (.getfield 46, 3) := by decide +kernel
theorem dX11_sure_8 : decode cX11_sure 8 = .ok (.aload_n 0, 1) := by decide +kernel
theorem dX11_sure_9 : decode cX11_sure 9 = .ok (.getfield 26, 3) := by decide +kernel
theorem dX11_sure_12 : decode cX11_sure 12 = .ok (.getfield 119, 3) := by decide +kernel
theorem dX11_sure_15 : decode cX11_sure 15 = .ok (.iconst (-1), 1) := by decide +kernel
theorem dX11_sure_16 : decode cX11_sure 16 = .ok (.invokevirtual 361, 3) := by decide +kernel
theorem dX11_sure_19 : decode cX11_sure 19 = .ok (.istore_n 3, 1) := by decide +kernel
theorem dX11_sure_20 : decode cX11_sure 20 = .ok (.iconst 0, 1) := by decide +kernel
theorem dX11_sure_21 : decode cX11_sure 21 = .ok (.istore 4, 2) := by decide +kernel
theorem dX11_sure_23 : decode cX11_sure 23 = .ok (.iload 4, 2) := by decide +kernel
theorem dX11_sure_25 : decode cX11_sure 25 = .ok (.aload_n 0, 1) := by decide +kernel
theorem dX11_sure_26 : decode cX11_sure 26 = .ok (.getfield 26, 3) := by decide +kernel
theorem dX11_sure_29 : decode cX11_sure 29 = .ok (.getfield 119, 3) := by decide +kernel
theorem dX11_sure_32 : decode cX11_sure 32 = .ok (.if_icmp .ge 64, 3) := by decide +kernel
theorem dX11_sure_35 : decode cX11_sure 35 = .ok (.iload_n 3, 1) := by decide +kernel
theorem dX11_sure_36 : decode cX11_sure 36 = .ok (.ifCond .le 60, 3) := by decide +kernel
theorem dX11_sure_39 : decode cX11_sure 39 = .ok (.aload_n 0, 1) := by decide +kernel
theorem dX11_sure_40 : decode cX11_sure 40 = .ok (.getfield 46, 3) := by decide +kernel
theorem dX11_sure_43 : decode cX11_sure 43 = .ok (.aload_n 0, 1) := by decide +kernel
theorem dX11_sure_44 : decode cX11_sure 44 = .ok (.getfield 26, 3) := by decide +kernel
theorem dX11_sure_47 : decode cX11_sure 47 = .ok (.getfield 119, 3) := by decide +kernel
theorem dX11_sure_50 : decode cX11_sure 50 = .ok (.iload 4, 2) := by decide +kernel
theorem dX11_sure_52 : decode cX11_sure 52 = .ok (.invokevirtual 361, 3) := by decide +kernel
theorem dX11_sure_55 : decode cX11_sure 55 = .ok (.istore 5, 2) := by decide +kernel
theorem dX11_sure_57 : decode cX11_sure 57 = .ok (.iload_n 1, 1) := by decide +kernel
theorem dX11_sure_58 : decode cX11_sure 58 = .ok (.iload 5, 2) := by decide +kernel
theorem dX11_sure_60 : decode cX11_sure 60 = .ok (.iload_n 3, 1) := by decide +kernel
theorem dX11_sure_61 : decode cX11_sure 61 = .ok (.if_icmp .ne 10, 3) := by decide +kernel
theorem dX11_sure_64 : decode cX11_sure 64 = .ok (.iconst 1, 1) := by decide +kernel
theorem dX11_sure_65 : decode cX11_sure 65 = .ok (.iload 4, 2) := by decide +kernel
theorem dX11_sure_67 : decode cX11_sure 67 = .ok (.ishl, 1) := by decide +kernel
theorem dX11_sure_68 : decode cX11_sure 68 = .ok (.goto 4, 3) := by decide +kernel
theorem dX11_sure_71 : decode cX11_sure 71 = .ok (.iconst 0, 1) := by decide +kernel
theorem dX11_sure_72 : decode cX11_sure 72 = .ok (.ior, 1) := by decide +kernel
theorem dX11_sure_73 : decode cX11_sure 73 = .ok (.istore_n 1, 1) := by decide +kernel
theorem dX11_sure_74 : decode cX11_sure 74 = .ok (.iload_n 2, 1) := by decide +kernel
theorem dX11_sure_75 : decode cX11_sure 75 = .ok (.iload 5, 2) := by decide +kernel
theorem dX11_sure_77 : decode cX11_sure 77 = .ok (.ifCond .ne 10, 3) := by decide +kernel
theorem dX11_sure_80 : decode cX11_sure 80 = .ok (.iconst 1, 1) := by decide +kernel
theorem dX11_sure_81 : decode cX11_sure 81 = .ok (.iload 4, 2) := by decide +kernel
theorem dX11_sure_83 : decode cX11_sure 83 = .ok (.ishl, 1) := by decide +kernel
theorem dX11_sure_84 : decode cX11_sure 84 = .ok (.goto 4, 3) := by decide +kernel
theorem dX11_sure_87 : decode cX11_sure 87 = .ok (.iconst 0, 1) := by decide +kernel
theorem dX11_sure_88 : decode cX11_sure 88 = .ok (.ior, 1) := by decide +kernel
theorem dX11_sure_89 : decode cX11_sure 89 = .ok (.istore_n 2, 1) := by decide +kernel
theorem dX11_sure_90 : decode cX11_sure 90 = .ok (.iinc 4 1, 3) := by decide +kernel
theorem dX11_sure_93 : decode cX11_sure 93 = .ok (.goto (-70), 3) := by decide +kernel
theorem dX11_sure_96 : decode cX11_sure 96 = .ok (.aload_n 0, 1) := by decide +kernel
theorem dX11_sure_97 : decode cX11_sure 97 = .ok (.getfield 19, 3) := by decide +kernel
theorem dX11_sure_100 : decode cX11_sure 100 = .ok (.iload_n 2, 1) := by decide +kernel
theorem dX11_sure_101 : decode cX11_sure 101 = .ok (.i2l, 1) := by decide +kernel
theorem dX11_sure_102 : decode cX11_sure 102 = .ok (.invokevirtual 287, 3) := by decide +kernel
theorem dX11_sure_105 : decode cX11_sure 105 = .ok (.iload_n 1, 1) := by decide +kernel
theorem dX11_sure_106 : decode cX11_sure 106 = .ok (.ireturn, 1) := by decide +kernel
def b_X11_sure_23 (N : Nat) (σ : uS) (v1 : Int32) (J96_4 : Int32 → Int32 → Option (Int32 × uS)) (rec23_9 : Int32 → Int32 → Int32 → Option (Int32 × uS)) (x6 : Int32) (x7 : Int32) (x8 : Int32) : Option (Int32 × uS) :=
  if (σ.1 32 5) ≤ x8 then (J96_4 x6 x7) else (if v1 ≤ 0 then (J96_4 x6 x7) else ((f_X0_coursesWith N σ (σ.1 32 5) x8).bind fun v10 =>
  u_jn (fun (t11 : Int32) => (u_jn ((x6 ||| t11) : Int32) fun x13 =>
  u_jn (fun (t14 : Int32) => (u_jn ((x7 ||| t14) : Int32) fun x16 =>
  u_jn (x8 + 1 : Int32) fun x17 =>
  rec23_9 x13 x16 x17 : Option (Int32 × uS))) fun J88_15 =>
  if v10 = 0 then (J88_15 (1 <<< (x8 &&& 31))) else (J88_15 0) : Option (Int32 × uS))) fun J72_12 =>
  if v10 = v1 then (J72_12 (1 <<< (x8 &&& 31))) else (J72_12 0)))
def f_X11_sure (N : Nat) (σ : uS) : Option (Int32 × uS) := (f_X0_coursesWith N σ (σ.1 32 5) (-1)).bind fun v1 =>
  u_jn (fun (x2 : Int32) (x3 : Int32) => ((f_X8_one N σ (Int32.toInt64 x3)).bind fun s5 =>
  some (x2, s5) : Option (Int32 × uS))) fun J96_4 =>
  u_lp3 (b_X11_sure_23 N σ v1 J96_4) N 0 0 0
set_option maxRecDepth 100000 in
set_option maxHeartbeats 4000000 in
theorem c_X11_sure (l : Launch) (G : uG) (N : Nat) (σ : uS) (z : (Int32 × uS)) (hz : f_X11_sure N σ = some z) : u_Mi l ZC G yX11_sure cX11_sure 6 .int 2 [.ref (G.2.2 0)] σ z.1 z.2 := by
  refine u_Mi_of RX11 (by decide) rfl (Nat.le_of_ble_eq_true rfl) ?_
  intro p e s m args below meth c ls cx hw hl
  have hx := cx.1
  have hb := cx.2.1
  have hl : lv_has ls 6 [(0, .ref (G.2.2 0))] := hl
  unfold f_X11_sure at hz
  refine lv_iconst (v := 0) hx hb dX11_sure_0 (by decide) ?_
  refine lv_istore_n (lv' := [(1, .int 0), (0, .ref (G.2.2 0))]) hx hb dX11_sure_1 rfl hl (by decide) rfl (fun ls hl => ?_)
  refine lv_iconst (v := 0) hx hb dX11_sure_2 (by decide) ?_
  refine lv_istore_n (lv' := [(2, .int 0), (1, .int 0), (0, .ref (G.2.2 0))]) hx hb dX11_sure_3 rfl hl (by decide) rfl (fun ls hl => ?_)
  refine lv_aload_n hx hb dX11_sure_4 rfl (lv_at hl 2 rfl) ?_
  refine u_getp cx hw F_X11_46 o_X11 rfl dX11_sure_5 ?_
  refine lv_aload_n hx hb dX11_sure_8 rfl (lv_at hl 2 rfl) ?_
  refine u_getp cx hw F_X11_26 o_X11 rfl dX11_sure_9 ?_
  refine u_geti cx hw F_X11_119 oS_32 rfl dX11_sure_12 ?_
  refine lv_iconst (v := (-1)) hx hb dX11_sure_15 (by decide) ?_
  obtain ⟨v1, hv1, hz⟩ := u_bind hz
  refine u_callVi (As := [.int (σ.1 32 5), .int (-1)]) (rest := []) cx hw LV_X11_361 (c_X0_coursesWith l G N σ (σ.1 32 5) (-1) v1 hv1) o_X0 rfl (by decide) hl.1 rfl (Nat.le_of_ble_eq_true rfl) dX11_sure_16 rfl (fun H locs hw => ?_)
  refine lv_istore_n (lv' := [(3, .int v1), (2, .int 0), (1, .int 0), (0, .ref (G.2.2 0))]) hx hb dX11_sure_19 rfl hl (by decide) rfl (fun ls hl => ?_)
  refine lv_iconst (v := 0) hx hb dX11_sure_20 (by decide) ?_
  refine lv_istore (lv' := [(4, .int 0), (3, .int v1), (2, .int 0), (1, .int 0), (0, .ref (G.2.2 0))]) hx hb dX11_sure_21 hl (by decide) rfl (fun ls hl => ?_)
  obtain ⟨J96_4, eJ96_4, hz⟩ := u_let hz
  have WJ96_4 : ∀ (x2 : Int32) (x3 : Int32) (H : Heap) (locs : List Loc) (ls : Array Slot), J96_4 x2 x3 = some z → u_W ZC G σ s H locs → lv_has ls 6 [(0, .ref (G.2.2 0)), (1, .int x2), (2, .int x3)] → W p l e (u_rm 2) s m args below meth c H locs 0 0 (u_Qi below ZC G s args z.1 z.2) (F0 m 96 ls []) := by
    intro x2 x3 H locs ls hz hw hl
    rw [eJ96_4] at hz
    refine lv_aload_n hx hb dX11_sure_96 rfl (lv_at hl 0 rfl) ?_
    refine u_getp cx hw F_X11_19 o_X11 rfl dX11_sure_97 ?_
    refine lv_iload_n hx hb dX11_sure_100 rfl (lv_at hl 2 rfl) ?_
    refine lv_i2l (v := (Int32.toInt64 x3)) hx hb dX11_sure_101 rfl ?_
    obtain ⟨s5, hs5, hz⟩ := u_bind hz
    refine u_callVv (As := [.long (Int32.toInt64 x3)]) (rest := []) cx hw LV_X11_287 (c_X8_one l G N σ (Int32.toInt64 x3) s5 hs5) o_X8 rfl (by decide) hl.1 rfl (Nat.le_of_ble_eq_true rfl) dX11_sure_102 rfl (fun H locs hw => ?_)
    refine lv_iload_n hx hb dX11_sure_105 rfl (lv_at hl 1 rfl) ?_
    exact u_iret cx hw (u_pair hz) dX11_sure_106
  have WL23_17 : ∀ (k : Nat) (x6 : Int32) (x7 : Int32) (x8 : Int32) (H : Heap) (locs : List Loc) (ls : Array Slot), u_lp3 (b_X11_sure_23 N σ v1 J96_4) k x6 x7 x8 = some z → u_W ZC G σ s H locs → lv_has ls 6 [(0, .ref (G.2.2 0)), (1, .int x6), (2, .int x7), (3, .int v1), (4, .int x8)] → W p l e (u_rm 2) s m args below meth c H locs 0 0 (u_Qi below ZC G s args z.1 z.2) (F0 m 23 ls []) := by
    intro k
    induction k with
    | zero =>
      intro x6 x7 x8 H locs ls hz
      exact absurd hz (by intro h9; cases h9)
    | succ k ih23_9 =>
      intro x6 x7 x8 H locs ls hz hw hl
      have hz : (b_X11_sure_23 N σ v1 J96_4) (u_lp3 (b_X11_sure_23 N σ v1 J96_4) k) x6 x7 x8 = some z := hz
      unfold b_X11_sure_23 at hz
      refine lv_iload hx hb dX11_sure_23 (lv_at hl 4 rfl) ?_
      refine lv_aload_n hx hb dX11_sure_25 rfl (lv_at hl 0 rfl) ?_
      refine u_getp cx hw F_X11_26 o_X11 rfl dX11_sure_26 ?_
      refine u_geti cx hw F_X11_119 oS_32 rfl dX11_sure_29 ?_
      refine lv_icmp_ge (tgt := 96) hx hb dX11_sure_32 (by decide) (fun hc => ?_) (fun hc => ?_)
      · replace hz := u_ift hz hc
        exact WJ96_4 x6 x7 _ _ _ hz hw (lv_sub hl [0, 1, 2] rfl)
      · replace hz := u_iff hz hc
        refine lv_iload_n hx hb dX11_sure_35 rfl (lv_at hl 3 rfl) ?_
        refine lv_if_le (tgt := 96) hx hb dX11_sure_36 (by decide) (fun hc => ?_) (fun hc => ?_)
        · replace hz := u_ift hz hc
          exact WJ96_4 x6 x7 _ _ _ hz hw (lv_sub hl [0, 1, 2] rfl)
        · replace hz := u_iff hz hc
          refine lv_aload_n hx hb dX11_sure_39 rfl (lv_at hl 0 rfl) ?_
          refine u_getp cx hw F_X11_46 o_X11 rfl dX11_sure_40 ?_
          refine lv_aload_n hx hb dX11_sure_43 rfl (lv_at hl 0 rfl) ?_
          refine u_getp cx hw F_X11_26 o_X11 rfl dX11_sure_44 ?_
          refine u_geti cx hw F_X11_119 oS_32 rfl dX11_sure_47 ?_
          refine lv_iload hx hb dX11_sure_50 (lv_at hl 4 rfl) ?_
          obtain ⟨v10, hv10, hz⟩ := u_bind hz
          refine u_callVi (As := [.int (σ.1 32 5), .int x8]) (rest := []) cx hw LV_X11_361 (c_X0_coursesWith l G N σ (σ.1 32 5) x8 v10 hv10) o_X0 rfl (by decide) hl.1 rfl (Nat.le_of_ble_eq_true rfl) dX11_sure_52 rfl (fun H locs hw => ?_)
          refine lv_istore (lv' := [(5, .int v10), (0, .ref (G.2.2 0)), (1, .int x6), (2, .int x7), (3, .int v1), (4, .int x8)]) hx hb dX11_sure_55 hl (by decide) rfl (fun ls hl => ?_)
          refine lv_iload_n hx hb dX11_sure_57 rfl (lv_at hl 2 rfl) ?_
          refine lv_iload hx hb dX11_sure_58 (lv_at hl 0 rfl) ?_
          refine lv_iload_n hx hb dX11_sure_60 rfl (lv_at hl 4 rfl) ?_
          obtain ⟨J72_12, eJ72_12, hz⟩ := u_let hz
          have WJ72_12 : ∀ (t11 : Int32) (H : Heap) (locs : List Loc) (ls : Array Slot), J72_12 t11 = some z → u_W ZC G σ s H locs → lv_has ls 6 [(0, .ref (G.2.2 0)), (2, .int x7), (3, .int v1), (4, .int x8), (5, .int v10)] → W p l e (u_rm 2) s m args below meth c H locs 0 0 (u_Qi below ZC G s args z.1 z.2) (F0 m 72 ls [.int t11, .int x6]) := by
            intro t11 H locs ls hz hw hl
            rw [eJ72_12] at hz
            refine lv_ior hx hb dX11_sure_72 ?_
            obtain ⟨x13, ex13, hz⟩ := u_let hz
            refine u_topi ex13 ?_
            refine lv_istore_n (lv' := [(1, .int x13), (0, .ref (G.2.2 0)), (2, .int x7), (3, .int v1), (4, .int x8), (5, .int v10)]) hx hb dX11_sure_73 rfl hl (by decide) rfl (fun ls hl => ?_)
            refine lv_iload_n hx hb dX11_sure_74 rfl (lv_at hl 2 rfl) ?_
            refine lv_iload hx hb dX11_sure_75 (lv_at hl 5 rfl) ?_
            obtain ⟨J88_15, eJ88_15, hz⟩ := u_let hz
            have WJ88_15 : ∀ (t14 : Int32) (H : Heap) (locs : List Loc) (ls : Array Slot), J88_15 t14 = some z → u_W ZC G σ s H locs → lv_has ls 6 [(0, .ref (G.2.2 0)), (1, .int x13), (3, .int v1), (4, .int x8)] → W p l e (u_rm 2) s m args below meth c H locs 0 0 (u_Qi below ZC G s args z.1 z.2) (F0 m 88 ls [.int t14, .int x7]) := by
              intro t14 H locs ls hz hw hl
              rw [eJ88_15] at hz
              refine lv_ior hx hb dX11_sure_88 ?_
              obtain ⟨x16, ex16, hz⟩ := u_let hz
              refine u_topi ex16 ?_
              refine lv_istore_n (lv' := [(2, .int x16), (0, .ref (G.2.2 0)), (1, .int x13), (3, .int v1), (4, .int x8)]) hx hb dX11_sure_89 rfl hl (by decide) rfl (fun ls hl => ?_)
              obtain ⟨x17, ex17, hz⟩ := u_let hz
              refine lv_iinc (v := x17) (lv' := [(4, .int x17), (2, .int x16), (0, .ref (G.2.2 0)), (1, .int x13), (3, .int v1)]) hx hb dX11_sure_90 hl (k := 4) rfl (by rw [ex17]; rfl) (by decide) rfl (fun ls hl => ?_)
              refine lv_goto (tgt := 23) hx hb dX11_sure_93 (by decide) ?_
              exact ih23_9 x13 x16 x17 _ _ _ hz hw (lv_sub hl [2, 3, 1, 4, 0] rfl)
            refine lv_if_ne (tgt := 87) hx hb dX11_sure_77 (by decide) (fun hc => ?_) (fun hc => ?_)
            · replace hz := u_iff hz hc
              refine lv_iconst (v := 0) hx hb dX11_sure_87 (by decide) ?_
              exact WJ88_15 0 _ _ _ hz hw (lv_sub hl [1, 0, 3, 4] rfl)
            · replace hz := u_ift hz hc
              refine lv_iconst (v := 1) hx hb dX11_sure_80 (by decide) ?_
              refine lv_iload hx hb dX11_sure_81 (lv_at hl 4 rfl) ?_
              refine lv_ishl hx hb dX11_sure_83 ?_
              refine lv_goto (tgt := 88) hx hb dX11_sure_84 (by decide) ?_
              exact WJ88_15 (1 <<< (x8 &&& 31)) _ _ _ hz hw (lv_sub hl [1, 0, 3, 4] rfl)
          refine lv_icmp_ne (tgt := 71) hx hb dX11_sure_61 (by decide) (fun hc => ?_) (fun hc => ?_)
          · replace hz := u_iff hz hc
            refine lv_iconst (v := 0) hx hb dX11_sure_71 (by decide) ?_
            exact WJ72_12 0 _ _ _ hz hw (lv_sub hl [1, 3, 4, 5, 0] rfl)
          · replace hz := u_ift hz hc
            refine lv_iconst (v := 1) hx hb dX11_sure_64 (by decide) ?_
            refine lv_iload hx hb dX11_sure_65 (lv_at hl 5 rfl) ?_
            refine lv_ishl hx hb dX11_sure_67 ?_
            refine lv_goto (tgt := 72) hx hb dX11_sure_68 (by decide) ?_
            exact WJ72_12 (1 <<< (x8 &&& 31)) _ _ _ hz hw (lv_sub hl [1, 3, 4, 5, 0] rfl)
  exact WL23_17 N 0 0 0 _ _ _ hz hw (lv_sub hl [4, 3, 2, 1, 0] rfl)
theorem dX11_next_0 : decode cX11_next 0 = .ok (.aload_n 0, 1) := by decide +kernel
theorem dX11_next_1 : decode cX11_next 1 = .ok (.getfield 46, 3) := by decide +kernel
theorem dX11_next_4 : decode cX11_next 4 = .ok (.aload_n 0, 1) := by decide +kernel
theorem dX11_next_5 : decode cX11_next 5 = .ok (.getfield 26, 3) := by decide +kernel
theorem dX11_next_8 : decode cX11_next 8 = .ok (.getfield 119, 3) := by decide +kernel
theorem dX11_next_11 : decode cX11_next 11 = .ok (.iconst (-1), 1) := by decide +kernel
theorem dX11_next_12 : decode cX11_next 12 = .ok (.invokevirtual 361, 3) := by decide +kernel
theorem dX11_next_15 : decode cX11_next 15 = .ok (.istore_n 1, 1) := by decide +kernel
theorem dX11_next_16 : decode cX11_next 16 = .ok (.iload_n 1, 1) := by decide +kernel
theorem dX11_next_17 : decode cX11_next 17 = .ok (.ifCond .ne 6, 3) := by decide +kernel
theorem dX11_next_20 : decode cX11_next 20 = .ok (.bipush (-2), 2) := by decide +kernel
theorem dX11_next_22 : decode cX11_next 22 = .ok (.ireturn, 1) := by decide +kernel
theorem dX11_next_23 : decode cX11_next 23 = .ok (.iconst 0, 1) := by decide +kernel
theorem dX11_next_24 : decode cX11_next 24 = .ok (.istore_n 2, 1) := by decide +kernel
theorem dX11_next_25 : decode cX11_next 25 = .ok (.iload_n 1, 1) := by decide +kernel
theorem dX11_next_26 : decode cX11_next 26 = .ok (.iconst 1, 1) := by decide +kernel
theorem dX11_next_27 : decode cX11_next 27 = .ok (.iadd, 1) := by decide +kernel
theorem dX11_next_28 : decode cX11_next 28 = .ok (.istore_n 3, 1) := by decide +kernel
theorem dX11_next_29 : decode cX11_next 29 = .ok (.iconst 0, 1) := by decide +kernel
theorem dX11_next_30 : decode cX11_next 30 = .ok (.istore 4, 2) := by decide +kernel
theorem dX11_next_32 : decode cX11_next 32 = .ok (.iload 4, 2) := by decide +kernel
theorem dX11_next_34 : decode cX11_next 34 = .ok (.aload_n 0, 1) := by decide +kernel
theorem dX11_next_35 : decode cX11_next 35 = .ok (.getfield 26, 3) := by decide +kernel
theorem dX11_next_38 : decode cX11_next 38 = .ok (.getfield 119, 3) := by decide +kernel
theorem dX11_next_41 : decode cX11_next 41 = .ok (.if_icmp .ge 50, 3) := by decide +kernel
theorem dX11_next_44 : decode cX11_next 44 = .ok (.aload_n 0, 1) := by decide +kernel
theorem dX11_next_45 : decode cX11_next 45 = .ok (.getfield 46, 3) := by decide +kernel
theorem dX11_next_48 : decode cX11_next 48 = .ok (.aload_n 0, 1) := by decide +kernel
theorem dX11_next_49 : decode cX11_next 49 = .ok (.getfield 26, 3) := by decide +kernel
theorem dX11_next_52 : decode cX11_next 52 = .ok (.getfield 119, 3) := by decide +kernel
theorem dX11_next_55 : decode cX11_next 55 = .ok (.iload 4, 2) := by decide +kernel
theorem dX11_next_57 : decode cX11_next 57 = .ok (.invokevirtual 361, 3) := by decide +kernel
theorem dX11_next_60 : decode cX11_next 60 = .ok (.istore 5, 2) := by decide +kernel
theorem dX11_next_62 : decode cX11_next 62 = .ok (.iload 5, 2) := by decide +kernel
theorem dX11_next_64 : decode cX11_next 64 = .ok (.iload_n 1, 1) := by decide +kernel
theorem dX11_next_65 : decode cX11_next 65 = .ok (.iload 5, 2) := by decide +kernel
theorem dX11_next_67 : decode cX11_next 67 = .ok (.isub, 1) := by decide +kernel
theorem dX11_next_68 : decode cX11_next 68 = .ok (.invokestatic 201, 3) := by decide +kernel
theorem dX11_next_71 : decode cX11_next 71 = .ok (.istore 6, 2) := by decide +kernel
theorem dX11_next_73 : decode cX11_next 73 = .ok (.iload 6, 2) := by decide +kernel
theorem dX11_next_75 : decode cX11_next 75 = .ok (.iload_n 3, 1) := by decide +kernel
theorem dX11_next_76 : decode cX11_next 76 = .ok (.if_icmp .ge 9, 3) := by decide +kernel
theorem dX11_next_79 : decode cX11_next 79 = .ok (.iload 4, 2) := by decide +kernel
theorem dX11_next_81 : decode cX11_next 81 = .ok (.istore_n 2, 1) := by decide +kernel
theorem dX11_next_82 : decode cX11_next 82 = .ok (.iload 6, 2) := by decide +kernel
theorem dX11_next_84 : decode cX11_next 84 = .ok (.istore_n 3, 1) := by decide +kernel
theorem dX11_next_85 : decode cX11_next 85 = .ok (.iinc 4 1, 3) := by decide +kernel
theorem dX11_next_88 : decode cX11_next 88 = .ok (.goto (-56), 3) := by decide +kernel
theorem dX11_next_91 : decode cX11_next 91 = .ok (.aload_n 0, 1) := by decide +kernel
theorem dX11_next_92 : decode cX11_next 92 = .ok (.getfield 19, 3) := by decide +kernel
theorem dX11_next_95 : decode cX11_next 95 = .ok (.iload_n 3, 1) := by decide +kernel
theorem dX11_next_96 : decode cX11_next 96 = .ok (.i2l, 1) := by decide +kernel
theorem dX11_next_97 : decode cX11_next 97 = .ok (.invokevirtual 287, 3) := by decide +kernel
theorem dX11_next_100 : decode cX11_next 100 = .ok (.iload_n 2, 1) := by decide +kernel
theorem dX11_next_101 : decode cX11_next 101 = .ok (.ireturn, 1) := by decide +kernel
def b_X11_next_32 (N : Nat) (σ : uS) (v1 : Int32) (J91_5 : Int32 → Int32 → Option (Int32 × uS)) (rec32_10 : Int32 → Int32 → Int32 → Option (Int32 × uS)) (x7 : Int32) (x8 : Int32) (x9 : Int32) : Option (Int32 × uS) :=
  if (σ.1 32 5) ≤ x9 then (J91_5 x7 x8) else ((f_X0_coursesWith N σ (σ.1 32 5) x9).bind fun v11 =>
  u_jn ((if v11 < (v1 - v11) then (v1 - v11) else v11) : Int32) fun x12 =>
  u_jn (fun (x13 : Int32) (x14 : Int32) => (u_jn (x9 + 1 : Int32) fun x16 =>
  rec32_10 x13 x14 x16 : Option (Int32 × uS))) fun J85_15 =>
  if x8 ≤ x12 then (J85_15 x7 x8) else (J85_15 x9 x12))
def f_X11_next (N : Nat) (σ : uS) : Option (Int32 × uS) := (f_X0_coursesWith N σ (σ.1 32 5) (-1)).bind fun v1 =>
  if v1 = 0 then (some ((-2), σ)) else (u_jn ((v1 + 1) : Int32) fun x2 =>
  u_jn (fun (x3 : Int32) (x4 : Int32) => ((f_X8_one N σ (Int32.toInt64 x4)).bind fun s6 =>
  some (x3, s6) : Option (Int32 × uS))) fun J91_5 =>
  u_lp3 (b_X11_next_32 N σ v1 J91_5) N 0 x2 0)
set_option maxRecDepth 100000 in
set_option maxHeartbeats 4000000 in
theorem c_X11_next (l : Launch) (G : uG) (N : Nat) (σ : uS) (z : (Int32 × uS)) (hz : f_X11_next N σ = some z) : u_Mi l ZC G yX11_next cX11_next 7 .int 2 [.ref (G.2.2 0)] σ z.1 z.2 := by
  refine u_Mi_of RX11 (by decide) rfl (Nat.le_of_ble_eq_true rfl) ?_
  intro p e s m args below meth c ls cx hw hl
  have hx := cx.1
  have hb := cx.2.1
  have hl : lv_has ls 7 [(0, .ref (G.2.2 0))] := hl
  unfold f_X11_next at hz
  refine lv_aload_n hx hb dX11_next_0 rfl (lv_at hl 0 rfl) ?_
  refine u_getp cx hw F_X11_46 o_X11 rfl dX11_next_1 ?_
  refine lv_aload_n hx hb dX11_next_4 rfl (lv_at hl 0 rfl) ?_
  refine u_getp cx hw F_X11_26 o_X11 rfl dX11_next_5 ?_
  refine u_geti cx hw F_X11_119 oS_32 rfl dX11_next_8 ?_
  refine lv_iconst (v := (-1)) hx hb dX11_next_11 (by decide) ?_
  obtain ⟨v1, hv1, hz⟩ := u_bind hz
  refine u_callVi (As := [.int (σ.1 32 5), .int (-1)]) (rest := []) cx hw LV_X11_361 (c_X0_coursesWith l G N σ (σ.1 32 5) (-1) v1 hv1) o_X0 rfl (by decide) hl.1 rfl (Nat.le_of_ble_eq_true rfl) dX11_next_12 rfl (fun H locs hw => ?_)
  refine lv_istore_n (lv' := [(1, .int v1), (0, .ref (G.2.2 0))]) hx hb dX11_next_15 rfl hl (by decide) rfl (fun ls hl => ?_)
  refine lv_iload_n hx hb dX11_next_16 rfl (lv_at hl 0 rfl) ?_
  refine lv_if_ne (tgt := 23) hx hb dX11_next_17 (by decide) (fun hc => ?_) (fun hc => ?_)
  · replace hz := u_iff hz hc
    refine lv_iconst (v := 0) hx hb dX11_next_23 (by decide) ?_
    refine lv_istore_n (lv' := [(2, .int 0), (1, .int v1), (0, .ref (G.2.2 0))]) hx hb dX11_next_24 rfl hl (by decide) rfl (fun ls hl => ?_)
    refine lv_iload_n hx hb dX11_next_25 rfl (lv_at hl 1 rfl) ?_
    refine lv_iconst (v := 1) hx hb dX11_next_26 (by decide) ?_
    refine lv_iadd hx hb dX11_next_27 ?_
    obtain ⟨x2, ex2, hz⟩ := u_let hz
    refine u_topi ex2 ?_
    refine lv_istore_n (lv' := [(3, .int x2), (2, .int 0), (1, .int v1), (0, .ref (G.2.2 0))]) hx hb dX11_next_28 rfl hl (by decide) rfl (fun ls hl => ?_)
    refine lv_iconst (v := 0) hx hb dX11_next_29 (by decide) ?_
    refine lv_istore (lv' := [(4, .int 0), (3, .int x2), (2, .int 0), (1, .int v1), (0, .ref (G.2.2 0))]) hx hb dX11_next_30 hl (by decide) rfl (fun ls hl => ?_)
    obtain ⟨J91_5, eJ91_5, hz⟩ := u_let hz
    have WJ91_5 : ∀ (x3 : Int32) (x4 : Int32) (H : Heap) (locs : List Loc) (ls : Array Slot), J91_5 x3 x4 = some z → u_W ZC G σ s H locs → lv_has ls 7 [(0, .ref (G.2.2 0)), (2, .int x3), (3, .int x4)] → W p l e (u_rm 2) s m args below meth c H locs 0 0 (u_Qi below ZC G s args z.1 z.2) (F0 m 91 ls []) := by
      intro x3 x4 H locs ls hz hw hl
      rw [eJ91_5] at hz
      refine lv_aload_n hx hb dX11_next_91 rfl (lv_at hl 0 rfl) ?_
      refine u_getp cx hw F_X11_19 o_X11 rfl dX11_next_92 ?_
      refine lv_iload_n hx hb dX11_next_95 rfl (lv_at hl 2 rfl) ?_
      refine lv_i2l (v := (Int32.toInt64 x4)) hx hb dX11_next_96 rfl ?_
      obtain ⟨s6, hs6, hz⟩ := u_bind hz
      refine u_callVv (As := [.long (Int32.toInt64 x4)]) (rest := []) cx hw LV_X11_287 (c_X8_one l G N σ (Int32.toInt64 x4) s6 hs6) o_X8 rfl (by decide) hl.1 rfl (Nat.le_of_ble_eq_true rfl) dX11_next_97 rfl (fun H locs hw => ?_)
      refine lv_iload_n hx hb dX11_next_100 rfl (lv_at hl 1 rfl) ?_
      exact u_iret cx hw (u_pair hz) dX11_next_101
    have WL32_16 : ∀ (k : Nat) (x7 : Int32) (x8 : Int32) (x9 : Int32) (H : Heap) (locs : List Loc) (ls : Array Slot), u_lp3 (b_X11_next_32 N σ v1 J91_5) k x7 x8 x9 = some z → u_W ZC G σ s H locs → lv_has ls 7 [(0, .ref (G.2.2 0)), (1, .int v1), (2, .int x7), (3, .int x8), (4, .int x9)] → W p l e (u_rm 2) s m args below meth c H locs 0 0 (u_Qi below ZC G s args z.1 z.2) (F0 m 32 ls []) := by
      intro k
      induction k with
      | zero =>
        intro x7 x8 x9 H locs ls hz
        exact absurd hz (by intro h9; cases h9)
      | succ k ih32_10 =>
        intro x7 x8 x9 H locs ls hz hw hl
        have hz : (b_X11_next_32 N σ v1 J91_5) (u_lp3 (b_X11_next_32 N σ v1 J91_5) k) x7 x8 x9 = some z := hz
        unfold b_X11_next_32 at hz
        refine lv_iload hx hb dX11_next_32 (lv_at hl 4 rfl) ?_
        refine lv_aload_n hx hb dX11_next_34 rfl (lv_at hl 0 rfl) ?_
        refine u_getp cx hw F_X11_26 o_X11 rfl dX11_next_35 ?_
        refine u_geti cx hw F_X11_119 oS_32 rfl dX11_next_38 ?_
        refine lv_icmp_ge (tgt := 91) hx hb dX11_next_41 (by decide) (fun hc => ?_) (fun hc => ?_)
        · replace hz := u_ift hz hc
          exact WJ91_5 x7 x8 _ _ _ hz hw (lv_sub hl [0, 2, 3] rfl)
        · replace hz := u_iff hz hc
          refine lv_aload_n hx hb dX11_next_44 rfl (lv_at hl 0 rfl) ?_
          refine u_getp cx hw F_X11_46 o_X11 rfl dX11_next_45 ?_
          refine lv_aload_n hx hb dX11_next_48 rfl (lv_at hl 0 rfl) ?_
          refine u_getp cx hw F_X11_26 o_X11 rfl dX11_next_49 ?_
          refine u_geti cx hw F_X11_119 oS_32 rfl dX11_next_52 ?_
          refine lv_iload hx hb dX11_next_55 (lv_at hl 4 rfl) ?_
          obtain ⟨v11, hv11, hz⟩ := u_bind hz
          refine u_callVi (As := [.int (σ.1 32 5), .int x9]) (rest := []) cx hw LV_X11_361 (c_X0_coursesWith l G N σ (σ.1 32 5) x9 v11 hv11) o_X0 rfl (by decide) hl.1 rfl (Nat.le_of_ble_eq_true rfl) dX11_next_57 rfl (fun H locs hw => ?_)
          refine lv_istore (lv' := [(5, .int v11), (0, .ref (G.2.2 0)), (1, .int v1), (2, .int x7), (3, .int x8), (4, .int x9)]) hx hb dX11_next_60 hl (by decide) rfl (fun ls hl => ?_)
          refine lv_iload hx hb dX11_next_62 (lv_at hl 0 rfl) ?_
          refine lv_iload_n hx hb dX11_next_64 rfl (lv_at hl 2 rfl) ?_
          refine lv_iload hx hb dX11_next_65 (lv_at hl 0 rfl) ?_
          refine lv_isub hx hb dX11_next_67 ?_
          refine u_mmax cx LM_X11_201 (by decide) hl.1 (Nat.le_of_ble_eq_true rfl) dX11_next_68 ?_
          obtain ⟨x12, ex12, hz⟩ := u_let hz
          refine u_topi ex12 ?_
          refine lv_istore (lv' := [(6, .int x12), (5, .int v11), (0, .ref (G.2.2 0)), (1, .int v1), (2, .int x7), (3, .int x8), (4, .int x9)]) hx hb dX11_next_71 hl (by decide) rfl (fun ls hl => ?_)
          refine lv_iload hx hb dX11_next_73 (lv_at hl 0 rfl) ?_
          refine lv_iload_n hx hb dX11_next_75 rfl (lv_at hl 5 rfl) ?_
          obtain ⟨J85_15, eJ85_15, hz⟩ := u_let hz
          have WJ85_15 : ∀ (x13 : Int32) (x14 : Int32) (H : Heap) (locs : List Loc) (ls : Array Slot), J85_15 x13 x14 = some z → u_W ZC G σ s H locs → lv_has ls 7 [(0, .ref (G.2.2 0)), (1, .int v1), (2, .int x13), (3, .int x14), (4, .int x9)] → W p l e (u_rm 2) s m args below meth c H locs 0 0 (u_Qi below ZC G s args z.1 z.2) (F0 m 85 ls []) := by
            intro x13 x14 H locs ls hz hw hl
            rw [eJ85_15] at hz
            obtain ⟨x16, ex16, hz⟩ := u_let hz
            refine lv_iinc (v := x16) (lv' := [(4, .int x16), (0, .ref (G.2.2 0)), (1, .int v1), (2, .int x13), (3, .int x14)]) hx hb dX11_next_85 hl (k := 4) rfl (by rw [ex16]; rfl) (by decide) rfl (fun ls hl => ?_)
            refine lv_goto (tgt := 32) hx hb dX11_next_88 (by decide) ?_
            exact ih32_10 x13 x14 x16 _ _ _ hz hw (lv_sub hl [1, 2, 3, 4, 0] rfl)
          refine lv_icmp_ge (tgt := 85) hx hb dX11_next_76 (by decide) (fun hc => ?_) (fun hc => ?_)
          · replace hz := u_ift hz hc
            exact WJ85_15 x7 x8 _ _ _ hz hw (lv_sub hl [2, 3, 4, 5, 6] rfl)
          · replace hz := u_iff hz hc
            refine lv_iload hx hb dX11_next_79 (lv_at hl 6 rfl) ?_
            refine lv_istore_n (lv' := [(2, .int x9), (6, .int x12), (5, .int v11), (0, .ref (G.2.2 0)), (1, .int v1), (3, .int x8), (4, .int x9)]) hx hb dX11_next_81 rfl hl (by decide) rfl (fun ls hl => ?_)
            refine lv_iload hx hb dX11_next_82 (lv_at hl 1 rfl) ?_
            refine lv_istore_n (lv' := [(3, .int x12), (2, .int x9), (6, .int x12), (5, .int v11), (0, .ref (G.2.2 0)), (1, .int v1), (4, .int x9)]) hx hb dX11_next_84 rfl hl (by decide) rfl (fun ls hl => ?_)
            exact WJ85_15 x9 x12 _ _ _ hz hw (lv_sub hl [4, 5, 1, 0, 6] rfl)
    exact WL32_16 N 0 x2 0 _ _ _ hz hw (lv_sub hl [4, 3, 2, 1, 0] rfl)
  · replace hz := u_ift hz hc
    refine lv_bipush (v := (-2)) hx hb dX11_next_20 (by decide) ?_
    exact u_iret cx hw (u_pair hz) dX11_next_22
theorem dX11_cheapest_0 : decode cX11_cheapest 0 = .ok (.iload_n 1, 1) := by decide +kernel
theorem dX11_cheapest_1 : decode cX11_cheapest 1 = .ok (.iconst 1, 1) := by decide +kernel
theorem dX11_cheapest_2 : decode cX11_cheapest 2 = .ok (.if_icmp .ge 5, 3) := by decide +kernel
theorem dX11_cheapest_5 : decode cX11_cheapest 5 = .ok (.iconst (-1), 1) := by decide +kernel
theorem dX11_cheapest_6 : decode cX11_cheapest 6 = .ok (.ireturn, 1) := by decide +kernel
theorem dX11_cheapest_7 : decode cX11_cheapest 7 = .ok (.iload_n 1, 1) := by decide +kernel
theorem dX11_cheapest_8 : decode cX11_cheapest 8 = .ok (.aload_n 0, 1) := by decide +kernel
theorem dX11_cheapest_9 : decode cX11_cheapest 9 = .ok (.getfield 26, 3) := by decide +kernel
theorem dX11_cheapest_12 : decode cX11_cheapest 12 = .ok (.getfield 119, 3) := by decide +kernel
theorem dX11_cheapest_15 : decode cX11_cheapest 15 = .ok (.if_icmp .le 6, 3) := by decide +kernel
theorem dX11_cheapest_18 : decode cX11_cheapest 18 = .ok (.bipush (-2), 2) := by decide +kernel
theorem dX11_cheapest_20 : decode cX11_cheapest 20 = .ok (.ireturn, 1) := by decide +kernel
theorem dX11_cheapest_21 : decode cX11_cheapest 21 = .ok (.iconst 0, 1) := by decide +kernel
theorem dX11_cheapest_22 : decode cX11_cheapest 22 = .ok (.istore_n 2, 1) := by decide +kernel
theorem dX11_cheapest_23 : decode cX11_cheapest 23 = .ok (.aload_n 0, 1) := by decide +kernel
theorem dX11_cheapest_24 : decode cX11_cheapest 24 = .ok (.getfield 26, 3) := by decide +kernel
theorem dX11_cheapest_27 : decode cX11_cheapest 27 = .ok (.iconst 0, 1) := by decide +kernel
theorem dX11_cheapest_28 : decode cX11_cheapest 28 = .ok (.iload_n 1, 1) := by decide +kernel
theorem dX11_cheapest_29 : decode cX11_cheapest 29 = .ok (.iconst 1, 1) := by decide +kernel
theorem dX11_cheapest_30 : decode cX11_cheapest 30 = .ok (.isub, 1) := by decide +kernel
theorem dX11_cheapest_31 : decode cX11_cheapest 31 = .ok (.invokevirtual 364, 3) := by decide +kernel
theorem dX11_cheapest_34 : decode cX11_cheapest 34 = .ok (.istore_n 3, 1) := by decide +kernel
theorem dX11_cheapest_35 : decode cX11_cheapest 35 = .ok (.iconst 1, 1) := by decide +kernel
theorem dX11_cheapest_36 : decode cX11_cheapest 36 = .ok (.istore 4, 2) := by decide +kernel
theorem dX11_cheapest_38 : decode cX11_cheapest 38 = .ok (.iload 4, 2) := by decide +kernel
theorem dX11_cheapest_40 : decode cX11_cheapest 40 = .ok (.iload_n 1, 1) := by decide +kernel
theorem dX11_cheapest_41 : decode cX11_cheapest 41 = .ok (.iadd, 1) := by decide +kernel
theorem dX11_cheapest_42 : decode cX11_cheapest 42 = .ok (.aload_n 0, 1) := by decide +kernel
theorem dX11_cheapest_43 : decode cX11_cheapest 43 = .ok (.getfield 26, 3) := by decide +kernel
theorem dX11_cheapest_46 : decode cX11_cheapest 46 = .ok (.getfield 119, 3) := by decide +kernel
theorem dX11_cheapest_49 : decode cX11_cheapest 49 = .ok (.if_icmp .gt 38, 3) := by decide +kernel
theorem dX11_cheapest_52 : decode cX11_cheapest 52 = .ok (.aload_n 0, 1) := by decide +kernel
theorem dX11_cheapest_53 : decode cX11_cheapest 53 = .ok (.getfield 26, 3) := by decide +kernel
theorem dX11_cheapest_56 : decode cX11_cheapest 56 = .ok (.iload 4, 2) := by decide +kernel
theorem dX11_cheapest_58 : decode cX11_cheapest 58 = .ok (.iload 4, 2) := by decide +kernel
theorem dX11_cheapest_60 : decode cX11_cheapest 60 = .ok (.iload_n 1, 1) := by decide +kernel
theorem dX11_cheapest_61 : decode cX11_cheapest 61 = .ok (.iadd, 1) := by decide +kernel
theorem dX11_cheapest_62 : decode cX11_cheapest 62 = .ok (.iconst 1, 1) := by decide +kernel
theorem dX11_cheapest_63 : decode cX11_cheapest 63 = .ok (.isub, 1) := by decide +kernel
theorem dX11_cheapest_64 : decode cX11_cheapest 64 = .ok (.invokevirtual 364, 3) := by decide +kernel
theorem dX11_cheapest_67 : decode cX11_cheapest 67 = .ok (.istore 5, 2) := by decide +kernel
theorem dX11_cheapest_69 : decode cX11_cheapest 69 = .ok (.iload 5, 2) := by decide +kernel
theorem dX11_cheapest_71 : decode cX11_cheapest 71 = .ok (.iload_n 3, 1) := by decide +kernel
theorem dX11_cheapest_72 : decode cX11_cheapest 72 = .ok (.if_icmp .ge 9, 3) := by decide +kernel
theorem dX11_cheapest_75 : decode cX11_cheapest 75 = .ok (.iload 4, 2) := by decide +kernel
theorem dX11_cheapest_77 : decode cX11_cheapest 77 = .ok (.istore_n 2, 1) := by decide +kernel
theorem dX11_cheapest_78 : decode cX11_cheapest 78 = .ok (.iload 5, 2) := by decide +kernel
theorem dX11_cheapest_80 : decode cX11_cheapest 80 = .ok (.istore_n 3, 1) := by decide +kernel
theorem dX11_cheapest_81 : decode cX11_cheapest 81 = .ok (.iinc 4 1, 3) := by decide +kernel
theorem dX11_cheapest_84 : decode cX11_cheapest 84 = .ok (.goto (-46), 3) := by decide +kernel
theorem dX11_cheapest_87 : decode cX11_cheapest 87 = .ok (.aload_n 0, 1) := by decide +kernel
theorem dX11_cheapest_88 : decode cX11_cheapest 88 = .ok (.getfield 19, 3) := by decide +kernel
theorem dX11_cheapest_91 : decode cX11_cheapest 91 = .ok (.iload_n 2, 1) := by decide +kernel
theorem dX11_cheapest_92 : decode cX11_cheapest 92 = .ok (.i2l, 1) := by decide +kernel
theorem dX11_cheapest_93 : decode cX11_cheapest 93 = .ok (.iload_n 2, 1) := by decide +kernel
theorem dX11_cheapest_94 : decode cX11_cheapest 94 = .ok (.iload_n 1, 1) := by decide +kernel
theorem dX11_cheapest_95 : decode cX11_cheapest 95 = .ok (.iadd, 1) := by decide +kernel
theorem dX11_cheapest_96 : decode cX11_cheapest 96 = .ok (.iconst 1, 1) := by decide +kernel
theorem dX11_cheapest_97 : decode cX11_cheapest 97 = .ok (.isub, 1) := by decide +kernel
theorem dX11_cheapest_98 : decode cX11_cheapest 98 = .ok (.i2l, 1) := by decide +kernel
theorem dX11_cheapest_99 : decode cX11_cheapest 99 = .ok (.invokevirtual 220, 3) := by decide +kernel
theorem dX11_cheapest_102 : decode cX11_cheapest 102 = .ok (.iload_n 3, 1) := by decide +kernel
theorem dX11_cheapest_103 : decode cX11_cheapest 103 = .ok (.ireturn, 1) := by decide +kernel
def b_X11_cheapest_38 (N : Nat) (σ : uS) (p1 : Int32) (J87_4 : Int32 → Int32 → Option (Int32 × uS)) (rec38_9 : Int32 → Int32 → Int32 → Option (Int32 × uS)) (x6 : Int32) (x7 : Int32) (x8 : Int32) : Option (Int32 × uS) :=
  if (σ.1 32 5) < (x8 + p1) then (J87_4 x6 x7) else ((f_X7_cornOf N σ 32 x8 ((x8 + p1) - 1)).bind fun v10 =>
  u_jn (fun (x11 : Int32) (x12 : Int32) => (u_jn (x8 + 1 : Int32) fun x14 =>
  rec38_9 x11 x12 x14 : Option (Int32 × uS))) fun J81_13 =>
  if x7 ≤ v10 then (J81_13 x6 x7) else (J81_13 x8 v10))
def f_X11_cheapest (N : Nat) (σ : uS) (p1 : Int32) : Option (Int32 × uS) := if 1 ≤ p1 then (if p1 ≤ (σ.1 32 5) then ((f_X7_cornOf N σ 32 0 (p1 - 1)).bind fun v1 =>
  u_jn (fun (x2 : Int32) (x3 : Int32) => ((f_X8_two N σ (Int32.toInt64 x2) (Int32.toInt64 ((x2 + p1) - 1))).bind fun s5 =>
  some (x3, s5) : Option (Int32 × uS))) fun J87_4 =>
  u_lp3 (b_X11_cheapest_38 N σ p1 J87_4) N 0 v1 1) else (some ((-2), σ))) else (some ((-1), σ))
set_option maxRecDepth 100000 in
set_option maxHeartbeats 4000000 in
theorem c_X11_cheapest (l : Launch) (G : uG) (N : Nat) (σ : uS) (p1 : Int32) (z : (Int32 × uS)) (hz : f_X11_cheapest N σ p1 = some z) : u_Mi l ZC G yX11_cheapest cX11_cheapest 6 .int 2 [.ref (G.2.2 0), .int p1] σ z.1 z.2 := by
  refine u_Mi_of RX11 (by decide) rfl (Nat.le_of_ble_eq_true rfl) ?_
  intro p e s m args below meth c ls cx hw hl
  have hx := cx.1
  have hb := cx.2.1
  have hl : lv_has ls 6 [(0, .ref (G.2.2 0)), (1, .int p1)] := hl
  unfold f_X11_cheapest at hz
  refine lv_iload_n hx hb dX11_cheapest_0 rfl (lv_at hl 1 rfl) ?_
  refine lv_iconst (v := 1) hx hb dX11_cheapest_1 (by decide) ?_
  refine lv_icmp_ge (tgt := 7) hx hb dX11_cheapest_2 (by decide) (fun hc => ?_) (fun hc => ?_)
  · replace hz := u_ift hz hc
    refine lv_iload_n hx hb dX11_cheapest_7 rfl (lv_at hl 1 rfl) ?_
    refine lv_aload_n hx hb dX11_cheapest_8 rfl (lv_at hl 0 rfl) ?_
    refine u_getp cx hw F_X11_26 o_X11 rfl dX11_cheapest_9 ?_
    refine u_geti cx hw F_X11_119 oS_32 rfl dX11_cheapest_12 ?_
    refine lv_icmp_le (tgt := 21) hx hb dX11_cheapest_15 (by decide) (fun hc => ?_) (fun hc => ?_)
    · replace hz := u_ift hz hc
      refine lv_iconst (v := 0) hx hb dX11_cheapest_21 (by decide) ?_
      refine lv_istore_n (lv' := [(2, .int 0), (0, .ref (G.2.2 0)), (1, .int p1)]) hx hb dX11_cheapest_22 rfl hl (by decide) rfl (fun ls hl => ?_)
      refine lv_aload_n hx hb dX11_cheapest_23 rfl (lv_at hl 1 rfl) ?_
      refine u_getp cx hw F_X11_26 o_X11 rfl dX11_cheapest_24 ?_
      refine lv_iconst (v := 0) hx hb dX11_cheapest_27 (by decide) ?_
      refine lv_iload_n hx hb dX11_cheapest_28 rfl (lv_at hl 2 rfl) ?_
      refine lv_iconst (v := 1) hx hb dX11_cheapest_29 (by decide) ?_
      refine lv_isub hx hb dX11_cheapest_30 ?_
      obtain ⟨v1, hv1, hz⟩ := u_bind hz
      refine u_callVi (As := [.int 0, .int (p1 - 1)]) (rest := []) cx hw LV_X11_364 (c_X7_cornOf l G N σ 32 oS_32 0 (p1 - 1) v1 hv1) oS_32 rfl (by decide) hl.1 rfl (Nat.le_of_ble_eq_true rfl) dX11_cheapest_31 rfl (fun H locs hw => ?_)
      refine lv_istore_n (lv' := [(3, .int v1), (2, .int 0), (0, .ref (G.2.2 0)), (1, .int p1)]) hx hb dX11_cheapest_34 rfl hl (by decide) rfl (fun ls hl => ?_)
      refine lv_iconst (v := 1) hx hb dX11_cheapest_35 (by decide) ?_
      refine lv_istore (lv' := [(4, .int 1), (3, .int v1), (2, .int 0), (0, .ref (G.2.2 0)), (1, .int p1)]) hx hb dX11_cheapest_36 hl (by decide) rfl (fun ls hl => ?_)
      obtain ⟨J87_4, eJ87_4, hz⟩ := u_let hz
      have WJ87_4 : ∀ (x2 : Int32) (x3 : Int32) (H : Heap) (locs : List Loc) (ls : Array Slot), J87_4 x2 x3 = some z → u_W ZC G σ s H locs → lv_has ls 6 [(0, .ref (G.2.2 0)), (1, .int p1), (2, .int x2), (3, .int x3)] → W p l e (u_rm 2) s m args below meth c H locs 0 0 (u_Qi below ZC G s args z.1 z.2) (F0 m 87 ls []) := by
        intro x2 x3 H locs ls hz hw hl
        rw [eJ87_4] at hz
        refine lv_aload_n hx hb dX11_cheapest_87 rfl (lv_at hl 0 rfl) ?_
        refine u_getp cx hw F_X11_19 o_X11 rfl dX11_cheapest_88 ?_
        refine lv_iload_n hx hb dX11_cheapest_91 rfl (lv_at hl 2 rfl) ?_
        refine lv_i2l (v := (Int32.toInt64 x2)) hx hb dX11_cheapest_92 rfl ?_
        refine lv_iload_n hx hb dX11_cheapest_93 rfl (lv_at hl 2 rfl) ?_
        refine lv_iload_n hx hb dX11_cheapest_94 rfl (lv_at hl 1 rfl) ?_
        refine lv_iadd hx hb dX11_cheapest_95 ?_
        refine lv_iconst (v := 1) hx hb dX11_cheapest_96 (by decide) ?_
        refine lv_isub hx hb dX11_cheapest_97 ?_
        refine lv_i2l (v := (Int32.toInt64 ((x2 + p1) - 1))) hx hb dX11_cheapest_98 rfl ?_
        obtain ⟨s5, hs5, hz⟩ := u_bind hz
        refine u_callVv (As := [.long (Int32.toInt64 x2), .long (Int32.toInt64 ((x2 + p1) - 1))]) (rest := []) cx hw LV_X11_220 (c_X8_two l G N σ (Int32.toInt64 x2) (Int32.toInt64 ((x2 + p1) - 1)) s5 hs5) o_X8 rfl (by decide) hl.1 rfl (Nat.le_of_ble_eq_true rfl) dX11_cheapest_99 rfl (fun H locs hw => ?_)
        refine lv_iload_n hx hb dX11_cheapest_102 rfl (lv_at hl 3 rfl) ?_
        exact u_iret cx hw (u_pair hz) dX11_cheapest_103
      have WL38_14 : ∀ (k : Nat) (x6 : Int32) (x7 : Int32) (x8 : Int32) (H : Heap) (locs : List Loc) (ls : Array Slot), u_lp3 (b_X11_cheapest_38 N σ p1 J87_4) k x6 x7 x8 = some z → u_W ZC G σ s H locs → lv_has ls 6 [(0, .ref (G.2.2 0)), (1, .int p1), (2, .int x6), (3, .int x7), (4, .int x8)] → W p l e (u_rm 2) s m args below meth c H locs 0 0 (u_Qi below ZC G s args z.1 z.2) (F0 m 38 ls []) := by
        intro k
        induction k with
        | zero =>
          intro x6 x7 x8 H locs ls hz
          exact absurd hz (by intro h9; cases h9)
        | succ k ih38_9 =>
          intro x6 x7 x8 H locs ls hz hw hl
          have hz : (b_X11_cheapest_38 N σ p1 J87_4) (u_lp3 (b_X11_cheapest_38 N σ p1 J87_4) k) x6 x7 x8 = some z := hz
          unfold b_X11_cheapest_38 at hz
          refine lv_iload hx hb dX11_cheapest_38 (lv_at hl 4 rfl) ?_
          refine lv_iload_n hx hb dX11_cheapest_40 rfl (lv_at hl 1 rfl) ?_
          refine lv_iadd hx hb dX11_cheapest_41 ?_
          refine lv_aload_n hx hb dX11_cheapest_42 rfl (lv_at hl 0 rfl) ?_
          refine u_getp cx hw F_X11_26 o_X11 rfl dX11_cheapest_43 ?_
          refine u_geti cx hw F_X11_119 oS_32 rfl dX11_cheapest_46 ?_
          refine lv_icmp_gt (tgt := 87) hx hb dX11_cheapest_49 (by decide) (fun hc => ?_) (fun hc => ?_)
          · replace hz := u_ift hz hc
            exact WJ87_4 x6 x7 _ _ _ hz hw (lv_sub hl [0, 1, 2, 3] rfl)
          · replace hz := u_iff hz hc
            refine lv_aload_n hx hb dX11_cheapest_52 rfl (lv_at hl 0 rfl) ?_
            refine u_getp cx hw F_X11_26 o_X11 rfl dX11_cheapest_53 ?_
            refine lv_iload hx hb dX11_cheapest_56 (lv_at hl 4 rfl) ?_
            refine lv_iload hx hb dX11_cheapest_58 (lv_at hl 4 rfl) ?_
            refine lv_iload_n hx hb dX11_cheapest_60 rfl (lv_at hl 1 rfl) ?_
            refine lv_iadd hx hb dX11_cheapest_61 ?_
            refine lv_iconst (v := 1) hx hb dX11_cheapest_62 (by decide) ?_
            refine lv_isub hx hb dX11_cheapest_63 ?_
            obtain ⟨v10, hv10, hz⟩ := u_bind hz
            refine u_callVi (As := [.int x8, .int ((x8 + p1) - 1)]) (rest := []) cx hw LV_X11_364 (c_X7_cornOf l G N σ 32 oS_32 x8 ((x8 + p1) - 1) v10 hv10) oS_32 rfl (by decide) hl.1 rfl (Nat.le_of_ble_eq_true rfl) dX11_cheapest_64 rfl (fun H locs hw => ?_)
            refine lv_istore (lv' := [(5, .int v10), (0, .ref (G.2.2 0)), (1, .int p1), (2, .int x6), (3, .int x7), (4, .int x8)]) hx hb dX11_cheapest_67 hl (by decide) rfl (fun ls hl => ?_)
            refine lv_iload hx hb dX11_cheapest_69 (lv_at hl 0 rfl) ?_
            refine lv_iload_n hx hb dX11_cheapest_71 rfl (lv_at hl 4 rfl) ?_
            obtain ⟨J81_13, eJ81_13, hz⟩ := u_let hz
            have WJ81_13 : ∀ (x11 : Int32) (x12 : Int32) (H : Heap) (locs : List Loc) (ls : Array Slot), J81_13 x11 x12 = some z → u_W ZC G σ s H locs → lv_has ls 6 [(0, .ref (G.2.2 0)), (1, .int p1), (2, .int x11), (3, .int x12), (4, .int x8)] → W p l e (u_rm 2) s m args below meth c H locs 0 0 (u_Qi below ZC G s args z.1 z.2) (F0 m 81 ls []) := by
              intro x11 x12 H locs ls hz hw hl
              rw [eJ81_13] at hz
              obtain ⟨x14, ex14, hz⟩ := u_let hz
              refine lv_iinc (v := x14) (lv' := [(4, .int x14), (0, .ref (G.2.2 0)), (1, .int p1), (2, .int x11), (3, .int x12)]) hx hb dX11_cheapest_81 hl (k := 4) rfl (by rw [ex14]; rfl) (by decide) rfl (fun ls hl => ?_)
              refine lv_goto (tgt := 38) hx hb dX11_cheapest_84 (by decide) ?_
              exact ih38_9 x11 x12 x14 _ _ _ hz hw (lv_sub hl [1, 2, 3, 4, 0] rfl)
            refine lv_icmp_ge (tgt := 81) hx hb dX11_cheapest_72 (by decide) (fun hc => ?_) (fun hc => ?_)
            · replace hz := u_ift hz hc
              exact WJ81_13 x6 x7 _ _ _ hz hw (lv_sub hl [1, 2, 3, 4, 5] rfl)
            · replace hz := u_iff hz hc
              refine lv_iload hx hb dX11_cheapest_75 (lv_at hl 5 rfl) ?_
              refine lv_istore_n (lv' := [(2, .int x8), (5, .int v10), (0, .ref (G.2.2 0)), (1, .int p1), (3, .int x7), (4, .int x8)]) hx hb dX11_cheapest_77 rfl hl (by decide) rfl (fun ls hl => ?_)
              refine lv_iload hx hb dX11_cheapest_78 (lv_at hl 1 rfl) ?_
              refine lv_istore_n (lv' := [(3, .int v10), (2, .int x8), (5, .int v10), (0, .ref (G.2.2 0)), (1, .int p1), (4, .int x8)]) hx hb dX11_cheapest_80 rfl hl (by decide) rfl (fun ls hl => ?_)
              exact WJ81_13 x8 v10 _ _ _ hz hw (lv_sub hl [3, 4, 1, 0, 5] rfl)
      exact WL38_14 N 0 v1 1 _ _ _ hz hw (lv_sub hl [3, 4, 2, 1, 0] rfl)
    · replace hz := u_iff hz hc
      refine lv_bipush (v := (-2)) hx hb dX11_cheapest_18 (by decide) ?_
      exact u_iret cx hw (u_pair hz) dX11_cheapest_20
  · replace hz := u_iff hz hc
    refine lv_iconst (v := (-1)) hx hb dX11_cheapest_5 (by decide) ?_
    exact u_iret cx hw (u_pair hz) dX11_cheapest_6
theorem dX11_duesRest_0 : decode cX11_duesRest 0 = .ok (.iload_n 2, 1) := by decide +kernel
theorem dX11_duesRest_1 : decode cX11_duesRest 1 = .ok (.ifCond .le 19, 3) := by decide +kernel
theorem dX11_duesRest_4 : decode cX11_duesRest 4 = .ok (.iload_n 1, 1) := by decide +kernel
theorem dX11_duesRest_5 : decode cX11_duesRest 5 = .ok (.aload_n 0, 1) := by decide +kernel
theorem dX11_duesRest_6 : decode cX11_duesRest 6 = .ok (.getfield 26, 3) := by decide +kernel
theorem dX11_duesRest_9 : decode cX11_duesRest 9 = .ok (.getfield 150, 3) := by decide +kernel
theorem dX11_duesRest_12 : decode cX11_duesRest 12 = .ok (.iload_n 3, 1) := by decide +kernel
theorem dX11_duesRest_13 : decode cX11_duesRest 13 = .ok (.iaload, 1) := by decide +kernel
theorem dX11_duesRest_14 : decode cX11_duesRest 14 = .ok (.imul, 1) := by decide +kernel
theorem dX11_duesRest_15 : decode cX11_duesRest 15 = .ok (.iload_n 2, 1) := by decide +kernel
theorem dX11_duesRest_16 : decode cX11_duesRest 16 = .ok (.irem, 1) := by decide +kernel
theorem dX11_duesRest_17 : decode cX11_duesRest 17 = .ok (.goto 4, 3) := by decide +kernel
theorem dX11_duesRest_20 : decode cX11_duesRest 20 = .ok (.iconst 0, 1) := by decide +kernel
theorem dX11_duesRest_21 : decode cX11_duesRest 21 = .ok (.ireturn, 1) := by decide +kernel
def f_X11_duesRest (N : Nat) (σ : uS) (p1 : Int32) (p2 : Int32) (p3 : Int32) : Option Int32 := if p2 ≤ 0 then (some 0) else ((u_rI ZC σ 0 33 p3).bind fun v1 =>
  u_ck (¬ (p2 : Int32) = 0) <|
  some ((p1 * v1) - (p1 * v1) / p2 * p2))
set_option maxRecDepth 100000 in
set_option maxHeartbeats 4000000 in
theorem c_X11_duesRest (l : Launch) (G : uG) (N : Nat) (σ : uS) (p1 : Int32) (p2 : Int32) (p3 : Int32) (z : Int32) (hz : f_X11_duesRest N σ p1 p2 p3 = some z) : u_Mi l ZC G yX11_duesRest cX11_duesRest 4 .int 0 [.ref (G.2.2 0), .int p1, .int p2, .int p3] σ z σ := by
  refine u_Mi_of RX11 (by decide) rfl (Nat.le_of_ble_eq_true rfl) ?_
  intro p e s m args below meth c ls cx hw hl
  have hx := cx.1
  have hb := cx.2.1
  have hl : lv_has ls 4 [(0, .ref (G.2.2 0)), (1, .int p1), (2, .int p2), (3, .int p3)] := hl
  unfold f_X11_duesRest at hz
  refine lv_iload_n hx hb dX11_duesRest_0 rfl (lv_at hl 2 rfl) ?_
  refine lv_if_le (tgt := 20) hx hb dX11_duesRest_1 (by decide) (fun hc => ?_) (fun hc => ?_)
  · replace hz := u_ift hz hc
    refine lv_iconst (v := 0) hx hb dX11_duesRest_20 (by decide) ?_
    exact u_iret cx hw ⟨Option.some.inj hz, rfl⟩ dX11_duesRest_21
  · replace hz := u_iff hz hc
    refine lv_iload_n hx hb dX11_duesRest_4 rfl (lv_at hl 1 rfl) ?_
    refine lv_aload_n hx hb dX11_duesRest_5 rfl (lv_at hl 0 rfl) ?_
    refine u_getp cx hw F_X11_26 o_X11 rfl dX11_duesRest_6 ?_
    refine u_getp cx hw F_X11_150 oS_32 rfl dX11_duesRest_9 ?_
    refine lv_iload_n hx hb dX11_duesRest_12 rfl (lv_at hl 3 rfl) ?_
    obtain ⟨v1, hv1, hz⟩ := u_bind hz
    refine u_iald cx hw hv1 dX11_duesRest_13 ?_
    refine lv_imul hx hb dX11_duesRest_14 ?_
    refine lv_iload_n hx hb dX11_duesRest_15 rfl (lv_at hl 2 rfl) ?_
    obtain ⟨hne, hz⟩ := u_ck_some hz
    refine lv_irem hx hb dX11_duesRest_16 hne ?_
    refine lv_goto (tgt := 21) hx hb dX11_duesRest_17 (by decide) ?_
    exact u_iret cx hw ⟨Option.some.inj hz, rfl⟩ dX11_duesRest_21
theorem dX11_areFloods_0 : decode cX11_areFloods 0 = .ok (.iload_n 0, 1) := by decide +kernel
theorem dX11_areFloods_1 : decode cX11_areFloods 1 = .ok (.iconst 1, 1) := by decide +kernel
theorem dX11_areFloods_2 : decode cX11_areFloods 2 = .ok (.if_icmp .lt 23, 3) := by decide +kernel
theorem dX11_areFloods_5 : decode cX11_areFloods 5 = .ok (.iload_n 0, 1) := by decide +kernel
theorem dX11_areFloods_6 : decode cX11_areFloods 6 = .ok (.bipush 12, 2) := by decide +kernel
theorem dX11_areFloods_8 : decode cX11_areFloods 8 = .ok (.if_icmp .gt 17, 3) := by decide +kernel
theorem dX11_areFloods_11 : decode cX11_areFloods 11 = .ok (.iload_n 1, 1) := by decide +kernel
theorem dX11_areFloods_12 : decode cX11_areFloods 12 = .ok (.ifCond .lt 13, 3) := by decide +kernel
theorem dX11_areFloods_15 : decode cX11_areFloods 15 = .ok (.iload_n 1, 1) := by decide +kernel
theorem dX11_areFloods_16 : decode cX11_areFloods 16 = .ok (.bipush 10, 2) := by decide +kernel
theorem dX11_areFloods_18 : decode cX11_areFloods 18 = .ok (.if_icmp .gt 7, 3) := by decide +kernel
theorem dX11_areFloods_21 : decode cX11_areFloods 21 = .ok (.iconst 1, 1) := by decide +kernel
theorem dX11_areFloods_22 : decode cX11_areFloods 22 = .ok (.goto 4, 3) := by decide +kernel
theorem dX11_areFloods_25 : decode cX11_areFloods 25 = .ok (.iconst 0, 1) := by decide +kernel
theorem dX11_areFloods_26 : decode cX11_areFloods 26 = .ok (.ireturn, 1) := by decide +kernel
def f_X11_areFloods (N : Nat) (σ : uS) (p0 : Int32) (p1 : Int32) : Option Int32 := u_jn ((some 0 : Option Int32)) fun J25_1 =>
  if p0 < 1 then (J25_1) else (if 12 < p0 then (J25_1) else (if p1 < 0 then (J25_1) else (if 10 < p1 then (J25_1) else (some 1))))
set_option maxRecDepth 100000 in
set_option maxHeartbeats 4000000 in
theorem c_X11_areFloods (l : Launch) (G : uG) (N : Nat) (σ : uS) (p0 : Int32) (p1 : Int32) (z : Int32) (hz : f_X11_areFloods N σ p0 p1 = some z) : u_Mi l ZC G yX11_areFloods cX11_areFloods 2 .boolean 0 [.int p0, .int p1] σ z σ := by
  refine u_Mi_of RX11 (by decide) rfl (Nat.le_of_ble_eq_true rfl) ?_
  intro p e s m args below meth c ls cx hw hl
  have hx := cx.1
  have hb := cx.2.1
  have hl : lv_has ls 2 [(0, .int p0), (1, .int p1)] := hl
  unfold f_X11_areFloods at hz
  refine lv_iload_n hx hb dX11_areFloods_0 rfl (lv_at hl 0 rfl) ?_
  refine lv_iconst (v := 1) hx hb dX11_areFloods_1 (by decide) ?_
  obtain ⟨J25_1, eJ25_1, hz⟩ := u_let hz
  have WJ25_1 : ∀ (H : Heap) (locs : List Loc) (ls : Array Slot), J25_1 = some z → u_W ZC G σ s H locs → lv_has ls 2 [] → W p l e (u_rm 0) s m args below meth c H locs 0 0 (u_Qi below ZC G s args z σ) (F0 m 25 ls []) := by
    intro H locs ls hz hw hl
    rw [eJ25_1] at hz
    refine lv_iconst (v := 0) hx hb dX11_areFloods_25 (by decide) ?_
    exact u_zret cx hw (Or.inl rfl) ⟨Option.some.inj hz, rfl⟩ dX11_areFloods_26
  refine lv_icmp_lt (tgt := 25) hx hb dX11_areFloods_2 (by decide) (fun hc => ?_) (fun hc => ?_)
  · replace hz := u_ift hz hc
    exact WJ25_1 _ _ _ hz hw (lv_sub hl [] rfl)
  · replace hz := u_iff hz hc
    refine lv_iload_n hx hb dX11_areFloods_5 rfl (lv_at hl 0 rfl) ?_
    refine lv_bipush (v := 12) hx hb dX11_areFloods_6 (by decide) ?_
    refine lv_icmp_gt (tgt := 25) hx hb dX11_areFloods_8 (by decide) (fun hc => ?_) (fun hc => ?_)
    · replace hz := u_ift hz hc
      exact WJ25_1 _ _ _ hz hw (lv_sub hl [] rfl)
    · replace hz := u_iff hz hc
      refine lv_iload_n hx hb dX11_areFloods_11 rfl (lv_at hl 1 rfl) ?_
      refine lv_if_lt (tgt := 25) hx hb dX11_areFloods_12 (by decide) (fun hc => ?_) (fun hc => ?_)
      · replace hz := u_ift hz hc
        exact WJ25_1 _ _ _ hz hw (lv_sub hl [] rfl)
      · replace hz := u_iff hz hc
        refine lv_iload_n hx hb dX11_areFloods_15 rfl (lv_at hl 1 rfl) ?_
        refine lv_bipush (v := 10) hx hb dX11_areFloods_16 (by decide) ?_
        refine lv_icmp_gt (tgt := 25) hx hb dX11_areFloods_18 (by decide) (fun hc => ?_) (fun hc => ?_)
        · replace hz := u_ift hz hc
          exact WJ25_1 _ _ _ hz hw (lv_sub hl [] rfl)
        · replace hz := u_iff hz hc
          refine lv_iconst (v := 1) hx hb dX11_areFloods_21 (by decide) ?_
          refine lv_goto (tgt := 26) hx hb dX11_areFloods_22 (by decide) ?_
          exact u_zret cx hw (Or.inr rfl) ⟨Option.some.inj hz, rfl⟩ dX11_areFloods_26
