/-! THE LAW: its loop -/
theorem n_ofNat {n : Nat} (h : n < 3000) : (Int32.ofNat n).toInt = n := Int32.toInt_ofNat_of_lt (by omega)
theorem n_sub5 {L : Nat} (h : L ≤ 2560) : (Int32.ofNat L - 5).toInt = (L : Int) - 5 := by
  rw [Int32.toInt_sub, n_ofNat (by omega)]
  show Int.bmod ((L : Int) - 5) (2 ^ 32) = _
  exact Int.bmod_eq_of_le (by omega) (by omega)
theorem n_add {n : Nat} (h : n < 3000) {j : Int32} (h0 : 0 ≤ j) (h4 : j ≤ 5) : (Int32.ofNat n + j).toInt = (n : Int) + j.toInt := by
  have h1 : (0 : Int32).toInt ≤ j.toInt := Int32.le_iff_toInt_le.mp h0
  have h2 : j.toInt ≤ (5 : Int32).toInt := Int32.le_iff_toInt_le.mp h4
  have e0 : (0 : Int32).toInt = 0 := rfl
  have e5 : (5 : Int32).toInt = 5 := rfl
  rw [Int32.toInt_add, n_ofNat h]
  exact Int.bmod_eq_of_le (by omega) (by omega)
theorem n_step {j : Nat} (h : 5 * j < 2990) : Int32.ofNat (5 * j) + Int32.ofInt 5 = Int32.ofNat (5 * (j + 1)) := by
  apply Int32.toInt_inj.mp
  rw [show Int32.ofInt 5 = (5 : Int32) from rfl, n_add (by omega) (by decide) (by decide), n_ofNat (by omega)]
  show ((5 * j : Nat) : Int) + 5 = _
  omega
theorem n_vp {j L : Nat} (hL : L ≤ 2560) (h : 5 * j + 5 ≤ L) : ∀ k : Int32, 0 ≤ k → k ≤ 4 → vp_in (Int32.ofNat (5 * j) + k) L := by
  intro k h0 h4
  have h1 : (0 : Int32).toInt ≤ k.toInt := Int32.le_iff_toInt_le.mp h0
  have h2 : k.toInt ≤ (4 : Int32).toInt := Int32.le_iff_toInt_le.mp h4
  have e0 : (0 : Int32).toInt = 0 := rfl
  have e4 : (4 : Int32).toInt = 4 := rfl
  have hk5 : k ≤ 5 := Int32.le_iff_toInt_le.mpr (by have e5 : (5 : Int32).toInt = 5 := rfl; omega)
  have e := n_add (n := 5 * j) (by omega) h0 hk5
  rintro (h3 | h3)
  · have := Int32.lt_iff_toInt_lt.mp h3
    omega
  · have : (Int32.ofNat (5 * j) + k).toNatClampNeg = (Int32.ofNat (5 * j) + k).toInt.toNat := rfl
    omega
theorem n_zero (x : Int32) : x + 0 = x := by simp
section NLO
variable {p : Program} {l : Launch} {e : Env} {s : State} {m : MethodId} {below : List Frame} {meth : Method} {c : Code}
variable {D : va_G} {cy : Nat → ClassId} {hc hm : Nat → Nat} {o b L : Nat} {xs : Nat → Int32}
set_option maxRecDepth 100000 in
set_option maxHeartbeats 4000000 in
theorem n_loop (C : n_L p l s m #[Value.ref b] c D cy hc hm o b L xs) (hr : meth.sig.returnType = ret) (hlocks : meth.locks = false) (hL : L ≤ 2560) (N : Nat) (Rel : Nat → uS → uS → Prop) (hst : n_St N Rel) : ∀ (k j : Nat) (σc σm : uS) (ov : Nat → Int64) (H : Heap) (locs : List Loc) (ls : Array Slot), L ≤ 5 * j + 5 * k → 5 * j ≤ L + 4 → Rel j σc σm → n_W D cy hc hm o σc σm ov s H locs → lv_has ls 8 (n_lv hc hm b o (Int32.ofNat (5 * j))) →
    W p l e room_1 s m #[Value.ref b] below meth c H locs (10000 + j) (100000 + 6 * j) (lw_Z below #[Value.ref b] s) (F0 m 23 ls []) := by
  obtain ⟨cx, hl0, hxk, af, hX, hbl⟩ := id C
  obtain ⟨hx, hb, hml, hown, hts⟩ := id cx
  intro k
  induction k with
  | zero =>
    intro j σc σm ov H locs ls hk hj hR hw hl
    refine lv_iload hx hb dL_law_23 (lv_at hl 4 rfl) ?_
    refine lv_aload_n hx hb dL_law_25 rfl (lv_at hl 0 rfl) ?_
    refine va_slen hx hb hX hbl (Nat.not_le.mpr hbl) hw.2.2.2 dL_law_26 ?_
    refine lv_iconst (v := 5) hx hb dL_law_27 (by decide) ?_
    refine lv_isub hx hb dL_law_28 ?_
    refine lv_icmp_gt (tgt := 1566) hx hb dL_law_29 (by decide) (fun _ => ?_) (fun hng => ?_)
    · refine lv_iconst (v := 1) hx hb dL_law_1566 (by decide) ?_
      refine n_drop hw.2.2.2.2.2 (W.widen (k := 601024) (n := 7293034) (by omega) (by omega) ?_)
      exact lw_ret hx hb hr hlocks dL_law_1567
    · exact absurd (Int32.lt_iff_toInt_lt.mpr (by rw [n_sub5 hL, n_ofNat (by omega)]; omega)) hng
  | succ k ih =>
    intro j σc σm ov H locs ls hk hj hR hw hl
    refine lv_iload hx hb dL_law_23 (lv_at hl 4 rfl) ?_
    refine lv_aload_n hx hb dL_law_25 rfl (lv_at hl 0 rfl) ?_
    refine va_slen hx hb hX hbl (Nat.not_le.mpr hbl) hw.2.2.2 dL_law_26 ?_
    refine lv_iconst (v := 5) hx hb dL_law_27 (by decide) ?_
    refine lv_isub hx hb dL_law_28 ?_
    refine lv_icmp_gt (tgt := 1566) hx hb dL_law_29 (by decide) (fun _ => ?_) (fun hng => ?_)
    · refine lv_iconst (v := 1) hx hb dL_law_1566 (by decide) ?_
      refine n_drop hw.2.2.2.2.2 (W.widen (k := 601024) (n := 7293034) (by omega) (by omega) ?_)
      exact lw_ret hx hb hr hlocks dL_law_1567
    have hle : 5 * j + 5 ≤ L := by
      have h9 : ¬ ((L : Int) - 5 < ((5 * j : Nat) : Int)) := fun h => hng (Int32.lt_iff_toInt_lt.mpr (by rw [n_sub5 hL, n_ofNat (by omega)]; exact h))
      omega
    obtain ⟨hmono, s0, s1, s2, s3, s4, s5, s6, s7, s8, s9, s10, s11, s12, s13, s14, s15, s16, s17, s18, s19, s20, s21, s22, s23, s24, s25, s26, s27, s28, s29, s30, s31, s32, s33, s34, s35, s36, s37, s38, s39, s40, s41, s42, s43, s44, s45, s46, s47⟩ := hst j (by omega)
    have hi := n_vp hL hle
    have hi0 : vp_in (Int32.ofNat (5 * j)) L := by have h9 := hi 0 (by decide) (by decide); rw [n_zero] at h9; exact h9
    have hcs : 10000 + j + 1 ≤ room_1.cells ∧ 100000 + 6 * j + 6 ≤ room_1.slots := by
      show 10000 + j + 1 ≤ 601024 ∧ 100000 + 6 * j + 6 ≤ 7293034
      omega
    have hend : ∀ (σc' σm' : uS) (ov1 : Nat → Int64) (H1 : Heap) (locs1 : List Loc) (ls1 : Array Slot), Rel (j + 1) σc' σm' → n_W D cy hc hm o σc' σm' ov1 s H1 locs1 → lv_has ls1 8 (n_lv hc hm b o (Int32.ofNat (5 * j))) → W p l e room_1 s m #[Value.ref b] below meth c H1 locs1 (10000 + j + 1) (100000 + 6 * j + 6) (lw_Z below #[Value.ref b] s) (F0 m 1560 ls1 []) := by
      intro σc' σm' ov1 H1 locs1 ls1 hR1 hw1 hl1
      refine lv_iinc (v := Int32.ofNat (5 * (j + 1))) (lv' := [(4, .int (Int32.ofNat (5 * (j + 1)))), (0, .ref b), (1, .ref (hc 0)), (2, .ref (hm 0)), (3, .ref o)]) hx hb dL_law_1560 hl1 (k := 4) rfl (n_step (by omega)) (by decide) rfl (fun ls2 hl2 => ?_)
      refine lv_goto (tgt := 23) hx hb dL_law_1563 (by decide) ?_
      exact ih (j + 1) σc' σm' ov1 H1 locs1 ls2 (by omega) (by omega) hR1 hw1 (lv_sub hl2 [1, 2, 3, 4, 0] rfl)
    refine lv_aload_n hx hb dL_law_32 rfl (lv_at hl 0 rfl) ?_
    refine lv_iload hx hb dL_law_33 (lv_at hl 4 rfl) ?_
    refine va_sld hx hb hX hbl (Nat.not_le.mpr hbl) hw.2.2.2 hi0 dL_law_35 ?_
    refine lv_bipush (v := 63) hx hb dL_law_36 (by decide) ?_
    refine lv_iand hx hb dL_law_38 ?_
    generalize xs (Int32.ofNat (5 * j)).toNatClampNeg &&& 63 = sw
    by_cases hk0 : sw = 0
    · refine lv_tableIn (off := 205) (tgt := 244) hx hb dL_law_39 (by rw [hk0]; decide) (by rw [hk0]; decide) (by rw [hk0]; decide) (by decide) ?_
      obtain ⟨zc, zm, h1, h2, h3, h4⟩ := s0 σc σm hR (xs (Int32.ofNat (5 * j) + 1).toNatClampNeg)
      exact n_k0 C hi hcs hw hl N zc zm h1 h2 h3 (fun H1 locs1 ls1 ov1 hl1 hw1 => hend _ _ ov1 H1 locs1 ls1 h4 hw1 hl1)
    by_cases hk1 : sw = 1
    · refine lv_tableIn (off := 230) (tgt := 269) hx hb dL_law_39 (by rw [hk1]; decide) (by rw [hk1]; decide) (by rw [hk1]; decide) (by decide) ?_
      obtain ⟨zc, zm, h1, h2, h3, h4⟩ := s1 σc σm hR (xs (Int32.ofNat (5 * j) + 1).toNatClampNeg)
      exact n_k1 C hi hcs hw hl N zc zm h1 h2 h3 (fun H1 locs1 ls1 ov1 hl1 hw1 => hend _ _ ov1 H1 locs1 ls1 h4 hw1 hl1)
    by_cases hk2 : sw = 2
    · refine lv_tableIn (off := 255) (tgt := 294) hx hb dL_law_39 (by rw [hk2]; decide) (by rw [hk2]; decide) (by rw [hk2]; decide) (by decide) ?_
      obtain ⟨zc, zm, h1, h2, h3, h4⟩ := s2 σc σm hR
      exact n_k2 C hi hcs hw hl N zc zm h1 h2 h3 (fun H1 locs1 ls1 ov1 hl1 hw1 => hend _ _ ov1 H1 locs1 ls1 h4 hw1 hl1)
    by_cases hk3 : sw = 3
    · refine lv_tableIn (off := 268) (tgt := 307) hx hb dL_law_39 (by rw [hk3]; decide) (by rw [hk3]; decide) (by rw [hk3]; decide) (by decide) ?_
      obtain ⟨zc, zm, h1, h2, h3, h4⟩ := s3 σc σm hR
      exact n_k3 C hi hcs hw hl N zc zm h1 h2 h3 (fun H1 locs1 ls1 ov1 hl1 hw1 => hend _ _ ov1 H1 locs1 ls1 h4 hw1 hl1)
    by_cases hk4 : sw = 4
    · refine lv_tableIn (off := 281) (tgt := 320) hx hb dL_law_39 (by rw [hk4]; decide) (by rw [hk4]; decide) (by rw [hk4]; decide) (by decide) ?_
      obtain ⟨zc, zm, h1, h2, h3, h4⟩ := s4 σc σm hR
      exact n_k4 C hi hcs hw hl N zc zm h1 h2 h3 (fun H1 locs1 ls1 ov1 hl1 hw1 => hend _ _ ov1 H1 locs1 ls1 h4 hw1 hl1)
    by_cases hk5 : sw = 5
    · refine lv_tableIn (off := 294) (tgt := 333) hx hb dL_law_39 (by rw [hk5]; decide) (by rw [hk5]; decide) (by rw [hk5]; decide) (by decide) ?_
      obtain ⟨zo, σc1, zm, zt, h1, h2, h3, h4, h5⟩ := s5 σc σm hR (xs (Int32.ofNat (5 * j) + 1).toNatClampNeg) (xs (Int32.ofNat (5 * j) + 2).toNatClampNeg)
      exact n_k5 C hi hcs hw hl N zo σc1 zm zt h1 h2 h3 h4 (fun H1 locs1 ls1 ov1 hl1 hw1 => hend _ _ ov1 H1 locs1 ls1 h5 hw1 hl1)
    by_cases hk6 : sw = 6
    · refine lv_tableIn (off := 362) (tgt := 401) hx hb dL_law_39 (by rw [hk6]; decide) (by rw [hk6]; decide) (by rw [hk6]; decide) (by decide) ?_
      obtain ⟨zo, σc1, zm, zt, h1, h2, h3, h4, h5⟩ := s6 σc σm hR (xs (Int32.ofNat (5 * j) + 1).toNatClampNeg) (xs (Int32.ofNat (5 * j) + 2).toNatClampNeg)
      exact n_k6 C hi hcs hw hl N zo σc1 zm zt h1 h2 h3 h4 (fun H1 locs1 ls1 ov1 hl1 hw1 => hend _ _ ov1 H1 locs1 ls1 h5 hw1 hl1)
    by_cases hk7 : sw = 7
    · refine lv_tableIn (off := 430) (tgt := 469) hx hb dL_law_39 (by rw [hk7]; decide) (by rw [hk7]; decide) (by rw [hk7]; decide) (by decide) ?_
      obtain ⟨zc, zm, h1, h2, h3, h4⟩ := s7 σc σm hR (xs (Int32.ofNat (5 * j) + 1).toNatClampNeg) (xs (Int32.ofNat (5 * j) + 2).toNatClampNeg) (xs (Int32.ofNat (5 * j) + 3).toNatClampNeg) (xs (Int32.ofNat (5 * j) + 4).toNatClampNeg)
      exact n_k7 C hi hcs hw hl N zc zm h1 h2 h3 (fun H1 locs1 ls1 ov1 hl1 hw1 => hend _ _ ov1 H1 locs1 ls1 h4 hw1 hl1)
    by_cases hk8 : sw = 8
    · refine lv_tableIn (off := 491) (tgt := 530) hx hb dL_law_39 (by rw [hk8]; decide) (by rw [hk8]; decide) (by rw [hk8]; decide) (by decide) ?_
      obtain ⟨zc, zm, h1, h2, h3, h4⟩ := s8 σc σm hR (xs (Int32.ofNat (5 * j) + 1).toNatClampNeg)
      exact n_k8 C hi hcs hw hl N zc zm h1 h2 h3 (fun H1 locs1 ls1 ov1 hl1 hw1 => hend _ _ ov1 H1 locs1 ls1 h4 hw1 hl1)
    by_cases hk9 : sw = 9
    · refine lv_tableIn (off := 516) (tgt := 555) hx hb dL_law_39 (by rw [hk9]; decide) (by rw [hk9]; decide) (by rw [hk9]; decide) (by decide) ?_
      obtain ⟨zc, zm, h1, h2, h3, h4⟩ := s9 σc σm hR (xs (Int32.ofNat (5 * j) + 1).toNatClampNeg)
      exact n_k9 C hi hcs hw hl N zc zm h1 h2 h3 (fun H1 locs1 ls1 ov1 hl1 hw1 => hend _ _ ov1 H1 locs1 ls1 h4 hw1 hl1)
    by_cases hk10 : sw = 10
    · refine lv_tableIn (off := 541) (tgt := 580) hx hb dL_law_39 (by rw [hk10]; decide) (by rw [hk10]; decide) (by rw [hk10]; decide) (by decide) ?_
      obtain ⟨zc, zm, h1, h2, h3, h4⟩ := s10 σc σm hR (xs (Int32.ofNat (5 * j) + 1).toNatClampNeg) (xs (Int32.ofNat (5 * j) + 2).toNatClampNeg)
      exact n_k10 C hi hcs hw hl N zc zm h1 h2 h3 (fun H1 locs1 ls1 ov1 hl1 hw1 => hend _ _ ov1 H1 locs1 ls1 h4 hw1 hl1)
    by_cases hk11 : sw = 11
    · refine lv_tableIn (off := 578) (tgt := 617) hx hb dL_law_39 (by rw [hk11]; decide) (by rw [hk11]; decide) (by rw [hk11]; decide) (by decide) ?_
      obtain ⟨zc, zm, h1, h2, h3, h4⟩ := s11 σc σm hR (xs (Int32.ofNat (5 * j) + 1).toNatClampNeg) (xs (Int32.ofNat (5 * j) + 2).toNatClampNeg)
      exact n_k11 C hi hcs hw hl N zc zm h1 h2 h3 (fun H1 locs1 ls1 ov1 hl1 hw1 => hend _ _ ov1 H1 locs1 ls1 h4 hw1 hl1)
    by_cases hk12 : sw = 12
    · refine lv_tableIn (off := 615) (tgt := 654) hx hb dL_law_39 (by rw [hk12]; decide) (by rw [hk12]; decide) (by rw [hk12]; decide) (by decide) ?_
      obtain ⟨zc, zm, h1, h2, h3, h4⟩ := s12 σc σm hR (xs (Int32.ofNat (5 * j) + 1).toNatClampNeg) (xs (Int32.ofNat (5 * j) + 2).toNatClampNeg)
      exact n_k12 C hi hcs hw hl N zc zm h1 h2 h3 (fun H1 locs1 ls1 ov1 hl1 hw1 => hend _ _ ov1 H1 locs1 ls1 h4 hw1 hl1)
    by_cases hk13 : sw = 13
    · refine lv_tableIn (off := 652) (tgt := 691) hx hb dL_law_39 (by rw [hk13]; decide) (by rw [hk13]; decide) (by rw [hk13]; decide) (by decide) ?_
      obtain ⟨zc, zm, h1, h2, h3, h4⟩ := s13 σc σm hR
      exact n_k13 C hi hcs hw hl N zc zm h1 h2 h3 (fun H1 locs1 ls1 ov1 hl1 hw1 => hend _ _ ov1 H1 locs1 ls1 h4 hw1 hl1)
    by_cases hk14 : sw = 14
    · refine lv_tableIn (off := 665) (tgt := 704) hx hb dL_law_39 (by rw [hk14]; decide) (by rw [hk14]; decide) (by rw [hk14]; decide) (by decide) ?_
      obtain ⟨zc, zm, h1, h2, h3, h4⟩ := s14 σc σm hR
      exact n_k14 C hi hcs hw hl N zc zm h1 h2 h3 (fun H1 locs1 ls1 ov1 hl1 hw1 => hend _ _ ov1 H1 locs1 ls1 h4 hw1 hl1)
    by_cases hk15 : sw = 15
    · refine lv_tableIn (off := 678) (tgt := 717) hx hb dL_law_39 (by rw [hk15]; decide) (by rw [hk15]; decide) (by rw [hk15]; decide) (by decide) ?_
      obtain ⟨zc, zm, h1, h2, h3, h4⟩ := s15 σc σm hR (xs (Int32.ofNat (5 * j) + 1).toNatClampNeg)
      exact n_k15 C hi hcs hw hl N zc zm h1 h2 h3 (fun H1 locs1 ls1 ov1 hl1 hw1 => hend _ _ ov1 H1 locs1 ls1 h4 hw1 hl1)
    by_cases hk16 : sw = 16
    · refine lv_tableIn (off := 703) (tgt := 742) hx hb dL_law_39 (by rw [hk16]; decide) (by rw [hk16]; decide) (by rw [hk16]; decide) (by decide) ?_
      obtain ⟨zc, zm, h1, h2, h3, h4⟩ := s16 σc σm hR
      exact n_k16 C hi hcs hw hl N zc zm h1 h2 h3 (fun H1 locs1 ls1 ov1 hl1 hw1 => hend _ _ ov1 H1 locs1 ls1 h4 hw1 hl1)
    by_cases hk17 : sw = 17
    · refine lv_tableIn (off := 716) (tgt := 755) hx hb dL_law_39 (by rw [hk17]; decide) (by rw [hk17]; decide) (by rw [hk17]; decide) (by decide) ?_
      obtain ⟨zc, zm, h1, h2, h3, h4⟩ := s17 σc σm hR (xs (Int32.ofNat (5 * j) + 1).toNatClampNeg)
      exact n_k17 C hi hcs hw hl N zc zm h1 h2 h3 (fun H1 locs1 ls1 ov1 hl1 hw1 => hend _ _ ov1 H1 locs1 ls1 h4 hw1 hl1)
    by_cases hk18 : sw = 18
    · refine lv_tableIn (off := 741) (tgt := 780) hx hb dL_law_39 (by rw [hk18]; decide) (by rw [hk18]; decide) (by rw [hk18]; decide) (by decide) ?_
      obtain ⟨zc, zm, h1, h2, h3, h4⟩ := s18 σc σm hR (xs (Int32.ofNat (5 * j) + 1).toNatClampNeg) (xs (Int32.ofNat (5 * j) + 2).toNatClampNeg)
      exact n_k18 C hi hcs hw hl N zc zm h1 h2 h3 (fun H1 locs1 ls1 ov1 hl1 hw1 => hend _ _ ov1 H1 locs1 ls1 h4 hw1 hl1)
    by_cases hk19 : sw = 19
    · refine lv_tableIn (off := 778) (tgt := 817) hx hb dL_law_39 (by rw [hk19]; decide) (by rw [hk19]; decide) (by rw [hk19]; decide) (by decide) ?_
      obtain ⟨zc, zm, h1, h2, h3, h4⟩ := s19 σc σm hR (xs (Int32.ofNat (5 * j) + 1).toNatClampNeg)
      exact n_k19 C hi hcs hw hl N zc zm h1 h2 h3 (fun H1 locs1 ls1 ov1 hl1 hw1 => hend _ _ ov1 H1 locs1 ls1 h4 hw1 hl1)
    by_cases hk20 : sw = 20
    · refine lv_tableIn (off := 803) (tgt := 842) hx hb dL_law_39 (by rw [hk20]; decide) (by rw [hk20]; decide) (by rw [hk20]; decide) (by decide) ?_
      obtain ⟨zc, zm, h1, h2, h3, h4⟩ := s20 σc σm hR (xs (Int32.ofNat (5 * j) + 1).toNatClampNeg)
      exact n_k20 C hi hcs hw hl N zc zm h1 h2 h3 (fun H1 locs1 ls1 ov1 hl1 hw1 => hend _ _ ov1 H1 locs1 ls1 h4 hw1 hl1)
    by_cases hk21 : sw = 21
    · refine lv_tableIn (off := 828) (tgt := 867) hx hb dL_law_39 (by rw [hk21]; decide) (by rw [hk21]; decide) (by rw [hk21]; decide) (by decide) ?_
      obtain ⟨zc, zm, h1, h2, h3, h4⟩ := s21 σc σm hR
      exact n_k21 C hi hcs hw hl N zc zm h1 h2 h3 (fun H1 locs1 ls1 ov1 hl1 hw1 => hend _ _ ov1 H1 locs1 ls1 h4 hw1 hl1)
    by_cases hk22 : sw = 22
    · refine lv_tableIn (off := 841) (tgt := 880) hx hb dL_law_39 (by rw [hk22]; decide) (by rw [hk22]; decide) (by rw [hk22]; decide) (by decide) ?_
      obtain ⟨zc, zm, h1, h2, h3, h4⟩ := s22 σc σm hR (xs (Int32.ofNat (5 * j) + 1).toNatClampNeg)
      exact n_k22 C hi hcs hw hl N zc zm h1 h2 h3 (fun H1 locs1 ls1 ov1 hl1 hw1 => hend _ _ ov1 H1 locs1 ls1 h4 hw1 hl1)
    by_cases hk23 : sw = 23
    · refine lv_tableIn (off := 866) (tgt := 905) hx hb dL_law_39 (by rw [hk23]; decide) (by rw [hk23]; decide) (by rw [hk23]; decide) (by decide) ?_
      obtain ⟨zc, zm, h1, h2, h3, h4⟩ := s23 σc σm hR (xs (Int32.ofNat (5 * j) + 1).toNatClampNeg) (xs (Int32.ofNat (5 * j) + 2).toNatClampNeg)
      exact n_k23 C hi hcs hw hl N zc zm h1 h2 h3 (fun H1 locs1 ls1 ov1 hl1 hw1 => hend _ _ ov1 H1 locs1 ls1 h4 hw1 hl1)
    by_cases hk24 : sw = 24
    · refine lv_tableIn (off := 903) (tgt := 942) hx hb dL_law_39 (by rw [hk24]; decide) (by rw [hk24]; decide) (by rw [hk24]; decide) (by decide) ?_
      obtain ⟨zc, zm, h1, h2, h3, h4⟩ := s24 σc σm hR
      exact n_k24 C hi hcs hw hl N zc zm h1 h2 h3 (fun H1 locs1 ls1 ov1 hl1 hw1 => hend _ _ ov1 H1 locs1 ls1 h4 hw1 hl1)
    by_cases hk25 : sw = 25
    · refine lv_tableIn (off := 916) (tgt := 955) hx hb dL_law_39 (by rw [hk25]; decide) (by rw [hk25]; decide) (by rw [hk25]; decide) (by decide) ?_
      obtain ⟨zc, zm, h1, h2, h3, h4⟩ := s25 σc σm hR (xs (Int32.ofNat (5 * j) + 1).toNatClampNeg)
      exact n_k25 C hi hcs hw hl N zc zm h1 h2 h3 (fun H1 locs1 ls1 ov1 hl1 hw1 => hend _ _ ov1 H1 locs1 ls1 h4 hw1 hl1)
    by_cases hk26 : sw = 26
    · refine lv_tableIn (off := 941) (tgt := 980) hx hb dL_law_39 (by rw [hk26]; decide) (by rw [hk26]; decide) (by rw [hk26]; decide) (by decide) ?_
      obtain ⟨zc, zm, h1, h2, h3, h4⟩ := s26 σc σm hR
      exact n_k26 C hi hcs hw hl N zc zm h1 h2 h3 (fun H1 locs1 ls1 ov1 hl1 hw1 => hend _ _ ov1 H1 locs1 ls1 h4 hw1 hl1)
    by_cases hk27 : sw = 27
    · refine lv_tableIn (off := 954) (tgt := 993) hx hb dL_law_39 (by rw [hk27]; decide) (by rw [hk27]; decide) (by rw [hk27]; decide) (by decide) ?_
      obtain ⟨zc, zm, h1, h2, h3, h4⟩ := s27 σc σm hR (xs (Int32.ofNat (5 * j) + 1).toNatClampNeg)
      exact n_k27 C hi hcs hw hl N zc zm h1 h2 h3 (fun H1 locs1 ls1 ov1 hl1 hw1 => hend _ _ ov1 H1 locs1 ls1 h4 hw1 hl1)
    by_cases hk28 : sw = 28
    · refine lv_tableIn (off := 979) (tgt := 1018) hx hb dL_law_39 (by rw [hk28]; decide) (by rw [hk28]; decide) (by rw [hk28]; decide) (by decide) ?_
      obtain ⟨zc, zm, h1, h2, h3, h4⟩ := s28 σc σm hR
      exact n_k28 C hi hcs hw hl N zc zm h1 h2 h3 (fun H1 locs1 ls1 ov1 hl1 hw1 => hend _ _ ov1 H1 locs1 ls1 h4 hw1 hl1)
    by_cases hk29 : sw = 29
    · refine lv_tableIn (off := 992) (tgt := 1031) hx hb dL_law_39 (by rw [hk29]; decide) (by rw [hk29]; decide) (by rw [hk29]; decide) (by decide) ?_
      obtain ⟨zc, zm, h1, h2, h3, h4⟩ := s29 σc σm hR (xs (Int32.ofNat (5 * j) + 1).toNatClampNeg) (xs (Int32.ofNat (5 * j) + 2).toNatClampNeg)
      exact n_k29 C hi hcs hw hl N zc zm h1 h2 h3 (fun H1 locs1 ls1 ov1 hl1 hw1 => hend _ _ ov1 H1 locs1 ls1 h4 hw1 hl1)
    by_cases hk30 : sw = 30
    · refine lv_tableIn (off := 1029) (tgt := 1068) hx hb dL_law_39 (by rw [hk30]; decide) (by rw [hk30]; decide) (by rw [hk30]; decide) (by decide) ?_
      obtain ⟨zc, zm, h1, h2, h3, h4⟩ := s30 σc σm hR
      exact n_k30 C hi hcs hw hl N zc zm h1 h2 h3 (fun H1 locs1 ls1 ov1 hl1 hw1 => hend _ _ ov1 H1 locs1 ls1 h4 hw1 hl1)
    by_cases hk31 : sw = 31
    · refine lv_tableIn (off := 1042) (tgt := 1081) hx hb dL_law_39 (by rw [hk31]; decide) (by rw [hk31]; decide) (by rw [hk31]; decide) (by decide) ?_
      obtain ⟨zc, zm, h1, h2, h3, h4⟩ := s31 σc σm hR
      exact n_k31 C hi hcs hw hl N zc zm h1 h2 h3 (fun H1 locs1 ls1 ov1 hl1 hw1 => hend _ _ ov1 H1 locs1 ls1 h4 hw1 hl1)
    by_cases hk32 : sw = 32
    · refine lv_tableIn (off := 1055) (tgt := 1094) hx hb dL_law_39 (by rw [hk32]; decide) (by rw [hk32]; decide) (by rw [hk32]; decide) (by decide) ?_
      obtain ⟨zc, zm, h1, h2, h3, h4⟩ := s32 σc σm hR
      exact n_k32 C hi hcs hw hl N zc zm h1 h2 h3 (fun H1 locs1 ls1 ov1 hl1 hw1 => hend _ _ ov1 H1 locs1 ls1 h4 hw1 hl1)
    by_cases hk33 : sw = 33
    · refine lv_tableIn (off := 1068) (tgt := 1107) hx hb dL_law_39 (by rw [hk33]; decide) (by rw [hk33]; decide) (by rw [hk33]; decide) (by decide) ?_
      obtain ⟨zc, zm, h1, h2, h3, h4⟩ := s33 σc σm hR
      exact n_k33 C hi hcs hw hl N zc zm h1 h2 h3 (fun H1 locs1 ls1 ov1 hl1 hw1 => hend _ _ ov1 H1 locs1 ls1 h4 hw1 hl1)
    by_cases hk34 : sw = 34
    · refine lv_tableIn (off := 1081) (tgt := 1120) hx hb dL_law_39 (by rw [hk34]; decide) (by rw [hk34]; decide) (by rw [hk34]; decide) (by decide) ?_
      obtain ⟨zc, zm, h1, h2, h3, h4⟩ := s34 σc σm hR (xs (Int32.ofNat (5 * j) + 1).toNatClampNeg)
      exact n_k34 C hi hcs hw hl N zc zm h1 h2 h3 (fun H1 locs1 ls1 ov1 hl1 hw1 => hend _ _ ov1 H1 locs1 ls1 h4 hw1 hl1)
    by_cases hk35 : sw = 35
    · refine lv_tableIn (off := 1106) (tgt := 1145) hx hb dL_law_39 (by rw [hk35]; decide) (by rw [hk35]; decide) (by rw [hk35]; decide) (by decide) ?_
      obtain ⟨zc, zm, h1, h2, h3, h4⟩ := s35 σc σm hR (xs (Int32.ofNat (5 * j) + 1).toNatClampNeg)
      exact n_k35 C hi hcs hw hl N zc zm h1 h2 h3 (fun H1 locs1 ls1 ov1 hl1 hw1 => hend _ _ ov1 H1 locs1 ls1 h4 hw1 hl1)
    by_cases hk36 : sw = 36
    · refine lv_tableIn (off := 1131) (tgt := 1170) hx hb dL_law_39 (by rw [hk36]; decide) (by rw [hk36]; decide) (by rw [hk36]; decide) (by decide) ?_
      obtain ⟨zc, zm, h1, h2, h3, h4⟩ := s36 σc σm hR (xs (Int32.ofNat (5 * j) + 1).toNatClampNeg)
      exact n_k36 C hi hcs hw hl N zc zm h1 h2 h3 (fun H1 locs1 ls1 ov1 hl1 hw1 => hend _ _ ov1 H1 locs1 ls1 h4 hw1 hl1)
    by_cases hk37 : sw = 37
    · refine lv_tableIn (off := 1156) (tgt := 1195) hx hb dL_law_39 (by rw [hk37]; decide) (by rw [hk37]; decide) (by rw [hk37]; decide) (by decide) ?_
      obtain ⟨zc, zm, h1, h2, h3, h4⟩ := s37 σc σm hR (xs (Int32.ofNat (5 * j) + 1).toNatClampNeg)
      exact n_k37 C hi hcs hw hl N zc zm h1 h2 h3 (fun H1 locs1 ls1 ov1 hl1 hw1 => hend _ _ ov1 H1 locs1 ls1 h4 hw1 hl1)
    by_cases hk38 : sw = 38
    · refine lv_tableIn (off := 1181) (tgt := 1220) hx hb dL_law_39 (by rw [hk38]; decide) (by rw [hk38]; decide) (by rw [hk38]; decide) (by decide) ?_
      obtain ⟨zc, zm, h1, h2, h3, h4⟩ := s38 σc σm hR (xs (Int32.ofNat (5 * j) + 1).toNatClampNeg) (xs (Int32.ofNat (5 * j) + 2).toNatClampNeg)
      exact n_k38 C hi hcs hw hl N zc zm h1 h2 h3 (fun H1 locs1 ls1 ov1 hl1 hw1 => hend _ _ ov1 H1 locs1 ls1 h4 hw1 hl1)
    by_cases hk39 : sw = 39
    · refine lv_tableIn (off := 1218) (tgt := 1257) hx hb dL_law_39 (by rw [hk39]; decide) (by rw [hk39]; decide) (by rw [hk39]; decide) (by decide) ?_
      obtain ⟨zc, zm, h1, h2, h3, h4⟩ := s39 σc σm hR (xs (Int32.ofNat (5 * j) + 1).toNatClampNeg) (xs (Int32.ofNat (5 * j) + 2).toNatClampNeg) (xs (Int32.ofNat (5 * j) + 3).toNatClampNeg)
      exact n_k39 C hi hcs hw hl N zc zm h1 h2 h3 (fun H1 locs1 ls1 ov1 hl1 hw1 => hend _ _ ov1 H1 locs1 ls1 h4 hw1 hl1)
    by_cases hk40 : sw = 40
    · refine lv_tableIn (off := 1267) (tgt := 1306) hx hb dL_law_39 (by rw [hk40]; decide) (by rw [hk40]; decide) (by rw [hk40]; decide) (by decide) ?_
      obtain ⟨zc, zm, h1, h2, h3, h4⟩ := s40 σc σm hR (xs (Int32.ofNat (5 * j) + 1).toNatClampNeg) (xs (Int32.ofNat (5 * j) + 2).toNatClampNeg)
      exact n_k40 C hi hcs hw hl N zc zm h1 h2 h3 (fun H1 locs1 ls1 ov1 hl1 hw1 => hend _ _ ov1 H1 locs1 ls1 h4 hw1 hl1)
    by_cases hk41 : sw = 41
    · refine lv_tableIn (off := 1304) (tgt := 1343) hx hb dL_law_39 (by rw [hk41]; decide) (by rw [hk41]; decide) (by rw [hk41]; decide) (by decide) ?_
      obtain ⟨zc, zm, h1, h2, h3, h4⟩ := s41 σc σm hR (xs (Int32.ofNat (5 * j) + 1).toNatClampNeg) (xs (Int32.ofNat (5 * j) + 2).toNatClampNeg)
      exact n_k41 C hi hcs hw hl N zc zm h1 h2 h3 (fun H1 locs1 ls1 ov1 hl1 hw1 => hend _ _ ov1 H1 locs1 ls1 h4 hw1 hl1)
    by_cases hk42 : sw = 42
    · refine lv_tableIn (off := 1341) (tgt := 1380) hx hb dL_law_39 (by rw [hk42]; decide) (by rw [hk42]; decide) (by rw [hk42]; decide) (by decide) ?_
      obtain ⟨zc, zm, h1, h2, h3, h4⟩ := s42 σc σm hR
      exact n_k42 C hi hcs hw hl N zc zm h1 h2 h3 (fun H1 locs1 ls1 ov1 hl1 hw1 => hend _ _ ov1 H1 locs1 ls1 h4 hw1 hl1)
    by_cases hk43 : sw = 43
    · refine lv_tableIn (off := 1354) (tgt := 1393) hx hb dL_law_39 (by rw [hk43]; decide) (by rw [hk43]; decide) (by rw [hk43]; decide) (by decide) ?_
      obtain ⟨zc, zm, h1, h2, h3, h4⟩ := s43 σc σm hR (xs (Int32.ofNat (5 * j) + 1).toNatClampNeg) (xs (Int32.ofNat (5 * j) + 2).toNatClampNeg)
      exact n_k43 C hi hcs hw hl N zc zm h1 h2 h3 (fun H1 locs1 ls1 ov1 hl1 hw1 => hend _ _ ov1 H1 locs1 ls1 h4 hw1 hl1)
    by_cases hk44 : sw = 44
    · refine lv_tableIn (off := 1391) (tgt := 1430) hx hb dL_law_39 (by rw [hk44]; decide) (by rw [hk44]; decide) (by rw [hk44]; decide) (by decide) ?_
      obtain ⟨zc, zm, h1, h2, h3, h4⟩ := s44 σc σm hR (xs (Int32.ofNat (5 * j) + 1).toNatClampNeg)
      exact n_k44 C hi hcs hw hl N zc zm h1 h2 h3 (fun H1 locs1 ls1 ov1 hl1 hw1 => hend _ _ ov1 H1 locs1 ls1 h4 hw1 hl1)
    by_cases hk45 : sw = 45
    · refine lv_tableIn (off := 1416) (tgt := 1455) hx hb dL_law_39 (by rw [hk45]; decide) (by rw [hk45]; decide) (by rw [hk45]; decide) (by decide) ?_
      obtain ⟨zc, zm, h1, h2, h3, h4⟩ := s45 σc σm hR (xs (Int32.ofNat (5 * j) + 1).toNatClampNeg)
      exact n_k45 C hi hcs hw hl N zc zm h1 h2 h3 (fun H1 locs1 ls1 ov1 hl1 hw1 => hend _ _ ov1 H1 locs1 ls1 h4 hw1 hl1)
    by_cases hk46 : sw = 46
    · refine lv_tableIn (off := 1441) (tgt := 1480) hx hb dL_law_39 (by rw [hk46]; decide) (by rw [hk46]; decide) (by rw [hk46]; decide) (by decide) ?_
      obtain ⟨zc, zm, h1, h2, h3, h4⟩ := s46 σc σm hR (xs (Int32.ofNat (5 * j) + 1).toNatClampNeg)
      exact n_k46 C hi hcs hw hl N zc zm h1 h2 h3 (fun H1 locs1 ls1 ov1 hl1 hw1 => hend _ _ ov1 H1 locs1 ls1 h4 hw1 hl1)
    by_cases hk47 : sw = 47
    · refine lv_tableIn (off := 1466) (tgt := 1505) hx hb dL_law_39 (by rw [hk47]; decide) (by rw [hk47]; decide) (by rw [hk47]; decide) (by decide) ?_
      obtain ⟨zo, σc1, zm, zt, h1, h2, h3, h4, h5⟩ := s47 σc σm hR (xs (Int32.ofNat (5 * j) + 1).toNatClampNeg)
      exact n_k47 C hi hcs hw hl N zo σc1 zm zt h1 h2 h3 h4 (fun H1 locs1 ls1 ov1 hl1 hw1 => hend _ _ ov1 H1 locs1 ls1 h5 hw1 hl1)
    refine lv_tableOut (tgt := 1560) hx hb dL_law_39 (by have := lv_neT hk0 (a := 0) (by decide); have := lv_neT hk1 (a := 1) (by decide); have := lv_neT hk2 (a := 2) (by decide); have := lv_neT hk3 (a := 3) (by decide); have := lv_neT hk4 (a := 4) (by decide); have := lv_neT hk5 (a := 5) (by decide); have := lv_neT hk6 (a := 6) (by decide); have := lv_neT hk7 (a := 7) (by decide); have := lv_neT hk8 (a := 8) (by decide); have := lv_neT hk9 (a := 9) (by decide); have := lv_neT hk10 (a := 10) (by decide); have := lv_neT hk11 (a := 11) (by decide); have := lv_neT hk12 (a := 12) (by decide); have := lv_neT hk13 (a := 13) (by decide); have := lv_neT hk14 (a := 14) (by decide); have := lv_neT hk15 (a := 15) (by decide); have := lv_neT hk16 (a := 16) (by decide); have := lv_neT hk17 (a := 17) (by decide); have := lv_neT hk18 (a := 18) (by decide); have := lv_neT hk19 (a := 19) (by decide); have := lv_neT hk20 (a := 20) (by decide); have := lv_neT hk21 (a := 21) (by decide); have := lv_neT hk22 (a := 22) (by decide); have := lv_neT hk23 (a := 23) (by decide); have := lv_neT hk24 (a := 24) (by decide); have := lv_neT hk25 (a := 25) (by decide); have := lv_neT hk26 (a := 26) (by decide); have := lv_neT hk27 (a := 27) (by decide); have := lv_neT hk28 (a := 28) (by decide); have := lv_neT hk29 (a := 29) (by decide); have := lv_neT hk30 (a := 30) (by decide); have := lv_neT hk31 (a := 31) (by decide); have := lv_neT hk32 (a := 32) (by decide); have := lv_neT hk33 (a := 33) (by decide); have := lv_neT hk34 (a := 34) (by decide); have := lv_neT hk35 (a := 35) (by decide); have := lv_neT hk36 (a := 36) (by decide); have := lv_neT hk37 (a := 37) (by decide); have := lv_neT hk38 (a := 38) (by decide); have := lv_neT hk39 (a := 39) (by decide); have := lv_neT hk40 (a := 40) (by decide); have := lv_neT hk41 (a := 41) (by decide); have := lv_neT hk42 (a := 42) (by decide); have := lv_neT hk43 (a := 43) (by decide); have := lv_neT hk44 (a := 44) (by decide); have := lv_neT hk45 (a := 45) (by decide); have := lv_neT hk46 (a := 46) (by decide); have := lv_neT hk47 (a := 47) (by decide); omega) (by decide) ?_
    exact W.widen (by omega) (by omega) (hend σc σm ov H locs ls (hmono σc σm hR) hw hl)
end NLO
