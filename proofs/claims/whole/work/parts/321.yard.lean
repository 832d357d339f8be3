/-! PURE LAYER: yard, harvest, owed -/
theorem vok_right {B M F L R : Nat} {v : Nat → Int32} (h : vok B M F v) (h32 : v 32 = mI L) (hL : L ≤ R) (hR : R < F) (hM : M ≤ 8) (hF : F ≤ 16) : vok B M F (upV v 33 (mI R)) := by
  obtain ⟨x1, x2, ⟨L', R', x3, x4, x5, x6⟩, x7, d, x8, x9⟩ := h
  exact ⟨fun q hq => by rw [upV_ne (by omega)]; exact x1 q hq, fun f hf => by rw [upV_ne (by omega)]; exact x2 f hf, ⟨L, R, hL, hR, by rw [upV_ne (by omega)]; exact h32, by rw [upV_eq]⟩, by rw [upV_ne (by omega)]; exact x7, d, x8, by rw [upV_ne (by omega)]; exact x9⟩
theorem sub3 (x y p : Int32) : (x - p) - (y - p) = x - y := by
  apply Int32.toBitVec_inj.mp
  show (x.toBitVec - p.toBitVec) - (y.toBitVec - p.toBitVec) = x.toBitVec - y.toBitVec
  bv_omega
theorem n_s36_ok (N j : Nat) (hN : 500 < N) : n_s36 N (Rel N j) (Rel N (j + 1)) := by
  intro σc σm h a1
  have h := h.thr
  refine two ?_
  unfold f_X12_yard f_X11_yard
  simp only [jn_eq]
  generalize u_pI σm 0 8 0 = s1 at h ⊢
  have hmono := h.mono
  obtain ⟨M, F, ρ, hC, hTo⟩ := h
  obtain ⟨b1, b2, b3, b4, b5, b6, b7⟩ := id hC.1
  have v1 : (1 : Nat) = 1 ∨ (1 : Nat) = 10 ∨ (1 : Nat) = 11 ∨ (1 : Nat) = 12 := by omega
  have v11 : (11 : Nat) = 1 ∨ (11 : Nat) = 10 ∨ (11 : Nat) = 11 ∨ (11 : Nat) = 12 := by omega
  have v12 : (12 : Nat) = 1 ∨ (12 : Nat) = 10 ∨ (12 : Nat) = 11 ∨ (12 : Nat) = 12 := by omega
  rw [m_in, o_bind]
  by_cases c1 : a1 < 0
  · rw [if_pos c1, if_pos c1, if_pos rfl, ok_some, ok_some]
    exact ⟨rfl, hmono⟩
  by_cases c2 : 60 < a1
  · rw [if_neg c1, if_neg (Int32.not_le.mpr c2), if_neg c1, if_pos c2, if_pos rfl, ok_some, ok_some]
    exact ⟨rfl, hmono⟩
  obtain ⟨n, -, hn, rfl⟩ := rng (p := a1) (lo := 0) (hi := 60) (by omega) (by omega) c1 c2
  obtain ⟨L, R, l1, l2, l3, l4⟩ := b7.2.2.1
  have e32 : σc.1 32 6 = mI L := by rw [b6.2.2.2.2.2.1]; exact l3
  have e33 : σc.1 32 7 = mI R := by rw [b6.2.2.2.2.2.2.1]; exact l4
  rw [if_neg c1, if_pos (Int32.not_lt.mp c2), if_neg c1, if_neg c2, if_neg n10, vr32 v1, o_bind, vr33 v1, o_bind, l3, l4, e32, e33]
  by_cases c3 : L = R
  · rw [if_neg (by rw [mI_lt (by omega) (by omega)]; omega), if_pos (by rw [c3]), ok_some, ok_some]
    exact ⟨rfl, hmono⟩
  rw [if_pos (by rw [mI_lt (by omega) (by omega)]; omega), if_neg (by rw [mI_eq (by omega) (by omega)]; exact c3), ok_bind]
  have hu : upV (s1.1 1) 33 (mI R) = s1.1 1 := by rw [← l4]; exact upV_self
  have ht := c_try (N := N) (B := 600 * j) (n := n) (x := mI R) hC fr.rfl (by rw [hu]; exact b7) (by omega) hN
  rw [hu] at ht
  have hvR : vok (600 * j) M F (upV (s1.1 1) 33 (mI (R - 1))) := vok_right b7 l3 (by omega) (by omega) b1 b3
  refine ok_mono ht (fun z hz => ?_)
  obtain ⟨z1, z2⟩ := hz
  have ez : z.2.1 32 7 - 1 = mI (R - 1) := by rw [z2.2.1 32 (by unfold scr; omega), e33]; exact mI_pred (by omega) (by omega)
  rw [ez, ok_bind]
  refine ok_mono (c_try (N := N) (B := 600 * j) (n := n) hC z2.2 hvR (by omega) hN) (fun y hy => ?_)
  obtain ⟨y1, y2⟩ := hy
  rw [c_two, o_bind, ok_some, ok_bind]
  refine ok_mono (TM.start (Or.inl rfl) mfr.rfl hN) (fun t1 ht1 => ?_)
  rw [ok_bind]
  refine ok_mono (ht1.1.crosses (Or.inl rfl) hC b7 (show n < 500 by omega) hN) (fun w hw => ?_)
  obtain ⟨w1, w2, w3⟩ := hw
  rw [ok_bind]
  refine ok_mono (TM.start (Or.inr rfl) w2.2 hN) (fun t2 ht2 => ?_)
  obtain ⟨ht2, ht3⟩ := ht2
  have e12 : t2.1 12 33 - 1 = mI (R - 1) := by rw [ht2.1 33 (by omega), l4]; exact mI_pred (by omega) (by omega)
  rw [vr33 v12, o_bind, vw33 v12, o_bind, e12, ok_bind]
  have ht4 : TM s1 12 (upV (s1.1 1) 33 (mI (R - 1))) (u_pI t2 12 33 (mI (R - 1))) := by
    refine ⟨fun k hk => ?_, ht2.2.pI (by omega) (by unfold scrM; omega)⟩
    by_cases hk2 : k = 33
    · rw [hk2, p_II, upV_eq]
    · rw [p_Is hk2, upV_ne hk2]; exact ht2.1 k hk
  refine ok_mono (ht4.crosses (Or.inr rfl) hC hvR (show n < 500 by omega) hN) (fun x hx => ?_)
  obtain ⟨x1, x2, x3⟩ := hx
  have e11 : x.2.1 11 36 = crossN ρ (s1.1 2) M F (s1.1 1) n 36 := by
    rw [x3 11 (by omega) (by omega) (by omega) (by omega), p_Ia (by omega), ht3 11 (by omega)]; exact w2.1 36 (by omega)
  have e12' : x.2.1 12 36 = crossN ρ (s1.1 2) M F (upV (s1.1 1) 33 (mI (R - 1))) n 36 := x2.1 36 (by omega)
  have e1 : x.2.1 1 36 = s1.1 1 36 := by rw [x2.2.1 1 (by omega) (by unfold scrM; omega)]
  simp (disch := omega) only [u_jn, o_bind, o_nck, o_ckT, not_false_eq_true, mI_le, mI_lt, mI_eq, mI_succ, mI_8, mI_16, mI_add, i10, eq_self, if_true, if_false, Bool.false_eq_true, m_tell0, m_tell1, vr36 v11, vr36 v12, vr36 v1, mT1_a, mT2_a, p_Ia, e11, e12', e1, ok_some]
  refine ⟨?_, ?_⟩
  · show z.1 - y.1 = _
    rw [z1, y1]
    exact sub3 (crossN ρ (s1.1 2) M F (s1.1 1) n 36) (crossN ρ (s1.1 2) M F (upV (s1.1 1) 33 (mI (R - 1))) n 36) (s1.1 1 36)
  · rw [z1, y1]; exact rel_look2 hC y2.2 x2.2 _ _
theorem n_s37_ok (N j : Nat) (hN : 500 < N) : n_s37 N (Rel N j) (Rel N (j + 1)) := by
  intro σc σm h a1
  have h := h.thr
  refine two ?_
  unfold f_X12_harvest f_X11_harvest
  simp only [u_jn]
  generalize u_pI σm 0 8 0 = s1 at h ⊢
  have hmono := h.mono
  obtain ⟨M, F, ρ, hC, hTo⟩ := h
  obtain ⟨b1, b2, b3, b4, b5, b6, b7⟩ := id hC.1
  rw [m_in, o_bind]
  by_cases c1 : a1 < 0
  · rw [if_pos c1, if_pos c1, if_pos rfl, ok_some, ok_some]
    exact ⟨rfl, hmono⟩
  by_cases c2 : 60 < a1
  · rw [if_neg c1, if_neg (Int32.not_le.mpr c2), if_neg c1, if_pos c2, if_pos rfl, ok_some, ok_some]
    exact ⟨rfl, hmono⟩
  obtain ⟨n, -, hn, rfl⟩ := rng (p := a1) (lo := 0) (hi := 60) (by omega) (by omega) c1 c2
  rw [if_neg c1, if_pos (Int32.not_lt.mp c2), if_neg c1, if_neg c2, if_neg n10, ok_bind]
  obtain ⟨r, hr, hr2⟩ := hC.hasR
  refine ok_mono (TC.start hC fr.rfl) (fun s hs => ?_)
  rw [hs.corn b2 b3 hN, o_bind, ok_swap, ok_bind]
  refine ok_mono (TM.start (Or.inl rfl) mfr.rfl hN) (fun t ht => ?_)
  rw [ht.1.corn (Or.inl rfl) hC hN, o_bind, ok_swap]
  refine lpr44 (fun k y1 y2 y3 y4 z1 z2 z3 z4 => TC M F σc s1 (crossN ρ (s1.1 2) M F (s1.1 1) k) y1 ∧ TM s1 11 (crossN ρ (s1.1 2) M F (s1.1 1) k) z1 ∧ y2 = z2 ∧ y3 = z3 ∧ y4 = mI (k + 1) ∧ z4 = mI (k + 1)) n N _ _ _ _ _ _ _ _ (by omega) ?_ ⟨hs, ht.1, rfl, rfl, rfl, rfl⟩
  rintro k y1 y2 y3 y4 z1 z2 z3 z4 rec rec2 hk ⟨i1, i2, rfl, rfl, rfl, rfl⟩ hrec
  unfold b_X11_harvest_36 b_X12_harvest_50
  by_cases hlt : k < n
  · have hv := vok_crossN (ρ := ρ) (e := s1.1 2) b1 b3 b7 k
    rw [if_neg (by rw [mI_lt (by omega) (by omega)]; omega), i1.ru hr, o_bind, o_ck hr2, ok_bind]
    refine ok_mono (i1.cross (n := 1) hC hr hv (by omega) hN) (fun s2 hs2 => ?_)
    have hs3 : TC M F σc s1 (crossN ρ (s1.1 2) M F (s1.1 1) (k + 1)) s2.2 := hs2.2
    rw [ok_swap, if_neg (by rw [mI_lt (by omega) (by omega)]; omega), ok_bind]
    refine ok_mono (i2.cross (Or.inl rfl) hC hv hN) (fun t2 ht2 => ?_)
    have ht3 : TM s1 11 (crossN ρ (s1.1 2) M F (s1.1 1) (k + 1)) t2.2 := ht2.2
    simp only [u_jn, hs3.corn b2 b3 hN, ht3.corn (Or.inl rfl) hC hN, o_bind, mI_succ]
    generalize sSum (fun j => crossN ρ (s1.1 2) M F (s1.1 1) (k + 1) (16 + j)) F = X
    rw [ok_swap]
    by_cases hx : X ≤ y3
    · rw [if_pos hx, if_neg (Int32.not_lt.mpr hx)]
      exact hrec _ _ _ _ _ _ _ _ hlt ⟨hs3, ht3, rfl, rfl, rfl, rfl⟩
    · rw [if_neg hx, if_pos (Int32.not_le.mp hx)]
      exact hrec _ _ _ _ _ _ _ _ hlt ⟨hs3, ht3, rfl, rfl, rfl, rfl⟩
  · have hkn : k = n := by omega
    subst hkn
    rw [if_pos (by rw [mI_lt (by omega) (by omega)]; omega), if_pos (by rw [mI_lt (by omega) (by omega)]; omega)]
    simp only [u_jn]
    rw [c_one, o_bind, ok_some]
    rw [m_tell0, o_bind, ok_some]
    exact ⟨rfl, rel_look1 hC i1.2 i2.2 _⟩
theorem n_s38_ok (N j : Nat) (hN : 500 < N) : n_s38 N (Rel N j) (Rel N (j + 1)) := by
  intro σc σm h a1 a2
  have h := h.thr
  refine two ?_
  unfold f_X12_owed f_X11_owed
  simp only [u_jn]
  generalize u_pI σm 0 8 0 = s1 at h ⊢
  have hmono := h.mono
  obtain ⟨M, F, ρ, hC, hTo⟩ := h
  obtain ⟨b1, b2, b3, b4, b5, b6, b7⟩ := id hC.1
  have v11 : (11 : Nat) = 1 ∨ (11 : Nat) = 10 ∨ (11 : Nat) = 11 ∨ (11 : Nat) = 12 := by omega
  rw [m_in, c_isFurrow b6.2.2.2.2.1 b3, m_isFurrow b4 b3, o_bind, o_bind, o_bind]
  cases hs1 : smb a1 F
  · simp only [Bool.false_eq_true, if_false, if_true, ok_some]
    exact ⟨trivial, hmono⟩
  obtain ⟨p, hp, rfl⟩ := smb_is hs1
  simp only [if_true, i10, if_false]
  by_cases c1 : a2 < 0
  · rw [if_pos c1, if_pos c1, if_pos rfl, ok_some, ok_some]
    exact ⟨rfl, hmono⟩
  by_cases c2 : 60 < a2
  · rw [if_neg c1, if_neg (Int32.not_le.mpr c2), if_neg c1, if_pos c2, if_pos rfl, ok_some, ok_some]
    exact ⟨rfl, hmono⟩
  obtain ⟨n, -, hn, rfl⟩ := rng (p := a2) (lo := 0) (hi := 60) (by omega) (by omega) c1 c2
  rw [if_neg c1, if_pos (Int32.not_lt.mp c2), if_neg c1, if_neg c2, if_neg n10, ok_bind]
  obtain ⟨r, hr, hr2⟩ := hC.hasR
  refine ok_mono (TC.start hC fr.rfl) (fun s hs => ?_)
  rw [ok_swap, ok_bind]
  refine ok_mono (TM.start (Or.inl rfl) mfr.rfl hN) (fun t ht => ?_)
  rw [ok_swap]
  refine lpr44 (fun k y1 y2 y3 y4 z1 z2 z3 z4 => TC M F σc s1 (crossN ρ (s1.1 2) M F (s1.1 1) k) y1 ∧ TM s1 11 (crossN ρ (s1.1 2) M F (s1.1 1) k) z1 ∧ y2 = z2 ∧ y3 = z3 ∧ y4 = mI k ∧ z4 = mI k) n N _ _ _ _ _ _ _ _ (by omega) ?_ ⟨hs, ht.1, rfl, rfl, rfl, rfl⟩
  rintro k y1 y2 y3 y4 z1 z2 z3 z4 rec rec2 hk ⟨i1, i2, rfl, rfl, rfl, rfl⟩ hrec
  unfold b_X11_owed_42 b_X12_owed_45
  have hv := vok_crossN (ρ := ρ) (e := s1.1 2) b1 b3 b7 k
  have e39 : y1.1 39 p = crossN ρ (s1.1 2) M F (s1.1 1) k (16 + p) := i1.1.2.2.2.1 p hp
  have e11 : z1.1 11 (16 + p) = crossN ρ (s1.1 2) M F (s1.1 1) k (16 + p) := i2.1 (16 + p) (by omega)
  by_cases hlt : k < n
  · obtain ⟨L, R, l1, l2, l3, l4⟩ := hv.2.2.1
    have fin : ∀ x : Int32, ok ((u_ck (isR r) ((f_X7_cross N y1 38 1 r).bind fun v22 => rec v22.2 (y2 + x) (y3 + if x ≤ 0 then 0 else 1) (mI k + 1)))) (fun a => ok ((f_X12_goCrossing N z1 11).bind fun v25 => rec2 v25.2 (y2 + x) (y3 + if x ≤ 0 then 0 else 1) (mI k + 1)) (fun b => a.1 = b.1 ∧ Rel N (j + 1) a.2 b.2)) := by
      intro x
      rw [o_ck hr2, ok_bind]
      refine ok_mono (i1.cross (n := 1) hC hr hv (by omega) hN) (fun s2 hs2 => ?_)
      have hs3 : TC M F σc s1 (crossN ρ (s1.1 2) M F (s1.1 1) (k + 1)) s2.2 := hs2.2
      rw [ok_swap, ok_bind]
      refine ok_mono (i2.cross (Or.inl rfl) hC hv hN) (fun t2 ht2 => ?_)
      have ht3 : TM s1 11 (crossN ρ (s1.1 2) M F (s1.1 1) (k + 1)) t2.2 := ht2.2
      rw [ok_swap, mI_succ]
      exact hrec _ _ _ _ _ _ _ _ hlt ⟨hs3, ht3, rfl, rfl, rfl, rfl⟩
    rw [if_neg (by rw [mI_le (by omega) (by omega)]; omega), if_neg (by rw [mI_le (by omega) (by omega)]; omega), c_isOfRope (N := N) (σ := y1) (i := 38) (L := L) (R := R) (k := p) (by rw [i1.1.2.2.2.2.2.1]; exact l3) (by rw [i1.1.2.2.2.2.2.2.1]; exact l4) (by omega) (by omega) (by omega), m_isRope (N := N) (L := L) (R := R) (k := p) v11 (by rw [i2.1 32 (by omega)]; exact l3) (by rw [i2.1 33 (by omega)]; exact l4) (by omega) (by omega) (by omega)]
    simp only [o_bind, u_jn, i1.ru hr, i1.inside b1 hN, i2.inB (Or.inl rfl) hC hN, cr_39 (show p < 16 by omega), mI_16, vr v11 (show 16 + p < 37 by omega), e39, e11]
    by_cases hL : L ≤ p ∧ p ≤ R
    · by_cases h0 : sIn (crossN ρ (s1.1 2) M F (s1.1 1) k) (s1.1 2) M = 0
      · have := fin 0
        simp only [if_pos hL, i10, if_false, h0, if_true, Int32.le_refl] at this ⊢
        exact this
      · have := fin (crossN ρ (s1.1 2) M F (s1.1 1) k (16 + p))
        by_cases h1 : crossN ρ (s1.1 2) M F (s1.1 1) k (16 + p) ≤ 0
        · simp only [if_pos hL, i10, if_false, h0, h1, if_true] at this ⊢
          exact this
        · simp only [if_pos hL, i10, if_false, h0, h1] at this ⊢
          exact this
    · have := fin 0
      simp only [if_neg hL, if_true, Int32.le_refl] at this ⊢
      exact this
  · have hkn : k = n := by omega
    subst hkn
    rw [if_pos (by rw [mI_le (by omega) (by omega)]; omega), if_pos (by rw [mI_le (by omega) (by omega)]; omega)]
    simp only [u_jn]
    rw [cr_39 (show p < 16 by omega), o_bind, c_two, o_bind, ok_some]
    rw [m_tell0, o_bind, mI_16, vr v11 (show 16 + p < 37 by omega), o_bind, m_tell1, o_bind, ok_some, mT1_a (by omega), e39, e11]
    exact ⟨rfl, rel_look2 hC i1.2 i2.2 _ _⟩
