/-! PURE LAYER: glance, rope, sow -/
theorem mAct_gen {σm s3 s4 : uS} {U : Nat} {v' : Nat → Int32} (h1 : s3.1 0 21 = mI (nx U + 1)) (h2 : ∀ u, u < nx U → ∀ j, j < 37 → s3.1 9 (37 * u + j) = σm.1 9 (37 * (u + sh U) + j)) (h3 : ∀ j, j < 37 → s3.1 9 (37 * nx U + j) = σm.1 1 j) (h4 : mfr (fun c => c = 9) (fun s => s = 21) σm s3) (hf : mfr (fun c => c = 1 ∨ c = 8 ∨ c = 13) T0 s3 s4) (hV : ∀ j, j < 37 → s4.1 1 j = v' j) : mAct σm s4 v' U := by
  have e9 : s4.1 9 = s3.1 9 := hf.1 9 (by omega) (by omega)
  refine ⟨hV, by rw [hf.2.1 21 (by unfold T0; omega)]; exact h1, fun u hu j hj => by rw [e9]; exact h2 u hu j hj, fun j hj => by rw [e9]; exact h3 j hj, fun c hc => by rw [hf.1 c (by omega) (by omega)]; exact h4.1 c (by omega) (by omega), fun s hs => by rw [hf.2.1 s (by unfold T0; omega)]; exact h4.2.1 s (by omega), fun s hs => by rw [hf.2.2.2 0 s (by omega)]; exact h4.2.2.2 0 s (by omega)⟩
theorem rTold_act {σc σm s2 s3c s3 s4 : uS} (h : rTold σc σm) (h1 : s3c.1 3 = σc.1 3) (h2 : s3c.2.1 = σc.2.1) (h4 : mfr (fun c => c = 9) (fun s => s = 21) σm s3) (hf : mfr (fun c => c = 1 ∨ c = 8 ∨ c = 13) T0 s3 s4) : rTold s3c s4 := h.to (by rw [h1]) (by rw [h2]) (by rw [hf.2.2.1, h4.2.2.1]) (by rw [hf.2.1 7 (by unfold T0; omega)]; exact h4.2.1 7 (by omega))
theorem n_s10_ok (N j : Nat) (hN : 500 < N) : n_s10 N (Rel N j) (Rel N (j + 1)) := by
  intro σc σm h a1 a2
  have h := h.thr
  refine two ?_
  unfold f_X12_glance f_X11_glance
  simp only [u_jn]
  generalize u_pI σm 0 8 0 = s1 at h ⊢
  obtain ⟨M, F, ρ, hC, hTo⟩ := h
  obtain ⟨b1, b2, b3, b4, b5, b6, b7⟩ := id hC.1
  obtain ⟨U, hU12, hU⟩ := hC.U
  have v1 : (1 : Nat) = 1 ∨ (1 : Nat) = 10 ∨ (1 : Nat) = 11 ∨ (1 : Nat) = 12 := Or.inl rfl
  rw [ok_bind]
  refine ok_mono (c_ahead hC) (fun s hs => ?_)
  obtain ⟨c44, c32, hf⟩ := hs
  obtain ⟨t1, t2, t3, t4, t5, t6, t7, t8, t9, t10, t11⟩ := id c32
  unfold f_X7_turnEyes
  rw [c_isPerson t8 b1, c_isPerson t8 b1, m_areTwo b5 b1]
  have ne1 : (-1 : Int32) < 0 := by decide
  cases hs1 : smb a1 M
  · simp (disch := omega) only [u_jn, o_bind, o_nck, o_ckT, not_false_eq_true, mI_le, mI_lt, mI_eq, mI_succ, mI_8, mI_16, mI_add, i10, eq_self, if_true, if_false, Bool.false_eq_true, f_X11_acted, ne1, ok_some, false_and]
    exact ⟨trivial, rel_ahead hC hTo hf⟩
  cases hs2 : smb a2 M
  · simp (disch := omega) only [u_jn, o_bind, o_nck, o_ckT, not_false_eq_true, mI_le, mI_lt, mI_eq, mI_succ, mI_8, mI_16, mI_add, i10, eq_self, if_true, if_false, Bool.false_eq_true, f_X11_acted, ne1, ok_some, false_and, and_false]
    exact ⟨trivial, rel_ahead hC hTo hf⟩
  by_cases hpq : a1 = a2
  · simp (disch := omega) only [u_jn, o_bind, o_nck, o_ckT, not_false_eq_true, mI_le, mI_lt, mI_eq, mI_succ, mI_8, mI_16, mI_add, i10, eq_self, if_true, if_false, Bool.false_eq_true, f_X11_acted, ne1, ok_some, hpq, ne_eq, not_true, and_false]
    exact ⟨trivial, rel_ahead hC hTo hf⟩
  obtain ⟨p, hp, rfl⟩ := smb_is hs1
  obtain ⟨q, hq, rfl⟩ := smb_is hs2
  have t2p := t2 p hp
  have e8 : (u_pI s (32 + 5) p (s1.1 1 (8 + p) ^^^ (1 <<< (mI q &&& 31)))).1 32 8 = mI M := by rw [p_Ia (by omega)]; exact t8
  have hbc : ∀ x : Int32, ¬ bc (x &&& sAll M) < 0 := fun x => by rw [bc_all b1]; exact mI_n0 (by have := cnt_le x M; omega)
  have hpq' : (mI p = mI q) = False := eq_false hpq
  simp (disch := omega) only [u_jn, o_bind, o_nck, o_ckT, not_false_eq_true, mI_le, mI_lt, mI_eq, mI_succ, mI_8, mI_16, mI_add, i10, eq_self, if_true, if_false, Bool.false_eq_true, hpq', ne_eq, and_self, f_X11_acted, sr_5 (σ := s) (i := 32) (by omega) (by omega) (by omega) (show p < 8 by omega), sw_5 (σ := s) (i := 32) (by omega) (by omega) (by omega) (show p < 8 by omega), t2p, c_seenBy (N := N) (i := 32) (by omega) (by omega) (by omega) e8 (show p < 8 by omega), bc_f, p_II, hbc, ok_bind]
  have h32' := cS_up (k := 8 + p) (x := s1.1 1 (8 + p) ^^^ (1 <<< (mI q &&& 31))) b1 b3 c32 (Or.inr (Or.inr (Or.inl ⟨rfl, by omega, rfl⟩)))
  have hv' := vok_le (B' := 600 * (j + 1)) (vok_dg (k := 8 + p) (x := s1.1 1 (8 + p) ^^^ (1 <<< (mI q &&& 31))) b1 b3 b7 (by omega) (Or.inr (by omega))) (by omega)
  obtain ⟨s3, hr1, hr2, hr3, hr4, hr5⟩ := m_remember (N := N) v1 hU12 hU (fun _ _ => rfl) hN
  have e1 : s3.1 1 (8 + p) = s1.1 1 (8 + p) := by rw [hr5.1 1 (by omega) (by omega)]
  have hff : mfr (fun c => c = 1 ∨ c = 8 ∨ c = 13) T0 s3 (u_pI s3 1 (8 + p) (s1.1 1 (8 + p) ^^^ (1 <<< (mI q &&& 31)))) := mfr.rfl.pI (by omega) (Or.inl rfl)
  refine ok_mono (act_rel hC h32' (c44.fr (S := fun a => a = 37) (fr.rfl.pI rfl) (by omega) (by omega) (by omega) (by omega) (by omega)) ⟨fun a x y _ _ _ _ => ?_, ?_⟩ hv' hU hU12 (mAct_gen hr2 hr3 hr4 hr5 hff (fun k hk => ?_)) hN) (fun s4 hs4 => ?_)
  · rw [p_Ia (by omega)]; exact hf.1 a (by omega)
  · rw [p_IL]; exact hf.2
  · by_cases hk2 : k = 8 + p
    · rw [hk2, p_II, upV_eq]
    · rw [p_Is hk2, upV_ne hk2, hr5.1 1 (by omega) (by omega)]
  · have em : (u_pI s3 1 (8 + p) (s1.1 1 (8 + p) ^^^ (1 <<< (mI q &&& 31)))).1 0 2 = mI M := by rw [p_Ia (by omega), hr5.2.1 2 (by omega)]; exact b5
    simp (disch := omega) only [u_jn, o_bind, o_nck, o_ckT, not_false_eq_true, mI_le, mI_lt, mI_eq, mI_succ, mI_8, mI_16, mI_add, i10, eq_self, if_true, if_false, Bool.false_eq_true, hr1, f_X12_goGlance, vr v1, vw v1, e1, m_sees (N := N) v1 em (show p < 8 by omega), bc_f, p_II, ok_some]
    refine ⟨trivial, M, F, ρ, hs4.1, rTold_act (s2 := s) hTo ?_ hs4.2.2 hr5 hff⟩
    rw [hs4.2.1 3 (by omega) (by omega), p_Ia (by omega), hf.1 3 (by omega)]
theorem n_s11_ok (N j : Nat) (hN : 500 < N) : n_s11 N (Rel N j) (Rel N (j + 1)) := by
  intro σc σm h a1 a2
  have h := h.thr
  refine two ?_
  unfold f_X12_rope f_X11_rope
  simp only [u_jn]
  generalize u_pI σm 0 8 0 = s1 at h ⊢
  obtain ⟨M, F, ρ, hC, hTo⟩ := h
  obtain ⟨b1, b2, b3, b4, b5, b6, b7⟩ := id hC.1
  obtain ⟨U, hU12, hU⟩ := hC.U
  have v1 : (1 : Nat) = 1 ∨ (1 : Nat) = 10 ∨ (1 : Nat) = 11 ∨ (1 : Nat) = 12 := Or.inl rfl
  rw [ok_bind]
  refine ok_mono (c_ahead hC) (fun s hs => ?_)
  obtain ⟨c44, c32, hf⟩ := hs
  obtain ⟨t1, t2, t3, t4, t5, t6, t7, t8, t9, t10, t11⟩ := id c32
  unfold f_X7_moveRope
  rw [c_isFurrow t5 b3, c_isFurrow t5 b3, m_isFurrow b4 b3, m_isFurrow b4 b3]
  have ne1 : (-1 : Int32) < 0 := by decide
  have ne2 : (-2 : Int32) < 0 := by decide
  cases hs1 : smb a1 F
  · simp (disch := omega) only [u_jn, o_bind, o_nck, o_ckT, not_false_eq_true, mI_le, mI_lt, mI_eq, mI_succ, mI_8, mI_16, mI_add, i10, eq_self, if_true, if_false, Bool.false_eq_true, f_X11_acted, ne1, ok_some]
    exact ⟨trivial, rel_ahead hC hTo hf⟩
  cases hs2 : smb a2 F
  · simp (disch := omega) only [u_jn, o_bind, o_nck, o_ckT, not_false_eq_true, mI_le, mI_lt, mI_eq, mI_succ, mI_8, mI_16, mI_add, i10, eq_self, if_true, if_false, Bool.false_eq_true, f_X11_acted, ne1, ok_some]
    exact ⟨trivial, rel_ahead hC hTo hf⟩
  obtain ⟨p, hp, rfl⟩ := smb_is hs1
  obtain ⟨q, hq, rfl⟩ := smb_is hs2
  by_cases hpq : p ≤ q
  · have hpos : mI q - mI p + 1 = mI (q - p + 1) := by
      apply Int32.toInt_inj.mp
      rw [mI_int (by omega), Int32.toInt_add, Int32.toInt_sub, mI_int (by omega), mI_int (by omega)]
      rw [Int.bmod_eq_of_le (n := (q : Int) - p) (by omega) (by omega)]
      show Int.bmod ((q : Int) - p + 1) (2 ^ 32) = _
      rw [Int.bmod_eq_of_le (by omega) (by omega)]
      omega
    simp (disch := omega) only [u_jn, o_bind, o_nck, o_ckT, not_false_eq_true, mI_le, mI_lt, mI_eq, mI_succ, mI_8, mI_16, mI_add, i10, eq_self, if_true, if_false, Bool.false_eq_true, hpq, f_X11_acted, hpos, mI_n0 (show q - p + 1 < 1000000 by omega), ok_bind]
    have h32' := cS_up (k := 33) (x := mI q) b1 b3 (cS_up (k := 32) (x := mI p) b1 b3 c32 (Or.inl ⟨rfl, Or.inl ⟨rfl, rfl⟩⟩)) (Or.inl ⟨rfl, Or.inr (Or.inl ⟨rfl, rfl⟩)⟩)
    have hv' : vok (600 * (j + 1)) M F (upV (upV (s1.1 1) 32 (mI p)) 33 (mI q)) := by
      obtain ⟨x1, x2, ⟨L, R, x3, x4, x5, x6⟩, x7, d, x8, x9⟩ := b7
      exact ⟨fun q hq => by rw [upV_ne (by omega), upV_ne (by omega)]; exact x1 q hq, fun f hf => by rw [upV_ne (by omega), upV_ne (by omega)]; exact x2 f hf, ⟨p, q, hpq, hq, by rw [upV_ne (by omega), upV_eq], by rw [upV_eq]⟩, by rw [upV_ne (by omega), upV_ne (by omega)]; exact x7, d, by omega, by rw [upV_ne (by omega), upV_ne (by omega)]; exact x9⟩
    obtain ⟨s3, hr1, hr2, hr3, hr4, hr5⟩ := m_remember (N := N) v1 hU12 hU (fun _ _ => rfl) hN
    have hff : mfr (fun c => c = 1 ∨ c = 8 ∨ c = 13) T0 s3 (u_pI (u_pI s3 1 32 (mI p)) 1 33 (mI q)) := (mfr.rfl.pI (by omega) (Or.inl rfl)).pI (by omega) (Or.inl rfl)
    refine ok_mono (act_rel hC h32' (c44.fr (S := fun a => a = 32) (((fr.rfl (S := fun a => a = 32)).pI rfl).pI rfl) (by omega) (by omega) (by omega) (by omega) (by omega)) ⟨fun a x y _ _ _ _ => ?_, ?_⟩ hv' hU hU12 (mAct_gen hr2 hr3 hr4 hr5 hff (fun k hk => ?_)) hN) (fun s4 hs4 => ?_)
    · rw [p_Ia (by omega), p_Ia (by omega)]; exact hf.1 a (by omega)
    · rw [p_IL, p_IL]; exact hf.2
    · by_cases hk2 : k = 33
      · rw [hk2, p_II, upV_eq]
      · rw [p_Is hk2, upV_ne hk2]
        by_cases hk3 : k = 32
        · rw [hk3, p_II, upV_eq]
        · rw [p_Is hk3, upV_ne hk3, hr5.1 1 (by omega) (by omega)]
    · simp (disch := omega) only [u_jn, o_bind, o_nck, o_ckT, not_false_eq_true, mI_le, mI_lt, mI_eq, mI_succ, mI_8, mI_16, mI_add, i10, eq_self, if_true, if_false, Bool.false_eq_true, hr1, vw32 v1, vw33 v1, ok_some]
      refine ⟨trivial, M, F, ρ, hs4.1, rTold_act (s2 := s) hTo ?_ hs4.2.2 hr5 hff⟩
      rw [hs4.2.1 3 (by omega) (by omega), p_Ia (by omega), p_Ia (by omega), hf.1 3 (by omega)]
  · simp (disch := omega) only [u_jn, o_bind, o_nck, o_ckT, not_false_eq_true, mI_le, mI_lt, mI_eq, mI_succ, mI_8, mI_16, mI_add, i10, eq_self, if_true, if_false, Bool.false_eq_true, hpq, f_X11_acted, ne2, ok_some]
    exact ⟨trivial, rel_ahead hC hTo hf⟩
theorem n_s12_ok (N j : Nat) (hN : 500 < N) : n_s12 N (Rel N j) (Rel N (j + 1)) := by
  intro σc σm h a1 a2
  have h := h.thr
  refine two ?_
  unfold f_X12_sow f_X11_sow
  simp only [u_jn]
  generalize u_pI σm 0 8 0 = s1 at h ⊢
  obtain ⟨M, F, ρ, hC, hTo⟩ := h
  obtain ⟨b1, b2, b3, b4, b5, b6, b7⟩ := id hC.1
  obtain ⟨U, hU12, hU⟩ := hC.U
  have v1 : (1 : Nat) = 1 ∨ (1 : Nat) = 10 ∨ (1 : Nat) = 11 ∨ (1 : Nat) = 12 := Or.inl rfl
  rw [ok_bind]
  refine ok_mono (c_ahead hC) (fun s hs => ?_)
  obtain ⟨c44, c32, hf⟩ := hs
  obtain ⟨t1, t2, t3, t4, t5, t6, t7, t8, t9, t10, t11⟩ := id c32
  unfold f_X7_sowCorn
  rw [c_isFurrow t5 b3, m_isFurrow b4 b3, m_in]
  have ne1 : (-1 : Int32) < 0 := by decide
  cases hs1 : smb a1 F
  · simp (disch := omega) only [u_jn, o_bind, o_nck, o_ckT, not_false_eq_true, mI_le, mI_lt, mI_eq, mI_succ, mI_8, mI_16, mI_add, i10, eq_self, if_true, if_false, Bool.false_eq_true, f_X11_acted, ne1, ok_some]
    exact ⟨trivial, rel_ahead hC hTo hf⟩
  obtain ⟨p, hp, rfl⟩ := smb_is hs1
  by_cases c1 : a2 < 1
  · simp (disch := omega) only [u_jn, o_bind, o_nck, o_ckT, not_false_eq_true, mI_le, mI_lt, mI_eq, mI_succ, mI_8, mI_16, mI_add, i10, eq_self, if_true, if_false, Bool.false_eq_true, c1, f_X11_acted, ne1, ok_some]
    exact ⟨trivial, rel_ahead hC hTo hf⟩
  by_cases c2 : 9 < a2
  · simp (disch := omega) only [u_jn, o_bind, o_nck, o_ckT, not_false_eq_true, mI_le, mI_lt, mI_eq, mI_succ, mI_8, mI_16, mI_add, i10, eq_self, if_true, if_false, Bool.false_eq_true, c1, c2, Int32.not_le.mpr c2, f_X11_acted, ne1, ok_some]
    exact ⟨trivial, rel_ahead hC hTo hf⟩
  obtain ⟨n, hn, hn2⟩ := b7.2.1 p hp
  have hd : dg (if s1.1 1 (16 + p) + a2 < 9 then s1.1 1 (16 + p) + a2 else 9) := by
    have x1 : ¬ a2.toInt < (1 : Int32).toInt := fun h => c1 (Int32.lt_iff_toInt_lt.mpr h)
    have x2 : ¬ (9 : Int32).toInt < a2.toInt := fun h => c2 (Int32.lt_iff_toInt_lt.mpr h)
    have y1 : (1 : Int32).toInt = 1 := rfl
    have y9 : (9 : Int32).toInt = 9 := rfl
    have ea : a2 = mI a2.toInt.toNat := by
      apply Int32.toInt_inj.mp
      rw [mI_int (by omega)]; omega
    rw [hn2, ea, mI_add]
    by_cases h9 : n + a2.toInt.toNat < 9
    · rw [if_pos (by rw [show (9 : Int32) = mI 9 from rfl, mI_lt (by omega) (by omega)]; exact h9)]; exact ⟨_, by omega, rfl⟩
    · rw [if_neg (by rw [show (9 : Int32) = mI 9 from rfl, mI_lt (by omega) (by omega)]; exact h9)]; exact ⟨9, by omega, rfl⟩
  have hnn : ¬ (if s1.1 1 (16 + p) + a2 < 9 then s1.1 1 (16 + p) + a2 else 9) < 0 := by
    obtain ⟨m, hm, hm2⟩ := hd
    rw [hm2]; exact mI_n0 (by omega)
  have t4p := t4 p hp
  simp (disch := omega) only [u_jn, o_bind, o_nck, o_ckT, not_false_eq_true, mI_le, mI_lt, mI_eq, mI_succ, mI_8, mI_16, mI_add, i10, eq_self, if_true, if_false, Bool.false_eq_true, c1, c2, Int32.not_lt.mp c2, f_X11_acted, sr_1 (σ := s) (i := 32) (by omega) (by omega) (by omega) (show p < 16 by omega), sw_1 (σ := s) (i := 32) (by omega) (by omega) (by omega) (show p < 16 by omega), t4p]
  rw [sr_1 (i := 32) (by omega) (by omega) (by omega) (show p < 16 by omega), o_bind, p_II, o_bind]
  simp only [hnn, if_false, ok_bind]
  have h32' := cS_up (k := 16 + p) (x := (if s1.1 1 (16 + p) + a2 < 9 then s1.1 1 (16 + p) + a2 else 9)) b1 b3 c32 (Or.inr (Or.inr (Or.inr ⟨rfl, by omega, rfl⟩)))
  have hv' := vok_le (B' := 600 * (j + 1)) (vok_dg (k := 16 + p) b1 b3 b7 (by omega) (Or.inl hd)) (by omega)
  obtain ⟨s3, hr1, hr2, hr3, hr4, hr5⟩ := m_remember (N := N) v1 hU12 hU (fun _ _ => rfl) hN
  have e1 : s3.1 1 (16 + p) = s1.1 1 (16 + p) := by rw [hr5.1 1 (by omega) (by omega)]
  have hff : mfr (fun c => c = 1 ∨ c = 8 ∨ c = 13) T0 s3 (u_pI s3 1 (16 + p) (if s1.1 1 (16 + p) + a2 < 9 then s1.1 1 (16 + p) + a2 else 9)) := mfr.rfl.pI (by omega) (Or.inl rfl)
  refine ok_mono (act_rel hC h32' (c44.fr (S := fun a => a = 33) (fr.rfl.pI rfl) (by omega) (by omega) (by omega) (by omega) (by omega)) ⟨fun a x y _ _ _ _ => ?_, ?_⟩ hv' hU hU12 (mAct_gen hr2 hr3 hr4 hr5 hff (fun k hk => ?_)) hN) (fun s4 hs4 => ?_)
  · rw [p_Ia (by omega)]; exact hf.1 a (by omega)
  · rw [p_IL]; exact hf.2
  · by_cases hk2 : k = 16 + p
    · rw [hk2, p_II, upV_eq]
    · rw [p_Is hk2, upV_ne hk2, hr5.1 1 (by omega) (by omega)]
  · simp (disch := omega) only [u_jn, o_bind, o_nck, o_ckT, not_false_eq_true, mI_le, mI_lt, mI_eq, mI_succ, mI_8, mI_16, mI_add, i10, eq_self, if_true, if_false, Bool.false_eq_true, c1, c2, hr1, vr v1, vw v1, e1, p_II, ok_some]
    refine ⟨trivial, M, F, ρ, hs4.1, rTold_act (s2 := s) hTo ?_ hs4.2.2 hr5 hff⟩
    rw [hs4.2.1 3 (by omega) (by omega), p_Ia (by omega), hf.1 3 (by omega)]
