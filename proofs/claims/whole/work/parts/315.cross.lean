/-! PURE LAYER: crossing -/
theorem rng {p : Int32} {lo hi : Nat} (hl : lo < 1000000) (hh : hi < 1000000) (h1 : ¬ p < mI lo) (h2 : ¬ mI hi < p) : ∃ n, lo ≤ n ∧ n ≤ hi ∧ p = mI n := by
  have x1 : ¬ p.toInt < (mI lo).toInt := fun h => h1 (Int32.lt_iff_toInt_lt.mpr h)
  have x2 : ¬ (mI hi).toInt < p.toInt := fun h => h2 (Int32.lt_iff_toInt_lt.mpr h)
  rw [mI_int hl] at x1
  rw [mI_int hh] at x2
  refine ⟨p.toInt.toNat, by omega, by omega, ?_⟩
  apply Int32.toInt_inj.mp
  rw [mI_int (by omega)]; omega
/-- what stands now is another row, and nothing else is -/
theorem RelC.now {N j M F : Nat} {ρ : Rho} {σc σm s2 sm : uS} {v' : Nat → Int32} (h : RelC N j M F ρ σc σm) (h32 : cS s2 32 M F v' (σm.1 2)) (hc : cAct σc s2) (hv : vok (600 * (j + 1)) M F v') (hm : mfr (fun c => c = 1 ∨ c = 8 ∨ c = 13) T0 σm sm) (hV : ∀ k, k < 37 → sm.1 1 k = v' k) : RelC N (j + 1) M F ρ s2 sm := by
  obtain ⟨a1, a2, a3, a4, a5, a6⟩ := h
  obtain ⟨b1, b2, b3, b4, b5, b6, b7⟩ := a1
  have hrr := a6.r
  have hqq := a6.q
  have e2 : sm.1 2 = σm.1 2 := hm.1 2 (by omega) (by omega)
  have cc : ∀ a, a < 22 ∨ 50 ≤ a → s2.1 a = σc.1 a := fun a h => hc.1 a (by omega) (by omega) (by omega) (by omega) (by omega) (by omega)
  have ss : ∀ s, s < 10 ∨ 18 < s → sm.1 0 s = σm.1 0 s := fun s h => hm.2.1 s (by unfold T0; omega)
  refine ⟨⟨b1, b2, b3, by rw [ss 1 (by omega)]; exact b4, by rw [ss 2 (by omega)]; exact b5, ?_, vok_congr b1 b3 (fun j hj => (hV j hj).symm) hv⟩, a2.to (by rw [cc 1 (by omega)]) (cc 2 (by omega)) (hm.1 3 (by omega) (by omega)) (ss 5 (by omega)), a3.to (cc 8 (by omega)) (hm.1 16 (by omega) (by omega)) (ss 29 (by omega)) (ss 30 (by omega)), a4.to (by omega) (fun a x y => cc a (by omega)) (by rw [cc 5 (by omega)]) (by rw [hc.2]) (hm.1 9 (by omega) (by omega)) e2 (ss 21 (by omega)), a5.to (by omega) (by omega) (fun a x y => cc a (by omega)) (by rw [cc 5 (by omega)]) (by rw [hc.2]) (hm.1 18 (by omega) (by omega)) e2 (hm.1 19 (by omega) (by omega)) (hm.1 20 (by omega) (by omega)) (ss 33 (by omega)), a6.to (fun r hr => ?_) (by rw [hc.2]) (fun q hq => ?_) (hm.2.2.2 0 15 (by omega)) (hm.2.2.2 0 16 (by omega)) (hm.2.1 17 (by unfold T0; omega))⟩
  · rw [e2]; exact cS_congr b1 b3 (fun j hj => (hV j hj).symm) (fun _ _ => rfl) h32
  · have := hrr r hr
    exact ⟨hc.1 r (by omega) (by omega) (by omega) (by omega) (by omega) (by omega), hc.1 (r + 1) (by omega) (by omega) (by omega) (by omega) (by omega) (by omega)⟩
  · have := hqq q hq
    exact hm.1 q (by omega) (by omega)
/-- told last: only THE ROW changes -/
theorem RelC.told2 {N j M F : Nat} {ρ : Rho} {σc σm : uS} (h : RelC N j M F ρ σc σm) (x y : Int64) : RelC N j M F ρ (cT2 σc x y) (mT2 σm x y) := by
  obtain ⟨a1, a2, a3, a4, a5, a6⟩ := h
  have hrr := a6.r
  have hqq := a6.q
  exact ⟨a1.to (Nat.le_refl _) (fun a x y => cT2_a (by omega)) (mT2_a (by omega)) (mT2_a (by omega)) (mT2_s (by omega)) (mT2_s (by omega)), a2.to (by rw [cT2_a (by omega)]) (cT2_a (by omega)) (mT2_a (by omega)) (mT2_s (by omega)), a3.to (cT2_a (by omega)) (mT2_a (by omega)) (mT2_s (by omega)) (mT2_s (by omega)), a4.to (Nat.le_refl _) (fun a x y => cT2_a (by omega)) (by rw [cT2_a (by omega)]) rfl (mT2_a (by omega)) (mT2_a (by omega)) (mT2_s (by omega)), a5.to (Nat.le_refl _) (Nat.le_refl _) (fun a x y => cT2_a (by omega)) (by rw [cT2_a (by omega)]) rfl (mT2_a (by omega)) (mT2_a (by omega)) (mT2_a (by omega)) (mT2_a (by omega)) (mT2_s (by omega)), a6.to (fun r hr => ⟨cT2_a (by have := hrr r hr; omega), cT2_a (by have := hrr r hr; omega)⟩) rfl (fun q hq => mT2_a (by have := hqq q hq; omega)) rfl rfl (mT2_s (by omega))⟩
theorem RelC.told1 {N j M F : Nat} {ρ : Rho} {σc σm : uS} (h : RelC N j M F ρ σc σm) (x : Int64) : RelC N j M F ρ (cT1 σc x) (mT1 σm x) := by
  obtain ⟨a1, a2, a3, a4, a5, a6⟩ := h
  have hrr := a6.r
  have hqq := a6.q
  exact ⟨a1.to (Nat.le_refl _) (fun a x y => cT1_a (by omega)) (mT1_a (by omega)) (mT1_a (by omega)) (mT1_s (by omega)) (mT1_s (by omega)), a2.to (by rw [cT1_a (by omega)]) (cT1_a (by omega)) (mT1_a (by omega)) (mT1_s (by omega)), a3.to (cT1_a (by omega)) (mT1_a (by omega)) (mT1_s (by omega)) (mT1_s (by omega)), a4.to (Nat.le_refl _) (fun a x y => cT1_a (by omega)) (by rw [cT1_a (by omega)]) rfl (mT1_a (by omega)) (mT1_a (by omega)) (mT1_s (by omega)), a5.to (Nat.le_refl _) (Nat.le_refl _) (fun a x y => cT1_a (by omega)) (by rw [cT1_a (by omega)]) rfl (mT1_a (by omega)) (mT1_a (by omega)) (mT1_a (by omega)) (mT1_a (by omega)) (mT1_s (by omega)), a6.to (fun r hr => ⟨cT1_a (by have := hrr r hr; omega), cT1_a (by have := hrr r hr; omega)⟩) rfl (fun q hq => mT1_a (by have := hqq q hq; omega)) rfl rfl (mT1_s (by omega))⟩
theorem isR_of {r : Nat} (h : r = 22 ∨ r = 27) : isR r := h
theorem n_s8_ok (N j : Nat) (hN : 500 < N) : n_s8 N (Rel N j) (Rel N (j + 1)) := by
  intro σc σm h a1
  have h := h.thr
  refine two ?_
  unfold f_X12_crossing f_X11_crossing
  simp only [u_jn]
  generalize u_pI σm 0 8 0 = s1 at h ⊢
  have hmono := h.mono
  obtain ⟨M, F, ρ, hC, hTo⟩ := h
  obtain ⟨b1, b2, b3, b4, b5, b6, b7⟩ := id hC.1
  obtain ⟨U, hU12, hU⟩ := hC.U
  have v1 : (1 : Nat) = 1 ∨ (1 : Nat) = 10 ∨ (1 : Nat) = 11 ∨ (1 : Nat) = 12 := Or.inl rfl
  rw [m_in, o_bind]
  by_cases c1 : a1 < 0
  · simp (disch := omega) only [u_jn, o_bind, o_nck, o_ckT, not_false_eq_true, mI_le, mI_lt, mI_eq, mI_succ, mI_8, mI_16, mI_add, i10, eq_self, if_true, if_false, Bool.false_eq_true, c1, ok_some]
    exact ⟨trivial, hmono⟩
  by_cases c2 : 60 < a1
  · simp (disch := omega) only [u_jn, o_bind, o_nck, o_ckT, not_false_eq_true, mI_le, mI_lt, mI_eq, mI_succ, mI_8, mI_16, mI_add, i10, eq_self, if_true, if_false, Bool.false_eq_true, c1, c2, Int32.not_le.mpr c2, ok_some]
    exact ⟨trivial, hmono⟩
  obtain ⟨n, hn0, hn, rfl⟩ := rng (p := a1) (lo := 0) (hi := 60) (by omega) (by omega) c1 c2
  rw [if_neg c1, if_pos (Int32.not_lt.mp c2), if_neg c1, if_neg c2, if_neg (show ¬ (1 : Int32) = 0 by decide), ok_bind]
  refine ok_mono (c_ahead hC) (fun s hs => ?_)
  obtain ⟨c44, c32, hf⟩ := hs
  obtain ⟨r, r', q, q', g1, g2, g3, g4, g5, g6, g7, g8, g9, g10, g11⟩ := id hC.2.2.2.2.2
  rw [hf.2, g1, o_bind]
  refine ok_ck (isR_of g5.1) ?_
  rw [ok_bind]
  have hr := g5.1
  refine ok_mono (c_cross (B := 600 * j) (by omega) (by omega) (by omega) (g5.fr hf (by omega) (by omega)) c32 b7 b1 b3 (show n < 500 by omega) hN) (fun z hz => ?_)
  obtain ⟨z1, z2, z3⟩ := hz
  have hv' : vok (600 * (j + 1)) M F (crossN ρ (s1.1 2) M F (s1.1 1) n) := vok_le (vok_crossN b1 b3 b7 n) (by omega)
  have hcA : cAct σc z.2 := ⟨fun a x y x1 x2 x3 x4 => by rw [z3.1 a (by omega)]; exact hf.1 a (by omega), by rw [z3.2]; exact hf.2⟩
  have z44 : cS z.2 44 M F (s1.1 1) (s1.1 2) := c44.fr z3 (by omega) (by omega) (by omega) (by omega) (by omega)
  have e44 : z.2.1 44 11 = s1.1 1 36 := z44.2.2.2.2.2.2.2.2.2.2
  have e32 : z.2.1 32 11 = crossN ρ (s1.1 2) M F (s1.1 1) n 36 := z2.2.2.2.2.2.2.2.2.2.2
  have hin : ∀ sc : uS, cS sc 32 M F (crossN ρ (s1.1 2) M F (s1.1 1) n) (s1.1 2) → ∀ x y, f_X7_howManyIn N (cT2 sc x y) 32 = some (bc (sIn (crossN ρ (s1.1 2) M F (s1.1 1) n) (s1.1 2) M)) := by
    intro sc hsc x y
    have hsc2 : cS (cT2 sc x y) 32 M F (crossN ρ (s1.1 2) M F (s1.1 1) n) (s1.1 2) := cS_eq hsc (fun a _ _ => cT2_a (by omega))
    rw [c_howManyIn (by omega) (by omega) (by omega) hsc2.2.2.2.2.2.2.2.1 b1 hN, sIn_cS hsc2]
  by_cases h0 : n = 0
  · subst h0
    have hle : mI 0 ≤ 0 := by decide
    rw [if_pos hle, e44, e32, c_two, o_bind, hin _ z2, o_bind, ok_some, if_pos hle, vr36 v1, o_bind, ok_bind]
    refine ok_mono (m_goCrossings v1 b5 b4 b1 b3 (fun _ _ => rfl) b7 hC.2.2.2.2.2.mR (show 0 < 500 by omega) hN) (fun w hw => ?_)
    obtain ⟨w1, w2, w3⟩ := hw
    have hM2 : RelC N (j + 1) M F ρ z.2 w.2 := hC.now z2 hcA hv' w3 w2
    have e36 : (u_pI w.2 0 7 0).1 1 36 = crossN ρ (s1.1 2) M F (s1.1 1) 0 36 := by rw [p_Ia (by omega)]; exact w2 36 (by omega)
    have eI : ∀ x y, f_X12_inBits N (mT2 w.2 x y) 1 = some (sIn (crossN ρ (s1.1 2) M F (s1.1 1) 0) (s1.1 2) M) := fun x y => by
      rw [m_inBits v1 (by rw [mT2_s (by omega), w3.2.1 2 (by unfold T0; omega)]; exact b5) b1 hN, mT2_a (by omega), mT2_a (by omega), sIn_mV (v := crossN ρ (s1.1 2) M F (s1.1 1) 0) w2 b1, w3.1 2 (by omega) (by omega)]
    simp (disch := omega) only [u_jn, o_bind, o_nck, o_ckT, not_false_eq_true, mI_le, mI_lt, mI_eq, mI_succ, mI_8, mI_16, mI_add, i10, eq_self, if_true, if_false, Bool.false_eq_true, vr36 v1, e36, m_tell0, m_tell1, eI, bc_f, ok_some]
    refine ⟨trivial, M, F, ρ, ?_, ?_⟩
    · rw [z1, w1]; exact hM2.told2 _ _
    · rw [z1, w1]; exact rTold_2 _ _
  · have hle : ¬ mI n ≤ 0 := by rw [show (0 : Int32) = mI 0 from rfl, mI_le (by omega) (by omega)]; omega
    rw [if_neg hle, ok_bind]
    obtain ⟨s3, hr1, hr2, hr3, hr4, hr5⟩ := m_remember (N := N) v1 hU12 hU (fun _ _ => rfl) hN
    have e1 : s3.1 1 = s1.1 1 := hr5.1 1 (by omega) (by omega)
    have e2 : s3.1 2 = s1.1 2 := hr5.1 2 (by omega) (by omega)
    have hR3 : mR N s3 ρ := hC.2.2.2.2.2.mR.fr hr5 (by omega) (by omega) (by omega)
    obtain ⟨w, hw0, w1, w2, w3⟩ := m_goCrossings (N := N) (σ := s3) (a := 1) (v := s1.1 1) (B := 600 * j) (n := n) v1 (by rw [hr5.2.1 2 (by omega)]; exact b5) (by rw [hr5.2.1 1 (by omega)]; exact b4) b1 b3 (fun k _ => by rw [e1]) b7 hR3 (by omega) hN
    rw [e2] at w1 w2
    refine ok_mono (act_rel hC z2 z44 hcA hv' hU hU12 (mAct_gen hr2 hr3 hr4 hr5 w3 w2) hN) (fun s4 hs4 => ?_)
    obtain ⟨k1, k2, k3⟩ := hs4
    have z2' : cS s4 32 M F (crossN ρ (s1.1 2) M F (s1.1 1) n) (s1.1 2) := cS_eq z2 (fun a _ _ => k2 a (by omega) (by omega))
    rw [k2 32 (by omega) (by omega), k2 44 (by omega) (by omega), e44, e32, c_two, o_bind, hin _ z2', o_bind, ok_some, if_neg hle, hr1, o_bind, vr36 v1, o_bind, hw0, o_bind]
    have e36 : (u_pI w.2 0 7 0).1 1 36 = crossN ρ (s1.1 2) M F (s1.1 1) n 36 := by rw [p_Ia (by omega)]; exact w2 36 (by omega)
    have eI : ∀ x y, f_X12_inBits N (mT2 w.2 x y) 1 = some (sIn (crossN ρ (s1.1 2) M F (s1.1 1) n) (s1.1 2) M) := fun x y => by
      rw [m_inBits v1 (by rw [mT2_s (by omega), w3.2.1 2 (by unfold T0; omega), hr5.2.1 2 (by omega)]; exact b5) b1 hN, mT2_a (by omega), mT2_a (by omega), sIn_mV (v := crossN ρ (s1.1 2) M F (s1.1 1) n) w2 b1, w3.1 2 (by omega) (by omega), e2]
    simp (disch := omega) only [u_jn, o_bind, o_nck, o_ckT, not_false_eq_true, mI_le, mI_lt, mI_eq, mI_succ, mI_8, mI_16, mI_add, i10, eq_self, if_true, if_false, Bool.false_eq_true, vr36 v1, e36, m_tell0, m_tell1, eI, bc_f, ok_some, e1]
    refine ⟨trivial, M, F, ρ, ?_, ?_⟩
    · rw [z1, w1]; exact k1.told2 _ _
    · rw [z1, w1]; exact rTold_2 _ _
