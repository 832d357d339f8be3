/-! PURE LAYER: furrow, person, row, end, forget, dig, keep, again, undo -/
theorem Rel.thrx {N j : Nat} {σc σm : uS} (h : Rel N j σc σm) (x : Int32) : Rel N j σc (u_pI σm 0 8 x) := by
  obtain ⟨M, F, ρ, ⟨a1, a2, a3, a4, a5, a6⟩, h2⟩ := h
  have hq := a6.q
  refine ⟨M, F, ρ, ⟨a1.to (Nat.le_refl _) (fun _ _ _ => rfl) (p_Ia (by omega)) (p_Ia (by omega)) (p_Is (by omega)) (p_Is (by omega)), a2.to rfl rfl (p_Ia (by omega)) (p_Is (by omega)), a3.to rfl (p_Ia (by omega)) (p_Is (by omega)) (p_Is (by omega)), a4.to (Nat.le_refl _) (fun _ _ _ => rfl) rfl rfl (p_Ia (by omega)) (p_Ia (by omega)) (p_Is (by omega)), a5.to (Nat.le_refl _) (Nat.le_refl _) (fun _ _ _ => rfl) rfl rfl (p_Ia (by omega)) (p_Ia (by omega)) (p_Ia (by omega)) (p_Ia (by omega)) (p_Is (by omega)), a6.to (fun _ _ => ⟨rfl, rfl⟩) rfl (fun q h => p_Ia (by have := hq q h; omega)) rfl rfl (p_Is (by omega))⟩, h2.to rfl rfl rfl (p_Is (by omega))⟩
theorem three {α β γ : Type} {x : Option α} {y : Option β} {f : β → Option γ} {P : α → β → γ → Prop} (h : ok x (fun a => ok y (fun b => ok (f b) (fun c => P a b c)))) : ∃ a b c, x = some a ∧ y = some b ∧ f b = some c ∧ P a b c := by
  obtain ⟨a, h1, b, h2, c, h3, h4⟩ := h
  exact ⟨a, b, c, h1, h2, h3, h4⟩
theorem n_s5_ok (N j : Nat) (hN : 500 < N) : n_s5 N (Rel N j) (Rel N (j + 1)) := by
  intro σc σm h a1 a2
  have h := h.thr
  suffices hh : ∃ a b c, f_X11_furrow N σc a1 a2 = some a ∧ f_X12_furrow N σm a1 a2 = some b ∧ f_X12_thrown N b.2 = some c ∧ (n_q a.1 c b.1 ∧ Rel N (j + 1) a.2 b.2) by
    obtain ⟨a, b, c, x1, x2, x3, x4, x5⟩ := hh
    exact ⟨a.1, a.2, b, c, x1, x2, x3, x4, x5⟩
  refine three ?_
  unfold f_X12_furrow f_X11_furrow f_X12_thrown f_X12_lost
  simp only [u_jn]
  have e8 : (u_pI σm 0 8 0).1 0 8 = 0 := p_II _ _ _ _
  generalize u_pI σm 0 8 0 = s1 at h e8 ⊢
  have hmono := h.mono
  have hmono1 := hmono.thrx 1
  obtain ⟨M, F, ρ, hC, hTo⟩ := h
  obtain ⟨b1, b2, b3, b4, b5, b6, b7⟩ := id hC.1
  obtain ⟨t1, t2, t3, t4, t5, t6, t7, t8, t9, t10, t11⟩ := id b6
  have v1 : (1 : Nat) = 1 ∨ (1 : Nat) = 10 ∨ (1 : Nat) = 11 ∨ (1 : Nat) = 12 := Or.inl rfl
  rw [c_isFurrow t5 b3, m_isFurrow b4 b3, m_in]
  cases hs1 : smb a1 F
  · simp (disch := omega) only [u_jn, o_bind, o_nck, o_ckT, not_false_eq_true, mI_le, mI_lt, mI_eq, mI_succ, mI_8, mI_16, mI_add, i10, eq_self, if_true, if_false, Bool.false_eq_true, ok_some, p_II]
    exact ⟨rfl, hmono1⟩
  obtain ⟨p, hp, rfl⟩ := smb_is hs1
  by_cases c1 : a2 < 0
  · simp (disch := omega) only [u_jn, o_bind, o_nck, o_ckT, not_false_eq_true, mI_le, mI_lt, mI_eq, mI_succ, mI_8, mI_16, mI_add, i10, eq_self, if_true, if_false, Bool.false_eq_true, c1, ok_some, p_II]
    exact ⟨rfl, hmono1⟩
  by_cases c2 : 1 < a2
  · simp (disch := omega) only [u_jn, o_bind, o_nck, o_ckT, not_false_eq_true, mI_le, mI_lt, mI_eq, mI_succ, mI_8, mI_16, mI_add, i10, eq_self, if_true, if_false, Bool.false_eq_true, c1, c2, Int32.not_le.mpr c2, ok_some, p_II]
    exact ⟨rfl, hmono1⟩
  by_cases c3 : a2 = 0
  · simp (disch := omega) only [u_jn, o_bind, o_nck, o_ckT, not_false_eq_true, mI_le, mI_lt, mI_eq, mI_succ, mI_8, mI_16, mI_add, i10, eq_self, if_true, if_false, Bool.false_eq_true, c1, c2, c3, Int32.not_lt.mp c2, cr_33, t4 p hp, vr v1, ok_some, e8, show ¬ (1 : Int32) < 0 by decide, show ¬ (0 : Int32) < 0 by decide, show (0 : Int32) ≤ 1 by decide, show ¬ (1 : Int32) < 0 by decide]
    exact ⟨⟨rfl, rfl⟩, hmono⟩
  · obtain ⟨L, R, x3, x4, x5, x6⟩ := b7.2.2.1
    simp (disch := omega) only [u_jn, o_bind, o_nck, o_ckT, not_false_eq_true, mI_le, mI_lt, mI_eq, mI_succ, mI_8, mI_16, mI_add, i10, eq_self, if_true, if_false, Bool.false_eq_true, c1, c2, c3, Int32.not_lt.mp c2, c_isOfRope (N := N) (σ := σc) (i := 32) (L := L) (R := R) (k := p) (by rw [t6]; exact x5) (by rw [t7]; exact x6), m_isRope (N := N) (L := L) (R := R) (k := p) v1 x5 x6]
    by_cases hr : L ≤ p ∧ p ≤ R
    · simp (disch := omega) only [u_jn, o_bind, o_nck, o_ckT, not_false_eq_true, mI_le, mI_lt, mI_eq, mI_succ, mI_8, mI_16, mI_add, i10, eq_self, if_true, if_false, Bool.false_eq_true, hr, and_self, ok_some, e8]
      exact ⟨⟨rfl, rfl⟩, hmono⟩
    · simp (disch := omega) only [u_jn, o_bind, o_nck, o_ckT, not_false_eq_true, mI_le, mI_lt, mI_eq, mI_succ, mI_8, mI_16, mI_add, i10, eq_self, if_true, if_false, Bool.false_eq_true, hr, ok_some, e8]
      exact ⟨⟨rfl, rfl⟩, hmono⟩
theorem n_s47_ok (N j : Nat) (hN : 500 < N) : n_s47 N (Rel N j) (Rel N (j + 1)) := by
  intro σc σm h a1
  have h := h.thr
  suffices hh : ∃ a b c, f_X11_row N σc a1 = some a ∧ f_X12_row N σm a1 = some b ∧ f_X12_thrown N b.2 = some c ∧ (n_q a.1 c b.1 ∧ Rel N (j + 1) a.2 b.2) by
    obtain ⟨a, b, c, x1, x2, x3, x4, x5⟩ := hh
    exact ⟨a.1, a.2, b, c, x1, x2, x3, x4, x5⟩
  refine three ?_
  unfold f_X12_row f_X11_row f_X12_thrown f_X12_lost f_X8_number
  simp only [u_jn]
  have e8 : (u_pI σm 0 8 0).1 0 8 = 0 := p_II _ _ _ _
  generalize u_pI σm 0 8 0 = s1 at h e8 ⊢
  have hmono := h.mono
  have hmono1 := hmono.thrx 1
  obtain ⟨M, F, ρ, hC, ⟨K, k1, k2, k3, k4⟩⟩ := h
  rw [m_in, k2, k3]
  simp only [lt0, m1_lt (show K < 1000000 by omega), o_bind]
  by_cases c1 : a1.toInt < 0
  · simp (disch := omega) only [u_jn, o_bind, o_nck, o_ckT, not_false_eq_true, mI_le, mI_lt, mI_eq, mI_succ, mI_8, mI_16, mI_add, i10, eq_self, if_true, if_false, Bool.false_eq_true, c1, ok_some, p_II]
    exact ⟨rfl, hmono1⟩
  by_cases c2 : (K : Int) ≤ a1.toInt
  · have c3 : ¬ a1 < mI K := by rw [Int32.lt_iff_toInt_lt, mI_int (by omega)]; omega
    simp (disch := omega) only [u_jn, o_bind, o_nck, o_ckT, not_false_eq_true, mI_le, mI_lt, mI_eq, mI_succ, mI_8, mI_16, mI_add, i10, eq_self, if_true, if_false, Bool.false_eq_true, c1, c2, c3, ok_some, p_II]
    exact ⟨rfl, hmono1⟩
  have c3 : a1 < mI K := by rw [Int32.lt_iff_toInt_lt, mI_int (by omega)]; omega
  obtain ⟨p, -, hp, rfl⟩ := rng (p := a1) (lo := 0) (hi := K - 1) (by omega) (by omega) (by rw [Int32.lt_iff_toInt_lt]; exact c1) (by rw [Int32.lt_iff_toInt_lt, mI_int (by omega)]; omega)
  have c2' := c2
  rw [mI_int (by omega)] at c2'
  have hpK : p < K := by omega
  simp only [if_neg c1, if_pos c3, if_neg c2]
  simp (disch := omega) only [u_jn, o_bind, o_nck, o_ckT, not_false_eq_true, mI_le, mI_lt, mI_eq, mI_succ, mI_8, mI_16, mI_add, i10, eq_self, if_true, if_false, Bool.false_eq_true, cl_4, show ¬ 16 ≤ p by omega, cr_4, mr_4, ok_some, e8]
  exact ⟨⟨rfl, k4 p hpK⟩, hmono⟩
theorem n_s1_ok (N j : Nat) (hN : 500 < N) : n_s1 N (Rel N j) (Rel N (j + 1)) := by
  intro σc σm h a1
  have h := h.thr
  refine two ?_
  unfold f_X12_end f_X11_end
  simp only [u_jn]
  generalize u_pI σm 0 8 0 = s1 at h ⊢
  have hmono := h.mono
  obtain ⟨M, F, ρ, ⟨a1', ⟨T, d1, d2, d3, d4⟩, a3, a4, a5, a6⟩, hTo⟩ := h
  rw [m_in, d2, d3]
  by_cases c1 : a1 < 0
  · simp (disch := omega) only [u_jn, o_bind, o_nck, o_ckT, not_false_eq_true, mI_le, mI_lt, mI_eq, mI_succ, mI_8, mI_16, mI_add, i10, eq_self, if_true, if_false, Bool.false_eq_true, c1, ok_some]
    exact ⟨trivial, hmono⟩
  by_cases c2 : mI T < a1
  · simp (disch := omega) only [u_jn, o_bind, o_nck, o_ckT, not_false_eq_true, mI_le, mI_lt, mI_eq, mI_succ, mI_8, mI_16, mI_add, i10, eq_self, if_true, if_false, Bool.false_eq_true, c1, c2, Int32.not_le.mpr c2, ok_some]
    exact ⟨trivial, hmono⟩
  obtain ⟨n, -, hn, rfl⟩ := rng (p := a1) (lo := 0) (hi := T) (by omega) (by omega) c1 c2
  simp only [if_neg c1, if_pos (Int32.not_lt.mp c2), if_neg c2, o_bind, ok_some, i10, if_false]
  have hq := a6.q
  have hr := a6.r
  refine ⟨trivial, M, F, ρ, ⟨a1'.to (by omega) (fun a x y => p_Ia (by omega)) (p_Ia (by omega)) (p_Ia (by omega)) (p_Is (by omega)) (p_Is (by omega)), ⟨n, by omega, p_II _ _ _ _, p_II _ _ _ _, fun k hk => ?_⟩, a3.to (p_Ia (by omega)) (p_Ia (by omega)) (p_Is (by omega)) (p_Is (by omega)), a4.to (by omega) (fun a x y => p_Ia (by omega)) (by rw [p_Ia (by omega)]) rfl (p_Ia (by omega)) (p_Ia (by omega)) (p_Is (by omega)), a5.to (by omega) (by omega) (fun a x y => p_Ia (by omega)) (by rw [p_Ia (by omega)]) rfl (p_Ia (by omega)) (p_Ia (by omega)) (p_Ia (by omega)) (p_Ia (by omega)) (p_Is (by omega)), a6.to (fun r h => ⟨p_Ia (by have := hr r h; omega), p_Ia (by have := hr r h; omega)⟩) rfl (fun q h => p_Ia (by have := hq q h; omega)) rfl rfl (p_Is (by omega))⟩, hTo.to (by rw [p_Ia (by omega)]) rfl rfl (p_Is (by omega))⟩
  rw [p_Ia (by omega), p_Ia (by omega)]; exact d4 k (by omega)
theorem n_s30_ok (N j : Nat) (hN : 500 < N) : n_s30 N (Rel N j) (Rel N (j + 1)) := by
  intro σc σm h
  have h := h.thr
  refine two ?_
  unfold f_X12_forget f_X11_forget f_X0_clear
  simp only [u_jn]
  generalize u_pI σm 0 8 0 = s1 at h ⊢
  obtain ⟨M, F, ρ, ⟨a1', a2, ⟨D, d1, d2, d3, d4, d5, d6⟩, a4, a5, a6⟩, hTo⟩ := h
  simp (disch := omega) only [u_jn, o_bind, o_nck, o_ckT, not_false_eq_true, mI_le, mI_lt, mI_eq, mI_succ, mI_8, mI_16, mI_add, i10, eq_self, if_true, if_false, Bool.false_eq_true, ok_some]
  have hq := a6.q
  have hr := a6.r
  have pc : ∀ a, a ≠ 8 → (u_pI (u_pI (u_pI σc 8 0 0) 8 1 0) 8 2 0).1 a = σc.1 a := fun a h => by rw [p_Ia h, p_Ia h, p_Ia h]
  refine ⟨d2.trans d3.symm, M, F, ρ, ⟨a1'.to (by omega) (fun a x y => pc a (by omega)) (p_Ia (by omega)) (p_Ia (by omega)) (p_Is (by omega)) (p_Is (by omega)), a2.to (by rw [pc 1 (by omega)]) (pc 2 (by omega)) (p_Ia (by omega)) (p_Is (by omega)), ⟨0, by omega, by rw [p_Is (by omega), p_Is (by omega), p_II]; rfl, by rw [p_II]; rfl, fun k hk => absurd hk (by omega), by rw [p_Is (by omega), p_II]; rfl, by rw [p_II]; rfl⟩, a4.to (by omega) (fun a x y => pc a (by omega)) (by rw [pc 5 (by omega)]) rfl (p_Ia (by omega)) (p_Ia (by omega)) (p_Is (by omega)), a5.to (by omega) (by omega) (fun a x y => pc a (by omega)) (by rw [pc 5 (by omega)]) rfl (p_Ia (by omega)) (p_Ia (by omega)) (p_Ia (by omega)) (p_Ia (by omega)) (p_Is (by omega)), a6.to (fun r h => ⟨pc r (by have := hr r h; omega), pc (r + 1) (by have := hr r h; omega)⟩) rfl (fun q h => p_Ia (by have := hq q h; omega)) rfl rfl (p_Is (by omega))⟩, hTo.to (by rw [pc 3 (by omega)]) rfl rfl (p_Is (by omega))⟩
theorem n_s6_ok (N j : Nat) (hN : 500 < N) : n_s6 N (Rel N j) (Rel N (j + 1)) := by
  intro σc σm h a1 a2
  have h := h.thr
  suffices hh : ∃ a b c, f_X11_person N σc a1 a2 = some a ∧ f_X12_person N σm a1 a2 = some b ∧ f_X12_thrown N b.2 = some c ∧ (n_q a.1 c b.1 ∧ Rel N (j + 1) a.2 b.2) by
    obtain ⟨a, b, c, x1, x2, x3, x4, x5⟩ := hh
    exact ⟨a.1, a.2, b, c, x1, x2, x3, x4, x5⟩
  refine three ?_
  unfold f_X12_person f_X11_person f_X12_thrown f_X12_lost
  simp only [u_jn]
  have e8 : (u_pI σm 0 8 0).1 0 8 = 0 := p_II _ _ _ _
  generalize u_pI σm 0 8 0 = s1 at h e8 ⊢
  have hmono := h.mono
  have hmono1 := hmono.thrx 1
  obtain ⟨M, F, ρ, hC, hTo⟩ := h
  obtain ⟨b1, b2, b3, b4, b5, b6, b7⟩ := id hC.1
  obtain ⟨t1, t2, t3, t4, t5, t6, t7, t8, t9, t10, t11⟩ := id b6
  have v1 : (1 : Nat) = 1 ∨ (1 : Nat) = 10 ∨ (1 : Nat) = 11 ∨ (1 : Nat) = 12 := Or.inl rfl
  rw [c_isPerson t8 b1, m_isMan b5 b1, m_in]
  cases hs1 : smb a1 M
  · simp (disch := omega) only [u_jn, o_bind, o_nck, o_ckT, not_false_eq_true, mI_le, mI_lt, mI_eq, mI_succ, mI_8, mI_16, mI_add, i10, eq_self, if_true, if_false, Bool.false_eq_true, ok_some, p_II]
    exact ⟨rfl, hmono1⟩
  obtain ⟨p, hp, rfl⟩ := smb_is hs1
  by_cases c1 : a2 < 0
  · simp (disch := omega) only [u_jn, o_bind, o_nck, o_ckT, not_false_eq_true, mI_le, mI_lt, mI_eq, mI_succ, mI_8, mI_16, mI_add, i10, eq_self, if_true, if_false, Bool.false_eq_true, c1, ok_some, p_II]
    exact ⟨rfl, hmono1⟩
  by_cases c2 : 5 < a2
  · simp (disch := omega) only [u_jn, o_bind, o_nck, o_ckT, not_false_eq_true, mI_le, mI_lt, mI_eq, mI_succ, mI_8, mI_16, mI_add, i10, eq_self, if_true, if_false, Bool.false_eq_true, c1, c2, Int32.not_le.mpr c2, ok_some, p_II]
    exact ⟨rfl, hmono1⟩
  have c2' := Int32.not_lt.mp c2
  simp only [o_bind, if_neg c1, if_neg c2, if_pos c2', if_true, if_false, i10]
  by_cases d0 : a2 = 0
  · simp only [if_pos d0]
    simp (disch := omega) only [u_jn, o_bind, o_nck, o_ckT, not_false_eq_true, mI_le, mI_lt, mI_eq, mI_succ, mI_8, mI_16, mI_add, i10, eq_self, if_true, if_false, Bool.false_eq_true, cr_34, vr v1, ok_some, e8]
    exact ⟨⟨rfl, t1 p hp⟩, hmono⟩
  by_cases d1 : a2 = 1
  · simp only [if_neg d0, if_pos d1]
    simp (disch := omega) only [u_jn, o_bind, o_nck, o_ckT, not_false_eq_true, mI_le, mI_lt, mI_eq, mI_succ, mI_8, mI_16, mI_add, i10, eq_self, if_true, if_false, Bool.false_eq_true, cr_36, mr_2, ok_some, e8]
    exact ⟨⟨rfl, t3 p hp⟩, hmono⟩
  by_cases d2 : a2 = 2
  · simp only [if_neg d0, if_neg d1, if_pos d2]
    simp (disch := omega) only [u_jn, o_bind, o_nck, o_ckT, not_false_eq_true, mI_le, mI_lt, mI_eq, mI_succ, mI_8, mI_16, mI_add, i10, eq_self, if_true, if_false, Bool.false_eq_true, c_seenBy (N := N) (σ := σc) (i := 32) (by omega) (by omega) (by omega) t8 (show p < 8 by omega), m_sees (N := N) v1 b5 (show p < 8 by omega), t2 p hp, ok_some, e8]
    exact ⟨⟨rfl, rfl⟩, hmono⟩
  by_cases d3 : a2 = 3
  · simp only [if_neg d0, if_neg d1, if_neg d2, if_pos d3]
    simp (disch := omega) only [u_jn, o_bind, o_nck, o_ckT, not_false_eq_true, mI_le, mI_lt, mI_eq, mI_succ, mI_8, mI_16, mI_add, i10, eq_self, if_true, if_false, Bool.false_eq_true, c_isIn (N := N) (σ := σc) (i := 32) (by omega) (by omega) (by omega) (show p < 8 by omega), m_isIn (N := N) (σ := s1) v1 (show p < 8 by omega), t1 p hp, t3 p hp]
    by_cases hb : s1.1 1 p < s1.1 2 p
    · simp (disch := omega) only [u_jn, o_bind, o_nck, o_ckT, not_false_eq_true, mI_le, mI_lt, mI_eq, mI_succ, mI_8, mI_16, mI_add, i10, eq_self, if_true, if_false, Bool.false_eq_true, hb, ok_some, e8]
      exact ⟨⟨rfl, rfl⟩, hmono⟩
    · simp (disch := omega) only [u_jn, o_bind, o_nck, o_ckT, not_false_eq_true, mI_le, mI_lt, mI_eq, mI_succ, mI_8, mI_16, mI_add, i10, eq_self, if_true, if_false, Bool.false_eq_true, hb, ok_some, e8]
      exact ⟨⟨rfl, rfl⟩, hmono⟩
  by_cases d4 : a2 = 4
  · simp only [if_neg d0, if_neg d1, if_neg d2, if_neg d3, if_pos d4]
    obtain ⟨r, r', q, q', g1, g2, g3, g4, g5, g6, g7, g8, g9, g10, g11⟩ := id hC.2.2.2.2.2
    have hr := g5.1
    rw [g1, o_bind]
    refine ok_ck (isR_of g5.1) ?_
    rw [ok_bind]
    refine ok_mono (c_behind (by omega) (by omega) (by omega) hr b6 g5.2.1 b1 hp hN) (fun z hz => ?_)
    rw [ok_some, ok_bind]
    refine ok_mono (m_then0 v1 b5 b1 hp hC.2.2.2.2.2.mR hN) (fun w hw => ?_)
    rw [ok_some, ok_some]
    obtain ⟨z1, z2⟩ := hz
    obtain ⟨w1, w2⟩ := hw
    refine ⟨⟨by rw [w2.2.1 8 (by unfold T0; omega)]; exact e8, z1.trans w1.symm⟩, M, F, ρ, hC.to ⟨fun a ha => z2.1 a (by unfold coreC at ha; omega), fun r2 hr2 => ?_, by rw [z2.2]⟩ ⟨fun c hc => w2.1 c (by omega) (by omega), fun s hs => w2.2.1 s (by unfold T0; omega), fun q2 hq2 => ?_, fun s hs => w2.2.2.2 0 s (by omega)⟩, hTo.to (by rw [z2.1 3 (by omega)]) (by rw [z2.2]) (by rw [w2.2.2.1]) (w2.2.1 7 (by unfold T0; omega))⟩
    · rw [g1] at hr2
      cases hr2
      exact ⟨z2.1 r (by omega), z2.1 (r + 1) (by omega)⟩
    · have := hC.2.2.2.2.2.q q2 hq2
      exact w2.1 q2 (by omega) (by omega)
  · simp only [if_neg d0, if_neg d1, if_neg d2, if_neg d3, if_neg d4]
    have ec : sCnt (σc.1 (32 + 5)) p M = sCnt (fun k => s1.1 1 (8 + k)) p M := by
      have : ∀ k, k ≤ M → sCnt (σc.1 (32 + 5)) p k = sCnt (fun k => s1.1 1 (8 + k)) p k := by
        intro k
        induction k with
        | zero => intro _; rfl
        | succ k ih => intro hk; show sCnt (σc.1 (32 + 5)) p k + _ = sCnt (fun k => s1.1 1 (8 + k)) p k + _; rw [ih (by omega), t2 k (by omega)]
      exact this M (Nat.le_refl _)
    simp (disch := omega) only [u_jn, o_bind, o_nck, o_ckT, not_false_eq_true, mI_le, mI_lt, mI_eq, mI_succ, mI_8, mI_16, mI_add, i10, eq_self, if_true, if_false, Bool.false_eq_true, c_whoSee (N := N) (σ := σc) (i := 32) (by omega) (by omega) (by omega) t8 b1 (show p < 8 by omega) hN, bc_f, bc_cnt (lo8_sWho (s := σc.1 (32 + 5)) (p := p) b1), cnt_sWho b1, ec, m_seenBy (N := N) v1 b5 b1 hp hN, ok_some, e8]
    exact ⟨⟨rfl, rfl⟩, hmono⟩
