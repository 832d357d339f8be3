/-! PURE LAYER: what is told; the first calls -/
def cT1 (σ : uS) (x : Int64) : uS := u_pI (u_pL (u_pI σ 3 1 0) 4 0 x) 3 1 (mI 1)
def cT2 (σ : uS) (x y : Int64) : uS := u_pI (u_pL (cT1 σ x) 4 1 y) 3 1 (mI 2)
def mT1 (σ : uS) (x : Int64) : uS := u_pI (u_pL (u_pI σ 0 7 0) 4 0 x) 0 7 (mI 1)
def mT2 (σ : uS) (x y : Int64) : uS := u_pI (u_pL (mT1 σ x) 4 1 y) 0 7 (mI 2)
theorem c_add {N K : Nat} {σ : uS} {x : Int64} (h : σ.1 3 1 = mI K) (hK : K < 16) : f_X8_add N σ x = some (u_pI (u_pL σ 4 K x) 3 1 (mI (K + 1))) := by
  unfold f_X8_add
  simp (disch := omega) only [u_jn, o_bind, o_nck, o_ckT, not_false_eq_true, mI_le, mI_lt, mI_eq, mI_succ, mI_8, mI_16, mI_add, i10, eq_self, if_true, if_false, Bool.false_eq_true, h, mI_n0 (show K < 1000000 by omega), cl_4, show ¬ 16 ≤ K by omega, cw_4, p_LI]
theorem c_clear {N : Nat} {σ : uS} : f_X8_clear N σ = some (u_pI σ 3 1 0) := rfl
theorem c_one {N : Nat} {σ : uS} {x : Int64} : f_X8_one N σ x = some (cT1 σ x) := by
  unfold f_X8_one
  simp only [u_jn]
  rw [c_add (K := 0) (by rw [p_II]; rfl) (by omega)]
  rfl
theorem c_two {N : Nat} {σ : uS} {x y : Int64} : f_X8_two N σ x y = some (cT2 σ x y) := by
  unfold f_X8_two
  simp only [u_jn]
  rw [c_add (K := 0) (by rw [p_II]; rfl) (by omega), o_bind, c_add (K := 1) (by rw [p_II]) (by omega)]
  rfl
theorem m_tell {N K : Nat} {σ : uS} {x : Int64} (h : σ.1 0 7 = mI K) (hK : K < 20) : f_X12_tell N σ x = some (u_pI (u_pL σ 4 K x) 0 7 (mI (K + 1))) := by
  unfold f_X12_tell
  simp (disch := omega) only [u_jn, o_bind, o_nck, o_ckT, not_false_eq_true, mI_le, mI_lt, mI_eq, mI_succ, mI_8, mI_16, mI_add, i10, eq_self, if_true, if_false, Bool.false_eq_true, h, mw_4, p_LI]
theorem m_tell0 {N : Nat} {σ : uS} {x : Int64} : f_X12_tell N (u_pI σ 0 7 0) x = some (mT1 σ x) := m_tell (K := 0) (by rw [p_II]; rfl) (by omega)
theorem m_tell1 {N : Nat} {σ : uS} {x y : Int64} : f_X12_tell N (mT1 σ x) y = some (mT2 σ x y) := m_tell (K := 1) (by unfold mT1; rw [p_II]) (by omega)
theorem rTold_1 {σc σm : uS} (x : Int64) : rTold (cT1 σc x) (mT1 σm x) := by
  refine ⟨1, by omega, by unfold cT1; rw [p_II], by unfold mT1; rw [p_II], fun k hk => ?_⟩
  rw [show k = 0 by omega]
  unfold cT1 mT1
  rw [p_IL, p_LL, p_IL, p_LL]
theorem rTold_2 {σc σm : uS} (x y : Int64) : rTold (cT2 σc x y) (mT2 σm x y) := by
  refine ⟨2, by omega, by unfold cT2; rw [p_II], by unfold mT2; rw [p_II], fun k hk => ?_⟩
  unfold cT2 mT2 cT1 mT1
  by_cases h : k = 1
  · rw [h, p_IL, p_LL, p_IL, p_LL]
  · rw [show k = 0 by omega]
    simp [p_IL, p_LL, p_Ln]
theorem cK_of {σ σ' : uS} (h : ∀ a, a ≠ 3 → σ'.1 a = σ.1 a) (h2 : σ'.2.2 = σ.2.2) (hr : ∀ r, σ.2.2 0 13 = some r → r = 22 ∨ r = 27) : cK σ σ' := ⟨fun a ha => h a (by unfold coreC at ha; omega), fun r hr2 => ⟨h r (by have := hr r hr2; omega), h (r + 1) (by have := hr r hr2; omega)⟩, h2⟩
theorem cT1_a {σ : uS} {x : Int64} {a : Nat} (h : a ≠ 3) : (cT1 σ x).1 a = σ.1 a := by unfold cT1; rw [p_Ia h, p_LI, p_Ia h]
theorem cT2_a {σ : uS} {x y : Int64} {a : Nat} (h : a ≠ 3) : (cT2 σ x y).1 a = σ.1 a := by unfold cT2; rw [p_Ia h, p_LI, cT1_a h]
theorem cT1_r {σ : uS} {x : Int64} : (cT1 σ x).2.2 = σ.2.2 := rfl
theorem cT2_r {σ : uS} {x y : Int64} : (cT2 σ x y).2.2 = σ.2.2 := rfl
theorem mT1_a {σ : uS} {x : Int64} {a : Nat} (h : a ≠ 0) : (mT1 σ x).1 a = σ.1 a := by unfold mT1; rw [p_Ia h, p_LI, p_Ia h]
theorem mT2_a {σ : uS} {x y : Int64} {a : Nat} (h : a ≠ 0) : (mT2 σ x y).1 a = σ.1 a := by unfold mT2; rw [p_Ia h, p_LI, mT1_a h]
theorem mT1_s {σ : uS} {x : Int64} {s : Nat} (h : s ≠ 7) : (mT1 σ x).1 0 s = σ.1 0 s := by unfold mT1; rw [p_Is h, p_LI, p_Is h]
theorem mT2_s {σ : uS} {x y : Int64} {s : Nat} (h : s ≠ 7) : (mT2 σ x y).1 0 s = σ.1 0 s := by unfold mT2; rw [p_Is h, p_LI, mT1_s h]
theorem mT1_r {σ : uS} {x : Int64} : (mT1 σ x).2.2 = σ.2.2 := rfl
theorem mT2_r {σ : uS} {x y : Int64} : (mT2 σ x y).2.2 = σ.2.2 := rfl
theorem mK_T1 {σ : uS} {x : Int64} (hq : ∀ q, σ.2.2 0 15 = some q → q = 6 ∨ q = 7) : mK σ (mT1 σ x) := ⟨fun c hc => mT1_a (by omega), fun s hs => mT1_s (by omega), fun q h => mT1_a (by have := hq q h; omega), fun _ _ => rfl⟩
theorem mK_T2 {σ : uS} {x y : Int64} (hq : ∀ q, σ.2.2 0 15 = some q → q = 6 ∨ q = 7) : mK σ (mT2 σ x y) := ⟨fun c hc => mT2_a (by omega), fun s hs => mT2_s (by omega), fun q h => mT2_a (by have := hq q h; omega), fun _ _ => rfl⟩
theorem cK_T1 {σ : uS} {x : Int64} (hr : ∀ r, σ.2.2 0 13 = some r → r = 22 ∨ r = 27) : cK σ (cT1 σ x) := cK_of (fun a h => cT1_a h) rfl hr
theorem cK_T2 {σ : uS} {x y : Int64} (hr : ∀ r, σ.2.2 0 13 = some r → r = 22 ∨ r = 27) : cK σ (cT2 σ x y) := cK_of (fun a h => cT2_a h) rfl hr
section RS
variable {N j M F : Nat} {ρ : Rho} {σc σm : uS}
theorem rRule.r (h : rRule N ρ σc σm) : ∀ r, σc.2.2 0 13 = some r → r = 22 ∨ r = 27 := by
  obtain ⟨r, r', q, q', a1, a2, a3, a4, a5, a6, a7, a8, a9, a10, a11⟩ := h
  intro r2 h2
  rw [a1] at h2
  cases h2
  exact a5.1
theorem rRule.q (h : rRule N ρ σc σm) : ∀ q, σm.2.2 0 15 = some q → q = 6 ∨ q = 7 := by
  obtain ⟨r, r', q, q', a1, a2, a3, a4, a5, a6, a7, a8, a9, a10, a11⟩ := h
  intro r2 h2
  rw [a9] at h2
  cases h2
  exact a6
/-- the reference first forgets that it threw -/
theorem Rel.thr (h : Rel N j σc σm) : Rel N j σc (u_pI σm 0 8 0) := by
  obtain ⟨M, F, ρ, ⟨a1, a2, a3, a4, a5, a6⟩, h2⟩ := h
  have hq := a6.q
  refine ⟨M, F, ρ, ⟨a1.to (Nat.le_refl _) (fun _ _ _ => rfl) (p_Ia (by omega)) (p_Ia (by omega)) (p_Is (by omega)) (p_Is (by omega)), a2.to rfl rfl (p_Ia (by omega)) (p_Is (by omega)), a3.to rfl (p_Ia (by omega)) (p_Is (by omega)) (p_Is (by omega)), a4.to (Nat.le_refl _) (fun _ _ _ => rfl) rfl rfl (p_Ia (by omega)) (p_Ia (by omega)) (p_Is (by omega)), a5.to (Nat.le_refl _) (Nat.le_refl _) (fun _ _ _ => rfl) rfl rfl (p_Ia (by omega)) (p_Ia (by omega)) (p_Ia (by omega)) (p_Ia (by omega)) (p_Is (by omega)), a6.to (fun _ _ => ⟨rfl, rfl⟩) rfl (fun q h => p_Ia (by have := hq q h; omega)) rfl rfl (p_Is (by omega))⟩, h2.to rfl rfl rfl (p_Is (by omega))⟩
theorem Rel.set (h : Rel N j σc σm) (hj : j + 1 ≤ 600000) : Rel N j σc (u_pI σm 0 8 0) ∧ (u_pI σm 0 8 0).1 0 8 = 0 := ⟨h.thr, p_II _ _ _ _⟩
end RS
theorem n_s46_ok (N j : Nat) (hN : 500 < N) : n_s46 N (Rel N j) (Rel N (j + 1)) := by
  intro σc σm h a1
  have h := h.thr
  unfold f_X12_count
  simp only [u_jn]
  generalize u_pI σm 0 8 0 = s1 at h ⊢
  have hm := h.mono
  obtain ⟨M, F, ρ, ⟨hn, hT, hD, hP, hK, hR⟩, hTo⟩ := h
  obtain ⟨b1, b2, b3, b4, b5, b6, b7⟩ := hn
  obtain ⟨t1, t2, t3, t4, t5, t6, t7, t8, t9, t10, t11⟩ := id b6
  obtain ⟨T, d1, d2, d3, d4⟩ := hT
  obtain ⟨D, f1, f2, f3, f4⟩ := hD
  obtain ⟨U, st, g1, g2, g3, g4⟩ := hP
  obtain ⟨K, k1, k2, k3, k4⟩ := hTo
  have v1 : (1 : Nat) = 1 ∨ (1 : Nat) = 10 ∨ (1 : Nat) = 11 ∨ (1 : Nat) = 12 := Or.inl rfl
  have cI : f_X7_inside N σc 32 = some (sIn (s1.1 1) (s1.1 2) M) := by rw [c_inside (by omega) (by omega) (by omega) t8 b1 hN, sIn_cS b6]
  have mI' : f_X12_inBits N s1 1 = some (sIn (s1.1 1) (s1.1 2) M) := m_inBits v1 b5 b1 hN
  have cC : f_X7_cornOf N σc 32 (s1.1 1 32) (s1.1 1 33) = some (sRope (s1.1 1)) := c_ropeCorn (by omega) (by omega) (by omega) b6 b7 b3 hN
  have mC : f_X12_corn N s1 1 (s1.1 1 32) (s1.1 1 33) = some (sRope (s1.1 1)) := m_ropeCorn v1 (fun _ _ => rfl) b7 b3 hN
  have cG : f_X7_glances N σc 32 = some (sGl (fun k => s1.1 1 (8 + k)) M M) := by rw [c_glances (by omega) (by omega) (by omega) t8 b1 hN]; congr 1; exact sGl_congr t2
  have cO : f_X7_outside N σc 32 = some (sAll M &&& (sIn (s1.1 1) (s1.1 2) M ^^^ (-1))) := by rw [c_outside (by omega) (by omega) (by omega) t8 b1 hN, sIn_cS b6]
  by_cases e0 : a1 = 0
  · subst e0
    refine two ?_
    unfold f_X11_count
    rw [if_pos (Eq.refl (0 : Int32))]
    rw [ok_some]
    rw [if_pos (Eq.refl (0 : Int32))]
    rw [ok_some]
    exact ⟨t5.trans b4.symm, hm⟩
  by_cases e1 : a1 = 1
  · subst e1
    refine two ?_
    unfold f_X11_count
    rw [if_neg (show ¬ (1 : Int32) = 0 by decide), if_pos (Eq.refl (1 : Int32))]
    rw [ok_some]
    rw [if_neg (show ¬ (1 : Int32) = 0 by decide), if_pos (Eq.refl (1 : Int32))]
    rw [vr32 v1, o_bind, ok_some]
    exact ⟨t6, hm⟩
  by_cases e2 : a1 = 2
  · subst e2
    refine two ?_
    unfold f_X11_count
    rw [if_neg (show ¬ (2 : Int32) = 0 by decide), if_neg (show ¬ (2 : Int32) = 1 by decide), if_pos (Eq.refl (2 : Int32))]
    rw [ok_some]
    rw [if_neg (show ¬ (2 : Int32) = 0 by decide), if_neg (show ¬ (2 : Int32) = 1 by decide), if_pos (Eq.refl (2 : Int32))]
    rw [vr33 v1, o_bind, ok_some]
    exact ⟨t7, hm⟩
  by_cases e3 : a1 = 3
  · subst e3
    refine two ?_
    unfold f_X11_count
    rw [if_neg (show ¬ (3 : Int32) = 0 by decide), if_neg (show ¬ (3 : Int32) = 1 by decide), if_neg (show ¬ (3 : Int32) = 2 by decide), if_pos (Eq.refl (3 : Int32))]
    rw [ok_some]
    rw [if_neg (show ¬ (3 : Int32) = 0 by decide), if_neg (show ¬ (3 : Int32) = 1 by decide), if_neg (show ¬ (3 : Int32) = 2 by decide), if_pos (Eq.refl (3 : Int32))]
    rw [ok_some]
    exact ⟨t8.trans b5.symm, hm⟩
  by_cases e4 : a1 = 4
  · subst e4
    refine two ?_
    unfold f_X11_count
    rw [if_neg (show ¬ (4 : Int32) = 0 by decide), if_neg (show ¬ (4 : Int32) = 1 by decide), if_neg (show ¬ (4 : Int32) = 2 by decide), if_neg (show ¬ (4 : Int32) = 3 by decide), if_pos (Eq.refl (4 : Int32))]
    rw [cI, o_bind, ok_some]
    rw [if_neg (show ¬ (4 : Int32) = 0 by decide), if_neg (show ¬ (4 : Int32) = 1 by decide), if_neg (show ¬ (4 : Int32) = 2 by decide), if_neg (show ¬ (4 : Int32) = 3 by decide), if_pos (Eq.refl (4 : Int32))]
    rw [mI', o_bind, ok_some]
    exact ⟨rfl, hm⟩
  by_cases e5 : a1 = 5
  · subst e5
    refine two ?_
    unfold f_X11_count
    rw [if_neg (show ¬ (5 : Int32) = 0 by decide), if_neg (show ¬ (5 : Int32) = 1 by decide), if_neg (show ¬ (5 : Int32) = 2 by decide), if_neg (show ¬ (5 : Int32) = 3 by decide), if_neg (show ¬ (5 : Int32) = 4 by decide), if_pos (Eq.refl (5 : Int32))]
    rw [ok_some]
    rw [if_neg (show ¬ (5 : Int32) = 0 by decide), if_neg (show ¬ (5 : Int32) = 1 by decide), if_neg (show ¬ (5 : Int32) = 2 by decide), if_neg (show ¬ (5 : Int32) = 3 by decide), if_neg (show ¬ (5 : Int32) = 4 by decide), if_pos (Eq.refl (5 : Int32))]
    rw [vr34 v1, o_bind, ok_some]
    exact ⟨t9, hm⟩
  by_cases e6 : a1 = 6
  · subst e6
    refine two ?_
    unfold f_X11_count
    rw [if_neg (show ¬ (6 : Int32) = 0 by decide), if_neg (show ¬ (6 : Int32) = 1 by decide), if_neg (show ¬ (6 : Int32) = 2 by decide), if_neg (show ¬ (6 : Int32) = 3 by decide), if_neg (show ¬ (6 : Int32) = 4 by decide), if_neg (show ¬ (6 : Int32) = 5 by decide), if_pos (Eq.refl (6 : Int32))]
    rw [ok_some]
    rw [if_neg (show ¬ (6 : Int32) = 0 by decide), if_neg (show ¬ (6 : Int32) = 1 by decide), if_neg (show ¬ (6 : Int32) = 2 by decide), if_neg (show ¬ (6 : Int32) = 3 by decide), if_neg (show ¬ (6 : Int32) = 4 by decide), if_neg (show ¬ (6 : Int32) = 5 by decide), if_pos (Eq.refl (6 : Int32))]
    rw [vr35 v1, o_bind, ok_some]
    exact ⟨t10, hm⟩
  by_cases e7 : a1 = 7
  · subst e7
    refine two ?_
    unfold f_X11_count
    rw [if_neg (show ¬ (7 : Int32) = 0 by decide), if_neg (show ¬ (7 : Int32) = 1 by decide), if_neg (show ¬ (7 : Int32) = 2 by decide), if_neg (show ¬ (7 : Int32) = 3 by decide), if_neg (show ¬ (7 : Int32) = 4 by decide), if_neg (show ¬ (7 : Int32) = 5 by decide), if_neg (show ¬ (7 : Int32) = 6 by decide), if_pos (Eq.refl (7 : Int32))]
    rw [ok_some]
    rw [if_neg (show ¬ (7 : Int32) = 0 by decide), if_neg (show ¬ (7 : Int32) = 1 by decide), if_neg (show ¬ (7 : Int32) = 2 by decide), if_neg (show ¬ (7 : Int32) = 3 by decide), if_neg (show ¬ (7 : Int32) = 4 by decide), if_neg (show ¬ (7 : Int32) = 5 by decide), if_neg (show ¬ (7 : Int32) = 6 by decide), if_pos (Eq.refl (7 : Int32))]
    rw [vr36 v1, o_bind, ok_some]
    exact ⟨t11, hm⟩
  by_cases e8 : a1 = 8
  · subst e8
    refine two ?_
    unfold f_X11_count
    rw [if_neg (show ¬ (8 : Int32) = 0 by decide), if_neg (show ¬ (8 : Int32) = 1 by decide), if_neg (show ¬ (8 : Int32) = 2 by decide), if_neg (show ¬ (8 : Int32) = 3 by decide), if_neg (show ¬ (8 : Int32) = 4 by decide), if_neg (show ¬ (8 : Int32) = 5 by decide), if_neg (show ¬ (8 : Int32) = 6 by decide), if_neg (show ¬ (8 : Int32) = 7 by decide), if_pos (Eq.refl (8 : Int32))]
    rw [t6, t7, cC, o_bind, ok_some]
    rw [if_neg (show ¬ (8 : Int32) = 0 by decide), if_neg (show ¬ (8 : Int32) = 1 by decide), if_neg (show ¬ (8 : Int32) = 2 by decide), if_neg (show ¬ (8 : Int32) = 3 by decide), if_neg (show ¬ (8 : Int32) = 4 by decide), if_neg (show ¬ (8 : Int32) = 5 by decide), if_neg (show ¬ (8 : Int32) = 6 by decide), if_neg (show ¬ (8 : Int32) = 7 by decide), if_pos (Eq.refl (8 : Int32))]
    rw [vr32 v1, o_bind, vr33 v1, o_bind, mC, o_bind, ok_some]
    exact ⟨rfl, hm⟩
  by_cases e9 : a1 = 9
  · subst e9
    refine two ?_
    unfold f_X11_count
    rw [if_neg (show ¬ (9 : Int32) = 0 by decide), if_neg (show ¬ (9 : Int32) = 1 by decide), if_neg (show ¬ (9 : Int32) = 2 by decide), if_neg (show ¬ (9 : Int32) = 3 by decide), if_neg (show ¬ (9 : Int32) = 4 by decide), if_neg (show ¬ (9 : Int32) = 5 by decide), if_neg (show ¬ (9 : Int32) = 6 by decide), if_neg (show ¬ (9 : Int32) = 7 by decide), if_neg (show ¬ (9 : Int32) = 8 by decide), if_pos (Eq.refl (9 : Int32))]
    rw [ok_some]
    rw [if_neg (show ¬ (9 : Int32) = 0 by decide), if_neg (show ¬ (9 : Int32) = 1 by decide), if_neg (show ¬ (9 : Int32) = 2 by decide), if_neg (show ¬ (9 : Int32) = 3 by decide), if_neg (show ¬ (9 : Int32) = 4 by decide), if_neg (show ¬ (9 : Int32) = 5 by decide), if_neg (show ¬ (9 : Int32) = 6 by decide), if_neg (show ¬ (9 : Int32) = 7 by decide), if_neg (show ¬ (9 : Int32) = 8 by decide), if_pos (Eq.refl (9 : Int32))]
    rw [ok_some]
    exact ⟨f2.trans f3.symm, hm⟩
  by_cases e10 : a1 = 10
  · subst e10
    refine two ?_
    unfold f_X11_count
    rw [if_neg (show ¬ (10 : Int32) = 0 by decide), if_neg (show ¬ (10 : Int32) = 1 by decide), if_neg (show ¬ (10 : Int32) = 2 by decide), if_neg (show ¬ (10 : Int32) = 3 by decide), if_neg (show ¬ (10 : Int32) = 4 by decide), if_neg (show ¬ (10 : Int32) = 5 by decide), if_neg (show ¬ (10 : Int32) = 6 by decide), if_neg (show ¬ (10 : Int32) = 7 by decide), if_neg (show ¬ (10 : Int32) = 8 by decide), if_neg (show ¬ (10 : Int32) = 9 by decide), if_pos (Eq.refl (10 : Int32))]
    rw [ok_some]
    rw [if_neg (show ¬ (10 : Int32) = 0 by decide), if_neg (show ¬ (10 : Int32) = 1 by decide), if_neg (show ¬ (10 : Int32) = 2 by decide), if_neg (show ¬ (10 : Int32) = 3 by decide), if_neg (show ¬ (10 : Int32) = 4 by decide), if_neg (show ¬ (10 : Int32) = 5 by decide), if_neg (show ¬ (10 : Int32) = 6 by decide), if_neg (show ¬ (10 : Int32) = 7 by decide), if_neg (show ¬ (10 : Int32) = 8 by decide), if_neg (show ¬ (10 : Int32) = 9 by decide), if_pos (Eq.refl (10 : Int32))]
    rw [ok_some]
    exact ⟨g2.trans g3.symm, hm⟩
  by_cases e11 : a1 = 11
  · subst e11
    refine two ?_
    unfold f_X11_count
    rw [if_neg (show ¬ (11 : Int32) = 0 by decide), if_neg (show ¬ (11 : Int32) = 1 by decide), if_neg (show ¬ (11 : Int32) = 2 by decide), if_neg (show ¬ (11 : Int32) = 3 by decide), if_neg (show ¬ (11 : Int32) = 4 by decide), if_neg (show ¬ (11 : Int32) = 5 by decide), if_neg (show ¬ (11 : Int32) = 6 by decide), if_neg (show ¬ (11 : Int32) = 7 by decide), if_neg (show ¬ (11 : Int32) = 8 by decide), if_neg (show ¬ (11 : Int32) = 9 by decide), if_neg (show ¬ (11 : Int32) = 10 by decide), if_pos (Eq.refl (11 : Int32))]
    rw [ok_some]
    rw [if_neg (show ¬ (11 : Int32) = 0 by decide), if_neg (show ¬ (11 : Int32) = 1 by decide), if_neg (show ¬ (11 : Int32) = 2 by decide), if_neg (show ¬ (11 : Int32) = 3 by decide), if_neg (show ¬ (11 : Int32) = 4 by decide), if_neg (show ¬ (11 : Int32) = 5 by decide), if_neg (show ¬ (11 : Int32) = 6 by decide), if_neg (show ¬ (11 : Int32) = 7 by decide), if_neg (show ¬ (11 : Int32) = 8 by decide), if_neg (show ¬ (11 : Int32) = 9 by decide), if_neg (show ¬ (11 : Int32) = 10 by decide), if_pos (Eq.refl (11 : Int32))]
    rw [ok_some]
    exact ⟨k2.trans k3.symm, hm⟩
  by_cases e12 : a1 = 12
  · subst e12
    refine two ?_
    unfold f_X11_count
    rw [if_neg (show ¬ (12 : Int32) = 0 by decide), if_neg (show ¬ (12 : Int32) = 1 by decide), if_neg (show ¬ (12 : Int32) = 2 by decide), if_neg (show ¬ (12 : Int32) = 3 by decide), if_neg (show ¬ (12 : Int32) = 4 by decide), if_neg (show ¬ (12 : Int32) = 5 by decide), if_neg (show ¬ (12 : Int32) = 6 by decide), if_neg (show ¬ (12 : Int32) = 7 by decide), if_neg (show ¬ (12 : Int32) = 8 by decide), if_neg (show ¬ (12 : Int32) = 9 by decide), if_neg (show ¬ (12 : Int32) = 10 by decide), if_neg (show ¬ (12 : Int32) = 11 by decide), if_pos (Eq.refl (12 : Int32))]
    rw [ok_some]
    rw [if_neg (show ¬ (12 : Int32) = 0 by decide), if_neg (show ¬ (12 : Int32) = 1 by decide), if_neg (show ¬ (12 : Int32) = 2 by decide), if_neg (show ¬ (12 : Int32) = 3 by decide), if_neg (show ¬ (12 : Int32) = 4 by decide), if_neg (show ¬ (12 : Int32) = 5 by decide), if_neg (show ¬ (12 : Int32) = 6 by decide), if_neg (show ¬ (12 : Int32) = 7 by decide), if_neg (show ¬ (12 : Int32) = 8 by decide), if_neg (show ¬ (12 : Int32) = 9 by decide), if_neg (show ¬ (12 : Int32) = 10 by decide), if_neg (show ¬ (12 : Int32) = 11 by decide), if_pos (Eq.refl (12 : Int32))]
    rw [ok_some]
    exact ⟨d2.trans d3.symm, hm⟩
  by_cases e13 : a1 = 13
  · subst e13
    refine two ?_
    unfold f_X11_count
    rw [if_neg (show ¬ (13 : Int32) = 0 by decide), if_neg (show ¬ (13 : Int32) = 1 by decide), if_neg (show ¬ (13 : Int32) = 2 by decide), if_neg (show ¬ (13 : Int32) = 3 by decide), if_neg (show ¬ (13 : Int32) = 4 by decide), if_neg (show ¬ (13 : Int32) = 5 by decide), if_neg (show ¬ (13 : Int32) = 6 by decide), if_neg (show ¬ (13 : Int32) = 7 by decide), if_neg (show ¬ (13 : Int32) = 8 by decide), if_neg (show ¬ (13 : Int32) = 9 by decide), if_neg (show ¬ (13 : Int32) = 10 by decide), if_neg (show ¬ (13 : Int32) = 11 by decide), if_neg (show ¬ (13 : Int32) = 12 by decide), if_pos (Eq.refl (13 : Int32))]
    rw [cO, o_bind, ok_some]
    rw [if_neg (show ¬ (13 : Int32) = 0 by decide), if_neg (show ¬ (13 : Int32) = 1 by decide), if_neg (show ¬ (13 : Int32) = 2 by decide), if_neg (show ¬ (13 : Int32) = 3 by decide), if_neg (show ¬ (13 : Int32) = 4 by decide), if_neg (show ¬ (13 : Int32) = 5 by decide), if_neg (show ¬ (13 : Int32) = 6 by decide), if_neg (show ¬ (13 : Int32) = 7 by decide), if_neg (show ¬ (13 : Int32) = 8 by decide), if_neg (show ¬ (13 : Int32) = 9 by decide), if_neg (show ¬ (13 : Int32) = 10 by decide), if_neg (show ¬ (13 : Int32) = 11 by decide), if_neg (show ¬ (13 : Int32) = 12 by decide), if_pos (Eq.refl (13 : Int32))]
    rw [m_all b5, o_bind, mI', o_bind, ok_some]
    exact ⟨rfl, hm⟩
  by_cases e14 : a1 = 14
  · subst e14
    refine two ?_
    unfold f_X11_count
    rw [if_neg (show ¬ (14 : Int32) = 0 by decide), if_neg (show ¬ (14 : Int32) = 1 by decide), if_neg (show ¬ (14 : Int32) = 2 by decide), if_neg (show ¬ (14 : Int32) = 3 by decide), if_neg (show ¬ (14 : Int32) = 4 by decide), if_neg (show ¬ (14 : Int32) = 5 by decide), if_neg (show ¬ (14 : Int32) = 6 by decide), if_neg (show ¬ (14 : Int32) = 7 by decide), if_neg (show ¬ (14 : Int32) = 8 by decide), if_neg (show ¬ (14 : Int32) = 9 by decide), if_neg (show ¬ (14 : Int32) = 10 by decide), if_neg (show ¬ (14 : Int32) = 11 by decide), if_neg (show ¬ (14 : Int32) = 12 by decide), if_neg (show ¬ (14 : Int32) = 13 by decide), if_pos (Eq.refl (14 : Int32))]
    rw [cG, o_bind, ok_some]
    rw [if_neg (show ¬ (14 : Int32) = 0 by decide), if_neg (show ¬ (14 : Int32) = 1 by decide), if_neg (show ¬ (14 : Int32) = 2 by decide), if_neg (show ¬ (14 : Int32) = 3 by decide), if_neg (show ¬ (14 : Int32) = 4 by decide), if_neg (show ¬ (14 : Int32) = 5 by decide), if_neg (show ¬ (14 : Int32) = 6 by decide), if_neg (show ¬ (14 : Int32) = 7 by decide), if_neg (show ¬ (14 : Int32) = 8 by decide), if_neg (show ¬ (14 : Int32) = 9 by decide), if_neg (show ¬ (14 : Int32) = 10 by decide), if_neg (show ¬ (14 : Int32) = 11 by decide), if_neg (show ¬ (14 : Int32) = 12 by decide), if_neg (show ¬ (14 : Int32) = 13 by decide), if_pos (Eq.refl (14 : Int32))]
    rw [m_glances b5 b1 hN, o_bind, ok_some]
    exact ⟨rfl, hm⟩
  refine two ?_
  unfold f_X11_count
  rw [if_neg e0, if_neg e1, if_neg e2, if_neg e3, if_neg e4, if_neg e5, if_neg e6, if_neg e7, if_neg e8, if_neg e9, if_neg e10, if_neg e11, if_neg e12, if_neg e13, if_neg e14, ok_some, if_neg e0, if_neg e1, if_neg e2, if_neg e3, if_neg e4, if_neg e5, if_neg e6, if_neg e7, if_neg e8, if_neg e9, if_neg e10, if_neg e11, if_neg e12, if_neg e13, if_neg e14, ok_some]
  exact ⟨rfl, hm⟩
