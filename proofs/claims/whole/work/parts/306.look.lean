/-! PURE LAYER: one person behind a crossing -/
/-- a State of the class is such a row, as far as it counts -/
def cS (σ : uS) (i M F : Nat) (v e : Nat → Int32) : Prop := (∀ p, p < M → σ.1 (i + 2) p = v p) ∧ (∀ p, p < M → σ.1 (i + 5) p = v (8 + p)) ∧ (∀ p, p < M → σ.1 (i + 4) p = e p) ∧ (∀ f, f < F → σ.1 (i + 1) f = v (16 + f)) ∧ σ.1 i 5 = mI F ∧ σ.1 i 6 = v 32 ∧ σ.1 i 7 = v 33 ∧ σ.1 i 8 = mI M ∧ σ.1 i 9 = v 34 ∧ σ.1 i 10 = v 35 ∧ σ.1 i 11 = v 36
def gcong (g : (Nat → Int32) → Int32) : Prop := ∀ f f' : Nat → Int32, (∀ k, k < 7 → f k = f' k) → g f = g f'
/-- what THE RULE of a Rule is -/
def RuleC (N r : Nat) (code : Nat → Int32) (size : Int32) (ρ : Rho) : Prop := match ρ with
  | none => size = 0
  | some g => size ≠ 0 ∧ gcong g ∧ ∀ σ : uS, σ.1 (r + 1) = code → σ.1 r 4 = size → ∃ w : Nat → Int32, f_X6_worked N σ r = some (g (σ.1 (r + 4)), u_sI σ (r + 3) w)
section PL
variable {N : Nat} {σ : uS} {i r : Nat} {M F : Nat} {v e : Nat → Int32} {ρ : Rho}
theorem c_lookAt {p : Nat} (h1 : 32 ≤ i) (h2 : i < 134) (h3 : (i - 32) % 6 = 0) (hr : r = 22 ∨ r = 27) (hS : cS σ i M F v e) (hM8 : M ≤ 8) (hp : p < M) (hN : 500 < N) : ok (f_X6_lookAt N σ r i (mI p)) (fun s => (∀ k, k < 7 → s.1 (r + 4) k = askd v e M p k) ∧ fr (fun a => a = r + 4) σ s) := by
  obtain ⟨s1, s2, s3, s4, s5, s6, s7, s8, s9, s10, s11⟩ := hS
  have eB : sBel (σ.1 (i + 2)) (v (8 + p)) M = sBel v (v (8 + p)) M := sBel_congr (fun k hk => ⟨s1 k hk, rfl⟩)
  have eO : sOut (σ.1 (i + 2)) (σ.1 (i + 4)) (v (8 + p)) M = sOut v e (v (8 + p)) M := sOut_congr (fun k hk => ⟨s1 k hk, s3 k hk⟩)
  have hcl := cnt_le (v (8 + p)) M
  unfold f_X6_lookAt
  simp only [u_jn]
  refine lp4_tr (sBel (σ.1 (i + 2)) (σ.1 (i + 5) p)) (fun k => mI (cnt (σ.1 (i + 5) p) k)) (fun k => mI (sOut (σ.1 (i + 2)) (σ.1 (i + 4)) (σ.1 (i + 5) p) k)) mI M N (by omega) (fun k rec hk => ?_) (fun rec => ?_)
  · unfold b_X6_lookAt_11
    simp (disch := omega) only [u_jn, o_bind, o_nck, o_ckT, not_false_eq_true, mI_le, mI_lt, mI_eq, mI_succ, mI_8, mI_16, mI_add, i10, eq_self, if_true, if_false, Bool.false_eq_true, s8, Nat.not_le.mpr hk, sr_1, sr_2, sr_3, sr_4, sr_5, sw_1, sw_2, sw_3, sw_4, sw_5, bit_is]
    show _ = rec (sBel (σ.1 (i + 2)) (σ.1 (i + 5) p) k + _) (mI (cnt (σ.1 (i + 5) p) k + _)) (mI (sOut (σ.1 (i + 2)) (σ.1 (i + 4)) (σ.1 (i + 5) p) k + _)) _
    by_cases h : tb (σ.1 (i + 5) p) k = true
    · by_cases h4 : σ.1 (i + 2) k < σ.1 (i + 4) k
      · simp (disch := omega) only [u_jn, o_bind, o_nck, o_ckT, not_false_eq_true, mI_le, mI_lt, mI_eq, mI_succ, mI_8, mI_16, mI_add, i10, eq_self, if_true, if_false, Bool.false_eq_true, h, h4, Int32.not_le.mpr h4]
      · simp (disch := omega) only [u_jn, o_bind, o_nck, o_ckT, not_false_eq_true, mI_le, mI_lt, mI_eq, mI_succ, mI_8, mI_16, mI_add, i10, eq_self, if_true, if_false, Bool.false_eq_true, h, h4, Int32.not_lt.mp h4, Nat.add_zero, Int32.add_zero]
    · simp (disch := omega) only [u_jn, o_bind, o_nck, o_ckT, not_false_eq_true, mI_le, mI_lt, mI_eq, mI_succ, mI_8, mI_16, mI_add, i10, eq_self, if_true, if_false, Bool.false_eq_true, h, Nat.add_zero, Int32.add_zero]
  · unfold b_X6_lookAt_11
    simp (disch := omega) only [u_jn, o_bind, o_nck, o_ckT, not_false_eq_true, mI_le, mI_lt, mI_eq, mI_succ, mI_8, mI_16, mI_add, i10, eq_self, if_true, if_false, Bool.false_eq_true, s8, Nat.le_refl, sr_1, sr_2, sr_3, sr_4, sr_5, sw_1, sw_2, sw_3, sw_4, sw_5, rr_1, rr_2, rr_3, rr_4, rw_1, rw_2, rw_3, rw_4, rl_1, rl_2, rl_3, rl_4, rr_30, rr_40, rw_40, rr_41, rw_41, rr_42, rw_42, rr_43, rw_43, rr_44, rw_44, rr_45, rw_45, rr_46, rw_46, eB, eO, s2 p hp, s1 p hp, p_Ia, mI_eq0, s3 p hp, s9, s10, bit_val]
    have fin : ∀ t : Int32, t = sMean v M p → (∀ k, k < 7 → (u_pI (u_pI (u_pI (u_pI (u_pI (u_pI (u_pI σ (r + 4) 0 (v p)) (r + 4) 1 t) (r + 4) 2 (mI (cnt (v (8 + p)) M))) (r + 4) 3 (mI (sOut v e (v (8 + p)) M))) (r + 4) 4 (if tb (v 34) p = true then 1 else 0)) (r + 4) 5 (v 35 - v 35 / 7 * 7)) (r + 4) 6 (e p)).1 (r + 4) k = askd v e M p k) ∧ fr (fun a => a = r + 4) σ (u_pI (u_pI (u_pI (u_pI (u_pI (u_pI (u_pI σ (r + 4) 0 (v p)) (r + 4) 1 t) (r + 4) 2 (mI (cnt (v (8 + p)) M))) (r + 4) 3 (mI (sOut v e (v (8 + p)) M))) (r + 4) 4 (if tb (v 34) p = true then 1 else 0)) (r + 4) 5 (v 35 - v 35 / 7 * 7)) (r + 4) 6 (e p)) := by
      intro t ht
      refine ⟨fun k hk => ?_, ((((((((fr.rfl (S := fun a => a = r + 4)).pI rfl).pI rfl).pI rfl).pI rfl).pI rfl).pI rfl).pI rfl)⟩
      have hk7 : k = 0 ∨ k = 1 ∨ k = 2 ∨ k = 3 ∨ k = 4 ∨ k = 5 ∨ k = 6 := by omega
      rcases hk7 with rfl | rfl | rfl | rfl | rfl | rfl | rfl <;> simp [p_II, p_Is, askd, ht, sSign]
    by_cases h0 : cnt (v (8 + p)) M = 0
    · simp (disch := omega) only [u_jn, o_bind, o_nck, o_ckT, not_false_eq_true, mI_le, mI_lt, mI_eq, mI_succ, mI_8, mI_16, mI_add, i10, eq_self, if_true, if_false, Bool.false_eq_true, h0, ok_some]
      have := fin (v p) (by unfold sMean; rw [if_pos h0])
      simp only [h0] at this
      exact this
    · simp (disch := omega) only [u_jn, o_bind, o_nck, o_ckT, not_false_eq_true, mI_le, mI_lt, mI_eq, mI_succ, mI_8, mI_16, mI_add, i10, eq_self, if_true, if_false, Bool.false_eq_true, h0, ok_some]
      exact fin _ (by unfold sMean; rw [if_neg h0])
theorem th_eq {p : Nat} : th none v e M p = clamp ((askd v e M p 0 + askd v e M p 1 + 1) / 2 - askd v e M p 4 * 3) := by
  show clamp ((v p + sMean v M p + 1) / 2 - 3 * sSign v p) = _
  rw [Int32.mul_comm]
  rfl
theorem c_behind {p : Nat} (h1 : 32 ≤ i) (h2 : i < 134) (h3 : (i - 32) % 6 = 0) (hr : r = 22 ∨ r = 27) (hS : cS σ i M F v e) (hR : RuleC N r (σ.1 (r + 1)) (σ.1 r 4) ρ) (hM8 : M ≤ 8) (hp : p < M) (hN : 500 < N) : ok (f_X6_behind N σ r i (mI p)) (fun z => z.1 = th ρ v e M p ∧ fr (fun a => a = r + 3 ∨ a = r + 4) σ z.2) := by
  unfold f_X6_behind
  rw [ok_bind]
  refine ok_mono (c_lookAt h1 h2 h3 hr hS hM8 hp hN) (fun s hs => ?_)
  obtain ⟨ha, hf⟩ := hs
  have e4 : s.1 r 4 = σ.1 r 4 := by rw [hf.1 r (by omega)]
  have e1 : s.1 (r + 1) = σ.1 (r + 1) := hf.1 (r + 1) (by omega)
  have hf2 : fr (fun a => a = r + 3 ∨ a = r + 4) σ s := hf.mono (fun a h => Or.inr h)
  cases ρ with
  | none =>
    have hz : σ.1 r 4 = 0 := hR
    simp (disch := omega) only [u_jn, o_bind, o_nck, o_ckT, not_false_eq_true, mI_le, mI_lt, mI_eq, mI_succ, mI_8, mI_16, mI_add, i10, eq_self, if_true, if_false, Bool.false_eq_true, e4, hz, rr_1, rr_2, rr_3, rr_4, rw_1, rw_2, rw_3, rw_4, rl_1, rl_2, rl_3, rl_4, rr_30, rr_40, rw_40, rr_41, rw_41, rr_42, rw_42, rr_43, rw_43, rr_44, rw_44, rr_45, rw_45, rr_46, rw_46, ok_some, f_X11_digitOf]
    refine ⟨?_, hf2⟩
    rw [th_eq, ← ha 0 (by omega), ← ha 1 (by omega), ← ha 4 (by omega)]
    rfl
  | some g =>
    obtain ⟨g1, g2, g3⟩ := hR
    obtain ⟨w, hw⟩ := g3 s e1 e4
    simp (disch := omega) only [u_jn, o_bind, o_nck, o_ckT, not_false_eq_true, mI_le, mI_lt, mI_eq, mI_succ, mI_8, mI_16, mI_add, i10, eq_self, if_true, if_false, Bool.false_eq_true, e4, g1, hw, ok_some, f_X11_digitOf]
    refine ⟨?_, hf2.sI (Or.inl rfl)⟩
    show clamp (g (s.1 (r + 4))) = clamp (g (askd v e M p))
    rw [g2 _ _ ha]
end PL
