/-! PURE LAYER: the same of the reference -/
section PM
variable {N : Nat} {σ : uS} {a : Nat} {M F : Nat}
theorem m_in (p x y : Int32) : f_X12_in N σ p x y = some (if p < x then 0 else if y < p then 0 else 1) := by
  unfold f_X12_in
  simp only [u_jn]
  split
  · rfl
  · split <;> rfl
theorem m_isFurrow (hF : σ.1 0 1 = mI F) (hF16 : F ≤ 16) (p : Int32) : f_X12_isFurrow N σ p = some (if smb p F then 1 else 0) := by
  unfold f_X12_isFurrow
  rw [m_in, hF]
  simp only [o_bind, lt0, m1_lt (show F < 1000000 by omega)]
  rw [if_smb]
  split <;> rfl
theorem m_isMan (hM : σ.1 0 2 = mI M) (hM8 : M ≤ 8) (p : Int32) : f_X12_isMan N σ p = some (if smb p M then 1 else 0) := by
  unfold f_X12_isMan
  rw [m_in, hM]
  simp only [o_bind, lt0, m1_lt (show M < 1000000 by omega)]
  rw [if_smb]
  split <;> rfl
theorem m_areTwo (hM : σ.1 0 2 = mI M) (hM8 : M ≤ 8) (p q : Int32) : f_X12_areTwo N σ p q = some (if smb p M = true ∧ smb q M = true ∧ p ≠ q then 1 else 0) := by
  unfold f_X12_areTwo
  rw [m_isMan hM hM8, m_isMan hM hM8]
  simp only [u_jn, o_bind]
  cases h1 : smb p M
  · simp
  · cases h2 : smb q M
    · simp [i10]
    · by_cases h3 : p = q
      · simp [h3]
      · simp [h3]
theorem m_all (hM : σ.1 0 2 = mI M) : f_X12_all N σ = some (sAll M) := by unfold f_X12_all; rw [hM]
theorem m_has {p : Nat} (x : Int32) (hp : p < 32) : f_X12_has N σ x (mI p) = some (if tb x p then 1 else 0) := by
  unfold f_X12_has
  simp (disch := omega) only [u_jn, o_bind, o_nck, o_ckT, not_false_eq_true, mI_le, mI_lt, mI_eq, mI_succ, mI_8, mI_16, mI_add, i10, eq_self, if_true, if_false, Bool.false_eq_true, bit_is]
  split <;> rfl
theorem m_sees {k : Nat} (h : a = 1 ∨ a = 10 ∨ a = 11 ∨ a = 12) (hM : σ.1 0 2 = mI M) (hk : k < 8) : f_X12_sees N σ a (mI k) = some (σ.1 a (8 + k) &&& sAll M) := by
  unfold f_X12_sees
  simp (disch := omega) only [u_jn, o_bind, o_nck, o_ckT, not_false_eq_true, mI_le, mI_lt, mI_eq, mI_succ, mI_8, mI_16, mI_add, i10, eq_self, if_true, if_false, Bool.false_eq_true, vr, vw, vr32, vw32, vr33, vw33, vr34, vw34, vr35, vw35, vr36, vw36, m_all (N := N) hM]
theorem m_isIn {k : Nat} (h : a = 1 ∨ a = 10 ∨ a = 11 ∨ a = 12) (hk : k < 8) : f_X12_isIn N σ a (mI k) = some (if σ.1 a k < σ.1 2 k then 0 else 1) := by
  unfold f_X12_isIn
  simp (disch := omega) only [u_jn, o_bind, o_nck, o_ckT, not_false_eq_true, mI_le, mI_lt, mI_eq, mI_succ, mI_8, mI_16, mI_add, i10, eq_self, if_true, if_false, Bool.false_eq_true, vr, vw, vr32, vw32, vr33, vw33, vr34, vw34, vr35, vw35, vr36, vw36, mr_2]
  split <;> rfl
theorem m_inBits (h : a = 1 ∨ a = 10 ∨ a = 11 ∨ a = 12) (hM : σ.1 0 2 = mI M) (hM8 : M ≤ 8) (hN : 500 < N) : f_X12_inBits N σ a = some (sIn (σ.1 a) (σ.1 2) M) := by
  unfold f_X12_inBits
  refine lp2_eq (sIn (σ.1 a) (σ.1 2)) mI M N _ (by omega) (fun k rec hk => ?_) (fun rec => ?_)
  · unfold b_X12_inBits_4
    simp (disch := omega) only [u_jn, o_bind, o_nck, o_ckT, not_false_eq_true, mI_le, mI_lt, mI_eq, mI_succ, mI_8, mI_16, mI_add, i10, eq_self, if_true, if_false, Bool.false_eq_true, hM, Nat.not_le.mpr hk, m_isIn (N := N) h (show k < 8 by omega)]
    show _ = rec (sIn (σ.1 a) (σ.1 2) k ||| _) _
    by_cases h : σ.1 a k < σ.1 2 k
    · simp (disch := omega) only [u_jn, o_bind, o_nck, o_ckT, not_false_eq_true, mI_le, mI_lt, mI_eq, mI_succ, mI_8, mI_16, mI_add, i10, eq_self, if_true, if_false, Bool.false_eq_true, h]
    · simp (disch := omega) only [u_jn, o_bind, o_nck, o_ckT, not_false_eq_true, mI_le, mI_lt, mI_eq, mI_succ, mI_8, mI_16, mI_add, i10, eq_self, if_true, if_false, Bool.false_eq_true, h]
  · unfold b_X12_inBits_4
    simp (disch := omega) only [u_jn, o_bind, o_nck, o_ckT, not_false_eq_true, mI_le, mI_lt, mI_eq, mI_succ, mI_8, mI_16, mI_add, i10, eq_self, if_true, if_false, Bool.false_eq_true, hM, Nat.le_refl]
theorem m_beliefs (h : a = 1 ∨ a = 10 ∨ a = 11 ∨ a = 12) (hM : σ.1 0 2 = mI M) (hM8 : M ≤ 8) (hN : 500 < N) (x : Int32) : f_X12_beliefs N σ a x = some (sBel (σ.1 a) x M) := by
  unfold f_X12_beliefs
  refine lp2_eq (sBel (σ.1 a) x) mI M N _ (by omega) (fun k rec hk => ?_) (fun rec => ?_)
  · unfold b_X12_beliefs_5
    simp (disch := omega) only [u_jn, o_bind, o_nck, o_ckT, not_false_eq_true, mI_le, mI_lt, mI_eq, mI_succ, mI_8, mI_16, mI_add, i10, eq_self, if_true, if_false, Bool.false_eq_true, hM, Nat.not_le.mpr hk, m_has (N := N) (σ := σ) x (show k < 32 by omega), vr, vw, vr32, vw32, vr33, vw33, vr34, vw34, vr35, vw35, vr36, vw36]
    show _ = rec (sBel (σ.1 a) x k + _) _
    by_cases h : tb x k = true
    · simp (disch := omega) only [u_jn, o_bind, o_nck, o_ckT, not_false_eq_true, mI_le, mI_lt, mI_eq, mI_succ, mI_8, mI_16, mI_add, i10, eq_self, if_true, if_false, Bool.false_eq_true, h]
    · simp (disch := omega) only [u_jn, o_bind, o_nck, o_ckT, not_false_eq_true, mI_le, mI_lt, mI_eq, mI_succ, mI_8, mI_16, mI_add, i10, eq_self, if_true, if_false, Bool.false_eq_true, h]
  · unfold b_X12_beliefs_5
    simp (disch := omega) only [u_jn, o_bind, o_nck, o_ckT, not_false_eq_true, mI_le, mI_lt, mI_eq, mI_succ, mI_8, mI_16, mI_add, i10, eq_self, if_true, if_false, Bool.false_eq_true, hM, Nat.le_refl]
theorem m_seenBy {p : Nat} (h : a = 1 ∨ a = 10 ∨ a = 11 ∨ a = 12) (hM : σ.1 0 2 = mI M) (hM8 : M ≤ 8) (hp : p < M) (hN : 500 < N) : f_X12_seenBy N σ a (mI p) = some (mI (sCnt (fun k => σ.1 a (8 + k)) p M)) := by
  unfold f_X12_seenBy
  refine lp2_eq (fun k => mI (sCnt (fun k => σ.1 a (8 + k)) p k)) mI M N _ (by omega) (fun k rec hk => ?_) (fun rec => ?_)
  · unfold b_X12_seenBy_5
    have e : tb (σ.1 a (8 + k) &&& sAll M) p = tb (σ.1 a (8 + k)) p := by rw [tb_and, tb_all (by omega) (by omega)]; simp [hp]
    simp (disch := omega) only [u_jn, o_bind, o_nck, o_ckT, not_false_eq_true, mI_le, mI_lt, mI_eq, mI_succ, mI_8, mI_16, mI_add, i10, eq_self, if_true, if_false, Bool.false_eq_true, hM, Nat.not_le.mpr hk, m_sees (N := N) h hM (show k < 8 by omega), m_has (N := N) (σ := σ) _ (show p < 32 by omega), e]
    show _ = rec (mI (sCnt (fun k => σ.1 a (8 + k)) p k + _)) _
    by_cases h : tb (σ.1 a (8 + k)) p = true
    · simp (disch := omega) only [u_jn, o_bind, o_nck, o_ckT, not_false_eq_true, mI_le, mI_lt, mI_eq, mI_succ, mI_8, mI_16, mI_add, i10, eq_self, if_true, if_false, Bool.false_eq_true, h]
    · simp (disch := omega) only [u_jn, o_bind, o_nck, o_ckT, not_false_eq_true, mI_le, mI_lt, mI_eq, mI_succ, mI_8, mI_16, mI_add, i10, eq_self, if_true, if_false, Bool.false_eq_true, h, Nat.add_zero, Int32.add_zero]
  · unfold b_X12_seenBy_5
    simp (disch := omega) only [u_jn, o_bind, o_nck, o_ckT, not_false_eq_true, mI_le, mI_lt, mI_eq, mI_succ, mI_8, mI_16, mI_add, i10, eq_self, if_true, if_false, Bool.false_eq_true, hM, Nat.le_refl]
theorem m_isRope {L R k : Nat} (h : a = 1 ∨ a = 10 ∨ a = 11 ∨ a = 12) (hL : σ.1 a 32 = mI L) (hR : σ.1 a 33 = mI R) (h1 : L < 1000) (h2 : R < 1000) (h3 : k < 1000) : f_X12_isRope N σ a (mI k) = some (if L ≤ k ∧ k ≤ R then 1 else 0) := by
  unfold f_X12_isRope
  simp (disch := omega) only [u_jn, o_bind, o_nck, o_ckT, not_false_eq_true, mI_le, mI_lt, mI_eq, mI_succ, mI_8, mI_16, mI_add, i10, eq_self, if_true, if_false, Bool.false_eq_true, vr, vw, vr32, vw32, vr33, vw33, vr34, vw34, vr35, vw35, vr36, vw36, m_in, hL, hR]
  by_cases h : k < L
  · rw [if_pos h, if_neg (by omega)]; rfl
  · rw [if_neg h]
    by_cases h4 : R < k
    · rw [if_pos h4, if_neg (by omega)]; rfl
    · rw [if_neg h4, if_pos (by omega)]; rfl
theorem m_corn {L n : Nat} (h : a = 1 ∨ a = 10 ∨ a = 11 ∨ a = 12) (hl : L + n ≤ 16) (hn : 0 < L + n) (hN : 500 < N) : f_X12_corn N σ a (mI L) (mI (L + n - 1)) = some (sSum (fun j => σ.1 a (16 + (L + j))) n) := by
  unfold f_X12_corn
  refine lp2_eq (sSum (fun j => σ.1 a (16 + (L + j)))) (fun j => mI (L + j)) n N _ (by omega) (fun k rec hk => ?_) (fun rec => ?_)
  · unfold b_X12_corn_6
    simp (disch := omega) only [u_jn, o_bind, o_nck, o_ckT, not_false_eq_true, mI_le, mI_lt, mI_eq, mI_succ, mI_8, mI_16, mI_add, i10, eq_self, if_true, if_false, Bool.false_eq_true, show ¬ (L + n - 1 < L + k) by omega, vr, vw, vr32, vw32, vr33, vw33, vr34, vw34, vr35, vw35, vr36, vw36]
    rfl
  · unfold b_X12_corn_6
    simp (disch := omega) only [u_jn, o_bind, o_nck, o_ckT, not_false_eq_true, mI_le, mI_lt, mI_eq, mI_succ, mI_8, mI_16, mI_add, i10, eq_self, if_true, if_false, Bool.false_eq_true, show L + n - 1 < L + n by omega]
theorem m_glances (hM : σ.1 0 2 = mI M) (hM8 : M ≤ 8) (hN : 500 < N) : f_X12_glances N σ = some (sGl (fun k => σ.1 1 (8 + k)) M M) := by
  unfold f_X12_glances
  refine lp2_eq (sGl (fun k => σ.1 1 (8 + k)) M) mI M N _ (by omega) (fun k rec hk => ?_) (fun rec => ?_)
  · unfold b_X12_glances_4
    simp (disch := omega) only [u_jn, o_bind, o_nck, o_ckT, not_false_eq_true, mI_le, mI_lt, mI_eq, mI_succ, mI_8, mI_16, mI_add, i10, eq_self, if_true, if_false, Bool.false_eq_true, hM, Nat.not_le.mpr hk, m_sees (N := N) (Or.inl rfl) hM (show k < 8 by omega), bc_f]
    rfl
  · unfold b_X12_glances_4
    simp (disch := omega) only [u_jn, o_bind, o_nck, o_ckT, not_false_eq_true, mI_le, mI_lt, mI_eq, mI_succ, mI_8, mI_16, mI_add, i10, eq_self, if_true, if_false, Bool.false_eq_true, hM, Nat.le_refl]
end PM
