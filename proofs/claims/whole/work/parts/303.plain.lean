/-! PURE LAYER: what is only looked at -/
def smb (p : Int32) (F : Nat) : Bool := decide (0 ≤ p.toInt ∧ p.toInt < F)
theorem smb_is {p : Int32} {F : Nat} (h : smb p F = true) : ∃ k, k < F ∧ p = mI k := by
  have h := of_decide_eq_true h
  refine ⟨p.toInt.toNat, by omega, ?_⟩
  apply Int32.toInt_inj.mp
  have h2 : p.toInt < 2 ^ 31 := Int32.toInt_lt p
  rw [Int32.toInt_ofNat_of_lt (by omega)]
  omega
theorem smb_mI {k F : Nat} (hk : k < 1000000) : smb (mI k) F = decide (k < F) := by
  unfold smb
  rw [mI_int hk]
  congr 1
  apply propext
  omega
theorem lt0 (p : Int32) : (p < 0) = (p.toInt < 0) := by rw [Int32.lt_iff_toInt_lt]; rfl
theorem le_mI {p : Int32} {F : Nat} (h : F < 1000000) : (mI F ≤ p) = ((F : Int) ≤ p.toInt) := by rw [Int32.le_iff_toInt_le, mI_int h]
theorem mI_m1 {F : Nat} (h : F < 1000000) : (mI F - 1).toInt = (F : Int) - 1 := by
  rw [Int32.toInt_sub, mI_int h]
  show Int.bmod ((F : Int) - 1) (2 ^ 32) = _
  exact Int.bmod_eq_of_le (by omega) (by omega)
theorem mI_pred {F : Nat} (h0 : 0 < F) (h : F < 1000000) : mI F - 1 = mI (F - 1) := by
  apply Int32.toInt_inj.mp
  rw [mI_m1 h, mI_int (by omega)]
  omega
theorem m1_lt {p : Int32} {F : Nat} (h : F < 1000000) : (mI F - 1 < p) = ((F : Int) ≤ p.toInt) := by
  apply propext
  rw [Int32.lt_iff_toInt_lt, mI_m1 h]
  omega
theorem if_smb {p : Int32} {F : Nat} {α : Type} (x y : α) : (if p.toInt < 0 then x else if (F : Int) ≤ p.toInt then x else y) = if smb p F then y else x := by
  unfold smb
  by_cases h1 : p.toInt < 0
  · rw [if_pos h1, if_neg (by simp; omega)]
  · rw [if_neg h1]
    by_cases h2 : (F : Int) ≤ p.toInt
    · rw [if_pos h2, if_neg (by simp; omega)]
    · rw [if_neg h2, if_pos (by simp; omega)]
theorem max0 {L : Nat} (h : L < 1000000) : (if 0 < mI L then mI L else 0) = mI L := by
  by_cases h0 : L = 0
  · subst h0; rfl
  · refine if_pos ?_
    rw [show (0 : Int32) = mI 0 from rfl, mI_lt (by omega) h]; omega
def sIn (b e : Nat → Int32) : Nat → Int32
  | 0 => 0
  | k + 1 => sIn b e k ||| (if b k < e k then (0 : Int32) else 1 <<< (mI k &&& 31))
def sBel (v : Nat → Int32) (x : Int32) : Nat → Int32
  | 0 => 0
  | k + 1 => sBel v x k + (if tb x k then v k else 0)
def sSum (v : Nat → Int32) : Nat → Int32
  | 0 => 0
  | k + 1 => sSum v k + v k
def sWho (s : Nat → Int32) (p : Nat) : Nat → Int32
  | 0 => 0
  | k + 1 => sWho s p k ||| (if tb (s k) p then 1 <<< (mI k &&& 31) else 0)
def sCnt (s : Nat → Int32) (p : Nat) : Nat → Nat
  | 0 => 0
  | k + 1 => sCnt s p k + (if tb (s k) p then 1 else 0)
def sGl (s : Nat → Int32) (M : Nat) : Nat → Int32
  | 0 => 0
  | k + 1 => sGl s M k + bc (s k &&& sAll M)
theorem sIn_congr {b e b' e' : Nat → Int32} {k : Nat} (h : ∀ i, i < k → b i = b' i ∧ e i = e' i) : sIn b e k = sIn b' e' k := by
  induction k with
  | zero => rfl
  | succ k ih => show sIn b e k ||| _ = sIn b' e' k ||| _; rw [ih (fun i hi => h i (by omega)), (h k (by omega)).1, (h k (by omega)).2]
theorem sBel_congr {v v' : Nat → Int32} {x y : Int32} {k : Nat} (h : ∀ i, i < k → v i = v' i ∧ tb x i = tb y i) : sBel v x k = sBel v' y k := by
  induction k with
  | zero => rfl
  | succ k ih => show sBel v x k + _ = sBel v' y k + _; rw [ih (fun i hi => h i (by omega)), (h k (by omega)).1, (h k (by omega)).2]
theorem sSum_congr {v v' : Nat → Int32} {k : Nat} (h : ∀ i, i < k → v i = v' i) : sSum v k = sSum v' k := by
  induction k with
  | zero => rfl
  | succ k ih => show sSum v k + _ = sSum v' k + _; rw [ih (fun i hi => h i (by omega)), h k (by omega)]
theorem sGl_congr {s s' : Nat → Int32} {M k : Nat} (h : ∀ i, i < k → s i = s' i) : sGl s M k = sGl s' M k := by
  induction k with
  | zero => rfl
  | succ k ih => show sGl s M k + _ = sGl s' M k + _; rw [ih (fun i hi => h i (by omega)), h k (by omega)]
theorem sBel_all {v : Nat → Int32} {M : Nat} (hM : M ≤ 8) : ∀ k, k ≤ M → sBel v (sAll M) k = sSum v k := by
  intro k
  induction k with
  | zero => intro _; rfl
  | succ k ih =>
    intro hk
    show sBel v (sAll M) k + _ = sSum v k + _
    rw [ih (by omega), tb_all (by omega) (by omega)]
    simp [show k < M by omega]
theorem tb_sIn {b e : Nat → Int32} : ∀ k i, k ≤ 8 → tb (sIn b e k) i = (decide (i < k) && !decide (b i < e i)) := by
  intro k
  induction k with
  | zero => intro i _; show tb 0 i = _; rw [tb_0]; simp
  | succ k ih =>
    intro i hk
    show tb (sIn b e k ||| _) i = _
    rw [tb_or, ih i (by omega)]
    by_cases hi : i < 32
    · by_cases hb : b k < e k
      · rw [if_pos hb, tb_0]
        by_cases h : i = k
        · subst h; simp [hb]
        · have : (decide (i < k)) = decide (i < k + 1) := by congr 1; apply propext; omega
          rw [this]; simp
      · rw [if_neg hb, tb_1 (by omega) hi]
        by_cases h : i = k
        · subst h; simp [hb]
        · have : (decide (i < k)) = decide (i < k + 1) := by congr 1; apply propext; omega
          rw [this]; simp [h]
    · have h1 : ¬ i < k := by omega
      have h2 : ¬ i < k + 1 := by omega
      simp [h1, h2, tb_hi (show 32 ≤ i by omega)]
theorem lo8_sIn {b e : Nat → Int32} {k : Nat} (hk : k ≤ 8) : lo8 (sIn b e k) := fun i hi => by
  rw [tb_sIn k i hk]; simp; omega
theorem tb_sWho {s : Nat → Int32} {p : Nat} : ∀ k i, k ≤ 8 → tb (sWho s p k) i = (decide (i < k) && tb (s i) p) := by
  intro k
  induction k with
  | zero => intro i _; show tb 0 i = _; rw [tb_0]; simp
  | succ k ih =>
    intro i hk
    show tb (sWho s p k ||| _) i = _
    rw [tb_or, ih i (by omega)]
    by_cases hi : i < 32
    · by_cases hb : tb (s k) p = true
      · rw [if_pos hb, tb_1 (by omega) hi]
        by_cases h : i = k
        · subst h; simp [hb]
        · have : (decide (i < k)) = decide (i < k + 1) := by congr 1; apply propext; omega
          rw [this]; simp [h]
      · rw [if_neg hb, tb_0]
        by_cases h : i = k
        · subst h; simp [hb]
        · have : (decide (i < k)) = decide (i < k + 1) := by congr 1; apply propext; omega
          rw [this]; simp
    · have h1 : ¬ i < k := by omega
      have h2 : ¬ i < k + 1 := by omega
      simp [h1, h2, tb_hi (show 32 ≤ i by omega)]
theorem lo8_sWho {s : Nat → Int32} {p k : Nat} (hk : k ≤ 8) : lo8 (sWho s p k) := fun i hi => by
  rw [tb_sWho k i hk]; simp; omega
theorem cnt_stop {x : Int32} {M : Nat} (h : ∀ i, M ≤ i → tb x i = false) : ∀ k, M ≤ k → cnt x k = cnt x M := by
  intro k
  induction k with
  | zero => intro hk; rw [show M = 0 by omega]
  | succ k ih =>
    intro hk
    by_cases h2 : M = k + 1
    · rw [h2]
    · show cnt x k + _ = _
      rw [ih (by omega), h k (by omega)]; simp
theorem cnt_sWho {s : Nat → Int32} {p M : Nat} (hM : M ≤ 8) : cnt (sWho s p M) 8 = sCnt s p M := by
  rw [cnt_stop (M := M) (fun i hi => by rw [tb_sWho M i hM]; simp; omega) 8 hM]
  have : ∀ k, k ≤ M → cnt (sWho s p M) k = sCnt s p k := by
    intro k
    induction k with
    | zero => intro _; rfl
    | succ k ih =>
      intro hk
      show cnt (sWho s p M) k + _ = sCnt s p k + _
      rw [ih (by omega), tb_sWho M k hM]
      simp [show k < M by omega]
  exact this M (Nat.le_refl _)
section PC
variable {N : Nat} {σ : uS} {i : Nat} {M F : Nat}
theorem c_isFurrow (hF : σ.1 i 5 = mI F) (hF16 : F ≤ 16) (p : Int32) : f_X7_isFurrow N σ i p = some (if smb p F then 1 else 0) := by
  unfold f_X7_isFurrow
  simp only [u_jn, hF, lt0, le_mI (show F < 1000000 by omega)]
  rw [if_smb]
  split <;> rfl
theorem c_isPerson (hM : σ.1 i 8 = mI M) (hM8 : M ≤ 8) (p : Int32) : f_X7_isPerson N σ i p = some (if smb p M then 1 else 0) := by
  unfold f_X7_isPerson
  simp only [u_jn, hM, lt0, le_mI (show M < 1000000 by omega)]
  rw [if_smb]
  split <;> rfl
theorem c_isOfRope {L R k : Nat} (hL : σ.1 i 6 = mI L) (hR : σ.1 i 7 = mI R) (h1 : L < 1000) (h2 : R < 1000) (h3 : k < 1000) : f_X7_isOfRope N σ i (mI k) = some (if L ≤ k ∧ k ≤ R then 1 else 0) := by
  unfold f_X7_isOfRope
  simp (disch := omega) only [u_jn, o_bind, o_nck, o_ckT, not_false_eq_true, mI_le, mI_lt, mI_eq, mI_succ, mI_8, mI_16, mI_add, i10, eq_self, if_true, if_false, Bool.false_eq_true, hL, hR]
  by_cases h : k < L
  · rw [if_pos h, if_neg (by omega)]
  · rw [if_neg h]
    by_cases h4 : R < k
    · rw [if_pos h4, if_neg (by omega)]
    · rw [if_neg h4, if_pos (by omega)]
theorem c_everybody (hM : σ.1 i 8 = mI M) : f_X7_everybody N σ i = some (sAll M) := by unfold f_X7_everybody; rw [hM]
theorem c_isIn {k : Nat} (h1 : 32 ≤ i) (h2 : i < 134) (h3 : (i - 32) % 6 = 0) (hk : k < 8) : f_X7_isIn N σ i (mI k) = some (if σ.1 (i + 2) k < σ.1 (i + 4) k then 0 else 1) := by
  unfold f_X7_isIn
  simp (disch := omega) only [u_jn, o_bind, o_nck, o_ckT, not_false_eq_true, mI_le, mI_lt, mI_eq, mI_succ, mI_8, mI_16, mI_add, i10, eq_self, if_true, if_false, Bool.false_eq_true, sr_1, sr_2, sr_3, sr_4, sr_5, sw_1, sw_2, sw_3, sw_4, sw_5]
  split <;> rfl
theorem c_inside (h1 : 32 ≤ i) (h2 : i < 134) (h3 : (i - 32) % 6 = 0) (hM : σ.1 i 8 = mI M) (hM8 : M ≤ 8) (hN : 500 < N) : f_X7_inside N σ i = some (sIn (σ.1 (i + 2)) (σ.1 (i + 4)) M) := by
  unfold f_X7_inside
  refine lp2_eq (sIn (σ.1 (i + 2)) (σ.1 (i + 4))) mI M N _ (by omega) (fun k rec hk => ?_) (fun rec => ?_)
  · unfold b_X7_inside_4
    simp (disch := omega) only [u_jn, o_bind, o_nck, o_ckT, not_false_eq_true, mI_le, mI_lt, mI_eq, mI_succ, mI_8, mI_16, mI_add, i10, eq_self, if_true, if_false, Bool.false_eq_true, hM, Nat.not_le.mpr hk, c_isIn (N := N) h1 h2 h3 (show k < 8 by omega)]
    show _ = rec (sIn (σ.1 (i + 2)) (σ.1 (i + 4)) k ||| _) _
    by_cases h : σ.1 (i + 2) k < σ.1 (i + 4) k
    · simp (disch := omega) only [u_jn, o_bind, o_nck, o_ckT, not_false_eq_true, mI_le, mI_lt, mI_eq, mI_succ, mI_8, mI_16, mI_add, i10, eq_self, if_true, if_false, Bool.false_eq_true, h]
    · simp (disch := omega) only [u_jn, o_bind, o_nck, o_ckT, not_false_eq_true, mI_le, mI_lt, mI_eq, mI_succ, mI_8, mI_16, mI_add, i10, eq_self, if_true, if_false, Bool.false_eq_true, h]
  · unfold b_X7_inside_4
    simp (disch := omega) only [u_jn, o_bind, o_nck, o_ckT, not_false_eq_true, mI_le, mI_lt, mI_eq, mI_succ, mI_8, mI_16, mI_add, i10, eq_self, if_true, if_false, Bool.false_eq_true, hM, Nat.le_refl]
theorem c_outside (h1 : 32 ≤ i) (h2 : i < 134) (h3 : (i - 32) % 6 = 0) (hM : σ.1 i 8 = mI M) (hM8 : M ≤ 8) (hN : 500 < N) : f_X7_outside N σ i = some (sAll M &&& (sIn (σ.1 (i + 2)) (σ.1 (i + 4)) M ^^^ (-1))) := by
  unfold f_X7_outside
  rw [c_everybody hM, c_inside h1 h2 h3 hM hM8 hN]; rfl
theorem c_howManyIn (h1 : 32 ≤ i) (h2 : i < 134) (h3 : (i - 32) % 6 = 0) (hM : σ.1 i 8 = mI M) (hM8 : M ≤ 8) (hN : 500 < N) : f_X7_howManyIn N σ i = some (bc (sIn (σ.1 (i + 2)) (σ.1 (i + 4)) M)) := by
  unfold f_X7_howManyIn
  rw [c_inside h1 h2 h3 hM hM8 hN]; rfl
theorem c_seenBy {k : Nat} (h1 : 32 ≤ i) (h2 : i < 134) (h3 : (i - 32) % 6 = 0) (hM : σ.1 i 8 = mI M) (hk : k < 8) : f_X7_seenBy N σ i (mI k) = some (σ.1 (i + 5) k &&& sAll M) := by
  unfold f_X7_seenBy
  rw [sr_5 h1 h2 h3 hk, c_everybody hM]; rfl
theorem c_sees {k p : Nat} (h1 : 32 ≤ i) (h2 : i < 134) (h3 : (i - 32) % 6 = 0) (hk : k < 8) (hp : p < 8) : f_X7_sees N σ i (mI k) (mI p) = some (if tb (σ.1 (i + 5) k) p then 1 else 0) := by
  unfold f_X7_sees
  simp (disch := omega) only [u_jn, o_bind, o_nck, o_ckT, not_false_eq_true, mI_le, mI_lt, mI_eq, mI_succ, mI_8, mI_16, mI_add, i10, eq_self, if_true, if_false, Bool.false_eq_true, sr_1, sr_2, sr_3, sr_4, sr_5, sw_1, sw_2, sw_3, sw_4, sw_5, bit_is]
  split <;> rfl
theorem c_whoSee {p : Nat} (h1 : 32 ≤ i) (h2 : i < 134) (h3 : (i - 32) % 6 = 0) (hM : σ.1 i 8 = mI M) (hM8 : M ≤ 8) (hp : p < 8) (hN : 500 < N) : f_X7_whoSee N σ i (mI p) = some (sWho (σ.1 (i + 5)) p M) := by
  unfold f_X7_whoSee
  refine lp2_eq (sWho (σ.1 (i + 5)) p) mI M N _ (by omega) (fun k rec hk => ?_) (fun rec => ?_)
  · unfold b_X7_whoSee_4
    simp (disch := omega) only [u_jn, o_bind, o_nck, o_ckT, not_false_eq_true, mI_le, mI_lt, mI_eq, mI_succ, mI_8, mI_16, mI_add, i10, eq_self, if_true, if_false, Bool.false_eq_true, hM, Nat.not_le.mpr hk, c_sees (N := N) h1 h2 h3 (show k < 8 by omega) hp]
    show _ = rec (sWho (σ.1 (i + 5)) p k ||| _) _
    by_cases h : tb (σ.1 (i + 5) k) p = true
    · simp (disch := omega) only [u_jn, o_bind, o_nck, o_ckT, not_false_eq_true, mI_le, mI_lt, mI_eq, mI_succ, mI_8, mI_16, mI_add, i10, eq_self, if_true, if_false, Bool.false_eq_true, h]
    · simp (disch := omega) only [u_jn, o_bind, o_nck, o_ckT, not_false_eq_true, mI_le, mI_lt, mI_eq, mI_succ, mI_8, mI_16, mI_add, i10, eq_self, if_true, if_false, Bool.false_eq_true, h]
  · unfold b_X7_whoSee_4
    simp (disch := omega) only [u_jn, o_bind, o_nck, o_ckT, not_false_eq_true, mI_le, mI_lt, mI_eq, mI_succ, mI_8, mI_16, mI_add, i10, eq_self, if_true, if_false, Bool.false_eq_true, hM, Nat.le_refl]
theorem c_glances (h1 : 32 ≤ i) (h2 : i < 134) (h3 : (i - 32) % 6 = 0) (hM : σ.1 i 8 = mI M) (hM8 : M ≤ 8) (hN : 500 < N) : f_X7_glances N σ i = some (sGl (σ.1 (i + 5)) M M) := by
  unfold f_X7_glances
  refine lp2_eq (sGl (σ.1 (i + 5)) M) mI M N _ (by omega) (fun k rec hk => ?_) (fun rec => ?_)
  · unfold b_X7_glances_4
    simp (disch := omega) only [u_jn, o_bind, o_nck, o_ckT, not_false_eq_true, mI_le, mI_lt, mI_eq, mI_succ, mI_8, mI_16, mI_add, i10, eq_self, if_true, if_false, Bool.false_eq_true, hM, Nat.not_le.mpr hk, c_seenBy (N := N) h1 h2 h3 hM (show k < 8 by omega), bc_f]
    rfl
  · unfold b_X7_glances_4
    simp (disch := omega) only [u_jn, o_bind, o_nck, o_ckT, not_false_eq_true, mI_le, mI_lt, mI_eq, mI_succ, mI_8, mI_16, mI_add, i10, eq_self, if_true, if_false, Bool.false_eq_true, hM, Nat.le_refl]
theorem c_beliefOfAll (h1 : 32 ≤ i) (h2 : i < 134) (h3 : (i - 32) % 6 = 0) (hM : σ.1 i 8 = mI M) (hM8 : M ≤ 8) (hN : 500 < N) : f_X7_beliefOfAll N σ i = some (sSum (σ.1 (i + 2)) M) := by
  unfold f_X7_beliefOfAll
  refine lp2_eq (sSum (σ.1 (i + 2))) mI M N _ (by omega) (fun k rec hk => ?_) (fun rec => ?_)
  · unfold b_X7_beliefOfAll_4
    simp (disch := omega) only [u_jn, o_bind, o_nck, o_ckT, not_false_eq_true, mI_le, mI_lt, mI_eq, mI_succ, mI_8, mI_16, mI_add, i10, eq_self, if_true, if_false, Bool.false_eq_true, hM, Nat.not_le.mpr hk, sr_1, sr_2, sr_3, sr_4, sr_5, sw_1, sw_2, sw_3, sw_4, sw_5]
    rfl
  · unfold b_X7_beliefOfAll_4
    simp (disch := omega) only [u_jn, o_bind, o_nck, o_ckT, not_false_eq_true, mI_le, mI_lt, mI_eq, mI_succ, mI_8, mI_16, mI_add, i10, eq_self, if_true, if_false, Bool.false_eq_true, hM, Nat.le_refl]
theorem c_cornOf {L n : Nat} (h1 : 32 ≤ i) (h2 : i < 134) (h3 : (i - 32) % 6 = 0) (hF : σ.1 i 5 = mI F) (hF16 : F ≤ 16) (hl : L + n ≤ F) (hn : 0 < L + n) (hN : 500 < N) : f_X7_cornOf N σ i (mI L) (mI (L + n - 1)) = some (sSum (fun j => σ.1 (i + 1) (L + j)) n) := by
  unfold f_X7_cornOf
  have e0 := max0 (L := L) (by omega)
  simp only [u_jn]
  rw [e0]
  refine lp2_eq (sSum (fun j => σ.1 (i + 1) (L + j))) (fun j => mI (L + j)) n N _ (by omega) (fun k rec hk => ?_) (fun rec => ?_)
  · unfold b_X7_cornOf_9
    simp (disch := omega) only [u_jn, o_bind, o_nck, o_ckT, not_false_eq_true, mI_le, mI_lt, mI_eq, mI_succ, mI_8, mI_16, mI_add, i10, eq_self, if_true, if_false, Bool.false_eq_true, hF, show ¬ (L + n - 1 < L + k) by omega, show ¬ (F ≤ L + k) by omega, sr_1, sr_2, sr_3, sr_4, sr_5, sw_1, sw_2, sw_3, sw_4, sw_5]
    rfl
  · unfold b_X7_cornOf_9
    simp (disch := omega) only [u_jn, o_bind, o_nck, o_ckT, not_false_eq_true, mI_le, mI_lt, mI_eq, mI_succ, mI_8, mI_16, mI_add, i10, eq_self, if_true, if_false, Bool.false_eq_true, hF, show L + n - 1 < L + n by omega]
end PC
