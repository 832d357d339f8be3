/-! PURE LAYER: what a crossing does, over a row of 37 as the reference has it -/
def sOut (b e : Nat → Int32) (x : Int32) : Nat → Nat
  | 0 => 0
  | k + 1 => sOut b e x k + (if tb x k then (if b k < e k then 1 else 0) else 0)
def clamp (x : Int32) : Int32 := if 0 < (if x < 9 then x else 9) then (if x < 9 then x else 9) else 0
def sMean (v : Nat → Int32) (M p : Nat) : Int32 := if cnt (v (8 + p)) M = 0 then v p else sBel v (v (8 + p)) M / mI (cnt (v (8 + p)) M)
def sSign (v : Nat → Int32) (p : Nat) : Int32 := if tb (v 34) p then 1 else 0
def askd (v e : Nat → Int32) (M p : Nat) : Nat → Int32 := fun k =>
  if k = 0 then v p else if k = 1 then sMean v M p else if k = 2 then mI (cnt (v (8 + p)) M) else if k = 3 then mI (sOut v e (v (8 + p)) M) else if k = 4 then sSign v p else if k = 5 then v 35 - v 35 / 7 * 7 else e p
abbrev Rho : Type := Option ((Nat → Int32) → Int32)
def th (ρ : Rho) (v e : Nat → Int32) (M p : Nat) : Int32 := clamp (match ρ with
  | none => (v p + sMean v M p + 1) / 2 - 3 * sSign v p
  | some g => g (askd v e M p))
def turnV (ρ : Rho) (v e : Nat → Int32) (M : Nat) : Nat → Int32 := fun j => if j < M then th ρ v e M j else if j = 34 then 0 else if j = 35 then v 35 + 1 else v j
def partC (v : Nat → Int32) (was : Int32) (f : Nat) : Int32 := if mI f < v 32 then (if v (16 + f) + 1 < 9 then v (16 + f) + 1 else 9) else if v 33 < mI f then (if v (16 + f) + 1 < 9 then v (16 + f) + 1 else 9) else if was = 0 then v (16 + f) else if 0 < v (16 + f) - 1 then v (16 + f) - 1 else 0
def partV (v : Nat → Int32) (was : Int32) (F : Nat) : Nat → Int32 := fun j => if 16 ≤ j ∧ j < 16 + F then partC v was (j - 16) else v j
def sRope (v : Nat → Int32) : Int32 := sSum (fun j => v (16 + ((v 32).toNatClampNeg + j))) ((v 33).toNatClampNeg + 1 - (v 32).toNatClampNeg)
def payV (v e : Nat → Int32) (M : Nat) : Nat → Int32 := fun j => if j = 36 then (if sIn v e M = 0 then v 36 else v 36 + sRope v) else v j
def crossV (ρ : Rho) (v e : Nat → Int32) (M F : Nat) : Nat → Int32 := turnV ρ (partV (payV v e M) (sIn v e M) F) e M
def crossN (ρ : Rho) (e : Nat → Int32) (M F : Nat) (v : Nat → Int32) : Nat → Nat → Int32
  | 0 => v
  | k + 1 => crossV ρ (crossN ρ e M F v k) e M F
def chg (ρ : Rho) (v e : Nat → Int32) (M F : Nat) : Int32 := bc (sIn v e M ^^^ sIn (crossV ρ v e M F) e M)
def chgN (ρ : Rho) (e : Nat → Int32) (M F : Nat) (v : Nat → Int32) : Nat → Int32
  | 0 => 0
  | k + 1 => chgN ρ e M F v k + chg ρ (crossN ρ e M F v k) e M F
/-- a digit -/
def dg (x : Int32) : Prop := ∃ n, n ≤ 9 ∧ x = mI n
theorem dg_clamp (x : Int32) : dg (clamp x) := by
  unfold clamp
  by_cases h1 : x < 9
  · rw [if_pos h1]
    by_cases h2 : 0 < x
    · rw [if_pos h2]
      have a1 := Int32.lt_iff_toInt_lt.mp h1
      have a2 := Int32.lt_iff_toInt_lt.mp h2
      have e9 : (9 : Int32).toInt = 9 := rfl
      have e0 : (0 : Int32).toInt = 0 := rfl
      refine ⟨x.toInt.toNat, by omega, ?_⟩
      apply Int32.toInt_inj.mp
      rw [mI_int (by omega)]; omega
    · rw [if_neg h2]; exact ⟨0, by omega, rfl⟩
  · rw [if_neg h1, if_pos (by decide)]; exact ⟨9, by omega, rfl⟩
/-- what always holds of such a row -/
def vok (B M F : Nat) (v : Nat → Int32) : Prop := (∀ p, p < M → dg (v p)) ∧ (∀ f, f < F → dg (v (16 + f))) ∧ (∃ L R, L ≤ R ∧ R < F ∧ v 32 = mI L ∧ v 33 = mI R) ∧ lo8 (v 34) ∧ ∃ d, d ≤ B ∧ v 35 = mI d
theorem dg_up {x : Int32} (h : dg x) : dg (if x + 1 < 9 then x + 1 else 9) := by
  obtain ⟨n, hn, rfl⟩ := h
  rw [mI_succ]
  by_cases h2 : n + 1 < 9
  · rw [if_pos (by rw [show (9 : Int32) = mI 9 from rfl, mI_lt (by omega) (by omega)]; exact h2)]; exact ⟨n + 1, by omega, rfl⟩
  · rw [if_neg (by rw [show (9 : Int32) = mI 9 from rfl, mI_lt (by omega) (by omega)]; exact h2)]; exact ⟨9, by omega, rfl⟩
theorem dg_down {x : Int32} (h : dg x) : dg (if 0 < x - 1 then x - 1 else 0) := by
  obtain ⟨n, hn, rfl⟩ := h
  by_cases h0 : n = 0
  · subst h0; exact ⟨0, by omega, rfl⟩
  · rw [mI_pred (by omega) (by omega)]
    by_cases h2 : 0 < n - 1
    · rw [if_pos (by rw [show (0 : Int32) = mI 0 from rfl, mI_lt (by omega) (by omega)]; exact h2)]; exact ⟨n - 1, by omega, rfl⟩
    · rw [if_neg (by rw [show (0 : Int32) = mI 0 from rfl, mI_lt (by omega) (by omega)]; exact h2)]; exact ⟨0, by omega, rfl⟩
theorem dg_partC {v : Nat → Int32} {was : Int32} {f : Nat} (h : dg (v (16 + f))) : dg (partC v was f) := by
  unfold partC
  split
  · exact dg_up h
  · split
    · exact dg_up h
    · split
      · exact h
      · exact dg_down h
theorem vok_cross {B M F : Nat} {ρ : Rho} {v e : Nat → Int32} (hM : M ≤ 8) (hF : F ≤ 16) (h : vok B M F v) : vok (B + 1) M F (crossV ρ v e M F) := by
  obtain ⟨h1, h2, ⟨L, R, h3, h4, h5, h6⟩, h7, d, h8, h9⟩ := h
  have hp : ∀ j, ¬ (16 ≤ j ∧ j < 16 + F) → j ≠ 36 → partV (payV v e M) (sIn v e M) F j = v j := fun j hj hj2 => by
    unfold partV; rw [if_neg hj]; unfold payV; rw [if_neg hj2]
  have hc : ∀ j, M ≤ j → j ≠ 34 → j ≠ 35 → crossV ρ v e M F j = partV (payV v e M) (sIn v e M) F j := fun j a b c => by
    unfold crossV turnV; rw [if_neg (by omega), if_neg b, if_neg c]
  refine ⟨fun p hp => ?_, fun f hf => ?_, ⟨L, R, h3, h4, ?_, ?_⟩, ?_, d + 1, by omega, ?_⟩
  · unfold crossV turnV; rw [if_pos hp]; exact dg_clamp _
  · rw [hc _ (by omega) (by omega) (by omega)]
    unfold partV
    rw [if_pos (by omega)]
    rw [show 16 + f - 16 = f by omega]
    apply dg_partC
    unfold payV; rw [if_neg (by omega)]
    exact h2 f hf
  · rw [hc _ (by omega) (by omega) (by omega), hp _ (by omega) (by omega)]; exact h5
  · rw [hc _ (by omega) (by omega) (by omega), hp _ (by omega) (by omega)]; exact h6
  · unfold crossV turnV; rw [if_neg (by omega), if_pos rfl]; exact lo8_0
  · unfold crossV turnV; rw [if_neg (by omega), if_neg (by omega), if_pos rfl, hp _ (by omega) (by omega), h9]; exact mI_succ d
theorem vok_crossN {B M F : Nat} {ρ : Rho} {v e : Nat → Int32} (hM : M ≤ 8) (hF : F ≤ 16) (h : vok B M F v) : ∀ k, vok (B + k) M F (crossN ρ e M F v k)
  | 0 => h
  | k + 1 => vok_cross hM hF (vok_crossN hM hF h k)
theorem vok_le {B B' M F : Nat} {v : Nat → Int32} (h : vok B M F v) (hb : B ≤ B') : vok B' M F v := by
  obtain ⟨h1, h2, h3, h4, d, h5, h6⟩ := h
  exact ⟨h1, h2, h3, h4, d, by omega, h6⟩
theorem sOut_congr {b e b' e' : Nat → Int32} {x : Int32} {k : Nat} (h : ∀ i, i < k → b i = b' i ∧ e i = e' i) : sOut b e x k = sOut b' e' x k := by
  induction k with
  | zero => rfl
  | succ k ih => show sOut b e x k + _ = sOut b' e' x k + _; rw [ih (fun i hi => h i (by omega)), (h k (by omega)).1, (h k (by omega)).2]
theorem sOut_le (b e : Nat → Int32) (x : Int32) (k : Nat) : sOut b e x k ≤ k := by
  induction k with
  | zero => exact Nat.le_refl _
  | succ k ih => show sOut b e x k + _ ≤ _; (repeat' split) <;> omega
/-- those of some who are out -/
theorem bc_out {b e : Nat → Int32} {x : Int32} {M : Nat} (hM : M ≤ 8) : bc ((x &&& sAll M) &&& (sIn b e M ^^^ (-1))) = mI (sOut b e x M) := by
  rw [bc_cnt (lo8_andl (lo8_and (lo8_all hM)))]
  congr 1
  rw [cnt_stop (M := M) (fun i hi => by
    rw [tb_and, tb_and]
    by_cases h : i < 32
    · rw [tb_all (by omega) h]; simp [show ¬ i < M by omega]
    · rw [tb_hi (x := x) (by omega)]; simp) 8 hM]
  have : ∀ k, k ≤ M → cnt ((x &&& sAll M) &&& (sIn b e M ^^^ (-1))) k = sOut b e x k := by
    intro k
    induction k with
    | zero => intro _; rfl
    | succ k ih =>
      intro hk
      show cnt _ k + _ = sOut b e x k + _
      rw [ih (by omega), tb_and, tb_and, tb_all (by omega) (by omega), tb_not (by omega), tb_sIn M k hM]
      by_cases h1 : tb x k = true
      · by_cases h2 : b k < e k
        · simp [h1, h2, show k < M by omega]
        · simp [h1, h2, show k < M by omega]
      · simp [h1]
  exact this M (Nat.le_refl _)
