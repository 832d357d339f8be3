/-! PURE LAYER: twice, floods -/
theorem mI_sub {a b : Nat} (h : b ≤ a) (ha : a < 1000000) : mI a - mI b = mI (a - b) := by
  apply Int32.toInt_inj.mp
  rw [Int32.toInt_sub, mI_int ha, mI_int (by omega), mI_int (by omega), Int.bmod_eq_of_le (by omega) (by omega)]
  omega
theorem rel_cK2 {N j M F : Nat} {ρ : Rho} {σc σm s t : uS} (hC : RelC N j M F ρ σc σm) (hf : cK σc s) (hm : mK σm t) (x y : Int64) : Rel N (j + 1) (cT2 s x y) (mT2 t x y) := ⟨M, F, ρ, (hC.to hf hm).told2 x y, rTold_2 x y⟩
theorem rel_cK1 {N j M F : Nat} {ρ : Rho} {σc σm s t : uS} (hC : RelC N j M F ρ σc σm) (hf : cK σc s) (hm : mK σm t) (x : Int64) : Rel N (j + 1) (cT1 s x) (mT1 t x) := ⟨M, F, ρ, (hC.to hf hm).told1 x, rTold_1 x⟩
theorem c_areF {N : Nat} {σ : uS} (n p : Int32) : f_X11_areFloods N σ n p = some (if n < 1 then 0 else if 12 < n then 0 else if p < 0 then 0 else if 10 < p then 0 else 1) := by
  unfold f_X11_areFloods
  simp only [jn_eq]
  (repeat' split) <;> rfl
theorem m_power {N b n : Nat} {σ : uS} (hn : n < 400) (hN : 500 < N) : f_X12_power N σ (mL b) (mI n) = some (mL (b ^ n)) := by
  unfold f_X12_power
  simp only [jn_eq]
  refine lp2_eq (fun k => mL (b ^ k)) mI n N _ (by omega) (fun k rec hk => ?_) (fun rec => ?_)
  · unfold b_X12_power_5
    rw [if_neg (by rw [mI_le (by omega) (by omega)]; omega)]
    simp only [jn_eq, mI_succ, mL_mul]
    rfl
  · unfold b_X12_power_5
    rw [if_pos (by rw [mI_le (by omega) (by omega)]; omega)]
/-- dry, wet, two in a row -/
def tw (p : Nat) : Nat → Nat × Nat × Nat
  | 0 => (1, 0, 0)
  | d + 1 => (((tw p d).1 + (tw p d).2.1) * (10 - p), (tw p d).1 * p, (tw p d).2.2 * 10 + (tw p d).2.1 * p)
theorem tw_sum {p : Nat} (hp : p ≤ 10) : ∀ d, (tw p d).2.2 + (tw p d).1 + (tw p d).2.1 = 10 ^ d
  | 0 => rfl
  | d + 1 => by
    have ih := tw_sum hp d
    show (tw p d).2.2 * 10 + (tw p d).2.1 * p + ((tw p d).1 + (tw p d).2.1) * (10 - p) + (tw p d).1 * p = 10 ^ d * 10
    rw [← ih]
    generalize (tw p d).1 = x
    generalize (tw p d).2.1 = y
    generalize (tw p d).2.2 = z
    have h1 : (x + y) * (10 - p) + (x + y) * p = (x + y) * 10 := by rw [← Nat.mul_add, show 10 - p + p = 10 by omega]
    have h2 : (x + y) * p = x * p + y * p := Nat.add_mul _ _ _
    omega
theorem pow12 {n : Nat} (h : n ≤ 12) : 10 ^ n ≤ 1000000000000 := Nat.pow_le_pow_right (n := 10) (by omega) h
theorem n_s40_ok (N j : Nat) (hN : 500 < N) : n_s40 N (Rel N j) (Rel N (j + 1)) := by
  intro σc σm h a1 a2
  have h := h.thr
  refine two ?_
  unfold f_X12_twice f_X11_twice
  simp only [jn_eq]
  generalize u_pI σm 0 8 0 = s1 at h ⊢
  have hmono := h.mono
  obtain ⟨M, F, ρ, hC, hTo⟩ := h
  rw [c_areF, m_in, m_in]
  simp only [o_bind]
  by_cases c1 : a1 < 1
  · simp only [c1, if_true, ok_some]
    exact ⟨trivial, hmono⟩
  by_cases c2 : 12 < a1
  · simp only [c1, c2, if_true, if_false, ok_some]
    exact ⟨trivial, hmono⟩
  by_cases c3 : a2 < 0
  · simp only [c1, c2, c3, if_true, if_false, ok_some, i10]
    exact ⟨trivial, hmono⟩
  by_cases c4 : 10 < a2
  · simp only [c1, c2, c3, c4, if_true, if_false, ok_some, i10]
    exact ⟨trivial, hmono⟩
  obtain ⟨n, hn0, hn, rfl⟩ := rng (p := a1) (lo := 1) (hi := 12) (by omega) (by omega) c1 c2
  obtain ⟨p, -, hp, rfl⟩ := rng (p := a2) (lo := 0) (hi := 10) (by omega) (by omega) c3 c4
  simp only [c1, c2, c3, c4, if_false, i10]
  have hpw := pow12 hn
  have hpos : 0 < 10 ^ n := Nat.pow_pos (by omega)
  have hsum := tw_sum hp n
  have e10 : (10 : Int32) - mI p = mI (10 - p) := mI_sub (a := 10) (by omega) (by omega)
  have l10 : (10 : Int64) = mL 10 := rfl
  have hc : ∀ J : Int64 → Int64 → Int64 → Option (Int32 × uS), u_lp4 (b_X11_twice_21 (mI n) (mI p) J) N 1 0 0 0 = J (mL (tw p n).1) (mL (tw p n).2.1) (mL (tw p n).2.2) := by
    intro J
    refine lp4_eq (fun d => mL (tw p d).1) (fun d => mL (tw p d).2.1) (fun d => mL (tw p d).2.2) mI n N _ (by omega) (fun k rec hk => ?_) (fun rec => ?_)
    · unfold b_X11_twice_21
      rw [if_neg (by rw [mI_le (by omega) (by omega)]; omega)]
      simp only [jn_eq, mI_succ, e10, mI_L (show p < 1000000 by omega), mI_L (show 10 - p < 1000000 by omega), l10, mL_mul, mL_add]
      rfl
    · unfold b_X11_twice_21
      rw [if_pos (by rw [mI_le (by omega) (by omega)]; omega)]
  have hm : ∀ J : Int64 → Int64 → Option (Int32 × uS), u_lp3 (b_X12_twice_35 (mI n) (mI p) J) N 1 0 0 = J (mL (tw p n).1) (mL (tw p n).2.1) := by
    intro J
    refine lp3_eq (fun d => mL (tw p d).1) (fun d => mL (tw p d).2.1) mI n N _ (by omega) (fun k rec hk => ?_) (fun rec => ?_)
    · unfold b_X12_twice_35
      rw [if_neg (by rw [mI_le (by omega) (by omega)]; omega)]
      simp only [jn_eq, mI_succ, e10, mI_L (show p < 1000000 by omega), mI_L (show 10 - p < 1000000 by omega), mL_mul, mL_add]
      rfl
    · unfold b_X12_twice_35
      rw [if_pos (by rw [mI_le (by omega) (by omega)]; omega)]
  rw [hc, hm, l10, m_power (by omega) hN, o_bind]
  generalize (tw p n).1 = x at hsum ⊢
  generalize (tw p n).2.1 = y at hsum ⊢
  generalize (tw p n).2.2 = z at hsum ⊢
  generalize 10 ^ n = w at hsum hpw hpos ⊢
  rw [mL_add, mL_add, mL_sub (by omega) (by omega), mL_sub (by omega) (by omega), hsum, show w - x - y = z by omega]
  obtain ⟨a, b, hm1, hm2⟩ := frac (N := N) (U := z) (L := w) (s := σc) (t := s1) (by omega) hpos (by omega) hN
  rw [hm1, o_bind, ok_some, hm2, o_bind, ok_some]
  exact ⟨rfl, rel_look2 hC fr.rfl mfr.rfl _ _⟩
/-- how often it floods on i days -/
def chA (p : Nat) : Nat → Nat → Nat
  | 0, i => if i = 0 then 1 else 0
  | d + 1, i => chA p d i * (10 - p) + (if i = 0 then 0 else chA p d (i - 1) * p)
def wy (n : Nat) : Nat → Nat
  | 0 => 1
  | i + 1 => wy n i * (n - i) / (i + 1)
def sF (f : Nat → Nat) : Nat → Nat
  | 0 => 0
  | i + 1 => sF f i + f i
theorem sF_congr {f g : Nat → Nat} {n : Nat} (h : ∀ i, i < n → f i = g i) : sF f n = sF g n := by
  induction n with
  | zero => rfl
  | succ n ih => show sF f n + f n = sF g n + g n; rw [ih (fun i hi => h i (by omega)), h n (by omega)]
theorem sF_le {f g : Nat → Nat} {n : Nat} (h : ∀ i, i < n → f i ≤ g i) : sF f n ≤ sF g n := by
  induction n with
  | zero => exact Nat.le_refl _
  | succ n ih => show sF f n + f n ≤ sF g n + g n; exact Nat.add_le_add (ih (fun i hi => h i (by omega))) (h n (by omega))
theorem wy_lt : ∀ n : Fin 13, ∀ i : Fin 14, wy n.val i.val < 1000 := by decide +kernel
theorem ch_ok : ∀ n : Fin 13, ∀ p : Fin 11, (∀ i : Fin 13, i.val ≤ n.val → chA p.val n.val i.val = wy n.val i.val * p.val ^ i.val * (10 - p.val) ^ (n.val - i.val)) ∧ sF (chA p.val n.val) (n.val + 1) = 10 ^ n.val := by decide +kernel
