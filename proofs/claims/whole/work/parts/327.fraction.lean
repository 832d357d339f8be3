/-! PURE LAYER: parts of a whole -/
abbrev mL (k : Nat) : Int64 := Int64.ofNat k
theorem mL_int {k : Nat} (h : k < 2 ^ 62) : (mL k).toInt = k := Int64.toInt_ofNat_of_lt (by omega)
theorem mL_add (a b : Nat) : mL a + mL b = mL (a + b) := (Int64.ofNat_add a b).symm
theorem mL_mul (a b : Nat) : mL a * mL b = mL (a * b) := (Int64.ofNat_mul a b).symm
theorem mL_sub {a b : Nat} (h : b ≤ a) (ha : a < 2 ^ 62) : mL a - mL b = mL (a - b) := by
  apply Int64.toInt_inj.mp
  rw [Int64.toInt_sub, mL_int ha, mL_int (by omega), mL_int (by omega), Int.bmod_eq_of_le (by omega) (by omega)]
  omega
theorem mL_div {a b : Nat} (ha : a < 2 ^ 62) (hb : b < 2 ^ 62) (h0 : 0 < b) : mL a / mL b = mL (a / b) := by
  apply Int64.toInt_inj.mp
  have hd : a / b ≤ a := Nat.div_le_self _ _
  have hne : mL b ≠ -1 := fun h => by
    have := congrArg Int64.toInt h
    rw [mL_int hb] at this
    have h1 : (-1 : Int64).toInt = -1 := rfl
    omega
  rw [Int64.toInt_div_of_ne_right _ _ hne, mL_int ha, mL_int hb, mL_int (by omega), Int.tdiv_eq_ediv_of_nonneg (by omega)]
  omega
theorem mL_rem {a b : Nat} (ha : a < 2 ^ 62) (hb : b < 2 ^ 62) (h0 : 0 < b) : mL a - mL a / mL b * mL b = mL (a % b) := by
  have h1 := Nat.mod_add_div a b
  rw [Nat.mul_comm] at h1
  rw [mL_div ha hb h0, mL_mul, mL_sub (by omega) ha]
  congr 1
  omega
theorem mL_lt {a b : Nat} (ha : a < 2 ^ 62) (hb : b < 2 ^ 62) : (mL a < mL b) = (a < b) := by
  apply propext
  rw [Int64.lt_iff_toInt_lt, mL_int ha, mL_int hb]; omega
theorem mL_eq {a b : Nat} (ha : a < 2 ^ 62) (hb : b < 2 ^ 62) : (mL a = mL b) = (a = b) := by
  apply propext
  constructor
  · intro h
    have := congrArg Int64.toInt h
    rw [mL_int ha, mL_int hb] at this; omega
  · intro h; rw [h]
theorem mI_L {k : Nat} (h : k < 1000000) : (mI k).toInt64 = mL k := by
  apply Int64.toInt_inj.mp
  rw [Int32.toInt_toInt64, mI_int h, mL_int (by omega)]
theorem cmp0 {a : Nat} (ha : a < 2 ^ 62) : (lg_cmp (mL a) 0 = 0) = (a = 0) := by
  apply propext
  rw [lg_cmp_eq, show (0 : Int64) = mL 0 from rfl, mL_eq ha (by omega)]
theorem cmp_le {a : Nat} (ha : a < 2 ^ 62) : (lg_cmp (mL a) 0 ≤ 0) = (a = 0) := by
  apply propext
  rw [lg_cmp_le, show (0 : Int64) = mL 0 from rfl, Int64.le_iff_toInt_le, mL_int ha, mL_int (by omega)]; omega
theorem cmp_gt {a : Nat} (ha : a < 2 ^ 62) : (0 < lg_cmp (mL a) 0) = (0 < a) := by
  apply propext
  rw [lg_cmp_gt, show (0 : Int64) = mL 0 from rfl, mL_lt (by omega) ha]
/-- the reference's divisor comes to its end -/
theorem m_gcd : ∀ (k d a b : Nat), 2 * k + 1 ≤ d → a < 2 ^ 62 → b < 2 ^ k → k ≤ 49 → ∃ g, 0 < g ∧ g < 2 ^ 62 ∧ (a = 0 ∧ b = 0 ∨ u_lp2 b_X12_common d (mL a) (mL b) = some (mL g))
  | 0, d, a, b, hd, ha, hb, hk => by
    have hb0 : b = 0 := by omega
    subst hb0
    obtain ⟨d, rfl⟩ : ∃ m, d = m + 1 := ⟨d - 1, by omega⟩
    by_cases h0 : a = 0
    · exact ⟨1, by omega, by omega, Or.inl ⟨h0, rfl⟩⟩
    · refine ⟨a, by omega, ha, Or.inr ?_⟩
      show b_X12_common (u_lp2 b_X12_common d) (mL a) (mL 0) = _
      unfold b_X12_common
      rw [if_pos (by rw [cmp0 (by omega)])]
  | k + 1, d, a, b, hd, ha, hb, hk => by
    have hp : 2 ^ (k + 1) = 2 * 2 ^ k := by rw [Nat.pow_succ]; omega
    have hp2 : 2 ^ (k + 1) ≤ 2 ^ 50 := Nat.pow_le_pow_right (by omega) (by omega)
    have h50 : (2 : Nat) ^ 50 < 2 ^ 62 := by decide
    obtain ⟨d, rfl⟩ : ∃ m, d = m + 1 + 1 := ⟨d - 2, by omega⟩
    by_cases hb0 : b = 0
    · subst hb0
      by_cases h0 : a = 0
      · exact ⟨1, by omega, by omega, Or.inl ⟨h0, rfl⟩⟩
      · refine ⟨a, by omega, ha, Or.inr ?_⟩
        show b_X12_common (u_lp2 b_X12_common (d + 1)) (mL a) (mL 0) = _
        unfold b_X12_common
        rw [if_pos (by rw [cmp0 (by omega)])]
    · have hm : a % b < b := Nat.mod_lt _ (by omega)
      have e1 : u_lp2 b_X12_common (d + 1 + 1) (mL a) (mL b) = (u_lp2 b_X12_common (d + 1) (mL b) (mL (a % b))).bind fun v1 => some v1 := by
        show b_X12_common (u_lp2 b_X12_common (d + 1)) (mL a) (mL b) = _
        unfold b_X12_common
        rw [if_neg (by rw [cmp0 (by omega)]; exact hb0), o_ck (by rw [show (0 : Int64) = mL 0 from rfl, mL_eq (by omega) (by omega)]; exact hb0), mL_rem ha (by omega) (by omega)]
      by_cases hr : a % b = 0
      · refine ⟨b, by omega, by omega, Or.inr ?_⟩
        rw [e1, hr]
        show (b_X12_common (u_lp2 b_X12_common d) (mL b) (mL 0)).bind _ = _
        unfold b_X12_common
        rw [if_pos (by rw [cmp0 (by omega)])]
        rfl
      · have hm2 : b % (a % b) < a % b := Nat.mod_lt _ (by omega)
        have hm3 : b % (a % b) < 2 ^ k := by
          have h3 : b % (a % b) + (a % b) * (b / (a % b)) = b := Nat.mod_add_div _ _
          have h4 : 1 ≤ b / (a % b) := (Nat.le_div_iff_mul_le (by omega)).mpr (by omega)
          have h5 : (a % b) * 1 ≤ (a % b) * (b / (a % b)) := Nat.mul_le_mul_left _ h4
          omega
        obtain ⟨g, g1, g2, g3⟩ := m_gcd k d (a % b) (b % (a % b)) (by omega) (by omega) hm3 (by omega)
        rcases g3 with ⟨h0, -⟩ | g3
        · exact absurd h0 hr
        · refine ⟨g, g1, g2, Or.inr ?_⟩
          have e2 : u_lp2 b_X12_common (d + 1) (mL b) (mL (a % b)) = (u_lp2 b_X12_common d (mL (a % b)) (mL (b % (a % b)))).bind fun v1 => some v1 := by
            show b_X12_common (u_lp2 b_X12_common d) (mL b) (mL (a % b)) = _
            unfold b_X12_common
            rw [if_neg (by rw [cmp0 (by omega)]; exact hr), o_ck (by rw [show (0 : Int64) = mL 0 from rfl, mL_eq (by omega) (by omega)]; exact hr), mL_rem (by omega) (by omega) (by omega)]
          rw [e1, e2, g3]
          rfl
theorem common_eq (rec : Int64 → Int64 → Option Int64) (a b : Int64) : b_X12_common rec a b = if lg_cmp b 0 = 0 then some a else u_ck (¬ b = 0) ((rec b (a - a / b * b)).bind fun v1 => some v1) := rfl
theorem cd_eq (J : Int64 → Option Int64) (rec : Int64 → Int64 → Int32 → Option Int64) (a b : Int64) (i : Int32) : b_X11_commonDivisor_9 J rec a b i = if 200 ≤ i then J a else if lg_cmp b 0 = 0 then J a else u_ck (¬ b = 0) (rec b (a - a / b * b) (i + 1)) := rfl
/-- the class's divisor is the reference's -/
theorem c_gcd {g : Int64} : ∀ (d M i : Nat) (a b : Int64), u_lp2 b_X12_common d a b = some g → i + d ≤ 200 → d < M → u_lp3 (b_X11_commonDivisor_9 (fun (x1 : Int64) => (some x1 : Option Int64))) M a b (mI i) = some g
  | 0, M, i, a, b, h, _, _ => by cases h
  | d + 1, M, i, a, b, h, hi, hM => by
    obtain ⟨M, rfl⟩ : ∃ m, M = m + 1 := ⟨M - 1, by omega⟩
    have h : b_X12_common (u_lp2 b_X12_common d) a b = some g := h
    show b_X11_commonDivisor_9 _ (u_lp3 (b_X11_commonDivisor_9 _) M) a b (mI i) = some g
    rw [common_eq] at h
    rw [cd_eq, if_neg (by rw [show (200 : Int32) = mI 200 from rfl, mI_le (by omega) (by omega)]; omega)]
    by_cases h0 : lg_cmp b 0 = 0
    · rw [if_pos h0] at h ⊢
      exact h
    · rw [if_neg h0] at h ⊢
      have hb : ¬ b = 0 := fun he => h0 ((lg_cmp_eq b 0).mpr he)
      rw [o_ck hb] at h ⊢
      rw [mI_succ]
      cases hr : u_lp2 b_X12_common d b (a - a / b * b) with
      | none => rw [hr] at h; cases h
      | some z =>
        rw [hr] at h
        have hz : z = g := by injection h
        rw [hz] at hr
        exact c_gcd d M (i + 1) b _ hr (by omega) (by omega)
theorem frac {N U L : Nat} {s t : uS} (hU : U < 2 ^ 62) (hL0 : 0 < L) (hL : L < 2 ^ 49) (hN : 500 < N) : ∃ x y, f_X11_tellFraction N s (mL U) (mL L) = some (cT2 s x y) ∧ f_X12_tellPart N t (mL U) (mL L) = some (mT2 t x y) := by
  have h49 : (2 : Nat) ^ 49 < 2 ^ 62 := by decide
  obtain ⟨g, g1, g2, g3⟩ := m_gcd 49 100 U L (by omega) hU hL (by omega)
  rcases g3 with ⟨-, h0⟩ | g3
  · omega
  have gne : ¬ mL g = 0 := by rw [show (0 : Int64) = mL 0 from rfl, mL_eq (by omega) (by omega)]; omega
  have hm : f_X12_tellPart N t (mL U) (mL L) = some (mT2 t (mL U / mL g) (mL L / mL g)) := by
    unfold f_X12_tellPart f_X12_common
    rw [g3, o_bind]
    simp only [jn_eq]
    rw [o_ck gne, m_tell0, o_bind, o_ck gne, m_tell1, o_bind]
  by_cases h0 : U = 0
  · subst h0
    refine ⟨0, 1, ?_, ?_⟩
    · unfold f_X11_tellFraction
      simp only [jn_eq]
      rw [if_pos (by rw [cmp_le (by omega)]), c_two, o_bind]
    · have hgL : mL g = mL L := by
        have e : u_lp2 b_X12_common 100 (mL 0) (mL L) = some (mL L) := by
          show b_X12_common (u_lp2 b_X12_common 99) (mL 0) (mL L) = _
          unfold b_X12_common
          rw [if_neg (by rw [cmp0 (by omega)]; omega), o_ck (by rw [show (0 : Int64) = mL 0 from rfl, mL_eq (by omega) (by omega)]; omega), mL_rem (by omega) (by omega) (by omega), Nat.zero_mod]
          show (b_X12_common (u_lp2 b_X12_common 98) (mL L) (mL 0)).bind _ = _
          unfold b_X12_common
          rw [if_pos (by rw [cmp0 (by omega)])]
          rfl
        rw [e] at g3
        injection g3 with g3
        exact g3.symm
      rw [hm, hgL, mL_div (by omega) (by omega) hL0, mL_div (by omega) (by omega) hL0, Nat.zero_div, Nat.div_self hL0]
      rfl
  · refine ⟨mL U / mL g, mL L / mL g, ?_, hm⟩
    unfold f_X11_tellFraction f_X11_commonDivisor
    simp only [jn_eq]
    rw [if_neg (by rw [cmp_le hU]; exact h0), if_pos (by rw [cmp_gt (by omega)]; exact hL0), show (0 : Int32) = mI 0 from rfl, c_gcd 100 N 0 _ _ g3 (by omega) (by omega), o_bind, if_neg (by rw [show mI 0 = 0 from rfl, cmp_le g2]; omega), o_ck gne, o_ck gne, c_two, o_bind]
theorem frac0 {N : Nat} {s : uS} (x : Int64) : f_X11_tellFraction N s (mL 0) x = some (cT2 s 0 1) := by
  unfold f_X11_tellFraction
  simp only [jn_eq]
  rw [if_pos (by decide), c_two, o_bind]
theorem sBel_dg {v : Nat → Int32} {x : Int32} {M : Nat} (h : ∀ p, p < M → dg (v p)) : ∀ k, k ≤ M → ∃ S, S ≤ 9 * k ∧ sBel v x k = mI S
  | 0, _ => ⟨0, by omega, rfl⟩
  | k + 1, hk => by
    obtain ⟨S, h1, h2⟩ := sBel_dg h k (by omega)
    obtain ⟨n, hn, hn2⟩ := h k (by omega)
    show ∃ S, S ≤ 9 * (k + 1) ∧ sBel v x k + (if tb x k then v k else 0) = mI S
    cases tb x k
    · exact ⟨S, by omega, by rw [h2]; simp⟩
    · exact ⟨S + n, by omega, by rw [h2, hn2]; exact mI_add S n⟩
theorem n_s21_ok (N j : Nat) (hN : 500 < N) : n_s21 N (Rel N j) (Rel N (j + 1)) := by
  intro σc σm h
  have h := h.thr
  refine two ?_
  unfold f_X12_mean f_X11_mean
  simp only [jn_eq]
  generalize u_pI σm 0 8 0 = s1 at h ⊢
  obtain ⟨M, F, ρ, hC, hTo⟩ := h
  obtain ⟨b1, b2, b3, b4, b5, b6, b7⟩ := id hC.1
  have v1 : (1 : Nat) = 1 ∨ (1 : Nat) = 10 ∨ (1 : Nat) = 11 ∨ (1 : Nat) = 12 := by omega
  have t8 := b6.2.2.2.2.2.2.2.1
  rw [c_howManyIn (by omega) (by omega) (by omega) t8 b1 hN, sIn_cS b6, o_bind]
  have hloop : ∀ J : Int32 → Option (Int32 × uS), u_lp2 (b_X11_mean_12 N σc J) N 0 0 = J (sBel (s1.1 1) (sIn (s1.1 1) (s1.1 2) M) M) := by
    intro J
    refine lp2_eq (sBel (s1.1 1) (sIn (s1.1 1) (s1.1 2) M)) mI M N _ (by omega) (fun k rec hk => ?_) (fun rec => ?_)
    · unfold b_X11_mean_12
      have q1 : σc.1 (32 + 2) k = s1.1 1 k := b6.1 k hk
      have q2 : σc.1 (32 + 4) k = s1.1 2 k := b6.2.2.1 k hk
      have q3 : σc.1 34 k = s1.1 1 k := b6.1 k hk
      rw [t8, if_neg (by rw [mI_le (by omega) (by omega)]; omega), c_isIn (by omega) (by omega) (by omega) (by omega), o_bind, q1, q2]
      simp only [jn_eq, mI_succ, cr_34 (show k < 8 by omega), o_bind, q3]
      show _ = rec (sBel (s1.1 1) (sIn (s1.1 1) (s1.1 2) M) k + _) _
      rw [tb_sIn M k b1]
      by_cases hb : s1.1 1 k < s1.1 2 k
      · simp only [if_pos hb, if_true, hb, decide_true, Bool.not_true, Bool.and_false, Bool.false_eq_true, if_false]
      · simp only [if_neg hb, i10, if_false, hb, decide_false, Bool.not_false, Bool.and_true, hk, decide_true, if_true]
    · unfold b_X11_mean_12
      rw [t8, if_pos (by rw [mI_le (by omega) (by omega)]; omega)]
  rw [hloop]
  obtain ⟨S, hS, hS2⟩ := sBel_dg (x := sIn (s1.1 1) (s1.1 2) M) b7.1 M (Nat.le_refl _)
  have hbc := bc_cnt (lo8_sIn (b := s1.1 1) (e := s1.1 2) b1)
  have hcl := cnt_le (sIn (s1.1 1) (s1.1 2) M) 8
  rw [m_inBits v1 b5 b1 hN, o_bind, bc_f, o_bind, m_beliefs v1 b5 b1 hN, o_bind, hbc, hS2]
  by_cases h0 : cnt (sIn (s1.1 1) (s1.1 2) M) 8 = 0
  · have hz : ∀ k, k < 8 → tb (sIn (s1.1 1) (s1.1 2) M) k = false := by
      have : ∀ m, m ≤ 8 → cnt (sIn (s1.1 1) (s1.1 2) M) m = 0 → ∀ k, k < m → tb (sIn (s1.1 1) (s1.1 2) M) k = false := by
        intro m
        induction m with
        | zero => intro _ _ k hk; omega
        | succ m ih =>
          intro hm hc k hk
          have hc : cnt (sIn (s1.1 1) (s1.1 2) M) m + (if tb (sIn (s1.1 1) (s1.1 2) M) m then 1 else 0) = 0 := hc
          cases ht : tb (sIn (s1.1 1) (s1.1 2) M) m
          · by_cases hkm : k = m
            · rw [hkm]; exact ht
            · exact ih (by omega) (by omega) k (by omega)
          · rw [ht] at hc; simp at hc
      exact this 8 (by omega) h0
    have hS0 : sBel (s1.1 1) (sIn (s1.1 1) (s1.1 2) M) M = 0 := by
      have : ∀ k, k ≤ M → sBel (s1.1 1) (sIn (s1.1 1) (s1.1 2) M) k = 0 := by
        intro k
        induction k with
        | zero => intro _; rfl
        | succ k ih => intro hk; show sBel (s1.1 1) (sIn (s1.1 1) (s1.1 2) M) k + _ = 0; rw [ih (by omega), hz k (by omega)]; rfl
      exact this M (Nat.le_refl _)
    have hSz : mI S = mI 0 := by rw [← hS2]; exact hS0
    obtain ⟨x, y, -, hm⟩ := frac (N := N) (U := 0) (L := 1) (s := σc) (t := s1) (by omega) (by omega) (by decide) hN
    obtain ⟨x', y', hm1, hm2⟩ := frac (N := N) (U := 0) (L := 1) (s := σc) (t := s1) (by omega) (by omega) (by decide) hN
    have hc1 : f_X11_tellFraction N σc (mL 0) (mL 1) = some (cT2 σc 0 1) := frac0 _
    rw [hSz, h0, if_neg (show ¬ (1 : Int32) < mI 0 by decide), show ((1 : Int32)).toInt64 = mL 1 from rfl, show (mI 0).toInt64 = mL 0 from rfl, frac0, o_bind, ok_some, hm2, o_bind, ok_some]
    have hxy : cT2 σc x' y' = cT2 σc 0 1 := by
      have := hm1.symm.trans hc1
      injection this
    have hx : x' = 0 := by
      have := congrArg (fun s : uS => s.2.1 4 0) hxy
      simpa [cT2, cT1, p_IL, p_LL, p_Ln] using this
    have hy : y' = 1 := by
      have := congrArg (fun s : uS => s.2.1 4 1) hxy
      simpa [cT2, cT1, p_IL, p_LL, p_Ln] using this
    rw [hx, hy]
    exact ⟨rfl, rel_look2 hC fr.rfl mfr.rfl _ _⟩
  · generalize cnt (sIn (s1.1 1) (s1.1 2) M) 8 = X at hcl h0
    have hmax : (if (1 : Int32) < mI X then mI X else 1) = mI X := by
      by_cases h1 : X = 1
      · subst h1; rfl
      · rw [if_pos (by rw [show (1 : Int32) = mI 1 from rfl, mI_lt (by omega) (by omega)]; omega)]
    rw [hmax, mI_L (by omega), mI_L (by omega)]
    obtain ⟨x, y, hm1, hm2⟩ := frac (N := N) (U := S) (L := X) (s := σc) (t := s1) (by omega) (by omega) (by omega) hN
    rw [hm1, o_bind, ok_some, hm2, o_bind, ok_some]
    exact ⟨rfl, rel_look2 hC fr.rfl mfr.rfl _ _⟩
