/-! PURE LAYER: floods -/
/-- only the row of chances changed, and is f now -/
def chS (σ s : uS) (f : Nat → Nat) : Prop := s.1 = σ.1 ∧ s.2.2 = σ.2.2 ∧ (∀ a, a ≠ 20 → s.2.1 a = σ.2.1 a) ∧ ∀ i, i < 13 → s.2.1 20 i = mL (f i)
def stA (f : Nat → Nat) (p m i : Nat) : Nat := if i ≤ 12 - m then f i else f i * (10 - p) + f (i - 1) * p
def stB (f : Nat → Nat) (p i : Nat) : Nat := if i = 0 then f 0 else f i * (10 - p) + f (i - 1) * p
theorem stA_le {f : Nat → Nat} {p m i : Nat} (h : i ≤ 12 - m) : stA f p m i = f i := if_pos h
theorem stA_gt {f : Nat → Nat} {p m i : Nat} (h : ¬ i ≤ 12 - m) : stA f p m i = f i * (10 - p) + f (i - 1) * p := if_neg h
theorem mI_dec {a : Nat} (h : 0 < a) (ha : a < 1000000) : mI a + (-1) = mI (a - 1) := by
  rw [← mI_pred h ha]
  exact (Int32.sub_eq_add_neg _ _).symm
theorem c_inner {N p : Nat} {σ s : uS} {f : Nat → Nat} {J : uS → Option uS} {Q : uS → Prop} (hp : p ≤ 10) (hs : chS σ s f) (hN : 500 < N) (hJ : ∀ s', chS σ s' (stB f p) → ok (J s') Q) : ok (u_lp2 (b_X11_fillChances_48 (mI p) J) N s (mI 12)) Q := by
  have e10 : (10 : Int32) - mI p = mI (10 - p) := mI_sub (a := 10) (by omega) (by omega)
  refine lp2_ok (fun m s' y => y = mI (12 - m) ∧ chS σ s' (stA f p m)) 12 N _ _ (by omega) ?_ ⟨rfl, hs.1, hs.2.1, hs.2.2.1, fun i hi => by rw [stA_le (by omega)]; exact hs.2.2.2 i hi⟩
  rintro m s' y rec hm ⟨rfl, i1, i2, i3, i4⟩ hrec
  unfold b_X11_fillChances_48
  by_cases hlt : m < 12
  · have q1 : s'.2.1 20 (12 - m) = mL (f (12 - m)) := by rw [i4 (12 - m) (by omega), stA_le (by omega)]
    have q2 : s'.2.1 20 (12 - m - 1) = mL (f (12 - m - 1)) := by rw [i4 (12 - m - 1) (by omega), stA_le (by omega)]
    rw [if_neg (by rw [show (0 : Int32) = mI 0 from rfl, mI_le (by omega) (by omega)]; omega), cr_20 (by omega), o_bind, mI_pred (by omega) (by omega), cr_20 (by omega), o_bind, cw_20 (by omega), o_bind, e10, mI_L (by omega), mI_L (by omega), q1, q2, mL_mul, mL_mul, mL_add]
    simp only [jn_eq]
    rw [mI_dec (by omega) (by omega)]
    refine hrec _ _ hlt ⟨by rw [show 12 - m - 1 = 12 - (m + 1) by omega], i1, i2, fun a ha => ?_, fun i hi => ?_⟩
    · funext k; rw [p_Ln (Or.inl ha), i3 a ha]
    · by_cases hk : i = 12 - m
      · rw [hk, p_LL, stA_gt (by omega)]
      · rw [p_Ln (Or.inr hk), i4 i hi]
        by_cases h5 : i ≤ 12 - m
        · rw [stA_le h5, stA_le (by omega)]
        · rw [stA_gt h5, stA_gt (by omega)]
  · have hm2 : m = 12 := by omega
    subst hm2
    rw [if_pos (by decide)]
    refine hJ _ ⟨i1, i2, i3, fun i hi => ?_⟩
    rw [i4 i hi]
    by_cases h0 : i = 0
    · rw [stA_le (by omega)]; unfold stB; rw [if_pos h0, h0]
    · rw [stA_gt (by omega)]; unfold stB; rw [if_neg h0]
theorem cr_20z {σ : uS} : u_rL ZC σ 20 0 = some (σ.2.1 20 0) := cr_20 (k := 0) (by omega)
theorem cw_20z {σ : uS} {v : Int64} : u_wL ZC σ 20 0 v = some (u_pL σ 20 0 v) := cw_20 (k := 0) (by omega)
theorem c_fill {N n p : Nat} {σ : uS} (hp : p ≤ 10) (hn : n ≤ 12) (hN : 500 < N) : ok (f_X11_fillChances N σ (mI n) (mI p)) (fun s => chS σ s (chA p n)) := by
  have e10 : (10 : Int32) - mI p = mI (10 - p) := mI_sub (a := 10) (by omega) (by omega)
  unfold f_X11_fillChances
  simp only [jn_eq]
  refine lp2_ok (fun m s' y => y = mI m ∧ s'.1 = σ.1 ∧ s'.2.2 = σ.2.2 ∧ (∀ a, a ≠ 20 → s'.2.1 a = σ.2.1 a) ∧ ∀ i, i < m → s'.2.1 20 i = mL (chA p 0 i)) 13 N _ _ (by omega) ?_ ⟨rfl, rfl, rfl, fun _ _ => rfl, fun i hi => absurd hi (by omega)⟩
  rintro m s' y rec hm ⟨rfl, i1, i2, i3, i4⟩ hrec
  unfold b_X11_fillChances_2
  rw [cl_20, o_bind]
  by_cases hlt : m < 13
  · rw [if_neg (by rw [mI_le (by omega) (by omega)]; omega)]
    simp only [jn_eq, cw_20 hlt, o_bind, mI_succ, mI_eq0 (show m < 1000000 by omega)]
    have fin : ∀ x : Int64, x = mL (chA p 0 m) → ok (rec (u_pL s' 20 m x) (mI (m + 1))) (fun s => chS σ s (chA p n)) := by
      intro x hx
      refine hrec _ _ hlt ⟨rfl, i1, i2, fun a ha => ?_, fun i hi => ?_⟩
      · funext k; rw [p_Ln (Or.inl ha), i3 a ha]
      · by_cases hk : i = m
        · rw [hk, p_LL, hx]
        · rw [p_Ln (Or.inr hk)]; exact i4 i (by omega)
    by_cases h0 : m = 0
    · rw [if_pos h0]
      exact fin 1 (by rw [h0]; rfl)
    · rw [if_neg h0]
      exact fin 0 (by unfold chA; rw [if_neg h0]; rfl)
  · have hm2 : m = 13 := by omega
    subst hm2
    rw [if_pos (by decide)]
    refine lp2_ok (fun d s' y => y = mI (d + 1) ∧ chS σ s' (chA p d)) n N _ _ (by omega) ?_ ⟨rfl, i1, i2, i3, i4⟩
    rintro d s2 y rec2 hd ⟨rfl, j1⟩ hrec2
    unfold b_X11_fillChances_34
    by_cases hlt : d < n
    · rw [if_neg (by rw [mI_lt (by omega) (by omega)]; omega), cl_20, o_bind]
      simp only [jn_eq]
      rw [show mI 13 - 1 = mI 12 from rfl]
      refine c_inner hp j1 hN (fun s3 hs3 => ?_)
      obtain ⟨g1, g2, g3, g4⟩ := hs3
      have q0 : s3.2.1 20 0 = mL (chA p d 0) := by rw [g4 0 (by omega)]; rfl
      rw [cr_20z, o_bind, cw_20z, o_bind, q0, e10, mI_L (by omega), mL_mul, mI_succ]
      refine hrec2 _ _ hlt ⟨rfl, g1, g2, fun a ha => ?_, fun i hi => ?_⟩
      · funext k; rw [p_Ln (Or.inl ha), g3 a ha]
      · show (u_pL s3 20 0 _).2.1 20 i = mL (chA p d i * (10 - p) + (if i = 0 then 0 else chA p d (i - 1) * p))
        by_cases hk : i = 0
        · rw [hk, p_LL, if_pos rfl, Nat.add_zero]
        · rw [p_Ln (Or.inr hk), g4 i hi, if_neg hk]; unfold stB; rw [if_neg hk]
    · have hdn : d = n := by omega
      subst hdn
      rw [if_pos (by rw [mI_lt (by omega) (by omega)]; omega), ok_some]
      exact j1
theorem sF_part {f : Nat → Nat} {k : Nat} (n : Nat) : sF (fun i => if i < k then 0 else f i) n ≤ sF f n := sF_le (fun i _ => by by_cases h : i < k <;> simp [h])
theorem n_s39_ok (N j : Nat) (hN : 500 < N) : n_s39 N (Rel N j) (Rel N (j + 1)) := by
  intro σc σm h a1 a2 a3
  have h := h.thr
  refine two ?_
  unfold f_X12_floods f_X11_floods
  simp only [jn_eq]
  generalize u_pI σm 0 8 0 = s1 at h ⊢
  have hmono := h.mono
  obtain ⟨M, F, ρ, hC, hTo⟩ := h
  rw [c_areF, m_in, m_in, m_in]
  simp only [o_bind]
  by_cases c1 : a1 < 1
  · simp only [c1, if_true, ok_some]
    exact ⟨trivial, hmono⟩
  by_cases c2 : 12 < a1
  · simp only [c1, c2, if_true, if_false, ok_some]
    exact ⟨trivial, hmono⟩
  by_cases c5 : a2 < 0
  · simp only [c1, c2, c5, if_true, if_false, i10, ok_some]
    (repeat' split) <;> (rw [ok_some]; exact ⟨rfl, hmono⟩)
  by_cases c6 : 12 < a2
  · simp only [c1, c2, c5, c6, if_true, if_false, i10, ok_some, Int32.not_le.mpr c6]
    (repeat' split) <;> (rw [ok_some]; exact ⟨rfl, hmono⟩)
  by_cases c3 : a3 < 0
  · simp only [c1, c2, c3, c5, c6, if_true, if_false, ok_some, i10]
    exact ⟨trivial, hmono⟩
  by_cases c4 : 10 < a3
  · simp only [c1, c2, c3, c4, c5, c6, if_true, if_false, ok_some, i10]
    exact ⟨trivial, hmono⟩
  obtain ⟨n, hn0, hn, rfl⟩ := rng (p := a1) (lo := 1) (hi := 12) (by omega) (by omega) c1 c2
  obtain ⟨k, -, hk, rfl⟩ := rng (p := a2) (lo := 0) (hi := 12) (by omega) (by omega) c5 c6
  obtain ⟨p, -, hp, rfl⟩ := rng (p := a3) (lo := 0) (hi := 10) (by omega) (by omega) c3 c4
  simp only [c1, c2, c3, c4, c5, c6, if_false, i10, Int32.not_lt.mp c6, if_true]
  have hpw := pow12 hn
  have hpos : 0 < 10 ^ n := Nat.pow_pos (by omega)
  have e10 : (10 : Int32) - mI p = mI (10 - p) := mI_sub (a := 10) (by omega) (by omega)
  have l10 : (10 : Int64) = mL 10 := rfl
  obtain ⟨o1, o2⟩ := ch_ok ⟨n, by omega⟩ ⟨p, by omega⟩
  have o1 : ∀ i, i ≤ n → chA p n i = wy n i * p ^ i * (10 - p) ^ (n - i) := fun i hi => o1 ⟨i, by omega⟩ hi
  have o2 : sF (chA p n) (n + 1) = 10 ^ n := o2
  rw [ok_bind]
  refine ok_mono (c_fill hp hn hN) (fun s hs => ?_)
  obtain ⟨h1, h2, h3, h4⟩ := hs
  have hc : ∀ J : Int64 → Int64 → Option (Int32 × uS), u_lp3 (b_X11_floods_35 (mI n) (mI k) s J) N 0 0 0 = J (mL (sF (fun i => if i < k then 0 else chA p n i) (n + 1))) (mL (sF (chA p n) (n + 1))) := by
    intro J
    refine lp3_eq (fun i => mL (sF (fun i => if i < k then 0 else chA p n i) i)) (fun i => mL (sF (chA p n) i)) mI (n + 1) N _ (by omega) (fun i rec hi => ?_) (fun rec => ?_)
    · unfold b_X11_floods_35
      rw [if_neg (by rw [mI_lt (by omega) (by omega)]; omega), cr_20 (by omega), o_bind, h4 i (by omega)]
      simp only [jn_eq, mI_succ, mL_add, o_bind, mI_lt (show i < 1000000 by omega) (show k < 1000000 by omega)]
      show _ = rec (mL (sF (fun i => if i < k then 0 else chA p n i) i + (if i < k then 0 else chA p n i))) (mL (sF (chA p n) i + chA p n i)) _
      by_cases hik : i < k
      · rw [if_pos hik, if_pos hik, show (0 : Int64) = mL 0 from rfl, mL_add]
      · rw [if_neg hik, if_neg hik]
    · unfold b_X11_floods_35
      rw [if_pos (by rw [mI_lt (by omega) (by omega)]; omega)]
  have hm : ∀ J : Int64 → Option (Int32 × uS), u_lp3 (b_X12_floods_46 N (mI n) (mI k) (mI p) s1 J) N 0 1 0 = J (mL (sF (fun i => if i < k then 0 else chA p n i) (n + 1))) := by
    intro J
    refine lp3_eq (fun i => mL (sF (fun i => if i < k then 0 else chA p n i) i)) (fun i => mL (wy n i)) mI (n + 1) N _ (by omega) (fun i rec hi => ?_) (fun rec => ?_)
    · unfold b_X12_floods_46
      have hw := wy_lt ⟨n, by omega⟩ ⟨i, by omega⟩
      have hw : wy n i < 1000 := hw
      have hw2 : wy n i * (n - i) ≤ 1000 * 12 := Nat.mul_le_mul (by omega) (by omega)
      have hne : ¬ mL (i + 1) = 0 := by rw [show (0 : Int64) = mL 0 from rfl, mL_eq (by omega) (by omega)]; omega
      rw [if_neg (by rw [mI_lt (by omega) (by omega)]; omega)]
      simp only [jn_eq, mI_succ, mI_L (show i + 1 < 1000000 by omega), e10, mI_sub (show i ≤ n by omega) (show n < 1000000 by omega), mI_L (show n - i < 1000000 by omega), mI_L (show p < 1000000 by omega), mI_L (show 10 - p < 1000000 by omega), mL_mul, mL_div (show wy n i * (n - i) < 2 ^ 62 by omega) (show i + 1 < 2 ^ 62 by omega) (show 0 < i + 1 by omega), mI_lt (show i < 1000000 by omega) (show k < 1000000 by omega), m_power (N := N) (b := p) (σ := s1) (show i < 400 by omega) hN, m_power (N := N) (b := 10 - p) (σ := s1) (show n - i < 400 by omega) hN, o_bind, o_ck hne]
      show _ = rec (mL (sF (fun i => if i < k then 0 else chA p n i) i + (if i < k then 0 else chA p n i))) (mL (wy n i * (n - i) / (i + 1))) _
      by_cases hik : i < k
      · rw [if_pos hik, if_pos hik, show (0 : Int64) = mL 0 from rfl, mL_add]
      · rw [if_neg hik, if_neg hik, mL_add, o1 i (by omega)]
    · unfold b_X12_floods_46
      rw [if_pos (by rw [mI_lt (by omega) (by omega)]; omega)]
  have hle := sF_part (f := chA p n) (k := k) (n + 1)
  rw [hc, hm, l10, m_power (by omega) hN, o_bind, o2]
  rw [o2] at hle
  generalize sF (fun i => if i < k then 0 else chA p n i) (n + 1) = z at hle ⊢
  generalize 10 ^ n = w at hpw hpos hle ⊢
  obtain ⟨a, b, hm1, hm2⟩ := frac (N := N) (U := z) (L := w) (s := s) (t := s1) (by omega) hpos (by omega) hN
  rw [hm1, o_bind, ok_some, hm2, o_bind, ok_some]
  refine ⟨rfl, rel_cK2 hC ⟨fun a _ => by rw [h1], fun r _ => ⟨by rw [h1], by rw [h1]⟩, h2⟩ mK.rfl _ _⟩
