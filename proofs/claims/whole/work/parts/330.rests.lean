/-! PURE LAYER: rests, unlike -/
def c0T (σ : uS) : uS := u_pI σ 3 1 0
def m0T (σ : uS) : uS := u_pI σ 0 7 0
theorem c0T_a {σ : uS} {a : Nat} (h : a ≠ 3) : (c0T σ).1 a = σ.1 a := p_Ia h
theorem m0T_a {σ : uS} {a : Nat} (h : a ≠ 0) : (m0T σ).1 a = σ.1 a := p_Ia h
theorem m0T_s {σ : uS} {s : Nat} (h : s ≠ 7) : (m0T σ).1 0 s = σ.1 0 s := p_Is h
/-- nothing told yet, or the first pair -/
def twI (σc σm : uS) (n : Int32) (y z : uS) : Prop := (n = mI 0 ∧ y = c0T σc ∧ z = m0T σm) ∨ ∃ m a b, 0 < m ∧ m < 1000 ∧ n = mI m ∧ y = cT2 (c0T σc) a b ∧ z = mT2 σm a b
theorem twI.a {σc σm y z : uS} {n : Int32} (h : twI σc σm n y z) {a : Nat} (ha : a ≠ 3) : y.1 a = σc.1 a := by
  rcases h with ⟨-, rfl, -⟩ | ⟨m, x1, x2, -, -, -, rfl, -⟩
  · exact c0T_a ha
  · rw [cT2_a ha, c0T_a ha]
theorem twI.b {σc σm y z : uS} {n : Int32} (h : twI σc σm n y z) {a : Nat} (ha : a ≠ 0) : z.1 a = σm.1 a := by
  rcases h with ⟨-, -, rfl⟩ | ⟨m, x1, x2, -, -, -, -, rfl⟩
  · exact m0T_a ha
  · exact mT2_a ha
theorem twI.s {σc σm y z : uS} {n : Int32} (h : twI σc σm n y z) {s : Nat} (ha : s ≠ 7) : z.1 0 s = σm.1 0 s := by
  rcases h with ⟨-, -, rfl⟩ | ⟨m, x1, x2, -, -, -, -, rfl⟩
  · exact m0T_s ha
  · exact mT2_s ha
theorem twI.rel {N j M F : Nat} {ρ : Rho} {σc σm y z : uS} {n : Int32} (hC : RelC N j M F ρ σc σm) (h : twI σc σm n y z) : Rel N (j + 1) y z := by
  have hr := hC.2.2.2.2.2.r
  have hq := hC.2.2.2.2.2.q
  have k1 : cK σc (c0T σc) := cK_of (fun a h => c0T_a h) rfl hr
  rcases h with ⟨-, rfl, rfl⟩ | ⟨m, x1, x2, -, -, -, rfl, rfl⟩
  · refine ⟨M, F, ρ, hC.to k1 ⟨fun c hc => m0T_a (by omega), fun s hs => m0T_s (by omega), fun q h => m0T_a (by have := hq q h; omega), fun _ _ => rfl⟩, 0, by omega, p_II _ _ _ _, p_II _ _ _ _, fun k hk => absurd hk (by omega)⟩
  · exact rel_cK2 hC k1 mK.rfl _ _
/-- one pair more: both steps -/
theorem tw_step {N : Nat} {σc σm y z : uS} {n : Int32} {a b : Int64} {k1 k2 : uS → Int32 → Option (Int32 × uS)} {P : Int32 × uS → Int32 × uS → Prop} (h : twI σc σm n y z) (hn : n ≠ mI 999) (hk : ∀ y' z' n', twI σc σm n' y' z' → n' = n + 1 → ok (k1 y' n') (fun a => ok (k2 z' n') (fun b => P a b))) : ok (if n + 1 = 1 then (f_X8_two N y a b).bind fun s27 => k1 s27 (n + 1) else k1 y (n + 1)) (fun c => ok (if n = 0 then (f_X12_tell N z a).bind fun s31 => (f_X12_tell N s31 b).bind fun s32 => k2 s32 (n + 1) else k2 z (n + 1)) (fun d => P c d)) := by
  rcases h with ⟨rfl, rfl, rfl⟩ | ⟨m, x1, x2, h0, hm, rfl, rfl, rfl⟩
  · rw [if_pos (by decide), if_pos (by decide), c_two, o_bind]
    unfold m0T
    rw [m_tell0, o_bind, m_tell1, o_bind]
    exact hk _ _ _ (Or.inr ⟨1, a, b, by omega, by omega, rfl, rfl, rfl⟩) rfl
  · have hm2 : m ≠ 999 := fun h => hn (by rw [h])
    rw [if_neg (by rw [mI_succ, show (1 : Int32) = mI 1 from rfl, mI_eq (by omega) (by omega)]; omega), if_neg (by rw [mI_eq0 (by omega)]; omega)]
    exact hk _ _ _ (Or.inr ⟨m + 1, x1, x2, by omega, by omega, mI_succ m, rfl, rfl⟩) rfl
theorem c_fH {N : Nat} {s : uS} (x y f : Int32) : f_X11_farmerHas N s x y f = some (if y < x then f else x) := by unfold f_X11_farmerHas; split <;> rfl
theorem c_rH {N : Nat} {s : uS} (x y v : Int32) : f_X11_regularsHave N s x y v = some (if y < x then 0 else v - x) := by unfold f_X11_regularsHave; split <;> rfl
theorem m_fG {N : Nat} {s : uS} (x y f : Int32) : f_X12_farmerGets N s x y f = some (if y < x then f else x) := by unfold f_X12_farmerGets; split <;> rfl
theorem m_oG {N : Nat} {s : uS} (x y v : Int32) : f_X12_othersGet N s x y v = some (if y < x then 0 else v - x) := by unfold f_X12_othersGet; split <;> rfl
theorem c_rest {N : Nat} {s t : uS} {x y p f : Int32} (hN : 500 < N) : ∃ z, f_X11_isTreatyAtRest N s x y p f = some z ∧ f_X12_isRest N t x y p f = some z := by
  have h : ok (f_X11_isTreatyAtRest N s x y p f) (fun a => ok (f_X12_isRest N t x y p f) (fun b => a = b)) := by
    unfold f_X11_isTreatyAtRest f_X12_isRest
    simp only [jn_eq]
    refine lpr11 (fun k a b => a = mI k ∧ b = mI k) 10 N _ _ (by omega) ?_ ⟨rfl, rfl⟩
    rintro k a b rec rec2 hk ⟨rfl, rfl⟩ hrec
    unfold b_X11_isTreatyAtRest_3 b_X12_isRest_3
    simp only [c_fH, c_rH, m_fG, m_oG, o_bind, jn_eq, mI_succ]
    generalize (if y < mI k then f else mI k) = A
    generalize (if y < x then f else x) = B
    generalize (if mI k < x then 0 else p - x) = C
    generalize (if y < x then 0 else p - x) = D
    by_cases hlt : k < 10
    · have h9 : ¬ (9 : Int32) < mI k := by rw [show (9 : Int32) = mI 9 from rfl, mI_lt (by omega) (by omega)]; omega
      rw [if_neg h9, if_neg h9]
      by_cases h1 : B < A
      · rw [if_pos h1, if_pos h1, ok_some, ok_some]
      · rw [if_neg h1, if_neg h1]
        by_cases h2 : C ≤ D
        · rw [if_pos h2, if_pos h2]
          exact hrec _ _ hlt ⟨rfl, rfl⟩
        · rw [if_neg h2, if_neg h2, ok_some, ok_some]
    · have h9 : (9 : Int32) < mI k := by rw [show (9 : Int32) = mI 9 from rfl, mI_lt (by omega) (by omega)]; omega
      rw [if_pos h9, if_pos h9, ok_some, ok_some]
  obtain ⟨a, h1, b, h2, h3⟩ := h
  exact ⟨a, h1, by rw [h2, h3]⟩
theorem n_s41_ok (N j : Nat) (hN : 500 < N) : n_s41 N (Rel N j) (Rel N (j + 1)) := by
  intro σc σm h a1 a2
  have h := h.thr
  refine two ?_
  unfold f_X12_rests f_X11_rests
  simp only [jn_eq]
  generalize u_pI σm 0 8 0 = s1 at h ⊢
  have hmono := h.mono
  obtain ⟨M, F, ρ, hC, hTo⟩ := h
  rw [m_in, m_in]
  simp only [o_bind]
  by_cases c1 : a1 < 0
  · simp only [c1, if_true, ok_some]
    exact ⟨trivial, hmono⟩
  by_cases c2 : 20 < a1
  · simp only [c1, c2, if_true, if_false, ok_some]
    exact ⟨trivial, hmono⟩
  by_cases c3 : a2 < 0
  · simp only [c1, c2, c3, if_true, if_false, ok_some, i10]
    exact ⟨trivial, hmono⟩
  by_cases c4 : 9 < a2
  · simp only [c1, c2, c3, c4, Int32.not_le.mpr c4, if_true, if_false, ok_some, i10]
    exact ⟨trivial, hmono⟩
  simp only [c1, c2, c3, c4, if_true, if_false, i10, Int32.not_lt.mp c4, c_clear, o_bind]
  refine lpr33 (fun k y1 y2 y3 z1 z2 z3 => (∃ m, m ≤ 10 * k ∧ y2 = mI m) ∧ z2 = y2 ∧ twI σc s1 y2 y1 z1 ∧ y3 = mI k ∧ z3 = mI k) 10 N _ _ _ _ _ _ (by omega) ?_ ⟨⟨0, by omega, rfl⟩, rfl, Or.inl ⟨rfl, rfl, rfl⟩, rfl, rfl⟩
  rintro k y1 y2 y3 z1 z2 z3 rec rec2 hk ⟨⟨m, hm, rfl⟩, rfl, i1, rfl, rfl⟩ hrec
  unfold b_X11_rests_34 b_X12_rests_37
  by_cases hlt : k < 10
  · have h9 : ¬ (9 : Int32) < mI k := by rw [show (9 : Int32) = mI 9 from rfl, mI_lt (by omega) (by omega)]; omega
    rw [if_neg h9, if_neg h9]
    simp only [jn_eq, mI_succ]
    refine lpr33 (fun i y1 y2 y3 z1 z2 z3 => (∃ m, m ≤ 10 * k + i ∧ y2 = mI m) ∧ z2 = y2 ∧ twI σc s1 y2 y1 z1 ∧ y3 = mI i ∧ z3 = mI i) 10 N _ _ _ _ _ _ (by omega) ?_ ⟨⟨m, by omega, rfl⟩, rfl, i1, rfl, rfl⟩
    rintro i y1 y2 y3 z1 z2 z3 reci reci2 hi ⟨⟨m, hm, rfl⟩, rfl, i1, rfl, rfl⟩ hreci
    unfold b_X11_rests_44 b_X12_rests_47
    by_cases hlt2 : i < 10
    · have h9 : ¬ (9 : Int32) < mI i := by rw [show (9 : Int32) = mI 9 from rfl, mI_lt (by omega) (by omega)]; omega
      obtain ⟨z, e1, e2⟩ := c_rest (N := N) (s := y1) (t := z1) (x := mI k) (y := mI i) (p := a1) (f := a2) hN
      rw [if_neg h9, if_neg h9, e1, e2, o_bind, o_bind]
      simp only [jn_eq]
      by_cases h0 : z = 0
      · rw [if_pos h0, if_pos h0]
        exact hreci _ _ _ _ _ _ hlt2 ⟨⟨m, by omega, rfl⟩, rfl, i1, mI_succ i, mI_succ i⟩
      · rw [if_neg h0, if_neg h0]
        refine tw_step (k1 := fun s x => reci s x (mI i + 1)) (k2 := fun s x => reci2 s x (mI i + 1)) i1 (by rw [ne_eq, mI_eq (by omega) (by omega)]; omega) (fun y' z' n' g1 g2 => ?_)
        exact hreci _ _ _ _ _ _ hlt2 ⟨⟨m + 1, by omega, by rw [g2]; exact mI_succ m⟩, rfl, g1, mI_succ i, mI_succ i⟩
    · have h9 : (9 : Int32) < mI i := by rw [show (9 : Int32) = mI 9 from rfl, mI_lt (by omega) (by omega)]; omega
      rw [if_pos h9, if_pos h9]
      exact hrec _ _ _ _ _ _ hlt ⟨⟨m, by omega, rfl⟩, rfl, i1, rfl, rfl⟩
  · have h9 : (9 : Int32) < mI k := by rw [show (9 : Int32) = mI 9 from rfl, mI_lt (by omega) (by omega)]; omega
    rw [if_pos h9, if_pos h9, ok_some, ok_some]
    exact ⟨rfl, i1.rel hC⟩
theorem n_s28_ok (N j : Nat) (hN : 500 < N) : n_s28 N (Rel N j) (Rel N (j + 1)) := by
  intro σc σm h
  have h := h.thr
  refine two ?_
  unfold f_X12_unlike f_X11_unlike
  simp only [jn_eq]
  generalize u_pI σm 0 8 0 = s1 at h ⊢
  obtain ⟨M, F, ρ, hC, hTo⟩ := h
  obtain ⟨b1, b2, b3, b4, b5, b6, b7⟩ := id hC.1
  have v1 : (1 : Nat) = 1 ∨ (1 : Nat) = 10 ∨ (1 : Nat) = 11 ∨ (1 : Nat) = 12 := by omega
  rw [c_clear, o_bind]
  refine lpr33 (fun k y1 y2 y3 z1 z2 z3 => (∃ m, m ≤ 10 * k ∧ y2 = mI m) ∧ z2 = y2 ∧ twI σc s1 y2 y1 z1 ∧ y3 = mI k ∧ z3 = mI k) M N _ _ _ _ _ _ (by omega) ?_ ⟨⟨0, by omega, rfl⟩, rfl, Or.inl ⟨rfl, rfl, rfl⟩, rfl, rfl⟩
  rintro k y1 y2 y3 z1 z2 z3 rec rec2 hk ⟨⟨m, hm, rfl⟩, rfl, i1, rfl, rfl⟩ hrec
  unfold b_X11_unlike_11 b_X12_unlike_14
  rw [i1.a (a := 32) (by omega), b6.2.2.2.2.2.2.2.1, i1.s (s := 2) (by omega), b5]
  by_cases hlt : k < M
  · rw [if_neg (by rw [mI_le (by omega) (by omega)]; omega), if_neg (by rw [mI_le (by omega) (by omega)]; omega)]
    simp only [jn_eq, mI_succ]
    refine lpr33 (fun i y1 y2 y3 z1 z2 z3 => (∃ m, m ≤ 10 * k + i ∧ y2 = mI m) ∧ z2 = y2 ∧ twI σc s1 y2 y1 z1 ∧ y3 = mI (k + 1 + i) ∧ z3 = mI (k + 1 + i)) (M - (k + 1)) N _ _ _ _ _ _ (by omega) ?_ ⟨⟨m, by omega, rfl⟩, rfl, i1, rfl, rfl⟩
    rintro i y1 y2 y3 z1 z2 z3 reci reci2 hi ⟨⟨m, hm, rfl⟩, rfl, i1, rfl, rfl⟩ hreci
    unfold b_X11_unlike_26 b_X12_unlike_26
    have e2 : z1.1 0 2 = mI M := by rw [i1.s (s := 2) (by omega)]; exact b5
    rw [i1.a (a := 32) (by omega), b6.2.2.2.2.2.2.2.1, e2]
    by_cases hlt2 : k + 1 + i < M
    · have hq : ∀ q, q < M → y1.1 (32 + 2) q = s1.1 1 q ∧ y1.1 (32 + 4) q = s1.1 2 q ∧ y1.1 (32 + 5) q = s1.1 1 (8 + q) := fun q hq => ⟨by rw [i1.a (a := 32 + 2) (by omega)]; exact b6.1 q hq, by rw [i1.a (a := 32 + 4) (by omega)]; exact b6.2.2.1 q hq, by rw [i1.a (a := 32 + 5) (by omega)]; exact b6.2.1 q hq⟩
      have hz1 : z1.1 1 = s1.1 1 := i1.b (by omega)
      have hz2 : z1.1 2 = s1.1 2 := i1.b (by omega)
      have goon : ∀ y' z' m', m' ≤ 10 * k + (i + 1) → twI σc s1 (mI m') y' z' → ok (reci y' (mI m') (mI (k + 1 + i) + 1)) (fun a => ok (reci2 z' (mI m') (mI (k + 1 + i) + 1)) (fun b => a.1 = b.1 ∧ Rel N (j + 1) a.2 b.2)) := fun y' z' m' hm' g => hreci _ _ _ _ _ _ (by omega) ⟨⟨m', hm', rfl⟩, rfl, g, mI_succ _, mI_succ _⟩
      generalize hqq : k + 1 + i = q at hlt2 goon
      have fin : ok (if mI m + 1 = 1 then (f_X8_two N y1 (Int32.toInt64 (mI k)) (Int32.toInt64 (mI q))).bind fun s27 => reci s27 (mI m + 1) (mI q + 1) else reci y1 (mI m + 1) (mI q + 1)) (fun c => ok (if mI m = 0 then (f_X12_tell N z1 (Int32.toInt64 (mI k))).bind fun s31 => (f_X12_tell N s31 (Int32.toInt64 (mI q))).bind fun s32 => reci2 s32 (mI m + 1) (mI q + 1) else reci2 z1 (mI m + 1) (mI q + 1)) (fun d => c.1 = d.1 ∧ Rel N (j + 1) c.2 d.2)) := by
        refine tw_step (k1 := fun s x => reci s x (mI q + 1)) (k2 := fun s x => reci2 s x (mI q + 1)) i1 (by rw [ne_eq, mI_eq (by omega) (by omega)]; omega) (fun y' z' n' g1 g2 => ?_)
        rw [g2, mI_succ] at g1 ⊢
        exact goon _ _ (m + 1) (by omega) g1
      rw [if_neg (by rw [mI_le (by omega) (by omega)]; omega), if_neg (by rw [mI_le (by omega) (by omega)]; omega), c_isIn (by omega) (by omega) (by omega) (by omega), c_isIn (by omega) (by omega) (by omega) (by omega), m_isIn v1 (by omega), m_isIn v1 (by omega), (hq k hlt).1, (hq k hlt).2.1, (hq q hlt2).1, (hq q hlt2).2.1, hz1, hz2]
      simp only [o_bind, jn_eq]
      by_cases hx : (if s1.1 1 k < s1.1 2 k then (0 : Int32) else 1) = (if s1.1 1 q < s1.1 2 q then (0 : Int32) else 1)
      · rw [if_pos hx, if_pos hx]
        exact goon _ _ m (by omega) i1
      · rw [if_neg hx, if_neg hx, c_sees (by omega) (by omega) (by omega) (by omega) (by omega), c_sees (by omega) (by omega) (by omega) (by omega) (by omega), m_sees v1 e2 (by omega), m_sees v1 e2 (by omega), (hq k hlt).2.2, (hq q hlt2).2.2, hz1]
        simp only [o_bind, m_has (N := N) (σ := z1) _ (show q < 32 by omega), m_has (N := N) (σ := z1) _ (show k < 32 by omega), tb_all_lt b1 hlt, tb_all_lt b1 hlt2]
        cases tb (s1.1 1 (8 + k)) q
        · cases tb (s1.1 1 (8 + q)) k
          · simp only [Bool.false_eq_true, if_false, if_true]
            exact goon _ _ m (by omega) i1
          · simp only [Bool.false_eq_true, if_false, if_true, i10]
            exact fin
        · simp only [if_true, i10, if_false]
          exact fin
    · rw [if_pos (by rw [mI_le (by omega) (by omega)]; omega), if_pos (by rw [mI_le (by omega) (by omega)]; omega)]
      exact hrec _ _ _ _ _ _ hlt ⟨⟨m, by omega, rfl⟩, rfl, i1, rfl, rfl⟩
  · rw [if_pos (by rw [mI_le (by omega) (by omega)]; omega), if_pos (by rw [mI_le (by omega) (by omega)]; omega), ok_some, ok_some]
    exact ⟨rfl, i1.rel hC⟩
