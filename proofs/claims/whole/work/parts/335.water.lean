/-! PURE LAYER: courses, sure, next -/
def crs (l r : Nat) : Int32 := (2 <<< (mI r &&& 31)) - (1 <<< (mI l &&& 31))
theorem tb_crs {l r i : Nat} (hl : l < 16) (hr : r < 16) (hi : i < 32) (hlr : l ≤ r) : tb (crs l r) i = decide (l ≤ i ∧ i ≤ r) := by
  have : ∀ (l r : Fin 16) (i : Fin 32), l.val ≤ r.val → tb (crs l.val r.val) i.val = decide (l.val ≤ i.val ∧ i.val ≤ r.val) := by decide +kernel
  exact this ⟨l, hl⟩ ⟨r, hr⟩ ⟨i, hi⟩ hlr
def fitB (st ba : Int32) (l r : Nat) : Bool := decide (st &&& (crs l r ^^^ (-1)) = 0) && decide (ba &&& crs l r = 0)
theorem c_fit {N l r : Nat} {σ : uS} : f_X0_fit N σ (mI l) (mI r) = some (if fitB (σ.1 8 1) (σ.1 8 2) l r then 1 else 0) := by
  unfold f_X0_fit
  simp only [jn_eq]
  show (if (σ.1 8 1) &&& (crs l r ^^^ (-1)) = 0 then (if (σ.1 8 2) &&& crs l r = 0 then some 1 else some 0) else some 0) = _
  unfold fitB
  by_cases h1 : (σ.1 8 1) &&& (crs l r ^^^ (-1)) = 0
  · by_cases h2 : (σ.1 8 2) &&& crs l r = 0
    · rw [if_pos h1, if_pos h2, decide_eq_true h1, decide_eq_true h2]; rfl
    · rw [if_pos h1, if_neg h2, decide_eq_true h1, decide_eq_false h2]; rfl
  · rw [if_neg h1, decide_eq_false h1]; rfl
theorem tb_sSt {dug : Nat → Int32} {bits : Int32} {b : Bool} {x : Nat → Nat} {i : Nat} (hi : i < 32) : ∀ D, (∀ k, k < D → x k < 16 ∧ dug k = mI (x k)) → (tb (sSt dug bits b D) i = true ↔ ∃ k, k < D ∧ tb bits k = b ∧ x k = i)
  | 0, _ => ⟨fun h => (by rw [show sSt dug bits b 0 = 0 from rfl, tb_0] at h; exact Bool.noConfusion h), fun ⟨k, hk, _⟩ => absurd hk (by omega)⟩
  | D + 1, hx => by
    have ih := tb_sSt (dug := dug) (bits := bits) (b := b) (x := x) hi D (fun k hk => hx k (by omega))
    obtain ⟨x1, x2⟩ := hx D (by omega)
    show tb (sSt dug bits b D ||| _) i = true ↔ _
    rw [tb_or, Bool.or_eq_true, ih]
    have hb : tb (if tb bits D = b then (1 : Int32) <<< (dug D &&& 31) else 0) i = true ↔ tb bits D = b ∧ x D = i := by
      by_cases h : tb bits D = b
      · rw [if_pos h, x2, tb_1 (by omega) hi]
        simp [h, eq_comm]
      · rw [if_neg h, tb_0]
        simp [h]
    rw [hb]
    constructor
    · rintro (⟨k, h1, h2⟩ | ⟨h1, h2⟩)
      · exact ⟨k, by omega, h2⟩
      · exact ⟨D, by omega, h1, h2⟩
    · rintro ⟨k, h1, h2, h3⟩
      by_cases hk : k = D
      · right; subst hk; exact ⟨h2, h3⟩
      · left; exact ⟨k, by omega, h2, h3⟩
/-- what was dug fits a course -/
theorem fit_iff {dug : Nat → Int32} {bits : Int32} {x : Nat → Nat} {D l r : Nat} (hx : ∀ k, k < D → x k < 16 ∧ dug k = mI (x k)) (hl : l < 16) (hr : r < 16) (hlr : l ≤ r) : fitB (sSt dug bits true D) (sSt dug bits false D) l r = true ↔ ∀ k, k < D → (decide (l ≤ x k ∧ x k ≤ r)) = tb bits k := by
  unfold fitB
  rw [Bool.and_eq_true, decide_eq_true_iff, decide_eq_true_iff, and_sub]
  have h0 : (sSt dug bits false D &&& crs l r = 0) ↔ ∀ i, i < 32 → tb (sSt dug bits false D) i = true → tb (crs l r) i = false := by
    constructor
    · intro h i hi ht
      have := congrArg (fun z => tb z i) h
      simp only [tb_and, tb_0, ht, Bool.true_and] at this
      exact this
    · intro h
      apply tb_ext
      intro i hi
      rw [tb_and, tb_0]
      cases ht : tb (sSt dug bits false D) i
      · rfl
      · rw [h i hi ht]; rfl
  rw [h0]
  constructor
  · rintro ⟨h1, h2⟩ k hk
    obtain ⟨g1, g2⟩ := hx k hk
    cases hb : tb bits k
    · have := h2 (x k) (by omega) ((tb_sSt (by omega) D hx).mpr ⟨k, hk, hb, rfl⟩)
      rw [tb_crs hl hr (by omega) hlr] at this
      exact this
    · have := h1 (x k) ((tb_sSt (by omega) D hx).mpr ⟨k, hk, hb, rfl⟩)
      rw [tb_crs hl hr (by omega) hlr] at this
      exact this
  · intro h
    refine ⟨fun i ht => ?_, fun i hi ht => ?_⟩
    · by_cases hi : i < 32
      · obtain ⟨k, hk, hb, rfl⟩ := (tb_sSt hi D hx).mp ht
        rw [tb_crs hl hr hi hlr, h k hk, hb]
      · rw [tb_hi (by omega)] at ht; cases ht
    · obtain ⟨k, hk, hb, rfl⟩ := (tb_sSt hi D hx).mp ht
      rw [tb_crs hl hr hi hlr, h k hk, hb]
theorem m_course {N F l r : Nat} {σc σ : uS} (hD : rDig F σc σ) (hF : F ≤ 16) (hl : l < 16) (hr : r < 16) (hlr : l ≤ r) (hN : 500 < N) : f_X12_isCourse N σ (mI l) (mI r) = some (if fitB (σc.1 8 1) (σc.1 8 2) l r then 1 else 0) := by
  obtain ⟨D, d1, d2, d3, d4, d5, d6⟩ := hD
  have hx : ∀ k, k < D → (σ.1 16 k).toNatClampNeg < 16 ∧ σ.1 16 k = mI (σ.1 16 k).toNatClampNeg := fun k hk => by
    obtain ⟨x, x1, x2⟩ := d4 k hk
    rw [x2, mI_nat (by omega)]
    exact ⟨by omega, rfl⟩
  have hfi := fit_iff (bits := σ.1 0 29) (D := D) hx hl hr hlr
  rw [← d5, ← d6] at hfi
  have h : ok (f_X12_isCourse N σ (mI l) (mI r)) (fun z => z = if fitB (σc.1 8 1) (σc.1 8 2) l r then 1 else 0) := by
    unfold f_X12_isCourse
    simp only [jn_eq]
    refine lp1_ok (fun k y => k ≤ D ∧ y = mI k ∧ ∀ i, i < k → (decide (l ≤ (σ.1 16 i).toNatClampNeg ∧ (σ.1 16 i).toNatClampNeg ≤ r)) = tb (σ.1 0 29) i) D N _ (by omega) ?_ ⟨by omega, rfl, fun i h => absurd h (by omega)⟩
    rintro k y rec hk ⟨-, rfl, hg⟩ hrec
    unfold b_X12_isCourse_2
    rw [d3]
    by_cases hlt : k < D
    · obtain ⟨x1, x2⟩ := hx k hlt
      rw [if_neg (mnle (by omega) (by omega) hlt), mr_16 (by omega), o_bind, x2, m_in, o_bind, m_has _ (by omega), o_bind]
      generalize hxx : (σ.1 16 k).toNatClampNeg = x at x1 x2
      have e : (if mI x < mI l then (0 : Int32) else if mI r < mI x then 0 else 1) = if decide (l ≤ x ∧ x ≤ r) = true then 1 else 0 := by
        by_cases g1 : x < l
        · rw [if_pos (mlt (by omega) (by omega) g1), if_neg (by simp; omega)]
        · rw [if_neg (mnlt (by omega) (by omega) (by omega))]
          by_cases g2 : r < x
          · rw [if_pos (mlt (by omega) (by omega) g2), if_neg (by simp; omega)]
          · rw [if_neg (mnlt (by omega) (by omega) (by omega)), if_pos (by simp; omega)]
      rw [e]
      by_cases hq : decide (l ≤ x ∧ x ≤ r) = tb (σ.1 0 29) k
      · rw [if_pos (by rw [hq]), jn_eq, mI_succ]
        refine hrec _ hlt ⟨by omega, rfl, fun i hi => ?_⟩
        by_cases hik : i = k
        · rw [hik, hxx]; exact hq
        · exact hg i (by omega)
      · rw [if_neg (by
          intro h
          apply hq
          cases g1 : decide (l ≤ x ∧ x ≤ r) <;> cases g2 : tb (σ.1 0 29) k <;> rw [g1, g2] at h <;> simp at h ⊢), ok_some]
        have : fitB (σc.1 8 1) (σc.1 8 2) l r = false := by
          cases hh : fitB (σc.1 8 1) (σc.1 8 2) l r
          · rfl
          · exact absurd (by have := hfi.mp hh k hlt; rw [hxx] at this; exact this) hq
        rw [this]; rfl
    · have hkD : k = D := by omega
      subst hkD
      rw [if_pos (mle (by omega) (by omega) (Nat.le_refl _)), ok_some, hfi.mpr hg]; rfl
  obtain ⟨z, h1, h2⟩ := h
  rw [h1, h2]
/-! sums over courses -/
def cIn (P : Nat → Bool) (l : Nat) : Nat → Nat
  | 0 => 0
  | k + 1 => cIn P l k + (if P (l + k) then 1 else 0)
def cSum (P : Nat → Nat → Bool) (F : Nat) : Nat → Nat
  | 0 => 0
  | l + 1 => cSum P F l + cIn (P l) l (F - l)
theorem cIn_le (P : Nat → Bool) (l : Nat) : ∀ k, cIn P l k ≤ k
  | 0 => Nat.le_refl _
  | k + 1 => by have := cIn_le P l k; show cIn P l k + _ ≤ _; split <;> omega
theorem cSum_le (P : Nat → Nat → Bool) (F : Nat) (hF : F ≤ 16) : ∀ l, cSum P F l ≤ 16 * l
  | 0 => Nat.le_refl _
  | l + 1 => by have := cSum_le P F hF l; have := cIn_le (P l) l (F - l); show cSum P F l + _ ≤ _; omega
theorem cIn_split (P Q : Nat → Bool) (l : Nat) : ∀ k, cIn (fun r => Q r && P r) l k + cIn (fun r => !Q r && P r) l k = cIn P l k
  | 0 => rfl
  | k + 1 => by
    have := cIn_split P Q l k
    show cIn (fun r => Q r && P r) l k + (if (Q (l + k) && P (l + k)) then 1 else 0) + (cIn (fun r => !Q r && P r) l k + (if (!Q (l + k) && P (l + k)) then 1 else 0)) = cIn P l k + (if P (l + k) then 1 else 0)
    cases Q (l + k) <;> cases P (l + k) <;> simp <;> omega
theorem cSum_split (P Q : Nat → Nat → Bool) (F : Nat) : ∀ l, cSum (fun l r => Q l r && P l r) F l + cSum (fun l r => !Q l r && P l r) F l = cSum P F l
  | 0 => rfl
  | l + 1 => by
    have h1 := cSum_split P Q F l
    have h2 := cIn_split (P l) (Q l) l (F - l)
    show cSum (fun l r => Q l r && P l r) F l + cIn (fun r => Q l r && P l r) l (F - l) + (cSum (fun l r => !Q l r && P l r) F l + cIn (fun r => !Q l r && P l r) l (F - l)) = cSum P F l + cIn (P l) l (F - l)
    omega
def inQ (f l r : Nat) : Bool := decide (l ≤ f ∧ f ≤ r)
theorem c_with {N F : Nat} {σ : uS} {p2 : Int32} {P : Nat → Nat → Bool} (hF : F ≤ 16) (hP : (p2 = -1 ∧ P = fitB (σ.1 8 1) (σ.1 8 2)) ∨ ∃ f, f < 16 ∧ p2 = mI f ∧ P = fun l r => inQ f l r && fitB (σ.1 8 1) (σ.1 8 2) l r) (hN : 500 < N) : f_X0_coursesWith N σ (mI F) p2 = some (mI (cSum P F F)) := by
  unfold f_X0_coursesWith
  simp only [jn_eq]
  refine lp2_eqa (fun l => mI (cSum P F l)) mI F N _ (by omega) rfl rfl (fun l rec hl => ?_) (fun rec => ?_)
  · unfold b_X0_coursesWith_5
    rw [if_neg (mnle (by omega) (by omega) hl)]
    simp only [jn_eq, mI_succ]
    show _ = rec (mI (cSum P F l + cIn (P l) l (F - l))) _
    refine lp2_eqa (fun k => mI (cSum P F l + cIn (P l) l k)) (fun k => mI (l + k)) (F - l) N _ (by omega) rfl rfl (fun k rec2 hk => ?_) (fun rec2 => ?_)
    · unfold b_X0_coursesWith_15
      rw [if_neg (mnle (by omega) (by omega) (by omega)), c_fit]
      simp only [jn_eq, o_bind, mI_succ]
      have e1 : ∀ x : Bool, (if x then (1 : Nat) else 0) = if x then 1 else 0 := fun _ => rfl
      show _ = rec2 (mI (cSum P F l + (cIn (P l) l k + (if P l (l + k) then 1 else 0)))) (mI (l + k + 1))
      rw [← Nat.add_assoc]
      generalize cSum P F l + cIn (P l) l k = c
      rcases hP with ⟨rfl, rfl⟩ | ⟨f, hf, rfl, rfl⟩
      · rw [if_pos rfl, if_neg n10]
        cases fitB (σ.1 8 1) (σ.1 8 2) l (l + k)
        · simp only [Bool.false_eq_true, if_false, if_true, Int32.add_zero, Nat.add_zero]
        · simp only [if_true, i10, if_false, mI_succ]
      · have hm1 : ¬ mI f = -1 := fun h => absurd ((m1_le f (by omega)).2) (by rw [h]; decide)
        rw [if_neg hm1]
        unfold inQ
        by_cases g1 : f < l
        · rw [if_pos (mlt (by omega) (by omega) g1)]
          have : decide (l ≤ f ∧ f ≤ l + k) = false := by simp; omega
          simp only [this, Bool.false_and, Bool.false_eq_true, if_false, if_true, Int32.add_zero, Nat.add_zero]
        · rw [if_neg (mnlt (by omega) (by omega) (by omega))]
          by_cases g2 : l + k < f
          · rw [if_pos (mlt (by omega) (by omega) g2)]
            have : decide (l ≤ f ∧ f ≤ l + k) = false := by simp; omega
            simp only [this, Bool.false_and, Bool.false_eq_true, if_false, if_true, Int32.add_zero, Nat.add_zero]
          · rw [if_neg (mnlt (by omega) (by omega) (by omega))]
            have : decide (l ≤ f ∧ f ≤ l + k) = true := by simp; omega
            simp only [this, Bool.true_and, i10, if_false]
            cases fitB (σ.1 8 1) (σ.1 8 2) l (l + k)
            · simp only [Bool.false_eq_true, if_false, if_true, Int32.add_zero, Nat.add_zero]
            · simp only [if_true, i10, if_false, mI_succ]
    · unfold b_X0_coursesWith_15
      rw [if_pos (mle (by omega) (by omega) (by omega))]
  · unfold b_X0_coursesWith_5
    rw [if_pos (mle (by omega) (by omega) (Nat.le_refl _))]
theorem m_if {N F f : Nat} {σc σ : uS} {b : Bool} (hD : rDig F σc σ) (h1 : σ.1 0 1 = mI F) (hF : F ≤ 16) (hf : f < 16) (hN : 500 < N) : f_X12_coursesIf N σ (mI f) (if b then 1 else 0) = some (mI (cSum (fun l r => (inQ f l r == b) && fitB (σc.1 8 1) (σc.1 8 2) l r) F F)) := by
  unfold f_X12_coursesIf
  simp only [jn_eq]
  generalize hP : (fun l r => (inQ f l r == b) && fitB (σc.1 8 1) (σc.1 8 2) l r) = P
  refine lp2_eqa (fun l => mI (cSum P F l)) mI F N _ (by omega) rfl rfl (fun l rec hl => ?_) (fun rec => ?_)
  · unfold b_X12_coursesIf_5
    rw [h1, if_neg (mnle (by omega) (by omega) hl)]
    simp only [jn_eq, mI_succ]
    show _ = rec (mI (cSum P F l + cIn (P l) l (F - l))) _
    refine lp2_eqa (fun k => mI (cSum P F l + cIn (P l) l k)) (fun k => mI (l + k)) (F - l) N _ (by omega) rfl rfl (fun k rec2 hk => ?_) (fun rec2 => ?_)
    · unfold b_X12_coursesIf_18
      rw [h1, if_neg (mnle (by omega) (by omega) (by omega)), m_in, m_course hD hF (by omega) (by omega) (by omega) hN]
      simp only [jn_eq, o_bind, mI_succ]
      show _ = rec2 (mI (cSum P F l + (cIn (P l) l k + (if P l (l + k) then 1 else 0)))) (mI (l + k + 1))
      rw [← Nat.add_assoc]
      generalize cSum P F l + cIn (P l) l k = c
      have e : (if mI f < mI l then (0 : Int32) else if mI (l + k) < mI f then 0 else 1) = if inQ f l (l + k) = true then 1 else 0 := by
        unfold inQ
        by_cases g1 : f < l
        · rw [if_pos (mlt (by omega) (by omega) g1), if_neg (by simp; omega)]
        · rw [if_neg (mnlt (by omega) (by omega) (by omega))]
          by_cases g2 : l + k < f
          · rw [if_pos (mlt (by omega) (by omega) g2), if_neg (by simp; omega)]
          · rw [if_neg (mnlt (by omega) (by omega) (by omega)), if_pos (by simp; omega)]
      rw [e, ← hP]
      show _ = rec2 (mI (c + (if ((inQ f l (l + k) == b) && fitB (σc.1 8 1) (σc.1 8 2) l (l + k)) then 1 else 0))) (mI (l + k + 1))
      have e2 : ((if inQ f l (l + k) = true then (1 : Int32) else 0) = (if b then 1 else 0)) = ((inQ f l (l + k) == b) = true) := by
        cases inQ f l (l + k) <;> cases b <;> decide
      simp only [e2]
      cases (inQ f l (l + k) == b)
      · simp only [Bool.false_eq_true, if_false, Bool.false_and, Int32.add_zero, Nat.add_zero]
      · simp only [if_true, Bool.true_and]
        cases fitB (σc.1 8 1) (σc.1 8 2) l (l + k)
        · simp only [Bool.false_eq_true, if_false, if_true, Int32.add_zero, Nat.add_zero]
        · simp only [if_true, i10, if_false, mI_succ]
    · unfold b_X12_coursesIf_18
      rw [h1, if_pos (mle (by omega) (by omega) (by omega))]
  · unfold b_X12_coursesIf_5
    rw [h1, if_pos (mle (by omega) (by omega) (Nat.le_refl _))]
/-- of a furrow: with it, without it, all -/
theorem courses3 {N j M F : Nat} {ρ : Rho} {σc s1 : uS} (hC : RelC N j M F ρ σc s1) (hN : 500 < N) : ∃ (al : Nat) (wi : Nat → Nat), al ≤ 256 ∧ (∀ f, f < 16 → wi f ≤ al) ∧ f_X0_coursesWith N σc (mI F) (-1) = some (mI al) ∧ (∀ f, f < 16 → f_X0_coursesWith N σc (mI F) (mI f) = some (mI (wi f)) ∧ f_X12_coursesIf N s1 (mI f) 1 = some (mI (wi f)) ∧ f_X12_coursesIf N s1 (mI f) 0 = some (mI (al - wi f))) := by
  obtain ⟨b1, b2, b3, b4, b5, b6, b7⟩ := id hC.1
  have hD := hC.2.2.1
  have hsp := fun f => cSum_split (fitB (σc.1 8 1) (σc.1 8 2)) (inQ f) F F
  have hle := cSum_le (fitB (σc.1 8 1) (σc.1 8 2)) F b3 F
  have et : ∀ f, (fun l r => (inQ f l r == true) && fitB (σc.1 8 1) (σc.1 8 2) l r) = fun l r => inQ f l r && fitB (σc.1 8 1) (σc.1 8 2) l r := fun f => by
    funext l r; cases inQ f l r <;> rfl
  have ef : ∀ f, (fun l r => (inQ f l r == false) && fitB (σc.1 8 1) (σc.1 8 2) l r) = fun l r => !inQ f l r && fitB (σc.1 8 1) (σc.1 8 2) l r := fun f => by
    funext l r; cases inQ f l r <;> rfl
  refine ⟨cSum (fitB (σc.1 8 1) (σc.1 8 2)) F F, fun f => cSum (fun l r => inQ f l r && fitB (σc.1 8 1) (σc.1 8 2) l r) F F, by omega, fun f hf => ?_, c_with b3 (Or.inl ⟨rfl, rfl⟩) hN, fun f hf => ⟨c_with b3 (Or.inr ⟨f, hf, rfl, rfl⟩) hN, ?_, ?_⟩⟩
  · have := hsp f
    show cSum (fun l r => inQ f l r && fitB (σc.1 8 1) (σc.1 8 2) l r) F F ≤ _
    omega
  · have := m_if (b := true) hD b4 b3 hf hN
    rw [et f] at this
    exact this
  · have := m_if (b := false) hD b4 b3 hf hN
    rw [ef f] at this
    have h2 := hsp f
    rw [show cSum (fitB (σc.1 8 1) (σc.1 8 2)) F F - cSum (fun l r => inQ f l r && fitB (σc.1 8 1) (σc.1 8 2) l r) F F = cSum (fun l r => !inQ f l r && fitB (σc.1 8 1) (σc.1 8 2) l r) F F by omega]
    exact this
theorem n_s32_ok (N j : Nat) (hN : 500 < N) : n_s32 N (Rel N j) (Rel N (j + 1)) := by
  intro σc σm h
  have h := h.thr
  refine two ?_
  unfold f_X12_sure f_X11_sure
  simp only [jn_eq]
  generalize u_pI σm 0 8 0 = s1 at h ⊢
  obtain ⟨M, F, ρ, hC, hTo⟩ := h
  obtain ⟨b1, b2, b3, b4, b5, b6, b7⟩ := id hC.1
  have t5 := b6.2.2.2.2.1
  obtain ⟨al, wi, h1, h2, h3, h4⟩ := courses3 hC hN
  rw [t5, h3, o_bind]
  have z0 : (0 : Int32) = mI 0 := rfl
  have fin : ∀ x y : Int32, ok ((f_X8_one N σc (Int32.toInt64 y)).bind fun s5 => some (x, s5)) (fun a => ok ((f_X12_tell N (u_pI s1 0 7 0) (Int32.toInt64 y)).bind fun s6 => some (x, s6)) (fun b => a.1 = b.1 ∧ Rel N (j + 1) a.2 b.2)) := fun x y => by
    rw [c_one, o_bind, ok_some, m_tell0, o_bind, ok_some]
    exact ⟨rfl, rel_look1 hC fr.rfl mfr.rfl _⟩
  by_cases hal : al = 0
  · have hc : ∀ J : Int32 → Int32 → Option (Int32 × uS), u_lp3 (b_X11_sure_23 N σc (mI al) J) N 0 0 0 = J 0 0 := by
      intro J
      refine lp3_eqa (fun _ => 0) (fun _ => 0) (fun _ => 0) 0 N _ (by omega) rfl rfl rfl (fun k rec hk => absurd hk (by omega)) (fun rec => ?_)
      unfold b_X11_sure_23
      rw [t5, if_neg (rnle 0 0 rfl (by omega) (by omega) (by omega)), if_pos (by rw [hal]; decide)]
    have hm : ∀ J : Int32 → Int32 → Option (Int32 × uS), u_lp3 (b_X12_sure_11 N s1 J) N 0 0 0 = J 0 0 := by
      intro J
      refine lp3_eqa (fun _ => 0) (fun _ => 0) mI F N _ (by omega) rfl rfl rfl (fun k rec hk => ?_) (fun rec => ?_)
      · unfold b_X12_sure_11
        have hw := h2 k (by omega)
        have hw0 : wi k = 0 := by omega
        rw [b4, if_neg (mnle (by omega) (by omega) hk), (h4 k (by omega)).2.1, (h4 k (by omega)).2.2, hw0, hal]
        simp only [jn_eq, o_bind, mI_succ, Nat.sub_self, mI_lit0, Int32.le_refl, if_true, or0]
      · unfold b_X12_sure_11
        rw [b4, if_pos (mle (by omega) (by omega) (Nat.le_refl _))]
    rw [hc, hm]
    exact fin 0 0
  · refine lpr33 (fun k y1 y2 y3 z1 z2 z3 => k ≤ F ∧ y3 = mI k ∧ z3 = mI k ∧ z1 = y1 ∧ z2 = y2) F N _ _ _ _ _ _ (by omega) ?_ ⟨by omega, rfl, rfl, rfl, rfl⟩
    rintro k y1 y2 y3 z1 z2 z3 rec rec2 hk ⟨-, rfl, rfl, rfl, rfl⟩ hrec
    unfold b_X11_sure_23 b_X12_sure_11
    rw [t5, b4]
    by_cases hlt : k < F
    · obtain ⟨g1, g2, g3⟩ := h4 k (by omega)
      have hw := h2 k (by omega)
      rw [if_neg (mnle (by omega) (by omega) hlt), if_neg (mnle (by omega) (by omega) hlt), if_neg (rnle 0 0 rfl (by omega) (by omega) (by omega)), g1, g2, g3]
      simp only [jn_eq, o_bind, mI_succ]
      have goon : ∀ x y, ok (rec x y (mI (k + 1))) (fun a => ok (rec2 x y (mI (k + 1))) (fun b => a.1 = b.1 ∧ Rel N (j + 1) a.2 b.2)) := fun x y => hrec _ _ _ _ _ _ hlt ⟨by omega, rfl, rfl, rfl, rfl⟩
      by_cases e1 : wi k = al
      · have x1 : ¬ wi k = 0 := by omega
        have x2 : ¬ mI (wi k) ≤ 0 := rnle 0 0 rfl (by omega) (by omega) (by omega)
        have x3 : mI (al - wi k) = 0 := by rw [show al - wi k = 0 by omega]; rfl
        have x4 : ¬ mI (wi k) = 0 := by rw [z0, mI_eq (by omega) (by omega)]; exact x1
        rw [if_pos (by rw [e1]), if_neg x4, if_neg x2, if_pos x3, if_neg x4]
        exact goon _ _
      · have x0 : ¬ mI (wi k) = mI al := by rw [mI_eq (by omega) (by omega)]; exact e1
        have x3 : ¬ mI (al - wi k) = 0 := by rw [z0, mI_eq (by omega) (by omega)]; omega
        have x5 : ¬ mI (al - wi k) ≤ 0 := rnle 0 0 rfl (by omega) (by omega) (by omega)
        by_cases e2 : wi k = 0
        · have x4 : mI (wi k) = 0 := by rw [e2]; rfl
          have x2 : mI (wi k) ≤ 0 := by rw [x4]; decide
          rw [if_neg x0, if_pos x4, if_pos x2, if_pos x4, if_neg x5]
          exact goon _ _
        · have x4 : ¬ mI (wi k) = 0 := by rw [z0, mI_eq (by omega) (by omega)]; exact e2
          have x2 : ¬ mI (wi k) ≤ 0 := rnle 0 0 rfl (by omega) (by omega) (by omega)
          rw [if_neg x0, if_neg x4, if_neg x2, if_neg x3, if_neg x4]
          exact goon _ _
    · rw [if_pos (mle (by omega) (by omega) (by omega)), if_pos (mle (by omega) (by omega) (by omega))]
      exact fin _ _
theorem n_s33_ok (N j : Nat) (hN : 500 < N) : n_s33 N (Rel N j) (Rel N (j + 1)) := by
  intro σc σm h
  have h := h.thr
  refine two ?_
  unfold f_X12_next f_X11_next
  simp only [jn_eq]
  generalize u_pI σm 0 8 0 = s1 at h ⊢
  have hmono := h.mono
  obtain ⟨M, F, ρ, hC, hTo⟩ := h
  obtain ⟨b1, b2, b3, b4, b5, b6, b7⟩ := id hC.1
  have t5 := b6.2.2.2.2.1
  obtain ⟨al, wi, h1, h2, h3, h4⟩ := courses3 hC hN
  rw [t5, h3, o_bind]
  have z0 : (0 : Int32) = mI 0 := rfl
  by_cases hal : al = 0
  · rw [if_pos (by rw [hal]; rfl), ok_some]
    have hm : ∀ J : Int32 → Int32 → Option (Int32 × uS), u_lp3 (b_X12_next_13 N s1 J) N (-1) 1000000 0 = some (-2, s1) := by
      intro J
      refine lp3_eqa (fun _ => -1) (fun _ => 1000000) (fun _ => 0) 0 N _ (by omega) rfl rfl rfl (fun k rec hk => absurd hk (by omega)) (fun rec => ?_)
      unfold b_X12_next_13
      have hw := h2 0 (by omega)
      have hw0 : wi 0 = 0 := by omega
      have g2 : f_X12_coursesIf N s1 0 1 = some (mI (wi 0)) := (h4 0 (by omega)).2.1
      have g3 : f_X12_coursesIf N s1 0 0 = some (mI (al - wi 0)) := (h4 0 (by omega)).2.2
      rw [hw0] at g2 g3
      rw [hal] at g3
      rw [b4, if_neg (rnle 0 0 rfl (by omega) (by omega) (by omega)), g2, o_bind, g3, o_bind]
      simp only [jn_eq]
      rw [if_pos (by decide)]
    rw [hm, ok_some]
    exact ⟨rfl, hmono⟩
  · rw [if_neg (by rw [z0, mI_eq (by omega) (by omega)]; exact hal)]
    simp only [mI_succ]
    refine lpr33 (fun k y1 y2 y3 z1 z2 z3 => k ≤ F ∧ y3 = mI k ∧ z3 = mI k ∧ ((k = 0 ∧ y2 = mI (al + 1) ∧ z2 = 1000000) ∨ (z1 = y1 ∧ z2 = y2 ∧ ∃ m, m ≤ 256 ∧ y2 = mI m))) F N _ _ _ _ _ _ (by omega) ?_ ⟨by omega, rfl, rfl, Or.inl ⟨rfl, rfl, rfl⟩⟩
    rintro k y1 y2 y3 z1 z2 z3 rec rec2 hk ⟨-, rfl, rfl, hI⟩ hrec
    unfold b_X11_next_32 b_X12_next_13
    rw [t5, b4]
    by_cases hlt : k < F
    · obtain ⟨g1, g2, g3⟩ := h4 k (by omega)
      have hw := h2 k (by omega)
      rw [if_neg (mnle (by omega) (by omega) hlt), if_neg (mnle (by omega) (by omega) hlt), g1, g2, g3]
      simp only [jn_eq, o_bind, mI_succ, mI_sub hw (show al < 1000000 by omega)]
      have emx : (if mI (wi k) < mI (al - wi k) then mI (al - wi k) else mI (wi k)) = mI (max (wi k) (al - wi k)) := by
        by_cases c : wi k < al - wi k
        · rw [if_pos (mlt (by omega) (by omega) c), show max (wi k) (al - wi k) = al - wi k by omega]
        · rw [if_neg (mnlt (by omega) (by omega) (by omega)), show max (wi k) (al - wi k) = wi k by omega]
      rw [emx]
      have hm0 : 0 < max (wi k) (al - wi k) := by omega
      have hm1 : max (wi k) (al - wi k) ≤ al := by omega
      generalize max (wi k) (al - wi k) = m at hm0 hm1
      rw [if_neg (show ¬ mI m = 0 by rw [z0, mI_eq (by omega) (by omega)]; omega)]
      have new : ok (rec (mI k) (mI m) (mI (k + 1))) (fun a => ok (rec2 (mI k) (mI m) (mI (k + 1))) (fun b => a.1 = b.1 ∧ Rel N (j + 1) a.2 b.2)) := hrec _ _ _ _ _ _ hlt ⟨by omega, rfl, rfl, Or.inr ⟨rfl, rfl, m, by omega, rfl⟩⟩
      rcases hI with ⟨-, rfl, rfl⟩ | ⟨rfl, rfl, m2, e1, rfl⟩
      · rw [if_neg (mnle (by omega) (by omega) (by omega)), if_pos (ltM (by omega))]
        exact new
      · by_cases c : m < m2
        · rw [if_neg (mnle (by omega) (by omega) c), if_pos (mlt (by omega) (by omega) c)]
          exact new
        · rw [if_pos (mle (by omega) (by omega) (by omega)), if_neg (mnlt (by omega) (by omega) (by omega))]
          exact hrec _ _ _ _ _ _ hlt ⟨by omega, rfl, rfl, Or.inr ⟨rfl, rfl, m2, e1, rfl⟩⟩
    · rw [if_pos (mle (by omega) (by omega) (by omega)), if_pos (mle (by omega) (by omega) (by omega))]
      rcases hI with ⟨rfl, -, -⟩ | ⟨rfl, rfl, m2, e1, rfl⟩
      · omega
      · simp only [c_one, o_bind, m_tell0]
        rw [ok_some, ok_some]
        exact ⟨rfl, rel_look1 hC fr.rfl mfr.rfl _⟩
