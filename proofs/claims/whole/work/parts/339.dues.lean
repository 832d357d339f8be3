/-! PURE LAYER: dues -/
def cN (P : Nat → Bool) : Nat → Nat := sF (fun g => b2n (P g))
theorem cN_le (P : Nat → Bool) (n : Nat) : cN P n ≤ n := sF_le1 (fun _ => b2n_le _) n
theorem cN_mono {P Q : Nat → Bool} {n : Nat} (h : ∀ g, g < n → P g = true → Q g = true) : cN P n ≤ cN Q n := sF_le (fun g hg => by
  cases hp : P g
  · exact Nat.zero_le _
  · rw [h g hg hp]; exact Nat.le_refl _)
theorem cN_one {P Q : Nat → Bool} {b : Nat} (hP : P b = false) (hQ : Q b = true) : ∀ n, (∀ g, g < n → g ≠ b → Q g = P g) → cN Q n = cN P n + (if b < n then 1 else 0)
  | 0, _ => rfl
  | n + 1, h => by
    have ih := cN_one hP hQ n (fun g hg hne => h g (by omega) hne)
    show cN Q n + b2n (Q n) = cN P n + b2n (P n) + _
    by_cases hb : n = b
    · subst hb
      rw [ih, hP, hQ, if_neg (by omega), if_pos (by omega)]; rfl
    · rw [ih, h n (by omega) hb]
      by_cases hbn : b < n
      · rw [if_pos hbn, if_pos (by omega)]; omega
      · rw [if_neg hbn, if_neg (by omega)]; omega
theorem cN_full {P : Nat → Bool} : ∀ n, cN P n < n → ∃ g, g < n ∧ P g = false
  | 0, h => absurd h (by omega)
  | n + 1, h => by
    cases hp : P n
    · exact ⟨n, by omega, hp⟩
    · have e : cN P (n + 1) = cN P n + b2n (P n) := rfl
      rw [e, hp] at h
      have h2 : b2n true = 1 := rfl
      obtain ⟨g, h1, h3⟩ := cN_full (P := P) n (by omega)
      exact ⟨g, by omega, h3⟩
def bef (m : Nat → Nat) (g i : Nat) : Bool := decide (m i < m g ∨ (m g = m i ∧ g < i))
def rkN (m : Nat → Nat) (n i : Nat) : Nat := cN (fun g => bef m g i) n
theorem bef_iff {m : Nat → Nat} {g i : Nat} : bef m g i = true ↔ (m i < m g ∨ (m g = m i ∧ g < i)) := by unfold bef; exact decide_eq_true_iff
theorem rk_lt {m : Nat → Nat} {n g b : Nat} (hb : b < n) (h : bef m b g = true) : rkN m n b < rkN m n g := by
  have h1 : cN (fun x => bef m x b || decide (x = b)) n = cN (fun x => bef m x b) n + 1 := by
    have := cN_one (P := fun x => bef m x b) (Q := fun x => bef m x b || decide (x = b)) (b := b) (by
      cases hh : bef m b b
      · rfl
      · rw [bef_iff] at hh; omega) (by simp) n (fun g _ hne => by simp [hne])
    rw [this, if_pos hb]
  have h2 : cN (fun x => bef m x b || decide (x = b)) n ≤ cN (fun x => bef m x g) n := cN_mono (fun x hx hp => by
    rw [bef_iff] at h ⊢
    rw [Bool.or_eq_true, bef_iff, decide_eq_true_iff] at hp
    rcases hp with hp | hp
    · omega
    · rw [hp]; omega)
  show cN (fun x => bef m x b) n < cN (fun x => bef m x g) n
  omega
theorem bef_tot {m : Nat → Nat} {g b : Nat} (h : g ≠ b) : bef m g b = true ∨ bef m b g = true := by rw [bef_iff, bef_iff]; omega
/-- the next one that is given one more -/
theorem dues_step {m : Nat → Nat} {n t b : Nat} (hc : cN (fun g => decide (rkN m n g < t)) n = t) (hb : b < n) (hnb : ¬ rkN m n b < t) (hall : ∀ g, g < n → ¬ rkN m n g < t → g = b ∨ bef m b g = true) : rkN m n b = t ∧ (∀ g, g < n → rkN m n g = t → g = b) ∧ cN (fun g => decide (rkN m n g < t + 1)) n = t + 1 := by
  have e : ∀ g, g < n → decide (rkN m n g < t) = bef m g b := fun g hg => by
    by_cases hr : rkN m n g < t
    · rw [decide_eq_true hr]
      cases hh : bef m g b
      · have hne : g ≠ b := fun h => hnb (by rw [← h]; exact hr)
        rcases bef_tot (m := m) hne with h | h
        · rw [h] at hh; exact hh
        · have := rk_lt hb h; omega
      · rfl
    · rw [decide_eq_false hr]
      cases hh : bef m g b
      · rfl
      · have hhg := hall g hg hr
        rw [bef_iff] at hh hhg
        rcases hhg with rfl | hhg
        · omega
        · omega
  have hrb : rkN m n b = t := by
    rw [← hc]
    exact (sF_congr (fun g hg => by show b2n (bef m g b) = b2n (decide (rkN m n g < t)); rw [e g hg]))
  have hinj : ∀ g, g < n → rkN m n g = t → g = b := fun g hg hgt => by
    apply Classical.byContradiction
    intro hne
    rcases bef_tot (m := m) hne with h | h
    · have := rk_lt hg h; omega
    · have := rk_lt hb h; omega
  refine ⟨hrb, hinj, ?_⟩
  have := cN_one (P := fun g => decide (rkN m n g < t)) (Q := fun g => decide (rkN m n g < t + 1)) (b := b) (decide_eq_false hnb) (decide_eq_true (by omega)) n (fun g hg hne => by
    have : rkN m n g ≠ t := fun h => hne (hinj g hg h)
    by_cases h : rkN m n g < t
    · show decide _ = decide _; rw [decide_eq_true h, decide_eq_true (by omega)]
    · show decide _ = decide _; rw [decide_eq_false h, decide_eq_false (by omega)])
  rw [this, hc, if_pos hb]
/-- the rest is less than how many there are -/
theorem rest_lt {c : Nat → Nat} {V A : Nat} (hA : 0 < A) : ∀ n, sF c n = A → sF (fun g => V * c g / A) n ≤ V ∧ (V - sF (fun g => V * c g / A) n) < n := by
  intro n hn
  have h1 : ∀ k, A * sF (fun g => V * c g / A) k + sF (fun g => V * c g % A) k = V * sF c k := by
    intro k
    induction k with
    | zero => rfl
    | succ k ih =>
      show A * (sF (fun g => V * c g / A) k + V * c k / A) + (sF (fun g => V * c g % A) k + V * c k % A) = V * (sF c k + c k)
      have := Nat.div_add_mod (V * c k) A
      rw [Nat.mul_add, Nat.mul_add]
      omega
  have h2 : ∀ k, sF (fun g => V * c g % A) k + k ≤ A * k := by
    intro k
    induction k with
    | zero => exact Nat.le_refl _
    | succ k ih =>
      have := Nat.mod_lt (V * c k) hA
      show sF (fun g => V * c g % A) k + V * c k % A + (k + 1) ≤ A * (k + 1)
      rw [Nat.mul_add]
      omega
  have h3 := h1 n
  rw [hn] at h3
  have h4 := h2 n
  have hn0 : 0 < n := by
    cases n with
    | zero => have : sF c 0 = 0 := rfl; omega
    | succ n => omega
  generalize sF (fun g => V * c g / A) n = S at h3 ⊢
  generalize sF (fun g => V * c g % A) n = T at h3 h4
  have hS : S ≤ V := by
    apply Classical.byContradiction
    intro h
    have : V * A < A * S := by rw [Nat.mul_comm]; exact Nat.mul_lt_mul_of_pos_left (by omega) hA
    omega
  refine ⟨hS, ?_⟩
  apply Classical.byContradiction
  intro h
  have h5 : A * (S + n) ≤ A * V := Nat.mul_le_mul_left A (by omega)
  rw [Nat.mul_add, Nat.mul_comm A V] at h5
  omega
theorem sSum_mI {f : Nat → Int32} {c : Nat → Nat} : ∀ n, (∀ i, i < n → f i = mI (c i)) → sSum f n = mI (sF c n)
  | 0, _ => rfl
  | n + 1, h => by show sSum f n + f n = mI (sF c n + c n); rw [sSum_mI n (fun i hi => h i (by omega)), h n (by omega), mI_add]
section DU
variable {N V A L R n : Nat} {s : uS} {c : Nat → Nat}
theorem c_dRest {i : Nat} (hA : 0 < A) (hA2 : A < 1000) (hV : V ≤ 999) (h33 : ∀ i, i < n → s.1 33 (L + i) = mI (c i)) (hc : ∀ i, c i ≤ 9) (hn : L + n ≤ 16) (hi : i < n) : f_X11_duesRest N s (mI V) (mI A) (mI (L + i)) = some (mI (V * c i % A)) := by
  have hVc : V * c i ≤ 999 * 9 := Nat.mul_le_mul hV (hc i)
  unfold f_X11_duesRest
  rw [if_neg (rnle 0 0 rfl (by omega) (by omega) hA), cr_33 (by omega), o_bind, o_ck (by rw [show (0 : Int32) = mI 0 from rfl, mI_eq (by omega) (by omega)]; omega), h33 i hi, mI_mul, mI_rem (by omega) (by omega) hA]
theorem c_dRank {i : Nat} (hA : 0 < A) (hA2 : A < 1000) (hV : V ≤ 999) (h6 : s.1 32 6 = mI L) (h7 : s.1 32 7 = mI R) (hR : L + n = R + 1) (h33 : ∀ i, i < n → s.1 33 (L + i) = mI (c i)) (hc : ∀ i, c i ≤ 9) (hn : L + n ≤ 16) (hi : i < n) (hN : 500 < N) : f_X11_duesRank N s (mI V) (mI A) (mI (L + i)) = some (mI (rkN (fun g => V * c g % A) n i)) := by
  unfold f_X11_duesRank
  simp only [jn_eq]
  rw [c_dRest hA hA2 hV h33 hc hn hi, o_bind, h6]
  refine lp2_eqa (fun g => mI (cN (fun g => bef (fun g => V * c g % A) g i) g)) (fun g => mI (L + g)) n N _ (by omega) rfl rfl (fun g rec hg => ?_) (fun rec => ?_)
  · unfold b_X11_duesRank_21
    have hm1 := Nat.mod_lt (V * c g) hA
    have hm2 := Nat.mod_lt (V * c i) hA
    rw [h7, if_neg (mnlt (by omega) (by omega) (by omega)), c_dRest hA hA2 hV h33 hc hn hg, o_bind]
    simp only [jn_eq, mI_succ]
    show _ = rec (mI (cN (fun g => bef (fun g => V * c g % A) g i) g + b2n (bef (fun g => V * c g % A) g i))) _
    have hb : bef (fun g => V * c g % A) g i = true ↔ (V * c i % A < V * c g % A ∨ (V * c g % A = V * c i % A ∧ g < i)) := bef_iff
    by_cases x1 : V * c i % A < V * c g % A
    · rw [if_pos (mlt (by omega) (by omega) x1), hb.mpr (Or.inl x1)]; rfl
    · rw [if_neg (mnlt (by omega) (by omega) (by omega))]
      by_cases x2 : V * c g % A = V * c i % A
      · rw [if_pos (by rw [x2])]
        by_cases x3 : g < i
        · rw [if_neg (mnle (by omega) (by omega) (by omega)), hb.mpr (Or.inr ⟨x2, x3⟩)]; rfl
        · rw [if_pos (mle (by omega) (by omega) (by omega))]
          cases hh : bef (fun g => V * c g % A) g i
          · rw [Int32.add_zero]; rfl
          · have := hb.mp hh; omega
      · rw [if_neg (by rw [mI_eq (by omega) (by omega)]; exact x2)]
        cases hh : bef (fun g => V * c g % A) g i
        · rw [Int32.add_zero]; rfl
        · have := hb.mp hh; omega
  · unfold b_X11_duesRank_21
    rw [h7, if_pos (mlt (by omega) (by omega) (by omega))]
    rfl
end DU
/-- what is told, one behind another -/
def tellI (σc s : uS) (i : Nat) (f : Nat → Int64) : Prop := s.1 3 1 = mI i ∧ (∀ k, k < i → s.2.1 4 k = f k) ∧ (∀ a, a ≠ 3 → s.1 a = σc.1 a) ∧ s.2.2 = σc.2.2
theorem n_s34_ok (N j : Nat) (hN : 500 < N) : n_s34 N (Rel N j) (Rel N (j + 1)) := by
  intro σc σm h a1
  have h := h.thr
  refine two ?_
  unfold f_X12_dues f_X11_dues
  simp only [jn_eq]
  generalize u_pI σm 0 8 0 = s1 at h ⊢
  have hmono := h.mono
  obtain ⟨M, F, ρ, hC, hTo⟩ := h
  obtain ⟨b1, b2, b3, b4, b5, b6, b7⟩ := id hC.1
  obtain ⟨t1, t2, t3, t4, t5, t6, t7, t8, t9, t10, t11⟩ := id b6
  have v1 : (1 : Nat) = 1 ∨ (1 : Nat) = 10 ∨ (1 : Nat) = 11 ∨ (1 : Nat) = 12 := by omega
  have hrr := hC.2.2.2.2.2.r
  have hqq := hC.2.2.2.2.2.q
  rw [m_in, o_bind]
  by_cases c1 : a1 < 0
  · rw [if_pos c1, if_pos c1, if_pos rfl, ok_some, ok_some]
    exact ⟨rfl, hmono⟩
  by_cases c2 : 999 < a1
  · rw [if_neg c1, if_neg (Int32.not_le.mpr c2), if_neg c1, if_pos c2, if_pos rfl, ok_some, ok_some]
    exact ⟨rfl, hmono⟩
  obtain ⟨V, -, hV, rfl⟩ := rng (p := a1) (lo := 0) (hi := 999) (by omega) (by omega) c1 c2
  rw [if_neg c1, if_pos (Int32.not_lt.mp c2), if_neg c1, if_neg c2, if_neg n10, t6, t7, c_ropeCorn (by omega) (by omega) (by omega) b6 b7 b3 hN, o_bind, vr32 v1, o_bind, vr33 v1, o_bind, m_ropeCorn v1 (fun _ _ => rfl) b7 b3 hN, o_bind]
  obtain ⟨-, x2, ⟨L, R, g1, g2, g3, g4⟩, -⟩ := id b7
  obtain ⟨n, hn⟩ : ∃ n, L + n = R + 1 := ⟨R + 1 - L, by omega⟩
  have hn0 : 0 < n := by omega
  let c : Nat → Nat := fun i => dgn (s1.1 1 (16 + (L + i)))
  have hc9 : ∀ i, c i ≤ 9 := fun i => dgn_le _
  have hcm : ∀ i, i < n → s1.1 1 (16 + (L + i)) = mI (c i) := fun i hi => dgn_eq (x2 (L + i) (by omega))
  have hcc : ∀ i, i < n → σc.1 33 (L + i) = mI (c i) := fun i hi => (t4 (L + i) (by omega)).trans (hcm i hi)
  have eR : sRope (s1.1 1) = mI (sF c n) := by
    unfold sRope
    rw [g3, g4, mI_nat (by omega), mI_nat (by omega), show R + 1 - L = n by omega]
    exact sSum_mI n hcm
  have hAle : sF c n ≤ 9 * n := by
    have : ∀ k, sF c k ≤ 9 * k := by
      intro k
      induction k with
      | zero => exact Nat.le_refl _
      | succ k ih => show sF c k + c k ≤ _; have := hc9 k; omega
    exact this n
  rw [eR]
  generalize hA : sF c n = A at hAle
  have hA2 : A < 1000 := by omega
  by_cases hA0 : A = 0
  · rw [if_neg (by rw [hA0]; decide), ok_some, if_pos (by rw [hA0]; rfl), ok_some]
    exact ⟨rfl, hmono⟩
  have hAp : 0 < A := by omega
  have hAne : ¬ mI A = 0 := by rw [show (0 : Int32) = mI 0 from rfl, mI_eq (by omega) (by omega)]; exact hA0
  rw [if_pos (llt 0 0 rfl (by omega) (by omega) hAp), if_neg hAne, g3]
  obtain ⟨hr1, hr2⟩ := rest_lt (V := V) hAp n hA
  have hVc : ∀ i, V * c i ≤ 999 * 9 := fun i => Nat.mul_le_mul hV (hc9 i)
  have hpart : ∀ k, k ≤ n → sF (fun g => V * c g / A) k ≤ V := by
    have mono : ∀ d k, sF (fun g => V * c g / A) k ≤ sF (fun g => V * c g / A) (k + d) := by
      intro d
      induction d with
      | zero => intro k; exact Nat.le_refl _
      | succ d ih => intro k; exact Nat.le_trans (ih k) (Nat.le_add_right _ _)
    intro k hk
    have := mono (n - k) k
    rw [show k + (n - k) = n by omega] at this
    omega
  have hd : ∀ i, mI V * mI (c i) / mI A = mI (V * c i / A) := fun i => by rw [mI_mul, mI_div (by have := hVc i; omega) (by omega) hAp]
  have hrm : ∀ i, mI V * mI (c i) - mI V * mI (c i) / mI A * mI A = mI (V * c i % A) := fun i => by rw [mI_mul, mI_rem (by have := hVc i; omega) (by omega) hAp]
  generalize hS : V - sF (fun g => V * c g / A) n = rest at hr2
  have hcl : ∀ J : Int32 → Option (Int32 × uS), u_lp2 (b_X11_dues_53 σc (mI V) (mI A) J) N (mI V) (mI L) = J (mI rest) := by
    intro J
    refine lp2_eqa (fun i => mI (V - sF (fun g => V * c g / A) i)) (fun i => mI (L + i)) n N _ (by omega) rfl rfl (fun i rec hi => ?_) (fun rec => ?_)
    · unfold b_X11_dues_53
      have hp := hpart (i + 1) (by omega)
      have ep : sF (fun g => V * c g / A) (i + 1) = sF (fun g => V * c g / A) i + V * c i / A := rfl
      rw [t7, g4, if_neg (mnlt (by omega) (by omega) (by omega)), cr_33 (by omega), o_bind, o_ck hAne, hcc i hi, hd]
      simp only [jn_eq, mI_succ]
      rw [mI_sub (by omega) (by omega), ep, show V - sF (fun g => V * c g / A) i - V * c i / A = V - (sF (fun g => V * c g / A) i + V * c i / A) by omega]
      rfl
    · unfold b_X11_dues_53
      rw [t7, g4, if_pos (mlt (by omega) (by omega) (by omega)), hS]
  rw [hcl, c_clear, o_bind]
  let val : Nat → Nat := fun i => V * c i / A + (if rkN (fun g => V * c g % A) n i < rest then 1 else 0)
  have hval : ∀ i, val i < 10000 := fun i => by
    have := Nat.div_le_self (V * c i) A
    have := hVc i
    show V * c i / A + _ < _
    split <;> omega
  have e6 : (u_pI σc 3 1 0).1 32 6 = mI L := by rw [p_Ia (by omega), t6]; exact g3
  rw [e6]
  have hc2 : ok (u_lp2 (b_X11_dues_104 N (mI V) (mI A) (mI rest) (fun (s7 : uS) => ((f_X8_number N s7 0).bind fun v9 => some ((Int64.toInt32 v9), s7) : Option (Int32 × uS)))) N (u_pI σc 3 1 0) (mI L)) (fun z => z.1 = mI (val 0) ∧ tellI σc z.2 n (fun k => Int32.toInt64 (mI (val k)))) := by
    refine lp2_ok (fun i s y => i ≤ n ∧ y = mI (L + i) ∧ tellI σc s i (fun k => Int32.toInt64 (mI (val k)))) n N _ _ (by omega) ?_ ⟨by omega, rfl, p_II _ _ _ _, fun k hk => absurd hk (by omega), fun a ha => p_Ia ha, rfl⟩
    rintro i s y rec hi ⟨-, rfl, k1, k2, k3, k4⟩ hrec
    unfold b_X11_dues_104
    have e32 : s.1 32 = σc.1 32 := k3 32 (by omega)
    have e33 : s.1 33 = σc.1 33 := k3 33 (by omega)
    rw [e32, t7, g4]
    by_cases hlt : i < n
    · rw [if_neg (mnlt (by omega) (by omega) (by omega)), c_dRank hAp hA2 hV (by rw [e32, t6]; exact g3) (by rw [e32, t7]; exact g4) hn (by rw [e33]; exact hcc) hc9 (by omega) hlt hN, o_bind]
      have hrk : rkN (fun g => V * c g % A) n i ≤ n := cN_le _ n
      simp only [jn_eq, mI_succ, cr_33 (show L + i < 16 by omega), o_bind, o_ck hAne, e33, hcc i hlt, hd]
      have go : ok ((f_X8_add N s (Int32.toInt64 (mI (val i)))).bind fun s17 => rec s17 (mI (L + i + 1))) (fun z => z.1 = mI (val 0) ∧ tellI σc z.2 n (fun k => Int32.toInt64 (mI (val k)))) := by
        rw [c_add k1 (by omega), o_bind]
        refine hrec _ _ hlt ⟨by omega, rfl, p_II _ _ _ _, fun k hk => ?_, fun a ha => by rw [p_Ia ha, p_LI]; exact k3 a ha, k4⟩
        rw [p_IL]
        by_cases hki : k = i
        · rw [hki, p_LL]
        · rw [p_Ln (Or.inr hki)]; exact k2 k (by omega)
      by_cases hrr : rkN (fun g => V * c g % A) n i < rest
      · rw [if_neg (mnle (by omega) (by omega) hrr), show V * c i / A + 1 = val i from (by show _ = V * c i / A + _; rw [if_pos hrr])]
        exact go
      · rw [if_pos (mle (by omega) (by omega) (by omega)), Int32.add_zero, show mI (V * c i / A) = mI (val i) from (by show _ = mI (V * c i / A + _); rw [if_neg hrr, Nat.add_zero])]
        exact go
    · have hin : i = n := by omega
      subst hin
      rw [if_pos (mlt (by omega) (by omega) (by omega))]
      unfold f_X8_number
      simp only [jn_eq]
      rw [if_neg (by decide), cl_4, o_bind, if_neg (by decide), show (0 : Int32) = mI 0 from rfl, cr_4 (by omega), o_bind, o_bind, ok_some, k2 0 (by omega)]
      exact ⟨Int32.toInt32_toInt64 _, k1, k2, k3, k4⟩
  refine ok_mono hc2 (fun z hz => ?_)
  obtain ⟨z1, z2⟩ := hz
  -- the reference: parts
  have m1 : ∀ (J : uS → Int32 → Option (Int32 × uS)) (Q : Int32 × uS → Prop), (∀ t, mfr (fun c => c = 17) (fun _ => False) s1 t → (∀ i, i < n → t.1 17 (L + i) = mI (V * c i / A)) → ok (J t (mI rest)) Q) → ok (u_lp3 (b_X12_dues_59 (mI V) (mI A) J) N s1 (mI V) (mI L)) Q := by
    intro J Q hJ
    refine lp3_ok (fun i t x y => i ≤ n ∧ y = mI (L + i) ∧ x = mI (V - sF (fun g => V * c g / A) i) ∧ mfr (fun c => c = 17) (fun _ => False) s1 t ∧ ∀ k, k < i → t.1 17 (L + k) = mI (V * c k / A)) n N _ _ _ (by omega) ?_ ⟨by omega, rfl, rfl, mfr.rfl, fun k hk => absurd hk (by omega)⟩
    rintro i t x y rec hi ⟨-, rfl, rfl, hm, hk⟩ hrec
    unfold b_X12_dues_59
    rw [vr33 v1, o_bind, hm.1 1 (by omega) (by omega), g4]
    by_cases hlt : i < n
    · have hp := hpart (i + 1) (by omega)
      have ep : sF (fun g => V * c g / A) (i + 1) = sF (fun g => V * c g / A) i + V * c i / A := rfl
      rw [if_neg (mnlt (by omega) (by omega) (by omega)), mI_16, vr v1 (by omega), o_bind, o_ck hAne, hm.1 1 (by omega) (by omega), hcm i hlt, hd, mw_17 (by omega), o_bind, mr_17 (by omega), o_bind, p_II]
      simp only [jn_eq, mI_succ]
      refine hrec _ _ _ hlt ⟨by omega, rfl, ?_, hm.pI (by omega) rfl, fun k hk2 => ?_⟩
      · rw [mI_sub (by omega) (by omega), ep]
        congr 1
        omega
      · by_cases hki : k = i
        · rw [hki, p_II]
        · rw [p_Is (by omega)]; exact hk k (by omega)
    · have hin : i = n := by omega
      subst hin
      rw [if_pos (mlt (by omega) (by omega) (by omega)), hS]
      exact hJ t hm hk
  have m2 : ∀ (t : uS) (J : uS → Option (Int32 × uS)) (Q : Int32 × uS → Prop), mfr (fun c => c = 17) (fun _ => False) s1 t → (∀ i, i < n → t.1 17 (L + i) = mI (V * c i / A)) → (∀ t, mfr (fun c => c = 17) (fun _ => False) s1 t → (∀ i, i < n → t.1 17 (L + i) = mI (val i)) → ok (J t) Q) → ok (u_lp3 (b_X12_dues_111 N (mI V) (mI A) J) N t (mI rest) 0) Q := by
    intro t0 J Q hm0 hk0 hJ
    refine lp3_ok (fun i t x y => i ≤ rest ∧ x = mI (rest - i) ∧ cN (fun g => decide (rkN (fun g => V * c g % A) n g < i)) n = i ∧ mfr (fun c => c = 17) (fun _ => False) s1 t ∧ (∀ g, g < n → (tb y (L + g) = decide (rkN (fun g => V * c g % A) n g < i)) ∧ t.1 17 (L + g) = mI (V * c g / A + (if rkN (fun g => V * c g % A) n g < i then 1 else 0)))) rest N _ _ _ (by omega) ?_ ⟨by omega, rfl, ?_, hm0, fun g hg => ⟨by rw [tb_0, decide_eq_false (by omega)], by rw [if_neg (by omega)]; exact hk0 g hg⟩⟩
    · rintro i t x y rec hi ⟨-, rfl, hcn, hm, hk⟩ hrec
      unfold b_X12_dues_111
      by_cases hlt : i < rest
      · have et1 : t.1 1 = s1.1 1 := hm.1 1 (by omega) (by omega)
        rw [if_neg (rnle 0 0 rfl (by omega) (by omega) (by omega)), vr32 v1, o_bind, et1, g3]
        simp only [jn_eq]
        refine lp2_ok (fun k x z => k ≤ n ∧ z = mI (L + k) ∧ ((x = -1 ∧ ∀ g, g < k → rkN (fun g => V * c g % A) n g < i) ∨ ∃ b, b < k ∧ x = mI (L + b) ∧ ¬ rkN (fun g => V * c g % A) n b < i ∧ ∀ g, g < k → ¬ rkN (fun g => V * c g % A) n g < i → g = b ∨ bef (fun g => V * c g % A) b g = true)) n N _ _ (by omega) ?_ ⟨by omega, rfl, Or.inl ⟨rfl, fun g hg => absurd hg (by omega)⟩⟩
        rintro k x z rec3 hk3 ⟨-, rfl, hI⟩ hrec3
        unfold b_X12_dues_127
        rw [vr33 v1, o_bind, et1, g4]
        by_cases hlt3 : k < n
        · obtain ⟨hy1, hy2⟩ := hk k hlt3
          rw [if_neg (mnlt (by omega) (by omega) (by omega)), m_has _ (by omega), o_bind, hy1]
          simp only [jn_eq, mI_succ]
          by_cases hgi : rkN (fun g => V * c g % A) n k < i
          · rw [decide_eq_true hgi, if_pos rfl, if_neg n10]
            refine hrec3 _ _ hlt3 ⟨by omega, rfl, ?_⟩
            rcases hI with ⟨q1, q2⟩ | ⟨b, q1, q2, q3, q4⟩
            · exact Or.inl ⟨q1, fun g hg => by
                by_cases hgk : g = k
                · rw [hgk]; exact hgi
                · exact q2 g (by omega)⟩
            · exact Or.inr ⟨b, by omega, q2, q3, fun g hg hng => by
                by_cases hgk : g = k
                · rw [hgk] at hng; exact absurd hgi hng
                · exact q4 g (by omega) hng⟩
          · rw [decide_eq_false hgi, if_pos (show (if false = true then (1 : Int32) else 0) = 0 by decide)]
            have hmk := Nat.mod_lt (V * c k) hAp
            rcases hI with ⟨rfl, q2⟩ | ⟨b, q1, rfl, q3, q4⟩
            · rw [if_pos rfl]
              refine hrec3 _ _ hlt3 ⟨by omega, rfl, Or.inr ⟨k, by omega, rfl, hgi, fun g hg hng => ?_⟩⟩
              by_cases hgk : g = k
              · exact Or.inl hgk
              · exact absurd (q2 g (by omega)) hng
            · have hmb := Nat.mod_lt (V * c b) hAp
              have hm1 : ¬ mI (L + b) = -1 := fun h => absurd ((m1_le (L + b) (by omega)).2) (by rw [h]; decide)
              rw [if_neg hm1, mI_16, vr v1 (by omega), o_bind, o_ck hAne, mI_16, vr v1 (by omega), o_bind, o_ck hAne, et1, hcm k hlt3, hcm b (by omega), hrm, hrm]
              by_cases hle : V * c k % A ≤ V * c b % A
              · rw [if_pos (mle (by omega) (by omega) hle)]
                refine hrec3 _ _ hlt3 ⟨by omega, rfl, Or.inr ⟨b, by omega, rfl, q3, fun g hg hng => ?_⟩⟩
                by_cases hgk : g = k
                · right
                  rw [hgk, bef_iff]
                  show V * c k % A < V * c b % A ∨ (V * c b % A = V * c k % A ∧ b < k)
                  omega
                · exact q4 g (by omega) hng
              · rw [if_neg (mnle (by omega) (by omega) (by omega))]
                refine hrec3 _ _ hlt3 ⟨by omega, rfl, Or.inr ⟨k, by omega, rfl, hgi, fun g hg hng => ?_⟩⟩
                by_cases hgk : g = k
                · exact Or.inl hgk
                · right
                  have hb : g = b ∨ (V * c g % A < V * c b % A ∨ (V * c b % A = V * c g % A ∧ b < g)) := (q4 g (by omega) hng).imp id (fun h => bef_iff.mp h)
                  rw [bef_iff]
                  show V * c g % A < V * c k % A ∨ (V * c k % A = V * c g % A ∧ k < g)
                  rcases hb with rfl | hb
                  · omega
                  · omega
        · have hkn : k = n := by omega
          subst hkn
          rw [if_pos (mlt (by omega) (by omega) (by omega))]
          rcases hI with ⟨-, q2⟩ | ⟨b, q1, rfl, q3, q4⟩
          · obtain ⟨g, h1, h2⟩ := cN_full (P := fun g => decide (rkN (fun g => V * c g % A) k g < i)) k (by omega)
            exact absurd (q2 g h1) (of_decide_eq_false h2)
          · obtain ⟨w1, w2, w3⟩ := dues_step hcn q1 q3 q4
            have hvb : V * c b / A ≤ V * c b := Nat.div_le_self _ _
            show ok ((u_rI ZM t 0 17 (mI (L + b))).bind fun v32 => (u_wI ZM t 0 17 (mI (L + b)) (v32 + 1)).bind fun s33 => rec s33 (mI (rest - i) + -1) (y ||| 1 <<< (mI (L + b) &&& 31))) Q
            rw [mr_17 (show L + b < 16 by omega), o_bind, mw_17 (show L + b < 16 by omega), o_bind, (hk b q1).2, if_neg (by omega), Nat.add_zero, mI_succ]
            have er : mI (rest - i) + (-1) = mI (rest - (i + 1)) := by
              rw [show (-1 : Int32) = -(1 : Int32) from rfl, ← Int32.sub_eq_add_neg, mI_pred (by omega) (by omega)]
              congr 1
            rw [er]
            refine hrec _ _ _ hlt ⟨by omega, rfl, w3, hm.pI (by omega) rfl, fun g hg => ⟨?_, ?_⟩⟩
            · rw [tb_or, tb_1 (by omega) (by omega), (hk g hg).1]
              by_cases hgb : g = b
              · rw [hgb, decide_eq_true (show L + b = L + b from rfl), decide_eq_true (show rkN (fun g => V * c g % A) k b < i + 1 by omega), Bool.or_true]
              · have : rkN (fun g => V * c g % A) k g ≠ i := fun h => hgb (w2 g hg h)
                rw [decide_eq_false (show ¬ L + g = L + b by omega), Bool.or_false]
                by_cases hgi : rkN (fun g => V * c g % A) k g < i
                · rw [decide_eq_true hgi, decide_eq_true (by omega)]
                · rw [decide_eq_false hgi, decide_eq_false (by omega)]
            · by_cases hgb : g = b
              · rw [hgb, p_II, if_pos (by omega)]
              · have : rkN (fun g => V * c g % A) k g ≠ i := fun h => hgb (w2 g hg h)
                rw [p_Is (by omega), (hk g hg).2]
                by_cases hgi : rkN (fun g => V * c g % A) k g < i
                · rw [if_pos hgi, if_pos (by omega)]
                · rw [if_neg hgi, if_neg (by omega)]
      · have hir : i = rest := by omega
        subst hir
        rw [if_pos (rle 0 0 rfl (by omega) (by omega) (by omega))]
        exact hJ t hm (fun g hg => (hk g hg).2)
    · have : ∀ k, cN (fun g => decide (rkN (fun g => V * c g % A) n g < 0)) k = 0 := by
        intro k
        induction k with
        | zero => rfl
        | succ k ih =>
          show cN _ k + b2n (decide _) = 0
          rw [ih, decide_eq_false (by omega)]; rfl
      exact this n
  refine m1 _ _ (fun t hm hk => ?_)
  refine m2 t _ _ hm hk (fun t hm hk => ?_)
  have e1 : (u_pI t 0 7 0).1 1 = s1.1 1 := by rw [p_Ia (by omega)]; exact hm.1 1 (by omega) (by omega)
  show ok ((u_rI ZM (u_pI t 0 7 0) 0 1 32).bind fun v13 => u_lp2 (b_X12_dues_236 N _) N (u_pI t 0 7 0) v13) _
  rw [vr32 v1, o_bind, e1, g3]
  refine lp2_ok (fun i u y => i ≤ n ∧ y = mI (L + i) ∧ u.1 0 7 = mI i ∧ (∀ k, k < i → u.2.1 4 k = Int32.toInt64 (mI (val k))) ∧ (∀ c, c ≠ 0 → u.1 c = t.1 c) ∧ (∀ s, s ≠ 7 → u.1 0 s = t.1 0 s) ∧ u.2.2 = t.2.2) n N _ _ (by omega) ?_ ⟨by omega, rfl, p_II _ _ _ _, fun k hk => absurd hk (by omega), fun c hc => p_Ia hc, fun s hs => p_Is hs, rfl⟩
  rintro i u y rec hi ⟨-, rfl, u1, u2, u3, u4, u5⟩ hrec
  unfold b_X12_dues_236
  have eu1 : u.1 1 = s1.1 1 := by rw [u3 1 (by omega)]; exact hm.1 1 (by omega) (by omega)
  rw [vr33 v1, o_bind, eu1, g4]
  by_cases hlt : i < n
  · rw [if_neg (mnlt (by omega) (by omega) (by omega)), mr_17 (by omega), o_bind, u3 17 (by omega), hk i hlt, m_tell u1 (by omega), o_bind]
    simp only [jn_eq, mI_succ]
    refine hrec _ _ hlt ⟨by omega, rfl, p_II _ _ _ _, fun k hk2 => ?_, fun c hc => by rw [p_Ia hc, p_LI]; exact u3 c hc, fun s hs => by rw [p_Is hs, p_LI]; exact u4 s hs, u5⟩
    rw [p_IL]
    by_cases hki : k = i
    · rw [hki, p_LL]
    · rw [p_Ln (Or.inr hki)]; exact u2 k (by omega)
  · have hin : i = n := by omega
    subst hin
    have hk0 := hk 0 (by omega)
    rw [Nat.add_zero] at hk0
    rw [if_pos (mlt (by omega) (by omega) (by omega))]
    show ok ((u_rI ZM u 0 1 32).bind fun v16 => (u_rI ZM u 0 17 v16).bind fun v17 => some (v17, u)) _
    rw [vr32 v1, o_bind, eu1, g3, mr_17 (show L < 16 by omega), o_bind, ok_some, u3 17 (by omega), hk0]
    refine ⟨z1, M, F, ρ, hC.to (cK_of z2.2.2.1 z2.2.2.2 hrr) ⟨fun c hc => ?_, fun s hs => ?_, fun q hq => ?_, fun s hs => ?_⟩, i, by omega, z2.1, u1, fun k hk3 => ?_⟩
    · rw [u3 c (by omega)]; exact hm.1 c (by omega) (by omega)
    · rw [u4 s (by omega)]; exact hm.2.1 s (fun h => h)
    · have := hqq q hq
      rw [u3 q (by omega)]; exact hm.1 q (by omega) (by omega)
    · rw [u5]; exact hm.2.2.2 0 s (by omega)
    · rw [z2.2.1 k hk3, u2 k hk3]
