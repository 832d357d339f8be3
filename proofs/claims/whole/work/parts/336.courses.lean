/-! PURE LAYER: courses -/
theorem sF_add (f g : Nat → Nat) : ∀ n, sF (fun i => f i + g i) n = sF f n + sF g n
  | 0 => rfl
  | n + 1 => by have := sF_add f g n; show sF (fun i => f i + g i) n + (f n + g n) = sF f n + f n + (sF g n + g n); omega
theorem sF_head (f : Nat → Nat) : ∀ n, sF f (n + 1) = f 0 + sF (fun i => f (i + 1)) n
  | 0 => by show 0 + f 0 = f 0 + 0; omega
  | n + 1 => by
    have := sF_head f n
    show sF f (n + 1) + f (n + 1) = f 0 + (sF (fun i => f (i + 1)) n + f (n + 1))
    omega
theorem sF_rev (f : Nat → Nat) : ∀ n, sF f (n + 1) = sF (fun i => f (n - i)) (n + 1)
  | 0 => rfl
  | n + 1 => by
    have ih := sF_rev f n
    rw [sF_head (fun i => f (n + 1 - i)) (n + 1)]
    show sF f (n + 1) + f (n + 1) = f (n + 1 - 0) + sF (fun i => f (n + 1 - (i + 1))) (n + 1)
    rw [ih, show (fun i => f (n + 1 - (i + 1))) = fun i => f (n - i) from funext (fun i => by rw [show n + 1 - (i + 1) = n - i by omega]), show n + 1 - 0 = n + 1 by omega]
    omega
def tri (h : Nat → Nat → Nat) (F : Nat) : Nat → Nat := sF (fun k => sF (fun l => h l k) (F - k))
theorem tri_succ (h : Nat → Nat → Nat) (F : Nat) : tri h (F + 1) (F + 1) = tri h F F + sF (fun k => h (F - k) k) (F + 1) := by
  have e : tri h (F + 1) (F + 1) = sF (fun k => sF (fun l => h l k) (F - k) + h (F - k) k) (F + 1) := by
    unfold tri
    refine sF_congr (fun k hk => ?_)
    rw [show F + 1 - k = F - k + 1 by omega]
    rfl
  rw [e, sF_add (fun k => sF (fun l => h l k) (F - k)) (fun k => h (F - k) k)]
  have e2 : sF (fun k => sF (fun l => h l k) (F - k)) (F + 1) = tri h F F := by
    show sF (fun k => sF (fun l => h l k) (F - k)) F + sF (fun l => h l F) (F - F) = _
    rw [Nat.sub_self]; rfl
  rw [e2]
theorem tri_flip (h : Nat → Nat → Nat) : ∀ F, tri h F F = tri (fun l k => h k l) F F
  | 0 => rfl
  | F + 1 => by
    rw [tri_succ, tri_succ, tri_flip h F, sF_rev (fun k => h k (F - k)) F]
    congr 1
    refine sF_congr (fun k hk => ?_)
    show h (F - k) k = h (F - k) (F - (F - k))
    rw [show F - (F - k) = k by omega]
def b2n (b : Bool) : Nat := if b then 1 else 0
def fitH (σ : uS) (l k : Nat) : Nat := b2n (fitB (σ.1 8 1) (σ.1 8 2) l (l + k))
theorem sF_le1 {f : Nat → Nat} (h : ∀ i, f i ≤ 1) : ∀ n, sF f n ≤ n
  | 0 => Nat.le_refl _
  | n + 1 => by have := sF_le1 h n; have := h n; show sF f n + f n ≤ _; omega
theorem b2n_le (b : Bool) : b2n b ≤ 1 := by cases b <;> decide
theorem tri_le {h : Nat → Nat → Nat} {F : Nat} (hF : F ≤ 16) (hh : ∀ l k, h l k ≤ 1) : ∀ w, tri h F w ≤ 16 * w
  | 0 => Nat.le_refl _
  | w + 1 => by
    have := tri_le hF hh w
    have := sF_le1 (f := fun l => h l w) (fun i => hh i w) (F - w)
    show tri h F w + sF (fun l => h l w) (F - w) ≤ _
    omega
/-- the class: nothing found, or the narrowest -/
def coI (fit : Nat → Nat → Bool) (F : Nat) (σ : uS) (w l0 n : Nat) (s : uS) : Prop := (n = 0 ∧ s = c0T σ ∧ ∀ k l, (k < w ∨ (k = w ∧ l < l0)) → l + k < F → fit l (l + k) = false) ∨ (0 < n ∧ ∃ l k, l + k < F ∧ fit l (l + k) = true ∧ s = cT2 (c0T σ) (Int32.toInt64 (mI l)) (Int32.toInt64 (mI (l + k))) ∧ ∀ k' l', l' + k' < F → fit l' (l' + k') = true → k < k' ∨ (k = k' ∧ l ≤ l'))
theorem coI.a {fit : Nat → Nat → Bool} {F w l0 n : Nat} {σ s : uS} (h : coI fit F σ w l0 n s) {a : Nat} (ha : a ≠ 3) : s.1 a = σ.1 a := by
  rcases h with ⟨-, rfl, -⟩ | ⟨-, l, k, -, -, rfl, -⟩
  · exact c0T_a ha
  · rw [cT2_a ha, c0T_a ha]
theorem c_courses {N F : Nat} {σ : uS} (h5 : σ.1 32 5 = mI F) (hF : F ≤ 16) (hN : 500 < N) : ok (f_X11_courses N σ) (fun z => z.1 = mI (tri (fitH σ) F F) ∧ coI (fitB (σ.1 8 1) (σ.1 8 2)) F σ F 0 (tri (fitH σ) F F) z.2) := by
  unfold f_X11_courses
  simp only [jn_eq]
  rw [c_clear, o_bind]
  refine lp3_ok (fun w s x y => w ≤ F ∧ y = mI (w + 1) ∧ x = mI (tri (fitH σ) F w) ∧ coI (fitB (σ.1 8 1) (σ.1 8 2)) F σ w 0 (tri (fitH σ) F w) s) F N _ _ _ (by omega) ?_ ⟨by omega, rfl, rfl, Or.inl ⟨rfl, rfl, fun k l h => absurd h (by omega)⟩⟩
  rintro w s x y rec hw ⟨-, rfl, rfl, hI⟩ hrec
  unfold b_X11_courses_11
  rw [hI.a (a := 32) (by omega), h5]
  have htl := tri_le (h := fitH σ) (F := F) hF (fun l k => b2n_le _) w
  by_cases hlt : w < F
  · rw [if_neg (mnlt (by omega) (by omega) (by omega))]
    simp only [jn_eq, mI_succ]
    refine lp3_ok (fun l s x y => l ≤ F - w ∧ y = mI l ∧ x = mI (tri (fitH σ) F w + sF (fun l => fitH σ l w) l) ∧ coI (fitB (σ.1 8 1) (σ.1 8 2)) F σ w l (tri (fitH σ) F w + sF (fun l => fitH σ l w) l) s) (F - w) N _ _ _ (by omega) ?_ ⟨by omega, rfl, rfl, hI⟩
    rintro l s2 x y rec2 hl ⟨-, rfl, rfl, hI2⟩ hrec2
    unfold b_X11_courses_24
    rw [hI2.a (a := 32) (by omega), h5]
    have hsl := sF_le1 (f := fun l => fitH σ l w) (fun i => b2n_le _) l
    by_cases hlt2 : l < F - w
    · rw [mI_add, show l + (w + 1) = l + w + 1 by omega, if_neg (mnlt (by omega) (by omega) (by omega)), mI_pred (by omega) (by omega), show l + w + 1 - 1 = l + w by omega, c_fit, hI2.a (a := 8) (by omega), o_bind]
      simp only [jn_eq, mI_succ]
      have en : sF (fun l => fitH σ l w) (l + 1) = sF (fun l => fitH σ l w) l + b2n (fitB (σ.1 8 1) (σ.1 8 2) l (l + w)) := rfl
      cases hfit : fitB (σ.1 8 1) (σ.1 8 2) l (l + w)
      · simp only [Bool.false_eq_true, if_false, if_true]
        have en0 : tri (fitH σ) F w + sF (fun l => fitH σ l w) (l + 1) = tri (fitH σ) F w + sF (fun l => fitH σ l w) l := by rw [en, hfit]; rfl
        refine hrec2 _ _ _ hlt2 ⟨by omega, rfl, by rw [en0], ?_⟩
        rw [en0]
        rcases hI2 with ⟨g1, g2, g3⟩ | g
        · refine Or.inl ⟨g1, g2, fun k l' hv hF2 => ?_⟩
          by_cases hkl : k = w ∧ l' = l
          · rw [hkl.1, hkl.2]; exact hfit
          · exact g3 k l' (by omega) hF2
        · exact Or.inr g
      · simp only [if_true, i10, if_false]
        have en1 : tri (fitH σ) F w + sF (fun l => fitH σ l w) (l + 1) = tri (fitH σ) F w + sF (fun l => fitH σ l w) l + 1 := by rw [en, hfit]; rfl
        generalize tri (fitH σ) F w + sF (fun l => fitH σ l w) l = n at hI2 en1 htl hsl hrec2 ⊢
        have hn1 : n + 1 < 1000000 := by
          have := sF_le1 (f := fun l => fitH σ l w) (fun i => b2n_le _) (l + 1)
          omega
        rcases hI2 with ⟨rfl, rfl, g3⟩ | ⟨g1, g⟩
        · rw [if_pos (show mI (0 + 1) = 1 from rfl), c_two, o_bind]
          refine hrec2 _ _ _ hlt2 ⟨by omega, rfl, by rw [en1], ?_⟩
          rw [en1]
          refine Or.inr ⟨by omega, l, w, by omega, hfit, rfl, fun k' l' h1 h2 => ?_⟩
          by_cases hv : k' < w ∨ (k' = w ∧ l' < l)
          · rw [g3 k' l' hv h1] at h2; cases h2
          · omega
        · rw [if_neg (by rw [show (1 : Int32) = mI 1 from rfl, mI_eq (by omega) (by omega)]; omega)]
          refine hrec2 _ _ _ hlt2 ⟨by omega, rfl, by rw [en1], ?_⟩
          rw [en1]
          exact Or.inr ⟨by omega, g⟩
    · have hle : l = F - w := by omega
      rw [mI_add, if_pos (mlt (by omega) (by omega) (by omega))]
      subst hle
      refine hrec _ _ _ hlt ⟨by omega, rfl, rfl, ?_⟩
      have : coI (fitB (σ.1 8 1) (σ.1 8 2)) F σ (w + 1) 0 (tri (fitH σ) F w + sF (fun l => fitH σ l w) (F - w)) s2 := by
        rcases hI2 with ⟨g1, g2, g3⟩ | g
        · exact Or.inl ⟨g1, g2, fun k l' hv hF2 => g3 k l' (by omega) hF2⟩
        · exact Or.inr g
      exact this
  · have hwF : w = F := by omega
    subst hwF
    rw [if_pos (mlt (by omega) (by omega) (by omega)), ok_some]
    exact ⟨rfl, hI⟩
/-- the reference -/
def moI (fit : Nat → Nat → Bool) (F : Nat) (l0 k0 n : Nat) (le lf : Int32) : Prop := (n = 0 ∧ le = 1000000 ∧ ∀ l k, (l < l0 ∨ (l = l0 ∧ k < k0)) → l + k < F → fit l (l + k) = false) ∨ (0 < n ∧ ∃ a b, a ≤ l0 ∧ a + b < F ∧ fit a (a + b) = true ∧ le = mI b ∧ lf = mI a ∧ ∀ l k, (l < l0 ∨ (l = l0 ∧ k < k0)) → l + k < F → fit l (l + k) = true → b < k ∨ (b = k ∧ a ≤ l))
theorem m_courses {N F : Nat} {σc s1 : uS} {J : Int32 → Int32 → Int32 → Option (Int32 × uS)} {Q : Int32 × uS → Prop} (hD : rDig F σc s1) (h1 : s1.1 0 1 = mI F) (hF : F ≤ 16) (hN : 500 < N) (hJ : ∀ le lf, moI (fitB (σc.1 8 1) (σc.1 8 2)) F F 0 (tri (fun l k => fitH σc k l) F F) le lf → ok (J (mI (tri (fun l k => fitH σc k l) F F)) le lf) Q) : ok (u_lp4 (b_X12_courses_16 N s1 J) N 0 1000000 0 0) Q := by
  refine lp4_ok (fun l x y z w => l ≤ F ∧ w = mI l ∧ x = mI (tri (fun l k => fitH σc k l) F l) ∧ moI (fitB (σc.1 8 1) (σc.1 8 2)) F l 0 (tri (fun l k => fitH σc k l) F l) y z) F N _ _ _ _ (by omega) ?_ ⟨by omega, rfl, rfl, Or.inl ⟨rfl, rfl, fun l k h => absurd h (by omega)⟩⟩
  rintro l x y z w rec hl ⟨-, rfl, rfl, hI⟩ hrec
  unfold b_X12_courses_16
  rw [h1]
  have htl := tri_le (h := fun l k => fitH σc k l) (F := F) hF (fun l k => b2n_le _) l
  by_cases hlt : l < F
  · rw [if_neg (mnle (by omega) (by omega) hlt)]
    simp only [jn_eq, mI_succ]
    refine lp4_ok (fun k x y z w => k ≤ F - l ∧ w = mI (l + k) ∧ x = mI (tri (fun l k => fitH σc k l) F l + sF (fun k => fitH σc l k) k) ∧ moI (fitB (σc.1 8 1) (σc.1 8 2)) F l k (tri (fun l k => fitH σc k l) F l + sF (fun k => fitH σc l k) k) y z) (F - l) N _ _ _ _ (by omega) ?_ ⟨by omega, rfl, rfl, hI⟩
    rintro k x y z w rec2 hk ⟨-, rfl, rfl, hI2⟩ hrec2
    unfold b_X12_courses_29
    rw [h1]
    have hsl := sF_le1 (f := fun k => fitH σc l k) (fun i => b2n_le _) k
    by_cases hlt2 : k < F - l
    · rw [if_neg (mnle (by omega) (by omega) (by omega)), m_course hD hF (by omega) (by omega) (by omega) hN, o_bind]
      simp only [jn_eq, mI_succ]
      have en : sF (fun k => fitH σc l k) (k + 1) = sF (fun k => fitH σc l k) k + b2n (fitB (σc.1 8 1) (σc.1 8 2) l (l + k)) := rfl
      cases hfit : fitB (σc.1 8 1) (σc.1 8 2) l (l + k)
      · simp only [Bool.false_eq_true, if_false, if_true]
        have en0 : tri (fun l k => fitH σc k l) F l + sF (fun k => fitH σc l k) (k + 1) = tri (fun l k => fitH σc k l) F l + sF (fun k => fitH σc l k) k := by rw [en, hfit]; rfl
        refine hrec2 _ _ _ _ hlt2 ⟨by omega, rfl, by rw [en0], ?_⟩
        rw [en0]
        have old : ∀ l' k', (l' < l ∨ (l' = l ∧ k' < k + 1)) → ¬ (l' < l ∨ (l' = l ∧ k' < k)) → fitB (σc.1 8 1) (σc.1 8 2) l' (l' + k') = false := fun l' k' h1 h2 => by
          rw [show l' = l by omega, show k' = k by omega]; exact hfit
        rcases hI2 with ⟨g1, g2, g3⟩ | ⟨g1, a, b, g2, g3, g4, g5, g6, g7⟩
        · refine Or.inl ⟨g1, g2, fun l' k' hv hF2 => ?_⟩
          by_cases hvv : l' < l ∨ (l' = l ∧ k' < k)
          · exact g3 l' k' hvv hF2
          · exact old l' k' hv hvv
        · refine Or.inr ⟨g1, a, b, g2, g3, g4, g5, g6, fun l' k' hv hF2 ht => ?_⟩
          by_cases hvv : l' < l ∨ (l' = l ∧ k' < k)
          · exact g7 l' k' hvv hF2 ht
          · rw [old l' k' hv hvv] at ht; cases ht
      · simp only [if_true, i10, if_false]
        have en1 : tri (fun l k => fitH σc k l) F l + sF (fun k => fitH σc l k) (k + 1) = tri (fun l k => fitH σc k l) F l + sF (fun k => fitH σc l k) k + 1 := by rw [en, hfit]; rfl
        rw [mI_sub (by omega) (by omega), show l + k - l = k by omega]
        generalize tri (fun l k => fitH σc k l) F l + sF (fun k => fitH σc l k) k = n at hI2 en1 htl hsl hrec2 ⊢
        have new : ∀ (hmin : ∀ l' k', (l' < l ∨ (l' = l ∧ k' < k)) → l' + k' < F → fitB (σc.1 8 1) (σc.1 8 2) l' (l' + k') = true → k < k'), ok (rec2 (mI (n + 1)) (mI k) (mI l) (mI (l + k + 1))) Q := by
          intro hmin
          refine hrec2 _ _ _ _ hlt2 ⟨by omega, rfl, by rw [en1], ?_⟩
          rw [en1]
          refine Or.inr ⟨by omega, l, k, by omega, by omega, hfit, rfl, rfl, fun l' k' hv hF2 ht => ?_⟩
          by_cases hvv : l' < l ∨ (l' = l ∧ k' < k)
          · exact Or.inl (hmin l' k' hvv hF2 ht)
          · exact Or.inr ⟨by omega, by omega⟩
        rcases hI2 with ⟨rfl, rfl, g3⟩ | ⟨g1, a, b, g2, g3, g4, rfl, rfl, g7⟩
        · rw [if_pos (ltM (by omega))]
          exact new (fun l' k' hv hF2 ht => by rw [g3 l' k' hv hF2] at ht; cases ht)
        · by_cases hkb : k < b
          · rw [if_pos (mlt (by omega) (by omega) hkb)]
            exact new (fun l' k' hv hF2 ht => by have := g7 l' k' hv hF2 ht; omega)
          · rw [if_neg (mnlt (by omega) (by omega) (by omega))]
            refine hrec2 _ _ _ _ hlt2 ⟨by omega, rfl, by rw [en1], ?_⟩
            rw [en1]
            refine Or.inr ⟨by omega, a, b, g2, g3, g4, rfl, rfl, fun l' k' hv hF2 ht => ?_⟩
            by_cases hvv : l' < l ∨ (l' = l ∧ k' < k)
            · exact g7 l' k' hvv hF2 ht
            · omega
    · have hke : k = F - l := by omega
      rw [if_pos (mle (by omega) (by omega) (by omega))]
      subst hke
      refine hrec _ _ _ _ hlt ⟨by omega, rfl, rfl, ?_⟩
      have : moI (fitB (σc.1 8 1) (σc.1 8 2)) F (l + 1) 0 (tri (fun l k => fitH σc k l) F l + sF (fun k => fitH σc l k) (F - l)) y z := by
        rcases hI2 with ⟨g1, g2, g3⟩ | ⟨g1, a, b, g2, g3, g4, g5, g6, g7⟩
        · exact Or.inl ⟨g1, g2, fun l' k' hv hF2 => g3 l' k' (by omega) hF2⟩
        · exact Or.inr ⟨g1, a, b, by omega, g3, g4, g5, g6, fun l' k' hv hF2 ht => g7 l' k' (by omega) hF2 ht⟩
      exact this
  · have hlF : l = F := by omega
    subst hlF
    rw [if_pos (mle (by omega) (by omega) (Nat.le_refl _))]
    exact hJ _ _ hI
theorem n_s31_ok (N j : Nat) (hN : 500 < N) : n_s31 N (Rel N j) (Rel N (j + 1)) := by
  intro σc σm h
  have h := h.thr
  refine two ?_
  unfold f_X12_courses
  simp only [jn_eq]
  generalize u_pI σm 0 8 0 = s1 at h ⊢
  obtain ⟨M, F, ρ, hC, hTo⟩ := h
  obtain ⟨b1, b2, b3, b4, b5, b6, b7⟩ := id hC.1
  refine ok_mono (c_courses b6.2.2.2.2.1 b3 hN) (fun z hz => ?_)
  obtain ⟨z1, z2⟩ := hz
  refine m_courses hC.2.2.1 b4 b3 hN (fun le lf hm => ?_)
  have htl := tri_le (h := fun l k => fitH σc k l) (F := F) b3 (fun l k => b2n_le _) F
  rw [tri_flip] at z1 z2
  generalize tri (fun l k => fitH σc k l) F F = n at z1 z2 hm htl ⊢
  rcases z2 with ⟨rfl, g2, -⟩ | ⟨g1, l, k, g2, g3, g4, g5⟩
  · rw [if_pos (by decide), ok_some]
    exact ⟨z1, twI.rel (n := mI 0) hC (Or.inl ⟨rfl, g2, rfl⟩)⟩
  · rcases hm with ⟨rfl, -⟩ | ⟨-, a, b, h2, h3, h4, rfl, rfl, h7⟩
    · omega
    · have x1 := g5 b a h3 h4
      have x2 := h7 l k (Or.inl (by omega)) g2 g3
      have e1 : a = l := by omega
      have e2 : b = k := by omega
      subst e1 e2
      rw [if_neg (rnle 0 0 rfl (by omega) (by omega) g1), m_tell0, o_bind, m_tell1, o_bind, ok_some, mI_add]
      exact ⟨z1, twI.rel (n := mI n) hC (Or.inr ⟨n, _, _, g1, by omega, rfl, g4, rfl⟩)⟩
