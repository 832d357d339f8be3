/-! PURE LAYER: cut, circle -/
def sGO (v : Nat → Int32) (M : Nat) (x : Int32) : Nat → Nat
  | 0 => 0
  | k + 1 => sGO v M x k + (if tb x k then cnt ((v (8 + k) &&& sAll M) &&& (x ^^^ (-1))) 8 else 0)
theorem sGO_le {v : Nat → Int32} {M q : Nat} {x : Int32} (hq : tb x q = false) : ∀ k, sGO v M x k ≤ 8 * k ∧ (q < k → sGO v M x k + 8 ≤ 8 * k)
  | 0 => ⟨Nat.le_refl _, fun h => absurd h (by omega)⟩
  | k + 1 => by
    obtain ⟨h1, h2⟩ := sGO_le hq k (v := v) (M := M)
    have hc := cnt_le ((v (8 + k) &&& sAll M) &&& (x ^^^ (-1))) 8
    have e : sGO v M x (k + 1) = sGO v M x k + (if tb x k then cnt ((v (8 + k) &&& sAll M) &&& (x ^^^ (-1))) 8 else 0) := rfl
    rw [e]
    by_cases hk : q = k
    · subst hk
      rw [hq]
      simp only [Bool.false_eq_true, if_false]
      omega
    · refine ⟨?_, fun h => ?_⟩
      · split <;> omega
      · have := h2 (by omega)
        split <;> omega
theorem bc_go {v : Nat → Int32} {M k : Nat} {x : Int32} (hM : M ≤ 8) : bc ((v (8 + k) &&& sAll M) &&& (x ^^^ (-1))) = mI (cnt ((v (8 + k) &&& sAll M) &&& (x ^^^ (-1))) 8) := bc_cnt (lo8_andl (lo8_and (lo8_all hM)))
theorem c_gOut {N M F : Nat} {σ : uS} {v e : Nat → Int32} (x : Int32) (hS : cS σ 32 M F v e) (hM8 : M ≤ 8) (hN : 500 < N) : f_X11_glancesOut N σ x = some (mI (sGO v M x M)) := by
  have t8 := hS.2.2.2.2.2.2.2.1
  unfold f_X11_glancesOut
  simp only [jn_eq]
  refine lp2_eqa (fun k => mI (sGO v M x k)) mI M N _ (by omega) rfl rfl (fun k rec hk => ?_) (fun rec => ?_)
  · unfold b_X11_glancesOut_4
    rw [t8, if_neg (mnle (by omega) (by omega) hk), c_seenBy (by omega) (by omega) (by omega) t8 (by omega), show σ.1 (32 + 5) k = v (8 + k) from hS.2.1 k hk]
    simp only [jn_eq, o_bind, mI_succ, bit_is (show k < 32 by omega), bc_f, bc_go hM8]
    show _ = rec (mI (sGO v M x k + _)) _
    cases tb x k
    · simp only [Bool.false_eq_true, if_false, Int32.add_zero, Nat.add_zero]
    · simp only [if_true, mI_add]
  · unfold b_X11_glancesOut_4
    rw [t8, if_pos (mle (by omega) (by omega) (Nat.le_refl _))]
theorem m_gOut {N M : Nat} {σ : uS} (x : Int32) (hM : σ.1 0 2 = mI M) (hM8 : M ≤ 8) (hN : 500 < N) : f_X12_outOf N σ x = some (mI (sGO (σ.1 1) M x M)) := by
  have v1 : (1 : Nat) = 1 ∨ (1 : Nat) = 10 ∨ (1 : Nat) = 11 ∨ (1 : Nat) = 12 := by omega
  unfold f_X12_outOf
  simp only [jn_eq]
  refine lp2_eqa (fun k => mI (sGO (σ.1 1) M x k)) mI M N _ (by omega) rfl rfl (fun k rec hk => ?_) (fun rec => ?_)
  · unfold b_X12_outOf_4
    rw [hM, if_neg (mnle (by omega) (by omega) hk), m_has _ (by omega), m_sees v1 hM (by omega)]
    simp only [jn_eq, o_bind, mI_succ, bc_f, bc_go hM8]
    show _ = rec (mI (sGO (σ.1 1) M x k + _)) _
    cases tb x k
    · simp only [Bool.false_eq_true, if_false, if_true, Int32.add_zero, Nat.add_zero]
    · simp only [if_true, i10, if_false, mI_add]
  · unfold b_X12_outOf_4
    rw [hM, if_pos (mle (by omega) (by omega) (Nat.le_refl _))]
theorem ltM {m : Nat} (h : m < 1000000) : mI m < 1000000 := by
  rw [Int32.lt_iff_toInt_lt, mI_int h]
  show (m : Int) < 1000000
  omega
theorem n_s23_ok (N j : Nat) (hN : 500 < N) : n_s23 N (Rel N j) (Rel N (j + 1)) := by
  intro σc σm h a1 a2
  have h := h.thr
  refine two ?_
  unfold f_X12_cut f_X11_cut
  simp only [jn_eq]
  generalize u_pI σm 0 8 0 = s1 at h ⊢
  have hmono := h.mono
  obtain ⟨M, F, ρ, hC, hTo⟩ := h
  obtain ⟨b1, b2, b3, b4, b5, b6, b7⟩ := id hC.1
  have t8 := b6.2.2.2.2.2.2.2.1
  have hp8 := pow8 b1
  have h2p := Nat.two_pow_pos M
  rw [c_isPerson t8 b1, c_isPerson t8 b1, m_areTwo b5 b1, o_bind, o_bind, o_bind]
  cases hs1 : smb a1 M
  · simp only [Bool.false_eq_true, if_false, if_true, ok_some, false_and]
    exact ⟨trivial, hmono⟩
  cases hs2 : smb a2 M
  · simp only [Bool.false_eq_true, if_false, if_true, ok_some, false_and, and_false, i10]
    exact ⟨trivial, hmono⟩
  by_cases hne : a1 = a2
  · simp only [hne, Bool.false_eq_true, if_false, if_true, ok_some, ne_eq, not_true, and_false, i10]
    exact ⟨trivial, hmono⟩
  obtain ⟨p, hp, rfl⟩ := smb_is hs1
  obtain ⟨q, hq, rfl⟩ := smb_is hs2
  have hpq : p ≠ q := fun h => hne (by rw [h])
  simp only [if_true, i10, if_false, hne, ne_eq, not_false_eq_true, and_self, t8, shlM (show M ≤ 16 by omega)]
  refine lpr33 (fun k y1 y2 y3 z1 z2 z3 => k ≤ 2 ^ M ∧ y3 = mI k ∧ z3 = mI k ∧ ((y1 = mI 64 ∧ z1 = -1 ∧ z2 = 1000000 ∧ ∀ a, a < k → ¬ (tb (mI a) p = true ∧ tb (mI a) q = false)) ∨ ∃ m b, m < 64 ∧ y1 = mI m ∧ z2 = mI m ∧ y2 = mI b ∧ z1 = mI b)) (2 ^ M) N _ _ _ _ _ _ (by omega) ?_ ⟨by omega, rfl, rfl, Or.inl ⟨rfl, rfl, rfl, fun a h => absurd h (by omega)⟩⟩
  rintro k y1 y2 y3 z1 z2 z3 rec rec2 hk ⟨-, rfl, rfl, hI⟩ hrec
  unfold b_X11_cut_49 b_X12_cut_26
  rw [m_all b5, o_bind, sAllM (by omega)]
  by_cases hlt : k < 2 ^ M
  · rw [if_neg (mnle (by omega) (by omega) hlt), if_neg (mnlt (by omega) (by omega) (by omega)), m_has _ (by omega), m_has _ (by omega), c_gOut _ b6 b1 hN, m_gOut _ b5 b1 hN]
    simp only [jn_eq, o_bind, mI_succ, bit_is (show p < 32 by omega), bit_no (show q < 32 by omega)]
    have stay : ¬ (tb (mI k) p = true ∧ tb (mI k) q = false) → ok (rec y1 y2 (mI (k + 1))) (fun a => ok (rec2 z1 z2 (mI (k + 1))) (fun b => a.1 = b.1 ∧ Rel N (j + 1) a.2 b.2)) := fun hn => hrec _ _ _ _ _ _ hlt ⟨by omega, rfl, rfl, hI.elim (fun ⟨g1, g2, g3, g4⟩ => Or.inl ⟨g1, g2, g3, fun a ha => by
      by_cases hak : a = k
      · rw [hak]; exact hn
      · exact g4 a (by omega)⟩) Or.inr⟩
    cases hbp : tb (mI k) p
    · simp only [Bool.false_eq_true, if_false, if_true, Int32.le_refl]
      exact stay (fun h => by rw [hbp] at h; cases h.1)
    · cases hbq : tb (mI k) q
      · simp only [Bool.false_eq_true, if_false, if_true, i10]
        have hb := (sGO_le (v := s1.1 1) (M := M) hbq M).2 hq
        generalize sGO (s1.1 1) M (mI k) M = m at hb
        have new : ok (rec (mI m) (mI k) (mI (k + 1))) (fun a => ok (rec2 (mI k) (mI m) (mI (k + 1))) (fun b => a.1 = b.1 ∧ Rel N (j + 1) a.2 b.2)) := hrec _ _ _ _ _ _ hlt ⟨by omega, rfl, rfl, Or.inr ⟨m, k, by omega, rfl, rfl, rfl, rfl⟩⟩
        rcases hI with ⟨rfl, rfl, rfl, -⟩ | ⟨m2, b, g1, rfl, rfl, rfl, rfl⟩
        · rw [if_neg (mnle (by omega) (by omega) (by omega)), if_pos (ltM (by omega))]
          exact new
        · by_cases hmm : m < m2
          · rw [if_neg (mnle (by omega) (by omega) hmm), if_pos (mlt (by omega) (by omega) hmm)]
            exact new
          · rw [if_pos (mle (by omega) (by omega) (by omega)), if_neg (mnlt (by omega) (by omega) (by omega))]
            exact hrec _ _ _ _ _ _ hlt ⟨by omega, rfl, rfl, Or.inr ⟨m2, b, g1, rfl, rfl, rfl, rfl⟩⟩
      · simp only [Bool.true_eq_false, Bool.false_eq_true, if_false, if_true, Int32.le_refl, i10]
        exact stay (fun h => by rw [hbq] at h; cases h.2)
  · have hkM : k = 2 ^ M := by omega
    subst hkM
    rw [if_pos (mle (by omega) (by omega) (Nat.le_refl _)), if_pos (mlt (by omega) (by omega) (by omega))]
    rcases hI with ⟨-, -, -, g4⟩ | ⟨m2, b, g1, rfl, rfl, rfl, rfl⟩
    · exfalso
      refine g4 (2 ^ p) (Nat.pow_lt_pow_right (by omega) hp) ⟨?_, ?_⟩
      · rw [tb_mI, Nat.testBit_two_pow]; simp; omega
      · rw [tb_mI, Nat.testBit_two_pow]; simp; omega
    · show ok ((f_X8_one N σc (Int32.toInt64 (mI b))).bind fun s7 => some (mI m2, s7)) (fun a => ok ((f_X12_tell N (u_pI s1 0 7 0) (Int32.toInt64 (mI b))).bind fun s7 => some (mI m2, s7)) _)
      rw [c_one, o_bind, ok_some, m_tell0, o_bind, ok_some]
      exact ⟨rfl, rel_look1 hC fr.rfl mfr.rfl _⟩
def gB (v : Nat → Int32) (M : Nat) (x : Int32) : Nat → Bool
  | 0 => true
  | k + 1 => gB v M x k && (!(tb x k) || decide ((x &&& ((1 <<< (mI k &&& 31)) ^^^ (-1))) &&& ((v (8 + k) &&& sAll M) ^^^ (-1)) = 0))
theorem gB_f {v : Nat → Int32} {M : Nat} {x : Int32} {k : Nat} (h : gB v M x k = false) : ∀ d, gB v M x (k + d) = false
  | 0 => h
  | d + 1 => by show (gB v M x (k + d) && _) = false; rw [gB_f h d]; rfl
theorem c_allSee {N M F : Nat} {σ : uS} {v e : Nat → Int32} (x : Int32) (hS : cS σ 32 M F v e) (hM8 : M ≤ 8) (hN : 500 < N) : f_X11_allSeeEachOther N σ x = some (if gB v M x M then 1 else 0) := by
  have t8 := hS.2.2.2.2.2.2.2.1
  have h : ok (f_X11_allSeeEachOther N σ x) (fun z => z = if gB v M x M then 1 else 0) := by
    unfold f_X11_allSeeEachOther
    simp only [jn_eq]
    refine lp1_ok (fun k y => k ≤ M ∧ y = mI k ∧ gB v M x k = true) M N _ (by omega) ?_ ⟨by omega, rfl, rfl⟩
    rintro k y rec hk ⟨-, rfl, hg⟩ hrec
    unfold b_X11_allSeeEachOther_2
    rw [t8]
    by_cases hlt : k < M
    · rw [if_neg (mnle (by omega) (by omega) hlt), c_seenBy (by omega) (by omega) (by omega) t8 (by omega), show σ.1 (32 + 5) k = v (8 + k) from hS.2.1 k hlt]
      simp only [jn_eq, o_bind, mI_succ, bit_is (show k < 32 by omega)]
      have e : gB v M x (k + 1) = (gB v M x k && (!(tb x k) || decide ((x &&& ((1 <<< (mI k &&& 31)) ^^^ (-1))) &&& ((v (8 + k) &&& sAll M) ^^^ (-1)) = 0))) := rfl
      rw [hg] at e
      cases hb : tb x k
      · simp only [Bool.false_eq_true, if_false]
        exact hrec _ hlt ⟨by omega, rfl, by rw [e, hb]; rfl⟩
      · simp only [if_true]
        by_cases hz : (x &&& ((1 <<< (mI k &&& 31)) ^^^ (-1))) &&& ((v (8 + k) &&& sAll M) ^^^ (-1)) = 0
        · rw [if_pos hz]
          exact hrec _ hlt ⟨by omega, rfl, by rw [e, hb, decide_eq_true hz]; rfl⟩
        · rw [if_neg hz, ok_some]
          have := gB_f (v := v) (M := M) (x := x) (k := k + 1) (by rw [e, hb, decide_eq_false hz]; rfl) (M - (k + 1))
          rw [show k + 1 + (M - (k + 1)) = M by omega] at this
          rw [this]; rfl
    · have hkM : k = M := by omega
      subst hkM
      rw [if_pos (mle (by omega) (by omega) (Nat.le_refl _)), ok_some, hg]; rfl
  obtain ⟨z, h1, h2⟩ := h
  rw [h1, h2]
def cBest (v : Nat → Int32) (M : Nat) : Nat → Int32
  | 0 => 0
  | k + 1 => if bc (cBest v M k) < bc (mI k) then (if gB v M (mI k) M then mI k else cBest v M k) else cBest v M k
theorem n_s26_ok (N j : Nat) (hN : 500 < N) : n_s26 N (Rel N j) (Rel N (j + 1)) := by
  intro σc σm h
  have h := h.thr
  refine two ?_
  unfold f_X12_circle f_X11_circle
  simp only [jn_eq]
  generalize u_pI σm 0 8 0 = s1 at h ⊢
  obtain ⟨M, F, ρ, hC, hTo⟩ := h
  obtain ⟨b1, b2, b3, b4, b5, b6, b7⟩ := id hC.1
  have t8 := b6.2.2.2.2.2.2.2.1
  have hp8 := pow8 b1
  have h2p := Nat.two_pow_pos M
  have v1 : (1 : Nat) = 1 ∨ (1 : Nat) = 10 ∨ (1 : Nat) = 11 ∨ (1 : Nat) = 12 := by omega
  have hc : ∀ J : Int32 → Int32 → Option (Int32 × uS), u_lp3 (b_X11_circle_17 N σc (mI (2 ^ M)) J) N 0 0 0 = J (bc (cBest (s1.1 1) M (2 ^ M))) (cBest (s1.1 1) M (2 ^ M)) := by
    intro J
    refine lp3_eqa (fun k => bc (cBest (s1.1 1) M k)) (cBest (s1.1 1) M) mI (2 ^ M) N _ (by omega) (by show (0 : Int32) = bc 0; decide) rfl rfl (fun k rec hk => ?_) (fun rec => ?_)
    · unfold b_X11_circle_17
      rw [if_neg (mnle (by omega) (by omega) hk), bc_f, o_bind, c_allSee _ b6 b1 hN]
      simp only [jn_eq, o_bind, mI_succ]
      show _ = rec (bc (if bc (cBest (s1.1 1) M k) < bc (mI k) then (if gB (s1.1 1) M (mI k) M then mI k else cBest (s1.1 1) M k) else cBest (s1.1 1) M k)) (if bc (cBest (s1.1 1) M k) < bc (mI k) then (if gB (s1.1 1) M (mI k) M then mI k else cBest (s1.1 1) M k) else cBest (s1.1 1) M k) _
      by_cases hx : bc (cBest (s1.1 1) M k) < bc (mI k)
      · rw [if_pos hx, if_neg (Int32.not_le.mpr hx)]
        cases gB (s1.1 1) M (mI k) M
        · simp only [Bool.false_eq_true, if_false, if_true]
        · simp only [if_true, i10, if_false]
      · rw [if_neg hx, if_pos (Int32.not_lt.mp hx)]
    · unfold b_X11_circle_17
      rw [if_pos (mle (by omega) (by omega) (Nat.le_refl _))]
  have hm : ∀ J : Int32 → Option (Int32 × uS), u_lp2 (b_X12_circle_9 N s1 J) N 0 1 = J (cBest (s1.1 1) M (2 ^ M)) := by
    intro J
    refine lp2_eqa (fun k => cBest (s1.1 1) M (k + 1)) (fun k => mI (k + 1)) (2 ^ M - 1) N _ (by omega) (by show (0 : Int32) = if bc 0 < bc (mI 0) then _ else 0; rw [if_neg (by decide)]) rfl (fun k rec hk => ?_) (fun rec => ?_)
    · unfold b_X12_circle_9
      rw [m_all b5, o_bind, sAllM (by omega), if_neg (mnlt (by omega) (by omega) (by omega)), bc_f, bc_f, o_bind, o_bind]
      simp only [jn_eq, mI_succ]
      have inner : ∀ K : Int32 → Option (Int32 × uS), u_lp2 (b_X12_circle_36 N s1 (mI (k + 1)) K) N 1 0 = K (if gB (s1.1 1) M (mI (k + 1)) M then 1 else 0) := by
        intro K
        generalize mI (k + 1) = x
        refine lp2_eqa (fun k => if gB (s1.1 1) M x k then 1 else 0) mI M N _ (by omega) rfl rfl (fun k rec hk => ?_) (fun rec => ?_)
        · unfold b_X12_circle_36
          rw [b5, if_neg (mnle (by omega) (by omega) hk), m_has _ (by omega), m_sees v1 b5 (by omega)]
          simp only [jn_eq, o_bind, mI_succ]
          show _ = rec (if (gB (s1.1 1) M x k && (!(tb x k) || decide ((x &&& ((1 <<< (mI k &&& 31)) ^^^ (-1))) &&& ((s1.1 1 (8 + k) &&& sAll M) ^^^ (-1)) = 0))) then 1 else 0) _
          cases gB (s1.1 1) M x k
          · simp only [Bool.false_eq_true, if_false, if_true, Bool.false_and]
          · cases tb x k
            · simp only [Bool.false_eq_true, if_false, if_true, Bool.true_and, Bool.not_false, Bool.true_or, i10]
            · by_cases hz : (x &&& ((1 <<< (mI k &&& 31)) ^^^ (-1))) &&& ((s1.1 1 (8 + k) &&& sAll M) ^^^ (-1)) = 0
              · simp only [Bool.false_eq_true, if_false, if_true, Bool.true_and, Bool.not_true, Bool.false_or, i10, hz, decide_true]
              · simp only [Bool.false_eq_true, if_false, if_true, Bool.true_and, Bool.not_true, Bool.false_or, i10, hz, decide_false]
        · unfold b_X12_circle_36
          rw [b5, if_pos (mle (by omega) (by omega) (Nat.le_refl _))]
      rw [inner]
      show _ = rec (if bc (cBest (s1.1 1) M (k + 1)) < bc (mI (k + 1)) then (if gB (s1.1 1) M (mI (k + 1)) M then mI (k + 1) else cBest (s1.1 1) M (k + 1)) else cBest (s1.1 1) M (k + 1)) _
      by_cases hx : bc (cBest (s1.1 1) M (k + 1)) < bc (mI (k + 1))
      · rw [if_pos hx, if_pos hx]
        cases gB (s1.1 1) M (mI (k + 1)) M
        · simp only [Bool.false_eq_true, if_false, if_true]
        · simp only [if_true, i10, if_false]
      · rw [if_neg hx, if_neg hx]
    · unfold b_X12_circle_9
      rw [m_all b5, o_bind, sAllM (by omega), show 2 ^ M - 1 + 1 = 2 ^ M by omega, if_pos (mlt (by omega) (by omega) (by omega))]
  rw [t8, shlM (by omega), hc, hm, c_one, o_bind, ok_some, m_tell0, o_bind, bc_f, o_bind, ok_some]
  exact ⟨rfl, rel_look1 hC fr.rfl mfr.rfl _⟩
