/-! PURE LAYER: what can be undone -/
theorem vok_congr {B M F : Nat} {v v' : Nat → Int32} (hM : M ≤ 8) (hF : F ≤ 16) (h : ∀ j, j < 37 → v j = v' j) (hv : vok B M F v) : vok B M F v' := by
  obtain ⟨h1, h2, ⟨L, R, h3, h4, h5, h6⟩, h7, d, h8, h9⟩ := hv
  exact ⟨fun p hp => by rw [← h p (by omega)]; exact h1 p hp, fun f hf => by rw [← h _ (by omega)]; exact h2 f hf, ⟨L, R, h3, h4, by rw [← h _ (by omega)]; exact h5, by rw [← h _ (by omega)]; exact h6⟩, by rw [← h _ (by omega)]; exact h7, d, h8, by rw [← h _ (by omega)]; exact h9⟩
theorem cS_congr {σ : uS} {i M F : Nat} {v v' e e' : Nat → Int32} (hM : M ≤ 8) (hF : F ≤ 16) (h : ∀ j, j < 37 → v j = v' j) (he : ∀ p, p < M → e p = e' p) (hS : cS σ i M F v e) : cS σ i M F v' e' := by
  obtain ⟨t1, t2, t3, t4, t5, t6, t7, t8, t9, t10, t11⟩ := hS
  exact ⟨fun p hp => by rw [← h p (by omega)]; exact t1 p hp, fun p hp => by rw [← h _ (by omega)]; exact t2 p hp, fun p hp => by rw [← he p hp]; exact t3 p hp, fun f hf => by rw [← h _ (by omega)]; exact t4 f hf, t5, by rw [← h _ (by omega)]; exact t6, by rw [← h _ (by omega)]; exact t7, t8, by rw [← h _ (by omega)]; exact t9, by rw [← h _ (by omega)]; exact t10, by rw [← h _ (by omega)]; exact t11⟩
theorem m_lay {N a0 a1 n0 n1 o : Nat} {σ : uS} (h0 : a0 < ZM.1 ∧ ZM.2.1 a0 = .inl (0, n0)) (h1 : a1 < ZM.1 ∧ ZM.2.1 a1 = .inl (0, n1)) (hne : a0 ≠ a1) (hn0 : 37 ≤ n0) (hn1 : o + 37 ≤ n1) (hb0 : n0 < 1000000) (hb1 : n1 < 1000000) (hN : 500 < N) : ok (f_X12_lay N σ a0 a1 (mI o)) (fun s => (∀ q, s.1 a1 q = if o ≤ q ∧ q < o + 37 then σ.1 a0 (q - o) else σ.1 a1 q) ∧ fr (fun c => c = a1) σ s) := by
  unfold f_X12_lay
  simp only [u_jn]
  refine lp2_ok (fun j s y => y = mI j ∧ (∀ q, s.1 a1 q = if o ≤ q ∧ q < o + j then σ.1 a0 (q - o) else σ.1 a1 q) ∧ fr (fun c => c = a1) σ s) 37 N _ _ (by omega) ?_ ⟨rfl, fun q => by rw [if_neg (by omega)], fr.rfl⟩
  rintro j s y rec hj ⟨rfl, hq, hf⟩ hrec
  unfold b_X12_lay_2
  have c37 : (37 : Int32) = mI 37 := rfl
  by_cases hlt : j < 37
  · simp (disch := omega) only [u_jn, o_bind, o_nck, o_ckT, not_false_eq_true, mI_le, mI_lt, mI_eq, mI_succ, mI_8, mI_16, mI_add, i10, eq_self, if_true, if_false, Bool.false_eq_true, c37, Nat.not_le.mpr hlt, r_I h0.1 h0.2 (show j < n0 by omega) hb0, w_I h1.1 h1.2 (show o + j < n1 by omega) hb1, nar0]
    refine hrec _ _ hlt ⟨rfl, fun q => ?_, hf.pI rfl⟩
    by_cases hqe : q = o + j
    · rw [hqe, p_II, if_pos (by omega), hf.1 a0 hne, show o + j - o = j by omega]
    · rw [p_Is hqe, hq q]
      by_cases h5 : o ≤ q ∧ q < o + j
      · rw [if_pos h5, if_pos (by omega)]
      · rw [if_neg h5, if_neg (by omega)]
  · have hj7 : j = 37 := by omega
    subst hj7
    simp (disch := omega) only [u_jn, o_bind, o_nck, o_ckT, not_false_eq_true, mI_le, mI_lt, mI_eq, mI_succ, mI_8, mI_16, mI_add, i10, eq_self, if_true, if_false, Bool.false_eq_true, c37, Nat.le_refl, ok_some]
    exact ⟨hq, hf⟩
/-- which step is written next, and what goes before it -/
def nx (U : Nat) : Nat := if U = 12 then 11 else U
def sh (U : Nat) : Nat := if U = 12 then 1 else 0
theorem m_remember {N a U : Nat} {σ : uS} {v : Nat → Int32} (h : a = 1 ∨ a = 10 ∨ a = 11 ∨ a = 12) (hU : U ≤ 12) (hu : σ.1 0 21 = mI U) (hV : mV σ a v) (hN : 500 < N) : ok (f_X12_remember N σ a) (fun s => s.1 0 21 = mI (nx U + 1) ∧ (∀ u, u < nx U → ∀ j, j < 37 → s.1 9 (37 * u + j) = σ.1 9 (37 * (u + sh U) + j)) ∧ (∀ j, j < 37 → s.1 9 (37 * nx U + j) = v j) ∧ mfr (fun c => c = 9) (fun s => s = 21) σ s) := by
  unfold f_X12_remember
  simp only [u_jn]
  have c37 : (37 : Int32) = mI 37 := rfl
  have ha9 : a ≠ 9 := by omega
  have main : ∀ (s1 : uS) (U0 : Nat), U0 < 12 → s1.1 0 21 = mI U0 → mV s1 a v → mfr (fun c => c = 9) (fun s => s = 21) σ s1 → ok ((f_X12_lay N s1 a 9 (37 * (s1.1 0 21))).bind fun s3 => some (u_pI s3 0 21 ((s3.1 0 21) + 1))) (fun s => s.1 0 21 = mI (U0 + 1) ∧ (∀ u, u < U0 → ∀ j, j < 37 → s.1 9 (37 * u + j) = s1.1 9 (37 * u + j)) ∧ (∀ j, j < 37 → s.1 9 (37 * U0 + j) = v j) ∧ mfr (fun c => c = 9) (fun s => s = 21) σ s) := by
    intro s1 U0 hU0 e21 hV1 hf1
    rw [ok_bind, e21, c37, show mI 37 * mI U0 = mI (37 * U0) from (Int32.ofNat_mul 37 U0).symm]
    refine ok_mono (m_lay (zv h) (show 9 < ZM.1 ∧ ZM.2.1 9 = .inl (0, 444) from ⟨by decide, rfl⟩) ha9 (by omega) (by omega) (by omega) (by omega) hN) (fun s3 hs3 => ?_)
    obtain ⟨g1, g2⟩ := hs3
    have e3 : s3.1 0 21 = mI U0 := by rw [g2.1 0 (by omega)]; exact e21
    rw [ok_some, e3]
    refine ⟨by rw [p_II]; exact mI_succ U0, fun u hu2 j hj => ?_, fun j hj => ?_, ?_⟩
    · rw [p_Ia (by omega), g1, if_neg (by omega)]
    · rw [p_Ia (by omega), g1, if_pos (by omega), show 37 * U0 + j - 37 * U0 = j by omega]; exact hV1 j hj
    · refine mfr.p0 ⟨fun c hc hs => ?_, fun s hs => ?_, ?_, fun c s hcs => ?_⟩ rfl
      · rw [g2.1 c hs]; exact hf1.1 c hc hs
      · rw [g2.1 0 (by omega)]; exact hf1.2.1 s hs
      · rw [g2.2]; exact hf1.2.2.1
      · rw [g2.2]; exact hf1.2.2.2 c s hcs
  by_cases h12 : U = 12
  · subst h12
    have e12 : (12 : Int32) = mI 12 := rfl
    have c407 : (407 : Int32) = mI 407 := rfl
    rw [hu, if_pos e12.symm]
    refine lp2_ok (fun j s y => y = mI j ∧ (∀ q, s.1 9 q = if q < j then σ.1 9 (q + 37) else σ.1 9 q) ∧ fr (fun c => c = 9) σ s) 407 N _ _ (by omega) ?_ ⟨rfl, fun q => by rw [if_neg (by omega)], fr.rfl⟩
    rintro j s y rec hj ⟨rfl, hq, hf⟩ hrec
    unfold b_X12_remember_11
    by_cases hlt : j < 407
    · simp (disch := omega) only [u_jn, o_bind, o_nck, o_ckT, not_false_eq_true, mI_le, mI_lt, mI_eq, mI_succ, mI_8, mI_16, mI_add, i10, eq_self, if_true, if_false, Bool.false_eq_true, c407, c37, Nat.not_le.mpr hlt, mr_9, mw_9]
      refine hrec _ _ hlt ⟨rfl, fun q => ?_, hf.pI rfl⟩
      by_cases hqe : q = j
      · rw [hqe, p_II, if_pos (by omega), hq, if_neg (by omega)]
      · rw [p_Is hqe, hq q]
        by_cases h5 : q < j
        · rw [if_pos h5, if_pos (by omega)]
        · rw [if_neg h5, if_neg (by omega)]
    · have hj7 : j = 407 := by omega
      subst hj7
      have e21 : s.1 0 21 = mI 12 := by rw [hf.1 0 (by omega)]; exact hu
      simp (disch := omega) only [u_jn, o_bind, o_nck, o_ckT, not_false_eq_true, mI_le, mI_lt, mI_eq, mI_succ, mI_8, mI_16, mI_add, i10, eq_self, if_true, if_false, Bool.false_eq_true, c407, Nat.le_refl, e21]
      have e11 : mI 12 - 1 = mI 11 := rfl
      rw [e11]
      refine ok_mono (main _ 11 (by omega) (by rw [p_II]) (fun j hj => ?_) ?_) (fun s5 hs5 => ?_)
      · rw [p_Ia (by omega), hf.1 a (by omega)]; exact hV j hj
      · refine mfr.p0 ⟨fun c hc hs => hf.1 c hs, fun s hs => by rw [hf.1 0 (by omega)], by rw [hf.2], fun c s _ => by rw [hf.2]⟩ rfl
      · obtain ⟨g1, g2, g3, g4⟩ := hs5
        refine ⟨g1, fun u hu2 j hj => ?_, g3, g4⟩
        have hu3 : u < 11 := hu2
        rw [g2 u hu3 j hj, p_Ia (by omega), hq, if_pos (by omega)]
        show _ = σ.1 9 (37 * (u + 1) + j)
        rw [show 37 * u + j + 37 = 37 * (u + 1) + j by omega]
  · have e12 : ¬ σ.1 0 21 = 12 := by rw [hu, show (12 : Int32) = mI 12 from rfl, mI_eq (by omega) (by omega)]; exact h12
    rw [if_neg e12]
    refine ok_mono (main σ U (by omega) hu hV mfr.rfl) (fun s5 hs5 => ?_)
    obtain ⟨g1, g2, g3, g4⟩ := hs5
    have en : nx U = U := by unfold nx; rw [if_neg h12]
    have es : sh U = 0 := by unfold sh; rw [if_neg h12]
    rw [en, es]
    exact ⟨g1, g2, g3, g4⟩
def cP (σ : uS) (U : Nat) (st : Nat → Nat) : Prop := U ≤ 12 ∧ σ.1 5 2 = mI U ∧ (∀ u, u < 12 → σ.2.2 6 u = some (st u) ∧ 50 ≤ st u ∧ st u < 122 ∧ (st u - 32) % 6 = 0) ∧ ∀ u w, u < 12 → w < 12 → st u = st w → u = w
def rot (U : Nat) (st : Nat → Nat) : Nat → Nat := fun u => if U = 12 then (if u < 11 then st (u + 1) else st 0) else st u
theorem c_push {N U M F : Nat} {σ : uS} {st : Nat → Nat} {v e : Nat → Int32} (hP : cP σ U st) (hS : cS σ 44 M F v e) (hM8 : M ≤ 8) (hF16 : F ≤ 16) (hN : 500 < N) : ok (f_X3_push N σ 44) (fun s => cP s (nx U + 1) (rot U st) ∧ cS s (rot U st (nx U)) M F v e ∧ (∀ a, ¬ (rot U st (nx U) ≤ a ∧ a < rot U st (nx U) + 6) → a ≠ 5 → s.1 a = σ.1 a) ∧ s.1 5 3 = σ.1 5 3 ∧ s.2.1 = σ.2.1 ∧ ∀ c, c ≠ 6 → s.2.2 c = σ.2.2 c) := by
  obtain ⟨hU, h52, hst, hinj⟩ := hP
  unfold f_X3_push
  simp only [u_jn, cl_6, o_bind]
  have main : ∀ (s2 : uS) (U0 : Nat) (st2 : Nat → Nat), U0 < 12 → cP s2 U0 st2 → cS s2 44 M F v e → ok (if (s2.1 5 2) < 0 then some s2 else if mI 12 ≤ (s2.1 5 2) then some s2 else (u_rR ZC s2 6 (s2.1 5 2)).bind fun v6 => u_ck (isS v6) ((f_X7_copy N s2 v6 44).bind fun s7 => some (u_pI s7 5 2 ((s7.1 5 2) + 1)))) (fun s => cP s (U0 + 1) st2 ∧ cS s (st2 U0) M F v e ∧ (∀ a, ¬ (st2 U0 ≤ a ∧ a < st2 U0 + 6) → a ≠ 5 → s.1 a = s2.1 a) ∧ s.1 5 3 = s2.1 5 3 ∧ s.2.1 = s2.2.1 ∧ s.2.2 = s2.2.2) := by
    intro s2 U0 st2 hU0 hP2 hS2
    obtain ⟨g1, g2, g3, g4⟩ := hP2
    obtain ⟨k1, k2, k3, k4⟩ := g3 U0 hU0
    rw [g2, if_neg (mI_n0 (by omega)), if_neg (by rw [mI_le (by omega) (by omega)]; omega), cr_6 hU0, k1, o_bind]
    refine ok_ck ⟨by omega, by omega, k4⟩ ?_
    rw [ok_bind]
    refine ok_mono (c_copy (by omega) (by omega) k4 (by omega) (by omega) (by omega) (by omega) hS2 hM8 hF16) (fun s7 hs7 => ?_)
    obtain ⟨f1, f2⟩ := hs7
    have e5 : s7.1 5 = s2.1 5 := f2.1 5 (by omega)
    rw [ok_some, e5, g2]
    refine ⟨⟨by omega, by rw [p_II]; exact mI_succ U0, ?_, g4⟩, f1.to (p_Ia (by omega)) (p_Ia (by omega)) (p_Ia (by omega)) (p_Ia (by omega)) (p_Ia (by omega)), fun a ha ha5 => ?_, ?_, ?_, ?_⟩
    · rw [p_IL, f2.2]; exact g3
    · rw [p_Ia ha5]; exact f2.1 a (by omega)
    · rw [p_Is (by omega), e5]
    · rw [p_IL, f2.2]
    · rw [p_IL, f2.2]
  by_cases h12 : U = 12
  · subst h12
    rw [h52, if_neg (by rw [mI_lt (by omega) (by omega)]; omega), ok_bind]
    unfold f_X3_dropEldest
    obtain ⟨z1, z2, z3, z4⟩ := hst 0 (by omega)
    rw [cr_6_0, z1, o_bind]
    refine ok_ck ⟨by omega, by omega, z4⟩ ?_
    simp only [u_jn]
    refine lp2_ok (fun j s y => y = mI (j + 1) ∧ s.1 = σ.1 ∧ s.2.1 = σ.2.1 ∧ (∀ c, c ≠ 6 → s.2.2 c = σ.2.2 c) ∧ (∀ u, u < 12 → s.2.2 6 u = if u < j then some (st (u + 1)) else some (st u))) 11 N _ _ (by omega) ?_ ⟨rfl, rfl, rfl, fun _ _ => rfl, fun u hu => by rw [if_neg (by omega)]; exact (hst u hu).1⟩
    rintro j s y rec hj ⟨rfl, i1, i2, i3, i4⟩ hrec
    unfold b_X3_dropEldest_9
    by_cases hlt : j < 11
    · obtain ⟨y1, y2, y3, y4⟩ := hst (j + 1) (by omega)
      have em : mI (j + 1) - 1 = mI j := by rw [mI_pred (by omega) (by omega)]; rfl
      have e6 : s.2.2 6 (j + 1) = some (st (j + 1)) := by rw [i4 (j + 1) (by omega), if_neg (by omega)]
      rw [cl_6, o_bind, if_neg (by rw [mI_le (by omega) (by omega)]; omega), cr_6 (by omega), e6, o_bind]
      refine ok_ck ⟨by omega, by omega, y4⟩ ?_
      rw [em, cw_6 (by omega), o_bind]
      simp only [u_jn, mI_succ]
      refine hrec _ _ hlt ⟨rfl, i1, i2, fun c hc => ?_, fun u hu => ?_⟩
      · funext q; rw [p_Rn (Or.inl hc), i3 c hc]
      · by_cases huj : u = j
        · rw [huj, p_RR, if_pos (by omega)]
        · rw [p_Rn (Or.inr huj), i4 u hu]
          by_cases h5 : u < j
          · rw [if_pos h5, if_pos (by omega)]
          · rw [if_neg h5, if_neg (by omega)]
    · have hj11 : j = 11 := by omega
      subst hj11
      have e11 : mI 12 - 1 = mI 11 := rfl
      rw [cl_6, o_bind, if_pos (by rw [mI_le (by omega) (by omega)]; omega)]
      simp only [o_bind, ok_some, e11, cw_6 (σ := s) (k := 11) (v := st 0) (by omega)]
      have hr : ∀ u, u < 12 → (u_pR s 6 11 (some (st 0))).2.2 6 u = some (rot 12 st u) := by
        intro u hu
        unfold rot
        rw [if_pos rfl]
        by_cases hu11 : u = 11
        · rw [hu11, p_RR, if_neg (by omega)]
        · rw [p_Rn (Or.inr hu11), i4 u hu, if_pos (by omega), if_pos (by omega)]
      refine ok_mono (main (u_pI (u_pR s 6 11 (some (st 0))) 5 2 (mI 11)) 11 (rot 12 st) (by omega) ⟨by omega, p_II _ _ _ _, fun u hu => ⟨hr u hu, ?_⟩, fun u w hu hw huw => ?_⟩ ?_) (fun s9 hs9 => ?_)
      · unfold rot
        rw [if_pos rfl]
        by_cases hu11 : u < 11
        · rw [if_pos hu11]; exact (hst (u + 1) (by omega)).2
        · rw [if_neg hu11]; exact (hst 0 (by omega)).2
      · unfold rot at huw
        rw [if_pos rfl, if_pos rfl] at huw
        by_cases c1 : u < 11
        · by_cases c2 : w < 11
          · rw [if_pos c1, if_pos c2] at huw
            have := hinj _ _ (by omega) (by omega) huw; omega
          · rw [if_pos c1, if_neg c2] at huw
            have := hinj _ _ (by omega) (by omega) huw; omega
        · by_cases c2 : w < 11
          · rw [if_neg c1, if_pos c2] at huw
            have := hinj _ _ (by omega) (by omega) huw; omega
          · omega
      · refine hS.to ?_ ?_ ?_ ?_ ?_ <;> (rw [p_Ia (by omega), p_RI, i1])
      · obtain ⟨q1, q2, q3, q4, q5, q6⟩ := hs9
        refine ⟨q1, q2, fun a ha ha5 => ?_, ?_, ?_, fun c hc => ?_⟩
        · rw [q3 a ha ha5, p_Ia ha5, p_RI, i1]
        · rw [q4, p_Is (by omega), p_RI, i1]
        · rw [q5, p_IL, p_RL, i2]
        · rw [q6, p_IL]; funext q; rw [p_Rn (Or.inl hc), i3 c hc]
  · have en : nx U = U := by unfold nx; rw [if_neg h12]
    have er : rot U st = st := by funext u; unfold rot; rw [if_neg h12]
    rw [h52, if_pos (by rw [mI_lt (by omega) (by omega)]; omega), en, er]
    rw [← h52]
    refine ok_mono (main σ U st (by omega) ⟨hU, h52, hst, hinj⟩ hS) (fun s9 hs9 => ?_)
    obtain ⟨q1, q2, q3, q4, q5, q6⟩ := hs9
    exact ⟨q1, q2, q3, q4, q5, fun c _ => by rw [q6]⟩
