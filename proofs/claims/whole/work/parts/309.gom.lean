/-! PURE LAYER: crossings of the reference, on -/
section PZ
variable {N : Nat} {σ : uS} {a : Nat} {M F B : Nat} {v : Nat → Int32} {ρ : Rho}
theorem sIn_mV {e : Nat → Int32} (hV : mV σ a v) (hM8 : M ≤ 8) : sIn (σ.1 a) e M = sIn v e M := sIn_congr (fun k hk => ⟨hV k (by omega), rfl⟩)
theorem m_ropeCorn (h : a = 1 ∨ a = 10 ∨ a = 11 ∨ a = 12) (hV : mV σ a v) (hv : vok B M F v) (hF16 : F ≤ 16) (hN : 500 < N) : f_X12_corn N σ a (v 32) (v 33) = some (sRope v) := by
  obtain ⟨-, -, ⟨L, R, g1, g2, g3, g4⟩, -⟩ := hv
  unfold sRope
  rw [g3, g4, mI_nat (by omega), mI_nat (by omega)]
  have := m_corn (N := N) (σ := σ) (L := L) (n := R + 1 - L) h (by omega) (by omega) hN
  rw [show L + (R + 1 - L) - 1 = R by omega] at this
  rw [this]
  congr 1
  exact sSum_congr (fun k hk => hV (16 + (L + k)) (by omega))
theorem m_goCrossing (h : a = 1 ∨ a = 10 ∨ a = 11 ∨ a = 12) (hM : σ.1 0 2 = mI M) (hF : σ.1 0 1 = mI F) (hM8 : M ≤ 8) (hF16 : F ≤ 16) (hV : mV σ a v) (hv : vok B M F v) (hR : mR N σ ρ) (hN : 500 < N) : ok (f_X12_goCrossing N σ a) (fun z => z.1 = chg ρ v (σ.1 2) M F ∧ mV z.2 a (crossV ρ v (σ.1 2) M F) ∧ mfr (fun c => c = a ∨ c = 8 ∨ c = 13) T0 σ z.2) := by
  have eI : f_X12_inBits N σ a = some (sIn v (σ.1 2) M) := by rw [m_inBits h hM hM8 hN, sIn_mV hV hM8]
  generalize hwas : sIn v (σ.1 2) M = was at eI
  generalize he : σ.1 2 = e at hwas
  have main : ∀ s2 : uS, mV s2 a (payV v e M) → mfr (fun c => c = a ∨ c = 8 ∨ c = 13) T0 σ s2 → ok (u_lp2 (b_X12_goCrossing_32 N a was (fun s4 => u_lp2 (b_X12_goCrossing_100 N a (fun s6 => u_lp2 (b_X12_goCrossing_128 a (fun s8 => (u_wI ZM s8 0 a 34 0).bind fun s10 => (u_rI ZM s10 0 a 35).bind fun v11 => (u_wI ZM s10 0 a 35 (v11 + 1)).bind fun s12 => (f_X12_inBits N s12 a).bind fun v13 => (f_J6_bitCount_0f7a4 N s12 (was ^^^ v13)).bind fun v14 => some (v14, s12))) N s6 0)) N s4 0)) N s2 0) (fun z => z.1 = chg ρ v e M F ∧ mV z.2 a (crossV ρ v e M F) ∧ mfr (fun c => c = a ∨ c = 8 ∨ c = 13) T0 σ z.2) := by
    intro s2 hV1 hf1
    generalize hv1 : payV v e M = v1 at hV1
    refine lp2_ok (fun j s y => y = mI j ∧ mfr (fun c => c = a ∨ c = 8 ∨ c = 13) T0 σ s ∧ ∀ q, q < 37 → s.1 a q = if 16 ≤ q ∧ q < 16 + j then partC v1 was (q - 16) else v1 q) F N _ _ (by omega) ?_ ⟨rfl, hf1, fun q hq => by rw [if_neg (by omega)]; exact hV1 q hq⟩
    rintro j s y rec hj ⟨rfl, hf, hq⟩ hrec
    have eF : s.1 0 1 = mI F := by rw [hf.2.1 1 (by unfold T0; omega)]; exact hF
    unfold b_X12_goCrossing_32 f_X12_isRope
    by_cases hlt : j < F
    · have e32 : s.1 a 32 = v1 32 := by rw [hq 32 (by omega), if_neg (by omega)]
      have e33 : s.1 a 33 = v1 33 := by rw [hq 33 (by omega), if_neg (by omega)]
      have ej : s.1 a (16 + j) = v1 (16 + j) := by rw [hq (16 + j) (by omega), if_neg (by omega)]
      have fin : ∀ (s2 : uS), s2.1 a (16 + j) = partC v1 was j → (∀ q, q ≠ 16 + j → s2.1 a q = s.1 a q) → mfr (fun c => c = a ∨ c = 8 ∨ c = 13) T0 σ s2 → ok (rec s2 (mI (j + 1))) (fun z => z.1 = chg ρ v e M F ∧ mV z.2 a (crossV ρ v e M F) ∧ mfr (fun c => c = a ∨ c = 8 ∨ c = 13) T0 σ z.2) := by
        intro s2 g1 g2 g3
        refine hrec _ _ hlt ⟨rfl, g3, fun q hqj => ?_⟩
        by_cases hqe : q = 16 + j
        · rw [hqe, g1, if_pos (by omega), show 16 + j - 16 = j by omega]
        · rw [g2 q hqe, hq q hqj]
          by_cases h5 : 16 ≤ q ∧ q < 16 + j
          · rw [if_pos h5, if_pos (by omega)]
          · rw [if_neg h5, if_neg (by omega)]
      have up : ∀ w : Int32, w = partC v1 was j → ok (rec (u_pI s a (16 + j) w) (mI (j + 1))) (fun z => z.1 = chg ρ v e M F ∧ mV z.2 a (crossV ρ v e M F) ∧ mfr (fun c => c = a ∨ c = 8 ∨ c = 13) T0 σ z.2) := fun w hw => fin _ (by rw [p_II]; exact hw) (fun q hqe => p_Is hqe) (hf.pI (by omega) (Or.inl rfl))
      simp (disch := omega) only [u_jn, o_bind, o_nck, o_ckT, not_false_eq_true, mI_le, mI_lt, mI_eq, mI_succ, mI_8, mI_16, mI_add, i10, eq_self, if_true, if_false, Bool.false_eq_true, eF, Nat.not_le.mpr hlt, vr, vw, vr32, vw32, vr33, vw33, vr34, vw34, vr35, vw35, vr36, vw36, m_in, e32, e33, ej]
      by_cases c1 : mI j < v1 32
      · simp (disch := omega) only [u_jn, o_bind, o_nck, o_ckT, not_false_eq_true, mI_le, mI_lt, mI_eq, mI_succ, mI_8, mI_16, mI_add, i10, eq_self, if_true, if_false, Bool.false_eq_true, c1, true_or]
        exact up _ (by unfold partC; rw [if_pos c1])
      · by_cases c2 : v1 33 < mI j
        · simp (disch := omega) only [u_jn, o_bind, o_nck, o_ckT, not_false_eq_true, mI_le, mI_lt, mI_eq, mI_succ, mI_8, mI_16, mI_add, i10, eq_self, if_true, if_false, Bool.false_eq_true, c1, c2, true_or]
          exact up _ (by unfold partC; rw [if_neg c1, if_pos c2])
        · by_cases c3 : was = 0
          · simp (disch := omega) only [u_jn, o_bind, o_nck, o_ckT, not_false_eq_true, mI_le, mI_lt, mI_eq, mI_succ, mI_8, mI_16, mI_add, i10, eq_self, if_true, if_false, Bool.false_eq_true, c1, c2, or_true, eq_true c3]
            refine fin s ?_ (fun _ _ => rfl) hf
            unfold partC
            rw [if_neg c1, if_neg c2, if_pos c3]; exact ej
          · simp (disch := omega) only [u_jn, o_bind, o_nck, o_ckT, not_false_eq_true, mI_le, mI_lt, mI_eq, mI_succ, mI_8, mI_16, mI_add, i10, eq_self, if_true, if_false, Bool.false_eq_true, c1, c2, or_true, c3]
            exact up _ (by unfold partC; rw [if_neg c1, if_neg c2, if_neg c3])
    · have hjF : j = F := by omega
      subst hjF
      simp (disch := omega) only [u_jn, o_bind, o_nck, o_ckT, not_false_eq_true, mI_le, mI_lt, mI_eq, mI_succ, mI_8, mI_16, mI_add, i10, eq_self, if_true, if_false, Bool.false_eq_true, eF, Nat.le_refl]
      have hV2 : mV s a (partV v1 was j) := fun q hq37 => by rw [hq q hq37]; rfl
      generalize hv2 : partV v1 was j = v2 at hV2
      have hR2 : mR N s ρ := hR.fr hf (by omega) (by omega) (by unfold T0; omega)
      refine lp2_ok (fun k s y => y = mI k ∧ mfr (fun c => c = a ∨ c = 8 ∨ c = 13) T0 σ s ∧ mV s a v2 ∧ ∀ q, q < k → s.1 13 q = th ρ v2 e M q) M N _ _ (by omega) ?_ ⟨rfl, hf, hV2, fun q hq => absurd hq (by omega)⟩
      rintro k s3 y rec3 hk ⟨rfl, hf3, hV3, hq3⟩ hrec3
      have eM : s3.1 0 2 = mI M := by rw [hf3.2.1 2 (by unfold T0; omega)]; exact hM
      unfold b_X12_goCrossing_100
      by_cases hlt : k < M
      · simp (disch := omega) only [u_jn, o_bind, o_nck, o_ckT, not_false_eq_true, mI_le, mI_lt, mI_eq, mI_succ, mI_8, mI_16, mI_add, i10, eq_self, if_true, if_false, Bool.false_eq_true, eM, Nat.not_le.mpr hlt, ok_bind]
        refine ok_mono (m_then0 h eM hM8 hlt (hR.fr hf3 (by omega) (by omega) (by unfold T0; omega)) hN) (fun z hz => ?_)
        obtain ⟨hz1, hz2⟩ := hz
        have e2 : s3.1 2 = e := by rw [hf3.1 2 (by omega) (by omega)]; exact he
        simp (disch := omega) only [u_jn, o_bind, o_nck, o_ckT, not_false_eq_true, mI_le, mI_lt, mI_eq, mI_succ, mI_8, mI_16, mI_add, i10, eq_self, if_true, if_false, Bool.false_eq_true, mr_1, mw_1, mr_2, mw_2, mr_3, mw_3, mr_4, mw_4, mr_5, mw_5, mr_6, mw_6, mr_7, mw_7, mr_8, mw_8, mr_9, mw_9, mr_10, mw_10, mr_11, mw_11, mr_12, mw_12, mr_13, mw_13, mr_14, mw_14, mr_15, mw_15, mr_16, mw_16, mr_17, mw_17, mr_18, mw_18, mr_19, mw_19, mr_20, mw_20, mw_80, mw_81, mw_82, mw_83, mw_84, mw_85, mw_86, ok_some]
        refine hrec3 _ _ hlt ⟨rfl, ?_, fun q hq => ?_, fun q hq => ?_⟩
        · exact ((hf3.trans hz2).mono (fun c hc => by omega) (fun c hc => hc.elim id id)).pI (by omega) (Or.inr (Or.inr rfl))
        · rw [p_Ia (by omega), hz2.1 a (by omega) (by omega)]; exact hV3 q hq
        · by_cases hqk : q = k
          · rw [hqk, p_II, hz1, e2]; exact th_congr hM8 hlt hV3
          · rw [p_Is hqk, hz2.1 13 (by omega) (by omega)]; exact hq3 q (by omega)
      · have hkM : k = M := by omega
        subst hkM
        simp (disch := omega) only [u_jn, o_bind, o_nck, o_ckT, not_false_eq_true, mI_le, mI_lt, mI_eq, mI_succ, mI_8, mI_16, mI_add, i10, eq_self, if_true, if_false, Bool.false_eq_true, eM, Nat.le_refl]
        refine lp2_ok (fun i s y => y = mI i ∧ mfr (fun c => c = a ∨ c = 8 ∨ c = 13) T0 σ s ∧ (∀ q, q < k → s.1 13 q = th ρ v2 e k q) ∧ ∀ q, q < 37 → s.1 a q = if q < i then th ρ v2 e k q else v2 q) k N _ _ (by omega) ?_ ⟨rfl, hf3, hq3, fun q hq => by rw [if_neg (by omega)]; exact hV3 q hq⟩
        rintro i s4 y rec4 hi ⟨rfl, hf4, hq4, hV4⟩ hrec4
        have eM4 : s4.1 0 2 = mI k := by rw [hf4.2.1 2 (by unfold T0; omega)]; exact hM
        unfold b_X12_goCrossing_128
        by_cases hlt : i < k
        · simp (disch := omega) only [u_jn, o_bind, o_nck, o_ckT, not_false_eq_true, mI_le, mI_lt, mI_eq, mI_succ, mI_8, mI_16, mI_add, i10, eq_self, if_true, if_false, Bool.false_eq_true, eM4, Nat.not_le.mpr hlt, mr_1, mw_1, mr_2, mw_2, mr_3, mw_3, mr_4, mw_4, mr_5, mw_5, mr_6, mw_6, mr_7, mw_7, mr_8, mw_8, mr_9, mw_9, mr_10, mw_10, mr_11, mw_11, mr_12, mw_12, mr_13, mw_13, mr_14, mw_14, mr_15, mw_15, mr_16, mw_16, mr_17, mw_17, mr_18, mw_18, mr_19, mw_19, mr_20, mw_20, mw_80, mw_81, mw_82, mw_83, mw_84, mw_85, mw_86, vr, vw, vr32, vw32, vr33, vw33, vr34, vw34, vr35, vw35, vr36, vw36]
          refine hrec4 _ _ hlt ⟨rfl, hf4.pI (by omega) (Or.inl rfl), fun q hq => ?_, fun q hq => ?_⟩
          · rw [p_Ia (by omega)]; exact hq4 q hq
          · by_cases hqi : q = i
            · rw [hqi, p_II, if_pos (by omega)]; exact hq4 i hlt
            · rw [p_Is hqi, hV4 q hq]
              by_cases h5 : q < i
              · rw [if_pos h5, if_pos (by omega)]
              · rw [if_neg h5, if_neg (by omega)]
        · have hik : i = k := by omega
          subst hik
          have hfin : mV (u_pI (u_pI s4 a 34 0) a 35 (s4.1 a 35 + 1)) a (crossV ρ v e i j) := by
            intro q hq
            unfold crossV
            rw [hv1, hwas, hv2]
            unfold turnV
            by_cases h35 : q = 35
            · subst h35
              rw [p_II, if_neg (by omega), if_neg (by omega), if_pos rfl, hV4 35 (by omega), if_neg (by omega)]
            · rw [p_Is h35]
              by_cases h34 : q = 34
              · subst h34
                rw [p_II, if_neg (by omega), if_pos rfl]
              · rw [p_Is h34, hV4 q hq]
                by_cases h5 : q < i
                · rw [if_pos h5, if_pos h5]
                · rw [if_neg h5, if_neg h5, if_neg h34, if_neg h35]
          have hff : mfr (fun c => c = a ∨ c = 8 ∨ c = 13) T0 σ (u_pI (u_pI s4 a 34 0) a 35 (s4.1 a 35 + 1)) := (hf4.pI (by omega) (Or.inl rfl)).pI (by omega) (Or.inl rfl)
          have eI2 : f_X12_inBits N (u_pI (u_pI s4 a 34 0) a 35 (s4.1 a 35 + 1)) a = some (sIn (crossV ρ v e i j) e i) := by
            rw [m_inBits h (by rw [hff.2.1 2 (by unfold T0; omega)]; exact hM) hM8 hN, sIn_mV hfin hM8, hff.1 2 (by omega) (by omega), he]
          simp (disch := omega) only [u_jn, o_bind, o_nck, o_ckT, not_false_eq_true, mI_le, mI_lt, mI_eq, mI_succ, mI_8, mI_16, mI_add, i10, eq_self, if_true, if_false, Bool.false_eq_true, eM4, Nat.le_refl, vr, vw, vr32, vw32, vr33, vw33, vr34, vw34, vr35, vw35, vr36, vw36, p_Is, eI2, bc_f, ok_some]
          refine ⟨?_, hfin, hff⟩
          unfold chg
          rw [hwas]
  unfold f_X12_goCrossing
  simp only [u_jn, eI, o_bind]
  by_cases h0 : was = 0
  · simp only [h0, if_true]
    rw [h0] at main
    refine main σ (fun q hq => ?_) mfr.rfl
    unfold payV
    rw [hwas, h0, if_pos rfl, hV q hq]
    by_cases h36 : q = 36
    · rw [if_pos h36, h36]
    · rw [if_neg h36]
  · have e36 := hV 36 (by omega)
    have e32 := hV 32 (by omega)
    have e33 := hV 33 (by omega)
    simp (disch := omega) only [u_jn, o_bind, o_nck, o_ckT, not_false_eq_true, mI_le, mI_lt, mI_eq, mI_succ, mI_8, mI_16, mI_add, i10, eq_self, if_true, if_false, Bool.false_eq_true, h0, vr36 (σ := σ) h, vr32 (σ := σ) h, vr33 (σ := σ) h, vw36 (σ := σ) h, e36, e32, e33, m_ropeCorn h hV hv hF16 hN]
    refine main _ (fun q hq => ?_) ((mfr.rfl (S := fun c => c = a ∨ c = 8 ∨ c = 13) (T := T0)).pI (by omega) (Or.inl rfl))
    unfold payV
    by_cases h36 : q = 36
    · rw [h36, p_II, if_pos rfl, hwas, if_neg h0]
    · rw [p_Is h36, if_neg h36]; exact hV q hq
theorem m_goCrossings {n : Nat} (h : a = 1 ∨ a = 10 ∨ a = 11 ∨ a = 12) (hM : σ.1 0 2 = mI M) (hF : σ.1 0 1 = mI F) (hM8 : M ≤ 8) (hF16 : F ≤ 16) (hV : mV σ a v) (hv : vok B M F v) (hR : mR N σ ρ) (hn : n < 500) (hN : 500 < N) : ok (f_X12_goCrossings N σ a (mI n)) (fun z => z.1 = chgN ρ (σ.1 2) M F v n ∧ mV z.2 a (crossN ρ (σ.1 2) M F v n) ∧ mfr (fun c => c = a ∨ c = 8 ∨ c = 13) T0 σ z.2) := by
  unfold f_X12_goCrossings
  simp only [u_jn]
  refine lp3_ok (fun j s x y => y = mI j ∧ x = chgN ρ (σ.1 2) M F v j ∧ mV s a (crossN ρ (σ.1 2) M F v j) ∧ mfr (fun c => c = a ∨ c = 8 ∨ c = 13) T0 σ s) n N _ _ _ (by omega) ?_ ⟨rfl, rfl, hV, mfr.rfl⟩
  rintro j s x y rec hj ⟨rfl, rfl, hVj, hf⟩ hrec
  unfold b_X12_goCrossings_5
  by_cases hlt : j < n
  · simp (disch := omega) only [u_jn, o_bind, o_nck, o_ckT, not_false_eq_true, mI_le, mI_lt, mI_eq, mI_succ, mI_8, mI_16, mI_add, i10, eq_self, if_true, if_false, Bool.false_eq_true, Nat.not_le.mpr hlt, ok_bind]
    have e2 : s.1 2 = σ.1 2 := hf.1 2 (by omega) (by omega)
    refine ok_mono (m_goCrossing h (by rw [hf.2.1 2 (by unfold T0; omega)]; exact hM) (by rw [hf.2.1 1 (by unfold T0; omega)]; exact hF) hM8 hF16 hVj (vok_crossN hM8 hF16 hv j) (hR.fr hf (by omega) (by omega) (by unfold T0; omega)) hN) (fun z hz => ?_)
    rw [e2] at hz
    obtain ⟨hz1, hz2, hz3⟩ := hz
    exact hrec _ _ _ hlt ⟨rfl, by rw [hz1]; rfl, hz2, (hf.trans hz3).mono (fun c hc => hc.elim id id) (fun c hc => hc.elim id id)⟩
  · have hjn : j = n := by omega
    subst hjn
    simp (disch := omega) only [u_jn, o_bind, o_nck, o_ckT, not_false_eq_true, mI_le, mI_lt, mI_eq, mI_succ, mI_8, mI_16, mI_add, i10, eq_self, if_true, if_false, Bool.false_eq_true, Nat.le_refl, ok_some]
    exact ⟨trivial, hVj, hf⟩
end PZ
