/-! PURE LAYER: sign, sheet, cheapest, cut, circle -/
theorem tb_255 {i : Nat} (h : i < 32) : tb 255 i = decide (i < 8) := by
  have : ∀ i : Fin 32, tb 255 i.val = decide (i.val < 8) := by decide +kernel
  exact this ⟨i, h⟩
theorem tb_shr {x : Int32} {i k : Nat} (h : i + k < 32) : tb (x >>> (mI i &&& 31)) k = tb x (i + k) := by
  have e : ∀ i : Fin 32, ((mI i.val).toBitVec.smod 32).toNat = i.val := by decide +kernel
  rw [mI31 (by omega)]
  show (x >>> mI i).toBitVec.getLsbD k = _
  rw [Int32.toBitVec_shiftRight]
  show (x.toBitVec.sshiftRight ((mI i).toBitVec.smod 32).toNat).getLsbD k = _
  rw [e ⟨i, by omega⟩, BitVec.getLsbD_sshiftRight]
  have h1 : ¬ 32 ≤ k := by omega
  simp [tb, h, h1]
theorem byte_lo (x : Int32) : (Int8.toInt32 (Int32.toInt8 x)) &&& 255 = x &&& 255 := by
  apply tb_ext
  intro i hi
  rw [tb_and, tb_and, tb_255 hi]
  by_cases h : i < 8
  · have : tb (Int8.toInt32 (Int32.toInt8 x)) i = tb x i := by
      have e : (Int8.toInt32 (Int32.toInt8 x)).toBitVec = (x.toBitVec.signExtend 8).signExtend 32 := rfl
      unfold tb
      rw [e, BitVec.getLsbD_signExtend, BitVec.getLsbD_signExtend]
      simp [h, hi]
    rw [this]
  · simp [h]
theorem nar_lo (x : Int32) : u_nar 2 (Int8.toInt32 (Int32.toInt8 x)) &&& 255 = x &&& 255 := by
  have e : u_nar 2 (Int8.toInt32 (Int32.toInt8 x)) = Int8.toInt32 (Int32.toInt8 (Int8.toInt32 (Int32.toInt8 x))) := rfl
  rw [e, byte_lo, byte_lo]
theorem nar_nar (x : Int32) : u_nar 2 (u_nar 2 x) = u_nar 2 x := by
  have e : ∀ y : Int32, u_nar 2 y = Int8.toInt32 (Int32.toInt8 y) := fun _ => rfl
  rw [e, e]
  simp
theorem ushr_lo (x : Int32) (k : Nat) (hk : k < 4) : u_ushr x (24 - (8 * mI k)) &&& 255 = (x >>> ((8 * (3 - mI k)) &&& 31)) &&& 255 := by
  have hb : ∀ (s : Nat) (y : Int32), s ≤ 24 → (∀ i, i < 8 → tb y i = tb x (s + i)) → y &&& 255 = (x >>> (mI s &&& 31)) &&& 255 := by
    intro s y hs hy
    apply tb_ext
    intro i hi
    rw [tb_and, tb_and, tb_255 hi]
    by_cases h : i < 8
    · rw [hy i h, tb_shr (by omega)]
    · simp [h]
  have h4 : k = 0 ∨ k = 1 ∨ k = 2 ∨ k = 3 := by omega
  rcases h4 with rfl | rfl | rfl | rfl
  · refine hb 24 _ (by omega) (fun i hi => ?_)
    have e : (u_ushr x (24 - (8 * mI 0))).toBitVec = x.toBitVec >>> 24 := rfl
    unfold tb
    rw [e, BitVec.getLsbD_ushiftRight]
  · refine hb 16 _ (by omega) (fun i hi => ?_)
    have e : (u_ushr x (24 - (8 * mI 1))).toBitVec = x.toBitVec >>> 16 := rfl
    unfold tb
    rw [e, BitVec.getLsbD_ushiftRight]
  · refine hb 8 _ (by omega) (fun i hi => ?_)
    have e : (u_ushr x (24 - (8 * mI 2))).toBitVec = x.toBitVec >>> 8 := rfl
    unfold tb
    rw [e, BitVec.getLsbD_ushiftRight]
  · refine hb 0 _ (by omega) (fun i hi => ?_)
    have e : (u_ushr x (24 - (8 * mI 3))).toBitVec = x.toBitVec >>> 0 := rfl
    unfold tb
    rw [e, BitVec.getLsbD_ushiftRight]
theorem n_s0_ok (N j : Nat) (hN : 500 < N) : n_s0 N (Rel N j) (Rel N (j + 1)) := by
  intro σc σm h a1
  have h := h.thr
  refine two ?_
  unfold f_X12_sign f_X11_sign f_X10_add
  simp only [jn_eq]
  generalize u_pI σm 0 8 0 = s1 at h ⊢
  have hmono := h.mono
  obtain ⟨M, F, ρ, ⟨a1', ⟨T, d1, d2, d3, d4⟩, a3, a4, a5, a6⟩, hTo⟩ := h
  have hq := a6.q
  have hr := a6.r
  rw [d2, d3, if_neg (mI_n0 (by omega)), cl_2, o_bind, show (4 : Int32) = mI 4 from rfl, mI_add, show (80 : Int32) = mI 80 from rfl]
  by_cases hT : T + 4 ≤ 80
  · rw [if_pos (mle (by omega) (by omega) hT), if_pos (mle (by omega) (by omega) hT), ok_bind]
    refine lp2_ok (fun k s y => k ≤ 4 ∧ y = mI k ∧ fr (fun a => a = 2) σc s ∧ ∀ q, s.1 2 q = if T ≤ q ∧ q < T + k then u_ushr a1 (24 - (8 * mI (q - T))) &&& 255 else σc.1 2 q) 4 N _ _ (by omega) ?_ ⟨by omega, rfl, fr.rfl, fun q => by rw [if_neg (by omega)]⟩
    rintro k s y rec hk ⟨-, rfl, hf, hv⟩ hrec
    unfold b_X10_add_25
    have e1 : s.1 1 1 = mI T := by rw [hf.1 1 (by omega)]; exact d2
    by_cases hlt : k < 4
    · rw [if_neg (lnle 4 4 rfl (by omega) (by omega) hlt), e1, mI_add, cw_2 (by omega), o_bind]
      simp only [jn_eq, mI_succ]
      refine hrec _ _ hlt ⟨by omega, rfl, hf.pI rfl, fun q => ?_⟩
      by_cases hqe : q = T + k
      · rw [hqe, p_II, if_pos (by omega), show T + k - T = k by omega]
      · rw [p_Is hqe, hv q]
        by_cases h5 : T ≤ q ∧ q < T + k
        · rw [if_pos h5, if_pos (by omega)]
        · rw [if_neg h5, if_neg (by omega)]
    · have hk4 : k = 4 := by omega
      subst hk4
      rw [if_pos (lle 4 4 rfl (by omega) (by omega) (Nat.le_refl _))]
      show ok (some (1, u_pI s 1 1 (s.1 1 1 + mI 4))) _
      rw [e1, mI_add, ok_some, if_neg n10, ok_some]
      refine lp2_ok (fun k t y => k ≤ 4 ∧ y = 3 - mI k ∧ t.1 0 5 = mI (T + k) ∧ mfr (fun c => c = 3) (fun s => s = 5) s1 t ∧ ∀ q, t.1 3 q = if T ≤ q ∧ q < T + k then u_nar 2 (Int8.toInt32 (Int32.toInt8 (a1 >>> ((8 * (3 - mI (q - T))) &&& 31)))) else s1.1 3 q) 4 N _ _ (by omega) ?_ ⟨by omega, rfl, d3, mfr.rfl, fun q => by rw [if_neg (by omega)]⟩
      rintro k t y rec2 hk ⟨-, rfl, e5, hm, hw⟩ hrec2
      unfold b_X12_sign_20
      by_cases hlt2 : k < 4
      · have g1 : ∀ k : Fin 4, ¬ (3 - mI k.val) < 0 ∧ (3 - mI k.val) + (-1) = 3 - mI (k.val + 1) := by decide +kernel
        rw [if_neg (g1 ⟨k, hlt2⟩).1]
        simp only [jn_eq]
        rw [e5, mI_succ, mw_3 (by omega), o_bind, (g1 ⟨k, hlt2⟩).2]
        refine hrec2 _ _ hlt2 ⟨by omega, rfl, by rw [p_Ia (by omega), p_II]; rfl, (hm.p0 rfl).pI (by omega) rfl, fun q => ?_⟩
        by_cases hqe : q = T + k
        · rw [hqe, p_II, if_pos (by omega), show T + k - T = k by omega]
        · rw [p_Is hqe, p_Ia (by omega), hw q]
          by_cases h5 : T ≤ q ∧ q < T + k
          · rw [if_pos h5, if_pos (by omega)]
          · rw [if_neg h5, if_neg (by omega)]
      · have hk4 : k = 4 := by omega
        subst hk4
        rw [if_pos (show (3 - mI 4 : Int32) < 0 by decide), ok_some, p_II, e5]
        have pc : ∀ a, a ≠ 1 → a ≠ 2 → (u_pI s 1 1 (mI (T + 4))).1 a = σc.1 a := fun a h1 h2 => by rw [p_Ia h1, hf.1 a h2]
        refine ⟨rfl, M, F, ρ, ⟨a1'.to (by omega) (fun a x y => pc a (by omega) (by omega)) (hm.1 1 (by omega) (by omega)) (hm.1 2 (by omega) (by omega)) (hm.2.1 1 (by omega)) (hm.2.1 2 (by omega)), ⟨T + 4, by omega, p_II _ _ _ _, e5, fun q hq => ?_⟩, a3.to (pc 8 (by omega) (by omega)) (hm.1 16 (by omega) (by omega)) (hm.2.1 29 (by omega)) (hm.2.1 30 (by omega)), a4.to (by omega) (fun a x y => pc a (by omega) (by omega)) (by rw [pc 5 (by omega) (by omega)]) (by rw [p_IL, hf.2]) (hm.1 9 (by omega) (by omega)) (hm.1 2 (by omega) (by omega)) (hm.2.1 21 (by omega)), a5.to (by omega) (by omega) (fun a x y => pc a (by omega) (by omega)) (by rw [pc 5 (by omega) (by omega)]) (by rw [p_IL, hf.2]) (hm.1 18 (by omega) (by omega)) (hm.1 2 (by omega) (by omega)) (hm.1 19 (by omega) (by omega)) (hm.1 20 (by omega) (by omega)) (hm.2.1 33 (by omega)), a6.to (fun r h => ⟨pc r (by have := hr r h; omega) (by have := hr r h; omega), pc (r + 1) (by have := hr r h; omega) (by have := hr r h; omega)⟩) (by rw [p_IL, hf.2]) (fun q h => hm.1 q (by have := hq q h; omega) (by have := hq q h; omega)) (hm.2.2.2 0 15 (by omega)) (hm.2.2.2 0 16 (by omega)) (hm.2.1 17 (by omega))⟩, hTo.to (by rw [pc 3 (by omega) (by omega)]) (by rw [p_IL, hf.2]) (by rw [hm.2.2.1]) (hm.2.1 7 (by omega))⟩
        rw [p_Ia (by omega), hv q, hw q]
        by_cases h5 : T ≤ q ∧ q < T + 4
        · rw [if_pos h5, if_pos h5, nar_lo, ushr_lo _ _ (by omega)]
          exact ⟨rfl, nar_nar _⟩
        · rw [if_neg h5, if_neg h5]; exact d4 q (by omega)
  · rw [if_neg (mnle (by omega) (by omega) (by omega)), if_neg (mnle (by omega) (by omega) (by omega)), o_bind, if_pos rfl, ok_some, ok_some]
    exact ⟨rfl, hmono⟩
def shE (kind x : Int32) : Int32 := if kind = 0 then Int8.toInt32 (Int32.toInt8 x) else if kind = 1 then Int16.toInt32 (Int32.toInt16 x) else x
def shB (kind n f st : Int32) (k : Nat) : Int32 := if kind = 3 then 0 else if mI k < n then clamp (shE kind (f + mI k * st)) else 0
def shV (v nb : Nat → Int32) (M : Nat) : Nat → Int32 := fun q => if q < M then nb q else v q
theorem dg_shB (kind n f st : Int32) (k : Nat) : dg (shB kind n f st k) := by
  unfold shB
  split
  · exact ⟨0, by omega, rfl⟩
  · split
    · exact dg_clamp _
    · exact ⟨0, by omega, rfl⟩
theorem n_s7_ok (N j : Nat) (hN : 500 < N) : n_s7 N (Rel N j) (Rel N (j + 1)) := by
  intro σc σm h a1 a2 a3 a4
  have h := h.thr
  refine two ?_
  unfold f_X12_sheet f_X11_sheet
  simp only [jn_eq]
  generalize u_pI σm 0 8 0 = s1 at h ⊢
  have hmono := h.mono
  obtain ⟨M, F, ρ, hC, hTo⟩ := h
  obtain ⟨b1, b2, b3, b4, b5, b6, b7⟩ := id hC.1
  have t8 := b6.2.2.2.2.2.2.2.1
  rw [m_in, o_bind]
  by_cases c1 : a1 < 0
  · rw [if_pos c1, if_pos c1, if_pos rfl, ok_some, ok_some]
    exact ⟨rfl, hmono⟩
  by_cases c2 : 3 < a1
  · rw [if_neg c1, if_pos c2, if_neg c1, if_pos c2, if_pos rfl, ok_some, ok_some]
    exact ⟨rfl, hmono⟩
  simp only [if_neg c1, if_neg c2, i10, if_false, if_true]
  by_cases c3 : a2 ≤ 8
  · rw [if_pos c3, if_pos c3]
    have hv : vok (600 * (j + 1)) M F (shV (s1.1 1) (shB a1 a2 a3 a4) M) := by
      obtain ⟨x1, x2, ⟨L, R, x3, x4, x5, x6⟩, x7, d, x8, x9⟩ := b7
      refine ⟨fun p hp => ?_, fun f hf => ?_, ⟨L, R, x3, x4, ?_, ?_⟩, ?_, d, by omega, ?_⟩
      · unfold shV; rw [if_pos hp]; exact dg_shB _ _ _ _ _
      · unfold shV; rw [if_neg (by omega)]; exact x2 f hf
      · unfold shV; rw [if_neg (by omega)]; exact x5
      · unfold shV; rw [if_neg (by omega)]; exact x6
      · unfold shV; rw [if_neg (by omega)]; exact x7
      · unfold shV; rw [if_neg (by omega)]; exact x9
    have fin : ∀ s t, fr (fun a => a = 34) σc s → (∀ q, q < M → s.1 34 q = shB a1 a2 a3 a4 q) → mfr (fun c => c = 1 ∨ c = 8 ∨ c = 13) T0 s1 t → (∀ q, q < 37 → t.1 1 q = shV (s1.1 1) (shB a1 a2 a3 a4) M q) → Rel N (j + 1) s t ∧ cS s 32 M F (shV (s1.1 1) (shB a1 a2 a3 a4) M) (s1.1 2) := by
      intro s t hf hs hm ht
      obtain ⟨t1, t2, t3, t4, t5, t6, t7, t8, t9, t10, t11⟩ := id b6
      have e0 : s.1 32 = σc.1 32 := hf.1 32 (by omega)
      have h32 : cS s 32 M F (shV (s1.1 1) (shB a1 a2 a3 a4) M) (s1.1 2) := by
        refine ⟨fun p hp => ?_, fun p hp => ?_, fun p hp => ?_, fun f hf2 => ?_, by rw [e0]; exact t5, ?_, ?_, by rw [e0]; exact t8, ?_, ?_, ?_⟩
        · unfold shV; rw [if_pos hp]; exact hs p hp
        · unfold shV; rw [if_neg (by omega), hf.1 (32 + 5) (by omega)]; exact t2 p hp
        · rw [hf.1 (32 + 4) (by omega)]; exact t3 p hp
        · unfold shV; rw [if_neg (by omega), hf.1 (32 + 1) (by omega)]; exact t4 f hf2
        · unfold shV; rw [if_neg (by omega), e0]; exact t6
        · unfold shV; rw [if_neg (by omega), e0]; exact t7
        · unfold shV; rw [if_neg (by omega), e0]; exact t9
        · unfold shV; rw [if_neg (by omega), e0]; exact t10
        · unfold shV; rw [if_neg (by omega), e0]; exact t11
      refine ⟨⟨M, F, ρ, hC.now h32 ⟨fun a x _ _ _ _ _ => hf.1 a (by omega), hf.2⟩ hv hm ht, hTo.to (by rw [hf.1 3 (by omega)]) (by rw [hf.2]) (by rw [hm.2.2.1]) (hm.2.1 7 (by unfold T0; omega))⟩, h32⟩
    have cl : ∀ (t4 : Int32) (J : uS → Option (Int32 × uS)) (Q : Int32 × uS → Prop), (∀ k, k < M → (t4 ≤ mI k) = (a1 = 3 ∨ ¬ mI k < a2)) → (∀ s, fr (fun a => a = 34) σc s → (∀ q, q < M → s.1 34 q = shB a1 a2 a3 a4 q) → ok (J s) Q) → ok (u_lp2 (b_X11_sheet_56 N a1 a3 a4 t4 J) N σc 0) Q := by
      intro t4 J Q ht hJ
      refine lp2_ok (fun k s y => k ≤ M ∧ y = mI k ∧ fr (fun a => a = 34) σc s ∧ ∀ q, q < k → s.1 34 q = shB a1 a2 a3 a4 q) M N _ _ (by omega) ?_ ⟨by omega, rfl, fr.rfl, fun q hq => absurd hq (by omega)⟩
      rintro k s y rec hk ⟨-, rfl, hf, hs⟩ hrec
      unfold b_X11_sheet_56
      rw [hf.1 32 (by omega), t8]
      by_cases hlt : k < M
      · rw [if_neg (mnle (by omega) (by omega) hlt)]
        simp only [jn_eq, mI_succ, ht k hlt, cw_34 (show k < 8 by omega), o_bind]
        have step : ∀ x, x = shB a1 a2 a3 a4 k → ok (rec (u_pI s 34 k x) (mI (k + 1))) Q := fun x hx => hrec _ _ hlt ⟨by omega, rfl, hf.pI rfl, fun q hq => by
          by_cases hqe : q = k
          · rw [hqe, p_II]; exact hx
          · rw [p_Is hqe]; exact hs q (by omega)⟩
        by_cases c4 : a1 = 3
        · rw [if_pos (Or.inl c4)]
          exact step 0 (by unfold shB; rw [if_pos c4])
        · by_cases c5 : mI k < a2
          · rw [if_neg (fun h => h.elim c4 (fun h => h c5))]
            have e : f_X11_sheetEntry N s a1 (a3 + mI k * a4) = some (shE a1 (a3 + mI k * a4)) := by
              unfold f_X11_sheetEntry shE
              split
              · rfl
              · split <;> rfl
            rw [e, o_bind]
            unfold f_X11_digitOf
            rw [o_bind]
            exact step _ (by unfold shB; rw [if_neg c4, if_pos c5]; rfl)
          · rw [if_pos (Or.inr c5)]
            exact step 0 (by unfold shB; rw [if_neg c4, if_neg c5])
      · have hkM : k = M := by omega
        subst hkM
        rw [if_pos (mle (by omega) (by omega) (Nat.le_refl _))]
        exact hJ s hf hs
    have ml : ∀ (J : uS → Int32 → Option (Int32 × uS)) (Q : Int32 × uS → Prop), (∀ t, mfr (fun c => c = 1 ∨ c = 8 ∨ c = 13) T0 s1 t → (∀ q, q < 37 → t.1 1 q = shV (s1.1 1) (shB a1 a2 a3 a4) M q) → ok (J t (sSum (shB a1 a2 a3 a4) M)) Q) → ok (u_lp4 (b_X12_sheet_43 a1 a2 a4 J) N s1 0 a3 0) Q := by
      intro J Q hJ
      refine lp4_ok (fun k t x y z => k ≤ M ∧ z = mI k ∧ x = sSum (shB a1 a2 a3 a4) k ∧ y = a3 + mI k * a4 ∧ mfr (fun c => c = 1 ∨ c = 8 ∨ c = 13) T0 s1 t ∧ ∀ q, t.1 1 q = if q < k then shB a1 a2 a3 a4 q else s1.1 1 q) M N _ _ _ _ (by omega) ?_ ⟨by omega, rfl, rfl, by rw [show mI 0 = 0 from rfl, Int32.zero_mul, Int32.add_zero], mfr.rfl, fun q => by rw [if_neg (by omega)]⟩
      rintro k t x y z rec hk ⟨-, rfl, rfl, rfl, hm, hs⟩ hrec
      unfold b_X12_sheet_43
      rw [hm.2.1 2 (by unfold T0; omega), b5]
      by_cases hlt : k < M
      · rw [if_neg (mnle (by omega) (by omega) hlt)]
        have ey : a3 + mI k * a4 + a4 = a3 + mI (k + 1) * a4 := by
          rw [← mI_succ, Int32.add_mul, Int32.one_mul, Int32.add_assoc]
        simp only [jn_eq, mI_succ, ey, mw_1 (show k < 37 by omega), o_bind, mr_1 (show k < 37 by omega), p_II]
        have step : ∀ x, x = shB a1 a2 a3 a4 k → ok (rec (u_pI t 1 k x) (sSum (shB a1 a2 a3 a4) k + x) (a3 + mI (k + 1) * a4) (mI (k + 1))) Q := fun x hx => hrec _ _ _ _ hlt ⟨by omega, rfl, by rw [hx]; rfl, rfl, hm.pI (by omega) (Or.inl rfl), fun q => by
          by_cases hqe : q = k
          · rw [hqe, p_II, if_pos (by omega)]; exact hx
          · rw [p_Is hqe, hs q]
            by_cases h5 : q < k
            · rw [if_pos h5, if_pos (by omega)]
            · rw [if_neg h5, if_neg (by omega)]⟩
        by_cases c4 : a1 = 3
        · simp only [if_pos c4]
          have := step 0 (by unfold shB; rw [if_pos c4])
          split
          · exact this
          · split <;> exact this
        · simp only [if_neg c4]
          by_cases c5 : mI k < a2
          · simp only [if_pos c5]
            have st2 := step _ (by unfold shB; rw [if_neg c4, if_pos c5])
            unfold shE clamp at st2
            by_cases d0 : a1 = 0
            · simp only [if_pos d0] at st2 ⊢; exact st2
            · by_cases d1 : a1 = 1
              · simp only [if_neg d0, if_pos d1] at st2 ⊢; exact st2
              · simp only [if_neg d0, if_neg d1] at st2 ⊢; exact st2
          · simp only [if_neg c5]
            have := step 0 (by unfold shB; rw [if_neg c4, if_neg c5])
            split
            · exact this
            · split <;> exact this
      · have hkM : k = M := by omega
        subst hkM
        rw [if_pos (mle (by omega) (by omega) (Nat.le_refl _))]
        exact hJ t hm (fun q hq => hs q)
    by_cases c4 : a1 = 3
    · have c5 : (3 : Int32) ≤ a1 := by rw [c4]; decide
      rw [if_pos c4, if_pos c5]
      refine cl 0 _ _ (fun k hk => ?_) (fun s hf hs => ?_)
      · exact propext ⟨fun _ => Or.inl c4, fun _ => lle 0 0 rfl (by omega) (by omega) (by omega)⟩
      · show ok (some (-3, s)) _
        rw [ok_some]
        refine ml _ _ (fun t hm ht => ?_)
        show ok (if a1 = 3 then _ else _) _
        rw [if_pos c4, ok_some]
        exact ⟨rfl, (fin s t hf hs hm ht).1⟩
    · have c5 : ¬ (3 : Int32) ≤ a1 := fun h => c4 (Int32.le_antisymm (Int32.not_lt.mp c2) h)
      rw [if_neg c4, if_neg c5]
      by_cases c6 : 0 ≤ a2
      · rw [if_pos c6, if_pos c6]
        refine cl a2 _ _ (fun k hk => ?_) (fun s hf hs => ?_)
        · exact propext ⟨fun h => Or.inr (Int32.not_lt.mpr h), fun h => h.elim (fun h => absurd h c4) (fun h => Int32.not_lt.mp h)⟩
        · have hb : f_X7_beliefOfAll N s 32 = some (sSum (shB a1 a2 a3 a4) M) := by
            rw [c_beliefOfAll (by omega) (by omega) (by omega) (by rw [hf.1 32 (by omega)]; exact t8) b1 hN]
            congr 1
            exact sSum_congr hs
          show ok ((f_X7_beliefOfAll N s 32).bind fun v8 => some (v8, s)) _
          rw [hb, o_bind, ok_some]
          refine ml _ _ (fun t hm ht => ?_)
          show ok (if a1 = 3 then _ else _) _
          rw [if_neg c4, ok_some]
          exact ⟨rfl, (fin s t hf hs hm ht).1⟩
      · rw [if_neg c6, if_neg c6, ok_some, ok_some]
        exact ⟨rfl, hmono⟩
  · rw [if_neg c3, if_neg c3, ok_some, ok_some]
    exact ⟨rfl, hmono⟩
theorem n_s35_ok (N j : Nat) (hN : 500 < N) : n_s35 N (Rel N j) (Rel N (j + 1)) := by
  intro σc σm h a1
  have h := h.thr
  refine two ?_
  unfold f_X12_cheapest f_X11_cheapest
  simp only [jn_eq]
  generalize u_pI σm 0 8 0 = s1 at h ⊢
  have hmono := h.mono
  obtain ⟨M, F, ρ, hC, hTo⟩ := h
  obtain ⟨b1, b2, b3, b4, b5, b6, b7⟩ := id hC.1
  have t5 := b6.2.2.2.2.1
  have v1 : (1 : Nat) = 1 ∨ (1 : Nat) = 10 ∨ (1 : Nat) = 11 ∨ (1 : Nat) = 12 := by omega
  rw [t5, b4]
  by_cases c1 : 1 ≤ a1
  · by_cases c2 : a1 ≤ mI F
    · rw [if_pos c1, if_pos c2, if_pos c1, if_pos c2]
      obtain ⟨k, hk1, hkF, rfl⟩ := rng (p := a1) (lo := 1) (hi := F) (by omega) (by omega) (Int32.not_lt.mpr c1) (Int32.not_lt.mpr c2)
      have hcc : ∀ L, L + k ≤ F → f_X7_cornOf N σc 32 (mI L) (mI (L + k) - 1) = some (sSum (fun i => s1.1 1 (16 + (L + i))) k) := by
        intro L hL
        rw [mI_pred (by omega) (by omega), c_cornOf (by omega) (by omega) (by omega) t5 b3 hL (by omega) hN]
        congr 1
        exact sSum_congr (fun i hi => b6.2.2.2.1 (L + i) (by omega))
      have hmc : ∀ (t : uS) L, t.1 1 = s1.1 1 → L + k ≤ F → f_X12_corn N t 1 (mI L) (mI (L + k) - 1) = some (sSum (fun i => s1.1 1 (16 + (L + i))) k) := by
        intro t L ht hL
        rw [mI_pred (by omega) (by omega), m_corn v1 (by omega) (by omega) hN, ht]
      have h0 := hcc 0 (by omega)
      rw [show (0 : Nat) + k = k by omega] at h0
      rw [show (0 : Int32) = mI 0 from rfl, h0, o_bind]
      refine lpr32 (fun i y1 y2 y3 z1 z2 => i ≤ F - k ∧ y3 = mI (i + 1) ∧ z2 = mI (i + 1) ∧ ∃ b, b + k ≤ F ∧ y1 = mI b ∧ z1 = mI b ∧ y2 = sSum (fun i => s1.1 1 (16 + (b + i))) k) (F - k) N _ _ _ _ _ (by omega) ?_ ⟨by omega, rfl, rfl, 0, by omega, rfl, rfl, rfl⟩
      rintro i y1 y2 y3 z1 z2 rec rec2 hi ⟨-, rfl, rfl, b, hb, rfl, rfl, rfl⟩ hrec
      unfold b_X11_cheapest_38 b_X12_cheapest_27
      rw [t5, b4]
      simp only [mI_add, jn_eq, mI_succ]
      by_cases hlt : i < F - k
      · rw [if_neg (mnlt (by omega) (by omega) (by omega)), if_neg (mnlt (by omega) (by omega) (by omega)), hcc (i + 1) (by omega), hmc s1 (i + 1) rfl (by omega), hmc s1 b rfl hb]
        simp only [o_bind]
        by_cases c : sSum (fun i => s1.1 1 (16 + (b + i))) k ≤ sSum (fun i' => s1.1 1 (16 + (i + 1 + i'))) k
        · rw [if_pos c, if_pos c]
          exact hrec _ _ _ _ _ hlt ⟨by omega, rfl, rfl, b, hb, rfl, rfl, rfl⟩
        · rw [if_neg c, if_neg c]
          exact hrec _ _ _ _ _ hlt ⟨by omega, rfl, rfl, i + 1, by omega, rfl, rfl, rfl⟩
      · rw [if_pos (mlt (by omega) (by omega) (by omega)), if_pos (mlt (by omega) (by omega) (by omega)), c_two, o_bind, ok_some, show (mI 0 : Int32) = 0 from rfl, m_tell0, o_bind, m_tell1, o_bind, hmc _ b (mT2_a (by omega)) hb, o_bind, ok_some]
        exact ⟨rfl, rel_look2 hC fr.rfl mfr.rfl _ _⟩
    · rw [if_pos c1, if_neg c2, if_pos c1, if_neg c2, ok_some, ok_some]
      exact ⟨rfl, hmono⟩
  · rw [if_neg c1, if_neg c1, ok_some, ok_some]
    exact ⟨rfl, hmono⟩
