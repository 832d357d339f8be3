/-! PURE LAYER: depends, spreads -/
def sDe (v : Nat → Int32) (M : Nat) (x : Int32) : Nat → Int32
  | 0 => x
  | k + 1 => sDe v M x k ||| (if tb x k then v (8 + k) &&& sAll M else 0)
def dN (v : Nat → Int32) (M p : Nat) : Nat → Int32
  | 0 => v (8 + p) &&& sAll M
  | i + 1 => sDe v M (dN v M p i) M
def dL (v : Nat → Int32) (M p : Nat) : Nat → Int32
  | 0 => -1
  | i + 1 => dN v M p i
theorem sDe_lo {v : Nat → Int32} {M : Nat} {x : Int32} (hM : M ≤ 8) (hx : lo8 x) : ∀ k, lo8 (sDe v M x k) ∧ sub x (sDe v M x k)
  | 0 => ⟨hx, sub.rfl⟩
  | k + 1 => by
    obtain ⟨h1, h2⟩ := sDe_lo hM hx k (v := v)
    refine ⟨lo8_or h1 ?_, fun i hi => ?_⟩
    · split
      · exact lo8_and (lo8_all hM)
      · exact lo8_0
    · show tb (sDe v M x k ||| _) i = true
      rw [tb_or, h2 i hi]; rfl
theorem dN_lo {v : Nat → Int32} {M p : Nat} (hM : M ≤ 8) : ∀ i, lo8 (dN v M p i)
  | 0 => lo8_and (lo8_all hM)
  | i + 1 => (sDe_lo hM (dN_lo hM i) M).1
theorem dN_chain {v : Nat → Int32} {M p : Nat} (hM : M ≤ 8) : ∃ i0, i0 ≤ 8 ∧ (∀ i, i < i0 → dN v M p (i + 1) ≠ dN v M p i) ∧ ∀ i, i0 ≤ i → dN v M p i = dN v M p i0 := by
  refine chain (f := fun x => sDe v M x M) (fun i => rfl) (fun x => cnt x 8) (fun i => cnt_le _ 8) (fun i hne => ?_)
  exact sub_ne (sDe_lo hM (dN_lo hM i) M).2 (dN_lo hM (i + 1)) (Ne.symm hne)
theorem c_depOn {N M F p : Nat} {σ : uS} {v e : Nat → Int32} (hS : cS σ 32 M F v e) (hM8 : M ≤ 8) (hp : p < M) (hN : 500 < N) : f_X11_dependsOn N σ (mI p) = some (dN v M p 8) := by
  have t8 := hS.2.2.2.2.2.2.2.1
  unfold f_X11_dependsOn
  simp only [jn_eq]
  rw [c_seenBy (by omega) (by omega) (by omega) t8 (by omega), o_bind, show σ.1 (32 + 5) p = v (8 + p) from hS.2.1 p hp]
  refine lp2_eqa (dN v M p) mI 8 N _ (by omega) rfl rfl (fun i rec hi => ?_) (fun rec => ?_)
  · unfold b_X11_dependsOn_11
    rw [if_neg (lnle 8 8 rfl (by omega) (by omega) hi)]
    simp only [jn_eq, mI_succ]
    refine lp2_eqa (sDe v M (dN v M p i)) mI M N _ (by omega) rfl rfl (fun k rec2 hk => ?_) (fun rec2 => ?_)
    · unfold b_X11_dependsOn_23
      rw [t8, if_neg (mnle (by omega) (by omega) hk), c_seenBy (by omega) (by omega) (by omega) t8 (by omega), show σ.1 (32 + 5) k = v (8 + k) from hS.2.1 k hk]
      simp only [jn_eq, o_bind, mI_succ, bit_is (show k < 32 by omega)]
      show _ = rec2 (sDe v M (dN v M p i) k ||| _) _
      cases tb (dN v M p i) k
      · simp only [Bool.false_eq_true, if_false]
      · simp only [if_true]
    · unfold b_X11_dependsOn_23
      rw [t8, if_pos (mle (by omega) (by omega) (Nat.le_refl _))]
      rfl
  · unfold b_X11_dependsOn_11
    rw [if_pos (lle 8 8 rfl (by omega) (by omega) (Nat.le_refl _))]
theorem m_reach {N M p : Nat} {σ : uS} (hM : σ.1 0 2 = mI M) (hM8 : M ≤ 8) (hp : p < M) (hN : 500 < N) : f_X12_reached N σ 1 (mI p) = some (dN (σ.1 1) M p 8) := by
  have v1 : (1 : Nat) = 1 ∨ (1 : Nat) = 10 ∨ (1 : Nat) = 11 ∨ (1 : Nat) = 12 := by omega
  obtain ⟨i0, h1, h2, h3⟩ := dN_chain (v := σ.1 1) (p := p) hM8
  unfold f_X12_reached
  simp only [jn_eq]
  rw [m_sees v1 hM (by omega), o_bind]
  refine lp2_eqa (dN (σ.1 1) M p) (dL (σ.1 1) M p) (i0 + 1) N _ (by omega) rfl rfl (fun i rec hi => ?_) (fun rec => ?_)
  · have hne : dN (σ.1 1) M p i ≠ dL (σ.1 1) M p i := by
      cases i with
      | zero =>
        intro h
        have := dN_lo (v := σ.1 1) (p := p) hM8 0 8 (by omega)
        rw [h] at this
        have this : tb (-1) 8 = false := this
        exact absurd this (by decide)
      | succ i => exact h2 i (by omega)
    unfold b_X12_reached_10
    rw [if_neg hne]
    simp only [jn_eq]
    refine lp2_eqa (sDe (σ.1 1) M (dN (σ.1 1) M p i)) mI M N _ (by omega) rfl rfl (fun k rec2 hk => ?_) (fun rec2 => ?_)
    · unfold b_X12_reached_22
      rw [hM, if_neg (mnle (by omega) (by omega) hk), m_has _ (by omega), m_sees v1 hM (by omega)]
      simp only [jn_eq, o_bind, mI_succ]
      show _ = rec2 (sDe (σ.1 1) M (dN (σ.1 1) M p i) k ||| _) _
      cases tb (dN (σ.1 1) M p i) k
      · simp only [Bool.false_eq_true, if_false, if_true, or0]
      · simp only [if_true, i10, if_false]
    · unfold b_X12_reached_22
      rw [hM, if_pos (mle (by omega) (by omega) (Nat.le_refl _))]
      rfl
  · unfold b_X12_reached_10
    have e : dN (σ.1 1) M p (i0 + 1) = dL (σ.1 1) M p (i0 + 1) := h3 (i0 + 1) (by omega)
    rw [if_pos e, h3 (i0 + 1) (by omega), h3 8 (by omega)]
def sDp (v : Nat → Int32) (M p : Nat) : Nat → Int32
  | 0 => 0
  | k + 1 => sDp v M p k + (if tb (dN v M k 8) p then 1 else 0)
theorem n_s22_ok (N j : Nat) (hN : 500 < N) : n_s22 N (Rel N j) (Rel N (j + 1)) := by
  intro σc σm h a1
  have h := h.thr
  refine two ?_
  unfold f_X12_depends f_X11_depends
  simp only [jn_eq]
  generalize u_pI σm 0 8 0 = s1 at h ⊢
  have hmono := h.mono
  obtain ⟨M, F, ρ, hC, hTo⟩ := h
  obtain ⟨b1, b2, b3, b4, b5, b6, b7⟩ := id hC.1
  rw [c_isPerson b6.2.2.2.2.2.2.2.1 b1, m_isMan b5 b1, o_bind, o_bind]
  cases hs1 : smb a1 M
  · simp only [Bool.false_eq_true, if_false, if_true, ok_some]
    exact ⟨trivial, hmono⟩
  obtain ⟨p, hp, rfl⟩ := smb_is hs1
  simp only [if_true, i10, if_false]
  have hc : ∀ J : Int32 → Option (Int32 × uS), u_lp2 (b_X11_depends_24 N σc (mI p) J) N 0 0 = J (sDp (s1.1 1) M p M) := by
    intro J
    refine lp2_eqa (sDp (s1.1 1) M p) mI M N _ (by omega) rfl rfl (fun k rec hk => ?_) (fun rec => ?_)
    · unfold b_X11_depends_24
      rw [b6.2.2.2.2.2.2.2.1, if_neg (mnle (by omega) (by omega) hk), c_depOn b6 b1 hk hN, o_bind, bit_val (show p < 32 by omega)]
      simp only [jn_eq, mI_succ]
      rfl
    · unfold b_X11_depends_24
      rw [b6.2.2.2.2.2.2.2.1, if_pos (mle (by omega) (by omega) (Nat.le_refl _))]
  have hm : ∀ J : Int32 → Option (Int32 × uS), u_lp2 (b_X12_depends_19 N (mI p) s1 J) N 0 0 = J (sDp (s1.1 1) M p M) := by
    intro J
    refine lp2_eqa (sDp (s1.1 1) M p) mI M N _ (by omega) rfl rfl (fun k rec hk => ?_) (fun rec => ?_)
    · unfold b_X12_depends_19
      rw [b5, if_neg (mnle (by omega) (by omega) hk), m_reach b5 b1 hk hN, o_bind, m_has _ (show p < 32 by omega), o_bind]
      simp only [jn_eq, mI_succ]
      show _ = rec (sDp (s1.1 1) M p k + _) _
      cases tb (dN (s1.1 1) M k 8) p
      · simp only [Bool.false_eq_true, if_false, if_true]
      · simp only [if_true, i10, if_false]
    · unfold b_X12_depends_19
      rw [b5, if_pos (mle (by omega) (by omega) (Nat.le_refl _))]
  rw [c_depOn b6 b1 hp hN, o_bind, hc, hm, bc_f, o_bind, c_two, o_bind, ok_some, m_reach (by rw [p_Is (by omega)]; exact b5) b1 hp hN, o_bind, bc_f, o_bind, m_tell0, o_bind, m_tell1, o_bind, m_reach (by rw [mT2_s (by omega)]; exact b5) b1 hp hN, o_bind, ok_some, p_Ia (by omega), mT2_a (by omega)]
  exact ⟨rfl, rel_look2 hC fr.rfl mfr.rfl _ _⟩
def sWs (v : Nat → Int32) (M : Nat) (x : Int32) : Nat → Int32
  | 0 => 0
  | k + 1 => sWs v M x k ||| (if (v (8 + k) &&& sAll M) &&& x = 0 then (0 : Int32) else 1 <<< (mI k &&& 31))
def spN (v : Nat → Int32) (M : Nat) (x : Int32) : Nat → Int32
  | 0 => x
  | i + 1 => spN v M x i ||| sWs v M (spN v M x i) M
theorem sWs_lo {v : Nat → Int32} {M : Nat} {x : Int32} : ∀ k, k ≤ 8 → lo8 (sWs v M x k)
  | 0, _ => lo8_0
  | k + 1, h => by
    refine lo8_or (sWs_lo k (by omega)) ?_
    split
    · exact lo8_0
    · exact lo8_1 (by omega)
theorem spN_lo {v : Nat → Int32} {M : Nat} {x : Int32} (hM : M ≤ 8) (hx : lo8 x) : ∀ i, lo8 (spN v M x i)
  | 0 => hx
  | i + 1 => lo8_or (spN_lo hM hx i) (sWs_lo M hM)
theorem spN_chain {v : Nat → Int32} {M : Nat} {x : Int32} (hM : M ≤ 8) (hx : lo8 x) : ∃ i0, i0 ≤ 8 ∧ (∀ i, i < i0 → spN v M x (i + 1) ≠ spN v M x i) ∧ ∀ i, i0 ≤ i → spN v M x i = spN v M x i0 := by
  refine chain (f := fun y => y ||| sWs v M y M) (fun i => rfl) (fun x => cnt x 8) (fun i => cnt_le _ 8) (fun i hne => ?_)
  exact sub_ne (sub_or _ _) (spN_lo hM hx (i + 1)) (Ne.symm hne)
theorem c_whoSee1 {N M F : Nat} {σ : uS} {v e : Nat → Int32} (x : Int32) (hS : cS σ 32 M F v e) (hM8 : M ≤ 8) (hN : 500 < N) : f_X11_whoSeeOneOf N σ x = some (sWs v M x M) := by
  have t8 := hS.2.2.2.2.2.2.2.1
  unfold f_X11_whoSeeOneOf
  simp only [jn_eq]
  refine lp2_eqa (sWs v M x) mI M N _ (by omega) rfl rfl (fun k rec hk => ?_) (fun rec => ?_)
  · unfold b_X11_whoSeeOneOf_4
    rw [t8, if_neg (mnle (by omega) (by omega) hk), c_seenBy (by omega) (by omega) (by omega) t8 (by omega), show σ.1 (32 + 5) k = v (8 + k) from hS.2.1 k hk]
    simp only [jn_eq, o_bind, mI_succ]
    show _ = rec (sWs v M x k ||| _) _
    by_cases h : (v (8 + k) &&& sAll M) &&& x = 0
    · simp only [if_pos h]
    · simp only [if_neg h]
  · unfold b_X11_whoSeeOneOf_4
    rw [t8, if_pos (mle (by omega) (by omega) (Nat.le_refl _))]
theorem n_s27_ok (N j : Nat) (hN : 500 < N) : n_s27 N (Rel N j) (Rel N (j + 1)) := by
  intro σc σm h a1
  have h := h.thr
  refine two ?_
  unfold f_X12_spreads f_X11_spreads
  simp only [jn_eq]
  generalize u_pI σm 0 8 0 = s1 at h ⊢
  have hmono := h.mono
  obtain ⟨M, F, ρ, hC, hTo⟩ := h
  obtain ⟨b1, b2, b3, b4, b5, b6, b7⟩ := id hC.1
  have v1 : (1 : Nat) = 1 ∨ (1 : Nat) = 10 ∨ (1 : Nat) = 11 ∨ (1 : Nat) = 12 := by omega
  have t8 := b6.2.2.2.2.2.2.2.1
  rw [c_are t8 b1, m_are b5 b1, o_bind, o_bind]
  by_cases hare : a1 &&& (sAll M ^^^ (-1)) = 0
  · rw [if_pos hare, if_neg n10, if_neg n10]
    have hx : lo8 a1 := fun i hi => by
      cases ht : tb a1 i with
      | false => rfl
      | true => have := and_sub.mp hare i ht; rw [lo8_all b1 i hi] at this; cases this
    obtain ⟨i0, h1, h2, h3⟩ := spN_chain (v := s1.1 1) b1 hx
    have fold : ∀ q, spN (s1.1 1) M a1 q ||| sWs (s1.1 1) M (spN (s1.1 1) M a1 q) M = spN (s1.1 1) M a1 (q + 1) := fun q => rfl
    have hc : ∀ J : Int32 → Int32 → Int32 → Option (Int32 × uS), u_lp4 (b_X11_spreads_23 N σc J) N a1 a1 0 0 = J (spN (s1.1 1) M a1 (i0 - 1)) (spN (s1.1 1) M a1 i0) (mI i0) := by
      intro J
      refine lp4_eqa (fun i => spN (s1.1 1) M a1 (min i i0 - 1)) (fun i => spN (s1.1 1) M a1 (min i i0)) (fun i => mI (min i i0)) mI 9 N _ (by omega) (by rw [show min 0 i0 = 0 by omega]; rfl) (by rw [show min 0 i0 = 0 by omega]; rfl) (by rw [show min 0 i0 = 0 by omega]; rfl) rfl (fun i rec hi => ?_) (fun rec => ?_)
      · unfold b_X11_spreads_23
        rw [if_neg (lnlt 8 8 rfl (by omega) (by omega) (by omega)), c_whoSee1 _ b6 b1 hN, o_bind]
        simp only [jn_eq, mI_succ]
        by_cases hlt : i < i0
        · have e1 : min i i0 = i := by omega
          have e2 : min (i + 1) i0 = i + 1 := by omega
          rw [e1, e2, fold, if_neg (h2 i hlt)]
          rfl
        · have e1 : min i i0 = i0 := by omega
          have e2 : min (i + 1) i0 = i0 := by omega
          rw [e1, e2, fold, if_pos (h3 (i0 + 1) (by omega))]
      · unfold b_X11_spreads_23
        rw [if_pos (llt 8 8 rfl (by omega) (by omega) (by omega)), show min 9 i0 = i0 by omega]
    have hm : ∀ J : Int32 → Int32 → Int32 → Option (Int32 × uS), u_lp4 (b_X12_spreads_25 N s1 J) N a1 a1 0 1 = J (spN (s1.1 1) M a1 i0) (spN (s1.1 1) M a1 (i0 - 1)) (mI i0) := by
      intro J
      refine lp4_eqa (fun i => spN (s1.1 1) M a1 (min i i0)) (fun i => spN (s1.1 1) M a1 (min i i0 - 1)) (fun i => mI (min i i0)) (fun i => if i ≤ i0 then 1 else 0) (i0 + 1) N _ (by omega) (by rw [show min 0 i0 = 0 by omega]; rfl) (by rw [show min 0 i0 = 0 by omega]; rfl) (by rw [show min 0 i0 = 0 by omega]; rfl) (by rw [if_pos (Nat.zero_le _)]) (fun i rec hi => ?_) (fun rec => ?_)
      · unfold b_X12_spreads_25
        rw [if_pos (show i ≤ i0 by omega), if_neg n10]
        simp only [jn_eq, mI_succ]
        have inner : ∀ K : Int32 → Option (Int32 × uS), u_lp2 (b_X12_spreads_36 N s1 (spN (s1.1 1) M a1 (min i i0)) K) N (spN (s1.1 1) M a1 (min i i0)) 0 = K (spN (s1.1 1) M a1 (min i i0 + 1)) := by
          intro K
          generalize min i i0 = q
          refine lp2_eqa (fun k => spN (s1.1 1) M a1 q ||| sWs (s1.1 1) M (spN (s1.1 1) M a1 q) k) mI M N _ (by omega) (or0 _).symm rfl (fun k rec hk => ?_) (fun rec => ?_)
          · unfold b_X12_spreads_36
            rw [b5, if_neg (mnle (by omega) (by omega) hk), m_sees v1 b5 (by omega)]
            simp only [jn_eq, o_bind, mI_succ]
            show _ = rec (_ ||| (sWs (s1.1 1) M (spN (s1.1 1) M a1 q) k ||| _)) _
            by_cases h : (s1.1 1 (8 + k) &&& sAll M) &&& spN (s1.1 1) M a1 q = 0
            · simp only [if_pos h, or_a]
            · simp only [if_neg h, or_a]
          · unfold b_X12_spreads_36
            rw [b5, if_pos (mle (by omega) (by omega) (Nat.le_refl _))]
            rfl
        rw [inner]
        by_cases hlt : i < i0
        · have e1 : min i i0 = i := by omega
          have e2 : min (i + 1) i0 = i + 1 := by omega
          rw [e1, e2, if_neg (h2 i hlt), if_pos (show i + 1 ≤ i0 by omega)]
          rfl
        · have e1 : min i i0 = i0 := by omega
          have e2 : min (i + 1) i0 = i0 := by omega
          rw [e1, e2, if_pos (h3 (i0 + 1) (by omega)), if_neg (show ¬ i + 1 ≤ i0 by omega)]
          rfl
      · unfold b_X12_spreads_25
        rw [if_neg (show ¬ i0 + 1 ≤ i0 by omega), if_pos rfl, show min (i0 + 1) i0 = i0 by omega]
    rw [hc, hm, c_two, o_bind, ok_some, m_tell0, o_bind, m_tell1, o_bind, ok_some]
    exact ⟨rfl, rel_look2 hC fr.rfl mfr.rfl _ _⟩
  · rw [if_neg hare, if_pos rfl, if_pos rfl, ok_some, ok_some]
    exact ⟨rfl, hmono⟩
