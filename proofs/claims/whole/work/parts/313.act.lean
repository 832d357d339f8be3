/-! PURE LAYER: something is done that can be undone -/
/-- what the reference leaves that has remembered -/
def mAct (σm sm : uS) (v' : Nat → Int32) (U : Nat) : Prop := (∀ j, j < 37 → sm.1 1 j = v' j) ∧ sm.1 0 21 = mI (nx U + 1) ∧ (∀ u, u < nx U → ∀ j, j < 37 → sm.1 9 (37 * u + j) = σm.1 9 (37 * (u + sh U) + j)) ∧ (∀ j, j < 37 → sm.1 9 (37 * nx U + j) = σm.1 1 j) ∧ (∀ c, c = 2 ∨ c = 3 ∨ c = 6 ∨ c = 7 ∨ c = 16 ∨ c = 18 ∨ c = 19 ∨ c = 20 → sm.1 c = σm.1 c) ∧ (∀ s, s = 1 ∨ s = 2 ∨ s = 5 ∨ s = 17 ∨ s = 29 ∨ s = 30 ∨ s = 33 → sm.1 0 s = σm.1 0 s) ∧ ∀ s, s ≠ 9 → sm.2.2 0 s = σm.2.2 0 s
/-- what the class changes till then -/
def cAct (σc s2 : uS) : Prop := (∀ a, ¬ (32 ≤ a ∧ a < 38) → ¬ (44 ≤ a ∧ a < 50) → a ≠ 25 → a ≠ 26 → a ≠ 30 → a ≠ 31 → s2.1 a = σc.1 a) ∧ s2.2 = σc.2
theorem act_rel {N j M F U : Nat} {ρ : Rho} {σc σm s2 sm : uS} {v' : Nat → Int32} (h : RelC N j M F ρ σc σm) (h32 : cS s2 32 M F v' (σm.1 2)) (h44 : cS s2 44 M F (σm.1 1) (σm.1 2)) (hc : cAct σc s2) (hv : vok (600 * (j + 1)) M F v') (hU : σm.1 0 21 = mI U) (hU12 : U ≤ 12) (hm : mAct σm sm v' U) (hN : 500 < N) : ok (f_X3_push N s2 44) (fun s3 => RelC N (j + 1) M F ρ s3 sm ∧ (∀ a, a ≠ 5 → a < 50 → s3.1 a = s2.1 a) ∧ s3.2.1 = σc.2.1) := by
  obtain ⟨a1, a2, a3, a4, a5, a6⟩ := h
  obtain ⟨b1, b2, b3, b4, b5, b6, b7⟩ := a1
  obtain ⟨U', st, p1, p2, p3, p4, p5, p6⟩ := a4
  have hUU : U' = U := by rw [p3, mI_eq (by omega) (by omega)] at hU; exact hU
  subst hUU
  obtain ⟨m1, m2, m3, m4, m5, m6, m7⟩ := hm
  have hP : cP s2 U' st := ⟨p1, by rw [hc.1 5 (by omega) (by omega) (by omega) (by omega) (by omega) (by omega)]; exact p2, by rw [hc.2]; exact p4, p5⟩
  have hrr := a6.r
  have hqq := a6.q
  have hnx : nx U' < 12 := by unfold nx; split <;> omega
  have hnu : nx U' + sh U' = U' := by unfold nx sh; split <;> omega
  refine ok_mono (c_push hP h44 b1 b3 hN) (fun s3 hs3 => ?_)
  obtain ⟨q1, q2, q3, q4, q5, q6⟩ := hs3
  obtain ⟨w1, w2, w3, w4⟩ := q1
  obtain ⟨x1, x2, x3, x4⟩ := w3 (nx U') hnx
  have e3 : ∀ a, a ≠ 5 → a < 50 → s3.1 a = s2.1 a := fun a h5 h50 => q3 a (by omega) h5
  have ek : ∀ a, 122 ≤ a → s3.1 a = σc.1 a := fun a h5 => by rw [q3 a (by omega) (by omega), hc.1 a (by omega) (by omega) (by omega) (by omega) (by omega) (by omega)]
  have e1 : sm.1 0 1 = σm.1 0 1 := m6 1 (by omega)
  have e2 : sm.1 2 = σm.1 2 := m5 2 (by omega)
  refine ⟨⟨⟨b1, b2, b3, by rw [e1]; exact b4, by rw [m6 2 (by omega)]; exact b5, ?_, ?_⟩, a2.to ?_ ?_ (m5 3 (by omega)) (m6 5 (by omega)), a3.to ?_ (m5 16 (by omega)) (m6 29 (by omega)) (m6 30 (by omega)), ?_, a5.to (by omega) (by omega) (fun a x y => ek a x) ?_ ?_ (m5 18 (by omega)) e2 (m5 19 (by omega)) (m5 20 (by omega)) (m6 33 (by omega)), a6.to (fun r hr => ?_) ?_ (fun q hq => ?_) (m7 15 (by omega)) (m7 16 (by omega)) (m6 17 (by omega))⟩, e3, ?_⟩
  · rw [e2]
    exact cS_congr b1 b3 (fun j hj => (m1 j hj).symm) (fun _ _ => rfl) (cS_eq h32 (fun a x y => e3 a (by omega) (by omega)))
  · exact vok_congr b1 b3 (fun j hj => (m1 j hj).symm) hv
  · rw [e3 1 (by omega) (by omega), hc.1 1 (by omega) (by omega) (by omega) (by omega) (by omega) (by omega)]
  · rw [e3 2 (by omega) (by omega), hc.1 2 (by omega) (by omega) (by omega) (by omega) (by omega) (by omega)]
  · rw [e3 8 (by omega) (by omega), hc.1 8 (by omega) (by omega) (by omega) (by omega) (by omega) (by omega)]
  · refine ⟨nx U' + 1, rot U' st, by omega, w2, m2, w3, w4, fun u hu => ?_⟩
    by_cases hun : u = nx U'
    · subst hun
      rw [e2]
      exact ⟨cS_congr b1 b3 (fun j hj => (m4 j hj).symm) (fun _ _ => rfl) q2, vok_congr b1 b3 (fun j hj => (m4 j hj).symm) (vok_le b7 (by omega))⟩
    · have hu2 : u < nx U' := by omega
      have hus : u + sh U' < U' := by omega
      obtain ⟨o1, o2⟩ := p6 (u + sh U') hus
      have er : rot U' st u = st (u + sh U') := by
        unfold rot sh
        by_cases h12 : U' = 12
        · rw [if_pos h12, if_pos h12, if_pos (by unfold nx at hu2; rw [if_pos h12] at hu2; exact hu2)]
        · rw [if_neg h12, if_neg h12]; rfl
      have hne : rot U' st u ≠ rot U' st (nx U') := fun he => hun (w4 u (nx U') (by omega) hnx he)
      obtain ⟨y1, y2, y3, y4⟩ := w3 u (by omega)
      rw [e2]
      refine ⟨cS_congr b1 b3 (fun j hj => (m3 u hu2 j hj).symm) (fun _ _ => rfl) ?_, vok_congr b1 b3 (fun j hj => (m3 u hu2 j hj).symm) (vok_le o2 (by omega))⟩
      rw [er] at hne y2 y3 y4 ⊢
      refine cS_eq o1 (fun a x y => ?_)
      rw [q3 a (by omega) (by omega), hc.1 a (by omega) (by omega) (by omega) (by omega) (by omega) (by omega)]
  · rw [q4, hc.1 5 (by omega) (by omega) (by omega) (by omega) (by omega) (by omega)]
  · rw [q6 7 (by omega), hc.2]
  · have := hrr r hr
    rw [e3 r (by omega) (by omega), e3 (r + 1) (by omega) (by omega), hc.1 r (by omega) (by omega) (by omega) (by omega) (by omega) (by omega), hc.1 (r + 1) (by omega) (by omega) (by omega) (by omega) (by omega) (by omega)]
    exact ⟨rfl, rfl⟩
  · rw [q6 0 (by omega), hc.2]
  · have := hqq q hq
    exact m5 q (by omega)
  · rw [q5, hc.2]
theorem RelC.U {N j M F : Nat} {ρ : Rho} {σc σm : uS} (h : RelC N j M F ρ σc σm) : ∃ U, U ≤ 12 ∧ σm.1 0 21 = mI U := by
  obtain ⟨-, -, -, ⟨U, st, h1, h2, h3, -⟩, -⟩ := h
  exact ⟨U, h1, h3⟩
/-- the class sets aside what stands now -/
theorem c_ahead {N j M F : Nat} {ρ : Rho} {σc σm : uS} (h : RelC N j M F ρ σc σm) : ok (f_X7_copy N σc 44 32) (fun s => cS s 44 M F (σm.1 1) (σm.1 2) ∧ cS s 32 M F (σm.1 1) (σm.1 2) ∧ fr (fun a => a = 44 ∨ a = 45 ∨ a = 46 ∨ a = 48 ∨ a = 49) σc s) := by
  obtain ⟨⟨b1, b2, b3, b4, b5, b6, b7⟩, -⟩ := h
  refine ok_mono (c_copy (by omega) (by omega) (by omega) (by omega) (by omega) (by omega) (by omega) b6 b1 b3) (fun s hs => ?_)
  exact ⟨hs.1, b6.fr hs.2 (by omega) (by omega) (by omega) (by omega) (by omega), hs.2⟩
/-- refused: only the row set aside changed -/
theorem rel_ahead {N j M F : Nat} {ρ : Rho} {σc σm s : uS} (h : RelC N j M F ρ σc σm) (hT : rTold σc σm) (hf : fr (fun a => a = 44 ∨ a = 45 ∨ a = 46 ∨ a = 48 ∨ a = 49) σc s) : Rel N (j + 1) s σm := by
  have hr := h.2.2.2.2.2.r
  refine ⟨M, F, ρ, h.to ⟨fun a ha => hf.1 a (by unfold coreC at ha; omega), fun r hr2 => ?_, by rw [hf.2]⟩ mK.rfl, hT.to (by rw [hf.1 3 (by omega)]) (by rw [hf.2]) rfl rfl⟩
  have := hr r hr2
  exact ⟨hf.1 r (by omega), hf.1 (r + 1) (by omega)⟩
def upV (v : Nat → Int32) (k : Nat) (x : Int32) : Nat → Int32 := fun j => if j = k then x else v j
theorem upV_ne {v : Nat → Int32} {k j : Nat} {x : Int32} (h : j ≠ k) : upV v k x j = v j := by unfold upV; rw [if_neg h]
theorem upV_eq {v : Nat → Int32} {k : Nat} {x : Int32} : upV v k x k = x := by unfold upV; rw [if_pos rfl]
theorem pu_eq {σ : uS} {c l a b k k' : Nat} {x : Int32} {v : Nat → Int32} (h : σ.1 a b = v k') (hi : (a = c ∧ b = l) ↔ k' = k) : (u_pI σ c l x).1 a b = upV v k x k' := by
  by_cases hk : k' = k
  · obtain ⟨rfl, rfl⟩ := hi.mpr hk
    rw [hk, p_II, upV_eq]
  · rw [upV_ne hk, ← h]
    exact p_In (by
      by_cases ha : a = c
      · right; intro hb; exact hk (hi.mp ⟨ha, hb⟩)
      · left; exact ha)
theorem cS_up {σ : uS} {i M F c l k : Nat} {x : Int32} {v e : Nat → Int32} (hM : M ≤ 8) (hF : F ≤ 16) (h : cS σ i M F v e) (hw : (c = i ∧ (l = 6 ∧ k = 32 ∨ l = 7 ∧ k = 33 ∨ l = 9 ∧ k = 34 ∨ l = 10 ∧ k = 35 ∨ l = 11 ∧ k = 36)) ∨ (c = i + 2 ∧ l < 8 ∧ k = l) ∨ (c = i + 5 ∧ l < 8 ∧ k = 8 + l) ∨ (c = i + 1 ∧ l < 16 ∧ k = 16 + l)) : cS (u_pI σ c l x) i M F (upV v k x) e := by
  obtain ⟨t1, t2, t3, t4, t5, t6, t7, t8, t9, t10, t11⟩ := h
  refine ⟨fun q hq => pu_eq (t1 q hq) (by omega), fun q hq => pu_eq (t2 q hq) (by omega), fun q hq => ?_, fun f hf => pu_eq (t4 f hf) (by omega), ?_, pu_eq t6 (by omega), pu_eq t7 (by omega), ?_, pu_eq t9 (by omega), pu_eq t10 (by omega), pu_eq t11 (by omega)⟩
  · rw [p_In (by omega)]; exact t3 q hq
  · rw [p_In (by omega)]; exact t5
  · rw [p_In (by omega)]; exact t8
theorem vok_sig {B M F : Nat} {v : Nat → Int32} {x : Int32} (hM : M ≤ 8) (hF : F ≤ 16) (h : vok B M F v) (hx : lo8 x) : vok B M F (upV v 34 x) := by
  obtain ⟨x1, x2, ⟨L, R, x3, x4, x5, x6⟩, x7, d, x8, x9⟩ := h
  exact ⟨fun q hq => by rw [upV_ne (by omega)]; exact x1 q hq, fun f hf => by rw [upV_ne (by omega)]; exact x2 f hf, ⟨L, R, x3, x4, by rw [upV_ne (by omega)]; exact x5, by rw [upV_ne (by omega)]; exact x6⟩, by rw [upV_eq]; exact hx, d, x8, by rw [upV_ne (by omega)]; exact x9⟩
theorem vok_dg {B M F k : Nat} {v : Nat → Int32} {x : Int32} (hM : M ≤ 8) (hF : F ≤ 16) (h : vok B M F v) (hk : k < 32) (hx : dg x ∨ (8 ≤ k ∧ k < 16)) : vok B M F (upV v k x) := by
  obtain ⟨x1, x2, ⟨L, R, x3, x4, x5, x6⟩, x7, d, x8, x9⟩ := h
  refine ⟨fun q hq => ?_, fun f hf => ?_, ⟨L, R, x3, x4, by rw [upV_ne (by omega)]; exact x5, by rw [upV_ne (by omega)]; exact x6⟩, by rw [upV_ne (by omega)]; exact x7, d, x8, by rw [upV_ne (by omega)]; exact x9⟩
  · by_cases hq2 : q = k
    · rw [hq2, upV_eq]; exact hx.elim id (fun h => absurd hq (by omega))
    · rw [upV_ne hq2]; exact x1 q hq
  · by_cases hq2 : 16 + f = k
    · rw [hq2, upV_eq]; exact hx.elim id (fun h => absurd hf (by omega))
    · rw [upV_ne hq2]; exact x2 f hf
theorem mAct_of {σm s3 : uS} {U k : Nat} {x : Int32} (h1 : s3.1 0 21 = mI (nx U + 1)) (h2 : ∀ u, u < nx U → ∀ j, j < 37 → s3.1 9 (37 * u + j) = σm.1 9 (37 * (u + sh U) + j)) (h3 : ∀ j, j < 37 → s3.1 9 (37 * nx U + j) = σm.1 1 j) (h4 : mfr (fun c => c = 9) (fun s => s = 21) σm s3) : mAct σm (u_pI s3 1 k x) (upV (σm.1 1) k x) U := by
  refine ⟨fun j hj => ?_, by rw [p_Ia (by omega)]; exact h1, fun u hu j hj => by rw [p_Ia (by omega)]; exact h2 u hu j hj, fun j hj => by rw [p_Ia (by omega)]; exact h3 j hj, fun c hc => by rw [p_Ia (by omega)]; exact h4.1 c (by omega) (by omega), fun s hs => by rw [p_Ia (by omega)]; exact h4.2.1 s (by omega), fun s hs => h4.2.2.2 0 s (by omega)⟩
  unfold upV
  by_cases hk : j = k
  · rw [hk, p_II, if_pos rfl]
  · rw [p_Is hk, if_neg hk, h4.1 1 (by omega) (by omega)]
theorem n_s9_ok (N j : Nat) (hN : 500 < N) : n_s9 N (Rel N j) (Rel N (j + 1)) := by
  intro σc σm h a1
  have h := h.thr
  refine two ?_
  unfold f_X12_show f_X11_show
  simp only [u_jn]
  generalize u_pI σm 0 8 0 = s1 at h ⊢
  obtain ⟨M, F, ρ, hC, hTo⟩ := h
  obtain ⟨b1, b2, b3, b4, b5, b6, b7⟩ := id hC.1
  obtain ⟨U, hU12, hU⟩ := hC.U
  have v1 : (1 : Nat) = 1 ∨ (1 : Nat) = 10 ∨ (1 : Nat) = 11 ∨ (1 : Nat) = 12 := Or.inl rfl
  rw [ok_bind]
  refine ok_mono (c_ahead hC) (fun s hs => ?_)
  obtain ⟨c44, c32, hf⟩ := hs
  obtain ⟨t1, t2, t3, t4, t5, t6, t7, t8, t9, t10, t11⟩ := id c32
  unfold f_X7_showTo f_X12_refusesShow
  rw [c_isPerson t8 b1, m_isMan b5 b1]
  have ne1 : (-1 : Int32) < 0 := by decide
  have ne2 : (-2 : Int32) < 0 := by decide
  have nl1 : ¬ (0 : Int32) ≤ -1 := by decide
  have nl2 : ¬ (0 : Int32) ≤ -2 := by decide
  cases hs1 : smb a1 M
  · simp (disch := omega) only [u_jn, o_bind, o_nck, o_ckT, not_false_eq_true, mI_le, mI_lt, mI_eq, mI_succ, mI_8, mI_16, mI_add, i10, eq_self, if_true, if_false, Bool.false_eq_true, f_X11_acted, ne1, nl1, ok_some]
    exact ⟨trivial, rel_ahead hC hTo hf⟩
  · obtain ⟨p, hp, rfl⟩ := smb_is hs1
    by_cases hb : tb (s1.1 1 34) p = true
    · simp (disch := omega) only [u_jn, o_bind, o_nck, o_ckT, not_false_eq_true, mI_le, mI_lt, mI_eq, mI_succ, mI_8, mI_16, mI_add, i10, eq_self, if_true, if_false, Bool.false_eq_true, t9, bit_is, hb, f_X11_acted, ne2, nl2, vr34 (σ := s1) v1, m_has, ok_some]
      exact ⟨trivial, rel_ahead hC hTo hf⟩
    · have hl8 : lo8 (s1.1 1 34 ||| (1 <<< (mI p &&& 31))) := lo8_or b7.2.2.2.1 (lo8_1 (by omega))
      simp (disch := omega) only [u_jn, o_bind, o_nck, o_ckT, not_false_eq_true, mI_le, mI_lt, mI_eq, mI_succ, mI_8, mI_16, mI_add, i10, eq_self, if_true, if_false, Bool.false_eq_true, t9, bit_is, hb, f_X11_acted, vr34 (σ := s1) v1, m_has, Int32.le_refl, p_II, (lo8_nonneg hl8).2, ok_bind]
      have h32' := cS_up (k := 34) (x := s1.1 1 34 ||| (1 <<< (mI p &&& 31))) b1 b3 c32 (Or.inl ⟨rfl, Or.inr (Or.inr (Or.inl ⟨rfl, rfl⟩))⟩)
      have hv' := vok_le (B' := 600 * (j + 1)) (vok_sig b1 b3 b7 hl8) (by omega)
      obtain ⟨s3, hr1, hr2, hr3, hr4, hr5⟩ := m_remember (N := N) v1 hU12 hU (fun _ _ => rfl) hN
      have e34 : s3.1 1 34 = s1.1 1 34 := by rw [hr5.1 1 (by omega) (by omega)]
      refine ok_mono (act_rel hC h32' (c44.fr (S := fun a => a = 32) (fr.rfl.pI rfl) (by omega) (by omega) (by omega) (by omega) (by omega)) ⟨fun a x y _ _ _ _ => ?_, ?_⟩ hv' hU hU12 (mAct_of hr2 hr3 hr4 hr5) hN) (fun s4 hs4 => ?_)
      · rw [p_Ia (by omega)]; exact hf.1 a (by omega)
      · rw [p_IL]; exact hf.2
      · simp (disch := omega) only [u_jn, o_bind, o_nck, o_ckT, not_false_eq_true, mI_le, mI_lt, mI_eq, mI_succ, mI_8, mI_16, mI_add, i10, eq_self, if_true, if_false, Bool.false_eq_true, hr1, vr34 v1, vw34 v1, e34, p_II, ok_some]
        refine ⟨trivial, M, F, ρ, hs4.1, hTo.to ?_ ?_ ?_ ?_⟩
        · rw [hs4.2.1 3 (by omega) (by omega), p_Ia (by omega), hf.1 3 (by omega)]
        · rw [hs4.2.2]
        · rw [p_IL, hr5.2.2.1]
        · rw [p_Ia (by omega)]; exact hr5.2.1 7 (by omega)
