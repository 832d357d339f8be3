/-! PURE LAYER: rule -/
theorem mX_of8 {σ t : uS} {top : Int32} (h : mfr (fun _ => False) (fun s => s = 12 ∨ s = 13 ∨ s = 18) (BT σ top) t) : mX σ t := by
  have hb := BT_fr σ top
  refine ⟨fun c hc => ?_, fun s hs => ?_, fun q hq => ?_, ?_, ?_, fun s hs => ?_⟩
  · rw [h.1 c (by omega) (fun x => x), hb.1 c (by omega) (fun x => x)]
  · rw [h.2.1 s (by omega), hb.2.1 s (by unfold T5; omega)]
  · rw [h.1 q (by omega) (fun x => x), hb.1 q (by omega) (fun x => x)]
  · rw [h.2.1 5 (by omega)]; exact p_II _ _ _ _
  · rw [h.2.2.1, hb.2.2.1]
  · rw [h.2.2.2 0 s (by omega), hb.2.2.2 0 s (by omega)]
def bgS (σ : uS) (r : Nat) : uS := u_pI (u_pI (u_pI (u_pI (u_pI (u_pI (u_pI σ r 4 0) r 5 0) r 6 0) r 7 0) r 8 0) r 9 0) r 10 0
theorem bgS_eq {N r : Nat} {σ : uS} : f_X6_begin N σ r = some (bgS σ r) := rfl
theorem bgS_a {r a : Nat} {σ : uS} (h : a ≠ r) : (bgS σ r).1 a = σ.1 a := by unfold bgS; rw [p_Ia h, p_Ia h, p_Ia h, p_Ia h, p_Ia h, p_Ia h, p_Ia h]
theorem bgS_cSt {r : Nat} {σ : uS} (hr : r = 22 ∨ r = 27) : cSt σ (u_pI (bgS σ r) 1 1 0) r [] [] 0 0 0 0 := by
  have e : ∀ k, (u_pI (bgS σ r) 1 1 0).1 r k = (bgS σ r).1 r k := fun k => by rw [p_Ia (by omega)]
  unfold cSt
  simp only [e]
  unfold bgS
  refine ⟨?_, fun i hi => absurd hi (by show ¬ i < 0; omega), ?_, fun i hi => absurd hi (by show ¬ i < 0; omega), ?_, ?_, ?_, ?_, Or.inl ?_, fun _ x hx => (by cases hx), fun a h1 h2 => ?_, p_II _ _ _ _, rfl⟩
  · rw [p_Is (by omega), p_Is (by omega), p_Is (by omega), p_Is (by omega), p_Is (by omega), p_Is (by omega), p_II]; rfl
  · rw [p_Is (by omega), p_Is (by omega), p_Is (by omega), p_Is (by omega), p_Is (by omega), p_II]; rfl
  · rw [p_Is (by omega), p_Is (by omega), p_Is (by omega), p_Is (by omega), p_II]
  · rw [p_Is (by omega), p_Is (by omega), p_Is (by omega), p_II]; rfl
  · rw [p_Is (by omega), p_Is (by omega), p_II]
  · rw [p_Is (by omega), p_II]
  · rw [p_II]
  · have h3 : a ≠ r := fun h => h2 (Or.inl h)
    rw [p_Ia h1, p_Ia h3, p_Ia h3, p_Ia h3, p_Ia h3, p_Ia h3, p_Ia h3, p_Ia h3]
theorem rdRule {N j M F : Nat} {ρ : Rho} {σc s1 : uS} (hC : RelC N j M F ρ σc s1) (hN : 500 < N) : ∃ (r' T : Nat) (zc zm : Int32 × uS), σc.2.2 0 14 = some r' ∧ (r' = 22 ∨ r' = 27) ∧ s1.1 0 5 = mI T ∧ T ≤ 80 ∧ (∀ k, k < T → u_nar 2 (s1.1 3 k) = s1.1 3 k) ∧ f_X11_readAnotherRule N σc = some zc ∧ f_X12_readRule N s1 = some zm ∧ cX (RS3 r') σc zc.2 ∧ mX s1 zm.2 ∧ ((zc.1 = -1 ∧ zm.1 = 1 ∧ T ≤ 40 ∧ ∃ ρ' : Rho, cR N zc.2 r' ρ' ∧ ∀ (q : Nat) (bytes : Nat → Int32), q = 6 ∨ q = 7 → (∀ k, k < T → bytes k = s1.1 3 k) → RuleM N q bytes (mI T) ρ') ∨ ∃ e, e ≤ 80 ∧ zc.1 = mI e ∧ zm.1 = 0 ∧ zm.2.1 0 13 = mI e) := by
  obtain ⟨T, d1, d2, d3, d4⟩ := id hC.2.1
  obtain ⟨r, r', q, q', a1, a2, a3, a4, a5, a6, a7, a8, a9, a10, a11⟩ := id hC.2.2.2.2.2
  have hr := a3
  have hb : ∀ k, k < T → u_nar 2 (s1.1 3 k) = s1.1 3 k := fun k hk => (d4 k hk).2
  have hB := BT_rd (σ := s1) (T := T) (top := 40) d3
  -- the reference's start
  have hrr : f_X12_readRule N s1 = (if mI T ≤ 0 then (f_X12_wasRight N (u_pI (BT s1 40) 0 18 0)).bind fun v5 => u_ck (v5.1 = 0 ∨ v5.1 = 1) (some (v5.1, v5.2)) else (f_X12_held N (u_pI (BT s1 40) 0 18 0) 0).bind fun v6 => (f_X12_wasRight N v6.2).bind fun v5 => u_ck (v5.1 = 0 ∨ v5.1 = 1) (some (v5.1, v5.2))) := by
    unfold f_X12_readRule
    rw [m_bt, o_bind]
    simp only [jn_eq]
    have e10 : (u_pI (BT s1 40) 0 18 0).1 0 10 = mI T := by rw [p_Is (by omega)]; exact hB.1.2.1
    rw [e10]
  have hcc : f_X11_readAnotherRule N σc = (if (bgS σc r').1 1 1 = 0 then some (-1, bgS σc r') else (f_X5_wrongAt_X6 N (bgS σc r') r' 40).bind fun v4 => some (v4.1, v4.2)) := by
    unfold f_X11_readAnotherRule
    rw [a2, o_bind, o_ck (isR_of hr), bgS_eq, o_bind]
    have e2 : (bgS σc r').2.2 0 14 = some r' := a2
    rw [e2, o_bind, o_ck (isR_of hr)]
  have e11 : (bgS σc r').1 1 1 = mI T := by rw [bgS_a (by omega)]; exact d2
  rw [e11] at hcc
  have hrd0 : rdS (u_pI (BT s1 40) 0 18 0) 3 T 40 0 := ⟨hB.1.1, by rw [p_Is (by omega)]; exact hB.1.2.1, by rw [p_Is (by omega)]; exact hB.1.2.2.1, by rw [p_Is (by omega)]; exact hB.1.2.2.2.1, by rw [p_Is (by omega)]; exact hB.1.2.2.2.2⟩
  have hm0 : mfr (fun _ => False) (fun s => s = 12 ∨ s = 13 ∨ s = 18) (BT s1 40) (u_pI (BT s1 40) 0 18 0) := mfr.rfl.p0 (Or.inr (Or.inr rfl))
  by_cases hT0 : T = 0
  · -- no sign: the rule that holds at first
    refine ⟨r', T, (-1, bgS σc r'), (1, u_pI (BT s1 40) 0 18 0), a2, hr, d3, d1, hb, ?_, ?_, ?_, mX_of8 hm0, Or.inl ⟨rfl, rfl, by omega, none, ?_, ?_⟩⟩
    · rw [hcc, if_pos (by rw [hT0]; rfl)]
    · rw [hrr, if_pos (by rw [hT0]; decide), m_right1 hrd0 (by omega) (by omega), if_pos (by omega), o_bind, o_ck (Or.inr rfl)]
    · refine ⟨fun a h1 h2 => bgS_a (fun h => h2 (Or.inl h)), ?_, rfl⟩
      show (bgS σc r').1 1 1 = 0
      rw [e11, hT0]; rfl
    · refine ⟨hr, ?_, fun _ g hg => by cases hg⟩
      show (bgS σc r').1 r' 4 = 0
      unfold bgS
      rw [p_Is (by omega), p_Is (by omega), p_Is (by omega), p_Is (by omega), p_Is (by omega), p_Is (by omega), p_II]
    · intro q bytes _ _
      show mI T = 0
      rw [hT0]; rfl
  · have hTne : ¬ mI T = 0 := by rw [show (0 : Int32) = mI 0 from rfl, mI_eq (by omega) (by omega)]; exact hT0
    have hTle : ¬ mI T ≤ 0 := rnle 0 0 rfl (by omega) (by omega) (by omega)
    rw [if_neg hTne] at hcc
    rw [if_neg hTle] at hrr
    have hx3 : (u_pI (BT s1 40) 0 18 0).1 3 = s1.1 3 := by rw [p_Ia (by omega)]; exact (BT_fr s1 40).1 3 (by omega) (fun h => h)
    have hMB : mBase (u_pI (BT s1 40) 0 18 0) 3 T := ⟨Or.inl ⟨rfl, d1⟩, hrd0.1, hrd0.2.1, hrd0.2.2.1, hrd0.2.2.2.2, by rw [hx3]; exact hb⟩
    have hat : atS (u_pI (BT s1 40) 0 18 0) 0 = u_pI (BT s1 40) 0 18 0 := by
      unfold atS
      rw [← hrd0.2.2.2.1]
      exact p_self _ _ _
    obtain ⟨v, m1, m2⟩ := exprR hMB hN 100 0 0 0 (by omega) (by omega) (by omega) (by unfold need; omega)
    rw [hx3, hat] at m1 m2
    have hheld : f_X12_held N (u_pI (BT s1 40) 0 18 0) 0 = u_lp3 (b_X12_expr N) 100 0 (u_pI (BT s1 40) 0 18 0) (mI 0) := rfl
    obtain ⟨k1, k2⟩ := exprC (N := N) (r := r') (T := T) (σ := σc) (x := s1.1 3) hr d1 (fun k hk => (d4 k hk).1) hN 100 0 0 0 [] [] 0 (u_pI (bgS σc r') 1 1 0) (by omega) (by omega) (by omega) (by unfold need; omega) (bgS_cSt hr) (fun _ => Or.inl rfl) (fun _ => tb_0 _) (by show 0 + 0 ≤ 0; omega)
    have hwr : f_X5_wrongAt_X6 N (bgS σc r') r' 40 = u_lp2 (ruB N r' T) N (u_pI (bgS σc r') 1 1 0) (mI 0) := by
      unfold f_X5_wrongAt_X6
      simp only [jn_eq]
      rw [e11]
      rfl
    have mfa : ∀ p, mfr (fun _ => False) (fun s => s = 12 ∨ s = 13 ∨ s = 18) (BT s1 40) (atS (u_pI (BT s1 40) 0 18 0) p) := fun p => hm0.p0 (Or.inl rfl)
    rcases hpx : pX (hh (s1.1 3) T 40) 100 0 0 0 with ⟨e, _ | c⟩
    · obtain ⟨p', g1, g2, g3⟩ := m2 e hpx
      obtain ⟨h1, h2, h3⟩ := k2 e hpx
      obtain ⟨s', h4, h5⟩ := h3 N (by omega)
      have hbad := badR (t := u_pI (BT s1 40) 0 18 0) (p := p') (e := e) (by omega)
      refine ⟨r', T, (mI e, s'), (0, u_pI (atS (u_pI (BT s1 40) 0 18 0) p') 0 13 (mI e)), a2, hr, d3, d1, hb, ?_, ?_, h5, mX_of8 ((mfa p').p0 (Or.inr (Or.inl rfl))), Or.inr ⟨e, by omega, rfl, rfl, p_II _ _ _ _⟩⟩
      · rw [hcc, hwr, h4, o_bind]
      · rw [hrr, hheld, g1, o_bind, m_right0 hbad, o_bind, o_ck (Or.inl rfl)]
    · obtain ⟨g1, g2, g3, g4⟩ := m1 e c hpx
      obtain ⟨s', X, Y, dg, cm, f1, f2, f3, f4, f5, f6⟩ := k1 e c hpx
      obtain ⟨b1, b2, b3, b4, b5, b6, b7⟩ := f1
      have hch : ∃ m, u_lp2 (ruB N r' T) N (u_pI (bgS σc r') 1 1 0) (mI 0) = u_lp2 (ruB N r' T) (m + 1) s' (mI e) := ⟨N - e - 1, by
        have := b7 (N - e - 1 + 1)
        rw [show N - e - 1 + 1 + (e - 0) = N by omega] at this
        exact this⟩
      obtain ⟨m, hch⟩ := hch
      by_cases heT : e = T
      · -- a rule
        subst heT
        have b1' : cSt σc s' r' X Y dg 0 cm 1 := b1
        have b5' : X.length + Y.length ≤ e := b5
        obtain ⟨s2, u1, u2⟩ := c_unwind (N := N) (r := r') (W := []) hr (k := 1) (by omega) (by omega) (Or.inl rfl) hN Y.length Y s' X rfl b3 b1' (by show X.length + 0 + Y.length ≤ 40; omega)
        rw [b2] at u2
        have hend : ruJ N r' e s' = some (-1, s2) := by
          have u1' : f_X6_unwind N s' r' 1 = some s2 := u1
          unfold ruJ f_X6_takesEnd
          rw [b1'.2.2.2.2.2.2.2.1, if_neg n10, b1'.2.2.2.2.2.1, if_pos (by decide), u1', o_bind, o_bind, if_neg n10]
        have hlen : c.length ≤ 40 := by rw [← b2, List.length_append, flush_len]; omega
        have hall : ∀ f : Nat → Int32, ∃ v, ∀ st, runC f c st = v :: st := by
          intro f
          have hMB2 : mBase (u_sI (u_pI (u_pI (BT s1 40) 0 18 0) 0 18 1) 8 f) 3 e := by
            have e0 : ∀ k, k ≠ 18 → (u_sI (u_pI (u_pI (BT s1 40) 0 18 0) 0 18 1) 8 f).1 0 k = (u_pI (BT s1 40) 0 18 0).1 0 k := fun k hk => by rw [q_Ia (by omega), p_Is hk]
            have e3 : (u_sI (u_pI (u_pI (BT s1 40) 0 18 0) 0 18 1) 8 f).1 3 = s1.1 3 := by rw [q_Ia (by omega), p_Ia (by omega)]; exact hx3
            exact ⟨Or.inl ⟨rfl, d1⟩, hrd0.1, by rw [e0 10 (by omega)]; exact hrd0.2.1, by rw [e0 11 (by omega)]; exact hrd0.2.2.1, by rw [e0 13 (by omega)]; exact hrd0.2.2.2.2, by rw [e3]; exact hb⟩
          have e3 : (u_sI (u_pI (u_pI (BT s1 40) 0 18 0) 0 18 1) 8 f).1 3 = s1.1 3 := by rw [q_Ia (by omega), p_Ia (by omega)]; exact hx3
          obtain ⟨v2, m1', -⟩ := exprR hMB2 hN 100 0 0 0 (by omega) (by omega) (by omega) (by unfold need; omega)
          rw [e3] at m1'
          obtain ⟨-, g2', -⟩ := m1' e c hpx
          have ha : askF (u_sI (u_pI (u_pI (BT s1 40) 0 18 0) 0 18 1) 8 f) = f := by
            funext k
            unfold askF
            rw [q_Ia (by omega), p_II, if_neg n10, q_Is]
          rw [ha] at g2'
          exact ⟨v2, g2'⟩
        refine ⟨r', e, (-1, s2), (1, atS (u_pI (BT s1 40) 0 18 0) e), a2, hr, d3, d1, hb, ?_, ?_, u2.2.2.2.2.2.2.2.2.2.2, mX_of8 (mfa e), Or.inl ⟨rfl, rfl, by omega, some (cdF c), ruleC_of hr u2 hlen hall hN, fun q bytes hq hby => ruleM_of hq (by omega) (by omega) hb hby hpx hN⟩⟩
        · rw [hcc, hwr, hch, ru_end (Nat.le_refl _) d1 (by omega), hend, o_bind]
        · rw [hrr, hheld, g1, o_bind, m_right1 (hMB.rd e) (by omega) (by omega), if_pos (Nat.le_refl _), o_bind, o_ck (Or.inr rfl)]
      · -- something stands behind it
        obtain ⟨s2, t1, t2⟩ := ru_tail (N := N) (M := m) hr b6 d1 (fun k hk => (d4 k hk).1) b1 (by omega) b4 (f4 (by omega)) (f5 (by omega)) (f6 rfl) (fun _ => rfl) (fun h => absurd h heT)
        refine ⟨r', T, (mI e, s2), (0, u_pI (atS (u_pI (BT s1 40) 0 18 0) e) 0 13 (mI e)), a2, hr, d3, d1, hb, ?_, ?_, t2, mX_of8 ((mfa e).p0 (Or.inr (Or.inl rfl))), Or.inr ⟨e, by omega, rfl, rfl, p_II _ _ _ _⟩⟩
        · rw [hcc, hwr, hch, t1, o_bind]
        · rw [hrr, hheld, g1, o_bind, m_right1 (hMB.rd e) (by omega) (by omega), if_neg (by omega), o_bind, o_ck (Or.inl rfl)]
/-- the reference keeps the signs -/
theorem m_copy {N q T : Nat} {t0 : uS} {J : uS → Option (Int32 × uS)} {Q : Int32 × uS → Prop} (hq : q = 6 ∨ q = 7) (h15 : t0.2.2 0 15 = some q) (hT : T ≤ 40) (hb : ∀ k, k < T → u_nar 2 (t0.1 3 k) = t0.1 3 k) (hN : 500 < N) (hJ : ∀ t, (∀ k, k < T → t.1 q k = t0.1 3 k) → (∀ c, c ≠ q → t.1 c = t0.1 c) → t.2 = t0.2 → ok (J t) Q) : ok (u_lp2 (b_X12_rule_26 (mI T) J) N t0 0) Q ∧ ok (u_lp2 (b_X12_law_58 (mI T) J) N t0 0) Q := by
  have wq : ∀ (t : uS) (k : Nat) (v : Int32), k < 40 → u_wI ZM t 2 q (mI k) v = some (u_pI t q k (u_nar 2 v)) := fun t k v hk => by
    rcases hq with rfl | rfl
    · exact mw_6 hk
    · exact mw_7 hk
  constructor
  · refine lp2_ok (fun i t y => i ≤ T ∧ y = mI i ∧ (∀ k, k < i → t.1 q k = t0.1 3 k) ∧ (∀ c, c ≠ q → t.1 c = t0.1 c) ∧ t.2 = t0.2) T N _ _ (by omega) ?_ ⟨by omega, rfl, fun k hk => absurd hk (by omega), fun _ _ => rfl, rfl⟩
    rintro i t y rec hi ⟨-, rfl, h1, h2, h3⟩ hrec
    unfold b_X12_rule_26
    by_cases hlt : i < T
    · rw [if_neg (mnle (by omega) (by omega) hlt), h3, h15, o_bind, mr_3 (by omega), o_bind, wq t i _ (by omega), o_bind, h2 3 (by omega), hb i hlt]
      simp only [jn_eq, mI_succ]
      refine hrec _ _ hlt ⟨by omega, rfl, fun k hk => ?_, fun c hc => by rw [p_Ia hc]; exact h2 c hc, h3⟩
      by_cases hki : k = i
      · rw [hki, p_II]
      · rw [p_Is hki]; exact h1 k (by omega)
    · have hiT : i = T := by omega
      subst hiT
      rw [if_pos (mle (by omega) (by omega) (Nat.le_refl _))]
      exact hJ t h1 h2 h3
  · refine lp2_ok (fun i t y => i ≤ T ∧ y = mI i ∧ (∀ k, k < i → t.1 q k = t0.1 3 k) ∧ (∀ c, c ≠ q → t.1 c = t0.1 c) ∧ t.2 = t0.2) T N _ _ (by omega) ?_ ⟨by omega, rfl, fun k hk => absurd hk (by omega), fun _ _ => rfl, rfl⟩
    rintro i t y rec hi ⟨-, rfl, h1, h2, h3⟩ hrec
    unfold b_X12_law_58
    by_cases hlt : i < T
    · rw [if_neg (mnle (by omega) (by omega) hlt), h3, h15, o_bind, mr_3 (by omega), o_bind, wq t i _ (by omega), o_bind, h2 3 (by omega), hb i hlt]
      simp only [jn_eq, mI_succ]
      refine hrec _ _ hlt ⟨by omega, rfl, fun k hk => ?_, fun c hc => by rw [p_Ia hc]; exact h2 c hc, h3⟩
      by_cases hki : k = i
      · rw [hki, p_II]
      · rw [p_Is hki]; exact h1 k (by omega)
    · have hiT : i = T := by omega
      subst hiT
      rw [if_pos (mle (by omega) (by omega) (Nat.le_refl _))]
      exact hJ t h1 h2 h3
theorem n_s4_ok (N j : Nat) (hN : 500 < N) : n_s4 N (Rel N j) (Rel N (j + 1)) := by
  intro σc σm h
  have h := h.thr
  refine two ?_
  unfold f_X12_rule f_X11_rule
  simp only [jn_eq]
  generalize u_pI σm 0 8 0 = s1 at h ⊢
  obtain ⟨M, F, ρ, hC, hTo⟩ := h
  have hqq := hC.2.2.2.2.2.q
  obtain ⟨r', T, zc, zm, z1, z2, z3, z4, z5, z6, z7, z8, z9, z10⟩ := rdRule hC hN
  obtain ⟨r, r2', q, q', a1, a2, a3, a4, a5, a6, a7, a8, a9, a10, a11⟩ := id hC.2.2.2.2.2
  rw [z1] at a2
  cases a2
  have hr := a5.1
  have hRS : ∀ r0, σc.2.2 0 13 = some r0 → ¬ RS3 r' r0 ∧ ¬ RS3 r' (r0 + 1) := fun r0 h0 => by rw [a1] at h0; cases h0; unfold RS3; omega
  have hS9 : ∀ a, RS3 r' a → (9 ≤ a ∧ a < 19) ∨ (22 ≤ a ∧ a < 32) := fun a ha => by unfold RS3 at ha; omega
  rw [z6, z7, o_bind, o_bind, z3]
  rcases z10 with ⟨e1, e2, e3, ρ', e4, e5⟩ | ⟨e, e1, e2, e3, e4⟩
  · have hz2 : zc.2.2 = σc.2 := z8.2.2
    rw [e1, if_pos (by decide), e2, if_neg n10, hz2, a1, o_bind, o_ck (isR_of hr), z1, o_bind, o_ck (isR_of z2), ok_some]
    have z15 : zm.2.2.2 0 15 = some q := by rw [z9.2.2.2.2.2 15 (by omega)]; exact a9
    have z33 : zm.2.1 3 = s1.1 3 := z9.1 3 (by omega)
    refine (m_copy (N := N) (T := T) a6 z15 e3 (by rw [z33]; exact z5) hN (fun t t1 t2 t3 => ?_)).1
    rw [ok_some]
    have hC1 := hC.text0 hS9 hRS z8 z9
    obtain ⟨c1, c2, c3, c4, c5, c6⟩ := hC1
    have sR : ∀ a, a ≠ 0 → (u_pR (u_pR zc.2 0 13 (some r')) 0 14 (some r)).2.2 a = zc.2.2.2 a := fun a ha => funext (fun k => by rw [p_Rn (Or.inl ha), p_Rn (Or.inl ha)])
    have tS : ∀ c, c ≠ 0 → c ≠ q → (u_pI t 0 17 (mI T)).1 c = zm.2.1 c := fun c h0 hc => by rw [p_Ia h0]; exact t2 c hc
    have tZ : ∀ k, k ≠ 17 → (u_pI t 0 17 (mI T)).1 0 k = zm.2.1 0 k := fun k hk => by rw [p_Is hk, t2 0 (by omega)]
    have hq0 : q ≠ 0 := by omega
    refine ⟨rfl, M, F, ρ', ⟨c1.to (Nat.le_refl _) (fun _ _ _ => rfl) (tS 1 (by omega) (by omega)) (tS 2 (by omega) (by omega)) (tZ 1 (by omega)) (tZ 2 (by omega)), c2.to rfl rfl (tS 3 (by omega) (by omega)) (tZ 5 (by omega)), c3.to rfl (tS 16 (by omega) (by omega)) (tZ 29 (by omega)) (tZ 30 (by omega)), c4.to (Nat.le_refl _) (fun _ _ _ => rfl) rfl (sR 6 (by omega)) (tS 9 (by omega) (by omega)) (tS 2 (by omega) (by omega)) (tZ 21 (by omega)), c5.to (Nat.le_refl _) (Nat.le_refl _) (fun _ _ _ => rfl) rfl (sR 7 (by omega)) (tS 18 (by omega) (by omega)) (tS 2 (by omega) (by omega)) (tS 19 (by omega) (by omega)) (tS 20 (by omega) (by omega)) (tZ 33 (by omega)), ?_⟩, ?_⟩
    · refine ⟨r', r, q, q', ?_, ?_, hr, fun h => a4 h.symm, e4, a6, a7, a8, ?_, ?_, ?_⟩
      · rw [p_Rn (Or.inr (by omega)), p_RR]
      · rw [p_RR]
      · show t.2.2 0 15 = some q
        rw [t3]; exact z15
      · show t.2.2 0 16 = some q'
        rw [t3, z9.2.2.2.2.2 16 (by omega)]; exact a10
      · have : (u_pI t 0 17 (mI T)).1 0 17 = mI T := p_II _ _ _ _
        rw [this]
        exact e5 q _ a6 (fun k hk => by rw [p_Ia hq0, t1 k hk, z33])
    · refine hTo.to ?_ ?_ ?_ ?_
      · show zc.2.1 3 1 = _
        rw [z8.1 3 (by omega) (by unfold RS3; omega)]
      · show zc.2.2.1 4 = _
        rw [hz2]
      · show t.2.1 4 = _
        rw [t3, z9.2.2.2.2.1]
      · rw [tZ 7 (by omega)]; exact z9.2.1 7 (by omega)
  · rw [e2, if_neg (mI_n0 (by omega)), ok_some, e3, if_pos rfl, ok_some, e4]
    exact ⟨rfl, rel_text0 hC hTo hS9 hRS z8 z9⟩
