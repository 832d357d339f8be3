/-! PURE LAYER: people -/
theorem c_join {N M n : Nat} {s' : uS} (h8 : s'.1 32 8 = mI M) (h4 : s'.1 11 4 = mI n) (hMn : M + n ≤ 8) (hN : 500 < N) : ok (f_X7_join N s' 32) (fun s => s.1 32 8 = mI (M + n) ∧ (∀ l, l ≠ 8 → s.1 32 l = s'.1 32 l) ∧ (∀ q, s.1 34 q = if M ≤ q ∧ q < M + n then s'.1 12 (q - M) else s'.1 34 q) ∧ (∀ q, s.1 36 q = if M ≤ q ∧ q < M + n then s'.1 13 (q - M) else s'.1 36 q) ∧ (∀ q, s.1 37 q = if M ≤ q ∧ q < M + n then s'.1 14 (q - M) else s'.1 37 q) ∧ (∀ a, a ≠ 32 → a ≠ 34 → a ≠ 36 → a ≠ 37 → s.1 a = s'.1 a) ∧ s.2 = s'.2) := by
  unfold f_X7_join
  simp only [jn_eq]
  refine lp2_ok (fun k s y => k ≤ n ∧ y = mI k ∧ s.1 32 8 = mI (M + k) ∧ (∀ l, l ≠ 8 → s.1 32 l = s'.1 32 l) ∧ (∀ q, s.1 34 q = if M ≤ q ∧ q < M + k then s'.1 12 (q - M) else s'.1 34 q) ∧ (∀ q, s.1 36 q = if M ≤ q ∧ q < M + k then s'.1 13 (q - M) else s'.1 36 q) ∧ (∀ q, s.1 37 q = if M ≤ q ∧ q < M + k then s'.1 14 (q - M) else s'.1 37 q) ∧ (∀ a, a ≠ 32 → a ≠ 34 → a ≠ 36 → a ≠ 37 → s.1 a = s'.1 a) ∧ s.2 = s'.2) n N _ _ (by omega) ?_ ⟨by omega, rfl, h8, fun _ _ => rfl, fun q => by rw [if_neg (by omega)], fun q => by rw [if_neg (by omega)], fun q => by rw [if_neg (by omega)], fun _ _ _ _ _ => rfl, rfl⟩
  rintro k s y rec hk ⟨-, rfl, e8, el, e34, e36, e37, ea, e2⟩ hrec
  unfold b_X7_join_2
  rw [ea 11 (by omega) (by omega) (by omega) (by omega), h4]
  by_cases hlt : k < n
  · rw [if_neg (mnle (by omega) (by omega) hlt), e8, if_neg (lnle 8 8 rfl (by omega) (by omega) (by omega)), cr_12 (by omega), o_bind, sw_2 (by omega) (by omega) (by omega) (by omega), o_bind, cr_13 (by omega), o_bind, p_Ia (by omega), p_Ia (by omega), e8, sw_4 (by omega) (by omega) (by omega) (by omega), o_bind, cr_14 (by omega), o_bind, p_Ia (by omega), p_Ia (by omega), p_Ia (by omega), p_Ia (by omega), e8, sw_5 (by omega) (by omega) (by omega) (by omega), o_bind]
    simp only [jn_eq, mI_succ]
    rw [p_Ia (by omega), p_Ia (by omega), p_Ia (by omega), e8, mI_succ]
    have step : ∀ (f g : Nat → Int32) (x : Int32) (q : Nat), x = f k → (if M ≤ q ∧ q < M + k then f (q - M) else g q) = (if q = M + k then f k else if M ≤ q ∧ q < M + (k + 1) then f (q - M) else g q) ∨ q = M + k := fun f g x q hx => by
      by_cases hq : q = M + k
      · exact Or.inr hq
      · left
        rw [if_neg hq]
        by_cases h : M ≤ q ∧ q < M + k
        · rw [if_pos h, if_pos (by omega)]
        · rw [if_neg h, if_neg (by omega)]
    refine hrec _ _ hlt ⟨by omega, rfl, p_II _ _ _ _, fun l hl => by rw [p_Is hl, p_Ia (by omega), p_Ia (by omega), p_Ia (by omega)]; exact el l hl, fun q => ?_, fun q => ?_, fun q => ?_, fun a g1 g2 g3 g4 => by rw [p_Ia g1, p_Ia (by omega), p_Ia (by omega), p_Ia (by omega)]; exact ea a g1 g2 g3 g4, e2⟩
    · rw [p_Ia (by omega), p_Ia (by omega), p_Ia (by omega)]
      by_cases hq : q = M + k
      · show (u_pI s 34 (M + k) _).1 34 q = _
        rw [hq, p_II, if_pos (by omega), show M + k - M = k by omega, ea 12 (by omega) (by omega) (by omega) (by omega)]
      · show (u_pI s 34 (M + k) _).1 34 q = _
        rw [p_Is hq, e34 q]
        by_cases h : M ≤ q ∧ q < M + k
        · rw [if_pos h, if_pos (by omega)]
        · rw [if_neg h, if_neg (by omega)]
    · rw [p_Ia (by omega), p_Ia (by omega)]
      by_cases hq : q = M + k
      · show (u_pI _ 36 (M + k) _).1 36 q = _
        rw [hq, p_II, if_pos (by omega), show M + k - M = k by omega, ea 13 (by omega) (by omega) (by omega) (by omega)]
      · show (u_pI _ 36 (M + k) _).1 36 q = _
        rw [p_Is hq, p_Ia (by omega), e36 q]
        by_cases h : M ≤ q ∧ q < M + k
        · rw [if_pos h, if_pos (by omega)]
        · rw [if_neg h, if_neg (by omega)]
    · rw [p_Ia (by omega)]
      by_cases hq : q = M + k
      · show (u_pI _ 37 (M + k) _).1 37 q = _
        rw [hq, p_II, if_pos (by omega), show M + k - M = k by omega, ea 14 (by omega) (by omega) (by omega) (by omega)]
      · show (u_pI _ 37 (M + k) _).1 37 q = _
        rw [p_Is hq, p_Ia (by omega), p_Ia (by omega), e37 q]
        by_cases h : M ≤ q ∧ q < M + k
        · rw [if_pos h, if_pos (by omega)]
        · rw [if_neg h, if_neg (by omega)]
  · have hkn : k = n := by omega
    subst hkn
    rw [if_pos (mle (by omega) (by omega) (Nat.le_refl _)), ok_some]
    exact ⟨e8, el, e34, e36, e37, ea, e2⟩
def joV (v c : Nat → Int32) (M n : Nat) : Nat → Int32 := fun q => if M ≤ q ∧ q < M + n then c (3 * (q - M)) else if 8 + M ≤ q ∧ q < 8 + M + n then c (3 * (q - (8 + M)) + 2) else v q
theorem m_join {N M n : Nat} {t' : uS} {J : uS → Option (Int32 × uS)} {Q : Int32 × uS → Prop} (h2 : t'.1 0 2 = mI M) (hMn : M + n ≤ 8) (hN : 500 < N) (hJ : ∀ u, u.1 0 2 = mI (M + n) → (∀ s, s ≠ 2 → u.1 0 s = t'.1 0 s) → (∀ q, q < 37 → u.1 1 q = joV (t'.1 1) (t'.1 5) M n q) → (∀ q, u.1 2 q = if M ≤ q ∧ q < M + n then t'.1 5 (3 * (q - M) + 1) else t'.1 2 q) → (∀ c, c ≠ 0 → c ≠ 1 → c ≠ 2 → u.1 c = t'.1 c) → u.2 = t'.2 → ok (J u) Q) : ok (u_lp2 (b_X12_people_99 (mI n) J) N t' 0) Q := by
  have v1 : (1 : Nat) = 1 ∨ (1 : Nat) = 10 ∨ (1 : Nat) = 11 ∨ (1 : Nat) = 12 := Or.inl rfl
  refine lp2_ok (fun k u y => k ≤ n ∧ y = mI k ∧ u.1 0 2 = mI (M + k) ∧ (∀ s, s ≠ 2 → u.1 0 s = t'.1 0 s) ∧ (∀ q, q < 37 → u.1 1 q = joV (t'.1 1) (t'.1 5) M k q) ∧ (∀ q, u.1 2 q = if M ≤ q ∧ q < M + k then t'.1 5 (3 * (q - M) + 1) else t'.1 2 q) ∧ (∀ c, c ≠ 0 → c ≠ 1 → c ≠ 2 → u.1 c = t'.1 c) ∧ u.2 = t'.2) n N _ _ (by omega) ?_ ⟨by omega, rfl, h2, fun _ _ => rfl, fun q _ => by unfold joV; rw [if_neg (by omega), if_neg (by omega)], fun q => by rw [if_neg (by omega)], fun _ _ _ _ => rfl, rfl⟩
  rintro k u y rec hk ⟨-, rfl, e0, es, e1, e2, ec, er⟩ hrec
  unfold b_X12_people_99
  by_cases hlt : k < n
  · rw [if_neg (mnle (by omega) (by omega) hlt), show (3 : Int32) = mI 3 from rfl, mI_mul, mI_succ, show (2 : Int32) = mI 2 from rfl, mI_add, mr_5 (by omega), o_bind, e0, vw v1 (by omega), o_bind, mr_5 (by omega), o_bind, p_Ia (by omega), p_Ia (by omega), e0, mw_2 (by omega), o_bind, mr_5 (by omega), o_bind, p_Ia (by omega), p_Ia (by omega), p_Ia (by omega), p_Ia (by omega), e0, mI_8, vw v1 (by omega), o_bind]
    simp only [jn_eq, mI_succ]
    rw [p_Ia (by omega), p_Ia (by omega), p_Ia (by omega), e0, mI_succ]
    have e5 : u.1 5 = t'.1 5 := ec 5 (by omega) (by omega) (by omega)
    refine hrec _ _ hlt ⟨by omega, rfl, p_II _ _ _ _, fun s hs => by rw [p_Is hs, p_Ia (by omega), p_Ia (by omega), p_Ia (by omega)]; exact es s hs, fun q hq => ?_, fun q => ?_, fun c g0 g1 g2 => by rw [p_Ia g0, p_Ia g1, p_Ia g2, p_Ia g1]; exact ec c g0 g1 g2, er⟩
    · rw [p_Ia (by omega)]
      unfold joV
      by_cases hq1 : q = 8 + (M + k)
      · rw [hq1, p_II, if_neg (by omega), if_pos (by omega), show 8 + (M + k) - (8 + M) = k by omega, e5]
      · rw [p_Is hq1, p_Ia (by omega)]
        by_cases hq2 : q = M + k
        · rw [hq2, p_II, if_pos (by omega), show M + k - M = k by omega, e5]
        · rw [p_Is hq2, e1 q hq]
          unfold joV
          by_cases h : M ≤ q ∧ q < M + k
          · rw [if_pos h, if_pos (by omega)]
          · rw [if_neg h, if_neg (show ¬ (M ≤ q ∧ q < M + (k + 1)) by omega)]
            by_cases h3 : 8 + M ≤ q ∧ q < 8 + M + k
            · rw [if_pos h3, if_pos (by omega)]
            · rw [if_neg h3, if_neg (by omega)]
    · rw [p_Ia (by omega), p_Ia (by omega)]
      by_cases hq2 : q = M + k
      · rw [hq2, p_II, if_pos (by omega), show M + k - M = k by omega, e5]
      · rw [p_Is hq2, p_Ia (by omega), e2 q]
        by_cases h : M ≤ q ∧ q < M + k
        · rw [if_pos h, if_pos (by omega)]
        · rw [if_neg h, if_neg (by omega)]
  · have hkn : k = n := by omega
    subst hkn
    rw [if_pos (mle (by omega) (by omega) (Nat.le_refl _))]
    exact hJ u e0 es e1 e2 ec er
theorem n_s3_ok (N j : Nat) (hN : 500 < N) (hj : j < 1000) : n_s3 N (Rel N j) (Rel N (j + 1)) := by
  intro σc σm h
  have h := h.thr
  refine two ?_
  unfold f_X12_people f_X11_people f_X4_begin
  simp only [jn_eq]
  generalize u_pI σm 0 8 0 = s1 at h ⊢
  obtain ⟨M, F, ρ, hC, hTo⟩ := h
  obtain ⟨b1, b2, b3, b4, b5, b6, b7⟩ := id hC.1
  obtain ⟨T, d1, d2, d3, d4⟩ := id hC.2.1
  have hrr := hC.2.2.2.2.2.r
  have hB := BT_rd (σ := s1) (T := T) (top := 76) d3
  have hSr : ∀ r, σc.2.2 0 13 = some r → ¬ PS r ∧ ¬ PS (r + 1) := fun r hr => by have := hrr r hr; unfold PS; omega
  have hS9 : ∀ a, PS a → (9 ≤ a ∧ a < 19) ∨ (22 ≤ a ∧ a < 32) := fun a ha => by unfold PS at ha; omega
  rw [m_bt, o_bind, o_bind, d2, show (BT s1 76).1 0 10 = mI T from hB.1.2.1]
  by_cases hT0 : T = 0
  · rw [if_pos (by rw [hT0]; rfl), ok_some, if_pos (by rw [hT0]; rfl), ok_some]
    exact ⟨rfl, rel_text0 hC hTo hS9 hSr ⟨fun _ _ _ => rfl, by rw [d2, hT0]; rfl, rfl⟩ (mX_of (top := 76) mfr.rfl)⟩
  have hTne : ¬ mI T = 0 := by rw [show (0 : Int32) = mI 0 from rfl, mI_eq (by omega) (by omega)]; exact hT0
  rw [if_neg hTne, if_neg hTne]
  unfold f_X5_wrongAt_X4
  simp only [jn_eq]
  have hc0 : cX PS σc (u_pI (u_pI (u_pI (u_pI σc 11 3 (σc.1 32 8)) 11 4 0) 11 5 0) 1 1 0) := ⟨fun a h1 h2 => by
    have h3 : a ≠ 11 := fun h => h2 (by unfold PS; omega)
    rw [p_Ia h1, p_Ia h3, p_Ia h3, p_Ia h3], p_II _ _ _ _, rfl⟩
  have e11 : (u_pI (u_pI (u_pI σc 11 3 (σc.1 32 8)) 11 4 0) 11 5 0).1 1 1 = mI T := by rw [p_Ia (by omega), p_Ia (by omega), p_Ia (by omega)]; exact d2
  obtain ⟨w, s', t', y, r1, r2, r3, r4, r5⟩ := pp_read (N := N) (T := T) (σ := σc) (σm := s1) (M := M) d1 (fun k hk => (d4 k hk).1) (fun k hk => (d4 k hk).2) b1 hN (T + 1) 0 0 N N (u_pI (u_pI (u_pI (u_pI σc 11 3 (σc.1 32 8)) 11 4 0) 11 5 0) 1 1 0) (BT s1 (mI 76)) (by omega) (by omega) (by omega) (by omega) (by omega) (by omega) (by rw [p_Ia (by omega), p_Is (by omega), p_Is (by omega), p_II]; exact b6.2.2.2.2.2.2.2.1) (by rw [p_Ia (by omega), p_Is (by omega), p_II]; rfl) (by rw [p_Ia (by omega), p_II]) hc0 hB.1 (by rw [(BT_fr s1 (mI 76)).2.1 2 (by unfold T5; omega)]; exact b5) mfr.rfl (fun i hi => absurd hi (by omega))
  have r1 : u_lp2 (b_X5_wrongAt_X4_13 N 76 (mI T) (fun s3 => (f_X4_takesEnd N s3).bind fun v5 => if v5 = 0 then some (mI T, s3) else some (-1, s3))) N (u_pI (u_pI (u_pI (u_pI σc 11 3 (σc.1 32 8)) 11 4 0) 11 5 0) 1 1 0) 0 = some (w, s') := r1
  have r2 : ∀ J, u_lp3 (b_X12_people_24 N J) N (BT s1 76) 0 1 = J t' y := r2
  rw [e11, r1, o_bind, r2]
  rcases r5 with ⟨rfl, n, hn, rfl, h114, hrd, hA⟩ | ⟨e, he, rfl, hee⟩
  · have hX := mX_of r4
    obtain ⟨m1, m2, m3, m4, m5, m6⟩ := id hX
    rw [if_pos (show (-1 : Int32) < 0 by decide), ok_bind]
    obtain ⟨t1, t2, t3, t4, t5, t6, t7, t8, t9, t10, t11⟩ := id b6
    have s32 : s'.1 32 = σc.1 32 := r3.1 32 (by omega) (by unfold PS; omega)
    refine ok_mono (c_join (M := M) (n := n) (by rw [s32]; exact t8) h114 hn hN) (fun s hs => ?_)
    obtain ⟨j8, jl, j34, j36, j37, ja, j2⟩ := hs
    unfold f_X3_clear
    simp only [jn_eq, o_bind, ok_some]
    rw [p_Ia (by omega), p_Ia (by omega), ja 11 (by omega) (by omega) (by omega) (by omega), h114]
    rw [m_right1 hrd (by omega) (by omega), if_pos (Nat.le_refl _), o_bind, if_neg n10]
    refine m_join (M := M) (n := n) (by rw [m2 2 (by omega)]; exact b5) hn hN (fun u u2 us u1 ue uc ur => ?_)
    unfold f_X12_told
    simp only [jn_eq, o_bind, ok_some]
    obtain ⟨a1, a2, a3, a4, a5, a6⟩ := hC
    obtain ⟨C, k1, k2, k3⟩ := a5
    obtain ⟨U, st, p1, p2, p3, p4, p5, p6⟩ := a4
    have t33 : (u_pI u 0 21 0).1 0 33 = mI C := by rw [p_Is (by omega), us 33 (by omega), m2 33 (by omega)]; exact k2
    have tA_c : ∀ c, c ≠ 0 → (u_pI (u_pI u 0 21 0) 0 33 ((u_pI u 0 21 0).1 0 33 + 1)).1 c = u.1 c := fun c hc => by rw [p_Ia hc, p_Ia hc]
    have tA_s : ∀ k, k ≠ 21 → k ≠ 33 → (u_pI (u_pI u 0 21 0) 0 33 ((u_pI u 0 21 0).1 0 33 + 1)).1 0 k = u.1 0 k := fun k g1 g2 => by rw [p_Is g2, p_Is g1]
    have tA_21 : (u_pI (u_pI u 0 21 0) 0 33 ((u_pI u 0 21 0).1 0 33 + 1)).1 0 21 = 0 := by rw [p_Is (by omega), p_II]
    have tA_33 : (u_pI (u_pI u 0 21 0) 0 33 ((u_pI u 0 21 0).1 0 33 + 1)).1 0 33 = mI (C + 1) := by rw [p_II, t33, mI_succ]
    have tA_r : (u_pI (u_pI u 0 21 0) 0 33 ((u_pI u 0 21 0).1 0 33 + 1)).2 = t'.2 := ur
    generalize u_pI (u_pI u 0 21 0) 0 33 ((u_pI u 0 21 0).1 0 33 + 1) = tA at tA_c tA_s tA_21 tA_33 tA_r
    have sA_a : ∀ a, a ≠ 5 → (u_pI (u_pI s 5 2 0) 5 3 0).1 a = s.1 a := fun a ha => by rw [p_Ia ha, p_Ia ha]
    have sA_5 : (u_pI (u_pI s 5 2 0) 5 3 0).1 5 2 = 0 ∧ (u_pI (u_pI s 5 2 0) 5 3 0).1 5 3 = 0 := ⟨by rw [p_Is (by omega), p_II], p_II _ _ _ _⟩
    have sA_2 : (u_pI (u_pI s 5 2 0) 5 3 0).2 = σc.2 := j2.trans r3.2.2
    generalize u_pI (u_pI s 5 2 0) 5 3 0 = sA at sA_a sA_5 sA_2
    have sc : ∀ a, a ≠ 1 → a ≠ 5 → ¬ PS a → a ≠ 32 → a ≠ 34 → a ≠ 36 → a ≠ 37 → sA.1 a = σc.1 a := fun a g1 g5 gp g2 g3 g4 g6 => by rw [sA_a a g5, ja a g2 g3 g4 g6]; exact r3.1 a g1 gp
    have eV : ∀ q, q < 37 → tA.1 1 q = joV (s1.1 1) (t'.1 5) M n q := fun q hq => by rw [tA_c 1 (by omega), u1 q hq, m1 1 (by omega)]
    have eE : ∀ q, tA.1 2 q = if M ≤ q ∧ q < M + n then t'.1 5 (3 * (q - M) + 1) else s1.1 2 q := fun q => by rw [tA_c 2 (by omega), ue q, m1 2 (by omega)]
    have s34 : s'.1 34 = σc.1 34 := r3.1 34 (by omega) (by unfold PS; omega)
    have s36 : s'.1 36 = σc.1 36 := r3.1 36 (by omega) (by unfold PS; omega)
    have s37 : s'.1 37 = σc.1 37 := r3.1 37 (by omega) (by unfold PS; omega)
    refine ⟨trivial, M + n, F, ρ, ⟨⟨hn, b2, b3, by rw [tA_s 1 (by omega) (by omega), us 1 (by omega), m2 1 (by omega)]; exact b4, by rw [tA_s 2 (by omega) (by omega)]; exact u2, ?_, ?_⟩, ⟨0, by omega, ?_, ?_, fun k hk => absurd hk (by omega)⟩, a3.to ?_ ?_ ?_ ?_, ⟨0, st, by omega, sA_5.1, tA_21, fun u' hu => by rw [sA_2]; exact p4 u' hu, p5, fun u' hu => absurd hu (by omega)⟩, ⟨C + 1, by omega, tA_33, fun i hi => ?_⟩, ?_⟩, ?_⟩
    · refine cS_congr (v := joV (s1.1 1) (t'.1 5) M n) (e := tA.1 2) hn b3 (fun k hk => (eV k hk).symm) (fun _ _ => rfl) ⟨fun p hp => ?_, fun p hp => ?_, fun p hp => ?_, fun f hf => ?_, ?_, ?_, ?_, ?_, ?_, ?_, ?_⟩
      · show sA.1 34 p = _
        rw [sA_a 34 (by omega), j34 p]
        unfold joV
        by_cases h : M ≤ p ∧ p < M + n
        · rw [if_pos h, if_pos h]; exact (hA (p - M) (by omega)).1
        · rw [if_neg h, if_neg h, if_neg (by omega), s34]; exact t1 p (by omega)
      · show sA.1 37 p = _
        rw [sA_a 37 (by omega), j37 p]
        unfold joV
        rw [if_neg (show ¬ (M ≤ 8 + p ∧ 8 + p < M + n) by omega)]
        by_cases h : M ≤ p ∧ p < M + n
        · rw [if_pos h, if_pos (by omega), show 8 + p - (8 + M) = p - M by omega]; exact (hA (p - M) (by omega)).2.2.1
        · rw [if_neg h, if_neg (by omega), s37]; exact t2 p (by omega)
      · show sA.1 36 p = _
        rw [sA_a 36 (by omega), j36 p, eE p]
        by_cases h : M ≤ p ∧ p < M + n
        · rw [if_pos h, if_pos h]; exact (hA (p - M) (by omega)).2.1
        · rw [if_neg h, if_neg h, s36]; exact t3 p (by omega)
      · show sA.1 33 f = _
        rw [sc 33 (by omega) (by omega) (by unfold PS; omega) (by omega) (by omega) (by omega) (by omega)]
        unfold joV
        rw [if_neg (by omega), if_neg (by omega)]; exact t4 f hf
      · rw [sA_a 32 (by omega), jl 5 (by omega), s32]; exact t5
      · rw [sA_a 32 (by omega), jl 6 (by omega), s32]; unfold joV; rw [if_neg (by omega), if_neg (by omega)]; exact t6
      · rw [sA_a 32 (by omega), jl 7 (by omega), s32]; unfold joV; rw [if_neg (by omega), if_neg (by omega)]; exact t7
      · rw [sA_a 32 (by omega)]; exact j8
      · rw [sA_a 32 (by omega), jl 9 (by omega), s32]; unfold joV; rw [if_neg (by omega), if_neg (by omega)]; exact t9
      · rw [sA_a 32 (by omega), jl 10 (by omega), s32]; unfold joV; rw [if_neg (by omega), if_neg (by omega)]; exact t10
      · rw [sA_a 32 (by omega), jl 11 (by omega), s32]; unfold joV; rw [if_neg (by omega), if_neg (by omega)]; exact t11
    · refine vok_congr (v := joV (s1.1 1) (t'.1 5) M n) hn b3 (fun k hk => (eV k hk).symm) ?_
      obtain ⟨y1, y2, ⟨L, R, y3, y4, y5, y6⟩, y7, d, y8, y9⟩ := b7
      refine ⟨fun p hp => ?_, fun f hf => ?_, ⟨L, R, y3, y4, ?_, ?_⟩, ?_, d, by omega, ?_⟩
      · unfold joV
        by_cases h : M ≤ p ∧ p < M + n
        · rw [if_pos h]
          obtain ⟨q1, -, -, q4⟩ := hA (p - M) (by omega)
          rw [← q1]; exact q4
        · rw [if_neg h, if_neg (by omega)]; exact y1 p (by omega)
      · unfold joV; rw [if_neg (by omega), if_neg (by omega)]; exact y2 f hf
      · unfold joV; rw [if_neg (by omega), if_neg (by omega)]; exact y5
      · unfold joV; rw [if_neg (by omega), if_neg (by omega)]; exact y6
      · unfold joV; rw [if_neg (by omega), if_neg (by omega)]; exact y7
      · unfold joV; rw [if_neg (by omega), if_neg (by omega)]; exact y9
    · rw [sA_a 1 (by omega), ja 1 (by omega) (by omega) (by omega) (by omega)]; exact r3.2.1
    · rw [tA_s 5 (by omega) (by omega), us 5 (by omega)]; exact m4
    · exact sc 8 (by omega) (by omega) (by unfold PS; omega) (by omega) (by omega) (by omega) (by omega)
    · rw [tA_c 16 (by omega), uc 16 (by omega) (by omega) (by omega)]; exact m1 16 (by omega)
    · rw [tA_s 29 (by omega) (by omega), us 29 (by omega)]; exact m2 29 (by omega)
    · rw [tA_s 30 (by omega) (by omega), us 30 (by omega)]; exact m2 30 (by omega)
    · obtain ⟨x1, ⟨kc, x2, x3⟩, x4, x5⟩ := k3 i hi
      have e20 : tA.1 20 i = mI kc := by rw [tA_c 20 (by omega), uc 20 (by omega) (by omega) (by omega), m1 20 (by omega)]; exact x3
      refine ⟨by rw [sA_2]; exact x1, ⟨kc, by omega, e20⟩, ?_, fun ht => ?_⟩
      · rw [sA_5.2, tb_0, e20, mI_eq (by omega) (by omega)]
        exact ⟨fun h => Bool.noConfusion h, fun h => absurd h.2 (by omega)⟩
      · rw [sA_5.2, tb_0] at ht; exact Bool.noConfusion ht
    · exact a6.to (fun r hr => by
        have h1 := hrr r hr
        have h2 := hSr r hr
        exact ⟨sc r (by omega) (by omega) h2.1 (by omega) (by omega) (by omega) (by omega), sc (r + 1) (by omega) (by omega) h2.2 (by omega) (by omega) (by omega) (by omega)⟩) (by rw [sA_2]) (fun q hq => by have := a6.q q hq; rw [tA_c q (by omega), uc q (by omega) (by omega) (by omega)]; exact m3 q this) (by rw [tA_r]; exact m6 15 (by omega)) (by rw [tA_r]; exact m6 16 (by omega)) (by rw [tA_s 17 (by omega) (by omega), us 17 (by omega)]; exact m2 17 (by omega))
    · exact hTo.to (by rw [sc 3 (by omega) (by omega) (by unfold PS; omega) (by omega) (by omega) (by omega) (by omega)]) (by rw [sA_2]) (by rw [tA_r, m5]) (by rw [tA_s 7 (by omega) (by omega), us 7 (by omega)]; exact m2 7 (by omega))
  · rw [if_neg (mI_n0 (by omega)), ok_some]
    rcases hee with h13 | ⟨hrd, heT⟩
    · rw [m_right0 (by rw [h13]; exact m1ne (by omega)), o_bind, if_pos rfl, ok_some, h13]
      exact ⟨rfl, rel_text0 hC hTo hS9 hSr r3 (mX_of r4)⟩
    · rw [m_right1 hrd (by omega) (by omega), if_neg (by omega), o_bind, if_pos rfl, ok_some, p_II]
      exact ⟨rfl, rel_text0 hC hTo hS9 hSr r3 (mX_of (r4.p0 (Or.inr rfl)))⟩
